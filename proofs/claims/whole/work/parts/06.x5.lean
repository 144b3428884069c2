set_option maxRecDepth 100000 in
set_option maxHeartbeats 4000000 in
theorem x_fM_layOrder {l : Launch} {S : State} {D : va_G} {cA : Nat → ClassId} {tb sx : Nat → Nat} (hG : zv_G S D cA tb sx) (d : Nat) (hd : 2 ≤ d) (p1 : Int32) (p2 : Int32) (m : zv_M) (P : Int32 → zv_M → Prop) (h : zw2 (fM_layOrder p1 p2 m) P) : zv_Met l S D cA d 0 0 yX11_layOrder cX11_layOrder 9 (some .boolean) [.ref (S.heap.size + 68), .int p1, .int p2] SH0 m (zq_i SH0 P) := by
  refine zv_met false hG pf_X11_layOrder (fun z => by cases z) (Nat.le_of_ble_eq_true rfl) [(0, .ref (S.heap.size + 68)), (1, .int p1), (2, .int p2)] rfl (fun p e s mi args below meth c X => ?_)
  rw [fM_layOrder] at h
  refine zr_iconst (v := 1) X dX11_layOrder_0 (by decide) ?_
  refine zr_istore_n (lo' := [(3, .int 1), (0, .ref (S.heap.size + 68)), (1, .int p1), (2, .int p2)]) X dX11_layOrder_1 (by decide) rfl ?_
  refine zr_iconst (v := 2) X dX11_layOrder_2 (by decide) ?_
  refine zr_istore (lo' := [(4, .int 2), (3, .int 1), (0, .ref (S.heap.size + 68)), (1, .int p1), (2, .int p2)]) X dX11_layOrder_3 (by decide) rfl ?_
  refine zr_sub [2, 3, 4, 1, 0] rfl ?_
  have hR1 : ∀ (a4 : Int32), zw2 (if p2 < a4 then zb1 (whileN zFU (fM_layOrder_l42 p1) (a4, (1 <<< (p1 &&& 31)) - 1, p2, 0, m)) (fun r => some r) else some (0, m) : Option (Int32 × zv_M)) P → zv_V S D cA p l e (zv_rm d 0 0) s mi args below meth c 9 (MQ below (zv_Q S D cA (zq_i SH0 P)) args s 0 0 (zv_fr S)) 0 0 22 [(0, .ref (S.heap.size + 68)), (1, .int p1), (2, .int p2), (3, .int a4)] [] SH0 m := by
    intro a4 h
    refine zr_iload_n X dX11_layOrder_22 2 rfl ?_
    refine zr_iload_n X dX11_layOrder_23 3 rfl ?_
    refine zr_icmp_lt (tgt := 29) X dX11_layOrder_24 (by decide) (fun q => ?_) (fun q => ?_)
    · rw [if_pos q] at h
      refine zr_iconst (v := 1) X dX11_layOrder_29 (by decide) ?_
      refine zr_iload_n X dX11_layOrder_30 1 rfl ?_
      refine zr_ishl X dX11_layOrder_31 ?_
      refine zr_iconst (v := 1) X dX11_layOrder_32 (by decide) ?_
      refine zr_isub X dX11_layOrder_33 ?_
      refine zr_istore (lo' := [(4, .int ((1 <<< (p1 &&& 31)) - 1)), (0, .ref (S.heap.size + 68)), (1, .int p1), (2, .int p2), (3, .int a4)]) X dX11_layOrder_34 (by decide) rfl ?_
      refine zr_iload_n X dX11_layOrder_36 3 rfl ?_
      refine zr_istore (lo' := [(5, .int p2), (4, .int ((1 <<< (p1 &&& 31)) - 1)), (0, .ref (S.heap.size + 68)), (1, .int p1), (2, .int p2), (3, .int a4)]) X dX11_layOrder_37 (by decide) rfl ?_
      refine zr_iconst (v := 0) X dX11_layOrder_39 (by decide) ?_
      refine zr_istore (lo' := [(6, .int 0), (5, .int p2), (4, .int ((1 <<< (p1 &&& 31)) - 1)), (0, .ref (S.heap.size + 68)), (1, .int p1), (2, .int p2), (3, .int a4)]) X dX11_layOrder_40 (by decide) rfl ?_
      refine zr_sub [3, 4, 6, 2, 1, 0] rfl ?_
      refine zl_w5 (fun a6 a7 a8 a9 m10 => zv_V S D cA p l e (zv_rm d 0 0) s mi args below meth c 9 (MQ below (zv_Q S D cA (zq_i SH0 P)) args s 0 0 (zv_fr S)) 0 0 42 [(0, .ref (S.heap.size + 68)), (1, .int p1), (3, .int a6), (4, .int a7), (5, .int a8), (6, .int a9)] [] SH0 m10) (fM_layOrder_l42 p1) _ (fun P5 hl5 hr5 a6 a7 a8 a9 m10 h => ?_) zFU a4 ((1 <<< (p1 &&& 31)) - 1) p2 0 m (zw_b12 h)
      rw [fM_layOrder_l42] at h
      refine zr_iload X dX11_layOrder_42 5 rfl ?_
      refine zr_iload_n X dX11_layOrder_44 1 rfl ?_
      refine zr_icmp_ge (tgt := 139) X dX11_layOrder_45 (by decide) (fun q => ?_) (fun q => ?_)
      · rw [if_neg q] at h
        refine zr_iconst (v := 1) X dX11_layOrder_139 (by decide) ?_
        have h := hr5 _ h
        exact zr_iret X dX11_layOrder_140 rfl ⟨Nat.le_refl _, Nat.le_refl _⟩ ⟨rfl, _, rfl, h⟩
      · rw [if_pos q] at h
        refine zr_iload_n X dX11_layOrder_48 2 rfl ?_
        refine zr_iload_n X dX11_layOrder_49 1 rfl ?_
        refine zr_iload X dX11_layOrder_50 5 rfl ?_
        refine zr_isub X dX11_layOrder_52 ?_
        obtain ⟨g0, h⟩ := zg_e h
        refine zr_idiv X dX11_layOrder_53 (zN_ne g0) ?_
        refine zr_istore_n (lo' := [(3, .int (a6 / (p1 - a9))), (0, .ref (S.heap.size + 68)), (1, .int p1), (4, .int a7), (5, .int a8), (6, .int a9)]) X dX11_layOrder_54 (by decide) rfl ?_
        refine zr_iload X dX11_layOrder_55 4 rfl ?_
        refine zr_iload_n X dX11_layOrder_57 0 rfl ?_
        obtain ⟨g0, h⟩ := zg_e h
        refine zr_idiv X dX11_layOrder_58 (zN_ne g0) ?_
        refine zr_istore (lo' := [(7, .int (a8 / (a6 / (p1 - a9)))), (3, .int (a6 / (p1 - a9))), (0, .ref (S.heap.size + 68)), (1, .int p1), (4, .int a7), (5, .int a8), (6, .int a9)]) X dX11_layOrder_59 (by decide) rfl ?_
        refine zr_iload X dX11_layOrder_61 5 rfl ?_
        refine zr_iload_n X dX11_layOrder_63 1 rfl ?_
        obtain ⟨g0, h⟩ := zg_e h
        refine zr_irem X dX11_layOrder_64 (zN_ne g0) ?_
        refine zr_istore (lo' := [(5, .int (a8 - a8 / (a6 / (p1 - a9)) * (a6 / (p1 - a9)))), (7, .int (a8 / (a6 / (p1 - a9)))), (3, .int (a6 / (p1 - a9))), (0, .ref (S.heap.size + 68)), (1, .int p1), (4, .int a7), (6, .int a9)]) X dX11_layOrder_65 (by decide) rfl ?_
        refine zr_iconst (v := 0) X dX11_layOrder_67 (by decide) ?_
        refine zr_istore (lo' := [(8, .int 0), (5, .int (a8 - a8 / (a6 / (p1 - a9)) * (a6 / (p1 - a9)))), (7, .int (a8 / (a6 / (p1 - a9)))), (3, .int (a6 / (p1 - a9))), (0, .ref (S.heap.size + 68)), (1, .int p1), (4, .int a7), (6, .int a9)]) X dX11_layOrder_68 (by decide) rfl ?_
        refine zr_sub [4, 5, 3, 6, 1, 7, 2, 0] rfl ?_
        have hR11 : ∀ (a14 : Int32), zw (zg (zI a9 5) (some (.inl (a6 / (p1 - a9), a7 &&& ((1 <<< (a14 &&& 31)) ^^^ (-1)), a8 - a8 / (a6 / (p1 - a9)) * (a6 / (p1 - a9)), a9 + 1, wI m10 98 a9.toNatClampNeg a14))) : Option ((Int32 × Int32 × Int32 × Int32 × zv_M) ⊕ (Int32 × zv_M))) P5 → zv_V S D cA p l e (zv_rm d 0 0) s mi args below meth c 9 (MQ below (zv_Q S D cA (zq_i SH0 P)) args s 0 0 (zv_fr S)) 0 0 113 [(0, .ref (S.heap.size + 68)), (1, .int p1), (3, .int (a6 / (p1 - a9))), (4, .int a7), (5, .int (a8 - a8 / (a6 / (p1 - a9)) * (a6 / (p1 - a9)))), (6, .int a9), (8, .int a14)] [] SH0 m10 := by
          intro a14 h
          refine zr_aload_n X dX11_layOrder_113 0 rfl ?_
          refine zr_getR X dX11_layOrder_114 zd_X11_151 rfl zo_68 zl_68_46 ?_
          refine zr_iload X dX11_layOrder_117 5 rfl ?_
          refine zr_iload X dX11_layOrder_119 6 rfl ?_
          obtain ⟨g0, h⟩ := zg_e h
          refine zr_iast X dX11_layOrder_121 za_98 (zI_in g0) ?_
          refine zr_iload X dX11_layOrder_122 3 rfl ?_
          refine zr_iconst (v := 1) X dX11_layOrder_124 (by decide) ?_
          refine zr_iload X dX11_layOrder_125 6 rfl ?_
          refine zr_ishl X dX11_layOrder_127 ?_
          refine zr_iconst (v := (-1)) X dX11_layOrder_128 (by decide) ?_
          refine zr_ixor X dX11_layOrder_129 ?_
          refine zr_iand X dX11_layOrder_130 ?_
          refine zr_istore (lo' := [(4, .int (a7 &&& ((1 <<< (a14 &&& 31)) ^^^ (-1)))), (0, .ref (S.heap.size + 68)), (1, .int p1), (3, .int (a6 / (p1 - a9))), (5, .int (a8 - a8 / (a6 / (p1 - a9)) * (a6 / (p1 - a9)))), (6, .int a9), (8, .int a14)]) X dX11_layOrder_131 (by decide) rfl ?_
          refine zr_iinc (v := a9 + 1) (lo' := [(6, .int (a9 + 1)), (4, .int (a7 &&& ((1 <<< (a14 &&& 31)) ^^^ (-1)))), (0, .ref (S.heap.size + 68)), (1, .int p1), (3, .int (a6 / (p1 - a9))), (5, .int (a8 - a8 / (a6 / (p1 - a9)) * (a6 / (p1 - a9)))), (8, .int a14)]) X dX11_layOrder_133 5 rfl rfl (by decide) rfl ?_
          refine zr_goto (tgt := 42) X dX11_layOrder_136 (by decide) ?_
          have h := hl5 _ h
          exact zr_sub [2, 3, 4, 1, 5, 0] rfl h
        refine zl_w2 (fun a12 a13 => zv_V S D cA p l e (zv_rm d 0 0) s mi args below meth c 9 (MQ below (zv_Q S D cA (zq_i SH0 P)) args s 0 0 (zv_fr S)) 0 0 70 [(0, .ref (S.heap.size + 68)), (1, .int p1), (3, .int (a6 / (p1 - a9))), (4, .int a7), (5, .int (a8 - a8 / (a6 / (p1 - a9)) * (a6 / (p1 - a9)))), (6, .int a9), (7, .int a12), (8, .int a13)] [] SH0 m10) (fM_layOrder_l70 a7) _ (fun P11 hl11 hr11 a12 a13 h => ?_) zFU (a8 / (a6 / (p1 - a9))) 0 (zw_b1 h)
        rw [fM_layOrder_l70] at h
        refine zr_aload_n X dX11_layOrder_70 0 rfl ?_
        refine zr_iload X dX11_layOrder_71 3 rfl ?_
        refine zr_iload X dX11_layOrder_73 7 rfl ?_
        refine zr_callV_i (As := [.int a7, .int a13]) (st := []) (d := d - 1) X dX11_layOrder_75 wm_X11_323 my_X11_has mv_X11_has zo_68 rfl (Nat.le_of_ble_eq_true rfl) (zRm (by omega)) ⟨Nat.le_refl _, Nat.le_refl _⟩ (x_fM_has hG (d - 1) (by omega) a7 a13 m10 _ (zw_b1 h)) (fun r15 m16 q => ?_)
        obtain ⟨rfl, h⟩ := q
        have hJ86 : zw (fM_layOrder_j86 a7 a12 a13) P11 → zv_V S D cA p l e (zv_rm d 0 0) s mi args below meth c 9 (MQ below (zv_Q S D cA (zq_i SH0 P)) args s 0 0 (zv_fr S)) 0 0 86 [(0, .ref (S.heap.size + 68)), (1, .int p1), (3, .int (a6 / (p1 - a9))), (4, .int a7), (5, .int (a8 - a8 / (a6 / (p1 - a9)) * (a6 / (p1 - a9)))), (6, .int a9), (7, .int a12), (8, .int a13)] [] SH0 m10 := by
          intro h
          rw [fM_layOrder_j86] at h
          refine zr_iload X dX11_layOrder_86 6 rfl ?_
          refine zr_aload_n X dX11_layOrder_88 0 rfl ?_
          refine zr_iload X dX11_layOrder_89 3 rfl ?_
          refine zr_iload X dX11_layOrder_91 7 rfl ?_
          refine zr_callV_i (As := [.int a7, .int a13]) (st := [.int a12]) (d := d - 1) X dX11_layOrder_93 wm_X11_323 my_X11_has mv_X11_has zo_68 rfl (Nat.le_of_ble_eq_true rfl) (zRm (by omega)) ⟨Nat.le_refl _, Nat.le_refl _⟩ (x_fM_has hG (d - 1) (by omega) a7 a13 m10 _ (zw_b1 h)) (fun r17 m18 q => ?_)
          obtain ⟨rfl, h⟩ := q
          have hJ104 : ∀ (v19 : Int32), zw (fM_layOrder_j104 a12 a13 v19) P11 → zv_V S D cA p l e (zv_rm d 0 0) s mi args below meth c 9 (MQ below (zv_Q S D cA (zq_i SH0 P)) args s 0 0 (zv_fr S)) 0 0 104 [(0, .ref (S.heap.size + 68)), (1, .int p1), (3, .int (a6 / (p1 - a9))), (4, .int a7), (5, .int (a8 - a8 / (a6 / (p1 - a9)) * (a6 / (p1 - a9)))), (6, .int a9), (8, .int a13)] [.int v19, .int a12] SH0 m10 := by
            intro v19 h
            rw [fM_layOrder_j104] at h
            refine zr_isub X dX11_layOrder_104 ?_
            refine zr_istore (lo' := [(7, .int (a12 - v19)), (0, .ref (S.heap.size + 68)), (1, .int p1), (3, .int (a6 / (p1 - a9))), (4, .int a7), (5, .int (a8 - a8 / (a6 / (p1 - a9)) * (a6 / (p1 - a9)))), (6, .int a9), (8, .int a13)]) X dX11_layOrder_105 (by decide) rfl ?_
            refine zr_iinc (v := a13 + 1) (lo' := [(8, .int (a13 + 1)), (7, .int (a12 - v19)), (0, .ref (S.heap.size + 68)), (1, .int p1), (3, .int (a6 / (p1 - a9))), (4, .int a7), (5, .int (a8 - a8 / (a6 / (p1 - a9)) * (a6 / (p1 - a9)))), (6, .int a9)]) X dX11_layOrder_107 7 rfl rfl (by decide) rfl ?_
            refine zr_goto (tgt := 70) X dX11_layOrder_110 (by decide) ?_
            have h := hl11 _ h
            exact zr_sub [2, 3, 4, 5, 6, 7, 1, 0] rfl h
          refine zr_if_eq (tgt := 103) X dX11_layOrder_96 (by decide) (fun q => ?_) (fun q => ?_)
          · rw [if_pos q] at h
            refine zr_iconst (v := 0) X dX11_layOrder_103 (by decide) ?_
            exact zr_sub [0, 1, 2, 3, 4, 5, 7] rfl (hJ104 0 h)
          · rw [if_neg q] at h
            refine zr_iconst (v := 1) X dX11_layOrder_99 (by decide) ?_
            refine zr_goto (tgt := 104) X dX11_layOrder_100 (by decide) ?_
            exact zr_sub [0, 1, 2, 3, 4, 5, 7] rfl (hJ104 1 h)
        refine zr_if_eq (tgt := 86) X dX11_layOrder_78 (by decide) (fun q => ?_) (fun q => ?_)
        · rw [if_pos q] at h
          exact zr_sub [0, 1, 2, 3, 4, 5, 6, 7] rfl (hJ86 h)
        · rw [if_neg q] at h
          refine zr_iload X dX11_layOrder_81 6 rfl ?_
          refine zr_if_le (tgt := 113) X dX11_layOrder_83 (by decide) (fun q => ?_) (fun q => ?_)
          · rw [if_neg q] at h
            have h := hr11 _ h
            exact zr_sub [0, 1, 2, 3, 4, 5, 7] rfl (hR11 a13 h)
          · rw [if_pos q] at h
            exact zr_sub [0, 1, 2, 3, 4, 5, 6, 7] rfl (hJ86 h)
    · rw [if_neg q] at h
      refine zr_iconst (v := 0) X dX11_layOrder_27 (by decide) ?_
      exact zr_iret X dX11_layOrder_28 rfl ⟨Nat.le_refl _, Nat.le_refl _⟩ ⟨rfl, _, rfl, h⟩
  refine zl_w2 (fun a2 a3 => zv_V S D cA p l e (zv_rm d 0 0) s mi args below meth c 9 (MQ below (zv_Q S D cA (zq_i SH0 P)) args s 0 0 (zv_fr S)) 0 0 5 [(0, .ref (S.heap.size + 68)), (1, .int p1), (2, .int p2), (3, .int a2), (4, .int a3)] [] SH0 m) (fM_layOrder_l5 p1) _ (fun P1 hl1 hr1 a2 a3 h => ?_) zFU 1 2 (zw_b12 h)
  rw [fM_layOrder_l5] at h
  refine zr_iload X dX11_layOrder_5 4 rfl ?_
  refine zr_iload_n X dX11_layOrder_7 1 rfl ?_
  refine zr_icmp_gt (tgt := 22) X dX11_layOrder_8 (by decide) (fun q => ?_) (fun q => ?_)
  · rw [if_pos q] at h
    have h := hr1 _ h
    exact zr_sub [0, 1, 2, 3] rfl (hR1 a2 h)
  · rw [if_neg q] at h
    refine zr_iload_n X dX11_layOrder_11 3 rfl ?_
    refine zr_iload X dX11_layOrder_12 4 rfl ?_
    refine zr_imul X dX11_layOrder_14 ?_
    refine zr_istore_n (lo' := [(3, .int (a2 * a3)), (0, .ref (S.heap.size + 68)), (1, .int p1), (2, .int p2), (4, .int a3)]) X dX11_layOrder_15 (by decide) rfl ?_
    refine zr_iinc (v := a3 + 1) (lo' := [(4, .int (a3 + 1)), (3, .int (a2 * a3)), (0, .ref (S.heap.size + 68)), (1, .int p1), (2, .int p2)]) X dX11_layOrder_16 4 rfl rfl (by decide) rfl ?_
    refine zr_goto (tgt := 5) X dX11_layOrder_19 (by decide) ?_
    have h := hl1 _ h
    exact zr_sub [2, 3, 4, 1, 0] rfl h

set_option maxRecDepth 100000 in
set_option maxHeartbeats 4000000 in
theorem x_fM_reach {l : Launch} {S : State} {D : va_G} {cA : Nat → ClassId} {tb sx : Nat → Nat} (hG : zv_G S D cA tb sx) (d : Nat) (hd : 3 ≤ d) (m : zv_M) (P : Int32 → zv_M → Prop) (h : zw2 (fM_reach m) P) : zv_Met l S D cA d 0 0 yX11_reach cX11_reach 7 (some .int) [.ref (S.heap.size + 68)] SH0 m (zq_i SH0 P) := by
  refine zv_met false hG pf_X11_reach (fun z => by cases z) (Nat.le_of_ble_eq_true rfl) [(0, .ref (S.heap.size + 68))] rfl (fun p e s mi args below meth c X => ?_)
  rw [fM_reach] at h
  refine zr_aload_n X dX11_reach_0 0 rfl ?_
  refine zr_aload_n X dX11_reach_1 0 rfl ?_
  refine zr_callV_i (As := []) (st := [.ref (S.heap.size + 68)]) (d := d - 1) X dX11_reach_2 wm_X11_238 my_X11_men mv_X11_men zo_68 rfl (Nat.le_of_ble_eq_true rfl) (zRm (by omega)) ⟨Nat.le_refl _, Nat.le_refl _⟩ (x_fM_men hG (d - 1) (by omega) m _ (zw_b12 h)) (fun r1 m2 q => ?_)
  obtain ⟨rfl, h⟩ := q
  refine zr_callV_i (As := [.int r1]) (st := []) (d := d - 1) X dX11_reach_5 wm_X11_242 my_X11_ones mv_X11_ones zo_68 rfl (Nat.le_of_ble_eq_true rfl) (zRm (by omega)) ⟨Nat.le_refl _, Nat.le_refl _⟩ (x_fM_ones hG (d - 1) (by omega) r1 m _ (zw_b12 h)) (fun r3 m4 q => ?_)
  obtain ⟨rfl, h⟩ := q
  refine zr_istore_n (lo' := [(1, .int r3), (0, .ref (S.heap.size + 68))]) X dX11_reach_8 (by decide) rfl ?_
  refine zr_iload_n X dX11_reach_9 0 rfl ?_
  refine zr_iconst (v := 5) X dX11_reach_10 (by decide) ?_
  refine zr_icmp_le (tgt := 17) X dX11_reach_11 (by decide) (fun q => ?_) (fun q => ?_)
  · rw [if_neg q] at h
    refine zr_iload_n X dX11_reach_17 0 rfl ?_
    refine zr_aload_n X dX11_reach_18 1 rfl ?_
    refine zr_getI X dX11_reach_19 zd_X11_139 rfl zo_68 (by rw [zk_11 zo_68]; decide) ?_
    refine zr_icmp_eq (tgt := 28) X dX11_reach_22 (by decide) (fun q => ?_) (fun q => ?_)
    · rw [if_pos q] at h
      refine zr_iconst (v := 0) X dX11_reach_28 (by decide) ?_
      refine zr_istore_n (lo' := [(2, .int 0), (1, .int r3), (0, .ref (S.heap.size + 68))]) X dX11_reach_29 (by decide) rfl ?_
      refine zr_iconst (v := 0) X dX11_reach_30 (by decide) ?_
      refine zr_istore_n (lo' := [(3, .int 0), (2, .int 0), (1, .int r3), (0, .ref (S.heap.size + 68))]) X dX11_reach_31 (by decide) rfl ?_
      refine zr_sub [3, 2, 1, 0] rfl ?_
      have hR5 : ∀ (m9 : zv_M), zw2 (zb1 (whileN zFU (fM_reach_l115 r3) (99, 0, m9)) (fun x => match x with | (a14, m15) => if a14 = 99 then some ((-5), m15) else some (a14, m15)) : Option (Int32 × zv_M)) P → zv_V S D cA p l e (zv_rm d 0 0) s mi args below meth c 7 (MQ below (zv_Q S D cA (zq_i SH0 P)) args s 0 0 (zv_fr S)) 0 0 109 [(0, .ref (S.heap.size + 68)), (1, .int r3)] [] SH0 m9 := by
        intro m9 h
        refine zr_bipush (v := 99) X dX11_reach_109 (by decide) ?_
        refine zr_istore_n (lo' := [(3, .int 99), (0, .ref (S.heap.size + 68)), (1, .int r3)]) X dX11_reach_111 (by decide) rfl ?_
        refine zr_iconst (v := 0) X dX11_reach_112 (by decide) ?_
        refine zr_istore (lo' := [(4, .int 0), (3, .int 99), (0, .ref (S.heap.size + 68)), (1, .int r3)]) X dX11_reach_113 (by decide) rfl ?_
        refine zr_sub [2, 3, 1, 0] rfl ?_
        have hR10 : ∀ (a14 : Int32) (m15 : zv_M), zw2 (if a14 = 99 then some ((-5), m15) else some (a14, m15) : Option (Int32 × zv_M)) P → zv_V S D cA p l e (zv_rm d 0 0) s mi args below meth c 7 (MQ below (zv_Q S D cA (zq_i SH0 P)) args s 0 0 (zv_fr S)) 0 0 184 [(3, .int a14)] [] SH0 m15 := by
          intro a14 m15 h
          refine zr_iload_n X dX11_reach_184 0 rfl ?_
          refine zr_bipush (v := 99) X dX11_reach_185 (by decide) ?_
          refine zr_icmp_ne (tgt := 195) X dX11_reach_187 (by decide) (fun q => ?_) (fun q => ?_)
          · rw [if_neg q] at h
            refine zr_iload_n X dX11_reach_195 0 rfl ?_
            exact zr_iret X dX11_reach_196 rfl ⟨Nat.le_refl _, Nat.le_refl _⟩ ⟨rfl, _, rfl, h⟩
          · rw [if_pos q] at h
            refine zr_bipush (v := (-5)) X dX11_reach_190 (by decide) ?_
            refine zr_goto (tgt := 196) X dX11_reach_192 (by decide) ?_
            exact zr_iret X dX11_reach_196 rfl ⟨Nat.le_refl _, Nat.le_refl _⟩ ⟨rfl, _, rfl, h⟩
        refine zl_w3 (fun a11 a12 m13 => zv_V S D cA p l e (zv_rm d 0 0) s mi args below meth c 7 (MQ below (zv_Q S D cA (zq_i SH0 P)) args s 0 0 (zv_fr S)) 0 0 115 [(0, .ref (S.heap.size + 68)), (1, .int r3), (3, .int a11), (4, .int a12)] [] SH0 m13) (fM_reach_l115 r3) _ (fun P10 hl10 hr10 a11 a12 m13 h => ?_) zFU 99 0 m9 (zw_b12 h)
        rw [fM_reach_l115] at h
        refine zr_aload_n X dX11_reach_115 0 rfl ?_
        refine zr_iload_n X dX11_reach_116 1 rfl ?_
        refine zr_iload X dX11_reach_117 3 rfl ?_
        refine zr_callV_i (As := [.int r3, .int a12]) (st := []) (d := d - 1) X dX11_reach_119 wm_X11_408 my_X11_layOrder mv_X11_layOrder zo_68 rfl (Nat.le_of_ble_eq_true rfl) (zRm (by omega)) ⟨Nat.le_refl _, Nat.le_refl _⟩ (x_fM_layOrder hG (d - 1) (by omega) r3 a12 m13 _ (zw_b2 h)) (fun r16 m17 q => ?_)
        replace h := q
        refine zr_if_eq (tgt := 184) X dX11_reach_122 (by decide) (fun q => ?_) (fun q => ?_)
        · rw [if_pos q] at h
          have h := hr10 _ h
          exact zr_sub [2] rfl (hR10 a11 m17 h)
        · rw [if_neg q] at h
          refine zr_iconst (v := 0) X dX11_reach_125 (by decide) ?_
          refine zr_istore (lo' := [(5, .int 0), (0, .ref (S.heap.size + 68)), (1, .int r3), (3, .int a11), (4, .int a12)]) X dX11_reach_126 (by decide) rfl ?_
          refine zr_iconst (v := 0) X dX11_reach_128 (by decide) ?_
          refine zr_istore (lo' := [(6, .int 0), (5, .int 0), (0, .ref (S.heap.size + 68)), (1, .int r3), (3, .int a11), (4, .int a12)]) X dX11_reach_129 (by decide) rfl ?_
          refine zr_sub [2, 3, 4, 5, 1, 0] rfl ?_
          have hR18 : ∀ (a21 : Int32), zw (if a21 < a11 then fM_reach_j177 a12 m17 a21 else fM_reach_j177 a12 m17 a11 : Option ((Int32 × Int32 × zv_M) ⊕ (Int32 × zv_M))) P10 → zv_V S D cA p l e (zv_rm d 0 0) s mi args below meth c 7 (MQ below (zv_Q S D cA (zq_i SH0 P)) args s 0 0 (zv_fr S)) 0 0 165 [(0, .ref (S.heap.size + 68)), (1, .int r3), (3, .int a11), (4, .int a12), (5, .int a21)] [] SH0 m17 := by
            intro a21 h
            refine zr_iload X dX11_reach_165 4 rfl ?_
            refine zr_iload_n X dX11_reach_167 2 rfl ?_
            have hJ177 : ∀ (v22 : Int32), zw (fM_reach_j177 a12 m17 v22) P10 → zv_V S D cA p l e (zv_rm d 0 0) s mi args below meth c 7 (MQ below (zv_Q S D cA (zq_i SH0 P)) args s 0 0 (zv_fr S)) 0 0 177 [(0, .ref (S.heap.size + 68)), (1, .int r3), (4, .int a12)] [.int v22] SH0 m17 := by
              intro v22 h
              rw [fM_reach_j177] at h
              refine zr_istore_n (lo' := [(3, .int v22), (0, .ref (S.heap.size + 68)), (1, .int r3), (4, .int a12)]) X dX11_reach_177 (by decide) rfl ?_
              refine zr_iinc (v := a12 + 1) (lo' := [(4, .int (a12 + 1)), (3, .int v22), (0, .ref (S.heap.size + 68)), (1, .int r3)]) X dX11_reach_178 3 rfl rfl (by decide) rfl ?_
              refine zr_goto (tgt := 115) X dX11_reach_181 (by decide) ?_
              have h := hl10 _ h
              exact zr_sub [2, 3, 1, 0] rfl h
            refine zr_icmp_ge (tgt := 176) X dX11_reach_168 (by decide) (fun q => ?_) (fun q => ?_)
            · rw [if_neg q] at h
              refine zr_iload_n X dX11_reach_176 2 rfl ?_
              exact zr_sub [0, 1, 3] rfl (hJ177 a11 h)
            · rw [if_pos q] at h
              refine zr_iload X dX11_reach_171 4 rfl ?_
              refine zr_goto (tgt := 177) X dX11_reach_173 (by decide) ?_
              exact zr_sub [0, 1, 3] rfl (hJ177 a21 h)
          refine zl_w2 (fun a19 a20 => zv_V S D cA p l e (zv_rm d 0 0) s mi args below meth c 7 (MQ below (zv_Q S D cA (zq_i SH0 P)) args s 0 0 (zv_fr S)) 0 0 131 [(0, .ref (S.heap.size + 68)), (1, .int r3), (3, .int a11), (4, .int a12), (5, .int a19), (6, .int a20)] [] SH0 m17) (fM_reach_l131 r3 m17) _ (fun P18 hl18 hr18 a19 a20 h => ?_) zFU 0 0 (zw_b1 h)
          rw [fM_reach_l131] at h
          refine zr_iload X dX11_reach_131 5 rfl ?_
          refine zr_iload_n X dX11_reach_133 1 rfl ?_
          refine zr_icmp_ge (tgt := 165) X dX11_reach_134 (by decide) (fun q => ?_) (fun q => ?_)
          · rw [if_neg q] at h
            have h := hr18 _ h
            exact zr_sub [0, 1, 2, 3, 4] rfl (hR18 a19 h)
          · rw [if_pos q] at h
            refine zr_iload X dX11_reach_137 4 rfl ?_
            refine zr_aload_n X dX11_reach_139 0 rfl ?_
            refine zr_getR X dX11_reach_140 zd_X11_148 rfl zo_68 zl_68_45 ?_
            refine zr_iconst (v := 5) X dX11_reach_143 (by decide) ?_
            refine zr_iload X dX11_reach_144 5 rfl ?_
            refine zr_imul X dX11_reach_146 ?_
            refine zr_aload_n X dX11_reach_147 0 rfl ?_
            refine zr_getR X dX11_reach_148 zd_X11_151 rfl zo_68 zl_68_46 ?_
            refine zr_iload X dX11_reach_151 5 rfl ?_
            obtain ⟨g0, h⟩ := zg_e h
            refine zr_iald X dX11_reach_153 za_98 (zI_in g0) ?_
            refine zr_iadd X dX11_reach_154 ?_
            obtain ⟨g0, h⟩ := zg_e h
            refine zr_iald X dX11_reach_155 za_97 (zI_in g0) ?_
            refine zr_iadd X dX11_reach_156 ?_
            refine zr_topi (fun a23 ea23 => ?_)
            rw [zlet, ← ea23] at h
            refine zr_istore (lo' := [(5, .int a23), (0, .ref (S.heap.size + 68)), (1, .int r3), (3, .int a11), (4, .int a12), (6, .int a20)]) X dX11_reach_157 (by decide) rfl ?_
            refine zr_iinc (v := a20 + 1) (lo' := [(6, .int (a20 + 1)), (5, .int a23), (0, .ref (S.heap.size + 68)), (1, .int r3), (3, .int a11), (4, .int a12)]) X dX11_reach_159 5 rfl rfl (by decide) rfl ?_
            refine zr_goto (tgt := 131) X dX11_reach_162 (by decide) ?_
            have h := hl18 _ h
            exact zr_sub [2, 3, 4, 5, 1, 0] rfl h
      refine zl_w3 (fun a6 a7 m8 => zv_V S D cA p l e (zv_rm d 0 0) s mi args below meth c 7 (MQ below (zv_Q S D cA (zq_i SH0 P)) args s 0 0 (zv_fr S)) 0 0 32 [(0, .ref (S.heap.size + 68)), (1, .int r3), (2, .int a6), (3, .int a7)] [] SH0 m8) (fM_reach_l32 r3) _ (fun P5 hl5 hr5 a6 a7 m8 h => ?_) zFU 0 0 m (zw_b12 h)
      rw [fM_reach_l32] at h
      refine zr_iload_n X dX11_reach_32 3 rfl ?_
      refine zr_aload_n X dX11_reach_33 0 rfl ?_
      refine zr_getI X dX11_reach_34 zd_X11_13 rfl zo_68 (by rw [zk_11 zo_68]; decide) ?_
      refine zr_aload_n X dX11_reach_37 0 rfl ?_
      refine zr_getI X dX11_reach_38 zd_X11_13 rfl zo_68 (by rw [zk_11 zo_68]; decide) ?_
      refine zr_imul X dX11_reach_41 ?_
      refine zr_icmp_ge (tgt := 109) X dX11_reach_42 (by decide) (fun q => ?_) (fun q => ?_)
      · rw [if_neg q] at h
        have h := hr5 _ h
        exact zr_sub [0, 1] rfl (hR5 m8 h)
      · rw [if_pos q] at h
        refine zr_aload_n X dX11_reach_45 0 rfl ?_
        refine zr_getR X dX11_reach_46 zd_X11_36 rfl zo_68 zl_68_8 ?_
        refine zr_iload_n X dX11_reach_49 3 rfl ?_
        obtain ⟨g0, h⟩ := zg_e h
        refine zr_iald X dX11_reach_50 za_72 (zI_in g0) ?_
        have hJ103 : ∀ (a24 : Int32) (m25 : zv_M), zw (fM_reach_j103 a7 a24 m25) P5 → zv_V S D cA p l e (zv_rm d 0 0) s mi args below meth c 7 (MQ below (zv_Q S D cA (zq_i SH0 P)) args s 0 0 (zv_fr S)) 0 0 103 [(0, .ref (S.heap.size + 68)), (1, .int r3), (2, .int a24), (3, .int a7)] [] SH0 m25 := by
          intro a24 m25 h
          rw [fM_reach_j103] at h
          refine zr_iinc (v := a7 + 1) (lo' := [(3, .int (a7 + 1)), (0, .ref (S.heap.size + 68)), (1, .int r3), (2, .int a24)]) X dX11_reach_103 3 rfl rfl (by decide) rfl ?_
          refine zr_goto (tgt := 32) X dX11_reach_106 (by decide) ?_
          have h := hl5 _ h
          exact zr_sub [1, 2, 3, 0] rfl h
        refine zr_if_ge (tgt := 57) X dX11_reach_51 (by decide) (fun q => ?_) (fun q => ?_)
        · rw [if_neg q] at h
          refine zr_aload_n X dX11_reach_57 0 rfl ?_
          refine zr_iload_n X dX11_reach_58 3 rfl ?_
          refine zr_callV_v (As := [.int a7]) (st := []) (d := d - 1) X dX11_reach_59 wm_X11_405 my_X11_laySteps mv_X11_laySteps zo_68 rfl (Nat.le_of_ble_eq_true rfl) (zRm (by omega)) ⟨Nat.le_refl _, Nat.le_refl _⟩ (x_fM_laySteps hG (d - 1) (by omega) a7 m8 _ (zw_b1 h)) (fun m26 q => ?_)
          replace h := q
          refine zr_iconst (v := 0) X dX11_reach_62 (by decide) ?_
          refine zr_istore (lo' := [(4, .int 0), (0, .ref (S.heap.size + 68)), (1, .int r3), (2, .int a6), (3, .int a7)]) X dX11_reach_63 (by decide) rfl ?_
          refine zr_sub [1, 2, 3, 4, 0] rfl ?_
          have hR27 : ∀ (m30 : zv_M), zw (fM_reach_j103 a7 (a6 + 1) m30 : Option ((Int32 × Int32 × zv_M) ⊕ (zv_M))) P5 → zv_V S D cA p l e (zv_rm d 0 0) s mi args below meth c 7 (MQ below (zv_Q S D cA (zq_i SH0 P)) args s 0 0 (zv_fr S)) 0 0 100 [(0, .ref (S.heap.size + 68)), (1, .int r3), (2, .int a6), (3, .int a7)] [] SH0 m30 := by
            intro m30 h
            refine zr_iinc (v := a6 + 1) (lo' := [(2, .int (a6 + 1)), (0, .ref (S.heap.size + 68)), (1, .int r3), (3, .int a7)]) X dX11_reach_100 2 rfl rfl (by decide) rfl ?_
            exact zr_sub [1, 2, 0, 3] rfl (hJ103 (a6 + 1) m30 h)
          refine zl_w2 (fun a28 m29 => zv_V S D cA p l e (zv_rm d 0 0) s mi args below meth c 7 (MQ below (zv_Q S D cA (zq_i SH0 P)) args s 0 0 (zv_fr S)) 0 0 65 [(0, .ref (S.heap.size + 68)), (1, .int r3), (2, .int a6), (3, .int a7), (4, .int a28)] [] SH0 m29) (fM_reach_l65 r3 a6) _ (fun P27 hl27 hr27 a28 m29 h => ?_) zFU 0 m26 (zw_b1 h)
          rw [fM_reach_l65] at h
          refine zr_iload X dX11_reach_65 4 rfl ?_
          refine zr_iload_n X dX11_reach_67 1 rfl ?_
          refine zr_icmp_ge (tgt := 100) X dX11_reach_68 (by decide) (fun q => ?_) (fun q => ?_)
          · rw [if_neg q] at h
            have h := hr27 _ h
            exact zr_sub [0, 1, 2, 3] rfl (hR27 m29 h)
          · rw [if_pos q] at h
            refine zr_aload_n X dX11_reach_71 0 rfl ?_
            refine zr_getR X dX11_reach_72 zd_X11_148 rfl zo_68 zl_68_45 ?_
            refine zr_iconst (v := 5) X dX11_reach_75 (by decide) ?_
            refine zr_iload_n X dX11_reach_76 2 rfl ?_
            refine zr_imul X dX11_reach_77 ?_
            refine zr_iload X dX11_reach_78 4 rfl ?_
            refine zr_iadd X dX11_reach_80 ?_
            refine zr_aload_n X dX11_reach_81 0 rfl ?_
            refine zr_getR X dX11_reach_82 zd_X11_145 rfl zo_68 zl_68_44 ?_
            refine zr_aload_n X dX11_reach_85 0 rfl ?_
            refine zr_getR X dX11_reach_86 zd_X11_142 rfl zo_68 zl_68_43 ?_
            refine zr_iload X dX11_reach_89 4 rfl ?_
            obtain ⟨g0, h⟩ := zg_e h
            refine zr_iald X dX11_reach_91 za_95 (zI_in g0) ?_
            obtain ⟨g0, h⟩ := zg_e h
            refine zr_iald X dX11_reach_92 za_96 (zI_in g0) ?_
            obtain ⟨g0, h⟩ := zg_e h
            refine zr_iast X dX11_reach_93 za_97 (zI_in g0) ?_
            refine zr_iinc (v := a28 + 1) (lo' := [(4, .int (a28 + 1)), (0, .ref (S.heap.size + 68)), (1, .int r3), (2, .int a6), (3, .int a7)]) X dX11_reach_94 4 rfl rfl (by decide) rfl ?_
            refine zr_goto (tgt := 65) X dX11_reach_97 (by decide) ?_
            have h := hl27 _ h
            exact zr_sub [1, 2, 3, 4, 0] rfl h
        · rw [if_pos q] at h
          refine zr_goto (tgt := 103) X dX11_reach_54 (by decide) ?_
          exact zr_sub [0, 1, 2, 3] rfl (hJ103 a6 m8 h)
    · rw [if_neg q] at h
      refine zr_bipush (v := (-5)) X dX11_reach_25 (by decide) ?_
      exact zr_iret X dX11_reach_27 rfl ⟨Nat.le_refl _, Nat.le_refl _⟩ ⟨rfl, _, rfl, h⟩
  · rw [if_pos q] at h
    refine zr_bipush (v := (-9)) X dX11_reach_14 (by decide) ?_
    exact zr_iret X dX11_reach_16 rfl ⟨Nat.le_refl _, Nat.le_refl _⟩ ⟨rfl, _, rfl, h⟩

set_option maxRecDepth 100000 in
set_option maxHeartbeats 4000000 in
theorem x_fM_see {l : Launch} {S : State} {D : va_G} {cA : Nat → ClassId} {tb sx : Nat → Nat} (hG : zv_G S D cA tb sx) (d : Nat) (hd : 3 ≤ d) (p1 : Int32) (p2 : Int32) (m : zv_M) (P : Int32 → zv_M → Prop) (h : zw2 (fM_see p1 p2 m) P) : zv_Met l S D cA d 0 0 yX11_see cX11_see 3 (some .int) [.ref (S.heap.size + 68), .int p1, .int p2] SH0 m (zq_i SH0 P) := by
  refine zv_met false hG pf_X11_see (fun z => by cases z) (Nat.le_of_ble_eq_true rfl) [(0, .ref (S.heap.size + 68)), (1, .int p1), (2, .int p2)] rfl (fun p e s mi args below meth c X => ?_)
  rw [fM_see] at h
  refine zr_iload_n X dX11_see_0 1 rfl ?_
  refine zr_iconst (v := (-1)) X dX11_see_1 (by decide) ?_
  refine zr_icmp_ne (tgt := 12) X dX11_see_2 (by decide) (fun q => ?_) (fun q => ?_)
  · rw [if_neg q] at h
    refine zr_aload_n X dX11_see_12 0 rfl ?_
    refine zr_iload_n X dX11_see_13 1 rfl ?_
    refine zr_callV_i (As := [.int p1]) (st := []) (d := d - 1) X dX11_see_14 wm_X11_341 my_X11_isSquare mv_X11_isSquare zo_68 rfl (Nat.le_of_ble_eq_true rfl) (zRm (by omega)) ⟨Nat.le_refl _, Nat.le_refl _⟩ (x_fM_isSquare hG (d - 1) (by omega) p1 m _ (zw_b12 h)) (fun r1 m2 q => ?_)
    obtain ⟨rfl, h⟩ := q
    refine zr_if_ne (tgt := 22) X dX11_see_17 (by decide) (fun q => ?_) (fun q => ?_)
    · rw [if_neg q] at h
      refine zr_aload_n X dX11_see_22 0 rfl ?_
      refine zr_iload_n X dX11_see_23 2 rfl ?_
      refine zr_iconst (v := 0) X dX11_see_24 (by decide) ?_
      refine zr_bipush (v := 25) X dX11_see_25 (by decide) ?_
      refine zr_callV_i (As := [.int p2, .int 0, .int 25]) (st := []) (d := d - 1) X dX11_see_27 wm_X11_230 my_X11_in mv_X11_in zo_68 rfl (Nat.le_of_ble_eq_true rfl) (zRm (by omega)) ⟨Nat.le_refl _, Nat.le_refl _⟩ (x_fM_in hG (d - 1) (by omega) p2 0 25 m _ (zw_b12 h)) (fun r3 m4 q => ?_)
      obtain ⟨rfl, h⟩ := q
      refine zr_if_ne (tgt := 36) X dX11_see_30 (by decide) (fun q => ?_) (fun q => ?_)
      · rw [if_neg q] at h
        refine zr_aload_n X dX11_see_36 0 rfl ?_
        refine zr_getI X dX11_see_37 zd_X11_154 rfl zo_68 (by rw [zk_11 zo_68]; decide) ?_
        refine zr_bipush (v := 8) X dX11_see_40 (by decide) ?_
        refine zr_icmp_ne (tgt := 48) X dX11_see_42 (by decide) (fun q => ?_) (fun q => ?_)
        · rw [if_neg q] at h
          refine zr_aload_n X dX11_see_48 0 rfl ?_
          refine zr_getR X dX11_see_49 zd_X11_157 rfl zo_68 zl_68_48 ?_
          refine zr_aload_n X dX11_see_52 0 rfl ?_
          refine zr_getI X dX11_see_53 zd_X11_154 rfl zo_68 (by rw [zk_11 zo_68]; decide) ?_
          refine zr_iload_n X dX11_see_56 1 rfl ?_
          obtain ⟨g0, h⟩ := zg_e2 h
          refine zr_iast X dX11_see_57 za_99 (zI_in g0) ?_
          refine zr_aload_n X dX11_see_58 0 rfl ?_
          refine zr_getR X dX11_see_59 zd_X11_160 rfl zo_68 zl_68_49 ?_
          refine zr_aload_n X dX11_see_62 0 rfl ?_
          refine zr_getI X dX11_see_63 zd_X11_154 rfl zo_68 (by rw [zk_11 zo_68]; decide) ?_
          refine zr_iload_n X dX11_see_66 2 rfl ?_
          obtain ⟨g0, h⟩ := zg_e2 h
          refine zr_iast X dX11_see_67 za_100 (zI_in g0) ?_
          refine zr_aload_n X dX11_see_68 0 rfl ?_
          refine zr_dup X dX11_see_69 rfl ?_
          refine zr_getI X dX11_see_70 zd_X11_154 rfl zo_68 (by rw [zk_11 zo_68]; decide) ?_
          refine zr_iconst (v := 1) X dX11_see_73 (by decide) ?_
          refine zr_iadd X dX11_see_74 ?_
          refine zr_put X dX11_see_75 zd_X11_154 rfl rfl rfl zo_68 (by rw [zk_11 zo_68]; decide) ?_
          refine zr_aload_n X dX11_see_78 0 rfl ?_
          refine zr_getI X dX11_see_79 zd_X11_154 rfl zo_68 (by rw [zk_11 zo_68]; decide) ?_
          exact zr_iret X dX11_see_82 rfl ⟨Nat.le_refl _, Nat.le_refl _⟩ ⟨rfl, _, rfl, h⟩
        · rw [if_pos q] at h
          refine zr_bipush (v := (-4)) X dX11_see_45 (by decide) ?_
          exact zr_iret X dX11_see_47 rfl ⟨Nat.le_refl _, Nat.le_refl _⟩ ⟨rfl, _, rfl, h⟩
      · rw [if_pos q] at h
        refine zr_bipush (v := (-2)) X dX11_see_33 (by decide) ?_
        exact zr_iret X dX11_see_35 rfl ⟨Nat.le_refl _, Nat.le_refl _⟩ ⟨rfl, _, rfl, h⟩
    · rw [if_pos q] at h
      refine zr_iconst (v := (-1)) X dX11_see_20 (by decide) ?_
      exact zr_iret X dX11_see_21 rfl ⟨Nat.le_refl _, Nat.le_refl _⟩ ⟨rfl, _, rfl, h⟩
  · rw [if_pos q] at h
    refine zr_aload_n X dX11_see_5 0 rfl ?_
    refine zr_iconst (v := 0) X dX11_see_6 (by decide) ?_
    refine zr_put X dX11_see_7 zd_X11_154 rfl rfl rfl zo_68 (by rw [zk_11 zo_68]; decide) ?_
    refine zr_iconst (v := 0) X dX11_see_10 (by decide) ?_
    exact zr_iret X dX11_see_11 rfl ⟨Nat.le_refl _, Nat.le_refl _⟩ ⟨rfl, _, rfl, h⟩

set_option maxRecDepth 100000 in
set_option maxHeartbeats 4000000 in
theorem x_fM_isSeen {l : Launch} {S : State} {D : va_G} {cA : Nat → ClassId} {tb sx : Nat → Nat} (hG : zv_G S D cA tb sx) (d : Nat) (hd : 7 ≤ d) (m : zv_M) (P : Int32 → Prop) (h : zw (fM_isSeen m) P) : zv_Met l S D cA d 0 0 yX11_isSeen cX11_isSeen 2 (some .boolean) [.ref (S.heap.size + 68)] SH0 m (zq_i SH0 (fun v m' => m = m' ∧ P v)) := by
  refine zv_met false hG pf_X11_isSeen (fun z => by cases z) (Nat.le_of_ble_eq_true rfl) [(0, .ref (S.heap.size + 68))] rfl (fun p e s mi args below meth c X => ?_)
  rw [fM_isSeen] at h
  refine zr_iconst (v := 0) X dX11_isSeen_0 (by decide) ?_
  refine zr_istore_n (lo' := [(1, .int 0), (0, .ref (S.heap.size + 68))]) X dX11_isSeen_1 (by decide) rfl ?_
  refine zr_sub [1, 0] rfl ?_
  refine zl_w1 (fun a2 => zv_V S D cA p l e (zv_rm d 0 0) s mi args below meth c 2 (MQ below (zv_Q S D cA (zq_i SH0 (fun v m' => m = m' ∧ P v))) args s 0 0 (zv_fr S)) 0 0 2 [(0, .ref (S.heap.size + 68)), (1, .int a2)] [] SH0 m) (fM_isSeen_l2 m) _ (fun P1 hl1 hr1 a2 h => ?_) zFU 0 (zw_b1 h)
  rw [fM_isSeen_l2] at h
  refine zr_iload_n X dX11_isSeen_2 1 rfl ?_
  refine zr_aload_n X dX11_isSeen_3 0 rfl ?_
  refine zr_getI X dX11_isSeen_4 zd_X11_154 rfl zo_68 (by rw [zk_11 zo_68]; decide) ?_
  refine zr_icmp_ge (tgt := 41) X dX11_isSeen_7 (by decide) (fun q => ?_) (fun q => ?_)
  · rw [if_neg q] at h
    refine zr_iconst (v := 1) X dX11_isSeen_41 (by decide) ?_
    have h := hr1 _ h
    exact zr_iret X dX11_isSeen_42 rfl ⟨Nat.le_refl _, Nat.le_refl _⟩ ⟨rfl, _, rfl, rfl, h⟩
  · rw [if_pos q] at h
    refine zr_aload_n X dX11_isSeen_10 0 rfl ?_
    refine zr_aload_n X dX11_isSeen_11 0 rfl ?_
    refine zr_aload_n X dX11_isSeen_12 0 rfl ?_
    refine zr_getR X dX11_isSeen_13 zd_X11_157 rfl zo_68 zl_68_48 ?_
    refine zr_iload_n X dX11_isSeen_16 1 rfl ?_
    obtain ⟨g0, h⟩ := zg_e h
    refine zr_iald X dX11_isSeen_17 za_99 (zI_in g0) ?_
    refine zr_callV_i (As := [.int (m.1 99 a2.toNatClampNeg)]) (st := [.ref (S.heap.size + 68)]) (d := d - 1) X dX11_isSeen_18 wm_X11_347 my_X11_seersOf mv_X11_seersOf zo_68 rfl (Nat.le_of_ble_eq_true rfl) (zRm (by omega)) ⟨Nat.le_refl _, Nat.le_refl _⟩ (x_fM_seersOf hG (d - 1) (by omega) (m.1 99 a2.toNatClampNeg) m _ (zw_b1 h)) (fun r3 m4 q => ?_)
    obtain ⟨rfl, h⟩ := q
    refine zr_callV_i (As := [.int r3]) (st := []) (d := d - 1) X dX11_isSeen_21 wm_X11_242 my_X11_ones mv_X11_ones zo_68 rfl (Nat.le_of_ble_eq_true rfl) (zRm (by omega)) ⟨Nat.le_refl _, Nat.le_refl _⟩ (x_fM_ones hG (d - 1) (by omega) r3 m _ (zw_b1 h)) (fun r5 m6 q => ?_)
    obtain ⟨rfl, h⟩ := q
    refine zr_aload_n X dX11_isSeen_24 0 rfl ?_
    refine zr_getR X dX11_isSeen_25 zd_X11_160 rfl zo_68 zl_68_49 ?_
    refine zr_iload_n X dX11_isSeen_28 1 rfl ?_
    obtain ⟨g0, h⟩ := zg_e h
    refine zr_iald X dX11_isSeen_29 za_100 (zI_in g0) ?_
    refine zr_icmp_eq (tgt := 35) X dX11_isSeen_30 (by decide) (fun q => ?_) (fun q => ?_)
    · rw [if_pos q] at h
      refine zr_iinc (v := a2 + 1) (lo' := [(1, .int (a2 + 1)), (0, .ref (S.heap.size + 68))]) X dX11_isSeen_35 1 rfl rfl (by decide) rfl ?_
      refine zr_goto (tgt := 2) X dX11_isSeen_38 (by decide) ?_
      have h := hl1 _ h
      exact zr_sub [1, 0] rfl h
    · rw [if_neg q] at h
      refine zr_iconst (v := 0) X dX11_isSeen_33 (by decide) ?_
      have h := hr1 _ h
      exact zr_iret X dX11_isSeen_34 rfl ⟨Nat.le_refl _, Nat.le_refl _⟩ ⟨rfl, _, rfl, rfl, h⟩

set_option maxRecDepth 100000 in
set_option maxHeartbeats 4000000 in
theorem x_fM_rubbed {l : Launch} {S : State} {D : va_G} {cA : Nat → ClassId} {tb sx : Nat → Nat} (hG : zv_G S D cA tb sx) (d : Nat) (hd : 8 ≤ d) (p1 : Int32) (m : zv_M) (P : Int32 → zv_M → Prop) (h : zw2 (fM_rubbed p1 m) P) : zv_Met l S D cA d 0 0 yX11_rubbed cX11_rubbed 4 (some .int) [.ref (S.heap.size + 68), .int p1] SH0 m (zq_i SH0 P) := by
  refine zv_met false hG pf_X11_rubbed (fun z => by cases z) (Nat.le_of_ble_eq_true rfl) [(0, .ref (S.heap.size + 68)), (1, .int p1)] rfl (fun p e s mi args below meth c X => ?_)
  rw [fM_rubbed] at h
  refine zr_aload_n X dX11_rubbed_0 0 rfl ?_
  refine zr_iload_n X dX11_rubbed_1 1 rfl ?_
  refine zr_callV_i (As := [.int p1]) (st := []) (d := d - 1) X dX11_rubbed_2 wm_X11_234 my_X11_isPlan mv_X11_isPlan zo_68 rfl (Nat.le_of_ble_eq_true rfl) (zRm (by omega)) ⟨Nat.le_refl _, Nat.le_refl _⟩ (x_fM_isPlan hG (d - 1) (by omega) p1 m _ (zw_b12 h)) (fun r1 m2 q => ?_)
  obtain ⟨rfl, h⟩ := q
  refine zr_if_ne (tgt := 10) X dX11_rubbed_5 (by decide) (fun q => ?_) (fun q => ?_)
  · rw [if_neg q] at h
    refine zr_iconst (v := 0) X dX11_rubbed_10 (by decide) ?_
    refine zr_istore_n (lo' := [(2, .int 0), (0, .ref (S.heap.size + 68)), (1, .int p1)]) X dX11_rubbed_11 (by decide) rfl ?_
    refine zr_iconst (v := 0) X dX11_rubbed_12 (by decide) ?_
    refine zr_istore_n (lo' := [(3, .int 0), (2, .int 0), (0, .ref (S.heap.size + 68)), (1, .int p1)]) X dX11_rubbed_13 (by decide) rfl ?_
    refine zr_sub [2, 3, 1, 0] rfl ?_
    refine zl_w3 (fun a4 a5 m6 => zv_V S D cA p l e (zv_rm d 0 0) s mi args below meth c 4 (MQ below (zv_Q S D cA (zq_i SH0 P)) args s 0 0 (zv_fr S)) 0 0 14 [(0, .ref (S.heap.size + 68)), (1, .int p1), (2, .int a4), (3, .int a5)] [] SH0 m6) (fM_rubbed_l14 p1) _ (fun P3 hl3 hr3 a4 a5 m6 h => ?_) zFU 0 0 m (zw_b12 h)
    rw [fM_rubbed_l14] at h
    refine zr_iload_n X dX11_rubbed_14 3 rfl ?_
    refine zr_aload_n X dX11_rubbed_15 0 rfl ?_
    refine zr_getI X dX11_rubbed_16 zd_X11_13 rfl zo_68 (by rw [zk_11 zo_68]; decide) ?_
    refine zr_aload_n X dX11_rubbed_19 0 rfl ?_
    refine zr_getI X dX11_rubbed_20 zd_X11_13 rfl zo_68 (by rw [zk_11 zo_68]; decide) ?_
    refine zr_imul X dX11_rubbed_23 ?_
    refine zr_icmp_ge (tgt := 75) X dX11_rubbed_24 (by decide) (fun q => ?_) (fun q => ?_)
    · rw [if_neg q] at h
      refine zr_iload_n X dX11_rubbed_75 2 rfl ?_
      have h := hr3 _ h
      exact zr_iret X dX11_rubbed_76 rfl ⟨Nat.le_refl _, Nat.le_refl _⟩ ⟨rfl, _, rfl, h⟩
    · rw [if_pos q] at h
      refine zr_aload_n X dX11_rubbed_27 0 rfl ?_
      refine zr_iload_n X dX11_rubbed_28 3 rfl ?_
      refine zr_callV_i (As := [.int a5]) (st := []) (d := d - 1) X dX11_rubbed_29 wm_X11_356 my_X11_mayBe mv_X11_mayBe zo_68 rfl (Nat.le_of_ble_eq_true rfl) (zRm (by omega)) ⟨Nat.le_refl _, Nat.le_refl _⟩ (x_fM_mayBe hG (d - 1) (by omega) a5 m6 _ (zw_b1 h)) (fun r7 m8 q => ?_)
      obtain ⟨rfl, h⟩ := q
      have hJ69 : ∀ (a9 : Int32) (m10 : zv_M), zw (fM_rubbed_j69 a5 a9 m10) P3 → zv_V S D cA p l e (zv_rm d 0 0) s mi args below meth c 4 (MQ below (zv_Q S D cA (zq_i SH0 P)) args s 0 0 (zv_fr S)) 0 0 69 [(0, .ref (S.heap.size + 68)), (1, .int p1), (2, .int a9), (3, .int a5)] [] SH0 m10 := by
        intro a9 m10 h
        rw [fM_rubbed_j69] at h
        refine zr_iinc (v := a5 + 1) (lo' := [(3, .int (a5 + 1)), (0, .ref (S.heap.size + 68)), (1, .int p1), (2, .int a9)]) X dX11_rubbed_69 3 rfl rfl (by decide) rfl ?_
        refine zr_goto (tgt := 14) X dX11_rubbed_72 (by decide) ?_
        have h := hl3 _ h
        exact zr_sub [1, 2, 3, 0] rfl h
      refine zr_if_ne (tgt := 38) X dX11_rubbed_32 (by decide) (fun q => ?_) (fun q => ?_)
      · rw [if_neg q] at h
        refine zr_aload_n X dX11_rubbed_38 0 rfl ?_
        refine zr_getR X dX11_rubbed_39 zd_X11_36 rfl zo_68 zl_68_8 ?_
        refine zr_iload_n X dX11_rubbed_42 3 rfl ?_
        refine zr_iload_n X dX11_rubbed_43 1 rfl ?_
        obtain ⟨g0, h⟩ := zg_e h
        refine zr_iast X dX11_rubbed_44 za_72 (zI_in g0) ?_
        refine zr_iload_n X dX11_rubbed_45 2 rfl ?_
        refine zr_aload_n X dX11_rubbed_46 0 rfl ?_
        refine zr_callV_i (As := []) (st := [.int a4]) (d := d - 1) X dX11_rubbed_47 wm_X11_411 my_X11_isSeen mv_X11_isSeen zo_68 rfl (Nat.le_of_ble_eq_true rfl) (zRm (by omega)) ⟨Nat.le_refl _, Nat.le_refl _⟩ (x_fM_isSeen hG (d - 1) (by omega) (wI m6 72 a5.toNatClampNeg p1) _ (zw_b1 h)) (fun r11 m12 q => ?_)
        obtain ⟨rfl, h⟩ := q
        have hJ60 : ∀ (v13 : Int32), zw (fM_rubbed_j60 p1 a4 a5 m6 v13) P3 → zv_V S D cA p l e (zv_rm d 0 0) s mi args below meth c 4 (MQ below (zv_Q S D cA (zq_i SH0 P)) args s 0 0 (zv_fr S)) 0 0 60 [(0, .ref (S.heap.size + 68)), (1, .int p1), (3, .int a5)] [.int v13, .int a4] SH0 (wI m6 72 a5.toNatClampNeg p1) := by
          intro v13 h
          rw [fM_rubbed_j60] at h
          refine zr_ior X dX11_rubbed_60 ?_
          refine zr_istore_n (lo' := [(2, .int (a4 ||| v13)), (0, .ref (S.heap.size + 68)), (1, .int p1), (3, .int a5)]) X dX11_rubbed_61 (by decide) rfl ?_
          refine zr_aload_n X dX11_rubbed_62 1 rfl ?_
          refine zr_getR X dX11_rubbed_63 zd_X11_36 rfl zo_68 zl_68_8 ?_
          refine zr_iload_n X dX11_rubbed_66 3 rfl ?_
          refine zr_iconst (v := (-1)) X dX11_rubbed_67 (by decide) ?_
          obtain ⟨g0, h⟩ := zg_e h
          refine zr_iast X dX11_rubbed_68 za_72 (zI_in g0) ?_
          exact zr_sub [1, 2, 0, 3] rfl (hJ69 (a4 ||| v13) (wI (wI m6 72 a5.toNatClampNeg p1) 72 a5.toNatClampNeg (-1)) h)
        refine zr_if_eq (tgt := 59) X dX11_rubbed_50 (by decide) (fun q => ?_) (fun q => ?_)
        · rw [if_pos q] at h
          refine zr_iconst (v := 0) X dX11_rubbed_59 (by decide) ?_
          exact zr_sub [0, 1, 3] rfl (hJ60 0 h)
        · rw [if_neg q] at h
          refine zr_iconst (v := 1) X dX11_rubbed_53 (by decide) ?_
          refine zr_iload_n X dX11_rubbed_54 3 rfl ?_
          refine zr_ishl X dX11_rubbed_55 ?_
          refine zr_goto (tgt := 60) X dX11_rubbed_56 (by decide) ?_
          exact zr_sub [0, 1, 3] rfl (hJ60 (1 <<< (a5 &&& 31)) h)
      · rw [if_pos q] at h
        refine zr_goto (tgt := 69) X dX11_rubbed_35 (by decide) ?_
        exact zr_sub [0, 1, 2, 3] rfl (hJ69 a4 m6 h)
  · rw [if_pos q] at h
    refine zr_iconst (v := (-1)) X dX11_rubbed_8 (by decide) ?_
    exact zr_iret X dX11_rubbed_9 rfl ⟨Nat.le_refl _, Nat.le_refl _⟩ ⟨rfl, _, rfl, h⟩

set_option maxRecDepth 100000 in
set_option maxHeartbeats 4000000 in
theorem x_fM_divisor {l : Launch} {S : State} {D : va_G} {cA : Nat → ClassId} {tb sx : Nat → Nat} (hG : zv_G S D cA tb sx) (d : Nat) (hd : 1 ≤ d) (p1 : Int32) (p2 : Int32) (m : zv_M) (P : Int32 → Prop) (h : zw (fM_divisor p1 p2) P) : zv_Met l S D cA d 0 0 yX11_divisor cX11_divisor 6 (some .int) [.ref (S.heap.size + 68), .int p1, .int p2] SH0 m (zq_i SH0 (fun v m' => m = m' ∧ P v)) := by
  refine zv_met false hG pf_X11_divisor (fun z => by cases z) (Nat.le_of_ble_eq_true rfl) [(0, .ref (S.heap.size + 68)), (1, .int p1), (2, .int p2)] rfl (fun p e s mi args below meth c X => ?_)
  rw [fM_divisor] at h
  refine zr_iload_n X dX11_divisor_0 1 rfl ?_
  refine zr_istore_n (lo' := [(3, .int p1), (0, .ref (S.heap.size + 68)), (1, .int p1), (2, .int p2)]) X dX11_divisor_1 (by decide) rfl ?_
  refine zr_iload_n X dX11_divisor_2 3 rfl ?_
  refine zr_istore (lo' := [(4, .int p2), (3, .int p1), (0, .ref (S.heap.size + 68)), (1, .int p1), (2, .int p2)]) X dX11_divisor_3 (by decide) rfl ?_
  refine zr_sub [1, 0] rfl ?_
  refine zl_w2 (fun a2 a3 => zv_V S D cA p l e (zv_rm d 0 0) s mi args below meth c 6 (MQ below (zv_Q S D cA (zq_i SH0 (fun v m' => m = m' ∧ P v))) args s 0 0 (zv_fr S)) 0 0 5 [(3, .int a2), (4, .int a3)] [] SH0 m) fM_divisor_l5 _ (fun P1 hl1 hr1 a2 a3 h => ?_) zFU p1 p2 (zw_b1 h)
  rw [fM_divisor_l5] at h
  refine zr_iload X dX11_divisor_5 1 rfl ?_
  refine zr_if_eq (tgt := 26) X dX11_divisor_7 (by decide) (fun q => ?_) (fun q => ?_)
  · rw [if_pos q] at h
    refine zr_iload_n X dX11_divisor_26 0 rfl ?_
    have h := hr1 _ h
    exact zr_iret X dX11_divisor_27 rfl ⟨Nat.le_refl _, Nat.le_refl _⟩ ⟨rfl, _, rfl, rfl, h⟩
  · rw [if_neg q] at h
    refine zr_iload_n X dX11_divisor_10 0 rfl ?_
    refine zr_iload X dX11_divisor_11 1 rfl ?_
    obtain ⟨g0, h⟩ := zg_e h
    refine zr_irem X dX11_divisor_13 (zN_ne g0) ?_
    refine zr_istore (lo' := [(5, .int (a2 - a2 / a3 * a3)), (3, .int a2), (4, .int a3)]) X dX11_divisor_14 (by decide) rfl ?_
    refine zr_iload X dX11_divisor_16 2 rfl ?_
    refine zr_istore_n (lo' := [(3, .int a3), (5, .int (a2 - a2 / a3 * a3)), (4, .int a3)]) X dX11_divisor_18 (by decide) rfl ?_
    refine zr_iload X dX11_divisor_19 1 rfl ?_
    refine zr_istore (lo' := [(4, .int (a2 - a2 / a3 * a3)), (3, .int a3), (5, .int (a2 - a2 / a3 * a3))]) X dX11_divisor_21 (by decide) rfl ?_
    refine zr_goto (tgt := 5) X dX11_divisor_23 (by decide) ?_
    have h := hl1 _ h
    exact zr_sub [1, 0] rfl h

set_option maxRecDepth 100000 in
set_option maxHeartbeats 4000000 in
theorem x_fM_fraction {l : Launch} {S : State} {D : va_G} {cA : Nat → ClassId} {tb sx : Nat → Nat} (hG : zv_G S D cA tb sx) (d : Nat) (hd : 2 ≤ d) (p1 : Int32) (p2 : Int32) (p3 : Int32) (m : zv_M) (P : Int64 → Prop) (h : zw (fM_fraction p1 p2 p3) P) : zv_Met l S D cA d 0 0 yX11_fraction cX11_fraction 5 (some .long) [.ref (S.heap.size + 68), .int p1, .int p2, .int p3] SH0 m (zq_l SH0 (fun v m' => m = m' ∧ P v)) := by
  refine zv_met false hG pf_X11_fraction (fun z => by cases z) (Nat.le_of_ble_eq_true rfl) [(0, .ref (S.heap.size + 68)), (1, .int p1), (2, .int p2), (3, .int p3)] rfl (fun p e s mi args below meth c X => ?_)
  rw [fM_fraction] at h
  refine zr_aload_n X dX11_fraction_0 0 rfl ?_
  refine zr_iload_n X dX11_fraction_1 1 rfl ?_
  refine zr_iload_n X dX11_fraction_2 2 rfl ?_
  refine zr_callV_i (As := [.int p1, .int p2]) (st := []) (d := d - 1) X dX11_fraction_3 wm_X11_414 my_X11_divisor mv_X11_divisor zo_68 rfl (Nat.le_of_ble_eq_true rfl) (zRm (by omega)) ⟨Nat.le_refl _, Nat.le_refl _⟩ (x_fM_divisor hG (d - 1) (by omega) p1 p2 m _ (zw_b1 h)) (fun r1 m2 q => ?_)
  obtain ⟨rfl, h⟩ := q
  refine zr_istore (lo' := [(4, .int r1), (0, .ref (S.heap.size + 68)), (1, .int p1), (2, .int p2), (3, .int p3)]) X dX11_fraction_6 (by decide) rfl ?_
  refine zr_iload_n X dX11_fraction_8 4 rfl ?_
  refine zr_if_ne (tgt := 20) X dX11_fraction_9 (by decide) (fun q => ?_) (fun q => ?_)
  · rw [if_neg q] at h
    refine zr_iload_n X dX11_fraction_20 3 rfl ?_
    refine zr_iload X dX11_fraction_21 0 rfl ?_
    obtain ⟨g0, h⟩ := zg_e h
    refine zr_idiv X dX11_fraction_23 (zN_ne g0) ?_
    refine zr_i2l X dX11_fraction_24 ?_
    exact zr_lret X dX11_fraction_25 ⟨Nat.le_refl _, Nat.le_refl _⟩ ⟨rfl, _, rfl, rfl, h⟩
  · rw [if_pos q] at h
    refine zr_iload_n X dX11_fraction_12 2 rfl ?_
    refine zr_iload X dX11_fraction_13 0 rfl ?_
    obtain ⟨g0, h⟩ := zg_e h
    refine zr_idiv X dX11_fraction_15 (zN_ne g0) ?_
    refine zr_i2l X dX11_fraction_16 ?_
    refine zr_goto (tgt := 25) X dX11_fraction_17 (by decide) ?_
    exact zr_lret X dX11_fraction_25 ⟨Nat.le_refl _, Nat.le_refl _⟩ ⟨rfl, _, rfl, rfl, h⟩

set_option maxRecDepth 100000 in
set_option maxHeartbeats 4000000 in
theorem x_fM_odds {l : Launch} {S : State} {D : va_G} {cA : Nat → ClassId} {tb sx : Nat → Nat} (hG : zv_G S D cA tb sx) (d : Nat) (hd : 9 ≤ d) (p1 : Int32) (p2 : Int32) (m : zv_M) (P : Int64 → Prop) (h : zw (fM_odds p1 p2 m) P) : zv_Met l S D cA d 0 0 yX11_odds cX11_odds 5 (some .long) [.ref (S.heap.size + 68), .int p1, .int p2] SH0 m (zq_l SH0 (fun v m' => m = m' ∧ P v)) := by
  refine zv_met false hG pf_X11_odds (fun z => by cases z) (Nat.le_of_ble_eq_true rfl) [(0, .ref (S.heap.size + 68)), (1, .int p1), (2, .int p2)] rfl (fun p e s mi args below meth c X => ?_)
  rw [fM_odds] at h
  refine zr_aload_n X dX11_odds_0 0 rfl ?_
  refine zr_iload_n X dX11_odds_1 1 rfl ?_
  refine zr_callV_i (As := [.int p1]) (st := []) (d := d - 1) X dX11_odds_2 wm_X11_234 my_X11_isPlan mv_X11_isPlan zo_68 rfl (Nat.le_of_ble_eq_true rfl) (zRm (by omega)) ⟨Nat.le_refl _, Nat.le_refl _⟩ (x_fM_isPlan hG (d - 1) (by omega) p1 m _ (zw_b1 h)) (fun r1 m2 q => ?_)
  obtain ⟨rfl, h⟩ := q
  refine zr_if_eq (tgt := 18) X dX11_odds_5 (by decide) (fun q => ?_) (fun q => ?_)
  · rw [if_pos q] at h
    refine zr_ldc2 X dX11_odds_18 wc_X11_417 ?_
    exact zr_lret X dX11_odds_21 ⟨Nat.le_refl _, Nat.le_refl _⟩ ⟨rfl, _, rfl, rfl, h⟩
  · rw [if_neg q] at h
    refine zr_aload_n X dX11_odds_8 0 rfl ?_
    refine zr_iload_n X dX11_odds_9 2 rfl ?_
    refine zr_iconst (v := 0) X dX11_odds_10 (by decide) ?_
    refine zr_iconst (v := 1) X dX11_odds_11 (by decide) ?_
    refine zr_callV_i (As := [.int p2, .int 0, .int 1]) (st := []) (d := d - 1) X dX11_odds_12 wm_X11_230 my_X11_in mv_X11_in zo_68 rfl (Nat.le_of_ble_eq_true rfl) (zRm (by omega)) ⟨Nat.le_refl _, Nat.le_refl _⟩ (x_fM_in hG (d - 1) (by omega) p2 0 1 m _ (zw_b1 h)) (fun r3 m4 q => ?_)
    obtain ⟨rfl, h⟩ := q
    refine zr_if_ne (tgt := 22) X dX11_odds_15 (by decide) (fun q => ?_) (fun q => ?_)
    · rw [if_neg q] at h
      refine zr_iconst (v := 0) X dX11_odds_22 (by decide) ?_
      refine zr_istore_n (lo' := [(3, .int 0), (0, .ref (S.heap.size + 68)), (1, .int p1), (2, .int p2)]) X dX11_odds_23 (by decide) rfl ?_
      refine zr_iconst (v := 0) X dX11_odds_24 (by decide) ?_
      refine zr_istore (lo' := [(4, .int 0), (3, .int 0), (0, .ref (S.heap.size + 68)), (1, .int p1), (2, .int p2)]) X dX11_odds_25 (by decide) rfl ?_
      refine zr_sub [2, 3, 4, 1, 0] rfl ?_
      have hR5 : ∀ (a8 : Int32), zw (if a8 = 0 then some (-9223372036854775808) else zb1 (fM_moreOf p1 m) (fun r9 => zb1 (fM_ones r9) (fun r11 => zb1 (fM_fraction r11 a8 p2) (fun r13 => some r13))) : Option (Int64)) P → zv_V S D cA p l e (zv_rm d 0 0) s mi args below meth c 5 (MQ below (zv_Q S D cA (zq_l SH0 (fun v m' => m = m' ∧ P v))) args s 0 0 (zv_fr S)) 0 0 64 [(0, .ref (S.heap.size + 68)), (1, .int p1), (2, .int p2), (3, .int a8)] [] SH0 m := by
        intro a8 h
        refine zr_iload_n X dX11_odds_64 3 rfl ?_
        refine zr_if_ne (tgt := 74) X dX11_odds_65 (by decide) (fun q => ?_) (fun q => ?_)
        · rw [if_neg q] at h
          refine zr_aload_n X dX11_odds_74 0 rfl ?_
          refine zr_aload_n X dX11_odds_75 0 rfl ?_
          refine zr_aload_n X dX11_odds_76 0 rfl ?_
          refine zr_iload_n X dX11_odds_77 1 rfl ?_
          refine zr_callV_i (As := [.int p1]) (st := [.ref (S.heap.size + 68), .ref (S.heap.size + 68)]) (d := d - 1) X dX11_odds_78 wm_X11_387 my_X11_moreOf mv_X11_moreOf zo_68 rfl (Nat.le_of_ble_eq_true rfl) (zRm (by omega)) ⟨Nat.le_refl _, Nat.le_refl _⟩ (x_fM_moreOf hG (d - 1) (by omega) p1 m _ (zw_b1 h)) (fun r9 m10 q => ?_)
          obtain ⟨rfl, h⟩ := q
          refine zr_callV_i (As := [.int r9]) (st := [.ref (S.heap.size + 68)]) (d := d - 1) X dX11_odds_81 wm_X11_242 my_X11_ones mv_X11_ones zo_68 rfl (Nat.le_of_ble_eq_true rfl) (zRm (by omega)) ⟨Nat.le_refl _, Nat.le_refl _⟩ (x_fM_ones hG (d - 1) (by omega) r9 m _ (zw_b1 h)) (fun r11 m12 q => ?_)
          obtain ⟨rfl, h⟩ := q
          refine zr_iload_n X dX11_odds_84 3 rfl ?_
          refine zr_iload_n X dX11_odds_85 2 rfl ?_
          refine zr_callV_l (As := [.int r11, .int a8, .int p2]) (st := []) (d := d - 1) X dX11_odds_86 wm_X11_419 my_X11_fraction mv_X11_fraction zo_68 rfl (Nat.le_of_ble_eq_true rfl) (zRm (by omega)) ⟨Nat.le_refl _, Nat.le_refl _⟩ (x_fM_fraction hG (d - 1) (by omega) r11 a8 p2 m _ (zw_b1 h)) (fun r13 m14 q => ?_)
          obtain ⟨rfl, h⟩ := q
          exact zr_lret X dX11_odds_89 ⟨Nat.le_refl _, Nat.le_refl _⟩ ⟨rfl, _, rfl, rfl, h⟩
        · rw [if_pos q] at h
          refine zr_ldc2 X dX11_odds_68 wc_X11_417 ?_
          refine zr_goto (tgt := 89) X dX11_odds_71 (by decide) ?_
          exact zr_lret X dX11_odds_89 ⟨Nat.le_refl _, Nat.le_refl _⟩ ⟨rfl, _, rfl, rfl, h⟩
      refine zl_w2 (fun a6 a7 => zv_V S D cA p l e (zv_rm d 0 0) s mi args below meth c 5 (MQ below (zv_Q S D cA (zq_l SH0 (fun v m' => m = m' ∧ P v))) args s 0 0 (zv_fr S)) 0 0 27 [(0, .ref (S.heap.size + 68)), (1, .int p1), (2, .int p2), (3, .int a6), (4, .int a7)] [] SH0 m) (fM_odds_l27 m) _ (fun P5 hl5 hr5 a6 a7 h => ?_) zFU 0 0 (zw_b1 h)
      rw [fM_odds_l27] at h
      refine zr_iload X dX11_odds_27 4 rfl ?_
      refine zr_aload_n X dX11_odds_29 0 rfl ?_
      refine zr_getI X dX11_odds_30 zd_X11_13 rfl zo_68 (by rw [zk_11 zo_68]; decide) ?_
      refine zr_aload_n X dX11_odds_33 0 rfl ?_
      refine zr_getI X dX11_odds_34 zd_X11_13 rfl zo_68 (by rw [zk_11 zo_68]; decide) ?_
      refine zr_imul X dX11_odds_37 ?_
      refine zr_icmp_ge (tgt := 64) X dX11_odds_38 (by decide) (fun q => ?_) (fun q => ?_)
      · rw [if_neg q] at h
        have h := hr5 _ h
        exact zr_sub [0, 1, 2, 3] rfl (hR5 a6 h)
      · rw [if_pos q] at h
        refine zr_iload_n X dX11_odds_41 3 rfl ?_
        refine zr_aload_n X dX11_odds_42 0 rfl ?_
        refine zr_iload X dX11_odds_43 4 rfl ?_
        refine zr_callV_i (As := [.int a7]) (st := [.int a6]) (d := d - 1) X dX11_odds_45 wm_X11_356 my_X11_mayBe mv_X11_mayBe zo_68 rfl (Nat.le_of_ble_eq_true rfl) (zRm (by omega)) ⟨Nat.le_refl _, Nat.le_refl _⟩ (x_fM_mayBe hG (d - 1) (by omega) a7 m _ (zw_b1 h)) (fun r15 m16 q => ?_)
        obtain ⟨rfl, h⟩ := q
        have hJ56 : ∀ (v17 : Int32), zw (fM_odds_j56 a6 a7 v17) P5 → zv_V S D cA p l e (zv_rm d 0 0) s mi args below meth c 5 (MQ below (zv_Q S D cA (zq_l SH0 (fun v m' => m = m' ∧ P v))) args s 0 0 (zv_fr S)) 0 0 56 [(0, .ref (S.heap.size + 68)), (1, .int p1), (2, .int p2), (4, .int a7)] [.int v17, .int a6] SH0 m := by
          intro v17 h
          rw [fM_odds_j56] at h
          refine zr_iadd X dX11_odds_56 ?_
          refine zr_istore_n (lo' := [(3, .int (a6 + v17)), (0, .ref (S.heap.size + 68)), (1, .int p1), (2, .int p2), (4, .int a7)]) X dX11_odds_57 (by decide) rfl ?_
          refine zr_iinc (v := a7 + 1) (lo' := [(4, .int (a7 + 1)), (3, .int (a6 + v17)), (0, .ref (S.heap.size + 68)), (1, .int p1), (2, .int p2)]) X dX11_odds_58 4 rfl rfl (by decide) rfl ?_
          refine zr_goto (tgt := 27) X dX11_odds_61 (by decide) ?_
          have h := hl5 _ h
          exact zr_sub [2, 3, 4, 1, 0] rfl h
        refine zr_if_eq (tgt := 55) X dX11_odds_48 (by decide) (fun q => ?_) (fun q => ?_)
        · rw [if_pos q] at h
          refine zr_iconst (v := 0) X dX11_odds_55 (by decide) ?_
          exact zr_sub [0, 1, 2, 4] rfl (hJ56 0 h)
        · rw [if_neg q] at h
          refine zr_iconst (v := 1) X dX11_odds_51 (by decide) ?_
          refine zr_goto (tgt := 56) X dX11_odds_52 (by decide) ?_
          exact zr_sub [0, 1, 2, 4] rfl (hJ56 1 h)
    · rw [if_pos q] at h
      refine zr_ldc2 X dX11_odds_18 wc_X11_417 ?_
      exact zr_lret X dX11_odds_21 ⟨Nat.le_refl _, Nat.le_refl _⟩ ⟨rfl, _, rfl, rfl, h⟩

set_option maxRecDepth 100000 in
set_option maxHeartbeats 4000000 in
theorem x_fM_mean {l : Launch} {S : State} {D : va_G} {cA : Nat → ClassId} {tb sx : Nat → Nat} (hG : zv_G S D cA tb sx) (d : Nat) (hd : 6 ≤ d) (p1 : Int32) (m : zv_M) (P : Int64 → Prop) (h : zw (fM_mean p1 m) P) : zv_Met l S D cA d 0 0 yX11_mean cX11_mean 5 (some .long) [.ref (S.heap.size + 68), .int p1] SH0 m (zq_l SH0 (fun v m' => m = m' ∧ P v)) := by
  refine zv_met false hG pf_X11_mean (fun z => by cases z) (Nat.le_of_ble_eq_true rfl) [(0, .ref (S.heap.size + 68)), (1, .int p1)] rfl (fun p e s mi args below meth c X => ?_)
  rw [fM_mean] at h
  refine zr_aload_n X dX11_mean_0 0 rfl ?_
  refine zr_aload_n X dX11_mean_1 0 rfl ?_
  refine zr_callV_i (As := []) (st := [.ref (S.heap.size + 68)]) (d := d - 1) X dX11_mean_2 wm_X11_238 my_X11_men mv_X11_men zo_68 rfl (Nat.le_of_ble_eq_true rfl) (zRm (by omega)) ⟨Nat.le_refl _, Nat.le_refl _⟩ (x_fM_men hG (d - 1) (by omega) m _ (zw_b1 h)) (fun r1 m2 q => ?_)
  obtain ⟨rfl, h⟩ := q
  refine zr_callV_i (As := [.int r1]) (st := []) (d := d - 1) X dX11_mean_5 wm_X11_242 my_X11_ones mv_X11_ones zo_68 rfl (Nat.le_of_ble_eq_true rfl) (zRm (by omega)) ⟨Nat.le_refl _, Nat.le_refl _⟩ (x_fM_ones hG (d - 1) (by omega) r1 m _ (zw_b1 h)) (fun r3 m4 q => ?_)
  obtain ⟨rfl, h⟩ := q
  refine zr_istore_n (lo' := [(2, .int r3), (0, .ref (S.heap.size + 68)), (1, .int p1)]) X dX11_mean_8 (by decide) rfl ?_
  refine zr_aload_n X dX11_mean_9 1 rfl ?_
  refine zr_iload_n X dX11_mean_10 2 rfl ?_
  refine zr_iconst (v := 0) X dX11_mean_11 (by decide) ?_
  refine zr_iconst (v := 1) X dX11_mean_12 (by decide) ?_
  refine zr_callV_i (As := [.int p1, .int 0, .int 1]) (st := []) (d := d - 1) X dX11_mean_13 wm_X11_230 my_X11_in mv_X11_in zo_68 rfl (Nat.le_of_ble_eq_true rfl) (zRm (by omega)) ⟨Nat.le_refl _, Nat.le_refl _⟩ (x_fM_in hG (d - 1) (by omega) p1 0 1 m _ (zw_b1 h)) (fun r5 m6 q => ?_)
  obtain ⟨rfl, h⟩ := q
  refine zr_if_eq (tgt := 23) X dX11_mean_16 (by decide) (fun q => ?_) (fun q => ?_)
  · rw [if_pos q] at h
    refine zr_ldc2 X dX11_mean_23 wc_X11_417 ?_
    exact zr_lret X dX11_mean_26 ⟨Nat.le_refl _, Nat.le_refl _⟩ ⟨rfl, _, rfl, rfl, h⟩
  · rw [if_neg q] at h
    refine zr_iload_n X dX11_mean_19 0 rfl ?_
    refine zr_if_ne (tgt := 27) X dX11_mean_20 (by decide) (fun q => ?_) (fun q => ?_)
    · rw [if_neg q] at h
      refine zr_iconst (v := 0) X dX11_mean_27 (by decide) ?_
      refine zr_istore_n (lo' := [(3, .int 0), (2, .int r3), (0, .ref (S.heap.size + 68)), (1, .int p1)]) X dX11_mean_28 (by decide) rfl ?_
      refine zr_iconst (v := 0) X dX11_mean_29 (by decide) ?_
      refine zr_istore (lo' := [(4, .int 0), (3, .int 0), (2, .int r3), (0, .ref (S.heap.size + 68)), (1, .int p1)]) X dX11_mean_30 (by decide) rfl ?_
      refine zr_sub [3, 4, 2, 1, 0] rfl ?_
      refine zl_w2 (fun a8 a9 => zv_V S D cA p l e (zv_rm d 0 0) s mi args below meth c 5 (MQ below (zv_Q S D cA (zq_l SH0 (fun v m' => m = m' ∧ P v))) args s 0 0 (zv_fr S)) 0 0 32 [(0, .ref (S.heap.size + 68)), (1, .int p1), (2, .int r3), (3, .int a8), (4, .int a9)] [] SH0 m) (fM_mean_l32 p1 m r3) _ (fun P7 hl7 hr7 a8 a9 h => ?_) zFU 0 0 (zw_b1 h)
      rw [fM_mean_l32] at h
      refine zr_iload X dX11_mean_32 4 rfl ?_
      refine zr_aload_n X dX11_mean_34 0 rfl ?_
      refine zr_getI X dX11_mean_35 zd_X11_13 rfl zo_68 (by rw [zk_11 zo_68]; decide) ?_
      refine zr_aload_n X dX11_mean_38 0 rfl ?_
      refine zr_getI X dX11_mean_39 zd_X11_13 rfl zo_68 (by rw [zk_11 zo_68]; decide) ?_
      refine zr_imul X dX11_mean_42 ?_
      refine zr_icmp_ge (tgt := 86) X dX11_mean_43 (by decide) (fun q => ?_) (fun q => ?_)
      · rw [if_neg q] at h
        refine zr_aload_n X dX11_mean_86 0 rfl ?_
        refine zr_iload_n X dX11_mean_87 3 rfl ?_
        refine zr_iload_n X dX11_mean_88 2 rfl ?_
        refine zr_iload_n X dX11_mean_89 1 rfl ?_
        refine zr_callV_l (As := [.int a8, .int r3, .int p1]) (st := []) (d := d - 1) X dX11_mean_90 wm_X11_419 my_X11_fraction mv_X11_fraction zo_68 rfl (Nat.le_of_ble_eq_true rfl) (zRm (by omega)) ⟨Nat.le_refl _, Nat.le_refl _⟩ (x_fM_fraction hG (d - 1) (by omega) a8 r3 p1 m _ (zw_b1 h)) (fun r10 m11 q => ?_)
        obtain ⟨rfl, h⟩ := q
        have h := hr7 _ h
        exact zr_lret X dX11_mean_93 ⟨Nat.le_refl _, Nat.le_refl _⟩ ⟨rfl, _, rfl, rfl, h⟩
      · rw [if_pos q] at h
        refine zr_iload_n X dX11_mean_46 3 rfl ?_
        refine zr_aload_n X dX11_mean_47 0 rfl ?_
        refine zr_getR X dX11_mean_48 zd_X11_36 rfl zo_68 zl_68_8 ?_
        refine zr_iload X dX11_mean_51 4 rfl ?_
        obtain ⟨g0, h⟩ := zg_e h
        refine zr_iald X dX11_mean_53 za_72 (zI_in g0) ?_
        have hJ78 : ∀ (v12 : Int32), zw (fM_mean_j78 a8 a9 v12) P7 → zv_V S D cA p l e (zv_rm d 0 0) s mi args below meth c 5 (MQ below (zv_Q S D cA (zq_l SH0 (fun v m' => m = m' ∧ P v))) args s 0 0 (zv_fr S)) 0 0 78 [(0, .ref (S.heap.size + 68)), (1, .int p1), (2, .int r3), (4, .int a9)] [.int v12, .int a8] SH0 m := by
          intro v12 h
          rw [fM_mean_j78] at h
          refine zr_iadd X dX11_mean_78 ?_
          refine zr_istore_n (lo' := [(3, .int (a8 + v12)), (0, .ref (S.heap.size + 68)), (1, .int p1), (2, .int r3), (4, .int a9)]) X dX11_mean_79 (by decide) rfl ?_
          refine zr_iinc (v := a9 + 1) (lo' := [(4, .int (a9 + 1)), (3, .int (a8 + v12)), (0, .ref (S.heap.size + 68)), (1, .int p1), (2, .int r3)]) X dX11_mean_80 4 rfl rfl (by decide) rfl ?_
          refine zr_goto (tgt := 32) X dX11_mean_83 (by decide) ?_
          have h := hl7 _ h
          exact zr_sub [2, 3, 4, 1, 0] rfl h
        refine zr_if_ge (tgt := 61) X dX11_mean_54 (by decide) (fun q => ?_) (fun q => ?_)
        · rw [if_neg q] at h
          refine zr_aload_n X dX11_mean_61 0 rfl ?_
          refine zr_aload_n X dX11_mean_62 0 rfl ?_
          refine zr_aload_n X dX11_mean_63 0 rfl ?_
          refine zr_getR X dX11_mean_64 zd_X11_36 rfl zo_68 zl_68_8 ?_
          refine zr_iload X dX11_mean_67 4 rfl ?_
          obtain ⟨g0, h⟩ := zg_e h
          refine zr_iald X dX11_mean_69 za_72 (zI_in g0) ?_
          refine zr_iload X dX11_mean_70 4 rfl ?_
          refine zr_callV_i (As := [.int (m.1 72 a9.toNatClampNeg), .int a9]) (st := [.ref (S.heap.size + 68), .int a8]) (d := d - 1) X dX11_mean_72 wm_X11_344 my_X11_seesOf mv_X11_seesOf zo_68 rfl (Nat.le_of_ble_eq_true rfl) (zRm (by omega)) ⟨Nat.le_refl _, Nat.le_refl _⟩ (x_fM_seesOf hG (d - 1) (by omega) (m.1 72 a9.toNatClampNeg) a9 m _ (zw_b1 h)) (fun r13 m14 q => ?_)
          obtain ⟨rfl, h⟩ := q
          refine zr_callV_i (As := [.int r13]) (st := [.int a8]) (d := d - 1) X dX11_mean_75 wm_X11_242 my_X11_ones mv_X11_ones zo_68 rfl (Nat.le_of_ble_eq_true rfl) (zRm (by omega)) ⟨Nat.le_refl _, Nat.le_refl _⟩ (x_fM_ones hG (d - 1) (by omega) r13 m _ (zw_b1 h)) (fun r15 m16 q => ?_)
          obtain ⟨rfl, h⟩ := q
          exact zr_sub [0, 1, 2, 4] rfl (hJ78 r15 h)
        · rw [if_pos q] at h
          refine zr_iconst (v := 0) X dX11_mean_57 (by decide) ?_
          refine zr_goto (tgt := 78) X dX11_mean_58 (by decide) ?_
          exact zr_sub [0, 1, 2, 4] rfl (hJ78 0 h)
    · rw [if_pos q] at h
      refine zr_ldc2 X dX11_mean_23 wc_X11_417 ?_
      exact zr_lret X dX11_mean_26 ⟨Nat.le_refl _, Nat.le_refl _⟩ ⟨rfl, _, rfl, rfl, h⟩

set_option maxRecDepth 100000 in
set_option maxHeartbeats 4000000 in
theorem x_fM_book {l : Launch} {S : State} {D : va_G} {cA : Nat → ClassId} {tb sx : Nat → Nat} (hG : zv_G S D cA tb sx) (d : Nat) (hd : 3 ≤ d) (p1 : Int32) (m : zv_M) (P : Int32 → zv_M → Prop) (h : zw2 (fM_book p1 m) P) : zv_Met l S D cA d 0 0 yX11_book cX11_book 2 (some .int) [.ref (S.heap.size + 68), .int p1] SH0 m (zq_i SH0 P) := by
  refine zv_met false hG pf_X11_book (fun z => by cases z) (Nat.le_of_ble_eq_true rfl) [(0, .ref (S.heap.size + 68)), (1, .int p1)] rfl (fun p e s mi args below meth c X => ?_)
  rw [fM_book] at h
  refine zr_iload_n X dX11_book_0 1 rfl ?_
  refine zr_iconst (v := (-1)) X dX11_book_1 (by decide) ?_
  refine zr_icmp_ne (tgt := 12) X dX11_book_2 (by decide) (fun q => ?_) (fun q => ?_)
  · rw [if_neg q] at h
    refine zr_aload_n X dX11_book_12 0 rfl ?_
    refine zr_iload_n X dX11_book_13 1 rfl ?_
    refine zr_callV_i (As := [.int p1]) (st := []) (d := d - 1) X dX11_book_14 wm_X11_341 my_X11_isSquare mv_X11_isSquare zo_68 rfl (Nat.le_of_ble_eq_true rfl) (zRm (by omega)) ⟨Nat.le_refl _, Nat.le_refl _⟩ (x_fM_isSquare hG (d - 1) (by omega) p1 m _ (zw_b12 h)) (fun r1 m2 q => ?_)
    obtain ⟨rfl, h⟩ := q
    refine zr_if_ne (tgt := 22) X dX11_book_17 (by decide) (fun q => ?_) (fun q => ?_)
    · rw [if_neg q] at h
      refine zr_aload_n X dX11_book_22 0 rfl ?_
      refine zr_getI X dX11_book_23 zd_X11_163 rfl zo_68 (by rw [zk_11 zo_68]; decide) ?_
      refine zr_bipush (v := 12) X dX11_book_26 (by decide) ?_
      refine zr_icmp_ne (tgt := 34) X dX11_book_28 (by decide) (fun q => ?_) (fun q => ?_)
      · rw [if_neg q] at h
        refine zr_aload_n X dX11_book_34 0 rfl ?_
        refine zr_getR X dX11_book_35 zd_X11_166 rfl zo_68 zl_68_51 ?_
        refine zr_aload_n X dX11_book_38 0 rfl ?_
        refine zr_getI X dX11_book_39 zd_X11_163 rfl zo_68 (by rw [zk_11 zo_68]; decide) ?_
        refine zr_iload_n X dX11_book_42 1 rfl ?_
        obtain ⟨g0, h⟩ := zg_e2 h
        refine zr_iast X dX11_book_43 za_101 (zI_in g0) ?_
        refine zr_aload_n X dX11_book_44 0 rfl ?_
        refine zr_dup X dX11_book_45 rfl ?_
        refine zr_getI X dX11_book_46 zd_X11_163 rfl zo_68 (by rw [zk_11 zo_68]; decide) ?_
        refine zr_iconst (v := 1) X dX11_book_49 (by decide) ?_
        refine zr_iadd X dX11_book_50 ?_
        refine zr_put X dX11_book_51 zd_X11_163 rfl rfl rfl zo_68 (by rw [zk_11 zo_68]; decide) ?_
        refine zr_aload_n X dX11_book_54 0 rfl ?_
        refine zr_getI X dX11_book_55 zd_X11_163 rfl zo_68 (by rw [zk_11 zo_68]; decide) ?_
        exact zr_iret X dX11_book_58 rfl ⟨Nat.le_refl _, Nat.le_refl _⟩ ⟨rfl, _, rfl, h⟩
      · rw [if_pos q] at h
        refine zr_bipush (v := (-4)) X dX11_book_31 (by decide) ?_
        exact zr_iret X dX11_book_33 rfl ⟨Nat.le_refl _, Nat.le_refl _⟩ ⟨rfl, _, rfl, h⟩
    · rw [if_pos q] at h
      refine zr_iconst (v := (-1)) X dX11_book_20 (by decide) ?_
      exact zr_iret X dX11_book_21 rfl ⟨Nat.le_refl _, Nat.le_refl _⟩ ⟨rfl, _, rfl, h⟩
  · rw [if_pos q] at h
    refine zr_aload_n X dX11_book_5 0 rfl ?_
    refine zr_iconst (v := 0) X dX11_book_6 (by decide) ?_
    refine zr_put X dX11_book_7 zd_X11_163 rfl rfl rfl zo_68 (by rw [zk_11 zo_68]; decide) ?_
    refine zr_iconst (v := 0) X dX11_book_10 (by decide) ?_
    exact zr_iret X dX11_book_11 rfl ⟨Nat.le_refl _, Nat.le_refl _⟩ ⟨rfl, _, rfl, h⟩

set_option maxRecDepth 100000 in
set_option maxHeartbeats 4000000 in
theorem x_fM_looked {l : Launch} {S : State} {D : va_G} {cA : Nat → ClassId} {tb sx : Nat → Nat} (hG : zv_G S D cA tb sx) (d : Nat) (hd : 1 ≤ d) (m : zv_M) (P : Int32 → Prop) (h : zw (fM_looked m) P) : zv_Met l S D cA d 0 0 yX11_looked cX11_looked 2 (some .int) [.ref (S.heap.size + 68)] SH0 m (zq_i SH0 (fun v m' => m = m' ∧ P v)) := by
  refine zv_met false hG pf_X11_looked (fun z => by cases z) (Nat.le_of_ble_eq_true rfl) [(0, .ref (S.heap.size + 68))] rfl (fun p e s mi args below meth c X => ?_)
  rw [fM_looked] at h
  refine zr_iconst (v := 0) X dX11_looked_0 (by decide) ?_
  refine zr_istore_n (lo' := [(1, .int 0), (0, .ref (S.heap.size + 68))]) X dX11_looked_1 (by decide) rfl ?_
  refine zr_sub [1, 0] rfl ?_
  refine zl_w1 (fun a2 => zv_V S D cA p l e (zv_rm d 0 0) s mi args below meth c 2 (MQ below (zv_Q S D cA (zq_i SH0 (fun v m' => m = m' ∧ P v))) args s 0 0 (zv_fr S)) 0 0 2 [(0, .ref (S.heap.size + 68)), (1, .int a2)] [] SH0 m) (fM_looked_l2 m) _ (fun P1 hl1 hr1 a2 h => ?_) zFU 0 (zw_b1 h)
  rw [fM_looked_l2] at h
  refine zr_iload_n X dX11_looked_2 1 rfl ?_
  refine zr_aload_n X dX11_looked_3 0 rfl ?_
  refine zr_getI X dX11_looked_4 zd_X11_163 rfl zo_68 (by rw [zk_11 zo_68]; decide) ?_
  refine zr_icmp_ge (tgt := 32) X dX11_looked_7 (by decide) (fun q => ?_) (fun q => ?_)
  · rw [if_neg q] at h
    refine zr_bipush (v := (-5)) X dX11_looked_32 (by decide) ?_
    have h := hr1 _ h
    exact zr_iret X dX11_looked_34 rfl ⟨Nat.le_refl _, Nat.le_refl _⟩ ⟨rfl, _, rfl, rfl, h⟩
  · rw [if_pos q] at h
    refine zr_aload_n X dX11_looked_10 0 rfl ?_
    refine zr_getR X dX11_looked_11 zd_X11_36 rfl zo_68 zl_68_8 ?_
    refine zr_aload_n X dX11_looked_14 0 rfl ?_
    refine zr_getR X dX11_looked_15 zd_X11_166 rfl zo_68 zl_68_51 ?_
    refine zr_iload_n X dX11_looked_18 1 rfl ?_
    obtain ⟨g0, h⟩ := zg_e h
    refine zr_iald X dX11_looked_19 za_101 (zI_in g0) ?_
    obtain ⟨g0, h⟩ := zg_e h
    refine zr_iald X dX11_looked_20 za_72 (zI_in g0) ?_
    refine zr_if_ge (tgt := 26) X dX11_looked_21 (by decide) (fun q => ?_) (fun q => ?_)
    · rw [if_neg q] at h
      refine zr_iinc (v := a2 + 1) (lo' := [(1, .int (a2 + 1)), (0, .ref (S.heap.size + 68))]) X dX11_looked_26 1 rfl rfl (by decide) rfl ?_
      refine zr_goto (tgt := 2) X dX11_looked_29 (by decide) ?_
      have h := hl1 _ h
      exact zr_sub [1, 0] rfl h
    · rw [if_pos q] at h
      refine zr_iload_n X dX11_looked_24 1 rfl ?_
      have h := hr1 _ h
      exact zr_iret X dX11_looked_25 rfl ⟨Nat.le_refl _, Nat.le_refl _⟩ ⟨rfl, _, rfl, rfl, h⟩

set_option maxRecDepth 100000 in
set_option maxHeartbeats 4000000 in
theorem x_fM_isTape {l : Launch} {S : State} {D : va_G} {cA : Nat → ClassId} {tb sx : Nat → Nat} (hG : zv_G S D cA tb sx) (d : Nat) (hd : 2 ≤ d) (p1 : Int32) (m : zv_M) (P : Int32 → Prop) (h : zw (fM_isTape p1) P) : zv_Met l S D cA d 0 0 yX11_isTape cX11_isTape 2 (some .boolean) [.ref (S.heap.size + 68), .int p1] SH0 m (zq_i SH0 (fun v m' => m = m' ∧ P v)) := by
  refine zv_met false hG pf_X11_isTape (fun z => by cases z) (Nat.le_of_ble_eq_true rfl) [(0, .ref (S.heap.size + 68)), (1, .int p1)] rfl (fun p e s mi args below meth c X => ?_)
  rw [fM_isTape] at h
  refine zr_aload_n X dX11_isTape_0 0 rfl ?_
  refine zr_iload_n X dX11_isTape_1 1 rfl ?_
  refine zr_iconst (v := 0) X dX11_isTape_2 (by decide) ?_
  refine zr_iconst (v := 5) X dX11_isTape_3 (by decide) ?_
  refine zr_callV_i (As := [.int p1, .int 0, .int 5]) (st := []) (d := d - 1) X dX11_isTape_4 wm_X11_230 my_X11_in mv_X11_in zo_68 rfl (Nat.le_of_ble_eq_true rfl) (zRm (by omega)) ⟨Nat.le_refl _, Nat.le_refl _⟩ (x_fM_in hG (d - 1) (by omega) p1 0 5 m _ (zw_b1 h)) (fun r1 m2 q => ?_)
  obtain ⟨rfl, h⟩ := q
  obtain ⟨g0, h⟩ := zg_e h
  exact zr_iret X dX11_isTape_7 (zB_n g0) ⟨Nat.le_refl _, Nat.le_refl _⟩ ⟨rfl, _, rfl, rfl, h⟩

set_option maxRecDepth 100000 in
set_option maxHeartbeats 4000000 in
theorem x_fM_judge {l : Launch} {S : State} {D : va_G} {cA : Nat → ClassId} {tb sx : Nat → Nat} (hG : zv_G S D cA tb sx) (d : Nat) (hd : 3 ≤ d) (p1 : Int32) (p2 : Int32) (m : zv_M) (P : Int32 → Prop) (h : zw (fM_judge p1 p2 m) P) : zv_Met l S D cA d 0 0 yX11_judge cX11_judge 4 (some .int) [.ref (S.heap.size + 68), .int p1, .int p2] SH0 m (zq_i SH0 (fun v m' => m = m' ∧ P v)) := by
  refine zv_met false hG pf_X11_judge (fun z => by cases z) (Nat.le_of_ble_eq_true rfl) [(0, .ref (S.heap.size + 68)), (1, .int p1), (2, .int p2)] rfl (fun p e s mi args below meth c X => ?_)
  rw [fM_judge] at h
  refine zr_aload_n X dX11_judge_0 0 rfl ?_
  refine zr_iload_n X dX11_judge_1 1 rfl ?_
  refine zr_callV_i (As := [.int p1]) (st := []) (d := d - 1) X dX11_judge_2 wm_X11_423 my_X11_isTape mv_X11_isTape zo_68 rfl (Nat.le_of_ble_eq_true rfl) (zRm (by omega)) ⟨Nat.le_refl _, Nat.le_refl _⟩ (x_fM_isTape hG (d - 1) (by omega) p1 m _ (zw_b1 h)) (fun r1 m2 q => ?_)
  obtain ⟨rfl, h⟩ := q
  refine zr_if_ne (tgt := 10) X dX11_judge_5 (by decide) (fun q => ?_) (fun q => ?_)
  · rw [if_neg q] at h
    refine zr_aload_n X dX11_judge_10 0 rfl ?_
    refine zr_getR X dX11_judge_11 zd_X11_217 rfl zo_68 zl_68_68 ?_
    refine zr_iload_n X dX11_judge_14 1 rfl ?_
    obtain ⟨g0, h⟩ := zg_e h
    refine zr_iald X dX11_judge_15 za_111 (zI_in g0) ?_
    have hJ32 : zw (fM_judge_j32 p1 p2 m) P → zv_V S D cA p l e (zv_rm d 0 0) s mi args below meth c 4 (MQ below (zv_Q S D cA (zq_i SH0 (fun v m' => m = m' ∧ P v))) args s 0 0 (zv_fr S)) 0 0 32 [(0, .ref (S.heap.size + 68)), (1, .int p1), (2, .int p2)] [] SH0 m := by
      intro h
      rw [fM_judge_j32] at h
      refine zr_iconst (v := 0) X dX11_judge_32 (by decide) ?_
      refine zr_istore_n (lo' := [(3, .int 0), (0, .ref (S.heap.size + 68)), (1, .int p1), (2, .int p2)]) X dX11_judge_33 (by decide) rfl ?_
      refine zr_sub [1, 2, 3, 0] rfl ?_
      refine zl_w1 (fun a4 => zv_V S D cA p l e (zv_rm d 0 0) s mi args below meth c 4 (MQ below (zv_Q S D cA (zq_i SH0 (fun v m' => m = m' ∧ P v))) args s 0 0 (zv_fr S)) 0 0 34 [(0, .ref (S.heap.size + 68)), (1, .int p1), (2, .int p2), (3, .int a4)] [] SH0 m) (fM_judge_l34 p1 p2 m) _ (fun P3 hl3 hr3 a4 h => ?_) zFU 0 (zw_b1 h)
      rw [fM_judge_l34] at h
      refine zr_iload_n X dX11_judge_34 3 rfl ?_
      refine zr_aload_n X dX11_judge_35 0 rfl ?_
      refine zr_getI X dX11_judge_36 zd_X11_13 rfl zo_68 (by rw [zk_11 zo_68]; decide) ?_
      refine zr_aload_n X dX11_judge_39 0 rfl ?_
      refine zr_getI X dX11_judge_40 zd_X11_13 rfl zo_68 (by rw [zk_11 zo_68]; decide) ?_
      refine zr_imul X dX11_judge_43 ?_
      refine zr_icmp_ge (tgt := 118) X dX11_judge_44 (by decide) (fun q => ?_) (fun q => ?_)
      · rw [if_neg q] at h
        refine zr_bipush (v := (-5)) X dX11_judge_118 (by decide) ?_
        have h := hr3 _ h
        exact zr_iret X dX11_judge_120 rfl ⟨Nat.le_refl _, Nat.le_refl _⟩ ⟨rfl, _, rfl, rfl, h⟩
      · rw [if_pos q] at h
        refine zr_aload_n X dX11_judge_47 0 rfl ?_
        refine zr_getR X dX11_judge_48 zd_X11_217 rfl zo_68 zl_68_68 ?_
        refine zr_iload_n X dX11_judge_51 1 rfl ?_
        obtain ⟨g0, h⟩ := zg_e h
        refine zr_iald X dX11_judge_52 za_111 (zI_in g0) ?_
        refine zr_if_lt (tgt := 74) X dX11_judge_53 (by decide) (fun q => ?_) (fun q => ?_)
        · rw [if_pos q] at h
          refine zr_bipush (v := 100) X dX11_judge_74 (by decide) ?_
          refine zr_iload_n X dX11_judge_76 3 rfl ?_
          refine zr_iadd X dX11_judge_77 ?_
          have h := hr3 _ h
          exact zr_iret X dX11_judge_78 rfl ⟨Nat.le_refl _, Nat.le_refl _⟩ ⟨rfl, _, rfl, rfl, h⟩
        · rw [if_neg q] at h
          refine zr_iload_n X dX11_judge_56 2 rfl ?_
          refine zr_if_lt (tgt := 74) X dX11_judge_57 (by decide) (fun q => ?_) (fun q => ?_)
          · rw [if_pos q] at h
            refine zr_bipush (v := 100) X dX11_judge_74 (by decide) ?_
            refine zr_iload_n X dX11_judge_76 3 rfl ?_
            refine zr_iadd X dX11_judge_77 ?_
            have h := hr3 _ h
            exact zr_iret X dX11_judge_78 rfl ⟨Nat.le_refl _, Nat.le_refl _⟩ ⟨rfl, _, rfl, rfl, h⟩
          · rw [if_neg q] at h
            refine zr_iload_n X dX11_judge_60 2 rfl ?_
            refine zr_aload_n X dX11_judge_61 0 rfl ?_
            refine zr_getR X dX11_judge_62 zd_X11_220 rfl zo_68 zl_68_69 ?_
            refine zr_iload_n X dX11_judge_65 1 rfl ?_
            obtain ⟨g0, h⟩ := zg_e h
            refine zr_iald X dX11_judge_66 za_112 (zI_in g0) ?_
            refine zr_iload_n X dX11_judge_67 3 rfl ?_
            refine zr_isub X dX11_judge_68 ?_
            refine zr_iconst (v := 1) X dX11_judge_69 (by decide) ?_
            refine zr_isub X dX11_judge_70 ?_
            refine zr_icmp_le (tgt := 79) X dX11_judge_71 (by decide) (fun q => ?_) (fun q => ?_)
            · rw [if_neg q] at h
              refine zr_aload_n X dX11_judge_79 0 rfl ?_
              refine zr_getR X dX11_judge_80 zd_X11_223 rfl zo_68 zl_68_70 ?_
              refine zr_bipush (v := 60) X dX11_judge_83 (by decide) ?_
              refine zr_iload_n X dX11_judge_85 1 rfl ?_
              refine zr_imul X dX11_judge_86 ?_
              refine zr_iload_n X dX11_judge_87 2 rfl ?_
              refine zr_iadd X dX11_judge_88 ?_
              refine zr_iload_n X dX11_judge_89 3 rfl ?_
              refine zr_iadd X dX11_judge_90 ?_
              obtain ⟨g0, h⟩ := zg_e h
              refine zr_lald X dX11_judge_91 za_113 (zI_in g0) ?_
              refine zr_aload_n X dX11_judge_92 0 rfl ?_
              refine zr_getR X dX11_judge_93 zd_X11_36 rfl zo_68 zl_68_8 ?_
              refine zr_iload_n X dX11_judge_96 3 rfl ?_
              obtain ⟨g0, h⟩ := zg_e h
              refine zr_iald X dX11_judge_97 za_72 (zI_in g0) ?_
              have hJ106 : ∀ (v5 : Int64), zw (fM_judge_j106 p1 p2 m a4 v5) P3 → zv_V S D cA p l e (zv_rm d 0 0) s mi args below meth c 4 (MQ below (zv_Q S D cA (zq_i SH0 (fun v m' => m = m' ∧ P v))) args s 0 0 (zv_fr S)) 0 0 106 [(0, .ref (S.heap.size + 68)), (1, .int p1), (2, .int p2), (3, .int a4)] [.long v5, .long (m.2 113 (((60 * p1) + p2) + a4).toNatClampNeg)] SH0 m := by
                intro v5 h
                rw [fM_judge_j106] at h
                refine zr_lcmp X dX11_judge_106 ?_
                refine zr_if_eq (tgt := 112) X dX11_judge_107 (by decide) (fun q => ?_) (fun q => ?_)
                · rw [if_pos q] at h
                  refine zr_iinc (v := a4 + 1) (lo' := [(3, .int (a4 + 1)), (0, .ref (S.heap.size + 68)), (1, .int p1), (2, .int p2)]) X dX11_judge_112 3 rfl rfl (by decide) rfl ?_
                  refine zr_goto (tgt := 34) X dX11_judge_115 (by decide) ?_
                  have h := hl3 _ h
                  exact zr_sub [1, 2, 3, 0] rfl h
                · rw [if_neg q] at h
                  refine zr_iload_n X dX11_judge_110 3 rfl ?_
                  have h := hr3 _ h
                  exact zr_iret X dX11_judge_111 rfl ⟨Nat.le_refl _, Nat.le_refl _⟩ ⟨rfl, _, rfl, rfl, h⟩
              refine zr_if_ge (tgt := 105) X dX11_judge_98 (by decide) (fun q => ?_) (fun q => ?_)
              · rw [if_neg q] at h
                refine zr_lconst (v := 1) X dX11_judge_105 (by decide) ?_
                exact zr_sub [0, 1, 2, 3] rfl (hJ106 1 h)
              · rw [if_pos q] at h
                refine zr_lconst (v := 0) X dX11_judge_101 (by decide) ?_
                refine zr_goto (tgt := 106) X dX11_judge_102 (by decide) ?_
                exact zr_sub [0, 1, 2, 3] rfl (hJ106 0 h)
            · rw [if_pos q] at h
              refine zr_bipush (v := 100) X dX11_judge_74 (by decide) ?_
              refine zr_iload_n X dX11_judge_76 3 rfl ?_
              refine zr_iadd X dX11_judge_77 ?_
              have h := hr3 _ h
              exact zr_iret X dX11_judge_78 rfl ⟨Nat.le_refl _, Nat.le_refl _⟩ ⟨rfl, _, rfl, rfl, h⟩
    refine zr_if_lt (tgt := 32) X dX11_judge_16 (by decide) (fun q => ?_) (fun q => ?_)
    · rw [if_pos q] at h
      exact zr_sub [0, 1, 2] rfl (hJ32 h)
    · rw [if_neg q] at h
      refine zr_aload_n X dX11_judge_19 0 rfl ?_
      refine zr_getR X dX11_judge_20 zd_X11_217 rfl zo_68 zl_68_68 ?_
      refine zr_iload_n X dX11_judge_23 1 rfl ?_
      obtain ⟨g0, h⟩ := zg_e h
      refine zr_iald X dX11_judge_24 za_111 (zI_in g0) ?_
      refine zr_iconst (v := 4) X dX11_judge_25 (by decide) ?_
      refine zr_icmp_eq (tgt := 32) X dX11_judge_26 (by decide) (fun q => ?_) (fun q => ?_)
      · rw [if_pos q] at h
        exact zr_sub [0, 1, 2] rfl (hJ32 h)
      · rw [if_neg q] at h
        refine zr_bipush (v := (-12)) X dX11_judge_29 (by decide) ?_
        exact zr_iret X dX11_judge_31 rfl ⟨Nat.le_refl _, Nat.le_refl _⟩ ⟨rfl, _, rfl, rfl, h⟩
  · rw [if_pos q] at h
    refine zr_iconst (v := (-1)) X dX11_judge_8 (by decide) ?_
    exact zr_iret X dX11_judge_9 rfl ⟨Nat.le_refl _, Nat.le_refl _⟩ ⟨rfl, _, rfl, rfl, h⟩

set_option maxRecDepth 100000 in
set_option maxHeartbeats 4000000 in
theorem x_fM_image {l : Launch} {S : State} {D : va_G} {cA : Nat → ClassId} {tb sx : Nat → Nat} (hG : zv_G S D cA tb sx) (d : Nat) (hd : 1 ≤ d) (m : zv_M) (P : Int32 → zv_M → Prop) (h : zw2 (fM_image m) P) : zv_Met l S D cA d 0 0 yX11_image cX11_image 2 (some .int) [.ref (S.heap.size + 68)] SH0 m (zq_i SH0 P) := by
  refine zv_met false hG pf_X11_image (fun z => by cases z) (Nat.le_of_ble_eq_true rfl) [(0, .ref (S.heap.size + 68))] rfl (fun p e s mi args below meth c X => ?_)
  rw [fM_image] at h
  refine zr_aload_n X dX11_image_0 0 rfl ?_
  refine zr_iconst (v := 1) X dX11_image_1 (by decide) ?_
  refine zr_put X dX11_image_2 zd_X11_169 rfl rfl rfl zo_68 (by rw [zk_11 zo_68]; decide) ?_
  refine zr_aload_n X dX11_image_5 0 rfl ?_
  refine zr_aload_n X dX11_image_6 0 rfl ?_
  refine zr_getI X dX11_image_7 zd_X11_42 rfl zo_68 (by rw [zk_11 zo_68]; decide) ?_
  refine zr_put X dX11_image_10 zd_X11_172 rfl rfl rfl zo_68 (by rw [zk_11 zo_68]; decide) ?_
  refine zr_aload_n X dX11_image_13 0 rfl ?_
  refine zr_aload_n X dX11_image_14 0 rfl ?_
  refine zr_getI X dX11_image_15 zd_X11_7 rfl zo_68 (by rw [zk_11 zo_68]; decide) ?_
  refine zr_put X dX11_image_18 zd_X11_175 rfl rfl rfl zo_68 (by rw [zk_11 zo_68]; decide) ?_
  refine zr_aload_n X dX11_image_21 0 rfl ?_
  refine zr_aload_n X dX11_image_22 0 rfl ?_
  refine zr_getI X dX11_image_23 zd_X11_139 rfl zo_68 (by rw [zk_11 zo_68]; decide) ?_
  refine zr_put X dX11_image_26 zd_X11_178 rfl rfl rfl zo_68 (by rw [zk_11 zo_68]; decide) ?_
  refine zr_aload_n X dX11_image_29 0 rfl ?_
  refine zr_aload_n X dX11_image_30 0 rfl ?_
  refine zr_getI X dX11_image_31 zd_X11_154 rfl zo_68 (by rw [zk_11 zo_68]; decide) ?_
  refine zr_put X dX11_image_34 zd_X11_181 rfl rfl rfl zo_68 (by rw [zk_11 zo_68]; decide) ?_
  refine zr_aload_n X dX11_image_37 0 rfl ?_
  refine zr_aload_n X dX11_image_38 0 rfl ?_
  refine zr_getI X dX11_image_39 zd_X11_163 rfl zo_68 (by rw [zk_11 zo_68]; decide) ?_
  refine zr_put X dX11_image_42 zd_X11_184 rfl rfl rfl zo_68 (by rw [zk_11 zo_68]; decide) ?_
  refine zr_iconst (v := 0) X dX11_image_45 (by decide) ?_
  refine zr_istore_n (lo' := [(1, .int 0), (0, .ref (S.heap.size + 68))]) X dX11_image_46 (by decide) rfl ?_
  refine zr_sub [1, 0] rfl ?_
  have hR1 : ∀ (m4 : zv_M), zw2 (zb1 (whileN zFU fM_image_l85 (0, m4)) (fun m8 => zb1 (whileN zFU fM_image_l111 (0, m8)) (fun m12 => zb1 (whileN zFU fM_image_l137 (0, m12)) (fun m16 => zb1 (whileN zFU fM_image_l162 (0, m16)) (fun m20 => zb1 (whileN zFU fM_image_l200 (0, m20)) (fun r => some r))))) : Option (Int32 × zv_M)) P → zv_V S D cA p l e (zv_rm d 0 0) s mi args below meth c 2 (MQ below (zv_Q S D cA (zq_i SH0 P)) args s 0 0 (zv_fr S)) 0 0 83 [(0, .ref (S.heap.size + 68))] [] SH0 m4 := by
    intro m4 h
    refine zr_iconst (v := 0) X dX11_image_83 (by decide) ?_
    refine zr_istore_n (lo' := [(1, .int 0), (0, .ref (S.heap.size + 68))]) X dX11_image_84 (by decide) rfl ?_
    refine zr_sub [1, 0] rfl ?_
    have hR5 : ∀ (m8 : zv_M), zw2 (zb1 (whileN zFU fM_image_l111 (0, m8)) (fun m12 => zb1 (whileN zFU fM_image_l137 (0, m12)) (fun m16 => zb1 (whileN zFU fM_image_l162 (0, m16)) (fun m20 => zb1 (whileN zFU fM_image_l200 (0, m20)) (fun r => some r)))) : Option (Int32 × zv_M)) P → zv_V S D cA p l e (zv_rm d 0 0) s mi args below meth c 2 (MQ below (zv_Q S D cA (zq_i SH0 P)) args s 0 0 (zv_fr S)) 0 0 109 [(0, .ref (S.heap.size + 68))] [] SH0 m8 := by
      intro m8 h
      refine zr_iconst (v := 0) X dX11_image_109 (by decide) ?_
      refine zr_istore_n (lo' := [(1, .int 0), (0, .ref (S.heap.size + 68))]) X dX11_image_110 (by decide) rfl ?_
      refine zr_sub [1, 0] rfl ?_
      have hR9 : ∀ (m12 : zv_M), zw2 (zb1 (whileN zFU fM_image_l137 (0, m12)) (fun m16 => zb1 (whileN zFU fM_image_l162 (0, m16)) (fun m20 => zb1 (whileN zFU fM_image_l200 (0, m20)) (fun r => some r))) : Option (Int32 × zv_M)) P → zv_V S D cA p l e (zv_rm d 0 0) s mi args below meth c 2 (MQ below (zv_Q S D cA (zq_i SH0 P)) args s 0 0 (zv_fr S)) 0 0 135 [(0, .ref (S.heap.size + 68))] [] SH0 m12 := by
        intro m12 h
        refine zr_iconst (v := 0) X dX11_image_135 (by decide) ?_
        refine zr_istore_n (lo' := [(1, .int 0), (0, .ref (S.heap.size + 68))]) X dX11_image_136 (by decide) rfl ?_
        refine zr_sub [1, 0] rfl ?_
        have hR13 : ∀ (m16 : zv_M), zw2 (zb1 (whileN zFU fM_image_l162 (0, m16)) (fun m20 => zb1 (whileN zFU fM_image_l200 (0, m20)) (fun r => some r)) : Option (Int32 × zv_M)) P → zv_V S D cA p l e (zv_rm d 0 0) s mi args below meth c 2 (MQ below (zv_Q S D cA (zq_i SH0 P)) args s 0 0 (zv_fr S)) 0 0 160 [(0, .ref (S.heap.size + 68))] [] SH0 m16 := by
          intro m16 h
          refine zr_iconst (v := 0) X dX11_image_160 (by decide) ?_
          refine zr_istore_n (lo' := [(1, .int 0), (0, .ref (S.heap.size + 68))]) X dX11_image_161 (by decide) rfl ?_
          refine zr_sub [1, 0] rfl ?_
          have hR17 : ∀ (m20 : zv_M), zw2 (zb1 (whileN zFU fM_image_l200 (0, m20)) (fun r => some r) : Option (Int32 × zv_M)) P → zv_V S D cA p l e (zv_rm d 0 0) s mi args below meth c 2 (MQ below (zv_Q S D cA (zq_i SH0 P)) args s 0 0 (zv_fr S)) 0 0 198 [(0, .ref (S.heap.size + 68))] [] SH0 m20 := by
            intro m20 h
            refine zr_iconst (v := 0) X dX11_image_198 (by decide) ?_
            refine zr_istore_n (lo' := [(1, .int 0), (0, .ref (S.heap.size + 68))]) X dX11_image_199 (by decide) rfl ?_
            refine zr_sub [1, 0] rfl ?_
            refine zl_w2 (fun a22 m23 => zv_V S D cA p l e (zv_rm d 0 0) s mi args below meth c 2 (MQ below (zv_Q S D cA (zq_i SH0 P)) args s 0 0 (zv_fr S)) 0 0 200 [(0, .ref (S.heap.size + 68)), (1, .int a22)] [] SH0 m23) fM_image_l200 _ (fun P21 hl21 hr21 a22 m23 h => ?_) zFU 0 m20 (zw_b12 h)
            rw [fM_image_l200] at h
            refine zr_iload_n X dX11_image_200 1 rfl ?_
            refine zr_bipush (v := 12) X dX11_image_201 (by decide) ?_
            refine zr_icmp_ge (tgt := 224) X dX11_image_203 (by decide) (fun q => ?_) (fun q => ?_)
            · rw [if_neg q] at h
              refine zr_aload_n X dX11_image_224 0 rfl ?_
              refine zr_getI X dX11_image_225 zd_X11_7 rfl zo_68 (by rw [zk_11 zo_68]; decide) ?_
              have h := hr21 _ h
              exact zr_iret X dX11_image_228 rfl ⟨Nat.le_refl _, Nat.le_refl _⟩ ⟨rfl, _, rfl, h⟩
            · rw [if_pos q] at h
              refine zr_aload_n X dX11_image_206 0 rfl ?_
              refine zr_getR X dX11_image_207 zd_X11_208 rfl zo_68 zl_68_65 ?_
              refine zr_iload_n X dX11_image_210 1 rfl ?_
              refine zr_aload_n X dX11_image_211 0 rfl ?_
              refine zr_getR X dX11_image_212 zd_X11_166 rfl zo_68 zl_68_51 ?_
              refine zr_iload_n X dX11_image_215 1 rfl ?_
              obtain ⟨g0, h⟩ := zg_e h
              refine zr_iald X dX11_image_216 za_101 (zI_in g0) ?_
              obtain ⟨g0, h⟩ := zg_e h
              refine zr_iast X dX11_image_217 za_109 (zI_in g0) ?_
              refine zr_iinc (v := a22 + 1) (lo' := [(1, .int (a22 + 1)), (0, .ref (S.heap.size + 68))]) X dX11_image_218 1 rfl rfl (by decide) rfl ?_
              refine zr_goto (tgt := 200) X dX11_image_221 (by decide) ?_
              have h := hl21 _ h
              exact zr_sub [1, 0] rfl h
          refine zl_w2 (fun a18 m19 => zv_V S D cA p l e (zv_rm d 0 0) s mi args below meth c 2 (MQ below (zv_Q S D cA (zq_i SH0 P)) args s 0 0 (zv_fr S)) 0 0 162 [(0, .ref (S.heap.size + 68)), (1, .int a18)] [] SH0 m19) fM_image_l162 _ (fun P17 hl17 hr17 a18 m19 h => ?_) zFU 0 m16 (zw_b12 h)
          rw [fM_image_l162] at h
          refine zr_iload_n X dX11_image_162 1 rfl ?_
          refine zr_bipush (v := 8) X dX11_image_163 (by decide) ?_
          refine zr_icmp_ge (tgt := 198) X dX11_image_165 (by decide) (fun q => ?_) (fun q => ?_)
          · rw [if_neg q] at h
            have h := hr17 _ h
            exact zr_sub [0] rfl (hR17 m19 h)
          · rw [if_pos q] at h
            refine zr_aload_n X dX11_image_168 0 rfl ?_
            refine zr_getR X dX11_image_169 zd_X11_202 rfl zo_68 zl_68_63 ?_
            refine zr_iload_n X dX11_image_172 1 rfl ?_
            refine zr_aload_n X dX11_image_173 0 rfl ?_
            refine zr_getR X dX11_image_174 zd_X11_157 rfl zo_68 zl_68_48 ?_
            refine zr_iload_n X dX11_image_177 1 rfl ?_
            obtain ⟨g0, h⟩ := zg_e h
            refine zr_iald X dX11_image_178 za_99 (zI_in g0) ?_
            obtain ⟨g0, h⟩ := zg_e h
            refine zr_iast X dX11_image_179 za_107 (zI_in g0) ?_
            refine zr_aload_n X dX11_image_180 0 rfl ?_
            refine zr_getR X dX11_image_181 zd_X11_205 rfl zo_68 zl_68_64 ?_
            refine zr_iload_n X dX11_image_184 1 rfl ?_
            refine zr_aload_n X dX11_image_185 0 rfl ?_
            refine zr_getR X dX11_image_186 zd_X11_160 rfl zo_68 zl_68_49 ?_
            refine zr_iload_n X dX11_image_189 1 rfl ?_
            obtain ⟨g0, h⟩ := zg_e h
            refine zr_iald X dX11_image_190 za_100 (zI_in g0) ?_
            obtain ⟨g0, h⟩ := zg_e h
            refine zr_iast X dX11_image_191 za_108 (zI_in g0) ?_
            refine zr_iinc (v := a18 + 1) (lo' := [(1, .int (a18 + 1)), (0, .ref (S.heap.size + 68))]) X dX11_image_192 1 rfl rfl (by decide) rfl ?_
            refine zr_goto (tgt := 162) X dX11_image_195 (by decide) ?_
            have h := hl17 _ h
            exact zr_sub [1, 0] rfl h
        refine zl_w2 (fun a14 m15 => zv_V S D cA p l e (zv_rm d 0 0) s mi args below meth c 2 (MQ below (zv_Q S D cA (zq_i SH0 P)) args s 0 0 (zv_fr S)) 0 0 137 [(0, .ref (S.heap.size + 68)), (1, .int a14)] [] SH0 m15) fM_image_l137 _ (fun P13 hl13 hr13 a14 m15 h => ?_) zFU 0 m12 (zw_b12 h)
        rw [fM_image_l137] at h
        refine zr_iload_n X dX11_image_137 1 rfl ?_
        refine zr_iconst (v := 5) X dX11_image_138 (by decide) ?_
        refine zr_icmp_ge (tgt := 160) X dX11_image_139 (by decide) (fun q => ?_) (fun q => ?_)
        · rw [if_neg q] at h
          have h := hr13 _ h
          exact zr_sub [0] rfl (hR13 m15 h)
        · rw [if_pos q] at h
          refine zr_aload_n X dX11_image_142 0 rfl ?_
          refine zr_getR X dX11_image_143 zd_X11_199 rfl zo_68 zl_68_62 ?_
          refine zr_iload_n X dX11_image_146 1 rfl ?_
          refine zr_aload_n X dX11_image_147 0 rfl ?_
          refine zr_getR X dX11_image_148 zd_X11_142 rfl zo_68 zl_68_43 ?_
          refine zr_iload_n X dX11_image_151 1 rfl ?_
          obtain ⟨g0, h⟩ := zg_e h
          refine zr_iald X dX11_image_152 za_95 (zI_in g0) ?_
          obtain ⟨g0, h⟩ := zg_e h
          refine zr_iast X dX11_image_153 za_106 (zI_in g0) ?_
          refine zr_iinc (v := a14 + 1) (lo' := [(1, .int (a14 + 1)), (0, .ref (S.heap.size + 68))]) X dX11_image_154 1 rfl rfl (by decide) rfl ?_
          refine zr_goto (tgt := 137) X dX11_image_157 (by decide) ?_
          have h := hl13 _ h
          exact zr_sub [1, 0] rfl h
      refine zl_w2 (fun a10 m11 => zv_V S D cA p l e (zv_rm d 0 0) s mi args below meth c 2 (MQ below (zv_Q S D cA (zq_i SH0 P)) args s 0 0 (zv_fr S)) 0 0 111 [(0, .ref (S.heap.size + 68)), (1, .int a10)] [] SH0 m11) fM_image_l111 _ (fun P9 hl9 hr9 a10 m11 h => ?_) zFU 0 m8 (zw_b12 h)
      rw [fM_image_l111] at h
      refine zr_iload_n X dX11_image_111 1 rfl ?_
      refine zr_bipush (v := 25) X dX11_image_112 (by decide) ?_
      refine zr_icmp_ge (tgt := 135) X dX11_image_114 (by decide) (fun q => ?_) (fun q => ?_)
      · rw [if_neg q] at h
        have h := hr9 _ h
        exact zr_sub [0] rfl (hR9 m11 h)
      · rw [if_pos q] at h
        refine zr_aload_n X dX11_image_117 0 rfl ?_
        refine zr_getR X dX11_image_118 zd_X11_196 rfl zo_68 zl_68_61 ?_
        refine zr_iload_n X dX11_image_121 1 rfl ?_
        refine zr_aload_n X dX11_image_122 0 rfl ?_
        refine zr_getR X dX11_image_123 zd_X11_36 rfl zo_68 zl_68_8 ?_
        refine zr_iload_n X dX11_image_126 1 rfl ?_
        obtain ⟨g0, h⟩ := zg_e h
        refine zr_iald X dX11_image_127 za_72 (zI_in g0) ?_
        obtain ⟨g0, h⟩ := zg_e h
        refine zr_iast X dX11_image_128 za_105 (zI_in g0) ?_
        refine zr_iinc (v := a10 + 1) (lo' := [(1, .int (a10 + 1)), (0, .ref (S.heap.size + 68))]) X dX11_image_129 1 rfl rfl (by decide) rfl ?_
        refine zr_goto (tgt := 111) X dX11_image_132 (by decide) ?_
        have h := hl9 _ h
        exact zr_sub [1, 0] rfl h
    refine zl_w2 (fun a6 m7 => zv_V S D cA p l e (zv_rm d 0 0) s mi args below meth c 2 (MQ below (zv_Q S D cA (zq_i SH0 P)) args s 0 0 (zv_fr S)) 0 0 85 [(0, .ref (S.heap.size + 68)), (1, .int a6)] [] SH0 m7) fM_image_l85 _ (fun P5 hl5 hr5 a6 m7 h => ?_) zFU 0 m4 (zw_b12 h)
    rw [fM_image_l85] at h
    refine zr_iload_n X dX11_image_85 1 rfl ?_
    refine zr_bipush (v := 48) X dX11_image_86 (by decide) ?_
    refine zr_icmp_ge (tgt := 109) X dX11_image_88 (by decide) (fun q => ?_) (fun q => ?_)
    · rw [if_neg q] at h
      have h := hr5 _ h
      exact zr_sub [0] rfl (hR5 m7 h)
    · rw [if_pos q] at h
      refine zr_aload_n X dX11_image_91 0 rfl ?_
      refine zr_getR X dX11_image_92 zd_X11_193 rfl zo_68 zl_68_60 ?_
      refine zr_iload_n X dX11_image_95 1 rfl ?_
      refine zr_aload_n X dX11_image_96 0 rfl ?_
      refine zr_getR X dX11_image_97 zd_X11_33 rfl zo_68 zl_68_7 ?_
      refine zr_iload_n X dX11_image_100 1 rfl ?_
      obtain ⟨g0, h⟩ := zg_e h
      refine zr_iald X dX11_image_101 za_71 (zI_in g0) ?_
      obtain ⟨g0, h⟩ := zg_e h
      refine zr_iast X dX11_image_102 za_104 (zI_in g0) ?_
      refine zr_iinc (v := a6 + 1) (lo' := [(1, .int (a6 + 1)), (0, .ref (S.heap.size + 68))]) X dX11_image_103 1 rfl rfl (by decide) rfl ?_
      refine zr_goto (tgt := 85) X dX11_image_106 (by decide) ?_
      have h := hl5 _ h
      exact zr_sub [1, 0] rfl h
  refine zl_w2 (fun a2 m3 => zv_V S D cA p l e (zv_rm d 0 0) s mi args below meth c 2 (MQ below (zv_Q S D cA (zq_i SH0 P)) args s 0 0 (zv_fr S)) 0 0 47 [(0, .ref (S.heap.size + 68)), (1, .int a2)] [] SH0 m3) fM_image_l47 _ (fun P1 hl1 hr1 a2 m3 h => ?_) zFU 0 (wI (wI (wI (wI (wI (wI m 68 52 1) 68 53 ((wI m 68 52 1).1 68 10)) 68 54 ((wI (wI m 68 52 1) 68 53 ((wI m 68 52 1).1 68 10)).1 68 0)) 68 55 ((wI (wI (wI m 68 52 1) 68 53 ((wI m 68 52 1).1 68 10)) 68 54 ((wI (wI m 68 52 1) 68 53 ((wI m 68 52 1).1 68 10)).1 68 0)).1 68 42)) 68 56 ((wI (wI (wI (wI m 68 52 1) 68 53 ((wI m 68 52 1).1 68 10)) 68 54 ((wI (wI m 68 52 1) 68 53 ((wI m 68 52 1).1 68 10)).1 68 0)) 68 55 ((wI (wI (wI m 68 52 1) 68 53 ((wI m 68 52 1).1 68 10)) 68 54 ((wI (wI m 68 52 1) 68 53 ((wI m 68 52 1).1 68 10)).1 68 0)).1 68 42)).1 68 47)) 68 57 ((wI (wI (wI (wI (wI m 68 52 1) 68 53 ((wI m 68 52 1).1 68 10)) 68 54 ((wI (wI m 68 52 1) 68 53 ((wI m 68 52 1).1 68 10)).1 68 0)) 68 55 ((wI (wI (wI m 68 52 1) 68 53 ((wI m 68 52 1).1 68 10)) 68 54 ((wI (wI m 68 52 1) 68 53 ((wI m 68 52 1).1 68 10)).1 68 0)).1 68 42)) 68 56 ((wI (wI (wI (wI m 68 52 1) 68 53 ((wI m 68 52 1).1 68 10)) 68 54 ((wI (wI m 68 52 1) 68 53 ((wI m 68 52 1).1 68 10)).1 68 0)) 68 55 ((wI (wI (wI m 68 52 1) 68 53 ((wI m 68 52 1).1 68 10)) 68 54 ((wI (wI m 68 52 1) 68 53 ((wI m 68 52 1).1 68 10)).1 68 0)).1 68 42)).1 68 47)).1 68 50)) (zw_b12 h)
  rw [fM_image_l47] at h
  refine zr_iload_n X dX11_image_47 1 rfl ?_
  refine zr_bipush (v := 6) X dX11_image_48 (by decide) ?_
  refine zr_icmp_ge (tgt := 83) X dX11_image_50 (by decide) (fun q => ?_) (fun q => ?_)
  · rw [if_neg q] at h
    have h := hr1 _ h
    exact zr_sub [0] rfl (hR1 m3 h)
  · rw [if_pos q] at h
    refine zr_aload_n X dX11_image_53 0 rfl ?_
    refine zr_getR X dX11_image_54 zd_X11_187 rfl zo_68 zl_68_58 ?_
    refine zr_iload_n X dX11_image_57 1 rfl ?_
    refine zr_aload_n X dX11_image_58 0 rfl ?_
    refine zr_getR X dX11_image_59 zd_X11_26 rfl zo_68 zl_68_5 ?_
    refine zr_iload_n X dX11_image_62 1 rfl ?_
    obtain ⟨g0, h⟩ := zg_e h
    refine zr_iald X dX11_image_63 za_69 (zI_in g0) ?_
    obtain ⟨g0, h⟩ := zg_e h
    refine zr_iast X dX11_image_64 za_102 (zI_in g0) ?_
    refine zr_aload_n X dX11_image_65 0 rfl ?_
    refine zr_getR X dX11_image_66 zd_X11_190 rfl zo_68 zl_68_59 ?_
    refine zr_iload_n X dX11_image_69 1 rfl ?_
    refine zr_aload_n X dX11_image_70 0 rfl ?_
    refine zr_getR X dX11_image_71 zd_X11_30 rfl zo_68 zl_68_6 ?_
    refine zr_iload_n X dX11_image_74 1 rfl ?_
    obtain ⟨g0, h⟩ := zg_e h
    refine zr_iald X dX11_image_75 za_70 (zI_in g0) ?_
    obtain ⟨g0, h⟩ := zg_e h
    refine zr_iast X dX11_image_76 za_103 (zI_in g0) ?_
    refine zr_iinc (v := a2 + 1) (lo' := [(1, .int (a2 + 1)), (0, .ref (S.heap.size + 68))]) X dX11_image_77 1 rfl rfl (by decide) rfl ?_
    refine zr_goto (tgt := 47) X dX11_image_80 (by decide) ?_
    have h := hl1 _ h
    exact zr_sub [1, 0] rfl h

set_option maxRecDepth 100000 in
set_option maxHeartbeats 4000000 in
theorem x_fM_undo {l : Launch} {S : State} {D : va_G} {cA : Nat → ClassId} {tb sx : Nat → Nat} (hG : zv_G S D cA tb sx) (d : Nat) (hd : 6 ≤ d) (m : zv_M) (P : Int32 → zv_M → Prop) (h : zw2 (fM_undo m) P) : zv_Met l S D cA d 0 0 yX11_undo cX11_undo 2 (some .int) [.ref (S.heap.size + 68)] SH0 m (zq_i SH0 P) := by
  refine zv_met false hG pf_X11_undo (fun z => by cases z) (Nat.le_of_ble_eq_true rfl) [(0, .ref (S.heap.size + 68))] rfl (fun p e s mi args below meth c X => ?_)
  rw [fM_undo] at h
  refine zr_aload_n X dX11_undo_0 0 rfl ?_
  refine zr_getI X dX11_undo_1 zd_X11_169 rfl zo_68 (by rw [zk_11 zo_68]; decide) ?_
  refine zr_if_ne (tgt := 10) X dX11_undo_4 (by decide) (fun q => ?_) (fun q => ?_)
  · rw [if_neg q] at h
    refine zr_aload_n X dX11_undo_10 0 rfl ?_
    refine zr_aload_n X dX11_undo_11 0 rfl ?_
    refine zr_getI X dX11_undo_12 zd_X11_172 rfl zo_68 (by rw [zk_11 zo_68]; decide) ?_
    refine zr_put X dX11_undo_15 zd_X11_42 rfl rfl rfl zo_68 (by rw [zk_11 zo_68]; decide) ?_
    refine zr_aload_n X dX11_undo_18 0 rfl ?_
    refine zr_aload_n X dX11_undo_19 0 rfl ?_
    refine zr_getI X dX11_undo_20 zd_X11_175 rfl zo_68 (by rw [zk_11 zo_68]; decide) ?_
    refine zr_put X dX11_undo_23 zd_X11_7 rfl rfl rfl zo_68 (by rw [zk_11 zo_68]; decide) ?_
    refine zr_aload_n X dX11_undo_26 0 rfl ?_
    refine zr_aload_n X dX11_undo_27 0 rfl ?_
    refine zr_getI X dX11_undo_28 zd_X11_178 rfl zo_68 (by rw [zk_11 zo_68]; decide) ?_
    refine zr_put X dX11_undo_31 zd_X11_139 rfl rfl rfl zo_68 (by rw [zk_11 zo_68]; decide) ?_
    refine zr_aload_n X dX11_undo_34 0 rfl ?_
    refine zr_aload_n X dX11_undo_35 0 rfl ?_
    refine zr_getI X dX11_undo_36 zd_X11_181 rfl zo_68 (by rw [zk_11 zo_68]; decide) ?_
    refine zr_put X dX11_undo_39 zd_X11_154 rfl rfl rfl zo_68 (by rw [zk_11 zo_68]; decide) ?_
    refine zr_aload_n X dX11_undo_42 0 rfl ?_
    refine zr_aload_n X dX11_undo_43 0 rfl ?_
    refine zr_getI X dX11_undo_44 zd_X11_184 rfl zo_68 (by rw [zk_11 zo_68]; decide) ?_
    refine zr_put X dX11_undo_47 zd_X11_163 rfl rfl rfl zo_68 (by rw [zk_11 zo_68]; decide) ?_
    refine zr_iconst (v := 0) X dX11_undo_50 (by decide) ?_
    refine zr_istore_n (lo' := [(1, .int 0), (0, .ref (S.heap.size + 68))]) X dX11_undo_51 (by decide) rfl ?_
    refine zr_sub [1, 0] rfl ?_
    have hR1 : ∀ (m4 : zv_M), zw2 (zb1 (whileN zFU fM_undo_l90 (0, m4)) (fun m8 => zb1 (whileN zFU fM_undo_l116 (0, m8)) (fun m12 => zb1 (whileN zFU fM_undo_l142 (0, m12)) (fun m16 => zb1 (whileN zFU fM_undo_l167 (0, m16)) (fun m20 => zb1 (whileN zFU fM_undo_l205 (0, m20)) (fun r => some r))))) : Option (Int32 × zv_M)) P → zv_V S D cA p l e (zv_rm d 0 0) s mi args below meth c 2 (MQ below (zv_Q S D cA (zq_i SH0 P)) args s 0 0 (zv_fr S)) 0 0 88 [(0, .ref (S.heap.size + 68))] [] SH0 m4 := by
      intro m4 h
      refine zr_iconst (v := 0) X dX11_undo_88 (by decide) ?_
      refine zr_istore_n (lo' := [(1, .int 0), (0, .ref (S.heap.size + 68))]) X dX11_undo_89 (by decide) rfl ?_
      refine zr_sub [1, 0] rfl ?_
      have hR5 : ∀ (m8 : zv_M), zw2 (zb1 (whileN zFU fM_undo_l116 (0, m8)) (fun m12 => zb1 (whileN zFU fM_undo_l142 (0, m12)) (fun m16 => zb1 (whileN zFU fM_undo_l167 (0, m16)) (fun m20 => zb1 (whileN zFU fM_undo_l205 (0, m20)) (fun r => some r)))) : Option (Int32 × zv_M)) P → zv_V S D cA p l e (zv_rm d 0 0) s mi args below meth c 2 (MQ below (zv_Q S D cA (zq_i SH0 P)) args s 0 0 (zv_fr S)) 0 0 114 [(0, .ref (S.heap.size + 68))] [] SH0 m8 := by
        intro m8 h
        refine zr_iconst (v := 0) X dX11_undo_114 (by decide) ?_
        refine zr_istore_n (lo' := [(1, .int 0), (0, .ref (S.heap.size + 68))]) X dX11_undo_115 (by decide) rfl ?_
        refine zr_sub [1, 0] rfl ?_
        have hR9 : ∀ (m12 : zv_M), zw2 (zb1 (whileN zFU fM_undo_l142 (0, m12)) (fun m16 => zb1 (whileN zFU fM_undo_l167 (0, m16)) (fun m20 => zb1 (whileN zFU fM_undo_l205 (0, m20)) (fun r => some r))) : Option (Int32 × zv_M)) P → zv_V S D cA p l e (zv_rm d 0 0) s mi args below meth c 2 (MQ below (zv_Q S D cA (zq_i SH0 P)) args s 0 0 (zv_fr S)) 0 0 140 [(0, .ref (S.heap.size + 68))] [] SH0 m12 := by
          intro m12 h
          refine zr_iconst (v := 0) X dX11_undo_140 (by decide) ?_
          refine zr_istore_n (lo' := [(1, .int 0), (0, .ref (S.heap.size + 68))]) X dX11_undo_141 (by decide) rfl ?_
          refine zr_sub [1, 0] rfl ?_
          have hR13 : ∀ (m16 : zv_M), zw2 (zb1 (whileN zFU fM_undo_l167 (0, m16)) (fun m20 => zb1 (whileN zFU fM_undo_l205 (0, m20)) (fun r => some r)) : Option (Int32 × zv_M)) P → zv_V S D cA p l e (zv_rm d 0 0) s mi args below meth c 2 (MQ below (zv_Q S D cA (zq_i SH0 P)) args s 0 0 (zv_fr S)) 0 0 165 [(0, .ref (S.heap.size + 68))] [] SH0 m16 := by
            intro m16 h
            refine zr_iconst (v := 0) X dX11_undo_165 (by decide) ?_
            refine zr_istore_n (lo' := [(1, .int 0), (0, .ref (S.heap.size + 68))]) X dX11_undo_166 (by decide) rfl ?_
            refine zr_sub [1, 0] rfl ?_
            have hR17 : ∀ (m20 : zv_M), zw2 (zb1 (whileN zFU fM_undo_l205 (0, m20)) (fun r => some r) : Option (Int32 × zv_M)) P → zv_V S D cA p l e (zv_rm d 0 0) s mi args below meth c 2 (MQ below (zv_Q S D cA (zq_i SH0 P)) args s 0 0 (zv_fr S)) 0 0 203 [(0, .ref (S.heap.size + 68))] [] SH0 m20 := by
              intro m20 h
              refine zr_iconst (v := 0) X dX11_undo_203 (by decide) ?_
              refine zr_istore_n (lo' := [(1, .int 0), (0, .ref (S.heap.size + 68))]) X dX11_undo_204 (by decide) rfl ?_
              refine zr_sub [1, 0] rfl ?_
              refine zl_w2 (fun a22 m23 => zv_V S D cA p l e (zv_rm d 0 0) s mi args below meth c 2 (MQ below (zv_Q S D cA (zq_i SH0 P)) args s 0 0 (zv_fr S)) 0 0 205 [(0, .ref (S.heap.size + 68)), (1, .int a22)] [] SH0 m23) fM_undo_l205 _ (fun P21 hl21 hr21 a22 m23 h => ?_) zFU 0 m20 (zw_b12 h)
              rw [fM_undo_l205] at h
              refine zr_iload_n X dX11_undo_205 1 rfl ?_
              refine zr_bipush (v := 12) X dX11_undo_206 (by decide) ?_
              refine zr_icmp_ge (tgt := 229) X dX11_undo_208 (by decide) (fun q => ?_) (fun q => ?_)
              · rw [if_neg q] at h
                refine zr_aload_n X dX11_undo_229 0 rfl ?_
                refine zr_callV_v (As := []) (st := []) (d := d - 1) X dX11_undo_230 wm_X11_297 my_X11_layBoard mv_X11_layBoard zo_68 rfl (Nat.le_of_ble_eq_true rfl) (zRm (by omega)) ⟨Nat.le_refl _, Nat.le_refl _⟩ (x_fM_layBoard hG (d - 1) (by omega) m23 _ (zw_b1 h)) (fun m24 q => ?_)
                replace h := q
                refine zr_aload_n X dX11_undo_233 0 rfl ?_
                refine zr_getI X dX11_undo_234 zd_X11_7 rfl zo_68 (by rw [zk_11 zo_68]; decide) ?_
                have h := hr21 _ h
                exact zr_iret X dX11_undo_237 rfl ⟨Nat.le_refl _, Nat.le_refl _⟩ ⟨rfl, _, rfl, h⟩
              · rw [if_pos q] at h
                refine zr_aload_n X dX11_undo_211 0 rfl ?_
                refine zr_getR X dX11_undo_212 zd_X11_166 rfl zo_68 zl_68_51 ?_
                refine zr_iload_n X dX11_undo_215 1 rfl ?_
                refine zr_aload_n X dX11_undo_216 0 rfl ?_
                refine zr_getR X dX11_undo_217 zd_X11_208 rfl zo_68 zl_68_65 ?_
                refine zr_iload_n X dX11_undo_220 1 rfl ?_
                obtain ⟨g0, h⟩ := zg_e h
                refine zr_iald X dX11_undo_221 za_109 (zI_in g0) ?_
                obtain ⟨g0, h⟩ := zg_e h
                refine zr_iast X dX11_undo_222 za_101 (zI_in g0) ?_
                refine zr_iinc (v := a22 + 1) (lo' := [(1, .int (a22 + 1)), (0, .ref (S.heap.size + 68))]) X dX11_undo_223 1 rfl rfl (by decide) rfl ?_
                refine zr_goto (tgt := 205) X dX11_undo_226 (by decide) ?_
                have h := hl21 _ h
                exact zr_sub [1, 0] rfl h
            refine zl_w2 (fun a18 m19 => zv_V S D cA p l e (zv_rm d 0 0) s mi args below meth c 2 (MQ below (zv_Q S D cA (zq_i SH0 P)) args s 0 0 (zv_fr S)) 0 0 167 [(0, .ref (S.heap.size + 68)), (1, .int a18)] [] SH0 m19) fM_undo_l167 _ (fun P17 hl17 hr17 a18 m19 h => ?_) zFU 0 m16 (zw_b12 h)
            rw [fM_undo_l167] at h
            refine zr_iload_n X dX11_undo_167 1 rfl ?_
            refine zr_bipush (v := 8) X dX11_undo_168 (by decide) ?_
            refine zr_icmp_ge (tgt := 203) X dX11_undo_170 (by decide) (fun q => ?_) (fun q => ?_)
            · rw [if_neg q] at h
              have h := hr17 _ h
              exact zr_sub [0] rfl (hR17 m19 h)
            · rw [if_pos q] at h
              refine zr_aload_n X dX11_undo_173 0 rfl ?_
              refine zr_getR X dX11_undo_174 zd_X11_157 rfl zo_68 zl_68_48 ?_
              refine zr_iload_n X dX11_undo_177 1 rfl ?_
              refine zr_aload_n X dX11_undo_178 0 rfl ?_
              refine zr_getR X dX11_undo_179 zd_X11_202 rfl zo_68 zl_68_63 ?_
              refine zr_iload_n X dX11_undo_182 1 rfl ?_
              obtain ⟨g0, h⟩ := zg_e h
              refine zr_iald X dX11_undo_183 za_107 (zI_in g0) ?_
              obtain ⟨g0, h⟩ := zg_e h
              refine zr_iast X dX11_undo_184 za_99 (zI_in g0) ?_
              refine zr_aload_n X dX11_undo_185 0 rfl ?_
              refine zr_getR X dX11_undo_186 zd_X11_160 rfl zo_68 zl_68_49 ?_
              refine zr_iload_n X dX11_undo_189 1 rfl ?_
              refine zr_aload_n X dX11_undo_190 0 rfl ?_
              refine zr_getR X dX11_undo_191 zd_X11_205 rfl zo_68 zl_68_64 ?_
              refine zr_iload_n X dX11_undo_194 1 rfl ?_
              obtain ⟨g0, h⟩ := zg_e h
              refine zr_iald X dX11_undo_195 za_108 (zI_in g0) ?_
              obtain ⟨g0, h⟩ := zg_e h
              refine zr_iast X dX11_undo_196 za_100 (zI_in g0) ?_
              refine zr_iinc (v := a18 + 1) (lo' := [(1, .int (a18 + 1)), (0, .ref (S.heap.size + 68))]) X dX11_undo_197 1 rfl rfl (by decide) rfl ?_
              refine zr_goto (tgt := 167) X dX11_undo_200 (by decide) ?_
              have h := hl17 _ h
              exact zr_sub [1, 0] rfl h
          refine zl_w2 (fun a14 m15 => zv_V S D cA p l e (zv_rm d 0 0) s mi args below meth c 2 (MQ below (zv_Q S D cA (zq_i SH0 P)) args s 0 0 (zv_fr S)) 0 0 142 [(0, .ref (S.heap.size + 68)), (1, .int a14)] [] SH0 m15) fM_undo_l142 _ (fun P13 hl13 hr13 a14 m15 h => ?_) zFU 0 m12 (zw_b12 h)
          rw [fM_undo_l142] at h
          refine zr_iload_n X dX11_undo_142 1 rfl ?_
          refine zr_iconst (v := 5) X dX11_undo_143 (by decide) ?_
          refine zr_icmp_ge (tgt := 165) X dX11_undo_144 (by decide) (fun q => ?_) (fun q => ?_)
          · rw [if_neg q] at h
            have h := hr13 _ h
            exact zr_sub [0] rfl (hR13 m15 h)
          · rw [if_pos q] at h
            refine zr_aload_n X dX11_undo_147 0 rfl ?_
            refine zr_getR X dX11_undo_148 zd_X11_142 rfl zo_68 zl_68_43 ?_
            refine zr_iload_n X dX11_undo_151 1 rfl ?_
            refine zr_aload_n X dX11_undo_152 0 rfl ?_
            refine zr_getR X dX11_undo_153 zd_X11_199 rfl zo_68 zl_68_62 ?_
            refine zr_iload_n X dX11_undo_156 1 rfl ?_
            obtain ⟨g0, h⟩ := zg_e h
            refine zr_iald X dX11_undo_157 za_106 (zI_in g0) ?_
            obtain ⟨g0, h⟩ := zg_e h
            refine zr_iast X dX11_undo_158 za_95 (zI_in g0) ?_
            refine zr_iinc (v := a14 + 1) (lo' := [(1, .int (a14 + 1)), (0, .ref (S.heap.size + 68))]) X dX11_undo_159 1 rfl rfl (by decide) rfl ?_
            refine zr_goto (tgt := 142) X dX11_undo_162 (by decide) ?_
            have h := hl13 _ h
            exact zr_sub [1, 0] rfl h
        refine zl_w2 (fun a10 m11 => zv_V S D cA p l e (zv_rm d 0 0) s mi args below meth c 2 (MQ below (zv_Q S D cA (zq_i SH0 P)) args s 0 0 (zv_fr S)) 0 0 116 [(0, .ref (S.heap.size + 68)), (1, .int a10)] [] SH0 m11) fM_undo_l116 _ (fun P9 hl9 hr9 a10 m11 h => ?_) zFU 0 m8 (zw_b12 h)
        rw [fM_undo_l116] at h
        refine zr_iload_n X dX11_undo_116 1 rfl ?_
        refine zr_bipush (v := 25) X dX11_undo_117 (by decide) ?_
        refine zr_icmp_ge (tgt := 140) X dX11_undo_119 (by decide) (fun q => ?_) (fun q => ?_)
        · rw [if_neg q] at h
          have h := hr9 _ h
          exact zr_sub [0] rfl (hR9 m11 h)
        · rw [if_pos q] at h
          refine zr_aload_n X dX11_undo_122 0 rfl ?_
          refine zr_getR X dX11_undo_123 zd_X11_36 rfl zo_68 zl_68_8 ?_
          refine zr_iload_n X dX11_undo_126 1 rfl ?_
          refine zr_aload_n X dX11_undo_127 0 rfl ?_
          refine zr_getR X dX11_undo_128 zd_X11_196 rfl zo_68 zl_68_61 ?_
          refine zr_iload_n X dX11_undo_131 1 rfl ?_
          obtain ⟨g0, h⟩ := zg_e h
          refine zr_iald X dX11_undo_132 za_105 (zI_in g0) ?_
          obtain ⟨g0, h⟩ := zg_e h
          refine zr_iast X dX11_undo_133 za_72 (zI_in g0) ?_
          refine zr_iinc (v := a10 + 1) (lo' := [(1, .int (a10 + 1)), (0, .ref (S.heap.size + 68))]) X dX11_undo_134 1 rfl rfl (by decide) rfl ?_
          refine zr_goto (tgt := 116) X dX11_undo_137 (by decide) ?_
          have h := hl9 _ h
          exact zr_sub [1, 0] rfl h
      refine zl_w2 (fun a6 m7 => zv_V S D cA p l e (zv_rm d 0 0) s mi args below meth c 2 (MQ below (zv_Q S D cA (zq_i SH0 P)) args s 0 0 (zv_fr S)) 0 0 90 [(0, .ref (S.heap.size + 68)), (1, .int a6)] [] SH0 m7) fM_undo_l90 _ (fun P5 hl5 hr5 a6 m7 h => ?_) zFU 0 m4 (zw_b12 h)
      rw [fM_undo_l90] at h
      refine zr_iload_n X dX11_undo_90 1 rfl ?_
      refine zr_bipush (v := 48) X dX11_undo_91 (by decide) ?_
      refine zr_icmp_ge (tgt := 114) X dX11_undo_93 (by decide) (fun q => ?_) (fun q => ?_)
      · rw [if_neg q] at h
        have h := hr5 _ h
        exact zr_sub [0] rfl (hR5 m7 h)
      · rw [if_pos q] at h
        refine zr_aload_n X dX11_undo_96 0 rfl ?_
        refine zr_getR X dX11_undo_97 zd_X11_33 rfl zo_68 zl_68_7 ?_
        refine zr_iload_n X dX11_undo_100 1 rfl ?_
        refine zr_aload_n X dX11_undo_101 0 rfl ?_
        refine zr_getR X dX11_undo_102 zd_X11_193 rfl zo_68 zl_68_60 ?_
        refine zr_iload_n X dX11_undo_105 1 rfl ?_
        obtain ⟨g0, h⟩ := zg_e h
        refine zr_iald X dX11_undo_106 za_104 (zI_in g0) ?_
        obtain ⟨g0, h⟩ := zg_e h
        refine zr_iast X dX11_undo_107 za_71 (zI_in g0) ?_
        refine zr_iinc (v := a6 + 1) (lo' := [(1, .int (a6 + 1)), (0, .ref (S.heap.size + 68))]) X dX11_undo_108 1 rfl rfl (by decide) rfl ?_
        refine zr_goto (tgt := 90) X dX11_undo_111 (by decide) ?_
        have h := hl5 _ h
        exact zr_sub [1, 0] rfl h
    refine zl_w2 (fun a2 m3 => zv_V S D cA p l e (zv_rm d 0 0) s mi args below meth c 2 (MQ below (zv_Q S D cA (zq_i SH0 P)) args s 0 0 (zv_fr S)) 0 0 52 [(0, .ref (S.heap.size + 68)), (1, .int a2)] [] SH0 m3) fM_undo_l52 _ (fun P1 hl1 hr1 a2 m3 h => ?_) zFU 0 (wI (wI (wI (wI (wI m 68 10 (m.1 68 53)) 68 0 ((wI m 68 10 (m.1 68 53)).1 68 54)) 68 42 ((wI (wI m 68 10 (m.1 68 53)) 68 0 ((wI m 68 10 (m.1 68 53)).1 68 54)).1 68 55)) 68 47 ((wI (wI (wI m 68 10 (m.1 68 53)) 68 0 ((wI m 68 10 (m.1 68 53)).1 68 54)) 68 42 ((wI (wI m 68 10 (m.1 68 53)) 68 0 ((wI m 68 10 (m.1 68 53)).1 68 54)).1 68 55)).1 68 56)) 68 50 ((wI (wI (wI (wI m 68 10 (m.1 68 53)) 68 0 ((wI m 68 10 (m.1 68 53)).1 68 54)) 68 42 ((wI (wI m 68 10 (m.1 68 53)) 68 0 ((wI m 68 10 (m.1 68 53)).1 68 54)).1 68 55)) 68 47 ((wI (wI (wI m 68 10 (m.1 68 53)) 68 0 ((wI m 68 10 (m.1 68 53)).1 68 54)) 68 42 ((wI (wI m 68 10 (m.1 68 53)) 68 0 ((wI m 68 10 (m.1 68 53)).1 68 54)).1 68 55)).1 68 56)).1 68 57)) (zw_b12 h)
    rw [fM_undo_l52] at h
    refine zr_iload_n X dX11_undo_52 1 rfl ?_
    refine zr_bipush (v := 6) X dX11_undo_53 (by decide) ?_
    refine zr_icmp_ge (tgt := 88) X dX11_undo_55 (by decide) (fun q => ?_) (fun q => ?_)
    · rw [if_neg q] at h
      have h := hr1 _ h
      exact zr_sub [0] rfl (hR1 m3 h)
    · rw [if_pos q] at h
      refine zr_aload_n X dX11_undo_58 0 rfl ?_
      refine zr_getR X dX11_undo_59 zd_X11_26 rfl zo_68 zl_68_5 ?_
      refine zr_iload_n X dX11_undo_62 1 rfl ?_
      refine zr_aload_n X dX11_undo_63 0 rfl ?_
      refine zr_getR X dX11_undo_64 zd_X11_187 rfl zo_68 zl_68_58 ?_
      refine zr_iload_n X dX11_undo_67 1 rfl ?_
      obtain ⟨g0, h⟩ := zg_e h
      refine zr_iald X dX11_undo_68 za_102 (zI_in g0) ?_
      obtain ⟨g0, h⟩ := zg_e h
      refine zr_iast X dX11_undo_69 za_69 (zI_in g0) ?_
      refine zr_aload_n X dX11_undo_70 0 rfl ?_
      refine zr_getR X dX11_undo_71 zd_X11_30 rfl zo_68 zl_68_6 ?_
      refine zr_iload_n X dX11_undo_74 1 rfl ?_
      refine zr_aload_n X dX11_undo_75 0 rfl ?_
      refine zr_getR X dX11_undo_76 zd_X11_190 rfl zo_68 zl_68_59 ?_
      refine zr_iload_n X dX11_undo_79 1 rfl ?_
      obtain ⟨g0, h⟩ := zg_e h
      refine zr_iald X dX11_undo_80 za_103 (zI_in g0) ?_
      obtain ⟨g0, h⟩ := zg_e h
      refine zr_iast X dX11_undo_81 za_70 (zI_in g0) ?_
      refine zr_iinc (v := a2 + 1) (lo' := [(1, .int (a2 + 1)), (0, .ref (S.heap.size + 68))]) X dX11_undo_82 1 rfl rfl (by decide) rfl ?_
      refine zr_goto (tgt := 52) X dX11_undo_85 (by decide) ?_
      have h := hl1 _ h
      exact zr_sub [1, 0] rfl h
  · rw [if_pos q] at h
    refine zr_bipush (v := (-3)) X dX11_undo_7 (by decide) ?_
    exact zr_iret X dX11_undo_9 rfl ⟨Nat.le_refl _, Nat.le_refl _⟩ ⟨rfl, _, rfl, h⟩

set_option maxRecDepth 100000 in
set_option maxHeartbeats 4000000 in
theorem x_fM_body {l : Launch} {S : State} {D : va_G} {cA : Nat → ClassId} {tb sx : Nat → Nat} (hG : zv_G S D cA tb sx) (d : Nat) (hd : 1 ≤ d) (p1 : Int32) (m : zv_M) (P : zv_M → Prop) (h : zw (fM_body p1 m) P) : zv_Met l S D cA d 0 0 yX11_body cX11_body 2 none [.ref (S.heap.size + 68), .int p1] SH0 m (zq_v SH0 P) := by
  refine zv_met false hG pf_X11_body (fun z => by cases z) (Nat.le_of_ble_eq_true rfl) [(0, .ref (S.heap.size + 68)), (1, .int p1)] rfl (fun p e s mi args below meth c X => ?_)
  rw [fM_body] at h
  refine zr_aload_n X dX11_body_0 0 rfl ?_
  refine zr_getI X dX11_body_1 zd_X11_211 rfl zo_68 (by rw [zk_11 zo_68]; decide) ?_
  refine zr_bipush (v := 20) X dX11_body_4 (by decide) ?_
  refine zr_icmp_ge (tgt := 19) X dX11_body_6 (by decide) (fun q => ?_) (fun q => ?_)
  · rw [if_neg q] at h
    refine zr_aload_n X dX11_body_19 0 rfl ?_
    refine zr_dup X dX11_body_20 rfl ?_
    refine zr_getI X dX11_body_21 zd_X11_211 rfl zo_68 (by rw [zk_11 zo_68]; decide) ?_
    refine zr_iconst (v := 1) X dX11_body_24 (by decide) ?_
    refine zr_iadd X dX11_body_25 ?_
    refine zr_put X dX11_body_26 zd_X11_211 rfl rfl rfl zo_68 (by rw [zk_11 zo_68]; decide) ?_
    exact zr_vret X dX11_body_29 ⟨Nat.le_refl _, Nat.le_refl _⟩ ⟨rfl, rfl, h⟩
  · rw [if_pos q] at h
    refine zr_aload_n X dX11_body_9 0 rfl ?_
    refine zr_getR X dX11_body_10 zd_X11_214 rfl zo_68 zl_68_67 ?_
    refine zr_aload_n X dX11_body_13 0 rfl ?_
    refine zr_getI X dX11_body_14 zd_X11_211 rfl zo_68 (by rw [zk_11 zo_68]; decide) ?_
    refine zr_iload_n X dX11_body_17 1 rfl ?_
    obtain ⟨g0, h⟩ := zg_e h
    refine zr_iast X dX11_body_18 za_110 (zI_in g0) ?_
    refine zr_aload_n X dX11_body_19 0 rfl ?_
    refine zr_dup X dX11_body_20 rfl ?_
    refine zr_getI X dX11_body_21 zd_X11_211 rfl zo_68 (by rw [zk_11 zo_68]; decide) ?_
    refine zr_iconst (v := 1) X dX11_body_24 (by decide) ?_
    refine zr_iadd X dX11_body_25 ?_
    refine zr_put X dX11_body_26 zd_X11_211 rfl rfl rfl zo_68 (by rw [zk_11 zo_68]; decide) ?_
    exact zr_vret X dX11_body_29 ⟨Nat.le_refl _, Nat.le_refl _⟩ ⟨rfl, rfl, h⟩

set_option maxRecDepth 100000 in
set_option maxHeartbeats 4000000 in
theorem x_fM_manLooks {l : Launch} {S : State} {D : va_G} {cA : Nat → ClassId} {tb sx : Nat → Nat} (hG : zv_G S D cA tb sx) (d : Nat) (hd : 2 ≤ d) (p1 : Int32) (p2 : Int32) (m : zv_M) (P : Int32 → zv_M → Prop) (h : zw2 (fM_manLooks p1 p2 m) P) : zv_Met l S D cA d 0 0 yX11_manLooks cX11_manLooks 3 (some .int) [.ref (S.heap.size + 68), .int p1, .int p2] SH0 m (zq_i SH0 P) := by
  refine zv_met false hG pf_X11_manLooks (fun z => by cases z) (Nat.le_of_ble_eq_true rfl) [(0, .ref (S.heap.size + 68)), (1, .int p1), (2, .int p2)] rfl (fun p e s mi args below meth c X => ?_)
  rw [fM_manLooks] at h
  refine zr_aload_n X dX11_manLooks_0 0 rfl ?_
  refine zr_bipush (v := 10) X dX11_manLooks_1 (by decide) ?_
  refine zr_callV_v (As := [.int 10]) (st := []) (d := d - 1) X dX11_manLooks_3 wm_X11_426 my_X11_body mv_X11_body zo_68 rfl (Nat.le_of_ble_eq_true rfl) (zRm (by omega)) ⟨Nat.le_refl _, Nat.le_refl _⟩ (x_fM_body hG (d - 1) (by omega) 10 m _ (zw_b12 h)) (fun m1 q => ?_)
  replace h := q
  refine zr_iload_n X dX11_manLooks_6 2 rfl ?_
  refine zr_iload_n X dX11_manLooks_7 1 rfl ?_
  refine zr_iadd X dX11_manLooks_8 ?_
  exact zr_iret X dX11_manLooks_9 rfl ⟨Nat.le_refl _, Nat.le_refl _⟩ ⟨rfl, _, rfl, h⟩

set_option maxRecDepth 100000 in
set_option maxHeartbeats 4000000 in
theorem x_fM_looksAct {l : Launch} {S : State} {D : va_G} {cA : Nat → ClassId} {tb sx : Nat → Nat} (hG : zv_G S D cA tb sx) (d : Nat) (hd : 3 ≤ d) (p1 : Int32) (p2 : Int32) (m : zv_M) (P : Int32 → zv_M → Prop) (h : zw2 (fM_looksAct p1 p2 m) P) : zv_Met l S D cA d 0 0 yX11_looksAct cX11_looksAct 3 (some .int) [.ref (S.heap.size + 68), .int p1, .int p2] SH0 m (zq_i SH0 P) := by
  refine zv_met false hG pf_X11_looksAct (fun z => by cases z) (Nat.le_of_ble_eq_true rfl) [(0, .ref (S.heap.size + 68)), (1, .int p1), (2, .int p2)] rfl (fun p e s mi args below meth c X => ?_)
  rw [fM_looksAct] at h
  refine zr_aload_n X dX11_looksAct_0 0 rfl ?_
  refine zr_getR X dX11_looksAct_1 zd_X11_26 rfl zo_68 zl_68_5 ?_
  refine zr_iload_n X dX11_looksAct_4 1 rfl ?_
  obtain ⟨g0, h⟩ := zg_e2 h
  refine zr_iald X dX11_looksAct_5 za_69 (zI_in g0) ?_
  by_cases e0 : m.1 69 p1.toNatClampNeg = 2
  · rw [if_pos e0] at h
    refine zr_tableIn (tgt := 40) X dX11_looksAct_6 2 (by rw [e0]; decide) (by decide) (by decide) rfl (by decide) ?_
    refine zr_aload_n X dX11_looksAct_40 0 rfl ?_
    refine zr_bipush (v := 30) X dX11_looksAct_41 (by decide) ?_
    refine zr_callV_v (As := [.int 30]) (st := []) (d := d - 1) X dX11_looksAct_43 wm_X11_426 my_X11_body mv_X11_body zo_68 rfl (Nat.le_of_ble_eq_true rfl) (zRm (by omega)) ⟨Nat.le_refl _, Nat.le_refl _⟩ (x_fM_body hG (d - 1) (by omega) 30 m _ (zw_b12 h)) (fun m1 q => ?_)
    replace h := q
    refine zr_aload_n X dX11_looksAct_46 0 rfl ?_
    refine zr_iload_n X dX11_looksAct_47 1 rfl ?_
    refine zr_iload_n X dX11_looksAct_48 2 rfl ?_
    refine zr_iconst (v := 3) X dX11_looksAct_49 (by decide) ?_
    refine zr_imul X dX11_looksAct_50 ?_
    refine zr_callV_i (As := [.int p1, .int (p2 * 3)]) (st := []) (d := d - 1) X dX11_looksAct_51 wm_X11_429 my_X11_manLooks mv_X11_manLooks zo_68 rfl (Nat.le_of_ble_eq_true rfl) (zRm (by omega)) ⟨Nat.le_refl _, Nat.le_refl _⟩ (x_fM_manLooks hG (d - 1) (by omega) p1 (p2 * 3) m1 _ (zw_b22 h)) (fun r2 m3 q => ?_)
    replace h := q
    exact zr_iret X dX11_looksAct_54 rfl ⟨Nat.le_refl _, Nat.le_refl _⟩ ⟨rfl, _, rfl, h⟩
  rw [if_neg e0] at h
  by_cases e1 : m.1 69 p1.toNatClampNeg = 3
  · rw [if_pos e1] at h
    refine zr_tableIn (tgt := 89) X dX11_looksAct_6 3 (by rw [e1]; decide) (by decide) (by decide) rfl (by decide) ?_
    refine zr_aload_n X dX11_looksAct_89 0 rfl ?_
    refine zr_iload_n X dX11_looksAct_90 1 rfl ?_
    refine zr_iload_n X dX11_looksAct_91 2 rfl ?_
    refine zr_callV_i (As := [.int p1, .int p2]) (st := []) (d := d - 1) X dX11_looksAct_92 wm_X11_429 my_X11_manLooks mv_X11_manLooks zo_68 rfl (Nat.le_of_ble_eq_true rfl) (zRm (by omega)) ⟨Nat.le_refl _, Nat.le_refl _⟩ (x_fM_manLooks hG (d - 1) (by omega) p1 p2 m _ (zw_b22 h)) (fun r4 m5 q => ?_)
    replace h := q
    exact zr_iret X dX11_looksAct_95 rfl ⟨Nat.le_refl _, Nat.le_refl _⟩ ⟨rfl, _, rfl, h⟩
  rw [if_neg e1] at h
  by_cases e2 : m.1 69 p1.toNatClampNeg = 4
  · rw [if_pos e2] at h
    refine zr_tableIn (tgt := 55) X dX11_looksAct_6 4 (by rw [e2]; decide) (by decide) (by decide) rfl (by decide) ?_
    refine zr_aload_n X dX11_looksAct_55 0 rfl ?_
    refine zr_bipush (v := 50) X dX11_looksAct_56 (by decide) ?_
    refine zr_callV_v (As := [.int 50]) (st := []) (d := d - 1) X dX11_looksAct_58 wm_X11_426 my_X11_body mv_X11_body zo_68 rfl (Nat.le_of_ble_eq_true rfl) (zRm (by omega)) ⟨Nat.le_refl _, Nat.le_refl _⟩ (x_fM_body hG (d - 1) (by omega) 50 m _ (zw_b12 h)) (fun m6 q => ?_)
    replace h := q
    refine zr_aload_n X dX11_looksAct_61 0 rfl ?_
    refine zr_iload_n X dX11_looksAct_62 1 rfl ?_
    refine zr_iload_n X dX11_looksAct_63 2 rfl ?_
    refine zr_callV_i (As := [.int p1, .int p2]) (st := []) (d := d - 1) X dX11_looksAct_64 wm_X11_429 my_X11_manLooks mv_X11_manLooks zo_68 rfl (Nat.le_of_ble_eq_true rfl) (zRm (by omega)) ⟨Nat.le_refl _, Nat.le_refl _⟩ (x_fM_manLooks hG (d - 1) (by omega) p1 p2 m6 _ (zw_b22 h)) (fun r7 m8 q => ?_)
    replace h := q
    refine zr_ineg X dX11_looksAct_67 ?_
    exact zr_iret X dX11_looksAct_68 rfl ⟨Nat.le_refl _, Nat.le_refl _⟩ ⟨rfl, _, rfl, h⟩
  rw [if_neg e2] at h
  by_cases e3 : m.1 69 p1.toNatClampNeg = 5
  · rw [if_pos e3] at h
    refine zr_tableIn (tgt := 40) X dX11_looksAct_6 5 (by rw [e3]; decide) (by decide) (by decide) rfl (by decide) ?_
    refine zr_aload_n X dX11_looksAct_40 0 rfl ?_
    refine zr_bipush (v := 30) X dX11_looksAct_41 (by decide) ?_
    refine zr_callV_v (As := [.int 30]) (st := []) (d := d - 1) X dX11_looksAct_43 wm_X11_426 my_X11_body mv_X11_body zo_68 rfl (Nat.le_of_ble_eq_true rfl) (zRm (by omega)) ⟨Nat.le_refl _, Nat.le_refl _⟩ (x_fM_body hG (d - 1) (by omega) 30 m _ (zw_b12 h)) (fun m9 q => ?_)
    replace h := q
    refine zr_aload_n X dX11_looksAct_46 0 rfl ?_
    refine zr_iload_n X dX11_looksAct_47 1 rfl ?_
    refine zr_iload_n X dX11_looksAct_48 2 rfl ?_
    refine zr_iconst (v := 3) X dX11_looksAct_49 (by decide) ?_
    refine zr_imul X dX11_looksAct_50 ?_
    refine zr_callV_i (As := [.int p1, .int (p2 * 3)]) (st := []) (d := d - 1) X dX11_looksAct_51 wm_X11_429 my_X11_manLooks mv_X11_manLooks zo_68 rfl (Nat.le_of_ble_eq_true rfl) (zRm (by omega)) ⟨Nat.le_refl _, Nat.le_refl _⟩ (x_fM_manLooks hG (d - 1) (by omega) p1 (p2 * 3) m9 _ (zw_b22 h)) (fun r10 m11 q => ?_)
    replace h := q
    exact zr_iret X dX11_looksAct_54 rfl ⟨Nat.le_refl _, Nat.le_refl _⟩ ⟨rfl, _, rfl, h⟩
  rw [if_neg e3] at h
  by_cases e4 : m.1 69 p1.toNatClampNeg = 6
  · rw [if_pos e4] at h
    refine zr_tableIn (tgt := 69) X dX11_looksAct_6 6 (by rw [e4]; decide) (by decide) (by decide) rfl (by decide) ?_
    refine zr_aload_n X dX11_looksAct_69 0 rfl ?_
    refine zr_bipush (v := 71) X dX11_looksAct_70 (by decide) ?_
    refine zr_callV_v (As := [.int 71]) (st := []) (d := d - 1) X dX11_looksAct_72 wm_X11_426 my_X11_body mv_X11_body zo_68 rfl (Nat.le_of_ble_eq_true rfl) (zRm (by omega)) ⟨Nat.le_refl _, Nat.le_refl _⟩ (x_fM_body hG (d - 1) (by omega) 71 m _ (zw_b12 h)) (fun m12 q => ?_)
    replace h := q
    refine zr_aload_n X dX11_looksAct_75 0 rfl ?_
    refine zr_iload_n X dX11_looksAct_76 1 rfl ?_
    refine zr_iload_n X dX11_looksAct_77 2 rfl ?_
    refine zr_callV_i (As := [.int p1, .int p2]) (st := []) (d := d - 1) X dX11_looksAct_78 wm_X11_429 my_X11_manLooks mv_X11_manLooks zo_68 rfl (Nat.le_of_ble_eq_true rfl) (zRm (by omega)) ⟨Nat.le_refl _, Nat.le_refl _⟩ (x_fM_manLooks hG (d - 1) (by omega) p1 p2 m12 _ (zw_b22 h)) (fun r13 m14 q => ?_)
    replace h := q
    refine zr_aload_n X dX11_looksAct_81 0 rfl ?_
    refine zr_getR X dX11_looksAct_82 zd_X11_30 rfl zo_68 zl_68_6 ?_
    refine zr_iload_n X dX11_looksAct_85 1 rfl ?_
    obtain ⟨g0, h⟩ := zg_e2 h
    refine zr_iald X dX11_looksAct_86 za_70 (zI_in g0) ?_
    refine zr_ixor X dX11_looksAct_87 ?_
    exact zr_iret X dX11_looksAct_88 rfl ⟨Nat.le_refl _, Nat.le_refl _⟩ ⟨rfl, _, rfl, h⟩
  rw [if_neg e4] at h
  refine zr_tableOut (tgt := 89) X dX11_looksAct_6 (by have ze0 := lv_neT e0 (by decide : (2 : Int32).toInt = 2); have ze1 := lv_neT e1 (by decide : (3 : Int32).toInt = 3); have ze2 := lv_neT e2 (by decide : (4 : Int32).toInt = 4); have ze3 := lv_neT e3 (by decide : (5 : Int32).toInt = 5); have ze4 := lv_neT e4 (by decide : (6 : Int32).toInt = 6); omega) (by decide) ?_
  refine zr_aload_n X dX11_looksAct_89 0 rfl ?_
  refine zr_iload_n X dX11_looksAct_90 1 rfl ?_
  refine zr_iload_n X dX11_looksAct_91 2 rfl ?_
  refine zr_callV_i (As := [.int p1, .int p2]) (st := []) (d := d - 1) X dX11_looksAct_92 wm_X11_429 my_X11_manLooks mv_X11_manLooks zo_68 rfl (Nat.le_of_ble_eq_true rfl) (zRm (by omega)) ⟨Nat.le_refl _, Nat.le_refl _⟩ (x_fM_manLooks hG (d - 1) (by omega) p1 p2 m _ (zw_b22 h)) (fun r15 m16 q => ?_)
  replace h := q
  exact zr_iret X dX11_looksAct_95 rfl ⟨Nat.le_refl _, Nat.le_refl _⟩ ⟨rfl, _, rfl, h⟩

set_option maxRecDepth 100000 in
set_option maxHeartbeats 4000000 in
theorem x_fM_manSees {l : Launch} {S : State} {D : va_G} {cA : Nat → ClassId} {tb sx : Nat → Nat} (hG : zv_G S D cA tb sx) (d : Nat) (hd : 4 ≤ d) (p1 : Int32) (p2 : Int32) (m : zv_M) (P : Int32 → zv_M → Prop) (h : zw2 (fM_manSees p1 p2 m) P) : zv_Met l S D cA d 0 0 yX11_manSees cX11_manSees 3 (some .int) [.ref (S.heap.size + 68), .int p1, .int p2] SH0 m (zq_i SH0 P) := by
  refine zv_met false hG pf_X11_manSees (fun z => by cases z) (Nat.le_of_ble_eq_true rfl) [(0, .ref (S.heap.size + 68)), (1, .int p1), (2, .int p2)] rfl (fun p e s mi args below meth c X => ?_)
  rw [fM_manSees] at h
  refine zr_aload_n X dX11_manSees_0 0 rfl ?_
  refine zr_bipush (v := 11) X dX11_manSees_1 (by decide) ?_
  refine zr_callV_v (As := [.int 11]) (st := []) (d := d - 1) X dX11_manSees_3 wm_X11_426 my_X11_body mv_X11_body zo_68 rfl (Nat.le_of_ble_eq_true rfl) (zRm (by omega)) ⟨Nat.le_refl _, Nat.le_refl _⟩ (x_fM_body hG (d - 1) (by omega) 11 m _ (zw_b12 h)) (fun m1 q => ?_)
  replace h := q
  refine zr_aload_n X dX11_manSees_6 0 rfl ?_
  refine zr_iload_n X dX11_manSees_7 1 rfl ?_
  refine zr_iload_n X dX11_manSees_8 2 rfl ?_
  refine zr_callV_i (As := [.int p1, .int p2]) (st := []) (d := d - 1) X dX11_manSees_9 wm_X11_432 my_X11_looksAct mv_X11_looksAct zo_68 rfl (Nat.le_of_ble_eq_true rfl) (zRm (by omega)) ⟨Nat.le_refl _, Nat.le_refl _⟩ (x_fM_looksAct hG (d - 1) (by omega) p1 p2 m1 _ (zw_b22 h)) (fun r2 m3 q => ?_)
  replace h := q
  refine zr_aload_n X dX11_manSees_12 0 rfl ?_
  refine zr_getR X dX11_manSees_13 zd_X11_30 rfl zo_68 zl_68_6 ?_
  refine zr_iload_n X dX11_manSees_16 1 rfl ?_
  obtain ⟨g0, h⟩ := zg_e2 h
  refine zr_iald X dX11_manSees_17 za_70 (zI_in g0) ?_
  refine zr_isub X dX11_manSees_18 ?_
  exact zr_iret X dX11_manSees_19 rfl ⟨Nat.le_refl _, Nat.le_refl _⟩ ⟨rfl, _, rfl, h⟩

set_option maxRecDepth 100000 in
set_option maxHeartbeats 4000000 in
theorem x_fM_rookSees {l : Launch} {S : State} {D : va_G} {cA : Nat → ClassId} {tb sx : Nat → Nat} (hG : zv_G S D cA tb sx) (d : Nat) (hd : 5 ≤ d) (p1 : Int32) (p2 : Int32) (m : zv_M) (P : Int32 → zv_M → Prop) (h : zw2 (fM_rookSees p1 p2 m) P) : zv_Met l S D cA d 0 0 yX11_rookSees cX11_rookSees 3 (some .int) [.ref (S.heap.size + 68), .int p1, .int p2] SH0 m (zq_i SH0 P) := by
  refine zv_met false hG pf_X11_rookSees (fun z => by cases z) (Nat.le_of_ble_eq_true rfl) [(0, .ref (S.heap.size + 68)), (1, .int p1), (2, .int p2)] rfl (fun p e s mi args below meth c X => ?_)
  rw [fM_rookSees] at h
  refine zr_aload_n X dX11_rookSees_0 0 rfl ?_
  refine zr_bipush (v := 20) X dX11_rookSees_1 (by decide) ?_
  refine zr_callV_v (As := [.int 20]) (st := []) (d := d - 1) X dX11_rookSees_3 wm_X11_426 my_X11_body mv_X11_body zo_68 rfl (Nat.le_of_ble_eq_true rfl) (zRm (by omega)) ⟨Nat.le_refl _, Nat.le_refl _⟩ (x_fM_body hG (d - 1) (by omega) 20 m _ (zw_b12 h)) (fun m1 q => ?_)
  replace h := q
  refine zr_aload_n X dX11_rookSees_6 0 rfl ?_
  refine zr_iload_n X dX11_rookSees_7 1 rfl ?_
  refine zr_iload_n X dX11_rookSees_8 2 rfl ?_
  refine zr_callV_i (As := [.int p1, .int p2]) (st := []) (d := d - 1) X dX11_rookSees_9 wm_X11_435 my_X11_manSees mv_X11_manSees zo_68 rfl (Nat.le_of_ble_eq_true rfl) (zRm (by omega)) ⟨Nat.le_refl _, Nat.le_refl _⟩ (x_fM_manSees hG (d - 1) (by omega) p1 p2 m1 _ (zw_b22 h)) (fun r2 m3 q => ?_)
  replace h := q
  refine zr_bipush (v := 6) X dX11_rookSees_12 (by decide) ?_
  refine zr_ixor X dX11_rookSees_14 ?_
  exact zr_iret X dX11_rookSees_15 rfl ⟨Nat.le_refl _, Nat.le_refl _⟩ ⟨rfl, _, rfl, h⟩

set_option maxRecDepth 100000 in
set_option maxHeartbeats 4000000 in
theorem x_fM_seesAct {l : Launch} {S : State} {D : va_G} {cA : Nat → ClassId} {tb sx : Nat → Nat} (hG : zv_G S D cA tb sx) (d : Nat) (hd : 6 ≤ d) (p1 : Int32) (p2 : Int32) (m : zv_M) (P : Int32 → zv_M → Prop) (h : zw2 (fM_seesAct p1 p2 m) P) : zv_Met l S D cA d 0 0 yX11_seesAct cX11_seesAct 4 (some .int) [.ref (S.heap.size + 68), .int p1, .int p2] SH0 m (zq_i SH0 P) := by
  refine zv_met false hG pf_X11_seesAct (fun z => by cases z) (Nat.le_of_ble_eq_true rfl) [(0, .ref (S.heap.size + 68)), (1, .int p1), (2, .int p2)] rfl (fun p e s mi args below meth c X => ?_)
  rw [fM_seesAct] at h
  refine zr_aload_n X dX11_seesAct_0 0 rfl ?_
  refine zr_getR X dX11_seesAct_1 zd_X11_26 rfl zo_68 zl_68_5 ?_
  refine zr_iload_n X dX11_seesAct_4 1 rfl ?_
  obtain ⟨g0, h⟩ := zg_e2 h
  refine zr_iald X dX11_seesAct_5 za_69 (zI_in g0) ?_
  by_cases e0 : m.1 69 p1.toNatClampNeg = 1
  · rw [if_pos e0] at h
    refine zr_lookup (off := 34) (tgt := 40) X dX11_seesAct_6 (by decide) (by rw [e0]; decide) (by decide) ?_
    refine zr_aload_n X dX11_seesAct_40 0 rfl ?_
    refine zr_iload_n X dX11_seesAct_41 1 rfl ?_
    refine zr_iload_n X dX11_seesAct_42 2 rfl ?_
    refine zr_callV_i (As := [.int p1, .int p2]) (st := []) (d := d - 1) X dX11_seesAct_43 wm_X11_438 my_X11_rookSees mv_X11_rookSees zo_68 rfl (Nat.le_of_ble_eq_true rfl) (zRm (by omega)) ⟨Nat.le_refl _, Nat.le_refl _⟩ (x_fM_rookSees hG (d - 1) (by omega) p1 p2 m _ (zw_b22 h)) (fun r1 m2 q => ?_)
    replace h := q
    exact zr_iret X dX11_seesAct_46 rfl ⟨Nat.le_refl _, Nat.le_refl _⟩ ⟨rfl, _, rfl, h⟩
  rw [if_neg e0] at h
  by_cases e1 : m.1 69 p1.toNatClampNeg = 4
  · rw [if_pos e1] at h
    refine zr_lookup (off := 41) (tgt := 47) X dX11_seesAct_6 (by decide) (by rw [e1]; decide) (by decide) ?_
    refine zr_aload_n X dX11_seesAct_47 0 rfl ?_
    refine zr_bipush (v := 51) X dX11_seesAct_48 (by decide) ?_
    refine zr_callV_v (As := [.int 51]) (st := []) (d := d - 1) X dX11_seesAct_50 wm_X11_426 my_X11_body mv_X11_body zo_68 rfl (Nat.le_of_ble_eq_true rfl) (zRm (by omega)) ⟨Nat.le_refl _, Nat.le_refl _⟩ (x_fM_body hG (d - 1) (by omega) 51 m _ (zw_b12 h)) (fun m3 q => ?_)
    replace h := q
    refine zr_aload_n X dX11_seesAct_53 0 rfl ?_
    refine zr_iload_n X dX11_seesAct_54 1 rfl ?_
    refine zr_iload_n X dX11_seesAct_55 2 rfl ?_
    refine zr_iconst (v := 1) X dX11_seesAct_56 (by decide) ?_
    refine zr_iadd X dX11_seesAct_57 ?_
    refine zr_callV_i (As := [.int p1, .int (p2 + 1)]) (st := []) (d := d - 1) X dX11_seesAct_58 wm_X11_438 my_X11_rookSees mv_X11_rookSees zo_68 rfl (Nat.le_of_ble_eq_true rfl) (zRm (by omega)) ⟨Nat.le_refl _, Nat.le_refl _⟩ (x_fM_rookSees hG (d - 1) (by omega) p1 (p2 + 1) m3 _ (zw_b22 h)) (fun r4 m5 q => ?_)
    replace h := q
    exact zr_iret X dX11_seesAct_61 rfl ⟨Nat.le_refl _, Nat.le_refl _⟩ ⟨rfl, _, rfl, h⟩
  rw [if_neg e1] at h
  by_cases e2 : m.1 69 p1.toNatClampNeg = 6
  · rw [if_pos e2] at h
    refine zr_lookup (off := 56) (tgt := 62) X dX11_seesAct_6 (by decide) (by rw [e2]; decide) (by decide) ?_
    refine zr_aload_n X dX11_seesAct_62 0 rfl ?_
    refine zr_bipush (v := 70) X dX11_seesAct_63 (by decide) ?_
    refine zr_callV_v (As := [.int 70]) (st := []) (d := d - 1) X dX11_seesAct_65 wm_X11_426 my_X11_body mv_X11_body zo_68 rfl (Nat.le_of_ble_eq_true rfl) (zRm (by omega)) ⟨Nat.le_refl _, Nat.le_refl _⟩ (x_fM_body hG (d - 1) (by omega) 70 m _ (zw_b12 h)) (fun m6 q => ?_)
    replace h := q
    refine zr_aload_n X dX11_seesAct_68 0 rfl ?_
    refine zr_iload_n X dX11_seesAct_69 1 rfl ?_
    refine zr_iload_n X dX11_seesAct_70 2 rfl ?_
    refine zr_callV_i (As := [.int p1, .int p2]) (st := []) (d := d - 1) X dX11_seesAct_71 wm_X11_435 my_X11_manSees mv_X11_manSees zo_68 rfl (Nat.le_of_ble_eq_true rfl) (zRm (by omega)) ⟨Nat.le_refl _, Nat.le_refl _⟩ (x_fM_manSees hG (d - 1) (by omega) p1 p2 m6 _ (zw_b22 h)) (fun r7 m8 q => ?_)
    replace h := q
    refine zr_istore_n (lo' := [(3, .int r7), (0, .ref (S.heap.size + 68)), (1, .int p1), (2, .int p2)]) X dX11_seesAct_74 (by decide) rfl ?_
    refine zr_iload_n X dX11_seesAct_75 0 rfl ?_
    refine zr_aload_n X dX11_seesAct_76 1 rfl ?_
    refine zr_iload_n X dX11_seesAct_77 2 rfl ?_
    refine zr_iconst (v := 2) X dX11_seesAct_78 (by decide) ?_
    refine zr_callV_i (As := [.int p1, .int 2]) (st := [.int r7]) (d := d - 1) X dX11_seesAct_79 wm_X11_429 my_X11_manLooks mv_X11_manLooks zo_68 rfl (Nat.le_of_ble_eq_true rfl) (zRm (by omega)) ⟨Nat.le_refl _, Nat.le_refl _⟩ (x_fM_manLooks hG (d - 1) (by omega) p1 2 m8 _ (zw_b22 h)) (fun r9 m10 q => ?_)
    replace h := q
    refine zr_iadd X dX11_seesAct_82 ?_
    exact zr_iret X dX11_seesAct_83 rfl ⟨Nat.le_refl _, Nat.le_refl _⟩ ⟨rfl, _, rfl, h⟩
  rw [if_neg e2] at h
  refine zr_lookup (off := 78) (tgt := 84) X dX11_seesAct_6 (by decide) (by rw [lv_osw e0 (by decide), lv_osw e1 (by decide), lv_osw e2 (by decide)]; rfl) (by decide) ?_
  refine zr_aload_n X dX11_seesAct_84 0 rfl ?_
  refine zr_iload_n X dX11_seesAct_85 1 rfl ?_
  refine zr_iload_n X dX11_seesAct_86 2 rfl ?_
  refine zr_callV_i (As := [.int p1, .int p2]) (st := []) (d := d - 1) X dX11_seesAct_87 wm_X11_435 my_X11_manSees mv_X11_manSees zo_68 rfl (Nat.le_of_ble_eq_true rfl) (zRm (by omega)) ⟨Nat.le_refl _, Nat.le_refl _⟩ (x_fM_manSees hG (d - 1) (by omega) p1 p2 m _ (zw_b22 h)) (fun r11 m12 q => ?_)
  replace h := q
  exact zr_iret X dX11_seesAct_90 rfl ⟨Nat.le_refl _, Nat.le_refl _⟩ ⟨rfl, _, rfl, h⟩

set_option maxRecDepth 100000 in
set_option maxHeartbeats 4000000 in
theorem x_fM_manTells {l : Launch} {S : State} {D : va_G} {cA : Nat → ClassId} {tb sx : Nat → Nat} (hG : zv_G S D cA tb sx) (d : Nat) (hd : 7 ≤ d) (p1 : Int32) (p2 : Int32) (m : zv_M) (P : Int32 → zv_M → Prop) (h : zw2 (fM_manTells p1 p2 m) P) : zv_Met l S D cA d 0 0 yX11_manTells cX11_manTells 3 (some .int) [.ref (S.heap.size + 68), .int p1, .int p2] SH0 m (zq_i SH0 P) := by
  refine zv_met false hG pf_X11_manTells (fun z => by cases z) (Nat.le_of_ble_eq_true rfl) [(0, .ref (S.heap.size + 68)), (1, .int p1), (2, .int p2)] rfl (fun p e s mi args below meth c X => ?_)
  rw [fM_manTells] at h
  refine zr_aload_n X dX11_manTells_0 0 rfl ?_
  refine zr_bipush (v := 12) X dX11_manTells_1 (by decide) ?_
  refine zr_callV_v (As := [.int 12]) (st := []) (d := d - 1) X dX11_manTells_3 wm_X11_426 my_X11_body mv_X11_body zo_68 rfl (Nat.le_of_ble_eq_true rfl) (zRm (by omega)) ⟨Nat.le_refl _, Nat.le_refl _⟩ (x_fM_body hG (d - 1) (by omega) 12 m _ (zw_b12 h)) (fun m1 q => ?_)
  replace h := q
  refine zr_aload_n X dX11_manTells_6 0 rfl ?_
  refine zr_iload_n X dX11_manTells_7 1 rfl ?_
  refine zr_iload_n X dX11_manTells_8 2 rfl ?_
  refine zr_callV_i (As := [.int p1, .int p2]) (st := []) (d := d - 1) X dX11_manTells_9 wm_X11_441 my_X11_seesAct mv_X11_seesAct zo_68 rfl (Nat.le_of_ble_eq_true rfl) (zRm (by omega)) ⟨Nat.le_refl _, Nat.le_refl _⟩ (x_fM_seesAct hG (d - 1) (by omega) p1 p2 m1 _ (zw_b22 h)) (fun r2 m3 q => ?_)
  replace h := q
  refine zr_iconst (v := 2) X dX11_manTells_12 (by decide) ?_
  refine zr_imul X dX11_manTells_13 ?_
  exact zr_iret X dX11_manTells_14 rfl ⟨Nat.le_refl _, Nat.le_refl _⟩ ⟨rfl, _, rfl, h⟩

set_option maxRecDepth 100000 in
set_option maxHeartbeats 4000000 in
theorem x_fM_tellsAct {l : Launch} {S : State} {D : va_G} {cA : Nat → ClassId} {tb sx : Nat → Nat} (hG : zv_G S D cA tb sx) (d : Nat) (hd : 8 ≤ d) (p1 : Int32) (p2 : Int32) (m : zv_M) (P : Int32 → zv_M → Prop) (h : zw2 (fM_tellsAct p1 p2 m) P) : zv_Met l S D cA d 0 0 yX11_tellsAct cX11_tellsAct 4 (some .int) [.ref (S.heap.size + 68), .int p1, .int p2] SH0 m (zq_i SH0 P) := by
  refine zv_met false hG pf_X11_tellsAct (fun z => by cases z) (Nat.le_of_ble_eq_true rfl) [(0, .ref (S.heap.size + 68)), (1, .int p1), (2, .int p2)] rfl (fun p e s mi args below meth c X => ?_)
  rw [fM_tellsAct] at h
  refine zr_aload_n X dX11_tellsAct_0 0 rfl ?_
  refine zr_getR X dX11_tellsAct_1 zd_X11_26 rfl zo_68 zl_68_5 ?_
  refine zr_iload_n X dX11_tellsAct_4 1 rfl ?_
  obtain ⟨g0, h⟩ := zg_e2 h
  refine zr_iald X dX11_tellsAct_5 za_69 (zI_in g0) ?_
  by_cases e0 : m.1 69 p1.toNatClampNeg = 3
  · rw [if_pos e0] at h
    refine zr_tableIn (tgt := 36) X dX11_tellsAct_6 3 (by rw [e0]; decide) (by decide) (by decide) rfl (by decide) ?_
    refine zr_aload_n X dX11_tellsAct_36 0 rfl ?_
    refine zr_bipush (v := 40) X dX11_tellsAct_37 (by decide) ?_
    refine zr_callV_v (As := [.int 40]) (st := []) (d := d - 1) X dX11_tellsAct_39 wm_X11_426 my_X11_body mv_X11_body zo_68 rfl (Nat.le_of_ble_eq_true rfl) (zRm (by omega)) ⟨Nat.le_refl _, Nat.le_refl _⟩ (x_fM_body hG (d - 1) (by omega) 40 m _ (zw_b12 h)) (fun m1 q => ?_)
    replace h := q
    refine zr_aload_n X dX11_tellsAct_42 0 rfl ?_
    refine zr_iload_n X dX11_tellsAct_43 1 rfl ?_
    refine zr_iload_n X dX11_tellsAct_44 2 rfl ?_
    refine zr_callV_i (As := [.int p1, .int p2]) (st := []) (d := d - 1) X dX11_tellsAct_45 wm_X11_444 my_X11_manTells mv_X11_manTells zo_68 rfl (Nat.le_of_ble_eq_true rfl) (zRm (by omega)) ⟨Nat.le_refl _, Nat.le_refl _⟩ (x_fM_manTells hG (d - 1) (by omega) p1 p2 m1 _ (zw_b22 h)) (fun r2 m3 q => ?_)
    replace h := q
    refine zr_istore_n (lo' := [(3, .int r2), (0, .ref (S.heap.size + 68)), (1, .int p1), (2, .int p2)]) X dX11_tellsAct_48 (by decide) rfl ?_
    refine zr_iload_n X dX11_tellsAct_49 0 rfl ?_
    refine zr_aload_n X dX11_tellsAct_50 1 rfl ?_
    refine zr_iload_n X dX11_tellsAct_51 2 rfl ?_
    refine zr_iconst (v := 1) X dX11_tellsAct_52 (by decide) ?_
    refine zr_callV_i (As := [.int p1, .int 1]) (st := [.int r2]) (d := d - 1) X dX11_tellsAct_53 wm_X11_441 my_X11_seesAct mv_X11_seesAct zo_68 rfl (Nat.le_of_ble_eq_true rfl) (zRm (by omega)) ⟨Nat.le_refl _, Nat.le_refl _⟩ (x_fM_seesAct hG (d - 1) (by omega) p1 1 m3 _ (zw_b22 h)) (fun r4 m5 q => ?_)
    replace h := q
    refine zr_iadd X dX11_tellsAct_56 ?_
    exact zr_iret X dX11_tellsAct_57 rfl ⟨Nat.le_refl _, Nat.le_refl _⟩ ⟨rfl, _, rfl, h⟩
  rw [if_neg e0] at h
  by_cases e1 : m.1 69 p1.toNatClampNeg = 4
  · rw [if_pos e1] at h
    refine zr_tableIn (tgt := 73) X dX11_tellsAct_6 4 (by rw [e1]; decide) (by decide) (by decide) rfl (by decide) ?_
    refine zr_aload_n X dX11_tellsAct_73 0 rfl ?_
    refine zr_iload_n X dX11_tellsAct_74 1 rfl ?_
    refine zr_iload_n X dX11_tellsAct_75 2 rfl ?_
    refine zr_callV_i (As := [.int p1, .int p2]) (st := []) (d := d - 1) X dX11_tellsAct_76 wm_X11_444 my_X11_manTells mv_X11_manTells zo_68 rfl (Nat.le_of_ble_eq_true rfl) (zRm (by omega)) ⟨Nat.le_refl _, Nat.le_refl _⟩ (x_fM_manTells hG (d - 1) (by omega) p1 p2 m _ (zw_b22 h)) (fun r6 m7 q => ?_)
    replace h := q
    exact zr_iret X dX11_tellsAct_79 rfl ⟨Nat.le_refl _, Nat.le_refl _⟩ ⟨rfl, _, rfl, h⟩
  rw [if_neg e1] at h
  by_cases e2 : m.1 69 p1.toNatClampNeg = 5
  · rw [if_pos e2] at h
    refine zr_tableIn (tgt := 58) X dX11_tellsAct_6 5 (by rw [e2]; decide) (by decide) (by decide) rfl (by decide) ?_
    refine zr_aload_n X dX11_tellsAct_58 0 rfl ?_
    refine zr_bipush (v := 60) X dX11_tellsAct_59 (by decide) ?_
    refine zr_callV_v (As := [.int 60]) (st := []) (d := d - 1) X dX11_tellsAct_61 wm_X11_426 my_X11_body mv_X11_body zo_68 rfl (Nat.le_of_ble_eq_true rfl) (zRm (by omega)) ⟨Nat.le_refl _, Nat.le_refl _⟩ (x_fM_body hG (d - 1) (by omega) 60 m _ (zw_b12 h)) (fun m8 q => ?_)
    replace h := q
    refine zr_aload_n X dX11_tellsAct_64 0 rfl ?_
    refine zr_iload_n X dX11_tellsAct_65 1 rfl ?_
    refine zr_iload_n X dX11_tellsAct_66 2 rfl ?_
    refine zr_iload_n X dX11_tellsAct_67 1 rfl ?_
    refine zr_isub X dX11_tellsAct_68 ?_
    refine zr_callV_i (As := [.int p1, .int (p2 - p1)]) (st := []) (d := d - 1) X dX11_tellsAct_69 wm_X11_444 my_X11_manTells mv_X11_manTells zo_68 rfl (Nat.le_of_ble_eq_true rfl) (zRm (by omega)) ⟨Nat.le_refl _, Nat.le_refl _⟩ (x_fM_manTells hG (d - 1) (by omega) p1 (p2 - p1) m8 _ (zw_b22 h)) (fun r9 m10 q => ?_)
    replace h := q
    exact zr_iret X dX11_tellsAct_72 rfl ⟨Nat.le_refl _, Nat.le_refl _⟩ ⟨rfl, _, rfl, h⟩
  rw [if_neg e2] at h
  by_cases e3 : m.1 69 p1.toNatClampNeg = 6
  · rw [if_pos e3] at h
    refine zr_tableIn (tgt := 36) X dX11_tellsAct_6 6 (by rw [e3]; decide) (by decide) (by decide) rfl (by decide) ?_
    refine zr_aload_n X dX11_tellsAct_36 0 rfl ?_
    refine zr_bipush (v := 40) X dX11_tellsAct_37 (by decide) ?_
    refine zr_callV_v (As := [.int 40]) (st := []) (d := d - 1) X dX11_tellsAct_39 wm_X11_426 my_X11_body mv_X11_body zo_68 rfl (Nat.le_of_ble_eq_true rfl) (zRm (by omega)) ⟨Nat.le_refl _, Nat.le_refl _⟩ (x_fM_body hG (d - 1) (by omega) 40 m _ (zw_b12 h)) (fun m11 q => ?_)
    replace h := q
    refine zr_aload_n X dX11_tellsAct_42 0 rfl ?_
    refine zr_iload_n X dX11_tellsAct_43 1 rfl ?_
    refine zr_iload_n X dX11_tellsAct_44 2 rfl ?_
    refine zr_callV_i (As := [.int p1, .int p2]) (st := []) (d := d - 1) X dX11_tellsAct_45 wm_X11_444 my_X11_manTells mv_X11_manTells zo_68 rfl (Nat.le_of_ble_eq_true rfl) (zRm (by omega)) ⟨Nat.le_refl _, Nat.le_refl _⟩ (x_fM_manTells hG (d - 1) (by omega) p1 p2 m11 _ (zw_b22 h)) (fun r12 m13 q => ?_)
    replace h := q
    refine zr_istore_n (lo' := [(3, .int r12), (0, .ref (S.heap.size + 68)), (1, .int p1), (2, .int p2)]) X dX11_tellsAct_48 (by decide) rfl ?_
    refine zr_iload_n X dX11_tellsAct_49 0 rfl ?_
    refine zr_aload_n X dX11_tellsAct_50 1 rfl ?_
    refine zr_iload_n X dX11_tellsAct_51 2 rfl ?_
    refine zr_iconst (v := 1) X dX11_tellsAct_52 (by decide) ?_
    refine zr_callV_i (As := [.int p1, .int 1]) (st := [.int r12]) (d := d - 1) X dX11_tellsAct_53 wm_X11_441 my_X11_seesAct mv_X11_seesAct zo_68 rfl (Nat.le_of_ble_eq_true rfl) (zRm (by omega)) ⟨Nat.le_refl _, Nat.le_refl _⟩ (x_fM_seesAct hG (d - 1) (by omega) p1 1 m13 _ (zw_b22 h)) (fun r14 m15 q => ?_)
    replace h := q
    refine zr_iadd X dX11_tellsAct_56 ?_
    exact zr_iret X dX11_tellsAct_57 rfl ⟨Nat.le_refl _, Nat.le_refl _⟩ ⟨rfl, _, rfl, h⟩
  rw [if_neg e3] at h
  refine zr_tableOut (tgt := 73) X dX11_tellsAct_6 (by have ze0 := lv_neT e0 (by decide : (3 : Int32).toInt = 3); have ze1 := lv_neT e1 (by decide : (4 : Int32).toInt = 4); have ze2 := lv_neT e2 (by decide : (5 : Int32).toInt = 5); have ze3 := lv_neT e3 (by decide : (6 : Int32).toInt = 6); omega) (by decide) ?_
  refine zr_aload_n X dX11_tellsAct_73 0 rfl ?_
  refine zr_iload_n X dX11_tellsAct_74 1 rfl ?_
  refine zr_iload_n X dX11_tellsAct_75 2 rfl ?_
  refine zr_callV_i (As := [.int p1, .int p2]) (st := []) (d := d - 1) X dX11_tellsAct_76 wm_X11_444 my_X11_manTells mv_X11_manTells zo_68 rfl (Nat.le_of_ble_eq_true rfl) (zRm (by omega)) ⟨Nat.le_refl _, Nat.le_refl _⟩ (x_fM_manTells hG (d - 1) (by omega) p1 p2 m _ (zw_b22 h)) (fun r16 m17 q => ?_)
  replace h := q
  exact zr_iret X dX11_tellsAct_79 rfl ⟨Nat.le_refl _, Nat.le_refl _⟩ ⟨rfl, _, rfl, h⟩

set_option maxRecDepth 100000 in
set_option maxHeartbeats 4000000 in
theorem x_fM_act {l : Launch} {S : State} {D : va_G} {cA : Nat → ClassId} {tb sx : Nat → Nat} (hG : zv_G S D cA tb sx) (d : Nat) (hd : 9 ≤ d) (p1 : Int32) (p2 : Int32) (p3 : Int32) (m : zv_M) (P : Int32 → zv_M → Prop) (h : zw2 (fM_act p1 p2 p3 m) P) : zv_Met l S D cA d 0 0 yX11_act cX11_act 4 (some .int) [.ref (S.heap.size + 68), .int p1, .int p2, .int p3] SH0 m (zq_i SH0 P) := by
  refine zv_met false hG pf_X11_act (fun z => by cases z) (Nat.le_of_ble_eq_true rfl) [(0, .ref (S.heap.size + 68)), (1, .int p1), (2, .int p2), (3, .int p3)] rfl (fun p e s mi args below meth c X => ?_)
  rw [fM_act] at h
  refine zr_aload_n X dX11_act_0 0 rfl ?_
  refine zr_iconst (v := 0) X dX11_act_1 (by decide) ?_
  refine zr_put X dX11_act_2 zd_X11_211 rfl rfl rfl zo_68 (by rw [zk_11 zo_68]; decide) ?_
  refine zr_aload_n X dX11_act_5 0 rfl ?_
  refine zr_iload_n X dX11_act_6 1 rfl ?_
  refine zr_callV_i (As := [.int p1]) (st := []) (d := d - 1) X dX11_act_7 wm_X11_234 my_X11_isPlan mv_X11_isPlan zo_68 rfl (Nat.le_of_ble_eq_true rfl) (zRm (by omega)) ⟨Nat.le_refl _, Nat.le_refl _⟩ (x_fM_isPlan hG (d - 1) (by omega) p1 (wI m 68 66 0) _ (zw_b12 h)) (fun r1 m2 q => ?_)
  obtain ⟨rfl, h⟩ := q
  refine zr_if_eq (tgt := 23) X dX11_act_10 (by decide) (fun q => ?_) (fun q => ?_)
  · rw [if_pos q] at h
    refine zr_iconst (v := 0) X dX11_act_23 (by decide) ?_
    exact zr_iret X dX11_act_24 rfl ⟨Nat.le_refl _, Nat.le_refl _⟩ ⟨rfl, _, rfl, h⟩
  · rw [if_neg q] at h
    refine zr_aload_n X dX11_act_13 0 rfl ?_
    refine zr_iload_n X dX11_act_14 2 rfl ?_
    refine zr_iconst (v := 0) X dX11_act_15 (by decide) ?_
    refine zr_iconst (v := 2) X dX11_act_16 (by decide) ?_
    refine zr_callV_i (As := [.int p2, .int 0, .int 2]) (st := []) (d := d - 1) X dX11_act_17 wm_X11_230 my_X11_in mv_X11_in zo_68 rfl (Nat.le_of_ble_eq_true rfl) (zRm (by omega)) ⟨Nat.le_refl _, Nat.le_refl _⟩ (x_fM_in hG (d - 1) (by omega) p2 0 2 (wI m 68 66 0) _ (zw_b12 h)) (fun r3 m4 q => ?_)
    obtain ⟨rfl, h⟩ := q
    refine zr_if_ne (tgt := 25) X dX11_act_20 (by decide) (fun q => ?_) (fun q => ?_)
    · rw [if_neg q] at h
      refine zr_iload_n X dX11_act_25 2 rfl ?_
      refine zr_if_ne (tgt := 38) X dX11_act_26 (by decide) (fun q => ?_) (fun q => ?_)
      · rw [if_neg q] at h
        refine zr_iload_n X dX11_act_38 2 rfl ?_
        refine zr_iconst (v := 1) X dX11_act_39 (by decide) ?_
        refine zr_icmp_ne (tgt := 52) X dX11_act_40 (by decide) (fun q => ?_) (fun q => ?_)
        · rw [if_neg q] at h
          refine zr_aload_n X dX11_act_52 0 rfl ?_
          refine zr_iload_n X dX11_act_53 1 rfl ?_
          refine zr_iload_n X dX11_act_54 3 rfl ?_
          refine zr_callV_i (As := [.int p1, .int p3]) (st := []) (d := d - 1) X dX11_act_55 wm_X11_447 my_X11_tellsAct mv_X11_tellsAct zo_68 rfl (Nat.le_of_ble_eq_true rfl) (zRm (by omega)) ⟨Nat.le_refl _, Nat.le_refl _⟩ (x_fM_tellsAct hG (d - 1) (by omega) p1 p3 (wI m 68 66 0) _ (zw_b22 h)) (fun r5 m6 q => ?_)
          replace h := q
          exact zr_iret X dX11_act_58 rfl ⟨Nat.le_refl _, Nat.le_refl _⟩ ⟨rfl, _, rfl, h⟩
        · rw [if_pos q] at h
          refine zr_aload_n X dX11_act_43 0 rfl ?_
          refine zr_iload_n X dX11_act_44 1 rfl ?_
          refine zr_iload_n X dX11_act_45 3 rfl ?_
          refine zr_callV_i (As := [.int p1, .int p3]) (st := []) (d := d - 1) X dX11_act_46 wm_X11_441 my_X11_seesAct mv_X11_seesAct zo_68 rfl (Nat.le_of_ble_eq_true rfl) (zRm (by omega)) ⟨Nat.le_refl _, Nat.le_refl _⟩ (x_fM_seesAct hG (d - 1) (by omega) p1 p3 (wI m 68 66 0) _ (zw_b22 h)) (fun r7 m8 q => ?_)
          replace h := q
          refine zr_goto (tgt := 58) X dX11_act_49 (by decide) ?_
          exact zr_iret X dX11_act_58 rfl ⟨Nat.le_refl _, Nat.le_refl _⟩ ⟨rfl, _, rfl, h⟩
      · rw [if_pos q] at h
        refine zr_aload_n X dX11_act_29 0 rfl ?_
        refine zr_iload_n X dX11_act_30 1 rfl ?_
        refine zr_iload_n X dX11_act_31 3 rfl ?_
        refine zr_callV_i (As := [.int p1, .int p3]) (st := []) (d := d - 1) X dX11_act_32 wm_X11_432 my_X11_looksAct mv_X11_looksAct zo_68 rfl (Nat.le_of_ble_eq_true rfl) (zRm (by omega)) ⟨Nat.le_refl _, Nat.le_refl _⟩ (x_fM_looksAct hG (d - 1) (by omega) p1 p3 (wI m 68 66 0) _ (zw_b22 h)) (fun r9 m10 q => ?_)
        replace h := q
        refine zr_goto (tgt := 58) X dX11_act_35 (by decide) ?_
        exact zr_iret X dX11_act_58 rfl ⟨Nat.le_refl _, Nat.le_refl _⟩ ⟨rfl, _, rfl, h⟩
    · rw [if_pos q] at h
      refine zr_iconst (v := 0) X dX11_act_23 (by decide) ?_
      exact zr_iret X dX11_act_24 rfl ⟨Nat.le_refl _, Nat.le_refl _⟩ ⟨rfl, _, rfl, h⟩

set_option maxRecDepth 100000 in
set_option maxHeartbeats 4000000 in
theorem x_fM_trace {l : Launch} {S : State} {D : va_G} {cA : Nat → ClassId} {tb sx : Nat → Nat} (hG : zv_G S D cA tb sx) (d : Nat) (hd : 2 ≤ d) (p1 : Int32) (m : zv_M) (P : Int32 → Prop) (h : zw (fM_trace p1 m) P) : zv_Met l S D cA d 0 0 yX11_trace cX11_trace 2 (some .int) [.ref (S.heap.size + 68), .int p1] SH0 m (zq_i SH0 (fun v m' => m = m' ∧ P v)) := by
  refine zv_met false hG pf_X11_trace (fun z => by cases z) (Nat.le_of_ble_eq_true rfl) [(0, .ref (S.heap.size + 68)), (1, .int p1)] rfl (fun p e s mi args below meth c X => ?_)
  rw [fM_trace] at h
  refine zr_aload_n X dX11_trace_0 0 rfl ?_
  refine zr_iload_n X dX11_trace_1 1 rfl ?_
  refine zr_iconst (v := 0) X dX11_trace_2 (by decide) ?_
  refine zr_bipush (v := 19) X dX11_trace_3 (by decide) ?_
  refine zr_callV_i (As := [.int p1, .int 0, .int 19]) (st := []) (d := d - 1) X dX11_trace_5 wm_X11_230 my_X11_in mv_X11_in zo_68 rfl (Nat.le_of_ble_eq_true rfl) (zRm (by omega)) ⟨Nat.le_refl _, Nat.le_refl _⟩ (x_fM_in hG (d - 1) (by omega) p1 0 19 m _ (zw_b1 h)) (fun r1 m2 q => ?_)
  obtain ⟨rfl, h⟩ := q
  refine zr_if_eq (tgt := 28) X dX11_trace_8 (by decide) (fun q => ?_) (fun q => ?_)
  · rw [if_pos q] at h
    refine zr_iconst (v := (-1)) X dX11_trace_28 (by decide) ?_
    exact zr_iret X dX11_trace_29 rfl ⟨Nat.le_refl _, Nat.le_refl _⟩ ⟨rfl, _, rfl, rfl, h⟩
  · rw [if_neg q] at h
    refine zr_iload_n X dX11_trace_11 1 rfl ?_
    refine zr_aload_n X dX11_trace_12 0 rfl ?_
    refine zr_getI X dX11_trace_13 zd_X11_211 rfl zo_68 (by rw [zk_11 zo_68]; decide) ?_
    refine zr_icmp_ge (tgt := 28) X dX11_trace_16 (by decide) (fun q => ?_) (fun q => ?_)
    · rw [if_neg q] at h
      refine zr_iconst (v := (-1)) X dX11_trace_28 (by decide) ?_
      exact zr_iret X dX11_trace_29 rfl ⟨Nat.le_refl _, Nat.le_refl _⟩ ⟨rfl, _, rfl, rfl, h⟩
    · rw [if_pos q] at h
      refine zr_aload_n X dX11_trace_19 0 rfl ?_
      refine zr_getR X dX11_trace_20 zd_X11_214 rfl zo_68 zl_68_67 ?_
      refine zr_iload_n X dX11_trace_23 1 rfl ?_
      obtain ⟨g0, h⟩ := zg_e h
      refine zr_iald X dX11_trace_24 za_110 (zI_in g0) ?_
      refine zr_goto (tgt := 29) X dX11_trace_25 (by decide) ?_
      exact zr_iret X dX11_trace_29 rfl ⟨Nat.le_refl _, Nat.le_refl _⟩ ⟨rfl, _, rfl, rfl, h⟩

set_option maxRecDepth 100000 in
set_option maxHeartbeats 4000000 in
theorem x_fM_taken {l : Launch} {S : State} {D : va_G} {cA : Nat → ClassId} {tb sx : Nat → Nat} (hG : zv_G S D cA tb sx) (d : Nat) (hd : 3 ≤ d) (p1 : Int32) (p2 : Int32) (m : zv_M) (P : Int32 → Prop) (h : zw (fM_taken p1 p2 m) P) : zv_Met l S D cA d 0 0 yX11_taken cX11_taken 4 (some .int) [.ref (S.heap.size + 68), .int p1, .int p2] SH0 m (zq_i SH0 (fun v m' => m = m' ∧ P v)) := by
  refine zv_met false hG pf_X11_taken (fun z => by cases z) (Nat.le_of_ble_eq_true rfl) [(0, .ref (S.heap.size + 68)), (1, .int p1), (2, .int p2)] rfl (fun p e s mi args below meth c X => ?_)
  rw [fM_taken] at h
  refine zr_aload_n X dX11_taken_0 0 rfl ?_
  refine zr_iload_n X dX11_taken_1 2 rfl ?_
  refine zr_iconst (v := 0) X dX11_taken_2 (by decide) ?_
  refine zr_bipush (v := 6) X dX11_taken_3 (by decide) ?_
  refine zr_callV_i (As := [.int p2, .int 0, .int 6]) (st := []) (d := d - 1) X dX11_taken_5 wm_X11_230 my_X11_in mv_X11_in zo_68 rfl (Nat.le_of_ble_eq_true rfl) (zRm (by omega)) ⟨Nat.le_refl _, Nat.le_refl _⟩ (x_fM_in hG (d - 1) (by omega) p2 0 6 m _ (zw_b1 h)) (fun r1 m2 q => ?_)
  obtain ⟨rfl, h⟩ := q
  refine zr_if_ne (tgt := 14) X dX11_taken_8 (by decide) (fun q => ?_) (fun q => ?_)
  · rw [if_neg q] at h
    refine zr_aload_n X dX11_taken_14 0 rfl ?_
    refine zr_iload_n X dX11_taken_15 1 rfl ?_
    refine zr_callV_i (As := [.int p1]) (st := []) (d := d - 1) X dX11_taken_16 wm_X11_234 my_X11_isPlan mv_X11_isPlan zo_68 rfl (Nat.le_of_ble_eq_true rfl) (zRm (by omega)) ⟨Nat.le_refl _, Nat.le_refl _⟩ (x_fM_isPlan hG (d - 1) (by omega) p1 m _ (zw_b1 h)) (fun r3 m4 q => ?_)
    obtain ⟨rfl, h⟩ := q
    refine zr_if_ne (tgt := 25) X dX11_taken_19 (by decide) (fun q => ?_) (fun q => ?_)
    · rw [if_neg q] at h
      refine zr_aload_n X dX11_taken_25 0 rfl ?_
      refine zr_getR X dX11_taken_26 zd_X11_26 rfl zo_68 zl_68_5 ?_
      refine zr_iload_n X dX11_taken_29 1 rfl ?_
      obtain ⟨g0, h⟩ := zg_e h
      refine zr_iald X dX11_taken_30 za_69 (zI_in g0) ?_
      refine zr_istore_n (lo' := [(3, .int (m.1 69 p1.toNatClampNeg)), (0, .ref (S.heap.size + 68)), (1, .int p1), (2, .int p2)]) X dX11_taken_31 (by decide) rfl ?_
      refine zr_iload_n X dX11_taken_32 3 rfl ?_
      refine zr_if_eq (tgt := 72) X dX11_taken_33 (by decide) (fun q => ?_) (fun q => ?_)
      · rw [if_pos q] at h
        refine zr_iload_n X dX11_taken_72 0 rfl ?_
        refine zr_goto (tgt := 78) X dX11_taken_73 (by decide) ?_
        exact zr_iret X dX11_taken_78 rfl ⟨Nat.le_refl _, Nat.le_refl _⟩ ⟨rfl, _, rfl, rfl, h⟩
      · rw [if_neg q] at h
        refine zr_iload_n X dX11_taken_36 0 rfl ?_
        refine zr_iload_n X dX11_taken_37 3 rfl ?_
        refine zr_icmp_eq (tgt := 72) X dX11_taken_38 (by decide) (fun q => ?_) (fun q => ?_)
        · rw [if_pos q] at h
          refine zr_iload_n X dX11_taken_72 0 rfl ?_
          refine zr_goto (tgt := 78) X dX11_taken_73 (by decide) ?_
          exact zr_iret X dX11_taken_78 rfl ⟨Nat.le_refl _, Nat.le_refl _⟩ ⟨rfl, _, rfl, rfl, h⟩
        · rw [if_neg q] at h
          refine zr_iload_n X dX11_taken_41 3 rfl ?_
          refine zr_iconst (v := 1) X dX11_taken_42 (by decide) ?_
          have hJ51 : zw (fM_taken_j51 p1 p2 m) P → zv_V S D cA p l e (zv_rm d 0 0) s mi args below meth c 4 (MQ below (zv_Q S D cA (zq_i SH0 (fun v m' => m = m' ∧ P v))) args s 0 0 (zv_fr S)) 0 0 51 [(2, .int p2), (3, .int (m.1 69 p1.toNatClampNeg))] [] SH0 m := by
            intro h
            rw [fM_taken_j51] at h
            refine zr_iload_n X dX11_taken_51 0 rfl ?_
            refine zr_iconst (v := 2) X dX11_taken_52 (by decide) ?_
            have hJ61 : zw (fM_taken_j61 p1 p2 m) P → zv_V S D cA p l e (zv_rm d 0 0) s mi args below meth c 4 (MQ below (zv_Q S D cA (zq_i SH0 (fun v m' => m = m' ∧ P v))) args s 0 0 (zv_fr S)) 0 0 61 [(2, .int p2), (3, .int (m.1 69 p1.toNatClampNeg))] [] SH0 m := by
              intro h
              rw [fM_taken_j61] at h
              refine zr_iload_n X dX11_taken_61 0 rfl ?_
              refine zr_iconst (v := 3) X dX11_taken_62 (by decide) ?_
              refine zr_icmp_ne (tgt := 76) X dX11_taken_63 (by decide) (fun q => ?_) (fun q => ?_)
              · rw [if_neg q] at h
                refine zr_bipush (v := (-12)) X dX11_taken_76 (by decide) ?_
                exact zr_iret X dX11_taken_78 rfl ⟨Nat.le_refl _, Nat.le_refl _⟩ ⟨rfl, _, rfl, rfl, h⟩
              · rw [if_pos q] at h
                refine zr_iload_n X dX11_taken_66 1 rfl ?_
                refine zr_bipush (v := 6) X dX11_taken_67 (by decide) ?_
                refine zr_icmp_ne (tgt := 76) X dX11_taken_69 (by decide) (fun q => ?_) (fun q => ?_)
                · rw [if_neg q] at h
                  refine zr_bipush (v := (-12)) X dX11_taken_76 (by decide) ?_
                  exact zr_iret X dX11_taken_78 rfl ⟨Nat.le_refl _, Nat.le_refl _⟩ ⟨rfl, _, rfl, rfl, h⟩
                · rw [if_pos q] at h
                  refine zr_iload_n X dX11_taken_72 1 rfl ?_
                  refine zr_goto (tgt := 78) X dX11_taken_73 (by decide) ?_
                  exact zr_iret X dX11_taken_78 rfl ⟨Nat.le_refl _, Nat.le_refl _⟩ ⟨rfl, _, rfl, rfl, h⟩
            refine zr_icmp_ne (tgt := 61) X dX11_taken_53 (by decide) (fun q => ?_) (fun q => ?_)
            · rw [if_neg q] at h
              exact zr_sub [0, 1] rfl (hJ61 h)
            · rw [if_pos q] at h
              refine zr_iload_n X dX11_taken_56 1 rfl ?_
              refine zr_iconst (v := 5) X dX11_taken_57 (by decide) ?_
              refine zr_icmp_eq (tgt := 72) X dX11_taken_58 (by decide) (fun q => ?_) (fun q => ?_)
              · rw [if_pos q] at h
                refine zr_iload_n X dX11_taken_72 1 rfl ?_
                refine zr_goto (tgt := 78) X dX11_taken_73 (by decide) ?_
                exact zr_iret X dX11_taken_78 rfl ⟨Nat.le_refl _, Nat.le_refl _⟩ ⟨rfl, _, rfl, rfl, h⟩
              · rw [if_neg q] at h
                exact zr_sub [0, 1] rfl (hJ61 h)
          refine zr_icmp_ne (tgt := 51) X dX11_taken_43 (by decide) (fun q => ?_) (fun q => ?_)
          · rw [if_neg q] at h
            exact zr_sub [3, 0] rfl (hJ51 h)
          · rw [if_pos q] at h
            refine zr_iload_n X dX11_taken_46 0 rfl ?_
            refine zr_iconst (v := 4) X dX11_taken_47 (by decide) ?_
            refine zr_icmp_eq (tgt := 72) X dX11_taken_48 (by decide) (fun q => ?_) (fun q => ?_)
            · rw [if_pos q] at h
              refine zr_iload_n X dX11_taken_72 0 rfl ?_
              refine zr_goto (tgt := 78) X dX11_taken_73 (by decide) ?_
              exact zr_iret X dX11_taken_78 rfl ⟨Nat.le_refl _, Nat.le_refl _⟩ ⟨rfl, _, rfl, rfl, h⟩
            · rw [if_neg q] at h
              exact zr_sub [3, 0] rfl (hJ51 h)
    · rw [if_pos q] at h
      refine zr_bipush (v := (-11)) X dX11_taken_22 (by decide) ?_
      exact zr_iret X dX11_taken_24 rfl ⟨Nat.le_refl _, Nat.le_refl _⟩ ⟨rfl, _, rfl, rfl, h⟩
  · rw [if_pos q] at h
    refine zr_bipush (v := (-2)) X dX11_taken_11 (by decide) ?_
    exact zr_iret X dX11_taken_13 rfl ⟨Nat.le_refl _, Nat.le_refl _⟩ ⟨rfl, _, rfl, rfl, h⟩

set_option maxRecDepth 100000 in
set_option maxHeartbeats 4000000 in
theorem x_fM_count {l : Launch} {S : State} {D : va_G} {cA : Nat → ClassId} {tb sx : Nat → Nat} (hG : zv_G S D cA tb sx) (d : Nat) (hd : 1 ≤ d) (p1 : Int32) (m : zv_M) (P : Int32 → Prop) (h : zw (fM_count p1 m) P) : zv_Met l S D cA d 0 0 yX11_count cX11_count 2 (some .int) [.ref (S.heap.size + 68), .int p1] SH0 m (zq_i SH0 (fun v m' => m = m' ∧ P v)) := by
  refine zv_met false hG pf_X11_count (fun z => by cases z) (Nat.le_of_ble_eq_true rfl) [(0, .ref (S.heap.size + 68)), (1, .int p1)] rfl (fun p e s mi args below meth c X => ?_)
  rw [fM_count] at h
  refine zr_iload_n X dX11_count_0 1 rfl ?_
  by_cases e0 : p1 = 0
  · rw [if_pos e0] at h
    refine zr_tableIn (tgt := 44) X dX11_count_1 0 (by rw [e0]; decide) (by decide) (by decide) rfl (by decide) ?_
    refine zr_aload_n X dX11_count_44 0 rfl ?_
    refine zr_getI X dX11_count_45 zd_X11_7 rfl zo_68 (by rw [zk_11 zo_68]; decide) ?_
    exact zr_iret X dX11_count_48 rfl ⟨Nat.le_refl _, Nat.le_refl _⟩ ⟨rfl, _, rfl, rfl, h⟩
  rw [if_neg e0] at h
  by_cases e1 : p1 = 1
  · rw [if_pos e1] at h
    refine zr_tableIn (tgt := 49) X dX11_count_1 1 (by rw [e1]; decide) (by decide) (by decide) rfl (by decide) ?_
    refine zr_aload_n X dX11_count_49 0 rfl ?_
    refine zr_getI X dX11_count_50 zd_X11_39 rfl zo_68 (by rw [zk_11 zo_68]; decide) ?_
    exact zr_iret X dX11_count_53 rfl ⟨Nat.le_refl _, Nat.le_refl _⟩ ⟨rfl, _, rfl, rfl, h⟩
  rw [if_neg e1] at h
  by_cases e2 : p1 = 2
  · rw [if_pos e2] at h
    refine zr_tableIn (tgt := 54) X dX11_count_1 2 (by rw [e2]; decide) (by decide) (by decide) rfl (by decide) ?_
    refine zr_aload_n X dX11_count_54 0 rfl ?_
    refine zr_getI X dX11_count_55 zd_X11_139 rfl zo_68 (by rw [zk_11 zo_68]; decide) ?_
    exact zr_iret X dX11_count_58 rfl ⟨Nat.le_refl _, Nat.le_refl _⟩ ⟨rfl, _, rfl, rfl, h⟩
  rw [if_neg e2] at h
  by_cases e3 : p1 = 3
  · rw [if_pos e3] at h
    refine zr_tableIn (tgt := 59) X dX11_count_1 3 (by rw [e3]; decide) (by decide) (by decide) rfl (by decide) ?_
    refine zr_aload_n X dX11_count_59 0 rfl ?_
    refine zr_getI X dX11_count_60 zd_X11_154 rfl zo_68 (by rw [zk_11 zo_68]; decide) ?_
    exact zr_iret X dX11_count_63 rfl ⟨Nat.le_refl _, Nat.le_refl _⟩ ⟨rfl, _, rfl, rfl, h⟩
  rw [if_neg e3] at h
  by_cases e4 : p1 = 4
  · rw [if_pos e4] at h
    refine zr_tableIn (tgt := 64) X dX11_count_1 4 (by rw [e4]; decide) (by decide) (by decide) rfl (by decide) ?_
    refine zr_aload_n X dX11_count_64 0 rfl ?_
    refine zr_getI X dX11_count_65 zd_X11_163 rfl zo_68 (by rw [zk_11 zo_68]; decide) ?_
    exact zr_iret X dX11_count_68 rfl ⟨Nat.le_refl _, Nat.le_refl _⟩ ⟨rfl, _, rfl, rfl, h⟩
  rw [if_neg e4] at h
  by_cases e5 : p1 = 5
  · rw [if_pos e5] at h
    refine zr_tableIn (tgt := 69) X dX11_count_1 5 (by rw [e5]; decide) (by decide) (by decide) rfl (by decide) ?_
    refine zr_aload_n X dX11_count_69 0 rfl ?_
    refine zr_getI X dX11_count_70 zd_X11_45 rfl zo_68 (by rw [zk_11 zo_68]; decide) ?_
    exact zr_iret X dX11_count_73 rfl ⟨Nat.le_refl _, Nat.le_refl _⟩ ⟨rfl, _, rfl, rfl, h⟩
  rw [if_neg e5] at h
  by_cases e6 : p1 = 6
  · rw [if_pos e6] at h
    refine zr_tableIn (tgt := 74) X dX11_count_1 6 (by rw [e6]; decide) (by decide) (by decide) rfl (by decide) ?_
    refine zr_aload_n X dX11_count_74 0 rfl ?_
    refine zr_getI X dX11_count_75 zd_X11_211 rfl zo_68 (by rw [zk_11 zo_68]; decide) ?_
    exact zr_iret X dX11_count_78 rfl ⟨Nat.le_refl _, Nat.le_refl _⟩ ⟨rfl, _, rfl, rfl, h⟩
  rw [if_neg e6] at h
  refine zr_tableOut (tgt := 79) X dX11_count_1 (by have ze0 := lv_neT e0 (by decide : (0 : Int32).toInt = 0); have ze1 := lv_neT e1 (by decide : (1 : Int32).toInt = 1); have ze2 := lv_neT e2 (by decide : (2 : Int32).toInt = 2); have ze3 := lv_neT e3 (by decide : (3 : Int32).toInt = 3); have ze4 := lv_neT e4 (by decide : (4 : Int32).toInt = 4); have ze5 := lv_neT e5 (by decide : (5 : Int32).toInt = 5); have ze6 := lv_neT e6 (by decide : (6 : Int32).toInt = 6); omega) (by decide) ?_
  refine zr_bipush (v := (-2)) X dX11_count_79 (by decide) ?_
  exact zr_iret X dX11_count_81 rfl ⟨Nat.le_refl _, Nat.le_refl _⟩ ⟨rfl, _, rfl, rfl, h⟩

set_option maxRecDepth 100000 in
set_option maxHeartbeats 4000000 in
theorem x_fM_tape {l : Launch} {S : State} {D : va_G} {cA : Nat → ClassId} {tb sx : Nat → Nat} (hG : zv_G S D cA tb sx) (d : Nat) (hd : 3 ≤ d) (p1 : Int32) (p2 : Int32) (p3 : Int32) (m : zv_M) (P : Int32 → zv_M → Prop) (h : zw2 (fM_tape p1 p2 p3 m) P) : zv_Met l S D cA d 0 0 yX11_tape cX11_tape 5 (some .int) [.ref (S.heap.size + 68), .int p1, .int p2, .int p3] SH0 m (zq_i SH0 P) := by
  refine zv_met false hG pf_X11_tape (fun z => by cases z) (Nat.le_of_ble_eq_true rfl) [(0, .ref (S.heap.size + 68)), (1, .int p1), (2, .int p2), (3, .int p3)] rfl (fun p e s mi args below meth c X => ?_)
  rw [fM_tape] at h
  refine zr_aload_n X dX11_tape_0 0 rfl ?_
  refine zr_iload_n X dX11_tape_1 1 rfl ?_
  refine zr_callV_i (As := [.int p1]) (st := []) (d := d - 1) X dX11_tape_2 wm_X11_423 my_X11_isTape mv_X11_isTape zo_68 rfl (Nat.le_of_ble_eq_true rfl) (zRm (by omega)) ⟨Nat.le_refl _, Nat.le_refl _⟩ (x_fM_isTape hG (d - 1) (by omega) p1 m _ (zw_b12 h)) (fun r1 m2 q => ?_)
  obtain ⟨rfl, h⟩ := q
  refine zr_if_ne (tgt := 10) X dX11_tape_5 (by decide) (fun q => ?_) (fun q => ?_)
  · rw [if_neg q] at h
    refine zr_aload_n X dX11_tape_10 0 rfl ?_
    refine zr_iload_n X dX11_tape_11 2 rfl ?_
    refine zr_iconst (v := (-1)) X dX11_tape_12 (by decide) ?_
    refine zr_iconst (v := 4) X dX11_tape_13 (by decide) ?_
    refine zr_callV_i (As := [.int p2, .int (-1), .int 4]) (st := []) (d := d - 1) X dX11_tape_14 wm_X11_230 my_X11_in mv_X11_in zo_68 rfl (Nat.le_of_ble_eq_true rfl) (zRm (by omega)) ⟨Nat.le_refl _, Nat.le_refl _⟩ (x_fM_in hG (d - 1) (by omega) p2 (-1) 4 m _ (zw_b12 h)) (fun r3 m4 q => ?_)
    obtain ⟨rfl, h⟩ := q
    refine zr_if_eq (tgt := 30) X dX11_tape_17 (by decide) (fun q => ?_) (fun q => ?_)
    · rw [if_pos q] at h
      refine zr_bipush (v := (-2)) X dX11_tape_30 (by decide) ?_
      exact zr_iret X dX11_tape_32 rfl ⟨Nat.le_refl _, Nat.le_refl _⟩ ⟨rfl, _, rfl, h⟩
    · rw [if_neg q] at h
      refine zr_iload_n X dX11_tape_20 2 rfl ?_
      have hJ33 : zw2 (fM_tape_j33 p1 p2 p3 m) P → zv_V S D cA p l e (zv_rm d 0 0) s mi args below meth c 5 (MQ below (zv_Q S D cA (zq_i SH0 P)) args s 0 0 (zv_fr S)) 0 0 33 [(0, .ref (S.heap.size + 68)), (1, .int p1), (2, .int p2), (3, .int p3)] [] SH0 m := by
        intro h
        rw [fM_tape_j33] at h
        refine zr_iload_n X dX11_tape_33 2 rfl ?_
        have hJ44 : zw2 (fM_tape_j44 p1 p2 p3 m) P → zv_V S D cA p l e (zv_rm d 0 0) s mi args below meth c 5 (MQ below (zv_Q S D cA (zq_i SH0 P)) args s 0 0 (zv_fr S)) 0 0 44 [(0, .ref (S.heap.size + 68)), (1, .int p1), (2, .int p2), (3, .int p3)] [] SH0 m := by
          intro h
          rw [fM_tape_j44] at h
          refine zr_aload_n X dX11_tape_44 0 rfl ?_
          refine zr_getR X dX11_tape_45 zd_X11_217 rfl zo_68 zl_68_68 ?_
          refine zr_iload_n X dX11_tape_48 1 rfl ?_
          refine zr_iload_n X dX11_tape_49 2 rfl ?_
          obtain ⟨g0, h⟩ := zg_e2 h
          refine zr_iast X dX11_tape_50 za_111 (zI_in g0) ?_
          refine zr_aload_n X dX11_tape_51 0 rfl ?_
          refine zr_getR X dX11_tape_52 zd_X11_220 rfl zo_68 zl_68_69 ?_
          refine zr_iload_n X dX11_tape_55 1 rfl ?_
          refine zr_iload_n X dX11_tape_56 2 rfl ?_
          have hJ65 : ∀ (v5 : Int32), zw2 (fM_tape_j65 p1 p2 m v5) P → zv_V S D cA p l e (zv_rm d 0 0) s mi args below meth c 5 (MQ below (zv_Q S D cA (zq_i SH0 P)) args s 0 0 (zv_fr S)) 0 0 65 [(0, .ref (S.heap.size + 68)), (1, .int p1)] [.int v5, .int p1, .ref (S.heap.size + 112)] SH0 (wI m 111 p1.toNatClampNeg p2) := by
            intro v5 h
            rw [fM_tape_j65] at h
            obtain ⟨g0, h⟩ := zg_e2 h
            refine zr_iast X dX11_tape_65 za_112 (zI_in g0) ?_
            refine zr_iconst (v := 0) X dX11_tape_66 (by decide) ?_
            refine zr_istore (lo' := [(4, .int 0), (0, .ref (S.heap.size + 68)), (1, .int p1)]) X dX11_tape_67 (by decide) rfl ?_
            refine zr_sub [1, 2, 0] rfl ?_
            refine zl_w2 (fun a7 m8 => zv_V S D cA p l e (zv_rm d 0 0) s mi args below meth c 5 (MQ below (zv_Q S D cA (zq_i SH0 P)) args s 0 0 (zv_fr S)) 0 0 69 [(0, .ref (S.heap.size + 68)), (1, .int p1), (4, .int a7)] [] SH0 m8) (fM_tape_l69 p1) _ (fun P6 hl6 hr6 a7 m8 h => ?_) zFU 0 (wI (wI m 111 p1.toNatClampNeg p2) 112 p1.toNatClampNeg v5) (zw_b12 h)
            rw [fM_tape_l69] at h
            refine zr_iload X dX11_tape_69 2 rfl ?_
            refine zr_bipush (v := 60) X dX11_tape_71 (by decide) ?_
            refine zr_icmp_ge (tgt := 95) X dX11_tape_73 (by decide) (fun q => ?_) (fun q => ?_)
            · rw [if_neg q] at h
              refine zr_iconst (v := 1) X dX11_tape_95 (by decide) ?_
              have h := hr6 _ h
              exact zr_iret X dX11_tape_96 rfl ⟨Nat.le_refl _, Nat.le_refl _⟩ ⟨rfl, _, rfl, h⟩
            · rw [if_pos q] at h
              refine zr_aload_n X dX11_tape_76 0 rfl ?_
              refine zr_getR X dX11_tape_77 zd_X11_223 rfl zo_68 zl_68_70 ?_
              refine zr_bipush (v := 60) X dX11_tape_80 (by decide) ?_
              refine zr_iload_n X dX11_tape_82 1 rfl ?_
              refine zr_imul X dX11_tape_83 ?_
              refine zr_iload X dX11_tape_84 2 rfl ?_
              refine zr_iadd X dX11_tape_86 ?_
              refine zr_lconst (v := 0) X dX11_tape_87 (by decide) ?_
              obtain ⟨g0, h⟩ := zg_e h
              refine zr_last X dX11_tape_88 za_113 (zI_in g0) ?_
              refine zr_iinc (v := a7 + 1) (lo' := [(4, .int (a7 + 1)), (0, .ref (S.heap.size + 68)), (1, .int p1)]) X dX11_tape_89 2 rfl rfl (by decide) rfl ?_
              refine zr_goto (tgt := 69) X dX11_tape_92 (by decide) ?_
              have h := hl6 _ h
              exact zr_sub [1, 2, 0] rfl h
          refine zr_if_ge (tgt := 64) X dX11_tape_57 (by decide) (fun q => ?_) (fun q => ?_)
          · rw [if_neg q] at h
            refine zr_iload_n X dX11_tape_64 3 rfl ?_
            exact zr_sub [0, 1] rfl (hJ65 p3 h)
          · rw [if_pos q] at h
            refine zr_iconst (v := 0) X dX11_tape_60 (by decide) ?_
            refine zr_goto (tgt := 65) X dX11_tape_61 (by decide) ?_
            exact zr_sub [0, 1] rfl (hJ65 0 h)
        refine zr_if_lt (tgt := 44) X dX11_tape_34 (by decide) (fun q => ?_) (fun q => ?_)
        · rw [if_pos q] at h
          exact zr_sub [0, 1, 2, 3] rfl (hJ44 h)
        · rw [if_neg q] at h
          refine zr_iload_n X dX11_tape_37 3 rfl ?_
          refine zr_if_ge (tgt := 44) X dX11_tape_38 (by decide) (fun q => ?_) (fun q => ?_)
          · rw [if_neg q] at h
            exact zr_sub [0, 1, 2, 3] rfl (hJ44 h)
          · rw [if_pos q] at h
            refine zr_bipush (v := (-14)) X dX11_tape_41 (by decide) ?_
            exact zr_iret X dX11_tape_43 rfl ⟨Nat.le_refl _, Nat.le_refl _⟩ ⟨rfl, _, rfl, h⟩
      refine zr_if_lt (tgt := 33) X dX11_tape_21 (by decide) (fun q => ?_) (fun q => ?_)
      · rw [if_pos q] at h
        exact zr_sub [0, 1, 2, 3] rfl (hJ33 h)
      · rw [if_neg q] at h
        refine zr_iload_n X dX11_tape_24 3 rfl ?_
        refine zr_bipush (v := 60) X dX11_tape_25 (by decide) ?_
        refine zr_icmp_le (tgt := 33) X dX11_tape_27 (by decide) (fun q => ?_) (fun q => ?_)
        · rw [if_neg q] at h
          exact zr_sub [0, 1, 2, 3] rfl (hJ33 h)
        · rw [if_pos q] at h
          refine zr_bipush (v := (-2)) X dX11_tape_30 (by decide) ?_
          exact zr_iret X dX11_tape_32 rfl ⟨Nat.le_refl _, Nat.le_refl _⟩ ⟨rfl, _, rfl, h⟩
  · rw [if_pos q] at h
    refine zr_iconst (v := (-1)) X dX11_tape_8 (by decide) ?_
    exact zr_iret X dX11_tape_9 rfl ⟨Nat.le_refl _, Nat.le_refl _⟩ ⟨rfl, _, rfl, h⟩

set_option maxRecDepth 100000 in
set_option maxHeartbeats 4000000 in
theorem x_fM_narrow {l : Launch} {S : State} {D : va_G} {cA : Nat → ClassId} {tb sx : Nat → Nat} (hG : zv_G S D cA tb sx) (d : Nat) (hd : 1 ≤ d) (p1 : Int32) (p2 : Int64) (m : zv_M) (P : Int64 → Prop) (h : zw (fM_narrow p1 p2) P) : zv_Met l S D cA d 0 0 yX11_narrow cX11_narrow 4 (some .long) [.ref (S.heap.size + 68), .int p1, .long p2] SH0 m (zq_l SH0 (fun v m' => m = m' ∧ P v)) := by
  refine zv_met false hG pf_X11_narrow (fun z => by cases z) (Nat.le_of_ble_eq_true rfl) [(0, .ref (S.heap.size + 68)), (1, .int p1), (2, .long p2)] rfl (fun p e s mi args below meth c X => ?_)
  rw [fM_narrow] at h
  refine zr_iload_n X dX11_narrow_0 1 rfl ?_
  refine zr_if_ne (tgt := 11) X dX11_narrow_1 (by decide) (fun q => ?_) (fun q => ?_)
  · rw [if_neg q] at h
    refine zr_iload_n X dX11_narrow_11 1 rfl ?_
    refine zr_iconst (v := 1) X dX11_narrow_12 (by decide) ?_
    refine zr_icmp_ne (tgt := 23) X dX11_narrow_13 (by decide) (fun q => ?_) (fun q => ?_)
    · rw [if_neg q] at h
      refine zr_iload_n X dX11_narrow_23 1 rfl ?_
      refine zr_iconst (v := 2) X dX11_narrow_24 (by decide) ?_
      refine zr_icmp_ne (tgt := 34) X dX11_narrow_25 (by decide) (fun q => ?_) (fun q => ?_)
      · rw [if_neg q] at h
        refine zr_iload_n X dX11_narrow_34 1 rfl ?_
        refine zr_iconst (v := 4) X dX11_narrow_35 (by decide) ?_
        refine zr_icmp_ne (tgt := 53) X dX11_narrow_36 (by decide) (fun q => ?_) (fun q => ?_)
        · rw [if_neg q] at h
          refine zr_lload_n X dX11_narrow_53 2 rfl ?_
          exact zr_lret X dX11_narrow_54 ⟨Nat.le_refl _, Nat.le_refl _⟩ ⟨rfl, _, rfl, rfl, h⟩
        · rw [if_pos q] at h
          refine zr_lload_n X dX11_narrow_39 2 rfl ?_
          refine zr_lconst (v := 0) X dX11_narrow_40 (by decide) ?_
          refine zr_lcmp X dX11_narrow_41 ?_
          refine zr_if_eq (tgt := 49) X dX11_narrow_42 (by decide) (fun q => ?_) (fun q => ?_)
          · rw [if_pos q] at h
            refine zr_lconst (v := 0) X dX11_narrow_49 (by decide) ?_
            refine zr_goto (tgt := 54) X dX11_narrow_50 (by decide) ?_
            exact zr_lret X dX11_narrow_54 ⟨Nat.le_refl _, Nat.le_refl _⟩ ⟨rfl, _, rfl, rfl, h⟩
          · rw [if_neg q] at h
            refine zr_lconst (v := 1) X dX11_narrow_45 (by decide) ?_
            refine zr_goto (tgt := 54) X dX11_narrow_46 (by decide) ?_
            exact zr_lret X dX11_narrow_54 ⟨Nat.le_refl _, Nat.le_refl _⟩ ⟨rfl, _, rfl, rfl, h⟩
      · rw [if_pos q] at h
        refine zr_lload_n X dX11_narrow_28 2 rfl ?_
        refine zr_l2i X dX11_narrow_29 ?_
        refine zr_i2l X dX11_narrow_30 ?_
        refine zr_goto (tgt := 54) X dX11_narrow_31 (by decide) ?_
        exact zr_lret X dX11_narrow_54 ⟨Nat.le_refl _, Nat.le_refl _⟩ ⟨rfl, _, rfl, rfl, h⟩
    · rw [if_pos q] at h
      refine zr_lload_n X dX11_narrow_16 2 rfl ?_
      refine zr_l2i X dX11_narrow_17 ?_
      refine zr_i2s X dX11_narrow_18 ?_
      refine zr_i2l X dX11_narrow_19 ?_
      refine zr_goto (tgt := 54) X dX11_narrow_20 (by decide) ?_
      exact zr_lret X dX11_narrow_54 ⟨Nat.le_refl _, Nat.le_refl _⟩ ⟨rfl, _, rfl, rfl, h⟩
  · rw [if_pos q] at h
    refine zr_lload_n X dX11_narrow_4 2 rfl ?_
    refine zr_l2i X dX11_narrow_5 ?_
    refine zr_i2b X dX11_narrow_6 ?_
    refine zr_i2l X dX11_narrow_7 ?_
    refine zr_goto (tgt := 54) X dX11_narrow_8 (by decide) ?_
    exact zr_lret X dX11_narrow_54 ⟨Nat.le_refl _, Nat.le_refl _⟩ ⟨rfl, _, rfl, rfl, h⟩

set_option maxRecDepth 100000 in
set_option maxHeartbeats 4000000 in
theorem x_fM_item {l : Launch} {S : State} {D : va_G} {cA : Nat → ClassId} {tb sx : Nat → Nat} (hG : zv_G S D cA tb sx) (d : Nat) (hd : 3 ≤ d) (p1 : Int32) (p2 : Int32) (p3 : Int64) (m : zv_M) (P : Int32 → zv_M → Prop) (h : zw2 (fM_item p1 p2 p3 m) P) : zv_Met l S D cA d 0 0 yX11_item cX11_item 5 (some .int) [.ref (S.heap.size + 68), .int p1, .int p2, .long p3] SH0 m (zq_i SH0 P) := by
  refine zv_met false hG pf_X11_item (fun z => by cases z) (Nat.le_of_ble_eq_true rfl) [(0, .ref (S.heap.size + 68)), (1, .int p1), (2, .int p2), (3, .long p3)] rfl (fun p e s mi args below meth c X => ?_)
  rw [fM_item] at h
  refine zr_aload_n X dX11_item_0 0 rfl ?_
  refine zr_iload_n X dX11_item_1 1 rfl ?_
  refine zr_callV_i (As := [.int p1]) (st := []) (d := d - 1) X dX11_item_2 wm_X11_423 my_X11_isTape mv_X11_isTape zo_68 rfl (Nat.le_of_ble_eq_true rfl) (zRm (by omega)) ⟨Nat.le_refl _, Nat.le_refl _⟩ (x_fM_isTape hG (d - 1) (by omega) p1 m _ (zw_b12 h)) (fun r1 m2 q => ?_)
  obtain ⟨rfl, h⟩ := q
  refine zr_if_ne (tgt := 10) X dX11_item_5 (by decide) (fun q => ?_) (fun q => ?_)
  · rw [if_neg q] at h
    refine zr_aload_n X dX11_item_10 0 rfl ?_
    refine zr_getR X dX11_item_11 zd_X11_217 rfl zo_68 zl_68_68 ?_
    refine zr_iload_n X dX11_item_14 1 rfl ?_
    obtain ⟨g0, h⟩ := zg_e2 h
    refine zr_iald X dX11_item_15 za_111 (zI_in g0) ?_
    refine zr_if_ge (tgt := 22) X dX11_item_16 (by decide) (fun q => ?_) (fun q => ?_)
    · rw [if_neg q] at h
      refine zr_aload_n X dX11_item_22 0 rfl ?_
      refine zr_iload_n X dX11_item_23 2 rfl ?_
      refine zr_iconst (v := 0) X dX11_item_24 (by decide) ?_
      refine zr_aload_n X dX11_item_25 0 rfl ?_
      refine zr_getR X dX11_item_26 zd_X11_220 rfl zo_68 zl_68_69 ?_
      refine zr_iload_n X dX11_item_29 1 rfl ?_
      obtain ⟨g0, h⟩ := zg_e2 h
      refine zr_iald X dX11_item_30 za_112 (zI_in g0) ?_
      refine zr_iconst (v := 1) X dX11_item_31 (by decide) ?_
      refine zr_isub X dX11_item_32 ?_
      refine zr_callV_i (As := [.int p2, .int 0, .int ((m.1 112 p1.toNatClampNeg) - 1)]) (st := []) (d := d - 1) X dX11_item_33 wm_X11_230 my_X11_in mv_X11_in zo_68 rfl (Nat.le_of_ble_eq_true rfl) (zRm (by omega)) ⟨Nat.le_refl _, Nat.le_refl _⟩ (x_fM_in hG (d - 1) (by omega) p2 0 ((m.1 112 p1.toNatClampNeg) - 1) m _ (zw_b12 h)) (fun r3 m4 q => ?_)
      obtain ⟨rfl, h⟩ := q
      refine zr_if_ne (tgt := 42) X dX11_item_36 (by decide) (fun q => ?_) (fun q => ?_)
      · rw [if_neg q] at h
        refine zr_aload_n X dX11_item_42 0 rfl ?_
        refine zr_getR X dX11_item_43 zd_X11_223 rfl zo_68 zl_68_70 ?_
        refine zr_bipush (v := 60) X dX11_item_46 (by decide) ?_
        refine zr_iload_n X dX11_item_48 1 rfl ?_
        refine zr_imul X dX11_item_49 ?_
        refine zr_iload_n X dX11_item_50 2 rfl ?_
        refine zr_iadd X dX11_item_51 ?_
        refine zr_aload_n X dX11_item_52 0 rfl ?_
        refine zr_aload_n X dX11_item_53 0 rfl ?_
        refine zr_getR X dX11_item_54 zd_X11_217 rfl zo_68 zl_68_68 ?_
        refine zr_iload_n X dX11_item_57 1 rfl ?_
        obtain ⟨g0, h⟩ := zg_e2 h
        refine zr_iald X dX11_item_58 za_111 (zI_in g0) ?_
        refine zr_lload_n X dX11_item_59 3 rfl ?_
        refine zr_callV_l (As := [.int (m.1 111 p1.toNatClampNeg), .long p3]) (st := [.int ((60 * p1) + p2), .ref (S.heap.size + 113)]) (d := d - 1) X dX11_item_60 wm_X11_450 my_X11_narrow mv_X11_narrow zo_68 rfl (Nat.le_of_ble_eq_true rfl) (zRm (by omega)) ⟨Nat.le_refl _, Nat.le_refl _⟩ (x_fM_narrow hG (d - 1) (by omega) (m.1 111 p1.toNatClampNeg) p3 m _ (zw_b12 h)) (fun r5 m6 q => ?_)
        obtain ⟨rfl, h⟩ := q
        obtain ⟨g0, h⟩ := zg_e2 h
        refine zr_last X dX11_item_63 za_113 (zI_in g0) ?_
        refine zr_iconst (v := 1) X dX11_item_64 (by decide) ?_
        exact zr_iret X dX11_item_65 rfl ⟨Nat.le_refl _, Nat.le_refl _⟩ ⟨rfl, _, rfl, h⟩
      · rw [if_pos q] at h
        refine zr_bipush (v := (-13)) X dX11_item_39 (by decide) ?_
        exact zr_iret X dX11_item_41 rfl ⟨Nat.le_refl _, Nat.le_refl _⟩ ⟨rfl, _, rfl, h⟩
    · rw [if_pos q] at h
      refine zr_bipush (v := (-11)) X dX11_item_19 (by decide) ?_
      exact zr_iret X dX11_item_21 rfl ⟨Nat.le_refl _, Nat.le_refl _⟩ ⟨rfl, _, rfl, h⟩
  · rw [if_pos q] at h
    refine zr_iconst (v := (-1)) X dX11_item_8 (by decide) ?_
    exact zr_iret X dX11_item_9 rfl ⟨Nat.le_refl _, Nat.le_refl _⟩ ⟨rfl, _, rfl, h⟩

set_option maxRecDepth 100000 in
set_option maxHeartbeats 4000000 in
theorem x_fM_read {l : Launch} {S : State} {D : va_G} {cA : Nat → ClassId} {tb sx : Nat → Nat} (hG : zv_G S D cA tb sx) (d : Nat) (hd : 3 ≤ d) (p1 : Int32) (p2 : Int32) (m : zv_M) (P : Int64 → Prop) (h : zw (fM_read p1 p2 m) P) : zv_Met l S D cA d 0 0 yX11_read cX11_read 3 (some .long) [.ref (S.heap.size + 68), .int p1, .int p2] SH0 m (zq_l SH0 (fun v m' => m = m' ∧ P v)) := by
  refine zv_met false hG pf_X11_read (fun z => by cases z) (Nat.le_of_ble_eq_true rfl) [(0, .ref (S.heap.size + 68)), (1, .int p1), (2, .int p2)] rfl (fun p e s mi args below meth c X => ?_)
  rw [fM_read] at h
  refine zr_aload_n X dX11_read_0 0 rfl ?_
  refine zr_iload_n X dX11_read_1 1 rfl ?_
  refine zr_callV_i (As := [.int p1]) (st := []) (d := d - 1) X dX11_read_2 wm_X11_423 my_X11_isTape mv_X11_isTape zo_68 rfl (Nat.le_of_ble_eq_true rfl) (zRm (by omega)) ⟨Nat.le_refl _, Nat.le_refl _⟩ (x_fM_isTape hG (d - 1) (by omega) p1 m _ (zw_b1 h)) (fun r1 m2 q => ?_)
  obtain ⟨rfl, h⟩ := q
  refine zr_if_eq (tgt := 34) X dX11_read_5 (by decide) (fun q => ?_) (fun q => ?_)
  · rw [if_pos q] at h
    refine zr_ldc2 X dX11_read_34 wc_X11_417 ?_
    refine zr_goto (tgt := 51) X dX11_read_37 (by decide) ?_
    exact zr_lret X dX11_read_51 ⟨Nat.le_refl _, Nat.le_refl _⟩ ⟨rfl, _, rfl, rfl, h⟩
  · rw [if_neg q] at h
    refine zr_aload_n X dX11_read_8 0 rfl ?_
    refine zr_getR X dX11_read_9 zd_X11_217 rfl zo_68 zl_68_68 ?_
    refine zr_iload_n X dX11_read_12 1 rfl ?_
    obtain ⟨g0, h⟩ := zg_e h
    refine zr_iald X dX11_read_13 za_111 (zI_in g0) ?_
    refine zr_if_lt (tgt := 34) X dX11_read_14 (by decide) (fun q => ?_) (fun q => ?_)
    · rw [if_pos q] at h
      refine zr_ldc2 X dX11_read_34 wc_X11_417 ?_
      refine zr_goto (tgt := 51) X dX11_read_37 (by decide) ?_
      exact zr_lret X dX11_read_51 ⟨Nat.le_refl _, Nat.le_refl _⟩ ⟨rfl, _, rfl, rfl, h⟩
    · rw [if_neg q] at h
      refine zr_aload_n X dX11_read_17 0 rfl ?_
      refine zr_iload_n X dX11_read_18 2 rfl ?_
      refine zr_iconst (v := 0) X dX11_read_19 (by decide) ?_
      refine zr_aload_n X dX11_read_20 0 rfl ?_
      refine zr_getR X dX11_read_21 zd_X11_220 rfl zo_68 zl_68_69 ?_
      refine zr_iload_n X dX11_read_24 1 rfl ?_
      obtain ⟨g0, h⟩ := zg_e h
      refine zr_iald X dX11_read_25 za_112 (zI_in g0) ?_
      refine zr_iconst (v := 1) X dX11_read_26 (by decide) ?_
      refine zr_isub X dX11_read_27 ?_
      refine zr_callV_i (As := [.int p2, .int 0, .int ((m.1 112 p1.toNatClampNeg) - 1)]) (st := []) (d := d - 1) X dX11_read_28 wm_X11_230 my_X11_in mv_X11_in zo_68 rfl (Nat.le_of_ble_eq_true rfl) (zRm (by omega)) ⟨Nat.le_refl _, Nat.le_refl _⟩ (x_fM_in hG (d - 1) (by omega) p2 0 ((m.1 112 p1.toNatClampNeg) - 1) m _ (zw_b1 h)) (fun r3 m4 q => ?_)
      obtain ⟨rfl, h⟩ := q
      refine zr_if_ne (tgt := 40) X dX11_read_31 (by decide) (fun q => ?_) (fun q => ?_)
      · rw [if_neg q] at h
        refine zr_aload_n X dX11_read_40 0 rfl ?_
        refine zr_getR X dX11_read_41 zd_X11_223 rfl zo_68 zl_68_70 ?_
        refine zr_bipush (v := 60) X dX11_read_44 (by decide) ?_
        refine zr_iload_n X dX11_read_46 1 rfl ?_
        refine zr_imul X dX11_read_47 ?_
        refine zr_iload_n X dX11_read_48 2 rfl ?_
        refine zr_iadd X dX11_read_49 ?_
        obtain ⟨g0, h⟩ := zg_e h
        refine zr_lald X dX11_read_50 za_113 (zI_in g0) ?_
        exact zr_lret X dX11_read_51 ⟨Nat.le_refl _, Nat.le_refl _⟩ ⟨rfl, _, rfl, rfl, h⟩
      · rw [if_pos q] at h
        refine zr_ldc2 X dX11_read_34 wc_X11_417 ?_
        refine zr_goto (tgt := 51) X dX11_read_37 (by decide) ?_
        exact zr_lret X dX11_read_51 ⟨Nat.le_refl _, Nat.le_refl _⟩ ⟨rfl, _, rfl, rfl, h⟩

set_option maxRecDepth 100000 in
set_option maxHeartbeats 4000000 in
theorem x_fM_shift {l : Launch} {S : State} {D : va_G} {cA : Nat → ClassId} {tb sx : Nat → Nat} (hG : zv_G S D cA tb sx) (d : Nat) (hd : 3 ≤ d) (p1 : Int32) (p2 : Int32) (p3 : Int32) (p4 : Int32) (p5 : Int32) (m : zv_M) (P : Int32 → zv_M → Prop) (h : zw2 (fM_shift p1 p2 p3 p4 p5 m) P) : zv_Met l S D cA d 0 0 yX11_shift cX11_shift 7 (some .int) [.ref (S.heap.size + 68), .int p1, .int p2, .int p3, .int p4, .int p5] SH0 m (zq_i SH0 P) := by
  refine zv_met false hG pf_X11_shift (fun z => by cases z) (Nat.le_of_ble_eq_true rfl) [(0, .ref (S.heap.size + 68)), (1, .int p1), (2, .int p2), (3, .int p3), (4, .int p4), (5, .int p5)] rfl (fun p e s mi args below meth c X => ?_)
  rw [fM_shift] at h
  refine zr_aload_n X dX11_shift_0 0 rfl ?_
  refine zr_iload_n X dX11_shift_1 1 rfl ?_
  refine zr_callV_i (As := [.int p1]) (st := []) (d := d - 1) X dX11_shift_2 wm_X11_423 my_X11_isTape mv_X11_isTape zo_68 rfl (Nat.le_of_ble_eq_true rfl) (zRm (by omega)) ⟨Nat.le_refl _, Nat.le_refl _⟩ (x_fM_isTape hG (d - 1) (by omega) p1 m _ (zw_b12 h)) (fun r1 m2 q => ?_)
  obtain ⟨rfl, h⟩ := q
  refine zr_if_eq (tgt := 16) X dX11_shift_5 (by decide) (fun q => ?_) (fun q => ?_)
  · rw [if_pos q] at h
    refine zr_iconst (v := (-1)) X dX11_shift_16 (by decide) ?_
    exact zr_iret X dX11_shift_17 rfl ⟨Nat.le_refl _, Nat.le_refl _⟩ ⟨rfl, _, rfl, h⟩
  · rw [if_neg q] at h
    refine zr_aload_n X dX11_shift_8 0 rfl ?_
    refine zr_iload_n X dX11_shift_9 3 rfl ?_
    refine zr_callV_i (As := [.int p3]) (st := []) (d := d - 1) X dX11_shift_10 wm_X11_423 my_X11_isTape mv_X11_isTape zo_68 rfl (Nat.le_of_ble_eq_true rfl) (zRm (by omega)) ⟨Nat.le_refl _, Nat.le_refl _⟩ (x_fM_isTape hG (d - 1) (by omega) p3 m _ (zw_b12 h)) (fun r3 m4 q => ?_)
    obtain ⟨rfl, h⟩ := q
    refine zr_if_ne (tgt := 18) X dX11_shift_13 (by decide) (fun q => ?_) (fun q => ?_)
    · rw [if_neg q] at h
      refine zr_aload_n X dX11_shift_18 0 rfl ?_
      refine zr_getR X dX11_shift_19 zd_X11_217 rfl zo_68 zl_68_68 ?_
      refine zr_iload_n X dX11_shift_22 1 rfl ?_
      obtain ⟨g0, h⟩ := zg_e2 h
      refine zr_iald X dX11_shift_23 za_111 (zI_in g0) ?_
      refine zr_if_lt (tgt := 36) X dX11_shift_24 (by decide) (fun q => ?_) (fun q => ?_)
      · rw [if_pos q] at h
        refine zr_bipush (v := (-11)) X dX11_shift_36 (by decide) ?_
        exact zr_iret X dX11_shift_38 rfl ⟨Nat.le_refl _, Nat.le_refl _⟩ ⟨rfl, _, rfl, h⟩
      · rw [if_neg q] at h
        refine zr_aload_n X dX11_shift_27 0 rfl ?_
        refine zr_getR X dX11_shift_28 zd_X11_217 rfl zo_68 zl_68_68 ?_
        refine zr_iload_n X dX11_shift_31 3 rfl ?_
        obtain ⟨g0, h⟩ := zg_e2 h
        refine zr_iald X dX11_shift_32 za_111 (zI_in g0) ?_
        refine zr_if_ge (tgt := 39) X dX11_shift_33 (by decide) (fun q => ?_) (fun q => ?_)
        · rw [if_neg q] at h
          refine zr_aload_n X dX11_shift_39 0 rfl ?_
          refine zr_getR X dX11_shift_40 zd_X11_217 rfl zo_68 zl_68_68 ?_
          refine zr_iload_n X dX11_shift_43 1 rfl ?_
          obtain ⟨g0, h⟩ := zg_e2 h
          refine zr_iald X dX11_shift_44 za_111 (zI_in g0) ?_
          refine zr_aload_n X dX11_shift_45 0 rfl ?_
          refine zr_getR X dX11_shift_46 zd_X11_217 rfl zo_68 zl_68_68 ?_
          refine zr_iload_n X dX11_shift_49 3 rfl ?_
          obtain ⟨g0, h⟩ := zg_e2 h
          refine zr_iald X dX11_shift_50 za_111 (zI_in g0) ?_
          refine zr_icmp_eq (tgt := 57) X dX11_shift_51 (by decide) (fun q => ?_) (fun q => ?_)
          · rw [if_pos q] at h
            refine zr_iload X dX11_shift_57 5 rfl ?_
            refine zr_if_lt (tgt := 98) X dX11_shift_59 (by decide) (fun q => ?_) (fun q => ?_)
            · rw [if_pos q] at h
              refine zr_bipush (v := (-13)) X dX11_shift_98 (by decide) ?_
              exact zr_iret X dX11_shift_100 rfl ⟨Nat.le_refl _, Nat.le_refl _⟩ ⟨rfl, _, rfl, h⟩
            · rw [if_neg q] at h
              refine zr_iload_n X dX11_shift_62 2 rfl ?_
              refine zr_if_lt (tgt := 98) X dX11_shift_63 (by decide) (fun q => ?_) (fun q => ?_)
              · rw [if_pos q] at h
                refine zr_bipush (v := (-13)) X dX11_shift_98 (by decide) ?_
                exact zr_iret X dX11_shift_100 rfl ⟨Nat.le_refl _, Nat.le_refl _⟩ ⟨rfl, _, rfl, h⟩
              · rw [if_neg q] at h
                refine zr_iload X dX11_shift_66 4 rfl ?_
                refine zr_if_lt (tgt := 98) X dX11_shift_68 (by decide) (fun q => ?_) (fun q => ?_)
                · rw [if_pos q] at h
                  refine zr_bipush (v := (-13)) X dX11_shift_98 (by decide) ?_
                  exact zr_iret X dX11_shift_100 rfl ⟨Nat.le_refl _, Nat.le_refl _⟩ ⟨rfl, _, rfl, h⟩
                · rw [if_neg q] at h
                  refine zr_iload_n X dX11_shift_71 2 rfl ?_
                  refine zr_aload_n X dX11_shift_72 0 rfl ?_
                  refine zr_getR X dX11_shift_73 zd_X11_220 rfl zo_68 zl_68_69 ?_
                  refine zr_iload_n X dX11_shift_76 1 rfl ?_
                  obtain ⟨g0, h⟩ := zg_e2 h
                  refine zr_iald X dX11_shift_77 za_112 (zI_in g0) ?_
                  refine zr_iload X dX11_shift_78 5 rfl ?_
                  refine zr_isub X dX11_shift_80 ?_
                  refine zr_icmp_gt (tgt := 98) X dX11_shift_81 (by decide) (fun q => ?_) (fun q => ?_)
                  · rw [if_pos q] at h
                    refine zr_bipush (v := (-13)) X dX11_shift_98 (by decide) ?_
                    exact zr_iret X dX11_shift_100 rfl ⟨Nat.le_refl _, Nat.le_refl _⟩ ⟨rfl, _, rfl, h⟩
                  · rw [if_neg q] at h
                    refine zr_iload X dX11_shift_84 4 rfl ?_
                    refine zr_aload_n X dX11_shift_86 0 rfl ?_
                    refine zr_getR X dX11_shift_87 zd_X11_220 rfl zo_68 zl_68_69 ?_
                    refine zr_iload_n X dX11_shift_90 3 rfl ?_
                    obtain ⟨g0, h⟩ := zg_e2 h
                    refine zr_iald X dX11_shift_91 za_112 (zI_in g0) ?_
                    refine zr_iload X dX11_shift_92 5 rfl ?_
                    refine zr_isub X dX11_shift_94 ?_
                    refine zr_icmp_le (tgt := 101) X dX11_shift_95 (by decide) (fun q => ?_) (fun q => ?_)
                    · rw [if_neg q] at h
                      refine zr_iconst (v := 0) X dX11_shift_101 (by decide) ?_
                      refine zr_istore (lo' := [(6, .int 0), (0, .ref (S.heap.size + 68)), (1, .int p1), (2, .int p2), (3, .int p3), (4, .int p4), (5, .int p5)]) X dX11_shift_102 (by decide) rfl ?_
                      refine zr_sub [1, 2, 3, 4, 5, 6, 0] rfl ?_
                      have hR5 : ∀ (m8 : zv_M), zw2 (zb1 (whileN zFU (fM_shift_l141 p3 p4 p5) (0, m8)) (fun r => some r) : Option (Int32 × zv_M)) P → zv_V S D cA p l e (zv_rm d 0 0) s mi args below meth c 7 (MQ below (zv_Q S D cA (zq_i SH0 P)) args s 0 0 (zv_fr S)) 0 0 138 [(0, .ref (S.heap.size + 68)), (3, .int p3), (4, .int p4), (5, .int p5)] [] SH0 m8 := by
                        intro m8 h
                        refine zr_iconst (v := 0) X dX11_shift_138 (by decide) ?_
                        refine zr_istore (lo' := [(6, .int 0), (0, .ref (S.heap.size + 68)), (3, .int p3), (4, .int p4), (5, .int p5)]) X dX11_shift_139 (by decide) rfl ?_
                        refine zr_sub [1, 2, 3, 4, 0] rfl ?_
                        refine zl_w2 (fun a10 m11 => zv_V S D cA p l e (zv_rm d 0 0) s mi args below meth c 7 (MQ below (zv_Q S D cA (zq_i SH0 P)) args s 0 0 (zv_fr S)) 0 0 141 [(0, .ref (S.heap.size + 68)), (3, .int p3), (4, .int p4), (5, .int p5), (6, .int a10)] [] SH0 m11) (fM_shift_l141 p3 p4 p5) _ (fun P9 hl9 hr9 a10 m11 h => ?_) zFU 0 m8 (zw_b12 h)
                        rw [fM_shift_l141] at h
                        refine zr_iload X dX11_shift_141 4 rfl ?_
                        refine zr_iload X dX11_shift_143 3 rfl ?_
                        refine zr_icmp_ge (tgt := 176) X dX11_shift_145 (by decide) (fun q => ?_) (fun q => ?_)
                        · rw [if_neg q] at h
                          refine zr_iload X dX11_shift_176 3 rfl ?_
                          have h := hr9 _ h
                          exact zr_iret X dX11_shift_178 rfl ⟨Nat.le_refl _, Nat.le_refl _⟩ ⟨rfl, _, rfl, h⟩
                        · rw [if_pos q] at h
                          refine zr_aload_n X dX11_shift_148 0 rfl ?_
                          refine zr_getR X dX11_shift_149 zd_X11_223 rfl zo_68 zl_68_70 ?_
                          refine zr_bipush (v := 60) X dX11_shift_152 (by decide) ?_
                          refine zr_iload_n X dX11_shift_154 1 rfl ?_
                          refine zr_imul X dX11_shift_155 ?_
                          refine zr_iload X dX11_shift_156 2 rfl ?_
                          refine zr_iadd X dX11_shift_158 ?_
                          refine zr_iload X dX11_shift_159 4 rfl ?_
                          refine zr_iadd X dX11_shift_161 ?_
                          refine zr_aload_n X dX11_shift_162 0 rfl ?_
                          refine zr_getR X dX11_shift_163 zd_X11_227 rfl zo_68 zl_68_71 ?_
                          refine zr_iload X dX11_shift_166 4 rfl ?_
                          obtain ⟨g0, h⟩ := zg_e h
                          refine zr_lald X dX11_shift_168 za_114 (zI_in g0) ?_
                          obtain ⟨g0, h⟩ := zg_e h
                          refine zr_last X dX11_shift_169 za_113 (zI_in g0) ?_
                          refine zr_iinc (v := a10 + 1) (lo' := [(6, .int (a10 + 1)), (0, .ref (S.heap.size + 68)), (3, .int p3), (4, .int p4), (5, .int p5)]) X dX11_shift_170 4 rfl rfl (by decide) rfl ?_
                          refine zr_goto (tgt := 141) X dX11_shift_173 (by decide) ?_
                          have h := hl9 _ h
                          exact zr_sub [1, 2, 3, 4, 0] rfl h
                      refine zl_w2 (fun a6 m7 => zv_V S D cA p l e (zv_rm d 0 0) s mi args below meth c 7 (MQ below (zv_Q S D cA (zq_i SH0 P)) args s 0 0 (zv_fr S)) 0 0 104 [(0, .ref (S.heap.size + 68)), (1, .int p1), (2, .int p2), (3, .int p3), (4, .int p4), (5, .int p5), (6, .int a6)] [] SH0 m7) (fM_shift_l104 p1 p2 p5) _ (fun P5 hl5 hr5 a6 m7 h => ?_) zFU 0 m (zw_b12 h)
                      rw [fM_shift_l104] at h
                      refine zr_iload X dX11_shift_104 6 rfl ?_
                      refine zr_iload X dX11_shift_106 5 rfl ?_
                      refine zr_icmp_ge (tgt := 138) X dX11_shift_108 (by decide) (fun q => ?_) (fun q => ?_)
                      · rw [if_neg q] at h
                        have h := hr5 _ h
                        exact zr_sub [0, 3, 4, 5] rfl (hR5 m7 h)
                      · rw [if_pos q] at h
                        refine zr_aload_n X dX11_shift_111 0 rfl ?_
                        refine zr_getR X dX11_shift_112 zd_X11_227 rfl zo_68 zl_68_71 ?_
                        refine zr_iload X dX11_shift_115 6 rfl ?_
                        refine zr_aload_n X dX11_shift_117 0 rfl ?_
                        refine zr_getR X dX11_shift_118 zd_X11_223 rfl zo_68 zl_68_70 ?_
                        refine zr_bipush (v := 60) X dX11_shift_121 (by decide) ?_
                        refine zr_iload_n X dX11_shift_123 1 rfl ?_
                        refine zr_imul X dX11_shift_124 ?_
                        refine zr_iload_n X dX11_shift_125 2 rfl ?_
                        refine zr_iadd X dX11_shift_126 ?_
                        refine zr_iload X dX11_shift_127 6 rfl ?_
                        refine zr_iadd X dX11_shift_129 ?_
                        obtain ⟨g0, h⟩ := zg_e h
                        refine zr_lald X dX11_shift_130 za_113 (zI_in g0) ?_
                        obtain ⟨g0, h⟩ := zg_e h
                        refine zr_last X dX11_shift_131 za_114 (zI_in g0) ?_
                        refine zr_iinc (v := a6 + 1) (lo' := [(6, .int (a6 + 1)), (0, .ref (S.heap.size + 68)), (1, .int p1), (2, .int p2), (3, .int p3), (4, .int p4), (5, .int p5)]) X dX11_shift_132 6 rfl rfl (by decide) rfl ?_
                        refine zr_goto (tgt := 104) X dX11_shift_135 (by decide) ?_
                        have h := hl5 _ h
                        exact zr_sub [1, 2, 3, 4, 5, 6, 0] rfl h
                    · rw [if_pos q] at h
                      refine zr_bipush (v := (-13)) X dX11_shift_98 (by decide) ?_
                      exact zr_iret X dX11_shift_100 rfl ⟨Nat.le_refl _, Nat.le_refl _⟩ ⟨rfl, _, rfl, h⟩
          · rw [if_neg q] at h
            refine zr_bipush (v := (-12)) X dX11_shift_54 (by decide) ?_
            exact zr_iret X dX11_shift_56 rfl ⟨Nat.le_refl _, Nat.le_refl _⟩ ⟨rfl, _, rfl, h⟩
        · rw [if_pos q] at h
          refine zr_bipush (v := (-11)) X dX11_shift_36 (by decide) ?_
          exact zr_iret X dX11_shift_38 rfl ⟨Nat.le_refl _, Nat.le_refl _⟩ ⟨rfl, _, rfl, h⟩
    · rw [if_pos q] at h
      refine zr_iconst (v := (-1)) X dX11_shift_16 (by decide) ?_
      exact zr_iret X dX11_shift_17 rfl ⟨Nat.le_refl _, Nat.le_refl _⟩ ⟨rfl, _, rfl, h⟩

