theorem ws_k10 : Cond.classLink RL 7 RX10 ∈ zv_tbl := zv_m1 21 (by decide +kernel) rfl
theorem ws_s10 : Cond.instantiable RX10 14 ∈ zv_tbl := zv_m1 22 (by decide +kernel) rfl
theorem ws_n10 : Cond.initialized RX10 ∈ zv_tbl := zv_m1 1 (by decide +kernel) rfl
theorem ws_m10 : Cond.methodLink RL 9 yX10_init ∈ zv_tbl := zv_m1 23 (by decide +kernel) rfl
theorem ws_i10 : Cond.instanceMethod yX10_init ∈ zv_tbl := zv_m1 24 (by decide +kernel) rfl
theorem ws_k11 : Cond.classLink RL 10 RX11 ∈ zv_tbl := zv_m5 35 (by decide +kernel) rfl
theorem ws_s11 : Cond.instantiable RX11 72 ∈ zv_tbl := zv_m5 36 (by decide +kernel) rfl
theorem ws_n11 : Cond.initialized RX11 ∈ zv_tbl := zv_m1 14 (by decide +kernel) rfl
theorem ws_m11 : Cond.methodLink RL 12 yX11_init ∈ zv_tbl := zv_m5 37 (by decide +kernel) rfl
theorem ws_i11 : Cond.instanceMethod yX11_init ∈ zv_tbl := zv_m5 38 (by decide +kernel) rfl
/-- the memory where the law's loop begins -/
def zm_0 : zv_M := mc_M_139 (wZ (mc_N_37 (wZ (fun _ _ => 0, fun _ _ => 0) 0)) 68)
set_option maxHeartbeats 4000000 in
theorem ws_walk {l : Launch} {S : State} {D : va_G} {cA : Nat → ClassId} {tb sx : Nat → Nat} {p : Program} {e : Env} {mi : MethodId} {below : List Frame} {meth : Method} {c : Code} {b L : Nat} {xs : Nat → Int32} (hG : zv_G S D cA tb sx) (X : zv_X S D cA tb sx p S mi #[Value.ref b] meth c code 4 RL (some .boolean) false) (hX : va_X b L xs S S.heap) (hbl : b < S.heap.size) (h : fLaw L xs zm_0 = some 1) : zv_V S D cA p l e room_1 S mi #[Value.ref b] below meth c 4 (lw_Z below #[Value.ref b] S) 0 0 0 [(0, .ref b)] [] [] (fun _ _ => 0, fun _ _ => 0) := by
  refine zr_new X dL_law_0 (C := RX10) (T := TX10) (n := 14) (ci := 10) (ty0 := tyX10) rfl zin10 tyX10_ok zdv_10 ws_k10 ws_s10 ws_n10 ⟨Nat.le_of_ble_eq_true rfl, Nat.le_of_ble_eq_true rfl⟩ ?_
  refine zr_E (st' := [.ref (S.heap.size + 0)]) (sh' := zsh_0) (m' := wZ (fun _ _ => 0, fun _ _ => 0) 0) rfl rfl rfl ?_
  refine zr_dup X dL_law_3 rfl ?_
  refine zr_callI (As := []) (st := [.ref (S.heap.size + 0)]) (d := 64) (mc := 67) (ms := 1488) X dL_law_4 ws_m10 ws_i10 rfl myc_X10_init rfl (Nat.le_of_ble_eq_true rfl) (by decide) ⟨Nat.le_of_ble_eq_true rfl, Nat.le_of_ble_eq_true rfl⟩ (xc_N hG 64 (by decide) _) (fun r sh' m' q => ?_)
  obtain ⟨rfl, rfl, rfl⟩ := q
  refine zr_E (st' := [.ref (S.heap.size + 0)]) (sh' := zsh_134) (m' := mc_N_37 (wZ (fun _ _ => 0, fun _ _ => 0) 0)) rfl rfl rfl ?_
  refine zr_astore_n (lo' := [(1, .ref (S.heap.size + 0)), (0, .ref b)]) X dL_law_7 (by decide) rfl ?_
  refine zr_new X dL_law_8 (C := RX11) (T := TX11) (n := 72) (ci := 11) (ty0 := tyX11) rfl zin11 tyX11_ok zdv_11 ws_k11 ws_s11 ws_n11 ⟨Nat.le_of_ble_eq_true rfl, Nat.le_of_ble_eq_true rfl⟩ ?_
  refine zr_E (st' := [.ref (S.heap.size + 68)]) (sh' := zsh_135) (m' := wZ (mc_N_37 (wZ (fun _ _ => 0, fun _ _ => 0) 0)) 68) rfl rfl rfl ?_
  refine zr_dup X dL_law_11 rfl ?_
  refine zr_callI (As := []) (st := [.ref (S.heap.size + 68)]) (d := 64) (mc := 46) (ms := 2661) X dL_law_12 ws_m11 ws_i11 rfl myc_X11_init rfl (Nat.le_of_ble_eq_true rfl) (by decide) ⟨Nat.le_of_ble_eq_true rfl, Nat.le_of_ble_eq_true rfl⟩ (xc_M hG 64 (by decide) _) (fun r sh' m' q => ?_)
  obtain ⟨rfl, rfl, rfl⟩ := q
  refine zr_E (st' := [.ref (S.heap.size + 68)]) (sh' := SH0) (m' := zm_0) rfl rfl rfl ?_
  refine zr_astore_n (lo' := [(2, .ref (S.heap.size + 68)), (1, .ref (S.heap.size + 0)), (0, .ref b)]) X dL_law_15 (by decide) rfl ?_
  exact x_fLaw hG _ rfl X hX hbl (Nat.le_of_ble_eq_true rfl) (Nat.le_of_ble_eq_true rfl) _ (fun v => v = 1) (fun v h => h) (by rw [h]; rfl)
