/-! Turned, and in a glass. -/
def tsx (W how s : Nat) : Nat → Nat × Nat
  | 0 => (if 4 ≤ how then W - 1 - s % W else s % W, s / W)
  | n + 1 => (W - 1 - (tsx W how s n).2, (tsx W how s n).1)
def tsq (W how s : Nat) : Nat := (tsx W how s (how % 4)).2 * W + (tsx W how s (how % 4)).1
def cmW (x : Int32) : zv_M := (fun _ _ => x, fun _ _ => 0)
theorem ts_M (p1 p2 : Int32) (m : zv_M) : fM_turnedSquare p1 p2 m = fM_turnedSquare p1 p2 (cmW (m.1 68 1)) := rfl
def tsB1 (W how s : Nat) : Bool := decide (fM_turnedSquare (Int32.ofNat s) (Int32.ofNat how) (cmW (Int32.ofNat W)) = some (Int32.ofNat (tsq W how s))) && decide (tsq W how s < W * W)
theorem tsB1_ok : ∀ W, W < 6 → 2 ≤ W → ∀ how, how < 8 → ∀ s, s < 25 → s < W * W → tsB1 W how s = true := by decide +kernel
theorem ts_M2 (W : Nat) (h1 : W < 6) (h2 : 2 ≤ W) (how : Nat) (h3 : how < 8) (s : Nat) (h4 : s < 25) (h5 : s < W * W) : fM_turnedSquare (Int32.ofNat s) (Int32.ofNat how) (cmW (Int32.ofNat W)) = some (Int32.ofNat (tsq W how s)) ∧ tsq W how s < W * W := by
  have h := tsB1_ok W h1 h2 how h3 s h4 h5
  obtain ⟨a, b⟩ := Bool.and_eq_true _ _ |>.mp h
  exact ⟨of_decide_eq_true a, of_decide_eq_true b⟩
theorem ts_N (o : Nat) (p2 : Int32) (m : zv_M) : fYa_turn_l64 o p2 m = fYa_turn_l64 0 p2 (cmW (m.1 o 0)) := rfl
def tsB2 (W how s : Nat) : Bool := decide (whileN zFU (fYa_turn_l64 0 (Int32.ofNat how) (cmW (Int32.ofNat W))) (if Int32.ofNat how < 4 then Int32.ofNat (s % W) else (Int32.ofNat W - 1) - Int32.ofNat (s % W), Int32.ofNat (s / W), 0) = some (Int32.ofNat (tsq W how s % W), Int32.ofNat (tsq W how s / W)))
theorem tsB2_ok : ∀ W, W < 6 → 2 ≤ W → ∀ how, how < 8 → ∀ s, s < 25 → s < W * W → tsB2 W how s = true := by decide +kernel
theorem ts_N2 (W : Nat) (h1 : W < 6) (h2 : 2 ≤ W) (how : Nat) (h3 : how < 8) (s : Nat) (h4 : s < 25) (h5 : s < W * W) : whileN zFU (fYa_turn_l64 0 (Int32.ofNat how) (cmW (Int32.ofNat W))) (if Int32.ofNat how < 4 then Int32.ofNat (s % W) else (Int32.ofNat W - 1) - Int32.ofNat (s % W), Int32.ofNat (s / W), 0) = some (Int32.ofNat (tsq W how s % W), Int32.ofNat (tsq W how s / W)) := of_decide_eq_true (tsB2_ok W h1 h2 how h3 s h4 h5)
def tg (D : Dt) (how s : Nat) : Nat := if (Mn D).testBit s = true then 2 ^ tsq (dW D) how s else 0
theorem g_turn {D : Dt} {m : zv_M} (hS : CS D) (c : CN D m) {how : Nat} (hh : how < 8) : fYa_turn (dg D) (Int32.ofNat (Mn D)) (Int32.ofNat how) m = some (Int32.ofNat (orf (tg D how) 25)) := by
  have h5 := hS.2.2.1
  have h2 := hS.2.1
  have e := wn_eq (fYa_turn_l13 (dg D) (Int32.ofNat (Mn D)) (Int32.ofNat how) m) (fun i => (Int32.ofNat (orf (tg D how) i), Int32.ofNat i)) 25 (Int32.ofNat (orf (tg D how) 25)) (by decide) (fun i hi => by
    show fYa_turn_l13 _ _ _ _ (_, _) = _
    rw [fYa_turn_l13, if_pos (c25 hi), n_isIn (by omega), decide_eq_true hi, Bool.true_and, zb1_s, if01, orf_s]
    cases b : (Mn D).testBit i
    · rw [if_neg (by decide), fYa_turn_j109, inc, show tg D how i = 0 by rw [tg, b]; rfl, Nat.or_zero]
    · have hW : i < dW D * dW D := by
        rw [Mn_t, decide_eq_true hi, Bool.true_and] at b
        exact (on_t hS hi b).1
      have hW1 : ¬ Int32.ofNat (dW D) < 1 := fun q => by have := (i_lt (b := 1) (by omega) (by decide)).mp q; omega
      have hx : fYa_xOf (dg D) (Int32.ofNat i) m = some (Int32.ofNat (i % dW D)) := by
        rw [fYa_xOf, c.2.1.1, if_neg hW1, zN25 _ (by omega) h2, zg_t, md25 _ (by omega) h2 i hi]
      have hy : fYa_yOf (dg D) (Int32.ofNat i) m = some (Int32.ofNat (i / dW D)) := by
        rw [fYa_yOf, c.2.1.1, if_neg hW1, zN25 _ (by omega) h2, zg_t, dv25 _ (by omega) h2 i hi]
      have t := ts_N2 (dW D) (by omega) h2 how hh i hi hW
      have tq := (ts_M2 (dW D) (by omega) h2 how hh i hi hW).2
      have hq25 := sq25 h5 tq
      have fin : ∀ v : Int32, v = (if Int32.ofNat how < 4 then Int32.ofNat (i % dW D) else (Int32.ofNat (dW D) - 1) - Int32.ofNat (i % dW D)) → fYa_turn_j51 (dg D) (Int32.ofNat how) m (Int32.ofNat (orf (tg D how) i)) (Int32.ofNat i) v = some (.inl (Int32.ofNat (orf (tg D how) i ||| tg D how i), Int32.ofNat (i + 1))) := fun v hv => by
        subst hv
        rw [fYa_turn_j51, hy, zb1_s, ts_N, c.2.1.1, t, zb1_s]
        show fYa_turn_j109 _ _ = _
        rw [fYa_turn_j109, inc, i_mu, i_pl, Nat.div_add_mod', n_sh _ (by omega), n_or, show tg D how i = 2 ^ tsq (dW D) how i by rw [tg, b]; rfl]
      rw [if_pos (by decide), hx, zb1_s, zb1_s]
      by_cases q : Int32.ofNat how < 4
      · rw [if_pos q]
        exact fin _ (by rw [if_pos q])
      · rw [if_neg q, c.2.1.1]
        exact fin _ (by rw [if_neg q])) (by
    show fYa_turn_l13 _ _ _ _ (_, _) = _
    rw [fYa_turn_l13, if_neg (by decide)])
  rw [fYa_turn]
  exact congrArg (fun z => zb1 z (fun r => some r)) e
theorem g_same {D : Dt} {m : zv_M} (hS : CS D) (c : CN D m) {how : Nat} (hh : how < 8) : fN_looksSame (Int32.ofNat how) m = some (if Int32.ofNat (orf (tg D how) 25) = Int32.ofNat (Mn D) then 1 else 0) := by
  rw [fN_looksSame, g_men hS c, zb1_s, g_ground hS c, zb1_s, g_turn hS c hh, zb1_s]
  split <;> rfl
theorem g_alikeM {D : Dt} {m : zv_M} (hS : CS D) (c : CM D m) {how : Nat} (hh : how < 8) : fM_isAlike (Int32.ofNat how) m = some (if Int32.ofNat (orf (tg D how) 25) = Int32.ofNat (Mn D) then 1 else 0) := by
  have hWW := CS_WW hS
  have h5 := hS.2.2.1
  have h2 := hS.2.1
  have e := wn_eq (fM_isAlike_l10 (Int32.ofNat how) m (Int32.ofNat (Mn D))) (fun i => (Int32.ofNat (orf (tg D how) i), Int32.ofNat i)) (dW D * dW D) (Int32.ofNat (orf (tg D how) (dW D * dW D))) (by omega) (fun i hi => by
    have h25 : i < 25 := by omega
    show fM_isAlike_l10 _ _ _ (_, _) = _
    rw [fM_isAlike_l10, WWm c, if_pos ((i_lt (by omega) (by omega)).mpr hi), n_has (by omega), zb1_s, if01, orf_s]
    cases b : (Mn D).testBit i
    · rw [if_neg (by decide), fM_isAlike_j48, inc, z_ofn, show tg D how i = 0 by rw [tg, b]; rfl, Nat.or_zero]
    · obtain ⟨t1, t2⟩ := ts_M2 (dW D) (by omega) h2 how hh i h25 hi
      have hq25 := sq25 h5 t2
      rw [if_pos (by decide), ts_M, c.1.1, t1, zb1_s, fM_isAlike_j48, inc, n_sh _ (by omega), n_or, show tg D how i = 2 ^ tsq (dW D) how i by rw [tg, b]; rfl]) (by
    show fM_isAlike_l10 _ _ _ (_, _) = _
    rw [fM_isAlike_l10, WWm c, if_neg (fun q => by have := (i_lt (by omega) (by omega)).mp q; omega)])
  have ew : orf (tg D how) 25 = orf (tg D how) (dW D * dW D) := by
    have := orf_z (g := tg D how) (dW D * dW D) (25 - dW D * dW D) (fun s q1 q2 => by
      have : (Mn D).testBit s = false := by
        rw [Mn_t, on_w hS (by omega) q1]
        simp
      rw [tg, this]
      rfl)
    rwa [Nat.add_sub_cancel' hWW] at this
  rw [← ew] at e
  rw [fM_isAlike, g_menM hS c, zb1_s]
  refine (congrArg (fun z => zb1 z _) e).trans ?_
  rw [zb1_s]
  split <;> rfl
theorem if1z (p : Prop) [Decidable p] : (if (if p then (1 : Int32) else 0) = 0 then some (0 : Int32) else some 1) = some (if p then 1 else 0) := by
  by_cases h : p
  · rw [if_pos h, if_neg (by decide)]
  · rw [if_neg h, if_pos (by decide)]
theorem O_turned_ok : O_turned INV := fun m h x1 => by
  obtain ⟨D, hS, cN, cM⟩ := pic h
  rcases i_cases x1 with hx | ⟨k, hk, rfl⟩
  · exact ⟨-1, by rw [fN_turned, if_pos hx], by rw [fM_turned, in_neg (by decide) hx]; rfl⟩
  · have k3 : ((7 : Int32) < Int32.ofNat k) ↔ 7 < k := i_lt (a := 7) (by decide) hk
    by_cases h1 : 7 < k
    · exact ⟨-1, by rw [fN_turned, if_neg (i_lt0 hk), if_pos (k3.mpr h1)], by rw [fM_turned, in_l 0 7 0 7 hk rfl rfl (by decide) (by decide), if_neg (by omega)]; rfl⟩
    · refine ⟨_, by rw [fN_turned, if_neg (i_lt0 hk), if_neg (fun z => h1 (k3.mp z)), g_same hS cN (by omega), zb1_s, if1z], ?_⟩
      rw [fM_turned, in_l 0 7 0 7 hk rfl rfl (by decide) (by decide), if_pos (by omega), zb1_s, if_neg (by decide), g_alikeM hS cM (by omega), zb1_s, if1z]
theorem O_alike_ok : O_alike INV := fun m h => by
  obtain ⟨D, hS, cN, cM⟩ := pic h
  obtain ⟨r, w, e1, e2, e3⟩ := wn_two (fN_alike_l4 m) (fM_alike_l4 m) 8 (fun i s t => s = t ∧ s.2 = Int32.ofNat i) (fun r w => r = w) (by decide) (fun i s t hi hJ => by
    obtain ⟨rfl, hs⟩ := hJ
    obtain ⟨a, b⟩ := s
    obtain rfl : b = Int32.ofNat i := hs
    rw [fN_alike_l4, fM_alike_l4]
    by_cases q : i < 8
    · have z : Int32.ofNat i < 8 := (i_lt (b := 8) (by omega) (by decide)).mpr q
      rw [if_pos z, if_pos z, g_same hS cN q, g_alikeM hS cM q, zb1_s, zb1_s, fN_alike_j21, fN_alike_j21, fM_alike_j24, fM_alike_j24, inc]
      by_cases p : Int32.ofNat (orf (tg D i) 25) = Int32.ofNat (Mn D)
      · rw [if_pos p, if_neg (by decide), if_neg (by decide)]
        exact Or.inr ⟨q, _, _, rfl, rfl, rfl, rfl⟩
      · rw [if_neg p, if_pos (by decide), if_pos (by decide), show a + 0 = a by simp]
        exact Or.inr ⟨q, _, _, rfl, rfl, rfl, rfl⟩
    · have z : ¬ Int32.ofNat i < 8 := fun z => q ((i_lt (b := 8) (by omega) (by decide)).mp z)
      rw [if_neg z, if_neg z]
      exact Or.inl ⟨_, _, rfl, rfl, rfl⟩) ((0 : Int32), Int32.ofNat 0) ((0 : Int32), Int32.ofNat 0) ⟨rfl, rfl⟩
  subst e3
  exact ⟨r, by rw [fN_alike, show ((0 : Int32), (0 : Int32)) = (0, Int32.ofNat 0) from rfl, e1]; rfl, by rw [fM_alike, show ((0 : Int32), (0 : Int32)) = (0, Int32.ofNat 0) from rfl, e2]; rfl⟩
