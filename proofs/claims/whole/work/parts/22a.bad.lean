/-! Which squares quarrel, for men of a plan: the reference's array. -/
def bdn (D : Dt) (p s : Nat) : Nat := bs (fun t => (pw D p s).testBit t || (pw D p t).testBit s) 25
theorem bdn_t (D : Dt) (p s t : Nat) : (bdn D p s).testBit t = (decide (t < 25) && ((pw D p s).testBit t || (pw D p t).testBit s)) := bs_t _ _ _
theorem bdn_lt (D : Dt) (p s : Nat) : bdn D p s < 2 ^ 25 := bs_lt _ _
def bB (D : Dt) (p i t : Nat) : Nat := (if t < i then pw D p t else 0) ||| bs (fun f => (pw D p f).testBit t) i
theorem bB_st (D : Dt) (p i j : Nat) : (if j = i then bB D p i i ||| pw D p i else bB D p i j) ||| (if (pw D p i).testBit j = true then 2 ^ i else 0) = bB D p (i + 1) j := by
  unfold bB
  rw [bs_s]
  by_cases h : j = i
  · subst h
    rw [if_pos rfl, if_neg (Nat.lt_irrefl _), if_pos (Nat.lt_succ_self _), Nat.zero_or, Nat.or_comm (bs _ _) (pw D p j), Nat.or_assoc]
  · rw [if_neg h, Nat.or_assoc]
    by_cases q : j < i
    · rw [if_pos q, if_pos (show j < i + 1 by omega)]
    · rw [if_neg q, if_neg (show ¬ j < i + 1 by omega)]
theorem pw_0 {D : Dt} {p s : Nat} (h : dW D * dW D ≤ s) : pw D p s = 0 := by rw [pw, if_neg (by omega)]
theorem pw_hi {D : Dt} (hS : CS D) {p s t : Nat} (h : dW D * dW D ≤ t) : (pw D p s).testBit t = false := tb_hi (pw_lt hS p s) h
theorem g_bad {D : Dt} {m : zv_M} (hS : CS D) (c : CM D m) {p : Nat} (hp : p < dn D) : fM_layBad (Int32.ofNat p) m = some (vF m 85 (fun s => Int32.ofNat (bdn D p s)) 25) := by
  have hWW := CS_WW hS
  have e1 := wn_eq fM_layBad_l2 (fun i => (Int32.ofNat i, vF m 85 (fun t => Int32.ofNat (bB D p 0 t)) i)) 25 (vF m 85 (fun t => Int32.ofNat (bB D p 0 t)) 25) (by decide) (fun i hi => by
    show fM_layBad_l2 (_, _) = _
    rw [fM_layBad_l2, if_pos (c25 hi), zI_n (by omega) hi, zg_t, i_tn (by omega), inc, show (0 : Int32) = Int32.ofNat (bB D p 0 i) by rw [bB, if_neg (Nat.not_lt_zero _), bs, Nat.zero_or]; rfl, vF_s (g := fun t => Int32.ofNat (bB D p 0 t))]) (by
    show fM_layBad_l2 (_, _) = _
    rw [fM_layBad_l2, if_neg (by decide)])
  rw [vF_0] at e1
  have inner : ∀ i, i < dW D * dW D → whileN zFU (fM_layBad_l56 (Int32.ofNat i) (Int32.ofNat (pw D p i))) (0, wI (vF m 85 (fun t => Int32.ofNat (bB D p i t)) 25) 85 i (Int32.ofNat (bB D p i i ||| pw D p i))) = some (vF m 85 (fun t => Int32.ofNat (bB D p (i + 1) t)) 25) := fun i hi => by
    have h25 : i < 25 := by omega
    have cM1 : CM D (wI (vF m 85 (fun t => Int32.ofNat (bB D p i t)) 25) 85 i (Int32.ofNat (bB D p i i ||| pw D p i))) := CM_sc (sc_w (sc_F (sc_r m) (fun _ => rfl)) rfl) c
    have hcell : ∀ j, j < 25 → (wI (vF m 85 (fun t => Int32.ofNat (bB D p i t)) 25) 85 i (Int32.ofNat (bB D p i i ||| pw D p i))).1 85 j = Int32.ofNat (if j = i then bB D p i i ||| pw D p i else bB D p i j) := fun j hj => by
      by_cases q : j = i
      · rw [if_pos q, q, wI_e]
      · rw [if_neg q, wI_o _ _ (by omega), vF_e _ _ _ hj]
    have hcellO : ∀ o k, ¬ (o = 85 ∧ k < 25) → (wI (vF m 85 (fun t => Int32.ofNat (bB D p i t)) 25) 85 i (Int32.ofNat (bB D p i i ||| pw D p i))).1 o k = m.1 o k := fun o k q => by
      rw [wI_o _ _ (by omega), vF_o _ _ q]
    have h2 : (wI (vF m 85 (fun t => Int32.ofNat (bB D p i t)) 25) 85 i (Int32.ofNat (bB D p i i ||| pw D p i))).2 = m.2 := rfl
    generalize wI (vF m 85 (fun t => Int32.ofNat (bB D p i t)) 25) 85 i (Int32.ofNat (bB D p i i ||| pw D p i)) = M1 at cM1 hcell hcellO h2
    have e := wn_eq (fM_layBad_l56 (Int32.ofNat i) (Int32.ofNat (pw D p i))) (fun j => (Int32.ofNat j, vF M1 85 (fun t => Int32.ofNat (bB D p (i + 1) t)) j)) (dW D * dW D) (vF M1 85 (fun t => Int32.ofNat (bB D p (i + 1) t)) (dW D * dW D)) (by omega) (fun j hj => by
      have cMj : CM D (vF M1 85 (fun t => Int32.ofNat (bB D p (i + 1) t)) j) := CM_sc (sc_F (sc_r M1) (fun _ => rfl)) cM1
      have old : (vF M1 85 (fun t => Int32.ofNat (bB D p (i + 1) t)) j).1 85 j = Int32.ofNat (if j = i then bB D p i i ||| pw D p i else bB D p i j) := by
        rw [vF_o _ _ (by omega), hcell j (by omega)]
      have st := bB_st D p i j
      show fM_layBad_l56 _ _ (_, _) = _
      rw [fM_layBad_l56, WWm cMj, if_pos ((i_lt (by omega) (by omega)).mpr hj), zI_n (by omega) (by omega), zg_t, n_has (by omega), zb1_s, if01, fM_layBad_j95, fM_layBad_j95, zI_n (by omega) (by omega), zg_t, zg_t, i_tn (by omega), old, inc, n_sh _ (by omega), n_or, z_ofn]
      cases b : (pw D p i).testBit j
      · rw [b, if_neg (show ¬ false = true by decide), Nat.or_zero] at st
        rw [if_neg (show ¬ false = true by decide), st, vF_s (g := fun t => Int32.ofNat (bB D p (i + 1) t))]
      · rw [b, if_pos (show true = true from rfl)] at st
        rw [if_pos (show true = true from rfl), st, vF_s (g := fun t => Int32.ofNat (bB D p (i + 1) t))]) (by
      have cMj : CM D (vF M1 85 (fun t => Int32.ofNat (bB D p (i + 1) t)) (dW D * dW D)) := CM_sc (sc_F (sc_r M1) (fun _ => rfl)) cM1
      show fM_layBad_l56 _ _ (_, _) = _
      rw [fM_layBad_l56, WWm cMj, if_neg (fun q => by have := (i_lt (by omega) (by omega)).mp q; omega)])
    rw [vF_0] at e
    refine e.trans ?_
    congr 1
    refine Prod.ext ?_ h2
    funext o k
    by_cases q : o = 85 ∧ k < 25
    · obtain ⟨rfl, q⟩ := q
      rw [vF_e _ _ _ q]
      by_cases q2 : k < dW D * dW D
      · rw [vF_e _ _ _ q2]
      · have st := bB_st D p i k
        rw [pw_hi hS (by omega), if_neg (show ¬ false = true by decide), Nat.or_zero] at st
        rw [vF_o _ _ (by omega), hcell k q, st]
    · rw [vF_o _ _ q, vF_o _ _ (by omega), hcellO o k q]
  have e2 := wn_eq (fM_layBad_l23 (Int32.ofNat p)) (fun i => (Int32.ofNat i, vF m 85 (fun t => Int32.ofNat (bB D p i t)) 25)) (dW D * dW D) (vF m 85 (fun t => Int32.ofNat (bB D p (dW D * dW D) t)) 25) (by omega) (fun i hi => by
    have ci : CM D (vF m 85 (fun t => Int32.ofNat (bB D p i t)) 25) := CM_sc (sc_F (sc_r m) (fun _ => rfl)) c
    show fM_layBad_l23 _ (_, _) = _
    rw [fM_layBad_l23, WWm ci, if_pos ((i_lt (by omega) (by omega)).mpr hi), g_sees hS ci hp hi, zb1_s, zI_n (by omega) (by omega), zg_t, zg_t, i_tn (by omega), vF_e _ _ _ (show i < 25 by omega), show VV D p i = pw D p i by rw [pw, if_pos hi], n_or, inner i hi, zb1_s, inc]) (by
    have ci : CM D (vF m 85 (fun t => Int32.ofNat (bB D p (dW D * dW D) t)) 25) := CM_sc (sc_F (sc_r m) (fun _ => rfl)) c
    show fM_layBad_l23 _ (_, _) = _
    rw [fM_layBad_l23, WWm ci, if_neg (fun q => by have := (i_lt (by omega) (by omega)).mp q; omega)])
  have e3 : vF m 85 (fun t => Int32.ofNat (bB D p (dW D * dW D) t)) 25 = vF m 85 (fun s => Int32.ofNat (bdn D p s)) 25 := vF_c fun s hs => by
    have : bB D p (dW D * dW D) s = bdn D p s := by
      apply Nat.eq_of_testBit_eq
      intro t
      rw [bB, bdn_t, Nat.testBit_or, bs_t]
      have a1 : (if s < dW D * dW D then pw D p s else 0).testBit t = (pw D p s).testBit t := by
        by_cases q : s < dW D * dW D
        · rw [if_pos q]
        · rw [if_neg q, pw_0 (by omega)]
      rw [a1]
      by_cases q : t < dW D * dW D
      · rw [decide_eq_true q, decide_eq_true (show t < 25 by omega), Bool.true_and, Bool.true_and]
      · rw [decide_eq_false q, pw_hi hS (by omega), pw_0 (show dW D * dW D ≤ t by omega), Nat.zero_testBit]
        simp
    show Int32.ofNat (bB D p (dW D * dW D) s) = _
    rw [this]
  rw [fM_layBad]
  rw [show ((0 : Int32), m) = (Int32.ofNat 0, m) from rfl, e1, zb1_s]
  refine (congrArg (fun z => zb1 z (fun r => some r)) e2).trans ?_
  rw [e3]
  rfl
