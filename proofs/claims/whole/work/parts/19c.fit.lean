/-! Where one more fits. -/
def ftb (D : Dt) (p s : Nat) : Bool := (op D).testBit s && !(orf (mv D) 25).testBit s && decide (pw D p s &&& Mn D = 0)
def ft (D : Dt) (p : Nat) : Nat := bs (ftb D p) 25
theorem ft_t (D : Dt) (p s : Nat) : (ft D p).testBit s = (decide (s < 25) && ftb D p s) := bs_t _ _ _
theorem ft_lt (D : Dt) (p : Nat) : ft D p < 2 ^ 25 := bs_lt _ _
def fM2 (D : Dt) (p : Nat) (m : zv_M) : zv_M := vF (vF m 44 (fun s => Int32.ofNat (mv D s)) 25) 47 (fun s => Int32.ofNat (pw D p s)) 25
theorem fM2_sc (D : Dt) (p : Nat) (m : zv_M) : sc m (fM2 D p m) := sc_F (sc_F (sc_r m) (fun _ => rfl)) (fun _ => rfl)
theorem fM2_men {D : Dt} (hS : CS D) (p : Nat) (m : zv_M) : SV 43 44 45 (mv D) (fM2 D p m) := SV_o (SV_men hS m) fun s _ => vF_o _ _ (by omega)
theorem g_fit {D : Dt} {m : zv_M} (hS : CS D) (c : CN D m) {p : Nat} (hp : p < dn D) : fN_fitting (Int32.ofNat p) m = some (Int32.ofNat (ft D p), fM2 D p m) := by
  have c1 : CN D (vF m 44 (fun s => Int32.ofNat (mv D s)) 25) := CN_sc hS (sc_F (sc_r m) (fun _ => rfl)) c
  have c2 : CN D (fM2 D p m) := CN_sc hS (fM2_sc D p m) c
  have e := wn_eq (fN_fitting_l38 (fM2 D p m) (Int32.ofNat (Mn D)) (Int32.ofNat (op D)) (Int32.ofNat (orf (mv D) 25))) (fun i => (Int32.ofNat (bs (ftb D p) i), Int32.ofNat i)) 25 (Int32.ofNat (ft D p), fM2 D p m) (by decide) (fun i hi => by
    show fN_fitting_l38 _ _ _ _ (_, _) = _
    have hz : (Int32.ofNat (pw D p i &&& Mn D) = 0) = (pw D p i &&& Mn D = 0) := propext (i_eq (b := 0) (p25 (Nat.and_lt_two_pow _ (Mn_lt D))) (by decide))
    rw [fN_fitting_l38, if_pos (c25 hi), n_ad, n_isIn (by omega), decide_eq_true hi, Bool.true_and, ad_t, zb1_s, if01]
    cases b : ((op D).testBit i && !(orf (mv D) 25).testBit i)
    · rw [if_neg (by decide), fN_fitting_j77, inc, n_puf (ftb D p) i (by rw [ftb, b]; rfl)]
    · rw [if_pos (by decide), v_from (show SV 46 47 48 (pw D p) (fM2 D p m) from SV_plan hS p _) hi, zb1_s, n_and]
      simp only [hz]
      by_cases q : pw D p i &&& Mn D = 0
      · rw [if_pos q, fN_fitting_j77, inc, n_put (ftb D p) i (by rw [ftb, b, decide_eq_true q]; rfl) (by omega)]
      · rw [if_neg q, fN_fitting_j77, inc, n_puf (ftb D p) i (by rw [ftb, b, decide_eq_false q]; rfl)]) (by
    show fN_fitting_l38 _ _ _ _ (_, _) = _
    rw [fN_fitting_l38, if_neg (by decide)]
    rfl)
  rw [fN_fitting, g_byMen hS c, zb1_s, g_byPlan hS c1 hp, zb1_s]
  have eF : vF (vF m 44 (fun s => Int32.ofNat (mv D s)) 25) 47 (fun s => Int32.ofNat (pw D p s)) 25 = fM2 D p m := rfl
  rw [eF, g_men hS c2, zb1_s, g_open hS c2, zb1_s, v_together (fM2_men hS p m), zb1_s]
  exact congrArg (fun z => zb1 z (fun r => some r)) e
theorem g_mayBe {D : Dt} {m : zv_M} (hS : CS D) (c : CM D m) {s : Nat} (hs : s < 25) (h : s < dW D * dW D) : fM_mayBe (Int32.ofNat s) m = some (if (op D).testBit s = true then 1 else 0) := by
  rw [fM_mayBe, zI_n (by omega) hs, zg_t, i_tn (by omega), c.2.2.2.1 s hs, c.1.2.2.2, n_has (by omega), op_t, decide_eq_true hs, decide_eq_true h, Bool.true_and]
  cases e : on D s
  · rw [if_pos (show da D s < 0 by rw [on_f hS hs e]; decide), zb1_s, if01]
    cases (dB D).testBit s <;> rfl
  · rw [(on_t hS hs e).2.2, if_neg (i_lt0 (by have := (on_t hS hs e).2.1; have := hS.1; omega))]
    cases (dB D).testBit s <;> rfl
theorem orf_tt (g : Nat → Nat) (n i : Nat) : (orf g n).testBit i = true ↔ ∃ k, k < n ∧ (g k).testBit i = true := by
  constructor
  · exact orf_t g n i
  · intro h
    induction n with
    | zero => obtain ⟨k, hk, -⟩ := h; omega
    | succ n ih =>
      obtain ⟨k, hk, e⟩ := h
      rw [orf_s, Nat.testBit_or]
      by_cases q : k < n
      · rw [ih ⟨k, q, e⟩]
        rfl
      · obtain rfl : k = n := by omega
        rw [e, Bool.or_true]
theorem se_0 (D : Dt) {s : Nat} : (se D s = 0) ↔ (orf (mv D) 25).testBit s = false := by
  constructor
  · intro h
    cases e : (orf (mv D) 25).testBit s
    · rfl
    · obtain ⟨k, hk, e⟩ := (orf_tt _ _ _).mp e
      have : (se D s).testBit k = true := by rw [se, bs_t, decide_eq_true hk, e]; rfl
      rw [h, Nat.zero_testBit] at this
      cases this
  · intro h
    refine sx (N := 25) (se_lt D s) (by decide) fun i hi => ?_
    rw [se, bs_t, Nat.zero_testBit, decide_eq_true hi, Bool.true_and]
    cases e : (mv D i).testBit s
    · rfl
    · rw [(orf_tt (mv D) 25 s).mpr ⟨i, hi, e⟩] at h
      cases h
theorem g_isFit {D : Dt} {m : zv_M} (hS : CS D) (c : CM D m) {p s : Nat} (hp : p < dn D) (h : s < dW D * dW D) : fM_isFit (Int32.ofNat p) (Int32.ofNat s) m = some (if (!(orf (mv D) 25).testBit s && decide (pw D p s &&& Mn D = 0)) = true then 1 else 0) := by
  have hs : s < 25 := Nat.lt_of_lt_of_le h (CS_WW hS)
  have h1 : (Int32.ofNat (se D s) = 0) = (se D s = 0) := propext (i_eq (b := 0) (p25 (se_lt D s)) (by decide))
  have hz : (Int32.ofNat (pw D p s &&& Mn D) = 0) = (pw D p s &&& Mn D = 0) := propext (i_eq (b := 0) (p25 (Nat.and_lt_two_pow _ (Mn_lt D))) (by decide))
  have hv : VV D p s = pw D p s := by rw [pw, if_pos h]
  rw [fM_isFit, g_seersM hS c hs, zb1_s, g_sees hS c hp h, zb1_s, g_menM hS c, zb1_s, hv, n_and]
  simp only [h1, hz]
  by_cases q : se D s = 0
  · rw [if_pos q, (se_0 D).mp q]
    by_cases r : pw D p s &&& Mn D = 0
    · rw [if_pos r, decide_eq_true r]
      rfl
    · rw [if_neg r, decide_eq_false r]
      rfl
  · rw [if_neg q]
    have : (orf (mv D) 25).testBit s = true := by
      cases e : (orf (mv D) 25).testBit s
      · exact absurd ((se_0 D).mpr e) q
      · rfl
    rw [this]
    rfl
theorem g_moreM {D : Dt} {m : zv_M} (hS : CS D) (c : CM D m) {p : Nat} (hp : p < dn D) : fM_moreOf (Int32.ofNat p) m = some (Int32.ofNat (ft D p)) := by
  have hWW := CS_WW hS
  have e := wn_eq (fM_moreOf_l4 (Int32.ofNat p) m) (fun i => (Int32.ofNat (bs (ftb D p) i), Int32.ofNat i)) (dW D * dW D) (Int32.ofNat (bs (ftb D p) (dW D * dW D))) (by omega) (fun i hi => by
    have h25 : i < 25 := by omega
    show fM_moreOf_l4 _ _ (_, _) = _
    rw [fM_moreOf_l4, WWm c, if_pos ((i_lt (by omega) (by omega)).mpr hi), g_mayBe hS c h25 hi, zb1_s, if01, g_isFit hS c hp hi, zb1_s, if01, fM_moreOf_j41, fM_moreOf_j42, inc, z_ofn]
    cases b1 : (op D).testBit i
    · rw [if_neg (by decide), n_puf (ftb D p) i (by rw [ftb, b1]; rfl)]
    · rw [if_pos (by decide)]
      cases b2 : (!(orf (mv D) 25).testBit i && decide (pw D p i &&& Mn D = 0))
      · rw [if_neg (by decide), n_puf (ftb D p) i (by rw [ftb, b1, Bool.true_and, b2])]
      · rw [if_pos (by decide), n_put (ftb D p) i (by rw [ftb, b1, Bool.true_and, b2]) (by omega)]) (by
    show fM_moreOf_l4 _ _ (_, _) = _
    rw [fM_moreOf_l4, WWm c, if_neg (fun q => by have := (i_lt (by omega) (by omega)).mp q; omega)])
  have e2 : bs (ftb D p) (dW D * dW D) = ft D p := bs_w hWW fun i h1 h2 => by
    rw [ftb, op_t, decide_eq_false (by omega)]
    rfl
  rw [e2] at e
  rw [fM_moreOf]
  exact congrArg (fun z => zb1 z (fun r => some r)) e
theorem O_more_ok : O_more INV := fun m h x1 => by
  obtain ⟨D, hS, cN, cM⟩ := pic h
  rcases i_cases x1 with hx | ⟨p, hp, rfl⟩
  · exact ⟨-1, m, by rw [fN_more, (isPlan_neg hx).1]; rfl, by rw [fM_more, (isPlan_neg hx).2]; rfl, h⟩
  · by_cases h1 : p < dn D
    · exact ⟨Int32.ofNat (ft D p), fM2 D p m, by rw [fN_more, g_plan hS cN hp, if_pos h1, zb1_s, if_neg (by decide), g_fit hS cN h1]; rfl, by rw [fM_more, g_planM hS (CM_sc (fM2_sc D p m) cM) hp, if_pos h1, zb1_s, if_neg (by decide), g_moreM hS (CM_sc (fM2_sc D p m) cM) h1]; rfl, INV_sc (fM2_sc D p m) h⟩
    · exact ⟨-1, m, by rw [fN_more, g_plan hS cN hp, if_neg h1]; rfl, by rw [fM_more, g_planM hS cM hp, if_neg h1]; rfl, h⟩
theorem se_pc (D : Dt) (s : Nat) : pc (se D s) = fb_ct (fun f => (mv D f).testBit s) 25 := by
  rw [pc_n (se_lt D s) (by decide)]
  exact fb_ct_cong fun k hk => by rw [se, bs_t, decide_eq_true hk, Bool.true_and]
theorem O_at_ok : O_at INV := fun m h x1 x2 => by
  obtain ⟨D, hS, cN, cM⟩ := pic h
  rcases i_cases x1 with hx | ⟨s, hs, rfl⟩
  · exact ⟨-1, m, by rw [fN_at, (g_sqneg hS cN hx).1]; rfl, by rw [fM_at, (g_sqneg hS cN hx).2]; rfl, h⟩
  by_cases h1 : s < dW D * dW D
  · have h25 : s < 25 := Nat.lt_of_lt_of_le h1 (CS_WW hS)
    rcases i_cases x2 with hx | ⟨w, hw, rfl⟩
    · exact ⟨-1, m, by rw [fN_at, g_sq hS cN hs, if_pos h1, zb1_s, if_neg (by decide), if_pos hx], by rw [fM_at, g_sqM hS cM hs, if_pos h1, zb1_s, if_neg (by decide), in_neg (by decide) hx]; rfl, h⟩
    have k3 : ((2 : Int32) < Int32.ofNat w) ↔ 2 < w := i_lt (a := 2) (by decide) hw
    by_cases h2 : 2 < w
    · exact ⟨-1, m, by rw [fN_at, g_sq hS cN hs, if_pos h1, zb1_s, if_neg (by decide), if_neg (i_lt0 hw), if_pos (k3.mpr h2)], by rw [fM_at, g_sqM hS cM hs, if_pos h1, zb1_s, if_neg (by decide), in_l 0 2 0 2 hw rfl rfl (by decide) (by decide), if_neg (by omega)]; rfl, h⟩
    have k4 : ¬ (2 : Int32) < Int32.ofNat w := fun z => h2 (k3.mp z)
    have kin : fM_in (Int32.ofNat w) 0 2 = some 1 := by rw [in_l 0 2 0 2 hw rfl rfl (by decide) (by decide), if_pos (by omega)]
    rcases (show w = 0 ∨ w = 1 ∨ w = 2 by omega) with rfl | rfl | rfl
    · have sN : fN_at (Int32.ofNat s) (Int32.ofNat 0) m = if da D s < 0 then some (-5, m) else some (da D s, m) := by
        rw [fN_at, g_sq hS cN hs, if_pos h1, zb1_s, if_neg (by decide), if_neg (by decide), if_neg (by decide), if_neg (by decide), g_man cN h25, zb1_s]
        by_cases z : da D s < 0
        · rw [if_pos z, if_pos z]
        · rw [if_neg z, if_neg z, if_pos (by decide)]
      have sM : fM_at (Int32.ofNat s) (Int32.ofNat 0) m = if da D s < 0 then some (-5) else some (da D s) := by
        rw [fM_at, g_sqM hS cM hs, if_pos h1, zb1_s, if_neg (by decide), kin, zb1_s, if_neg (by decide), if_neg (by decide), zI_n hs h25, zg_t, i_tn hs, cM.2.2.2.1 s h25]
        by_cases z : da D s < 0
        · rw [if_pos z, if_pos z]
        · rw [if_neg z, if_neg z, if_pos (by decide), zg_t]
      refine ⟨if da D s < 0 then -5 else da D s, m, ?_, ?_, h⟩
      · rw [sN]; split <;> rfl
      · rw [sM]; split <;> rfl
    · have c2 : sc m (vF m 44 (fun s => Int32.ofNat (mv D s)) 25) := sc_F (sc_r m) (fun _ => rfl)
      refine ⟨Int32.ofNat (fb_ct (fun f => (mv D f).testBit s) 25), vF m 44 (fun s => Int32.ofNat (mv D s)) 25, ?_, ?_, INV_sc c2 h⟩
      · rw [fN_at, g_sq hS cN hs, if_pos h1, zb1_s, if_neg (by decide), if_neg (by decide), if_neg (by decide), if_pos (by decide), g_byMen hS cN, zb1_s, v_seers (SV_men hS m) h25]
        rfl
      · rw [fM_at, g_sqM hS (CM_sc c2 cM) hs, if_pos h1, zb1_s, if_neg (by decide), kin, zb1_s, if_neg (by decide), if_pos (by decide), g_seersM hS (CM_sc c2 cM) h25, zb1_s, n_ones (p25 (se_lt D s)), se_pc]
        rfl
    · have sN : fN_at (Int32.ofNat s) (Int32.ofNat 2) m = if da D s < 0 then some (-5, m) else zb1 (fN_viewOf (da D s) (Int32.ofNat s) m) (fun r5 => some (r5, m)) := by
        rw [fN_at, g_sq hS cN hs, if_pos h1, zb1_s, if_neg (by decide), if_neg (by decide), if_neg (by decide), if_neg (by decide), g_man cN h25, zb1_s]
        by_cases z : da D s < 0
        · rw [if_pos z, if_pos z]
        · rw [if_neg z, if_neg z, if_neg (by decide)]
      have sM : fM_at (Int32.ofNat s) (Int32.ofNat 2) m = if da D s < 0 then some (-5) else zb1 (fM_seesOf (da D s) (Int32.ofNat s) m) (fun r5 => some r5) := by
        rw [fM_at, g_sqM hS cM hs, if_pos h1, zb1_s, if_neg (by decide), kin, zb1_s, if_neg (by decide), if_neg (by decide), zI_n hs h25, zg_t, i_tn hs, cM.2.2.2.1 s h25]
        by_cases z : da D s < 0
        · rw [if_pos z, if_pos z]
        · rw [if_neg z, if_neg z, if_neg (by decide), zg_t]
      cases e : on D s
      · have z : da D s < 0 := by rw [on_f hS h25 e]; decide
        exact ⟨-5, m, by rw [sN, if_pos z], by rw [sM, if_pos z], h⟩
      · obtain ⟨-, t2, t3⟩ := on_t hS h25 e
        have z : ¬ da D s < 0 := by rw [t3]; exact i_lt0 (by have := hS.1; omega)
        exact ⟨Int32.ofNat (VV D (mp D s) s), m, by rw [sN, if_neg z, t3, g_view hS cN t2 h1]; rfl, by rw [sM, if_neg z, t3, g_sees hS cM t2 h1]; rfl, h⟩
  · exact ⟨-1, m, by rw [fN_at, g_sq hS cN hs, if_neg h1]; rfl, by rw [fM_at, g_sqM hS cM hs, if_neg h1]; rfl, h⟩
/-- a man set on a square, or taken -/
theorem INV_man {m : zv_M} {D : Dt} (hS : CS D) (cM : CM D m) (h : INV m) {s : Nat} (hs : s < dW D * dW D) {v : Int32} (hv : v = -1 ∨ ∃ q : Nat, q < dn D ∧ v = Int32.ofNat q) : INV (wI (wI m 8 s v) 72 s v) := by
  have A : ∀ K : Nat → Nat → Bool, K 8 s = false → K 72 s = false → ag K m (wI (wI m 8 s v) 72 s v) := fun K q1 q2 => ag_w (ag_w (ag_r m) q1) q2
  obtain ⟨y, ⟨n, W, hPl, hN1, hN2, ⟨hW2, hW5, hN3⟩, hMn, hN5⟩, hK, hB, hA, hT, hR, hP, hO, hY⟩ := h
  obtain rfl : n = dn D := (i_eq (by have := hPl.1; omega) (by have := hS.1; omega)).mp (hPl.2.2.2.2.1.symm.trans cM.2.1)
  obtain rfl : W = dW D := (i_eq (by omega) (by have := hS.2.2.1; omega)).mp (hN3.symm.trans (hB.2.2.2.2.1.symm.trans cM.1.1))
  refine ⟨y, ⟨dn D, dW D, hPl, hN1, hN2, ⟨hW2, hW5, hN3⟩, fun s' hs2 => ?_, hN5⟩, fKp (A _ rfl rfl) hK, fBo (A _ rfl rfl) hB, fBa (A _ rfl rfl) hA, fTx (A _ rfl rfl) hT, fTr (A _ rfl rfl) hR, fTp (A _ rfl rfl) (fun _ _ => rfl) hP, fKo (A _ rfl rfl) hO, fYd (A _ rfl rfl) hY⟩
  obtain ⟨b1, b2⟩ := hMn s' hs2
  by_cases q : s' = s
  · subst q
    rw [wI_o _ _ (by omega), wI_e, wI_e]
    exact ⟨rfl, hv.imp id (fun z => ⟨hs, z⟩)⟩
  · rw [wI_o _ _ (by omega), wI_o _ _ (by omega), wI_o _ _ (by omega), wI_o _ _ (by omega)]
    exact ⟨b1, b2⟩
theorem O_set_ok : O_set INV := fun m h x1 x2 => by
  obtain ⟨D, hS, cN, cM⟩ := pic h
  rcases i_cases x1 with hx | ⟨p, hp, rfl⟩
  · exact ⟨-1, m, m, by rw [fN_set, (isPlan_neg hx).1]; rfl, by rw [fM_set, (isPlan_neg hx).2]; rfl, h⟩
  by_cases h1 : p < dn D
  · rcases i_cases x2 with hx | ⟨s, hs, rfl⟩
    · exact ⟨-1, m, m, by rw [fN_set, g_plan hS cN hp, if_pos h1, zb1_s, if_neg (by decide), (g_sqneg hS cN hx).1]; rfl, by rw [fM_set, g_planM hS cM hp, if_pos h1, zb1_s, if_neg (by decide), (g_sqneg hS cN hx).2]; rfl, h⟩
    by_cases h2 : s < dW D * dW D
    · have h25 : s < 25 := Nat.lt_of_lt_of_le h2 (CS_WW hS)
      have hsc := fM2_sc D p m
      have sN : fN_set (Int32.ofNat p) (Int32.ofNat s) m = if (op D).testBit s = true then some (if (ft D p).testBit s = true then 1 else 0, wI (fM2 D p m) 8 s (Int32.ofNat p)) else some (-3, m) := by
        rw [fN_set, g_plan hS cN hp, if_pos h1, zb1_s, if_neg (by decide), g_sq hS cN hs, if_pos h2, zb1_s, if_neg (by decide), g_open hS cN, zb1_s, n_isIn hs, decide_eq_true h25, Bool.true_and, zb1_s, if01]
        cases (op D).testBit s
        · rfl
        · rw [if_pos (by decide), if_pos (by decide), g_fit hS cN h1, zb2_s, n_isIn hs, decide_eq_true h25, Bool.true_and, zb1_s, fSt_putMan, if_neg (i_lt0 hs), show zln (zrf 1 3) = 25 from rfl, if_pos ((i_lt hs (by decide)).mpr h25), zI_n hs h25, zg_t, zb1_s, if01, i_tn hs, show zrf 1 3 = 8 from rfl]
          cases (ft D p).testBit s <;> rfl
      have sM : ∀ m', CM D m' → fM_set (Int32.ofNat p) (Int32.ofNat s) m' = if (op D).testBit s = true then some (if (ft D p).testBit s = true then 1 else 0, wI m' 72 s (Int32.ofNat p)) else some (-3, m') := fun m' cM => by
        rw [fM_set, g_planM hS cM hp, if_pos h1, zb1_s, if_neg (by decide), g_sqM hS cM hs, if_pos h2, zb1_s, if_neg (by decide), g_mayBe hS cM h25 h2, zb1_s, if01]
        cases b : (op D).testBit s
        · rfl
        · rw [if_pos (by decide), if_pos (by decide), g_isFit hS cM h1 h2, zb1_s, if01, zI_n hs h25, zg_t, zg_t, i_tn hs, ft_t, decide_eq_true h25, ftb, b, Bool.true_and, Bool.true_and]
          cases (!(orf (mv D) 25).testBit s && decide (pw D p s &&& Mn D = 0)) <;> rfl
      cases b : (op D).testBit s
      · exact ⟨-3, m, m, by rw [sN, b]; rfl, by rw [sM m cM, b]; rfl, h⟩
      · have cM0 : CM D (fM2 D p m) := CM_sc hsc cM
        have cM1 : CM D (wI (fM2 D p m) 8 s (Int32.ofNat p)) := cM0
        exact ⟨_, _, _, by rw [sN, b, if_pos (by decide)], by rw [sM _ cM1, b, if_pos (by decide)], INV_man hS (CM_sc hsc cM) (INV_sc hsc h) h2 (Or.inr ⟨p, h1, rfl⟩)⟩
    · exact ⟨-1, m, m, by rw [fN_set, g_plan hS cN hp, if_pos h1, zb1_s, if_neg (by decide), g_sq hS cN hs, if_neg h2]; rfl, by rw [fM_set, g_planM hS cM hp, if_pos h1, zb1_s, if_neg (by decide), g_sqM hS cM hs, if_neg h2]; rfl, h⟩
  · exact ⟨-1, m, m, by rw [fN_set, g_plan hS cN hp, if_neg h1]; rfl, by rw [fM_set, g_planM hS cM hp, if_neg h1]; rfl, h⟩
