/-! The class's preparation, and the op ways. -/
def pM7 (D : Dt) (p : Nat) (m : zv_M) : zv_M := vF (vF m 47 (fun s => Int32.ofNat (pw D p s)) 25) 48 (fun s => Int32.ofNat (jn (pw D p) (fr D) s)) 25
def pM (D : Dt) (p : Nat) (m : zv_M) : zv_M := vF (wI (wI (wI (pM7 D p m) 49 4 (Int32.ofNat (dW D))) 49 5 (Int32.ofNat (fr D))) 49 7 0) 50 (fun s => Int32.ofNat (jn (pw D p) (fr D) s)) 25
theorem pM_sc (D : Dt) (p : Nat) (m : zv_M) : sc m (pM D p m) := sc_F (sc_w (sc_w (sc_w (sc_F (sc_F (sc_r m) (fun _ => rfl)) (fun _ => rfl)) rfl) rfl) rfl) (fun _ => rfl)
theorem prep_ok {D : Dt} {m : zv_M} (hS : CS D) (c : CN D m) {p : Nat} (hp : p < dn D) : fN_prepareRowSearch (Int32.ofNat p) m = some (pM D p m) := by
  have hfr := w25 hS (fr_lt D)
  have c1 : CN D (vF m 47 (fun s => Int32.ofNat (pw D p s)) 25) := CN_sc hS (sc_F (sc_r m) (fun _ => rfl)) c
  have c7 : CN D (pM7 D p m) := CN_sc hS (sc_F (sc_F (sc_r m) (fun _ => rfl)) (fun _ => rfl)) c
  have e := wn_eq (fRo_prepare_l22 48) (fun i => (Int32.ofNat i, vF (wI (wI (wI (pM7 D p m) 49 4 (Int32.ofNat (dW D))) 49 5 (Int32.ofNat (fr D))) 49 7 0) 50 (fun s => Int32.ofNat (jn (pw D p) (fr D) s)) i)) 25 (pM D p m) (by decide) (fun i hi => by
    have h48 : (vF (wI (wI (wI (pM7 D p m) 49 4 (Int32.ofNat (dW D))) 49 5 (Int32.ofNat (fr D))) 49 7 0) 50 (fun s => Int32.ofNat (jn (pw D p) (fr D) s)) i).1 48 i = Int32.ofNat (jn (pw D p) (fr D) i) := by
      show (vF (vF m 47 (fun s => Int32.ofNat (pw D p s)) 25) 48 (fun s => Int32.ofNat (jn (pw D p) (fr D) s)) 25).1 48 i = _
      exact vF_e _ _ _ hi
    show fRo_prepare_l22 48 (_, _) = _
    rw [fRo_prepare_l22, if_pos (c25 hi), show zln 48 = 25 from rfl, if_pos ((i_lt (by omega) (by decide)).mpr hi), zI_n (by omega) hi, zg_t, i_tn (by omega), h48, fRo_prepare_j53, zI_n (by omega) hi, zg_t, i_tn (by omega), inc, vF_s (g := fun s => Int32.ofNat (jn (pw D p) (fr D) s))]) (by
    show fRo_prepare_l22 48 (_, _) = _
    rw [fRo_prepare_l22, if_neg (by decide)]
    rfl)
  rw [vF_0] at e
  have hmin : fJ_min (Int32.ofNat (dW D)) 5 = some (Int32.ofNat (dW D)) := by
    rw [fJ_min]
    have h5 := hS.2.2.1
    rw [if_neg (show ¬ (5 : Int32) < Int32.ofNat (dW D) from fun z => by have := (i_lt (a := 5) (by decide) (by omega)).mp z; omega)]
  rw [fN_prepareRowSearch, g_ground hS c, zb1_s, g_byPlan hS c hp, zb1_s, g_free hS c1, zb1_s, v_join (SV_plan hS p m) hfr, zb1_s]
  show zb1 (fYa_free (dg D) (pM7 D p m)) (fun r8 => zb1 (fRo_prepare ((pM7 D p m).1 (dg D) 0) r8 48 (pM7 D p m)) (fun m10 => some m10)) = _
  rw [g_free hS c7, zb1_s, c7.2.1.1, fRo_prepare, hmin, zb1_s]
  exact congrArg (fun z => zb1 (zb1 z (fun r => some r)) (fun m10 => some m10)) e
theorem ln_bd {D : Dt} {p : Nat} : ∀ s0, s0 < 25 → (fr D).testBit s0 = true → ∀ s, s < 25 → (fr D).testBit s = true → (jn (pw D p) (fr D) s0).testBit s = (bdn D p s).testBit s0 := fun s0 h0 hF0 s hs hF => by
  rw [jn_t, jnb, bdn_t, hF0, hF, decide_eq_true h0, decide_eq_true hs, Bool.true_and, Bool.true_and, Bool.true_and, Bool.true_and, Bool.or_comm]
theorem SH_0 (F : Nat) (bd : Nat → Nat) : SH F bd 0 0 := fun s _ _ => by
  rw [Nat.zero_testBit, Nat.and_zero]
  rfl
theorem pow5 {W : Nat} (h : W ≤ 5) : 5 ^ W ≤ 3125 := Nat.le_trans (Nat.pow_le_pow_right (by decide) h) (by decide)
/-- the list of all ways -/
def wys (D : Dt) (p : Nat) : List (Nat → Nat) := dt (dW D) (fr D) (bdn D p) (dW D) 0 (fun _ => 0) 0
theorem count_ok {D : Dt} {m : zv_M} (hS : CS D) (p : Nat) : ∃ m', fRo_countAll (pM D p m) = some m' ∧ sc m m' ∧ m'.1 49 7 = Int32.ofNat (wys D p).length ∧ ∀ r, r < dW D → m'.1 53 r = nF 0 (wys D p) ((pM D p m).1 53) r := by
  have hp5 := pow5 hS.2.2.1
  obtain ⟨m', e, ef⟩ := goOn_ok (one := false) (lv0 := false) (W := dW D) (F := fr D) (ln := jn (pw D p) (fr D)) (b := fun _ => 0) (bd := bdn D p) hS.2.1 hS.2.2.1 ln_bd (fun _ h => by have := hS.2.1; omega) (dW D) 0 8 0 0 0 false (fun _ => 0) (wI (pM D p m) 49 6 0) (by omega) (by have := hS.2.2.1; omega) (by have := hS.2.1; omega) ⟨rfl, rfl, rfl, fun s hs => by
    show (vF (wI (wI (wI (pM7 D p m) 49 4 (Int32.ofNat (dW D))) 49 5 (Int32.ofNat (fr D))) 49 7 0) 50 (fun s => Int32.ofNat (jn (pw D p) (fr D) s)) 25).1 50 s = _
    exact vF_e _ _ _ hs, fun h => by cases h⟩ (SH_0 _ _) rfl (by omega) (fun r hr => absurd hr (Nat.not_lt_zero r)) (fun h => by cases h) (fun h => by cases h)
  rw [if_neg (show ¬ false = true by decide)] at ef
  obtain ⟨f1, f2, f3, f4⟩ := ef
  have hsc1 : sc m (wI (pM D p m) 49 6 0) := sc_w (pM_sc D p m) rfl
  refine ⟨m', ?_, sc_t hsc1 ⟨f1, fun o k hk => f2 o k (fun z => by rw [z.1] at hk; cases hk) (fun z => by rw [z] at hk; cases hk) (fun z => by rw [z.1, z.2] at hk; cases hk)⟩, ?_, f4⟩
  · rw [fRo_countAll, gG_16]
    exact congrArg (fun z => zb1 z (fun m1 => some m1)) e
  · rw [f3]
    show Int32.ofNat (nC false 0 (wys D p).length) = _
    unfold nC
    rw [if_neg (by decide), Nat.zero_add]
theorem nm1 {n : Nat} (h : n < 2147483648) : ¬ Int32.ofNat n = -1 := i_ne h (by decide)
theorem wys_M {D : Dt} (hS : CS D) (p : Nat) : wys D p = ((fun _ => 0 : Nat → Nat) :: ala (dW D) (dW D) 0 (fun _ => 0)).filter (iw (dW D) (fr D) (bdn D p) (dW D) 0 0) := by
  have hz : zr 0 (dW D) (fun _ => 0) = (fun _ => 0 : Nat → Nat) := by
    funext r
    unfold zr
    split <;> rfl
  rw [wys, dt_tl, tl_al (by have := hS.2.1; omega), hz]
theorem O_ways_ok : O_ways INV := fun m h x1 x2 => by
  obtain ⟨D, hS, cN, cM⟩ := pic h
  have h5 := hS.2.2.1
  have h2 := hS.2.1
  rcases i_cases x1 with hx | ⟨p, hp, rfl⟩
  · exact ⟨-1, m, m, by rw [fN_ways, (isPlan_neg hx).1]; rfl, by rw [fM_ways, (isPlan_neg hx).2]; rfl, h⟩
  by_cases h1 : p < dn D
  · have sN : fN_ways (Int32.ofNat p) x2 m = if x2 < -1 then some (-1, m) else if x2 < Int32.ofNat (dW D) then zb1 (fRo_countAll (pM D p m)) (fun m7 => if x2 = -1 then some (m7.1 49 7, m7) else zb1 (fRo_firstAt x2 m7) (fun r8 => some (r8, m7))) else some (-1, m) := by
      rw [fN_ways, g_plan hS cN hp, if_pos h1, zb1_s, if_neg (by decide), g_ground hS cN, zb1_s, cN.2.1.1, prep_ok hS cN h1, zb1_s]
    have sM : ∀ M, CM D M → fM_ways (Int32.ofNat p) x2 M = zb1 (fM_in x2 (-1) (Int32.ofNat (dW D) - 1)) (fun r3 => if r3 = 0 then some (-1, M) else zb1 (whileN zFU fM_ways_l35 (0, vF M 85 (fun s => Int32.ofNat (bdn D p s)) 25)) (fun m9 => zb1 (whileN zFU fM_ways_l58 (0, 1, m9)) (fun x => match x with | (a14, m15) => if x2 < 0 then some (a14, m15) else if a14 = 0 then some ((-5), m15) else zg (zI x2 5) (some (m15.1 87 x2.toNatClampNeg, m15))))) := fun M cM => by
      rw [fM_ways, g_planM hS cM hp, if_pos h1, zb1_s, if_neg (by decide), cM.1.1, g_bad hS cM h1, zb1_s]
    have hin : fM_in x2 (-1) (Int32.ofNat (dW D) - 1) = some (if x2 < -1 then 0 else if x2 < Int32.ofNat (dW D) then 1 else 0) := by
      rw [fM_in]
      by_cases q : x2 < -1
      · rw [if_pos q, if_pos q]
      · rw [if_neg q, if_neg q]
        rcases i_cases x2 with hx | ⟨k, hk, rfl⟩
        · have a1 : x2 < Int32.ofNat (dW D) := by
            rw [Int32.lt_iff_toInt_lt] at hx ⊢
            have : (0 : Int32).toInt = 0 := rfl
            rw [i_ofNat (by omega)]
            omega
          have a2 : ¬ (Int32.ofNat (dW D) - 1 < x2) := by
            rw [show Int32.ofNat (dW D) - 1 = Int32.ofNat (dW D - 1) from i_mi (b := 1) (by omega) (by omega)]
            rw [Int32.lt_iff_toInt_lt] at hx ⊢
            have : (0 : Int32).toInt = 0 := rfl
            rw [i_ofNat (by omega)]
            omega
          rw [if_pos a1, if_neg a2]
        · have a2 : (Int32.ofNat (dW D) - 1 < Int32.ofNat k) = (dW D ≤ k) := propext (i_pred (by omega) hk)
          have a1 : (Int32.ofNat k < Int32.ofNat (dW D)) = (k < dW D) := propext (i_lt hk (by omega))
          simp only [a1, a2]
          by_cases w : k < dW D
          · rw [if_pos w, if_neg (by omega)]
          · rw [if_neg w, if_pos (by omega)]
    by_cases q1 : x2 < -1
    · rw [if_pos q1] at sN hin
      exact ⟨-1, m, m, sN, by rw [sM m cM, hin]; rfl, h⟩
    by_cases q2 : x2 < Int32.ofNat (dW D)
    · rw [if_neg q1, if_pos q2] at sN hin
      obtain ⟨m7, e7, sc7, f7, f53⟩ := count_ok (m := m) hS p
      have cM7 := CM_sc sc7 cM
      have sM7 := sM m7 cM7
      rw [hin, zb1_s, if_neg (by decide)] at sM7
      have e35 := wn_eq fM_ways_l35 (fun i => (Int32.ofNat i, vF (vF m7 85 (fun s => Int32.ofNat (bdn D p s)) 25) 86 (fun _ => 0) i)) 5 (vF (vF m7 85 (fun s => Int32.ofNat (bdn D p s)) 25) 86 (fun _ => 0) 5) (by decide) (fun i hi => by
        show fM_ways_l35 (_, _) = _
        rw [fM_ways_l35, if_pos (show Int32.ofNat i < 5 from (i_lt (b := 5) (by omega) (by decide)).mpr hi), zI_n (by omega) hi, zg_t, i_tn (by omega), inc, vF_s (g := fun _ => (0 : Int32))]) (by
        show fM_ways_l35 (_, _) = _
        rw [fM_ways_l35, if_neg (by decide)])
      rw [vF_0] at e35
      generalize hm9 : vF (vF m7 85 (fun s => Int32.ofNat (bdn D p s)) 25) 86 (fun _ => (0 : Int32)) 5 = m9 at e35
      have sc9 : sc m7 m9 := by rw [← hm9]; exact sc_F (sc_F (sc_r m7) (fun _ => rfl)) (fun _ => rfl)
      have hRM : RM D p (fun _ => 0) m9 := by
        refine ⟨CM_sc sc9 cM7, fun s hs => ?_, fun r hr => ?_⟩
        · rw [← hm9, vF_o _ _ (by omega), vF_e _ _ _ hs]
        · rw [← hm9, vF_e _ _ _ (by omega)]
          rfl
      have hlen : (ala (dW D) (dW D) 0 (fun _ => 0)).length + 1 ≤ 3125 := by
        have hz : zr 0 (dW D) (fun _ => 0) = (fun _ => 0 : Nat → Nat) := by
          funext r
          unfold zr
          split <;> rfl
        have t := tl_len (W := dW D) h5 (dW D) 0 (fun _ => 0)
        rw [tl_al (by omega), hz, List.length_cons] at t
        exact Nat.le_trans t (pow5 h5)
      obtain ⟨m15, e58, sc15, f87⟩ := waysM_ok (p := p) hS _ (fun _ => 0) 0 m9 zFU rfl (zn_FU (by omega)) (by omega) hRM (fun _ _ => by omega)
      rw [← wys_M hS, Nat.zero_add] at e58
      rw [← wys_M hS] at f87
      rw [show ((0 : Int32), vF m7 85 (fun s => Int32.ofNat (bdn D p s)) 25) = (Int32.ofNat 0, vF m7 85 (fun s => Int32.ofNat (bdn D p s)) 25) from rfl, e35, zb1_s, show ((0 : Int32), (1 : Int32), m9) = (Int32.ofNat 0, 1, m9) from rfl, e58, zb1_s] at sM7
      have hfin : INV m15 := INV_sc (sc_t (sc_t sc7 sc9) sc15) h
      have hwl : (wys D p).length < 100000 := by
        have := dt_len (W := dW D) (F := fr D) (bd := bdn D p) h5 (dW D) 0 (fun _ => 0) 0
        have := pow5 h5
        unfold wys
        omega
      rw [e7, zb1_s, f7] at sN
      rcases i_cases x2 with hx | ⟨k, hk, rfl⟩
      · have hm1 : x2 = -1 := Decidable.byContradiction fun z => q1 (i_m1 hx z)
        rw [if_pos hm1] at sN
        exact ⟨_, m7, m15, sN, by rw [sM7]; exact if_pos hx, hfin⟩
      · have hkW : k < dW D := (i_lt hk (by omega)).mp q2
        rw [if_neg (nm1 hk)] at sN
        have hfa : fRo_firstAt (Int32.ofNat k) m7 = some (match wys D p with | [] => -5 | hd :: _ => Int32.ofNat (hd k)) := by
          rw [fRo_firstAt, f7, if_neg (i_lt0 hk), if_pos (show Int32.ofNat k < 5 from (i_lt (b := 5) hk (by decide)).mpr (by omega)), zI_n hk (by omega), zg_t, i_tn hk, f53 k hkW]
          cases hw : wys D p with
          | nil => rw [if_pos (by decide)]
          | cons a L =>
            rw [hw] at hwl
            rw [if_neg (fun z => by have := (i_lt (b := 1) (by omega) (by decide)).mp z; rw [List.length_cons] at this; omega)]
            rfl
        rw [hfa, zb1_s] at sN
        refine ⟨_, m7, m15, sN, ?_, hfin⟩
        rw [sM7]
        show (if Int32.ofNat k < 0 then some (Int32.ofNat (wys D p).length, m15) else if Int32.ofNat (wys D p).length = 0 then some ((-5), m15) else zg (zI (Int32.ofNat k) 5) (some (m15.1 87 (Int32.ofNat k).toNatClampNeg, m15))) = _
        rw [if_neg (i_lt0 hk), zI_n hk (by omega), zg_t, i_tn hk, f87 k hkW]
        cases hw : wys D p with
        | nil => rw [if_pos (by decide)]
        | cons a L =>
          rw [hw] at hwl
          rw [if_neg (show ¬ Int32.ofNat (a :: L).length = 0 from fun z => by have := (i_eq (b := 0) (by omega) (by decide)).mp z; rw [List.length_cons] at this; omega)]
          rfl
    · rw [if_neg q1, if_neg q2] at sN hin
      exact ⟨-1, m, m, sN, by rw [sM m cM, hin]; rfl, h⟩
  · exact ⟨-1, m, m, by rw [fN_ways, g_plan hS cN hp, if_neg h1]; rfl, by rw [fM_ways, g_planM hS cM hp, if_neg h1]; rfl, h⟩
