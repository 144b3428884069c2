/-! Fractions; squares where one was rubbed out. -/
theorem n_div {a b : Nat} (ha : a < 2147483648) (hb : b < 2147483648) : Int32.ofNat a / Int32.ofNat b = Int32.ofNat (a / b) := by
  have hq : a / b < 2147483648 := Nat.lt_of_le_of_lt (Nat.div_le_self a b) ha
  apply Int32.toInt_inj.mp
  rw [Jvm.Kit.i32_div (by rw [i_ofNat ha]; omega), i_ofNat ha, i_ofNat hb, i_ofNat hq, Int.tdiv_eq_ediv_of_nonneg (by omega)]
  first | rfl | exact (Int.natCast_ediv a b).symm | simp
theorem n_mod {a b : Nat} (ha : a < 2147483648) (hb : b < 2147483648) : Int32.ofNat a - Int32.ofNat a / Int32.ofNat b * Int32.ofNat b = Int32.ofNat (a % b) := by
  have h := Nat.div_add_mod a b
  have e : b * (a / b) = a / b * b := Nat.mul_comm _ _
  rw [n_div ha hb, i_mu, i_mi (by omega) ha]
  congr 1
  omega
theorem n_eq0 {a : Nat} (ha : a < 2147483648) : (Int32.ofNat a = 0) = (a = 0) := propext (i_eq (b := 0) ha (by decide))
theorem zN_n {a : Nat} (ha : a < 2147483648) (h : ¬ a = 0) : zN (Int32.ofNat a) = true := by
  rw [zN]
  exact decide_eq_true (fun z => h ((i_eq (b := 0) ha (by decide)).mp z))
theorem gcd_st (x y : Nat) : Nat.gcd (x % y) y = Nat.gcd y x := (Nat.gcd_rec y x).symm
theorem fr_N : ∀ (k i x y fu : Nat), y ≤ k → i + k < 64 → x < 2147483648 → y < 2147483648 → k < fu → whileN fu fN_fraction_l26 (Int32.ofNat x, Int32.ofNat y, Int32.ofNat i) = some (Int32.ofNat (Nat.gcd y x)) := by
  intro k
  induction k with
  | zero =>
    intro i x y fu hy hi hx hy2 hf
    obtain ⟨fu', rfl⟩ : ∃ k, fu = k + 1 := ⟨fu - 1, by omega⟩
    obtain rfl : y = 0 := by omega
    rw [whileN, fN_fraction_l26, if_pos (show Int32.ofNat i < 64 from (i_lt (b := 64) (by omega) (by decide)).mpr (by omega)), if_pos (show Int32.ofNat 0 = 0 from rfl), Nat.gcd_zero_left]
  | succ k ih =>
    intro i x y fu hy hi hx hy2 hf
    obtain ⟨fu', rfl⟩ : ∃ k, fu = k + 1 := ⟨fu - 1, by omega⟩
    rw [whileN, fN_fraction_l26, if_pos (show Int32.ofNat i < 64 from (i_lt (b := 64) (by omega) (by decide)).mpr (by omega))]
    by_cases q : y = 0
    · rw [q, if_pos (show Int32.ofNat 0 = 0 from rfl), Nat.gcd_zero_left]
    · have hm : x % y < y := Nat.mod_lt _ (by omega)
      rw [if_neg (show ¬ Int32.ofNat y = 0 from fun z => q ((i_eq (b := 0) hy2 (by decide)).mp z)), zN_n hy2 q, zg_t, n_mod hx hy2, inc]
      show whileN fu' _ _ = _
      rw [ih (i + 1) y (x % y) fu' (by omega) (by omega) hy2 (by omega) (by omega), gcd_st]
theorem fr_M : ∀ (k x y fu : Nat), y ≤ k → x < 2147483648 → y < 2147483648 → k < fu → whileN fu fM_divisor_l5 (Int32.ofNat x, Int32.ofNat y) = some (Int32.ofNat (Nat.gcd y x)) := by
  intro k
  induction k with
  | zero =>
    intro x y fu hy hx hy2 hf
    obtain ⟨fu', rfl⟩ : ∃ k, fu = k + 1 := ⟨fu - 1, by omega⟩
    obtain rfl : y = 0 := by omega
    rw [whileN, fM_divisor_l5, if_pos (show Int32.ofNat 0 = 0 from rfl), Nat.gcd_zero_left]
  | succ k ih =>
    intro x y fu hy hx hy2 hf
    obtain ⟨fu', rfl⟩ : ∃ k, fu = k + 1 := ⟨fu - 1, by omega⟩
    rw [whileN, fM_divisor_l5]
    by_cases q : y = 0
    · rw [q, if_pos (show Int32.ofNat 0 = 0 from rfl), Nat.gcd_zero_left]
    · have hm : x % y < y := Nat.mod_lt _ (by omega)
      rw [if_neg (show ¬ Int32.ofNat y = 0 from fun z => q ((i_eq (b := 0) hy2 (by decide)).mp z)), zN_n hy2 q, zg_t, n_mod hx hy2]
      show whileN fu' _ _ = _
      rw [ih y (x % y) fu' (by omega) hy2 (by omega) (by omega), gcd_st]
/-- the two fractions, below the line at least 1 and at most 25 -/
theorem frac {a b : Nat} (ha : a < 100000) (hb : b ≤ 30) (hb0 : 0 < b) (x : Int32) : fN_fraction (Int32.ofNat a) (Int32.ofNat b) x = if x = 0 then some ((Int32.ofNat a / Int32.ofNat (Nat.gcd a b)).toInt64) else if x = 1 then some ((Int32.ofNat b / Int32.ofNat (Nat.gcd a b)).toInt64) else some (-9223372036854775808) := by
  have hg : 0 < Nat.gcd a b := Nat.gcd_pos_of_pos_right _ hb0
  have hgb : Nat.gcd a b ≤ b := Nat.gcd_le_right _ hb0
  have e : whileN zFU fN_fraction_l26 (Int32.ofNat b, Int32.ofNat a, 0) = some (Int32.ofNat (Nat.gcd a b)) := by
    show whileN (999999999999 + 1) fN_fraction_l26 (Int32.ofNat b, Int32.ofNat a, 0) = _
    rw [whileN, fN_fraction_l26, if_pos (by decide)]
    by_cases q : a = 0
    · rw [q, if_pos (show Int32.ofNat 0 = 0 from rfl), Nat.gcd_zero_left]
    · have hm : b % a ≤ b := Nat.mod_le _ _
      rw [if_neg (show ¬ Int32.ofNat a = 0 from fun z => q ((i_eq (b := 0) (by omega) (by decide)).mp z)), zN_n (by omega) q, zg_t, n_mod (by omega) (by omega)]
      show whileN 999999999999 fN_fraction_l26 (Int32.ofNat a, Int32.ofNat (b % a), Int32.ofNat 1) = _
      rw [fr_N 31 1 a (b % a) 999999999999 (by omega) (by decide) (by omega) (by omega) (by decide), gcd_st]
  have h1 : ¬ Int32.ofNat b < 1 := fun z => by have := (i_lt (b := 1) (by omega) (by decide)).mp z; omega
  have h2 : ¬ Int32.ofNat (Nat.gcd a b) < 1 := fun z => by have := (i_lt (b := 1) (by omega) (by decide)).mp z; omega
  rw [fN_fraction, if_neg h1, e, zb1_s, if_neg h2, zN_n (by omega) (by omega), zg_t, zg_t]
  by_cases q0 : x = 0
  · subst q0
    rw [if_neg (by decide), if_neg (by decide), if_pos (by decide), if_pos (by decide)]
  · by_cases q1 : x = 1
    · subst q1
      rw [if_neg (by decide), if_neg (by decide), if_neg (by decide), if_neg (by decide), if_pos (by decide)]
    · rw [if_neg q0, if_neg q0, if_neg q1]
      by_cases q2 : x < 0
      · rw [if_pos q2]
      · rw [if_neg q2]
        by_cases q3 : (1 : Int32) < x
        · rw [if_pos q3]
        · exfalso
          rcases i_cases x with h | ⟨k, hk, rfl⟩
          · exact q2 h
          · have k1 : ¬ 1 < k := fun z => q3 ((i_lt (a := 1) (by decide) hk).mpr z)
            have k2 : ¬ k = 0 := fun z => q0 (by rw [z]; rfl)
            have k3 : ¬ k = 1 := fun z => q1 (by rw [z]; rfl)
            omega
theorem fracM {a b : Nat} (ha : a < 100000) (hb : b ≤ 30) (hb0 : 0 < b) (x : Int32) : fM_fraction (Int32.ofNat a) (Int32.ofNat b) x = if x = 0 then some ((Int32.ofNat a / Int32.ofNat (Nat.gcd a b)).toInt64) else some ((Int32.ofNat b / Int32.ofNat (Nat.gcd a b)).toInt64) := by
  have hg : 0 < Nat.gcd a b := Nat.gcd_pos_of_pos_right _ hb0
  have hgb : Nat.gcd a b ≤ b := Nat.gcd_le_right _ hb0
  have e := fr_M 31 a b zFU (by omega) (by omega) (by omega) (zn_FU (by decide))
  rw [Nat.gcd_comm b a] at e
  rw [fM_fraction, fM_divisor, e, zb1_s, zb1_s, zN_n (by omega) (by omega), zg_t, zg_t]
theorem in01 (x : Int32) : fM_in x 0 1 = some (if x = 0 ∨ x = 1 then 1 else 0) := by
  rcases i_cases x with h | ⟨k, hk, rfl⟩
  · rw [in_neg (by decide) h, if_neg]
    rintro (rfl | rfl)
    · exact absurd h (by decide)
    · exact absurd h (by decide)
  · rw [in_l 0 1 0 1 hk rfl rfl (by decide) (by decide)]
    by_cases q : k ≤ 1
    · rw [if_pos (by omega)]
      rcases (show k = 0 ∨ k = 1 by omega) with rfl | rfl
      · rw [if_pos (by decide)]
      · rw [if_pos (by decide)]
    · rw [if_neg (by omega), if_neg]
      rintro (z | z)
      · have := (i_eq (b := 0) hk (by decide)).mp z
        omega
      · have := (i_eq (b := 1) hk (by decide)).mp z
        omega
theorem pc_25 {a : Nat} (h : a < 2 ^ 25) : pc a ≤ 25 := by
  rw [pc_n h (by decide)]
  exact fb_ct_le _ _
theorem O_odds_ok : O_odds INV := fun m h x1 x2 => by
  obtain ⟨D, hS, cN, cM⟩ := pic h
  have hWW := CS_WW hS
  rcases i_cases x1 with hx | ⟨p, hp, rfl⟩
  · exact ⟨-9223372036854775808, m, by rw [fN_odds, (isPlan_neg hx).1]; rfl, by rw [fM_odds, (isPlan_neg hx).2]; rfl, h⟩
  by_cases h1 : p < dn D
  · have hsc := fM2_sc D p m
    have c2 := CN_sc hS hsc cN
    have cM2 := CM_sc hsc cM
    have ho : op D < 2 ^ 25 := w25 hS (op_lt D)
    have hp1 := pc_25 (ft_lt D p)
    have hp2 := pc_25 ho
    have sN : fN_odds (Int32.ofNat p) x2 m = zb1 (fN_fraction (Int32.ofNat (pc (ft D p))) (Int32.ofNat (pc (op D))) x2) (fun r11 => some (r11, fM2 D p m)) := by
      rw [fN_odds, g_plan hS cN hp, if_pos h1, zb1_s, if_neg (by decide), g_fit hS cN h1, zb2_s, n_bc (p25 (ft_lt D p)), zb1_s, g_open hS c2, zb1_s, n_bc (p25 ho), zb1_s]
    have eL := wn_eq (fM_odds_l27 (fM2 D p m)) (fun i => (Int32.ofNat (fb_ct (op D).testBit i), Int32.ofNat i)) (dW D * dW D) (Int32.ofNat (fb_ct (op D).testBit (dW D * dW D))) (by omega) (fun i hi => by
      show fM_odds_l27 _ (_, _) = _
      rw [fM_odds_l27, WWm cM2, if_pos ((i_lt (by omega) (by omega)).mpr hi), g_mayBe hS cM2 (by omega) hi, zb1_s, if01, fM_odds_j56, fM_odds_j56, inc, fb_ct_succ]
      cases (op D).testBit i
      · rw [if_neg (by decide), if_neg (by decide), inc]
        rw [show Int32.ofNat (fb_ct (op D).testBit i) + 0 = Int32.ofNat (fb_ct (op D).testBit i + 0) from i_pl _ 0]
      · rw [if_pos (by decide), if_pos (by decide), inc]) (by
      show fM_odds_l27 _ (_, _) = _
      rw [fM_odds_l27, WWm cM2, if_neg (fun q => by have := (i_lt (by omega) (by omega)).mp q; omega)])
    rw [← pc_n (op_lt D) (by omega)] at eL
    have sM : fM_odds (Int32.ofNat p) x2 (fM2 D p m) = if x2 = 0 ∨ x2 = 1 then if pc (op D) = 0 then some (-9223372036854775808) else fM_fraction (Int32.ofNat (pc (ft D p))) (Int32.ofNat (pc (op D))) x2 else some (-9223372036854775808) := by
      rw [fM_odds, g_planM hS cM2 hp, if_pos h1, zb1_s, if_neg (by decide), in01, zb1_s]
      by_cases q : x2 = 0 ∨ x2 = 1
      · rw [if_pos q, if_pos q, if_neg (by decide)]
        refine (congrArg (fun z => zb1 z _) eL).trans ?_
        rw [zb1_s]
        simp only [n_eq0 (show pc (op D) < 2147483648 by omega)]
        by_cases q2 : pc (op D) = 0
        · rw [if_pos q2, if_pos q2]
        · rw [if_neg q2, if_neg q2, g_moreM hS cM2 h1, zb1_s, n_ones (p25 (ft_lt D p)), zb1_s]
          cases fM_fraction (Int32.ofNat (pc (ft D p))) (Int32.ofNat (pc (op D))) x2 <;> rfl
      · rw [if_neg q, if_neg q, if_pos (by decide)]
    have hI := INV_sc hsc h
    by_cases q2 : pc (op D) = 0
    · refine ⟨-9223372036854775808, fM2 D p m, by rw [sN, q2, fN_fraction, if_pos (by decide)]; rfl, ?_, hI⟩
      rw [sM, if_pos q2]
      split <;> rfl
    · have f1 := frac (a := pc (ft D p)) (b := pc (op D)) (by omega) (by omega) (by omega) x2
      have f2 := fracM (a := pc (ft D p)) (b := pc (op D)) (by omega) (by omega) (by omega) x2
      rw [if_neg q2, f2] at sM
      rw [f1] at sN
      by_cases q0 : x2 = 0
      · rw [if_pos q0] at sN
        rw [if_pos (Or.inl q0), if_pos q0] at sM
        exact ⟨_, _, sN, sM, hI⟩
      · by_cases q1 : x2 = 1
        · rw [if_neg q0, if_pos q1] at sN
          rw [if_pos (Or.inr q1), if_neg q0] at sM
          exact ⟨_, _, sN, sM, hI⟩
        · rw [if_neg q0, if_neg q1] at sN
          rw [if_neg (fun z => z.elim q0 q1)] at sM
          exact ⟨_, _, sN, sM, hI⟩
  · exact ⟨-9223372036854775808, m, by rw [fN_odds, g_plan hS cN hp, if_neg h1]; rfl, by rw [fM_odds, g_planM hS cM hp, if_neg h1]; rfl, h⟩
theorem smf_w {f : Nat → Nat} {n : Nat} : ∀ k, (∀ s, n ≤ s → s < n + k → f s = 0) → smf f (n + k) = smf f n
  | 0, _ => rfl
  | k + 1, h => by
    show smf f (n + k) + f (n + k) = _
    rw [smf_w k (fun s h1 h2 => h s h1 (by omega)), h (n + k) (by omega) (by omega), Nat.add_zero]
theorem smf_le {f : Nat → Nat} {b : Nat} : ∀ n, (∀ s, s < n → f s ≤ b) → smf f n ≤ n * b
  | 0, _ => by simp [smf]
  | n + 1, h => by
    have := smf_le n (fun s hs => h s (by omega))
    have := h n (by omega)
    rw [smf, Nat.succ_mul]
    omega
theorem O_mean_ok : O_mean INV := fun m h x1 => by
  obtain ⟨D, hS, cN, cM⟩ := pic h
  have hWW := CS_WW hS
  have hsc : sc m (vF m 44 (fun s => Int32.ofNat (mv D s)) 25) := sc_F (sc_r m) (fun _ => rfl)
  have c2 := CN_sc hS hsc cN
  have cM2 := CM_sc hsc cM
  have hMn := p25 (Mn_lt D)
  have hM25 := pc_25 (Mn_lt D)
  have hmv : ∀ s, s < 25 → pc (mv D s) ≤ 25 := fun s hs => pc_25 (w25 hS (mv_lt hS hs))
  have hA := smf_le (f := fun s => pc (mv D s)) (b := 25) 25 hmv
  have hI := INV_sc hsc h
  generalize hm2 : vF m 44 (fun s => Int32.ofNat (mv D s)) 25 = m2 at *
  have sN : fN_mean x1 m = zb1 (fN_fraction (Int32.ofNat (smf (fun s => pc (mv D s)) 25)) (Int32.ofNat (pc (Mn D))) x1) (fun r8 => some (r8, m2)) := by
    rw [fN_mean, g_byMen hS cN, zb1_s, hm2, v_all (by rw [← hm2]; exact SV_men hS m), zb1_s, g_men hS c2, zb1_s, n_bc hMn, zb1_s]
  have hw : smf (fun s => pc (mv D s)) 25 = smf (fun s => pc (mv D s)) (dW D * dW D) := by
    have := smf_w (f := fun s => pc (mv D s)) (n := dW D * dW D) (25 - dW D * dW D) (fun s q1 q2 => by
      show pc (mv D s) = 0
      rw [mv_0 (on_w hS (by omega) q1), pc_0])
    rwa [Nat.add_sub_cancel' hWW] at this
  have eL : ∀ r, fM_fraction (Int32.ofNat (smf (fun s => pc (mv D s)) 25)) (Int32.ofNat (pc (Mn D))) x1 = some r → whileN zFU (fM_mean_l32 x1 m2 (Int32.ofNat (pc (Mn D)))) (0, 0) = some r := fun r hr => wn_eq (fM_mean_l32 x1 m2 (Int32.ofNat (pc (Mn D)))) (fun i => (Int32.ofNat (smf (fun s => pc (mv D s)) i), Int32.ofNat i)) (dW D * dW D) r (by omega) (fun i hi => by
    have h25 : i < 25 := by omega
    show fM_mean_l32 _ _ _ (_, _) = _
    rw [fM_mean_l32, WWm cM2, if_pos ((i_lt (by omega) (by omega)).mpr hi), zI_n (by omega) h25, zg_t, zg_t, i_tn (by omega), cM2.2.2.2.1 i h25, fM_mean_j78, inc, smf]
    cases e : on D i
    · rw [if_pos (show da D i < 0 by rw [on_f hS h25 e]; decide), mv_0 e, pc_0]
      rw [show Int32.ofNat (smf (fun s => pc (mv D s)) i) + 0 = Int32.ofNat (smf (fun s => pc (mv D s)) i + 0) from i_pl _ 0]
    · obtain ⟨t1, t2, t3⟩ := on_t hS h25 e
      rw [t3, if_neg (i_lt0 (by have := hS.1; omega)), g_sees hS cM2 t2 t1, zb1_s, ← mv_1 e, n_ones (p25 (w25 hS (mv_lt hS h25))), zb1_s, fM_mean_j78, i_pl, inc]) (by
    show fM_mean_l32 _ _ _ (_, _) = _
    rw [fM_mean_l32, WWm cM2, if_neg (fun q => by have := (i_lt (by omega) (by omega)).mp q; omega), ← hw, hr, zb1_s])
  have sM : fM_mean x1 m2 = if x1 = 0 ∨ x1 = 1 then if pc (Mn D) = 0 then some (-9223372036854775808) else zb1 (whileN zFU (fM_mean_l32 x1 m2 (Int32.ofNat (pc (Mn D)))) (0, 0)) (fun r => some r) else some (-9223372036854775808) := by
    rw [fM_mean, g_menM hS cM2, zb1_s, n_ones hMn, zb1_s, in01, zb1_s]
    simp only [n_eq0 (show pc (Mn D) < 2147483648 by omega)]
    by_cases q : x1 = 0 ∨ x1 = 1
    · rw [if_pos q, if_pos q, if_neg (by decide)]
    · rw [if_neg q, if_neg q, if_pos (by decide)]
  by_cases q2 : pc (Mn D) = 0
  · refine ⟨-9223372036854775808, m2, by rw [sN, q2, fN_fraction, if_pos (by decide)]; rfl, ?_, hI⟩
    rw [sM, if_pos q2]
    split <;> rfl
  · have f1 := frac (a := smf (fun s => pc (mv D s)) 25) (b := pc (Mn D)) (by omega) (by omega) (by omega) x1
    have f2 := fracM (a := smf (fun s => pc (mv D s)) 25) (b := pc (Mn D)) (by omega) (by omega) (by omega) x1
    rw [if_neg q2] at sM
    rw [f1] at sN
    by_cases q0 : x1 = 0
    · rw [if_pos q0] at sN
      rw [if_pos (Or.inl q0)] at sM
      rw [if_pos q0] at f2
      exact ⟨_, _, sN, sM.trans (by rw [eL _ f2, zb1_s]), hI⟩
    · by_cases q1 : x1 = 1
      · rw [if_neg q0, if_pos q1] at sN
        rw [if_pos (Or.inr q1)] at sM
        rw [if_neg q0] at f2
        exact ⟨_, _, sN, sM.trans (by rw [eL _ f2, zb1_s]), hI⟩
      · rw [if_neg q0, if_neg q1] at sN
        rw [if_neg (fun z => z.elim q0 q1)] at sM
        exact ⟨_, _, sN, sM, hI⟩
