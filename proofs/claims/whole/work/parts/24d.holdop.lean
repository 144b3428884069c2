def Rk (D : Dt) (p k : Nat) : Option Nat := fh (hA D) (Cs (Fb D) (hh2 D p) k (dW D * dW D) 0 0)
def hres (D : Dt) (p : Nat) : Int32 × Int32 := match Rk D p 1 with
  | some S => (1, Int32.ofNat S)
  | none => match Rk D p 2 with
    | some S => (2, Int32.ofNat S)
    | none => match Rk D p 3 with
      | some S => (3, Int32.ofNat S)
      | none => match Rk D p 4 with
        | some S => (4, Int32.ofNat S)
        | none => (-5, -5)
theorem skip_2 {D : Dt} {m0 m : zv_M} {k S : Nat} (hS : CS D) (c0 : CM D m0) (hst : ST k (some S) m) (hk : k < 100) (a : Int32) : whileN zFU (fM_layHold_l115 m0 a) (0, m) = some m := by
  have hWW := CS_WW hS
  have h4 : 2 * 2 ≤ dW D * dW D := Nat.mul_le_mul hS.2.1 hS.2.1
  exact wn_eq _ (fun i => (Int32.ofNat i, m)) 0 m (by decide) (fun i hi => absurd hi (Nat.not_lt_zero i)) (by
    show fM_layHold_l115 _ _ (Int32.ofNat 0, m) = _
    rw [fM_layHold_l115, WWm c0, if_pos ((i_lt (by omega) (by omega)).mpr (by omega)), hst.1, if_neg (i_lt0 (by omega))])
theorem skip_3 {D : Dt} {m0 m : zv_M} (hS : CS D) (c0 : CM D m0) (a : Int32) : whileN zFU (fM_layHold_l215 m0 a 0) (0, m) = some m := by
  have hWW := CS_WW hS
  have h4 : 2 * 2 ≤ dW D * dW D := Nat.mul_le_mul hS.2.1 hS.2.1
  exact wn_eq _ (fun i => (Int32.ofNat i, m)) 0 m (by decide) (fun i hi => absurd hi (Nat.not_lt_zero i)) (by
    show fM_layHold_l215 _ _ _ (Int32.ofNat 0, m) = _
    rw [fM_layHold_l215, WWm c0, if_pos ((i_lt (by omega) (by omega)).mpr (by omega)), if_pos rfl])
theorem skip_4 {D : Dt} {m0 m : zv_M} (hS : CS D) (c0 : CM D m0) (a : Int32) : whileN zFU (fM_layHold_l351 m0 a 0) (0, m) = some m := by
  have hWW := CS_WW hS
  have h4 : 2 * 2 ≤ dW D * dW D := Nat.mul_le_mul hS.2.1 hS.2.1
  exact wn_eq _ (fun i => (Int32.ofNat i, m)) 0 m (by decide) (fun i hi => absurd hi (Nat.not_lt_zero i)) (by
    show fM_layHold_l351 _ _ _ (Int32.ofNat 0, m) = _
    rw [fM_layHold_l351, WWm c0, if_pos ((i_lt (by omega) (by omega)).mpr (by omega)), if_pos rfl])
theorem layHold_ok {D : Dt} {m : zv_M} (hS : CS D) (c : CM D m) {p : Nat} (hp : p < dn D) : ∃ m', fM_layHold (Int32.ofNat p) m = some m' ∧ sc m m' ∧ m'.1 68 35 = (hres D p).1 ∧ m'.1 68 36 = (hres D p).2 := by
  have hWW := CS_WW hS
  have ha1 : ((1 <<< (((m.1 68 1) * (m.1 68 1)) &&& 31)) - 1) &&& ((m.1 68 2) ^^^ (-1)) = Int32.ofNat (hA D) := by
    have hp1 : 0 < 2 ^ (dW D * dW D) := Nat.pow_pos (by decide)
    have hlt : 2 ^ (dW D * dW D) < 2147483648 := Nat.lt_of_le_of_lt (Nat.pow_le_pow_right (by decide) hWW) (show 2 ^ 25 < 2147483648 by decide)
    rw [WWm c, n_sh _ (by omega), c.1.2.2.1, show Int32.ofNat (2 ^ (dW D * dW D)) - 1 = Int32.ofNat (2 ^ (dW D * dW D) - 1) from i_mi (b := 1) hp1 hlt, n_ad]
    rfl
  have e26 := wn_eq (fM_layHold_l26 (Int32.ofNat p) m (Int32.ofNat (hA D))) (fun i => (Int32.ofNat i, vF m 90 (fun s => Int32.ofNat (hh2 D p s)) i)) (dW D * dW D) (vF m 90 (fun s => Int32.ofNat (hh2 D p s)) (dW D * dW D)) (by omega) (fun i hi => by
    have ci : CM D (vF m 90 (fun s => Int32.ofNat (hh2 D p s)) i) := CM_sc (sc_F (sc_r m) (fun _ => rfl)) c
    show fM_layHold_l26 _ _ _ (_, _) = _
    rw [fM_layHold_l26, WWm c, if_pos ((i_lt (by omega) (by omega)).mpr hi), g_sees hS ci hp hi, zb1_s, zI_n (by omega) (by omega), zg_t, i_tn (by omega), inc, n_sh _ (by omega), n_or, n_and, show (VV D p i ||| 2 ^ i) &&& hA D = hh2 D p i from rfl, vF_s (g := fun s => Int32.ofNat (hh2 D p s))]) (by
    show fM_layHold_l26 _ _ _ (_, _) = _
    rw [fM_layHold_l26, WWm c, if_neg (fun q => by have := (i_lt (by omega) (by omega)).mp q; omega)])
  rw [vF_0] at e26
  have e26' : whileN zFU (fM_layHold_l26 (Int32.ofNat p) m (Int32.ofNat (hA D))) (0, m) = some (vF m 90 (fun s => Int32.ofNat (hh2 D p s)) (dW D * dW D)) := e26
  have hc0 : HC D (hh2 D p) (vF m 90 (fun s => Int32.ofNat (hh2 D p s)) (dW D * dW D)) := ⟨CM_sc (sc_F (sc_r m) (fun _ => rfl)) c, fun s hs => vF_e _ _ _ hs⟩
  have hc1 := HC_w (HC_w hc0 35 (-5) rfl) 36 (-5) rfl
  generalize hma : wI (wI (vF m 90 (fun s => Int32.ofNat (hh2 D p s)) (dW D * dW D)) 68 35 (-5)) 68 36 (-5) = ma at hc1
  have sca : sc m ma := by rw [← hma]; exact sc_w (sc_w (sc_F (sc_r m) (fun _ => rfl)) rfl) rfl
  have st0 : ∀ k, ST k none ma := fun k => by rw [← hma]; exact ⟨rfl, rfl⟩
  obtain ⟨m9, e1, s1, c1, sc1⟩ := hold_1 hS c (st0 1) hc1
  have e1' : whileN zFU (fM_layHold_l74 m (Int32.ofNat (hA D))) (0, ma) = some m9 := e1
  have hb : fM_layHold (Int32.ofNat p) m = zb1 (whileN zFU (fM_layHold_l115 m (Int32.ofNat (hA D))) (0, m9)) (fun m13 => if m13.1 68 35 < 0 then fM_layHold_j210 m (Int32.ofNat (hA D)) m13 1 else fM_layHold_j210 m (Int32.ofNat (hA D)) m13 0) := by
    rw [fM_layHold, ha1, zlet, e26', zb1_s, hma, e1', zb1_s]
  have tail : ∀ M k S, ST k (some S) M → k < 100 → fM_layHold_j210 m (Int32.ofNat (hA D)) M 0 = some M := fun M k S hst hk => by
    rw [fM_layHold_j210, skip_3 hS c, zb1_s, hst.1, if_neg (i_lt0 (by omega)), fM_layHold_j346, skip_4 hS c, zb1_s]
  rw [hb]
  have s1' : ST 1 (Rk D p 1) m9 := s1
  unfold hres
  cases h1 : Rk D p 1 with
  | some S =>
    rw [h1] at s1'
    rw [skip_2 hS c s1' (by decide), zb1_s, s1'.1, if_neg (by decide), tail m9 1 S s1' (by decide)]
    exact ⟨m9, rfl, sc_t sca sc1, s1'.1, s1'.2.1⟩
  | none =>
    rw [h1] at s1'
    obtain ⟨m13, e2, s2, c2, sc2⟩ := hold_2 hS c (show ST 2 none m9 from s1') c1
    have e2' : whileN zFU (fM_layHold_l115 m (Int32.ofNat (hA D))) (0, m9) = some m13 := e2
    have s2' : ST 2 (Rk D p 2) m13 := s2
    rw [e2', zb1_s]
    cases h2 : Rk D p 2 with
    | some S =>
      rw [h2] at s2'
      rw [s2'.1, if_neg (by decide), tail m13 2 S s2' (by decide)]
      exact ⟨m13, rfl, sc_t (sc_t sca sc1) sc2, s2'.1, s2'.2.1⟩
    | none =>
      rw [h2] at s2'
      obtain ⟨m18, e3, s3, c3, sc3⟩ := hold_3 hS c (show ST 3 none m13 from s2') c2
      have e3' : whileN zFU (fM_layHold_l215 m (Int32.ofNat (hA D)) 1) (0, m13) = some m18 := e3
      have s3' : ST 3 (Rk D p 3) m18 := s3
      rw [s2'.1, if_pos (by decide), fM_layHold_j210, e3', zb1_s]
      cases h3 : Rk D p 3 with
      | some S =>
        rw [h3] at s3'
        rw [s3'.1, if_neg (by decide), fM_layHold_j346, skip_4 hS c, zb1_s]
        exact ⟨m18, rfl, sc_t (sc_t (sc_t sca sc1) sc2) sc3, s3'.1, s3'.2.1⟩
      | none =>
        rw [h3] at s3'
        obtain ⟨m22, e4, s4, c4, sc4⟩ := hold_4 hS c (show ST 4 none m18 from s3') c3
        have e4' : whileN zFU (fM_layHold_l351 m (Int32.ofNat (hA D)) 1) (0, m18) = some m22 := e4
        have s4' : ST 4 (Rk D p 4) m22 := s4
        rw [s3'.1, if_pos (by decide), fM_layHold_j346, e4', zb1_s]
        refine ⟨m22, rfl, sc_t (sc_t (sc_t (sc_t sca sc1) sc2) sc3) sc4, ?_, ?_⟩
        · cases h4 : Rk D p 4 with
          | some S => rw [h4] at s4'; exact s4'.1
          | none => rw [h4] at s4'; exact s4'.1
        · cases h4 : Rk D p 4 with
          | some S => rw [h4] at s4'; exact s4'.2.1
          | none => rw [h4] at s4'; exact s4'.2
/-! the class -/
def mxf (c : Nat → Nat) : Nat → Nat
  | 0 => 0
  | n + 1 => if mxf c n < c n then c n else mxf c n
theorem mxf_ge {c : Nat → Nat} : ∀ (n a : Nat), a < n → c a ≤ mxf c n
  | 0, a, h => absurd h (Nat.not_lt_zero a)
  | n + 1, a, h => by
    rw [mxf]
    by_cases q : a = n
    · subst q
      split <;> omega
    · have := mxf_ge (c := c) n a (by omega)
      split <;> omega
theorem mxf_le {c : Nat → Nat} {b : Nat} : ∀ (n : Nat), (∀ a, a < n → c a ≤ b) → mxf c n ≤ b
  | 0, _ => Nat.zero_le _
  | n + 1, h => by
    rw [mxf]
    split
    · exact h n (by omega)
    · exact mxf_le n (fun a ha => h a (by omega))
def ow (D : Dt) (p s : Nat) : Nat := pw D p s ||| 2 ^ s
theorem ow_lt {D : Dt} (hS : CS D) (p : Nat) {s : Nat} (hs : s < 25) : ow D p s < 2 ^ 25 := or25 (w25 hS (pw_lt hS p s)) (two_lt hs)
theorem Cs_c {F : Nat → Bool} {h h' : Nat → Nat} (e : ∀ a, F a = true → h a = h' a) : ∀ (k B S U : Nat), Cs F h k B S U = Cs F h' k B S U
  | 0, B, S, U => rfl
  | k + 1, B, S, U => by
    rw [Cs, Cs]
    refine fl_c _ _ fun a _ _ => ?_
    by_cases q : F a = true
    · rw [if_pos q, if_pos q, e a q, Cs_c e k]
    · rw [if_neg q, if_neg q]
theorem pc_mono {a b : Nat} (h : ∀ i, a.testBit i = true → b.testBit i = true) : pc a ≤ pc b := fb_ct_sub fun k _ e => h k e
theorem O_hold_ok : O_hold INV := fun m h x1 x2 => by
  obtain ⟨D, hS, cN, cM⟩ := pic h
  have hWW := CS_WW hS
  have h4 : 2 * 2 ≤ dW D * dW D := Nat.mul_le_mul hS.2.1 hS.2.1
  rcases i_cases x1 with hx | ⟨p, hp, rfl⟩
  · exact ⟨-1, m, m, by rw [fN_hold, (isPlan_neg hx).1]; rfl, by rw [fM_hold, (isPlan_neg hx).2]; rfl, h⟩
  by_cases h1 : p < dn D
  · rcases i_cases x2 with hx | ⟨w, hw, rfl⟩
    · exact ⟨-1, m, m, by rw [fN_hold, g_plan hS cN hp, if_pos h1, zb1_s, if_neg (by decide), if_pos hx], by rw [fM_hold, g_planM hS cM hp, if_pos h1, zb1_s, if_neg (by decide), in_neg (by decide) hx]; rfl, h⟩
    have k1 : ((1 : Int32) < Int32.ofNat w) ↔ 1 < w := i_lt (a := 1) (by decide) hw
    by_cases h2 : 1 < w
    · exact ⟨-1, m, m, by rw [fN_hold, g_plan hS cN hp, if_pos h1, zb1_s, if_neg (by decide), if_neg (i_lt0 hw), if_pos (k1.mpr h2)], by rw [fM_hold, g_planM hS cM hp, if_pos h1, zb1_s, if_neg (by decide), in_l 0 1 0 1 hw rfl rfl (by decide) (by decide), if_neg (by omega)]; rfl, h⟩
    have k1n : ¬ (1 : Int32) < Int32.ofNat w := fun z => h2 (k1.mp z)
    have win : fM_in (Int32.ofNat w) 0 1 = some 1 := by rw [in_l 0 1 0 1 hw rfl rfl (by decide) (by decide), if_pos (by omega)]
    have eown := wn_eq (fSi_addOwnSquares_l2 46) (fun i => (Int32.ofNat i, vF (vF m 47 (fun s => Int32.ofNat (pw D p s)) 25) 47 (fun s => Int32.ofNat (ow D p s)) i)) 25 (vF (vF m 47 (fun s => Int32.ofNat (pw D p s)) 25) 47 (fun s => Int32.ofNat (ow D p s)) 25) (by decide) (fun i hi => by
      have c1 : (vF (vF m 47 (fun s => Int32.ofNat (pw D p s)) 25) 47 (fun s => Int32.ofNat (ow D p s)) i).1 47 i = Int32.ofNat (pw D p i) := by
        rw [vF_o _ _ (by omega), vF_e _ _ _ hi]
      show fSi_addOwnSquares_l2 46 (_, _) = _
      rw [fSi_addOwnSquares_l2, show zrf 46 0 = 47 from rfl, show zln 47 = 25 from rfl, if_pos ((i_lt (by omega) (by decide)).mpr hi), zI_n (by omega) hi, zg_t, zg_t, i_tn (by omega), c1, n_sh _ (by omega), n_or, inc, show pw D p i ||| 2 ^ i = ow D p i from rfl, vF_s (g := fun s => Int32.ofNat (ow D p s))]) (by
      show fSi_addOwnSquares_l2 46 (_, _) = _
      rw [fSi_addOwnSquares_l2, if_neg (by decide)])
    rw [vF_0, vF_w] at eown
    have eown' : fSi_addOwnSquares 46 (vF m 47 (fun s => Int32.ofNat (pw D p s)) 25) = some (vF m 47 (fun s => Int32.ofNat (ow D p s)) 25) := by
      rw [fSi_addOwnSquares]
      exact congrArg (fun z => zb1 z (fun r => some r)) eown
    generalize hm7 : vF m 47 (fun s => Int32.ofNat (ow D p s)) 25 = m7 at eown'
    have sc7 : sc m m7 := by rw [← hm7]; exact sc_F (sc_r m) (fun _ => rfl)
    have c7 := CN_sc hS sc7 cN
    have h47 : ∀ s, s < 25 → m7.1 47 s = Int32.ofNat (ow D p s) := fun s hs => by rw [← hm7]; exact vF_e _ _ _ hs
    have emost : fSi_mostSeen 46 m7 = some (Int32.ofNat (mxf (fun s => pc (ow D p s)) 25)) := by
      have e := wn_eq (fSi_mostSeen_l4 46 m7) (fun i => (Int32.ofNat (mxf (fun s => pc (ow D p s)) i), Int32.ofNat i)) 25 (Int32.ofNat (mxf (fun s => pc (ow D p s)) 25)) (by decide) (fun i hi => by
        have hb := mxf_le (c := fun s => pc (ow D p s)) (b := 32) i (fun a _ => pc_le _)
        show fSi_mostSeen_l4 46 m7 (_, _) = _
        rw [fSi_mostSeen_l4, show zrf 46 0 = 47 from rfl, show zln 47 = 25 from rfl, if_pos ((i_lt (by omega) (by decide)).mpr hi), zI_n (by omega) hi, zg_t, i_tn (by omega), h47 i hi, n_bc (p25 (ow_lt hS p hi)), zb1_s, fJ_max, mxf, inc]
        by_cases q : mxf (fun s => pc (ow D p s)) i < pc (ow D p i)
        · rw [if_pos ((i_lt (by omega) (pc32 _)).mpr q), if_pos q]
          rfl
        · rw [if_neg (fun z => q ((i_lt (by omega) (pc32 _)).mp z)), if_neg q]
          rfl) (by
        show fSi_mostSeen_l4 46 m7 (_, _) = _
        rw [fSi_mostSeen_l4, if_neg (by decide)])
      rw [fSi_mostSeen]
      exact congrArg (fun z => zb1 z (fun r => some r)) e
    have hone : mxf (fun s => pc (ow D p s)) 25 ≤ 25 := mxf_le 25 (fun a ha => pc_25 (ow_lt hS p ha))
    have hFe : (fun a => Fb D a && decide (a < 25)) = Fb D := funext fun a => by
      cases e : Fb D a
      · rfl
      · rw [Fb, fr_t] at e
        have := of_decide_eq_true (Bool.and_eq_true _ _ |>.mp e).1
        rw [decide_eq_true (by omega)]
        rfl
    have hhe : ∀ a, Fb D a = true → ow D p a &&& hA D = hh2 D p a := fun a ha => by
      rw [Fb, fr_t] at ha
      have := of_decide_eq_true (Bool.and_eq_true _ _ |>.mp ha).1
      rw [ow, pw, if_pos this]
      rfl
    have hlh : ∀ k, k ≤ 3 → fN_leastHolders 8 47 (Int32.ofNat (fr D)) (Int32.ofNat (hA D)) (Int32.ofNat (mxf (fun s => pc (ow D p s)) 25)) (Int32.ofNat 25) (Int32.ofNat (k + 1)) m7 = some (o1 (Rk D p (k + 1))) := fun k hk => by
      have e := lh_ok (F := Fb D) (FN := fr D) (all := hA D) (hh := ow D p) (h := fun a => ow D p a &&& hA D) (m := m7) (fun _ _ => rfl) h47 (hA_lt hS) (fun _ _ => rfl) (fun a ha => Nat.le_trans (pc_mono (fun i hi => by rw [Nat.testBit_and] at hi; exact (Bool.and_eq_true _ _ |>.mp hi).1)) (mxf_ge (c := fun s => pc (ow D p s)) 25 a ha)) hone (k + 1) 25 0 8 (by omega) (by omega) (Nat.le_refl _) (fun i hi => by rw [Nat.zero_testBit] at hi; cases hi)
      have h0 : ad (hA D) 0 = hA D := by
        apply Nat.eq_of_testBit_eq
        intro i
        rw [ad_t, Nat.zero_testBit]
        simp
      rw [h0, hFe, Cs_c hhe, Cs_w (n := dW D * dW D) hWW (fun a ha => by rw [Fb, fr_t, decide_eq_false (by omega)]; rfl)] at e
      exact e
    have hS25 : ∀ k S, Rk D p (k + 1) = some S → S < 2147483648 := fun k S e => by
      obtain ⟨z, z1, z2, -⟩ := fh_mem e
      have := Cs_lt (k + 1) (dW D * dW D) 0 0 z z1
      have h2 : 2 ^ (dW D * dW D) ≤ 2 ^ 25 := Nat.pow_le_pow_right (by decide) hWW
      rw [z2] at this
      omega
    have l61 : ∀ k, k ≤ 3 → fN_hold_l61 (dg D) m7 (Int32.ofNat (al D)) (Int32.ofNat (mxf (fun s => pc (ow D p s)) 25)) (Int32.ofNat (k + 1)) = match Rk D p (k + 1) with
        | some S => some (.inr (.inl (Int32.ofNat (k + 1), Int32.ofNat S)))
        | none => some (.inl (Int32.ofNat (k + 2))) := fun k hk => by
      have e := hlh k hk
      have e' : fN_leastHolders 8 47 (Int32.ofNat (fr D)) (Int32.ofNat (hA D)) (Int32.ofNat (mxf (fun s => pc (ow D p s)) 25)) 25 (Int32.ofNat (k + 1)) m7 = some (o1 (Rk D p (k + 1))) := e
      rw [fN_hold_l61, if_neg (show ¬ (4 : Int32) < Int32.ofNat (k + 1) from fun z => by have := (i_lt (a := 4) (by decide) (by omega)).mp z; omega), g_free hS c7, zb1_s, c7.2.1.2.2.1, n_ad, show ad (al D) (dH D) = hA D from rfl, e', zb1_s]
      cases hr : Rk D p (k + 1) with
      | some S =>
        have := hS25 k S hr
        rw [show o1 (some S) = Int32.ofNat S from rfl, if_neg (i_lt0 this)]
      | none =>
        rw [show o1 none = (-1 : Int32) from rfl, if_pos (by decide), inc]
    have sN : fN_hold (Int32.ofNat p) (Int32.ofNat w) m = some (if w = 0 then (hres D p).1 else (hres D p).2, m7) := by
      rw [fN_hold, g_plan hS cN hp, if_pos h1, zb1_s, if_neg (by decide), if_neg (i_lt0 hw), if_neg k1n, g_ground hS cN, zb1_s, g_byPlan hS cN h1, zb1_s, eown', zb1_s, g_all hS c7, zb1_s, emost, zb1_s]
      have hz : (Int32.ofNat w = 0) = (w = 0) := n_eq0 hw
      have fin : ∀ (k : Nat) (S : Nat), k ≤ 3 → (∀ j, j < k → Rk D p (j + 1) = none) → Rk D p (k + 1) = some S → hres D p = (Int32.ofNat (k + 1), Int32.ofNat S) → zb1 (whileN zFU (fN_hold_l61 (dg D) m7 (Int32.ofNat (al D)) (Int32.ofNat (mxf (fun s => pc (ow D p s)) 25))) 1) (fun x => match x with | .inl (a14, a15) => if Int32.ofNat w = 0 then some (a14, m7) else some (a15, m7) | .inr r => some r) = some (if w = 0 then (hres D p).1 else (hres D p).2, m7) := fun k S hk hj hr hh => by
        have e := wn_eq (fN_hold_l61 (dg D) m7 (Int32.ofNat (al D)) (Int32.ofNat (mxf (fun s => pc (ow D p s)) 25))) (fun j => Int32.ofNat (j + 1)) k (.inl (Int32.ofNat (k + 1), Int32.ofNat S)) (by omega) (fun j hjk => by rw [l61 j (by omega), hj j hjk]) (by rw [l61 k hk, hr])
        have e' : whileN zFU (fN_hold_l61 (dg D) m7 (Int32.ofNat (al D)) (Int32.ofNat (mxf (fun s => pc (ow D p s)) 25))) 1 = some (.inl (Int32.ofNat (k + 1), Int32.ofNat S)) := e
        rw [e', zb1_s, hh]
        show (if Int32.ofNat w = 0 then some (Int32.ofNat (k + 1), m7) else some (Int32.ofNat S, m7)) = _
        simp only [hz]
        by_cases q : w = 0
        · rw [if_pos q, if_pos q]
        · rw [if_neg q, if_neg q]
      cases r1 : Rk D p 1 with
      | some S => exact fin 0 S (by decide) (fun j hj => absurd hj (Nat.not_lt_zero j)) r1 (by unfold hres; rw [r1]; rfl)
      | none =>
        cases r2 : Rk D p 2 with
        | some S => exact fin 1 S (by decide) (fun j hj => by rw [show j = 0 by omega]; exact r1) r2 (by unfold hres; rw [r1, r2]; rfl)
        | none =>
          cases r3 : Rk D p 3 with
          | some S => exact fin 2 S (by decide) (fun j hj => by
            rcases (show j = 0 ∨ j = 1 by omega) with rfl | rfl
            · exact r1
            · exact r2) r3 (by unfold hres; rw [r1, r2, r3]; rfl)
          | none =>
            cases r4 : Rk D p 4 with
            | some S => exact fin 3 S (by decide) (fun j hj => by
              rcases (show j = 0 ∨ j = 1 ∨ j = 2 by omega) with rfl | rfl | rfl
              · exact r1
              · exact r2
              · exact r3) r4 (by unfold hres; rw [r1, r2, r3, r4]; rfl)
            | none =>
              have hh : hres D p = (-5, -5) := by unfold hres; rw [r1, r2, r3, r4]
              have e := wn_eq (fN_hold_l61 (dg D) m7 (Int32.ofNat (al D)) (Int32.ofNat (mxf (fun s => pc (ow D p s)) 25))) (fun j => Int32.ofNat (j + 1)) 4 (.inr (-5, m7)) (by omega) (fun j hjk => by
                rw [l61 j (by omega)]
                rcases (show j = 0 ∨ j = 1 ∨ j = 2 ∨ j = 3 by omega) with rfl | rfl | rfl | rfl
                · rw [r1]
                · rw [r2]
                · rw [r3]
                · rw [r4]) (by rw [fN_hold_l61, if_pos (by decide)])
              have e' : whileN zFU (fN_hold_l61 (dg D) m7 (Int32.ofNat (al D)) (Int32.ofNat (mxf (fun s => pc (ow D p s)) 25))) 1 = some (.inr (-5, m7)) := e
              rw [e', zb1_s, hh]
              by_cases q : w = 0
              · rw [if_pos q]
              · rw [if_neg q]
    obtain ⟨m', e1, e2, e3, e4⟩ := layHold_ok hS (CM_sc sc7 cM) h1
    refine ⟨_, m7, m', sN, ?_, INV_sc (sc_t sc7 e2) h⟩
    have hz : (Int32.ofNat w = 0) = (w = 0) := n_eq0 hw
    rw [fM_hold, g_planM hS (CM_sc sc7 cM) hp, if_pos h1, zb1_s, if_neg (by decide), win, zb1_s, if_neg (by decide), e1, zb1_s, e3, e4]
    simp only [hz]
    by_cases q : w = 0
    · rw [if_pos q, if_pos q]
    · rw [if_neg q, if_neg q]
  · exact ⟨-1, m, m, by rw [fN_hold, g_plan hS cN hp, if_neg h1]; rfl, by rw [fM_hold, g_planM hS cM hp, if_neg h1]; rfl, h⟩
