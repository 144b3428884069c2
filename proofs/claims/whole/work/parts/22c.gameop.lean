theorem gn_a (D : Dt) (p s n a : Nat) (h : a < n) : (gn D p s n a).testBit a = true := by
  rw [gn_t, decide_eq_true h, decide_eq_true rfl]
  rfl
theorem O_game_ok : O_game INV := fun m h x1 => by
  obtain ⟨D, hS, cN, cM⟩ := pic h
  rcases i_cases x1 with hx | ⟨p, hp, rfl⟩
  · exact ⟨-1, m, m, by rw [fN_game, (isPlan_neg hx).1]; rfl, by rw [fM_game, (isPlan_neg hx).2]; rfl, h⟩
  by_cases h1 : p < dn D
  · have hsc := fM2_sc D p m
    have hs25 := ft_lt D p
    have hpc : pc (ft D p) = c25t (ft D p) := pc_n hs25 (by decide)
    have hle : c25t (ft D p) ≤ 25 := fb_ct_le _ _
    have k9 : ((9 : Int32) < Int32.ofNat (c25t (ft D p))) ↔ 9 < c25t (ft D p) := i_lt (a := 9) (by decide) (by omega)
    have preN : fN_game (Int32.ofNat p) m = if (9 : Int32) < Int32.ofNat (c25t (ft D p)) then some (-9, fM2 D p m) else zb1 (fSi_join 46 (Int32.ofNat (ft D p)) (fM2 D p m)) (fun m7 => zb2 (fGa_firstWins (Int32.ofNat (ft D p)) 48 m7) (fun r8 m9 => if r8 = 0 then some (0, m9) else some (1, m9))) := by
      rw [fN_game, g_plan hS cN hp, if_pos h1, zb1_s, if_neg (by decide), g_fit hS cN h1, zb2_s, n_bc (p25 hs25), zb1_s, hpc]
    have preM : ∀ M, CM D M → fM_game (Int32.ofNat p) M = if (9 : Int32) < Int32.ofNat (c25t (ft D p)) then some ((-9 : Int32), M) else zb1 (fM_layBad (Int32.ofNat p) M) (fun m7 => zb1 (whileN zFU fM_game_l42 (0, Int32.ofNat (ft D p), m7)) (fun m12 => zb1 (whileN zFU (fM_game_l78 (Int32.ofNat (c25t (ft D p)))) (0, m12)) (fun m16 => zb1 (whileN zFU (fM_game_l163 (Int32.ofNat (c25t (ft D p)))) (0, m16)) (fun m20 => zg (zI ((1 <<< (Int32.ofNat (c25t (ft D p)) &&& 31)) - 1) 512) (if m20.1 94 ((1 <<< (Int32.ofNat (c25t (ft D p)) &&& 31)) - 1).toNatClampNeg = 0 then some ((0 : Int32), m20) else some (1, m20)))))) := fun M cM => by
      rw [fM_game, g_planM hS cM hp, if_pos h1, zb1_s, if_neg (by decide), g_moreM hS cM h1, zb1_s, n_ones (p25 hs25), zb1_s, hpc]
    generalize hs : ft D p = s at *
    generalize hn : c25t s = n at *
    by_cases h9 : 9 < n
    · rw [if_pos (k9.mpr h9)] at preN
      exact ⟨-9, fM2 D p m, fM2 D p m, preN, by rw [preM _ (CM_sc hsc cM), if_pos (k9.mpr h9)], INV_sc hsc h⟩
    · rw [if_neg (fun z => h9 (k9.mp z))] at preN
      have h9' : n ≤ 9 := by omega
      have hp9 : 2 ^ n ≤ 2 ^ 9 := Nat.pow_le_pow_right (by decide) h9'
      have hp1 : 0 < 2 ^ n := Nat.pow_pos (by decide)
      have hone : (1 <<< (Int32.ofNat n &&& 31)) - 1 = Int32.ofNat (2 ^ n - 1) := by
        rw [n_sh n (by omega)]
        exact i_mi (b := 1) hp1 (by omega)
      have hg : ∀ a, a < n → (gn D p s n a).testBit a = true := gn_a D p s n
      have hV : SV 46 47 48 (pw D p) (fM2 D p m) := SV_plan hS p _
      have hj := v_join hV hs25
      generalize hm7 : vF (fM2 D p m) 48 (fun t => Int32.ofNat (jn (pw D p) s t)) 25 = m7 at hj
      have sc7 : sc m m7 := by rw [← hm7]; exact sc_F hsc (fun _ => rfl)
      have h48 : ∀ t, t < 25 → m7.1 48 t = Int32.ofNat (jn (pw D p) s t) := fun t ht => by rw [← hm7]; exact vF_e _ _ _ ht
      have hga : fGa_gather (Int32.ofNat s) m7 = some (Int32.ofNat n, vF m7 55 (fun k => Int32.ofNat (sp s k)) n) := by
        have := gather_ok (s := s) (by omega) m7
        rw [hn] at this
        exact this
      have hgo : whileN zFU (fGa_firstWins_l9 48 (Int32.ofNat n)) (0, vF m7 55 (fun k => Int32.ofNat (sp s k)) n) = some (vF (vF m7 55 (fun k => Int32.ofNat (sp s k)) n) 56 (fun a => Int32.ofNat (gn D p s n a)) n) := by
        have e := wn_eq (fGa_firstWins_l9 48 (Int32.ofNat n)) (fun a => (Int32.ofNat a, vF (vF m7 55 (fun k => Int32.ofNat (sp s k)) n) 56 (fun a => Int32.ofNat (gn D p s n a)) a)) n (vF (vF m7 55 (fun k => Int32.ofNat (sp s k)) n) 56 (fun a => Int32.ofNat (gn D p s n a)) n) (by omega) (fun a ha => by
          have c55 : ∀ k, k < n → (vF (vF m7 55 (fun k => Int32.ofNat (sp s k)) n) 56 (fun a => Int32.ofNat (gn D p s n a)) a).1 55 k = Int32.ofNat (sp s k) := fun k hk => vF_e m7 55 (fun k => Int32.ofNat (sp s k)) hk
          have c48 : ∀ t, t < 25 → (vF (vF m7 55 (fun k => Int32.ofNat (sp s k)) n) 56 (fun a => Int32.ofNat (gn D p s n a)) a).1 48 t = Int32.ofNat (jn (pw D p) s t) := fun t ht => h48 t ht
          show fGa_firstWins_l9 _ _ (_, _) = _
          rw [fGa_firstWins_l9, if_pos ((i_lt (by omega) (by omega)).mpr ha), if_pos (show Int32.ofNat a < 9 from (i_lt (b := 9) (by omega) (by decide)).mpr (by omega)), if_pos (show Int32.ofNat a < 9 from (i_lt (b := 9) (by omega) (by decide)).mpr (by omega)), zI_n (by omega) (by omega), zg_t, i_tn (by omega), c55 a ha, gone_ok hn.symm h9' c55 c48 ha, zb1_s, zg_t, inc, vF_s (g := fun a => Int32.ofNat (gn D p s n a))]) (by
          show fGa_firstWins_l9 _ _ (_, _) = _
          rw [fGa_firstWins_l9, if_neg (fun q => by have := (i_lt (by omega) (by omega)).mp q; omega)])
        rw [vF_0] at e
        exact e
      generalize hm8 : vF (vF m7 55 (fun k => Int32.ofNat (sp s k)) n) 56 (fun a => Int32.ofNat (gn D p s n a)) n = m8 at hgo
      have sc8 : sc m m8 := by rw [← hm8]; exact sc_F (sc_F sc7 (fun _ => rfl)) (fun _ => rfl)
      have h56 : ∀ a, a < n → m8.1 56 a = Int32.ofNat (gn D p s n a) := fun a ha => by rw [← hm8]; exact vF_e _ _ _ ha
      have hwN := winsN_ok (g := gn D p s n) h9' hg h56
      generalize hm9 : vF m8 57 (fun x => bI (wv (gn D p s n) n x)) (2 ^ n) = m9 at hwN
      have sc9 : sc m m9 := by rw [← hm9]; exact sc_F sc8 (fun _ => rfl)
      have h57 : m9.1 57 (2 ^ n - 1) = bI (wv (gn D p s n) n (2 ^ n - 1)) := by rw [← hm9]; exact vF_e _ _ _ (by omega)
      have cM9 := CM_sc sc9 cM
      have hbad := g_bad hS cM9 h1
      generalize hk1 : vF m9 85 (fun s => Int32.ofNat (bdn D p s)) 25 = k1 at hbad
      have sck1 : sc m k1 := by rw [← hk1]; exact sc_F sc9 (fun _ => rfl)
      have h85 : ∀ t, t < 25 → k1.1 85 t = Int32.ofNat (bdn D p t) := fun t ht => by rw [← hk1]; exact vF_e _ _ _ ht
      have hgM : whileN zFU fM_game_l42 (0, Int32.ofNat s, k1) = some (vF k1 92 (fun k => Int32.ofNat (sp s k)) n) := by
        have := gatherM_ok (s := s) hs25 (by omega) k1
        rw [hn] at this
        exact this
      generalize hk2 : vF k1 92 (fun k => Int32.ofNat (sp s k)) n = k2 at hgM
      have sck2 : sc m k2 := by rw [← hk2]; exact sc_F sck1 (fun _ => rfl)
      have hgoM := goneM_ok (D := D) (p := p) (s := s) (n := n) (m := k2) hn.symm h9' (fun k hk => by rw [← hk2]; exact vF_e _ _ _ hk) (fun t ht => by rw [← hk2]; exact h85 t ht)
      generalize hk3 : vF k2 93 (fun a => Int32.ofNat (gn D p s n a)) n = k3 at hgoM
      have sck3 : sc m k3 := by rw [← hk3]; exact sc_F sck2 (fun _ => rfl)
      have hwM := winsM_ok (g := gn D p s n) (m := k3) h9' hg (fun a ha => by rw [← hk3]; exact vF_e _ _ _ ha)
      generalize hk4 : vF k3 94 (fun x => bI (wv (gn D p s n) n x)) (2 ^ n) = k4 at hwM
      have sck4 : sc m k4 := by rw [← hk4]; exact sc_F sck3 (fun _ => rfl)
      have h94 : k4.1 94 (2 ^ n - 1) = bI (wv (gn D p s n) n (2 ^ n - 1)) := by rw [← hk4]; exact vF_e _ _ _ (by omega)
      have h512 : Int32.ofNat (2 ^ n - 1) < 512 := (i_lt (b := 512) (by omega) (by decide)).mpr (by omega)
      have hfw : fGa_firstWins (Int32.ofNat s) 48 m7 = some (bI (wv (gn D p s n) n (2 ^ n - 1)), m9) := by
        rw [fGa_firstWins, hga, zb2_s, hgo, zb1_s, hwN, zb1_s, hone, if_pos h512, zI_n (by omega) (by omega), zg_t, i_tn (by omega), h57]
        cases wv (gn D p s n) n (2 ^ n - 1) <;> rfl
      refine ⟨bI (wv (gn D p s n) n (2 ^ n - 1)), m9, k4, ?_, ?_, INV_sc sck4 h⟩
      · rw [preN, hj, zb1_s, hfw, zb2_s]
        cases wv (gn D p s n) n (2 ^ n - 1) <;> rfl
      · rw [preM m9 cM9, if_neg (fun z => h9 (k9.mp z)), hbad, zb1_s, hgM, zb1_s, hgoM, zb1_s, hwM, zb1_s, hone, zI_n (by omega) (by omega), zg_t, i_tn (by omega), h94]
        cases wv (gn D p s n) n (2 ^ n - 1) <;> rfl
  · exact ⟨-1, m, m, by rw [fN_game, g_plan hS cN hp, if_neg h1]; rfl, by rw [fM_game, g_planM hS cM hp, if_neg h1]; rfl, h⟩
