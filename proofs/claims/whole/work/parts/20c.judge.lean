theorem lgz0 : lg_cmp 0 0 = 0 := by decide
theorem lgz1 : ¬ lg_cmp 1 0 = 0 := by decide
theorem lgz2 : ¬ lg_cmp 0 1 = 0 := by decide
theorem lgz3 : lg_cmp 1 1 = 0 := by decide
theorem O_judge_ok : O_judge INV := fun m h x1 x2 => by
  obtain ⟨D, hS, cN, cM⟩ := pic h
  have hWW := CS_WW hS
  have hW4 : 2 * 2 ≤ dW D * dW D := Nat.mul_le_mul hS.2.1 hS.2.1
  obtain ⟨y, hN, hK, hB, hA, hT, hR, hP, hO, hY⟩ := h
  rw [fN_judge, fM_judge]
  rcases i_cases x1 with hx | ⟨t, ht, rfl⟩
  · rw [(tape_neg hx).1, (tape_neg hx).2]
    exact ⟨-1, rfl, rfl⟩
  · rw [(tape_nat ht).1, (tape_nat ht).2]
    by_cases h1 : t < 6
    · obtain ⟨b1, b2, ⟨z, hz, b3, b4⟩, b5, b7⟩ := hP t h1
      have b6 : m.1 66 t = Int32.ofNat z := b2.trans b3
      rw [if_pos h1, zb1_s, zb1_s, if_neg (by decide), if_neg (by decide), fTa_holdsNothing, tp_sort h1, zb1_s, b1, zI_n ht h1, zg_t, i_tn ht, zg_t]
      rcases b4 with ⟨b4, -⟩ | ⟨q, hq, b4⟩
      · rw [b4, if_pos (by decide), zb1_s, if_neg (by decide), if_pos (by decide)]
        refine ⟨100, rfl, ?_⟩
        have e := wn_eq (fM_judge_l34 (Int32.ofNat t) x2 m) (fun i => Int32.ofNat i) 0 (100 : Int32) (by decide) (fun i hi => absurd hi (Nat.not_lt_zero i)) (by
          show fM_judge_l34 _ _ _ (Int32.ofNat 0) = _
          rw [fM_judge_l34, WWm cM, if_pos ((i_lt (by omega) (by omega)).mpr (by omega)), zI_n ht h1, zg_t, i_tn ht, b4, if_pos (by decide)]
          rfl)
        rw [fM_judge_j32]
        exact congrArg (fun z => zb1 z (fun r => some r)) e
      · rw [b4, if_neg (i_ne (by omega) (by decide)), zb1_s, if_pos (by decide), zb1_s, if_neg (i_lt0 (by omega))]
        by_cases h4 : q = 4
        · subst h4
          rw [if_pos (by decide), if_pos (by decide)]
          have hb := b7 b4
          have hneg : x2 < 0 → ∃ r, zb1 (fN_judged (Int32.ofNat t) x2 m) (fun r7 => some r7) = some r ∧ fM_judge_j32 (Int32.ofNat t) x2 m = some r := fun hx => by
            refine ⟨100, ?_, ?_⟩
            · have e := wn_eq (fN_judged_l19 (Int32.ofNat t) x2 m (dg D) (dg D)) (fun i => Int32.ofNat i) 0 (100 : Int32) (by decide) (fun i hi => absurd hi (Nat.not_lt_zero i)) (by
                show fN_judged_l19 _ _ _ _ _ (Int32.ofNat 0) = _
                rw [fN_judged_l19, cN.2.1.1, i_mu, if_pos ((i_lt (by omega) (by omega)).mpr (by omega)), if_pos hx]
                rfl)
              rw [fN_judged, g_ground hS cN, zb1_s, zb1_s]
              exact congrArg (fun z => zb1 (zb1 z (fun r => some r)) (fun r7 => some r7)) e
            · have e := wn_eq (fM_judge_l34 (Int32.ofNat t) x2 m) (fun i => Int32.ofNat i) 0 (100 : Int32) (by decide) (fun i hi => absurd hi (Nat.not_lt_zero i)) (by
                show fM_judge_l34 _ _ _ (Int32.ofNat 0) = _
                rw [fM_judge_l34, WWm cM, if_pos ((i_lt (by omega) (by omega)).mpr (by omega)), zI_n ht h1, zg_t, i_tn ht, b4, if_neg (by decide), if_pos hx]
                rfl)
              rw [fM_judge_j32]
              exact congrArg (fun z => zb1 z (fun r => some r)) e
          rcases i_cases x2 with hx | ⟨i, hi, rfl⟩
          · exact hneg hx
          · obtain ⟨r, w, e1, e2, e3⟩ := wn_two (fN_judged_l19 (Int32.ofNat t) (Int32.ofNat i) m (dg D) (dg D)) (fM_judge_l34 (Int32.ofNat t) (Int32.ofNat i) m) (dW D * dW D) (fun k a b => a = Int32.ofNat k ∧ b = Int32.ofNat k) (fun r w => r = w) (by omega) (fun k a b hk hJ => by
              obtain ⟨rfl, rfl⟩ := hJ
              rw [fN_judged_l19, fM_judge_l34, cN.2.1.1, WWm cM, i_mu]
              by_cases q : k < dW D * dW D
              · have k25 : k < 25 := by omega
                have hc : ((Int32.ofNat z - Int32.ofNat k - 1) < Int32.ofNat i) = (z ≤ i + k) := propext (by
                  have e1 : (1 : Int32).toInt = 1 := rfl
                  have e2 : (Int32.ofNat z - Int32.ofNat k).toInt = (z : Int) - k := by rw [i_sub (by rw [i_ofNat (by omega), i_ofNat (by omega)]; omega) (by rw [i_ofNat (by omega), i_ofNat (by omega)]; omega), i_ofNat (by omega), i_ofNat (by omega)]
                  rw [Int32.lt_iff_toInt_lt, i_sub (by rw [e2, e1]; omega) (by rw [e2, e1]; omega), e2, e1, i_ofNat hi]
                  omega)
                have h100 : 100 + Int32.ofNat k = Int32.ofNat (100 + k) := i_pl 100 k
                rw [if_pos ((i_lt (by omega) (by omega)).mpr q), if_pos ((i_lt (by omega) (by omega)).mpr q), if_neg (i_lt0 hi), zI_n ht h1, zg_t, i_tn ht, b4, if_neg (show ¬ Int32.ofNat 4 < 0 by decide), if_neg (i_lt0 hi), zg_t, b3, h100]
                simp only [hc]
                by_cases q1 : i < 60
                · have h60 : Int32.ofNat i < 60 := (i_lt (b := 60) hi (by decide)).mpr q1
                  rw [if_pos h60, i_pl, tp_place h1 b6 hz (by omega), zb1_s]
                  by_cases q2 : z ≤ i + k
                  · rw [if_pos q2, if_neg (show ¬ i + k < z by omega), if_pos (by decide)]
                    exact Or.inl ⟨_, _, rfl, rfl, rfl⟩
                  · have hget : fTa_get (Int32.ofNat t) (Int32.ofNat (i + k)) m = some (m.2 113 (60 * t + (i + k))) := by
                      rw [fTa_get, (tape_nat ht).1, if_pos h1, zb1_s, if_neg (by decide), tp_place h1 b6 hz (by omega), if_pos (by omega), zb1_s, if_neg (by decide), tp_ix.1, zI_n (by omega) (by omega), zg_t, i_tn (by omega), b5 (i + k) (by omega)]
                    rw [if_neg q2, if_pos (show i + k < z by omega), if_neg (show ¬ (1 : Int32) = 0 by decide), g_man cN k25, zb1_s, tp_ix.2, i_pl, zI_n (by omega) (by omega), zg_t, zI_n (by omega) k25, zg_t, i_tn (by omega), cM.2.2.2.1 k k25, fN_judged_j73, fN_judged_j73, i_pl, hget, zb1_s, zb1_s, fM_judge_j106, fM_judge_j106, tp_ix.2, i_pl, i_tn (by omega), Nat.add_assoc, fN_judged_j99, fN_judged_j99, fN_judged_j99, fN_judged_j99, inc]
                    by_cases z0 : da D k < 0
                    · rw [if_pos z0, if_pos z0]
                      rcases hb (i + k) (by omega) with e | e
                      · rw [e, if_pos lgz0, if_pos lgz0, if_pos (show (0 : Int32) = 0 from rfl)]
                        exact Or.inr ⟨q, _, _, rfl, rfl, rfl, rfl⟩
                      · rw [e, if_neg lgz1, if_neg lgz1, if_neg (show ¬ (0 : Int32) = 1 by decide)]
                        exact Or.inl ⟨_, _, rfl, rfl, rfl⟩
                    · rw [if_neg z0, if_neg z0]
                      rcases hb (i + k) (by omega) with e | e
                      · rw [e, if_pos lgz0, if_neg lgz2, if_neg (show ¬ (1 : Int32) = 0 by decide)]
                        exact Or.inl ⟨_, _, rfl, rfl, rfl⟩
                      · rw [e, if_neg lgz1, if_pos lgz3, if_pos (show (1 : Int32) = 1 from rfl)]
                        exact Or.inr ⟨q, _, _, rfl, rfl, rfl, rfl⟩
                · have h60 : ¬ Int32.ofNat i < 60 := fun w => q1 ((i_lt (b := 60) hi (by decide)).mp w)
                  rw [if_neg h60, if_pos (by omega)]
                  exact Or.inl ⟨_, _, rfl, rfl, rfl⟩
              · rw [if_neg (fun w => q ((i_lt (by omega) (by omega)).mp w)), if_neg (fun w => q ((i_lt (by omega) (by omega)).mp w))]
                exact Or.inl ⟨_, _, rfl, rfl, rfl⟩) (Int32.ofNat 0) (Int32.ofNat 0) ⟨rfl, rfl⟩
            subst e3
            refine ⟨r, ?_, ?_⟩
            · rw [fN_judged, g_ground hS cN, zb1_s, zb1_s]
              exact congrArg (fun z => zb1 (zb1 z (fun r => some r)) (fun r7 => some r7)) e1
            · rw [fM_judge_j32]
              exact congrArg (fun z => zb1 z (fun r => some r)) e2
        · have k4 : ¬ Int32.ofNat q = 4 := fun w => h4 ((i_eq (b := 4) (by omega) (by decide)).mp w)
          rw [if_neg k4, if_neg k4]
          exact ⟨-12, rfl, rfl⟩
    · rw [if_neg h1]
      exact ⟨-1, rfl, rfl⟩
