theorem O_see_ok : O_see INV := fun m h x1 x2 => by
  have h' := h
  obtain ⟨y, ⟨n, W, hPl, hN1, hN2, ⟨hW2, hW5, hN3⟩, hMn, hp5, ⟨b, hb, c1, c2, c3⟩, ⟨b', hb', e1, e2, e3⟩, hp8⟩, hK, hB, hA, hT, hR, hP, hO, hY⟩ := h
  obtain rfl : b' = b := (i_eq (by omega) (by omega)).mp (e2.symm.trans c2)
  have hB' := hB
  obtain ⟨hy, -, -, -, hB5, -⟩ := hB
  rcases i_cases x1 with hx | ⟨s, hs, rfl⟩
  · by_cases h1 : x1 = -1
    · subst h1
      have A : ∀ K : Nat → Nat → Bool, K 11 1 = false → K 13 1 = false → K 68 47 = false → ag K m (wI (wI (wI m 11 1 0) 13 1 0) 68 47 0) := fun K q1 q2 q3 => ag_w (ag_w (ag_w (ag_r m) q1) q2) q3
      exact ⟨0, wI (wI m 11 1 0) 13 1 0, wI (wI (wI m 11 1 0) 13 1 0) 68 47 0, by rw [fN_see, if_pos rfl]; rfl, by rw [fM_see, if_pos rfl], ⟨y, ⟨n, W, hPl, hN1, hN2, ⟨hW2, hW5, hN3⟩, hMn, hp5, ⟨0, by omega, rfl, rfl, fun i hi => absurd hi (Nat.not_lt_zero i)⟩, ⟨0, by omega, rfl, rfl, fun i hi => absurd hi (Nat.not_lt_zero i)⟩, hp8⟩, fKp (A _ rfl rfl rfl) hK, fBo (A _ rfl rfl rfl) hB', fBa (A _ rfl rfl rfl) hA, fTx (A _ rfl rfl rfl) hT, fTr (A _ rfl rfl rfl) hR, fTp (A _ rfl rfl rfl) (fun _ _ => rfl) hP, fKo (A _ rfl rfl rfl) hO, fYd (A _ rfl rfl rfl) hY⟩⟩
    · exact ⟨-1, m, m, by rw [fN_see, if_neg h1, (sq_neg hx hy hN1 hN2).1]; rfl, by rw [fM_see, if_neg h1, (sq_neg hx hy hN1 hN2).2]; rfl, h'⟩
  · have k0 : ¬ Int32.ofNat s = -1 := i_ne hs (by decide)
    by_cases h1 : s < W * W
    · have d1 : fN_isSquare (Int32.ofNat s) m = some 1 := by rw [(sq_nat hs hW5 hy hN1 hN2 hN3 hB5).1, if_pos h1]
      have d2 : fM_isSquare (Int32.ofNat s) m = some 1 := by rw [(sq_nat hs hW5 hy hN1 hN2 hN3 hB5).2, if_pos h1]
      rcases i_cases x2 with hx | ⟨v, hv, rfl⟩
      · exact ⟨-2, m, m, by rw [fN_see, if_neg k0, d1, zb1_s, if_neg (by decide), if_pos hx], by rw [fM_see, if_neg k0, d2, zb1_s, if_neg (by decide), in_neg (by decide) hx]; rfl, h'⟩
      · have k3 : ((25 : Int32) < Int32.ofNat v) ↔ 25 < v := i_lt (a := 25) (by decide) hv
        by_cases h3 : 25 < v
        · exact ⟨-2, m, m, by rw [fN_see, if_neg k0, d1, zb1_s, if_neg (by decide), if_neg (i_lt0 hv), if_pos (k3.mpr h3)], by rw [fM_see, if_neg k0, d2, zb1_s, if_neg (by decide), in_l 0 25 0 25 hv rfl rfl (by decide) (by decide), if_neg (by omega)]; rfl, h'⟩
        · have k4 : ¬ (25 : Int32) < Int32.ofNat v := fun w => h3 (k3.mp w)
          have k5 : fM_in (Int32.ofNat v) 0 25 = some 1 := by rw [in_l 0 25 0 25 hv rfl rfl (by decide) (by decide), if_pos (by omega)]
          by_cases h2 : b' < 8
          · have k1 : ¬ Int32.ofNat b' = 8 := fun q => by have := (i_eq (b := 8) (by omega) (by decide)).mp q; omega
            have e4 : Int32.ofNat b' + 1 = Int32.ofNat (b' + 1) := i_pl b' 1
            generalize hM1 : wI (wI (wI (wI m 12 b' (Int32.ofNat s)) 11 1 (Int32.ofNat (b' + 1))) 14 b' (Int32.ofNat v)) 13 1 (Int32.ofNat (b' + 1)) = m1
            have A : ∀ K : Nat → Nat → Bool, K 12 b' = false → K 11 1 = false → K 14 b' = false → K 13 1 = false → K 99 b' = false → K 100 b' = false → K 68 47 = false → ag K m (wI (wI (wI m1 99 b' (Int32.ofNat s)) 100 b' (Int32.ofNat v)) 68 47 (Int32.ofNat (b' + 1))) := fun K q1 q2 q3 q4 q5 q6 q7 => by
              subst hM1
              exact ag_w (ag_w (ag_w (ag_w (ag_w (ag_w (ag_w (ag_r m) q1) q2) q3) q4) q5) q6) q7
            have hL : (wI (wI (wI m1 99 b' (Int32.ofNat s)) 100 b' (Int32.ofNat v)) 68 47 (Int32.ofNat (b' + 1))).2 = m.2 := by subst hM1; rfl
            refine ⟨Int32.ofNat (b' + 1), m1, wI (wI (wI m1 99 b' (Int32.ofNat s)) 100 b' (Int32.ofNat v)) 68 47 (Int32.ofNat (b' + 1)), ?_, ?_, ⟨y, ⟨n, W, by subst hM1; exact hPl, by subst hM1; exact hN1, by subst hM1; exact hN2, ⟨hW2, hW5, by subst hM1; exact hN3⟩, by subst hM1; exact hMn, by subst hM1; exact hp5, ⟨b' + 1, by omega, by subst hM1; rfl, rfl, fun i hi => ?_⟩, ⟨b' + 1, by omega, by subst hM1; rfl, rfl, fun i hi => ?_⟩, by subst hM1; exact hp8⟩, fKp (A _ rfl rfl rfl rfl rfl rfl rfl) hK, fBo (A _ rfl rfl rfl rfl rfl rfl rfl) hB', fBa (A _ rfl rfl rfl rfl rfl rfl rfl) hA, fTx (A _ rfl rfl rfl rfl rfl rfl rfl) hT, fTr (A _ rfl rfl rfl rfl rfl rfl rfl) hR, fTp (A _ rfl rfl rfl rfl rfl rfl rfl) (fun o _ => by rw [hL]) hP, fKo (A _ rfl rfl rfl rfl rfl rfl rfl) hO, fYd (A _ rfl rfl rfl rfl rfl rfl rfl) hY⟩⟩
            · rw [fN_see, if_neg k0, d1, zb1_s, if_neg (by decide), if_neg (i_lt0 hv), if_neg k4, pi_full (a := 12) (cap := 8) (n := b') ⟨rfl, rfl, by decide, c1, hb, by decide⟩, if_pos h2, zb1_s, if_pos rfl, pi_add (a := 12) (cap := 8) (n := b') ⟨rfl, rfl, by decide, c1, hb, by decide⟩ h2, zb1_s, pi_add (m := wI (wI m 12 b' (Int32.ofNat s)) 11 1 (Int32.ofNat (b' + 1))) (o := 13) (a := 14) (cap := 8) (n := b') ⟨rfl, rfl, by decide, e1, hb, by decide⟩ h2, zb1_s, hM1]
              subst hM1
              rfl
            · have d3 : fM_isSquare (Int32.ofNat s) m1 = some 1 := by subst hM1; exact d2
              have d4 : m1.1 68 47 = Int32.ofNat b' := by subst hM1; exact c2
              have d5 : (wI m1 99 b' (Int32.ofNat s)).1 68 47 = Int32.ofNat b' := d4
              have d6 : (wI (wI m1 99 b' (Int32.ofNat s)) 100 b' (Int32.ofNat v)).1 68 47 = Int32.ofNat b' := d4
              rw [fM_see, if_neg k0, d3, zb1_s, if_neg (by decide), k5, zb1_s, if_neg (by decide), d4, if_neg k1, zI_n (by omega) h2, zg_t, i_tn (by omega), d5, zI_n (by omega) h2, zg_t, i_tn (by omega), wI_e, d6, e4]
            · subst hM1
              by_cases q : i = b'
              · subst q
                rw [wI_o _ _ (by omega), wI_o _ _ (by omega), wI_o _ _ (by omega), wI_o _ _ (by omega), wI_o _ _ (by omega), wI_o _ _ (by omega), wI_e, wI_o _ _ (by omega), wI_o _ _ (by omega), wI_e]
                exact ⟨rfl, s, h1, rfl⟩
              · rw [wI_o _ _ (by omega), wI_o _ _ (by omega), wI_o _ _ (by omega), wI_o _ _ (by omega), wI_o _ _ (by omega), wI_o _ _ (by omega), wI_o _ _ (by omega), wI_o _ _ (by omega), wI_o _ _ (by omega), wI_o _ _ (by omega), wI_o _ _ (by omega), wI_o _ _ (by omega), wI_o _ _ (by omega), wI_o _ _ (by omega)]
                exact c3 i (by omega)
            · subst hM1
              by_cases q : i = b'
              · subst q
                rw [wI_o _ _ (by omega), wI_o _ _ (by omega), wI_o _ _ (by omega), wI_o _ _ (by omega), wI_e, wI_o _ _ (by omega), wI_e]
                exact ⟨rfl, v, by omega, rfl⟩
              · rw [wI_o _ _ (by omega), wI_o _ _ (by omega), wI_o _ _ (by omega), wI_o _ _ (by omega), wI_o _ _ (by omega), wI_o _ _ (by omega), wI_o _ _ (by omega), wI_o _ _ (by omega), wI_o _ _ (by omega), wI_o _ _ (by omega), wI_o _ _ (by omega), wI_o _ _ (by omega), wI_o _ _ (by omega), wI_o _ _ (by omega)]
                exact e3 i (by omega)
          · have k1 : Int32.ofNat b' = 8 := by rw [show b' = 8 by omega]; rfl
            exact ⟨-4, m, m, by rw [fN_see, if_neg k0, d1, zb1_s, if_neg (by decide), if_neg (i_lt0 hv), if_neg k4, pi_full (a := 12) (cap := 8) (n := b') ⟨rfl, rfl, by decide, c1, hb, by decide⟩, if_neg h2]; rfl, by rw [fM_see, if_neg k0, d2, zb1_s, if_neg (by decide), k5, zb1_s, if_neg (by decide), c2, if_pos k1], h'⟩
    · exact ⟨-1, m, m, by rw [fN_see, if_neg k0, (sq_nat hs hW5 hy hN1 hN2 hN3 hB5).1, if_neg h1]; rfl, by rw [fM_see, if_neg k0, (sq_nat hs hW5 hy hN1 hN2 hN3 hB5).2, if_neg h1]; rfl, h'⟩
