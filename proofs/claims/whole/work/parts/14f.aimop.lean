theorem aim_same {m m1 : zv_M} {b s : Nat} (hb : b ≤ 5) (c2 : m.1 68 42 = Int32.ofNat b) (c3 : m1.1 68 42 = Int32.ofNat b) (c4 : ∀ i, m1.1 95 i = m.1 95 i) (h : whileN zFU (fM_aim_l24 (Int32.ofNat s) m) 0 = some (.inl ())) : whileN zFU (fM_aim_l24 (Int32.ofNat s) m1) 0 = some (.inl ()) := by
  obtain ⟨r, w, e1, e2, q⟩ := wn_two (fM_aim_l24 (Int32.ofNat s) m) (fM_aim_l24 (Int32.ofNat s) m1) b (fun i s t => s = Int32.ofNat i ∧ t = Int32.ofNat i) (fun r w => r = .inl () → w = .inl ()) (by omega) (fun i s' t hi hJ => by
    obtain ⟨rfl, rfl⟩ := hJ
    rw [fM_aim_l24, fM_aim_l24, c2, c3, c4]
    by_cases h1 : i < b
    · have h2 : Int32.ofNat i < Int32.ofNat b := (i_lt (by omega) (by omega)).mpr h1
      have e3 : Int32.ofNat i + 1 = Int32.ofNat (i + 1) := i_pl i 1
      rw [if_pos h2, if_pos h2, zI_n (by omega) (by omega), zg_t, zg_t, i_tn (by omega), e3]
      by_cases h4 : m.1 95 i = Int32.ofNat s
      · rw [if_pos h4, if_pos h4]
        exact Or.inl ⟨_, _, rfl, rfl, fun z => by cases z⟩
      · rw [if_neg h4]
        exact Or.inr ⟨h1, _, _, rfl, by rw [if_neg h4], rfl, rfl⟩
    · have h2 : ¬ Int32.ofNat i < Int32.ofNat b := fun z => h1 ((i_lt (by omega) (by omega)).mp z)
      rw [if_neg h2, if_neg h2]
      exact Or.inl ⟨_, _, rfl, rfl, fun _ => rfl⟩) 0 0 ⟨rfl, rfl⟩
  rw [h] at e1
  cases e1
  rw [e2, q rfl]
theorem O_aim_ok : O_aim INV := fun m h x => by
  have h' := h
  obtain ⟨y, ⟨n, W, hPl, hN1, hN2, ⟨hW2, hW5, hN3⟩, hMn, ⟨b, hb, c1, c2, c3⟩, hp6, hp7, hp8⟩, hK, hB, hA, hT, hR, hP, hO, hY⟩ := h
  have hB' := hB
  obtain ⟨hy, -, -, -, hB5, -⟩ := hB
  rcases i_cases x with hx | ⟨s, hs, rfl⟩
  · by_cases h1 : x = -1
    · subst h1
      have A : ∀ K : Nat → Nat → Bool, K 9 1 = false → K 68 42 = false → ag K m (wI (wI m 9 1 0) 68 42 0) := fun K q1 q2 => ag_w (ag_w (ag_r m) q1) q2
      exact ⟨0, wI m 9 1 0, wI (wI m 9 1 0) 68 42 0, by rw [fN_aim, if_pos rfl]; rfl, by rw [fM_aim, if_pos rfl], ⟨y, ⟨n, W, hPl, hN1, hN2, ⟨hW2, hW5, hN3⟩, hMn, ⟨0, by omega, rfl, rfl, fun i hi => absurd hi (Nat.not_lt_zero i)⟩, hp6, hp7, hp8⟩, fKp (A _ rfl rfl) hK, fBo (A _ rfl rfl) hB', fBa (A _ rfl rfl) hA, fTx (A _ rfl rfl) hT, fTr (A _ rfl rfl) hR, fTp (A _ rfl rfl) (fun _ _ => rfl) hP, fKo (A _ rfl rfl) hO, fYd (A _ rfl rfl) hY⟩⟩
    · exact ⟨-1, m, m, by rw [fN_aim, if_neg h1, (sq_neg hx hy hN1 hN2).1]; rfl, by rw [fM_aim, if_neg h1, (sq_neg hx hy hN1 hN2).2]; rfl, h'⟩
  · have k0 : ¬ Int32.ofNat s = -1 := i_ne hs (by decide)
    by_cases h1 : s < W * W
    · have d1 : fN_isSquare (Int32.ofNat s) m = some 1 := by rw [(sq_nat hs hW5 hy hN1 hN2 hN3 hB5).1, if_pos h1]
      have d2 : fM_isSquare (Int32.ofNat s) m = some 1 := by rw [(sq_nat hs hW5 hy hN1 hN2 hN3 hB5).2, if_pos h1]
      by_cases h2 : b < 5
      · have k1 : ¬ Int32.ofNat b = 5 := fun q => by have := (i_eq (b := 5) (by omega) (by decide)).mp q; omega
        have e4 : Int32.ofNat b + 1 = Int32.ofNat (b + 1) := i_pl b 1
        obtain ⟨r, w, r1, r2, r3⟩ := aim_in (s := s) hb c1 c2 (fun i hi => (c3 i hi).1)
        rcases r3 with ⟨rfl, rfl⟩ | ⟨rfl, rfl⟩
        · exact ⟨-2, m, m, by rw [fN_aim, if_neg k0, d1, zb1_s, if_neg (by decide), r1]; rfl, by rw [fM_aim, if_neg k0, d2, zb1_s, if_neg (by decide), r2]; rfl, h'⟩
        · have A : ∀ K : Nat → Nat → Bool, K 10 b = false → K 9 1 = false → K 95 b = false → K 68 42 = false → ag K m (wI (wI (wI (wI m 10 b (Int32.ofNat s)) 9 1 (Int32.ofNat (b + 1))) 95 b (Int32.ofNat s)) 68 42 (Int32.ofNat (b + 1))) := fun K q1 q2 q3 q4 => ag_w (ag_w (ag_w (ag_w (ag_r m) q1) q2) q3) q4
          refine ⟨Int32.ofNat (b + 1), wI (wI m 10 b (Int32.ofNat s)) 9 1 (Int32.ofNat (b + 1)), wI (wI (wI (wI m 10 b (Int32.ofNat s)) 9 1 (Int32.ofNat (b + 1))) 95 b (Int32.ofNat s)) 68 42 (Int32.ofNat (b + 1)), ?_, ?_, ⟨y, ⟨n, W, hPl, hN1, hN2, ⟨hW2, hW5, hN3⟩, hMn, ⟨b + 1, by omega, rfl, rfl, fun i hi => ?_⟩, hp6, hp7, hp8⟩, fKp (A _ rfl rfl rfl rfl) hK, fBo (A _ rfl rfl rfl rfl) hB', fBa (A _ rfl rfl rfl rfl) hA, fTx (A _ rfl rfl rfl rfl) hT, fTr (A _ rfl rfl rfl rfl) hR, fTp (A _ rfl rfl rfl rfl) (fun _ _ => rfl) hP, fKo (A _ rfl rfl rfl rfl) hO, fYd (A _ rfl rfl rfl rfl) hY⟩⟩
          · rw [fN_aim, if_neg k0, d1, zb1_s, if_neg (by decide), r1, zb1_s, if_pos rfl, pi_full (a := 10) (cap := 5) (n := b) ⟨rfl, rfl, by decide, c1, hb, by decide⟩, if_pos h2, zb1_s, if_pos rfl, pi_add (a := 10) (cap := 5) (n := b) ⟨rfl, rfl, by decide, c1, hb, by decide⟩ h2, zb1_s, wI_e]
          · have d3 : fM_isSquare (Int32.ofNat s) (wI (wI m 10 b (Int32.ofNat s)) 9 1 (Int32.ofNat (b + 1))) = some 1 := d2
            have d4 : (wI (wI m 10 b (Int32.ofNat s)) 9 1 (Int32.ofNat (b + 1))).1 68 42 = Int32.ofNat b := c2
            have d5 : (wI (wI (wI m 10 b (Int32.ofNat s)) 9 1 (Int32.ofNat (b + 1))) 95 b (Int32.ofNat s)).1 68 42 = Int32.ofNat b := c2
            have d6 := aim_same (m1 := wI (wI m 10 b (Int32.ofNat s)) 9 1 (Int32.ofNat (b + 1))) hb c2 d4 (fun _ => rfl) r2
            rw [fM_aim, if_neg k0, d3, zb1_s, if_neg (by decide), d6, zb1_s]
            show (if _ = 5 then _ else _) = _
            rw [d4, if_neg k1, zI_n (by omega) h2, zg_t, i_tn (by omega), wI_e, d5, e4]
          · by_cases q : i = b
            · subst q
              rw [wI_o _ _ (by omega), wI_o _ _ (by omega), wI_o _ _ (by omega), wI_e, wI_o _ _ (by omega), wI_e]
              exact ⟨rfl, s, h1, rfl⟩
            · rw [wI_o _ _ (by omega), wI_o _ _ (by omega), wI_o _ _ (by omega), wI_o _ _ (by omega), wI_o _ _ (by omega), wI_o _ _ (by omega), wI_o _ _ (by omega), wI_o _ _ (by omega)]
              exact c3 i (by omega)
      · have k1 : Int32.ofNat b = 5 := by rw [show b = 5 by omega]; rfl
        obtain ⟨r, w, r1, r2, r3⟩ := aim_in (s := s) hb c1 c2 (fun i hi => (c3 i hi).1)
        rcases r3 with ⟨rfl, rfl⟩ | ⟨rfl, rfl⟩
        · exact ⟨-2, m, m, by rw [fN_aim, if_neg k0, d1, zb1_s, if_neg (by decide), r1]; rfl, by rw [fM_aim, if_neg k0, d2, zb1_s, if_neg (by decide), r2]; rfl, h'⟩
        · exact ⟨-4, m, m, by rw [fN_aim, if_neg k0, d1, zb1_s, if_neg (by decide), r1, zb1_s, if_pos rfl, pi_full (a := 10) (cap := 5) (n := b) ⟨rfl, rfl, by decide, c1, hb, by decide⟩, if_neg h2]; rfl, by
            rw [fM_aim, if_neg k0, d2, zb1_s, if_neg (by decide), r2, zb1_s]
            exact if_pos (c2.trans k1), h'⟩
    · exact ⟨-1, m, m, by rw [fN_aim, if_neg k0, (sq_nat hs hW5 hy hN1 hN2 hN3 hB5).1, if_neg h1]; rfl, by rw [fM_aim, if_neg k0, (sq_nat hs hW5 hy hN1 hN2 hN3 hB5).2, if_neg h1]; rfl, h'⟩
