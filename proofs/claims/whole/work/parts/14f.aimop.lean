theorem O_aim_ok : O_aim INV := fun m h x => by
  have h' := h
  obtain ⟨y, ⟨n, W, hPl, hN1, hN2, ⟨hW2, hW5, hN3⟩, hMn, ⟨b, hb, c1, c2, c3⟩, hp6, hp7, hp8⟩, hK, hB, hA, hT, hR, hP, hO, hY⟩ := h
  have hB' := hB
  obtain ⟨hy, -, -, -, hB5, -⟩ := hB
  rcases i_cases x with hx | ⟨s, hs, rfl⟩
  · by_cases h1 : x = -1
    · subst h1
      have A : ∀ K : Nat → Nat → Bool, K 9 1 = false → K 68 42 = false → ag K m (wI (wI m 9 1 0) 68 42 0) := fun K q1 q2 => ag_w (ag_w (ag_r m) q1) q2
      exact ⟨0, wI m 9 1 0, wI (wI m 9 1 0) 68 42 0, by rw [fN_aim, if_pos rfl]; rfl, by rw [fM_aim, if_pos rfl], ⟨y, ⟨n, W, hPl, hN1, hN2, ⟨hW2, hW5, hN3⟩, hMn, ⟨0, by omega, rfl, rfl, fun i hi => absurd hi (Nat.not_lt_zero i)⟩, hp6, hp7, hp8⟩, fKp (A _ rfl rfl) hK, fBo (A _ rfl rfl) hB', fBa (A _ rfl rfl) hA, fTx (A _ rfl rfl) hT, fTr (A _ rfl rfl) hR, fTp (A _ rfl rfl) (fun _ _ => rfl) hP, fKo (A _ rfl rfl) hO, fYd (A _ rfl rfl) hY⟩⟩
    · exact ⟨-1, m, m, by rw [fN_aim, if_neg h1, (sq_neg hx hy hN1 hN2).1]; rfl, by rw [fM_aim, if_neg h1, (sq_neg hx hy hN1 hN2).2]; rfl, h'⟩
  · have k0 : ¬ Int32.ofNat s = -1 := i_ne hs (by decide)
    by_cases h1 : s < W * W
    · have d1 : fN_isSquare (Int32.ofNat s) m = some 1 := by rw [(sq_nat hs hW5 hy hN1 hN2 hN3 hB5).1, if_pos h1]
      have d2 : fM_isSquare (Int32.ofNat s) m = some 1 := by rw [(sq_nat hs hW5 hy hN1 hN2 hN3 hB5).2, if_pos h1]
      obtain ⟨r, w, r1, -, r3⟩ := aim_in (s := s) hb c1 c2 (fun i hi => (c3 i hi).1)
      by_cases h2 : b < 5
      · have k1 : ¬ Int32.ofNat b = 5 := fun q => by have := (i_eq (b := 5) (by omega) (by decide)).mp q; omega
        have e4 : Int32.ofNat b + 1 = Int32.ofNat (b + 1) := i_pl b 1
        obtain ⟨r, w, r1, r2, r3⟩ := aim_in (s := s) hb c1 c2 (fun i hi => (c3 i hi).1)
        rcases r3 with ⟨rfl, rfl⟩ | ⟨rfl, rfl⟩
        · exact ⟨-2, m, m, by rw [fN_aim, if_neg k0, d1, zb1_s, if_neg (by decide), r1]; rfl, by rw [fM_aim, if_neg k0, d2, zb1_s, if_neg (by decide), r2]; rfl, h'⟩
        · have A : ∀ K : Nat → Nat → Bool, K 10 b = false → K 9 1 = false → K 95 b = false → K 68 42 = false → ag K m (wI (wI (wI (wI m 10 b (Int32.ofNat s)) 9 1 (Int32.ofNat (b + 1))) 95 b (Int32.ofNat s)) 68 42 (Int32.ofNat (b + 1))) := fun K q1 q2 q3 q4 => ag_w (ag_w (ag_w (ag_w (ag_r m) q1) q2) q3) q4
          sorry
      · sorry
    · exact ⟨-1, m, m, by rw [fN_aim, if_neg k0, (sq_nat hs hW5 hy hN1 hN2 hN3 hB5).1, if_neg h1]; rfl, by rw [fM_aim, if_neg k0, (sq_nat hs hW5 hy hN1 hN2 hN3 hB5).2, if_neg h1]; rfl, h'⟩
