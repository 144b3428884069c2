theorem O_book_ok : O_book INV := fun m h x => by
  have h' := h
  obtain ⟨y, ⟨n, W, hPl, hN1, hN2, ⟨hW2, hW5, hN3⟩, hMn, hp5, hp6, hp7, ⟨b, hb, c1, c2, c3⟩⟩, hK, hB, hA, hT, hR, hP, hO, hY⟩ := h
  have hB' := hB
  obtain ⟨hy, -, -, -, hB5, -⟩ := hB
  rcases i_cases x with hx | ⟨s, hs, rfl⟩
  · by_cases h1 : x = -1
    · subst h1
      have A : ∀ K : Nat → Nat → Bool, K 15 1 = false → K 68 50 = false → ag K m (wI (wI m 15 1 0) 68 50 0) := fun K q1 q2 => ag_w (ag_w (ag_r m) q1) q2
      refine ⟨0, wI m 15 1 0, wI (wI m 15 1 0) 68 50 0, by rw [fN_book, if_pos rfl]; rfl, by rw [fM_book, if_pos rfl], ⟨y, ⟨n, W, hPl, hN1, hN2, ⟨hW2, hW5, hN3⟩, hMn, hp5, hp6, hp7, ⟨0, by omega, rfl, rfl, fun i hi => absurd hi (Nat.not_lt_zero i)⟩⟩, fKp (A _ rfl rfl) hK, fBo (A _ rfl rfl) hB', fBa (A _ rfl rfl) hA, fTx (A _ rfl rfl) hT, fTr (A _ rfl rfl) hR, fTp (A _ rfl rfl) (fun _ _ => rfl) hP, fKo (A _ rfl rfl) hO, fYd (A _ rfl rfl) hY⟩⟩
    · exact ⟨-1, m, m, by rw [fN_book, if_neg h1, (sq_neg hx hy hN1 hN2).1]; rfl, by rw [fM_book, if_neg h1, (sq_neg hx hy hN1 hN2).2]; rfl, h'⟩
  · have k0 : ¬ Int32.ofNat s = -1 := i_ne hs (by decide)
    by_cases h1 : s < W * W
    · have d1 : fN_isSquare (Int32.ofNat s) m = some 1 := by rw [(sq_nat hs hW5 hy hN1 hN2 hN3 hB5).1, if_pos h1]
      have d2 : fM_isSquare (Int32.ofNat s) m = some 1 := by rw [(sq_nat hs hW5 hy hN1 hN2 hN3 hB5).2, if_pos h1]
      by_cases h2 : b < 12
      · have k1 : ¬ Int32.ofNat b = 12 := fun q => by have := (i_eq (b := 12) (by omega) (by decide)).mp q; omega
        have e4 : Int32.ofNat b + 1 = Int32.ofNat (b + 1) := i_pl b 1
        have A : ∀ K : Nat → Nat → Bool, K 16 b = false → K 15 1 = false → K 101 b = false → K 68 50 = false → ag K m (wI (wI (wI (wI m 16 b (Int32.ofNat s)) 15 1 (Int32.ofNat (b + 1))) 101 b (Int32.ofNat s)) 68 50 (Int32.ofNat (b + 1))) := fun K q1 q2 q3 q4 => ag_w (ag_w (ag_w (ag_w (ag_r m) q1) q2) q3) q4
        refine ⟨Int32.ofNat (b + 1), wI (wI m 16 b (Int32.ofNat s)) 15 1 (Int32.ofNat (b + 1)), wI (wI (wI (wI m 16 b (Int32.ofNat s)) 15 1 (Int32.ofNat (b + 1))) 101 b (Int32.ofNat s)) 68 50 (Int32.ofNat (b + 1)), ?_, ?_, ⟨y, ⟨n, W, hPl, hN1, hN2, ⟨hW2, hW5, hN3⟩, hMn, hp5, hp6, hp7, ⟨b + 1, by omega, rfl, rfl, fun i hi => ?_⟩⟩, fKp (A _ rfl rfl rfl rfl) hK, fBo (A _ rfl rfl rfl rfl) hB', fBa (A _ rfl rfl rfl rfl) hA, fTx (A _ rfl rfl rfl rfl) hT, fTr (A _ rfl rfl rfl rfl) hR, fTp (A _ rfl rfl rfl rfl) (fun _ _ => rfl) hP, fKo (A _ rfl rfl rfl rfl) hO, fYd (A _ rfl rfl rfl rfl) hY⟩⟩
        · rw [fN_book, if_neg k0, d1, zb1_s, if_neg (by decide), pi_full (a := 16) (cap := 12) (n := b) ⟨rfl, rfl, by decide, c1, hb, by decide⟩, if_pos h2, zb1_s, if_pos rfl, pi_add (a := 16) (cap := 12) (n := b) ⟨rfl, rfl, by decide, c1, hb, by decide⟩ h2, zb1_s, wI_e]
        · have d3 : fM_isSquare (Int32.ofNat s) (wI (wI m 16 b (Int32.ofNat s)) 15 1 (Int32.ofNat (b + 1))) = some 1 := d2
          have d4 : (wI (wI m 16 b (Int32.ofNat s)) 15 1 (Int32.ofNat (b + 1))).1 68 50 = Int32.ofNat b := c2
          have d5 : (wI (wI (wI m 16 b (Int32.ofNat s)) 15 1 (Int32.ofNat (b + 1))) 101 b (Int32.ofNat s)).1 68 50 = Int32.ofNat b := c2
          rw [fM_book, if_neg k0, d3, zb1_s, if_neg (by decide), d4, if_neg k1, zI_n (by omega) h2, zg_t, i_tn (by omega), wI_e, d5, e4]
        · by_cases q : i = b
          · subst q
            rw [wI_o _ _ (by omega), wI_o _ _ (by omega), wI_o _ _ (by omega), wI_e, wI_o _ _ (by omega), wI_e]
            exact ⟨rfl, s, h1, rfl⟩
          · rw [wI_o _ _ (by omega), wI_o _ _ (by omega), wI_o _ _ (by omega), wI_o _ _ (by omega), wI_o _ _ (by omega), wI_o _ _ (by omega), wI_o _ _ (by omega), wI_o _ _ (by omega)]
            exact c3 i (by omega)
      · have k1 : Int32.ofNat b = 12 := by rw [show b = 12 by omega]; rfl
        exact ⟨-4, m, m, by rw [fN_book, if_neg k0, d1, zb1_s, if_neg (by decide), pi_full (a := 16) (cap := 12) (n := b) ⟨rfl, rfl, by decide, c1, hb, by decide⟩, if_neg h2]; rfl, by rw [fM_book, if_neg k0, d2, zb1_s, if_neg (by decide), c2, if_pos k1], h'⟩
    · exact ⟨-1, m, m, by rw [fN_book, if_neg k0, (sq_nat hs hW5 hy hN1 hN2 hN3 hB5).1, if_neg h1]; rfl, by rw [fM_book, if_neg k0, (sq_nat hs hW5 hy hN1 hN2 hN3 hB5).2, if_neg h1]; rfl, h'⟩
