/-- the board that holds, on the class's side -/
theorem grd {m : zv_M} {y : Nat} (hy : y ≤ 6) (h1 : m.1 1 8 = m.1 68 10) (h2 : m.1 68 10 = -1 ∨ ∃ f : Nat, f < y ∧ m.1 68 10 = Int32.ofNat f) : ∃ g, fN_ground m = some g ∧ ∀ k, m.1 g k = gW m (m.1 68 10) k := by
  rw [fN_ground, h1]
  rcases h2 with h | ⟨f, hf, h⟩
  · rw [h, if_pos (by decide)]
    exact ⟨42, rfl, fun k => by rw [gW, if_pos (by decide)]⟩
  · rw [h, if_neg (i_lt0 (by omega)), if_pos (show Int32.ofNat f < 6 from (i_lt (b := 6) (by omega) (by decide)).mpr (by omega)), zI_n (by omega) (by omega), zg_t, zg_t, i_tn (by omega)]
    refine ⟨_, rfl, fun k => ?_⟩
    rcases (show f = 0 ∨ f = 1 ∨ f = 2 ∨ f = 3 ∨ f = 4 ∨ f = 5 by omega) with rfl | rfl | rfl | rfl | rfl | rfl <;> rfl
theorem sq_neg {m : zv_M} {y : Nat} {x : Int32} (hx : x < 0) (hy : y ≤ 6) (h1 : m.1 1 8 = m.1 68 10) (h2 : m.1 68 10 = -1 ∨ ∃ f : Nat, f < y ∧ m.1 68 10 = Int32.ofNat f) : fN_isSquare x m = some 0 ∧ fM_isSquare x m = some 0 := by
  obtain ⟨g, e, -⟩ := grd hy h1 h2
  rw [fN_isSquare, fM_isSquare, e, zb1_s, if_pos hx, in_neg (by decide) hx]
  exact ⟨rfl, rfl⟩
theorem sq_nat {m : zv_M} {y W s : Nat} (hs : s < 2147483648) (hW : W ≤ 5) (hy : y ≤ 6) (h1 : m.1 1 8 = m.1 68 10) (h2 : m.1 68 10 = -1 ∨ ∃ f : Nat, f < y ∧ m.1 68 10 = Int32.ofNat f) (h3 : gW m (m.1 68 10) 0 = Int32.ofNat W) (h4 : m.1 68 1 = gW m (m.1 68 10) 0) : fN_isSquare (Int32.ofNat s) m = some (if s < W * W then 1 else 0) ∧ fM_isSquare (Int32.ofNat s) m = some (if s < W * W then 1 else 0) := by
  have hWW : W * W ≤ 5 * 5 := Nat.mul_le_mul hW hW
  obtain ⟨g, e, eg⟩ := grd hy h1 h2
  have e1 : (Int32.ofNat s < Int32.ofNat (W * W)) = (s < W * W) := propext (i_lt hs (by omega))
  have e2 : (Int32.ofNat (W * W) - 1 < Int32.ofNat s) = (W * W ≤ s) := propext (i_pred (by omega) hs)
  rw [fN_isSquare, fM_isSquare, e, zb1_s, if_neg (i_lt0 hs), eg, h4, h3, i_mu, fM_in, if_neg (i_lt0 hs)]
  simp only [e1, e2]
  by_cases q : s < W * W
  · have q' : ¬ W * W ≤ s := by omega
    simp only [if_pos q, if_neg q']
    exact ⟨trivial, rfl⟩
  · have q' : W * W ≤ s := by omega
    simp only [if_neg q, if_pos q']
    exact ⟨trivial, rfl⟩
theorem O_take_ok : O_take INV := fun m h x => by
  have h' := h
  obtain ⟨y, ⟨n, W, hPl, hN1, hN2, ⟨hW2, hW5, hN3⟩, hMn, hN5⟩, hK, hB, hA, hT, hR, hP, hO, hY⟩ := h
  have hB' := hB
  obtain ⟨hy, -, -, -, hB5, -⟩ := hB
  rcases i_cases x with hx | ⟨s, hs, rfl⟩
  · exact ⟨-1, m, m, by rw [fN_take, (sq_neg hx hy hN1 hN2).1]; rfl, by rw [fM_take, (sq_neg hx hy hN1 hN2).2]; rfl, h'⟩
  · by_cases h1 : s < W * W
    · have c1 : fN_isSquare (Int32.ofNat s) m = some 1 := by rw [(sq_nat hs hW5 hy hN1 hN2 hN3 hB5).1, if_pos h1]
      have c2 : fM_isSquare (Int32.ofNat s) m = some 1 := by rw [(sq_nat hs hW5 hy hN1 hN2 hN3 hB5).2, if_pos h1]
      have hs' := sq_lt hW5 h1
      by_cases h2 : m.1 72 s < 0
      · exact ⟨-3, m, m, by rw [fN_take, c1, zb1_s, if_neg (by decide), man_on hs', zb1_s, (hMn s hs').1, if_pos h2], by rw [fM_take, c2, zb1_s, if_neg (by decide), zI_n hs hs', zg_t, i_tn hs, if_pos h2], h'⟩
      · have A : ∀ K : Nat → Nat → Bool, K 8 s = false → K 72 s = false → ag K m (wI (wI m 8 s (-1)) 72 s (-1)) := fun K q1 q2 => ag_w (ag_w (ag_r m) q1) q2
        refine ⟨m.1 72 s, wI m 8 s (-1), wI (wI m 8 s (-1)) 72 s (-1), ?_, ?_, ⟨y, ⟨n, W, hPl, hN1, hN2, ⟨hW2, hW5, hN3⟩, fun s' hs2 => ?_, hN5⟩, fKp (A _ rfl rfl) hK, fBo (A _ rfl rfl) hB', fBa (A _ rfl rfl) hA, fTx (A _ rfl rfl) hT, fTr (A _ rfl rfl) hR, fTp (A _ rfl rfl) (fun _ _ => rfl) hP, fKo (A _ rfl rfl) hO, fYd (A _ rfl rfl) hY⟩⟩
        · rw [fN_take, c1, zb1_s, if_neg (by decide), man_on hs', zb1_s, (hMn s hs').1, if_neg h2, fSt_putMan, if_neg (i_lt0 hs), if_pos (show Int32.ofNat s < Int32.ofNat (zln (zrf 1 3)) from (i_lt (b := 25) hs (by decide)).mpr hs'), show zln (zrf 1 3) = 25 from rfl, zI_n hs hs', zg_t, i_tn hs]
          rfl
        · have d1 : (wI m 8 s (-1)).1 72 s = m.1 72 s := wI_o _ _ (by omega)
          have d2 : fM_isSquare (Int32.ofNat s) (wI m 8 s (-1)) = some 1 := c2
          rw [fM_take, d2, zb1_s, if_neg (by decide), zI_n hs hs', zg_t, i_tn hs, d1, if_neg h2, zg_t, zg_t]
        · obtain ⟨b1, b2⟩ := hMn s' hs2
          by_cases q : s' = s
          · subst q
            rw [wI_o _ _ (by omega), wI_e, wI_e]
            exact ⟨rfl, Or.inl rfl⟩
          · rw [wI_o _ _ (by omega), wI_o _ _ (by omega), wI_o _ _ (by omega), wI_o _ _ (by omega)]
            exact ⟨b1, b2⟩
    · exact ⟨-1, m, m, by rw [fN_take, (sq_nat hs hW5 hy hN1 hN2 hN3 hB5).1, if_neg h1]; rfl, by rw [fM_take, (sq_nat hs hW5 hy hN1 hN2 hN3 hB5).2, if_neg h1]; rfl, h'⟩
