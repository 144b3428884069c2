theorem of_eq {m : zv_M} {n W : Nat} (hn : n ≤ 6) (h : gMn m 8 72 n W) (x : Int32) : ∃ r, fSt_menOf 1 x m = some r ∧ whileN zFU (fM_of_l51 x m) (0, 0) = some r := by
  obtain ⟨r, w, e1, e2, rfl⟩ := wn_two (fSt_menOf_l4 1 x m) (fM_of_l51 x m) 25 (fun i s t => s = t ∧ s.2 = Int32.ofNat i) (fun r w => r = w) (by decide) (fun i s t hi hJ => by
    obtain ⟨rfl, hs⟩ := hJ
    obtain ⟨a, c⟩ := s
    obtain rfl : c = Int32.ofNat i := hs
    rw [fSt_menOf_l4, fM_of_l51, show zrf 1 3 = 8 from rfl, show zln 8 = 25 from rfl]
    by_cases h1 : i < 25
    · have h2 : Int32.ofNat i < Int32.ofNat 25 := (i_lt (by omega) (by omega)).mpr h1
      have h3 : Int32.ofNat i < 25 := h2
      have e3 : Int32.ofNat i + 1 = Int32.ofNat (i + 1) := i_pl i 1
      obtain ⟨b1, b2⟩ := h i h1
      rw [if_pos h2, if_pos h3, zI_n (by omega) h1, zg_t, zg_t, i_tn (by omega), b1]
      by_cases q : m.1 72 i = x
      · rw [if_pos q, if_pos q, fSt_menOf_j26, fM_of_j75, e3]
        exact Or.inr ⟨h1, _, _, rfl, rfl, rfl, rfl⟩
      · rw [if_neg q, if_neg q, fSt_menOf_j26, fM_of_j75, e3, show a + 0 = a by simp]
        exact Or.inr ⟨h1, _, _, rfl, rfl, rfl, rfl⟩
    · have h2 : ¬ Int32.ofNat i < Int32.ofNat 25 := fun z => h1 ((i_lt (by omega) (by omega)).mp z)
      have h3 : ¬ Int32.ofNat i < 25 := h2
      rw [if_neg h2, if_neg h3]
      exact Or.inl ⟨_, _, rfl, rfl, rfl⟩) (0, 0) (0, 0) ⟨rfl, rfl⟩
  exact ⟨r, by rw [fSt_menOf, e1, zb1_s], e2⟩
theorem O_of_ok : O_of INV := fun m h x1 x2 => by
  obtain ⟨y, ⟨n, W, hPl, hN1, hN2, hN3, hMn, -⟩, -⟩ := h
  have hPl' := hPl
  obtain ⟨hn, a1, -, -, a4, a5⟩ := hPl
  rw [fN_of, fM_of]
  rcases i_cases x1 with hx | ⟨k, hk, rfl⟩
  · rw [(isPlan_neg hx).1, (isPlan_neg hx).2]
    exact ⟨-1, rfl, rfl⟩
  · rw [(isPlan_nat a1 a4 hn hk).1, (isPlan_nat a1 a4 hn hk).2, zb1_s, zb1_s]
    by_cases h2 : k < n
    · have k1 : ¬ (1 : Int32) = 0 := by decide
      rw [if_pos h2, if_neg k1, if_neg k1]
      by_cases q0 : x2 = 0
      · rw [if_pos q0, if_pos q0, (pl_get hPl' h2).1, zb1_s, fM_of_j19, if_pos q0, zI_n hk (by omega), zg_t, i_tn hk]
        exact ⟨_, rfl, rfl⟩
      · rw [if_neg q0, if_neg q0]
        by_cases q1 : x2 = 1
        · rw [if_pos q1, if_pos q1, (pl_get hPl' h2).2.1, zb1_s, fM_of_j19, if_neg q0, zI_n hk (by omega), zg_t, i_tn hk]
          exact ⟨_, rfl, rfl⟩
        · rw [if_neg q1, if_neg q1]
          by_cases q2 : x2 = 2
          · obtain ⟨r, e1, e2⟩ := of_eq hn hMn (Int32.ofNat k)
            rw [if_pos q2, if_pos q2, e1, e2]
            exact ⟨r, rfl, rfl⟩
          · rw [if_neg q2, if_neg q2]
            exact ⟨_, rfl, rfl⟩
    · rw [if_neg h2]
      exact ⟨-1, rfl, rfl⟩
