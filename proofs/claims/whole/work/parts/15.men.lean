/-- the men's squares on both sides -/
theorem men_eq {m : zv_M} {n W : Nat} (hn : n ≤ 6) (h : gMn m 8 72 n W) : ∃ r, fSt_menBits 1 m = some r ∧ fM_men m = some r := by
  obtain ⟨r, w, e1, e2, rfl⟩ := wn_two (fSt_menBits_l4 1 m) (fM_men_l4 m) 25 (fun i s t => s = t ∧ s.2 = Int32.ofNat i) (fun r w => r = w) (by decide) (fun i s t hi hJ => by
    obtain ⟨rfl, hs⟩ := hJ
    obtain ⟨a, c⟩ := s
    obtain rfl : c = Int32.ofNat i := hs
    rw [fSt_menBits_l4, fM_men_l4, show zrf 1 3 = 8 from rfl, show zln 8 = 25 from rfl]
    by_cases h1 : i < 25
    · have h2 : Int32.ofNat i < Int32.ofNat 25 := (i_lt (by omega) (by omega)).mpr h1
      have h3 : Int32.ofNat i < 25 := h2
      have e3 : Int32.ofNat i + 1 = Int32.ofNat (i + 1) := i_pl i 1
      obtain ⟨b1, b2⟩ := h i h1
      rw [if_pos h2, if_pos h3, zI_n (by omega) h1, zg_t, zg_t, i_tn (by omega), b1]
      rcases b2 with b2 | ⟨-, q, hq, b2⟩
      · rw [b2, if_pos rfl, if_pos (by decide), fSt_menBits_j29, fM_men_j27, e3, show a ||| 0 = a by simp]
        exact Or.inr ⟨h1, _, _, rfl, rfl, rfl, rfl⟩
      · rw [b2, if_neg (i_ne (by omega) (by decide)), if_neg (i_lt0 (by omega)), fSt_menBits_j29, fM_men_j27, e3]
        exact Or.inr ⟨h1, _, _, rfl, rfl, rfl, rfl⟩
    · have h2 : ¬ Int32.ofNat i < Int32.ofNat 25 := fun z => h1 ((i_lt (by omega) (by omega)).mp z)
      have h3 : ¬ Int32.ofNat i < 25 := h2
      rw [if_neg h2, if_neg h3]
      exact Or.inl ⟨_, _, rfl, rfl, rfl⟩) (0, 0) (0, 0) ⟨rfl, rfl⟩
  exact ⟨r, by rw [fSt_menBits, e1, zb1_s], by rw [fM_men, e2, zb1_s]⟩
