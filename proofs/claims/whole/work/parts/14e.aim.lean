theorem aim_in {m : zv_M} {b s : Nat} (hb : b ≤ 5) (c1 : m.1 9 1 = Int32.ofNat b) (c2 : m.1 68 42 = Int32.ofNat b) (c3 : ∀ i, i < b → m.1 10 i = m.1 95 i) : ∃ r w, fPi_contains 9 (Int32.ofNat s) m = some r ∧ whileN zFU (fM_aim_l24 (Int32.ofNat s) m) 0 = some w ∧ (r = 1 ∧ w = .inr (-2, m) ∨ r = 0 ∧ w = .inl ()) := by
  have e : ∃ r w, whileN zFU (fPi_contains_l2 9 (Int32.ofNat s) m) 0 = some r ∧ whileN zFU (fM_aim_l24 (Int32.ofNat s) m) 0 = some w ∧ (r = 1 ∧ w = .inr (-2, m) ∨ r = 0 ∧ w = .inl ()) := by
    refine wn_two (fPi_contains_l2 9 (Int32.ofNat s) m) (fM_aim_l24 (Int32.ofNat s) m) b (fun i s t => s = Int32.ofNat i ∧ t = Int32.ofNat i) (fun r w => r = 1 ∧ w = .inr (-2, m) ∨ r = 0 ∧ w = .inl ()) (by omega) (fun i s t hi hJ => ?_) 0 0 ⟨rfl, rfl⟩
    obtain ⟨rfl, rfl⟩ := hJ
    rw [fPi_contains_l2, fM_aim_l24, c1, c2, show zrf 9 0 = 10 from rfl, show zln 10 = 5 from rfl]
    by_cases h1 : i < b
    · have h2 : Int32.ofNat i < Int32.ofNat b := (i_lt (by omega) (by omega)).mpr h1
      have h3 : Int32.ofNat i < Int32.ofNat 5 := (i_lt (by omega) (by omega)).mpr (by omega)
      have e3 : Int32.ofNat i + 1 = Int32.ofNat (i + 1) := i_pl i 1
      rw [if_pos h2, if_pos h2, if_pos h3, zI_n (by omega) (by omega), zg_t, zg_t, i_tn (by omega), c3 i h1, e3]
      by_cases h4 : m.1 95 i = Int32.ofNat s
      · rw [if_pos h4, if_pos h4]
        exact Or.inl ⟨_, _, rfl, rfl, Or.inl ⟨rfl, rfl⟩⟩
      · rw [if_neg h4, if_neg h4]
        exact Or.inr ⟨h1, _, _, rfl, rfl, rfl, rfl⟩
    · have h2 : ¬ Int32.ofNat i < Int32.ofNat b := fun z => h1 ((i_lt (by omega) (by omega)).mp z)
      rw [if_neg h2, if_neg h2]
      exact Or.inl ⟨_, _, rfl, rfl, Or.inr ⟨rfl, rfl⟩⟩
  obtain ⟨r, w, e1, e2, q⟩ := e
  exact ⟨r, w, by rw [fPi_contains, e1, zb1_s], e2, q⟩
