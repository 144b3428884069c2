theorem sq_lt {W q : Nat} (hW : W ≤ 5) (h : q < W * W) : q < 25 := by
  have : W * W ≤ 5 * 5 := Nat.mul_le_mul hW hW
  omega
theorem man_on {m : zv_M} {q : Nat} (hq : q < 25) : fSt_manOn 1 (Int32.ofNat q) m = some (m.1 8 q) := by
  rw [fSt_manOn, if_neg (i_lt0 (by omega)), if_pos (show Int32.ofNat q < Int32.ofNat (zln (zrf 1 3)) from (i_lt (b := 25) (by omega) (by decide)).mpr hq), show zln (zrf 1 3) = 25 from rfl, zI_n (by omega) hq, zg_t, i_tn (by omega)]
  rfl
theorem O_looked_ok : O_looked INV := fun m h => by
  obtain ⟨y, ⟨n, W, hPl, hN1, hN2, ⟨hW2, hW5, hN3⟩, hMn, hp5, hp6, hp7, ⟨b, hb, c1, c2, c3⟩⟩, -⟩ := h
  have e : ∃ r w, whileN zFU (fN_looked_l2 m) 0 = some r ∧ whileN zFU (fM_looked_l2 m) 0 = some w ∧ r = w := by
    refine wn_two (fN_looked_l2 m) (fM_looked_l2 m) b (fun i s t => s = Int32.ofNat i ∧ t = Int32.ofNat i) (fun r w => r = w) (by omega) (fun i s t hi hJ => ?_) 0 0 ⟨rfl, rfl⟩
    obtain ⟨rfl, rfl⟩ := hJ
    rw [fN_looked_l2, fM_looked_l2, c1, c2]
    by_cases h1 : i < b
    · obtain ⟨d1, q, hq, d2⟩ := c3 i h1
      have hq' := sq_lt hW5 hq
      have h2 : Int32.ofNat i < Int32.ofNat b := (i_lt (by omega) (by omega)).mpr h1
      have e3 : Int32.ofNat i + 1 = Int32.ofNat (i + 1) := i_pl i 1
      rw [if_pos h2, if_pos h2, pi_get (a := 16) (cap := 12) (n := b) ⟨rfl, rfl, by decide, c1, hb, by decide⟩ (by omega), if_pos h1, zb1_s, d1, d2, man_on hq', zb1_s, zI_n (by omega) (by omega), zg_t, i_tn (by omega), d2, zI_n (by omega) hq', zg_t, i_tn (by omega), (hMn q hq').1, e3]
      by_cases h3 : m.1 72 q < 0
      · rw [if_pos h3]
        exact Or.inl ⟨_, _, rfl, rfl, rfl⟩
      · rw [if_neg h3]
        exact Or.inr ⟨h1, _, _, rfl, rfl, rfl, rfl⟩
    · have h2 : ¬ Int32.ofNat i < Int32.ofNat b := fun z => h1 ((i_lt (by omega) (by omega)).mp z)
      rw [if_neg h2, if_neg h2]
      exact Or.inl ⟨_, _, rfl, rfl, rfl⟩
  obtain ⟨r, w, e1, e2, rfl⟩ := e
  exact ⟨r, by rw [fN_looked, e1, zb1_s], by rw [fM_looked, e2, zb1_s]⟩
