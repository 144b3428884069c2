theorem i_m1 {x : Int32} (h : x < 0) (h1 : ¬ x = -1) : x < -1 := by
  rw [Int32.lt_iff_toInt_lt] at h ⊢
  have e0 : (0 : Int32).toInt = 0 := rfl
  have e1 : (-1 : Int32).toInt = -1 := rfl
  have e2 : x.toInt ≠ -1 := fun q => h1 (Int32.toInt_inj.mp (q.trans e1.symm))
  omega
theorem O_tape_ok : O_tape INV := fun m h x1 x2 x3 => by
  have h' := h
  rcases i_cases x1 with hx | ⟨t, ht, rfl⟩
  · exact ⟨-1, m, m, by rw [fN_tape, (tape_neg hx).1]; rfl, by rw [fM_tape, (tape_neg hx).2]; rfl, h'⟩
  · by_cases h1 : t < 6
    · have c1 : fTa_isTape (Int32.ofNat t) = some 1 := by rw [(tape_nat ht).1, if_pos h1]
      have c2 : fM_isTape (Int32.ofNat t) = some 1 := by rw [(tape_nat ht).2, if_pos h1]
      rcases i_cases x2 with hx | ⟨q, hq, rfl⟩
      · by_cases h2 : x2 = -1
        · subst h2
          refine ⟨1, wQ (wI (wI m 65 t (-1)) 66 t (Int32.ofNat 0)) 67 (60 * t) 60 0, _, ?_, ?_, tape_I (z := 0) h1 (by decide) (Or.inl ⟨rfl, rfl⟩) h'⟩
          · rw [fN_tape, c1, zb1_s, if_neg (by decide), if_pos rfl, show (0 : Int32) = Int32.ofNat 0 from rfl, tape_bN h1 (by decide), zb1_s]
          · rw [fM_tape, c2, zb1_s, if_neg (by decide), show fM_in (-1) (-1) 4 = some 1 from rfl, zb1_s, if_neg (by decide), if_pos (by decide), fM_tape_j33, if_pos (by decide), fM_tape_j44, zI_n ht h1, zg_t, if_pos (by decide), tape_bM h1]
            rfl
        · exact ⟨-2, m, m, by rw [fN_tape, c1, zb1_s, if_neg (by decide), if_neg h2, if_pos hx], by rw [fM_tape, c2, zb1_s, if_neg (by decide), fM_in, if_pos (i_m1 hx h2)]; rfl, h'⟩
      · have k1 : ¬ Int32.ofNat q = -1 := i_ne hq (by decide)
        have k2 : ¬ Int32.ofNat q < 0 := i_lt0 hq
        have k3 : ¬ Int32.ofNat q < -1 := fun w => by
          rw [Int32.lt_iff_toInt_lt, i_ofNat hq] at w
          have e1 : (-1 : Int32).toInt = -1 := rfl
          omega
        have k4 : ((4 : Int32) < Int32.ofNat q) ↔ 4 < q := i_lt (a := 4) (by decide) hq
        by_cases h2 : 4 < q
        · exact ⟨-2, m, m, by rw [fN_tape, c1, zb1_s, if_neg (by decide), if_neg k1, if_neg k2, if_pos (k4.mpr h2)], by rw [fM_tape, c2, zb1_s, if_neg (by decide), fM_in, if_neg k3, if_pos (k4.mpr h2)]; rfl, h'⟩
        · have k5 : ¬ (4 : Int32) < Int32.ofNat q := fun w => h2 (k4.mp w)
          have k6 : fM_in (Int32.ofNat q) (-1) 4 = some 1 := by rw [fM_in, if_neg k3, if_neg k5]
          rcases i_cases x3 with hx | ⟨z, hz, rfl⟩
          · have k7 : ¬ (60 : Int32) < x3 := fun w => by
              rw [Int32.lt_iff_toInt_lt] at w hx
              have e0 : (0 : Int32).toInt = 0 := rfl
              have e1 : (60 : Int32).toInt = 60 := rfl
              omega
            exact ⟨-14, m, m, by rw [fN_tape, c1, zb1_s, if_neg (by decide), if_neg k1, if_neg k2, if_neg k5, if_neg k7, if_pos hx], by rw [fM_tape, c2, zb1_s, if_neg (by decide), k6, zb1_s, if_neg (by decide), if_neg k2, if_neg k7, fM_tape_j33, if_neg k2, if_pos hx], h'⟩
          · have k8 : ((60 : Int32) < Int32.ofNat z) ↔ 60 < z := i_lt (a := 60) (by decide) hz
            by_cases h3 : 60 < z
            · exact ⟨-2, m, m, by rw [fN_tape, c1, zb1_s, if_neg (by decide), if_neg k1, if_neg k2, if_neg k5, if_pos (k8.mpr h3)], by rw [fM_tape, c2, zb1_s, if_neg (by decide), k6, zb1_s, if_neg (by decide), if_neg k2, if_pos (k8.mpr h3)], h'⟩
            · have k9 : ¬ (60 : Int32) < Int32.ofNat z := fun w => h3 (k8.mp w)
              refine ⟨1, wQ (wI (wI m 65 t (Int32.ofNat q)) 66 t (Int32.ofNat z)) 67 (60 * t) 60 0, _, ?_, ?_, tape_I (z := z) h1 (by omega) (Or.inr ⟨q, by omega, rfl⟩) h'⟩
              · rw [fN_tape, c1, zb1_s, if_neg (by decide), if_neg k1, if_neg k2, if_neg k5, if_neg k9, if_neg (i_lt0 hz), tape_bN h1 (by omega), zb1_s]
              · rw [fM_tape, c2, zb1_s, if_neg (by decide), k6, zb1_s, if_neg (by decide), if_neg k2, if_neg k9, fM_tape_j33, if_neg k2, if_neg (i_lt0 hz), fM_tape_j44, zI_n ht h1, zg_t, if_neg k2, tape_bM h1]
    · exact ⟨-1, m, m, by rw [fN_tape, (tape_nat ht).1, if_neg h1]; rfl, by rw [fM_tape, (tape_nat ht).2, if_neg h1]; rfl, h'⟩
