theorem tape_neg {x : Int32} (hx : x < 0) : fTa_isTape x = some 0 ∧ fM_isTape x = some 0 := by
  rw [fTa_isTape, fM_isTape, if_pos hx, in_neg (by decide) hx]
  exact ⟨rfl, rfl⟩
theorem tape_nat {t : Nat} (ht : t < 2147483648) : fTa_isTape (Int32.ofNat t) = some (if t < 6 then 1 else 0) ∧ fM_isTape (Int32.ofNat t) = some (if t < 6 then 1 else 0) := by
  have e : (Int32.ofNat t < 6) = (t < 6) := propext (i_lt (b := 6) ht (by decide))
  rw [fTa_isTape, fM_isTape, if_neg (i_lt0 ht), in_l 0 5 0 5 ht rfl rfl (by decide) (by decide), zb1_s]
  simp only [e]
  by_cases q : t < 6
  · rw [if_pos q, if_pos (show 0 ≤ t ∧ t ≤ 5 by omega), if_pos q]
    exact ⟨rfl, rfl⟩
  · rw [if_neg q, if_neg (show ¬ (0 ≤ t ∧ t ≤ 5) by omega), if_neg q]
    exact ⟨rfl, rfl⟩
theorem tp_sort {m : zv_M} {t : Nat} (ht : t < 6) : fTa_sortOf (Int32.ofNat t) m = some (m.1 65 t) := by
  rw [fTa_sortOf, if_neg (i_lt0 (by omega)), if_pos (show Int32.ofNat t < 6 from (i_lt (b := 6) (by omega) (by decide)).mpr ht), zI_n (by omega) ht, zg_t, i_tn (by omega)]
theorem tp_size {m : zv_M} {t : Nat} (ht : t < 6) : fTa_sizeOf (Int32.ofNat t) m = some (m.1 66 t) := by
  rw [fTa_sizeOf, if_neg (i_lt0 (by omega)), if_pos (show Int32.ofNat t < 6 from (i_lt (b := 6) (by omega) (by decide)).mpr ht), zI_n (by omega) ht, zg_t, i_tn (by omega)]
theorem tp_place {m : zv_M} {t z i : Nat} (ht : t < 6) (h : m.1 66 t = Int32.ofNat z) (hz : z ≤ 60) (hi : i < 2147483648) : fTa_isPlace (Int32.ofNat t) (Int32.ofNat i) m = some (if i < z then 1 else 0) := by
  have e : (Int32.ofNat i < Int32.ofNat z) = (i < z) := propext (i_lt hi (by omega))
  rw [fTa_isPlace, if_neg (i_lt0 hi), tp_size ht, zb1_s, h]
  simp only [e]
  by_cases q : i < z
  · rw [if_pos q, if_pos q]
  · rw [if_neg q, if_neg q]
theorem tp_in {z i : Nat} (hz : z ≤ 60) (hi : i < 2147483648) : fM_in (Int32.ofNat i) 0 (Int32.ofNat z - 1) = some (if i < z then 1 else 0) := by
  have e : (Int32.ofNat z - 1 < Int32.ofNat i) = (z ≤ i) := propext (i_pred (by omega) hi)
  rw [fM_in, if_neg (i_lt0 hi)]
  simp only [e]
  by_cases q : i < z
  · rw [if_neg (by omega), if_pos q]
  · rw [if_pos (by omega), if_neg q]
theorem tp_ix {t i : Nat} : Int32.ofNat t * 60 + Int32.ofNat i = Int32.ofNat (60 * t + i) ∧ 60 * Int32.ofNat t + Int32.ofNat i = Int32.ofNat (60 * t + i) := by
  constructor
  · rw [show (60 : Int32) = Int32.ofNat 60 from rfl, i_mu, i_pl, Nat.mul_comm]
  · rw [show (60 : Int32) = Int32.ofNat 60 from rfl, i_mu, i_pl]
theorem O_read_ok : O_read INV := fun m h x1 x2 => by
  obtain ⟨y, hN, hK, hB, hA, hT, hR, hP, hO, hY⟩ := h
  rw [fN_read, fM_read]
  rcases i_cases x1 with hx | ⟨t, ht, rfl⟩
  · rw [(tape_neg hx).1, (tape_neg hx).2]
    exact ⟨_, rfl, rfl⟩
  · rw [(tape_nat ht).1, (tape_nat ht).2]
    by_cases h1 : t < 6
    · obtain ⟨b1, b2, ⟨z, hz, b3, b4⟩, b5, -⟩ := hP t h1
      have b6 : m.1 66 t = Int32.ofNat z := b2.trans b3
      rw [if_pos h1, zb1_s, zb1_s, if_neg (by decide), if_neg (by decide), zI_n ht h1, zg_t, zg_t, i_tn ht, b3]
      rcases i_cases x2 with hx | ⟨i, hi, rfl⟩
      · rw [in_neg (by decide) hx, fTa_isPlace, if_pos hx]
        refine ⟨-9223372036854775808, rfl, ?_⟩
        by_cases q : m.1 111 t < 0
        · rw [if_pos q]
        · rw [if_neg q]
          rfl
      · rw [tp_place h1 b6 hz hi, tp_in hz hi, zb1_s, zb1_s]
        by_cases h2 : i < z
        · have h3 : ¬ m.1 111 t < 0 := by
            rcases b4 with ⟨-, q⟩ | ⟨q, hq, e⟩
            · omega
            · rw [e]
              exact i_lt0 (by omega)
          refine ⟨m.2 113 (60 * t + i), ?_, ?_⟩
          · rw [if_pos h2, if_neg (by decide), fTa_get, (tape_nat ht).1, if_pos h1, zb1_s, if_neg (by decide), tp_place h1 b6 hz hi, if_pos h2, zb1_s, if_neg (by decide), tp_ix.1, zI_n (by omega) (by omega), zg_t, zb1_s, i_tn (by omega), b5 i (by omega)]
          · rw [if_neg h3, if_pos h2, if_neg (by decide), tp_ix.2, zI_n (by omega) (by omega), zg_t, i_tn (by omega)]
        · refine ⟨-9223372036854775808, ?_, ?_⟩
          · rw [if_neg h2, if_pos rfl]
          · rw [if_neg h2, if_pos rfl]
            by_cases q : m.1 111 t < 0
            · rw [if_pos q]
            · rw [if_neg q]
    · rw [if_neg h1]
      exact ⟨_, rfl, rfl⟩
