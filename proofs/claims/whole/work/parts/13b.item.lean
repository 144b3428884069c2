theorem wL_e (m : zv_M) (o k : Nat) (v : Int64) : (wL m o k v).2 o k = v := if_pos ⟨rfl, rfl⟩
theorem wL_o (m : zv_M) {o k o' k' : Nat} (v : Int64) (h : ¬ (o' = o ∧ k' = k)) : (wL m o k v).2 o' k' = m.2 o' k' := if_neg h
theorem ag_l {K : Nat → Nat → Bool} {m m' : zv_M} {o k : Nat} {v : Int64} (h : ag K m m') : ag K m (wL m' o k v) := h
theorem fit_ok (q : Nat) (hq : q < 5) (v : Int64) : ∃ r, fTa_fitted (Int32.ofNat q) v = some r ∧ fM_narrow (Int32.ofNat q) v = some r := by
  have e : fTa_fitted (Int32.ofNat q) v = fM_narrow (Int32.ofNat q) v := by
    rcases (show q = 0 ∨ q = 1 ∨ q = 2 ∨ q = 3 ∨ q = 4 by omega) with rfl | rfl | rfl | rfl | rfl <;> rfl
  have e2 : ∃ r, fM_narrow (Int32.ofNat q) v = some r := by
    rw [fM_narrow]
    repeat' split
    all_goals exact ⟨_, rfl⟩
  exact e2.imp fun r h => ⟨e.trans h, h⟩
theorem nar4 {v r : Int64} (h : fM_narrow (Int32.ofNat 4) v = some r) : r = 0 ∨ r = 1 := by
  have e : fM_narrow (Int32.ofNat 4) v = if lg_cmp v 0 = 0 then some 0 else some 1 := rfl
  rw [e] at h
  by_cases q : lg_cmp v 0 = 0
  · rw [if_pos q] at h
    exact Or.inl (Option.some.inj h).symm
  · rw [if_neg q] at h
    exact Or.inr (Option.some.inj h).symm
theorem O_item_ok : O_item INV := fun m h x1 x2 v => by
  have h' := h
  obtain ⟨y, hN, hK, hB, hA, hT, hR, hP, hO, hY⟩ := h
  rcases i_cases x1 with hx | ⟨t, ht, rfl⟩
  · exact ⟨-1, m, m, by rw [fN_item, (tape_neg hx).1]; rfl, by rw [fM_item, (tape_neg hx).2]; rfl, h'⟩
  · by_cases h1 : t < 6
    · obtain ⟨b1, b2, ⟨z, hz, b3, b4⟩, b5, -⟩ := hP t h1
      have b6 : m.1 66 t = Int32.ofNat z := b2.trans b3
      have c1 : fTa_isTape (Int32.ofNat t) = some 1 := by rw [(tape_nat ht).1, if_pos h1]
      have c2 : fM_isTape (Int32.ofNat t) = some 1 := by rw [(tape_nat ht).2, if_pos h1]
      rcases b4 with ⟨b4, -⟩ | ⟨q, hq, b4⟩
      · exact ⟨-11, m, m, by rw [fN_item, c1, zb1_s, if_neg (by decide), fTa_holdsNothing, tp_sort h1, b1, b4]; rfl, by rw [fM_item, c2, zb1_s, if_neg (by decide), zI_n ht h1, zg_t, i_tn ht, b4]; rfl, h'⟩
      · have c3 : fTa_holdsNothing (Int32.ofNat t) m = some 0 := by
          rw [fTa_holdsNothing, tp_sort h1, zb1_s, b1, b4, if_neg (i_ne (by omega) (by decide))]
        have c4 : ¬ Int32.ofNat q < 0 := i_lt0 (by omega)
        rcases i_cases x2 with hx | ⟨i, hi, rfl⟩
        · exact ⟨-13, m, m, by rw [fN_item, c1, zb1_s, if_neg (by decide), c3, zb1_s, if_pos rfl, fTa_isPlace, if_pos hx]; rfl, by rw [fM_item, c2, zb1_s, if_neg (by decide), zI_n ht h1, zg_t, i_tn ht, b4, if_neg c4, zg_t, b3, in_neg (by decide) hx]; rfl, h'⟩
        · by_cases h2 : i < z
          · obtain ⟨r, f1, f2⟩ := fit_ok q hq v
            have A : ∀ K, ag K m (wL (wL m 67 (60 * t + i) r) 113 (60 * t + i) r) := fun K => ag_l (ag_l (ag_r m))
            refine ⟨1, wL m 67 (60 * t + i) r, wL (wL m 67 (60 * t + i) r) 113 (60 * t + i) r, ?_, ?_, ⟨y, fNow (A _) hN, fKp (A _) hK, fBo (A _) hB, fBa (A _) hA, fTx (A _) hT, fTr (A _) hR, fun t' ht' => ?_, fKo (A _) hO, fYd (A _) hY⟩⟩
            · rw [fN_item, c1, zb1_s, if_neg (by decide), c3, zb1_s, if_pos rfl, tp_place h1 b6 hz hi, if_pos h2, zb1_s, if_neg (by decide), fTa_put, c1, zb1_s, if_neg (by decide), tp_place h1 b6 hz hi, if_pos h2, zb1_s, if_neg (by decide), tp_sort h1, zb1_s, b1, b4, f1, zb1_s, tp_ix.1, zI_n (by omega) (by omega), zg_t, zb1_s, i_tn (by omega)]
            · have d1 : (wL m 67 (60 * t + i) r).1 = m.1 := rfl
              rw [fM_item, c2, zb1_s, if_neg (by decide), zI_n ht h1, zg_t, i_tn ht, d1, b4, if_neg c4, zg_t, b3, tp_in hz hi, if_pos h2, zb1_s, if_neg (by decide), zg_t, f2, zb1_s, tp_ix.2, zI_n (by omega) (by omega), zg_t, i_tn (by omega)]
            · obtain ⟨d1, d2, d3, d4, d5⟩ := hP t' ht'
              have bool : (wL (wL m 67 (60 * t + i) r) 113 (60 * t + i) r).1 111 t' = 4 → ∀ k, k < 60 → (wL (wL m 67 (60 * t + i) r) 113 (60 * t + i) r).2 113 (60 * t' + k) = 0 ∨ (wL (wL m 67 (60 * t + i) r) 113 (60 * t + i) r).2 113 (60 * t' + k) = 1 := fun q4 k hk => by
                have q4' : m.1 111 t' = 4 := q4
                by_cases q2 : 60 * t' + k = 60 * t + i
                · obtain rfl : t' = t := by omega
                  obtain rfl : q = 4 := (i_eq (b := 4) (by omega) (by decide)).mp (b4.symm.trans q4')
                  rw [q2, wL_e]
                  exact nar4 f2
                · rw [wL_o _ _ (by omega), wL_o _ _ (by omega)]
                  exact d5 q4' k hk
              refine ⟨d1, d2, d3, fun k hk => ?_, bool⟩
              by_cases q2 : 60 * t' + k = 60 * t + i
              · rw [q2, wL_e, wL_o _ _ (by omega), wL_e]
              · rw [wL_o _ _ (by omega), wL_o _ _ (by omega), wL_o _ _ (by omega), wL_o _ _ (by omega)]
                exact d4 k hk
          · exact ⟨-13, m, m, by rw [fN_item, c1, zb1_s, if_neg (by decide), c3, zb1_s, if_pos rfl, tp_place h1 b6 hz hi, if_neg h2]; rfl, by rw [fM_item, c2, zb1_s, if_neg (by decide), zI_n ht h1, zg_t, i_tn ht, b4, if_neg c4, zg_t, b3, tp_in hz hi, if_neg h2]; rfl, h'⟩
    · exact ⟨-1, m, m, by rw [fN_item, (tape_nat ht).1, if_neg h1]; rfl, by rw [fM_item, (tape_nat ht).2, if_neg h1]; rfl, h'⟩
