theorem i_subl {z n i : Nat} (hz : z < 1000) (hn : n < 2147483648) (hi : i < 2147483648) : (Int32.ofNat z - Int32.ofNat n < Int32.ofNat i) ↔ z < n + i := by
  rw [Int32.lt_iff_toInt_lt, i_sub (by rw [i_ofNat (by omega), i_ofNat hn]; omega) (by rw [i_ofNat (by omega), i_ofNat hn]; omega), i_ofNat (by omega), i_ofNat hn, i_ofNat hi]
  omega
theorem run_ok {m : zv_M} {t z i n : Nat} (ht : t < 6) (h : m.1 66 t = Int32.ofNat z) (hz : z ≤ 60) (hi : i < 2147483648) (hn : n < 2147483648) : fTa_hasRun (Int32.ofNat t) (Int32.ofNat i) (Int32.ofNat n) m = some (if n + i ≤ z then 1 else 0) := by
  rw [fTa_hasRun, if_neg (i_lt0 hn), if_neg (i_lt0 hi), tp_size ht, zb1_s, zb1_s, h]
  by_cases q : z < n
  · rw [if_pos ((i_lt (by omega) hn).mpr q), if_neg (by omega)]
  · rw [if_neg (fun w => q ((i_lt (by omega) hn).mp w))]
    by_cases q2 : z < n + i
    · rw [if_pos ((i_subl (by omega) hn hi).mpr q2), if_neg (by omega)]
    · rw [if_neg (fun w => q2 ((i_subl (by omega) hn hi).mp w)), if_pos (by omega)]
theorem run_n {m : zv_M} {t : Nat} {x y : Int32} (ht : t < 6) (hx : x < 0 ∨ y < 0) : fTa_hasRun (Int32.ofNat t) x y m = some 0 := by
  rw [fTa_hasRun]
  by_cases q : y < 0
  · rw [if_pos q]
  · rw [if_neg q, if_pos (hx.resolve_right q)]
/-- a range of long cells -/
def wP (m : zv_M) (a b : Nat) (g : Nat → Int64) (n : Nat) : zv_M := (m.1, fun o k => if o = a ∧ b ≤ k ∧ k < b + n then g (k - b) else m.2 o k)
theorem wP_0 (m : zv_M) (a b : Nat) (g : Nat → Int64) : wP m a b g 0 = m := by
  unfold wP
  have : (fun o k => if o = a ∧ b ≤ k ∧ k < b + 0 then g (k - b) else m.2 o k) = m.2 := by
    funext o k
    rw [if_neg (by omega)]
  rw [this]
theorem wP_s (m : zv_M) (a b : Nat) (g : Nat → Int64) (n : Nat) : wL (wP m a b g n) a (b + n) (g n) = wP m a b g (n + 1) := by
  unfold wL wP
  congr 1
  funext o k
  show (if o = a ∧ k = b + n then g n else if o = a ∧ b ≤ k ∧ k < b + n then g (k - b) else m.2 o k) = if o = a ∧ b ≤ k ∧ k < b + (n + 1) then g (k - b) else m.2 o k
  by_cases h1 : o = a ∧ k = b + n
  · rw [if_pos h1, if_pos (by omega), h1.2, Nat.add_sub_cancel_left]
  · rw [if_neg h1]
    by_cases h2 : o = a ∧ b ≤ k ∧ k < b + n
    · rw [if_pos h2, if_pos (by omega)]
    · rw [if_neg h2, if_neg (by omega)]
theorem wP_e (m : zv_M) {a b k n : Nat} (g : Nat → Int64) (h : b ≤ k ∧ k < b + n) : (wP m a b g n).2 a k = g (k - b) := if_pos ⟨rfl, h⟩
theorem wP_o (m : zv_M) {a b o k n : Nat} (g : Nat → Int64) (h : ¬ (o = a ∧ b ≤ k ∧ k < b + n)) : (wP m a b g n).2 o k = m.2 o k := if_neg h
theorem shift_l1 {m : zv_M} {t i n : Nat} (ht : t < 6) (h : n + i ≤ 60) : whileN zFU (fM_shift_l104 (Int32.ofNat t) (Int32.ofNat i) (Int32.ofNat n)) (0, m) = some (wP m 114 0 (fun k => m.2 113 (60 * t + i + k)) n) := by
  have e := wn_eq (fM_shift_l104 (Int32.ofNat t) (Int32.ofNat i) (Int32.ofNat n)) (fun k => (Int32.ofNat k, wP m 114 0 (fun k => m.2 113 (60 * t + i + k)) k)) n (wP m 114 0 (fun k => m.2 113 (60 * t + i + k)) n) (by omega) (fun k hk => by
    have e := wP_s m 114 0 (fun k => m.2 113 (60 * t + i + k)) k
    rw [Nat.zero_add] at e
    show fM_shift_l104 _ _ _ (_, _) = _
    rw [fM_shift_l104, if_pos ((i_lt (by omega) (by omega)).mpr hk), tp_ix.2, i_pl, zI_n (by omega) (by omega), zg_t, zI_n (by omega) (by omega), zg_t, i_tn (by omega), i_tn (by omega), inc, wP_o _ _ (by omega), e]) (by
    show fM_shift_l104 _ _ _ (_, _) = _
    rw [fM_shift_l104, if_neg (fun q => by have := (i_lt (by omega) (by omega)).mp q; omega)])
  rw [wP_0] at e
  exact e
theorem shift_l2 {m : zv_M} {t i n : Nat} (ht : t < 6) (h : n + i ≤ 60) : whileN zFU (fM_shift_l141 (Int32.ofNat t) (Int32.ofNat i) (Int32.ofNat n)) (0, m) = some (Int32.ofNat n, wP m 113 (60 * t + i) (fun k => m.2 114 k) n) := by
  have e := wn_eq (fM_shift_l141 (Int32.ofNat t) (Int32.ofNat i) (Int32.ofNat n)) (fun k => (Int32.ofNat k, wP m 113 (60 * t + i) (fun k => m.2 114 k) k)) n (Int32.ofNat n, wP m 113 (60 * t + i) (fun k => m.2 114 k) n) (by omega) (fun k hk => by
    have e := wP_s m 113 (60 * t + i) (fun k => m.2 114 k) k
    show fM_shift_l141 _ _ _ (_, _) = _
    rw [fM_shift_l141, if_pos ((i_lt (by omega) (by omega)).mpr hk), tp_ix.2, i_pl, zI_n (by omega) (by omega), zg_t, zI_n (by omega) (by omega), zg_t, i_tn (by omega), i_tn (by omega), inc, wP_o _ _ (by omega), e]) (by
    show fM_shift_l141 _ _ _ (_, _) = _
    rw [fM_shift_l141, if_neg (fun q => by have := (i_lt (by omega) (by omega)).mp q; omega)])
  rw [wP_0] at e
  exact e
theorem O_shift_ok : O_shift INV := fun m h x1 x2 x3 x4 x5 => by
  have h' := h
  obtain ⟨y, hN, hK, hB, hA, hT, hR, hP, hO, hY⟩ := h
  rcases i_cases x1 with hx | ⟨t, ht, rfl⟩
  · exact ⟨-1, m, m, by rw [fN_shift, (tape_neg hx).1]; rfl, by rw [fM_shift, (tape_neg hx).2]; rfl, h'⟩
  by_cases h1 : t < 6
  · have c1 : fTa_isTape (Int32.ofNat t) = some 1 := by rw [(tape_nat ht).1, if_pos h1]
    have c2 : fM_isTape (Int32.ofNat t) = some 1 := by rw [(tape_nat ht).2, if_pos h1]
    rcases i_cases x3 with hx | ⟨o, ho, rfl⟩
    · exact ⟨-1, m, m, by rw [fN_shift, c1, zb1_s, if_neg (by decide), (tape_neg hx).1]; rfl, by rw [fM_shift, c2, zb1_s, if_neg (by decide), (tape_neg hx).2]; rfl, h'⟩
    by_cases h2 : o < 6
    · have c3 : fTa_isTape (Int32.ofNat o) = some 1 := by rw [(tape_nat ho).1, if_pos h2]
      have c4 : fM_isTape (Int32.ofNat o) = some 1 := by rw [(tape_nat ho).2, if_pos h2]
      obtain ⟨b1, b2, ⟨z, hz, b3, b4⟩, b5, b7⟩ := hP t h1
      obtain ⟨d1, d2, ⟨w, hw, d3, d4⟩, d5, d7⟩ := hP o h2
      have b6 : m.1 66 t = Int32.ofNat z := b2.trans b3
      have d6 : m.1 66 o = Int32.ofNat w := d2.trans d3
      have kk : ∀ (a : Int32) (r : Nat), r < 5 → a = Int32.ofNat r → (¬ a = -1) ∧ ¬ a < 0 := fun a r hr e => by
        subst e
        exact ⟨i_ne (by omega) (by decide), i_lt0 (by omega)⟩
      rcases b4 with ⟨b4, -⟩ | ⟨q, hq, b4⟩
      · exact ⟨-11, m, m, by rw [fN_shift, c1, zb1_s, if_neg (by decide), c3, zb1_s, if_neg (by decide), fTa_holdsNothing, tp_sort h1, b1, b4]; rfl, by rw [fM_shift, c2, zb1_s, if_neg (by decide), c4, zb1_s, if_neg (by decide), zI_n ht h1, zg_t, i_tn ht, b4]; rfl, h'⟩
      obtain ⟨q1, q2⟩ := kk _ q hq rfl
      rcases d4 with ⟨d4, -⟩ | ⟨r, hr, d4⟩
      · exact ⟨-11, m, m, by rw [fN_shift, c1, zb1_s, if_neg (by decide), c3, zb1_s, if_neg (by decide), fTa_holdsNothing, tp_sort h1, b1, b4, zb1_s, if_neg q1, zb1_s, if_pos (by decide), fTa_holdsNothing, tp_sort h2, d1, d4]; rfl, by rw [fM_shift, c2, zb1_s, if_neg (by decide), c4, zb1_s, if_neg (by decide), zI_n ht h1, zg_t, i_tn ht, b4, if_neg q2, zI_n ho h2, zg_t, i_tn ho, d4]; rfl, h'⟩
      obtain ⟨r1, r2⟩ := kk _ r hr rfl
      have preN : fN_shift (Int32.ofNat t) x2 (Int32.ofNat o) x4 x5 m = if Int32.ofNat q = Int32.ofNat r then zb1 (fTa_hasRun (Int32.ofNat t) x2 x5 m) (fun r13 => if r13 = 0 then some (-13, m) else zb1 (fTa_hasRun (Int32.ofNat o) x4 x5 m) (fun r15 => if r15 = 0 then some (-13, m) else zb1 (fTa_move (Int32.ofNat t) x2 (Int32.ofNat o) x4 x5 m) (fun m17 => some (x5, m17)))) else some (-12, m) := by
        rw [fN_shift, c1, zb1_s, if_neg (by decide), c3, zb1_s, if_neg (by decide), fTa_holdsNothing, tp_sort h1, b1, b4, zb1_s, if_neg q1, zb1_s, if_pos (by decide), fTa_holdsNothing, tp_sort h2, d1, d4, zb1_s, if_neg r1, zb1_s, if_pos (by decide), zb1_s, zb1_s]
      have preM : ∀ M : zv_M, M.1 = m.1 → fM_shift (Int32.ofNat t) x2 (Int32.ofNat o) x4 x5 M = if Int32.ofNat q = Int32.ofNat r then if x5 < 0 then some (-13, M) else if x2 < 0 then some (-13, M) else if x4 < 0 then some (-13, M) else if Int32.ofNat z - x5 < x2 then some (-13, M) else if Int32.ofNat w - x5 < x4 then some (-13, M) else zb1 (whileN zFU (fM_shift_l104 (Int32.ofNat t) x2 x5) (0, M)) (fun m8 => zb1 (whileN zFU (fM_shift_l141 (Int32.ofNat o) x4 x5) (0, m8)) (fun r => some r)) else some (-12, M) := fun M hM => by
        rw [fM_shift, c2, zb1_s, if_neg (by decide), c4, zb1_s, if_neg (by decide), zI_n ht h1, zg_t, i_tn ht, hM, b4, if_neg q2, zI_n ho h2, zg_t, i_tn ho, d4, if_neg r2, zg_t, zg_t, b3, d3, zg_t, zg_t]
      by_cases h3 : Int32.ofNat q = Int32.ofNat r
      · rw [if_pos h3] at preN
        have bad : fTa_hasRun (Int32.ofNat t) x2 x5 m = some 0 ∨ (fTa_hasRun (Int32.ofNat t) x2 x5 m = some 1 ∧ fTa_hasRun (Int32.ofNat o) x4 x5 m = some 0) → (x5 < 0 ∨ x2 < 0 ∨ x4 < 0 ∨ Int32.ofNat z - x5 < x2 ∨ Int32.ofNat w - x5 < x4) → ∃ (r : Int32) (m1 : zv_M) (m2 : zv_M), fN_shift (Int32.ofNat t) x2 (Int32.ofNat o) x4 x5 m = some (r, m1) ∧ fM_shift (Int32.ofNat t) x2 (Int32.ofNat o) x4 x5 m1 = some (r, m2) ∧ INV m2 := fun g1 g2 => by
          refine ⟨-13, m, m, ?_, ?_, h'⟩
          · rw [preN]
            rcases g1 with g1 | ⟨g1, g3⟩
            · rw [g1]; rfl
            · rw [g1, zb1_s, if_neg (by decide), g3]; rfl
          · rw [preM m rfl, if_pos h3]
            by_cases a1 : x5 < 0
            · rw [if_pos a1]
            rw [if_neg a1]
            by_cases a2 : x2 < 0
            · rw [if_pos a2]
            rw [if_neg a2]
            by_cases a3 : x4 < 0
            · rw [if_pos a3]
            rw [if_neg a3]
            by_cases a4 : Int32.ofNat z - x5 < x2
            · rw [if_pos a4]
            rw [if_neg a4, if_pos ((((g2.resolve_left a1).resolve_left a2).resolve_left a3).resolve_left a4)]
        rcases i_cases x5 with hx5 | ⟨n, hn, rfl⟩
        · exact bad (Or.inl (run_n h1 (Or.inr hx5))) (Or.inl hx5)
        rcases i_cases x2 with hx2 | ⟨i, hi, rfl⟩
        · exact bad (Or.inl (run_n h1 (Or.inl hx2))) (Or.inr (Or.inl hx2))
        have g1 := run_ok (m := m) h1 b6 hz hi hn
        by_cases k1 : n + i ≤ z
        · rw [if_pos k1] at g1
          rcases i_cases x4 with hx4 | ⟨j, hj, rfl⟩
          · exact bad (Or.inr ⟨g1, run_n h2 (Or.inl hx4)⟩) (Or.inr (Or.inr (Or.inl hx4)))
          have g2 := run_ok (m := m) h2 d6 hw hj hn
          by_cases k2 : n + j ≤ w
          · rw [if_pos k2] at g2
            have hmv : fTa_move (Int32.ofNat t) (Int32.ofNat i) (Int32.ofNat o) (Int32.ofNat j) (Int32.ofNat n) m = some (wC m 67 (60 * t + i) 67 (60 * o + j) n) := by
              have zk : zKc (Int32.ofNat (60 * t + i)) (Int32.ofNat (60 * o + j)) (Int32.ofNat n) 360 360 = true := by
                rw [zKc, i_tn (a := 60 * t + i) (by omega), i_tn (a := 60 * o + j) (by omega), i_tn hn, decide_eq_false (i_lt0 (by omega)), decide_eq_false (i_lt0 (by omega)), decide_eq_false (i_lt0 hn), decide_eq_true (show 60 * t + i + n ≤ 360 by omega), decide_eq_true (show 60 * o + j + n ≤ 360 by omega)]
                rfl
              rw [fTa_move, c1, zb1_s, if_neg (by decide), c3, zb1_s, if_neg (by decide), g1, zb1_s, if_neg (by decide), g2, zb1_s, if_neg (by decide), tp_ix.1, tp_ix.1, zk, zg_t, i_tn (by omega), i_tn (by omega), i_tn hn]
            refine ⟨Int32.ofNat n, wC m 67 (60 * t + i) 67 (60 * o + j) n, wP (wP (wC m 67 (60 * t + i) 67 (60 * o + j) n) 114 0 (fun k => (wC m 67 (60 * t + i) 67 (60 * o + j) n).2 113 (60 * t + i + k)) n) 113 (60 * o + j) (fun k => (wP (wC m 67 (60 * t + i) 67 (60 * o + j) n) 114 0 (fun k => (wC m 67 (60 * t + i) 67 (60 * o + j) n).2 113 (60 * t + i + k)) n).2 114 k) n, ?_, ?_, ?_⟩
            · rw [preN, g1, zb1_s, if_neg (by decide), g2, zb1_s, if_neg (by decide), hmv, zb1_s]
            · rw [preM (wC m 67 (60 * t + i) 67 (60 * o + j) n) rfl, if_pos h3, if_neg (i_lt0 hn), if_neg (i_lt0 hi), if_neg (i_lt0 hj), if_neg (fun q => by have := (i_subl (by omega) hn hi).mp q; omega), if_neg (fun q => by have := (i_subl (by omega) hn hj).mp q; omega), shift_l1 h1 (by omega), zb1_s, shift_l2 h2 (by omega), zb1_s]
            · have A : ∀ K, ag K m (wP (wP (wC m 67 (60 * t + i) 67 (60 * o + j) n) 114 0 (fun k => (wC m 67 (60 * t + i) 67 (60 * o + j) n).2 113 (60 * t + i + k)) n) 113 (60 * o + j) (fun k => (wP (wC m 67 (60 * t + i) 67 (60 * o + j) n) 114 0 (fun k => (wC m 67 (60 * t + i) 67 (60 * o + j) n).2 113 (60 * t + i + k)) n).2 114 k) n) := fun K => ag_r m
              refine ⟨y, fNow (A _) hN, fKp (A _) hK, fBo (A _) hB, fBa (A _) hA, fTx (A _) hT, fTr (A _) hR, fun t' ht' => ?_, fKo (A _) hO, fYd (A _) hY⟩
              obtain ⟨s1, s2, s3, s4, s5⟩ := hP t' ht'
              refine ⟨s1, s2, s3, fun k hk => ?_, fun q4 k hk => ?_⟩
              rotate_left
              · have q4' : m.1 111 t' = 4 := q4
                by_cases c : 60 * o + j ≤ 60 * t' + k ∧ 60 * t' + k < 60 * o + j + n
                · obtain rfl : t' = o := by omega
                  have q5 : m.1 111 t = 4 := by rw [b4, h3, ← d4, q4']
                  rw [wP_e _ _ c, wP_e _ _ (by omega), Nat.sub_zero, show (wC m 67 (60 * t + i) 67 (60 * t' + j) n).2 113 = m.2 113 from rfl, Nat.add_assoc]
                  exact b7 q5 (i + (60 * t' + k - (60 * t' + j))) (by omega)
                · rw [wP_o _ _ (by omega), wP_o _ _ (by omega), show (wC m 67 (60 * t + i) 67 (60 * o + j) n).2 113 = m.2 113 from rfl]
                  exact s5 q4' k hk
              have L : (wP (wP (wC m 67 (60 * t + i) 67 (60 * o + j) n) 114 0 (fun k => (wC m 67 (60 * t + i) 67 (60 * o + j) n).2 113 (60 * t + i + k)) n) 113 (60 * o + j) (fun k => (wP (wC m 67 (60 * t + i) 67 (60 * o + j) n) 114 0 (fun k => (wC m 67 (60 * t + i) 67 (60 * o + j) n).2 113 (60 * t + i + k)) n).2 114 k) n).2 67 (60 * t' + k) = if 60 * o + j ≤ 60 * t' + k ∧ 60 * t' + k < 60 * o + j + n then m.2 67 (60 * t + i + (60 * t' + k - (60 * o + j))) else m.2 67 (60 * t' + k) := rfl
              rw [L]
              by_cases c : 60 * o + j ≤ 60 * t' + k ∧ 60 * t' + k < 60 * o + j + n
              · have u := b5 (i + (60 * t' + k - (60 * o + j))) (by omega)
                rw [if_pos c, wP_e _ _ c, wP_e _ _ (by omega), Nat.sub_zero, show (wC m 67 (60 * t + i) 67 (60 * o + j) n).2 113 = m.2 113 from rfl, Nat.add_assoc, u]
              · rw [if_neg c, wP_o _ _ (by omega), wP_o _ _ (by omega), show (wC m 67 (60 * t + i) 67 (60 * o + j) n).2 113 = m.2 113 from rfl, s4 k hk]
          · rw [if_neg k2] at g2
            exact bad (Or.inr ⟨g1, g2⟩) (Or.inr (Or.inr (Or.inr (Or.inr ((i_subl (by omega) hn hj).mpr (by omega))))))
        · rw [if_neg k1] at g1
          exact bad (Or.inl g1) (Or.inr (Or.inr (Or.inr (Or.inl ((i_subl (by omega) hn hi).mpr (by omega))))))
      · rw [if_neg h3] at preN
        exact ⟨-12, m, m, preN, by rw [preM m rfl, if_neg h3], h'⟩
    · exact ⟨-1, m, m, by rw [fN_shift, c1, zb1_s, if_neg (by decide), (tape_nat ho).1, if_neg h2]; rfl, by rw [fM_shift, c2, zb1_s, if_neg (by decide), (tape_nat ho).2, if_neg h2]; rfl, h'⟩
  · exact ⟨-1, m, m, by rw [fN_shift, (tape_nat ht).1, if_neg h1]; rfl, by rw [fM_shift, (tape_nat ht).2, if_neg h1]; rfl, h'⟩
