/-! The class's squares of a test. -/
theorem divW {W x y : Nat} (hx : x < W) : (y * W + x) / W = y ∧ (y * W + x) % W = x := by
  have hW : 0 < W := by omega
  constructor
  · rw [Nat.mul_comm, Nat.mul_add_div hW, Nat.div_eq_of_lt hx, Nat.add_zero]
  · rw [Nat.mul_comm, Nat.mul_add_mod, Nat.mod_eq_of_lt hx]
theorem n_fct {W x y l pl : Nat} {m : zv_M} (h9 : m.1 33 9 = Int32.ofNat W) (hW : W ≤ 5) (hx : x < W) (hy : y < W) (hp : plc l = some pl) : fRe_numberOf (Int32.ofNat l) (Int32.ofNat x) (Int32.ofNat y) m = some (Int32.ofNat (fct W pl (y * W + x))) ∧ l < 128 := by
  obtain ⟨d1, d2⟩ := divW (y := y) hx
  have lt : (Int32.ofNat x < Int32.ofNat y) = (x < y) := propext (i_lt (by omega) (by omega))
  unfold plc at hp
  by_cases q1 : l = 100
  · subst q1
    obtain rfl : 3 = pl := by simpa using hp
    refine ⟨?_, by decide⟩
    have ef : fct W 3 (y * W + x) = apx x y := by rw [fct, if_neg (by decide), if_neg (by decide), if_neg (by decide), if_pos (by decide), d1, d2]
    rw [fRe_numberOf, if_pos (show Int32.ofNat 100 = 100 from rfl), ef, apx]
    simp only [lt]
    by_cases q : x < y
    · rw [if_pos q, if_pos q, i_mi (by omega) (by omega)]
    · rw [if_neg q, if_neg q, i_mi (by omega) (by omega)]
  rw [if_neg q1] at hp
  by_cases q2 : l = 110
  · subst q2
    obtain rfl : 4 = pl := by simpa using hp
    refine ⟨?_, by decide⟩
    rw [fRe_numberOf, if_neg (by decide), if_pos (by decide), h9, i_mu, i_pl]
    rfl
  rw [if_neg q2] at hp
  by_cases q3 : l = 115
  · subst q3
    obtain rfl : 2 = pl := by simpa using hp
    refine ⟨?_, by decide⟩
    rw [fRe_numberOf, if_neg (by decide), if_neg (by decide), if_pos (by decide), i_pl, fct, if_neg (by decide), if_neg (by decide), if_pos (by decide), d1, d2]
  rw [if_neg q3] at hp
  by_cases q4 : l = 119
  · subst q4
    obtain rfl : 5 = pl := by simpa using hp
    refine ⟨?_, by decide⟩
    rw [fRe_numberOf, if_neg (by decide), if_neg (by decide), if_neg (by decide), if_neg (by decide), if_neg (by decide), h9]
    rfl
  rw [if_neg q4] at hp
  by_cases q5 : l = 120
  · subst q5
    obtain rfl : 0 = pl := by simpa using hp
    refine ⟨?_, by decide⟩
    rw [fRe_numberOf, if_neg (by decide), if_neg (by decide), if_neg (by decide), if_pos (by decide), fct, if_pos (by decide), d2]
  rw [if_neg q5] at hp
  by_cases q6 : l = 121
  · subst q6
    obtain rfl : 1 = pl := by simpa using hp
    refine ⟨?_, by decide⟩
    rw [fRe_numberOf, if_neg (by decide), if_neg (by decide), if_neg (by decide), if_neg (by decide), if_pos (by decide), fct, if_neg (by decide), if_pos (by decide), d1]
  rw [if_neg q6] at hp
  cases hp
theorem fct_le {W pl s : Nat} (hW : W ≤ 5) (hs : s < 25) : fct W pl s ≤ 60 := by
  have h1 : s % W ≤ s := Nat.mod_le _ _
  have h2 : s / W ≤ s := Nat.div_le_self _ _
  have h3 := apx_le (s % W) (s / W)
  unfold fct
  generalize s % W = a at *
  generalize s / W = b at *
  generalize apx a b = c at *
  split
  · omega
  split
  · omega
  split
  · omega
  split
  · omega
  split <;> omega
theorem n_sqs {W l pl op v : Nat} {m : zv_M} (h9 : m.1 33 9 = Int32.ofNat W) (h2 : 2 ≤ W) (hW : W ≤ 5) (hp : plc l = some pl) (ho : op < 3) (hv : v < 100) : fRe_squaresOf (Int32.ofNat l) (Int32.ofNat (60 + op)) (Int32.ofNat v) m = some (Int32.ofNat (evS W (xT pl op v))) := by
  have hWW : W * W ≤ 5 * 5 := Nat.mul_le_mul hW hW
  have inner : ∀ y, y < W → whileN zFU (fRe_squaresOf_l18 (Int32.ofNat l) (Int32.ofNat (60 + op)) (Int32.ofNat v) m (Int32.ofNat y)) (Int32.ofNat (bs (fun s => (xT pl op v).1 W s) (y * W)), 0) = some (Int32.ofNat (bs (fun s => (xT pl op v).1 W s) ((y + 1) * W))) := fun y hy => by
    have hyW : y * W + W ≤ W * W := by
      have := Nat.mul_le_mul_right W (show y + 1 ≤ W from hy)
      rw [Nat.succ_mul] at this
      exact this
    have e := wn_eq (fRe_squaresOf_l18 (Int32.ofNat l) (Int32.ofNat (60 + op)) (Int32.ofNat v) m (Int32.ofNat y)) (fun x => (Int32.ofNat (bs (fun s => (xT pl op v).1 W s) (y * W + x)), Int32.ofNat x)) W (Int32.ofNat (bs (fun s => (xT pl op v).1 W s) (y * W + W))) (by omega) (fun x hx => by
      have hf := fct_le (pl := pl) hW (show y * W + x < 25 by omega)
      have l1 : (Int32.ofNat (fct W pl (y * W + x)) < Int32.ofNat v) = (fct W pl (y * W + x) < v) := propext (i_lt (by omega) (by omega))
      have l2 : (Int32.ofNat (fct W pl (y * W + x)) = Int32.ofNat v) = (fct W pl (y * W + x) = v) := propext (i_eq (by omega) (by omega))
      have l3 : (Int32.ofNat v < Int32.ofNat (fct W pl (y * W + x))) = (v < fct W pl (y * W + x)) := propext (i_lt (by omega) (by omega))
      show fRe_squaresOf_l18 _ _ _ _ _ (_, _) = some (.inl (Int32.ofNat (bs _ (y * W + x + 1)), _))
      rw [fRe_squaresOf_l18, h9, if_pos ((i_lt (by omega) (by omega)).mpr hx), (n_fct h9 hW hx hy hp).1, zb1_s]
      simp only [fRe_squaresOf_j50, fRe_squaresOf_j62, fRe_squaresOf_j74, h9, i_mu, i_pl, inc, n_sh (y * W + x) (by omega), n_or, l1, l2, l3, bs_s]
      rcases (show op = 0 ∨ op = 1 ∨ op = 2 by omega) with rfl | rfl | rfl
      · rw [if_pos (show Int32.ofNat (60 + 0) = 60 from rfl), if_neg (show ¬ Int32.ofNat (60 + 0) = 61 by decide), if_neg (show ¬ Int32.ofNat (60 + 0) = 62 by decide)]
        by_cases q : fct W pl (y * W + x) < v
        · rw [if_pos q, if_pos (show (xT pl 0 v).1 W (y * W + x) = true from decide_eq_true q)]
        · rw [if_neg q, if_neg (show ¬ (xT pl 0 v).1 W (y * W + x) = true from fun z => q (of_decide_eq_true z)), Nat.or_zero]
      · rw [if_neg (show ¬ Int32.ofNat (60 + 1) = 60 by decide), if_pos (show Int32.ofNat (60 + 1) = 61 from rfl), if_neg (show ¬ Int32.ofNat (60 + 1) = 62 by decide)]
        by_cases q : fct W pl (y * W + x) = v
        · rw [if_pos q, if_pos (show (xT pl 1 v).1 W (y * W + x) = true from decide_eq_true q)]
        · rw [if_neg q, if_neg (show ¬ (xT pl 1 v).1 W (y * W + x) = true from fun z => q (of_decide_eq_true z)), Nat.or_zero]
      · rw [if_neg (show ¬ Int32.ofNat (60 + 2) = 60 by decide), if_neg (show ¬ Int32.ofNat (60 + 2) = 61 by decide), if_pos (show Int32.ofNat (60 + 2) = 62 from rfl)]
        by_cases q : v < fct W pl (y * W + x)
        · rw [if_pos q, if_pos (show (xT pl 2 v).1 W (y * W + x) = true from decide_eq_true q)]
        · rw [if_neg q, if_neg (show ¬ (xT pl 2 v).1 W (y * W + x) = true from fun z => q (of_decide_eq_true z)), Nat.or_zero]) (by
      show fRe_squaresOf_l18 _ _ _ _ _ (_, _) = _
      rw [fRe_squaresOf_l18, h9, if_neg (fun z => by have := (i_lt (by omega) (by omega)).mp z; omega)])
    rw [Nat.succ_mul]
    exact e
  have e := wn_eq (fRe_squaresOf_l6 (Int32.ofNat l) (Int32.ofNat (60 + op)) (Int32.ofNat v) m) (fun y => (Int32.ofNat (bs (fun s => (xT pl op v).1 W s) (y * W)), Int32.ofNat y)) W (Int32.ofNat (evS W (xT pl op v))) (by omega) (fun y hy => by
    show fRe_squaresOf_l6 _ _ _ _ (_, _) = _
    rw [fRe_squaresOf_l6, h9, if_pos ((i_lt (by omega) (by omega)).mpr hy), inner y hy, zb1_s, inc]) (by
    show fRe_squaresOf_l6 _ _ _ _ (_, _) = _
    rw [fRe_squaresOf_l6, h9, if_neg (fun z => by have := (i_lt (by omega) (by omega)).mp z; omega)]
    rfl)
  have e' : whileN zFU (fRe_squaresOf_l6 (Int32.ofNat l) (Int32.ofNat (60 + op)) (Int32.ofNat v) m) (0, 0) = some (Int32.ofNat (evS W (xT pl op v))) := by
    have z : (0 : Int32) = Int32.ofNat (bs (fun s => (xT pl op v).1 W s) (0 * W)) := by
      rw [Nat.zero_mul]
      rfl
    have := e
    simp only [Nat.zero_mul] at this
    exact this
  rw [fRe_squaresOf, e', zb1_s]
