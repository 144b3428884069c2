/-! yard on both sides. -/
theorem tx_L {m : zv_M} {n : Nat} (hn : n ≤ 100) (h : ∀ i, i < n → m.1 34 i = m.1 73 i ∧ ∃ q : Nat, q < 128 ∧ m.1 73 i = Int32.ofNat q) : ∃ L, LT L n ∧ (∀ p, p < n → m.1 34 p = cI (L p)) ∧ ∀ p, p < n → m.1 73 p = cI (L p) := by
  have key : ∀ p, p < n → (m.1 73 p).toNatClampNeg < 128 ∧ m.1 73 p = cI (m.1 73 p).toNatClampNeg := fun p hp => by
    obtain ⟨-, q, hq, e⟩ := h p hp
    rw [e, i_tn (by omega), cI, if_neg (by omega)]
    exact ⟨hq, rfl⟩
  refine ⟨fun p => if p < n then (m.1 73 p).toNatClampNeg else 200, ⟨hn, fun p hp => ?_, fun p hp => ?_⟩, fun p hp => ?_, fun p hp => ?_⟩
  · show (if p < n then (m.1 73 p).toNatClampNeg else 200) < 128
    rw [if_pos hp]
    exact (key p hp).1
  · show (if p < n then (m.1 73 p).toNatClampNeg else 200) = 200
    rw [if_neg (by omega)]
  · show m.1 34 p = cI (if p < n then (m.1 73 p).toNatClampNeg else 200)
    rw [if_pos hp, (h p hp).1]
    exact (key p hp).2
  · show m.1 73 p = cI (if p < n then (m.1 73 p).toNatClampNeg else 200)
    rw [if_pos hp]
    exact (key p hp).2
theorem men_c {m m' : zv_M} (h : ∀ k, m'.1 72 k = m.1 72 k) : fM_men m' = fM_men m := by
  have e : fM_men_l4 m' = fM_men_l4 m := by
    funext x
    obtain ⟨a, b⟩ := x
    rw [fM_men_l4, fM_men_l4, h]
  rw [fM_men, fM_men, e]
theorem r_takeAll {m : zv_M} {v r : Int32} (h1 : fM_men m = some v) (h2 : fM_ones v = some r) : fM_takeAll m = some (r, vF m 72 (fun _ => -1) 25) := by
  have e := wn_eq (fM_takeAll_l11 r) (fun i => (Int32.ofNat i, vF m 72 (fun _ => -1) i)) 25 (r, vF m 72 (fun _ => -1) 25) (by decide) (fun i hi => by
    show fM_takeAll_l11 _ (_, _) = _
    rw [fM_takeAll_l11, if_pos (c25 hi), zI_n (by omega) hi, zg_t, i_tn (by omega), inc, vF_s (g := fun _ => (-1 : Int32))]) (by
    show fM_takeAll_l11 _ (_, _) = _
    rw [fM_takeAll_l11, if_neg (by decide)])
  rw [vF_0] at e
  rw [fM_takeAll, h1, zb1_s, h2, zb1_s]
  exact congrArg (fun z => zb1 z (fun r => some r)) e
theorem n_leave (m : zv_M) : fSt_leaveBoard 1 m = some (wI (wI (wI (wI (vF m 8 (fun _ => -1) 25) 9 1 0) 11 1 0) 13 1 0) 15 1 0) := by
  rw [fSt_leaveBoard, fSt_takeAllMen, show zrf 1 3 = 8 from rfl, g_fill (N := 25) rfl (by decide)]
  rfl
theorem zrf35 : ∀ y, y < 6 → zrf 35 y = 36 + y := by decide
theorem zB01 {n : Nat} (h : n ≤ 1) : zB (Int32.ofNat n) = true := by
  rcases (show n = 0 ∨ n = 1 by omega) with rfl | rfl <;> decide
theorem n_layOut {m : zv_M} {o R : Nat} {W H B : Nat} (h2 : m.1 33 2 = Int32.ofNat W) (h3 : m.1 33 3 = Int32.ofNat R) (h4 : m.1 33 4 = Int32.ofNat H) (h5 : m.1 33 5 = Int32.ofNat B) (hR : R ≤ 1) (ho : ¬ o = 33) : fYa_layOut o 33 m = some (wI (wI (wI (wI m o 0 (Int32.ofNat W)) o 1 (Int32.ofNat R)) o 2 (Int32.ofNat H)) o 3 (Int32.ofNat (H ||| B))) := by
  have x : ∀ k k' v, (wI m o k v).1 33 k' = m.1 33 k' := fun k k' v => wI_o _ _ (by omega)
  have x2 : ∀ k k' v, ∀ m' : zv_M, (wI m' o k v).1 33 k' = m'.1 33 k' := fun k k' v m' => wI_o _ _ (by omega)
  rw [fYa_layOut]
  simp only [x2, h2, h3, h4, h5, n_or]
  rw [zB01 hR, zg_t]
/-- what the class changes -/
def chN (y o k : Nat) : Prop := (o = 33 ∧ 1 ≤ k ∧ k ≤ 9) ∨ (o = 36 + y ∧ k ≤ 3) ∨ (o = 8 ∧ k < 25) ∨ ((o = 9 ∨ o = 11 ∨ o = 13 ∨ o = 15) ∧ k = 1) ∨ (o = 1 ∧ k = 8) ∨ (o = 0 ∧ k = 6)
theorem yN_ok {m : zv_M} {y n : Nat} {L : Nat → Nat} {B : List Cl} (hy : y < 6) (h06 : m.1 0 6 = Int32.ofNat y) (hL : LT L n) (h33 : m.1 33 1 = Int32.ofNat n) (h34 : ∀ p, p < n → m.1 34 p = cI (L p)) (hp : pL L 10 [] 0 = .inr B) : ∃ m1, fN_yard m = some (Int32.ofNat y, m1) ∧ m1.2 = m.2 ∧ (∀ o k, ¬ chN y o k → m1.1 o k = m.1 o k) ∧ m1.1 33 1 = 0 ∧ (m1.1 (36 + y) 0 = Int32.ofNat (fo4 B B.length).1 ∧ m1.1 (36 + y) 1 = Int32.ofNat (fo4 B B.length).2.1 ∧ m1.1 (36 + y) 2 = Int32.ofNat (hS 1 (fo4 B B.length).1 B) ∧ m1.1 (36 + y) 3 = Int32.ofNat (hS 1 (fo4 B B.length).1 B ||| hS 2 (fo4 B B.length).1 B)) ∧ (∀ s, s < 25 → m1.1 8 s = -1) ∧ (m1.1 9 1 = 0 ∧ m1.1 11 1 = 0 ∧ m1.1 13 1 = 0 ∧ m1.1 15 1 = 0) ∧ m1.1 1 8 = Int32.ofNat y ∧ m1.1 0 6 = Int32.ofNat (y + 1) := by
  have c1 := n_cls (W := 4) hL h33 h34 ⟨by decide, by decide⟩
  rw [hp] at c1
  obtain ⟨m3, a1, a2, a3, -, -, -⟩ := c1
  have a1 : fRe_readClauses 4 m = some (-1, m3) := a1
  have eB : fo4 B B.length = B.foldl (apC 4) (4, 0, 0, 0) := by
    unfold fo4
    rw [List.take_length]
  have hW : 2 ≤ (fo4 B B.length).1 ∧ (fo4 B B.length).1 ≤ 5 ∧ (fo4 B B.length).2.1 ≤ 1 := fo_r 4 _ _ ⟨by decide, by decide, by decide⟩
  rw [← eB] at a3
  have c2 := n_cls (m := m3) (W := (fo4 B B.length).1) hL ((a2.2 _ _ (by omega)).trans h33) (fun p hp => (a2.2 _ _ (by omega)).trans (h34 p hp)) ⟨hW.1, hW.2.1⟩
  rw [hp] at c2
  obtain ⟨m9, b1, b2, b3, b4, b5, b6⟩ := c2
  obtain ⟨f1, f2⟩ := fo_1 (fo4 B B.length).1 4 B (4, 0, 0, 0) (4, 0, 0, 0) rfl rfl
  obtain ⟨f3, f4⟩ := fo_H (fo4 B B.length).1 B (4, 0, 0, 0)
  rw [f1, ← eB] at b3
  rw [f2, ← eB] at b4
  rw [f3, Nat.zero_or] at b5
  rw [f4, Nat.zero_or] at b6
  generalize hW' : (fo4 B B.length).1 = W at *
  generalize hR' : (fo4 B B.length).2.1 = R at *
  generalize hS 1 W B = H at *
  generalize hS 2 W B = Bb at *
  have x9 : ∀ o k, ¬ (o = 33 ∧ 1 ≤ k ∧ k ≤ 9) → (wI m9 33 1 0).1 o k = m.1 o k := fun o k q => by
    rw [wI_o _ _ (by omega), b2.2 _ _ (by omega), a2.2 _ _ (by omega)]
  have e06 : (wI m9 33 1 0).1 0 6 = Int32.ofNat y := (x9 _ _ (by omega)).trans h06
  have hlo := n_layOut (m := wI m9 33 1 0) (o := 36 + y) ((wI_o _ _ (by omega)).trans b3) ((wI_o _ _ (by omega)).trans b4) ((wI_o _ _ (by omega)).trans b5) ((wI_o _ _ (by omega)).trans b6) hW.2.2 (by omega)
  generalize hX : wI (wI (wI (wI (wI m9 33 1 0) (36 + y) 0 (Int32.ofNat W)) (36 + y) 1 (Int32.ofNat R)) (36 + y) 2 (Int32.ofNat H)) (36 + y) 3 (Int32.ofNat (H ||| Bb)) = X at hlo
  have xX : ∀ o k, ¬ (o = 33 ∧ 1 ≤ k ∧ k ≤ 9) → ¬ (o = 36 + y ∧ k ≤ 3) → X.1 o k = m.1 o k := fun o k q1 q2 => by
    rw [← hX, wI_o _ _ (by omega), wI_o _ _ (by omega), wI_o _ _ (by omega), wI_o _ _ (by omega), x9 o k q1]
  generalize h7 : wI (wI (wI (wI (vF X 8 (fun _ => -1) 25) 9 1 0) 11 1 0) 13 1 0) 15 1 0 = m7
  have x7 : ∀ o k, ¬ (o = 8 ∧ k < 25) → ¬ ((o = 9 ∨ o = 11 ∨ o = 13 ∨ o = 15) ∧ k = 1) → m7.1 o k = X.1 o k := fun o k q1 q2 => by
    rw [← h7, wI_o _ _ (by omega), wI_o _ _ (by omega), wI_o _ _ (by omega), wI_o _ _ (by omega), vF_o _ _ (by omega)]
  have e7 : m7.1 0 6 = Int32.ofNat y := (x7 _ _ (by omega) (by omega)).trans ((xX _ _ (by omega) (by omega)).trans h06)
  have run : fN_yard m = some (Int32.ofNat y, wI (wI m7 1 8 (Int32.ofNat y)) 0 6 (Int32.ofNat (y + 1))) := by
    have ej : fN_yard_j62 (-1) m9 = some (Int32.ofNat y, wI (wI m7 1 8 (Int32.ofNat y)) 0 6 (Int32.ofNat (y + 1))) := by
      rw [fN_yard_j62, if_pos (by decide), e06, zI_n (by omega) hy, zg_t, i_tn (by omega), zrf35 y hy, hlo, zb1_s, n_leave, h7, zb1_s, e7, wI_o _ _ (by omega), wI_e, wI_o _ _ (by omega), e7, inc]
    rw [fN_yard, h06, if_neg (i_lt0 (by omega)), if_pos (show Int32.ofNat y < 6 from (i_lt (b := 6) (by omega) (by decide)).mpr hy), zI_n (by omega) hy, zg_t, a1, zb2_s, if_pos (by decide), a3, b1, zb2_s, ej]
  have h2 : (wI (wI m7 1 8 (Int32.ofNat y)) 0 6 (Int32.ofNat (y + 1))).2 = m.2 := by
    rw [wI_2, wI_2, ← h7, ← hX]
    exact b2.1.trans a2.1
  have xs : ∀ k, (wI (wI m7 1 8 (Int32.ofNat y)) 0 6 (Int32.ofNat (y + 1))).1 (36 + y) k = X.1 (36 + y) k := fun k => by
    rw [wI_o _ _ (by omega), wI_o _ _ (by omega), x7 _ _ (by omega) (by omega)]
  refine ⟨_, run, h2, fun o k q => ?_, ?_, ⟨?_, ?_, ?_, ?_⟩, fun s hs => ?_, ⟨?_, ?_, ?_, ?_⟩, ?_, ?_⟩
  · unfold chN at q
    rw [wI_o _ _ (by omega), wI_o _ _ (by omega), x7 _ _ (by omega) (by omega), xX _ _ (by omega) (by omega)]
  · rw [wI_o _ _ (by omega), wI_o _ _ (by omega), x7 _ _ (by omega) (by omega), ← hX, wI_o _ _ (by omega), wI_o _ _ (by omega), wI_o _ _ (by omega), wI_o _ _ (by omega), wI_e]
  · rw [xs, ← hX, wI_o _ _ (by omega), wI_o _ _ (by omega), wI_o _ _ (by omega), wI_e]
  · rw [xs, ← hX, wI_o _ _ (by omega), wI_o _ _ (by omega), wI_e]
  · rw [xs, ← hX, wI_o _ _ (by omega), wI_e]
  · rw [xs, ← hX, wI_e]
  · rw [wI_o _ _ (by omega), wI_o _ _ (by omega), ← h7, wI_o _ _ (by omega), wI_o _ _ (by omega), wI_o _ _ (by omega), wI_o _ _ (by omega), vF_e _ _ _ hs]
  · rw [wI_o _ _ (by omega), wI_o _ _ (by omega), ← h7, wI_o _ _ (by omega), wI_o _ _ (by omega), wI_o _ _ (by omega), wI_e]
  · rw [wI_o _ _ (by omega), wI_o _ _ (by omega), ← h7, wI_o _ _ (by omega), wI_o _ _ (by omega), wI_e]
  · rw [wI_o _ _ (by omega), wI_o _ _ (by omega), ← h7, wI_o _ _ (by omega), wI_e]
  · rw [wI_o _ _ (by omega), wI_o _ _ (by omega), ← h7, wI_e]
  · rw [wI_o _ _ (by omega), wI_e]
  · rw [wI_e]
/-- what the reference changes -/
def chM (y o k : Nat) : Prop := tR y o k ∨ (o = 68 ∧ ((1 ≤ k ∧ k ≤ 4) ∨ (9 ≤ k ∧ k ≤ 11) ∨ k = 42 ∨ k = 47 ∨ k = 50)) ∨ o = 82 ∨ (o = 72 ∧ k < 25)
theorem yM_ok {m : zv_M} {y n : Nat} {L : Nat → Nat} {B : List Cl} {v r : Int32} (hy : y < 6) (h9 : m.1 68 9 = Int32.ofNat y) (h : RT L n m) (h8 : L81 m) (hm1 : fM_men m = some v) (hm2 : fM_ones v = some r) (hp : pL L 10 [] 0 = .inr B) : ∃ m1 E, fM_yard m = some (Int32.ofNat y, m1) ∧ m1.2 = m.2 ∧ (∀ o k, ¬ chM y o k → m1.1 o k = m.1 o k) ∧ (m1.1 68 11 = 0 ∧ m1.1 68 10 = Int32.ofNat y ∧ m1.1 68 9 = Int32.ofNat (y + 1)) ∧ KF y m1 E B ∧ m1.1 74 y = Int32.ofNat B.length ∧ B.length ≤ 10 ∧ (m1.1 68 1 = Int32.ofNat (fo4 B B.length).1 ∧ m1.1 68 4 = Int32.ofNat (fo4 B B.length).2.1 ∧ m1.1 68 2 = Int32.ofNat (hS 1 (fo4 B B.length).1 B) ∧ m1.1 68 3 = Int32.ofNat (hS 1 (fo4 B B.length).1 B ||| hS 2 (fo4 B B.length).1 B)) ∧ (∀ s, s < 25 → m1.1 72 s = -1) ∧ m1.1 68 42 = 0 ∧ m1.1 68 47 = 0 ∧ m1.1 68 50 = 0 := by
  have hg := pL_g h.1 10 [] B 0 (fun c hc => absurd hc List.not_mem_nil) hp
  have t := r_goes h h8 hy
  rw [hp] at t
  obtain ⟨m2, E, a1, a2, a3, a4, a5⟩ := t
  have x2 : ∀ o k, ¬ tR y o k → m2.1 o k = m.1 o k := a2.2
  have e9 : (wI m2 68 11 0).1 68 9 = Int32.ofNat y := (wI_o _ _ (by omega)).trans ((x2 _ _ (by unfold tR; omega)).trans h9)
  have e9b : (wI (wI m2 68 11 0) 68 10 (Int32.ofNat y)).1 68 9 = Int32.ofNat y := (wI_o _ _ (by omega)).trans e9
  generalize h3 : wI (wI (wI m2 68 11 0) 68 10 (Int32.ofNat y)) 68 9 (Int32.ofNat (y + 1)) = m3
  have x3 : ∀ o k, ¬ (o = 68 ∧ 9 ≤ k ∧ k ≤ 11) → m3.1 o k = m2.1 o k := fun o k q => by
    rw [← h3, wI_o _ _ (by omega), wI_o _ _ (by omega), wI_o _ _ (by omega)]
  have k3 : KF y m3 E B := KF_y a5 a3 fun o k q => x3 o k (by omega)
  have e10 : m3.1 68 10 = Int32.ofNat y := by
    rw [← h3, wI_o _ _ (by omega), wI_e]
  obtain ⟨m4, b1, b2, b3, b4⟩ := r_lay hy k3 hg a5 e10 ((x3 _ _ (by omega)).trans a4)
  have hmen : fM_men m4 = some v := by
    rw [men_c (m := m) fun k => by rw [b3 _ _ (by omega) (by omega), x3 _ _ (by omega), x2 _ _ (by unfold tR; omega)]]
    exact hm1
  have hta := r_takeAll hmen hm2
  generalize h5 : vF m4 72 (fun _ => -1) 25 = m5 at hta
  have x5 : ∀ o k, ¬ (o = 72 ∧ k < 25) → m5.1 o k = m4.1 o k := fun o k q => by rw [← h5, vF_o _ _ q]
  have xf : ∀ o k, ¬ (o = 68 ∧ (k = 42 ∨ k = 47 ∨ k = 50)) → (wI (wI (wI m5 68 42 0) 68 47 0) 68 50 0).1 o k = m5.1 o k := fun o k q => by
    rw [wI_o _ _ (by omega), wI_o _ _ (by omega), wI_o _ _ (by omega)]
  have r10 : (wI (wI (wI m5 68 42 0) 68 47 0) 68 50 0).1 68 10 = Int32.ofNat y := by
    rw [xf _ _ (by omega), x5 _ _ (by omega), b3 _ _ (by omega) (by omega), e10]
  refine ⟨wI (wI (wI m5 68 42 0) 68 47 0) 68 50 0, E, ?_, ?_, fun o k q => ?_, ⟨?_, r10, ?_⟩, KF_y a5 k3 fun o k q => ?_, ?_, a5, ⟨?_, ?_, ?_, ?_⟩, fun s hs => ?_, ?_, ?_, ?_⟩
  · rw [fM_yard, h9, if_neg (show ¬ Int32.ofNat y = 6 from fun z => by have := (i_eq (b := 6) (by omega) (by decide)).mp z; omega), a1, zb2_s, if_neg (by decide), e9, e9b, inc, h3, b1, zb1_s, hta, zb2_s, r10]
  · rw [wI_2, wI_2, wI_2, ← h5]
    exact b2.trans (by
      rw [← h3]
      exact a2.1)
  · unfold chM at q
    rw [xf _ _ (by omega), x5 _ _ (by omega), b3 _ _ (by omega) (by omega), x3 _ _ (by omega), x2 _ _ (fun z => q (Or.inl z))]
  · rw [xf _ _ (by omega), x5 _ _ (by omega), b3 _ _ (by omega) (by omega), ← h3, wI_o _ _ (by omega), wI_o _ _ (by omega), wI_e]
  · rw [xf _ _ (by omega), x5 _ _ (by omega), b3 _ _ (by omega) (by omega), ← h3, wI_e]
  · rw [xf _ _ (by omega), x5 _ _ (by omega), b3 _ _ (by omega) (by omega)]
  · rw [xf _ _ (by omega), x5 _ _ (by omega), b3 _ _ (by omega) (by omega), x3 _ _ (by omega), a4]
  · rw [xf _ _ (by omega), x5 _ _ (by omega), b4.1]
  · rw [xf _ _ (by omega), x5 _ _ (by omega), b4.2.1]
  · rw [xf _ _ (by omega), x5 _ _ (by omega), b4.2.2.1]
  · rw [xf _ _ (by omega), x5 _ _ (by omega), b4.2.2.2]
  · rw [xf _ _ (by omega), ← h5, vF_e _ _ _ hs]
  · rw [wI_o _ _ (by omega), wI_o _ _ (by omega), wI_e]
  · rw [wI_o _ _ (by omega), wI_e]
  · rw [wI_e]
