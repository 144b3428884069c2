theorem pB_o (m : zv_M) {o a o' k n : Nat} (g : Nat → Int32) (h : ¬ o' = o) (h2 : ¬ o' = a) : (pB m o a g n).1 o' k = m.1 o' k := by
  rw [pB, wI_o _ _ (fun z => h z.1), vF_o _ _ (fun z => h2 z.1)]
theorem pB_e (m : zv_M) {o a k n : Nat} (g : Nat → Int32) (d : ¬ a = o) (h : k < n) : (pB m o a g n).1 a k = g k := by
  rw [pB, wI_o _ _ (fun z => d z.1), vF_e _ _ _ h]
def mI1 (m : zv_M) (n n5 n6 n7 n8 : Nat) : zv_M := wI (kA9 m n n5 n6 n7 n8) 0 2 1
def mI2 (m : zv_M) (n n5 n6 n7 n8 : Nat) : zv_M := kC6 (mI1 m n n5 n6 n7 n8)
def mU1 (m : zv_M) (n n5 n6 n7 n8 : Nat) : zv_M := kB9 m n n5 n6 n7 n8
def mU2 (m : zv_M) (n n5 n6 n7 n8 : Nat) : zv_M := kD6 (mU1 m n n5 n6 n7 n8)
theorem mI2_o (m : zv_M) (n n5 n6 n7 n8 : Nat) {o k : Nat} (h : o < 17 ∨ (32 < o ∧ o < 102) ∨ 109 < o) (h2 : ¬ (o = 0 ∧ k = 2)) (h3 : ¬ (o = 68 ∧ 52 ≤ k ∧ k ≤ 57)) : (mI2 m n n5 n6 n7 n8).1 o k = m.1 o k := by
  rw [mI2, kC6, vF_o _ _ (by omega), kC5, vF_o _ _ (by omega), vF_o _ _ (by omega), kC4, vF_o _ _ (by omega), kC3, vF_o _ _ (by omega), kC2, vF_o _ _ (by omega), kC1, vF_o _ _ (by omega), vF_o _ _ (by omega), kC0, wI_o _ _ (by omega), wI_o _ _ (by omega), wI_o _ _ (by omega), wI_o _ _ (by omega), wI_o _ _ (by omega), wI_o _ _ (by omega), mI1, wI_o _ _ (by omega), kA9, wI_o _ _ (by omega), kA8, pB_o _ _ (by omega) (by omega), kA7, pB_o _ _ (by omega) (by omega), kA6, pB_o _ _ (by omega) (by omega), kA5, pB_o _ _ (by omega) (by omega), kA4, vF_o _ _ (by omega), kA3, pB_o _ _ (by omega) (by omega), kA2, pB_o _ _ (by omega) (by omega), kA1, pB_o _ _ (by omega) (by omega)]
theorem mU2_o (m : zv_M) (n n5 n6 n7 n8 : Nat) {o k : Nat} (h : o = 0 ∨ (16 < o ∧ o < 69) ∨ (72 < o ∧ ¬ o = 95 ∧ ¬ o = 99 ∧ ¬ o = 100 ∧ ¬ o = 101) ∨ (o = 1 ∧ ¬ k = 8)) (h3 : ¬ (o = 68 ∧ (k = 10 ∨ k = 0 ∨ k = 42 ∨ k = 47 ∨ k = 50))) : (mU2 m n n5 n6 n7 n8).1 o k = m.1 o k := by
  rw [mU2, kD6, vF_o _ _ (by omega), kD5, vF_o _ _ (by omega), vF_o _ _ (by omega), kD4, vF_o _ _ (by omega), kD3, vF_o _ _ (by omega), kD2, vF_o _ _ (by omega), kD1, vF_o _ _ (by omega), vF_o _ _ (by omega), kD0, wI_o _ _ (by omega), wI_o _ _ (by omega), wI_o _ _ (by omega), wI_o _ _ (by omega), wI_o _ _ (by omega), mU1, kB9, wI_o _ _ (by omega), kB8, pB_o _ _ (by omega) (by omega), kB7, pB_o _ _ (by omega) (by omega), kB6, pB_o _ _ (by omega) (by omega), kB5, pB_o _ _ (by omega) (by omega), kB4, vF_o _ _ (by omega), kB3, pB_o _ _ (by omega) (by omega), kB2, pB_o _ _ (by omega) (by omega), kB1, pB_o _ _ (by omega) (by omega)]
theorem mI2_19 (m : zv_M) (n n5 n6 n7 n8 : Nat) {i : Nat} (hi : i < n) : (mI2 m n n5 n6 n7 n8).1 19 i = m.1 3 i := by
  show (pB m 18 19 (m.1 3) n).1 19 i = _
  exact pB_e _ _ (by decide) hi
theorem mI2_21 (m : zv_M) (n n5 n6 n7 n8 : Nat) {i : Nat} (hi : i < n) : (mI2 m n n5 n6 n7 n8).1 21 i = m.1 5 i := by
  show (pB (kA1 m n n5 n6 n7 n8) 20 21 (m.1 5) n).1 21 i = _
  exact pB_e _ _ (by decide) hi
theorem mI2_23 (m : zv_M) (n n5 n6 n7 n8 : Nat) {i : Nat} (hi : i < n) : (mI2 m n n5 n6 n7 n8).1 23 i = m.1 7 i := by
  show (pB (kA2 m n n5 n6 n7 n8) 22 23 (m.1 7) n).1 23 i = _
  exact pB_e _ _ (by decide) hi
theorem mI2_24 (m : zv_M) (n n5 n6 n7 n8 : Nat) {i : Nat} (hi : i < 25) : (mI2 m n n5 n6 n7 n8).1 24 i = m.1 8 i := by
  show (vF (kA3 m n n5 n6 n7 n8) 24 (m.1 8) 25).1 24 i = _
  exact vF_e _ _ _ hi
theorem mI2_26 (m : zv_M) (n n5 n6 n7 n8 : Nat) {i : Nat} (hi : i < n5) : (mI2 m n n5 n6 n7 n8).1 26 i = m.1 10 i := by
  show (pB (kA4 m n n5 n6 n7 n8) 25 26 (m.1 10) n5).1 26 i = _
  exact pB_e _ _ (by decide) hi
theorem mI2_28 (m : zv_M) (n n5 n6 n7 n8 : Nat) {i : Nat} (hi : i < n6) : (mI2 m n n5 n6 n7 n8).1 28 i = m.1 12 i := by
  show (pB (kA5 m n n5 n6 n7 n8) 27 28 (m.1 12) n6).1 28 i = _
  exact pB_e _ _ (by decide) hi
theorem mI2_30 (m : zv_M) (n n5 n6 n7 n8 : Nat) {i : Nat} (hi : i < n7) : (mI2 m n n5 n6 n7 n8).1 30 i = m.1 14 i := by
  show (pB (kA6 m n n5 n6 n7 n8) 29 30 (m.1 14) n7).1 30 i = _
  exact pB_e _ _ (by decide) hi
theorem mI2_32 (m : zv_M) (n n5 n6 n7 n8 : Nat) {i : Nat} (hi : i < n8) : (mI2 m n n5 n6 n7 n8).1 32 i = m.1 16 i := by
  show (pB (kA7 m n n5 n6 n7 n8) 31 32 (m.1 16) n8).1 32 i = _
  exact pB_e _ _ (by decide) hi
theorem mI2_102 (m : zv_M) (n n5 n6 n7 n8 : Nat) {i : Nat} (hi : i < 6) : (mI2 m n n5 n6 n7 n8).1 102 i = m.1 69 i := by
  show (vF (kC0 (mI1 m n n5 n6 n7 n8)) 102 ((mI1 m n n5 n6 n7 n8).1 69) 6).1 102 i = _
  exact vF_e _ _ _ hi
theorem mI2_103 (m : zv_M) (n n5 n6 n7 n8 : Nat) {i : Nat} (hi : i < 6) : (mI2 m n n5 n6 n7 n8).1 103 i = m.1 70 i := by
  show (vF (vF (kC0 (mI1 m n n5 n6 n7 n8)) 102 ((mI1 m n n5 n6 n7 n8).1 69) 6) 103 ((mI1 m n n5 n6 n7 n8).1 70) 6).1 103 i = _
  exact vF_e _ _ _ hi
theorem mI2_104 (m : zv_M) (n n5 n6 n7 n8 : Nat) {i : Nat} (hi : i < 48) : (mI2 m n n5 n6 n7 n8).1 104 i = m.1 71 i := by
  show (vF (kC1 (mI1 m n n5 n6 n7 n8)) 104 ((mI1 m n n5 n6 n7 n8).1 71) 48).1 104 i = _
  exact vF_e _ _ _ hi
theorem mI2_105 (m : zv_M) (n n5 n6 n7 n8 : Nat) {i : Nat} (hi : i < 25) : (mI2 m n n5 n6 n7 n8).1 105 i = m.1 72 i := by
  show (vF (kC2 (mI1 m n n5 n6 n7 n8)) 105 ((mI1 m n n5 n6 n7 n8).1 72) 25).1 105 i = _
  exact vF_e _ _ _ hi
theorem mI2_106 (m : zv_M) (n n5 n6 n7 n8 : Nat) {i : Nat} (hi : i < 5) : (mI2 m n n5 n6 n7 n8).1 106 i = m.1 95 i := by
  show (vF (kC3 (mI1 m n n5 n6 n7 n8)) 106 ((mI1 m n n5 n6 n7 n8).1 95) 5).1 106 i = _
  exact vF_e _ _ _ hi
theorem mI2_107 (m : zv_M) (n n5 n6 n7 n8 : Nat) {i : Nat} (hi : i < 8) : (mI2 m n n5 n6 n7 n8).1 107 i = m.1 99 i := by
  show (vF (kC4 (mI1 m n n5 n6 n7 n8)) 107 ((mI1 m n n5 n6 n7 n8).1 99) 8).1 107 i = _
  exact vF_e _ _ _ hi
theorem mI2_108 (m : zv_M) (n n5 n6 n7 n8 : Nat) {i : Nat} (hi : i < 8) : (mI2 m n n5 n6 n7 n8).1 108 i = m.1 100 i := by
  show (vF (vF (kC4 (mI1 m n n5 n6 n7 n8)) 107 ((mI1 m n n5 n6 n7 n8).1 99) 8) 108 ((mI1 m n n5 n6 n7 n8).1 100) 8).1 108 i = _
  exact vF_e _ _ _ hi
theorem mI2_109 (m : zv_M) (n n5 n6 n7 n8 : Nat) {i : Nat} (hi : i < 12) : (mI2 m n n5 n6 n7 n8).1 109 i = m.1 101 i := by
  show (vF (kC5 (mI1 m n n5 n6 n7 n8)) 109 ((mI1 m n n5 n6 n7 n8).1 101) 12).1 109 i = _
  exact vF_e _ _ _ hi
theorem mU2_3 (m : zv_M) (n n5 n6 n7 n8 : Nat) {i : Nat} (hi : i < n) : (mU2 m n n5 n6 n7 n8).1 3 i = m.1 19 i := by
  show (pB m 2 3 (m.1 19) n).1 3 i = _
  exact pB_e _ _ (by decide) hi
theorem mU2_5 (m : zv_M) (n n5 n6 n7 n8 : Nat) {i : Nat} (hi : i < n) : (mU2 m n n5 n6 n7 n8).1 5 i = m.1 21 i := by
  show (pB (kB1 m n n5 n6 n7 n8) 4 5 (m.1 21) n).1 5 i = _
  exact pB_e _ _ (by decide) hi
theorem mU2_7 (m : zv_M) (n n5 n6 n7 n8 : Nat) {i : Nat} (hi : i < n) : (mU2 m n n5 n6 n7 n8).1 7 i = m.1 23 i := by
  show (pB (kB2 m n n5 n6 n7 n8) 6 7 (m.1 23) n).1 7 i = _
  exact pB_e _ _ (by decide) hi
theorem mU2_8 (m : zv_M) (n n5 n6 n7 n8 : Nat) {i : Nat} (hi : i < 25) : (mU2 m n n5 n6 n7 n8).1 8 i = m.1 24 i := by
  show (vF (kB3 m n n5 n6 n7 n8) 8 (m.1 24) 25).1 8 i = _
  exact vF_e _ _ _ hi
theorem mU2_10 (m : zv_M) (n n5 n6 n7 n8 : Nat) {i : Nat} (hi : i < n5) : (mU2 m n n5 n6 n7 n8).1 10 i = m.1 26 i := by
  show (pB (kB4 m n n5 n6 n7 n8) 9 10 (m.1 26) n5).1 10 i = _
  exact pB_e _ _ (by decide) hi
theorem mU2_12 (m : zv_M) (n n5 n6 n7 n8 : Nat) {i : Nat} (hi : i < n6) : (mU2 m n n5 n6 n7 n8).1 12 i = m.1 28 i := by
  show (pB (kB5 m n n5 n6 n7 n8) 11 12 (m.1 28) n6).1 12 i = _
  exact pB_e _ _ (by decide) hi
theorem mU2_14 (m : zv_M) (n n5 n6 n7 n8 : Nat) {i : Nat} (hi : i < n7) : (mU2 m n n5 n6 n7 n8).1 14 i = m.1 30 i := by
  show (pB (kB6 m n n5 n6 n7 n8) 13 14 (m.1 30) n7).1 14 i = _
  exact pB_e _ _ (by decide) hi
theorem mU2_16 (m : zv_M) (n n5 n6 n7 n8 : Nat) {i : Nat} (hi : i < n8) : (mU2 m n n5 n6 n7 n8).1 16 i = m.1 32 i := by
  show (pB (kB7 m n n5 n6 n7 n8) 15 16 (m.1 32) n8).1 16 i = _
  exact pB_e _ _ (by decide) hi
theorem mU2_69 (m : zv_M) (n n5 n6 n7 n8 : Nat) {i : Nat} (hi : i < 6) : (mU2 m n n5 n6 n7 n8).1 69 i = m.1 102 i := by
  show (vF (kD0 (mU1 m n n5 n6 n7 n8)) 69 ((mU1 m n n5 n6 n7 n8).1 102) 6).1 69 i = _
  exact vF_e _ _ _ hi
theorem mU2_70 (m : zv_M) (n n5 n6 n7 n8 : Nat) {i : Nat} (hi : i < 6) : (mU2 m n n5 n6 n7 n8).1 70 i = m.1 103 i := by
  show (vF (vF (kD0 (mU1 m n n5 n6 n7 n8)) 69 ((mU1 m n n5 n6 n7 n8).1 102) 6) 70 ((mU1 m n n5 n6 n7 n8).1 103) 6).1 70 i = _
  exact vF_e _ _ _ hi
theorem mU2_71 (m : zv_M) (n n5 n6 n7 n8 : Nat) {i : Nat} (hi : i < 48) : (mU2 m n n5 n6 n7 n8).1 71 i = m.1 104 i := by
  show (vF (kD1 (mU1 m n n5 n6 n7 n8)) 71 ((mU1 m n n5 n6 n7 n8).1 104) 48).1 71 i = _
  exact vF_e _ _ _ hi
theorem mU2_72 (m : zv_M) (n n5 n6 n7 n8 : Nat) {i : Nat} (hi : i < 25) : (mU2 m n n5 n6 n7 n8).1 72 i = m.1 105 i := by
  show (vF (kD2 (mU1 m n n5 n6 n7 n8)) 72 ((mU1 m n n5 n6 n7 n8).1 105) 25).1 72 i = _
  exact vF_e _ _ _ hi
theorem mU2_95 (m : zv_M) (n n5 n6 n7 n8 : Nat) {i : Nat} (hi : i < 5) : (mU2 m n n5 n6 n7 n8).1 95 i = m.1 106 i := by
  show (vF (kD3 (mU1 m n n5 n6 n7 n8)) 95 ((mU1 m n n5 n6 n7 n8).1 106) 5).1 95 i = _
  exact vF_e _ _ _ hi
theorem mU2_99 (m : zv_M) (n n5 n6 n7 n8 : Nat) {i : Nat} (hi : i < 8) : (mU2 m n n5 n6 n7 n8).1 99 i = m.1 107 i := by
  show (vF (kD4 (mU1 m n n5 n6 n7 n8)) 99 ((mU1 m n n5 n6 n7 n8).1 107) 8).1 99 i = _
  exact vF_e _ _ _ hi
theorem mU2_100 (m : zv_M) (n n5 n6 n7 n8 : Nat) {i : Nat} (hi : i < 8) : (mU2 m n n5 n6 n7 n8).1 100 i = m.1 108 i := by
  show (vF (vF (kD4 (mU1 m n n5 n6 n7 n8)) 99 ((mU1 m n n5 n6 n7 n8).1 107) 8) 100 ((mU1 m n n5 n6 n7 n8).1 108) 8).1 100 i = _
  exact vF_e _ _ _ hi
theorem mU2_101 (m : zv_M) (n n5 n6 n7 n8 : Nat) {i : Nat} (hi : i < 12) : (mU2 m n n5 n6 n7 n8).1 101 i = m.1 109 i := by
  show (vF (kD5 (mU1 m n n5 n6 n7 n8)) 101 ((mU1 m n n5 n6 n7 n8).1 109) 12).1 101 i = _
  exact vF_e _ _ _ hi
theorem ag_I {K : Nat → Nat → Bool} (m : zv_M) (n n5 n6 n7 n8 : Nat) (h : ∀ o k, ((17 ≤ o ∧ o ≤ 32) ∨ (102 ≤ o ∧ o ≤ 109)) → K o k = false) (h2 : K 0 2 = false) (h3 : ∀ k, 52 ≤ k → k ≤ 57 → K 68 k = false) : ag K m (mI2 m n n5 n6 n7 n8) := fun o k hK => mI2_o m n n5 n6 n7 n8 (by
    rcases Decidable.em ((17 ≤ o ∧ o ≤ 32) ∨ (102 ≤ o ∧ o ≤ 109)) with q | q
    · rw [h o k q] at hK
      cases hK
    · omega) (by rintro ⟨rfl, rfl⟩; rw [h2] at hK; cases hK) (by rintro ⟨rfl, q1, q2⟩; rw [h3 k q1 q2] at hK; cases hK)
theorem o_cases {P : Nat → Prop} (h1 : P 17) (h2 : P 18) (h3 : P 19) (h4 : P 20) (h5 : P 21) (h6 : P 22) (h7 : P 23) (h8 : P 24) (h9 : P 25) (h10 : P 26) (h11 : P 27) (h12 : P 28) (h13 : P 29) (h14 : P 30) (h15 : P 31) (h16 : P 32) (g1 : P 102) (g2 : P 103) (g3 : P 104) (g4 : P 105) (g5 : P 106) (g6 : P 107) (g7 : P 108) (g8 : P 109) {o : Nat} (h : (17 ≤ o ∧ o ≤ 32) ∨ (102 ≤ o ∧ o ≤ 109)) : P o := by
  rcases (show o = 17 ∨ o = 18 ∨ o = 19 ∨ o = 20 ∨ o = 21 ∨ o = 22 ∨ o = 23 ∨ o = 24 ∨ o = 25 ∨ o = 26 ∨ o = 27 ∨ o = 28 ∨ o = 29 ∨ o = 30 ∨ o = 31 ∨ o = 32 ∨ o = 102 ∨ o = 103 ∨ o = 104 ∨ o = 105 ∨ o = 106 ∨ o = 107 ∨ o = 108 ∨ o = 109 by omega) with rfl | rfl | rfl | rfl | rfl | rfl | rfl | rfl | rfl | rfl | rfl | rfl | rfl | rfl | rfl | rfl | rfl | rfl | rfl | rfl | rfl | rfl | rfl | rfl <;> assumption
theorem k_52 {P : Nat → Prop} (h1 : P 52) (h2 : P 53) (h3 : P 54) (h4 : P 55) (h5 : P 56) (h6 : P 57) : ∀ k, 52 ≤ k → k ≤ 57 → P k := by
  intro k a b
  rcases (show k = 52 ∨ k = 53 ∨ k = 54 ∨ k = 55 ∨ k = 56 ∨ k = 57 by omega) with rfl | rfl | rfl | rfl | rfl | rfl <;> assumption

theorem O_image_ok : O_image INV := fun m h => by
  obtain ⟨y, hNow, hK, hB, hA, hT, hR, hP, hO, hY⟩ := h
  have hNow' := hNow
  obtain ⟨n, W, ⟨hn, a1, a2, a3, a4, a5⟩, hN1, hN2, ⟨hW2, hW5, hN3⟩, hMn, ⟨n5, hn5, b1, b2, b3⟩, ⟨n6, hn6, c1, c2, c3⟩, ⟨n7, hn7, d1, d2, d3⟩, ⟨n8, hn8, e1, e2, e3⟩⟩ := hNow
  have sN : fN_image m = some (Int32.ofNat n, mI1 m n n5 n6 n7 n8) := by
    rw [fN_image, kA_ok a1 a2 a3 hn b1 hn5 c1 hn6 d1 hn7 e1 hn8, zb1_s, ← a1]
    rfl
  have sM : fM_image (mI1 m n n5 n6 n7 n8) = some (Int32.ofNat n, mI2 m n n5 n6 n7 n8) := by
    rw [kC_ok, ← a4]
    rfl
  refine ⟨Int32.ofNat n, mI1 m n n5 n6 n7 n8, mI2 m n n5 n6 n7 n8, sN, sM, ⟨y, fNow (ag_I (K := kNow) m n n5 n6 n7 n8 (fun o k h => o_cases (P := fun o => kNow o k = false) rfl rfl rfl rfl rfl rfl rfl rfl rfl rfl rfl rfl rfl rfl rfl rfl rfl rfl rfl rfl rfl rfl rfl rfl h) rfl (k_52 (P := fun k => kNow 68 k = false) rfl rfl rfl rfl rfl rfl)) hNow', Or.inr ⟨rfl, rfl, ⟨n, W, ⟨hn, rfl, rfl, rfl, a4, fun i hi => ?_⟩, hN1, hN2, ⟨hW2, hW5, hN3⟩, fun s hs => ?_, ⟨n5, hn5, rfl, b2, fun i hi => ?_⟩, ⟨n6, hn6, rfl, c2, fun i hi => ?_⟩, ⟨n7, hn7, rfl, d2, fun i hi => ?_⟩, ⟨n8, hn8, rfl, e2, fun i hi => ?_⟩⟩⟩, fBo (ag_I (K := kBo) m n n5 n6 n7 n8 (fun o k h => o_cases (P := fun o => kBo o k = false) rfl rfl rfl rfl rfl rfl rfl rfl rfl rfl rfl rfl rfl rfl rfl rfl rfl rfl rfl rfl rfl rfl rfl rfl h) rfl (k_52 (P := fun k => kBo 68 k = false) rfl rfl rfl rfl rfl rfl)) hB, fBa (ag_I (K := kBo) m n n5 n6 n7 n8 (fun o k h => o_cases (P := fun o => kBo o k = false) rfl rfl rfl rfl rfl rfl rfl rfl rfl rfl rfl rfl rfl rfl rfl rfl rfl rfl rfl rfl rfl rfl rfl rfl h) rfl (k_52 (P := fun k => kBo 68 k = false) rfl rfl rfl rfl rfl rfl)) hA, fTx (ag_I (K := kTx) m n n5 n6 n7 n8 (fun o k h => o_cases (P := fun o => kTx o k = false) rfl rfl rfl rfl rfl rfl rfl rfl rfl rfl rfl rfl rfl rfl rfl rfl rfl rfl rfl rfl rfl rfl rfl rfl h) rfl (k_52 (P := fun k => kTx 68 k = false) rfl rfl rfl rfl rfl rfl)) hT, fTr (ag_I (K := kTr) m n n5 n6 n7 n8 (fun o k h => o_cases (P := fun o => kTr o k = false) rfl rfl rfl rfl rfl rfl rfl rfl rfl rfl rfl rfl rfl rfl rfl rfl rfl rfl rfl rfl rfl rfl rfl rfl h) rfl (k_52 (P := fun k => kTr 68 k = false) rfl rfl rfl rfl rfl rfl)) hR, fTp (ag_I (K := kTp) m n n5 n6 n7 n8 (fun o k h => o_cases (P := fun o => kTp o k = false) rfl rfl rfl rfl rfl rfl rfl rfl rfl rfl rfl rfl rfl rfl rfl rfl rfl rfl rfl rfl rfl rfl rfl rfl h) rfl (k_52 (P := fun k => kTp 68 k = false) rfl rfl rfl rfl rfl rfl)) (fun _ _ => rfl) hP, fKo (ag_I (K := kKo) m n n5 n6 n7 n8 (fun o k h => o_cases (P := fun o => kKo o k = false) rfl rfl rfl rfl rfl rfl rfl rfl rfl rfl rfl rfl rfl rfl rfl rfl rfl rfl rfl rfl rfl rfl rfl rfl h) rfl (k_52 (P := fun k => kKo 68 k = false) rfl rfl rfl rfl rfl rfl)) hO, fYd (ag_I (K := kYd) m n n5 n6 n7 n8 (fun o k h => o_cases (P := fun o => kYd o k = false) rfl rfl rfl rfl rfl rfl rfl rfl rfl rfl rfl rfl rfl rfl rfl rfl rfl rfl rfl rfl rfl rfl rfl rfl h) rfl (k_52 (P := fun k => kYd 68 k = false) rfl rfl rfl rfl rfl rfl)) hY⟩⟩
  · obtain ⟨f1, f2, f3, f4, q, hq, f5, f6⟩ := a5 i hi
    rw [mI2_19 m n n5 n6 n7 n8 hi, mI2_21 m n n5 n6 n7 n8 hi, mI2_23 m n n5 n6 n7 n8 hi, mI2_102 m n n5 n6 n7 n8 (by omega), mI2_103 m n n5 n6 n7 n8 (by omega)]
    refine ⟨f1, f2, f3, f4, q, hq, f5, fun d hd => ?_⟩
    rw [mI2_104 m n n5 n6 n7 n8 (by omega)]
    exact f6 d hd
  · rw [mI2_24 m n n5 n6 n7 n8 hs, mI2_105 m n n5 n6 n7 n8 hs]
    exact hMn s hs
  · rw [mI2_26 m n n5 n6 n7 n8 hi, mI2_106 m n n5 n6 n7 n8 (by omega)]
    exact b3 i hi
  · rw [mI2_28 m n n5 n6 n7 n8 hi, mI2_107 m n n5 n6 n7 n8 (by omega)]
    exact c3 i hi
  · rw [mI2_30 m n n5 n6 n7 n8 hi, mI2_108 m n n5 n6 n7 n8 (by omega)]
    exact d3 i hi
  · rw [mI2_32 m n n5 n6 n7 n8 hi, mI2_109 m n n5 n6 n7 n8 (by omega)]
    exact e3 i hi
