/-- what the plans' piles give -/
theorem pl_get {m : zv_M} {n k : Nat} (h : gPl m 2 3 4 5 6 7 0 69 70 71 n) (hk : k < n) : fPi_get 2 (Int32.ofNat k) m = some (m.1 69 k) ∧ fPi_get 4 (Int32.ofNat k) m = some (m.1 70 k) ∧ fPi_get 6 (Int32.ofNat k) m = some (m.1 7 k) := by
  obtain ⟨hn, a1, a2, a3, a4, a5⟩ := h
  obtain ⟨b1, b2, -⟩ := a5 k hk
  refine ⟨?_, ?_, ?_⟩
  · rw [pi_get (a := 3) (cap := 6) (n := n) ⟨rfl, rfl, by decide, a1, hn, by decide⟩ (by omega), if_pos hk, b1]
  · rw [pi_get (a := 5) (cap := 6) (n := n) ⟨rfl, rfl, by decide, a2, hn, by decide⟩ (by omega), if_pos hk, b2]
  · rw [pi_get (a := 7) (cap := 6) (n := n) ⟨rfl, rfl, by decide, a3, hn, by decide⟩ (by omega), if_pos hk]
theorem isKind_nat {j : Nat} (hj : j < 2147483648) : fN_isKind (Int32.ofNat j) = some (if j < 7 then 1 else 0) := by
  have e : (Int32.ofNat j < 7) = (j < 7) := propext (i_lt (b := 7) hj (by decide))
  rw [fN_isKind, if_neg (i_lt0 hj)]
  simp only [e]
  by_cases q : j < 7
  · simp only [if_pos q]
  · simp only [if_neg q]
/-- a number between two small ones -/
theorem in_nat {j a b : Nat} (hj : j < 2147483648) (ha : a < 2147483648) (hb : b < 2147483648) : fM_in (Int32.ofNat j) (Int32.ofNat a) (Int32.ofNat b) = some (if a ≤ j ∧ j ≤ b then 1 else 0) := by
  have e1 : (Int32.ofNat j < Int32.ofNat a) = (j < a) := propext (i_lt hj ha)
  have e2 : (Int32.ofNat b < Int32.ofNat j) = (b < j) := propext (i_lt hb hj)
  rw [fM_in]
  simp only [e1, e2]
  by_cases q : j < a
  · rw [if_pos q, if_neg (by omega)]
  · rw [if_neg q]
    by_cases q2 : b < j
    · rw [if_pos q2, if_neg (by omega)]
    · rw [if_neg q2, if_pos (by omega)]
theorem in_l {j : Nat} (A B : Int32) (a b : Nat) (hj : j < 2147483648) (hA : A = Int32.ofNat a) (hB : B = Int32.ofNat b) (ha : a < 2147483648) (hb : b < 2147483648) : fM_in (Int32.ofNat j) A B = some (if a ≤ j ∧ j ≤ b then 1 else 0) := by
  subst hA
  subst hB
  exact in_nat hj ha hb
theorem in_neg {x a b : Int32} (ha : ¬ a < 0) (hx : x < 0) : fM_in x a b = some 0 := by
  have h : x < a := by
    rw [Int32.lt_iff_toInt_lt] at hx ha ⊢
    have h0 : (0 : Int32).toInt = 0 := rfl
    omega
  rw [fM_in, if_pos h]
def tkB (q j : Nat) : Bool := j == 0 || q == j || (j == 1 && q == 4) || (j == 2 && q == 5) || (j == 3 && q == 6)
theorem tk_N : ∀ q, q < 7 → ∀ j, j < 7 → fN_isUnder (Int32.ofNat q) (Int32.ofNat j) = some (if tkB q j = true then 1 else 0) := by decide +kernel
theorem tk_M : ∀ q, q < 7 → ∀ j, j < 7 → (if Int32.ofNat j = 0 then some (Int32.ofNat q) else if Int32.ofNat q = Int32.ofNat j then some (Int32.ofNat q) else if Int32.ofNat j = 1 then if Int32.ofNat q = 4 then some (Int32.ofNat q) else (if Int32.ofNat j = 2 then if Int32.ofNat q = 5 then some (Int32.ofNat q) else (if Int32.ofNat j = 3 then if Int32.ofNat q = 6 then some (Int32.ofNat q) else some (-12) else some (-12)) else (if Int32.ofNat j = 3 then if Int32.ofNat q = 6 then some (Int32.ofNat q) else some (-12) else some (-12))) else (if Int32.ofNat j = 2 then if Int32.ofNat q = 5 then some (Int32.ofNat q) else (if Int32.ofNat j = 3 then if Int32.ofNat q = 6 then some (Int32.ofNat q) else some (-12) else some (-12)) else (if Int32.ofNat j = 3 then if Int32.ofNat q = 6 then some (Int32.ofNat q) else some (-12) else some (-12)))) = some (if tkB q j = true then Int32.ofNat q else -12) := by decide +kernel
theorem O_taken_ok : O_taken INV := fun m h x1 x2 => by
  obtain ⟨y, ⟨n, W, hPl, -⟩, -⟩ := h
  have hPl' := hPl
  obtain ⟨hn, a1, -, -, a4, a5⟩ := hPl
  rw [fN_taken, fM_taken]
  rcases i_cases x2 with hx | ⟨j, hj, rfl⟩
  · rw [in_neg (by decide) hx, fN_isKind, if_pos hx]
    exact ⟨-2, rfl, rfl⟩
  · rw [isKind_nat hj, in_l 0 6 0 6 hj rfl rfl (by decide) (by decide), zb1_s, zb1_s]
    by_cases h1 : j < 7
    · rw [if_pos h1, if_pos (show 0 ≤ j ∧ j ≤ 6 by omega), if_neg (by decide), if_neg (by decide)]
      rcases i_cases x1 with hx | ⟨k, hk, rfl⟩
      · rw [(isPlan_neg hx).1, (isPlan_neg hx).2]
        exact ⟨-11, rfl, rfl⟩
      · rw [(isPlan_nat a1 a4 hn hk).1, (isPlan_nat a1 a4 hn hk).2, zb1_s, zb1_s]
        by_cases h2 : k < n
        · obtain ⟨-, -, ⟨q, hq, e⟩, -⟩ := a5 k h2
          refine ⟨if tkB q j = true then Int32.ofNat q else -12, ?_, ?_⟩
          · rw [if_pos h2, if_neg (by decide), (pl_get hPl' h2).1, zb1_s, e, tk_N q hq j h1, zb1_s]
            by_cases h3 : tkB q j = true
            · rw [if_pos h3, if_pos h3, if_neg (by decide)]
            · rw [if_neg h3, if_neg h3, if_pos rfl]
          · rw [if_pos h2, if_neg (by decide), zI_n hk (by omega), zg_t, fM_taken_j51, fM_taken_j61, i_tn hk, e]
            exact tk_M q hq j h1
        · rw [if_neg h2, if_pos rfl, if_pos rfl]
          exact ⟨-11, rfl, rfl⟩
    · rw [if_neg h1, if_neg (show ¬ (0 ≤ j ∧ j ≤ 6) by omega), if_pos rfl, if_pos rfl]
      exact ⟨-2, rfl, rfl⟩
