/-! Steps to a square next to one: spread, layers, the class's measure. -/
theorem n_shl {a s : Nat} (hs : s < 32) : Int32.ofNat a <<< (Int32.ofNat s &&& 31) = Int32.ofNat (a <<< s) := by
  apply b_ext
  intro i hi
  rw [show (Int32.ofNat a <<< (Int32.ofNat s &&& 31)) = (Int32.ofNat a <<< (nI s &&& 31)) from rfl, b_shl s hs _ hi, bt_n _ hi, bt_n _ (show i - s < 32 by omega), Nat.testBit_shiftLeft]
theorem n_shr {a s : Nat} (ha : a < 2147483648) (hs : s < 31) : Int32.ofNat a >>> (Int32.ofNat s &&& 31) = Int32.ofNat (a >>> s) := by
  have hz : ∀ j, 31 ≤ j → a.testBit j = false := fun j hj => tb_hi (N := 31) ha hj
  apply b_ext
  intro i hi
  rw [show (Int32.ofNat a >>> (Int32.ofNat s &&& 31)) = (Int32.ofNat a >>> (nI s &&& 31)) from rfl, b_sshr s (by omega) _ hi, bt_n _ hi, Nat.testBit_shiftRight]
  by_cases q : s + i < 32
  · rw [if_pos q, bt_n _ q]
  · rw [if_neg q, bt_n _ (show 31 < 32 by decide), hz 31 (by omega), hz _ (by omega)]
def cL (W : Nat) : Nat := bs (fun i => decide (i % W = 0)) (W * W)
def cR (W : Nat) : Nat := cL W <<< (W - 1)
theorem col5 : ∀ W, W < 6 → 2 ≤ W → whileN zFU (fYa_spread_l4 0 (cmW (Int32.ofNat W))) (0, 0) = some (Int32.ofNat (cL W)) := by decide +kernel
theorem col_o (o : Nat) (m : zv_M) : fYa_spread_l4 o m = fYa_spread_l4 0 (cmW (m.1 o 0)) := rfl
def spr (D : Dt) (X : Nat) : Nat := X ||| (((ad X (cR (dW D)) <<< 1) ||| (ad X (cL (dW D)) >>> 1)) ||| ((X <<< dW D) ||| (X >>> dW D))) &&& fr D
theorem g_spread {D : Dt} {m : zv_M} (hS : CS D) (c : CN D m) {X : Nat} (hX : X < 2 ^ 25) : fYa_spread (dg D) (Int32.ofNat X) m = some (Int32.ofNat (spr D X)) := by
  have h5 := hS.2.2.1
  have h2 := hS.2.1
  have e1 : Int32.ofNat (dW D) - 1 = Int32.ofNat (dW D - 1) := i_mi (b := 1) (by omega) (by omega)
  have o1 : ∀ a : Nat, Int32.ofNat a <<< ((1 : Int32) &&& 31) = Int32.ofNat (a <<< 1) := fun a => n_shl (s := 1) (by decide)
  have o2 : Int32.ofNat (ad X (cL (dW D))) >>> ((1 : Int32) &&& 31) = Int32.ofNat (ad X (cL (dW D)) >>> 1) := n_shr (s := 1) (p25 (ad_lt hX)) (by decide)
  rw [fYa_spread, col_o, c.2.1.1, col5 _ (by omega) h2, zb1_s, e1, n_shl (show dW D - 1 < 32 by omega), n_shl (show dW D < 32 by omega), n_shr (p25 hX) (show dW D < 31 by omega), n_ad, n_ad, o1, o2, n_or, n_or, zlet, g_free hS c, zb1_s, n_or, n_and, n_or]
  rfl
/-- next to each other -/
def aj (W a b : Nat) : Bool := (decide (b + 1 = a) && decide (¬ a % W = 0)) || (decide (a + 1 = b) && decide (¬ b % W = 0)) || decide (a + W = b) || decide (b + W = a)
theorem cRt : ∀ W, W < 6 → 2 ≤ W → ∀ i, i < 25 → i < W * W → 1 ≤ i → (cR W).testBit (i - 1) = decide (i % W = 0) := by decide +kernel
theorem spr_t {D : Dt} (hS : CS D) {X : Nat} (hX : X < 2 ^ (dW D * dW D)) (i : Nat) : (spr D X).testBit i = true ↔ X.testBit i = true ∨ ((fr D).testBit i = true ∧ ∃ j, X.testBit j = true ∧ aj (dW D) j i = true) := by
  have h5 := hS.2.2.1
  have h2 := hS.2.1
  have hWW := CS_WW hS
  have lt : ∀ j, X.testBit j = true → j < dW D * dW D := fun j hj => by
    rcases Nat.lt_or_ge j (dW D * dW D) with q | q
    · exact q
    · rw [tb_hi hX q] at hj
      cases hj
  rw [spr, Nat.testBit_or, Nat.testBit_and, Nat.testBit_or, Nat.testBit_or, Nat.testBit_or, Nat.testBit_shiftLeft, Nat.testBit_shiftLeft, Nat.testBit_shiftRight, Nat.testBit_shiftRight, ad_t, ad_t]
  constructor
  · intro h
    rcases Bool.or_eq_true _ _ |>.mp h with h | h
    · exact Or.inl h
    · obtain ⟨h, hf⟩ := Bool.and_eq_true _ _ |>.mp h
      have hi : i < dW D * dW D := by
        rw [fr_t] at hf
        exact of_decide_eq_true (Bool.and_eq_true _ _ |>.mp hf).1
      refine Or.inr ⟨hf, ?_⟩
      rcases Bool.or_eq_true _ _ |>.mp h with h | h
      · rcases Bool.or_eq_true _ _ |>.mp h with h | h
        · obtain ⟨a, h⟩ := Bool.and_eq_true _ _ |>.mp h
          obtain ⟨b, h⟩ := Bool.and_eq_true _ _ |>.mp h
          have a := of_decide_eq_true a
          rw [cRt _ (by omega) h2 i (by omega) hi a] at h
          have h : ¬ i % dW D = 0 := fun z => by rw [decide_eq_true z] at h; cases h
          refine ⟨i - 1, b, ?_⟩
          unfold aj
          rw [decide_eq_true (show i - 1 + 1 = i by omega), decide_eq_true h]
          simp
        · obtain ⟨b, h⟩ := Bool.and_eq_true _ _ |>.mp h
          have hj := lt _ b
          rw [cL, bs_t, decide_eq_true hj, Bool.true_and] at h
          have h : ¬ (1 + i) % dW D = 0 := fun z => by rw [decide_eq_true z] at h; cases h
          refine ⟨1 + i, b, ?_⟩
          unfold aj
          rw [decide_eq_true (show i + 1 = 1 + i by omega), decide_eq_true h]
          rfl
      · rcases Bool.or_eq_true _ _ |>.mp h with h | h
        · obtain ⟨a, h⟩ := Bool.and_eq_true _ _ |>.mp h
          have a := of_decide_eq_true a
          refine ⟨i - dW D, h, ?_⟩
          unfold aj
          rw [decide_eq_true (show i - dW D + dW D = i by omega)]
          simp
        · refine ⟨dW D + i, h, ?_⟩
          unfold aj
          rw [decide_eq_true (show i + dW D = dW D + i by omega)]
          simp
  · rintro (h | ⟨hf, j, hj, ha⟩)
    · rw [h]
      rfl
    · have hi : i < dW D * dW D := by
        rw [fr_t] at hf
        exact of_decide_eq_true (Bool.and_eq_true _ _ |>.mp hf).1
      have hjl := lt j hj
      rw [hf, Bool.and_true]
      unfold aj at ha
      rcases Bool.or_eq_true _ _ |>.mp ha with ha | ha
      · rcases Bool.or_eq_true _ _ |>.mp ha with ha | ha
        · rcases Bool.or_eq_true _ _ |>.mp ha with ha | ha
          · obtain ⟨a, b⟩ := Bool.and_eq_true _ _ |>.mp ha
            have a := of_decide_eq_true a
            have b := of_decide_eq_true b
            subst a
            have e : (cL (dW D)).testBit (1 + i) = false := by
              rw [cL, bs_t, decide_eq_false (show ¬ (1 + i) % dW D = 0 by rw [Nat.add_comm]; exact b)]
              simp
            rw [e, show 1 + i = i + 1 by omega, hj]
            simp
          · obtain ⟨a, b⟩ := Bool.and_eq_true _ _ |>.mp ha
            have a := of_decide_eq_true a
            have b := of_decide_eq_true b
            subst a
            rw [cRt _ (by omega) h2 (j + 1) (by omega) hi (by omega), decide_eq_false b, show j + 1 - 1 = j by omega, hj, decide_eq_true (show j + 1 ≥ 1 by omega)]
            simp
        · have a := of_decide_eq_true ha
          subst a
          rw [show j + dW D - dW D = j by omega, hj, decide_eq_true (show j + dW D ≥ dW D by omega)]
          simp
      · have a := of_decide_eq_true ha
        subst a
        rw [show dW D + i = i + dW D by omega, hj]
        simp
theorem spr_lt {D : Dt} (hS : CS D) {X : Nat} (hX : X < 2 ^ (dW D * dW D)) : spr D X < 2 ^ (dW D * dW D) := lt_of_t fun i hi => by
  rcases (spr_t hS hX i).mp hi with h | ⟨h, -⟩
  · rcases Nat.lt_or_ge i (dW D * dW D) with q | q
    · exact q
    · rw [tb_hi hX q] at h
      cases h
  · rw [fr_t] at h
    exact of_decide_eq_true (Bool.and_eq_true _ _ |>.mp h).1
/-- all within n steps of s -/
def Ls (D : Dt) (s : Nat) : Nat → Nat
  | 0 => 2 ^ s
  | n + 1 => spr D (Ls D s n)
theorem Ls_lt {D : Dt} (hS : CS D) {s : Nat} (hs : s < dW D * dW D) : ∀ n, Ls D s n < 2 ^ (dW D * dW D)
  | 0 => Nat.pow_lt_pow_right (by decide) hs
  | n + 1 => spr_lt hS (Ls_lt hS hs n)
def dC (D : Dt) (s : Nat) : Nat → Nat → Nat
  | 0, _ => 1000000
  | n + 1, t => if dC D s n t = 1000000 ∧ (Ls D s n).testBit t = true then n else dC D s n t
theorem dC_le (D : Dt) (s : Nat) : ∀ n t, n ≤ 25 → dC D s n t ≤ 1000000
  | 0, t, _ => Nat.le_refl _
  | n + 1, t, h => by
    rw [dC]
    split
    · omega
    · exact dC_le D s n t (by omega)
theorem g_measure {D : Dt} {m : zv_M} (hS : CS D) (c : CN D m) {s : Nat} (hs : s < dW D * dW D) : fWa_measure (dg D) (Int32.ofNat s) m = some (vF m 59 (fun t => Int32.ofNat (dC D s 25 t)) 25) := by
  have hWW := CS_WW hS
  have e := wn_eq (fWa_measure_l16 (dg D)) (fun n => (Int32.ofNat (Ls D s n), Int32.ofNat n, vF m 59 (fun t => Int32.ofNat (dC D s n t)) 25)) 25 (vF m 59 (fun t => Int32.ofNat (dC D s 25 t)) 25) (by decide) (fun n hn => by
    have cn : CN D (vF m 59 (fun t => Int32.ofNat (dC D s (n + 1) t)) 25) := CN_sc hS (sc_F (sc_r m) (fun _ => rfl)) c
    have l25 : Ls D s n < 2 ^ 25 := w25 hS (Ls_lt hS hs n)
    have inner := wn_eq (fWa_measure_l26 (Int32.ofNat (Ls D s n)) (Int32.ofNat n)) (fun i => (Int32.ofNat i, vF (vF m 59 (fun t => Int32.ofNat (dC D s n t)) 25) 59 (fun t => Int32.ofNat (dC D s (n + 1) t)) i)) 25 (vF m 59 (fun t => Int32.ofNat (dC D s (n + 1) t)) 25) (by decide) (fun i hi => by
      have old : (vF (vF m 59 (fun t => Int32.ofNat (dC D s n t)) 25) 59 (fun t => Int32.ofNat (dC D s (n + 1) t)) i).1 59 i = Int32.ofNat (dC D s n i) := by
        rw [vF_o _ _ (by omega), vF_e _ _ _ hi]
      have hz : (Int32.ofNat (dC D s n i) = 1000000) = (dC D s n i = 1000000) := propext (i_eq (b := 1000000) (by have := dC_le D s n i (by omega); omega) (by decide))
      have same : dC D s (n + 1) i = dC D s n i → vF (vF m 59 (fun t => Int32.ofNat (dC D s n t)) 25) 59 (fun t => Int32.ofNat (dC D s (n + 1) t)) (i + 1) = vF (vF m 59 (fun t => Int32.ofNat (dC D s n t)) 25) 59 (fun t => Int32.ofNat (dC D s (n + 1) t)) i := fun q => vF_k (by rw [vF_e _ _ _ hi, q])
      show fWa_measure_l26 _ _ (_, _) = _
      rw [fWa_measure_l26, if_pos (c25 hi), n_isIn (by omega), decide_eq_true hi, Bool.true_and, zb1_s, if01]
      cases b : (Ls D s n).testBit i
      · rw [if_neg (show ¬ false = true by decide), fWa_measure_j66, inc, same (by rw [dC, b, if_neg (fun q => by cases q.2)])]
      · rw [if_pos (show true = true from rfl), zI_n (by omega) hi, zg_t, zg_t, i_tn (by omega), old]
        simp only [hz]
        by_cases q : dC D s n i = 1000000
        · rw [if_pos q, fWa_measure_j66, inc, show Int32.ofNat n = Int32.ofNat (dC D s (n + 1) i) by rw [dC, b, if_pos ⟨q, rfl⟩], vF_s (g := fun t => Int32.ofNat (dC D s (n + 1) t))]
        · rw [if_neg q, fWa_measure_j66, inc, same (by rw [dC, if_neg (fun z => q z.1)])]) (by
      show fWa_measure_l26 _ _ (_, _) = _
      rw [fWa_measure_l26, if_neg (by decide), vF_w])
    rw [vF_0] at inner
    have inner' : whileN zFU (fWa_measure_l26 (Int32.ofNat (Ls D s n)) (Int32.ofNat n)) (0, vF m 59 (fun t => Int32.ofNat (dC D s n t)) 25) = _ := inner
    show fWa_measure_l16 _ (_, _, _) = _
    rw [fWa_measure_l16, if_pos (c25 hn), inner', zb1_s, g_spread hS cn l25, zb1_s, inc]
    rfl) (by
    show fWa_measure_l16 _ (_, _, _) = _
    rw [fWa_measure_l16, if_neg (by decide)])
  rw [fWa_measure, g_fill (N := 25) rfl (by decide), zb1_s, n_sh s (by omega)]
  exact congrArg (fun z => zb1 z (fun r => some r)) e
