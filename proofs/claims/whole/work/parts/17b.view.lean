/-! What a man sees, on the reference's side. -/
theorem orf_c {g h : Nat → Nat} : ∀ {n : Nat}, (∀ i, i < n → g i = h i) → orf g n = orf h n
  | 0, _ => rfl
  | n + 1, e => by rw [orf_s, orf_s, orf_c (fun i hi => e i (by omega)), e n (by omega)]
theorem orf_z {g : Nat → Nat} (n : Nat) : ∀ k, (∀ i, n ≤ i → i < n + k → g i = 0) → orf g (n + k) = orf g n
  | 0, _ => rfl
  | k + 1, e => by
    show orf g (n + k) ||| g (n + k) = _
    rw [orf_z n k (fun i h1 h2 => e i h1 (by omega)), e (n + k) (by omega) (by omega), Nat.or_zero]
theorem orf_sh {g : Nat → Nat} (a : Nat) (h : ∀ i, i < a → g i = 0) : ∀ k, orf g (a + k) = orf (fun i => g (a + i)) k
  | 0 => by
    have e := orf_z (g := g) 0 a (fun i _ h2 => h i (by omega))
    rw [Nat.zero_add] at e
    exact e
  | k + 1 => by
    show orf g (a + k) ||| g (a + k) = orf (fun i => g (a + i)) k ||| g (a + k)
    rw [orf_sh a h k]
theorem lines_ok {W H s a b : Nat} {rd : Bool} {m : zv_M} (h5 : W ≤ 5) (h2 : 2 ≤ W) (hs : s < W * W) (hab : a ≤ b) (hb : b ≤ 8) (e1 : m.1 68 1 = Int32.ofNat W) (e4 : m.1 68 4 = rI rd) (e2 : m.1 68 2 = Int32.ofNat H) (hX : ∀ d, d < 8 → m.1 83 d = aX d) (hY : ∀ d, d < 8 → m.1 84 d = aY d) : fM_lines (Int32.ofNat s) (Int32.ofNat a) (Int32.ofNat b) m = some (Int32.ofNat (orf (fun i => lkg W rd H s (a + i) 5 s) (b - a))) := by
  have e := wn_eq (fM_lines_l6 (Int32.ofNat s) (Int32.ofNat b) m) (fun i => (Int32.ofNat (orf (fun i => lkg W rd H s (a + i) 5 s) i), Int32.ofNat (a + i))) (b - a) (Int32.ofNat (orf (fun i => lkg W rd H s (a + i) 5 s) (b - a))) (by omega) (fun i hi => by
    show fM_lines_l6 _ _ _ (_, _) = _
    rw [fM_lines_l6, if_pos ((i_lt (by omega) (by omega)).mpr (by omega)), line_ok h5 h2 hs (by omega) e1 e4 e2 (hX _ (by omega)) (hY _ (by omega)), zb1_s, n_or, inc]
    rfl) (by
    show fM_lines_l6 _ _ _ (_, _) = _
    rw [fM_lines_l6, if_neg (fun q => by have := (i_lt (by omega) (by omega)).mp q; omega)])
  rw [fM_lines]
  exact congrArg (fun z => zb1 z (fun r => some r)) e
theorem vw_r {W H s : Nat} {rd : Bool} : orf (vwg W rd H s 5 15) 16 = orf (fun i => lkg W rd H s (0 + i) 5 s) (4 - 0) := by
  refine (orf_z (n := 4) 12 (fun i h1 h2 => ?_)).trans (orf_c fun i hi => ?_)
  · have : ∀ i, i < 16 → 4 ≤ i → (15 : Nat).testBit i = false := by decide
    rw [vwg, this i (by omega) h1]
    rfl
  · have : ∀ i, i < 4 → (15 : Nat).testBit i = true := by decide
    rw [vwg, this i (by omega), if_pos (by decide), Nat.zero_add]
theorem vw_b {W H s : Nat} {rd : Bool} : orf (vwg W rd H s 5 240) 16 = orf (fun i => lkg W rd H s (4 + i) 5 s) (8 - 4) := by
  refine (orf_z (n := 8) 8 (fun i h1 h2 => ?_)).trans ((orf_sh (g := vwg W rd H s 5 240) 4 (fun i h => ?_) 4).trans (orf_c fun i hi => ?_))
  · have : ∀ i, i < 16 → 8 ≤ i → (240 : Nat).testBit i = false := by decide
    rw [vwg, this i (by omega) h1]
    rfl
  · have : ∀ i, i < 4 → (240 : Nat).testBit i = false := by decide
    rw [vwg, this i h]
    rfl
  · have : ∀ i, i < 4 → (240 : Nat).testBit (4 + i) = true := by decide
    rw [vwg, this i (by omega), if_pos (by decide)]
theorem vw_q {W H s F : Nat} {rd : Bool} : orf (vwg W rd H s F 255) 16 = orf (fun i => lkg W rd H s (0 + i) F s) (8 - 0) := by
  refine (orf_z (n := 8) 8 (fun i h1 h2 => ?_)).trans (orf_c fun i hi => ?_)
  · have : ∀ i, i < 16 → 8 ≤ i → (255 : Nat).testBit i = false := by decide
    rw [vwg, this i (by omega) h1]
    rfl
  · have : ∀ i, i < 8 → (255 : Nat).testBit i = true := by decide
    rw [vwg, this i (by omega), if_pos (by decide), Nat.zero_add]
theorem kX : ∀ d, d < 8 → ([1, 0, -1, 0, 1, -1, -1, 1] : List Int32).getD d 0 = aX d := by decide +kernel
theorem kY : ∀ d, d < 8 → ([0, 1, 0, -1, 1, 1, -1, -1] : List Int32).getD d 0 = aY d := by decide +kernel
def lA (i : Nat) : Nat := [8, 10, 11, 9].getD i 0
def lB (i : Nat) : Nat := [12, 14, 15, 13].getD i 0
theorem lAB : ∀ i, i < 4 → aX (4 + i) = aX (lA i) ∧ 2 * aY (4 + i) = aY (lA i) ∧ 2 * aX (4 + i) = aX (lB i) ∧ aY (4 + i) = aY (lB i) ∧ lA i < 16 ∧ lB i < 16 := by decide +kernel
theorem leaps_ok {W H s : Nat} {rd : Bool} {m : zv_M} (h5 : W ≤ 5) (h2 : 2 ≤ W) (hs : s < W * W) (e1 : m.1 68 1 = Int32.ofNat W) (e4 : m.1 68 4 = rI rd) (e2 : m.1 68 2 = Int32.ofNat H) (hX : ∀ d, d < 8 → m.1 83 d = aX d) (hY : ∀ d, d < 8 → m.1 84 d = aY d) : fM_leaps (Int32.ofNat s) m = some (Int32.ofNat (orf (vwg W rd H s 1 65280) 16)) := by
  have e := wn_eq (fM_leaps_l4 (Int32.ofNat s) m) (fun i => (Int32.ofNat (orf (fun i => lkg W rd H s (lA i) 1 s ||| lkg W rd H s (lB i) 1 s) i), Int32.ofNat (4 + i))) 4 (Int32.ofNat (orf (fun i => lkg W rd H s (lA i) 1 s ||| lkg W rd H s (lB i) 1 s) 4)) (by decide) (fun i hi => by
    obtain ⟨a1, a2, a3, a4, a5, a6⟩ := lAB i hi
    have z : zI (Int32.ofNat (4 + i)) 8 = true := zI_n (by omega) (by omega)
    show fM_leaps_l4 _ _ (_, _) = _
    rw [fM_leaps_l4, if_pos (show Int32.ofNat (4 + i) < 8 from (i_lt (b := 8) (by omega) (by decide)).mpr (by omega)), z, zg_t, zg_t, i_tn (by omega), hX _ (by omega), hY _ (by omega), a2, a1, one_ok h5 h2 hs a5 e1 e4 e2, zb1_s, zg_t, zg_t, ← a1, a3, a4, one_ok h5 h2 hs a6 e1 e4 e2, zb1_s, n_or, n_or, inc]
    rfl) (by
    show fM_leaps_l4 _ _ (_, _) = _
    rw [fM_leaps_l4, if_neg (by decide)])
  have e5 : orf (vwg W rd H s 1 65280) 16 = orf (fun i => lkg W rd H s (lA i) 1 s ||| lkg W rd H s (lB i) 1 s) 4 := by
    refine ((orf_sh (g := vwg W rd H s 1 65280) 8 (fun i h => ?_) 8).trans (orf_c (h := fun i => lkg W rd H s (8 + i) 1 s) fun i hi => ?_)).trans ?_
    · have : ∀ i, i < 8 → (65280 : Nat).testBit i = false := by decide
      rw [vwg, this i h]
      rfl
    · have : ∀ i, i < 8 → (65280 : Nat).testBit (8 + i) = true := by decide
      rw [vwg, this i (by omega), if_pos (by decide)]
    · show 0 ||| lkg W rd H s 8 1 s ||| lkg W rd H s 9 1 s ||| lkg W rd H s 10 1 s ||| lkg W rd H s 11 1 s ||| lkg W rd H s 12 1 s ||| lkg W rd H s 13 1 s ||| lkg W rd H s 14 1 s ||| lkg W rd H s 15 1 s = 0 ||| (lkg W rd H s 8 1 s ||| lkg W rd H s 12 1 s) ||| (lkg W rd H s 10 1 s ||| lkg W rd H s 14 1 s) ||| (lkg W rd H s 11 1 s ||| lkg W rd H s 15 1 s) ||| (lkg W rd H s 9 1 s ||| lkg W rd H s 13 1 s)
      generalize lkg W rd H s 8 1 s = a0
      generalize lkg W rd H s 9 1 s = a1
      generalize lkg W rd H s 10 1 s = a2
      generalize lkg W rd H s 11 1 s = a3
      generalize lkg W rd H s 12 1 s = a4
      generalize lkg W rd H s 13 1 s = a5
      generalize lkg W rd H s 14 1 s = a6
      generalize lkg W rd H s 15 1 s = a7
      apply Nat.eq_of_testBit_eq
      intro i
      simp only [Nat.testBit_or]
      generalize a0.testBit i = b0
      generalize a1.testBit i = b1
      generalize a2.testBit i = b2
      generalize a3.testBit i = b3
      generalize a4.testBit i = b4
      generalize a5.testBit i = b5
      generalize a6.testBit i = b6
      generalize a7.testBit i = b7
      generalize Nat.testBit 0 i = b8
      revert b0 b1 b2 b3 b4 b5 b6 b7 b8
      decide
  rw [fM_leaps, e5]
  exact congrArg (fun z => zb1 z (fun r => some r)) e
theorem nextTo_ok {W H s p k q wm : Nat} {rd : Bool} {m : zv_M} (h5 : W ≤ 5) (h2 : 2 ≤ W) (hs : s < W * W) (hp : p < 6) (e1 : m.1 68 1 = Int32.ofNat W) (e4 : m.1 68 4 = rI rd) (e2 : m.1 68 2 = Int32.ofNat H) (hX : ∀ d, d < 8 → m.1 83 d = aX d) (hY : ∀ d, d < 8 → m.1 84 d = aY d) (hk : m.1 69 p = Int32.ofNat k) (hk7 : k < 7) (hr : ∀ d, d < 8 → m.1 71 (8 * p + d) = Int32.ofNat (q / 2 ^ d % 2)) (hw : k = 3 ∧ wm = 255 ∨ ¬ k = 3 ∧ wm = q ∧ q < 256) : fM_nextTo (Int32.ofNat p) (Int32.ofNat s) m = some (Int32.ofNat (orf (vwg W rd H s 1 wm) 16)) := by
  have e := wn_eq (fM_nextTo_l5 (Int32.ofNat p) (Int32.ofNat s) m) (fun i => (Int32.ofNat (orf (vwg W rd H s 1 wm) i), Int32.ofNat i)) 8 (Int32.ofNat (orf (vwg W rd H s 1 wm) 8)) (by decide) (fun i hi => by
    have z : zI (Int32.ofNat i) 8 = true := zI_n (by omega) (by omega)
    have yes : ∀ a : Nat, fM_nextTo_j38 (Int32.ofNat s) m (Int32.ofNat a) (Int32.ofNat i) = some (.inl (Int32.ofNat (a ||| lkg W rd H s i 1 s), Int32.ofNat (i + 1))) := fun a => by
      rw [fM_nextTo_j38, z, zg_t, zg_t, i_tn (by omega), hX i hi, hY i hi, one_ok h5 h2 hs (by omega) e1 e4 e2, zb1_s, n_or, inc]
    show fM_nextTo_l5 _ _ _ (_, _) = _
    rw [fM_nextTo_l5, if_pos (show Int32.ofNat i < 8 from (i_lt (b := 8) (by omega) (by decide)).mpr hi), zI_n (by omega) hp, zg_t, i_tn (by omega), hk, orf_s]
    rcases hw with ⟨rfl, rfl⟩ | ⟨hk3, rfl, hq⟩
    · have : ∀ i, i < 8 → (255 : Nat).testBit i = true := by decide
      rw [if_pos (by decide), yes, vwg, this i hi, if_pos (by decide)]
    · have h8 : 8 * Int32.ofNat p + Int32.ofNat i = Int32.ofNat (8 * p + i) := by
        rw [show (8 : Int32) = Int32.ofNat 8 from rfl, i_mu, i_pl]
      rw [if_neg (show ¬ Int32.ofNat k = 3 from fun z => hk3 ((i_eq (b := 3) (by omega) (by decide)).mp z)), h8, zI_n (by omega) (by omega), zg_t, i_tn (by omega), hr i hi, vwg, Nat.testBit_eq_decide_div_mod_eq]
      rcases Nat.mod_two_eq_zero_or_one (wm / 2 ^ i) with b | b
      · rw [b, if_neg (by decide), if_neg (by decide), fM_nextTo_j60, inc, Nat.or_zero]
      · rw [b, if_pos (by decide), if_pos (by decide), yes]) (by
    show fM_nextTo_l5 _ _ _ (_, _) = _
    rw [fM_nextTo_l5, if_neg (by decide)])
  have e5 : orf (vwg W rd H s 1 wm) 16 = orf (vwg W rd H s 1 wm) 8 := orf_z (n := 8) 8 (fun i h1 h2 => by
    have : wm.testBit i = false := tb_hi (N := 8) (by omega) h1
    rw [vwg, this]
    rfl)
  rw [fM_nextTo, e5]
  exact congrArg (fun z => zb1 z (fun r => some r)) e
theorem sees_ok {W H s p k v q : Nat} {rd : Bool} {m : zv_M} (h5 : W ≤ 5) (h2 : 2 ≤ W) (hs : s < W * W) (hp : p < 6) (e1 : m.1 68 1 = Int32.ofNat W) (e4 : m.1 68 4 = rI rd) (e2 : m.1 68 2 = Int32.ofNat H) (hX : ∀ d, d < 8 → m.1 83 d = aX d) (hY : ∀ d, d < 8 → m.1 84 d = aY d) (hk : m.1 69 p = Int32.ofNat k) (hk7 : k < 7) (hv : m.1 70 p = Int32.ofNat v) (hv10 : v < 10) (hq : q < 256) (hr : ∀ d, d < 8 → m.1 71 (8 * p + d) = Int32.ofNat (q / 2 ^ d % 2)) : fM_seesOf (Int32.ofNat p) (Int32.ofNat s) m = some (Int32.ofNat (vw W rd H k v q s)) := by
  have L : ∀ a b : Nat, a ≤ b → b ≤ 8 → fM_lines (Int32.ofNat s) (Int32.ofNat a) (Int32.ofNat b) m = some (Int32.ofNat (orf (fun i => lkg W rd H s (a + i) 5 s) (b - a))) := fun a b q1 q2 => lines_ok h5 h2 hs q1 q2 e1 e4 e2 hX hY
  have L04 := L 0 4 (by decide) (by decide)
  have L48 := L 4 8 (by decide) (by decide)
  have L08 := L 0 8 (by decide) (by decide)
  rw [← vw_r] at L04
  rw [← vw_b] at L48
  rw [← vw_q] at L08
  have M04 : fM_lines (Int32.ofNat s) 0 4 m = _ := L04
  have M48 : fM_lines (Int32.ofNat s) 4 8 m = _ := L48
  have M08 : fM_lines (Int32.ofNat s) 0 8 m = _ := L08
  rw [fM_seesOf, zI_n (by omega) hp, zg_t, zg_t, i_tn (by omega), hk, hv, vw]
  rcases (show k = 0 ∨ k = 1 ∨ k = 2 ∨ k = 3 ∨ k = 4 ∨ k = 5 ∨ k = 6 by omega) with rfl | rfl | rfl | rfl | rfl | rfl | rfl
  · have e0 : orf (vwg W rd H s 5 0) 16 = orf (vwg W rd H s 5 0) 0 := orf_z (n := 0) 16 (fun i _ _ => by rw [vwg, Nat.zero_testBit]; rfl)
    exact congrArg (fun z => some (Int32.ofNat z)) e0.symm
  · rw [if_pos (by decide), M04]
    rfl
  · rw [if_neg (by decide), if_pos (by decide), M48]
    rfl
  · rw [if_neg (by decide), if_neg (by decide), if_pos (by decide), nextTo_ok h5 h2 hs hp e1 e4 e2 hX hY hk (by decide) hr (Or.inl ⟨rfl, rfl⟩)]
    rfl
  · rw [if_neg (by decide), if_neg (by decide), if_neg (by decide), if_pos (by decide), M08]
    rfl
  · rw [if_neg (by decide), if_neg (by decide), if_neg (by decide), if_neg (by decide), if_pos (by decide)]
    by_cases h4 : v < 5
    · rw [if_pos (show Int32.ofNat v < 5 from (i_lt (b := 5) (by omega) (by decide)).mpr h4), M48, vfar, vways, if_neg (by omega), if_neg (by omega)]
      rfl
    · rw [if_neg (show ¬ Int32.ofNat v < 5 from fun z => h4 ((i_lt (b := 5) (by omega) (by decide)).mp z)), leaps_ok h5 h2 hs e1 e4 e2 hX hY, vfar, vways, if_pos (by omega), if_pos (by omega)]
      rfl
  · rw [if_neg (by decide), if_neg (by decide), if_neg (by decide), if_neg (by decide), if_neg (by decide), if_pos (by decide), nextTo_ok h5 h2 hs hp e1 e4 e2 hX hY hk (by decide) hr (Or.inr ⟨by decide, rfl, hq⟩)]
    rfl
