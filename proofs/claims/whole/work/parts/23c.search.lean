def gG (n : Nat) : Int32 → Int32 → Int32 → zv_M → Option zv_M := fRo_goBehind_goOn (2 * n) false
def gB (n : Nat) : Int32 → Int32 → Int32 → zv_M → Option zv_M := fRo_goBehind_goOn (2 * n + 1) true
theorem gG_16 (p1 p2 p3 : Int32) (m : zv_M) : fRo_goOn 16 p1 p2 p3 m = gG 8 p1 p2 p3 m := rfl
theorem gG_s (n : Nat) (p1 p2 p3 : Int32) (m : zv_M) : gG (n + 1) p1 p2 p3 m = fRo_goOn_b (gB n) (fRo_goBehind_goOn (2 * n + 1) false) p1 p2 p3 m := by
  show fRo_goBehind_goOn (2 * n + 1 + 1) false p1 p2 p3 m = _
  rw [fRo_goBehind_goOn]
  rfl
theorem gB_s (n : Nat) (p1 p2 p3 : Int32) (m : zv_M) : gB n p1 p2 p3 m = if p1 < (m.1 49 4) - 1 then zb1 (gG n (p1 + 1) p2 p3 m) (fun m2 => some m2) else if p3 = 0 then zb1 (fRo_noteWay m) (fun m1 => some m1) else some m := by
  show fRo_goBehind_goOn (2 * n + 1) true p1 p2 p3 m = _
  rw [fRo_goBehind_goOn, fRo_goBehind_b]
  rfl
theorem da_len {W F : Nat} {bd : Nat → Nat} (hW : W ≤ 5) : ∀ (k y : Nat) (x : Nat → Nat) (set : Nat), x y < W ∨ k = 0 → (∀ r, y ≤ r → r < y + k → x r < W) → (da2 W F bd k y x set).length ≤ 5 ^ k
  | 0, y, x, set, _, _ => Nat.zero_le _
  | k + 1, y, x, set, h0, hx => by
    have hy := hx y (Nat.le_refl y) (by omega)
    have h := fl_len (g := fun a => if okb F bd set (y * W + a) = true then dt W F bd k (y + 1) (ux x y a) (set ||| 2 ^ (y * W + a)) else []) (b := 5 ^ k) (W - 1 - x y) (x y + 1) (fun i => by
      show (if okb F bd set (y * W + i) = true then dt W F bd k (y + 1) (ux x y i) (set ||| 2 ^ (y * W + i)) else []).length ≤ _
      split
      · exact dt_len hW k _ _ _
      · exact Nat.zero_le _)
    have h1 : (if okb F bd set (y * W + x y) = true then da2 W F bd k (y + 1) x (set ||| 2 ^ (y * W + x y)) else []).length ≤ 5 ^ k := by
      split
      · refine da_len hW k (y + 1) x _ ?_ (fun r a b => hx r (by omega) (by omega))
        rcases Nat.eq_zero_or_pos k with q | q
        · exact Or.inr q
        · exact Or.inl (hx (y + 1) (by omega) (by omega))
      · exact Nat.zero_le _
    have h2 : (W - 1 - x y) * 5 ^ k ≤ 4 * 5 ^ k := Nat.mul_le_mul_right _ (by omega)
    rw [da2, List.length_append, Nat.pow_succ]
    omega
theorem nC_le (one : Bool) (c l : Nat) : nC one c l ≤ c + l := by
  unfold nC
  cases one
  · rw [if_neg (by decide)]
    omega
  · rw [if_pos rfl]
    split
    · omega
    · omega
/-- one square of a row tried -/
theorem row_ok {one level lv0 : Bool} {W F : Nat} {ln b bd : Nat → Nat} {k y n shut set a c : Nat} {x : Nat → Nat} {m : zv_M} (hW2 : 2 ≤ W) (hW : W ≤ 5) (hln : ∀ s0, s0 < 25 → F.testBit s0 = true → ∀ s, s < 25 → F.testBit s = true → (ln s0).testBit s = (bd s).testBit s0) (hyk : y + (k + 1) = W) (ha : a < W) (hR : RS one lv0 W F ln b m) (hSH : SH F bd shut set) (h7 : m.1 49 7 = Int32.ofNat c) (hc : c + 5 ^ k ≤ 100000) (hp : ∀ r, r < y → m.1 52 r = Int32.ofNat (x r)) (hlev : level = true → ∀ r, r < y → x r = b r) (hbW : ∀ r, r < W → b r < 100) (hl0 : level = true → lv0 = true)
    (IH : ∀ (shut set c : Nat) (lv : Bool) (x : Nat → Nat) (m : zv_M), 0 < k → RS one lv0 W F ln b m → SH F bd shut set → m.1 49 7 = Int32.ofNat c → c + 5 ^ k ≤ 100000 → (∀ r, r < y + 1 → m.1 52 r = Int32.ofNat (x r)) → (lv = true → ∀ r, r < y + 1 → x r = b r) → (lv = true → lv0 = true) → ∃ m', gG n (Int32.ofNat (y + 1)) (Int32.ofNat shut) (bI lv) m = some m' ∧ EF one W (y + 1) c (if lv = true then da2 W F bd k (y + 1) b set else dt W F bd k (y + 1) x set) m m') :
    ∃ m', fRo_goOn_l47 (Int32.ofNat y) (Int32.ofNat shut) (bI level) (gB n) (Int32.ofNat a, m) = some (.inl (Int32.ofNat (a + 1), m')) ∧ EF one W y c (if okb F bd set (y * W + a) = true then (if (level && decide (a = b y)) = true then da2 W F bd k (y + 1) b (set ||| 2 ^ (y * W + a)) else dt W F bd k (y + 1) (ux x y a) (set ||| 2 ^ (y * W + a))) else []) m m' := by
  obtain ⟨r1, r2, r3, r4, r5⟩ := hR
  have hR : RS one lv0 W F ln b m := ⟨r1, r2, r3, r4, r5⟩
  have hyW : y < W := by omega
  have hc2 : c ≤ 100000 := Nat.le_trans (Nat.le_add_right _ _) hc
  have hsq : y * W + a < W * W := by
    have : (y + 1) * W ≤ W * W := Nat.mul_le_mul_right W hyW
    rw [Nat.succ_mul] at this
    omega
  have hsq25 := sq25 hW hsq
  have hsI : Int32.ofNat y * Int32.ofNat W + Int32.ofNat a = Int32.ofNat (y * W + a) := by rw [i_mu, i_pl]
  have hcond : ((ad F shut).testBit (y * W + a)) = okb F bd set (y * W + a) := by
    rw [ad_t, okb]
    cases hF : F.testBit (y * W + a)
    · rfl
    · rw [hSH _ hsq25 hF, Bool.not_not]
  rw [fRo_goOn_l47, r1, if_pos ((i_lt (by omega) (by omega)).mpr ha), r2, n_ad, hsI, n_isIn (by omega), decide_eq_true hsq25, Bool.true_and, hcond, zb1_s, if01]
  cases hok : okb F bd set (y * W + a)
  · rw [if_neg (show ¬ false = true by decide), if_neg (show ¬ false = true by decide), fRo_goOn_j139, inc]
    exact ⟨m, rfl, EF_0 h7⟩
  · have hF : F.testBit (y * W + a) = true := by
      unfold okb at hok
      exact (Bool.and_eq_true _ _ |>.mp hok).1
    rw [if_pos (show true = true from rfl), if_pos (show true = true from rfl)]
    have hSH' : SH F bd (shut ||| ln (y * W + a)) (set ||| 2 ^ (y * W + a)) := SH_step hSH (hln _ hsq25 hF)
    have hpath : ∀ r, r < y + 1 → (wI m 52 y (Int32.ofNat a)).1 52 r = Int32.ofNat (ux x y a r) := fun r hr => by
      by_cases q : r = y
      · rw [q, wI_e, ux_e]
      · rw [wI_o _ _ (by omega), ux_o x q, hp r (by omega)]
    have hR' : RS one lv0 W F ln b (wI m 52 y (Int32.ofNat a)) := hR
    have h7' : (wI m 52 y (Int32.ofNat a)).1 49 7 = Int32.ofNat c := h7
    have hWm1 : Int32.ofNat W - 1 = Int32.ofNat (W - 1) := i_mi (b := 1) (by omega) (by omega)
    have hB : ∀ (v : Int32) (sh : Nat), gB n (Int32.ofNat y) (Int32.ofNat sh) v (wI m 52 y (Int32.ofNat a)) = if Int32.ofNat y < Int32.ofNat (W - 1) then zb1 (gG n (Int32.ofNat (y + 1)) (Int32.ofNat sh) v (wI m 52 y (Int32.ofNat a))) (fun m2 => some m2) else if v = 0 then zb1 (fRo_noteWay (wI m 52 y (Int32.ofNat a))) (fun m1 => some m1) else some (wI m 52 y (Int32.ofNat a)) := fun v sh => by
      rw [gB_s, show (wI m 52 y (Int32.ofNat a)).1 49 4 = m.1 49 4 from rfl, r1, hWm1, inc]
    -- not level
    have J135 : (one = true → c = 0) → ∃ m', fRo_goOn_j135 (Int32.ofNat y) (Int32.ofNat shut) (gB n) (Int32.ofNat a) m = some (.inl (Int32.ofNat (a + 1), m')) ∧ EF one W y c (dt W F bd k (y + 1) (ux x y a) (set ||| 2 ^ (y * W + a))) m m' := fun hone => by
      rw [fRo_goOn_j135, i_tn (by omega), r1, hsI, i_tn (by omega), show (wI m 52 y (Int32.ofNat a)).1 50 (y * W + a) = m.1 50 (y * W + a) from rfl, r4 _ hsq25, n_or, hB]
      by_cases hk : 0 < k
      · obtain ⟨m', e, ef⟩ := IH _ _ c false (ux x y a) _ hk hR' hSH' h7' hc hpath (fun z => by cases z) (fun z => by cases z)
        have e' : gG n (Int32.ofNat (y + 1)) (Int32.ofNat (shut ||| ln (y * W + a))) 0 (wI m 52 y (Int32.ofNat a)) = some m' := e
        rw [if_pos ((i_lt (by omega) (by omega)).mpr (by omega)), e', zb1_s, zb1_s, fRo_goOn_j139, inc]
        exact ⟨m', rfl, EF_path (EF_mono ef (Nat.le_succ y))⟩
      · obtain rfl : k = 0 := by omega
        obtain ⟨m', e, ef⟩ := note_ok (one := one) (W := W) (c := c) (x := ux x y a) (m := wI m 52 y (Int32.ofNat a)) hW r1 h7' (by omega) (fun r hr => hpath r (by omega)) hone y
        rw [if_neg (fun z => by have := (i_lt (by omega) (by omega)).mp z; omega), if_pos (by decide), e, zb1_s, zb1_s, fRo_goOn_j139, inc]
        exact ⟨m', rfl, EF_path ef⟩
    have J97 : (one = true → c = 0) → ∃ m', fRo_goOn_j97 (Int32.ofNat y) (Int32.ofNat shut) (bI level) (gB n) (Int32.ofNat a) m = some (.inl (Int32.ofNat (a + 1), m')) ∧ EF one W y c (if (level && decide (a = b y)) = true then da2 W F bd k (y + 1) b (set ||| 2 ^ (y * W + a)) else dt W F bd k (y + 1) (ux x y a) (set ||| 2 ^ (y * W + a))) m m' := fun hone => by
      rw [fRo_goOn_j97, zI_n (by omega) (show y < 5 by omega), zg_t, r1, hsI, zI_n (by omega) hsq25, zg_t, zg_t]
      cases level with
      | false =>
        rw [if_pos (by decide), Bool.false_and, if_neg (show ¬ false = true by decide)]
        exact J135 hone
      | true =>
        have hab : (Int32.ofNat a = (wI m 52 (Int32.ofNat y).toNatClampNeg (Int32.ofNat a)).1 51 (Int32.ofNat y).toNatClampNeg) = (a = b y) := by
          rw [i_tn (by omega), show (wI m 52 y (Int32.ofNat a)).1 51 y = m.1 51 y from rfl, r5 (hl0 rfl) y hyW]
          exact propext (i_eq (by omega) (by have := hbW y hyW; omega))
        rw [if_neg (by decide), Bool.true_and]
        simp only [hab]
        by_cases q : a = b y
        · rw [if_pos q, decide_eq_true q, if_pos (show true = true from rfl), fRo_goOn_j136, i_tn (by omega), r1, hsI, i_tn (by omega), show (wI m 52 y (Int32.ofNat a)).1 50 (y * W + a) = m.1 50 (y * W + a) from rfl, r4 _ hsq25, n_or, hB]
          by_cases hk : 0 < k
          · obtain ⟨m', e, ef⟩ := IH _ _ c true (ux x y a) _ hk hR' hSH' h7' hc hpath (fun _ r hr => by
              by_cases q2 : r = y
              · rw [q2, ux_e, q]
              · rw [ux_o x q2]
                exact hlev rfl r (by omega)) hl0
            have e' : gG n (Int32.ofNat (y + 1)) (Int32.ofNat (shut ||| ln (y * W + a))) 1 (wI m 52 y (Int32.ofNat a)) = some m' := e
            rw [if_pos (show true = true from rfl)] at ef
            rw [if_pos ((i_lt (by omega) (by omega)).mpr (by omega)), e', zb1_s, zb1_s, fRo_goOn_j139, inc]
            exact ⟨m', rfl, EF_path (EF_mono ef (Nat.le_succ y))⟩
          · obtain rfl : k = 0 := by omega
            rw [if_neg (fun z => by have := (i_lt (by omega) (by omega)).mp z; omega), if_neg (by decide), zb1_s, fRo_goOn_j139, inc]
            exact ⟨_, rfl, EF_path (EF_0 h7')⟩
        · rw [if_neg q, decide_eq_false q, if_neg (show ¬ false = true by decide)]
          exact J135 hone
    rw [r3, h7]
    cases one with
    | false =>
      rw [if_pos (by decide)]
      exact J97 (fun z => by cases z)
    | true =>
      rw [if_neg (by decide)]
      by_cases hc0 : 0 < c
      · rw [if_pos (show (0 : Int32) < Int32.ofNat c from (i_lt (a := 0) (by decide) (by omega)).mpr hc0), fRo_goOn_j139, inc]
        exact ⟨m, rfl, EF_skip h7 hc0⟩
      · rw [if_neg (show ¬ (0 : Int32) < Int32.ofNat c from fun z => hc0 ((i_lt (a := 0) (by decide) (by omega)).mp z))]
        exact J97 (fun _ => by omega)
