theorem dv25 : ∀ W, W < 6 → 2 ≤ W → ∀ s, s < 25 → Int32.ofNat s / Int32.ofNat W = Int32.ofNat (s / W) := by decide +kernel
theorem md25 : ∀ W, W < 6 → 2 ≤ W → ∀ s, s < 25 → Int32.ofNat s - Int32.ofNat s / Int32.ofNat W * Int32.ofNat W = Int32.ofNat (s % W) := by decide +kernel
theorem zN25 : ∀ W, W < 6 → 2 ≤ W → zN (Int32.ofNat W) = true := by decide +kernel
/-! Where a way leads from a square of a board W wide (25: nowhere), and what is seen along it. -/
def wx (w : Nat) : Nat := [3, 2, 1, 2, 3, 1, 1, 3, 3, 3, 1, 1, 4, 4, 0, 0].getD w 2
def wy (w : Nat) : Nat := [2, 3, 2, 1, 3, 3, 1, 1, 4, 0, 4, 0, 3, 1, 3, 1].getD w 2
def nx (W : Nat) (rd : Bool) (c w : Nat) : Nat :=
  if rd = true then (c / W + wy w + 2 * W - 2) % W * W + (c % W + wx w + 2 * W - 2) % W
  else if 2 ≤ c % W + wx w ∧ c % W + wx w < W + 2 ∧ 2 ≤ c / W + wy w ∧ c / W + wy w < W + 2 then (c / W + wy w - 2) * W + (c % W + wx w - 2) else 25
def rI (rd : Bool) : Int32 := if rd = true then 1 else 0
/-- goOn and away as functions of the board's numbers -/
def gqF (W r p1 : Int32) : Option Int32 :=
  if r = 0 then some (-1) else if (0 : Int32) < W then zb1 (fJ_floorMod p1 W) (fun r1 => some r1) else some (-1)
def gq (W r p1 : Int32) : Option Int32 := if p1 < 0 then gqF W r p1 else if p1 < W then some p1 else gqF W r p1
theorem goOn_gq (o : Nat) (p : Int32) (m : zv_M) : fYa_goOn o p m = gq (m.1 o 0) (m.1 o 1) p := rfl
def aq (W r p1 p2 p3 : Int32) : Option Int32 := zg (zN W) (zg (zN W) (if r = 0 then zb1 (fM_in ((p1 - p1 / W * W) + p2) 0 (W - 1)) (fun r1 => if r1 = 0 then some (-1) else zb1 (fM_in ((p1 / W) + p3) 0 (W - 1)) (fun r3 => if r3 = 0 then some (-1) else some ((W * ((p1 / W) + p3)) + ((p1 - p1 / W * W) + p2)))) else zg (zN W) (zg (zN W) (some ((W * ((((p1 / W) + p3) + (2 * W)) - (((p1 / W) + p3) + (2 * W)) / W * W)) + ((((p1 - p1 / W * W) + p2) + (2 * W)) - (((p1 - p1 / W * W) + p2) + (2 * W)) / W * W))))))
theorem away_aq (p1 p2 p3 : Int32) (m : zv_M) : fM_away p1 p2 p3 m = aq (m.1 68 1) (m.1 68 4) p1 p2 p3 := rfl
def gqB (W : Nat) (rd : Bool) (c w : Nat) : Bool := match gq (Int32.ofNat W) (rI rd) (Int32.ofNat (c % W) + zv_tv 1 w), gq (Int32.ofNat W) (rI rd) (Int32.ofNat (c / W) + zv_tv 2 w) with
  | some a, some b => if nx W rd c w = 25 then decide (a < 0) || decide (b < 0) else decide (a = Int32.ofNat (nx W rd c w % W)) && decide (b = Int32.ofNat (nx W rd c w / W)) && decide (nx W rd c w < W * W)
  | _, _ => false
theorem gqB_ok : ∀ W, W < 6 → 2 ≤ W → ∀ c, c < 25 → c < W * W → ∀ w, w < 16 → ∀ rd, gqB W rd c w = true := by decide +kernel
theorem gq_ok {W c w : Nat} (rd : Bool) (h5 : W ≤ 5) (h2 : 2 ≤ W) (hc : c < W * W) (hw : w < 16) : ∃ a b, gq (Int32.ofNat W) (rI rd) (Int32.ofNat (c % W) + zv_tv 1 w) = some a ∧ gq (Int32.ofNat W) (rI rd) (Int32.ofNat (c / W) + zv_tv 2 w) = some b ∧ ((nx W rd c w = 25 ∧ (a < 0 ∨ b < 0)) ∨ (nx W rd c w < W * W ∧ a = Int32.ofNat (nx W rd c w % W) ∧ b = Int32.ofNat (nx W rd c w / W))) := by
  have hWW : W * W ≤ 5 * 5 := Nat.mul_le_mul h5 h5
  have h := gqB_ok W (by omega) h2 c (by omega) hc w hw rd
  unfold gqB at h
  split at h
  · rename_i a b e1 e2
    refine ⟨a, b, e1, e2, ?_⟩
    by_cases q : nx W rd c w = 25
    · rw [if_pos q] at h
      refine Or.inl ⟨q, ?_⟩
      rcases Bool.or_eq_true _ _ |>.mp h with h | h
      · exact Or.inl (of_decide_eq_true h)
      · exact Or.inr (of_decide_eq_true h)
    · rw [if_neg q] at h
      obtain ⟨h, h3⟩ := Bool.and_eq_true _ _ |>.mp h
      obtain ⟨h, h4⟩ := Bool.and_eq_true _ _ |>.mp h
      exact Or.inr ⟨of_decide_eq_true h3, of_decide_eq_true h, of_decide_eq_true h4⟩
  · cases h
def aX (w : Nat) : Int32 := Int32.ofNat (wx w) - 2
def aY (w : Nat) : Int32 := Int32.ofNat (wy w) - 2
def aqB (W : Nat) (rd : Bool) (c w : Nat) : Bool := decide (aq (Int32.ofNat W) (rI rd) (Int32.ofNat c) (aX w) (aY w) = some (if nx W rd c w = 25 then -1 else Int32.ofNat (nx W rd c w)))
theorem aqB_ok : ∀ W, W < 6 → 2 ≤ W → ∀ c, c < 25 → c < W * W → ∀ w, w < 16 → ∀ rd, aqB W rd c w = true := by decide +kernel
theorem aq_ok (W : Nat) (hW : W < 6) (h2 : 2 ≤ W) (c : Nat) (hc : c < 25) (hc2 : c < W * W) (w : Nat) (hw : w < 16) (rd : Bool) : aq (Int32.ofNat W) (rI rd) (Int32.ofNat c) (aX w) (aY w) = some (if nx W rd c w = 25 then -1 else Int32.ofNat (nx W rd c w)) := of_decide_eq_true (aqB_ok W hW h2 c hc hc2 w hw rd)
theorem nx_lt {W c w : Nat} (rd : Bool) (h5 : W ≤ 5) (h2 : 2 ≤ W) (hc : c < W * W) (hw : w < 16) : nx W rd c w = 25 ∨ nx W rd c w < W * W := by
  obtain ⟨a, b, -, -, h | h⟩ := gq_ok rd h5 h2 hc hw
  · exact Or.inl h.1
  · exact Or.inr h.1
/-- seen from s along way w, from c on, by so many steps -/
def lkg (W : Nat) (rd : Bool) (H s w : Nat) : Nat → Nat → Nat
  | 0, _ => 0
  | f + 1, c => if nx W rd c w = 25 ∨ nx W rd c w = s ∨ H.testBit (nx W rd c w) = true then 0 else 2 ^ nx W rd c w ||| lkg W rd H s w f (nx W rd c w)
theorem lkg_t {W : Nat} {rd : Bool} {H s w : Nat} (h5 : W ≤ 5) (h2 : 2 ≤ W) (hw : w < 16) : ∀ f c, c < W * W → ∀ i, (lkg W rd H s w f c).testBit i = true → i < W * W ∧ ¬ i = s ∧ H.testBit i = false := by
  intro f
  induction f with
  | zero =>
    intro c _ i h
    rw [lkg, Nat.zero_testBit] at h
    cases h
  | succ f ih =>
    intro c hc i h
    rw [lkg] at h
    split at h
    · rw [Nat.zero_testBit] at h
      cases h
    · rename_i q
      have q1 : ¬ nx W rd c w = 25 := fun z => q (Or.inl z)
      have q2 : ¬ nx W rd c w = s := fun z => q (Or.inr (Or.inl z))
      have q3 : H.testBit (nx W rd c w) = false := by
        cases e : H.testBit (nx W rd c w)
        · rfl
        · exact absurd (Or.inr (Or.inr e)) q
      have hq : nx W rd c w < W * W := (nx_lt rd h5 h2 hc hw).resolve_left q1
      rw [Nat.testBit_or, Nat.testBit_two_pow] at h
      rcases Bool.or_eq_true _ _ |>.mp h with h | h
      · have := of_decide_eq_true h
        subst this
        exact ⟨hq, q2, q3⟩
      · exact ih _ hq i h
theorem sq25 {W s : Nat} (h5 : W ≤ 5) (hs : s < W * W) : s < 25 := Nat.lt_of_lt_of_le hs (Nat.mul_le_mul h5 h5)
/-- the class's look along a way -/
theorem look_ok {W H s w F : Nat} {rd : Bool} {o : Nat} {m : zv_M} (h5 : W ≤ 5) (h2 : 2 ≤ W) (hs : s < W * W) (hw : w < 16) (hF : F < 10) (e0 : m.1 o 0 = Int32.ofNat W) (e1 : m.1 o 1 = rI rd) (e2 : m.1 o 2 = Int32.ofNat H) : fYa_lookAlong o (Int32.ofNat s) (zv_tv 1 w) (zv_tv 2 w) (Int32.ofNat F) m = some (Int32.ofNat (lkg W rd H s w F s)) := by
  have hs25 := sq25 h5 hs
  have key : ∀ (j i c a fu : Nat), i + j = F → c < W * W → j < fu → whileN fu (fYa_lookAlong_l20 o (Int32.ofNat s) (zv_tv 1 w) (zv_tv 2 w) (Int32.ofNat F) m) (Int32.ofNat (c % W), Int32.ofNat (c / W), Int32.ofNat a, Int32.ofNat i) = some (Int32.ofNat (a ||| lkg W rd H s w j c)) := by
    intro j
    induction j with
    | zero =>
      intro i c a fu hi hc hf
      obtain ⟨fu', rfl⟩ : ∃ k, fu = k + 1 := ⟨fu - 1, by omega⟩
      obtain rfl : i = F := by omega
      rw [whileN, fYa_lookAlong_l20, if_neg (fun q => by have := (i_lt (by omega) (by omega)).mp q; omega), lkg, Nat.or_zero]
    | succ j ih =>
      intro i c a fu hi hc hf
      obtain ⟨fu', rfl⟩ : ∃ k, fu = k + 1 := ⟨fu - 1, by omega⟩
      have hc25 := sq25 h5 hc
      obtain ⟨x, y, g1, g2, hq⟩ := gq_ok rd h5 h2 hc hw
      rw [whileN, fYa_lookAlong_l20, if_pos ((i_lt (by omega) (by omega)).mpr (by omega)), goOn_gq, goOn_gq, e0, e1, g1, g2, zb1_s, zb1_s]
      rcases hq with ⟨q, hxy⟩ | ⟨q, rfl, rfl⟩
      · rw [lkg, if_pos (Or.inl q), Nat.or_zero]
        by_cases hx : x < 0
        · rw [if_pos hx]
        · rw [if_neg hx, if_pos (hxy.resolve_left hx)]
      · have q25 := sq25 h5 q
        have hm : nx W rd c w / W * W + nx W rd c w % W = nx W rd c w := Nat.div_add_mod' _ _
        have d1 : nx W rd c w / W ≤ nx W rd c w := Nat.div_le_self _ _
        have d2 : nx W rd c w % W ≤ nx W rd c w := Nat.mod_le _ _
        rw [if_neg (i_lt0 (by omega)), if_neg (i_lt0 (by omega)), i_mu, i_pl, hm, e2, n_isIn (by omega), decide_eq_true q25, Bool.true_and, zb1_s]
        by_cases q2 : nx W rd c w = s
        · rw [lkg, if_pos (Or.inr (Or.inl q2)), q2, if_pos rfl, Nat.or_zero]
        · rw [if_neg (fun z => q2 ((i_eq (by omega) (by omega)).mp z))]
          cases hH : H.testBit (nx W rd c w)
          · rw [if_pos (by decide), n_sh _ (by omega), n_or, inc]
            show whileN fu' _ _ = _
            rw [ih (i + 1) (nx W rd c w) (a ||| 2 ^ nx W rd c w) fu' (by omega) q (by omega), lkg, if_neg (by rw [hH]; simp; exact ⟨by omega, q2⟩), Nat.or_assoc]
          · rw [if_neg (by decide), lkg, if_pos (Or.inr (Or.inr hH)), Nat.or_zero]
  have hW : ¬ Int32.ofNat W < 1 := fun q => by have := (i_lt (b := 1) (by omega) (by decide)).mp q; omega
  have hd : Int32.ofNat s / Int32.ofNat W = Int32.ofNat (s / W) := dv25 W (by omega) h2 s hs25
  have hm : Int32.ofNat s - Int32.ofNat s / Int32.ofNat W * Int32.ofNat W = Int32.ofNat (s % W) := md25 W (by omega) h2 s hs25
  have hz : zN (Int32.ofNat W) = true := zN25 W (by omega) h2
  have e := key F 0 s 0 zFU (by omega) hs (zn_FU (by omega))
  rw [Nat.zero_or] at e
  rw [fYa_lookAlong, fYa_xOf, fYa_yOf, e0, if_neg hW, if_neg hW, hz, zg_t, zg_t, hm, hd, zb1_s, zb1_s]
  exact congrArg (fun z => zb1 z (fun r => some r)) e
/-- the reference's line: it comes to an end by five steps -/
def stp (W : Nat) (rd : Bool) (s w : Nat) : Nat → Nat → Bool
  | 0, _ => false
  | f + 1, c => nx W rd c w == 25 || nx W rd c w == s || stp W rd s w f (nx W rd c w)
theorem stp5 : ∀ W, W < 6 → 2 ≤ W → ∀ s, s < 25 → s < W * W → ∀ w, w < 8 → ∀ rd, stp W rd s w 5 s = true := by decide +kernel
def oI (q : Nat) : Int32 := if q = 25 then -1 else Int32.ofNat q
theorem line_ok {W H s d : Nat} {rd : Bool} {m : zv_M} (h5 : W ≤ 5) (h2 : 2 ≤ W) (hs : s < W * W) (hd : d < 8) (e1 : m.1 68 1 = Int32.ofNat W) (e4 : m.1 68 4 = rI rd) (e2 : m.1 68 2 = Int32.ofNat H) (hX : m.1 83 d = aX d) (hY : m.1 84 d = aY d) : fM_line (Int32.ofNat s) (Int32.ofNat d) m = some (Int32.ofNat (lkg W rd H s d 5 s)) := by
  have hs25 := sq25 h5 hs
  have key : ∀ (f c a fu : Nat), c < W * W → stp W rd s d f c = true → f < fu → whileN fu (fM_line_l21 (Int32.ofNat s) (Int32.ofNat d) m) (Int32.ofNat a, oI (nx W rd c d)) = some (Int32.ofNat (a ||| lkg W rd H s d f c)) := by
    intro f
    induction f with
    | zero =>
      intro c a fu hc hst hf
      cases hst
    | succ f ih =>
      intro c a fu hc hst hf
      obtain ⟨fu', rfl⟩ : ∃ k, fu = k + 1 := ⟨fu - 1, by omega⟩
      rw [whileN, fM_line_l21, lkg]
      by_cases q1 : nx W rd c d = 25
      · rw [if_pos (Or.inl q1), oI, if_pos q1, if_pos (by decide), Nat.or_zero]
      · have q := (nx_lt rd h5 h2 hc (show d < 16 by omega)).resolve_left q1
        have q25 := sq25 h5 q
        rw [oI, if_neg q1, if_neg (i_lt0 (by omega))]
        by_cases q2 : nx W rd c d = s
        · rw [if_pos (Or.inr (Or.inl q2)), q2, if_pos rfl, Nat.or_zero]
        · rw [if_neg (fun z => q2 ((i_eq (by omega) (by omega)).mp z)), e2, n_has (by omega), zb1_s]
          cases hH : H.testBit (nx W rd c d)
          · have hst' : stp W rd s d f (nx W rd c d) = true := by
              rw [stp] at hst
              simpa [q1, q2] using hst
            rw [if_pos (by decide), zI_n (by omega) hd, zg_t, zg_t, i_tn (by omega), hX, hY, away_aq, e1, e4, aq_ok W (by omega) h2 _ q25 q d (by omega) rd, zb1_s, n_sh _ (by omega), n_or]
            show whileN fu' _ (_, oI _) = _
            rw [ih (nx W rd c d) (a ||| 2 ^ nx W rd c d) fu' q hst' (by omega), if_neg (by simp [q1, q2]), Nat.or_assoc]
          · rw [if_neg (by decide), if_pos (Or.inr (Or.inr rfl)), Nat.or_zero]
  have e := key 5 s 0 zFU hs (stp5 W (by omega) h2 s hs25 hs d hd rd) (zn_FU (by omega))
  rw [Nat.zero_or] at e
  rw [fM_line, zI_n (by omega) hd, zg_t, zg_t, i_tn (by omega), hX, hY, away_aq, e1, e4, aq_ok W (by omega) h2 _ hs25 hs d (by omega) rd, zb1_s]
  exact congrArg (fun z => zb1 z (fun r => some r)) e
theorem one_ok {W H s w : Nat} {rd : Bool} {m : zv_M} (h5 : W ≤ 5) (h2 : 2 ≤ W) (hs : s < W * W) (hw : w < 16) (e1 : m.1 68 1 = Int32.ofNat W) (e4 : m.1 68 4 = rI rd) (e2 : m.1 68 2 = Int32.ofNat H) : fM_one (Int32.ofNat s) (aX w) (aY w) m = some (Int32.ofNat (lkg W rd H s w 1 s)) := by
  have hs25 := sq25 h5 hs
  rw [fM_one, away_aq, e1, e4, aq_ok W (by omega) h2 _ hs25 hs w hw rd, zb1_s, lkg, lkg]
  by_cases q1 : nx W rd s w = 25
  · rw [if_pos q1, if_pos (by decide), if_pos (Or.inl q1)]
    rfl
  · have q := (nx_lt rd h5 h2 hs hw).resolve_left q1
    have q25 := sq25 h5 q
    rw [if_neg q1, if_neg (i_lt0 (by omega))]
    by_cases q2 : nx W rd s w = s
    · rw [if_pos (Or.inr (Or.inl q2)), q2, if_pos rfl]
      rfl
    · rw [if_neg (fun z => q2 ((i_eq (by omega) (by omega)).mp z)), e2, n_has (by omega), zb1_s]
      cases hH : H.testBit (nx W rd s w)
      · rw [if_pos (by decide), if_neg (by simp [q1, q2]), n_sh _ (by omega), Nat.or_zero]
      · rw [if_neg (by decide), if_pos (Or.inr (Or.inr rfl))]
        rfl
/-- all that a man of kind k with v and row q sees -/
def orf (g : Nat → Nat) : Nat → Nat
  | 0 => 0
  | n + 1 => orf g n ||| g n
theorem orf_s (g : Nat → Nat) (n : Nat) : orf g (n + 1) = orf g n ||| g n := rfl
theorem orf_t (g : Nat → Nat) : ∀ n i, (orf g n).testBit i = true → ∃ k, k < n ∧ (g k).testBit i = true
  | 0, i, h => by
    rw [orf, Nat.zero_testBit] at h
    cases h
  | n + 1, i, h => by
    rw [orf_s, Nat.testBit_or] at h
    rcases Bool.or_eq_true _ _ |>.mp h with h | h
    · obtain ⟨k, hk, e⟩ := orf_t g n i h
      exact ⟨k, by omega, e⟩
    · exact ⟨n, by omega, h⟩
def vways (k v q : Nat) : Nat := if k = 5 ∧ 4 < v then 65280 else if k = 6 then q else if k = 1 then 15 else if k = 2 ∨ k = 5 then 240 else if k = 3 ∨ k = 4 then 255 else 0
def vfar (k v : Nat) : Nat := if k = 3 ∨ k = 6 ∨ (k = 5 ∧ 4 < v) then 1 else 5
def vwg (W : Nat) (rd : Bool) (H s far wm : Nat) (w : Nat) : Nat := if wm.testBit w = true then lkg W rd H s w far s else 0
def vw (W : Nat) (rd : Bool) (H k v q s : Nat) : Nat := orf (vwg W rd H s (vfar k v) (vways k v q)) 16
theorem vw_t {W : Nat} {rd : Bool} {H k v q s : Nat} (h5 : W ≤ 5) (h2 : 2 ≤ W) (hs : s < W * W) {i : Nat} (h : (vw W rd H k v q s).testBit i = true) : i < W * W ∧ ¬ i = s ∧ H.testBit i = false := by
  obtain ⟨w, hw, e⟩ := orf_t _ 16 i h
  rw [vwg] at e
  split at e
  · exact lkg_t h5 h2 hw _ s hs i e
  · rw [Nat.zero_testBit] at e
    cases e
theorem vloop {W H s F wm : Nat} {rd : Bool} {o : Nat} {m : zv_M} (h5 : W ≤ 5) (h2 : 2 ≤ W) (hs : s < W * W) (hF : F < 10) (e0 : m.1 o 0 = Int32.ofNat W) (e1 : m.1 o 1 = rI rd) (e2 : m.1 o 2 = Int32.ofNat H) : fYa_view_j69 o (Int32.ofNat s) m (Int32.ofNat F) (Int32.ofNat wm) = some (Int32.ofNat (orf (vwg W rd H s F wm) 16)) := by
  have e := wn_eq (fYa_view_l77 o (Int32.ofNat s) m (Int32.ofNat F) (Int32.ofNat wm)) (fun i => (Int32.ofNat (orf (vwg W rd H s F wm) i), Int32.ofNat i)) 16 (Int32.ofNat (orf (vwg W rd H s F wm) 16)) (by decide) (fun i hi => by
    have h16 : Int32.ofNat i < 16 := (i_lt (b := 16) (by omega) (by decide)).mpr hi
    show fYa_view_l77 _ _ _ _ _ (_, _) = _
    rw [fYa_view_l77, if_pos h16, if_pos h16, n_bit (by omega), orf_s]
    cases hb : wm.testBit i
    · rw [if_pos (by decide), fYa_view_j130, inc, show vwg W rd H s F wm i = 0 by rw [vwg, hb]; rfl, Nat.or_zero]
    · rw [if_neg (by decide), zI_n (by omega) (show i < zv_tl 1 from hi), zI_n (by omega) (show i < zv_tl 2 from hi), zg_t, zg_t, i_tn (by omega), look_ok h5 h2 hs hi hF e0 e1 e2, zb1_s, fYa_view_j130, inc, n_or, show vwg W rd H s F wm i = lkg W rd H s i F s by rw [vwg, hb]; rfl]) (by
    show fYa_view_l77 _ _ _ _ _ (_, _) = _
    rw [fYa_view_l77, if_neg (by decide)])
  rw [fYa_view_j69]
  exact congrArg (fun z => zb1 z (fun r => some r)) e
theorem q255 : ∀ q, q < 256 → Int32.ofNat q &&& 255 = Int32.ofNat q := by decide +kernel
theorem view_ok {W H k v q s : Nat} {rd : Bool} {o : Nat} {m : zv_M} (h5 : W ≤ 5) (h2 : 2 ≤ W) (hs : s < W * W) (hk : k < 7) (hv : v < 10) (hq : q < 256) (e0 : m.1 o 0 = Int32.ofNat W) (e1 : m.1 o 1 = rI rd) (e2 : m.1 o 2 = Int32.ofNat H) : fYa_view o (Int32.ofNat k) (Int32.ofNat v) (Int32.ofNat q) (Int32.ofNat s) m = some (Int32.ofNat (vw W rd H k v q s)) := by
  have L : ∀ F wm : Nat, F < 10 → fYa_view_j69 o (Int32.ofNat s) m (Int32.ofNat F) (Int32.ofNat wm) = some (Int32.ofNat (orf (vwg W rd H s F wm) 16)) := fun F wm hF => vloop h5 h2 hs hF e0 e1 e2
  have L1 : ∀ wm : Nat, fYa_view_j69 o (Int32.ofNat s) m 1 (Int32.ofNat wm) = some (Int32.ofNat (orf (vwg W rd H s 1 wm) 16)) := fun wm => L 1 wm (by decide)
  have L5 : ∀ wm : Nat, fYa_view_j69 o (Int32.ofNat s) m 5 (Int32.ofNat wm) = some (Int32.ofNat (orf (vwg W rd H s 5 wm) 16)) := fun wm => L 5 wm (by decide)
  rcases (show k = 0 ∨ k = 1 ∨ k = 2 ∨ k = 3 ∨ k = 4 ∨ k = 5 ∨ k = 6 by omega) with rfl | rfl | rfl | rfl | rfl | rfl | rfl
  · exact L5 0
  · exact L5 15
  · exact L5 240
  · exact L1 255
  · exact L5 255
  · by_cases h4 : 4 < v
    · rw [fYa_view, if_pos (by decide), if_pos (show (4 : Int32) < Int32.ofNat v from (i_lt (a := 4) (by decide) (by omega)).mpr h4)]
      have e := L1 65280
      rw [vw, vfar, vways, if_pos (Or.inr (Or.inr ⟨rfl, h4⟩)), if_pos ⟨rfl, h4⟩]
      exact e
    · rw [fYa_view, if_pos (by decide), if_neg (show ¬ (4 : Int32) < Int32.ofNat v from fun z => h4 ((i_lt (a := 4) (by decide) (by omega)).mp z))]
      have e := L5 240
      rw [vw, vfar, vways, if_neg (by omega), if_neg (by omega)]
      exact e
  · have e := L1 q
    rw [vw, vfar, vways, if_pos (by omega), if_neg (by omega), if_pos (by decide)]
    rw [fYa_view, if_neg (by decide), fYa_view_j14, fYa_view_j15, if_neg (by decide), if_pos (by decide), fYa_view_j33, fYa_view_j38, if_pos (by decide), if_pos (by decide), q255 q hq]
    exact e
