/-! The reference looks whether a clause holds of a square. -/
def AG82 (h : Nat) (m m' : zv_M) : Prop := m'.2 = m.2 ∧ ∀ o k, ¬ (o = 82 ∧ h ≤ k) → m'.1 o k = m.1 o k
theorem AG82_t {h h' : Nat} (hh : h ≤ h') {m m1 m2 : zv_M} (a : AG82 h m m1) (b : AG82 h' m1 m2) : AG82 h m m2 := ⟨b.1.trans a.1, fun o k q => (b.2 o k (fun z => q ⟨z.1, by omega⟩)).trans (a.2 o k q)⟩
def bIt (b : Bool) : Int32 := if b = true then 1 else 0
/-- what is emitted, looked at, gives what is told -/
def CD (m : zv_M) (x : Nat) (l : List Int32) : Prop := ∀ i, i < l.length → m.1 79 (x + i) = l.getD i 0
theorem CD_l {m : zv_M} {x : Nat} {a b : List Int32} (h : CD m x (a ++ b)) : CD m x a := fun i hi => (h i (by rw [List.length_append]; omega)).trans (gD_l hi)
theorem CD_r {m : zv_M} {x : Nat} {a b : List Int32} (h : CD m x (a ++ b)) : CD m (x + a.length) b := fun i hi => by
  have := h (a.length + i) (by rw [List.length_append]; omega)
  rw [← Nat.add_assoc] at this
  rw [this, List.getD_eq_getElem?_getD, List.getD_eq_getElem?_getD, List.getElem?_append_right (by omega), Nat.add_sub_cancel_left]
theorem CD_m {h : Nat} {m m' : zv_M} {x : Nat} {a : List Int32} (hm : AG82 h m m') (hc : CD m x a) : CD m' x a := fun i hi => (hm.2 _ _ (by omega)).trans (hc i hi)
def GE (e : Ex) : Prop := 1 ≤ e.2.length ∧ ∀ (W s j N h x : Nat) (m : zv_M), 2 ≤ W → W ≤ 5 → s < 25 → j < 60 → N ≤ 600 → CD m x e.2 → x + e.2.length ≤ N → h + e.2.length ≤ 100 → m.1 78 j = Int32.ofNat N → m.1 68 1 = Int32.ofNat W → ∃ m', (∀ fu, whileN (fu + e.2.length) (fM_holds_l10 (Int32.ofNat j) (Int32.ofNat s)) (Int32.ofNat h, Int32.ofNat x, m) = whileN fu (fM_holds_l10 (Int32.ofNat j) (Int32.ofNat s)) (Int32.ofNat (h + 1), Int32.ofNat (x + e.2.length), m')) ∧ AG82 h m m' ∧ m'.1 82 h = bIt (e.1 W s)
theorem r_fact {W pl s : Nat} {m : zv_M} (h : m.1 68 1 = Int32.ofNat W) (h2 : 2 ≤ W) (h5 : W ≤ 5) (hs : s < 25) (hp : pl < 6) : fM_factOf (Int32.ofNat pl) (Int32.ofNat s) m = some (Int32.ofNat (fct W pl s)) := by
  have hz := zN25 W (by omega) h2
  have ed := dv25 W (by omega) h2 s hs
  have em := md25 W (by omega) h2 s hs
  have hx : s % W < W := Nat.mod_lt _ (by omega)
  have hy : s / W ≤ s := Nat.div_le_self _ _
  have em2 : Int32.ofNat s - Int32.ofNat (s / W) * Int32.ofNat W = Int32.ofNat (s % W) := by
    rw [← ed]
    exact em
  have e : ∀ k, k < 6 → (Int32.ofNat pl = Int32.ofNat k) = (pl = k) := fun k hk => propext (i_eq (by omega) (by omega))
  have e0 : (Int32.ofNat pl = 0) = (pl = 0) := e 0 (by decide)
  have e1 : (Int32.ofNat pl = 1) = (pl = 1) := e 1 (by decide)
  have e2 : (Int32.ofNat pl = 2) = (pl = 2) := e 2 (by decide)
  have e3 : (Int32.ofNat pl = 3) = (pl = 3) := e 3 (by decide)
  have e4 : (Int32.ofNat pl = 4) = (pl = 4) := e 4 (by decide)
  rw [fM_factOf, h, hz, zg_t, zg_t, ed, em2]
  simp only [e0, e1, e2, e3, e4, fM_apart, i_pl]
  unfold fct
  generalize s % W = a at *
  generalize s / W = c at *
  by_cases q0 : pl = 0
  · rw [if_pos q0, if_pos q0]
  rw [if_neg q0, if_neg q0]
  by_cases q1 : pl = 1
  · rw [if_pos q1, if_pos q1]
  rw [if_neg q1, if_neg q1]
  by_cases q2 : pl = 2
  · rw [if_pos q2, if_pos q2]
  rw [if_neg q2, if_neg q2]
  by_cases q3 : pl = 3
  · have lt : (Int32.ofNat a < Int32.ofNat c) = (a < c) := propext (i_lt (by omega) (by omega))
    rw [if_pos q3, if_pos q3, apx]
    simp only [lt]
    by_cases q : a < c
    · rw [if_pos q, if_pos q, i_mi (by omega) (by omega), zb1_s]
    · rw [if_neg q, if_neg q, i_mi (by omega) (by omega), zb1_s]
  rw [if_neg q3, if_neg q3]
  by_cases q4 : pl = 4
  · rw [if_pos q4, if_pos q4]
  · rw [if_neg q4, if_neg q4]
def cdB (pl op v : Nat) : Bool := decide (¬ Int32.ofNat (1000 * pl + 100 * op + v) = -33) && decide (¬ Int32.ofNat (1000 * pl + 100 * op + v) < 0) && decide (Int32.ofNat (1000 * pl + 100 * op + v) / 1000 = Int32.ofNat pl) && decide (Int32.ofNat (1000 * pl + 100 * op + v) / 100 - Int32.ofNat (1000 * pl + 100 * op + v) / 100 / 10 * 10 = Int32.ofNat op) && decide (Int32.ofNat (1000 * pl + 100 * op + v) - Int32.ofNat (1000 * pl + 100 * op + v) / 100 * 100 = Int32.ofNat v)
theorem cdB_ok : ∀ pl, pl < 6 → ∀ op, op < 3 → ∀ v, v < 100 → cdB pl op v = true := by decide +kernel
theorem bI_n (b : Bool) : (bIt b = 0) = (b = false) := by
  cases b
  · exact propext ⟨fun _ => rfl, fun _ => rfl⟩
  · exact propext ⟨fun z => absurd z (by decide), fun z => by cases z⟩
/-- a value comes onto the stack at h -/
theorem AG82_w (m : zv_M) (h : Nat) (v : Int32) : AG82 h m (wI m 82 h v) := ⟨rfl, fun o k q => wI_o _ _ (by omega)⟩
theorem GE_T {pl op v : Nat} (hp : pl < 6) (ho : op < 3) (hv : v < 100) : GE (xT pl op v) := by
  refine ⟨Nat.le_refl 1, ?_⟩
  intro W s j N h x m h2 h5 hs hj hN hc hx hh e78 e1
  have hb := cdB_ok pl hp op ho v hv
  unfold cdB at hb
  obtain ⟨hb, b5⟩ := Bool.and_eq_true _ _ |>.mp hb
  obtain ⟨hb, b4⟩ := Bool.and_eq_true _ _ |>.mp hb
  obtain ⟨hb, b3⟩ := Bool.and_eq_true _ _ |>.mp hb
  obtain ⟨b1, b2⟩ := Bool.and_eq_true _ _ |>.mp hb
  have b1 := of_decide_eq_true b1
  have b2 := of_decide_eq_true b2
  have b3 := of_decide_eq_true b3
  have b4 := of_decide_eq_true b4
  have b5 := of_decide_eq_true b5
  have hl : (xT pl op v).2.length = 1 := rfl
  rw [hl] at hx hh
  have e79 : m.1 79 x = Int32.ofNat (1000 * pl + 100 * op + v) := hc 0 (show 0 < 1 by decide)
  have hf := fct_le (pl := pl) h5 hs
  have l1 : (Int32.ofNat (fct W pl s) < Int32.ofNat v) = (fct W pl s < v) := propext (i_lt (by omega) (by omega))
  have l2 : (Int32.ofNat (fct W pl s) = Int32.ofNat v) = (fct W pl s = v) := propext (i_eq (by omega) (by omega))
  have l3 : (Int32.ofNat v < Int32.ofNat (fct W pl s)) = (v < fct W pl s) := propext (i_lt (by omega) (by omega))
  have fin : ∀ b : Bool, fM_holds_j233 (Int32.ofNat h) (Int32.ofNat x) m (bIt b) = some (.inl (Int32.ofNat (h + 1), Int32.ofNat (x + 1), wI m 82 h (bIt b))) := fun b => by
    have zb : zB (bIt b) = true := by cases b <;> decide
    rw [fM_holds_j233, zI_n (by omega) (by omega), zg_t, zb, zg_t, i_tn (by omega), inc, fM_holds_j237, inc]
  have fin0 : fM_holds_j233 (Int32.ofNat h) (Int32.ofNat x) m 0 = some (.inl (Int32.ofNat (h + 1), Int32.ofNat (x + 1), wI m 82 h (bIt false))) := fin false
  have fin1 : fM_holds_j233 (Int32.ofNat h) (Int32.ofNat x) m 1 = some (.inl (Int32.ofNat (h + 1), Int32.ofNat (x + 1), wI m 82 h (bIt true))) := fin true
  refine ⟨wI m 82 h (bIt ((xT pl op v).1 W s)), fun fu => ?_, AG82_w _ _ _, wI_e _ _ _ _⟩
  have e : fM_holds_l10 (Int32.ofNat j) (Int32.ofNat s) (Int32.ofNat h, Int32.ofNat x, m) = some (.inl (Int32.ofNat (h + 1), Int32.ofNat (x + 1), wI m 82 h (bIt ((xT pl op v).1 W s)))) := by
    rw [fM_holds_l10, zI_n (by omega) hj, zg_t, i_tn (by omega), e78, if_pos ((i_lt (by omega) (by omega)).mpr (by omega)), zI_n (by omega) (by omega), zg_t, i_tn (by omega), e79, if_neg b1, if_neg b2, b3, r_fact e1 h2 h5 hs hp, zb1_s, b4, b5]
    unfold zlet
    simp only [l1, l2, l3, fin0, fin1]
    rcases (show op = 0 ∨ op = 1 ∨ op = 2 by omega) with rfl | rfl | rfl
    · rw [if_pos (show Int32.ofNat 0 = 0 from rfl)]
      by_cases q : fct W pl s < v
      · rw [if_pos q, show (xT pl 0 v).1 W s = true from decide_eq_true q]
      · rw [if_neg q, show (xT pl 0 v).1 W s = false from decide_eq_false q]
    · rw [if_neg (show ¬ Int32.ofNat 1 = 0 by decide), if_pos (show Int32.ofNat 1 = 1 from rfl)]
      by_cases q : fct W pl s = v
      · rw [if_pos q, show (xT pl 1 v).1 W s = true from decide_eq_true q]
      · rw [if_neg q, show (xT pl 1 v).1 W s = false from decide_eq_false q]
    · rw [if_neg (show ¬ Int32.ofNat 2 = 0 by decide), if_neg (show ¬ Int32.ofNat 2 = 1 by decide)]
      by_cases q : v < fct W pl s
      · rw [if_pos q, show (xT pl 2 v).1 W s = true from decide_eq_true q]
      · rw [if_neg q, show (xT pl 2 v).1 W s = false from decide_eq_false q]
  show whileN (fu + 1) _ _ = _
  rw [whileN, e]
  rfl
theorem GE_N {a : Ex} (ha : GE a) : GE (xN a) := by
  have hl : (xN a).2.length = a.2.length + 1 := ln_1 _ _
  refine ⟨by omega, ?_⟩
  intro W s j N h x m h2 h5 hs hj hN hc hx hh e78 e1
  have hc : CD m x (a.2 ++ [-33]) := hc
  rw [hl] at hx hh
  obtain ⟨m1, a1, a2, a3⟩ := ha.2 W s j N h x m h2 h5 hs hj hN (CD_l hc) (by omega) (by omega) e78 e1
  have e79 : m1.1 79 (x + a.2.length) = -33 := (CD_m a2 (CD_r hc)) 0 (show 0 < 1 by decide)
  have e78' : m1.1 78 j = Int32.ofNat N := (a2.2 _ _ (by omega)).trans e78
  refine ⟨wI m1 82 h (bIt (!a.1 W s)), fun fu => ?_, AG82_t (Nat.le_refl h) a2 (AG82_w _ _ _), wI_e _ _ _ _⟩
  have e : fM_holds_l10 (Int32.ofNat j) (Int32.ofNat s) (Int32.ofNat (h + 1), Int32.ofNat (x + a.2.length), m1) = some (.inl (Int32.ofNat (h + 1), Int32.ofNat (x + a.2.length + 1), wI m1 82 h (bIt (!a.1 W s)))) := by
    rw [fM_holds_l10, zI_n (by omega) hj, zg_t, i_tn (by omega), e78', if_pos ((i_lt (by omega) (by omega)).mpr (by omega)), zI_n (by omega) (by omega), zg_t, i_tn (by omega), e79, if_pos rfl, n_one _ (by omega) (by omega), Nat.add_sub_cancel, zI_n (by omega) (by omega), zg_t, i_tn (by omega), a3]
    simp only [fM_holds_j60, fM_holds_j237]
    rw [n_one _ (by omega) (by omega), Nat.add_sub_cancel, zI_n (by omega) (by omega), zg_t, zg_t, i_tn (by omega), inc]
    cases a.1 W s <;> rfl
  rw [hl, show fu + (a.2.length + 1) = fu + 1 + a.2.length by omega, a1, whileN, e]
  rfl
theorem GE_2 {a b : Ex} (ha : GE a) (hb : GE b) {v : Int32} (hv : v = -38 ∨ v = -124) {c : Ex} (hc2 : c.2 = a.2 ++ b.2 ++ [v]) (hc1 : ∀ W s, c.1 W s = if v = -38 then a.1 W s && b.1 W s else a.1 W s || b.1 W s) : GE c := by
  have hl : c.2.length = a.2.length + b.2.length + 1 := by rw [hc2, ln_1, List.length_append]
  refine ⟨by omega, ?_⟩
  have ga := ha.1
  have gb := hb.1
  intro W s j N h x m h2 h5 hs hj hN hc hx hh e78 e1
  rw [hc2] at hc
  rw [hl] at hx hh
  obtain ⟨m1, a1, a2, a3⟩ := ha.2 W s j N h x m h2 h5 hs hj hN (CD_l (CD_l hc)) (by omega) (by omega) e78 e1
  obtain ⟨m2, b1, b2, b3⟩ := hb.2 W s j N (h + 1) (x + a.2.length) m1 h2 h5 hs hj hN (CD_m a2 (CD_r (CD_l hc))) (by omega) (by omega) ((a2.2 _ _ (by omega)).trans e78) ((a2.2 _ _ (by omega)).trans e1)
  have a4 := AG82_t (Nat.le_succ h) a2 b2
  have e79 : m2.1 79 (x + (a.2.length + b.2.length)) = v := by
    have := (CD_m a4 (CD_r hc)) 0 (show 0 < 1 by decide)
    rw [List.length_append] at this
    exact this
  have e78' : m2.1 78 j = Int32.ofNat N := (a4.2 _ _ (by omega)).trans e78
  have v1 : m2.1 82 h = bIt (a.1 W s) := (b2.2 _ _ (by omega)).trans a3
  refine ⟨wI m2 82 h (bIt (c.1 W s)), fun fu => ?_, AG82_t (Nat.le_refl h) a4 (AG82_w _ _ _), wI_e _ _ _ _⟩
  have fin : ∀ y : Bool, fM_holds_j139 (Int32.ofNat (h + 1 + 1)) (Int32.ofNat (x + (a.2.length + b.2.length))) m2 (bIt y) = some (.inl (Int32.ofNat (h + 1), Int32.ofNat (x + (a.2.length + b.2.length) + 1), wI m2 82 h (bIt y))) := fun y => by
    have zb : zB (bIt y) = true := by cases y <;> decide
    rw [fM_holds_j139, n_one _ (by omega) (by omega), Nat.add_sub_cancel, n_one _ (by omega) (by omega), Nat.add_sub_cancel, zI_n (by omega) (by omega), zg_t, zb, zg_t, i_tn (by omega), fM_holds_j237, inc]
  have fin0 : fM_holds_j139 (Int32.ofNat (h + 1 + 1)) (Int32.ofNat (x + (a.2.length + b.2.length))) m2 0 = some (.inl (Int32.ofNat (h + 1), Int32.ofNat (x + (a.2.length + b.2.length) + 1), wI m2 82 h (bIt false))) := fin false
  have fin1 : fM_holds_j139 (Int32.ofNat (h + 1 + 1)) (Int32.ofNat (x + (a.2.length + b.2.length))) m2 1 = some (.inl (Int32.ofNat (h + 1), Int32.ofNat (x + (a.2.length + b.2.length) + 1), wI m2 82 h (bIt true))) := fin true
  have e : fM_holds_l10 (Int32.ofNat j) (Int32.ofNat s) (Int32.ofNat (h + 1 + 1), Int32.ofNat (x + (a.2.length + b.2.length)), m2) = some (.inl (Int32.ofNat (h + 1), Int32.ofNat (x + (a.2.length + b.2.length) + 1), wI m2 82 h (bIt (c.1 W s)))) := by
    have i1 : Int32.ofNat (h + 1 + 1) - 1 = Int32.ofNat (h + 1) := by rw [n_one _ (by omega) (by omega), Nat.add_sub_cancel]
    have i2 : Int32.ofNat (h + 1) - 1 = Int32.ofNat h := by rw [n_one _ (by omega) (by omega), Nat.add_sub_cancel]
    rw [fM_holds_l10, zI_n (by omega) hj, zg_t, i_tn (by omega), e78', if_pos ((i_lt (by omega) (by omega)).mpr (by omega)), zI_n (by omega) (by omega), zg_t, i_tn (by omega), e79, i1, i2, zI_n (a := h) (by omega) (by omega), zI_n (a := h + 1) (by omega) (by omega), i_tn (by omega), i_tn (by omega), v1, b3]
    simp only [zg_t, bI_n, fM_holds_j110, fM_holds_j134, fin0, fin1]
    rcases hv with rfl | rfl
    · rw [if_neg (by decide), if_pos (by decide), if_pos rfl, (hc1 W s).trans (if_pos rfl)]
      cases a.1 W s <;> cases b.1 W s <;> rfl
    · rw [if_neg (by decide), if_pos (by decide), if_neg (by decide), (hc1 W s).trans (if_neg (by decide))]
      cases a.1 W s <;> cases b.1 W s <;> rfl
  rw [hl, show fu + (a.2.length + b.2.length + 1) = fu + 1 + b.2.length + a.2.length by omega, a1, b1, whileN, Nat.add_assoc x, e]
  rfl
theorem GE_A {a b : Ex} (ha : GE a) (hb : GE b) : GE (xA a b) := GE_2 ha hb (Or.inl rfl) rfl (fun _ _ => (if_pos rfl).symm)
theorem GE_O {a b : Ex} (ha : GE a) (hb : GE b) : GE (xO a b) := GE_2 ha hb (Or.inr rfl) rfl (fun _ _ => (if_neg (by decide)).symm)
