/-! The class's search finds them in their order. -/
def nC (one : Bool) (c l : Nat) : Nat := if one = true then (if 0 < c then c else min 1 l) else c + l
def nF (c : Nat) (L : List (Nat → Nat)) (f : Nat → Int32) : Nat → Int32 := if c = 0 then (match L with | [] => f | h :: _ => fun r => Int32.ofNat (h r)) else f
theorem nC_app (one : Bool) (c l1 l2 : Nat) : nC one (nC one c l1) l2 = nC one c (l1 + l2) := by
  unfold nC
  cases one
  · rw [if_neg (by decide), if_neg (by decide), if_neg (by decide)]
    omega
  · rw [if_pos rfl, if_pos rfl, if_pos rfl]
    by_cases h : 0 < c
    · rw [if_pos h, if_pos h, if_pos h]
    · rw [if_neg h, if_neg h]
      by_cases h2 : 0 < min 1 l1
      · rw [if_pos h2]
        omega
      · rw [if_neg h2]
        omega
theorem nF_app (one : Bool) (c : Nat) (L1 L2 : List (Nat → Nat)) (f : Nat → Int32) : nF (nC one c L1.length) L2 (nF c L1 f) = nF c (L1 ++ L2) f := by
  unfold nF
  by_cases h : c = 0
  · subst h
    rw [if_pos rfl, if_pos rfl]
    cases L1 with
    | nil =>
      have : nC one 0 ([] : List (Nat → Nat)).length = 0 := by
        unfold nC
        cases one <;> rfl
      rw [this, if_pos rfl]
      rfl
    | cons a L =>
      have : ¬ nC one 0 (a :: L).length = 0 := by
        unfold nC
        rw [List.length_cons]
        cases one
        · rw [if_neg (by decide)]; omega
        · rw [if_pos rfl, if_neg (by decide)]; omega
      rw [if_neg this]
      rfl
  · have : ¬ nC one c L1.length = 0 := by
      unfold nC
      cases one
      · rw [if_neg (by decide)]; omega
      · rw [if_pos rfl, if_pos (by omega)]; exact h
    rw [if_neg this, if_neg h, if_neg h]
/-- what a search from row y on leaves -/
def EF (one : Bool) (W y c : Nat) (L : List (Nat → Nat)) (m m' : zv_M) : Prop := m'.2 = m.2 ∧ (∀ o k, ¬ (o = 52 ∧ y ≤ k) → ¬ o = 53 → ¬ (o = 49 ∧ k = 7) → m'.1 o k = m.1 o k) ∧ m'.1 49 7 = Int32.ofNat (nC one c L.length) ∧ ∀ r, r < W → m'.1 53 r = nF c L (m.1 53) r
theorem EF_0 {one : Bool} {W y c : Nat} {m : zv_M} (h : m.1 49 7 = Int32.ofNat c) : EF one W y c [] m m := by
  refine ⟨rfl, fun _ _ _ _ _ => rfl, ?_, fun r _ => ?_⟩
  · rw [h]
    unfold nC
    cases one
    · rfl
    · rw [if_pos rfl]
      by_cases q : 0 < c
      · rw [if_pos q]
      · rw [if_neg q]
        have : c = 0 := by omega
        subst this
        rfl
  · unfold nF
    by_cases q : c = 0
    · rw [if_pos q]
    · rw [if_neg q]
theorem EF_app {one : Bool} {W y c : Nat} {L1 L2 : List (Nat → Nat)} {m m1 m2 : zv_M} (h1 : EF one W y c L1 m m1) (h2 : EF one W y (nC one c L1.length) L2 m1 m2) : EF one W y c (L1 ++ L2) m m2 := by
  obtain ⟨a1, a2, a3, a4⟩ := h1
  obtain ⟨b1, b2, b3, b4⟩ := h2
  refine ⟨b1.trans a1, fun o k q1 q2 q3 => (b2 o k q1 q2 q3).trans (a2 o k q1 q2 q3), ?_, fun r hr => ?_⟩
  · rw [b3, nC_app, List.length_append]
  · rw [b4 r hr, ← nF_app one]
    unfold nF
    by_cases q : nC one c L1.length = 0
    · rw [if_pos q, if_pos q]
      cases L2 with
      | nil => exact a4 r hr
      | cons a L => rfl
    · rw [if_neg q, if_neg q]
      exact a4 r hr
/-- a search that finds one already does nothing more -/
theorem EF_skip {W y c : Nat} {L : List (Nat → Nat)} {m : zv_M} (h : m.1 49 7 = Int32.ofNat c) (hc : 0 < c) : EF true W y c L m m := by
  refine ⟨rfl, fun _ _ _ _ _ => rfl, ?_, fun r _ => ?_⟩
  · rw [h, nC, if_pos rfl, if_pos hc]
  · unfold nF
    rw [if_neg (by omega)]
theorem EF_mono {one : Bool} {W y y' c : Nat} {L : List (Nat → Nat)} {m m' : zv_M} (h : EF one W y' c L m m') (hy : y ≤ y') : EF one W y c L m m' := ⟨h.1, fun o k q1 q2 q3 => h.2.1 o k (by omega) q2 q3, h.2.2⟩
/-- a row written into the path first -/
theorem EF_path {one : Bool} {W y c : Nat} {L : List (Nat → Nat)} {m m' : zv_M} {v : Int32} (h : EF one W y c L (wI m 52 y v) m') : EF one W y c L m m' := by
  obtain ⟨a1, a2, a3, a4⟩ := h
  exact ⟨a1, fun o k q1 q2 q3 => (a2 o k q1 q2 q3).trans (wI_o _ _ (by omega)), a3, a4⟩
theorem note_ok {one : Bool} {W c : Nat} {x : Nat → Nat} {m : zv_M} (hW : W ≤ 5) (h4 : m.1 49 4 = Int32.ofNat W) (h7 : m.1 49 7 = Int32.ofNat c) (hc : c < 100000) (hp : ∀ r, r < W → m.1 52 r = Int32.ofNat (x r)) (hone : one = true → c = 0) (y : Nat) : ∃ m', fRo_noteWay m = some m' ∧ EF one W y c [x] m m' := by
  have hcc : nC one c 1 = c + 1 := by
    unfold nC
    cases one
    · rfl
    · have := hone rfl
      subst this
      rfl
  have i1 : Int32.ofNat c + 1 = Int32.ofNat (c + 1) := inc c
  by_cases q : c = 0
  · subst q
    have e := wn_eq fRo_noteWay_l2 (fun i => (Int32.ofNat i, vF m 53 (m.1 52) i)) W (wI (vF m 53 (m.1 52) W) 49 7 (Int32.ofNat 1)) (by omega) (fun i hi => by
      show fRo_noteWay_l2 (_, _) = _
      rw [fRo_noteWay_l2, show (vF m 53 (m.1 52) i).1 49 4 = m.1 49 4 from rfl, h4, if_pos ((i_lt (by omega) (by omega)).mpr hi), if_pos (show Int32.ofNat i < 5 from (i_lt (b := 5) (by omega) (by decide)).mpr (by omega)), show (vF m 53 (m.1 52) i).1 49 7 = m.1 49 7 from rfl, h7, if_pos (by decide), zI_n (by omega) (by omega), zg_t, zg_t, i_tn (by omega), inc, show (vF m 53 (m.1 52) i).1 52 i = m.1 52 i from rfl, vF_s (g := m.1 52)]) (by
      show fRo_noteWay_l2 (_, _) = _
      rw [fRo_noteWay_l2, show (vF m 53 (m.1 52) W).1 49 4 = m.1 49 4 from rfl, h4, if_neg (fun q => by have := (i_lt (by omega) (by omega)).mp q; omega), show (vF m 53 (m.1 52) W).1 49 7 = m.1 49 7 from rfl, h7, i1])
    rw [vF_0] at e
    refine ⟨wI (vF m 53 (m.1 52) W) 49 7 (Int32.ofNat 1), (by rw [fRo_noteWay]; exact congrArg (fun z => zb1 z (fun r => some r)) e), rfl, fun o k q1 q2 q3 => ?_, ?_, fun r hr => ?_⟩
    · rw [wI_o _ _ q3, vF_o _ _ (fun z => q2 z.1)]
    · rw [wI_e]
      show Int32.ofNat 1 = Int32.ofNat (nC one 0 1)
      rw [hcc]
    · rw [wI_o _ _ (by omega), vF_e _ _ _ hr, hp r hr]
      rfl
  · have e := wn_eq fRo_noteWay_l2 (fun i => (Int32.ofNat i, m)) 0 (wI m 49 7 (Int32.ofNat (c + 1))) (by omega) (fun i hi => absurd hi (Nat.not_lt_zero i)) (by
      have hz : ¬ Int32.ofNat c = 0 := fun z => q ((i_eq (b := 0) (by omega) (by decide)).mp z)
      show fRo_noteWay_l2 (_, _) = _
      rw [fRo_noteWay_l2, h4, h7, if_neg hz, i1]
      by_cases w : Int32.ofNat 0 < Int32.ofNat W
      · rw [if_pos w, if_pos (by decide)]
      · rw [if_neg w])
    refine ⟨wI m 49 7 (Int32.ofNat (c + 1)), (by rw [fRo_noteWay]; exact congrArg (fun z => zb1 z (fun r => some r)) e), rfl, fun o k q1 q2 q3 => wI_o _ _ q3, ?_, fun r hr => ?_⟩
    · rw [wI_e]
      show Int32.ofNat (c + 1) = Int32.ofNat (nC one c 1)
      rw [hcc]
    · rw [wI_o _ _ (by omega)]
      unfold nF
      rw [if_neg q]
/-- the search's own cells: W, free squares, whether one is enough, links, behind -/
def RS (one lv0 : Bool) (W F : Nat) (ln b : Nat → Nat) (m : zv_M) : Prop := m.1 49 4 = Int32.ofNat W ∧ m.1 49 5 = Int32.ofNat F ∧ m.1 49 6 = bI one ∧ (∀ s, s < 25 → m.1 50 s = Int32.ofNat (ln s)) ∧ (lv0 = true → ∀ r, r < W → m.1 51 r = Int32.ofNat (b r))
theorem RS_ef {one lv0 : Bool} {W F y c : Nat} {ln b : Nat → Nat} {L : List (Nat → Nat)} {m m' : zv_M} (h : RS one lv0 W F ln b m) (e : EF one W y c L m m') : RS one lv0 W F ln b m' := by
  obtain ⟨a1, a2, a3, a4, a5⟩ := h
  obtain ⟨-, q, -, -⟩ := e
  exact ⟨(q 49 4 (by omega) (by omega) (by omega)).trans a1, (q 49 5 (by omega) (by omega) (by omega)).trans a2, (q 49 6 (by omega) (by omega) (by omega)).trans a3, fun s hs => (q 50 s (by omega) (by omega) (by omega)).trans (a4 s hs), fun hv r hr => (q 51 r (by omega) (by omega) (by omega)).trans (a5 hv r hr)⟩
/-- which squares are shut by those chosen -/
def SH (F : Nat) (bd : Nat → Nat) (shut set : Nat) : Prop := ∀ s, s < 25 → F.testBit s = true → shut.testBit s = !decide (bd s &&& set = 0)
theorem and0 {a b : Nat} {s : Nat} : (a &&& (b ||| 2 ^ s) = 0) ↔ (a &&& b = 0 ∧ a.testBit s = false) := by
  constructor
  · intro h
    constructor
    · apply Nat.eq_of_testBit_eq
      intro i
      have := congrArg (fun z => z.testBit i) h
      simp only [Nat.testBit_and, Nat.testBit_or, Nat.zero_testBit] at this ⊢
      cases e : a.testBit i
      · rfl
      · cases e2 : b.testBit i
        · rfl
        · rw [e, e2] at this
          cases this
    · have := congrArg (fun z => z.testBit s) h
      simp only [Nat.testBit_and, Nat.testBit_or, Nat.zero_testBit, Nat.testBit_two_pow, decide_true, Bool.or_true, Bool.and_true] at this
      exact this
  · rintro ⟨h1, h2⟩
    apply Nat.eq_of_testBit_eq
    intro i
    have := congrArg (fun z => z.testBit i) h1
    simp only [Nat.testBit_and, Nat.testBit_or, Nat.zero_testBit, Nat.testBit_two_pow] at this ⊢
    by_cases q : s = i
    · subst q
      rw [h2]
      rfl
    · rw [decide_eq_false q, Bool.or_false]
      exact this
theorem SH_step {F : Nat} {bd : Nat → Nat} {shut set s0 l : Nat} (h : SH F bd shut set) (hl : ∀ s, s < 25 → F.testBit s = true → l.testBit s = (bd s).testBit s0) : SH F bd (shut ||| l) (set ||| 2 ^ s0) := fun s hs hF => by
  rw [Nat.testBit_or, h s hs hF, hl s hs hF]
  by_cases q : bd s &&& set = 0
  · cases e : (bd s).testBit s0
    · rw [decide_eq_true q, decide_eq_true (and0.mpr ⟨q, e⟩)]
      rfl
    · rw [decide_eq_true q, decide_eq_false (fun z => by rw [(and0.mp z).2] at e; cases e)]
      rfl
  · rw [decide_eq_false q, decide_eq_false (fun z => q (and0.mp z).1)]
    rfl
