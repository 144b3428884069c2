/-! The class's least set that must go. -/
theorem mlink_ok {a : Nat} {Q : Nat → Nat} {X : Nat} {m : zv_M} (hl : zln a = 25) (hQ : ∀ s, s < 25 → m.1 a s = Int32.ofNat (Q s)) (hX : X < 2 ^ 25) : ∃ r, fN_mostLinked a (Int32.ofNat X) m = some r ∧ ((r = -1 ∧ X = 0) ∨ ∃ b : Nat, b < 25 ∧ X.testBit b = true ∧ r = Int32.ofNat b ∧ ∀ s, s < 25 → X.testBit s = true → pc (Q s &&& X) ≤ pc (Q b &&& X)) := by
  obtain ⟨r, e, hr⟩ := wn_up (fN_mostLinked_l7 a (Int32.ofNat X) m) (fun i (x : Int32 × Int32) => (x.1, x.2, Int32.ofNat i)) 25 (fun i x => (x = (-1, -1) ∧ ∀ s, s < i → X.testBit s = false) ∨ ∃ b : Nat, b < i ∧ X.testBit b = true ∧ x = (Int32.ofNat b, Int32.ofNat (pc (Q b &&& X))) ∧ ∀ s, s < i → X.testBit s = true → pc (Q s &&& X) ≤ pc (Q b &&& X)) (fun r => (r = -1 ∧ X = 0) ∨ ∃ b : Nat, b < 25 ∧ X.testBit b = true ∧ r = Int32.ofNat b ∧ ∀ s, s < 25 → X.testBit s = true → pc (Q s &&& X) ≤ pc (Q b &&& X)) (by decide) (fun i x hi hJ => by
    have hlt : ∀ y, y &&& X < 2147483648 := fun y => p25 (Nat.and_lt_two_pow _ hX)
    rw [fN_mostLinked_l7, hl, if_pos ((i_lt (by omega) (by decide)).mpr hi), n_isIn (by omega), decide_eq_true hi, Bool.true_and, zb1_s, if01]
    cases hb : X.testBit i
    · rw [if_neg (show ¬ false = true by decide), fN_mostLinked_j49, inc]
      refine ⟨x, rfl, ?_⟩
      rcases hJ with ⟨h1, h2⟩ | ⟨b, h1, h2, h3, h4⟩
      · refine Or.inl ⟨h1, fun s hs => ?_⟩
        by_cases q : s = i
        · rw [q, hb]
        · exact h2 s (by omega)
      · refine Or.inr ⟨b, by omega, h2, h3, fun s hs hs2 => ?_⟩
        by_cases q : s = i
        · rw [q, hb] at hs2
          cases hs2
        · exact h4 s (by omega) hs2
    · rw [if_pos (show true = true from rfl), zI_n (by omega) hi, zg_t, zg_t, i_tn (by omega), hQ i hi, n_and, n_bc (hlt _), zb1_s, zb1_s, fN_mostLinked_j49, fN_mostLinked_j49, inc]
      rcases hJ with ⟨h1, h2⟩ | ⟨b, h1, h2, h3, h4⟩
      · rw [h1]
        have h0 : (-1 : Int32) < Int32.ofNat (pc (Q i &&& X)) := by
          rw [Int32.lt_iff_toInt_lt, i_ofNat (pc32 _)]
          have : (-1 : Int32).toInt = -1 := rfl
          omega
        rw [if_pos h0]
        refine ⟨(Int32.ofNat i, Int32.ofNat (pc (Q i &&& X))), rfl, Or.inr ⟨i, by omega, hb, rfl, fun s hs hs2 => ?_⟩⟩
        by_cases q : s = i
        · rw [q]
          exact Nat.le_refl _
        · rw [h2 s (by omega)] at hs2
          cases hs2
      · rw [h3]
        by_cases q : pc (Q b &&& X) < pc (Q i &&& X)
        · rw [if_pos ((i_lt (pc32 _) (pc32 _)).mpr q)]
          refine ⟨(Int32.ofNat i, Int32.ofNat (pc (Q i &&& X))), rfl, Or.inr ⟨i, by omega, hb, rfl, fun s hs hs2 => ?_⟩⟩
          by_cases q2 : s = i
          · rw [q2]
            exact Nat.le_refl _
          · have := h4 s (by omega) hs2
            omega
        · rw [if_neg (fun z => q ((i_lt (pc32 _) (pc32 _)).mp z))]
          refine ⟨(Int32.ofNat b, Int32.ofNat (pc (Q b &&& X))), rfl, Or.inr ⟨b, by omega, h2, rfl, fun s hs hs2 => ?_⟩⟩
          by_cases q2 : s = i
          · rw [q2]
            omega
          · exact h4 s (by omega) hs2) (fun x hJ => by
    rw [fN_mostLinked_l7, hl, if_neg (by decide)]
    refine ⟨x.1, rfl, ?_⟩
    rcases hJ with ⟨h1, h2⟩ | ⟨b, h1, h2, h3, h4⟩
    · refine Or.inl ⟨by rw [h1], sx (N := 25) hX (by decide) fun i hi => by rw [h2 i hi, Nat.zero_testBit]⟩
    · exact Or.inr ⟨b, h1, h2, by rw [h3], h4⟩) ((-1, -1) : Int32 × Int32) (Or.inl ⟨rfl, fun s hs => absurd hs (Nat.not_lt_zero s)⟩)
  refine ⟨r, ?_, hr⟩
  rw [fN_mostLinked]
  exact congrArg (fun z => zb1 z (fun r => some r)) e
theorem addbit {a k : Nat} (h : a.testBit k = false) : a ||| 2 ^ k = a + 2 ^ k := by
  have hr : a % 2 ^ k < 2 ^ k := Nat.mod_lt _ (Nat.pow_pos (by decide))
  have ha : 2 ^ k * (a / 2 ^ k) + a % 2 ^ k = a := Nat.div_add_mod _ _
  have hev : a / 2 ^ k % 2 = 0 := by
    rw [t2, h]
    rfl
  obtain ⟨q, hq⟩ : ∃ q, a / 2 ^ k = 2 * q := ⟨a / 2 ^ k / 2, by omega⟩
  have hs : a + 2 ^ k = 2 ^ k * (2 * q + 1) + a % 2 ^ k := by
    rw [Nat.mul_add, ← hq, Nat.mul_one]
    omega
  apply Nat.eq_of_testBit_eq
  intro j
  have e1 : a.testBit j = if j < k then (a % 2 ^ k).testBit j else (2 * q).testBit (j - k) := by
    rw [← hq]
    conv => lhs; rw [← ha]
    exact Nat.testBit_two_pow_mul_add _ hr j
  rw [hs, Nat.testBit_two_pow_mul_add _ hr, Nat.testBit_or, Nat.testBit_two_pow, e1]
  by_cases q1 : j < k
  · rw [if_pos q1, if_pos q1, decide_eq_false (by omega), Bool.or_false]
  · rw [if_neg q1, if_neg q1]
    by_cases q2 : k = j
    · subst q2
      rw [decide_eq_true rfl, Nat.sub_self]
      simp
    · rw [decide_eq_false q2, Bool.or_false]
      obtain ⟨i, hi⟩ : ∃ i, j - k = i + 1 := ⟨j - k - 1, by omega⟩
      rw [hi, Nat.testBit_succ, Nat.testBit_succ, show 2 * q / 2 = q by omega, show (2 * q + 1) / 2 = q by omega]
theorem pc_add {a k : Nat} (h : a.testBit k = false) (hk : k < 32) : pc (a ||| 2 ^ k) = pc a + 1 := by
  have u := fb_ct_upd a.testBit true hk
  rw [h, if_neg (by decide), if_pos rfl] at u
  rw [pc, pc, ← u, Nat.add_zero]
  apply fb_ct_cong
  intro i _
  rw [Nat.testBit_or, Nat.testBit_two_pow]
  by_cases q : i = k
  · rw [if_pos q, q, decide_eq_true rfl, Bool.or_true]
  · rw [if_neg q, decide_eq_false (fun z => q z.symm), Bool.or_false]
theorem ad_one (a k i : Nat) : (ad a (2 ^ k)).testBit i = (a.testBit i && !decide (k = i)) := by rw [ad_t, Nat.testBit_two_pow]
theorem ad_back {a k : Nat} (h : a.testBit k = true) : ad a (2 ^ k) ||| 2 ^ k = a := by
  apply Nat.eq_of_testBit_eq
  intro i
  rw [Nat.testBit_or, ad_one, Nat.testBit_two_pow]
  by_cases q : k = i
  · subst q
    rw [decide_eq_true rfl, h]
    rfl
  · rw [decide_eq_false q]
    simp
theorem ad_no (a k : Nat) : (ad a (2 ^ k)).testBit k = false := by
  rw [ad_one, decide_eq_true rfl]
  simp
def cov (Q : Nat → Nat) (X T : Nat) : Prop := (∀ i, T.testBit i = true → X.testBit i = true) ∧ pzb Q (ad X T) = true
theorem cov_in {Q : Nat → Nat} {X T k : Nat} (h : cov Q X T) (hk : T.testBit k = true) : cov Q (ad X (2 ^ k)) (ad T (2 ^ k)) := by
  refine ⟨fun i hi => ?_, ?_⟩
  · rw [ad_one] at hi ⊢
    obtain ⟨a, b⟩ := Bool.and_eq_true _ _ |>.mp hi
    rw [h.1 i a, b]
    rfl
  · have e : ad (ad X (2 ^ k)) (ad T (2 ^ k)) = ad X T := by
      apply Nat.eq_of_testBit_eq
      intro i
      rw [ad_t, ad_one, ad_one, ad_t]
      by_cases q : k = i
      · subst q
        rw [decide_eq_true rfl, hk]
        simp
      · rw [decide_eq_false q]
        simp
    rw [e]
    exact h.2
theorem cov_out {Q : Nat → Nat} {X T k : Nat} (h : cov Q (ad X (2 ^ k)) T) (hk : X.testBit k = true) : T.testBit k = false ∧ cov Q X (T ||| 2 ^ k) := by
  have h0 : T.testBit k = false := by
    cases e : T.testBit k
    · rfl
    · have := h.1 k e
      rw [ad_no] at this
      cases this
  refine ⟨h0, fun i hi => ?_, ?_⟩
  · rw [Nat.testBit_or, Nat.testBit_two_pow] at hi
    rcases Bool.or_eq_true _ _ |>.mp hi with z | z
    · have := h.1 i z
      rw [ad_one] at this
      exact (Bool.and_eq_true _ _ |>.mp this).1
    · rw [← of_decide_eq_true z]
      exact hk
  · have e : ad X (T ||| 2 ^ k) = ad (ad X (2 ^ k)) T := by
      apply Nat.eq_of_testBit_eq
      intro i
      rw [ad_t, ad_t, ad_one, Nat.testBit_or, Nat.testBit_two_pow]
      cases X.testBit i <;> cases T.testBit i <;> cases decide (k = i) <;> rfl
    rw [e]
    exact h.2
/-- the least set of just so many that must go, or -1 -/
def LR (Q : Nat → Nat) (X n : Nat) (r : Int32) : Prop := (r = -1 ∧ ∀ T, cov Q X T → ¬ pc T = n) ∨ ∃ T, r = Int32.ofNat T ∧ T < 2 ^ 25 ∧ cov Q X T ∧ pc T = n ∧ ∀ T', cov Q X T' → pc T' = n → T ≤ T'
/-- with one of X set again -/
theorem LR_up {Q : Nat → Nat} {X n k : Nat} {r : Int32} (hk : k < 25) (hX : X.testBit k = true) (h : LR Q (ad X (2 ^ k)) n r) : (r < 0 ∧ ∀ T, cov Q X T → T.testBit k = true → ¬ pc T = n + 1) ∨ (¬ r < 0 ∧ ∃ T, r ||| 1 <<< (Int32.ofNat k &&& 31) = Int32.ofNat T ∧ T < 2 ^ 25 ∧ cov Q X T ∧ pc T = n + 1 ∧ ∀ T', cov Q X T' → T'.testBit k = true → pc T' = n + 1 → T ≤ T') := by
  have hpc : ∀ T, T.testBit k = true → pc T = pc (ad T (2 ^ k)) + 1 := fun T hT => by
    have := pc_add (ad_no T k) (by omega)
    rw [ad_back hT] at this
    exact this
  rcases h with ⟨rfl, h⟩ | ⟨T, rfl, h1, h2, h3, h4⟩
  · refine Or.inl ⟨by decide, fun T hT hTk hp => h _ (cov_in hT hTk) ?_⟩
    have := hpc T hTk
    omega
  · obtain ⟨o1, o2⟩ := cov_out h2 hX
    refine Or.inr ⟨i_lt0 (p25 h1), T ||| 2 ^ k, by rw [n_sh k (by omega), n_or], or25 h1 (two_lt hk), o2, by rw [pc_add o1 (by omega), h3], fun T' hT' hTk hp => ?_⟩
    have a1 := h4 _ (cov_in hT' hTk) (by have := hpc T' hTk; omega)
    have a2 : T' = ad T' (2 ^ k) + 2 ^ k := by
      rw [← addbit (ad_no T' k), ad_back hTk]
    rw [addbit o1]
    omega
theorem lr_ok {Q : Nat → Nat} {m : zv_M} (h45 : ∀ s, s < 25 → m.1 45 s = Int32.ofNat (Q s)) (hQ : ∀ s, s < 25 → Q s < 2 ^ 25) : ∀ (n X fu : Nat), n ≤ 4 → n < fu → X < 2 ^ 25 → (∀ T, cov Q X T → n ≤ pc T) → ∃ r, fN_leastRemoved fu 45 (Int32.ofNat X) (Int32.ofNat n) m = some r ∧ LR Q X n r := by
  intro n
  induction n with
  | zero =>
    intro X fu _ hfu hX hmin
    obtain ⟨fu, rfl⟩ : ∃ j, fu = j + 1 := ⟨fu - 1, by omega⟩
    obtain ⟨r, e, hr⟩ := mlink_ok (a := 45) (Q := Q) rfl h45 hX
    rw [fN_leastRemoved, fN_leastRemoved_b, e, zb1_s]
    rcases hr with ⟨rfl, h0⟩ | ⟨b, hb, hXb, rfl, hmax⟩
    · refine ⟨0, ?_, Or.inr ⟨0, rfl, by decide, ?_, pc_0, fun T' _ _ => Nat.zero_le T'⟩⟩
      · rw [show fN_isIn (Int32.ofNat X) (-1) = some 0 from rfl, zb1_s, if_pos rfl]
      · refine ⟨(fun i hi => by rw [Nat.zero_testBit] at hi; cases hi), ?_⟩
        rw [h0]
        rfl
    · rw [n_isIn (by omega), decide_eq_true hb, hXb, zb1_s, if_neg (by decide), zI_n (by omega) (show b < zln 45 from hb), zg_t, zg_t, i_tn (by omega), h45 b hb, n_and]
      have hz : (Int32.ofNat (Q b &&& X) = 0) = (Q b &&& X = 0) := n_eq0 (p25 (Nat.and_lt_two_pow _ hX))
      simp only [hz]
      by_cases q : Q b &&& X = 0
      · rw [if_pos q]
        refine ⟨0, rfl, Or.inr ⟨0, rfl, by decide, ⟨(fun i hi => by rw [Nat.zero_testBit] at hi; cases hi), ?_⟩, pc_0, fun T' _ _ => Nat.zero_le T'⟩⟩
        have e0 : ad X 0 = X := by
          apply Nat.eq_of_testBit_eq
          intro i
          rw [ad_t, Nat.zero_testBit]
          simp
        rw [e0]
        refine pz_t.mpr fun s hs hXs => pc_z ?_ (p25 (Nat.and_lt_two_pow _ hX))
        have := hmax s hs hXs
        rw [q, pc_0] at this
        omega
      · rw [if_neg q, if_neg (by decide)]
        refine ⟨-1, rfl, Or.inl ⟨rfl, fun T hT hp => q ?_⟩⟩
        have hT25 : T < 2 ^ 25 := lt_of_t fun i hi => by
          have := hT.1 i hi
          rcases Nat.lt_or_ge i 25 with z | z
          · exact z
          · rw [tb_hi hX z] at this
            cases this
        have hT0 := pc_z hp (p25 hT25)
        subst hT0
        have e0 : ad X 0 = X := by
          apply Nat.eq_of_testBit_eq
          intro i
          rw [ad_t, Nat.zero_testBit]
          simp
        have := hT.2
        rw [e0] at this
        exact pz_t.mp this b hb hXb
  | succ n ih =>
    intro X fu hn hfu hX hmin
    obtain ⟨fu, rfl⟩ : ∃ j, fu = j + 1 := ⟨fu - 1, by omega⟩
    obtain ⟨r, e, hr⟩ := mlink_ok (a := 45) (Q := Q) rfl h45 hX
    have e0 : ad X 0 = X := by
      apply Nat.eq_of_testBit_eq
      intro i
      rw [ad_t, Nat.zero_testBit]
      simp
    have notpeace : ¬ pzb Q X = true := fun hp => by
      have := hmin 0 ⟨(fun i hi => by rw [Nat.zero_testBit] at hi; cases hi), by rw [e0]; exact hp⟩
      rw [pc_0] at this
      omega
    rcases hr with ⟨rfl, h0⟩ | ⟨b, hb, hXb, rfl, hmax⟩
    · exact absurd (by rw [h0]; rfl) notpeace
    · have hYlt : Q b &&& X < 2 ^ 25 := Nat.and_lt_two_pow _ hX
      have hz : (Int32.ofNat (Q b &&& X) = 0) = (Q b &&& X = 0) := n_eq0 (p25 hYlt)
      have q : ¬ Q b &&& X = 0 := fun z => notpeace (pz_t.mpr fun s hs hXs => pc_z (by
        have := hmax s hs hXs
        rw [z, pc_0] at this
        omega) (p25 (Nat.and_lt_two_pow _ hX)))
      obtain ⟨r5, e5, hr5⟩ := mlink_ok (a := 45) (Q := Q) (X := Q b &&& X) rfl h45 hYlt
      rcases hr5 with ⟨-, h0⟩ | ⟨o, ho, hYo, rfl, -⟩
      · exact absurd h0 q
      · obtain ⟨hQo, hXo⟩ := Bool.and_eq_true _ _ |>.mp ((Nat.testBit_and _ _ _).symm.trans hYo)
        have hle : ∀ k, X.testBit k = true → k < 25 → ∀ T, cov Q (ad X (2 ^ k)) T → n ≤ pc T := fun k hXk hk T hT => by
          obtain ⟨o1, o2⟩ := cov_out hT hXk
          have := hmin _ o2
          rw [pc_add o1 (by omega)] at this
          omega
        obtain ⟨r7, e7, h7⟩ := ih (ad X (2 ^ b)) fu (by omega) (by omega) (ad_lt hX) (hle b hXb hb)
        obtain ⟨r9, e9, h9⟩ := ih (ad X (2 ^ o)) fu (by omega) (by omega) (ad_lt hX) (hle o hXo ho)
        have hn1 : Int32.ofNat (n + 1) - 1 = Int32.ofNat n := i_mi (b := 1) (by omega) (by omega)
        have hne : ∀ T, cov Q X T → T.testBit b = true ∨ T.testBit o = true := fun T hT => by
          cases e1 : T.testBit b
          · cases e2 : T.testBit o
            · exfalso
              have hbX : (ad X T).testBit b = true := by rw [ad_t, hXb, e1]; rfl
              have := pz_t.mp hT.2 b hb hbX
              have := congrArg (fun z => z.testBit o) this
              simp only [Nat.testBit_and, ad_t, Nat.zero_testBit, hQo, hXo, e2] at this
              cases this
            · exact Or.inr rfl
          · exact Or.inl rfl
        have u7 := LR_up hb hXb h7
        have u9 := LR_up ho hXo h9
        rw [fN_leastRemoved, fN_leastRemoved_b, e, zb1_s, n_isIn (by omega), decide_eq_true hb, hXb, zb1_s, if_neg (by decide), zI_n (by omega) (show b < zln 45 from hb), zg_t, zg_t, i_tn (by omega), h45 b hb, n_and]
        simp only [hz]
        rw [if_neg q, if_pos (show (0 : Int32) < Int32.ofNat (n + 1) from (i_lt (a := 0) (by decide) (by omega)).mpr (by omega)), e5, zb1_s, n_sh b (by omega), n_sh o (by omega), n_ad, n_ad, hn1, e7, zb1_s, e9, zb1_s]
        rw [n_sh b (by omega)] at u7
        rw [n_sh o (by omega)] at u9
        have j107 : ∀ v w : Int32, fN_leastRemoved_j107 v w = some (if v < 0 then (if v < w then w else v) else if w < 0 then (if v < w then w else v) else (if w < v then w else v)) := fun v w => by
          rw [fN_leastRemoved_j107, fJ_max, fJ_min]
          by_cases a : v < 0
          · rw [if_pos a, if_pos a]
            split <;> rfl
          · rw [if_neg a, if_neg a]
            by_cases b : w < 0
            · rw [if_pos b, if_pos b]
              split <;> rfl
            · rw [if_neg b, if_neg b]
              split <;> rfl
        rcases u7 with ⟨n7, m7⟩ | ⟨n7, T7, t1, t2, t3, t4, t5⟩
        · rcases u9 with ⟨n9, m9⟩ | ⟨n9, T9, s1, s2, s3, s4, s5⟩
          · rw [if_pos n7, fN_leastRemoved_j89, if_pos n9, j107]
            refine ⟨-1, rfl, Or.inl ⟨rfl, fun T hT hp => ?_⟩⟩
            rcases hne T hT with z | z
            · exact m7 T hT z hp
            · exact m9 T hT z hp
          · rw [if_pos n7, fN_leastRemoved_j89, if_neg n9, n_sh o (by omega), s1, j107, if_pos (by decide)]
            have hl : (-1 : Int32) < Int32.ofNat T9 := by
              rw [Int32.lt_iff_toInt_lt, i_ofNat (p25 s2)]
              have : (-1 : Int32).toInt = -1 := rfl
              omega
            rw [if_pos hl]
            refine ⟨_, rfl, Or.inr ⟨T9, rfl, s2, s3, s4, fun T' hT' hp => ?_⟩⟩
            rcases hne T' hT' with z | z
            · exact absurd hp (m7 T' hT' z)
            · exact s5 T' hT' z hp
        · rcases u9 with ⟨n9, m9⟩ | ⟨n9, T9, s1, s2, s3, s4, s5⟩
          · rw [if_neg n7, t1, fN_leastRemoved_j89, if_pos n9, j107, if_neg (i_lt0 (p25 t2)), if_pos (by decide), if_neg (show ¬ Int32.ofNat T7 < -1 from fun z => by
              rw [Int32.lt_iff_toInt_lt, i_ofNat (p25 t2)] at z
              have : (-1 : Int32).toInt = -1 := rfl
              omega)]
            refine ⟨_, rfl, Or.inr ⟨T7, rfl, t2, t3, t4, fun T' hT' hp => ?_⟩⟩
            rcases hne T' hT' with z | z
            · exact t5 T' hT' z hp
            · exact absurd hp (m9 T' hT' z)
          · rw [if_neg n7, t1, fN_leastRemoved_j89, if_neg n9, n_sh o (by omega), s1, j107, if_neg (i_lt0 (p25 t2)), if_neg (i_lt0 (p25 s2))]
            by_cases w : T9 < T7
            · rw [if_pos ((i_lt (p25 s2) (p25 t2)).mpr w)]
              refine ⟨_, rfl, Or.inr ⟨T9, rfl, s2, s3, s4, fun T' hT' hp => ?_⟩⟩
              rcases hne T' hT' with z | z
              · have := t5 T' hT' z hp
                omega
              · exact s5 T' hT' z hp
            · rw [if_neg (fun z => w ((i_lt (p25 s2) (p25 t2)).mp z))]
              refine ⟨_, rfl, Or.inr ⟨T7, rfl, t2, t3, t4, fun T' hT' hp => ?_⟩⟩
              rcases hne T' hT' with z | z
              · exact t5 T' hT' z hp
              · have := s5 T' hT' z hp
                omega
