/-! The class reads a test. -/
theorem LT_n {L : Nat → Nat} {n : Nat} (h : LT L n) {p : Nat} (hp : L p < 200) : p < n := by
  rcases Nat.lt_or_ge p n with q | q
  · exact q
  · have := h.2.2 p q
    omega
theorem pN_n {L : Nat → Nat} {n : Nat} (h : LT L n) {p v q : Nat} (e : pN L p = .inr (v, q)) : v < 100 ∧ p < q ∧ q ≤ n := by
  have dg : ∀ x, (dgt (L x) = true) = (48 ≤ L x ∧ L x ≤ 57) := fun x => by
    unfold dgt
    simp
  unfold pN at e
  simp only [dg] at e
  by_cases q1 : 48 ≤ L p ∧ L p ≤ 57
  · have l1 := LT_n h (p := p) (by omega)
    rw [if_pos q1] at e
    by_cases q2 : 48 ≤ L (p + 1) ∧ L (p + 1) ≤ 57
    · have l2 := LT_n h (p := p + 1) (by omega)
      rw [if_pos q2] at e
      cases e
      omega
    · rw [if_neg q2] at e
      cases e
      omega
  · rw [if_neg q1] at e
    cases e
theorem pT_n {L : Nat → Nat} {n : Nat} (h : LT L n) {p q : Nat} {x : Ex} (e : pT L p = .inr (x, q)) : p < q ∧ q ≤ n := by
  unfold pT at e
  cases hp : plc (L p) with
  | none =>
    rw [hp] at e
    cases e
  | some pl =>
    rw [hp] at e
    have e : (if 60 ≤ L (p + 1) ∧ L (p + 1) ≤ 62 then (match pN L (p + 2) with
      | .inl q => (.inl q : Rs Ex)
      | .inr (v, q) => .inr (xT pl (L (p + 1) - 60) v, q)) else .inl (p + 1)) = .inr (x, q) := e
    by_cases q1 : 60 ≤ L (p + 1) ∧ L (p + 1) ≤ 62
    · rw [if_pos q1] at e
      cases hn : pN L (p + 2) with
      | inl z =>
        rw [hn] at e
        cases e
      | inr z =>
        obtain ⟨v, z⟩ := z
        rw [hn] at e
        obtain ⟨-, n2, n3⟩ := pN_n h hn
        cases e
        omega
    · rw [if_neg q1] at e
      cases e
theorem n_letter {x : Nat} (hx : x < 128 ∨ x = 200) : fRe_isLetter (cI x) = some (match plc x with
    | none => 0
    | some _ => 1) := by
  have c : ∀ k, k < 128 → (cI x = Int32.ofNat k) = (x = k) := fun k hk => cI_eq hx hk
  have c1 : (cI x = 120) = (x = 120) := c 120 (by decide)
  have c2 : (cI x = 121) = (x = 121) := c 121 (by decide)
  have c3 : (cI x = 115) = (x = 115) := c 115 (by decide)
  have c4 : (cI x = 100) = (x = 100) := c 100 (by decide)
  have c5 : (cI x = 110) = (x = 110) := c 110 (by decide)
  have c6 : (cI x = 119) = (x = 119) := c 119 (by decide)
  unfold fRe_isLetter plc
  simp only [c1, c2, c3, c4, c5, c6]
  by_cases q1 : x = 120
  · subst q1; rfl
  by_cases q2 : x = 121
  · subst q2; rfl
  by_cases q3 : x = 115
  · subst q3; rfl
  by_cases q4 : x = 100
  · subst q4; rfl
  by_cases q5 : x = 110
  · subst q5; rfl
  by_cases q6 : x = 119
  · subst q6; rfl
  rw [if_neg q1, if_neg q2, if_neg q3, if_neg q4, if_neg q5, if_neg q6, if_neg q4, if_neg q5, if_neg q3, if_neg q6, if_neg q1, if_neg q2]
theorem n_test {L : Nat → Nat} {n W : Nat} {m : zv_M} (h : TXN L n W m) {p : Nat} (hp : p < 130) : nR m L (fun e => Int32.ofNat (evS W e)) (fRe_readTest (rdA m L p 0)) (pT L p) := by
  have o := LT_or h.1
  have r7 : ∀ x c, (rdA m L x c).1 33 7 = cI (L x) := fun x c => mR_7 _ _ _ _
  have r8 : ∀ x c, (rdA m L x c).1 33 8 = c := fun x c => mR_8 _ _ _ _
  have f8 : ∀ x, wI (rdA m L x 0) 33 8 1 = rdA m L x 1 := fun x => mR_w8 _ _ _ _ _
  have c1 : (cI (L (p + 1)) = 60) = (L (p + 1) = 60) := cI_eq (k := 60) (o _) (by decide)
  have c2 : (cI (L (p + 1)) = 61) = (L (p + 1) = 61) := cI_eq (k := 61) (o _) (by decide)
  have c3 : (cI (L (p + 1)) = 62) = (L (p + 1) = 62) := cI_eq (k := 62) (o _) (by decide)
  cases hl : plc (L p) with
  | none =>
    have e : pT L p = .inl p := by rw [pT, hl]
    rw [e]
    refine ⟨0, ?_⟩
    rw [fRe_readTest, r8, if_pos rfl, r7, n_letter (o p), hl, zb1_s, if_pos rfl, f8]
  | some pl =>
    have pre : fRe_readTest (rdA m L p 0) = if L (p + 1) = 60 then fRe_readTest_j67 (rdA m L p 0) (rdA m L (p + 1) 0) else if L (p + 1) = 61 then fRe_readTest_j67 (rdA m L p 0) (rdA m L (p + 1) 0) else if L (p + 1) = 62 then fRe_readTest_j67 (rdA m L p 0) (rdA m L (p + 1) 0) else some (0, rdA m L (p + 1) 1) := by
      rw [fRe_readTest, r8, if_pos rfl, r7, n_letter (o p), hl, zb1_s, if_neg (show ¬ (1 : Int32) = 0 by decide), n_next h (by omega), zb1_s, r7, f8]
      simp only [c1, c2, c3]
    by_cases q1 : 60 ≤ L (p + 1) ∧ L (p + 1) ≤ 62
    · have e : pT L p = (match pN L (p + 2) with
        | .inl q => .inl q
        | .inr (v, q) => .inr (xT pl (L (p + 1) - 60) v, q)) := by rw [pT, hl]; exact if_pos q1
      have pre2 : fRe_readTest (rdA m L p 0) = fRe_readTest_j67 (rdA m L p 0) (rdA m L (p + 1) 0) := by
        rw [pre]
        rcases (show L (p + 1) = 60 ∨ L (p + 1) = 61 ∨ L (p + 1) = 62 by omega) with z | z | z
        · rw [if_pos z]
        · rw [if_neg (by omega), if_pos z]
        · rw [if_neg (by omega), if_neg (by omega), if_pos z]
      have hn := n_num h (p := p + 2) (by omega)
      rw [e, pre2, fRe_readTest_j67, n_next h (by omega), zb1_s]
      cases hN : pN L (p + 2) with
      | inl z =>
        rw [hN] at hn
        obtain ⟨v, ev⟩ := hn
        refine ⟨0, ?_⟩
        rw [ev, zb2_s, r8, if_neg (by decide)]
      | inr z =>
        obtain ⟨v, z⟩ := z
        rw [hN] at hn
        have ev : fRe_readNumber (rdA m L (p + 2) 0) = some (Int32.ofNat v, rdA m L z 0) := hn
        obtain ⟨n1, n2, n3⟩ := pN_n h.1 hN
        have hlp : cI (L p) = Int32.ofNat (L p) := by
          rw [cI, if_neg (fun z => by rw [z] at hl; cases hl)]
        have hl1 : cI (L (p + 1)) = Int32.ofNat (60 + (L (p + 1) - 60)) := by
          rw [cI, if_neg (by omega), show 60 + (L (p + 1) - 60) = L (p + 1) by omega]
        show _ = some (Int32.ofNat (evS W (xT pl (L (p + 1) - 60) v)), rdA m L z 0)
        rw [ev, zb2_s, r8, if_pos rfl, r7, r7, hlp, hl1, n_sqs (m := rdA m L z 0) ((mR_x (by omega)).trans h.2.2.2.1) h.2.2.2.2.1 h.2.2.2.2.2 hl (by omega) n1, zb1_s]
    · have e : pT L p = .inl (p + 1) := by rw [pT, hl]; exact if_neg q1
      rw [e]
      refine ⟨0, ?_⟩
      rw [pre, if_neg (by omega), if_neg (by omega), if_neg (by omega)]
