/-! Most apart: the largest set no two of which are neighbours. -/
def ind (N : Nat → Nat) (T : Nat) : Prop := ∀ s t, T.testBit s = true → T.testBit t = true → (N s).testBit t = false
def sub (T X : Nat) : Prop := ∀ i, T.testBit i = true → X.testBit i = true
def AA (N : Nat → Nat) (X v : Nat) : Prop := (∃ T, sub T X ∧ ind N T ∧ pc T = v) ∧ ∀ T, sub T X → ind N T → pc T ≤ v
def sy (N : Nat → Nat) : Prop := ∀ s t, (N s).testBit t = (N t).testBit s ∧ (N s).testBit s = false
theorem AA_u {N : Nat → Nat} {X v w : Nat} (h : AA N X v) (k : AA N X w) : v = w := by
  obtain ⟨⟨T, a1, a2, a3⟩, a4⟩ := h
  obtain ⟨⟨U, b1, b2, b3⟩, b4⟩ := k
  have := a4 U b1 b2
  have := b4 T a1 a2
  omega
theorem AA_c {N M : Nat → Nat} {X v : Nat} (hc : ∀ s t, X.testBit s = true → X.testBit t = true → (N s).testBit t = (M s).testBit t) (h : AA N X v) : AA M X v := by
  obtain ⟨⟨T, a1, a2, a3⟩, a4⟩ := h
  exact ⟨⟨T, a1, (fun s t hs ht => by rw [← hc s t (a1 s hs) (a1 t ht)]; exact a2 s t hs ht), a3⟩, fun U hU hi => a4 U hU fun s t hs ht => by rw [hc s t (hU s hs) (hU t ht)]; exact hi s t hs ht⟩
theorem sub_t {a b c : Nat} (h : sub a b) (k : sub b c) : sub a c := fun i hi => k i (h i hi)
theorem ad_sub (a b : Nat) : sub (ad a b) a := fun i hi => by
  rw [ad_t] at hi
  exact (Bool.and_eq_true _ _ |>.mp hi).1
theorem ind_sub {N : Nat → Nat} {T U : Nat} (h : ind N T) (k : sub U T) : ind N U := fun s t hs ht => h s t (k s hs) (k t ht)
theorem AA_0 (N : Nat → Nat) : AA N 0 0 := by
  refine ⟨⟨0, (fun i hi => hi), (fun s t hs _ => by rw [Nat.zero_testBit] at hs; cases hs), pc_0⟩, fun T hT _ => ?_⟩
  have h0 : T = 0 := by
    apply Nat.eq_of_testBit_eq
    intro i
    rw [Nat.zero_testBit]
    cases e : T.testBit i
    · rfl
    · have := hT i e
      rw [Nat.zero_testBit] at this
      cases this
  rw [h0, pc_0]
  exact Nat.le_refl _
theorem pc_ad {T r : Nat} (h : T.testBit r = true) (hr : r < 32) : pc T = pc (ad T (2 ^ r)) + 1 := by
  have := pc_add (ad_no T r) hr
  rw [ad_back h] at this
  exact this
theorem pc_two (T M : Nat) : pc T = pc (ad T M) + pc (T &&& M) := by
  rw [pc, pc, pc, ← fb_ct_or]
  · apply fb_ct_cong
    intro k _
    rw [ad_t, Nat.testBit_and]
    cases T.testBit k <;> cases M.testBit k <;> rfl
  · intro k _ h
    rw [ad_t, Nat.testBit_and] at h
    revert h
    cases T.testBit k <;> cases M.testBit k <;> decide
/-- without r and its neighbours -/
def wo (N : Nat → Nat) (X r : Nat) : Nat := ad (ad X (2 ^ r)) (N r)
theorem wo_t (N : Nat → Nat) (X r i : Nat) : (wo N X r).testBit i = (X.testBit i && !decide (r = i) && !(N r).testBit i) := by rw [wo, ad_t, ad_one]
theorem wo_or (N : Nat → Nat) (X r : Nat) : ad X (N r ||| 2 ^ r) = wo N X r := by
  apply Nat.eq_of_testBit_eq
  intro i
  rw [wo_t, ad_t, Nat.testBit_or, Nat.testBit_two_pow]
  cases X.testBit i <;> cases (N r).testBit i <;> cases decide (r = i) <;> rfl
theorem wo_sub (N : Nat → Nat) (X r : Nat) : sub (wo N X r) (ad X (2 ^ r)) := ad_sub _ _
theorem wo_lt {N : Nat → Nat} {X r B : Nat} (h : X < B) : wo N X r < B := ad_lt (ad_lt h)
theorem ind_in {N : Nat → Nat} {T r : Nat} (h : ind N T) (hr : T.testBit r = true) {X : Nat} (hX : sub T X) : sub (ad T (2 ^ r)) (wo N X r) := fun i hi => by
  rw [ad_one] at hi
  obtain ⟨a, b⟩ := Bool.and_eq_true _ _ |>.mp hi
  rw [wo_t, hX i a, h r i hr a, b]
  rfl
theorem ind_up {N : Nat → Nat} (hN : sy N) {T r X : Nat} (h : ind N T) (hX : sub T (wo N X r)) : T.testBit r = false ∧ ind N (T ||| 2 ^ r) := by
  have h0 : T.testBit r = false := by
    cases e : T.testBit r
    · rfl
    · have := hX r e
      rw [wo_t, decide_eq_true rfl] at this
      simp at this
  have hn : ∀ t, T.testBit t = true → (N r).testBit t = false := fun t ht => by
    have := hX t ht
    rw [wo_t] at this
    have := (Bool.and_eq_true _ _ |>.mp this).2
    cases e : (N r).testBit t
    · rfl
    · rw [e] at this
      cases this
  refine ⟨h0, fun s t hs ht => ?_⟩
  rw [Nat.testBit_or, Nat.testBit_two_pow] at hs ht
  rcases Bool.or_eq_true _ _ |>.mp hs with a | a
  · rcases Bool.or_eq_true _ _ |>.mp ht with b | b
    · exact h s t a b
    · rw [← of_decide_eq_true b, (hN s r).1]
      exact hn s a
  · rw [← of_decide_eq_true a]
    rcases Bool.or_eq_true _ _ |>.mp ht with b | b
    · exact hn t b
    · rw [← of_decide_eq_true b]
      exact (hN r r).2
theorem AA_br {N : Nat → Nat} (hN : sy N) {X r v1 v2 : Nat} (hr : r < 32) (hX : X.testBit r = true) (h1 : AA N (ad X (2 ^ r)) v1) (h2 : AA N (wo N X r) v2) : AA N X (max v1 (v2 + 1)) := by
  obtain ⟨⟨T1, a1, a2, a3⟩, a4⟩ := h1
  obtain ⟨⟨T2, b1, b2, b3⟩, b4⟩ := h2
  refine ⟨?_, fun T hT hi => ?_⟩
  · by_cases q : v1 ≤ v2 + 1
    · obtain ⟨c1, c2⟩ := ind_up hN b2 b1
      refine ⟨T2 ||| 2 ^ r, fun i hi => ?_, c2, by rw [pc_add c1 hr, b3, Nat.max_eq_right q]⟩
      rw [Nat.testBit_or, Nat.testBit_two_pow] at hi
      rcases Bool.or_eq_true _ _ |>.mp hi with z | z
      · exact ad_sub _ _ i (wo_sub _ _ _ i (b1 i z))
      · rw [← of_decide_eq_true z]
        exact hX
    · exact ⟨T1, sub_t a1 (ad_sub _ _), a2, by rw [a3, Nat.max_eq_left (by omega)]⟩
  · cases e : T.testBit r
    · have := a4 T (fun i hi => by
        rw [ad_one, hT i hi]
        by_cases q : r = i
        · rw [q, hi] at e
          cases e
        · rw [decide_eq_false q]
          rfl) hi
      exact Nat.le_trans this (Nat.le_max_left _ _)
    · have := b4 _ (ind_in hi e hT) (ind_sub hi (ad_sub _ _))
      rw [pc_ad e hr]
      exact Nat.le_trans (by omega) (Nat.le_max_right _ _)
theorem AA_lo {N : Nat → Nat} (hN : sy N) {X r v : Nat} (hr : r < 32) (hX : X.testBit r = true) (hp : pc (N r &&& X) ≤ 1) (h : AA N (wo N X r) v) : AA N X (v + 1) := by
  obtain ⟨⟨T2, b1, b2, b3⟩, b4⟩ := h
  refine ⟨?_, fun T hT hi => ?_⟩
  · obtain ⟨c1, c2⟩ := ind_up hN b2 b1
    refine ⟨T2 ||| 2 ^ r, fun i hi => ?_, c2, by rw [pc_add c1 hr, b3]⟩
    rw [Nat.testBit_or, Nat.testBit_two_pow] at hi
    rcases Bool.or_eq_true _ _ |>.mp hi with z | z
    · exact ad_sub _ _ i (wo_sub _ _ _ i (b1 i z))
    · rw [← of_decide_eq_true z]
      exact hX
  · cases e : T.testBit r
    · have s1 : sub (ad T (N r)) (wo N X r) := fun i hi => by
        rw [ad_t] at hi
        obtain ⟨z1, z2⟩ := Bool.and_eq_true _ _ |>.mp hi
        rw [wo_t, hT i z1, z2, Bool.true_and, Bool.and_true]
        by_cases q : r = i
        · rw [q, z1] at e
          cases e
        · rw [decide_eq_false q]
          rfl
      have u1 := b4 _ s1 (ind_sub hi (ad_sub _ _))
      have u2 := pc_two T (N r)
      have u3 : pc (T &&& N r) ≤ pc (N r &&& X) := pc_mono fun i hi => by
        rw [Nat.testBit_and] at hi ⊢
        obtain ⟨z1, z2⟩ := Bool.and_eq_true _ _ |>.mp hi
        rw [z2, hT i z1]
        rfl
      omega
    · have := b4 _ (ind_in hi e hT) (ind_sub hi (ad_sub _ _))
      rw [pc_ad e hr]
      omega
theorem pc_bit {X : Nat} (hX : X < 2 ^ 25) (h : 0 < pc X) : ∃ r, r < 25 ∧ X.testBit r = true ∧ ∀ i, i < r → X.testBit i = false := by
  have hex : ∃ i, i < 25 ∧ X.testBit i = true := by
    obtain ⟨i, -, hi⟩ := fb_ct_pos.mp h
    refine ⟨i, ?_, hi⟩
    rcases Nat.lt_or_ge i 25 with q | q
    · exact q
    · rw [tb_hi hX q] at hi
      cases hi
  obtain ⟨r, h1, h2, h3⟩ := fst1 (p := fun i => X.testBit i = true) (fun n => Decidable.em _) hex
  exact ⟨r, h1, h2, fun i hi => by
    cases e : X.testBit i
    · rfl
    · exact absurd e (h3 i hi)⟩
theorem AA_ex {N : Nat → Nat} (hN : sy N) : ∀ (c X : Nat), X < 2 ^ 25 → pc X ≤ c → ∃ v, AA N X v := by
  intro c
  induction c with
  | zero =>
    intro X hX h
    obtain rfl := pc_z (by omega) (p25 hX)
    exact ⟨0, AA_0 N⟩
  | succ c ih =>
    intro X hX h
    rcases Nat.eq_zero_or_pos (pc X) with q | q
    · obtain rfl := pc_z q (p25 hX)
      exact ⟨0, AA_0 N⟩
    · obtain ⟨r, r1, r2, -⟩ := pc_bit hX q
      have u := pc_ad r2 (by omega)
      have u2 : pc (wo N X r) ≤ pc (ad X (2 ^ r)) := pc_mono (wo_sub N X r)
      obtain ⟨v1, e1⟩ := ih (ad X (2 ^ r)) (ad_lt hX) (by omega)
      obtain ⟨v2, e2⟩ := ih (wo N X r) (wo_lt hX) (by omega)
      exact ⟨_, AA_br hN (by omega) r2 e1 e2⟩
theorem AA_pc {N : Nat → Nat} {X v : Nat} (h : AA N X v) : v ≤ pc X := by
  obtain ⟨⟨T, a1, a2, a3⟩, -⟩ := h
  rw [← a3]
  exact pc_mono a1
