/-! The class's cheapest way to bring so many men to such a set. -/
theorem vF_i {m : zv_M} {a n : Nat} {g : Nat → Int32} (h : ∀ k, k < n → m.1 a k = g k) : vF m a g n = m := by
  refine Prod.ext ?_ rfl
  funext o k
  by_cases q : o = a ∧ k < n
  · obtain ⟨rfl, q⟩ := q
    rw [vF_e _ _ _ q, h k q]
  · rw [vF_o _ _ q]
def mT (m : zv_M) (T : Nat → Nat) : zv_M := vF m 60 (fun t => Int32.ofNat (T t)) 32
theorem mT_e (m : zv_M) (T : Nat → Nat) {t : Nat} (ht : t < 32) : (mT m T).1 60 t = Int32.ofNat (T t) := vF_e _ _ _ ht
theorem mT_o (m : zv_M) (T : Nat → Nat) {o k : Nat} (h : ¬ o = 60) : (mT m T).1 o k = m.1 o k := vF_o _ _ (fun q => h q.1)
theorem mT_u (m : zv_M) (T : Nat → Nat) {a : Nat} (ha : a < 32) (x : Nat) : wI (mT m T) 60 a (Int32.ofNat x) = mT m (upv T a x) := by
  refine Prod.ext ?_ rfl
  funext o k
  by_cases h : o = 60 ∧ k = a
  · obtain ⟨rfl, rfl⟩ := h
    rw [wI_e, mT_e _ _ ha, upv, if_pos rfl]
  · rw [wI_o _ _ h]
    by_cases q : o = 60 ∧ k < 32
    · obtain ⟨rfl, q⟩ := q
      rw [mT_e _ _ q, mT_e _ _ q, upv, if_neg (fun z => h ⟨rfl, z⟩)]
    · show (vF m 60 _ 32).1 o k = (vF m 60 _ 32).1 o k
      rw [vF_o _ _ q, vF_o _ _ q]
theorem n_min {a b : Nat} (ha : a < 2147483648) (hb : b < 2147483648) : fJ_min (Int32.ofNat a) (Int32.ofNat b) = some (Int32.ofNat (min a b)) := by
  rw [fJ_min]
  by_cases q : b < a
  · rw [if_pos ((i_lt hb ha).mpr q), Nat.min_eq_right (by omega)]
  · rw [if_neg (fun z => q ((i_lt hb ha).mp z)), Nat.min_eq_left (by omega)]
abbrev FAR : Nat := 1000000
def BJ (n : Nat) (e : Nat → Nat) (T0 : Nat → Nat) (j A i : Nat) (T : Nat → Nat) : Prop := ∀ S, S < 32 → T S ≤ FAR ∧ (pc S ≤ j → T S = T0 S) ∧ (pc S = j + 1 → (∀ a, a < n → S.testBit a = true → (ad S (2 ^ a) < A ∨ (ad S (2 ^ a) = A ∧ a < i)) → T0 (ad S (2 ^ a)) < FAR → T S ≤ T0 (ad S (2 ^ a)) + e a) ∧ (T S < FAR → ∃ a, a < n ∧ S.testBit a = true ∧ T0 (ad S (2 ^ a)) < FAR ∧ T S = T0 (ad S (2 ^ a)) + e a)) ∧ (j + 1 < pc S → T S = FAR)
theorem or32 {A i : Nat} (hA : A < 32) (hi : i < 5) : A ||| 2 ^ i < 32 := Nat.or_lt_two_pow (n := 5) hA (Nat.pow_lt_pow_right (by decide) hi)
theorem ad_or {A i : Nat} (h : A.testBit i = false) : ad (A ||| 2 ^ i) (2 ^ i) = A := by
  apply Nat.eq_of_testBit_eq
  intro k
  rw [ad_one, Nat.testBit_or, Nat.testBit_two_pow]
  by_cases q : i = k
  · subst q
    rw [h, decide_eq_true rfl]
    rfl
  · rw [decide_eq_false q]
    simp
theorem BJ_step {n : Nat} {e T0 : Nat → Nat} {j A i : Nat} {T : Nat → Nat} (hn : n ≤ 5) (hi : i < n) (hA : A < 32) (hp : pc A = j) (hT : T0 A < FAR) (h : BJ n e T0 j A i T) : BJ n e T0 j A (i + 1) (if A.testBit i = true then T else upv T (A ||| 2 ^ i) (min (T (A ||| 2 ^ i)) (T A + e i))) := by
  cases hb : A.testBit i
  · rw [if_neg (show ¬ false = true by decide)]
    have hN : A ||| 2 ^ i < 32 := or32 hA (by omega)
    have hpN : pc (A ||| 2 ^ i) = j + 1 := by rw [pc_add hb (by omega), hp]
    have hTA : T A = T0 A := (h A hA).2.1 (by omega)
    intro S hS
    obtain ⟨h1, h2, h3, h4⟩ := h S hS
    by_cases q : S = A ||| 2 ^ i
    · subst q
      have eT : upv T (A ||| 2 ^ i) (min (T (A ||| 2 ^ i)) (T A + e i)) (A ||| 2 ^ i) = min (T (A ||| 2 ^ i)) (T A + e i) := by rw [upv, if_pos rfl]
      rw [eT]
      obtain ⟨u, l⟩ := h3 hpN
      refine ⟨by omega, fun z => by omega, fun _ => ⟨fun a ha hba hc hT0 => ?_, fun hl => ?_⟩, fun z => by omega⟩
      · rcases hc with c | ⟨c1, c2⟩
        · have := u a ha hba (Or.inl c) hT0
          omega
        · by_cases w : a = i
          · subst w
            rw [c1, hTA]
            omega
          · have := u a ha hba (Or.inr ⟨c1, by omega⟩) hT0
            omega
      · by_cases w : T (A ||| 2 ^ i) ≤ T A + e i
        · rw [Nat.min_eq_left w] at hl ⊢
          exact l hl
        · rw [Nat.min_eq_right (by omega)]
          refine ⟨i, hi, by rw [Nat.testBit_or, Nat.testBit_two_pow, decide_eq_true rfl, Bool.or_true], ?_⟩
          rw [ad_or hb, hTA]
          exact ⟨hT, rfl⟩
    · have eT : upv T (A ||| 2 ^ i) (min (T (A ||| 2 ^ i)) (T A + e i)) S = T S := by rw [upv, if_neg q]
      rw [eT]
      refine ⟨h1, h2, fun hpS => ⟨fun a ha hba hc hT0 => ?_, (h3 hpS).2⟩, h4⟩
      rcases hc with c | ⟨c1, c2⟩
      · exact (h3 hpS).1 a ha hba (Or.inl c) hT0
      · by_cases w : a = i
        · subst w
          exact absurd (by rw [← c1, ad_back hba]) q
        · exact (h3 hpS).1 a ha hba (Or.inr ⟨c1, by omega⟩) hT0
  · rw [if_pos (show true = true from rfl)]
    intro S hS
    obtain ⟨h1, h2, h3, h4⟩ := h S hS
    refine ⟨h1, h2, fun hpS => ⟨fun a ha hba hc hT0 => ?_, (h3 hpS).2⟩, h4⟩
    rcases hc with c | ⟨c1, c2⟩
    · exact (h3 hpS).1 a ha hba (Or.inl c) hT0
    · by_cases w : a = i
      · subst w
        rw [← c1, ad_no] at hb
        cases hb
      · exact (h3 hpS).1 a ha hba (Or.inr ⟨c1, by omega⟩) hT0
/-- the aim: n squares -/
def AQ (n : Nat) (q : Nat → Nat) (m : zv_M) : Prop := n ≤ 5 ∧ m.1 9 1 = Int32.ofNat n ∧ ∀ i, i < n → m.1 10 i = Int32.ofNat (q i) ∧ q i < 25
theorem AQ_sc {n : Nat} {q : Nat → Nat} {m m' : zv_M} (h : sc m m') (c : AQ n q m) : AQ n q m' := ⟨c.1, by rw [h.2 9 1 rfl]; exact c.2.1, fun i hi => by rw [h.2 10 i rfl]; exact c.2.2 i hi⟩
theorem mT_sc {m0 m : zv_M} (h : sc m0 m) (T : Nat → Nat) : sc m0 (mT m T) := sc_F h (fun _ => rfl)
theorem bone_ok {n : Nat} {q e : Nat → Nat} {m : zv_M} (hq : AQ n q m) (he : ∀ i, i < n → m.1 59 (q i) = Int32.ofNat (e i) ∧ e i ≤ FAR) {T0 : Nat → Nat} {j A : Nat} (hA : A < 32) (hp : pc A = j) (hT : T0 A < FAR) (T1 : Nat → Nat) (h1 : BJ n e T0 j A 0 T1) : ∃ T, fWa_bringOne (Int32.ofNat A) 9 (mT m T1) = some (mT m T) ∧ BJ n e T0 j (A + 1) 0 T := by
  have hn := hq.1
  have hF : FAR = 1000000 := rfl
  obtain ⟨r, e1, T, rfl, hr⟩ := wn_up (fWa_bringOne_l2 (Int32.ofNat A) 9) (fun i (T : Nat → Nat) => (Int32.ofNat i, mT m T)) n (fun i T => BJ n e T0 j A i T) (fun r => ∃ T, r = mT m T ∧ BJ n e T0 j A n T) (by omega) (fun i T hi hJ => by
    have c := AQ_sc (mT_sc (sc_r m) T) hq
    have gp : gP (mT m T) 9 10 5 n := ⟨rfl, rfl, by decide, c.2.1, hn, by decide⟩
    obtain ⟨q1, q2⟩ := c.2.2 i hi
    have st := BJ_step hn hi hA hp hT hJ
    have heq : (Int32.ofNat A ||| 1 <<< (Int32.ofNat i &&& 31) = Int32.ofNat A) = (A.testBit i = true) := by
      rw [n_sh i (by omega), n_or]
      have hN := or32 hA (show i < 5 by omega)
      refine propext ((i_eq (by omega) (by omega)).trans ⟨fun z => ?_, fun z => ?_⟩)
      · rw [← z, Nat.testBit_or, Nat.testBit_two_pow, decide_eq_true rfl, Bool.or_true]
      · apply Nat.eq_of_testBit_eq
        intro k
        rw [Nat.testBit_or, Nat.testBit_two_pow]
        by_cases w : i = k
        · rw [← w, z]
          rfl
        · rw [decide_eq_false w, Bool.or_false]
    rw [fWa_bringOne_l2, c.2.1, if_pos ((i_lt (by omega) (by omega)).mpr hi), pi_get gp (by omega), if_pos hi, zb1_s, q1]
    simp only [heq]
    cases hb : A.testBit i
    · rw [hb, if_neg (show ¬ false = true by decide)] at st
      have hN := or32 hA (show i < 5 by omega)
      have hTN := (hJ _ hN).1
      have hTA := (hJ A hA).1
      have hei := (he i hi).2
      have h59 : (mT m T).1 59 (q i) = Int32.ofNat (e i) := (mT_o m T (by decide)).trans (he i hi).1
      rw [if_neg (show ¬ false = true by decide), n_sh i (by omega), n_or, if_pos (show Int32.ofNat (A ||| 2 ^ i) < 32 from (i_lt (b := 32) (by omega) (by decide)).mpr hN), if_neg (i_lt0 (by omega)), if_pos (show Int32.ofNat (q i) < 25 from (i_lt (b := 25) (by omega) (by decide)).mpr q2), zI_n (by omega) hN, zI_n (by omega) hA, zI_n (by omega) q2, zg_t, zg_t, zg_t, i_tn (show A ||| 2 ^ i < 2147483648 by omega), i_tn (show A < 2147483648 by omega), i_tn (show q i < 2147483648 by omega), mT_e _ _ hN, mT_e _ _ hA, h59, i_pl, n_min (by omega) (by omega), zb1_s, zg_t, fWa_bringOne_j86, inc, mT_u _ _ hN]
      exact ⟨_, rfl, st⟩
    · rw [hb, if_pos (show true = true from rfl)] at st
      rw [if_pos (show true = true from rfl), fWa_bringOne_j86, inc]
      exact ⟨T, rfl, st⟩) (fun T hJ => by
    have c := AQ_sc (mT_sc (sc_r m) T) hq
    rw [fWa_bringOne_l2, c.2.1, if_neg (fun z => by have := (i_lt (by omega) (by omega)).mp z; omega)]
    exact ⟨_, rfl, T, rfl, hJ⟩) T1 h1
  refine ⟨T, by rw [fWa_bringOne]; exact congrArg (fun z => zb1 z (fun r => some r)) e1, fun S hS => ?_⟩
  obtain ⟨k1, k2, k3, k4⟩ := hr S hS
  refine ⟨k1, k2, fun hpS => ⟨fun a ha hba hc hT0 => ?_, (k3 hpS).2⟩, k4⟩
  refine (k3 hpS).1 a ha hba ?_ hT0
  rcases hc with c | ⟨-, c2⟩
  · rcases Nat.lt_or_ge (ad S (2 ^ a)) A with w | w
    · exact Or.inl w
    · exact Or.inr ⟨by omega, ha⟩
  · omega
theorem bring_ok {n : Nat} {q e : Nat → Nat} {m : zv_M} (hq : AQ n q m) (he : ∀ i, i < n → m.1 59 (q i) = Int32.ofNat (e i) ∧ e i ≤ FAR) {T0 : Nat → Nat} {j : Nat} (hj : j < 100) (h0 : ∀ S, S < 32 → T0 S ≤ FAR ∧ (j < pc S → T0 S = FAR)) : ∃ T, fWa_bring (Int32.ofNat j) 9 (mT m T0) = some (mT m T) ∧ BJ n e T0 j 32 0 T := by
  have hF : FAR = 1000000 := rfl
  obtain ⟨r, e1, T, rfl, hr⟩ := wn_up (fWa_bring_l2 (Int32.ofNat j) 9) (fun A (T : Nat → Nat) => (Int32.ofNat A, mT m T)) 32 (fun A T => BJ n e T0 j A 0 T) (fun r => ∃ T, r = mT m T ∧ BJ n e T0 j 32 0 T) (by decide) (fun A T hA hJ => by
    have skip : ¬ (pc A = j ∧ T0 A < FAR) → BJ n e T0 j (A + 1) 0 T := fun hn S hS => by
      obtain ⟨k1, k2, k3, k4⟩ := hJ S hS
      refine ⟨k1, k2, fun hpS => ⟨fun a ha hba hc hT0 => ?_, (k3 hpS).2⟩, k4⟩
      rcases hc with c | ⟨-, c2⟩
      · rcases Nat.lt_or_ge (ad S (2 ^ a)) A with w | w
        · exact (k3 hpS).1 a ha hba (Or.inl w) hT0
        · have w2 : ad S (2 ^ a) = A := by omega
          refine absurd ⟨?_, by rw [← w2]; exact hT0⟩ hn
          have ha32 : a < 32 := by
            rcases Nat.lt_or_ge a 5 with z | z
            · omega
            · rw [tb_hi (N := 5) hS z] at hba
              cases hba
          have := pc_ad hba ha32
          rw [w2] at this
          omega
      · omega
    have h1 := (hJ A hA).1
    have hz : (Int32.ofNat (pc A) = Int32.ofNat j) = (pc A = j) := propext (i_eq (pc32 _) (by omega))
    have hl : (Int32.ofNat (T A) < 1000000) = (T A < FAR) := propext (i_lt (b := 1000000) (by omega) (by decide))
    rw [fWa_bring_l2, if_pos (show Int32.ofNat A < 32 from (i_lt (b := 32) (by omega) (by decide)).mpr hA), n_bc (by omega), zb1_s, zI_n (by omega) hA, zg_t, i_tn (by omega), mT_e _ _ hA]
    simp only [hz, hl]
    by_cases q1 : pc A = j
    · have hTA : T A = T0 A := (hJ A hA).2.1 (by omega)
      by_cases q2 : T A < FAR
      · rw [if_pos q1, if_pos q2]
        obtain ⟨T', e', h'⟩ := bone_ok hq he hA q1 (by rw [← hTA]; exact q2) T hJ
        rw [e', zb1_s, fWa_bring_j36, inc]
        exact ⟨T', rfl, h'⟩
      · rw [if_pos q1, if_neg q2, fWa_bring_j36, inc]
        exact ⟨T, rfl, skip (fun z => q2 (by rw [hTA]; exact z.2))⟩
    · rw [if_neg q1, fWa_bring_j36, inc]
      exact ⟨T, rfl, skip (fun z => q1 z.1)⟩) (fun T hJ => by
    rw [fWa_bring_l2, if_neg (by decide)]
    exact ⟨_, rfl, T, rfl, hJ⟩) T0 (fun S hS => by
    obtain ⟨z1, z2⟩ := h0 S hS
    refine ⟨z1, fun _ => rfl, fun hpS => ⟨fun a _ _ hc _ => ?_, fun hl => ?_⟩, fun hpS => z2 (by omega)⟩
    · rcases hc with c | ⟨-, c⟩ <;> exact absurd c (Nat.not_lt_zero _)
    · rw [z2 (by omega)] at hl
      exact absurd hl (Nat.lt_irrefl _))
  exact ⟨T, by rw [fWa_bring]; exact congrArg (fun z => zb1 z (fun r => some r)) e1, hr⟩
