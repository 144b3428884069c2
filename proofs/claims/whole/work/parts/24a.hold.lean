/-! The fewest that hold all: candidates in their order. -/
def Cs (F : Nat → Bool) (h : Nat → Nat) : Nat → Nat → Nat → Nat → List (Nat × Nat)
  | 0, _, S, U => [(S, U)]
  | k + 1, B, S, U => fl (fun a => if F a = true then Cs F h k a (S + 2 ^ a) (U ||| h a) else []) 0 B
def fh (all : Nat) (L : List (Nat × Nat)) : Option Nat := (L.find? (fun z => decide (z.2 = all))).map Prod.fst
def orS (o x : Option Nat) : Option Nat := match o with
  | some S => some S
  | none => x
theorem fh_app (all : Nat) (L1 L2 : List (Nat × Nat)) : fh all (L1 ++ L2) = orS (fh all L1) (fh all L2) := by
  unfold fh
  rw [List.find?_append]
  cases List.find? (fun z => decide (z.2 = all)) L1 <;> rfl
theorem orS_a (a b c : Option Nat) : orS (orS a b) c = orS a (orS b c) := by
  cases a <;> rfl
theorem orS_n (a : Option Nat) : orS a none = a := by
  cases a <;> rfl
theorem fh_mem {all : Nat} {L : List (Nat × Nat)} {S : Nat} (h : fh all L = some S) : ∃ z ∈ L, z.1 = S ∧ z.2 = all := by
  unfold fh at h
  cases e : L.find? (fun z => decide (z.2 = all)) with
  | none => rw [e] at h; cases h
  | some z =>
    rw [e] at h
    have q : decide (z.2 = all) = true := List.find?_some (p := fun z : Nat × Nat => decide (z.2 = all)) e
    exact ⟨z, List.mem_of_find?_eq_some e, Option.some.inj h, of_decide_eq_true q⟩
theorem Cs_lt {F : Nat → Bool} {h : Nat → Nat} : ∀ (k B S U : Nat) (z : Nat × Nat), z ∈ Cs F h k B S U → z.1 < S + 2 ^ B
  | 0, B, S, U, z, hz => by
    rw [Cs, List.mem_singleton] at hz
    rw [hz]
    exact Nat.lt_add_of_pos_right (Nat.pow_pos (by decide))
  | k + 1, B, S, U, z, hz => by
    rw [Cs] at hz
    obtain ⟨a, -, h2, h3⟩ := fl_m _ _ hz
    by_cases q : F a = true
    · rw [if_pos q] at h3
      have h4 := Cs_lt k a (S + 2 ^ a) _ z h3
      have h5 : 2 ^ (a + 1) ≤ 2 ^ B := Nat.pow_le_pow_right (by decide) (by omega)
      rw [Nat.pow_succ] at h5
      omega
    · rw [if_neg q] at h3
      exact absurd h3 List.not_mem_nil
theorem fl_map {α β : Type} {g : Nat → List α} (f : α → β) : ∀ (c a : Nat), (fl g a c).map f = fl (fun b => (g b).map f) a c
  | 0, _ => rfl
  | c + 1, a => by rw [fl_s, fl_s, List.map_append, fl_map f c (a + 1)]
theorem Cs_sh {F : Nat → Bool} {h : Nat → Nat} (x : Nat) : ∀ (k B S U : Nat), Cs F h k B (x + S) U = (Cs F h k B S U).map (fun z => (x + z.1, z.2))
  | 0, B, S, U => rfl
  | k + 1, B, S, U => by
    rw [Cs, Cs, fl_map]
    refine fl_c _ _ fun a _ _ => ?_
    by_cases q : F a = true
    · rw [if_pos q, if_pos q, Nat.add_assoc, Cs_sh x k]
    · rw [if_neg q, if_neg q]
      rfl
theorem fh_sh {all x : Nat} (L : List (Nat × Nat)) : fh all (L.map (fun z => (x + z.1, z.2))) = (fh all L).map (fun s => x + s) := by
  unfold fh
  induction L with
  | nil => rfl
  | cons a L ih =>
    rw [List.map_cons, List.find?_cons, List.find?_cons]
    cases q : decide (a.2 = all)
    · exact ih
    · rfl
theorem Cs_w {F : Nat → Bool} {h : Nat → Nat} {n N : Nat} (hn : n ≤ N) (hF : ∀ a, n ≤ a → F a = false) (k S U : Nat) : Cs F h (k + 1) N S U = Cs F h (k + 1) n S U := by
  obtain ⟨d, rfl⟩ : ∃ d, N = n + d := ⟨N - n, by omega⟩
  have e : fl (fun a => if F a = true then Cs F h k a (S + 2 ^ a) (U ||| h a) else []) (0 + n) d = [] := by
    have : ∀ d a, n ≤ a → fl (fun a => if F a = true then Cs F h k a (S + 2 ^ a) (U ||| h a) else []) a d = [] := by
      intro d
      induction d with
      | zero => intro a _; rfl
      | succ d ih =>
        intro a ha
        rw [fl_s, ih (a + 1) (by omega), hF a ha]
        rfl
    exact this d _ (by omega)
  rw [Cs, Cs, fl_app, e, List.append_nil]
theorem ct_or (p q : Nat → Bool) : ∀ n, fb_ct (fun k => p k || q k) n ≤ fb_ct p n + fb_ct q n
  | 0 => Nat.le_refl _
  | n + 1 => by
    have := ct_or p q n
    rw [fb_ct_succ, fb_ct_succ, fb_ct_succ]
    cases p n <;> cases q n <;> simp <;> omega
theorem pc_sub {a b c : Nat} (h : ∀ i, a.testBit i = true → b.testBit i = true ∨ c.testBit i = true) : pc a ≤ pc b + pc c := by
  refine Nat.le_trans (fb_ct_sub (q := fun k => b.testBit k || c.testBit k) fun k _ e => ?_) (ct_or _ _ _)
  rcases h k e with z | z
  · show (b.testBit k || c.testBit k) = true
    rw [z]
    rfl
  · show (b.testBit k || c.testBit k) = true
    rw [z, Bool.or_true]
theorem Cs_pc {F : Nat → Bool} {h : Nat → Nat} {all one : Nat} (h1 : ∀ a, F a = true → pc (h a) ≤ one) : ∀ (k B S U : Nat) (z : Nat × Nat), z ∈ Cs F h k B S U → pc (ad all U) ≤ k * one + pc (ad all z.2)
  | 0, B, S, U, z, hz => by
    rw [Cs, List.mem_singleton] at hz
    rw [hz]
    show pc (ad all U) ≤ 0 * one + pc (ad all U)
    omega
  | k + 1, B, S, U, z, hz => by
    rw [Cs] at hz
    obtain ⟨a, -, h2, h3⟩ := fl_m _ _ hz
    by_cases q : F a = true
    · rw [if_pos q] at h3
      have h4 := Cs_pc (all := all) h1 k a (S + 2 ^ a) _ z h3
      have h5 := h1 a q
      have h6 : pc (ad all U) ≤ pc (ad all (U ||| h a)) + pc (h a) := pc_sub fun i hi => by
        rw [ad_t] at hi
        rw [ad_t, Nat.testBit_or]
        revert hi
        cases all.testBit i <;> cases U.testBit i <;> cases (h a).testBit i <;> simp
      rw [Nat.succ_mul]
      omega
    · rw [if_neg q] at h3
      exact absurd h3 List.not_mem_nil
/-- the class's least holders -/
def o1 (o : Option Nat) : Int32 := match o with
  | some S => Int32.ofNat S
  | none => -1
theorem orx {a b : Nat} (h : b < 2 ^ a) : b ||| 2 ^ a = 2 ^ a + b := by
  have := Nat.two_pow_add_eq_or_of_lt h 1
  rw [Nat.mul_one] at this
  rw [this, Nat.or_comm]
theorem lh_ok {F : Nat → Bool} {FN all one : Nat} {hh h : Nat → Nat} {m : zv_M} (hF : ∀ a, a < 25 → FN.testBit a = F a) (h47 : ∀ s, s < 25 → m.1 47 s = Int32.ofNat (hh s)) (hall : all < 2 ^ 25) (hh1 : ∀ a, a < 25 → h a = hh a &&& all) (h1 : ∀ a, a < 25 → pc (h a) ≤ one) (hone : one ≤ 25) : ∀ (k B U n : Nat), k ≤ 4 → k < n → B ≤ 25 → (∀ i, U.testBit i = true → all.testBit i = true) → fN_leastHolders n 47 (Int32.ofNat FN) (Int32.ofNat (ad all U)) (Int32.ofNat one) (Int32.ofNat B) (Int32.ofNat k) m = some (o1 (fh all (Cs (fun a => F a && decide (a < 25)) h k B 0 U))) := by
  intro k
  induction k with
  | zero =>
    intro B U n _ hn hB hU
    obtain ⟨n, rfl⟩ : ∃ j, n = j + 1 := ⟨n - 1, by omega⟩
    have hz : (Int32.ofNat (ad all U) = 0) = (ad all U = 0) := n_eq0 (Nat.lt_of_le_of_lt (ad_le _ _) (p25 hall))
    rw [fN_leastHolders, fN_leastHolders_b, if_neg (by decide), fN_leastHolders_j16, if_pos (by decide)]
    simp only [hz]
    have he : (ad all U = 0) ↔ U = all := by
      constructor
      · intro z
        apply Nat.eq_of_testBit_eq
        intro i
        have := congrArg (fun w => w.testBit i) z
        simp only [ad_t, Nat.zero_testBit] at this
        cases e : U.testBit i
        · cases e2 : all.testBit i
          · rfl
          · rw [e, e2] at this
            cases this
        · rw [hU i e]
      · intro z
        rw [z]
        apply Nat.eq_of_testBit_eq
        intro i
        rw [ad_t, Nat.zero_testBit]
        cases all.testBit i <;> rfl
    by_cases q : U = all
    · rw [if_pos (he.mpr q), Cs, fh, List.find?_cons, decide_eq_true q]
      rfl
    · rw [if_neg (fun z => q (he.mp z)), Cs, fh, List.find?_cons, decide_eq_false q]
      rfl
  | succ k ih =>
    intro B U n hk hn hB hU
    obtain ⟨n, rfl⟩ : ∃ j, n = j + 1 := ⟨n - 1, by omega⟩
    have hneed := Nat.lt_of_le_of_lt (ad_le all U) (p25 hall)
    have hko : (k + 1) * one ≤ 4 * 25 := Nat.mul_le_mul (by omega) hone
    rw [fN_leastHolders, fN_leastHolders_b, if_pos (show (0 : Int32) < Int32.ofNat (k + 1) from (i_lt (a := 0) (by decide) (by omega)).mpr (by omega)), n_bc hneed, zb1_s, i_mu]
    by_cases q : (k + 1) * one < pc (ad all U)
    · have hno : fh all (Cs (fun a => F a && decide (a < 25)) h (k + 1) B 0 U) = none := by
        cases e : fh all (Cs (fun a => F a && decide (a < 25)) h (k + 1) B 0 U) with
        | none => rfl
        | some S =>
          obtain ⟨z, z1, z2, z3⟩ := fh_mem e
          have := Cs_pc (all := all) (one := one) (fun a ha => h1 a (of_decide_eq_true (Bool.and_eq_true _ _ |>.mp ha).2)) (k + 1) B 0 U z z1
          have h0 : ad all z.2 = 0 := by
            rw [z3]
            apply Nat.eq_of_testBit_eq
            intro i
            rw [ad_t, Nat.zero_testBit]
            cases all.testBit i <;> rfl
          rw [h0, pc_0] at this
          omega
      rw [if_pos ((i_lt (by omega) (by have := pc_le (ad all U); omega)).mpr q), fN_leastHolders_j16, if_neg (show ¬ Int32.ofNat (k + 1) = 0 from fun z => by have := (i_eq (b := 0) (by omega) (by decide)).mp z; omega), hno]
      rfl
    · rw [if_neg (fun z => q ((i_lt (by omega) (by have := pc_le (ad all U); omega)).mp z))]
      have hk1 : Int32.ofNat (k + 1) - 1 = Int32.ofNat k := i_mi (b := 1) (by omega) (by omega)
      have key : ∀ d a fu, a + d = B → d < fu → whileN fu (fN_leastHolders_l34 47 (Int32.ofNat FN) (Int32.ofNat (ad all U)) (Int32.ofNat one) (Int32.ofNat B) (Int32.ofNat (k + 1)) m (fN_leastHolders n)) (Int32.ofNat a) = some (o1 (fh all (fl (fun a => if (F a && decide (a < 25)) = true then Cs (fun a => F a && decide (a < 25)) h k a (0 + 2 ^ a) (U ||| h a) else []) a d))) := by
        intro d
        induction d with
        | zero =>
          intro a fu had hf
          obtain ⟨fu', rfl⟩ : ∃ k, fu = k + 1 := ⟨fu - 1, by omega⟩
          rw [whileN, fN_leastHolders_l34, if_neg (fun z => by have := (i_lt (by omega) (by omega)).mp z; omega)]
          rfl
        | succ d ihd =>
          intro a fu had hf
          obtain ⟨fu', rfl⟩ : ∃ k, fu = k + 1 := ⟨fu - 1, by omega⟩
          have ha25 : a < 25 := by omega
          rw [whileN, fN_leastHolders_l34, if_pos ((i_lt (by omega) (by omega)).mpr (by omega)), show zln 47 = 25 from rfl, if_pos ((i_lt (by omega) (by decide)).mpr ha25), n_isIn (by omega), decide_eq_true ha25, Bool.true_and, hF a ha25, zb1_s, if01, fl_s, fh_app, decide_eq_true ha25, Bool.and_true]
          cases hFa : F a
          · rw [if_neg (show ¬ false = true by decide), if_neg (show ¬ false = true by decide), fN_leastHolders_j92, inc]
            show whileN fu' _ _ = _
            rw [ihd (a + 1) fu' (by omega) (by omega)]
            rfl
          · have hneed2 : ad (ad all U) (hh a) = ad all (U ||| h a) := by
              apply Nat.eq_of_testBit_eq
              intro i
              rw [ad_t, ad_t, ad_t, Nat.testBit_or, hh1 a ha25, Nat.testBit_and]
              cases all.testBit i <;> cases U.testBit i <;> cases (hh a).testBit i <;> rfl
            have hU2 : ∀ i, (U ||| h a).testBit i = true → all.testBit i = true := fun i hi => by
              rw [Nat.testBit_or, hh1 a ha25, Nat.testBit_and] at hi
              rcases Bool.or_eq_true _ _ |>.mp hi with z | z
              · exact hU i z
              · exact (Bool.and_eq_true _ _ |>.mp z).2
            have e := ih a (U ||| h a) n (by omega) (by omega) (by omega) hU2
            rw [if_pos (show true = true from rfl), if_pos (show true = true from rfl), zI_n (by omega) ha25, zg_t, i_tn (by omega), h47 a ha25, n_ad, hneed2, hk1, e, zb1_s, show (0 : Nat) + 2 ^ a = 2 ^ a + 0 by omega, Cs_sh, fh_sh]
            cases hr : fh all (Cs (fun a => F a && decide (a < 25)) h k a 0 (U ||| h a)) with
            | none =>
              rw [show o1 none = (-1 : Int32) from rfl, if_pos (by decide), fN_leastHolders_j92, inc]
              show whileN fu' _ _ = _
              rw [ihd (a + 1) fu' (by omega) (by omega)]
              rfl
            | some S =>
              obtain ⟨z, z1, z2, z3⟩ := fh_mem hr
              have hS : S < 2 ^ a := by
                have := Cs_lt k a 0 _ z z1
                rw [z2] at this
                omega
              have hS2 : S < 2 ^ 25 := Nat.lt_of_lt_of_le hS (Nat.pow_le_pow_right (by decide) (by omega))
              rw [show o1 (some S) = Int32.ofNat S from rfl, if_neg (i_lt0 (p25 hS2)), n_sh a (by omega), n_or, orx hS]
              rfl
      have e := key B 0 zFU (by omega) (zn_FU (by omega))
      rw [Cs]
      exact congrArg (fun z => zb1 z (fun r => some r)) e
