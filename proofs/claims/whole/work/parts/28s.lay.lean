/-! The reference lays the board. -/
def hit (kd W s : Nat) (c : Cl) : Bool := decide (c.1 = kd) && c.2.2.1 W s
def hS (kd W : Nat) (B : List Cl) : Nat := bs (fun s => B.any (hit kd W s)) (W * W)
theorem KF_y {f : Nat} {m m' : zv_M} {E : List Int32} {A : List Cl} (hA : A.length ≤ 10) (h : KF f m E A) (hm : ∀ o k, ((75 ≤ o ∧ o ≤ 78) ∧ 10 * f ≤ k ∧ k < 10 * f + 10) ∨ (o = 79 ∧ 100 * f ≤ k ∧ k < 100 * f + 100) → m'.1 o k = m.1 o k) : KF f m' E A := by
  obtain ⟨h1, h2, h3⟩ := h
  refine ⟨fun i hi => (hm _ _ (by omega)).trans (h1 i hi), h2, fun i c hc => ?_⟩
  have hi : i < A.length := by
    rcases Nat.lt_or_ge i A.length with z | z
    · exact z
    · rw [List.getElem?_eq_none z] at hc
      cases hc
  obtain ⟨k1, k2, k3⟩ := h3 i c hc
  refine ⟨(hm _ _ (by omega)).trans k1, fun z => (hm _ _ (by omega)).trans (k2 z), fun z => ?_⟩
  obtain ⟨E1, E2, a1, a2, a3⟩ := k3 z
  exact ⟨E1, E2, a1, (hm _ _ (by omega)).trans a2, (hm _ _ (by omega)).trans a3⟩
theorem r_holds {f i W s : Nat} {m : zv_M} {E : List Int32} {B : List Cl} {c : Cl} (h : KF f m E B) (hf : f < 6) (hi : i < 10) (hc : B[i]? = some c) (hk : c.1 = 1 ∨ c.1 = 2) (hg : GE c.2.2) (h2 : 2 ≤ W) (h5 : W ≤ 5) (hs : s < 25) (e1 : m.1 68 1 = Int32.ofNat W) : ∃ m', fM_holds (Int32.ofNat (10 * f + i)) (Int32.ofNat s) m = some (bIt (c.2.2.1 W s), m') ∧ AG82 0 m m' := by
  obtain ⟨h1, hE, h3⟩ := h
  obtain ⟨-, -, k3⟩ := h3 i c hc
  obtain ⟨E1, E2, a1, a2, a3⟩ := k3 hk
  have hl : E.length = E1.length + c.2.2.2.length + E2.length := by rw [a1, List.length_append, List.length_append]
  have hcd : CD m (100 * f) (E1 ++ c.2.2.2 ++ E2) := by
    rw [← a1]
    exact h1
  obtain ⟨m', b1, b2, b3⟩ := hg.2 W s (10 * f + i) (100 * f + E1.length + c.2.2.2.length) 0 (100 * f + E1.length) m h2 h5 hs (by omega) (by omega) (CD_r (CD_l hcd)) (Nat.le_refl _) (by omega) a3 e1
  have e78' : m'.1 78 (10 * f + i) = Int32.ofNat (100 * f + E1.length + c.2.2.2.length) := (b2.2 _ _ (by omega)).trans a3
  have zb : zB (bIt (c.2.2.1 W s)) = true := by cases c.2.2.1 W s <;> decide
  refine ⟨m', ?_, b2⟩
  have e := b1 (zFU - (c.2.2.2.length + 1) + 1)
  rw [show zFU - (c.2.2.2.length + 1) + 1 + c.2.2.2.length = zFU by have := zn_FU (n := c.2.2.2.length + 1) (by omega); omega, whileN, fM_holds_l10, zI_n (by omega) (by omega), zg_t, i_tn (by omega), e78', if_neg (fun z => by have := (i_lt (by omega) (by omega)).mp z; omega), show zI 0 100 = true from rfl, zg_t, show (0 : Int32).toNatClampNeg = 0 from rfl, b3, zb, zg_t] at e
  rw [fM_holds, zI_n (by omega) (by omega), zg_t, i_tn (by omega), a2]
  show zb1 (whileN zFU _ (Int32.ofNat 0, _, m)) _ = _
  rw [e, zb1_s]
theorem r_begin {f : Nat} {m : zv_M} (hf : f < 6) (e10 : m.1 68 10 = Int32.ofNat f) : fM_begin m = some (Int32.ofNat (10 * f)) := by
  have e : (10 : Int32) * Int32.ofNat f = Int32.ofNat (10 * f) := i_mu 10 f
  rw [fM_begin, e10, if_neg (i_lt0 (by omega)), e]
theorem r_behind {f n : Nat} {m : zv_M} (hf : f < 6) (e10 : m.1 68 10 = Int32.ofNat f) (e74 : m.1 74 f = Int32.ofNat n) : fM_behind m = some (Int32.ofNat (10 * f + n)) := by
  have e : (10 : Int32) * Int32.ofNat f = Int32.ofNat (10 * f) := i_mu 10 f
  rw [fM_behind, e10, if_neg (i_lt0 (by omega)), zI_n (by omega) hf, zg_t, i_tn (by omega), e74, e, i_pl]
theorem or_2 (x y : Nat) (a b : Bool) : (x ||| (if a = true then y else 0)) ||| (if b = true then y else 0) = x ||| (if (a || b) = true then y else 0) := by
  cases a <;> cases b
  · exact Nat.or_zero _
  · show (x ||| 0) ||| y = x ||| y
    rw [Nat.or_zero]
  · exact Nat.or_zero _
  · show (x ||| y) ||| y = x ||| y
    rw [Nat.or_assoc, Nat.or_self]
/-- the memory where a board is laid -/
def MB (f W : Nat) (m : zv_M) (E : List Int32) (B : List Cl) : Prop := KF f m E B ∧ m.1 68 10 = Int32.ofNat f ∧ m.1 74 f = Int32.ofNat B.length ∧ B.length ≤ 10 ∧ m.1 68 1 = Int32.ofNat W
theorem MB_a {f W : Nat} {m m' : zv_M} {E : List Int32} {B : List Cl} (h : MB f W m E B) (ha : AG82 0 m m') : MB f W m' E B := by
  obtain ⟨h1, h2, h3, h4, h5⟩ := h
  exact ⟨KF_y h4 h1 fun o k q => ha.2 o k (by omega), (ha.2 _ _ (by omega)).trans h2, (ha.2 _ _ (by omega)).trans h3, h4, (ha.2 _ _ (by omega)).trans h5⟩
theorem tk_1 {B : List Cl} {i : Nat} {c : Cl} (hc : B[i]? = some c) : B.take (i + 1) = B.take i ++ [c] := by
  rw [List.take_succ, hc]
  rfl
theorem r_sqI {f W kd s : Nat} {m : zv_M} {E : List Int32} {B : List Cl} (h : MB f W m E B) (hg : ∀ c, c ∈ B → GCl c) (hf : f < 6) (hk : kd = 1 ∨ kd = 2) (h2 : 2 ≤ W) (h5 : W ≤ 5) (hs : s < 25) : ∃ r, whileN zFU (fM_squaresOf_l23 (Int32.ofNat kd) (Int32.ofNat s)) (Int32.ofNat (bs (fun s => B.any (hit kd W s)) s), Int32.ofNat (10 * f), m) = some r ∧ ∃ m', r = (Int32.ofNat (bs (fun s => B.any (hit kd W s)) (s + 1)), m') ∧ AG82 0 m m' := by
  have z := wn_up (fM_squaresOf_l23 (Int32.ofNat kd) (Int32.ofNat s)) (fun i (m : zv_M) => (Int32.ofNat (bs (fun s => B.any (hit kd W s)) s ||| (if (B.take i).any (hit kd W s) = true then 2 ^ s else 0)), Int32.ofNat (10 * f + i), m)) B.length (fun _ m' => AG82 0 m m') (fun r => ∃ m', r = (Int32.ofNat (bs (fun s => B.any (hit kd W s)) (s + 1)), m') ∧ AG82 0 m m') (by have := h.2.2.2.1; omega) (fun i m' hi ha => by
    obtain ⟨k1, k2, k3, k4, k5⟩ := MB_a h ha
    obtain ⟨c, hc⟩ : ∃ c, B[i]? = some c := ⟨B[i], List.getElem?_eq_getElem hi⟩
    have hcg := hg c (List.mem_of_getElem? hc)
    obtain ⟨c1, -, -⟩ := k1.2.2 i c hc
    have eq : (Int32.ofNat c.1 = Int32.ofNat kd) = (c.1 = kd) := propext (i_eq (by have := hcg.1; omega) (by omega))
    have st : (B.take (i + 1)).any (hit kd W s) = ((B.take i).any (hit kd W s) || hit kd W s c) := by
      rw [tk_1 hc, List.any_append]
      congr 1
      exact Bool.or_false _
    have pre : fM_squaresOf_l23 (Int32.ofNat kd) (Int32.ofNat s) (Int32.ofNat (bs (fun s => B.any (hit kd W s)) s ||| (if (B.take i).any (hit kd W s) = true then 2 ^ s else 0)), Int32.ofNat (10 * f + i), m') = if c.1 = kd then zb2 (fM_holds (Int32.ofNat (10 * f + i)) (Int32.ofNat s) m') (fun r18 m19 => if r18 = 0 then fM_squaresOf_j60 (Int32.ofNat (bs (fun s => B.any (hit kd W s)) s ||| (if (B.take i).any (hit kd W s) = true then 2 ^ s else 0))) (Int32.ofNat (10 * f + i)) m19 else fM_squaresOf_j61 (Int32.ofNat (bs (fun s => B.any (hit kd W s)) s ||| (if (B.take i).any (hit kd W s) = true then 2 ^ s else 0))) (Int32.ofNat (10 * f + i)) (1 <<< (Int32.ofNat s &&& 31)) m19) else fM_squaresOf_j60 (Int32.ofNat (bs (fun s => B.any (hit kd W s)) s ||| (if (B.take i).any (hit kd W s) = true then 2 ^ s else 0))) (Int32.ofNat (10 * f + i)) m' := by
      rw [fM_squaresOf_l23, r_behind hf k2 k3, zb1_s, if_pos ((i_lt (by omega) (by omega)).mpr (by omega)), zI_n (by omega) (by omega), zg_t, i_tn (by omega), c1]
      simp only [eq]
    show ∃ x', fM_squaresOf_l23 _ _ (_, _, _) = _ ∧ _
    rw [pre]
    by_cases q : c.1 = kd
    · obtain ⟨m2, b1, b2⟩ := r_holds k1 hf (by omega) hc (by omega) (hcg.2.2 (by omega)) h2 h5 hs k5
      have hh : hit kd W s c = c.2.2.1 W s := by rw [hit, decide_eq_true q, Bool.true_and]
      refine ⟨m2, ?_, AG82_t (Nat.le_refl 0) ha b2⟩
      rw [if_pos q, b1, zb2_s, st, ← or_2, hh]
      simp only [bI_n, fM_squaresOf_j60, fM_squaresOf_j61]
      rw [n_sh s (by omega), inc]
      cases c.2.2.1 W s
      · rw [if_pos rfl, if_neg (show ¬ false = true by decide), Nat.or_zero]
        rw [show ∀ x : Nat, Int32.ofNat x ||| 0 = Int32.ofNat x from fun x => (n_or x 0).trans (congrArg Int32.ofNat (Nat.or_zero x))]
        rfl
      · rw [if_neg (by decide), if_pos rfl, n_or]
        rfl
    · have hh : hit kd W s c = false := by rw [hit, decide_eq_false q, Bool.false_and]
      refine ⟨m', ?_, ha⟩
      rw [if_neg q, st, ← or_2, hh, fM_squaresOf_j60, inc, if_neg (show ¬ false = true by decide), Nat.or_zero, show ∀ x : Nat, Int32.ofNat x ||| 0 = Int32.ofNat x from fun x => (n_or x 0).trans (congrArg Int32.ofNat (Nat.or_zero x))]
      rfl) (fun m' ha => by
    obtain ⟨k1, k2, k3, k4, k5⟩ := MB_a h ha
    refine ⟨(Int32.ofNat (bs (fun s => B.any (hit kd W s)) (s + 1)), m'), ?_, m', rfl, ha⟩
    show fM_squaresOf_l23 _ _ (_, _, _) = _
    rw [fM_squaresOf_l23, r_behind hf k2 k3, zb1_s, if_neg (fun z => by have := (i_lt (by omega) (by omega)).mp z; omega), List.take_length, bs_s]) m ⟨rfl, fun _ _ _ => rfl⟩
  obtain ⟨r, e, m', e2, e3⟩ := z
  refine ⟨r, ?_, m', e2, e3⟩
  have e : whileN zFU (fM_squaresOf_l23 (Int32.ofNat kd) (Int32.ofNat s)) (Int32.ofNat (bs (fun s => B.any (hit kd W s)) s ||| (if ([] : List Cl).any (hit kd W s) = true then 2 ^ s else 0)), Int32.ofNat (10 * f + 0), m) = some r := e
  rw [show (if ([] : List Cl).any (hit kd W s) = true then 2 ^ s else 0) = 0 from rfl, Nat.or_zero] at e
  exact e
theorem r_sq {f W kd : Nat} {m : zv_M} {E : List Int32} {B : List Cl} (h : MB f W m E B) (hg : ∀ c, c ∈ B → GCl c) (hf : f < 6) (hk : kd = 1 ∨ kd = 2) (h2 : 2 ≤ W) (h5 : W ≤ 5) : ∃ m', fM_squaresOf (Int32.ofNat kd) m = some (Int32.ofNat (hS kd W B), m') ∧ AG82 0 m m' := by
  have hWW : W * W ≤ 5 * 5 := Nat.mul_le_mul h5 h5
  obtain ⟨r, e, m', e2, e3⟩ := wn_up (fM_squaresOf_l4 (Int32.ofNat kd)) (fun s (m : zv_M) => (Int32.ofNat (bs (fun s => B.any (hit kd W s)) s), Int32.ofNat s, m)) (W * W) (fun _ m' => AG82 0 m m') (fun r => ∃ m', r = (Int32.ofNat (hS kd W B), m') ∧ AG82 0 m m') (by omega) (fun s m' hs ha => by
    have hM := MB_a h ha
    obtain ⟨r, e, m2, e2, e3⟩ := r_sqI (s := s) hM hg hf hk h2 h5 (by omega)
    subst e2
    refine ⟨m2, ?_, AG82_t (Nat.le_refl 0) ha e3⟩
    show fM_squaresOf_l4 _ (_, _, _) = _
    rw [fM_squaresOf_l4, hM.2.2.2.2, i_mu, if_pos ((i_lt (by omega) (by omega)).mpr hs), r_begin hf hM.2.1, zb1_s, e, zb1_s, inc]) (fun m' ha => by
    have hM := MB_a h ha
    refine ⟨(Int32.ofNat (hS kd W B), m'), ?_, m', rfl, ha⟩
    show fM_squaresOf_l4 _ (_, _, _) = _
    rw [fM_squaresOf_l4, hM.2.2.2.2, i_mu, if_neg (fun z => by have := (i_lt (by omega) (by omega)).mp z; omega)]
    rfl) m ⟨rfl, fun _ _ _ => rfl⟩
  subst e2
  have e : whileN zFU (fM_squaresOf_l4 (Int32.ofNat kd)) (0, 0, m) = some (Int32.ofNat (hS kd W B), m') := e
  exact ⟨m', by rw [fM_squaresOf, e, zb1_s], e3⟩
theorem fo_1 (W W' : Nat) : ∀ (B : List Cl) (s s' : S4), s.1 = s'.1 → s.2.1 = s'.2.1 → (B.foldl (apC W) s).1 = (B.foldl (apC W') s').1 ∧ (B.foldl (apC W) s).2.1 = (B.foldl (apC W') s').2.1
  | [], s, s', h1, h2 => ⟨h1, h2⟩
  | c :: B, s, s', h1, h2 => by
    rw [List.foldl_cons, List.foldl_cons]
    refine fo_1 W W' B _ _ ?_ ?_
    · unfold apC
      repeat' split
      all_goals first | rfl | exact h1
    · unfold apC
      repeat' split
      all_goals first | rfl | exact h2
theorem fo_r (W : Nat) : ∀ (B : List Cl) (s : S4), 2 ≤ s.1 ∧ s.1 ≤ 5 ∧ s.2.1 ≤ 1 → 2 ≤ (B.foldl (apC W) s).1 ∧ (B.foldl (apC W) s).1 ≤ 5 ∧ (B.foldl (apC W) s).2.1 ≤ 1
  | [], s, h => h
  | c :: B, s, h => by
    rw [List.foldl_cons]
    refine fo_r W B _ ?_
    unfold apC
    repeat' split
    · exact ⟨by show 2 ≤ min (max c.2.1 2) 5; omega, by show min (max c.2.1 2) 5 ≤ 5; omega, h.2.2⟩
    · exact h
    · exact h
    · exact ⟨h.1, h.2.1, Nat.le_refl 1⟩
    · exact ⟨h.1, h.2.1, Nat.zero_le 1⟩
theorem hS_c (kd W : Nat) (c : Cl) (B : List Cl) : hS kd W (c :: B) = (if c.1 = kd then evS W c.2.2 else 0) ||| hS kd W B := by
  apply Nat.eq_of_testBit_eq
  intro i
  rw [Nat.testBit_or, hS, bs_t, hS, bs_t, List.any_cons]
  by_cases q : c.1 = kd
  · rw [if_pos q, evS_t, hit, decide_eq_true q, Bool.true_and]
    cases decide (i < W * W) <;> rfl
  · rw [if_neg q, Nat.zero_testBit, hit, decide_eq_false q, Bool.false_and, Bool.false_or, Bool.false_or]
theorem fo_H (W : Nat) : ∀ (B : List Cl) (s : S4), (B.foldl (apC W) s).2.2.1 = s.2.2.1 ||| hS 1 W B ∧ (B.foldl (apC W) s).2.2.2 = s.2.2.2 ||| hS 2 W B
  | [], s => by
    have h : ∀ kd, hS kd W [] = 0 := fun kd => by
      apply Nat.eq_of_testBit_eq
      intro i
      rw [hS, bs_t, Nat.zero_testBit]
      exact Bool.and_false _
    rw [h, h, Nat.or_zero, Nat.or_zero]
    exact ⟨rfl, rfl⟩
  | c :: B, s => by
    obtain ⟨a1, a2⟩ := fo_H W B (apC W s c)
    rw [List.foldl_cons, a1, a2, hS_c, hS_c, ← Nat.or_assoc, ← Nat.or_assoc]
    unfold apC
    by_cases q0 : c.1 = 0
    · rw [if_pos q0, if_neg (by omega), if_neg (by omega), Nat.or_zero, Nat.or_zero]
      exact ⟨rfl, rfl⟩
    by_cases q1 : c.1 = 1
    · rw [if_neg q0, if_pos q1, if_pos q1, if_neg (by omega), Nat.or_zero]
      exact ⟨rfl, rfl⟩
    by_cases q2 : c.1 = 2
    · rw [if_neg q0, if_neg q1, if_pos q2, if_neg q1, if_pos q2, Nat.or_zero]
      exact ⟨rfl, rfl⟩
    by_cases q3 : c.1 = 3
    · rw [if_neg q0, if_neg q1, if_neg q2, if_pos q3, if_neg q1, if_neg q2, Nat.or_zero, Nat.or_zero]
      exact ⟨rfl, rfl⟩
    · rw [if_neg q0, if_neg q1, if_neg q2, if_neg q3, if_neg q1, if_neg q2, Nat.or_zero, Nat.or_zero]
      exact ⟨rfl, rfl⟩
