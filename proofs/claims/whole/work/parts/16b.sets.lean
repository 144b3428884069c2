/-! Sets of squares as natural numbers: square k is in a, if a.testBit k. -/
theorem wn_eq {σ ρ : Type} (f : σ → Option (σ ⊕ ρ)) (st : Nat → σ) (N : Nat) (r : ρ) (hN : N < 1000000000) (step : ∀ i, i < N → f (st i) = some (.inl (st (i + 1)))) (last : f (st N) = some (.inr r)) : whileN zFU f (st 0) = some r := by
  obtain ⟨r', e, q⟩ := wn_up f (fun i (_ : Unit) => st i) N (fun _ _ => True) (fun x => x = r) hN (fun i x hi _ => ⟨(), step i hi, trivial⟩) (fun x _ => ⟨r, last, rfl⟩) () trivial
  rw [e, q]
theorem bt_n (a : Nat) {i : Nat} (hi : i < 32) : bt (Int32.ofNat a) i = a.testBit i := by
  show (BitVec.ofNat 32 a).getLsbD i = _
  rw [BitVec.getLsbD_ofNat, decide_eq_true hi, Bool.true_and]
theorem n_and (a b : Nat) : Int32.ofNat a &&& Int32.ofNat b = Int32.ofNat (a &&& b) := nx_and a b
theorem n_or (a b : Nat) : Int32.ofNat a ||| Int32.ofNat b = Int32.ofNat (a ||| b) := by
  apply b_ext
  intro i hi
  rw [b_or, bt_n _ hi, bt_n _ hi, bt_n _ hi, Nat.testBit_or]
def ad (a b : Nat) : Nat := a ^^^ (a &&& b)
theorem ad_t (a b i : Nat) : (ad a b).testBit i = (a.testBit i && !b.testBit i) := by
  unfold ad
  rw [Nat.testBit_xor, Nat.testBit_and]
  cases a.testBit i <;> cases b.testBit i <;> rfl
theorem n_ad (a b : Nat) : Int32.ofNat a &&& (Int32.ofNat b ^^^ (-1)) = Int32.ofNat (ad a b) := by
  apply b_ext
  intro i hi
  rw [b_and, b_xor, b_m1 i hi, bt_n _ hi, bt_n _ hi, bt_n _ hi, ad_t]
  cases a.testBit i <;> cases b.testBit i <;> rfl
theorem n_sh : ∀ s, s < 31 → (1 : Int32) <<< (Int32.ofNat s &&& 31) = Int32.ofNat (2 ^ s) := by decide +kernel
theorem b_1 : ∀ i, i < 32 → bt 1 i = decide (i = 0) := by decide +kernel
theorem n_bit {a s : Nat} (hs : s < 31) : (Int32.ofNat a >>> (Int32.ofNat s &&& 31)) &&& 1 = if a.testBit s = true then 1 else 0 := by
  apply b_ext
  intro i hi
  have e := b_sshr s (by omega) (Int32.ofNat a) hi
  rw [b_and, b_1 i hi, show (Int32.ofNat a >>> (Int32.ofNat s &&& 31)) = (Int32.ofNat a >>> (nI s &&& 31)) from rfl, e]
  by_cases q : i = 0
  · subst q
    rw [if_pos (by omega), bt_n _ (by omega)]
    cases h : a.testBit s
    · rfl
    · rfl
  · rw [decide_eq_false q, Bool.and_false]
    split
    · rw [b_1 i hi, decide_eq_false q]
    · rw [b_0]
theorem n_ush {n k : Nat} (hn : n < 2147483648) (hk : k < 32) : ((Int32.ofNat n).toUInt32 >>> ((Int32.ofNat k).toUInt32 &&& Int32.toUInt32 31)).toInt32 = Int32.ofNat (n / 2 ^ k) := by
  apply b_ext
  intro i hi
  have e := b_ushr k hk (Int32.ofNat n) i
  rw [bt_n _ hi, Nat.testBit_div_two_pow]
  refine e.trans ?_
  rcases Nat.lt_or_ge (k + i) 32 with q | q
  · rw [bt_n _ q, Nat.add_comm]
  · rw [b_big q, Nat.testBit_lt_two_pow]
    exact Nat.lt_of_lt_of_le (show n < 2 ^ 31 from hn) (Nat.pow_le_pow_right (by decide) (by omega))
theorem n_isIn {a s : Nat} (hs : s < 2147483648) : fN_isIn (Int32.ofNat a) (Int32.ofNat s) = some (if (decide (s < 25) && a.testBit s) = true then 1 else 0) := by
  rw [fN_isIn, if_neg (i_lt0 hs)]
  by_cases h : s < 25
  · rw [if_pos (show Int32.ofNat s < 25 from (i_lt (b := 25) hs (by decide)).mpr h), n_bit (by omega), decide_eq_true h, Bool.true_and]
    cases a.testBit s <;> rfl
  · rw [if_neg (show ¬ Int32.ofNat s < 25 from fun q => h ((i_lt (b := 25) hs (by decide)).mp q)), decide_eq_false h]
    rfl
theorem n_has {a s : Nat} (hs : s < 31) : fM_has (Int32.ofNat a) (Int32.ofNat s) = some (if a.testBit s = true then 1 else 0) := by
  rw [fM_has, n_bit hs]
  cases a.testBit s <;> rfl
/-- sets from properties -/
def bs (p : Nat → Bool) : Nat → Nat
  | 0 => 0
  | n + 1 => bs p n ||| (if p n = true then 2 ^ n else 0)
theorem bs_s (p : Nat → Bool) (n : Nat) : bs p (n + 1) = bs p n ||| (if p n = true then 2 ^ n else 0) := rfl
theorem bs_t (p : Nat → Bool) : ∀ n i, (bs p n).testBit i = (decide (i < n) && p i)
  | 0, i => by simp [bs]
  | n + 1, i => by
    rw [bs_s, Nat.testBit_or, bs_t p n i]
    have e : (if p n = true then 2 ^ n else 0).testBit i = (decide (n = i) && p n) := by
      cases p n
      · simp
      · simp [Nat.testBit_two_pow]
    rw [e]
    by_cases h : n = i
    · subst h
      simp
    · have h1 : decide (i < n + 1) = decide (i < n) := by
        apply decide_eq_decide.mpr
        omega
      rw [h1, decide_eq_false h, Bool.false_and, Bool.or_false]
theorem bs_lt (p : Nat → Bool) (n : Nat) : bs p n < 2 ^ n := by
  induction n with
  | zero => exact Nat.one_pos
  | succ n ih =>
    rw [bs_s]
    apply Nat.or_lt_two_pow
    · exact Nat.lt_of_lt_of_le ih (Nat.pow_le_pow_right (by decide) (by omega))
    · split
      · exact Nat.pow_lt_pow_right (by decide) (by omega)
      · exact Nat.pow_pos (by decide)
theorem sx {a b N : Nat} (ha : a < 2 ^ N) (hb : b < 2 ^ N) (h : ∀ i, i < N → a.testBit i = b.testBit i) : a = b := by
  apply Nat.eq_of_testBit_eq
  intro i
  rcases Nat.lt_or_ge i N with q | q
  · exact h i q
  · rw [Nat.testBit_lt_two_pow (Nat.lt_of_lt_of_le ha (Nat.pow_le_pow_right (by decide) q)), Nat.testBit_lt_two_pow (Nat.lt_of_lt_of_le hb (Nat.pow_le_pow_right (by decide) q))]
theorem tb_hi {a N i : Nat} (ha : a < 2 ^ N) (q : N ≤ i) : a.testBit i = false := Nat.testBit_lt_two_pow (Nat.lt_of_lt_of_le ha (Nat.pow_le_pow_right (by decide) q))
theorem bs_of {a n : Nat} (h : a < 2 ^ n) : bs a.testBit n = a := sx (bs_lt _ _) h fun i hi => by rw [bs_t, decide_eq_true hi, Bool.true_and]
theorem bs_c {p q : Nat → Bool} {n : Nat} (h : ∀ i, i < n → p i = q i) : bs p n = bs q n := sx (bs_lt _ _) (bs_lt _ _) fun i hi => by rw [bs_t, bs_t, h i hi]
theorem bs_w {p : Nat → Bool} {n N : Nat} (hn : n ≤ N) (h : ∀ i, n ≤ i → i < N → p i = false) : bs p n = bs p N := sx (N := N) (Nat.lt_of_lt_of_le (bs_lt p n) (Nat.pow_le_pow_right (by decide) hn)) (bs_lt _ _) fun i hi => by
  rw [bs_t, bs_t, decide_eq_true hi]
  rcases Nat.lt_or_ge i n with q | q
  · rw [decide_eq_true q]
  · rw [h i q hi]; simp
theorem p25 {a : Nat} (h : a < 2 ^ 25) : a < 2147483648 := Nat.lt_trans h (by decide)
/-- a loop's step that sets a bit, or not -/
theorem n_put (p : Nat → Bool) (n : Nat) (h : p n = true) (hn : n < 31) : Int32.ofNat (bs p n) ||| (1 : Int32) <<< (Int32.ofNat n &&& 31) = Int32.ofNat (bs p (n + 1)) := by
  rw [n_sh n hn, n_or, bs_s, if_pos h]
theorem n_puf (p : Nat → Bool) (n : Nat) (h : p n = false) : bs p (n + 1) = bs p n := by
  rw [bs_s, h]
  simp
/-- how many are in a set -/
def pc (a : Nat) : Nat := fb_ct a.testBit 32
theorem pc_n {a n : Nat} (h : a < 2 ^ n) (hn : n ≤ 32) : pc a = fb_ct a.testBit n := by
  have e := fb_ct_split a.testBit n (32 - n)
  rw [Nat.add_sub_cancel' hn] at e
  have z : fb_ct (fun k => a.testBit (n + k)) (32 - n) = 0 := fb_ct_zero.mpr (fun k _ => tb_hi (i := n + k) h (by omega))
  rw [pc, e, z, Nat.add_zero]
theorem pc_le (a : Nat) : pc a ≤ 32 := fb_ct_le _ _
theorem and256 {a b c d : Nat} (hb : b < 256) (hd : d < 256) : (256 * a + b) &&& (256 * c + d) = 256 * (a &&& c) + (b &&& d) := by
  apply Nat.eq_of_testBit_eq
  intro j
  have hb' : b < 2 ^ 8 := hb
  have hd' : d < 2 ^ 8 := hd
  have hbd : b &&& d < 2 ^ 8 := Nat.and_lt_two_pow _ hd'
  rw [Nat.testBit_and, show 256 = 2 ^ 8 from rfl, Nat.testBit_two_pow_mul_add _ hb', Nat.testBit_two_pow_mul_add _ hd', Nat.testBit_two_pow_mul_add _ hbd]
  split
  · rw [Nat.testBit_and]
  · rw [Nat.testBit_and]
def pq1 (n c : Nat) : Nat := n - (n / 2 &&& c)
def pq2 (n c : Nat) : Nat := (n &&& c) + (n / 4 &&& c)
def pq3 (n c : Nat) : Nat := (n + n / 16) &&& c
theorem pk1 : ∀ r, r < 2 → ∀ b, b < 256 → (128 * r + b / 2) &&& 85 = b / 2 &&& 85 := by decide +kernel
theorem pk2 : ∀ r, r < 4 → ∀ b, b < 256 → (64 * r + b / 4) &&& 51 = b / 4 &&& 51 := by decide +kernel
theorem pk3 : ∀ r, r < 5 → ∀ b, b < 69 → (b + b / 16 + 16 * r) &&& 15 = (b + b / 16) &&& 15 := by decide +kernel
def ph (b : Nat) : Nat := pq2 (pq1 b 85) 51
theorem pkh : ∀ b, b < 256 → pq1 b 85 < 256 ∧ ph b < 69 ∧ ph b % 16 < 5 ∧ pq3 (ph b) 15 = fb_ct b.testBit 8 := by decide +kernel
theorem pr1 {a b c : Nat} (hb : b < 256) : pq1 (256 * a + b) (256 * c + 85) = 256 * pq1 a c + pq1 b 85 := by
  have e : (256 * a + b) / 2 = 256 * (a / 2) + (128 * (a % 2) + b / 2) := by omega
  have h1 : a / 2 &&& c ≤ a / 2 := Nat.and_le_left
  have h2 : b / 2 &&& 85 ≤ b / 2 := Nat.and_le_left
  rw [pq1, pq1, pq1, e, and256 (by omega) (by decide), pk1 _ (by omega) b hb]
  omega
theorem pr2 {a b c : Nat} (hb : b < 256) : pq2 (256 * a + b) (256 * c + 51) = 256 * pq2 a c + pq2 b 51 := by
  have e : (256 * a + b) / 4 = 256 * (a / 4) + (64 * (a % 4) + b / 4) := by omega
  rw [pq2, pq2, pq2, e, and256 hb (by decide), and256 (by omega) (by decide), pk2 _ (by omega) b hb]
  omega
theorem pr3 {a b c : Nat} (hb : b < 69) (ha : a % 16 < 5) : pq3 (256 * a + b) (256 * c + 15) = 256 * pq3 a c + pq3 b 15 := by
  have e : 256 * a + b + (256 * a + b) / 16 = 256 * (a + a / 16) + (b + b / 16 + 16 * (a % 16)) := by omega
  rw [pq3, pq3, pq3, e, and256 (by omega) (by decide), pk3 _ ha b hb]
theorem pcs {a b k : Nat} (hb : b < 256) : fb_ct (256 * a + b).testBit (8 + k) = fb_ct b.testBit 8 + fb_ct a.testBit k := by
  have hb' : b < 2 ^ 8 := hb
  rw [fb_ct_split]
  congr 1
  · apply fb_ct_cong
    intro i hi
    rw [show 256 = 2 ^ 8 from rfl, Nat.testBit_two_pow_mul_add _ hb', if_pos hi]
  · apply fb_ct_cong
    intro i _
    rw [show 256 = 2 ^ 8 from rfl, Nat.testBit_two_pow_mul_add _ hb', if_neg (by omega)]
    congr 1
    omega
theorem n_bc {n : Nat} (hn : n < 2147483648) : fJ_bitCount (Int32.ofNat n) = some (Int32.ofNat (pc n)) := by
  obtain ⟨b0, b1, b2, b3, h0, h1, h2, h3, rfl⟩ : ∃ b0 b1 b2 b3 : Nat, b0 < 256 ∧ b1 < 256 ∧ b2 < 256 ∧ b3 < 256 ∧ n = 256 * (256 * (256 * b3 + b2) + b1) + b0 := ⟨n % 256, n / 256 % 256, n / 65536 % 256, n / 16777216, by omega, by omega, by omega, by omega, by omega⟩
  generalize hN : 256 * (256 * (256 * b3 + b2) + b1) + b0 = N at hn
  have m1 : (1431655765 : Int32) = Int32.ofNat 1431655765 := rfl
  have m2 : (858993459 : Int32) = Int32.ofNat 858993459 := rfl
  have m3 : (252645135 : Int32) = Int32.ofNat 252645135 := rfl
  have k1 : pq1 N 1431655765 = 256 * (256 * (256 * pq1 b3 85 + pq1 b2 85) + pq1 b1 85) + pq1 b0 85 := by
    rw [← hN, show 1431655765 = 256 * (256 * (256 * 85 + 85) + 85) + 85 from rfl, pr1 h0, pr1 h1, pr1 h2]
  have k2 : pq2 (pq1 N 1431655765) 858993459 = 256 * (256 * (256 * ph b3 + ph b2) + ph b1) + ph b0 := by
    rw [k1, show 858993459 = 256 * (256 * (256 * 51 + 51) + 51) + 51 from rfl, pr2 (pkh b0 h0).1, pr2 (pkh b1 h1).1, pr2 (pkh b2 h2).1]
    rfl
  obtain ⟨-, q0, r0, s0⟩ := pkh b0 h0
  obtain ⟨-, q1, r1, s1⟩ := pkh b1 h1
  obtain ⟨-, q2, r2, s2⟩ := pkh b2 h2
  obtain ⟨-, q3, r3, s3⟩ := pkh b3 h3
  have k3 : pq3 (pq2 (pq1 N 1431655765) 858993459) 252645135 = 256 * (256 * (256 * fb_ct b3.testBit 8 + fb_ct b2.testBit 8) + fb_ct b1.testBit 8) + fb_ct b0.testBit 8 := by
    rw [k2, show 252645135 = 256 * (256 * (256 * 15 + 15) + 15) + 15 from rfl, pr3 q0 (by omega), pr3 q1 (by omega), pr3 q2 (by omega), s0, s1, s2, s3]
  have k4 : pc N = fb_ct b0.testBit 8 + (fb_ct b1.testBit 8 + (fb_ct b2.testBit 8 + fb_ct b3.testBit 8)) := by
    rw [pc, ← hN, show 32 = 8 + 24 from rfl, pcs h0, show 24 = 8 + 16 from rfl, pcs h1, show 16 = 8 + 8 from rfl, pcs h2]
  have c0 := fb_ct_le b0.testBit 8
  have c1 := fb_ct_le b1.testBit 8
  have c2 := fb_ct_le b2.testBit 8
  have c3 := fb_ct_le b3.testBit 8
  generalize fb_ct b0.testBit 8 = z0 at *
  generalize fb_ct b1.testBit 8 = z1 at *
  generalize fb_ct b2.testBit 8 = z2 at *
  generalize fb_ct b3.testBit 8 = z3 at *
  have u1 : pq1 N 1431655765 ≤ N := Nat.sub_le _ _
  have u2 : pq2 (pq1 N 1431655765) 858993459 < 2147483648 := by
    rw [k2]
    omega
  have e1 : ((Int32.ofNat N).toUInt32 >>> ((1 : Int32).toUInt32 &&& Int32.toUInt32 31)).toInt32 = Int32.ofNat (N / 2) := n_ush (k := 1) hn (by decide)
  have l1 : N / 2 &&& 1431655765 ≤ N / 2 := Nat.and_le_left
  rw [fJ_bitCount, e1, m1, n_and, i_mi (by omega) hn, zlet, show N - (N / 2 &&& 1431655765) = pq1 N 1431655765 from rfl]
  have e2 : ((Int32.ofNat (pq1 N 1431655765)).toUInt32 >>> ((2 : Int32).toUInt32 &&& Int32.toUInt32 31)).toInt32 = Int32.ofNat (pq1 N 1431655765 / 4) := n_ush (k := 2) (by omega) (by decide)
  rw [e2, m2, n_and, n_and, i_pl, zlet, show (pq1 N 1431655765 &&& 858993459) + (pq1 N 1431655765 / 4 &&& 858993459) = pq2 (pq1 N 1431655765) 858993459 from rfl]
  have e3 : ((Int32.ofNat (pq2 (pq1 N 1431655765) 858993459)).toUInt32 >>> ((4 : Int32).toUInt32 &&& Int32.toUInt32 31)).toInt32 = Int32.ofNat (pq2 (pq1 N 1431655765) 858993459 / 16) := n_ush (k := 4) u2 (by decide)
  rw [e3, m3, i_pl, n_and, zlet, show (pq2 (pq1 N 1431655765) 858993459 + pq2 (pq1 N 1431655765) 858993459 / 16) &&& 252645135 = pq3 (pq2 (pq1 N 1431655765) 858993459) 252645135 from rfl, k3]
  generalize hx : 256 * (256 * (256 * z3 + z2) + z1) + z0 = X
  have e4 : ((Int32.ofNat X).toUInt32 >>> ((8 : Int32).toUInt32 &&& Int32.toUInt32 31)).toInt32 = Int32.ofNat (X / 256) := n_ush (k := 8) (by omega) (by decide)
  rw [e4, i_pl, zlet]
  have e5 : ((Int32.ofNat (X + X / 256)).toUInt32 >>> ((16 : Int32).toUInt32 &&& Int32.toUInt32 31)).toInt32 = Int32.ofNat ((X + X / 256) / 65536) := n_ush (k := 16) (by omega) (by decide)
  rw [e5, i_pl, zlet, show (63 : Int32) = Int32.ofNat (2 ^ 6 - 1) from rfl, n_and, Nat.and_two_pow_sub_one_eq_mod]
  congr 2
  have v1 : X / 256 = 256 * (256 * z3 + z2) + z1 := by omega
  have v2 : (X + X / 256) / 65536 = 256 * z3 + (z3 + z2) := by omega
  rw [v2, k4]
  omega
/-- the lowest of a set, and the set without it -/
theorem n_low : ∀ n : Nat, 0 < n → ∃ j q : Nat, n = 2 ^ j * (2 * q + 1) := by
  intro n
  induction n using Nat.strongRecOn with
  | _ n ih =>
    intro h
    rcases Nat.mod_two_eq_zero_or_one n with e | e
    · obtain ⟨j, q, hq⟩ := ih (n / 2) (by omega) (by omega)
      refine ⟨j + 1, q, ?_⟩
      rw [Nat.pow_succ, Nat.mul_comm (2 ^ j) 2, Nat.mul_assoc, ← hq]
      omega
    · exact ⟨0, n / 2, by omega⟩
theorem n_lo {n : Nat} (h : 0 < n) : ∃ j, n.testBit j = true ∧ (∀ i, i < j → n.testBit i = false) ∧ ∀ i, (n &&& (n - 1)).testBit i = (n.testBit i && !decide (i = j)) := by
  obtain ⟨j, q, rfl⟩ := n_low n h
  have hp : 0 < 2 ^ j := Nat.pow_pos (by decide)
  have t : ∀ i, (2 ^ j * (2 * q + 1)).testBit i = if i < j then false else (2 * q + 1).testBit (i - j) := fun i => by
    have := Nat.testBit_two_pow_mul_add (2 * q + 1) hp i
    rw [Nat.add_zero] at this
    rw [this, Nat.zero_testBit]
  have e : 2 ^ j * (2 * q + 1) - 1 = 2 ^ j * (2 * q) + (2 ^ j - 1) := by
    rw [Nat.mul_add, Nat.mul_one]
    omega
  have t2 : ∀ i, (2 ^ j * (2 * q + 1) - 1).testBit i = if i < j then (2 ^ j - 1).testBit i else (2 * q).testBit (i - j) := fun i => by
    rw [e]
    exact Nat.testBit_two_pow_mul_add (2 * q) (Nat.sub_lt hp (by decide)) i
  refine ⟨j, ?_, fun i hi => ?_, fun i => ?_⟩
  · rw [t, if_neg (by omega), Nat.sub_self]
    simp
  · rw [t, if_pos hi]
  · rw [Nat.testBit_and, t, t2]
    by_cases h1 : i < j
    · rw [if_pos h1]
      simp
    · rw [if_neg h1, if_neg h1]
      by_cases h2 : i = j
      · subst h2
        simp
      · obtain ⟨k, hk⟩ : ∃ k, i - j = k + 1 := ⟨i - j - 1, by omega⟩
        have a1 : (2 * q + 1) / 2 = q := by omega
        have a2 : 2 * q / 2 = q := by omega
        rw [hk, decide_eq_false h2, Nat.testBit_succ, Nat.testBit_succ, a1, a2]
        cases q.testBit k <;> rfl
theorem pc_lo {n : Nat} (h : 0 < n) (hn : n < 2147483648) : pc (n &&& (n - 1)) + 1 = pc n := by
  obtain ⟨j, h1, h2, h3⟩ := n_lo h
  have hj : j < 32 := by
    rcases Nat.lt_or_ge j 32 with q | q
    · exact q
    · rw [tb_hi (N := 31) hn (by omega)] at h1
      cases h1
  have e := fb_ct_upd n.testBit false hj
  rw [h1] at e
  have e' : fb_ct (fun k => if k = j then false else n.testBit k) 32 + 1 = fb_ct n.testBit 32 := e
  rw [pc, pc, ← e']
  congr 1
  apply fb_ct_cong
  intro k _
  rw [h3]
  by_cases q : k = j
  · rw [if_pos q, decide_eq_true q]; simp
  · rw [if_neg q, decide_eq_false q]; simp
theorem and_lt {a b : Nat} {N : Nat} (h : a < N) : a &&& b < N := Nat.lt_of_le_of_lt Nat.and_le_left h
theorem ad_le (a b : Nat) : ad a b ≤ a := by
  have h1 : ad a b = a &&& ad a b := by
    apply Nat.eq_of_testBit_eq
    intro i
    rw [Nat.testBit_and, ad_t]
    cases a.testBit i <;> rfl
  rw [h1]
  exact Nat.and_le_left
theorem ad_lt {a b : Nat} {N : Nat} (h : a < N) : ad a b < N := Nat.lt_of_le_of_lt (ad_le a b) h
theorem n_one (n : Nat) (h0 : 0 < n) (hn : n < 2147483648) : Int32.ofNat n - 1 = Int32.ofNat (n - 1) := i_mi (b := 1) h0 hn
theorem pc_z {n : Nat} (h : pc n = 0) (hn : n < 2147483648) : n = 0 := by
  rcases Nat.eq_zero_or_pos n with q | q
  · exact q
  · have := pc_lo q hn
    omega
theorem pc_0 : pc 0 = 0 := by
  rw [pc]
  exact fb_ct_zero.mpr fun k _ => Nat.zero_testBit k
theorem n_ones {n : Nat} (hn : n < 2147483648) : fM_ones (Int32.ofNat n) = some (Int32.ofNat (pc n)) := by
  have key : ∀ (k n c fu : Nat), n < 2147483648 → pc n = k → k < fu → c + k < 1000 → whileN fu fM_ones_l4 (Int32.ofNat c, Int32.ofNat n) = some (Int32.ofNat (c + k)) := by
    intro k
    induction k with
    | zero =>
      intro n c fu hn hp hf hc
      obtain ⟨fu', rfl⟩ : ∃ k, fu = k + 1 := ⟨fu - 1, by omega⟩
      have := pc_z hp hn
      subst this
      rw [whileN, fM_ones_l4]
      rfl
    | succ k ih =>
      intro n c fu hn hp hf hc
      obtain ⟨fu', rfl⟩ : ∃ k, fu = k + 1 := ⟨fu - 1, by omega⟩
      have h0 : 0 < n := by
        rcases Nat.eq_zero_or_pos n with q | q
        · subst q
          rw [pc_0] at hp
          omega
        · exact q
      have e0 : ¬ Int32.ofNat n = 0 := fun q => by
        have := (i_eq (b := 0) hn (by decide)).mp q
        omega
      have e1 : Int32.ofNat c + 1 = Int32.ofNat (c + 1) := i_pl c 1
      have e2 := pc_lo h0 hn
      rw [whileN, fM_ones_l4, if_neg e0, n_one n h0 hn, n_and, e1]
      show whileN fu' fM_ones_l4 _ = _
      rw [ih (n &&& (n - 1)) (c + 1) fu' (and_lt hn) (by omega) (by omega) (by omega)]
      congr 2
      omega
  have e := key (pc n) n 0 zFU hn rfl (zn_FU (by have := pc_le n; omega)) (by have := pc_le n; omega)
  rw [Nat.zero_add] at e
  rw [fM_ones, show ((0 : Int32), Int32.ofNat n) = (Int32.ofNat 0, Int32.ofNat n) from rfl, e, zb1_s]
theorem n_lowest {n j : Nat} (h1 : n.testBit j = true) (h2 : ∀ i, i < j → n.testBit i = false) (hj : j < 31) : fM_lowest (Int32.ofNat n) = some (Int32.ofNat j) := by
  have e := wn_eq (fM_lowest_l2 (Int32.ofNat n)) (fun i => Int32.ofNat i) j (Int32.ofNat j) (by omega) (fun i hi => by
    have e1 : Int32.ofNat i + 1 = Int32.ofNat (i + 1) := i_pl i 1
    show fM_lowest_l2 (Int32.ofNat n) (Int32.ofNat i) = _
    rw [fM_lowest_l2, n_has (by omega), h2 i hi, e1]
    rfl) (by
    show fM_lowest_l2 (Int32.ofNat n) (Int32.ofNat j) = _
    rw [fM_lowest_l2, n_has hj, h1]
    rfl)
  rw [fM_lowest]
  exact (congrArg (fun z => zb1 z (fun r => some r)) e)
/-- a range of cells filled by a function -/
def vF (m : zv_M) (a : Nat) (g : Nat → Int32) (n : Nat) : zv_M := (fun o k => if o = a ∧ k < n then g k else m.1 o k, m.2)
theorem vF_0 (m : zv_M) (a : Nat) (g : Nat → Int32) : vF m a g 0 = m := by
  unfold vF
  have : (fun o k => if o = a ∧ k < 0 then g k else m.1 o k) = m.1 := by
    funext o k
    rw [if_neg (by omega)]
  rw [this]
theorem vF_s (m : zv_M) (a : Nat) (g : Nat → Int32) (n : Nat) : wI (vF m a g n) a n (g n) = vF m a g (n + 1) := by
  unfold wI vF
  congr 1
  funext o k
  by_cases h1 : o = a ∧ k = n
  · rw [if_pos h1, if_pos (by omega), h1.2]
  · rw [if_neg h1]
    show (if o = a ∧ k < n then g k else m.1 o k) = _
    by_cases h2 : o = a ∧ k < n
    · rw [if_pos h2, if_pos (by omega)]
    · rw [if_neg h2, if_neg (by omega)]
theorem vF_e (m : zv_M) (a : Nat) (g : Nat → Int32) {n k : Nat} (h : k < n) : (vF m a g n).1 a k = g k := if_pos ⟨rfl, h⟩
theorem vF_o (m : zv_M) {a o k n : Nat} (g : Nat → Int32) (h : ¬ (o = a ∧ k < n)) : (vF m a g n).1 o k = m.1 o k := if_neg h
theorem ag_F {K : Nat → Nat → Bool} {m m' : zv_M} {a n : Nat} {g : Nat → Int32} (h : ag K m m') (hk : ∀ k, K a k = false) : ag K m (vF m' a g n) := fun o' k' q => by
  rw [vF_o m' g (by rintro ⟨rfl, -⟩; rw [hk] at q; cases q)]
  exact h o' k' q
theorem c25 {i : Nat} (h : i < 25) : Int32.ofNat i < 25 := (i_lt (b := 25) (by omega) (by decide)).mpr h
theorem c25n {i : Nat} (h : ¬ i < 25) (hi : i < 2147483648) : ¬ Int32.ofNat i < 25 := fun q => h ((i_lt (b := 25) hi (by decide)).mp q)
theorem inc (i : Nat) : Int32.ofNat i + 1 = Int32.ofNat (i + 1) := i_pl i 1
theorem if01 {α : Type} (b : Bool) (x y : α) : (if (if b = true then (1 : Int32) else 0) = 0 then x else y) = if b = true then y else x := by
  cases b <;> rfl
