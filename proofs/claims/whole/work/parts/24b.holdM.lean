/-! The reference's tries over all candidates. -/
def ST (k : Nat) (o : Option Nat) (m : zv_M) : Prop := match o with
  | none => m.1 68 35 = -5 ∧ m.1 68 36 = -5
  | some S => m.1 68 35 = Int32.ofNat k ∧ m.1 68 36 = Int32.ofNat S ∧ S < 2147483648
/-- a hold's cells -/
def HC (D : Dt) (h : Nat → Nat) (m : zv_M) : Prop := CM D m ∧ ∀ s, s < dW D * dW D → m.1 90 s = Int32.ofNat (h s)
theorem HC_w {D : Dt} {h : Nat → Nat} {m : zv_M} (c : HC D h m) (k : Nat) (v : Int32) (hk : scr 68 k = true) : HC D h (wI m 68 k v) := ⟨CM_sc (sc_w (sc_r m) hk) c.1, fun s hs => (wI_o _ _ (by omega)).trans (c.2 s hs)⟩
theorem tries_ok {D : Dt} {h : Nat → Nat} {k S U all : Nat} {o : Option Nat} {m : zv_M} (c : HC D h m) (hst : ST k o m) (hk : k < 100) (hS : S < 2147483648) (hU : U < 2147483648) (hall : all < 2147483648) (ho : ∀ S0, o = some S0 → S0 ≤ S) : ∃ m', fM_tries (Int32.ofNat S) (Int32.ofNat U) (Int32.ofNat k) (Int32.ofNat all) m = some m' ∧ ST k (orS o (if U = all then some S else none)) m' ∧ HC D h m' ∧ sc m m' := by
  rw [fM_tries]
  by_cases q : U = all
  · rw [if_pos (by rw [q]), if_pos q]
    cases o with
    | none =>
      rw [hst.1, if_pos rfl]
      exact ⟨_, rfl, ⟨rfl, rfl, hS⟩, HC_w (HC_w c 35 _ rfl) 36 _ rfl, sc_w (sc_w (sc_r m) rfl) rfl⟩
    | some S0 =>
      obtain ⟨a1, a2, a3⟩ := hst
      have h0 := ho S0 rfl
      rw [a1, if_neg (i_ne (by omega) (by decide)), if_neg (fun z => by have := (i_lt (by omega) (by omega)).mp z; omega), if_pos rfl, a2, if_neg (fun z => by have := (i_lt hS a3).mp z; omega)]
      exact ⟨m, rfl, ⟨a1, a2, a3⟩, c, sc_r m⟩
  · rw [if_neg (fun z => q ((i_eq hU hall).mp z)), if_neg q, orS_n]
    exact ⟨m, rfl, hst, c, sc_r m⟩
theorem fh_1 (all S U : Nat) : fh all [(S, U)] = if U = all then some S else none := by
  unfold fh
  rw [List.find?_cons]
  by_cases q : U = all
  · rw [if_pos q, decide_eq_true (show (S, U).2 = all from q)]
    rfl
  · rw [if_neg q, decide_eq_false (show ¬ (S, U).2 = all from q)]
    rfl
/-- a loop over the next lower square -/
theorem hl_loop {D : Dt} {h : Nat → Nat} {F : Nat → Bool} {k k' B S U all : Nat} {f : Int32 × zv_M → Option ((Int32 × zv_M) ⊕ zv_M)} (hB : B ≤ 25) (step : ∀ i m o, i < B → ST k o m → HC D h m → (∀ S0, o = some S0 → S0 < S + 2 ^ i) → (∃ S0, o = some S0) ∧ f (Int32.ofNat i, m) = some (.inr m) ∨ ∃ m', f (Int32.ofNat i, m) = some (.inl (Int32.ofNat (i + 1), m')) ∧ ST k (orS o (fh all (if F i = true then Cs F h k' i (S + 2 ^ i) (U ||| h i) else []))) m' ∧ HC D h m' ∧ sc m m') (last : ∀ m, HC D h m → f (Int32.ofNat B, m) = some (.inr m)) (m : zv_M) (o : Option Nat) (hst : ST k o m) (hc : HC D h m) (ho : ∀ S0, o = some S0 → S0 ≤ S) : ∃ m', whileN zFU f (Int32.ofNat 0, m) = some m' ∧ ST k (orS o (fh all (Cs F h (k' + 1) B S U))) m' ∧ HC D h m' ∧ sc m m' := by
  have key : ∀ (d i : Nat) (m : zv_M) (o : Option Nat) (fu : Nat), i + d = B → d < fu → ST k o m → HC D h m → (∀ S0, o = some S0 → S0 < S + 2 ^ i) → ∃ m', whileN fu f (Int32.ofNat i, m) = some m' ∧ ST k (orS o (fh all (fl (fun a => if F a = true then Cs F h k' a (S + 2 ^ a) (U ||| h a) else []) i d))) m' ∧ HC D h m' ∧ sc m m' := by
    intro d
    induction d with
    | zero =>
      intro i m o fu hi hf hst hc ho
      obtain ⟨fu', rfl⟩ : ∃ k, fu = k + 1 := ⟨fu - 1, by omega⟩
      obtain rfl : i = B := by omega
      rw [whileN, last m hc]
      exact ⟨m, rfl, by rw [show fh all (fl _ i 0) = none from rfl, orS_n]; exact hst, hc, sc_r m⟩
    | succ d ih =>
      intro i m o fu hi hf hst hc ho
      obtain ⟨fu', rfl⟩ : ∃ k, fu = k + 1 := ⟨fu - 1, by omega⟩
      rw [whileN]
      rcases step i m o (by omega) hst hc ho with ⟨⟨S0, rfl⟩, e⟩ | ⟨m1, e, e2, e3, e4⟩
      · rw [e]
        exact ⟨m, rfl, hst, hc, sc_r m⟩
      · rw [e]
        obtain ⟨m2, f1, f2, f3, f4⟩ := ih (i + 1) m1 _ fu' (by omega) (by omega) e2 e3 (fun S0 hS0 => by
          cases o with
          | some S1 =>
            obtain rfl := Option.some.inj hS0
            have := ho S1 rfl
            have h2 : 2 ^ i ≤ 2 ^ (i + 1) := Nat.pow_le_pow_right (by decide) (by omega)
            omega
          | none =>
            obtain ⟨z, z1, z2, z3⟩ := fh_mem (show fh all _ = some S0 from hS0)
            by_cases q : F i = true
            · rw [if_pos q] at z1
              have := Cs_lt k' i (S + 2 ^ i) _ z z1
              rw [Nat.pow_succ]
              omega
            · rw [if_neg q] at z1
              exact absurd z1 List.not_mem_nil)
        refine ⟨m2, f1, ?_, f3, sc_t e4 f4⟩
        rw [fl_s, fh_app, ← orS_a]
        exact f2
  have := key B 0 m o zFU (by omega) (zn_FU (by omega)) hst hc (fun S0 h0 => by have := ho S0 h0; omega)
  rw [Cs]
  exact this
def Fb (D : Dt) (a : Nat) : Bool := (fr D).testBit a
theorem may_ok {D : Dt} {h : Nat → Nat} {m : zv_M} (hS : CS D) (c : HC D h m) {s : Nat} (hs : s < dW D * dW D) : fM_mayHold (Int32.ofNat s) m = some (if Fb D s = true then 1 else 0) := by
  have hWW := CS_WW hS
  rw [fM_mayHold, c.1.1.2.2.2, n_has (by omega), zb1_s, if01, Fb, fr_t, decide_eq_true hs, Bool.true_and]
  cases (dB D).testBit s <;> rfl
theorem two_lt {a : Nat} (h : a < 25) : 2 ^ a < 2 ^ 25 := Nat.pow_lt_pow_right (by decide) h
theorem or3 {a b : Nat} (h : b < a) : 2 ^ a ||| 2 ^ b = 2 ^ a + 2 ^ b := by
  rw [Nat.or_comm, orx (Nat.pow_lt_pow_right (by decide) h)]
theorem or4 {a b c : Nat} (h : b < a) (h2 : c < b) : 2 ^ a + 2 ^ b ||| 2 ^ c = 2 ^ a + 2 ^ b + 2 ^ c := by
  have hb : 2 ^ c < 2 ^ b := Nat.pow_lt_pow_right (by decide) h2
  have hbc : 2 ^ b + 2 ^ c < 2 ^ a := by
    have h3 : 2 ^ (b + 1) ≤ 2 ^ a := Nat.pow_le_pow_right (by decide) (by omega)
    rw [Nat.pow_succ] at h3
    omega
  have e : 2 ^ a + 2 ^ b ||| 2 ^ c = 2 ^ a ||| 2 ^ b ||| 2 ^ c := by rw [or3 h]
  rw [e, Nat.or_assoc, or3 h2, Nat.or_comm, orx hbc]
  omega
theorem or5 {a b c d : Nat} (h : b < a) (h2 : c < b) (h3 : d < c) : 2 ^ a + 2 ^ b + 2 ^ c ||| 2 ^ d = 2 ^ a + 2 ^ b + 2 ^ c + 2 ^ d := by
  have hc : 2 ^ (c + 1) ≤ 2 ^ b := Nat.pow_le_pow_right (by decide) (by omega)
  have hb : 2 ^ (b + 1) ≤ 2 ^ a := Nat.pow_le_pow_right (by decide) (by omega)
  have hd : 2 ^ d < 2 ^ c := Nat.pow_lt_pow_right (by decide) h3
  rw [Nat.pow_succ] at hc hb
  have hbcd : 2 ^ b + 2 ^ c + 2 ^ d < 2 ^ a := by omega
  have hcd : 2 ^ c + 2 ^ d < 2 ^ b := by omega
  have e : 2 ^ a + 2 ^ b + 2 ^ c ||| 2 ^ d = 2 ^ a ||| (2 ^ b ||| (2 ^ c ||| 2 ^ d)) := by rw [← or4 h h2, ← or3 h, Nat.or_assoc, Nat.or_assoc]
  rw [e, or3 h3, Nat.or_comm (2 ^ b), orx hcd, Nat.or_comm, orx (show 2 ^ b + (2 ^ c + 2 ^ d) < 2 ^ a by omega)]
  omega
