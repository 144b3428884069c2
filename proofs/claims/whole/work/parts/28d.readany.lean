/-! The class reads all that hangs together. -/
theorem anyL_n {L : Nat → Nat} {n : Nat} {one : Nat → Rs Ex} (h1 : ∀ p c q, one p = .inr (c, q) → p < q ∧ q ≤ n) : ∀ (k : Nat) (A B : Option Ex) (C : Ex) (p : Nat) (e : Ex) (q : Nat), p ≤ n → anyL L one k A B C p = .inr (e, q) → p ≤ q ∧ q ≤ n := by
  intro k
  induction k with
  | zero =>
    intro A B C p e q hp h
    rw [anyL] at h
    cases h
    omega
  | succ k ih =>
    intro A B C p e q hp h
    rw [anyL] at h
    by_cases q1 : L p = 124
    · rw [if_pos q1] at h
      cases ho : one (p + 1) with
      | inl z =>
        rw [ho] at h
        cases h
      | inr z =>
        obtain ⟨c, z⟩ := z
        rw [ho] at h
        obtain ⟨a, b⟩ := h1 _ _ _ ho
        have := ih _ _ _ _ _ _ b h
        omega
    · rw [if_neg q1] at h
      by_cases q2 : L p = 38
      · rw [if_pos q2] at h
        cases ho : one (p + 1) with
        | inl z =>
          rw [ho] at h
          cases h
        | inr z =>
          obtain ⟨c, z⟩ := z
          rw [ho] at h
          obtain ⟨a, b⟩ := h1 _ _ _ ho
          have := ih _ _ _ _ _ _ b h
          omega
      · rw [if_neg q2] at h
        cases h
        omega
theorem anyP_n {L : Nat → Nat} {n : Nat} {one : Nat → Rs Ex} (h1 : ∀ p c q, one p = .inr (c, q) → p < q ∧ q ≤ n) {p q : Nat} {e : Ex} (h : anyP L one p = .inr (e, q)) : p < q ∧ q ≤ n := by
  rw [anyP] at h
  cases ho : one p with
  | inl z =>
    rw [ho] at h
    cases h
  | inr z =>
    obtain ⟨c, z⟩ := z
    rw [ho] at h
    obtain ⟨a, b⟩ := h1 _ _ _ ho
    have := anyL_n h1 _ _ _ _ _ _ _ b h
    omega
theorem oneR_n {L : Nat → Nat} {n : Nat} (hL : LT L n) : ∀ (r p : Nat) (c : Ex) (q : Nat), oneR L r p = .inr (c, q) → p < q ∧ q ≤ n := by
  intro r
  induction r with
  | zero => exact fun p c q h => pT_n hL h
  | succ r ih =>
    intro p c q h
    rw [oneR] at h
    by_cases q1 : L p = 33
    · rw [if_pos q1] at h
      cases ho : oneR L r (p + 1) with
      | inl z =>
        rw [ho] at h
        cases h
      | inr z =>
        obtain ⟨e, z⟩ := z
        rw [ho] at h
        have := ih _ _ _ ho
        cases h
        omega
    · rw [if_neg q1] at h
      by_cases q2 : L p = 40
      · rw [if_pos q2] at h
        cases ho : anyP L (oneR L r) (p + 1) with
        | inl z =>
          rw [ho] at h
          cases h
        | inr z =>
          obtain ⟨e, z⟩ := z
          rw [ho] at h
          have t := anyP_n ih ho
          have h : (if L z = 41 then (.inr (e, z + 1) : Rs Ex) else .inl z) = .inr (c, q) := h
          by_cases q3 : L z = 41
          · rw [if_pos q3] at h
            have := LT_n hL (p := z) (by omega)
            cases h
            omega
          · rw [if_neg q3] at h
            cases h
      · rw [if_neg q2] at h
        exact pT_n hL h
theorem evS_lt (W : Nat) (e : Ex) : evS W e < 2 ^ (W * W) := bs_lt _ _
theorem evS_t (W : Nat) (e : Ex) (i : Nat) : (evS W e).testBit i = (decide (i < W * W) && e.1 W i) := bs_t _ _ _
theorem evS_A (W : Nat) (a b : Ex) : evS W a &&& evS W b = evS W (xA a b) := by
  apply Nat.eq_of_testBit_eq
  intro i
  rw [Nat.testBit_and, evS_t, evS_t, evS_t]
  show _ = (decide (i < W * W) && (a.1 W i && b.1 W i))
  cases decide (i < W * W) <;> cases a.1 W i <;> cases b.1 W i <;> rfl
theorem evS_O (W : Nat) (a b : Ex) : evS W a ||| evS W b = evS W (xO a b) := by
  apply Nat.eq_of_testBit_eq
  intro i
  rw [Nat.testBit_or, evS_t, evS_t, evS_t]
  show _ = (decide (i < W * W) && (a.1 W i || b.1 W i))
  cases decide (i < W * W) <;> cases a.1 W i <;> cases b.1 W i <;> rfl
theorem evS_N (W : Nat) (a : Ex) : ad (2 ^ (W * W) - 1) (evS W a) = evS W (xN a) := by
  apply Nat.eq_of_testBit_eq
  intro i
  rw [ad_t, evS_t, evS_t, Nat.testBit_two_pow_sub_one]
  show _ = (decide (i < W * W) && !a.1 W i)
  cases decide (i < W * W) <;> cases a.1 W i <;> rfl
theorem evS_all (W : Nat) (a : Ex) : (2 ^ (W * W) - 1) &&& evS W a = evS W a := by
  apply Nat.eq_of_testBit_eq
  intro i
  rw [Nat.testBit_and, evS_t, Nat.testBit_two_pow_sub_one]
  cases decide (i < W * W) <;> rfl
def oA (W : Nat) (A : Option Ex) : Nat := match A with
  | none => 0
  | some a => evS W a
theorem oA_O (W : Nat) (A : Option Ex) (C : Ex) : oA W A ||| evS W C = evS W (orO A C) := by
  cases A with
  | none => exact Nat.zero_or _
  | some a => exact evS_O W a C
def vE (W : Nat) (e : Ex) : Int32 := Int32.ofNat (evS W e)
theorem n_anyL {L : Nat → Nat} {n W : Nat} {m : zv_M} (h : TXN L n W m) {one : Nat → Rs Ex} {d : Int32} {rec : Int32 → zv_M → Option (Int32 × zv_M)} (h1 : ∀ p c q, one p = .inr (c, q) → p < q ∧ q ≤ n) (hr : ∀ p, p ≤ n → nR m L (vE W) (rec d (rdA m L p 0)) (one p)) : ∀ (k fu : Nat) (A B : Option Ex) (C : Ex) (p : Nat), k ≤ 100 → k + 2 < fu → p ≤ n → (∃ v, match anyL L one k A B C p with
    | .inl q => whileN fu (fRe_readAny_l11 d rec) (Int32.ofNat (oA W A), Int32.ofNat (evS W (anO B C)), Int32.ofNat (100 - k), rdA m L p 0) = some (v, rdA m L q 1)
    | .inr (e, q) => v = vE W e ∧ whileN fu (fRe_readAny_l11 d rec) (Int32.ofNat (oA W A), Int32.ofNat (evS W (anO B C)), Int32.ofNat (100 - k), rdA m L p 0) = some (v, rdA m L q 0)) := by
  have o := LT_or h.1
  have r7 : ∀ x c, (rdA m L x c).1 33 7 = cI (L x) := fun x c => mR_7 _ _ _ _
  have r8 : ∀ x c, (rdA m L x c).1 33 8 = c := fun x c => mR_8 _ _ _ _
  have r9 : ∀ x c, (rdA m L x c).1 33 9 = Int32.ofNat W := fun x c => (mR_x (by omega)).trans h.2.2.2.1
  have hn := h.1.1
  have hW5 := h.2.2.2.2.2
  have hall := all5 W (by omega) h.2.2.2.2.1
  have stopE : ∀ (A B : Option Ex) (C : Ex), Int32.ofNat (oA W A) ||| Int32.ofNat (evS W (anO B C)) = vE W (orO A (anO B C)) := fun A B C => by rw [n_or, oA_O]; rfl
  have failL : ∀ (fu : Nat) (a b c : Int32) (q : Nat), 0 < fu → ∃ v, whileN fu (fRe_readAny_l11 d rec) (a, b, c, rdA m L q 1) = some (v, rdA m L q 1) := fun fu a b c q hf => by
    obtain ⟨fu, rfl⟩ : ∃ j, fu = j + 1 := ⟨fu - 1, by omega⟩
    refine ⟨a ||| b, ?_⟩
    rw [whileN, fRe_readAny_l11, r8, if_neg (show ¬ (1 : Int32) = 0 by decide)]
    by_cases q : c < 100
    · rw [if_pos q]
    · rw [if_neg q]
  intro k
  induction k with
  | zero =>
    intro fu A B C p hk hf hp
    obtain ⟨fu, rfl⟩ : ∃ j, fu = j + 1 := ⟨fu - 1, by omega⟩
    refine ⟨_, rfl, ?_⟩
    rw [whileN, fRe_readAny_l11, if_neg (show ¬ Int32.ofNat (100 - 0) < 100 by decide), stopE]
  | succ k ih =>
    intro fu A B C p hk hf hp
    obtain ⟨fu, rfl⟩ : ∃ j, fu = j + 1 := ⟨fu - 1, by omega⟩
    have c1 : (cI (L p) = 124) = (L p = 124) := cI_eq (k := 124) (o _) (by decide)
    have c2 : (cI (L p) = 38) = (L p = 38) := cI_eq (k := 38) (o _) (by decide)
    have lt : Int32.ofNat (100 - (k + 1)) < 100 := (i_lt (b := 100) (by omega) (by decide)).mpr (by omega)
    have pre : fRe_readAny_l11 d rec (Int32.ofNat (oA W A), Int32.ofNat (evS W (anO B C)), Int32.ofNat (100 - (k + 1)), rdA m L p 0) = if L p = 124 then zb2 (rec d (rdA m L (p + 1) 0)) (fun r11 m12 => some (.inl (Int32.ofNat (oA W (some (orO A (anO B C)))), Int32.ofNat (2 ^ (W * W) - 1) &&& r11, Int32.ofNat (100 - k), m12))) else if L p = 38 then zb2 (rec d (rdA m L (p + 1) 0)) (fun r11 m12 => some (.inl (Int32.ofNat (oA W A), Int32.ofNat (evS W (anO B C)) &&& r11, Int32.ofNat (100 - k), m12))) else some (.inr (vE W (orO A (anO B C)), rdA m L p 0)) := by
      rw [fRe_readAny_l11, if_pos lt, r8, if_pos rfl, r7]
      simp only [c1, c2, fRe_readAny_j46, r7, fRe_readAny_j67]
      rw [n_next h (by omega), zb1_s, r9, hall, zb1_s, stopE, inc, show 100 - (k + 1) + 1 = 100 - k by omega]
      by_cases q1 : L p = 124
      · rw [if_pos q1, if_pos q1, if_pos q1, zb1_s]
        rfl
      · rw [if_neg q1, if_neg q1, if_neg q1]
    rw [anyL]
    by_cases q1 : L p = 124
    · have hpn := LT_n h.1 (p := p) (by omega)
      have hh := hr (p + 1) (by omega)
      rw [if_pos q1] at pre
      rw [if_pos q1]
      cases ho : one (p + 1) with
      | inl z =>
        rw [ho] at hh
        obtain ⟨v, ev⟩ := hh
        rw [ev, zb2_s] at pre
        obtain ⟨w, ew⟩ := failL fu _ _ _ z (by omega)
        refine ⟨w, ?_⟩
        show whileN (fu + 1) _ _ = _
        rw [whileN, pre]
        exact ew
      | inr z =>
        obtain ⟨c, z⟩ := z
        rw [ho] at hh
        have ev : rec d (rdA m L (p + 1) 0) = some (vE W c, rdA m L z 0) := hh
        rw [ev, zb2_s, show Int32.ofNat (2 ^ (W * W) - 1) &&& vE W c = Int32.ofNat (evS W (anO none c)) by rw [vE, n_and, evS_all]; rfl] at pre
        have := ih fu (some (orO A (anO B C))) none c z (by omega) (by omega) (h1 _ _ _ ho).2
        rw [whileN, pre]
        exact this
    · rw [if_neg q1] at pre
      rw [if_neg q1]
      by_cases q2 : L p = 38
      · have hpn := LT_n h.1 (p := p) (by omega)
        have hh := hr (p + 1) (by omega)
        rw [if_pos q2] at pre
        rw [if_pos q2]
        cases ho : one (p + 1) with
        | inl z =>
          rw [ho] at hh
          obtain ⟨v, ev⟩ := hh
          rw [ev, zb2_s] at pre
          obtain ⟨w, ew⟩ := failL fu _ _ _ z (by omega)
          refine ⟨w, ?_⟩
          show whileN (fu + 1) _ _ = _
          rw [whileN, pre]
          exact ew
        | inr z =>
          obtain ⟨c, z⟩ := z
          rw [ho] at hh
          have ev : rec d (rdA m L (p + 1) 0) = some (vE W c, rdA m L z 0) := hh
          rw [ev, zb2_s, show Int32.ofNat (evS W (anO B C)) &&& vE W c = Int32.ofNat (evS W (anO (some (anO B C)) c)) by rw [vE, n_and, evS_A]; rfl] at pre
          have := ih fu A (some (anO B C)) c z (by omega) (by omega) (h1 _ _ _ ho).2
          rw [whileN, pre]
          exact this
      · rw [if_neg q2] at pre
        rw [if_neg q2]
        refine ⟨_, rfl, ?_⟩
        rw [whileN, pre]
