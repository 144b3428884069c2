/-! What is read can be looked at. -/
theorem pT_g {L : Nat → Nat} {n : Nat} (h : LT L n) {p q : Nat} {x : Ex} (e : pT L p = .inr (x, q)) : GE x := by
  unfold pT at e
  cases hp : plc (L p) with
  | none =>
    rw [hp] at e
    cases e
  | some pl =>
    rw [hp] at e
    have e : (if 60 ≤ L (p + 1) ∧ L (p + 1) ≤ 62 then (match pN L (p + 2) with
      | .inl q => (.inl q : Rs Ex)
      | .inr (v, q) => .inr (xT pl (L (p + 1) - 60) v, q)) else .inl (p + 1)) = .inr (x, q) := e
    by_cases q1 : 60 ≤ L (p + 1) ∧ L (p + 1) ≤ 62
    · rw [if_pos q1] at e
      cases hn : pN L (p + 2) with
      | inl z =>
        rw [hn] at e
        cases e
      | inr z =>
        obtain ⟨v, z⟩ := z
        rw [hn] at e
        obtain ⟨n1, -, -⟩ := pN_n h hn
        cases e
        exact GE_T (plc_lt hp) (by omega) n1
    · rw [if_neg q1] at e
      cases e
def gO (A : Option Ex) : Prop := match A with
  | none => True
  | some a => GE a
theorem anO_g {B : Option Ex} {C : Ex} (hB : gO B) (hC : GE C) : GE (anO B C) := by
  cases B with
  | none => exact hC
  | some b => exact GE_A hB hC
theorem orO_g {B : Option Ex} {C : Ex} (hB : gO B) (hC : GE C) : GE (orO B C) := by
  cases B with
  | none => exact hC
  | some b => exact GE_O hB hC
theorem anyL_g {L : Nat → Nat} {one : Nat → Rs Ex} (h1 : ∀ p c q, one p = .inr (c, q) → GE c) : ∀ (k : Nat) (A B : Option Ex) (C : Ex) (p : Nat) (e : Ex) (q : Nat), gO A → gO B → GE C → anyL L one k A B C p = .inr (e, q) → GE e := by
  intro k
  induction k with
  | zero =>
    intro A B C p e q hA hB hC h
    rw [anyL] at h
    cases h
    exact orO_g hA (anO_g hB hC)
  | succ k ih =>
    intro A B C p e q hA hB hC h
    rw [anyL] at h
    by_cases q1 : L p = 124
    · rw [if_pos q1] at h
      cases ho : one (p + 1) with
      | inl z =>
        rw [ho] at h
        cases h
      | inr z =>
        obtain ⟨c, z⟩ := z
        rw [ho] at h
        exact ih (some (orO A (anO B C))) none c z e q (orO_g hA (anO_g hB hC)) trivial (h1 _ _ _ ho) h
    · rw [if_neg q1] at h
      by_cases q2 : L p = 38
      · rw [if_pos q2] at h
        cases ho : one (p + 1) with
        | inl z =>
          rw [ho] at h
          cases h
        | inr z =>
          obtain ⟨c, z⟩ := z
          rw [ho] at h
          exact ih A (some (anO B C)) c z e q hA (anO_g hB hC) (h1 _ _ _ ho) h
      · rw [if_neg q2] at h
        cases h
        exact orO_g hA (anO_g hB hC)
theorem anyP_g {L : Nat → Nat} {one : Nat → Rs Ex} (h1 : ∀ p c q, one p = .inr (c, q) → GE c) {p q : Nat} {e : Ex} (h : anyP L one p = .inr (e, q)) : GE e := by
  rw [anyP] at h
  cases ho : one p with
  | inl z =>
    rw [ho] at h
    cases h
  | inr z =>
    obtain ⟨c, z⟩ := z
    rw [ho] at h
    exact anyL_g h1 100 none none c z e q trivial trivial (h1 _ _ _ ho) h
theorem oneR_g {L : Nat → Nat} {n : Nat} (hL : LT L n) : ∀ (r p : Nat) (c : Ex) (q : Nat), oneR L r p = .inr (c, q) → GE c := by
  intro r
  induction r with
  | zero => exact fun p c q h => pT_g hL h
  | succ r ih =>
    intro p c q h
    rw [oneR] at h
    by_cases q1 : L p = 33
    · rw [if_pos q1] at h
      cases ho : oneR L r (p + 1) with
      | inl z =>
        rw [ho] at h
        cases h
      | inr z =>
        obtain ⟨e, z⟩ := z
        rw [ho] at h
        have := ih _ _ _ ho
        cases h
        exact GE_N this
    · rw [if_neg q1] at h
      by_cases q2 : L p = 40
      · rw [if_pos q2] at h
        cases ho : anyP L (oneR L r) (p + 1) with
        | inl z =>
          rw [ho] at h
          cases h
        | inr z =>
          obtain ⟨e, z⟩ := z
          rw [ho] at h
          have t := anyP_g ih ho
          have h : (if L z = 41 then (.inr (e, z + 1) : Rs Ex) else .inl z) = .inr (c, q) := h
          by_cases q3 : L z = 41
          · rw [if_pos q3] at h
            cases h
            exact t
          · rw [if_neg q3] at h
            cases h
      · rw [if_neg q2] at h
        exact pT_g hL h
def GCl (c : Cl) : Prop := c.1 < 5 ∧ (c.1 = 0 → c.2.1 < 100) ∧ (c.1 = 1 ∨ c.1 = 2 → GE c.2.2)
theorem pC_g {L : Nat → Nat} {n : Nat} (hL : LT L n) {p q : Nat} {c : Cl} (h : pC L p = .inr (c, q)) : GCl c := by
  have hlt := hdC_lt (L p)
  unfold pC at h
  cases hw : pW L (wds (hdC (L p))) p with
  | inl z =>
    rw [hw] at h
    cases h
  | inr z =>
    rw [hw] at h
    have h : (if hdC (L p) = 0 then (match pN L z with
      | .inl z => (.inl z : Rs Cl)
      | .inr (v, z) => .inr ((0, v, e00), z)) else if hdC (L p) < 3 then (match anyP L (oneR L 4) z with
      | .inl z => .inl z
      | .inr (e, z) => .inr ((hdC (L p), 0, e), z)) else .inr ((hdC (L p), 0, e00), z)) = .inr (c, q) := h
    by_cases q1 : hdC (L p) = 0
    · rw [if_pos q1] at h
      cases hn : pN L z with
      | inl y =>
        rw [hn] at h
        cases h
      | inr y =>
        obtain ⟨v, y⟩ := y
        rw [hn] at h
        have := (pN_n hL hn).1
        cases h
        exact ⟨show 0 < 5 by decide, fun _ => this, fun z => absurd z (show ¬ ((0 : Nat) = 1 ∨ (0 : Nat) = 2) by decide)⟩
    · rw [if_neg q1] at h
      by_cases q2 : hdC (L p) < 3
      · rw [if_pos q2] at h
        cases hn : anyP L (oneR L 4) z with
        | inl y =>
          rw [hn] at h
          cases h
        | inr y =>
          obtain ⟨v, y⟩ := y
          rw [hn] at h
          have := anyP_g (oneR_g hL 4) hn
          cases h
          exact ⟨hlt, fun z => absurd z q1, fun _ => this⟩
      · rw [if_neg q2] at h
        cases h
        exact ⟨hlt, fun z => absurd z q1, fun z => absurd z (by
          show ¬ (hdC (L p) = 1 ∨ hdC (L p) = 2)
          omega)⟩
theorem pL_g {L : Nat → Nat} {n : Nat} (hL : LT L n) : ∀ (k : Nat) (A B : List Cl) (p : Nat), (∀ c, c ∈ A → GCl c) → pL L k A p = .inr B → ∀ c, c ∈ B → GCl c := by
  intro k
  induction k with
  | zero =>
    intro A B p hA h
    cases h
  | succ k ih =>
    intro A B p hA h
    rw [pL_s] at h
    cases hc : pC L p with
    | inl z =>
      rw [hc] at h
      cases h
    | inr z =>
      obtain ⟨c, z⟩ := z
      rw [hc] at h
      have t := pC_g hL hc
      have hA2 : ∀ x, x ∈ A ++ [c] → GCl x := fun x hx => by
        rcases List.mem_append.mp hx with y | y
        · exact hA x y
        · rw [List.mem_singleton.mp y]
          exact t
      have h : pLm L k (A ++ [c]) z = .inr B := h
      unfold pLm at h
      by_cases q1 : L z = 200
      · rw [if_pos q1] at h
        cases h
        exact hA2
      · rw [if_neg q1] at h
        by_cases q2 : k = 0
        · rw [if_pos q2] at h
          cases h
        · rw [if_neg q2] at h
          by_cases q3 : L z = 59
          · rw [if_pos q3] at h
            exact ih _ _ _ hA2 h
          · rw [if_neg q3] at h
            cases h
