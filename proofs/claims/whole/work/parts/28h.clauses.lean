/-! The class reads clauses. -/
def hdC (x : Nat) : Nat := if x = 98 then 2 else if x = 104 then 1 else if x = 114 then 3 else if x = 119 then 0 else 4
/-- a clause: kind, number, what is told of a square -/
abbrev Cl : Type := Nat × Nat × Ex
def e00 : Ex := (fun _ _ => false, [])
def pC (L : Nat → Nat) (p : Nat) : Rs Cl := match pW L (wds (hdC (L p))) p with
  | .inl q => .inl q
  | .inr q => if hdC (L p) = 0 then (match pN L q with
    | .inl z => .inl z
    | .inr (v, z) => .inr ((0, v, e00), z)) else if hdC (L p) < 3 then (match anyP L (oneR L 4) q with
    | .inl z => .inl z
    | .inr (e, z) => .inr ((hdC (L p), 0, e), z)) else .inr ((hdC (L p), 0, e00), q)
def pL (L : Nat → Nat) : Nat → List Cl → Nat → Nat ⊕ List Cl
  | 0, _, p => .inl p
  | k + 1, A, p => match pC L p with
    | .inl q => .inl q
    | .inr (c, q) => if L q = 200 then .inr (A ++ [c]) else if k = 0 then .inl q else if L q = 59 then pL L k (A ++ [c]) (q + 1) else .inl q
def pLm (L : Nat → Nat) (k : Nat) (A : List Cl) (q : Nat) : Nat ⊕ List Cl := if L q = 200 then .inr A else if k = 0 then .inl q else if L q = 59 then pL L k A (q + 1) else .inl q
theorem pL_s (L : Nat → Nat) (k : Nat) (A : List Cl) (p : Nat) : pL L (k + 1) A p = (match pC L p with
    | .inl q => .inl q
    | .inr (c, q) => pLm L k (A ++ [c]) q) := rfl
/-! where it fails lies in the text or at its end -/
theorem pN_f {L : Nat → Nat} {p q : Nat} (e : pN L p = .inl q) : q = p := by
  unfold pN at e
  split at e
  · split at e <;> cases e
  · cases e
    rfl
theorem pT_f {L : Nat → Nat} {n : Nat} (h : LT L n) {p q : Nat} (hp : p ≤ n) (e : pT L p = .inl q) : q ≤ n := by
  unfold pT at e
  cases hl : plc (L p) with
  | none =>
    rw [hl] at e
    cases e
    exact hp
  | some pl =>
    rw [hl] at e
    have l0 : p < n := by
      rcases LT_or h p with z | z
      · exact LT_n h (by omega)
      · rw [z] at hl
        cases hl
    have e : (if 60 ≤ L (p + 1) ∧ L (p + 1) ≤ 62 then (match pN L (p + 2) with
      | .inl q => (.inl q : Rs Ex)
      | .inr (v, q) => .inr (xT pl (L (p + 1) - 60) v, q)) else .inl (p + 1)) = .inl q := e
    by_cases q1 : 60 ≤ L (p + 1) ∧ L (p + 1) ≤ 62
    · have l1 := LT_n h (p := p + 1) (by omega)
      rw [if_pos q1] at e
      cases hn : pN L (p + 2) with
      | inl z =>
        rw [hn] at e
        have := pN_f hn
        cases e
        omega
      | inr z =>
        rw [hn] at e
        cases e
    · rw [if_neg q1] at e
      cases e
      omega
theorem anyL_f {L : Nat → Nat} {n : Nat} {one : Nat → Rs Ex} (hL : LT L n) (h1 : ∀ p c q, one p = .inr (c, q) → p < q ∧ q ≤ n) (h2 : ∀ p q, p ≤ n → one p = .inl q → q ≤ n) : ∀ (k : Nat) (A B : Option Ex) (C : Ex) (p q : Nat), p ≤ n → anyL L one k A B C p = .inl q → q ≤ n := by
  intro k
  induction k with
  | zero =>
    intro A B C p q hp h
    cases h
  | succ k ih =>
    intro A B C p q hp h
    rw [anyL] at h
    by_cases q1 : L p = 124
    · have := LT_n hL (p := p) (by omega)
      rw [if_pos q1] at h
      cases ho : one (p + 1) with
      | inl z =>
        rw [ho] at h
        have := h2 _ _ (by omega) ho
        cases h
        omega
      | inr z =>
        obtain ⟨c, z⟩ := z
        rw [ho] at h
        exact ih _ _ _ _ _ (h1 _ _ _ ho).2 h
    · rw [if_neg q1] at h
      by_cases q2 : L p = 38
      · have := LT_n hL (p := p) (by omega)
        rw [if_pos q2] at h
        cases ho : one (p + 1) with
        | inl z =>
          rw [ho] at h
          have := h2 _ _ (by omega) ho
          cases h
          omega
        | inr z =>
          obtain ⟨c, z⟩ := z
          rw [ho] at h
          exact ih _ _ _ _ _ (h1 _ _ _ ho).2 h
      · rw [if_neg q2] at h
        cases h
theorem anyP_f {L : Nat → Nat} {n : Nat} {one : Nat → Rs Ex} (hL : LT L n) (h1 : ∀ p c q, one p = .inr (c, q) → p < q ∧ q ≤ n) (h2 : ∀ p q, p ≤ n → one p = .inl q → q ≤ n) {p q : Nat} (hp : p ≤ n) (h : anyP L one p = .inl q) : q ≤ n := by
  rw [anyP] at h
  cases ho : one p with
  | inl z =>
    rw [ho] at h
    cases h
    exact h2 _ _ hp ho
  | inr z =>
    obtain ⟨c, z⟩ := z
    rw [ho] at h
    exact anyL_f hL h1 h2 _ _ _ _ _ _ (h1 _ _ _ ho).2 h
theorem oneR_f {L : Nat → Nat} {n : Nat} (hL : LT L n) : ∀ (r p q : Nat), p ≤ n → oneR L r p = .inl q → q ≤ n := by
  intro r
  induction r with
  | zero => exact fun p q hp h => pT_f hL hp h
  | succ r ih =>
    intro p q hp h
    rw [oneR] at h
    by_cases q1 : L p = 33
    · have := LT_n hL (p := p) (by omega)
      rw [if_pos q1] at h
      cases ho : oneR L r (p + 1) with
      | inl z =>
        rw [ho] at h
        cases h
        exact ih _ _ (by omega) ho
      | inr z =>
        rw [ho] at h
        cases h
    · rw [if_neg q1] at h
      by_cases q2 : L p = 40
      · have := LT_n hL (p := p) (by omega)
        rw [if_pos q2] at h
        cases ho : anyP L (oneR L r) (p + 1) with
        | inl z =>
          rw [ho] at h
          cases h
          exact anyP_f hL (oneR_n hL r) ih (by omega) ho
        | inr z =>
          obtain ⟨e, z⟩ := z
          rw [ho] at h
          have t := anyP_n (oneR_n hL r) ho
          have h : (if L z = 41 then (.inr (e, z + 1) : Rs Ex) else .inl z) = .inl q := h
          by_cases q3 : L z = 41
          · rw [if_pos q3] at h
            cases h
          · rw [if_neg q3] at h
            cases h
            omega
      · rw [if_neg q2] at h
        exact pT_f hL hp h
theorem pW_f {L : Nat → Nat} {n : Nat} (hL : LT L n) : ∀ (ws : List Nat) (p q : Nat), (∀ c, c ∈ ws → c < 128) → p ≤ n → pW L ws p = .inl q → q ≤ n
  | [], p, q, _, hp, h => by
    rw [pW] at h
    cases h
  | c :: cs, p, q, hc, hp, h => by
    rw [pW] at h
    by_cases q1 : L p = c
    · rw [if_pos q1] at h
      have := hc c List.mem_cons_self
      have l := LT_n hL (p := p) (by omega)
      exact pW_f hL cs (p + 1) q (fun x hx => hc x (List.mem_cons_of_mem _ hx)) (by omega) h
    · rw [if_neg q1] at h
      cases h
      exact hp
theorem wds_c : ∀ w, w < 5 → ∀ c, c ∈ wds w → c < 128 := by decide +kernel
theorem hdC_lt (x : Nat) : hdC x < 5 := by
  unfold hdC
  repeat' split
  all_goals omega
theorem pC_n {L : Nat → Nat} {n : Nat} (hL : LT L n) {p q : Nat} {c : Cl} (hp : p ≤ n) (h : pC L p = .inr (c, q)) : p ≤ q ∧ q ≤ n := by
  unfold pC at h
  cases hw : pW L (wds (hdC (L p))) p with
  | inl z =>
    rw [hw] at h
    cases h
  | inr z =>
    rw [hw] at h
    have t := pW_n hL _ _ _ (wds_c _ (hdC_lt _)) hp hw
    have h : (if hdC (L p) = 0 then (match pN L z with
      | .inl z => (.inl z : Rs Cl)
      | .inr (v, z) => .inr ((0, v, e00), z)) else if hdC (L p) < 3 then (match anyP L (oneR L 4) z with
      | .inl z => .inl z
      | .inr (e, z) => .inr ((hdC (L p), 0, e), z)) else .inr ((hdC (L p), 0, e00), z)) = .inr (c, q) := h
    by_cases q1 : hdC (L p) = 0
    · rw [if_pos q1] at h
      cases hn : pN L z with
      | inl y =>
        rw [hn] at h
        cases h
      | inr y =>
        obtain ⟨v, y⟩ := y
        rw [hn] at h
        have := pN_n hL hn
        cases h
        omega
    · rw [if_neg q1] at h
      by_cases q2 : hdC (L p) < 3
      · rw [if_pos q2] at h
        cases hn : anyP L (oneR L 4) z with
        | inl y =>
          rw [hn] at h
          cases h
        | inr y =>
          obtain ⟨v, y⟩ := y
          rw [hn] at h
          have := anyP_n (oneR_n hL 4) hn
          cases h
          omega
      · rw [if_neg q2] at h
        cases h
        omega
theorem pC_f {L : Nat → Nat} {n : Nat} (hL : LT L n) {p q : Nat} (hp : p ≤ n) (h : pC L p = .inl q) : q ≤ n := by
  unfold pC at h
  cases hw : pW L (wds (hdC (L p))) p with
  | inl z =>
    rw [hw] at h
    cases h
    exact pW_f hL _ _ _ (wds_c _ (hdC_lt _)) hp hw
  | inr z =>
    rw [hw] at h
    have t := pW_n hL _ _ _ (wds_c _ (hdC_lt _)) hp hw
    have h : (if hdC (L p) = 0 then (match pN L z with
      | .inl z => (.inl z : Rs Cl)
      | .inr (v, z) => .inr ((0, v, e00), z)) else if hdC (L p) < 3 then (match anyP L (oneR L 4) z with
      | .inl z => .inl z
      | .inr (e, z) => .inr ((hdC (L p), 0, e), z)) else .inr ((hdC (L p), 0, e00), z)) = .inl q := h
    by_cases q1 : hdC (L p) = 0
    · rw [if_pos q1] at h
      cases hn : pN L z with
      | inl y =>
        rw [hn] at h
        have := pN_f hn
        cases h
        omega
      | inr y =>
        rw [hn] at h
        cases h
    · rw [if_neg q1] at h
      by_cases q2 : hdC (L p) < 3
      · rw [if_pos q2] at h
        cases hn : anyP L (oneR L 4) z with
        | inl y =>
          rw [hn] at h
          cases h
          exact anyP_f hL (oneR_n hL 4) (oneR_f hL 4) t.2 hn
        | inr y =>
          rw [hn] at h
          cases h
      · rw [if_neg q2] at h
        cases h
theorem pL_f {L : Nat → Nat} {n : Nat} (hL : LT L n) : ∀ (k : Nat) (A : List Cl) (p q : Nat), p ≤ n → pL L k A p = .inl q → q ≤ n := by
  intro k
  induction k with
  | zero =>
    intro A p q hp h
    cases h
    exact hp
  | succ k ih =>
    intro A p q hp h
    rw [pL_s] at h
    cases hc : pC L p with
    | inl z =>
      rw [hc] at h
      cases h
      exact pC_f hL hp hc
    | inr z =>
      obtain ⟨c, z⟩ := z
      rw [hc] at h
      have t := pC_n hL hp hc
      have h : pLm L k (A ++ [c]) z = .inl q := h
      unfold pLm at h
      by_cases q1 : L z = 200
      · rw [if_pos q1] at h
        cases h
      · rw [if_neg q1] at h
        by_cases q2 : k = 0
        · rw [if_pos q2] at h
          cases h
          exact t.2
        · rw [if_neg q2] at h
          by_cases q3 : L z = 59
          · have := LT_n hL (p := z) (by omega)
            rw [if_pos q3] at h
            exact ih _ _ _ (by omega) h
          · rw [if_neg q3] at h
            cases h
            exact t.2
