/-! The reference reads all that hangs together. -/
def FA (b j : Nat) (m0 : zv_M) (x : Int32 × zv_M) (p q : Nat) : Prop := ∃ m' k, k + p ≤ q ∧ (∀ fu, whileN (fu + k + 1) (fM_takesE_l22 (Int32.ofNat j)) x = some (0, m')) ∧ RF b j m0 m' ∧ m'.1 68 12 = Int32.ofNat q
theorem FA_s {b j : Nat} {m0 : zv_M} {x y : Int32 × zv_M} {p q : Nat} (h : FA b j m0 y (p + 1) q) (e : fM_takesE_l22 (Int32.ofNat j) x = some (.inl y)) : FA b j m0 x p q := by
  obtain ⟨m', k, h1, h2, h3⟩ := h
  refine ⟨m', k + 1, by omega, fun fu => ?_, h3⟩
  show whileN (fu + k + 1 + 1) _ _ = _
  rw [whileN, e]
  exact h2 fu
def ONR (b j : Nat) (m0 : zv_M) (r d p : Nat) (E s : List Int32) (m : zv_M) (R : Rs Ex) : Prop := match R with
    | .inl q => FA b j m0 (1, m) p q
    | .inr (e, q) => ∃ m' k, k + p ≤ q ∧ RSt b j m0 m' q (E ++ e.2) s d ∧ ∀ c m'', c + r < 900 → WR c m' m'' → ∀ fu, whileN (fu + k) (fM_takesE_l22 (Int32.ofNat j)) (1, m) = whileN fu (fM_takesE_l22 (Int32.ofNat j)) (0, m'')
def ONE (b j n : Nat) (L : Nat → Nat) (m0 : zv_M) (r : Nat) : Prop := ∀ (d p : Nat) (E s : List Int32) (m : zv_M), d + r = 4 → p ≤ n → RSt b j m0 m p E s d → ONR b j m0 r d p E s m (oneR L r p)
def ANY (b j : Nat) (L : Nat → Nat) (m0 : zv_M) (d q : Nat) (E s : List Int32) (x : Int32 × zv_M) (R : Rs Ex) : Prop := match R with
    | .inl z => FA b j m0 x q z
    | .inr (e, z) => ∃ m' k m2, k + q ≤ z ∧ (∀ fu, whileN (fu + k) (fM_takesE_l22 (Int32.ofNat j)) x = whileN fu (fM_takesE_l22 (Int32.ofNat j)) (0, m')) ∧ RF b j m0 m' ∧ m'.1 68 12 = Int32.ofNat z ∧ ¬ L z = 124 ∧ ¬ L z = 38 ∧ fM_settle 124 m' = some m2 ∧ RSt b j m0 m2 z (E ++ e.2) s d
theorem ANY_s {b j : Nat} {L : Nat → Nat} {m0 : zv_M} {d q q1 k : Nat} {E s : List Int32} {x y : Int32 × zv_M} {R : Rs Ex} (h : ANY b j L m0 d q1 E s y R) (hk : k + q ≤ q1) (e : ∀ fu, whileN (fu + k) (fM_takesE_l22 (Int32.ofNat j)) x = whileN fu (fM_takesE_l22 (Int32.ofNat j)) y) : ANY b j L m0 d q E s x R := by
  cases R with
  | inl z =>
    obtain ⟨m', k1, h1, h2, h3⟩ := h
    refine ⟨m', k1 + k, by omega, fun fu => ?_, h3⟩
    rw [show fu + (k1 + k) + 1 = fu + k1 + 1 + k by omega, e]
    exact h2 fu
  | inr z =>
    obtain ⟨c, z⟩ := z
    obtain ⟨m', k1, m2, h1, h2, h3⟩ := h
    refine ⟨m', k1 + k, m2, by omega, fun fu => ?_, h3⟩
    rw [show fu + (k1 + k) = fu + k1 + k by omega, e]
    exact h2 fu
/-- a sign comes onto the pile -/
theorem r_sign {b j n : Nat} {L : Nat → Nat} {m0 m m6 : zv_M} (h : RT L n m0) {p d6 : Nat} {E6 s6 : List Int32} (hf : RF b j m0 m) (hp : m.1 68 12 = Int32.ofNat p) (hpn : p < n) {x : Nat} (hx : L p = x) (hx2 : x = 38 ∨ x = 124) (hs : fM_settle (Int32.ofNat x) m = some m6) (h6 : RSt b j m0 m6 p E6 s6 d6) : ∃ m7, fM_takesE_l22 (Int32.ofNat j) (0, m) = some (.inl (1, m7)) ∧ RSt b j m0 m7 (p + 1) E6 (s6 ++ [Int32.ofNat x]) d6 := by
  have hn := h.1.1
  have hl : s6.length ≤ p := by
    have := h6.2.2.2.2.2.2.2.1
    omega
  have ec : cI (L p) = Int32.ofNat x := by rw [hx, cI, if_neg (by omega)]
  refine ⟨_, ?_, RS_push h6 (by omega) (Int32.ofNat x)⟩
  have ej : fM_takesE_j122 m (Int32.ofNat x) = some (.inl (1, wI (wI (wI m6 80 s6.length (Int32.ofNat x)) 68 23 (Int32.ofNat (s6.length + 1))) 68 12 (Int32.ofNat (p + 1)))) := by
    rw [fM_takesE_j122, hs, zb1_s, h6.2.2.2.2.1, zI_n (by omega) (by omega), zg_t, i_tn (by omega), wI_o _ _ (by omega), h6.2.2.2.2.1, inc, wI_o _ _ (by omega), wI_o _ _ (by omega), h6.2.1, inc]
  rw [fM_takesE_l22, r_next h hf (by omega) hp, zb1_s, if_pos rfl, ec, ej]
  rcases hx2 with rfl | rfl
  · rw [if_pos (show Int32.ofNat 38 = 38 from rfl)]
  · rw [if_neg (show ¬ Int32.ofNat 124 = 38 by decide), if_pos (show Int32.ofNat 124 = 124 from rfl)]
theorem r_anyL {b j n : Nat} {L : Nat → Nat} {m0 : zv_M} (h : RT L n m0) (hb : b ≤ 500) {r : Nat} (hone : ONE b j n L m0 r) (hr9 : r < 800) {d : Nat} (hd : d + r = 4) : ∀ (k : Nat) (A B : Option Ex) (C : Ex) (q : Nat) (E s : List Int32) (m : zv_M), okT s → q ≤ n → n ≤ q + k → RSt b j m0 m q (E ++ oL A ++ oL B ++ C.2) (s ++ pA 124 A ++ pA 38 B) d → ANY b j L m0 d q E s (0, m) (anyL L (oneR L r) k A B C q) := by
  have stop : ∀ (A B : Option Ex) (C : Ex) (q : Nat) (E s : List Int32) (m : zv_M), okT s → RSt b j m0 m q (E ++ oL A ++ oL B ++ C.2) (s ++ pA 124 A ++ pA 38 B) d → ¬ L q = 124 → ¬ L q = 38 → ANY b j L m0 d q E s (0, m) (.inr (orO A (anO B C), q)) := fun A B C q E s m hs hr t1 t2 => by
    obtain ⟨m2, k1, k2⟩ := settle_A hb hs hr
    exact ⟨m, 0, m2, by omega, fun fu => rfl, hr.1, hr.2.1, t1, t2, k2, k1⟩
  intro k
  induction k with
  | zero =>
    intro A B C q E s m hs hq hk hr
    have e := h.1.2.2 q (by omega)
    exact stop A B C q E s m hs hr (by omega) (by omega)
  | succ k ih =>
    intro A B C q E s m hs hq hk hr
    rw [anyL]
    by_cases q1 : L q = 124
    · have hl := LT_n h.1 (p := q) (by omega)
      rw [if_pos q1]
      obtain ⟨m6, a1, a2⟩ := settle_A hb hs hr
      obtain ⟨m7, b1, b2⟩ := r_sign h hr.1 hr.2.1 hl q1 (Or.inr rfl) a2 a1
      have ho := hone d (q + 1) _ _ m7 hd (by omega) b2
      have one1 : ∀ fu, whileN (fu + 1) (fM_takesE_l22 (Int32.ofNat j)) (0, m) = whileN fu (fM_takesE_l22 (Int32.ofNat j)) (1, m7) := fun fu => by rw [whileN, b1]
      cases eo : oneR L r (q + 1) with
      | inl z =>
        rw [eo] at ho
        exact FA_s ho b1
      | inr z =>
        obtain ⟨c, z⟩ := z
        rw [eo] at ho
        obtain ⟨m', kk, c1, c2, c3⟩ := ho
        have t := oneR_n h.1 _ _ _ _ eo
        have hw := WR_0 c2 (Or.inr ⟨s, _, rfl, by decide⟩)
        have c2 : RSt b j m0 m' z (E ++ oL (some (orO A (anO B C))) ++ oL none ++ c.2) (s ++ pA 124 (some (orO A (anO B C))) ++ pA 38 none) d := by
          rw [show oL none = [] from rfl, show pA 38 none = [] from rfl, List.append_nil, List.append_nil]
          exact c2
        have := ih _ _ _ z E s m' hs t.2 (by omega) c2
        refine ANY_s this (k := kk + 1) (by omega) fun fu => ?_
        show whileN (fu + kk + 1) _ _ = _
        rw [one1, c3 0 m' (by omega) hw fu]
    · rw [if_neg q1]
      by_cases q2 : L q = 38
      · have hl := LT_n h.1 (p := q) (by omega)
        rw [if_pos q2]
        obtain ⟨m6, a1, a2⟩ := settle_38 hb hs hr
        obtain ⟨m7, b1, b2⟩ := r_sign h hr.1 hr.2.1 hl q2 (Or.inl rfl) a2 a1
        have ho := hone d (q + 1) _ _ m7 hd (by omega) b2
        have one1 : ∀ fu, whileN (fu + 1) (fM_takesE_l22 (Int32.ofNat j)) (0, m) = whileN fu (fM_takesE_l22 (Int32.ofNat j)) (1, m7) := fun fu => by rw [whileN, b1]
        cases eo : oneR L r (q + 1) with
        | inl z =>
          rw [eo] at ho
          exact FA_s ho b1
        | inr z =>
          obtain ⟨c, z⟩ := z
          rw [eo] at ho
          obtain ⟨m', kk, c1, c2, c3⟩ := ho
          have t := oneR_n h.1 _ _ _ _ eo
          have hw := WR_0 c2 (Or.inr ⟨s ++ pA 124 A, _, rfl, by decide⟩)
          have := ih A (some (anO B C)) c z E s m' hs t.2 (by omega) c2
          refine ANY_s this (k := kk + 1) (by omega) fun fu => ?_
          show whileN (fu + kk + 1) _ _ = _
          rw [one1, c3 0 m' (by omega) hw fu]
      · rw [if_neg q2]
        exact stop A B C q E s m hs hr q1 q2
theorem r_any {b j n : Nat} {L : Nat → Nat} {m0 : zv_M} (h : RT L n m0) (hb : b ≤ 500) {r : Nat} (hone : ONE b j n L m0 r) (hr9 : r < 800) {d : Nat} (hd : d + r = 4) {p : Nat} {E s : List Int32} {m : zv_M} (hs : okT s) (hp : p ≤ n) (hr : RSt b j m0 m p E s d) : ANY b j L m0 d p E s (1, m) (anyP L (oneR L r) p) := by
  have hn := h.1.1
  have ho := hone d p E s m hd hp hr
  rw [anyP]
  cases eo : oneR L r p with
  | inl z =>
    rw [eo] at ho
    exact ho
  | inr z =>
    obtain ⟨c, z⟩ := z
    rw [eo] at ho
    obtain ⟨m', kk, c1, c2, c3⟩ := ho
    have t := oneR_n h.1 _ _ _ _ eo
    have hw := WR_0 c2 (by
      rcases hs with rfl | ⟨t, rfl⟩
      · exact Or.inl rfl
      · exact Or.inr ⟨t, 40, rfl, by decide⟩)
    have c2 : RSt b j m0 m' z (E ++ oL none ++ oL none ++ c.2) (s ++ pA 124 none ++ pA 38 none) d := by
      rw [show oL none = [] from rfl, show pA 124 none = [] from rfl, show pA 38 none = [] from rfl, List.append_nil, List.append_nil, List.append_nil, List.append_nil]
      exact c2
    have := r_anyL h hb hone hr9 hd 100 none none c z E s m' hs t.2 (by omega) c2
    exact ANY_s this (k := kk) (by omega) fun fu => c3 0 m' (by omega) hw fu
