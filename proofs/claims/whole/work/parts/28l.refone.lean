/-! The reference reads numbers and tests. -/
theorem r_in {x : Nat} (hx : x < 128 ∨ x = 200) {a b : Nat} (ha : a < 128) (hb : b < 128) : fM_in (cI x) (Int32.ofNat a) (Int32.ofNat b) = some (if a ≤ x ∧ x ≤ b then 1 else 0) := by
  rw [fM_in]
  simp only [cI_lt hx ha, cI_gt hx hb]
  by_cases q1 : x < a ∨ x = 200
  · rw [if_pos q1, if_neg (by omega)]
  · rw [if_neg q1]
    by_cases q2 : b < x ∧ ¬ x = 200
    · rw [if_pos q2, if_neg (by omega)]
    · rw [if_neg q2, if_pos (by omega)]
theorem r_digit {L : Nat → Nat} {n b j : Nat} {m0 m : zv_M} (h : RT L n m0) (hf : RF b j m0 m) {p : Nat} (hp : p ≤ n) (e : m.1 68 12 = Int32.ofNat p) : fM_isDigit m = some (if 48 ≤ L p ∧ L p ≤ 57 then 1 else 0) := by
  have e1 : fM_in (cI (L p)) 48 57 = some (if 48 ≤ L p ∧ L p ≤ 57 then 1 else 0) := r_in (a := 48) (b := 57) (LT_or h.1 p) (by decide) (by decide)
  rw [fM_isDigit, r_next h hf hp e, zb1_s, e1, zb1_s]
  by_cases q : 48 ≤ L p ∧ L p ≤ 57
  · rw [if_pos q]
    rfl
  · rw [if_neg q]
    rfl
/-- place and number alone differ -/
def DN (m m' : zv_M) (q : Nat) : Prop := m'.2 = m.2 ∧ (∀ o k, ¬ (o = 68 ∧ (k = 12 ∨ k = 13)) → m'.1 o k = m.1 o k) ∧ m'.1 68 12 = Int32.ofNat q
theorem DN_t {m m1 m2 : zv_M} {p q : Nat} (h1 : DN m m1 p) (h2 : DN m1 m2 q) : DN m m2 q := ⟨h2.1.trans h1.1, fun o k h => (h2.2.1 o k h).trans (h1.2.1 o k h), h2.2.2⟩
theorem DN_F {b j : Nat} {m0 m m' : zv_M} {q : Nat} (h : RF b j m0 m) (h2 : DN m m' q) : RF b j m0 m' := ⟨h2.1.trans h.1, fun o k hs => (h2.2.1 o k (fun z => hs (by unfold sR; omega))).trans (h.2 o k hs)⟩
theorem DN_S {b j : Nat} {m0 m m' : zv_M} {p d q : Nat} {E s : List Int32} (h : RSt b j m0 m p E s d) (h2 : DN m m' q) (hq : p ≤ q) (hq2 : q ≤ 100) : RSt b j m0 m' q E s d := by
  have hF := DN_F h.1 h2
  obtain ⟨h1, -, h3, h4, h5, h6, h7, h8⟩ := h
  exact ⟨hF, h2.2.2, (h2.2.1 _ _ (by omega)).trans h3, fun i hi => (h2.2.1 _ _ (by omega)).trans (h4 i hi), (h2.2.1 _ _ (by omega)).trans h5, fun i hi => (h2.2.1 _ _ (by omega)).trans (h6 i hi), (h2.2.1 _ _ (by omega)).trans h7, by omega⟩
theorem r_numS {L : Nat → Nat} {n b j : Nat} {m0 m : zv_M} (h : RT L n m0) {p v : Nat} (hf : RF b j m0 m) (e12 : m.1 68 12 = Int32.ofNat p) (hp : p ≤ n) (hd : 48 ≤ L p ∧ L p ≤ 57) (hv : m.1 68 13 = Int32.ofNat v) (hv2 : v < 100) {i : Int32} (hi : i < 2) : ∃ m', fM_takesNumber_l16 (i, m) = some (.inl (i + 1, m')) ∧ DN m m' (p + 1) ∧ m'.1 68 13 = Int32.ofNat (10 * v + (L p - 48)) := by
  have hl := LT_n h.1 (p := p) (by omega)
  have hn := h.1.1
  refine ⟨wI (wI m 68 13 (Int32.ofNat (10 * v + (L p - 48)))) 68 12 (Int32.ofNat (p + 1)), ?_, ⟨rfl, fun o k hk => ?_, wI_e _ _ _ _⟩, ?_⟩
  · have e1 : (10 : Int32) * Int32.ofNat v = Int32.ofNat (10 * v) := i_mu 10 v
    have e2 : Int32.ofNat (10 * v + L p) - 48 = Int32.ofNat (10 * v + (L p - 48)) := by
      rw [show 10 * v + (L p - 48) = 10 * v + L p - 48 by omega]
      exact i_mi (b := 48) (by omega) (by omega)
    have e3 : cI (L p) = Int32.ofNat (L p) := by rw [cI, if_neg (by omega)]
    rw [fM_takesNumber_l16, if_pos hi, r_digit h hf hp e12, if_pos hd, zb1_s, if_neg (by decide), r_next h hf hp e12, zb1_s, hv, e1, e3, i_pl, e2, wI_o _ _ (by decide), e12, inc]
  · rw [wI_o _ _ (by omega), wI_o _ _ (by omega)]
  · rw [wI_o _ _ (by decide), wI_e]
theorem r_num {L : Nat → Nat} {n b j : Nat} {m0 m : zv_M} (h : RT L n m0) {p : Nat} (hf : RF b j m0 m) (e12 : m.1 68 12 = Int32.ofNat p) (hp : p ≤ n) : match pN L p with
    | .inl _ => fM_takesNumber m = some (0, m)
    | .inr (v, q) => ∃ m', fM_takesNumber m = some (1, m') ∧ DN m m' q ∧ m'.1 68 13 = Int32.ofNat v := by
  have dg : ∀ x, (dgt (L x) = true) = (48 ≤ L x ∧ L x ≤ 57) := fun x => by
    unfold dgt
    simp
  unfold pN
  simp only [dg]
  by_cases q1 : 48 ≤ L p ∧ L p ≤ 57
  · have hl := LT_n h.1 (p := p) (by omega)
    have hr1 : DN m (wI m 68 13 0) p := ⟨rfl, fun o k hk => wI_o _ _ (by omega), (wI_o _ _ (by decide)).trans e12⟩
    obtain ⟨m1, a1, a2, a3⟩ := r_numS h (DN_F hf hr1) hr1.2.2 hp q1 (v := 0) (wI_e _ _ _ _) (by decide) (i := 0) (by decide)
    have a2 := DN_t hr1 a2
    obtain ⟨fu, hfu⟩ : ∃ fu, zFU = fu + 3 := ⟨zFU - 3, (Nat.sub_add_cancel (Nat.le_of_lt (zn_FU (by decide)))).symm⟩
    have pre : fM_takesNumber m = zb1 (whileN (fu + 2) fM_takesNumber_l16 (1, m1)) (fun r => some r) := by
      rw [fM_takesNumber, r_digit h hf hp e12, if_pos q1, zb1_s, if_neg (by decide), hfu]
      show zb1 (whileN (fu + 2 + 1) _ _) _ = _
      rw [whileN, a1]
      rfl
    rw [if_pos q1]
    by_cases q2 : 48 ≤ L (p + 1) ∧ L (p + 1) ≤ 57
    · rw [if_pos q2]
      obtain ⟨m2, b1, b2, b3⟩ := r_numS h (DN_F hf a2) a2.2.2 (by omega) q2 a3 (by omega) (i := 1) (by decide)
      refine ⟨m2, ?_, DN_t a2 b2, ?_⟩
      · rw [pre, whileN, b1]
        show zb1 (whileN (fu + 1) _ (1 + 1, m2)) _ = _
        rw [whileN, fM_takesNumber_l16, if_neg (by decide)]
        rfl
      · rw [b3, show 10 * (10 * 0 + (L p - 48)) + (L (p + 1) - 48) = 10 * (L p - 48) + (L (p + 1) - 48) by omega]
    · rw [if_neg q2]
      refine ⟨m1, ?_, a2, ?_⟩
      · rw [pre, whileN, fM_takesNumber_l16, if_pos (by decide), r_digit h (DN_F hf a2) (by omega) a2.2.2, if_neg q2, zb1_s, if_pos rfl]
        rfl
      · rw [a3, show 10 * 0 + (L p - 48) = L p - 48 by omega]
  · rw [if_neg q1]
    show fM_takesNumber m = _
    rw [fM_takesNumber, r_digit h hf hp e12, if_neg q1, zb1_s, if_pos rfl]
theorem r_place {x : Nat} (hx : x < 128 ∨ x = 200) : fM_place (cI x) = some (match plc x with
    | none => -1
    | some pl => Int32.ofNat pl) := by
  have c : ∀ k, k < 128 → (cI x = Int32.ofNat k) = (x = k) := fun k hk => cI_eq hx hk
  have c1 : (cI x = 120) = (x = 120) := c 120 (by decide)
  have c2 : (cI x = 121) = (x = 121) := c 121 (by decide)
  have c3 : (cI x = 115) = (x = 115) := c 115 (by decide)
  have c4 : (cI x = 100) = (x = 100) := c 100 (by decide)
  have c5 : (cI x = 110) = (x = 110) := c 110 (by decide)
  have c6 : (cI x = 119) = (x = 119) := c 119 (by decide)
  unfold fM_place plc
  simp only [c1, c2, c3, c4, c5, c6]
  by_cases q4 : x = 100
  · subst q4; rfl
  by_cases q5 : x = 110
  · subst q5; rfl
  by_cases q3 : x = 115
  · subst q3; rfl
  by_cases q6 : x = 119
  · subst q6; rfl
  by_cases q1 : x = 120
  · subst q1; rfl
  by_cases q2 : x = 121
  · subst q2; rfl
  rw [if_neg q4, if_neg q5, if_neg q3, if_neg q6, if_neg q1, if_neg q2, if_neg q4, if_neg q5, if_neg q3, if_neg q6, if_neg q1, if_neg q2]
theorem plc_lt {x pl : Nat} (h : plc x = some pl) : pl < 6 := by
  unfold plc at h
  repeat' split at h
  all_goals first | (cases h; decide) | cases h
theorem r_test {L : Nat → Nat} {n b j : Nat} {m0 m : zv_M} (h : RT L n m0) (hb : b ≤ 500) {p d : Nat} {E s : List Int32} (hr : RSt b j m0 m p E s d) (hp : p ≤ n) : match pT L p with
    | .inl q => ∃ m', fM_takesTest m = some (0, m') ∧ RF b j m0 m' ∧ m'.1 68 12 = Int32.ofNat q
    | .inr (x, q) => ∃ m', RSt b j m0 m' q (E ++ x.2) s d ∧ fM_takesTest m = zb1 (fM_whole m') (fun m12 => some (1, m12)) := by
  have o := LT_or h.1
  have hn := h.1.1
  cases hl : plc (L p) with
  | none =>
    have e : pT L p = .inl p := by rw [pT, hl]
    rw [e]
    refine ⟨m, ?_, hr.1, hr.2.1⟩
    rw [fM_takesTest, r_next h hr.1 hp hr.2.1, zb1_s, r_place (o p), hl, zb1_s, if_pos (by decide)]
  | some pl =>
    have hpn : p < n := by
      rcases o p with z | z
      · exact LT_n h.1 (by omega)
      · rw [z] at hl
        cases hl
    have hpl := plc_lt hl
    have hr1 := RS_p hr (q := p + 1) (by omega) (by omega)
    have e1 : fM_in (cI (L (p + 1))) 60 62 = some (if 60 ≤ L (p + 1) ∧ L (p + 1) ≤ 62 then 1 else 0) := r_in (a := 60) (b := 62) (o _) (by decide) (by decide)
    have pre : fM_takesTest m = if (if 60 ≤ L (p + 1) ∧ L (p + 1) ≤ 62 then (1 : Int32) else 0) = 0 then some (0, wI m 68 12 (Int32.ofNat (p + 1))) else zb2 (fM_takesNumber (wI (wI m 68 12 (Int32.ofNat (p + 1))) 68 12 (Int32.ofNat (p + 1 + 1)))) (fun r9 m10 => if r9 = 0 then some (0, m10) else zb1 (fM_emits (((1000 * Int32.ofNat pl) + (100 * (cI (L (p + 1)) - 60))) + (m10.1 68 13)) m10) (fun m11 => zb1 (fM_whole m11) (fun m12 => some (1, m12)))) := by
      rw [fM_takesTest, r_next h hr.1 hp hr.2.1, zb1_s, r_place (o p), hl, zb1_s, if_neg (i_lt0 (by omega)), hr.2.1, inc, r_next h hr1.1 (by omega) hr1.2.1, zb1_s, e1, zb1_s, hr1.2.1, inc]
    by_cases q1 : 60 ≤ L (p + 1) ∧ L (p + 1) ≤ 62
    · have hl1 := LT_n h.1 (p := p + 1) (by omega)
      have e : pT L p = (match pN L (p + 2) with
        | .inl q => .inl q
        | .inr (v, q) => .inr (xT pl (L (p + 1) - 60) v, q)) := by rw [pT, hl]; exact if_pos q1
      have hr2 := RS_p hr1 (q := p + 1 + 1) (by omega) (by omega)
      have hN := r_num h hr2.1 hr2.2.1 (by omega)
      rw [if_pos q1, if_neg (by decide)] at pre
      rw [e, pre]
      have hN : match pN L (p + 2) with
        | .inl _ => fM_takesNumber (wI (wI m 68 12 (Int32.ofNat (p + 1))) 68 12 (Int32.ofNat (p + 1 + 1))) = some (0, wI (wI m 68 12 (Int32.ofNat (p + 1))) 68 12 (Int32.ofNat (p + 1 + 1)))
        | .inr (v, q) => ∃ m', fM_takesNumber (wI (wI m 68 12 (Int32.ofNat (p + 1))) 68 12 (Int32.ofNat (p + 1 + 1))) = some (1, m') ∧ DN (wI (wI m 68 12 (Int32.ofNat (p + 1))) 68 12 (Int32.ofNat (p + 1 + 1))) m' q ∧ m'.1 68 13 = Int32.ofNat v := hN
      cases eN : pN L (p + 2) with
      | inl z =>
        rw [eN] at hN
        obtain rfl := pN_f eN
        refine ⟨_, ?_, hr2.1, hr2.2.1⟩
        rw [hN, zb2_s, if_pos rfl]
      | inr z =>
        obtain ⟨v, z⟩ := z
        rw [eN] at hN
        obtain ⟨m', a1, a2, a3⟩ := hN
        obtain ⟨n1, n2, n3⟩ := pN_n h.1 eN
        have a2 := DN_S hr2 a2 (by omega) (by omega)
        have hES := hr.2.2.2.2.2.2.2.1
        have ev : ((1000 : Int32) * Int32.ofNat pl + 100 * (cI (L (p + 1)) - 60)) + Int32.ofNat v = Int32.ofNat (1000 * pl + 100 * (L (p + 1) - 60) + v) := by
          have e1 : (1000 : Int32) * Int32.ofNat pl = Int32.ofNat (1000 * pl) := i_mu 1000 pl
          have e2 : cI (L (p + 1)) = Int32.ofNat (L (p + 1)) := by rw [cI, if_neg (by omega)]
          have e3 : Int32.ofNat (L (p + 1)) - 60 = Int32.ofNat (L (p + 1) - 60) := i_mi (b := 60) (by omega) (by omega)
          have e4 : (100 : Int32) * Int32.ofNat (L (p + 1) - 60) = Int32.ofNat (100 * (L (p + 1) - 60)) := i_mu 100 _
          rw [e1, e2, e3, e4, i_pl, i_pl]
        refine ⟨_, RS_e a2 (by omega) (Int32.ofNat (1000 * pl + 100 * (L (p + 1) - 60) + v)), ?_⟩
        rw [a1, zb2_s, if_neg (by decide), a3, ev, r_emits hb a2 (by omega), zb1_s]
    · have e : pT L p = .inl (p + 1) := by rw [pT, hl]; exact if_neg q1
      rw [if_neg q1, if_pos rfl] at pre
      rw [e]
      exact ⟨_, pre, hr1.1, hr1.2.1⟩
