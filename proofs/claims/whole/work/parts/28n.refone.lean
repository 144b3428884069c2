/-! The reference reads one. -/
theorem r_oneT {b j n : Nat} {L : Nat → Nat} {m0 : zv_M} (h : RT L n m0) (hb : b ≤ 500) {d p r : Nat} {E s : List Int32} {m : zv_M} (hp : p ≤ n) (hr : RSt b j m0 m p E s d) (hL : (¬ L p = 33 ∧ ¬ L p = 40) ∨ d = 4) : ONR b j m0 r d p E s m (pT L p) := by
  have o := LT_or h.1
  have c1 : (cI (L p) = 33) = (L p = 33) := cI_eq (k := 33) (o _) (by decide)
  have c2 : (cI (L p) = 40) = (L p = 40) := cI_eq (k := 40) (o _) (by decide)
  have pre : fM_takesE_l22 (Int32.ofNat j) (1, m) = if L p = 33 then fM_takesE_j43 1 m (cI (L p)) else if L p = 40 then fM_takesE_j43 1 m (cI (L p)) else zb2 (fM_takesTest m) (fun r9 m10 => if r9 = 0 then some (.inr (0, m10)) else some (.inl (0, m10))) := by
    rw [fM_takesE_l22, r_next h hr.1 hp hr.2.1, zb1_s, if_neg (by decide)]
    simp only [c1, c2]
  by_cases t : L p = 33 ∨ L p = 40
  · have hd : d = 4 := by
      rcases hL with z | z
      · exact absurd t (by omega)
      · exact z
    have e : pT L p = .inl p := by
      rw [pT]
      rcases t with z | z <;> rw [z] <;> rfl
    have e2 : fM_takesE_l22 (Int32.ofNat j) (1, m) = some (.inr (0, m)) := by
      have ej : fM_takesE_j43 1 m (cI (L p)) = some (.inr (0, m)) := by
        rw [fM_takesE_j43, hr.2.2.2.2.2.2.1, hd, if_pos (by decide)]
      rw [pre, ej]
      rcases t with z | z
      · rw [if_pos z]
      · rw [if_neg (by omega), if_pos z]
    rw [e]
    exact ⟨m, 0, by omega, fun fu => by rw [whileN, e2], hr.1, hr.2.1⟩
  · have hh := r_test h hb hr hp
    rw [if_neg (by omega), if_neg (by omega)] at pre
    cases e : pT L p with
    | inl q =>
      rw [e] at hh
      obtain ⟨m', a1, a2, a3⟩ := hh
      have := pT_f h.1 hp e
      have hq : p ≤ q := by
        unfold pT at e
        cases hl : plc (L p) with
        | none =>
          rw [hl] at e
          cases e
          omega
        | some pl =>
          rw [hl] at e
          have e : (if 60 ≤ L (p + 1) ∧ L (p + 1) ≤ 62 then (match pN L (p + 2) with
            | .inl q => (.inl q : Rs Ex)
            | .inr (v, q) => .inr (xT pl (L (p + 1) - 60) v, q)) else .inl (p + 1)) = .inl q := e
          by_cases q1 : 60 ≤ L (p + 1) ∧ L (p + 1) ≤ 62
          · rw [if_pos q1] at e
            cases hn : pN L (p + 2) with
            | inl z =>
              rw [hn] at e
              have := pN_f hn
              cases e
              omega
            | inr z =>
              rw [hn] at e
              cases e
          · rw [if_neg q1] at e
            cases e
            omega
      exact ⟨m', 0, by omega, fun fu => by rw [whileN, pre, a1, zb2_s, if_pos rfl], a2, a3⟩
    | inr q =>
      obtain ⟨x, q⟩ := q
      rw [e] at hh
      obtain ⟨m', a1, a2⟩ := hh
      have t := pT_n h.1 e
      refine ⟨m', 1, by omega, a1, fun c m'' hc hw fu => ?_⟩
      rw [whileN, pre, a2, WR_w hw (by omega), zb1_s, zb2_s, if_neg (by decide)]
theorem r_down {b j n : Nat} {L : Nat → Nat} {m0 : zv_M} (h : RT L n m0) {d p x : Nat} {E s : List Int32} {m : zv_M} (hp : p < n) (hr : RSt b j m0 m p E s d) (hd : d < 4) (hx : L p = x) (hx2 : x = 33 ∨ x = 40) : ∃ m1, fM_takesE_l22 (Int32.ofNat j) (1, m) = some (.inl (1, m1)) ∧ RSt b j m0 m1 (p + 1) E (s ++ [Int32.ofNat x]) (d + 1) := by
  have hn := h.1.1
  have hl : s.length ≤ p := by
    have := hr.2.2.2.2.2.2.2.1
    omega
  have ec : cI (L p) = Int32.ofNat x := by rw [hx, cI, if_neg (by omega)]
  have hr1 := RS_d hr (d + 1)
  refine ⟨_, ?_, RS_push hr1 (by omega) (Int32.ofNat x)⟩
  have ej : fM_takesE_j43 1 m (Int32.ofNat x) = some (.inl (1, wI (wI (wI (wI m 68 24 (Int32.ofNat (d + 1))) 80 s.length (Int32.ofNat x)) 68 23 (Int32.ofNat (s.length + 1))) 68 12 (Int32.ofNat (p + 1)))) := by
    rw [fM_takesE_j43, hr.2.2.2.2.2.2.1, if_neg (show ¬ Int32.ofNat d = 4 from fun z => by have := (i_eq (b := 4) (by omega) (by decide)).mp z; omega), inc, hr1.2.2.2.2.1, zI_n (by omega) (by omega), zg_t, i_tn (by omega), wI_o _ _ (by omega), hr1.2.2.2.2.1, inc, wI_o _ _ (by omega), wI_o _ _ (by omega), hr1.2.1, inc]
  rw [fM_takesE_l22, r_next h hr.1 (by omega) hr.2.1, zb1_s, if_neg (by decide), ec, ej]
  rcases hx2 with rfl | rfl
  · rw [if_pos (show Int32.ofNat 33 = 33 from rfl)]
  · rw [if_neg (show ¬ Int32.ofNat 40 = 33 by decide), if_pos (show Int32.ofNat 40 = 40 from rfl)]
/-- the turn behind all that hangs together -/
theorem r_end {b j n : Nat} {L : Nat → Nat} {m0 m m2 : zv_M} (h : RT L n m0) (hj : j < 60) {z d : Nat} {E s : List Int32} (hf : RF b j m0 m) (hz : m.1 68 12 = Int32.ofNat z) (hzn : z ≤ n) (q1 : ¬ L z = 124) (q2 : ¬ L z = 38) (hs : fM_settle 124 m = some m2) (h2 : RSt b j m0 m2 z E s d) : ∃ M, RSt b j m0 M z E s d ∧ M.1 78 j = Int32.ofNat (b + E.length) ∧ fM_takesE_l22 (Int32.ofNat j) (0, m) = (if M.1 68 23 = 0 then some (.inr (1, M)) else if L z = 41 then zb1 (fM_whole (wI (wI (wI M 68 23 ((M.1 68 23) - 1)) 68 24 (((wI M 68 23 ((M.1 68 23) - 1)).1 68 24) - 1)) 68 12 (((wI (wI M 68 23 ((M.1 68 23) - 1)) 68 24 (((wI M 68 23 ((M.1 68 23) - 1)).1 68 24) - 1)).1 68 12) + 1))) (fun m8 => some (.inl (0, m8))) else some (.inr (0, M))) := by
  have o := LT_or h.1
  have c1 : (cI (L z) = 38) = (L z = 38) := cI_eq (k := 38) (o _) (by decide)
  have c2 : (cI (L z) = 124) = (L z = 124) := cI_eq (k := 124) (o _) (by decide)
  have c3 : (cI (L z) = 41) = (L z = 41) := cI_eq (k := 41) (o _) (by decide)
  refine ⟨wI m2 78 j (Int32.ofNat (b + E.length)), RS_f h2 (Or.inr ⟨rfl, rfl⟩) _, wI_e _ _ _ _, ?_⟩
  rw [fM_takesE_l22, r_next h hf hzn hz, zb1_s, if_pos rfl]
  simp only [c1, c2, c3]
  rw [if_neg q2, if_neg q1, hs, zb1_s, zI_n (by omega) hj, zg_t, i_tn (by omega), h2.2.2.1]
theorem r_one {b j n : Nat} {L : Nat → Nat} {m0 : zv_M} (h : RT L n m0) (hb : b ≤ 500) (hj : j < 60) : ∀ r, r ≤ 4 → ONE b j n L m0 r := by
  intro r
  induction r with
  | zero => exact fun _ d p E s m hd hp hr => r_oneT h hb hp hr (Or.inr (by omega))
  | succ r ih =>
    intro h4 d p E s m hd hp hr
    have hone := ih (by omega)
    rw [oneR]
    by_cases q1 : L p = 33
    · have hl := LT_n h.1 (p := p) (by omega)
      rw [if_pos q1]
      obtain ⟨m1, a1, a2⟩ := r_down h hl hr (by omega) q1 (Or.inl rfl)
      have ho := hone (d + 1) (p + 1) E _ m1 (by omega) (by omega) a2
      cases eo : oneR L r (p + 1) with
      | inl z =>
        rw [eo] at ho
        exact FA_s ho a1
      | inr z =>
        obtain ⟨e, z⟩ := z
        rw [eo] at ho
        obtain ⟨m', k, c1, c2, c3⟩ := ho
        obtain ⟨m2, d1, d2⟩ := WR_33 hb c2 (by omega)
        refine ⟨m2, k + 1, by omega, ?_, fun c m'' hc hw fu => ?_⟩
        · rw [List.append_assoc] at d1
          exact d1
        · show whileN (fu + k + 1) _ _ = _
          rw [whileN, a1]
          exact c3 (c + 1) m'' (by omega) (d2 c m'' hw) fu
    · rw [if_neg q1]
      by_cases q2 : L p = 40
      · have hl := LT_n h.1 (p := p) (by omega)
        rw [if_pos q2]
        obtain ⟨m1, a1, a2⟩ := r_down h hl hr (by omega) q2 (Or.inr rfl)
        have ha := r_any h hb hone (by omega) (show d + 1 + r = 4 by omega) (p := p + 1) (Or.inr ⟨s, rfl⟩) (by omega) a2
        cases ea : anyP L (oneR L r) (p + 1) with
        | inl z =>
          rw [ea] at ha
          exact FA_s ha a1
        | inr z =>
          obtain ⟨e, z⟩ := z
          rw [ea] at ha
          obtain ⟨m', k, m2, b1, b2, b3, b4, b5, b6, b7, b8⟩ := ha
          have hz := (anyP_n (oneR_n h.1 r) ea).2
          obtain ⟨M, k1, k2, k3⟩ := r_end h hj b3 b4 hz b5 b6 b7 b8
          obtain ⟨t1, t2, t3⟩ := RS_top k1
          rw [t1, if_neg (show ¬ Int32.ofNat (s.length + 1) = 0 from fun z => by have := (i_eq (b := 0) (by omega) (by decide)).mp z; omega)] at k3
          show ONR b j m0 (r + 1) d p E s m (if L z = 41 then (.inr (e, z + 1) : Rs Ex) else .inl z)
          by_cases q3 : L z = 41
          · have hz2 := LT_n h.1 (p := z) (by omega)
            have hn := h.1.1
            rw [if_pos q3]
            rw [if_pos q3, n_one _ (by omega) (by omega), Nat.add_sub_cancel, wI_o _ _ (by omega), k1.2.2.2.2.2.2.1, n_one _ (by omega) (by omega), Nat.add_sub_cancel, wI_o _ _ (by omega), wI_o _ _ (by omega), k1.2.1, inc] at k3
            refine ⟨_, k + 2, by omega, RS_p (RS_d (RS_pop k1) d) (q := z + 1) (by omega) (by omega), fun c m'' hc hw fu => ?_⟩
            rw [show fu + (k + 2) = fu + 1 + k + 1 by omega, whileN, a1]
            show whileN (fu + 1 + k) _ _ = _
            rw [b2, whileN, k3, WR_w hw (by omega), zb1_s]
          · rw [if_neg q3] at k3
            rw [if_neg q3]
            refine ⟨M, k + 1, by omega, fun fu => ?_, k1.1, k1.2.1⟩
            rw [show fu + (k + 1) + 1 = fu + 1 + k + 1 by omega, whileN, a1]
            show whileN (fu + 1 + k) _ _ = _
            rw [b2, whileN, k3]
      · rw [if_neg q2]
        exact r_oneT h hb hp hr (Or.inl ⟨q1, q2⟩)
