theorem n_oneR {L : Nat → Nat} {n W : Nat} {m : zv_M} (h : TXN L n W m) : ∀ (r fu d : Nat), d + r = 4 → 2 * r + 1 ≤ fu → ∀ p, p ≤ n → nR m L (vE W) (fRe_readOne_readAny fu true (Int32.ofNat d) (rdA m L p 0)) (oneR L r p) := by
  have o := LT_or h.1
  have hn := h.1.1
  have r7 : ∀ x c, (rdA m L x c).1 33 7 = cI (L x) := fun x c => mR_7 _ _ _ _
  have r8 : ∀ x c, (rdA m L x c).1 33 8 = c := fun x c => mR_8 _ _ _ _
  have r9 : ∀ x c, (rdA m L x c).1 33 9 = Int32.ofNat W := fun x c => (mR_x (by omega)).trans h.2.2.2.1
  have hW5 := h.2.2.2.2.2
  have hall := all5 W (by omega) h.2.2.2.2.1
  have c1 : ∀ p, (cI (L p) = 33) = (L p = 33) := fun p => cI_eq (k := 33) (o _) (by decide)
  have c2 : ∀ p, (cI (L p) = 40) = (L p = 40) := fun p => cI_eq (k := 40) (o _) (by decide)
  have tt : ∀ p, p ≤ n → nR m L (vE W) (zb2 (fRe_readTest (rdA m L p 0)) (fun r m => some (r, m))) (pT L p) := fun p hp => by
    have t := n_test h (p := p) (by omega)
    cases e : pT L p with
    | inl q =>
      rw [e] at t
      obtain ⟨v, ev⟩ := t
      exact ⟨v, by rw [ev, zb2_s]⟩
    | inr q =>
      obtain ⟨x, q⟩ := q
      rw [e] at t
      have ev : fRe_readTest (rdA m L p 0) = some (vE W x, rdA m L q 0) := t
      show _ = _
      rw [ev, zb2_s]
  intro r
  induction r with
  | zero =>
    intro fu d hd hf p hp
    obtain ⟨fu, rfl⟩ : ∃ j, fu = j + 1 := ⟨fu - 1, by omega⟩
    have e : fRe_readOne_readAny (fu + 1) true (Int32.ofNat d) (rdA m L p 0) = zb2 (fRe_readTest (rdA m L p 0)) (fun r m => some (r, m)) := by
      rw [fRe_readOne_readAny, fRe_readOne_b, fRe_readOne_j14, fRe_readOne_j14, r8, if_pos rfl, if_pos rfl, if_neg (show ¬ Int32.ofNat d < 4 from fun z => by have := (i_lt (b := 4) (by omega) (by decide)).mp z; omega)]
      by_cases q : (rdA m L p 0).1 33 7 = 33
      · rw [if_pos q]
      · rw [if_neg q, if_neg (show ¬ Int32.ofNat d < 4 from fun z => by have := (i_lt (b := 4) (by omega) (by decide)).mp z; omega)]
    rw [e]
    exact tt p hp
  | succ r ih =>
    intro fu d hd hf p hp
    obtain ⟨fu, rfl⟩ : ∃ j, fu = j + 1 := ⟨fu - 1, by omega⟩
    obtain ⟨fu2, rfl⟩ : ∃ j, fu = j + 1 := ⟨fu - 1, by omega⟩
    have l4 : Int32.ofNat d < 4 := (i_lt (b := 4) (by omega) (by decide)).mpr (by omega)
    have pre : fRe_readOne_readAny (fu2 + 1 + 1) true (Int32.ofNat d) (rdA m L p 0) = if L p = 33 then zb2 (fRe_readOne_readAny (fu2 + 1) true (Int32.ofNat (d + 1)) (rdA m L (p + 1) 0)) (fun r12 m13 => some (Int32.ofNat (2 ^ (W * W) - 1) &&& (r12 ^^^ (-1)), m13)) else if L p = 40 then zb2 (fRe_readOne_readAny (fu2 + 1) false (Int32.ofNat (d + 1)) (rdA m L (p + 1) 0)) (fun r7 m8 => if m8.1 33 8 = 0 then zb1 (fRe_readWord 5 m8) (fun m9 => some (r7, m9)) else some (r7, m8)) else zb2 (fRe_readTest (rdA m L p 0)) (fun r m => some (r, m)) := by
      rw [fRe_readOne_readAny, fRe_readOne_b, fRe_readOne_j14, fRe_readOne_j14, r8, if_pos rfl, if_pos rfl, if_pos l4, if_pos l4, if_neg (show ¬ (1 : Int32) = 0 by decide), if_pos (show (0 : Int32) = 0 from rfl), r7, fRe_readOne_j45, fRe_readOne_j45, n_next h (by omega), zb1_s, zb1_s, if_neg (show ¬ (1 : Int32) = 0 by decide), if_pos (show (0 : Int32) = 0 from rfl), r9, hall, zb1_s, inc]
      simp only [c1, c2]
    rw [pre, oneR]
    by_cases q1 : L p = 33
    · have l := LT_n h.1 (p := p) (by omega)
      rw [if_pos q1, if_pos q1]
      have hh := ih (fu2 + 1) (d + 1) (by omega) (by omega) (p + 1) (by omega)
      cases e : oneR L r (p + 1) with
      | inl q =>
        rw [e] at hh
        obtain ⟨v, ev⟩ := hh
        exact ⟨_, by rw [ev, zb2_s]⟩
      | inr q =>
        obtain ⟨x, q⟩ := q
        rw [e] at hh
        have ev : fRe_readOne_readAny (fu2 + 1) true (Int32.ofNat (d + 1)) (rdA m L (p + 1) 0) = some (vE W x, rdA m L q 0) := hh
        show _ = some (vE W (xN x), rdA m L q 0)
        rw [ev, zb2_s, vE, n_ad, evS_N]
        rfl
    · rw [if_neg q1, if_neg q1]
      by_cases q2 : L p = 40
      · have l := LT_n h.1 (p := p) (by omega)
        rw [if_pos q2, if_pos q2]
        have hh := n_any h (oneR_n h.1 r) (fun p' hp' => ih fu2 (d + 1) (by omega) (by omega) p' hp') (p := p + 1) (by omega)
        cases e : anyP L (oneR L r) (p + 1) with
        | inl q =>
          rw [e] at hh
          obtain ⟨v, ev⟩ := hh
          exact ⟨v, by rw [ev, zb2_s, r8, if_neg (show ¬ (1 : Int32) = 0 by decide)]⟩
        | inr q =>
          obtain ⟨x, q⟩ := q
          rw [e] at hh
          have ev : fRe_readOne_readAny (fu2 + 1) false (Int32.ofNat (d + 1)) (rdA m L (p + 1) 0) = some (vE W x, rdA m L q 0) := hh
          have hq := (anyP_n (oneR_n h.1 r) e).2
          rw [ev, zb2_s, r8, if_pos rfl, n_close h hq, zb1_s]
          show nR m L (vE W) _ (if L q = 41 then .inr (x, q + 1) else .inl q)
          by_cases q3 : L q = 41
          · rw [if_pos q3, if_pos q3]
            rfl
          · rw [if_neg q3, if_neg q3]
            exact ⟨_, rfl⟩
      · rw [if_neg q2, if_neg q2]
        exact tt p hp
