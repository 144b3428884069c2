/-! The reference's rows: is it a way, the next row, men one in each row. -/
theorem tl_len {W : Nat} (hW : W ≤ 5) : ∀ (k y : Nat) (x : Nat → Nat), (tl W k y x).length ≤ 5 ^ k
  | 0, y, x => Nat.le_refl _
  | k + 1, y, x => by
    have h := fl_len (g := fun a => tl W k (y + 1) (ux x y a)) (b := 5 ^ k) W 0 (fun i => tl_len hW k _ _)
    have h2 : W * 5 ^ k ≤ 5 * 5 ^ k := Nat.mul_le_mul_right _ hW
    rw [tl, Nat.pow_succ]
    omega
/-- the reference's cells for a row search -/
def RM (D : Dt) (p : Nat) (x : Nat → Nat) (m : zv_M) : Prop := CM D m ∧ (∀ s, s < 25 → m.1 85 s = Int32.ofNat (bdn D p s)) ∧ ∀ r, r < dW D → m.1 86 r = Int32.ofNat (x r)
theorem isWay_ok {D : Dt} {p : Nat} {x : Nat → Nat} {m : zv_M} (hS : CS D) (h : RM D p x m) (hx : ∀ r, r < dW D → x r < dW D) : fM_isWay m = some (if iw (dW D) (fr D) (bdn D p) (dW D) 0 0 x = true then 1 else 0) := by
  obtain ⟨c, h85, h86⟩ := h
  have hWW := CS_WW hS
  have h5 := hS.2.2.1
  have key : ∀ (k y set fu : Nat), y + k = dW D → k < fu → whileN fu (fM_isWay_l4 m) (Int32.ofNat set, Int32.ofNat y) = some (if iw (dW D) (fr D) (bdn D p) k y set x = true then 1 else 0) := by
    intro k
    induction k with
    | zero =>
      intro y set fu hy hf
      obtain ⟨fu', rfl⟩ : ∃ k, fu = k + 1 := ⟨fu - 1, by omega⟩
      rw [whileN, fM_isWay_l4, c.1.1, if_neg (fun q => by have := (i_lt (by omega) (by omega)).mp q; omega), iw, if_pos rfl]
    | succ k ih =>
      intro y set fu hy hf
      obtain ⟨fu', rfl⟩ : ∃ k, fu = k + 1 := ⟨fu - 1, by omega⟩
      have hyW : y < dW D := by omega
      have hxy := hx y hyW
      have hs : y * dW D + x y < dW D * dW D := by
        have : (y + 1) * dW D ≤ dW D * dW D := Nat.mul_le_mul_right _ hyW
        rw [Nat.succ_mul] at this
        omega
      have hsq : Int32.ofNat (dW D) * Int32.ofNat y + Int32.ofNat (x y) = Int32.ofNat (y * dW D + x y) := by rw [i_mu, i_pl, Nat.mul_comm]
      have hz : (Int32.ofNat (bdn D p (y * dW D + x y) &&& set) = 0) = (bdn D p (y * dW D + x y) &&& set = 0) := n_eq0 (Nat.lt_of_le_of_lt Nat.and_le_left (p25 (bdn_lt D p _)))
      rw [whileN, fM_isWay_l4, c.1.1, if_pos ((i_lt (by omega) (by omega)).mpr hyW), zI_n (by omega) (by omega), zg_t, i_tn (by omega), h86 y hyW, hsq, c.1.2.2.2, n_has (by omega), zb1_s, if01, zI_n (by omega) (by omega), zg_t, i_tn (by omega), h85 _ (by omega), n_and, iw, okb, fr_t, decide_eq_true hs, Bool.true_and]
      simp only [hz]
      cases hB : (dB D).testBit (y * dW D + x y)
      · rw [if_neg (show ¬ false = true by decide)]
        by_cases q : bdn D p (y * dW D + x y) &&& set = 0
        · rw [if_pos q, decide_eq_true q, zlet, n_sh _ (by omega), n_or, inc]
          show whileN fu' _ _ = _
          rw [ih (y + 1) _ fu' (by omega) (by omega)]
          rfl
        · rw [if_neg q, decide_eq_false q]
          rfl
      · rw [if_pos (show true = true from rfl)]
        rfl
  have e := key (dW D) 0 0 zFU (by omega) (zn_FU (by omega))
  rw [fM_isWay]
  exact congrArg (fun z => zb1 z (fun r => some r)) e
theorem next_ok {D : Dt} {p : Nat} (hS : CS D) : ∀ (k : Nat) (x : Nat → Nat) (m : zv_M) (fu : Nat), k ≤ dW D → k < fu → RM D p x m → (∀ r, r < dW D → x r < dW D) → ∃ m', whileN fu fM_nextRow_l7 (Int32.ofNat k - 1, m) = some (bI (nr (dW D) 0 k x).isSome, m') ∧ sc m m' ∧ (∀ o k, ¬ o = 86 → m'.1 o k = m.1 o k) ∧ ∀ x', nr (dW D) 0 k x = some x' → ∀ r, r < dW D → m'.1 86 r = Int32.ofNat (x' r)
  | 0, x, m, fu, _, hf, hR, _ => by
    obtain ⟨fu', rfl⟩ : ∃ k, fu = k + 1 := ⟨fu - 1, by omega⟩
    rw [whileN, fM_nextRow_l7, if_pos (by decide)]
    exact ⟨m, rfl, sc_r m, fun _ _ _ => rfl, fun x' h => by cases h⟩
  | k + 1, x, m, fu, hk, hf, hR, hx => by
    obtain ⟨fu', rfl⟩ : ∃ k, fu = k + 1 := ⟨fu - 1, by omega⟩
    have h5 := hS.2.2.1
    have hW0 : 0 < dW D := by have := hS.2.1; omega
    have hk1 : Int32.ofNat (k + 1) - 1 = Int32.ofNat k := i_mi (b := 1) (by omega) (by omega)
    obtain ⟨c, h85, h86⟩ := hR
    have hxk := hx k (by omega)
    rw [whileN, fM_nextRow_l7, hk1, if_neg (i_lt0 (by omega)), zI_n (by omega) (show k < 5 by omega), zg_t, zg_t, zg_t, zg_t, i_tn (by omega), h86 k (by omega), inc, wI_e, show (wI m 86 k (Int32.ofNat (x k + 1))).1 68 1 = m.1 68 1 from rfl, c.1.1]
    by_cases q : x k + 1 < dW D
    · have e : nr (dW D) 0 (k + 1) x = some (ux x k (x k + 1)) := by
        rw [nr, Nat.zero_add, if_pos q]
      rw [if_pos ((i_lt (by omega) (by omega)).mpr q), e]
      refine ⟨_, rfl, sc_w (sc_r m) rfl, fun o k' ho => wI_o _ _ (fun z => ho z.1), fun x' hx' r hr => ?_⟩
      obtain rfl := Option.some.inj hx'
      by_cases z : r = k
      · rw [z, wI_e, ux_e]
      · rw [wI_o _ _ (by omega), ux_o _ z, h86 r hr]
    · have e : nr (dW D) 0 (k + 1) x = nr (dW D) 0 k (ux x k 0) := by
        rw [nr, Nat.zero_add, if_neg q]
      have hw2 : wI (wI m 86 k (Int32.ofNat (x k + 1))) 86 k 0 = wI m 86 k 0 := wI_w
      rw [if_neg (fun z => q ((i_lt (by omega) (by omega)).mp z)), e, hw2]
      show ∃ m', whileN fu' fM_nextRow_l7 (Int32.ofNat k - 1, wI m 86 k 0) = _ ∧ _
      have hsc : sc m (wI m 86 k 0) := sc_w (sc_r m) rfl
      obtain ⟨m', e1, e2, e3, e4⟩ := next_ok hS k (ux x k 0) (wI m 86 k 0) fu' (by omega) (by omega) ⟨CM_sc hsc c, fun s hs => (wI_o _ _ (by omega)).trans (h85 s hs), fun r hr => by
        by_cases z : r = k
        · rw [z, wI_e, ux_e]
          rfl
        · rw [wI_o _ _ (by omega), ux_o _ z, h86 r hr]⟩ (fun r hr => by
        by_cases z : r = k
        · rw [z, ux_e]
          exact hW0
        · rw [ux_o _ z]
          exact hx r hr)
      exact ⟨m', e1, sc_t hsc e2, fun o k' ho => (e3 o k' ho).trans (wI_o _ _ (fun z => ho z.1)), e4⟩
theorem nextRow_ok {D : Dt} {p : Nat} {x : Nat → Nat} {m : zv_M} (hS : CS D) (h : RM D p x m) (hx : ∀ r, r < dW D → x r < dW D) : ∃ m', fM_nextRow m = some (bI (nr (dW D) 0 (dW D) x).isSome, m') ∧ sc m m' ∧ (∀ o k, ¬ o = 86 → m'.1 o k = m.1 o k) ∧ ∀ x', nr (dW D) 0 (dW D) x = some x' → RM D p x' m' ∧ ∀ r, r < dW D → x' r < dW D := by
  have hW0 : 0 < dW D := by have := hS.2.1; omega
  obtain ⟨m', e1, e2, e3, e4⟩ := next_ok hS (dW D) x m zFU (Nat.le_refl _) (zn_FU (by have := hS.2.2.1; omega)) h hx
  refine ⟨m', ?_, e2, e3, fun x' hx' => ⟨⟨CM_sc e2 h.1, fun s hs => (e3 85 s (by decide)).trans (h.2.1 s hs), e4 x' hx'⟩, nr_lt hW0 (dW D) x x' hx' hx (by omega)⟩⟩
  rw [fM_nextRow, h.1.1.1, e1, zb1_s]
theorem ala_nr {D : Dt} {x : Nat → Nat} (hx : ∀ r, r < dW D → x r < dW D) : ala (dW D) (dW D) 0 x = match nr (dW D) 0 (dW D) x with
    | none => []
    | some x' => x' :: ala (dW D) (dW D) 0 x' := al_nr (dW D) 0 x (fun r _ hr => hx r (by omega))
theorem ways_st {D : Dt} {p : Nat} {x : Nat → Nat} {n : Nat} {m : zv_M} (hS : CS D) (hn : n < 100000) (hR : RM D p x m) (hx : ∀ r, r < dW D → x r < dW D) : ∃ m', fM_ways_l58 (Int32.ofNat n, 1, m) = some (.inl (Int32.ofNat (n + ([x].filter (iw (dW D) (fr D) (bdn D p) (dW D) 0 0)).length), bI (nr (dW D) 0 (dW D) x).isSome, m')) ∧ sc m m' ∧ (∀ x', nr (dW D) 0 (dW D) x = some x' → RM D p x' m' ∧ ∀ r, r < dW D → x' r < dW D) ∧ ∀ r, r < dW D → m'.1 87 r = nF n ([x].filter (iw (dW D) (fr D) (bdn D p) (dW D) 0 0)) (m.1 87) r := by
  have h5 := hS.2.2.1
  have hz : (Int32.ofNat n = 0) = (n = 0) := n_eq0 (by omega)
  rw [fM_ways_l58, if_neg (by decide), isWay_ok hS hR hx, zb1_s, if01]
  cases hw : iw (dW D) (fr D) (bdn D p) (dW D) 0 0 x
  · obtain ⟨m', e1, e2, e3, e4⟩ := nextRow_ok hS hR hx
    have hf : [x].filter (iw (dW D) (fr D) (bdn D p) (dW D) 0 0) = [] := by rw [List.filter_cons, hw]; rfl
    rw [if_neg (show ¬ false = true by decide), fM_ways_j106, e1, zb2_s, hf]
    refine ⟨m', rfl, e2, e4, fun r _ => ?_⟩
    rw [e3 87 r (by decide)]
    unfold nF
    by_cases q : n = 0
    · rw [if_pos q]
    · rw [if_neg q]
  · have hf : [x].filter (iw (dW D) (fr D) (bdn D p) (dW D) 0 0) = [x] := by rw [List.filter_cons, hw]; rfl
    rw [if_pos (show true = true from rfl), hf]
    by_cases q : n = 0
    · have e := wn_eq (fM_ways_l73 (Int32.ofNat n)) (fun i => (Int32.ofNat i, vF m 87 (m.1 86) i)) 5 (vF m 87 (m.1 86) 5) (by decide) (fun i hi => by
        show fM_ways_l73 _ (_, _) = _
        rw [fM_ways_l73, if_pos (show Int32.ofNat i < 5 from (i_lt (b := 5) (by omega) (by decide)).mpr hi)]
        simp only [hz]
        rw [if_pos q, zI_n (by omega) hi, zg_t, zg_t, i_tn (by omega), inc, show (vF m 87 (m.1 86) i).1 86 i = m.1 86 i from rfl, vF_s (g := m.1 86)]) (by
        show fM_ways_l73 _ (_, _) = _
        rw [fM_ways_l73, if_neg (by decide)])
      rw [vF_0] at e
      have hsc : sc m (vF m 87 (m.1 86) 5) := sc_F (sc_r m) (fun _ => rfl)
      obtain ⟨m', e1, e2, e3, e4⟩ := nextRow_ok (D := D) (p := p) (x := x) (m := vF m 87 (m.1 86) 5) hS ⟨CM_sc hsc hR.1, hR.2.1, hR.2.2⟩ hx
      rw [show ((0 : Int32), m) = (Int32.ofNat 0, m) from rfl, e, zb1_s, fM_ways_j106, e1, zb2_s, inc]
      refine ⟨m', rfl, sc_t hsc e2, e4, fun r hr => ?_⟩
      rw [e3 87 r (by decide), vF_e _ _ _ (show r < 5 by omega), hR.2.2 r hr]
      unfold nF
      rw [if_pos q]
    · have e := wn_eq (fM_ways_l73 (Int32.ofNat n)) (fun i => (Int32.ofNat i, m)) 0 m (by decide) (fun i hi => absurd hi (Nat.not_lt_zero i)) (by
        show fM_ways_l73 _ (_, _) = _
        rw [fM_ways_l73, if_pos (by decide)]
        simp only [hz]
        rw [if_neg q])
      obtain ⟨m', e1, e2, e3, e4⟩ := nextRow_ok hS hR hx
      rw [show ((0 : Int32), m) = (Int32.ofNat 0, m) from rfl, e, zb1_s, fM_ways_j106, e1, zb2_s, inc]
      refine ⟨m', rfl, e2, e4, fun r hr => ?_⟩
      rw [e3 87 r (by decide)]
      unfold nF
      rw [if_neg q]
/-- the loop of all rows -/
theorem waysM_ok {D : Dt} {p : Nat} (hS : CS D) : ∀ (len : Nat) (x : Nat → Nat) (n : Nat) (m : zv_M) (fu : Nat), (ala (dW D) (dW D) 0 x).length = len → len + 1 < fu → n + len + 1 < 100000 → RM D p x m → (∀ r, r < dW D → x r < dW D) → ∃ m', whileN fu fM_ways_l58 (Int32.ofNat n, 1, m) = some (Int32.ofNat (n + ((x :: ala (dW D) (dW D) 0 x).filter (iw (dW D) (fr D) (bdn D p) (dW D) 0 0)).length), m') ∧ sc m m' ∧ ∀ r, r < dW D → m'.1 87 r = nF n ((x :: ala (dW D) (dW D) 0 x).filter (iw (dW D) (fr D) (bdn D p) (dW D) 0 0)) (m.1 87) r := by
  intro len
  induction len with
  | zero =>
    intro x n m fu hl hf hn hR hx
    obtain ⟨fu', rfl⟩ : ∃ k, fu = k + 2 := ⟨fu - 2, by omega⟩
    obtain ⟨m1, e1, e2, e3, e4⟩ := ways_st hS (show n < 100000 by omega) hR hx
    have hnil := List.eq_nil_of_length_eq_zero hl
    have hno : nr (dW D) 0 (dW D) x = none := by
      have e := ala_nr (D := D) hx
      cases h : nr (dW D) 0 (dW D) x with
      | none => rfl
      | some x' =>
        rw [h, hnil] at e
        cases e
    rw [hno] at e1
    rw [hnil, whileN, e1]
    show ∃ m', whileN (fu' + 1) fM_ways_l58 (_, bI false, m1) = _ ∧ _
    rw [whileN, fM_ways_l58, if_pos (by decide)]
    exact ⟨m1, rfl, e2, e4⟩
  | succ len ih =>
    intro x n m fu hl hf hn hR hx
    obtain ⟨fu', rfl⟩ : ∃ k, fu = k + 1 := ⟨fu - 1, by omega⟩
    obtain ⟨m1, e1, e2, e3, e4⟩ := ways_st hS (show n < 100000 by omega) hR hx
    cases hno : nr (dW D) 0 (dW D) x with
    | none =>
      have e := ala_nr (D := D) hx
      rw [hno] at e
      rw [e] at hl
      cases hl
    | some x' =>
      have e := ala_nr (D := D) hx
      rw [hno] at e
      have e' : ala (dW D) (dW D) 0 x = x' :: ala (dW D) (dW D) 0 x' := e
      rw [e', List.length_cons] at hl
      obtain ⟨hR', hx'⟩ := e3 x' hno
      have hlen : ([x].filter (iw (dW D) (fr D) (bdn D p) (dW D) 0 0)).length ≤ 1 := List.length_filter_le _ _
      obtain ⟨m2, f1, f2, f3⟩ := ih x' (n + ([x].filter (iw (dW D) (fr D) (bdn D p) (dW D) 0 0)).length) m1 fu' (by omega) (by omega) (by omega) hR' hx'
      have hsp : (x :: ala (dW D) (dW D) 0 x).filter (iw (dW D) (fr D) (bdn D p) (dW D) 0 0) = [x].filter (iw (dW D) (fr D) (bdn D p) (dW D) 0 0) ++ (x' :: ala (dW D) (dW D) 0 x').filter (iw (dW D) (fr D) (bdn D p) (dW D) 0 0) := by
        rw [e', ← List.filter_append]
        rfl
      rw [hno] at e1
      rw [hsp, List.length_append, ← Nat.add_assoc, whileN, e1]
      refine ⟨m2, f1, sc_t e2 f2, fun r hr => ?_⟩
      rw [f3 r hr, ← nF_app false]
      show nF (n + _) _ (m1.1 87) r = nF (nC false n _) _ _ r
      have hc : nC false n ([x].filter (iw (dW D) (fr D) (bdn D p) (dW D) 0 0)).length = n + ([x].filter (iw (dW D) (fr D) (bdn D p) (dW D) 0 0)).length := rfl
      rw [hc]
      unfold nF
      by_cases q : n + ([x].filter (iw (dW D) (fr D) (bdn D p) (dW D) 0 0)).length = 0
      · rw [if_pos q, if_pos q]
        cases (x' :: ala (dW D) (dW D) 0 x').filter (iw (dW D) (fr D) (bdn D p) (dW D) 0 0) with
        | nil => exact e4 r hr
        | cons a L => rfl
      · rw [if_neg q, if_neg q]
        exact e4 r hr
/-- the loop to the next way -/
theorem afterM_ok {D : Dt} {p k : Nat} (hS : CS D) (hk : k < dW D) : ∀ (len : Nat) (x : Nat → Nat) (m : zv_M) (fu : Nat), (ala (dW D) (dW D) 0 x).length = len → len + 1 < fu → RM D p x m → (∀ r, r < dW D → x r < dW D) → ∃ m', whileN fu (fM_after_l40 (Int32.ofNat k)) m = some (match (ala (dW D) (dW D) 0 x).filter (iw (dW D) (fr D) (bdn D p) (dW D) 0 0) with | [] => -5 | h :: _ => Int32.ofNat (h k), m') ∧ sc m m' := by
  intro len
  induction len with
  | zero =>
    intro x m fu hl hf hR hx
    obtain ⟨fu', rfl⟩ : ∃ k, fu = k + 1 := ⟨fu - 1, by omega⟩
    obtain ⟨m1, e1, e2, e3, e4⟩ := nextRow_ok hS hR hx
    have hnil := List.eq_nil_of_length_eq_zero hl
    have hno : nr (dW D) 0 (dW D) x = none := by
      have e := ala_nr (D := D) hx
      cases h : nr (dW D) 0 (dW D) x with
      | none => rfl
      | some x' =>
        rw [h, hnil] at e
        cases e
    rw [hno] at e1
    rw [hnil, whileN, fM_after_l40, e1, zb2_s]
    exact ⟨m1, rfl, e2⟩
  | succ len ih =>
    intro x m fu hl hf hR hx
    obtain ⟨fu', rfl⟩ : ∃ k, fu = k + 1 := ⟨fu - 1, by omega⟩
    obtain ⟨m1, e1, e2, e3, e4⟩ := nextRow_ok hS hR hx
    cases hno : nr (dW D) 0 (dW D) x with
    | none =>
      have e := ala_nr (D := D) hx
      rw [hno] at e
      rw [e] at hl
      cases hl
    | some x' =>
      have e := ala_nr (D := D) hx
      rw [hno] at e
      have e' : ala (dW D) (dW D) 0 x = x' :: ala (dW D) (dW D) 0 x' := e
      rw [e', List.length_cons] at hl
      obtain ⟨hR', hx'⟩ := e4 x' hno
      rw [hno] at e1
      have hk5 : k < 5 := by have := hS.2.2.1; omega
      rw [e', List.filter_cons, whileN, fM_after_l40, e1, zb2_s, if_neg (show ¬ bI (some x').isSome = 0 from (show ¬ (1 : Int32) = 0 by decide)), isWay_ok hS hR' hx', zb1_s, if01]
      cases hw : iw (dW D) (fr D) (bdn D p) (dW D) 0 0 x'
      · rw [if_neg (show ¬ false = true by decide), if_neg (show ¬ false = true by decide)]
        obtain ⟨m2, f1, f2⟩ := ih x' m1 fu' (by omega) (by omega) hR' hx'
        exact ⟨m2, f1, sc_t e2 f2⟩
      · rw [if_pos (show true = true from rfl), if_pos (show true = true from rfl), zI_n (by omega) hk5, zg_t, i_tn (by omega), hR'.2.2 k hk]
        exact ⟨m1, rfl, e2⟩
