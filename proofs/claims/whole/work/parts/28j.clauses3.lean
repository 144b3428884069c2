/-! The class reads all clauses. -/
theorem cI_m {x : Nat} (hx : x < 128 ∨ x = 200) : (cI x = -1) = (x = 200) := by
  unfold cI
  rcases hx with h | h
  · rw [if_neg (by omega)]
    exact propext ⟨fun z => absurd z (i_ne (by omega) (by decide)), fun z => by omega⟩
  · rw [if_pos h]
    exact propext ⟨fun _ => h, fun _ => rfl⟩
def NL (m : zv_M) (L : Nat → Nat) (W : Nat) (s0 : S4) (f : Option zv_M) (R : Nat ⊕ List Cl) : Prop := ∃ m', f = some m' ∧ (match R with
    | .inl z => ∃ a b c d fl, m' = rdA (mB m a b c d) L z fl ∧ (fl = 1 ∨ (fl = 0 ∧ ¬ L z = 200))
    | .inr B => ∃ z, m' = rdA (mS m (B.foldl (apC W) s0)) L z 0 ∧ L z = 200)
theorem n_clsL {L : Nat → Nat} {n W : Nat} {m : zv_M} (h : TXN L n W m) (s0 : S4) : ∀ (k fu : Nat) (A : List Cl) (q : Nat), k ≤ 9 → k + 2 < fu → q ≤ n → NL m L W s0 (whileN fu fRe_readClauses_l41 (Int32.ofNat (10 - k), rdA (mS m (A.foldl (apC W) s0)) L q 0)) (pLm L k A q) := by
  have o := LT_or h.1
  have hn := h.1.1
  have r7 : ∀ m x c, (rdA m L x c).1 33 7 = cI (L x) := fun m x c => mR_7 _ _ _ _
  have r8 : ∀ m x c, (rdA m L x c).1 33 8 = c := fun m x c => mR_8 _ _ _ _
  have stop : ∀ (fu : Nat) (A : List Cl) (q k : Nat) (i : Int32), 0 < fu → ¬ L q = 59 ∨ k = 0 → (k = 0 → ¬ i < 10) → NL m L W s0 (whileN fu fRe_readClauses_l41 (i, rdA (mS m (A.foldl (apC W) s0)) L q 0)) (pLm L k A q) := by
    intro fu A q k i hf h1 h2
    obtain ⟨fu, rfl⟩ : ∃ j, fu = j + 1 := ⟨fu - 1, by omega⟩
    have c1 : (cI (L q) = 59) = (L q = 59) := cI_eq (k := 59) (o _) (by decide)
    refine ⟨rdA (mS m (A.foldl (apC W) s0)) L q 0, ?_, ?_⟩
    · rw [whileN, fRe_readClauses_l41, r7]
      simp only [c1]
      by_cases t : i < 10
      · rw [if_pos t]
        rcases h1 with z | z
        · rw [if_neg z]
        · exact absurd t (h2 z)
      · rw [if_neg t]
    · unfold pLm
      by_cases t : L q = 200
      · rw [if_pos t]
        exact ⟨q, rfl, t⟩
      · rw [if_neg t]
        by_cases t2 : k = 0
        · rw [if_pos t2]
          exact ⟨_, _, _, _, 0, rfl, Or.inr ⟨rfl, t⟩⟩
        · rw [if_neg t2, if_neg (h1.resolve_right t2)]
          exact ⟨_, _, _, _, 0, rfl, Or.inr ⟨rfl, t⟩⟩
  intro k
  induction k with
  | zero =>
    intro fu A q hk hf hq
    exact stop fu A q 0 _ (by omega) (Or.inr rfl) (fun _ => by decide)
  | succ k ih =>
    intro fu A q hk hf hq
    by_cases q1 : L q = 59
    · obtain ⟨fu, rfl⟩ : ∃ j, fu = j + 1 := ⟨fu - 1, by omega⟩
      have hl := LT_n h.1 (p := q) (by omega)
      have hM : TXN L n W (mS m (A.foldl (apC W) s0)) := TXN_B h _ _ _ _
      have c1 : (cI (L q) = 59) = (L q = 59) := cI_eq (k := 59) (o _) (by decide)
      have lt : Int32.ofNat (10 - (k + 1)) < 10 := (i_lt (b := 10) (by omega) (by decide)).mpr (by omega)
      have hc := n_clause h (A.foldl (apC W) s0) (p := q + 1) (by omega)
      have pre : fRe_readClauses_l41 (Int32.ofNat (10 - (k + 1)), rdA (mS m (A.foldl (apC W) s0)) L q 0) = zb1 (fRe_readClause (rdA (mS m (A.foldl (apC W) s0)) L (q + 1) 0)) (fun m8 => some (.inl (Int32.ofNat (10 - k), m8))) := by
        rw [fRe_readClauses_l41, if_pos lt, r7, if_pos (c1.symm ▸ q1), r8, if_pos rfl, n_next hM (by omega), zb1_s, inc, show 10 - (k + 1) + 1 = 10 - k by omega]
      have ep : pLm L (k + 1) A q = (match pC L (q + 1) with
        | .inl q => .inl q
        | .inr (c, q) => pLm L k (A ++ [c]) q) := by
        rw [pLm, if_neg (by omega), if_neg (by omega), if_pos q1, pL_s]
        rfl
      rw [ep, whileN, pre]
      cases ec : pC L (q + 1) with
      | inl z =>
        rw [ec] at hc
        obtain ⟨a, b, c, d, hc⟩ := hc
        obtain ⟨fu2, rfl⟩ : ∃ j, fu = j + 1 := ⟨fu - 1, by omega⟩
        refine ⟨rdA (mB m a b c d) L z 1, ?_, _, _, _, _, 1, rfl, Or.inl rfl⟩
        rw [hc, zb1_s]
        show whileN (fu2 + 1) _ _ = _
        rw [whileN, fRe_readClauses_l41, r8, if_neg (show ¬ (1 : Int32) = 0 by decide)]
        by_cases t : Int32.ofNat (10 - k) < 10
        · rw [if_pos t]
          by_cases t2 : (rdA (mB m a b c d) L z 1).1 33 7 = 59
          · rw [if_pos t2]
          · rw [if_neg t2]
        · rw [if_neg t]
      | inr z =>
        obtain ⟨c, z⟩ := z
        rw [ec] at hc
        have hc : fRe_readClause (rdA (mS m (A.foldl (apC W) s0)) L (q + 1) 0) = some (rdA (mS m (apC W (A.foldl (apC W) s0) c)) L z 0) := hc
        have hz := (pC_n h.1 (p := q + 1) (by omega) ec).2
        have := ih fu (A ++ [c]) z (by omega) (by omega) hz
        rw [List.foldl_append] at this
        rw [hc, zb1_s]
        exact this
    · exact stop fu A q (k + 1) _ (by omega) (Or.inl q1) (fun z => by omega)
/-- the reader's own cells alone may differ -/
def sc33 (m m' : zv_M) : Prop := m'.2 = m.2 ∧ ∀ o k, ¬ (o = 33 ∧ 2 ≤ k ∧ k ≤ 9) → m'.1 o k = m.1 o k
theorem sc33_rd (m : zv_M) (W : Int32) (a b c d : Int32) (L : Nat → Nat) (q : Nat) (fl : Int32) : sc33 m (rdA (mB (wI m 33 9 W) a b c d) L q fl) := ⟨rfl, fun o k h => by
  rw [rdA, mR_x (by omega), mB_x (by omega), wI_o _ _ (by omega)]⟩
theorem n_move0 {L : Nat → Nat} {n W : Nat} {m : zv_M} (h : TXN L n W m) : fRe_moveTo 0 (wI m 33 8 0) = some (rdA m L 0 0) := by
  obtain ⟨⟨h1, h2, h3⟩, h4, h5, -⟩ := h
  have e1 : (wI (wI m 33 8 0) 33 6 0).1 33 1 = Int32.ofNat n := by rw [wI_o _ _ (by omega), wI_o _ _ (by omega), h4]
  have ec : ∀ x : Int32, wI (wI (wI m 33 8 0) 33 6 0) 33 7 x = mR m 0 x 0 := fun x => by
    unfold mR
    rw [wI_c (o := 33) (k := 8) (o' := 33) (k' := 6) (by omega), wI_c (o := 33) (k := 8) (o' := 33) (k' := 7) (by omega)]
  rw [fRe_moveTo, if_neg (by decide), e1]
  by_cases q : 0 < n
  · have e2 : (wI (wI m 33 8 0) 33 6 0).1 34 0 = cI (L 0) := by rw [wI_o _ _ (by omega), wI_o _ _ (by omega), h5 0 q]
    rw [if_pos (show (0 : Int32) < Int32.ofNat n from (i_lt (a := 0) (by decide) (by omega)).mpr q), if_pos (by decide), show zI 0 100 = true from rfl, zg_t, show (0 : Int32).toNatClampNeg = 0 from rfl, e2, ec]
    rfl
  · have e2 : (-1 : Int32) = cI (L 0) := by rw [cI, if_pos (h3 0 (by omega))]
    rw [if_neg (show ¬ (0 : Int32) < Int32.ofNat n from fun z => q ((i_lt (a := 0) (by decide) (by omega)).mp z)), ec, e2]
    rfl
def NK (m : zv_M) (W : Nat) (f : Option (Int32 × zv_M)) (R : Nat ⊕ List Cl) : Prop := match R with
    | .inl q => ∃ m', f = some (Int32.ofNat q, m') ∧ sc33 m m'
    | .inr B => ∃ m', f = some (-1, m') ∧ sc33 m m' ∧ m'.1 33 2 = Int32.ofNat (B.foldl (apC W) (4, 0, 0, 0)).1 ∧ m'.1 33 3 = Int32.ofNat (B.foldl (apC W) (4, 0, 0, 0)).2.1 ∧ m'.1 33 4 = Int32.ofNat (B.foldl (apC W) (4, 0, 0, 0)).2.2.1 ∧ m'.1 33 5 = Int32.ofNat (B.foldl (apC W) (4, 0, 0, 0)).2.2.2
theorem n_cls {L : Nat → Nat} {n W : Nat} {m : zv_M} (hL : LT L n) (h1 : m.1 33 1 = Int32.ofNat n) (h2 : ∀ p, p < n → m.1 34 p = cI (L p)) (hW : 2 ≤ W ∧ W ≤ 5) : NK m W (fRe_readClauses (Int32.ofNat W) m) (pL L 10 [] 0) := by
  have h : TXN L n W (wI m 33 9 (Int32.ofNat W)) := ⟨hL, (wI_o _ _ (by omega)).trans h1, fun p hp => (wI_o _ _ (by omega)).trans (h2 p hp), wI_e _ _ _ _, hW⟩
  have hM : TXN L n W (mS (wI m 33 9 (Int32.ofNat W)) (4, 0, 0, 0)) := TXN_B h _ _ _ _
  have o := LT_or hL
  have r7 : ∀ m x c, (rdA m L x c).1 33 7 = cI (L x) := fun m x c => mR_7 _ _ _ _
  have r8 : ∀ m x c, (rdA m L x c).1 33 8 = c := fun m x c => mR_8 _ _ _ _
  have r6 : ∀ m x c, (rdA m L x c).1 33 6 = Int32.ofNat x := fun m x c => mR_6 _ _ _ _
  have pre : fRe_readClauses (Int32.ofNat W) m = zb1 (fRe_readClause (rdA (mS (wI m 33 9 (Int32.ofNat W)) (4, 0, 0, 0)) L 0 0)) (fun m2 => zb1 (whileN zFU fRe_readClauses_l41 (1, m2)) (fun m6 => if m6.1 33 8 = 0 then if m6.1 33 7 = (-1) then some ((-1), m6) else some (m6.1 33 6, m6) else some (m6.1 33 6, m6))) := by
    rw [fRe_readClauses]
    have e := n_move0 hM
    show zb1 (fRe_moveTo 0 (wI (mS (wI m 33 9 (Int32.ofNat W)) (4, 0, 0, 0)) 33 8 0)) _ = _
    rw [e, zb1_s]
  have hc := n_clause h (4, 0, 0, 0) (p := 0) (Nat.zero_le n)
  rw [pre, pL_s]
  cases ec : pC L 0 with
  | inl z =>
    rw [ec] at hc
    obtain ⟨a, b, c, d, hc⟩ := hc
    have e := wn_eq fRe_readClauses_l41 (fun _ => (1, rdA (mB (wI m 33 9 (Int32.ofNat W)) a b c d) L z 1)) 0 (rdA (mB (wI m 33 9 (Int32.ofNat W)) a b c d) L z 1) (by decide) (fun i hi => absurd hi (Nat.not_lt_zero i)) (by
      rw [fRe_readClauses_l41, r8, if_neg (show ¬ (1 : Int32) = 0 by decide), if_pos (by decide)]
      by_cases t2 : (rdA (mB (wI m 33 9 (Int32.ofNat W)) a b c d) L z 1).1 33 7 = 59
      · rw [if_pos t2]
      · rw [if_neg t2])
    refine ⟨_, ?_, sc33_rd m (Int32.ofNat W) a b c d L z 1⟩
    rw [hc, zb1_s, e, zb1_s, r8, if_neg (show ¬ (1 : Int32) = 0 by decide), r6]
  | inr z =>
    obtain ⟨c, z⟩ := z
    rw [ec] at hc
    have hc : fRe_readClause (rdA (mS (wI m 33 9 (Int32.ofNat W)) (4, 0, 0, 0)) L 0 0) = some (rdA (mS (wI m 33 9 (Int32.ofNat W)) (apC W (4, 0, 0, 0) c)) L z 0) := hc
    have hz := (pC_n hL (p := 0) (Nat.zero_le n) ec).2
    obtain ⟨m', e, hm⟩ := n_clsL h (4, 0, 0, 0) 9 zFU [c] z (by decide) (zn_FU (by decide)) hz
    have e : whileN zFU fRe_readClauses_l41 (1, rdA (mS (wI m 33 9 (Int32.ofNat W)) (apC W (4, 0, 0, 0) c)) L z 0) = some m' := e
    rw [hc, zb1_s, e, zb1_s]
    show NK m W _ (pLm L 9 ([] ++ [c]) z)
    rw [List.nil_append]
    cases ep : pLm L 9 [c] z with
    | inl y =>
      rw [ep] at hm
      obtain ⟨a, b, c', d, fl, rfl, hfl⟩ := hm
      refine ⟨_, ?_, sc33_rd m (Int32.ofNat W) a b c' d L y fl⟩
      rcases hfl with rfl | ⟨rfl, t⟩
      · rw [r8, if_neg (show ¬ (1 : Int32) = 0 by decide), r6]
      · rw [r8, if_pos rfl, r7, if_neg (show ¬ cI (L y) = -1 from fun z => t ((cI_m (o y)).mp z)), r6]
    | inr B =>
      rw [ep] at hm
      obtain ⟨y, rfl, t⟩ := hm
      refine ⟨_, ?_, sc33_rd m (Int32.ofNat W) _ _ _ _ L y 0, (mR_x (by omega)).trans (mB_2 _ _ _ _ _), (mR_x (by omega)).trans (mB_3 _ _ _ _ _), (mR_x (by omega)).trans (mB_4 _ _ _ _ _), (mR_x (by omega)).trans (mB_5 _ _ _ _ _)⟩
      rw [r8, if_pos rfl, r7, if_pos ((cI_m (o y)).mpr t)]
      rfl
