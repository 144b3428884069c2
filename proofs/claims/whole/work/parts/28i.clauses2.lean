/-! The class reads clauses: the memory. -/
def mB (m : zv_M) (a b c d : Int32) : zv_M := wI (wI (wI (wI m 33 2 a) 33 3 b) 33 4 c) 33 5 d
abbrev S4 : Type := Nat × Nat × Nat × Nat
def mS (m : zv_M) (s : S4) : zv_M := mB m (Int32.ofNat s.1) (Int32.ofNat s.2.1) (Int32.ofNat s.2.2.1) (Int32.ofNat s.2.2.2)
theorem mB_x {m : zv_M} {a b c d : Int32} {o k : Nat} (h : ¬ (o = 33 ∧ 2 ≤ k ∧ k ≤ 5)) : (mB m a b c d).1 o k = m.1 o k := by
  rw [mB, wI_o _ _ (by omega), wI_o _ _ (by omega), wI_o _ _ (by omega), wI_o _ _ (by omega)]
theorem mB_2 (m : zv_M) (a b c d : Int32) : (mB m a b c d).1 33 2 = a := by rw [mB, wI_o _ _ (by omega), wI_o _ _ (by omega), wI_o _ _ (by omega), wI_e]
theorem mB_3 (m : zv_M) (a b c d : Int32) : (mB m a b c d).1 33 3 = b := by rw [mB, wI_o _ _ (by omega), wI_o _ _ (by omega), wI_e]
theorem mB_4 (m : zv_M) (a b c d : Int32) : (mB m a b c d).1 33 4 = c := by rw [mB, wI_o _ _ (by omega), wI_e]
theorem mB_5 (m : zv_M) (a b c d : Int32) : (mB m a b c d).1 33 5 = d := wI_e _ _ _ _
theorem mB_w5 (m : zv_M) (a b c d x : Int32) : wI (mB m a b c d) 33 5 x = mB m a b c x := by rw [mB, wI_w]; rfl
theorem mB_w4 (m : zv_M) (a b c d x : Int32) : wI (mB m a b c d) 33 4 x = mB m a b x d := by
  unfold mB
  rw [wI_c (o := 33) (k := 5) (o' := 33) (k' := 4) (by omega), wI_w]
theorem mB_w3 (m : zv_M) (a b c d x : Int32) : wI (mB m a b c d) 33 3 x = mB m a x c d := by
  unfold mB
  rw [wI_c (o := 33) (k := 5) (o' := 33) (k' := 3) (by omega), wI_c (o := 33) (k := 4) (o' := 33) (k' := 3) (by omega), wI_w]
theorem mB_w2 (m : zv_M) (a b c d x : Int32) : wI (mB m a b c d) 33 2 x = mB m x b c d := by
  unfold mB
  rw [wI_c (o := 33) (k := 5) (o' := 33) (k' := 2) (by omega), wI_c (o := 33) (k := 4) (o' := 33) (k' := 2) (by omega), wI_c (o := 33) (k := 3) (o' := 33) (k' := 2) (by omega), wI_w]
theorem rdA_w {m : zv_M} {L : Nat → Nat} {p k : Nat} {c v : Int32} (hk : k ≤ 5) : wI (rdA m L p c) 33 k v = rdA (wI m 33 k v) L p c := by
  unfold rdA mR
  rw [wI_c (o := 33) (k := 8) (o' := 33) (k' := k) (by omega), wI_c (o := 33) (k := 7) (o' := 33) (k' := k) (by omega), wI_c (o := 33) (k := 6) (o' := 33) (k' := k) (by omega)]
theorem TXN_B {L : Nat → Nat} {n W : Nat} {m : zv_M} (h : TXN L n W m) (a b c d : Int32) : TXN L n W (mB m a b c d) := by
  obtain ⟨h1, h2, h3, h4, h5⟩ := h
  exact ⟨h1, (mB_x (by omega)).trans h2, fun p hp => (mB_x (by omega)).trans (h3 p hp), (mB_x (by omega)).trans h4, h5⟩
/-- a reading that has failed stays there -/
theorem n_testF (m : zv_M) (L : Nat → Nat) (q : Nat) : fRe_readTest (rdA m L q 1) = some (0, rdA m L q 1) := by
  rw [fRe_readTest, show (rdA m L q 1).1 33 8 = 1 from mR_8 _ _ _ _, if_neg (by decide)]
  exact congrArg (fun z => some ((0 : Int32), z)) (mR_w8 _ _ _ _ _)
theorem n_anyF (m : zv_M) (L : Nat → Nat) (q : Nat) : ∃ v, fRe_readAny 14 0 (rdA m L q 1) = some (v, rdA m L q 1) := by
  have r8 : (rdA m L q 1).1 33 8 = 1 := mR_8 _ _ _ _
  have e1 : fRe_readOne_readAny 13 true 0 (rdA m L q 1) = some (0, rdA m L q 1) := by
    rw [fRe_readOne_readAny, fRe_readOne_b, fRe_readOne_j14, fRe_readOne_j14, r8, if_neg (show ¬ (1 : Int32) = 0 by decide), n_testF, zb2_s]
    by_cases z : (rdA m L q 1).1 33 7 = 33
    · rw [if_pos z]
    · rw [if_neg z, if_neg (show ¬ (1 : Int32) = 0 by decide)]
  have e2 := wn_eq (fRe_readAny_l11 0 (fRe_readOne_readAny 13 true)) (fun _ => (0, 0, 0, rdA m L q 1)) 0 ((0 : Int32) ||| 0, rdA m L q 1) (by decide) (fun i hi => absurd hi (Nat.not_lt_zero i)) (by
    rw [fRe_readAny_l11, if_pos (by decide), r8, if_neg (show ¬ (1 : Int32) = 0 by decide)])
  refine ⟨(0 : Int32) ||| 0, ?_⟩
  rw [fRe_readAny, fRe_readOne_readAny, fRe_readAny_b, e1, zb2_s]
  exact congrArg (fun z => zb1 z (fun r => some r)) e2
theorem n_numF (m : zv_M) (L : Nat → Nat) (q : Nat) : fRe_readNumber (rdA m L q 1) = some (0, rdA m L q 1) := by
  rw [fRe_readNumber, show (rdA m L q 1).1 33 8 = 1 from mR_8 _ _ _ _, if_neg (by decide)]
  exact congrArg (fun z => some ((0 : Int32), z)) (mR_w8 _ _ _ _ _)
def apC (W : Nat) (s : S4) (c : Cl) : S4 := if c.1 = 0 then (min (max c.2.1 2) 5, s.2.1, s.2.2.1, s.2.2.2) else if c.1 = 1 then (s.1, s.2.1, s.2.2.1 ||| evS W c.2.2, s.2.2.2) else if c.1 = 2 then (s.1, s.2.1, s.2.2.1, s.2.2.2 ||| evS W c.2.2) else if c.1 = 3 then (s.1, 1, s.2.2.1, s.2.2.2) else (s.1, 0, s.2.2.1, s.2.2.2)
def NC (m : zv_M) (L : Nat → Nat) (W : Nat) (s : S4) (f : Option zv_M) (R : Rs Cl) : Prop := match R with
    | .inl q => ∃ a b c d, f = some (rdA (mB m a b c d) L q 1)
    | .inr (c, q) => f = some (rdA (mS m (apC W s c)) L q 0)
theorem n_clause {L : Nat → Nat} {n W : Nat} {m : zv_M} (h : TXN L n W m) (s : S4) {p : Nat} (hp : p ≤ n) : NC m L W s (fRe_readClause (rdA (mS m s) L p 0)) (pC L p) := by
  have o := LT_or h.1
  have hn := h.1.1
  have hM : TXN L n W (mS m s) := TXN_B h _ _ _ _
  have r7 : (rdA (mS m s) L p 0).1 33 7 = cI (L p) := mR_7 _ _ _ _
  have c1 : (cI (L p) = 98) = (L p = 98) := cI_eq (k := 98) (o _) (by decide)
  have c2 : (cI (L p) = 104) = (L p = 104) := cI_eq (k := 104) (o _) (by decide)
  have c3 : (cI (L p) = 114) = (L p = 114) := cI_eq (k := 114) (o _) (by decide)
  have c4 : (cI (L p) = 119) = (L p = 119) := cI_eq (k := 119) (o _) (by decide)
  have any4 : ∀ q, q ≤ n → nR (mS m s) L (vE W) (fRe_readAny 14 0 (rdA (mS m s) L q 0)) (anyP L (oneR L 4) q) := fun q hq => n_any hM (d := 0) (fu := 13) (oneR_n h.1 4) (fun p' hp' => n_oneR hM 4 13 0 rfl (by decide) p' hp') hq
  have x5 : ∀ q c, (rdA (mS m s) L q c).1 33 5 = Int32.ofNat s.2.2.2 := fun q c => (mR_x (by omega)).trans (mB_5 _ _ _ _ _)
  have x4 : ∀ q c, (rdA (mS m s) L q c).1 33 4 = Int32.ofNat s.2.2.1 := fun q c => (mR_x (by omega)).trans (mB_4 _ _ _ _ _)
  have w5 : ∀ q c v, wI (rdA (mS m s) L q c) 33 5 v = rdA (mB m (Int32.ofNat s.1) (Int32.ofNat s.2.1) (Int32.ofNat s.2.2.1) v) L q c := fun q c v => by rw [rdA_w (by omega), mS, mB_w5]
  have w4 : ∀ q c v, wI (rdA (mS m s) L q c) 33 4 v = rdA (mB m (Int32.ofNat s.1) (Int32.ofNat s.2.1) v (Int32.ofNat s.2.2.2)) L q c := fun q c v => by rw [rdA_w (by omega), mS, mB_w4]
  have w3 : ∀ q c v, wI (rdA (mS m s) L q c) 33 3 v = rdA (mB m (Int32.ofNat s.1) v (Int32.ofNat s.2.2.1) (Int32.ofNat s.2.2.2)) L q c := fun q c v => by rw [rdA_w (by omega), mS, mB_w3]
  have w2 : ∀ q c v, wI (rdA (mS m s) L q c) 33 2 v = rdA (mB m v (Int32.ofNat s.2.1) (Int32.ofNat s.2.2.1) (Int32.ofNat s.2.2.2)) L q c := fun q c v => by rw [rdA_w (by omega), mS, mB_w2]
  rw [fRe_readClause, r7]
  simp only [c1, c2, c3, c4]
  unfold pC
  by_cases q1 : L p = 98
  · have hd : hdC (L p) = 2 := by rw [q1]; rfl
    have hw := n_wd hM (w := 2) (by decide) hp
    rw [if_pos q1, hd]
    cases ew : pW L (wds 2) p with
    | inl q =>
      rw [ew] at hw
      have hw : fRe_readWord 2 (rdA (mS m s) L p 0) = some (rdA (mS m s) L q 1) := hw
      obtain ⟨v, ev⟩ := n_anyF (mS m s) L q
      rw [hw, zb1_s, ev, zb2_s, w5]
      exact ⟨_, _, _, _, rfl⟩
    | inr q =>
      rw [ew] at hw
      have hw : fRe_readWord 2 (rdA (mS m s) L p 0) = some (rdA (mS m s) L q 0) := hw
      have hq := (pW_n h.1 _ _ _ (wds_c 2 (by decide)) hp ew).2
      have ha := any4 q hq
      rw [hw, zb1_s, x5]
      show NC m L W s _ (match anyP L (oneR L 4) q with
        | .inl z => (.inl z : Rs Cl)
        | .inr (e, z) => .inr ((2, 0, e), z))
      cases ea : anyP L (oneR L 4) q with
      | inl z =>
        rw [ea] at ha
        obtain ⟨v, ev⟩ := ha
        rw [ev, zb2_s, w5]
        exact ⟨_, _, _, _, rfl⟩
      | inr z =>
        obtain ⟨e, z⟩ := z
        rw [ea] at ha
        have ev : fRe_readAny 14 0 (rdA (mS m s) L q 0) = some (vE W e, rdA (mS m s) L z 0) := ha
        show _ = some (rdA (mS m (apC W s (2, 0, e))) L z 0)
        rw [ev, zb2_s, w5, vE, n_or]
        rfl
  rw [if_neg q1]
  by_cases q2 : L p = 104
  · have hd : hdC (L p) = 1 := by rw [q2]; rfl
    have hw := n_wd hM (w := 1) (by decide) hp
    rw [if_pos q2, hd]
    cases ew : pW L (wds 1) p with
    | inl q =>
      rw [ew] at hw
      have hw : fRe_readWord 1 (rdA (mS m s) L p 0) = some (rdA (mS m s) L q 1) := hw
      obtain ⟨v, ev⟩ := n_anyF (mS m s) L q
      rw [hw, zb1_s, ev, zb2_s, w4]
      exact ⟨_, _, _, _, rfl⟩
    | inr q =>
      rw [ew] at hw
      have hw : fRe_readWord 1 (rdA (mS m s) L p 0) = some (rdA (mS m s) L q 0) := hw
      have hq := (pW_n h.1 _ _ _ (wds_c 1 (by decide)) hp ew).2
      have ha := any4 q hq
      rw [hw, zb1_s, x4]
      show NC m L W s _ (match anyP L (oneR L 4) q with
        | .inl z => (.inl z : Rs Cl)
        | .inr (e, z) => .inr ((1, 0, e), z))
      cases ea : anyP L (oneR L 4) q with
      | inl z =>
        rw [ea] at ha
        obtain ⟨v, ev⟩ := ha
        rw [ev, zb2_s, w4]
        exact ⟨_, _, _, _, rfl⟩
      | inr z =>
        obtain ⟨e, z⟩ := z
        rw [ea] at ha
        have ev : fRe_readAny 14 0 (rdA (mS m s) L q 0) = some (vE W e, rdA (mS m s) L z 0) := ha
        show _ = some (rdA (mS m (apC W s (1, 0, e))) L z 0)
        rw [ev, zb2_s, w4, vE, n_or]
        rfl
  rw [if_neg q2]
  by_cases q3 : L p = 114
  · have hd : hdC (L p) = 3 := by rw [q3]; rfl
    have hw := n_wd hM (w := 3) (by decide) hp
    rw [if_pos q3, hd]
    cases ew : pW L (wds 3) p with
    | inl q =>
      rw [ew] at hw
      have hw : fRe_readWord 3 (rdA (mS m s) L p 0) = some (rdA (mS m s) L q 1) := hw
      rw [hw, zb1_s, w3]
      exact ⟨_, _, _, _, rfl⟩
    | inr q =>
      rw [ew] at hw
      have hw : fRe_readWord 3 (rdA (mS m s) L p 0) = some (rdA (mS m s) L q 0) := hw
      show _ = some (rdA (mS m (apC W s (3, 0, e00))) L q 0)
      rw [hw, zb1_s, w3]
      rfl
  rw [if_neg q3]
  by_cases q4 : L p = 119
  · have hd : hdC (L p) = 0 := by rw [q4]; rfl
    have hw := n_wd hM (w := 0) (by decide) hp
    have mx : ∀ v, v < 100 → fJ_max (Int32.ofNat v) 2 = some (Int32.ofNat (max v 2)) := fun v hv => n_max (b := 2) (by omega) (by decide)
    have mn : ∀ v, v < 100 → fJ_min (Int32.ofNat (max v 2)) 5 = some (Int32.ofNat (min (max v 2) 5)) := fun v hv => n_min (b := 5) (by omega) (by decide)
    rw [if_pos q4, hd]
    cases ew : pW L (wds 0) p with
    | inl q =>
      rw [ew] at hw
      have hw : fRe_readWord 0 (rdA (mS m s) L p 0) = some (rdA (mS m s) L q 1) := hw
      have mx0 := mx 0 (by decide)
      have mn0 := mn 0 (by decide)
      have mx0 : fJ_max 0 2 = some (Int32.ofNat (max 0 2)) := mx0
      rw [hw, zb1_s, n_numF, zb2_s, mx0, zb1_s, mn0, zb1_s, w2]
      exact ⟨_, _, _, _, rfl⟩
    | inr q =>
      rw [ew] at hw
      have hw : fRe_readWord 0 (rdA (mS m s) L p 0) = some (rdA (mS m s) L q 0) := hw
      have hq := (pW_n h.1 _ _ _ (wds_c 0 (by decide)) hp ew).2
      have ha := n_num hM (p := q) (by omega)
      rw [hw, zb1_s]
      show NC m L W s _ (match pN L q with
        | .inl z => (.inl z : Rs Cl)
        | .inr (v, z) => .inr ((0, v, e00), z))
      cases ea : pN L q with
      | inl z =>
        rw [ea] at ha
        obtain ⟨v, ev⟩ := ha
        rw [ev, zb2_s, fJ_max]
        by_cases t : v < 2
        · rw [if_pos t, zb1_s, fJ_min, if_neg (by decide), zb1_s, w2]
          exact ⟨_, _, _, _, rfl⟩
        · rw [if_neg t, zb1_s, fJ_min]
          by_cases t2 : 5 < v
          · rw [if_pos t2, zb1_s, w2]
            exact ⟨_, _, _, _, rfl⟩
          · rw [if_neg t2, zb1_s, w2]
            exact ⟨_, _, _, _, rfl⟩
      | inr z =>
        obtain ⟨v, z⟩ := z
        rw [ea] at ha
        have hv := (pN_n h.1 ea).1
        have ev : fRe_readNumber (rdA (mS m s) L q 0) = some (Int32.ofNat v, rdA (mS m s) L z 0) := ha
        show _ = some (rdA (mS m (apC W s (0, v, e00))) L z 0)
        rw [ev, zb2_s, mx v hv, zb1_s, mn v hv, zb1_s, w2]
        rfl
  · have hd : hdC (L p) = 4 := by rw [hdC, if_neg q1, if_neg q2, if_neg q3, if_neg q4]
    have hw := n_wd hM (w := 4) (by decide) hp
    rw [if_neg q4, hd]
    cases ew : pW L (wds 4) p with
    | inl q =>
      rw [ew] at hw
      have hw : fRe_readWord 4 (rdA (mS m s) L p 0) = some (rdA (mS m s) L q 1) := hw
      rw [hw, zb1_s, w3]
      exact ⟨_, _, _, _, rfl⟩
    | inr q =>
      rw [ew] at hw
      have hw : fRe_readWord 4 (rdA (mS m s) L p 0) = some (rdA (mS m s) L q 0) := hw
      show _ = some (rdA (mS m (apC W s (4, 0, e00))) L q 0)
      rw [hw, zb1_s, w3]
      rfl
