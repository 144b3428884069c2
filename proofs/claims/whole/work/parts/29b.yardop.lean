/-! The op yard. -/
theorem el_or {a b : Bool} (h : (a || b) = true) : a = true ∨ b = true := (Bool.or_eq_true _ _).mp h
theorem el_an {o p k q : Nat} (h : (o == p && k == q) = true) : o = p ∧ k = q := by
  obtain ⟨h1, h2⟩ := (Bool.and_eq_true _ _).mp h
  exact ⟨eq_of_beq h1, eq_of_beq h2⟩
theorem el_al {o p k : Nat} {l : List Nat} (h : (o == p && l.elem k) = true) : o = p ∧ k ∈ l := by
  obtain ⟨h1, h2⟩ := (Bool.and_eq_true _ _).mp h
  exact ⟨eq_of_beq h1, List.elem_iff.mp h2⟩
theorem kNow_i {o k : Nat} (h : kNow o k = true) : (2 ≤ o ∧ o ≤ 16) ∨ (36 ≤ o ∧ o ≤ 42) ∨ (69 ≤ o ∧ o ≤ 72) ∨ (95 ≤ o ∧ o ≤ 101) ∨ (o = 1 ∧ k = 8) ∨ (o = 68 ∧ (k = 0 ∨ k = 10 ∨ k = 42 ∨ k = 47 ∨ k = 50)) := by
  unfold kNow at h
  rcases el_or h with h | h
  · rcases el_or h with h | h
    · have h := List.elem_iff.mp h
      simp only [List.mem_cons, List.not_mem_nil, or_false] at h
      omega
    · have h := el_an h
      omega
  · have h := el_al h
    simp only [List.mem_cons, List.not_mem_nil, or_false] at h
    omega
theorem kKp_i {o k : Nat} (h : kKp o k = true) : (18 ≤ o ∧ o ≤ 32) ∨ (36 ≤ o ∧ o ≤ 42) ∨ (102 ≤ o ∧ o ≤ 109) ∨ (o = 17 ∧ k = 8) ∨ (o = 0 ∧ k = 2) ∨ (o = 68 ∧ 52 ≤ k) := by
  unfold kKp at h
  rcases el_or h with h | h
  · rcases el_or h with h | h
    · rcases el_or h with h | h
      · have h := List.elem_iff.mp h
        simp only [List.mem_cons, List.not_mem_nil, or_false] at h
        omega
      · have h := el_an h
        omega
    · have h := el_an h
      omega
  · have h := el_al h
    simp only [List.mem_cons, List.not_mem_nil, or_false] at h
    omega
theorem kBo_i {o k : Nat} (h : kBo o k = true) : (36 ≤ o ∧ o ≤ 42) ∨ (o = 0 ∧ k = 6) ∨ (o = 68 ∧ (k = 1 ∨ k = 2 ∨ k = 3 ∨ k = 4 ∨ k = 9 ∨ k = 10)) := by
  unfold kBo at h
  rcases el_or h with h | h
  · rcases el_or h with h | h
    · have h := List.elem_iff.mp h
      simp only [List.mem_cons, List.not_mem_nil, or_false] at h
      omega
    · have h := el_an h
      omega
  · have h := el_al h
    simp only [List.mem_cons, List.not_mem_nil, or_false] at h
    omega
theorem kTr_i {o k : Nat} (h : kTr o k = true) : o = 62 ∨ o = 63 ∨ o = 110 ∨ (o = 61 ∧ k = 1) ∨ (o = 68 ∧ k = 66) := by
  unfold kTr at h
  rcases el_or h with h | h
  · rcases el_or h with h | h
    · have h := List.elem_iff.mp h
      simp only [List.mem_cons, List.not_mem_nil, or_false] at h
      omega
    · have h := el_an h
      omega
  · have h := el_an h
    omega
theorem kKo_i {o k : Nat} (h : kKo o k = true) : o = 81 ∨ o = 83 ∨ o = 84 := by
  have h := List.elem_iff.mp h
  simp only [List.mem_cons, List.not_mem_nil, or_false] at h
  omega
theorem kTp_i {o k : Nat} (h : kTp o k = true) : o = 65 ∨ o = 66 ∨ o = 111 ∨ o = 112 := by
  have h := List.elem_iff.mp h
  simp only [List.mem_cons, List.not_mem_nil, or_false] at h
  omega
theorem kYf_i {f o k : Nat} (h : kYf f o k = true) : o = 36 + f ∨ (o = 74 ∧ k = f) ∨ ((75 ≤ o ∧ o ≤ 78) ∧ 10 * f ≤ k ∧ k < 10 * f + 10) ∨ (o = 79 ∧ 100 * f ≤ k ∧ k < 100 * f + 100) := by
  unfold kYf at h
  rcases el_or h with h | h
  · rcases el_or h with h | h
    · rcases el_or h with h | h
      · exact Or.inl (eq_of_beq h)
      · exact Or.inr (Or.inl (el_an h))
    · obtain ⟨h1, h2⟩ := (Bool.and_eq_true _ _).mp h
      obtain ⟨h2, h3⟩ := (Bool.and_eq_true _ _).mp h2
      have h1 := List.elem_iff.mp h1
      have h2 := of_decide_eq_true h2
      have h3 := of_decide_eq_true h3
      simp only [List.mem_cons, List.not_mem_nil, or_false] at h1
      omega
  · obtain ⟨h1, h2⟩ := (Bool.and_eq_true _ _).mp h
    obtain ⟨h2, h3⟩ := (Bool.and_eq_true _ _).mp h2
    have h1 := eq_of_beq h1
    have h2 := of_decide_eq_true h2
    have h3 := of_decide_eq_true h3
    omega
theorem kYf_of {f o k : Nat} (h : (o = 36 + f) ∨ (o = 74 ∧ k = f) ∨ ((75 ≤ o ∧ o ≤ 78) ∧ 10 * f ≤ k ∧ k < 10 * f + 10) ∨ (o = 79 ∧ 100 * f ≤ k ∧ k < 100 * f + 100)) : kYf f o k = true := by
  unfold kYf
  rcases h with rfl | ⟨rfl, rfl⟩ | ⟨h1, h2, h3⟩ | ⟨rfl, h2, h3⟩
  · rw [beq_self_eq_true]
    rfl
  · rw [beq_self_eq_true k]
    exact (Bool.or_eq_true _ _).mpr (Or.inl ((Bool.or_eq_true _ _).mpr (Or.inl ((Bool.or_eq_true _ _).mpr (Or.inr rfl)))))
  · rw [decide_eq_true h2, decide_eq_true h3]
    refine (Bool.or_eq_true _ _).mpr (Or.inl ((Bool.or_eq_true _ _).mpr (Or.inr ?_)))
    rcases (show o = 75 ∨ o = 76 ∨ o = 77 ∨ o = 78 by omega) with rfl | rfl | rfl | rfl <;> rfl
  · rw [decide_eq_true h2, decide_eq_true h3]
    exact (Bool.or_eq_true _ _).mpr (Or.inr rfl)
theorem gPl_m {m m' : zv_M} {p1 a1 p2 a2 p3 a3 sl k v r n : Nat} (c1 : m'.1 p1 1 = m.1 p1 1) (c2 : m'.1 p2 1 = m.1 p2 1) (c3 : m'.1 p3 1 = m.1 p3 1) (c4 : m'.1 68 sl = m.1 68 sl) (c5 : ∀ i, m'.1 a1 i = m.1 a1 i ∧ m'.1 k i = m.1 k i ∧ m'.1 a2 i = m.1 a2 i ∧ m'.1 v i = m.1 v i ∧ m'.1 a3 i = m.1 a3 i ∧ m'.1 r i = m.1 r i) (h : gPl m p1 a1 p2 a2 p3 a3 sl k v r n) : gPl m' p1 a1 p2 a2 p3 a3 sl k v r n := by
  obtain ⟨hn, h1, h2, h3, h4, h5⟩ := h
  refine ⟨hn, c1.trans h1, c2.trans h2, c3.trans h3, c4.trans h4, fun i hi => ?_⟩
  obtain ⟨d1, d2, d3, d4, d5, -⟩ := c5 i
  obtain ⟨f1, f2, ⟨q3, f3, g3⟩, ⟨q4, f4, g4⟩, q, hq, f5, f6⟩ := h5 i hi
  exact ⟨by rw [d1, d2, f1], by rw [d3, d4, f2], ⟨q3, f3, d2.trans g3⟩, ⟨q4, f4, d4.trans g4⟩, q, hq, d5.trans f5, fun d hd => ((c5 _).2.2.2.2.2).trans (f6 d hd)⟩
theorem gPi_m {m m' : zv_M} {o a sl ma cap B : Nat} (c1 : m'.1 o 1 = m.1 o 1) (c2 : m'.1 68 sl = m.1 68 sl) (c3 : ∀ i, m'.1 a i = m.1 a i ∧ m'.1 ma i = m.1 ma i) (h : gPi m o a sl ma cap B) : gPi m' o a sl ma cap B := by
  obtain ⟨n, hn, h1, h2, h3⟩ := h
  refine ⟨n, hn, c1.trans h1, c2.trans h2, fun i hi => ?_⟩
  obtain ⟨f1, q, hq, f2⟩ := h3 i hi
  exact ⟨by rw [(c3 i).1, (c3 i).2, f1], q, hq, (c3 i).2.trans f2⟩
theorem gPi_0 {m : zv_M} {o a sl ma cap B : Nat} (c1 : m.1 o 1 = 0) (c2 : m.1 68 sl = 0) : gPi m o a sl ma cap B := ⟨0, Nat.zero_le _, c1, c2, fun i hi => absurd hi (Nat.not_lt_zero i)⟩
theorem gMn_m {m m' : zv_M} {a ma n W : Nat} (c : ∀ s, m'.1 a s = m.1 a s ∧ m'.1 ma s = m.1 ma s) (h : gMn m a ma n W) : gMn m' a ma n W := fun s hs => by
  rw [(c s).1, (c s).2]
  exact h s hs
theorem hS_lt (kd W : Nat) (B : List Cl) : hS kd W B < 2 ^ (W * W) := bs_lt _ _
theorem and_o (a b : Nat) : a &&& (a ||| b) = a := by
  apply Nat.eq_of_testBit_eq
  intro i
  rw [Nat.testBit_and, Nat.testBit_or]
  cases a.testBit i <;> cases b.testBit i <;> rfl
theorem O_yard_ok : O_yard INV := fun m h => by
  have h' := h
  obtain ⟨D, hSD, cN, cM⟩ := pic h
  obtain ⟨y, hNow, hK, hB, hA, ⟨n, hn, t1, t2, t3⟩, hR, hP, hO, hY⟩ := h
  have hB' := hB
  obtain ⟨hy, hB1, hB2, hB3, hB5, hB6, hB7, hB8⟩ := hB'
  have hmen := g_menM hSD cM
  have hones := n_ones (p25 (Mn_lt D))
  by_cases y6 : y = 6
  · subst y6
    exact ⟨-4, m, m, by rw [fN_yard, hB1, if_neg (by decide), if_neg (by decide)], by rw [fM_yard, hB2, if_pos (by decide)], h'⟩
  have hy5 : y < 6 := by omega
  obtain ⟨L, hL, l1, l2⟩ := tx_L hn t3
  have h81 : L81 m := hO.1
  cases hp : pL L 10 [] 0 with
  | inl q =>
    have c := n_cls (W := 4) hL t1 l1 ⟨by decide, by decide⟩
    rw [hp] at c
    obtain ⟨m3, a1, a2⟩ := c
    have a1 : fRe_readClauses 4 m = some (Int32.ofNat q, m3) := a1
    have hq := pL_f hL 10 [] 0 q (Nat.zero_le n) hp
    have sN : fN_yard m = some ((-10) - Int32.ofNat q, wI m3 33 1 0) := by
      rw [fN_yard, hB1, if_neg (i_lt0 (by omega)), if_pos (show Int32.ofNat y < 6 from (i_lt (b := 6) (by omega) (by decide)).mpr hy5), zI_n (by omega) hy5, zg_t, a1, zb2_s, if_neg (i_lt0 (by omega)), fN_yard_j62, if_neg (i_lt0 (by omega))]
    have x3 : ∀ o k, ¬ (o = 33 ∧ 1 ≤ k ∧ k ≤ 9) → (wI m3 33 1 0).1 o k = m.1 o k := fun o k z => by
      rw [wI_o _ _ (by omega), a2.2 _ _ (by omega)]
    have hRT : RT L n (wI m3 33 1 0) := ⟨hL, (x3 _ _ (by omega)).trans t2, fun p hp => (x3 _ _ (by omega)).trans (l2 p hp)⟩
    have t := r_goes hRT (fun k hk => (x3 _ _ (by omega)).trans (h81 k hk)) hy5
    rw [hp] at t
    obtain ⟨m2, b1, b2, b3⟩ := t
    have sM : fM_yard (wI m3 33 1 0) = some ((-10) - Int32.ofNat q, wI m2 68 11 0) := by
      rw [fM_yard, x3 68 9 (by omega), hB2, if_neg (show ¬ Int32.ofNat y = 6 from fun z => by have := (i_eq (b := 6) (by omega) (by decide)).mp z; omega), b1, zb2_s, if_pos rfl, wI_o _ _ (by omega), b3]
    have cc : ∀ o k, ¬ ((o = 33 ∧ 1 ≤ k ∧ k ≤ 9) ∨ (o = 68 ∧ (k = 11 ∨ k = 12 ∨ k = 13 ∨ k = 22 ∨ k = 23 ∨ k = 24)) ∨ o = 80 ∨ (o = 79 ∧ 100 * y ≤ k ∧ k < 100 * y + 100) ∨ ((75 ≤ o ∧ o ≤ 78) ∧ 10 * y ≤ k ∧ k < 10 * y + 10) ∨ (o = 74 ∧ k = y)) → (wI m2 68 11 0).1 o k = m.1 o k := fun o k z => by
      rw [wI_o _ _ (by omega), b2.2 o k (by unfold tR; omega), x3 o k (by omega)]
    have e2 : (wI m2 68 11 0).2 = m.2 := by
      rw [wI_2]
      exact b2.1.trans a2.1
    refine ⟨_, _, _, sN, sM, ⟨y, fNow (fun o k z => cc o k (by have := kNow_i z; omega)) hNow, fKp (fun o k z => cc o k (by have := kKp_i z; omega)) hK, fBo (fun o k z => cc o k (by have := kBo_i z; omega)) hB, fBa (fun o k z => cc o k (by have := kBo_i z; omega)) hA, gPi_0 ?_ (wI_e _ _ _ _), fTr (fun o k z => cc o k (by have := kTr_i z; omega)) hR, fTp (fun o k z => cc o k (by have := kTp_i z; omega)) (fun _ _ => by rw [e2]) hP, fKo (fun o k z => cc o k (by have := kKo_i z; omega)) hO, fYf (fun f hf hf6 o k z => cc o k (by have := kYf_i z; omega)) hY⟩⟩
    rw [wI_o _ _ (by omega), b2.2 33 1 (by unfold tR; omega), wI_e]
  | inr B =>
    obtain ⟨m1, sN, n1, n2, n3, ⟨n4, n5, n6, n7⟩, n8, ⟨n9, n10, n11, n12⟩, n13, n14⟩ := yN_ok hy5 hB1 hL t1 l1 hp
    have x1 : ∀ o k, 68 ≤ o → m1.1 o k = m.1 o k := fun o k z => n2 o k (by unfold chN; omega)
    have hRT : RT L n m1 := ⟨hL, (x1 _ _ (by omega)).trans t2, fun p hp => (x1 _ _ (by omega)).trans (l2 p hp)⟩
    obtain ⟨m2, E, sM, k1, k2, ⟨k3, k4, k5⟩, k6, k7, k8, ⟨k9, k10, k11, k12⟩, k13, k14, k15, k16⟩ := yM_ok hy5 ((x1 _ _ (by omega)).trans hB2) hRT (fun k hk => (x1 _ _ (by omega)).trans (h81 k hk)) ((men_c fun k => x1 72 k (by omega)).trans hmen) hones hp
    have hg := pL_g hL 10 [] B 0 (fun c hc => absurd hc List.not_mem_nil) hp
    have hWW : 2 ≤ (fo4 B B.length).1 ∧ (fo4 B B.length).1 ≤ 5 ∧ (fo4 B B.length).2.1 ≤ 1 := fo_r 4 _ _ ⟨by decide, by decide, by decide⟩
    have xM : ∀ o k, o < 68 → m2.1 o k = m1.1 o k := fun o k z => k2 o k (by unfold chM tR; omega)
    have cc : ∀ o k, ¬ ((o = 33 ∧ 1 ≤ k ∧ k ≤ 9) ∨ (o = 36 + y ∧ k ≤ 3) ∨ (o = 8 ∧ k < 25) ∨ ((o = 9 ∨ o = 11 ∨ o = 13 ∨ o = 15) ∧ k = 1) ∨ (o = 1 ∧ k = 8) ∨ (o = 0 ∧ k = 6) ∨ (o = 68 ∧ ((1 ≤ k ∧ k ≤ 4) ∨ (9 ≤ k ∧ k ≤ 13) ∨ (22 ≤ k ∧ k ≤ 24) ∨ k = 42 ∨ k = 47 ∨ k = 50)) ∨ o = 80 ∨ o = 82 ∨ (o = 79 ∧ 100 * y ≤ k ∧ k < 100 * y + 100) ∨ ((75 ≤ o ∧ o ≤ 78) ∧ 10 * y ≤ k ∧ k < 10 * y + 10) ∨ (o = 74 ∧ k = y) ∨ (o = 72 ∧ k < 25)) → m2.1 o k = m.1 o k := fun o k z => by
      rw [k2 o k (by unfold chM tR; omega), n2 o k (by unfold chN; omega)]
    have e2 : m2.2 = m.2 := k1.trans n1
    have sl : ∀ k, gW m2 (Int32.ofNat y) k = m1.1 (36 + y) k := fun k => (gW_f m2 hy5 k).trans (xM _ _ (by omega))
    have gWc : ∀ x k, (x = -1 ∨ ∃ f : Nat, f < y ∧ x = Int32.ofNat f) → gW m2 x k = gW m x k := fun x k z => by
      rcases z with rfl | ⟨f, hf, rfl⟩
      · exact cc 42 k (by omega)
      · rw [gW_f m2 (by omega), gW_f m (by omega)]
        exact cc (36 + f) k (by omega)
    have or1 : ∀ x, (x = (-1 : Int32) ∨ ∃ f : Nat, f < y ∧ x = Int32.ofNat f) → (x = -1 ∨ ∃ f : Nat, f < y + 1 ∧ x = Int32.ofNat f) := fun x z => by
      rcases z with z | ⟨f, hf, z⟩
      · exact Or.inl z
      · exact Or.inr ⟨f, by omega, z⟩
    have hR01 : Int32.ofNat (fo4 B B.length).2.1 = 0 ∨ Int32.ofNat (fo4 B B.length).2.1 = 1 := by
      have := hWW.2.2
      rcases (show (fo4 B B.length).2.1 = 0 ∨ (fo4 B B.length).2.1 = 1 by omega) with z | z <;> rw [z]
      · exact Or.inl rfl
      · exact Or.inr rfl
    obtain ⟨nP, W0, hPl, -⟩ := hNow
    refine ⟨_, m1, m2, sN, sM, ⟨y + 1, ⟨nP, (fo4 B B.length).1, gPl_m (cc _ _ (by omega)) (cc _ _ (by omega)) (cc _ _ (by omega)) (cc _ _ (by omega)) (fun i => ⟨cc _ _ (by omega), cc _ _ (by omega), cc _ _ (by omega), cc _ _ (by omega), cc _ _ (by omega), cc _ _ (by omega)⟩) hPl, ?_, Or.inr ⟨y, Nat.lt_succ_self y, k4⟩, ⟨hWW.1, hWW.2.1, ?_⟩, fun s hs => ?_, gPi_0 ((xM _ _ (by omega)).trans n9) k14, gPi_0 ((xM _ _ (by omega)).trans n10) k15, gPi_0 ((xM _ _ (by omega)).trans n11) k15, gPi_0 ((xM _ _ (by omega)).trans n12) k16⟩, ?_, ⟨by omega, (xM _ _ (by omega)).trans n14, k5, fun f hf => ?_, ?_, ?_, ?_, ?_⟩, ?_, gPi_0 ((xM _ _ (by omega)).trans n3) k3, fTr (fun o k z => cc o k (by have := kTr_i z; omega)) hR, fTp (fun o k z => cc o k (by have := kTp_i z; omega)) (fun _ _ => by rw [e2]) hP, fKo (fun o k z => cc o k (by have := kKo_i z; omega)) hO, fun f hf hf6 mm ha e10 => ?_⟩⟩
    · rw [k4, xM _ _ (by omega), n13]
    · rw [k4, sl, n4]
    · rw [k13 s hs, xM _ _ (by omega), n8 s hs]
      exact ⟨rfl, Or.inl rfl⟩
    · rcases hK with ⟨f1, f2⟩ | ⟨f1, f2, n', W', gl, hN1, hN2, ⟨hW2, hW5, hN3⟩, gm, g5, g6, g7, g8⟩
      · exact Or.inl ⟨(cc _ _ (by omega)).trans f1, (cc _ _ (by omega)).trans f2⟩
      · have e53 : m2.1 68 53 = m.1 68 53 := cc _ _ (by omega)
        refine Or.inr ⟨(cc _ _ (by omega)).trans f1, (cc _ _ (by omega)).trans f2, n', W', gPl_m (cc _ _ (by omega)) (cc _ _ (by omega)) (cc _ _ (by omega)) (cc _ _ (by omega)) (fun i => ⟨cc _ _ (by omega), cc _ _ (by omega), cc _ _ (by omega), cc _ _ (by omega), cc _ _ (by omega), cc _ _ (by omega)⟩) gl, ?_, ?_, ⟨hW2, hW5, ?_⟩, gMn_m (fun s => ⟨cc _ _ (by omega), cc _ _ (by omega)⟩) gm, gPi_m (cc _ _ (by omega)) (cc _ _ (by omega)) (fun i => ⟨cc _ _ (by omega), cc _ _ (by omega)⟩) g5, gPi_m (cc _ _ (by omega)) (cc _ _ (by omega)) (fun i => ⟨cc _ _ (by omega), cc _ _ (by omega)⟩) g6, gPi_m (cc _ _ (by omega)) (cc _ _ (by omega)) (fun i => ⟨cc _ _ (by omega), cc _ _ (by omega)⟩) g7, gPi_m (cc _ _ (by omega)) (cc _ _ (by omega)) (fun i => ⟨cc _ _ (by omega), cc _ _ (by omega)⟩) g8⟩
        · rw [e53, cc 17 8 (by omega)]
          exact hN1
        · rw [e53]
          exact or1 _ hN2
        · rw [e53, gWc _ _ hN2]
          exact hN3
    · by_cases z : f = y
      · subst z
        rw [sl, sl, sl, sl, n4, n5, n6, n7]
        exact ⟨_, _, _, hWW.1, hWW.2.1, rfl, hR01, rfl, rfl, hS_lt _ _ _, Nat.or_lt_two_pow (hS_lt _ _ _) (hS_lt _ _ _), and_o _ _⟩
      · have hf : f < y := by omega
        rw [gWc _ _ (Or.inr ⟨f, hf, rfl⟩), gWc _ _ (Or.inr ⟨f, hf, rfl⟩), gWc _ _ (Or.inr ⟨f, hf, rfl⟩), gWc _ _ (Or.inr ⟨f, hf, rfl⟩)]
        exact hB3 f hf
    · rw [k4, sl, n4, k9]
    · rw [k4, sl, n5, k10]
    · rw [k4, sl, n6, k11]
    · rw [k4, sl, n7, k12]
    · obtain ⟨g1, g2, g3, g4⟩ := hA
      exact ⟨(cc _ _ (by omega)).trans g1, (cc _ _ (by omega)).trans g2, (cc _ _ (by omega)).trans g3, (cc _ _ (by omega)).trans g4⟩
    · by_cases z : f = y
      · subst z
        obtain ⟨r, r1, r2, r3, r4, r5, r6, r7⟩ := r_lay (m := mm) hf6 (KF_y k8 k6 fun o k q => ha o k (kYf_of (by omega))) hg k8 e10 ((ha _ _ (kYf_of (by omega))).trans k7)
        exact ⟨r, r1, r2, r3, by rw [r4, xM _ _ (by omega), n4], by rw [r5, xM _ _ (by omega), n5], by rw [r6, xM _ _ (by omega), n6], by rw [r7, xM _ _ (by omega), n7]⟩
      · exact fYf (y := y) (fun f hf hf6 o k z => cc o k (by have := kYf_i z; omega)) hY f (by omega) hf6 mm ha e10
