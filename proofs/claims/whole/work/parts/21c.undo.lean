theorem sqs_empty {m : zv_M} (w : Int32) (h : m.1 68 10 = -1) (h1 : m.1 68 1 = 4) : fM_squaresOf w m = some (0, m) := by
  have e := wn_eq (fM_squaresOf_l4 w) (fun i => ((0 : Int32), Int32.ofNat i, m)) 16 ((0 : Int32), m) (by decide) (fun i hi => by
    have hb : fM_begin m = some 0 := by rw [fM_begin, h, if_pos (by decide)]
    have e2 := wn_eq (fM_squaresOf_l23 w (Int32.ofNat i)) (fun _ => ((0 : Int32), (0 : Int32), m)) 0 ((0 : Int32), m) (by decide) (fun i hi => absurd hi (Nat.not_lt_zero i)) (by
      show fM_squaresOf_l23 _ _ (_, _, _) = _
      rw [fM_squaresOf_l23, fM_behind, h, if_pos (by decide), zb1_s, if_neg (by decide)])
    show fM_squaresOf_l4 _ (_, _, _) = _
    rw [fM_squaresOf_l4, h1, if_pos (show Int32.ofNat i < 4 * 4 from (i_lt (b := 16) (by omega) (by decide)).mpr hi), hb, zb1_s, e2, zb1_s, inc]) (by
    show fM_squaresOf_l4 _ (_, _, _) = _
    rw [fM_squaresOf_l4, h1, if_neg (by decide)])
  rw [fM_squaresOf]
  exact congrArg (fun z => zb1 z (fun r => some r)) e
theorem lay_empty {m : zv_M} (h : m.1 68 10 = -1) : fM_layBoard m = some (wI (wI (wI (wI m 68 1 4) 68 4 0) 68 2 0) 68 3 0) := by
  have h1 : (wI (wI m 68 1 4) 68 4 0).1 68 10 = -1 := h
  have h2 : (wI (wI (wI m 68 1 4) 68 4 0) 68 2 0).1 68 10 = -1 := h
  have e := wn_eq fM_layBoard_l15 (fun _ => ((0 : Int32), wI (wI m 68 1 4) 68 4 0)) 0 (wI (wI (wI (wI m 68 1 4) 68 4 0) 68 2 0) 68 3 0) (by decide) (fun i hi => absurd hi (Nat.not_lt_zero i)) (by
    show fM_layBoard_l15 (_, _) = _
    rw [fM_layBoard_l15, fM_behind, h1, if_pos (by decide), zb1_s, if_neg (by decide), sqs_empty 1 h1 rfl, zb2_s, sqs_empty 2 h2 rfl, zb2_s, z_ofn]
    rfl)
  rw [fM_layBoard, fM_begin, h1, if_pos (by decide), zb1_s]
  exact congrArg (fun z => zb1 z (fun r => some r)) e
theorem gW_c {m m' : zv_M} (h : ∀ o k, 36 ≤ o → o ≤ 42 → m'.1 o k = m.1 o k) (x : Int32) (k : Nat) : gW m' x k = gW m x k := by
  unfold gW
  rw [h 36 k (by decide) (by decide), h 37 k (by decide) (by decide), h 38 k (by decide) (by decide), h 39 k (by decide) (by decide), h 40 k (by decide) (by decide), h 41 k (by decide) (by decide), h 42 k (by decide) (by decide)]
theorem gW_f (m : zv_M) {f : Nat} (hf : f < 6) (k : Nat) : gW m (Int32.ofNat f) k = m.1 (36 + f) k := by
  rcases (show f = 0 ∨ f = 1 ∨ f = 2 ∨ f = 3 ∨ f = 4 ∨ f = 5 by omega) with rfl | rfl | rfl | rfl | rfl | rfl <;> rfl
theorem O_undo_ok : O_undo INV := fun m h => by
  have h' := h
  obtain ⟨y, hNow, hK, hB, hA, hT, hR, hP, hO, hY⟩ := h
  have hK' := hK
  rcases hK with ⟨k1, k2⟩ | ⟨k1, k2, ⟨n, W, ⟨hn, a1, a2, a3, a4, a5⟩, hN1, hN2, ⟨hW2, hW5, hN3⟩, hMn, ⟨n5, hn5, b1, b2, b3⟩, ⟨n6, hn6, c1, c2, c3⟩, ⟨n7, hn7, d1, d2, d3⟩, ⟨n8, hn8, e1, e2, e3⟩⟩⟩
  · exact ⟨-3, m, m, by rw [fN_undo, k1, if_pos (by decide)], by rw [fM_undo, k2, if_pos (by decide)], h'⟩
  have hB' := hB
  obtain ⟨hy, hB1, hB2, hB3, hB5, hB6, hB7, hB8⟩ := hB
  have sN : fN_undo m = some (Int32.ofNat n, mU1 m n n5 n6 n7 n8) := by
    rw [fN_undo, k1, if_neg (by decide), kB_ok a1 a2 a3 hn b1 hn5 c1 hn6 d1 hn7 e1 hn8, zb1_s]
    rfl
  have cO : ∀ o k, 36 ≤ o → o ≤ 42 → (mU2 m n n5 n6 n7 n8).1 o k = m.1 o k := fun o k q1 q2 => mU2_o m n n5 n6 n7 n8 (by omega) (by omega)
  have hlay : ∃ r, fM_layBoard (mU2 m n n5 n6 n7 n8) = some r ∧ r.2 = (mU2 m n n5 n6 n7 n8).2 ∧ (∀ o k, ¬ o = 82 → ¬ (o = 68 ∧ 1 ≤ k ∧ k ≤ 4) → r.1 o k = (mU2 m n n5 n6 n7 n8).1 o k) ∧ r.1 68 1 = gW m (m.1 68 53) 0 ∧ r.1 68 4 = gW m (m.1 68 53) 1 ∧ r.1 68 2 = gW m (m.1 68 53) 2 ∧ r.1 68 3 = gW m (m.1 68 53) 3 := by
    rcases hN2 with q | ⟨f, hf, q⟩
    · have q1 : (mU2 m n n5 n6 n7 n8).1 68 10 = -1 := q
      obtain ⟨g1, g2, g3, g4⟩ := hA
      have gg : ∀ k, gW m (m.1 68 53) k = m.1 42 k := fun k => by rw [q, gW, if_pos (by decide)]
      refine ⟨_, lay_empty q1, rfl, fun o k z1 z2 => ?_, ?_, ?_, ?_, ?_⟩
      · rw [wI_o _ _ (by omega), wI_o _ _ (by omega), wI_o _ _ (by omega), wI_o _ _ (by omega)]
      · rw [gg, g1]; rfl
      · rw [gg, g2]; rfl
      · rw [gg, g3]; rfl
      · rw [gg, g4]; rfl
    · have hf6 : f < 6 := by omega
      obtain ⟨r, r1, r2, r3, r4, r5, r6, r7⟩ := hY f hf hf6 (mU2 m n n5 n6 n7 n8) (fun o k hk => mU2_o m n n5 n6 n7 n8 (by
        have hd := kYf_d hf6 hk
        have hl : o ∈ [36, 37, 38, 39, 40, 41, 74, 75, 76, 77, 78, 79] := List.elem_iff.mp hd
        simp only [List.mem_cons, List.not_mem_nil, or_false] at hl
        omega) (by
        have hd := kYf_d hf6 hk
        have hl : o ∈ [36, 37, 38, 39, 40, 41, 74, 75, 76, 77, 78, 79] := List.elem_iff.mp hd
        simp only [List.mem_cons, List.not_mem_nil, or_false] at hl
        omega)) q
      exact ⟨r, r1, r2, r3, by rw [r4, q, gW_f m hf6], by rw [r5, q, gW_f m hf6], by rw [r6, q, gW_f m hf6], by rw [r7, q, gW_f m hf6]⟩
  obtain ⟨r, r1, r2, r3, r4, r5, r6, r7⟩ := hlay
  have sM : fM_undo (mU1 m n n5 n6 n7 n8) = some (Int32.ofNat n, r) := by
    have z : ¬ (mU1 m n n5 n6 n7 n8).1 68 52 = 0 := by
      rw [show (mU1 m n n5 n6 n7 n8).1 68 52 = m.1 68 52 from rfl, k2]
      decide
    rw [kD_ok _ z r1, r3 68 0 (by decide) (by decide), show (mU2 m n n5 n6 n7 n8).1 68 0 = m.1 68 54 from rfl, a4]
  have hc : ∀ o k, (o = 0 ∨ (16 < o ∧ o < 69 ∧ ¬ o = 68) ∨ (72 < o ∧ ¬ o = 82 ∧ ¬ o = 95 ∧ ¬ o = 99 ∧ ¬ o = 100 ∧ ¬ o = 101) ∨ (o = 68 ∧ (k = 9 ∨ k = 11 ∨ 52 ≤ k))) → r.1 o k = m.1 o k := fun o k q => by
    rw [r3 o k (by omega) (by omega), mU2_o m n n5 n6 n7 n8 (by omega) (by omega)]
  have A : ∀ K : Nat → Nat → Bool, (∀ o k, K o k = true → (o = 0 ∨ (16 < o ∧ o < 69 ∧ ¬ o = 68) ∨ (72 < o ∧ ¬ o = 82 ∧ ¬ o = 95 ∧ ¬ o = 99 ∧ ¬ o = 100 ∧ ¬ o = 101) ∨ (o = 68 ∧ (k = 9 ∨ k = 11 ∨ 52 ≤ k)))) → ag K m r := fun K q o k hK => hc o k (q o k hK)
  have g : ∀ x k, gW r x k = gW m x k := gW_c (fun o k q1 q2 => hc o k (by omega))
  have t10 : r.1 68 10 = m.1 68 53 := (r3 68 10 (by decide) (by decide)).trans rfl
  have tr : ∀ o k, ¬ o = 82 → ¬ o = 68 → r.1 o k = (mU2 m n n5 n6 n7 n8).1 o k := fun o k z1 z2 => r3 o k z1 (by omega)
  have ts : ∀ k, (k = 0 ∨ 5 ≤ k) → r.1 68 k = (mU2 m n n5 n6 n7 n8).1 68 k := fun k z => r3 68 k (by decide) (by omega)
  refine ⟨Int32.ofNat n, mU1 m n n5 n6 n7 n8, r, sN, sM, ⟨y, ⟨n, W, ⟨hn, (tr 2 1 (by decide) (by decide)).trans rfl, (tr 4 1 (by decide) (by decide)).trans rfl, (tr 6 1 (by decide) (by decide)).trans rfl, (ts 0 (by decide)).trans a4, fun i hi => ?_⟩, ?_, ?_, ⟨hW2, hW5, ?_⟩, fun s hs => ?_, ⟨n5, hn5, (tr 9 1 (by decide) (by decide)).trans rfl, (ts 42 (by decide)).trans b2, fun i hi => ?_⟩, ⟨n6, hn6, (tr 11 1 (by decide) (by decide)).trans rfl, (ts 47 (by decide)).trans c2, fun i hi => ?_⟩, ⟨n7, hn7, (tr 13 1 (by decide) (by decide)).trans rfl, (ts 47 (by decide)).trans d2, fun i hi => ?_⟩, ⟨n8, hn8, (tr 15 1 (by decide) (by decide)).trans rfl, (ts 50 (by decide)).trans e2, fun i hi => ?_⟩⟩, fKp (A _ ?_) hK', ⟨hy, ?_, ?_, fun f hf => ?_, ?_, ?_, ?_, ?_⟩, ?_, fTx (A _ ?_) hT, fTr (A _ ?_) hR, fTp (A _ ?_) (fun _ _ => by rw [r2]; rfl) hP, fKo (A _ ?_) hO, fYd (A _ ?_) hY⟩⟩
  · obtain ⟨f1, f2, f3, f4, q, hq, f5, f6⟩ := a5 i hi
    rw [tr 3 i (by decide) (by decide), tr 5 i (by decide) (by decide), tr 7 i (by decide) (by decide), tr 69 i (by decide) (by decide), tr 70 i (by decide) (by decide), mU2_3 m n n5 n6 n7 n8 hi, mU2_5 m n n5 n6 n7 n8 hi, mU2_7 m n n5 n6 n7 n8 hi, mU2_69 m n n5 n6 n7 n8 (by omega), mU2_70 m n n5 n6 n7 n8 (by omega)]
    refine ⟨f1, f2, f3, f4, q, hq, f5, fun d hd => ?_⟩
    rw [tr 71 _ (by decide) (by decide), mU2_71 m n n5 n6 n7 n8 (by omega)]
    exact f6 d hd
  · rw [t10, tr 1 8 (by decide) (by decide)]
    exact hN1
  · rw [t10]
    exact hN2
  · rw [t10, g]
    exact hN3
  · rw [tr 8 s (by decide) (by decide), tr 72 s (by decide) (by decide), mU2_8 m n n5 n6 n7 n8 hs, mU2_72 m n n5 n6 n7 n8 hs]
    exact hMn s hs
  · rw [tr 10 i (by decide) (by decide), tr 95 i (by decide) (by decide), mU2_10 m n n5 n6 n7 n8 hi, mU2_95 m n n5 n6 n7 n8 (by omega)]
    exact b3 i hi
  · rw [tr 12 i (by decide) (by decide), tr 99 i (by decide) (by decide), mU2_12 m n n5 n6 n7 n8 hi, mU2_99 m n n5 n6 n7 n8 (by omega)]
    exact c3 i hi
  · rw [tr 14 i (by decide) (by decide), tr 100 i (by decide) (by decide), mU2_14 m n n5 n6 n7 n8 hi, mU2_100 m n n5 n6 n7 n8 (by omega)]
    exact d3 i hi
  · rw [tr 16 i (by decide) (by decide), tr 101 i (by decide) (by decide), mU2_16 m n n5 n6 n7 n8 hi, mU2_101 m n n5 n6 n7 n8 (by omega)]
    exact e3 i hi
  · intro o k q
    unfold kKp at q
    simp only [Bool.or_eq_true, Bool.and_eq_true, beq_iff_eq, List.elem_eq_mem, decide_eq_true_eq, List.mem_cons, List.not_mem_nil, or_false] at q
    omega
  · rw [hc 0 6 (by omega)]
    exact hB1
  · rw [hc 68 9 (by omega)]
    exact hB2
  · rw [g, g, g, g]
    exact hB3 f hf
  · rw [t10, g]
    exact r4
  · rw [t10, g]
    exact r5
  · rw [t10, g]
    exact r6
  · rw [t10, g]
    exact r7
  · obtain ⟨g1, g2, g3, g4⟩ := hA
    exact ⟨(hc 42 0 (by omega)).trans g1, (hc 42 1 (by omega)).trans g2, (hc 42 2 (by omega)).trans g3, (hc 42 3 (by omega)).trans g4⟩
  · intro o k q
    unfold kTx at q
    simp only [Bool.or_eq_true, Bool.and_eq_true, beq_iff_eq, List.elem_eq_mem, decide_eq_true_eq, List.mem_cons, List.not_mem_nil, or_false] at q
    omega
  · intro o k q
    unfold kTr at q
    simp only [Bool.or_eq_true, Bool.and_eq_true, beq_iff_eq, List.elem_eq_mem, decide_eq_true_eq, List.mem_cons, List.not_mem_nil, or_false] at q
    omega
  · intro o k q
    unfold kTp at q
    simp only [Bool.or_eq_true, Bool.and_eq_true, beq_iff_eq, List.elem_eq_mem, decide_eq_true_eq, List.mem_cons, List.not_mem_nil, or_false] at q
    omega
  · intro o k q
    unfold kKo at q
    simp only [Bool.or_eq_true, Bool.and_eq_true, beq_iff_eq, List.elem_eq_mem, decide_eq_true_eq, List.mem_cons, List.not_mem_nil, or_false] at q
    omega
  · intro o k q
    unfold kYd at q
    simp only [Bool.or_eq_true, Bool.and_eq_true, beq_iff_eq, List.elem_eq_mem, decide_eq_true_eq, List.mem_cons, List.not_mem_nil, or_false] at q
    omega
