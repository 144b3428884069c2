/-! The reference lays the board: the whole. -/
def AGL (m m' : zv_M) : Prop := m'.2 = m.2 ∧ ∀ o k, ¬ (o = 68 ∧ (k = 1 ∨ k = 4)) → m'.1 o k = m.1 o k
def fo4 (B : List Cl) (i : Nat) : S4 := (B.take i).foldl (apC 4) (4, 0, 0, 0)
theorem fo4_s {B : List Cl} {i : Nat} {c : Cl} (hc : B[i]? = some c) : fo4 B (i + 1) = apC 4 (fo4 B i) c := by
  unfold fo4
  rw [tk_1 hc, List.foldl_append]
  rfl
theorem r_lay {f : Nat} {m : zv_M} {E : List Int32} {B : List Cl} (hf : f < 6) (h : KF f m E B) (hg : ∀ c, c ∈ B → GCl c) (hB : B.length ≤ 10) (e10 : m.1 68 10 = Int32.ofNat f) (e74 : m.1 74 f = Int32.ofNat B.length) : ∃ m', fM_layBoard m = some m' ∧ m'.2 = m.2 ∧ (∀ o k, ¬ o = 82 → ¬ (o = 68 ∧ 1 ≤ k ∧ k ≤ 4) → m'.1 o k = m.1 o k) ∧ m'.1 68 1 = Int32.ofNat (fo4 B B.length).1 ∧ m'.1 68 4 = Int32.ofNat (fo4 B B.length).2.1 ∧ m'.1 68 2 = Int32.ofNat (hS 1 (fo4 B B.length).1 B) ∧ m'.1 68 3 = Int32.ofNat (hS 1 (fo4 B B.length).1 B ||| hS 2 (fo4 B B.length).1 B) := by
  have hM : ∀ m', AGL m m' → KF f m' E B ∧ m'.1 68 10 = Int32.ofNat f ∧ m'.1 74 f = Int32.ofNat B.length := fun m' ha => ⟨KF_y hB h fun o k q => ha.2 o k (by omega), (ha.2 _ _ (by omega)).trans e10, (ha.2 _ _ (by omega)).trans e74⟩
  obtain ⟨r, e, hr⟩ := wn_up fM_layBoard_l15 (fun i (m : zv_M) => (Int32.ofNat (10 * f + i), m)) B.length (fun i m' => AGL m m' ∧ m'.1 68 1 = Int32.ofNat (fo4 B i).1 ∧ m'.1 68 4 = Int32.ofNat (fo4 B i).2.1) (fun m' => m'.2 = m.2 ∧ (∀ o k, ¬ o = 82 → ¬ (o = 68 ∧ 1 ≤ k ∧ k ≤ 4) → m'.1 o k = m.1 o k) ∧ m'.1 68 1 = Int32.ofNat (fo4 B B.length).1 ∧ m'.1 68 4 = Int32.ofNat (fo4 B B.length).2.1 ∧ m'.1 68 2 = Int32.ofNat (hS 1 (fo4 B B.length).1 B) ∧ m'.1 68 3 = Int32.ofNat (hS 1 (fo4 B B.length).1 B ||| hS 2 (fo4 B B.length).1 B)) (by omega) (fun i m' hi ha => by
    obtain ⟨ha, a1, a4⟩ := ha
    obtain ⟨k1, k2, k3⟩ := hM m' ha
    obtain ⟨c, hc⟩ : ∃ c, B[i]? = some c := ⟨B[i], List.getElem?_eq_getElem hi⟩
    have hcg := hg c (List.mem_of_getElem? hc)
    obtain ⟨c1, c2, -⟩ := k1.2.2 i c hc
    have w1 : ∀ v, AGL m (wI m' 68 1 v) := fun v => ⟨ha.1, fun o k q => (wI_o _ _ (by omega)).trans (ha.2 o k q)⟩
    have w4 : ∀ v, AGL m (wI m' 68 4 v) := fun v => ⟨ha.1, fun o k q => (wI_o _ _ (by omega)).trans (ha.2 o k q)⟩
    have j70 : ∀ m5 : zv_M, m5.1 75 (10 * f + i) = Int32.ofNat c.1 → c.1 < 3 → fM_layBoard_j70 (Int32.ofNat (10 * f + i)) m5 = some (.inl (Int32.ofNat (10 * f + i + 1), m5)) := fun m5 h5 hl => by
      rw [fM_layBoard_j70, zI_n (by omega) (by omega), zg_t, i_tn (by omega), h5, if_neg (show ¬ (2 : Int32) < Int32.ofNat c.1 from fun z => by have := (i_lt (a := 2) (by decide) (by omega)).mp z; omega), fM_layBoard_j99, inc]
    have pre : fM_layBoard_l15 (Int32.ofNat (10 * f + i), m') = if c.1 = 0 then (if m'.1 76 (10 * f + i) < 2 then fM_layBoard_j67 (Int32.ofNat (10 * f + i)) m' 2 else if (5 : Int32) < m'.1 76 (10 * f + i) then fM_layBoard_j67 (Int32.ofNat (10 * f + i)) m' 5 else fM_layBoard_j67 (Int32.ofNat (10 * f + i)) m' (m'.1 76 (10 * f + i))) else fM_layBoard_j70 (Int32.ofNat (10 * f + i)) m' := by
      have eq : (Int32.ofNat c.1 = 0) = (c.1 = 0) := propext (i_eq (b := 0) (by have := hcg.1; omega) (by decide))
      rw [fM_layBoard_l15, r_behind hf k2 k3, zb1_s, if_pos ((i_lt (by omega) (by omega)).mpr (by omega)), zI_n (by omega) (by omega), zg_t, i_tn (by omega), c1]
      simp only [eq, zg_t]
    show ∃ x', fM_layBoard_l15 (_, _) = _ ∧ _
    rw [pre]
    by_cases q0 : c.1 = 0
    · have hv := hcg.2.1 q0
      have e76 := c2 q0
      have j67 : ∀ v, fM_layBoard_j67 (Int32.ofNat (10 * f + i)) m' v = some (.inl (Int32.ofNat (10 * f + i + 1), wI m' 68 1 v)) := fun v => by
        rw [fM_layBoard_j67]
        exact j70 _ ((wI_o _ _ (by omega)).trans c1) (by omega)
      refine ⟨wI m' 68 1 (Int32.ofNat (min (max c.2.1 2) 5)), ?_, w1 _, ?_, ?_⟩
      · have l1 : (Int32.ofNat c.2.1 < 2) = (c.2.1 < 2) := propext (i_lt (b := 2) (by omega) (by decide))
        have l2 : ((5 : Int32) < Int32.ofNat c.2.1) = (5 < c.2.1) := propext (i_lt (a := 5) (by decide) (by omega))
        rw [if_pos q0, e76, j67, j67, j67]
        simp only [l1, l2]
        by_cases t1 : c.2.1 < 2
        · rw [if_pos t1, show min (max c.2.1 2) 5 = 2 by omega]
          rfl
        · rw [if_neg t1]
          by_cases t2 : 5 < c.2.1
          · rw [if_pos t2, show min (max c.2.1 2) 5 = 5 by omega]
            rfl
          · rw [if_neg t2, show min (max c.2.1 2) 5 = c.2.1 by omega]
            rfl
      · rw [wI_e, fo4_s hc, apC, if_pos q0]
      · rw [wI_o _ _ (by omega), a4, fo4_s hc, apC, if_pos q0]
    · rw [if_neg q0]
      by_cases q3 : c.1 < 3
      · refine ⟨m', ?_, ha, ?_, ?_⟩
        · rw [j70 m' c1 q3]
          rfl
        · rw [a1, fo4_s hc, apC, if_neg q0]
          by_cases q1 : c.1 = 1
          · rw [if_pos q1]
          · rw [if_neg q1, if_pos (show c.1 = 2 by omega)]
        · rw [a4, fo4_s hc, apC, if_neg q0]
          by_cases q1 : c.1 = 1
          · rw [if_pos q1]
          · rw [if_neg q1, if_pos (show c.1 = 2 by omega)]
      · have hc5 := hcg.1
        have pj : fM_layBoard_j70 (Int32.ofNat (10 * f + i)) m' = if c.1 = 3 then some (.inl (Int32.ofNat (10 * f + i + 1), wI m' 68 4 1)) else some (.inl (Int32.ofNat (10 * f + i + 1), wI m' 68 4 0)) := by
          have eq : (Int32.ofNat c.1 = 3) = (c.1 = 3) := propext (i_eq (b := 3) (by omega) (by decide))
          rw [fM_layBoard_j70, zI_n (by omega) (by omega), zg_t, i_tn (by omega), c1, if_pos (show (2 : Int32) < Int32.ofNat c.1 from (i_lt (a := 2) (by decide) (by omega)).mpr (by omega)), zg_t]
          simp only [eq, fM_layBoard_j96, fM_layBoard_j99, inc]
          rfl
        rw [pj]
        by_cases t : c.1 = 3
        · refine ⟨wI m' 68 4 1, ?_, w4 _, ?_, ?_⟩
          · rw [if_pos t]
            rfl
          · rw [wI_o _ _ (by omega), a1, fo4_s hc, apC, if_neg q0, if_neg (by omega), if_neg (by omega), if_pos t]
          · rw [wI_e, fo4_s hc, apC, if_neg q0, if_neg (by omega), if_neg (by omega), if_pos t]
            rfl
        · refine ⟨wI m' 68 4 0, ?_, w4 _, ?_, ?_⟩
          · rw [if_neg t]
            rfl
          · rw [wI_o _ _ (by omega), a1, fo4_s hc, apC, if_neg q0, if_neg (by omega), if_neg (by omega), if_neg t]
          · rw [wI_e, fo4_s hc, apC, if_neg q0, if_neg (by omega), if_neg (by omega), if_neg t]
            rfl) (fun m' ha => by
    obtain ⟨ha, a1, a4⟩ := ha
    obtain ⟨k1, k2, k3⟩ := hM m' ha
    have hW : 2 ≤ (fo4 B B.length).1 ∧ (fo4 B B.length).1 ≤ 5 ∧ (fo4 B B.length).2.1 ≤ 1 := fo_r 4 _ _ ⟨by decide, by decide, by decide⟩
    obtain ⟨m1, b1, b2⟩ := r_sq (kd := 1) (m := m') ⟨k1, k2, k3, hB, a1⟩ hg hf (Or.inl rfl) hW.1 hW.2.1
    have hM2 := MB_a (f := f) (W := (fo4 B B.length).1) (E := E) (B := B) ⟨k1, k2, k3, hB, a1⟩ b2
    have hM3 : MB f (fo4 B B.length).1 (wI m1 68 2 (Int32.ofNat (hS 1 (fo4 B B.length).1 B))) E B := ⟨KF_y hB hM2.1 fun o k q => wI_o _ _ (by omega), (wI_o _ _ (by omega)).trans hM2.2.1, (wI_o _ _ (by omega)).trans hM2.2.2.1, hB, (wI_o _ _ (by omega)).trans hM2.2.2.2.2⟩
    obtain ⟨m2, c1, c2⟩ := r_sq (kd := 2) hM3 hg hf (Or.inr rfl) hW.1 hW.2.1
    have b1 : fM_squaresOf 1 m' = some (Int32.ofNat (hS 1 (fo4 B B.length).1 B), m1) := b1
    have c1 : fM_squaresOf 2 (wI m1 68 2 (Int32.ofNat (hS 1 (fo4 B B.length).1 B))) = some (Int32.ofNat (hS 2 (fo4 B B.length).1 B), m2) := c1
    have x : ∀ o k, ¬ o = 82 → ¬ (o = 68 ∧ 2 ≤ k ∧ k ≤ 3) → (wI m2 68 3 (Int32.ofNat (hS 1 (fo4 B B.length).1 B ||| hS 2 (fo4 B B.length).1 B))).1 o k = m'.1 o k := fun o k h1 h2 => by
      rw [wI_o _ _ (by omega), c2.2 o k (by omega), wI_o _ _ (by omega), b2.2 o k (by omega)]
    refine ⟨wI m2 68 3 (Int32.ofNat (hS 1 (fo4 B B.length).1 B ||| hS 2 (fo4 B B.length).1 B)), ?_, ?_, fun o k h1 h2 => ?_, ?_, ?_, ?_, wI_e _ _ _ _⟩
    · show fM_layBoard_l15 (_, _) = _
      rw [fM_layBoard_l15, r_behind hf k2 k3, zb1_s, if_neg (fun z => by have := (i_lt (by omega) (by omega)).mp z; omega), b1, zb2_s, c1, zb2_s, wI_e, n_or]
    · exact c2.1.trans (b2.1.trans ha.1)
    · exact (x o k h1 (by omega)).trans (ha.2 o k (by omega))
    · exact (x 68 1 (by omega) (by omega)).trans a1
    · exact (x 68 4 (by omega) (by omega)).trans a4
    · rw [wI_o _ _ (by omega), c2.2 _ _ (by omega), wI_e]) (wI (wI m 68 1 4) 68 4 0) ⟨⟨rfl, fun o k q => (wI_o _ _ (by omega)).trans (wI_o _ _ (by omega))⟩, (wI_o _ _ (by omega)).trans (wI_e _ _ _ _), wI_e _ _ _ _⟩
  refine ⟨r, ?_, hr⟩
  have e0 : (wI (wI m 68 1 4) 68 4 0).1 68 10 = Int32.ofNat f := (wI_o _ _ (by omega)).trans ((wI_o _ _ (by omega)).trans e10)
  have e : whileN zFU fM_layBoard_l15 (Int32.ofNat (10 * f), wI (wI m 68 1 4) 68 4 0) = some r := e
  rw [fM_layBoard, r_begin hf e0, zb1_s, e, zb1_s]
