/-- n longs of an array from b on become v -/
def wQ (m : zv_M) (a b n : Nat) (v : Int64) : zv_M := (m.1, fun o k => if o = a ∧ b ≤ k ∧ k < b + n then v else m.2 o k)
theorem wQ_0 (m : zv_M) (a b : Nat) (v : Int64) : wQ m a b 0 v = m := by
  unfold wQ
  refine Prod.ext rfl ?_
  funext o k
  exact if_neg (by omega)
theorem wQ_s (m : zv_M) (a b n : Nat) (v : Int64) : wL (wQ m a b n v) a (b + n) v = wQ m a b (n + 1) v := by
  unfold wL wQ
  refine Prod.ext rfl ?_
  funext o k
  show (if o = a ∧ k = b + n then v else if o = a ∧ b ≤ k ∧ k < b + n then v else m.2 o k) = if o = a ∧ b ≤ k ∧ k < b + (n + 1) then v else m.2 o k
  by_cases h1 : o = a ∧ k = b + n
  · rw [if_pos h1, if_pos (by omega)]
  · rw [if_neg h1]
    by_cases h2 : o = a ∧ b ≤ k ∧ k < b + n
    · rw [if_pos h2, if_pos (by omega)]
    · rw [if_neg h2, if_neg (by omega)]
theorem wQ_o (m : zv_M) {a b n o k : Nat} (v : Int64) (h : ¬ (o = a ∧ b ≤ k ∧ k < b + n)) : (wQ m a b n v).2 o k = m.2 o k := if_neg h
theorem wQ_e (m : zv_M) {a b n k : Nat} (v : Int64) (h : b ≤ k ∧ k < b + n) : (wQ m a b n v).2 a k = v := if_pos ⟨rfl, h⟩
theorem tape_lN {t : Nat} (ht : t < 6) (m : zv_M) : whileN zFU (fTa_become_l49 (Int32.ofNat t)) (0, m) = some (wQ m 67 (60 * t) 60 0) := by
  obtain ⟨r, e, q⟩ := wn_up (fTa_become_l49 (Int32.ofNat t)) (fun i (μ : zv_M) => (Int32.ofNat i, μ)) 60 (fun i μ => μ = wQ m 67 (60 * t) i 0) (fun r => r = wQ m 67 (60 * t) 60 0) (by decide) (fun i μ hi hμ => by
    subst hμ
    refine ⟨wQ m 67 (60 * t) (i + 1) 0, ?_, rfl⟩
    have e1 : Int32.ofNat i < 60 := (i_lt (b := 60) (by omega) (by decide)).mpr hi
    have e3 : Int32.ofNat i + 1 = Int32.ofNat (i + 1) := i_pl i 1
    show fTa_become_l49 (Int32.ofNat t) (Int32.ofNat i, wQ m 67 (60 * t) i 0) = _
    rw [fTa_become_l49, if_pos e1, tp_ix.1, zI_n (by omega) (by omega), zg_t, i_tn (by omega), e3, wQ_s]) (fun μ hμ => by
    subst hμ
    exact ⟨_, rfl, rfl⟩) m (wQ_0 m 67 (60 * t) 0).symm
  subst q
  exact e
theorem tape_lM {t : Nat} (ht : t < 6) (m : zv_M) : whileN zFU (fM_tape_l69 (Int32.ofNat t)) (0, m) = some (1, wQ m 113 (60 * t) 60 0) := by
  obtain ⟨r, e, q⟩ := wn_up (fM_tape_l69 (Int32.ofNat t)) (fun i (μ : zv_M) => (Int32.ofNat i, μ)) 60 (fun i μ => μ = wQ m 113 (60 * t) i 0) (fun r => r = (1, wQ m 113 (60 * t) 60 0)) (by decide) (fun i μ hi hμ => by
    subst hμ
    refine ⟨wQ m 113 (60 * t) (i + 1) 0, ?_, rfl⟩
    have e1 : Int32.ofNat i < 60 := (i_lt (b := 60) (by omega) (by decide)).mpr hi
    have e3 : Int32.ofNat i + 1 = Int32.ofNat (i + 1) := i_pl i 1
    show fM_tape_l69 (Int32.ofNat t) (Int32.ofNat i, wQ m 113 (60 * t) i 0) = _
    rw [fM_tape_l69, if_pos e1, tp_ix.2, zI_n (by omega) (by omega), zg_t, i_tn (by omega), e3, wQ_s]) (fun μ hμ => by
    subst hμ
    exact ⟨_, rfl, rfl⟩) m (wQ_0 m 113 (60 * t) 0).symm
  subst q
  exact e
/-- the class's tape becomes -/
theorem tape_bN {t z : Nat} (ht : t < 6) (hz : z ≤ 60) (s : Int32) (m : zv_M) : fTa_become (Int32.ofNat t) s (Int32.ofNat z) m = some (wQ (wI (wI m 65 t s) 66 t (Int32.ofNat z)) 67 (60 * t) 60 0) := by
  have e : Int32.ofNat t < 6 := (i_lt (b := 6) (by omega) (by decide)).mpr ht
  have e1 : fJ_max (Int32.ofNat z) 0 = some (Int32.ofNat z) := (by decide +kernel : ∀ z, z < 61 → fJ_max (Int32.ofNat z) 0 = some (Int32.ofNat z)) z (by omega)
  have e2 : fJ_min (Int32.ofNat z) 60 = some (Int32.ofNat z) := (by decide +kernel : ∀ z, z < 61 → fJ_min (Int32.ofNat z) 60 = some (Int32.ofNat z)) z (by omega)
  rw [fTa_become, if_neg (i_lt0 (by omega)), if_pos e, if_pos e, zI_n (by omega) ht, zg_t, e1, zb1_s, e2, zb1_s, zg_t, i_tn (by omega), tape_lN ht, zb1_s]
theorem tape_bM {t : Nat} (ht : t < 6) (s v : Int32) (m : zv_M) : fM_tape_j65 (Int32.ofNat t) s m v = some (1, wQ (wI (wI m 111 t s) 112 t v) 113 (60 * t) 60 0) := by
  rw [fM_tape_j65, zI_n (by omega) ht, zg_t, i_tn (by omega), tape_lM ht, zb1_s]
theorem tape_I {m : zv_M} {t z : Nat} {s : Int32} (ht : t < 6) (hz : z ≤ 60) (hs : s = -1 ∧ z = 0 ∨ ∃ q : Nat, q < 5 ∧ s = Int32.ofNat q) (h : INV m) : INV (wQ (wI (wI (wQ (wI (wI m 65 t s) 66 t (Int32.ofNat z)) 67 (60 * t) 60 0) 111 t s) 112 t (Int32.ofNat z)) 113 (60 * t) 60 0) := by
  obtain ⟨y, hN, hK, hB, hA, hT, hR, hP, hO, hY⟩ := h
  have A : ∀ K : Nat → Nat → Bool, K 65 t = false → K 66 t = false → K 111 t = false → K 112 t = false → ag K m (wQ (wI (wI (wQ (wI (wI m 65 t s) 66 t (Int32.ofNat z)) 67 (60 * t) 60 0) 111 t s) 112 t (Int32.ofNat z)) 113 (60 * t) 60 0) := fun K q1 q2 q3 q4 => ag_w (m' := wI (wI (wI m 65 t s) 66 t (Int32.ofNat z)) 111 t s) (ag_w (m' := wI (wI m 65 t s) 66 t (Int32.ofNat z)) (ag_w (ag_w (ag_r m) q1) q2) q3) q4
  refine ⟨y, fNow (A _ rfl rfl rfl rfl) hN, fKp (A _ rfl rfl rfl rfl) hK, fBo (A _ rfl rfl rfl rfl) hB, fBa (A _ rfl rfl rfl rfl) hA, fTx (A _ rfl rfl rfl rfl) hT, fTr (A _ rfl rfl rfl rfl) hR, fun t' ht' => ?_, fKo (A _ rfl rfl rfl rfl) hO, fYd (A _ rfl rfl rfl rfl) hY⟩
  obtain ⟨d1, d2, d3, d4, d5⟩ := hP t' ht'
  show (wI (wI (wI (wI m 65 t s) 66 t (Int32.ofNat z)) 111 t s) 112 t (Int32.ofNat z)).1 65 t' = (wI (wI (wI (wI m 65 t s) 66 t (Int32.ofNat z)) 111 t s) 112 t (Int32.ofNat z)).1 111 t' ∧ (wI (wI (wI (wI m 65 t s) 66 t (Int32.ofNat z)) 111 t s) 112 t (Int32.ofNat z)).1 66 t' = (wI (wI (wI (wI m 65 t s) 66 t (Int32.ofNat z)) 111 t s) 112 t (Int32.ofNat z)).1 112 t' ∧ (∃ z' : Nat, z' ≤ 60 ∧ (wI (wI (wI (wI m 65 t s) 66 t (Int32.ofNat z)) 111 t s) 112 t (Int32.ofNat z)).1 112 t' = Int32.ofNat z' ∧ ((wI (wI (wI (wI m 65 t s) 66 t (Int32.ofNat z)) 111 t s) 112 t (Int32.ofNat z)).1 111 t' = -1 ∧ z' = 0 ∨ ∃ q : Nat, q < 5 ∧ (wI (wI (wI (wI m 65 t s) 66 t (Int32.ofNat z)) 111 t s) 112 t (Int32.ofNat z)).1 111 t' = Int32.ofNat q)) ∧ (∀ k, k < 60 → (wQ (wQ m 67 (60 * t) 60 0) 113 (60 * t) 60 0).2 67 (60 * t' + k) = (wQ (wQ m 67 (60 * t) 60 0) 113 (60 * t) 60 0).2 113 (60 * t' + k)) ∧ ((wI (wI (wI (wI m 65 t s) 66 t (Int32.ofNat z)) 111 t s) 112 t (Int32.ofNat z)).1 111 t' = 4 → ∀ k, k < 60 → (wQ (wQ m 67 (60 * t) 60 0) 113 (60 * t) 60 0).2 113 (60 * t' + k) = 0 ∨ (wQ (wQ m 67 (60 * t) 60 0) 113 (60 * t) 60 0).2 113 (60 * t' + k) = 1)
  by_cases q : t' = t
  · subst q
    rw [wI_e, wI_o _ _ (by omega), wI_o _ _ (by omega), wI_o _ _ (by omega), wI_e, wI_o _ _ (by omega), wI_e, wI_o _ _ (by omega), wI_o _ _ (by omega), wI_e]
    refine ⟨rfl, rfl, ⟨z, hz, rfl, hs⟩, fun k hk => ?_, fun _ k hk => Or.inl ?_⟩
    · rw [wQ_o _ _ (by omega), wQ_e _ _ (by omega), wQ_e _ _ (by omega)]
    · rw [wQ_e _ _ (by omega)]
  · rw [wI_o _ _ (by omega), wI_o _ _ (by omega), wI_o _ _ (by omega), wI_o _ _ (by omega), wI_o _ _ (by omega), wI_o _ _ (by omega), wI_o _ _ (by omega), wI_o _ _ (by omega), wI_o _ _ (by omega), wI_o _ _ (by omega), wI_o _ _ (by omega), wI_o _ _ (by omega), wI_o _ _ (by omega), wI_o _ _ (by omega), wI_o _ _ (by omega), wI_o _ _ (by omega)]
    refine ⟨d1, d2, d3, fun k hk => ?_, fun q4 k hk => ?_⟩
    · rw [wQ_o _ _ (by omega), wQ_o _ _ (by omega), wQ_o _ _ (by omega), wQ_o _ _ (by omega)]
      exact d4 k hk
    · rw [wQ_o _ _ (by omega), wQ_o _ _ (by omega)]
      exact d5 q4 k hk
