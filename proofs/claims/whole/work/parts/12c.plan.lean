/-- n cells of an array from b on become v -/
def wR (m : zv_M) (a b n : Nat) (v : Int32) : zv_M := (fun o k => if o = a ∧ b ≤ k ∧ k < b + n then v else m.1 o k, m.2)
theorem wR_0 (m : zv_M) (a b : Nat) (v : Int32) : wR m a b 0 v = m := by
  unfold wR
  refine Prod.ext ?_ rfl
  funext o k
  exact if_neg (by omega)
theorem wR_s (m : zv_M) (a b n : Nat) (v : Int32) : wI (wR m a b n v) a (b + n) v = wR m a b (n + 1) v := by
  unfold wI wR
  refine Prod.ext ?_ rfl
  funext o k
  show (if o = a ∧ k = b + n then v else if o = a ∧ b ≤ k ∧ k < b + n then v else m.1 o k) = if o = a ∧ b ≤ k ∧ k < b + (n + 1) then v else m.1 o k
  by_cases h1 : o = a ∧ k = b + n
  · rw [if_pos h1, if_pos (by omega)]
  · rw [if_neg h1]
    by_cases h2 : o = a ∧ b ≤ k ∧ k < b + n
    · rw [if_pos h2, if_pos (by omega)]
    · rw [if_neg h2, if_neg (by omega)]
theorem wR_o (m : zv_M) {a b n o k : Nat} (v : Int32) (h : ¬ (o = a ∧ b ≤ k ∧ k < b + n)) : (wR m a b n v).1 o k = m.1 o k := if_neg h
theorem wR_e (m : zv_M) {a b n k : Nat} (v : Int32) (h : b ≤ k ∧ k < b + n) : (wR m a b n v).1 a k = v := if_pos ⟨rfl, h⟩
theorem ag_R {K : Nat → Nat → Bool} {m m' : zv_M} {a b n : Nat} {v : Int32} (h : ag K m m') (hk : ∀ k, K a k = false) : ag K m (wR m' a b n v) := fun o' k' q => by
  rw [wR_o m' v (by rintro ⟨rfl, -⟩; rw [hk] at q; cases q)]
  exact h o' k' q
theorem plan_loop {m : zv_M} {n : Nat} (hn : n < 6) (h : m.1 68 0 = Int32.ofNat n) : whileN zFU fM_plan_l61 (0, m) = some (Int32.ofNat n, wI (wR m 71 (8 * n) 8 1) 68 0 (Int32.ofNat (n + 1))) := by
  have hr : ∀ i, (wR m 71 (8 * n) i 1).1 68 0 = Int32.ofNat n := fun i => by rw [wR_o _ _ (by omega), h]
  obtain ⟨r, e, q⟩ := wn_up fM_plan_l61 (fun i (μ : zv_M) => (Int32.ofNat i, μ)) 8 (fun i μ => μ = wR m 71 (8 * n) i 1) (fun r => r = (Int32.ofNat n, wI (wR m 71 (8 * n) 8 1) 68 0 (Int32.ofNat (n + 1)))) (by decide) (fun i μ hi hμ => by
    subst hμ
    refine ⟨wR m 71 (8 * n) (i + 1) 1, ?_, rfl⟩
    have e1 : Int32.ofNat i < 8 := (i_lt (b := 8) (by omega) (by decide)).mpr hi
    have e2 : 8 * Int32.ofNat n + Int32.ofNat i = Int32.ofNat (8 * n + i) := by
      rw [show (8 : Int32) = Int32.ofNat 8 from rfl, i_mu, i_pl]
    have e3 : Int32.ofNat i + 1 = Int32.ofNat (i + 1) := i_pl i 1
    show fM_plan_l61 (Int32.ofNat i, wR m 71 (8 * n) i 1) = _
    rw [fM_plan_l61, if_pos e1, hr, e2, zI_n (by omega) (by omega), zg_t, i_tn (by omega), e3, wR_s]) (fun μ hμ => by
    subst hμ
    refine ⟨_, ?_, rfl⟩
    have e3 : Int32.ofNat n + 1 = Int32.ofNat (n + 1) := i_pl n 1
    have e4 : Int32.ofNat (n + 1) - 1 = Int32.ofNat n := i_mi (a := n + 1) (b := 1) (by omega) (by omega)
    show fM_plan_l61 (Int32.ofNat 8, wR m 71 (8 * n) 8 1) = _
    rw [fM_plan_l61, if_neg (by decide), hr, e3, wI_e, e4]) m (wR_0 m 71 (8 * n) 1).symm
  subst q
  exact e
theorem O_plan_ok : O_plan INV := fun m h x1 x2 => by
  have h' := h
  obtain ⟨y, ⟨n, W, hPl, hN1, hN2, hN3, hN4, hN5⟩, hK, hB, hA, hT, hR, hP, hO, hY⟩ := h
  obtain ⟨hn, a1, a2, a3, a4, a5⟩ := hPl
  rcases i_cases x1 with hx | ⟨j, hj, rfl⟩
  · exact ⟨-1, m, m, by rw [fN_plan, fN_isKind, if_pos hx]; rfl, by rw [fM_plan, in_neg (by decide) hx]; rfl, h'⟩
  · by_cases h1 : j < 7
    · have k1 : fN_isKind (Int32.ofNat j) = some 1 := by rw [isKind_nat hj, if_pos h1]
      have k2 : fM_in (Int32.ofNat j) 0 6 = some 1 := by rw [in_l 0 6 0 6 hj rfl rfl (by decide) (by decide), if_pos (by omega)]
      rcases i_cases x2 with hx | ⟨v, hv, rfl⟩
      · exact ⟨-2, m, m, by rw [fN_plan, k1, zb1_s, if_neg (by decide), if_pos hx], by rw [fM_plan, k2, zb1_s, if_neg (by decide), in_neg (by decide) hx]; rfl, h'⟩
      · by_cases h2 : v ≤ 9
        · have k3 : fM_in (Int32.ofNat v) 0 9 = some 1 := by rw [in_l 0 9 0 9 hv rfl rfl (by decide) (by decide), if_pos (by omega)]
          have k4 : ¬ (9 : Int32) < Int32.ofNat v := fun q => by have := (i_lt (a := 9) (by decide) hv).mp q; omega
          by_cases h3 : n < 6
          · have e4 : Int32.ofNat (n + 1) - 1 = Int32.ofNat n := i_mi (a := n + 1) (b := 1) (by omega) (by omega)
            have k5 : ¬ Int32.ofNat n = 6 := fun q => by have := (i_eq (b := 6) (by omega) (by decide)).mp q; omega
            generalize hX1 : Int32.ofNat j = X1 at *
            generalize hX2 : Int32.ofNat v = X2 at *
            generalize hN1' : Int32.ofNat (n + 1) = N1 at *
            have hm1 : ∃ m1, m1 = wI (wI (wI (wI (wI (wI m 3 n X1) 2 1 N1) 5 n X2) 4 1 N1) 7 n 255) 6 1 N1 := ⟨_, rfl⟩
            obtain ⟨m1, hm1⟩ := hm1
            have e0 : m1.1 68 0 = Int32.ofNat n := by subst hm1; exact a4
            refine ⟨Int32.ofNat n, m1, wI (wR (wI (wI m1 69 n X1) 70 n X2) 71 (8 * n) 8 1) 68 0 N1, ?_, ?_, ?_⟩
            · rw [fN_plan, k1, zb1_s, if_neg (by decide), if_neg (by rw [← hX2]; exact i_lt0 hv), if_neg k4, pi_full (a := 3) (cap := 6) (n := n) ⟨rfl, rfl, by decide, a1, hn, by decide⟩, if_pos h3, zb1_s, if_pos rfl, pi_add (a := 3) (cap := 6) (n := n) ⟨rfl, rfl, by decide, a1, hn, by decide⟩ h3, zb1_s, hN1', pi_add (m := wI (wI m 3 n X1) 2 1 N1) (o := 4) (a := 5) (cap := 6) (n := n) ⟨rfl, rfl, by decide, a2, hn, by decide⟩ h3, zb1_s, hN1', pi_add (m := wI (wI (wI (wI m 3 n X1) 2 1 N1) 5 n X2) 4 1 N1) (o := 6) (a := 7) (cap := 6) (n := n) ⟨rfl, rfl, by decide, a3, hn, by decide⟩ h3, zb1_s, hN1', ← hm1]
              have e6 : m1.1 2 1 = N1 := by subst hm1; rfl
              rw [e6, e4]
            · have e7 : (wI m1 69 n X1).1 68 0 = Int32.ofNat n := e0
              have e8 : (wI (wI m1 69 n X1) 70 n X2).1 68 0 = Int32.ofNat n := e0
              rw [fM_plan, k2, zb1_s, if_neg (by decide), k3, zb1_s, if_neg (by decide), e0, if_neg k5, zI_n (by omega) h3, zg_t, i_tn (by omega), e7, zI_n (by omega) h3, zg_t, i_tn (by omega), plan_loop h3 e8, zb1_s, hN1']
            · have A : ∀ K : Nat → Nat → Bool, K 3 n = false → K 2 1 = false → K 5 n = false → K 4 1 = false → K 7 n = false → K 6 1 = false → K 69 n = false → K 70 n = false → (∀ k, K 71 k = false) → K 68 0 = false → ag K m (wI (wR (wI (wI m1 69 n X1) 70 n X2) 71 (8 * n) 8 1) 68 0 N1) := fun K q1 q2 q3 q4 q5 q6 q7 q8 q9 q0 => by
                subst hm1
                exact ag_w (ag_R (ag_w (ag_w (ag_w (ag_w (ag_w (ag_w (ag_w (ag_w (ag_r m) q1) q2) q3) q4) q5) q6) q7) q8) q9) q0
              have h2' : (wI (wR (wI (wI m1 69 n X1) 70 n X2) 71 (8 * n) 8 1) 68 0 N1).2 = m.2 := by subst hm1; rfl
              refine ⟨y, ⟨n + 1, W, ⟨by omega, ?_, ?_, ?_, ?_, fun i hi => ?_⟩, ?_, ?_, ?_, fun s hs => ?_, ?_, ?_, ?_, ?_⟩, fKp (A _ rfl rfl rfl rfl rfl rfl rfl rfl (fun _ => rfl) rfl) hK, fBo (A _ rfl rfl rfl rfl rfl rfl rfl rfl (fun _ => rfl) rfl) hB, fBa (A _ rfl rfl rfl rfl rfl rfl rfl rfl (fun _ => rfl) rfl) hA, fTx (A _ rfl rfl rfl rfl rfl rfl rfl rfl (fun _ => rfl) rfl) hT, fTr (A _ rfl rfl rfl rfl rfl rfl rfl rfl (fun _ => rfl) rfl) hR, fTp (A _ rfl rfl rfl rfl rfl rfl rfl rfl (fun _ => rfl) rfl) (fun o _ => by rw [h2']) hP, fKo (A _ rfl rfl rfl rfl rfl rfl rfl rfl (fun _ => rfl) rfl) hO, fYd (A _ rfl rfl rfl rfl rfl rfl rfl rfl (fun _ => rfl) rfl) hY⟩
              · subst hm1; exact hN1'.symm
              · subst hm1; exact hN1'.symm
              · subst hm1; exact hN1'.symm
              · exact hN1'.symm
              · subst hm1
                by_cases q : i = n
                · subst q
                  refine ⟨(wI_e m 3 i X1).trans (wI_e _ 69 i X1).symm, (wI_e _ 5 i X2).trans (wI_e _ 70 i X2).symm, ⟨j, h1, (wI_e _ 69 i X1).trans hX1.symm⟩, ⟨v, by omega, (wI_e _ 70 i X2).trans hX2.symm⟩, 255, by decide, wI_e _ 7 i 255, fun d hd => ?_⟩
                  have e9 : Int32.ofNat (255 / 2 ^ d % 2) = 1 := (by decide : ∀ d, d < 8 → Int32.ofNat (255 / 2 ^ d % 2) = 1) d hd
                  rw [e9]
                  exact wR_e _ 1 (by omega)
                · obtain ⟨b1, b2, ⟨q3, b3, b4⟩, ⟨q5, b5, b6⟩, q7, b7, b8, b9⟩ := a5 i (by omega)
                  have f3 := wI_o m (o := 3) (k := n) (o' := 3) (k' := i) X1 (by omega)
                  have f5 := wI_o (wI (wI m 3 n X1) 2 1 N1) (o := 5) (k := n) (o' := 5) (k' := i) X2 (by omega)
                  have f7 := wI_o (wI (wI (wI (wI m 3 n X1) 2 1 N1) 5 n X2) 4 1 N1) (o := 7) (k := n) (o' := 7) (k' := i) 255 (by omega)
                  have f69 := wI_o (wI (wI (wI (wI (wI (wI m 3 n X1) 2 1 N1) 5 n X2) 4 1 N1) 7 n 255) 6 1 N1) (o := 69) (k := n) (o' := 69) (k' := i) X1 (by omega)
                  have f70 := wI_o (wI (wI (wI (wI (wI (wI (wI m 3 n X1) 2 1 N1) 5 n X2) 4 1 N1) 7 n 255) 6 1 N1) 69 n X1) (o := 70) (k := n) (o' := 70) (k' := i) X2 (by omega)
                  refine ⟨(f3.trans b1).trans f69.symm, (f5.trans b2).trans f70.symm, ⟨q3, b3, f69.trans b4⟩, ⟨q5, b5, f70.trans b6⟩, q7, b7, f7.trans b8, fun d hd => ?_⟩
                  exact (wR_o (wI (wI (wI (wI (wI (wI (wI (wI m 3 n X1) 2 1 N1) 5 n X2) 4 1 N1) 7 n 255) 6 1 N1) 69 n X1) 70 n X2) 1 (by omega)).trans (b9 d hd)
              · subst hm1; exact hN1
              · subst hm1; exact hN2
              · subst hm1; exact hN3
              · subst hm1
                obtain ⟨b1, b2⟩ := hN4 s hs
                refine ⟨b1, b2.imp id (fun q => ?_)⟩
                obtain ⟨q1, q, q2, q3⟩ := q
                exact ⟨q1, q, by omega, q3⟩
              · subst hm1; exact hN5.1
              · subst hm1; exact hN5.2.1
              · subst hm1; exact hN5.2.2.1
              · subst hm1; exact hN5.2.2.2
          · have k5 : m.1 68 0 = 6 := by rw [a4, show n = 6 by omega]; rfl
            exact ⟨-4, m, m, by rw [fN_plan, k1, zb1_s, if_neg (by decide), if_neg (i_lt0 hv), if_neg k4, pi_full (a := 3) (cap := 6) (n := n) ⟨rfl, rfl, by decide, a1, hn, by decide⟩, if_neg h3]; rfl, by rw [fM_plan, k2, zb1_s, if_neg (by decide), k3, zb1_s, if_neg (by decide), if_pos k5], h'⟩
        · have k4 : (9 : Int32) < Int32.ofNat v := (i_lt (a := 9) (by decide) hv).mpr (by omega)
          exact ⟨-2, m, m, by rw [fN_plan, k1, zb1_s, if_neg (by decide), if_neg (i_lt0 hv), if_pos k4], by rw [fM_plan, k2, zb1_s, if_neg (by decide), in_l 0 9 0 9 hv rfl rfl (by decide) (by decide), if_neg (by omega)]; rfl, h'⟩
    · exact ⟨-1, m, m, by rw [fN_plan, isKind_nat hj, if_neg h1]; rfl, by rw [fM_plan, in_l 0 6 0 6 hj rfl rfl (by decide) (by decide), if_neg (by omega)]; rfl, h'⟩
