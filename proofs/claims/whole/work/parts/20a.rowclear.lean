theorem t2 (q d : Nat) : q / 2 ^ d % 2 = if q.testBit d = true then 1 else 0 := by
  rw [Nat.testBit_eq_decide_div_mod_eq]
  rcases Nat.mod_two_eq_zero_or_one (q / 2 ^ d) with b | b
  · rw [b]; rfl
  · rw [b]; rfl
theorem n_andb (q k : Nat) (hq : q < 256) (hk : k < 8) : (Int32.ofNat q &&& (1 : Int32) <<< (Int32.ofNat k &&& 31) = 0) ↔ q.testBit k = false := by
  rw [n_sh k (by omega), n_and, n_eq0 (Nat.lt_of_le_of_lt Nat.and_le_left (by omega))]
  constructor
  · intro h
    have e := congrArg (fun z => z.testBit k) h
    simp only [Nat.testBit_and, Nat.testBit_two_pow, Nat.zero_testBit] at e
    cases b : q.testBit k
    · rfl
    · rw [b] at e
      simp at e
  · intro h
    apply Nat.eq_of_testBit_eq
    intro i
    rw [Nat.testBit_and, Nat.testBit_two_pow, Nat.zero_testBit]
    by_cases z : k = i
    · subst z
      rw [h]
      rfl
    · rw [decide_eq_false z, Bool.and_false]
/-- row k of a plan's row becomes n -/
def rq (q k n : Nat) : Nat := if n = 1 then q ||| 2 ^ k else ad q (2 ^ k)
theorem rq_lt {q k n : Nat} (hq : q < 256) (hk : k < 8) : rq q k n < 256 := by
  unfold rq
  split
  · exact Nat.or_lt_two_pow (n := 8) hq (Nat.pow_lt_pow_right (by decide) hk)
  · exact ad_lt hq
theorem rq_t {q k n : Nat} (hn : n < 2) (d : Nat) : (rq q k n).testBit d = if d = k then decide (n = 1) else q.testBit d := by
  unfold rq
  by_cases h : d = k
  · subst h
    rw [if_pos rfl]
    split
    · rename_i e
      rw [Nat.testBit_or, Nat.testBit_two_pow, decide_eq_true rfl, Bool.or_true, decide_eq_true e]
    · rename_i e
      rw [ad_t, Nat.testBit_two_pow, decide_eq_true rfl, decide_eq_false e]
      simp
  · rw [if_neg h]
    split
    · rw [Nat.testBit_or, Nat.testBit_two_pow, decide_eq_false (fun z => h z.symm), Bool.or_false]
    · rw [ad_t, Nat.testBit_two_pow, decide_eq_false (fun z => h z.symm)]
      simp
theorem O_row_ok : O_row INV := fun m h x1 x2 x3 => by
  obtain ⟨D, hS, cN, cM⟩ := pic h
  rcases i_cases x1 with hx | ⟨p, hp, rfl⟩
  · exact ⟨-1, m, m, by rw [fN_row, (isPlan_neg hx).1]; rfl, by rw [fM_row, (isPlan_neg hx).2]; rfl, h⟩
  by_cases h1 : p < dn D
  · rcases i_cases x2 with hx | ⟨k, hk, rfl⟩
    · exact ⟨-1, m, m, by rw [fN_row, g_plan hS cN hp, if_pos h1, zb1_s, if_neg (by decide), if_pos hx], by rw [fM_row, g_planM hS cM hp, if_pos h1, zb1_s, if_neg (by decide), in_neg (by decide) hx]; rfl, h⟩
    have k7 : ((7 : Int32) < Int32.ofNat k) ↔ 7 < k := i_lt (a := 7) (by decide) hk
    by_cases h2 : 7 < k
    · exact ⟨-1, m, m, by rw [fN_row, g_plan hS cN hp, if_pos h1, zb1_s, if_neg (by decide), if_neg (i_lt0 hk), if_pos (k7.mpr h2)], by rw [fM_row, g_planM hS cM hp, if_pos h1, zb1_s, if_neg (by decide), in_l 0 7 0 7 hk rfl rfl (by decide) (by decide), if_neg (by omega)]; rfl, h⟩
    have k7n : ¬ (7 : Int32) < Int32.ofNat k := fun z => h2 (k7.mp z)
    have kin : fM_in (Int32.ofNat k) 0 7 = some 1 := by rw [in_l 0 7 0 7 hk rfl rfl (by decide) (by decide), if_pos (by omega)]
    rcases i_cases x3 with hx | ⟨n, hn, rfl⟩
    · exact ⟨-2, m, m, by rw [fN_row, g_plan hS cN hp, if_pos h1, zb1_s, if_neg (by decide), if_neg (i_lt0 hk), if_neg k7n, if_pos hx], by rw [fM_row, g_planM hS cM hp, if_pos h1, zb1_s, if_neg (by decide), kin, zb1_s, if_neg (by decide), in_neg (by decide) hx]; rfl, h⟩
    have k1 : ((1 : Int32) < Int32.ofNat n) ↔ 1 < n := i_lt (a := 1) (by decide) hn
    by_cases h3 : 1 < n
    · exact ⟨-2, m, m, by rw [fN_row, g_plan hS cN hp, if_pos h1, zb1_s, if_neg (by decide), if_neg (i_lt0 hk), if_neg k7n, if_neg (i_lt0 hn), if_pos (k1.mpr h3)], by rw [fM_row, g_planM hS cM hp, if_pos h1, zb1_s, if_neg (by decide), kin, zb1_s, if_neg (by decide), in_l 0 1 0 1 hn rfl rfl (by decide) (by decide), if_neg (by omega)]; rfl, h⟩
    have k1n : ¬ (1 : Int32) < Int32.ofNat n := fun z => h3 (k1.mp z)
    have nin : fM_in (Int32.ofNat n) 0 1 = some 1 := by rw [in_l 0 1 0 1 hn rfl rfl (by decide) (by decide), if_pos (by omega)]
    have h' := h
    obtain ⟨y, ⟨n', W, hPl, hN1, hN2, ⟨hW2, hW5, hN3⟩, hMn, hN5⟩, hK, hB, hA, hT, hR, hP, hO, hY⟩ := h
    obtain rfl : n' = dn D := (i_eq (by have := hPl.1; omega) (by have := hS.1; omega)).mp (hPl.2.2.2.2.1.symm.trans cM.2.1)
    obtain ⟨hn6, a1, a2, a3, a4, a5⟩ := hPl
    have g2 := (pl_get ⟨hn6, a1, a2, a3, a4, a5⟩ h1).1
    have g6 := (pl_get ⟨hn6, a1, a2, a3, a4, a5⟩ h1).2.2
    obtain ⟨c1, c2, ⟨kd, hkd, e1⟩, ⟨vd, hvd, e2⟩, ⟨q, hq, e3, e4⟩⟩ := a5 p h1
    by_cases h4 : kd = 6
    · subst h4
      have hk8 : k < 8 := by omega
      have s8 : 8 * Int32.ofNat p + Int32.ofNat k = Int32.ofNat (8 * p + k) := by rw [show (8 : Int32) = Int32.ofNat 8 from rfl, i_mu, i_pl]
      have hput : fPi_put 6 (Int32.ofNat p) (Int32.ofNat (rq q k n)) m = some (wI m 7 p (Int32.ofNat (rq q k n))) := pi_put (a := 7) (cap := 6) (n := dn D) ⟨rfl, rfl, by decide, a3, hn6, by decide⟩ h1 _
      have A : ∀ K : Nat → Nat → Bool, K 7 p = false → K 71 (8 * p + k) = false → ag K m (wI (wI m 7 p (Int32.ofNat (rq q k n))) 71 (8 * p + k) (Int32.ofNat n)) := fun K q1 q2 => ag_w (ag_w (ag_r m) q1) q2
      refine ⟨Int32.ofNat (q / 2 ^ k % 2), wI m 7 p (Int32.ofNat (rq q k n)), wI (wI m 7 p (Int32.ofNat (rq q k n))) 71 (8 * p + k) (Int32.ofNat n), ?_, ?_, ⟨y, ⟨dn D, W, ⟨hn6, a1, a2, a3, a4, fun i hi => ?_⟩, hN1, hN2, ⟨hW2, hW5, hN3⟩, hMn, hN5⟩, fKp (A _ rfl rfl) hK, fBo (A _ rfl rfl) hB, fBa (A _ rfl rfl) hA, fTx (A _ rfl rfl) hT, fTr (A _ rfl rfl) hR, fTp (A _ rfl rfl) (fun _ _ => rfl) hP, fKo (A _ rfl rfl) hO, fYd (A _ rfl rfl) hY⟩⟩
      · have j : ∀ v : Int32, v = Int32.ofNat (rq q k n) → fN_row_j97 (Int32.ofNat p) (Int32.ofNat k) m (Int32.ofNat q) v = some (Int32.ofNat (q / 2 ^ k % 2), wI m 7 p (Int32.ofNat (rq q k n))) := fun v hv => by
          subst hv
          rw [fN_row_j97, hput, zb1_s, t2]
          cases b : q.testBit k
          · rw [if_pos ((n_andb q k hq hk8).mpr b)]
            rfl
          · rw [if_neg (fun z => by rw [(n_andb q k hq hk8).mp z] at b; cases b)]
            rfl
        rw [fN_row, g_plan hS cN hp, if_pos h1, zb1_s, if_neg (by decide), if_neg (i_lt0 hk), if_neg k7n, if_neg (i_lt0 hn), if_neg k1n, g2, zb1_s, e1, if_pos (by decide), g6, zb1_s, e3]
        rcases (show n = 0 ∨ n = 1 by omega) with rfl | rfl
        · rw [if_neg (by decide)]
          exact j _ (by rw [n_sh k (by omega), n_ad]; rfl)
        · rw [if_pos (by decide)]
          exact j _ (by rw [n_sh k (by omega), n_or]; rfl)
      · have d1 : fM_isPlan (Int32.ofNat p) (wI m 7 p (Int32.ofNat (rq q k n))) = some 1 := by
          have := g_planM hS cM hp
          rw [if_pos h1] at this
          exact this
        rw [fM_row, d1, zb1_s, if_neg (by decide), kin, zb1_s, if_neg (by decide), nin, zb1_s, if_neg (by decide), zI_n hp (by omega), zg_t, i_tn hp, show (wI m 7 p (Int32.ofNat (rq q k n))).1 69 p = m.1 69 p from rfl, e1, if_pos (by decide), s8, zI_n (by omega) (by omega), zg_t, zg_t, i_tn (by omega), show (wI m 7 p (Int32.ofNat (rq q k n))).1 71 (8 * p + k) = m.1 71 (8 * p + k) from rfl, e4 k hk8]
      · obtain ⟨b1, b2, b3, b4, ⟨q', hq', b5, b6⟩⟩ := a5 i hi
        by_cases z : i = p
        · subst z
          refine ⟨b1, b2, b3, b4, rq q k n, rq_lt hq hk8, ?_, fun d hd => ?_⟩
          · rw [wI_o _ _ (by omega), wI_e]
          · by_cases z : d = k
            · subst z
              rw [wI_e, t2, rq_t (by omega), if_pos rfl]
              rcases (show n = 0 ∨ n = 1 by omega) with rfl | rfl <;> rfl
            · rw [wI_o _ _ (by omega), wI_o _ _ (by omega), e4 d hd, t2, t2, rq_t (by omega), if_neg z]
        · refine ⟨b1, b2, b3, b4, q', hq', ?_, fun d hd => ?_⟩
          · rw [wI_o _ _ (by omega), wI_o _ _ (by omega)]
            exact b5
          · rw [wI_o _ _ (by omega), wI_o _ _ (by omega)]
            exact b6 d hd
    · have z6 : ¬ Int32.ofNat kd = 6 := fun z => h4 ((i_eq (b := 6) (by omega) (by decide)).mp z)
      exact ⟨-3, m, m, by rw [fN_row, g_plan hS cN hp, if_pos h1, zb1_s, if_neg (by decide), if_neg (i_lt0 hk), if_neg k7n, if_neg (i_lt0 hn), if_neg k1n, g2, zb1_s, e1, if_neg z6], by rw [fM_row, g_planM hS cM hp, if_pos h1, zb1_s, if_neg (by decide), kin, zb1_s, if_neg (by decide), nin, zb1_s, if_neg (by decide), zI_n hp (by omega), zg_t, i_tn hp, e1, if_neg z6], h'⟩
  · exact ⟨-1, m, m, by rw [fN_row, g_plan hS cN hp, if_neg h1]; rfl, by rw [fM_row, g_planM hS cM hp, if_neg h1]; rfl, h⟩
/-! all men taken -/
theorem g_fill {a N : Nat} (hl : zln a = N) (hN : N < 1000000) (v : Int32) (m : zv_M) : fJ_fill a v m = some (vF m a (fun _ => v) N) := by
  have e := wn_eq (fJ_fill_l5 a v) (fun i => (Int32.ofNat i, vF m a (fun _ => v) i)) N (vF m a (fun _ => v) N) (by omega) (fun i hi => by
    show fJ_fill_l5 _ _ (_, _) = _
    rw [fJ_fill_l5, hl, if_pos ((i_lt (by omega) (by omega)).mpr hi), zI_n (by omega) hi, zg_t, i_tn (by omega), inc, vF_s (g := fun _ => v)]) (by
    show fJ_fill_l5 _ _ (_, _) = _
    rw [fJ_fill_l5, hl, if_neg (fun q => by have := (i_lt (by omega) (by omega)).mp q; omega)])
  rw [vF_0] at e
  rw [fJ_fill]
  exact congrArg (fun z => zb1 z (fun r => some r)) e
theorem g_takeAllM {D : Dt} {m : zv_M} (hS : CS D) (c : CM D m) : fM_takeAll m = some (Int32.ofNat (pc (Mn D)), vF m 72 (fun _ => -1) 25) := by
  have e := wn_eq (fM_takeAll_l11 (Int32.ofNat (pc (Mn D)))) (fun i => (Int32.ofNat i, vF m 72 (fun _ => -1) i)) 25 (Int32.ofNat (pc (Mn D)), vF m 72 (fun _ => -1) 25) (by decide) (fun i hi => by
    show fM_takeAll_l11 _ (_, _) = _
    rw [fM_takeAll_l11, if_pos (c25 hi), zI_n (by omega) hi, zg_t, i_tn (by omega), inc, vF_s (g := fun _ => (-1 : Int32))]) (by
    show fM_takeAll_l11 _ (_, _) = _
    rw [fM_takeAll_l11, if_neg (by decide)])
  rw [vF_0] at e
  rw [fM_takeAll, g_menM hS c, zb1_s, n_ones (p25 (Mn_lt D)), zb1_s]
  exact congrArg (fun z => zb1 z (fun r => some r)) e
theorem O_clear_ok : O_clear INV := fun m h => by
  obtain ⟨D, hS, cN, cM⟩ := pic h
  have cM1 : CM D (vF m 8 (fun _ => -1) 25) := cM
  refine ⟨Int32.ofNat (pc (Mn D)), vF m 8 (fun _ => -1) 25, vF (vF m 8 (fun _ => -1) 25) 72 (fun _ => -1) 25, ?_, ?_, ?_⟩
  · rw [fN_clear, g_men hS cN, zb1_s, n_bc (p25 (Mn_lt D)), zb1_s, fSt_takeAllMen, show zrf 1 3 = 8 from rfl, g_fill (N := 25) rfl (by decide)]
    rfl
  · rw [fM_clear, g_takeAllM hS cM1]
    rfl
  · have A : ∀ K : Nat → Nat → Bool, (∀ k, K 8 k = false) → (∀ k, K 72 k = false) → ag K m (vF (vF m 8 (fun _ => -1) 25) 72 (fun _ => -1) 25) := fun K q1 q2 => ag_F (ag_F (ag_r m) q1) q2
    obtain ⟨y, ⟨n, W, hPl, hN1, hN2, ⟨hW2, hW5, hN3⟩, hMn, hN5⟩, hK, hB, hA, hT, hR, hP, hO, hY⟩ := h
    refine ⟨y, ⟨n, W, hPl, hN1, hN2, ⟨hW2, hW5, hN3⟩, fun s hs => ?_, hN5⟩, fKp (A _ (fun _ => rfl) (fun _ => rfl)) hK, fBo (A _ (fun _ => rfl) (fun _ => rfl)) hB, fBa (A _ (fun _ => rfl) (fun _ => rfl)) hA, fTx (A _ (fun _ => rfl) (fun _ => rfl)) hT, fTr (A _ (fun _ => rfl) (fun _ => rfl)) hR, fTp (A _ (fun _ => rfl) (fun _ => rfl)) (fun _ _ => rfl) hP, fKo (A _ (fun _ => rfl) (fun _ => rfl)) hO, fYd (A _ (fun _ => rfl) (fun _ => rfl)) hY⟩
    rw [vF_o _ _ (by omega), vF_e _ _ _ hs, vF_e _ _ _ hs]
    exact ⟨rfl, Or.inl rfl⟩
