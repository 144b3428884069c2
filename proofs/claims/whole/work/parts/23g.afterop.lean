/-! One man in each row: where; and the op after. -/
def las (f : Nat → Bool) : Nat → Nat
  | 0 => 0
  | n + 1 => if f n = true then n else las f n
theorem las_lt {f : Nat → Bool} : ∀ n, 0 < fb_ct f n → las f n < n
  | 0, h => absurd h (Nat.lt_irrefl 0)
  | n + 1, h => by
    rw [las]
    rw [fb_ct_succ] at h
    cases e : f n
    · rw [e, if_neg (by decide), Nat.add_zero] at h
      rw [if_neg (by decide)]
      have := las_lt n h
      omega
    · rw [if_pos rfl]
      exact Nat.lt_succ_self n
def lm (m : zv_M) (a y : Nat) (f : Nat → Bool) (i : Nat) : zv_M := if fb_ct f i = 0 then m else wI m a y (Int32.ofNat (las f i))
theorem lm_s {m : zv_M} {a y : Nat} {f : Nat → Bool} {i : Nat} (h : f i = true) : wI (lm m a y f i) a y (Int32.ofNat i) = lm m a y f (i + 1) := by
  have h2 : ¬ fb_ct f (i + 1) = 0 := by rw [fb_ct_succ, h, if_pos rfl]; omega
  have h3 : las f (i + 1) = i := by rw [las, if_pos h]
  rw [lm, lm, if_neg h2, h3]
  by_cases q : fb_ct f i = 0
  · rw [if_pos q]
  · rw [if_neg q, wI_w]
theorem lm_f {m : zv_M} {a y : Nat} {f : Nat → Bool} {i : Nat} (h : f i = false) : lm m a y f (i + 1) = lm m a y f i := by
  have h2 : fb_ct f (i + 1) = fb_ct f i := by rw [fb_ct_succ, h, if_neg (by decide)]; omega
  have h3 : las f (i + 1) = las f i := by rw [las, if_neg (by rw [h]; decide)]
  rw [lm, lm, h2, h3]
theorem lm_sc {m : zv_M} {a y : Nat} {f : Nat → Bool} {i : Nat} (h : scr a y = true) : sc m (lm m a y f i) := by
  unfold lm
  split
  · exact sc_r m
  · exact sc_w (sc_r m) h
def mr (D : Dt) (y a : Nat) : Bool := on D (y * dW D + a)
def lb (D : Dt) (y : Nat) : Nat := las (mr D y) (dW D)
theorem sqlt {W y a : Nat} (hy : y < W) (ha : a < W) : y * W + a < W * W := by
  have : (y + 1) * W ≤ W * W := Nat.mul_le_mul_right _ hy
  rw [Nat.succ_mul] at this
  omega
theorem beh_in {D : Dt} {M : zv_M} (hS : CS D) {y : Nat} (hy : y < dW D) (h4 : M.1 49 4 = Int32.ofNat (dW D)) : whileN zFU (fRo_startBehind_l24 (Int32.ofNat (Mn D)) (Int32.ofNat y)) (0, 0, M) = some (Int32.ofNat (fb_ct (mr D y) (dW D)), lm M 51 y (mr D y) (dW D)) := by
  have h5 := hS.2.2.1
  have e := wn_eq (fRo_startBehind_l24 (Int32.ofNat (Mn D)) (Int32.ofNat y)) (fun i => (Int32.ofNat (fb_ct (mr D y) i), Int32.ofNat i, lm M 51 y (mr D y) i)) (dW D) (Int32.ofNat (fb_ct (mr D y) (dW D)), lm M 51 y (mr D y) (dW D)) (by omega) (fun i hi => by
    have c4 : (lm M 51 y (mr D y) i).1 49 4 = Int32.ofNat (dW D) := by
      unfold lm
      split
      · exact h4
      · exact h4
    have h25 := sq25 h5 (sqlt hy hi)
    have hb : (Mn D).testBit (y * dW D + i) = mr D y i := by rw [Mn_t, decide_eq_true h25, Bool.true_and, mr]
    show fRo_startBehind_l24 _ _ (_, _, _) = _
    rw [fRo_startBehind_l24, c4, if_pos ((i_lt (by omega) (by omega)).mpr hi), i_mu, i_pl, n_isIn (by omega), decide_eq_true h25, Bool.true_and, hb, zb1_s, if01, fb_ct_succ, fRo_startBehind_j60, fRo_startBehind_j60]
    cases f : mr D y i
    · rw [if_neg (show ¬ false = true by decide), if_neg (show ¬ false = true by decide), Nat.add_zero, lm_f f, inc]
    · rw [if_pos (show true = true from rfl), if_pos (show true = true from rfl), zI_n (by omega) (by omega), zg_t, i_tn (by omega), lm_s f, inc, inc]) (by
    have c4 : (lm M 51 y (mr D y) (dW D)).1 49 4 = Int32.ofNat (dW D) := by
      unfold lm
      split
      · exact h4
      · exact h4
    show fRo_startBehind_l24 _ _ (_, _, _) = _
    rw [fRo_startBehind_l24, c4, if_neg (fun q => by have := (i_lt (by omega) (by omega)).mp q; omega)])
  exact e
theorem lay_in {D : Dt} {M : zv_M} (hS : CS D) (c : CM D M) {y : Nat} (hy : y < dW D) : whileN zFU (fM_layMen_l14 (Int32.ofNat y)) (0, 0, M) = some (Int32.ofNat (fb_ct (mr D y) (dW D)), lm M 86 y (mr D y) (dW D)) := by
  have h5 := hS.2.2.1
  have e := wn_eq (fM_layMen_l14 (Int32.ofNat y)) (fun i => (Int32.ofNat (fb_ct (mr D y) i), Int32.ofNat i, lm M 86 y (mr D y) i)) (dW D) (Int32.ofNat (fb_ct (mr D y) (dW D)), lm M 86 y (mr D y) (dW D)) (by omega) (fun i hi => by
    have c4 : CM D (lm M 86 y (mr D y) i) := CM_sc (lm_sc rfl) c
    have h25 := sq25 h5 (sqlt hy hi)
    have hsq : Int32.ofNat (dW D) * Int32.ofNat y + Int32.ofNat i = Int32.ofNat (y * dW D + i) := by rw [i_mu, i_pl, Nat.mul_comm]
    show fM_layMen_l14 _ (_, _, _) = _
    rw [fM_layMen_l14, c4.1.1, if_pos ((i_lt (by omega) (by omega)).mpr hi), hsq, zI_n (by omega) h25, zg_t, i_tn (by omega), c4.2.2.2.1 _ h25, fb_ct_succ, fM_layMen_j51, fM_layMen_j51]
    cases f : mr D y i
    · rw [if_pos (show da D (y * dW D + i) < 0 by rw [on_f hS h25 f]; decide), if_neg (show ¬ false = true by decide), Nat.add_zero, lm_f f, inc]
    · rw [if_neg (show ¬ da D (y * dW D + i) < 0 by rw [(on_t hS h25 f).2.2]; exact i_lt0 (by have := (on_t hS h25 f).2.1; have := hS.1; omega)), if_pos (show true = true from rfl), zI_n (by omega) (by omega), zg_t, i_tn (by omega), lm_s f, inc, inc]) (by
    have c4 : CM D (lm M 86 y (mr D y) (dW D)) := CM_sc (lm_sc rfl) c
    show fM_layMen_l14 _ (_, _, _) = _
    rw [fM_layMen_l14, c4.1.1, if_neg (fun q => by have := (i_lt (by omega) (by omega)).mp q; omega)])
  exact e
theorem lm_1 {m : zv_M} {a y : Nat} {f : Nat → Bool} {W : Nat} (h : fb_ct f W = 1) : lm m a y f W = wI m a y (Int32.ofNat (las f W)) := by
  rw [lm, if_neg (by omega)]
theorem beh_ok {D : Dt} {M : zv_M} (hS : CS D) (h4 : M.1 49 4 = Int32.ofNat (dW D)) : ((∀ y, y < dW D → fb_ct (mr D y) (dW D) = 1) ∧ fRo_startBehind (Int32.ofNat (Mn D)) M = some (1, vF M 51 (fun y => Int32.ofNat (lb D y)) (dW D))) ∨ (¬ (∀ y, y < dW D → fb_ct (mr D y) (dW D) = 1) ∧ ∃ M', fRo_startBehind (Int32.ofNat (Mn D)) M = some (0, M') ∧ sc M M') := by
  have h5 := hS.2.2.1
  have step : ∀ y, y < dW D → fRo_startBehind_l2 (Int32.ofNat (Mn D)) (Int32.ofNat y, vF M 51 (fun y => Int32.ofNat (lb D y)) y) = if fb_ct (mr D y) (dW D) = 1 then some (.inl (Int32.ofNat (y + 1), vF M 51 (fun y => Int32.ofNat (lb D y)) (y + 1))) else some (.inr (0, lm (vF M 51 (fun y => Int32.ofNat (lb D y)) y) 51 y (mr D y) (dW D))) := fun y hy => by
    have c4 : (vF M 51 (fun y => Int32.ofNat (lb D y)) y).1 49 4 = Int32.ofNat (dW D) := h4
    have hct := fb_ct_le (mr D y) (dW D)
    rw [fRo_startBehind_l2, c4, if_pos ((i_lt (by omega) (by omega)).mpr hy), if_pos (show Int32.ofNat y < 5 from (i_lt (b := 5) (by omega) (by decide)).mpr (by omega)), beh_in hS hy c4, zb1_s]
    show (if Int32.ofNat (fb_ct (mr D y) (dW D)) = 1 then _ else _) = _
    by_cases q : fb_ct (mr D y) (dW D) = 1
    · rw [if_pos q, if_pos (by rw [q]; rfl), inc, lm_1 q, show Int32.ofNat (las (mr D y) (dW D)) = Int32.ofNat (lb D y) from rfl, vF_s (g := fun y => Int32.ofNat (lb D y))]
    · rw [if_neg q, if_neg (show ¬ Int32.ofNat (fb_ct (mr D y) (dW D)) = 1 from fun z => q ((i_eq (b := 1) (by omega) (by decide)).mp z))]
  by_cases hA : ∀ y, y < dW D → fb_ct (mr D y) (dW D) = 1
  · refine Or.inl ⟨hA, ?_⟩
    have e := wn_eq (fRo_startBehind_l2 (Int32.ofNat (Mn D))) (fun y => (Int32.ofNat y, vF M 51 (fun y => Int32.ofNat (lb D y)) y)) (dW D) (1, vF M 51 (fun y => Int32.ofNat (lb D y)) (dW D)) (by omega) (fun y hy => by rw [step y hy, if_pos (hA y hy)]) (by
      show fRo_startBehind_l2 _ (_, _) = _
      rw [fRo_startBehind_l2, show (vF M 51 (fun y => Int32.ofNat (lb D y)) (dW D)).1 49 4 = Int32.ofNat (dW D) from h4, if_neg (fun q => by have := (i_lt (by omega) (by omega)).mp q; omega)])
    rw [vF_0] at e
    rw [fRo_startBehind]
    exact congrArg (fun z => zb1 z (fun r => some r)) e
  · refine Or.inr ⟨hA, ?_⟩
    obtain ⟨y0, hy0, hb, hf⟩ := fst1 (p := fun y => ¬ fb_ct (mr D y) (dW D) = 1) (n := dW D) (fun y => Decidable.em _) (Classical.byContradiction fun hn => hA fun y hy => Decidable.byContradiction fun hz => hn ⟨y, hy, hz⟩)
    have e := wn_eq (fRo_startBehind_l2 (Int32.ofNat (Mn D))) (fun y => (Int32.ofNat y, vF M 51 (fun y => Int32.ofNat (lb D y)) y)) y0 (0, lm (vF M 51 (fun y => Int32.ofNat (lb D y)) y0) 51 y0 (mr D y0) (dW D)) (by omega) (fun y hy => by rw [step y (by omega), if_pos (Decidable.not_not.mp (hf y hy))]) (by
      show fRo_startBehind_l2 _ (_, _) = _
      rw [step y0 hy0, if_neg hb])
    rw [vF_0] at e
    refine ⟨lm (vF M 51 (fun y => Int32.ofNat (lb D y)) y0) 51 y0 (mr D y0) (dW D), ?_, sc_t (sc_F (sc_r M) (fun _ => rfl)) (lm_sc rfl)⟩
    rw [fRo_startBehind]
    exact congrArg (fun z => zb1 z (fun r => some r)) e
theorem layM_ok {D : Dt} {M : zv_M} (hS : CS D) (c : CM D M) : ((∀ y, y < dW D → fb_ct (mr D y) (dW D) = 1) ∧ fM_layMen M = some (1, vF M 86 (fun y => Int32.ofNat (lb D y)) (dW D))) ∨ (¬ (∀ y, y < dW D → fb_ct (mr D y) (dW D) = 1) ∧ ∃ M', fM_layMen M = some (0, M') ∧ sc M M') := by
  have h5 := hS.2.2.1
  have cy : ∀ y, CM D (vF M 86 (fun y => Int32.ofNat (lb D y)) y) := fun y => CM_sc (sc_F (sc_r M) (fun _ => rfl)) c
  have step : ∀ y, y < dW D → fM_layMen_l2 (Int32.ofNat y, vF M 86 (fun y => Int32.ofNat (lb D y)) y) = if fb_ct (mr D y) (dW D) = 1 then some (.inl (Int32.ofNat (y + 1), vF M 86 (fun y => Int32.ofNat (lb D y)) (y + 1))) else some (.inr (0, lm (vF M 86 (fun y => Int32.ofNat (lb D y)) y) 86 y (mr D y) (dW D))) := fun y hy => by
    have hct := fb_ct_le (mr D y) (dW D)
    rw [fM_layMen_l2, (cy y).1.1, if_pos ((i_lt (by omega) (by omega)).mpr hy), lay_in hS (cy y) hy, zb1_s]
    show (if Int32.ofNat (fb_ct (mr D y) (dW D)) = 1 then _ else _) = _
    by_cases q : fb_ct (mr D y) (dW D) = 1
    · rw [if_pos q, if_pos (by rw [q]; rfl), inc, lm_1 q, show Int32.ofNat (las (mr D y) (dW D)) = Int32.ofNat (lb D y) from rfl, vF_s (g := fun y => Int32.ofNat (lb D y))]
    · rw [if_neg q, if_neg (show ¬ Int32.ofNat (fb_ct (mr D y) (dW D)) = 1 from fun z => q ((i_eq (b := 1) (by omega) (by decide)).mp z))]
  by_cases hA : ∀ y, y < dW D → fb_ct (mr D y) (dW D) = 1
  · refine Or.inl ⟨hA, ?_⟩
    have e := wn_eq fM_layMen_l2 (fun y => (Int32.ofNat y, vF M 86 (fun y => Int32.ofNat (lb D y)) y)) (dW D) (1, vF M 86 (fun y => Int32.ofNat (lb D y)) (dW D)) (by omega) (fun y hy => by rw [step y hy, if_pos (hA y hy)]) (by
      show fM_layMen_l2 (_, _) = _
      rw [fM_layMen_l2, (cy (dW D)).1.1, if_neg (fun q => by have := (i_lt (by omega) (by omega)).mp q; omega)])
    rw [vF_0] at e
    rw [fM_layMen]
    exact congrArg (fun z => zb1 z (fun r => some r)) e
  · refine Or.inr ⟨hA, ?_⟩
    obtain ⟨y0, hy0, hb, hf⟩ := fst1 (p := fun y => ¬ fb_ct (mr D y) (dW D) = 1) (n := dW D) (fun y => Decidable.em _) (Classical.byContradiction fun hn => hA fun y hy => Decidable.byContradiction fun hz => hn ⟨y, hy, hz⟩)
    have e := wn_eq fM_layMen_l2 (fun y => (Int32.ofNat y, vF M 86 (fun y => Int32.ofNat (lb D y)) y)) y0 (0, lm (vF M 86 (fun y => Int32.ofNat (lb D y)) y0) 86 y0 (mr D y0) (dW D)) (by omega) (fun y hy => by rw [step y (by omega), if_pos (Decidable.not_not.mp (hf y hy))]) (by
      show fM_layMen_l2 (_, _) = _
      rw [step y0 hy0, if_neg hb])
    rw [vF_0] at e
    refine ⟨lm (vF M 86 (fun y => Int32.ofNat (lb D y)) y0) 86 y0 (mr D y0) (dW D), ?_, sc_t (sc_F (sc_r M) (fun _ => rfl)) (lm_sc rfl)⟩
    rw [fM_layMen]
    exact congrArg (fun z => zb1 z (fun r => some r)) e
def hd5 (L : List (Nat → Nat)) (k : Nat) : Int32 := match L with
  | [] => -5
  | h :: _ => Int32.ofNat (h k)
theorem al_len {W : Nat} (hW : W ≤ 5) : ∀ (k y : Nat) (x : Nat → Nat), (∀ r, r < y + k → x r < W) → (ala W k y x).length ≤ 5 ^ k
  | 0, y, x, _ => Nat.zero_le _
  | k + 1, y, x, hx => by
    have h1 := al_len hW k (y + 1) x (fun r hr => hx r (by omega))
    have h := fl_len (g := fun a => tl W k (y + 1) (ux x y a)) (b := 5 ^ k) (W - 1 - x y) (x y + 1) (fun i => tl_len hW k _ _)
    have h2 : (W - 1 - x y) * 5 ^ k ≤ 4 * 5 ^ k := Nat.mul_le_mul_right _ (by omega)
    rw [ala, List.length_append, Nat.pow_succ]
    omega
theorem O_after_ok : O_after INV := fun m h x1 x2 => by
  obtain ⟨D, hS, cN, cM⟩ := pic h
  have h5 := hS.2.2.1
  have h2 := hS.2.1
  rcases i_cases x1 with hx | ⟨p, hp, rfl⟩
  · exact ⟨-1, m, m, by rw [fN_after, (isPlan_neg hx).1]; rfl, by rw [fM_after, (isPlan_neg hx).2]; rfl, h⟩
  by_cases h1 : p < dn D
  · rcases i_cases x2 with hx | ⟨k, hk, rfl⟩
    · exact ⟨-1, m, m, by rw [fN_after, g_plan hS cN hp, if_pos h1, zb1_s, if_neg (by decide), if_pos hx], by rw [fM_after, g_planM hS cM hp, if_pos h1, zb1_s, if_neg (by decide), in_neg (by decide) hx]; rfl, h⟩
    have hin : fM_in (Int32.ofNat k) 0 (Int32.ofNat (dW D) - 1) = some (if k < dW D then 1 else 0) := by
      have e : (Int32.ofNat (dW D) - 1 < Int32.ofNat k) = (dW D ≤ k) := propext (i_pred (by omega) hk)
      rw [fM_in, if_neg (i_lt0 hk)]
      simp only [e]
      by_cases q : k < dW D
      · rw [if_neg (by omega), if_pos q]
      · rw [if_pos (by omega), if_neg q]
    by_cases q2 : k < dW D
    · have scP := pM_sc D p m
      have cP := CN_sc hS scP cN
      have sN : fN_after (Int32.ofNat p) (Int32.ofNat k) m = zb2 (fRo_startBehind (Int32.ofNat (Mn D)) (pM D p m)) (fun r9 m10 => if r9 = 0 then some (-9, m10) else zb1 (fRo_findNext m10) (fun m11 => zb1 (fRo_firstAt (Int32.ofNat k) m11) (fun r12 => some (r12, m11)))) := by
        rw [fN_after, g_plan hS cN hp, if_pos h1, zb1_s, if_neg (by decide), if_neg (i_lt0 hk), g_ground hS cN, zb1_s, cN.2.1.1, if_pos ((i_lt hk (by omega)).mpr q2), prep_ok hS cN h1, zb1_s, g_men hS cP, zb1_s]
      have sM : ∀ M, CM D M → fM_after (Int32.ofNat p) (Int32.ofNat k) M = zb2 (fM_layMen M) (fun r5 m6 => if r5 = 0 then some (-9, m6) else zb1 (fM_layBad (Int32.ofNat p) m6) (fun m7 => zb1 (whileN zFU (fM_after_l40 (Int32.ofNat k)) m7) (fun r => some r))) := fun M cM => by
        rw [fM_after, g_planM hS cM hp, if_pos h1, zb1_s, if_neg (by decide), cM.1.1, hin, if_pos q2, zb1_s, if_neg (by decide)]
      rcases beh_ok (M := pM D p m) hS rfl with ⟨hA, e⟩ | ⟨hA, M', e, scM'⟩
      · rw [e, zb2_s, if_neg (by decide)] at sN
        have hb : ∀ r, r < dW D → lb D r < dW D := fun r hr => las_lt _ (by rw [hA r hr]; decide)
        have hp5 := pow5 h5
        generalize hm10 : vF (pM D p m) 51 (fun y => Int32.ofNat (lb D y)) (dW D) = m10 at sN
        have sc10 : sc m m10 := by rw [← hm10]; exact sc_F scP (fun _ => rfl)
        have hRS : RS true true (dW D) (fr D) (jn (pw D p) (fr D)) (lb D) (wI m10 49 6 1) := by
          subst hm10
          refine ⟨rfl, rfl, rfl, fun s hs => ?_, fun _ r hr => ?_⟩
          · show (vF (wI (wI (wI (pM7 D p m) 49 4 (Int32.ofNat (dW D))) 49 5 (Int32.ofNat (fr D))) 49 7 0) 50 (fun s => Int32.ofNat (jn (pw D p) (fr D) s)) 25).1 50 s = _
            exact vF_e _ _ _ hs
          · show (vF (pM D p m) 51 (fun y => Int32.ofNat (lb D y)) (dW D)).1 51 r = _
            exact vF_e _ _ _ hr
        have h7 : (wI m10 49 6 1).1 49 7 = Int32.ofNat 0 := by subst hm10; rfl
        obtain ⟨m', e2, ef⟩ := goOn_ok (one := true) (lv0 := true) (bd := bdn D p) h2 h5 ln_bd hb (dW D) 0 8 0 0 0 true (lb D) (wI m10 49 6 1) (by omega) (by omega) (by omega) hRS (SH_0 _ _) h7 (by omega) (fun r hr => absurd hr (Nat.not_lt_zero r)) (fun _ r hr => absurd hr (Nat.not_lt_zero r)) (fun _ => rfl)
        rw [if_pos (show true = true from rfl)] at ef
        obtain ⟨f1, f2, f3, f4⟩ := ef
        have sc1 : sc m (wI m10 49 6 1) := sc_w sc10 rfl
        have scm' : sc m m' := sc_t sc1 ⟨f1, fun o k hk => f2 o k (fun z => by rw [z.1] at hk; cases hk) (fun z => by rw [z] at hk; cases hk) (fun z => by rw [z.1, z.2] at hk; cases hk)⟩
        have hfn : fRo_findNext m10 = some m' := by
          rw [fRo_findNext, gG_16]
          exact congrArg (fun z => zb1 z (fun m1 => some m1)) e2
        generalize hL : da2 (dW D) (fr D) (bdn D p) (dW D) 0 (lb D) 0 = L at f3 f4
        have hLM : L = (ala (dW D) (dW D) 0 (lb D)).filter (iw (dW D) (fr D) (bdn D p) (dW D) 0 0) := by rw [← hL, da_al]
        have hfa : fRo_firstAt (Int32.ofNat k) m' = some (hd5 L k) := by
          clear hL hLM
          rw [fRo_firstAt, f3, if_neg (i_lt0 hk), if_pos (show Int32.ofNat k < 5 from (i_lt (b := 5) hk (by decide)).mpr (by omega)), zI_n hk (by omega), zg_t, i_tn hk, f4 k q2]
          cases L with
          | nil => rw [if_pos (by decide)]; rfl
          | cons a L =>
            have : nC true 0 (a :: L).length = 1 := by
              unfold nC
              rw [List.length_cons, if_pos rfl, if_neg (by decide)]
              omega
            rw [this, if_neg (by decide)]
            rfl
        rw [hfn, zb1_s, hfa, zb1_s] at sN
        have cMm := CM_sc scm' cM
        rcases layM_ok hS cMm with ⟨-, e3⟩ | ⟨hB, -⟩
        · have sMm := sM m' cMm
          rw [e3, zb2_s, if_neg (by decide)] at sMm
          generalize hm6 : vF m' 86 (fun y => Int32.ofNat (lb D y)) (dW D) = m6 at sMm
          have sc6 : sc m' m6 := by rw [← hm6]; exact sc_F (sc_r m') (fun _ => rfl)
          have cM6 := CM_sc sc6 cMm
          rw [g_bad hS cM6 h1, zb1_s] at sMm
          have scb : sc m6 (vF m6 85 (fun s => Int32.ofNat (bdn D p s)) 25) := sc_F (sc_r m6) (fun _ => rfl)
          have hlen : (ala (dW D) (dW D) 0 (lb D)).length ≤ 3125 := by
            have t := tl_len (W := dW D) h5 (dW D) 0 (lb D)
            have t2 := al_len h5 (dW D) 0 (lb D) (fun r hr => hb r (by omega))
            exact Nat.le_trans t2 hp5
          obtain ⟨mZ, e4, scZ⟩ := afterM_ok (p := p) hS q2 _ (lb D) (vF m6 85 (fun s => Int32.ofNat (bdn D p s)) 25) zFU rfl (zn_FU (by omega)) ⟨CM_sc scb cM6, fun s hs => vF_e _ _ _ hs, fun r hr => by
            rw [vF_o _ _ (by omega), ← hm6, vF_e _ _ _ hr]⟩ hb
          rw [← hLM] at e4
          have e4' : whileN zFU (fM_after_l40 (Int32.ofNat k)) (vF m6 85 (fun s => Int32.ofNat (bdn D p s)) 25) = some (hd5 L k, mZ) := e4
          rw [e4', zb1_s] at sMm
          exact ⟨_, m', mZ, sN, sMm, INV_sc (sc_t (sc_t (sc_t scm' sc6) scb) scZ) h⟩
        · exact absurd hA hB
      · rw [e, zb2_s, if_pos (by decide)] at sN
        have scm' : sc m M' := sc_t scP scM'
        have cMm := CM_sc scm' cM
        rcases layM_ok hS cMm with ⟨hB, -⟩ | ⟨-, M'', e3, sc3⟩
        · exact absurd hB hA
        · exact ⟨-9, M', M'', sN, by rw [sM M' cMm, e3]; rfl, INV_sc (sc_t scm' sc3) h⟩
    · exact ⟨-1, m, m, by rw [fN_after, g_plan hS cN hp, if_pos h1, zb1_s, if_neg (by decide), if_neg (i_lt0 hk), g_ground hS cN, zb1_s, cN.2.1.1, if_neg (fun z => q2 ((i_lt hk (by omega)).mp z))], by rw [fM_after, g_planM hS cM hp, if_pos h1, zb1_s, if_neg (by decide), cM.1.1, hin, if_neg q2]; rfl, h⟩
  · exact ⟨-1, m, m, by rw [fN_after, g_plan hS cN hp, if_neg h1]; rfl, by rw [fM_after, g_planM hS cM hp, if_neg h1]; rfl, h⟩
