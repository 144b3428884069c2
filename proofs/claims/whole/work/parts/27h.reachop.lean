/-! Reach: both sides. -/
def fP (D : Dt) (q : Nat → Nat) (j b x : Nat) : Prop := (∃ k, k ≤ 19 ∧ af D (sp (Mn D) j) k (q b) ∧ x = k) ∨ (x = 99 ∧ ∀ k, (Ls D (sp (Mn D) j) k).testBit (q b) = false)
theorem fP_le {D : Dt} {q : Nat → Nat} {j b x : Nat} (h : fP D q j b x) : x ≤ 99 := by
  rcases h with ⟨k, h1, -, h2⟩ | ⟨h, -⟩ <;> omega
theorem CC_f {D : Dt} {q : Nat → Nat} {j b x : Nat} (h : fP D q j b x) (c : Nat) : CC D q j b c ↔ (c = x ∧ x < 99) := by
  unfold CC
  rcases h with ⟨k, k1, k2, k3⟩ | ⟨k1, k2⟩
  · constructor
    · rintro ⟨-, z⟩
      have := af_u z k2
      exact ⟨by omega, by omega⟩
    · rintro ⟨z, -⟩
      rw [z, k3]
      exact ⟨k1, k2⟩
  · constructor
    · rintro ⟨-, z⟩
      have := k2 c
      rw [z.1] at this
      cases this
    · rintro ⟨-, z⟩
      omega
theorem sum_ok {n p : Nat} (hn : n < 6) (hp : p < fac n) {f : Nat → Nat → Nat} {M : zv_M} (h98 : ∀ i, i < n → M.1 98 i = Int32.ofNat (pk n p i)) (h97 : ∀ i b, i < n → b < n → M.1 97 (5 * i + b) = Int32.ofNat (f i b)) : whileN zFU (fM_reach_l131 (Int32.ofNat n) M) (0, 0) = some (Int32.ofNat (smf (fun i => f i (pk n p i)) n)) := by
  have e := wn_eq (fM_reach_l131 (Int32.ofNat n) M) (fun i => (Int32.ofNat (smf (fun i => f i (pk n p i)) i), Int32.ofNat i)) n (Int32.ofNat (smf (fun i => f i (pk n p i)) n)) (by omega) (fun i hi => by
    obtain ⟨_, _, _, -, -, -, -, -, -, -, a6, -, -⟩ := oB_f hn hp hi
    show fM_reach_l131 _ _ (_, _) = _
    rw [fM_reach_l131, if_pos ((i_lt (by omega) (by omega)).mpr hi), zI_n (by omega) (by omega), zg_t, i_tn (by omega), h98 i hi, show (5 : Int32) * Int32.ofNat i = Int32.ofNat (5 * i) from i_mu 5 i, i_pl, zI_n (by omega) (by omega), zg_t, i_tn (by omega), h97 i _ hi a6, i_pl, inc, smf]
    rfl) (by
    show fM_reach_l131 _ _ (_, _) = _
    rw [fM_reach_l131, if_neg (fun z => by have := (i_lt (by omega) (by omega)).mp z; omega)])
  exact e
theorem smf_ge {f : Nat → Nat} : ∀ n i, i < n → f i ≤ smf f n
  | 0, i, h => absurd h (Nat.not_lt_zero i)
  | n + 1, i, h => by
    rw [smf]
    by_cases q : i = n
    · rw [q]
      omega
    · have := smf_ge (f := f) n i (by omega)
      omega
theorem l115_ok {n : Nat} (hn : n < 6) {f : Nat → Nat → Nat} (hf : ∀ i b, i < n → b < n → f i b ≤ 99) {m0 M : zv_M} (hM : sc m0 M) (h97 : ∀ i b, i < n → b < n → M.1 97 (5 * i + b) = Int32.ofNat (f i b)) : ∃ mn M', whileN zFU (fM_reach_l115 (Int32.ofNat n)) (99, 0, M) = some (Int32.ofNat mn, M') ∧ sc m0 M' ∧ mn ≤ 99 ∧ (∀ p, p < fac n → mn ≤ smf (fun i => f i (pk n p i)) n) ∧ (mn < 99 → ∃ p, p < fac n ∧ mn = smf (fun i => f i (pk n p i)) n) := by
  have h120 := (fac_ok n hn).2
  have pkl : ∀ p i, p < fac n → i < n → pk n p i < n := fun p i hp hi => by
    obtain ⟨_, _, _, -, -, -, -, -, -, -, a6, -, -⟩ := oB_f hn hp hi
    exact a6
  have sb : ∀ p, p < fac n → smf (fun i => f i (pk n p i)) n ≤ n * 99 := fun p hp => smf_le n fun i hi => hf i _ hi (pkl p i hp hi)
  obtain ⟨r, e, mn, M', rfl, h1, h2, h3, h4⟩ := wn_up (fM_reach_l115 (Int32.ofNat n)) (fun p (x : Nat × zv_M) => (Int32.ofNat x.1, Int32.ofNat p, x.2)) (fac n) (fun p x => sc m0 x.2 ∧ (∀ i b, i < n → b < n → x.2.1 97 (5 * i + b) = Int32.ofNat (f i b)) ∧ x.1 ≤ 99 ∧ (∀ p', p' < p → x.1 ≤ smf (fun i => f i (pk n p' i)) n) ∧ (x.1 < 99 → ∃ p', p' < p ∧ x.1 = smf (fun i => f i (pk n p' i)) n)) (fun r => ∃ mn M', r = (Int32.ofNat mn, M') ∧ sc m0 M' ∧ mn ≤ 99 ∧ (∀ p, p < fac n → mn ≤ smf (fun i => f i (pk n p i)) n) ∧ (mn < 99 → ∃ p, p < fac n ∧ mn = smf (fun i => f i (pk n p i)) n)) (by omega) (fun p x hp hJ => by
    obtain ⟨j1, j2, j3, j4, j5⟩ := hJ
    have s1 : sc m0 (vF x.2 98 (fun i => Int32.ofNat (pk n p i)) n) := sc_F j1 (fun _ => rfl)
    have es := sum_ok hn hp (f := f) (M := vF x.2 98 (fun i => Int32.ofNat (pk n p i)) n) (fun i hi => vF_e _ _ _ hi) (fun i b hi hb => (vF_o _ _ (by omega)).trans (j2 i b hi hb))
    have hs := sb p hp
    rw [fM_reach_l115, order_ok hn (by omega), if_pos hp, zb2_s, if_neg (by decide), es, zb1_s]
    by_cases q : smf (fun i => f i (pk n p i)) n < x.1
    · rw [if_pos ((i_lt (by omega) (by omega)).mpr q), fM_reach_j177, inc]
      refine ⟨(smf (fun i => f i (pk n p i)) n, _), rfl, s1, (fun i b hi hb => (vF_o _ _ (by omega)).trans (j2 i b hi hb)), by show smf _ n ≤ 99; omega, fun p' hp' => ?_, fun _ => ⟨p, by omega, rfl⟩⟩
      by_cases w : p' = p
      · rw [w]
        exact Nat.le_refl _
      · have := j4 p' (by omega)
        show smf _ n ≤ _
        omega
    · rw [if_neg (fun z => q ((i_lt (by omega) (by omega)).mp z)), fM_reach_j177, inc]
      refine ⟨(x.1, _), rfl, s1, (fun i b hi hb => (vF_o _ _ (by omega)).trans (j2 i b hi hb)), j3, fun p' hp' => ?_, fun hl => ?_⟩
      · by_cases w : p' = p
        · rw [w]
          show x.1 ≤ _
          omega
        · exact j4 p' (by omega)
      · obtain ⟨p', p1, p2⟩ := j5 hl
        exact ⟨p', by omega, p2⟩) (fun x hJ => by
    obtain ⟨j1, j2, j3, j4, j5⟩ := hJ
    rw [fM_reach_l115, order_ok hn (by omega), if_neg (Nat.lt_irrefl _), zb2_s, if_pos (by decide)]
    exact ⟨_, rfl, x.1, x.2, rfl, j1, j3, j4, j5⟩) (99, M) ⟨hM, h97, Nat.le_refl _, (fun p' hp' => absurd hp' (Nat.not_lt_zero p')), fun z => absurd z (by show ¬ 99 < 99; decide)⟩
  exact ⟨mn, M', e, h1, h2, h3, h4⟩
theorem l65_ok {n j : Nat} {q v : Nat → Nat} (hn : n ≤ 5) (hj : j < 5) {m0 M : zv_M} (hM : sc m0 M) (hq : ∀ i, i < n → M.1 95 i = Int32.ofNat (q i) ∧ q i < 25) (h96 : ∀ t, t < 25 → M.1 96 t = Int32.ofNat (v t)) : ∃ M', whileN zFU (fM_reach_l65 (Int32.ofNat n) (Int32.ofNat j)) (0, M) = some M' ∧ sc m0 M' ∧ (∀ k, k < 5 * j → M'.1 97 k = M.1 97 k) ∧ ∀ b, b < n → M'.1 97 (5 * j + b) = Int32.ofNat (v (q b)) := by
  obtain ⟨M', e, h1, -, h2, h3⟩ := wn_up (fM_reach_l65 (Int32.ofNat n) (Int32.ofNat j)) (fun i (M' : zv_M) => (Int32.ofNat i, M')) n (fun i M' => sc m0 M' ∧ (∀ o k, ¬ o = 97 → M'.1 o k = M.1 o k) ∧ (∀ k, k < 5 * j → M'.1 97 k = M.1 97 k) ∧ ∀ b, b < i → M'.1 97 (5 * j + b) = Int32.ofNat (v (q b))) (fun M' => sc m0 M' ∧ (∀ o k, ¬ o = 97 → M'.1 o k = M.1 o k) ∧ (∀ k, k < 5 * j → M'.1 97 k = M.1 97 k) ∧ ∀ b, b < n → M'.1 97 (5 * j + b) = Int32.ofNat (v (q b))) (by omega) (fun i M' hi hJ => by
    obtain ⟨j1, j2, j3, j4⟩ := hJ
    obtain ⟨q1, q2⟩ := hq i hi
    rw [fM_reach_l65, if_pos ((i_lt (by omega) (by omega)).mpr hi), zI_n (by omega) (by omega), zg_t, i_tn (by omega), j2 95 i (by decide), q1, zI_n (by omega) q2, zg_t, show (5 : Int32) * Int32.ofNat j = Int32.ofNat (5 * j) from i_mu 5 j, i_pl, zI_n (by omega) (by omega), zg_t, i_tn (show q i < 2147483648 by omega), i_tn (show 5 * j + i < 2147483648 by omega), j2 96 _ (by decide), h96 _ q2, inc]
    refine ⟨wI M' 97 (5 * j + i) (Int32.ofNat (v (q i))), rfl, sc_w j1 rfl, fun o k ho => ?_, fun k hk => ?_, fun b hb => ?_⟩
    · rw [wI_o _ _ (fun z => ho z.1)]
      exact j2 o k ho
    · rw [wI_o _ _ (by omega)]
      exact j3 k hk
    · by_cases w : b = i
      · rw [w, wI_e]
      · rw [wI_o _ _ (by omega)]
        exact j4 b (by omega)) (fun M' hJ => by
    rw [fM_reach_l65, if_neg (fun z => by have := (i_lt (by omega) (by omega)).mp z; omega)]
    exact ⟨_, rfl, hJ⟩) M ⟨hM, fun _ _ _ => rfl, fun _ _ => rfl, fun b hb => absurd hb (Nat.not_lt_zero b)⟩
  exact ⟨M', e, h1, h2, h3⟩
theorem ct_WW {D : Dt} (hS : CS D) : fb_ct (Mn D).testBit (dW D * dW D) = c25t (Mn D) := by
  have hWW := CS_WW hS
  have h1 := pc_n (a := Mn D) (lt_of_t fun i hi => Mn_WW hS hi) (show dW D * dW D ≤ 32 by omega)
  have h2 := pc_n (Mn_lt D) (by decide)
  rw [← h1, h2]
  rfl
theorem l32_ok {D : Dt} (hS : CS D) {n : Nat} {q : Nat → Nat} (hn : n ≤ 5) (hc : c25t (Mn D) = n) {m : zv_M} (cM : CM D m) (hq : ∀ i, i < n → m.1 95 i = Int32.ofNat (q i) ∧ q i < 25) : ∃ (M : zv_M) (f : Nat → Nat → Nat), whileN zFU (fM_reach_l32 (Int32.ofNat n)) (0, 0, m) = some M ∧ sc m M ∧ ∀ j b, j < n → b < n → M.1 97 (5 * j + b) = Int32.ofNat (f j b) ∧ fP D q j b (f j b) := by
  have hWW := CS_WW hS
  obtain ⟨M, e, h1, f, h2⟩ := wn_up (fM_reach_l32 (Int32.ofNat n)) (fun i (M : zv_M) => (Int32.ofNat (fb_ct (Mn D).testBit i), Int32.ofNat i, M)) (dW D * dW D) (fun i M => sc m M ∧ ∃ f : Nat → Nat → Nat, ∀ j b, j < fb_ct (Mn D).testBit i → b < n → M.1 97 (5 * j + b) = Int32.ofNat (f j b) ∧ fP D q j b (f j b)) (fun M => sc m M ∧ ∃ f : Nat → Nat → Nat, ∀ j b, j < n → b < n → M.1 97 (5 * j + b) = Int32.ofNat (f j b) ∧ fP D q j b (f j b)) (by omega) (fun i M hi hJ => by
    obtain ⟨j1, f, j2⟩ := hJ
    have c := CM_sc j1 cM
    have h25 : i < 25 := by omega
    have hmn : (Mn D).testBit i = on D i := by rw [Mn_t, decide_eq_true h25, Bool.true_and]
    rw [fM_reach_l32, WWm c, if_pos ((i_lt (by omega) (by omega)).mpr hi), zI_n (by omega) h25, zg_t, i_tn (by omega), c.2.2.2.1 i h25, fb_ct_succ, hmn]
    cases o : on D i
    · rw [if_pos (show da D i < 0 by rw [on_f hS h25 o]; decide), fM_reach_j103, inc]
      exact ⟨M, rfl, j1, f, j2⟩
    · obtain ⟨o1, o2, o3⟩ := on_t hS h25 o
      have hb : (Mn D).testBit i = true := by rw [hmn, o]
      have hsp : sp (Mn D) (fb_ct (Mn D).testBit i) = i := kth_at h25 hb
      have hlt : fb_ct (Mn D).testBit i < n := by
        have := ct_lt (p := (Mn D).testBit) h25 hb
        rw [← hc]
        exact this
      obtain ⟨v, ev, hv⟩ := g_steps hS c hi
      have sc2 : sc m (mV M v) := mV_sc j1 v
      obtain ⟨M', e', k1, k2, k3⟩ := l65_ok (j := fb_ct (Mn D).testBit i) (v := v) (q := q) hn (by omega) sc2 (fun a ha => by rw [sc2.2 95 a rfl]; exact hq a ha) (fun t ht => mV_e _ _ ht)
      rw [o3, if_neg (i_lt0 (by have := hS.1; omega)), ev, zb1_s, e', zb1_s, fM_reach_j103, inc, inc]
      refine ⟨M', rfl, k1, fun j b => if j = fb_ct (Mn D).testBit i then v (q b) else f j b, fun j b hj hb => ?_⟩
      show M'.1 97 (5 * j + b) = Int32.ofNat (if j = fb_ct (Mn D).testBit i then v (q b) else f j b) ∧ fP D q j b (if j = fb_ct (Mn D).testBit i then v (q b) else f j b)
      by_cases w : j = fb_ct (Mn D).testBit i
      · rw [if_pos w, w]
        refine ⟨k3 b hb, ?_⟩
        unfold fP
        rw [hsp]
        exact hv (q b)
      · have hj' : j < fb_ct (Mn D).testBit i := by
          rw [if_pos (show true = true from rfl)] at hj
          omega
        rw [if_neg w, k2 _ (by omega), show (mV M v).1 97 (5 * j + b) = M.1 97 (5 * j + b) from vF_o _ _ (by omega)]
        exact j2 j b hj' hb) (fun M hJ => by
    have c := CM_sc hJ.1 cM
    rw [fM_reach_l32, WWm c, if_neg (fun z => by have := (i_lt (by omega) (by omega)).mp z; omega)]
    refine ⟨_, rfl, hJ.1, ?_⟩
    have := hJ.2
    rw [ct_WW hS, hc] at this
    exact this) m ⟨sc_r m, fun _ _ => 0, fun j b hj => absurd hj (Nat.not_lt_zero j)⟩
  exact ⟨M, f, e, h1, h2⟩
theorem O_reach_ok : O_reach INV := fun m h => by
  obtain ⟨D, hS, cN, cM⟩ := pic h
  have hn25 := pc_n (Mn_lt D) (show 25 ≤ 32 by decide)
  have hpc : pc (Mn D) = c25t (Mn D) := hn25
  have hle : c25t (Mn D) ≤ 25 := fb_ct_le _ _
  have k5 : ((5 : Int32) < Int32.ofNat (c25t (Mn D))) = (5 < c25t (Mn D)) := propext (i_lt (a := 5) (by decide) (by omega))
  have preN : fN_reach m = if 5 < c25t (Mn D) then some (-9, m) else if Int32.ofNat (c25t (Mn D)) = m.1 9 1 then zb1 (fN_ground m) (fun r7 => zb2 (fWa_fewestSteps r7 (Int32.ofNat (Mn D)) 9 m) (fun r10 m11 => some (r10, m11))) else some (-5, m) := by
    rw [fN_reach, g_men hS cN, zb1_s, n_bc (p25 (Mn_lt D)), zb1_s, hpc]
    simp only [k5, zb1_s]
  have preM : ∀ M, CM D M → fM_reach M = if 5 < c25t (Mn D) then some (-9, M) else if Int32.ofNat (c25t (Mn D)) = M.1 68 42 then zb1 (whileN zFU (fM_reach_l32 (Int32.ofNat (c25t (Mn D)))) (0, 0, M)) (fun m9 => zb1 (whileN zFU (fM_reach_l115 (Int32.ofNat (c25t (Mn D)))) (99, 0, m9)) (fun x => match x with | (a14, m15) => if a14 = 99 then some (-5, m15) else some (a14, m15))) else some (-5, M) := fun M c => by
    rw [fM_reach, g_menM hS c, zb1_s, n_ones (p25 (Mn_lt D)), zb1_s, hpc]
    simp only [k5]
  have h' := h
  obtain ⟨y, ⟨_, W, -, -, -, ⟨hW2, hW5, -⟩, -, ⟨b, hb, c1, c2, c3⟩, -, -, -⟩, -⟩ := h
  have hWl : W * W ≤ 5 * 5 := Nat.mul_le_mul hW5 hW5
  by_cases q1 : 5 < c25t (Mn D)
  · exact ⟨-9, m, m, by rw [preN, if_pos q1], by rw [preM m cM, if_pos q1], h'⟩
  rw [if_neg q1] at preN
  have hz : (Int32.ofNat (c25t (Mn D)) = Int32.ofNat b) = (c25t (Mn D) = b) := propext (i_eq (by omega) (by omega))
  by_cases q2 : c25t (Mn D) = b
  · have hex : ∃ q : Nat → Nat, ∀ i, i < b → q i < W * W ∧ m.1 95 i = Int32.ofNat (q i) := by
      refine ⟨fun i => if w : i < b then Classical.choose (c3 i w).2 else 0, fun i hi => ?_⟩
      have := Classical.choose_spec (c3 i hi).2
      show (dite _ _ _) < _ ∧ _ = Int32.ofNat (dite _ _ _)
      rw [dif_pos hi]
      exact this
    obtain ⟨q, hq⟩ := hex
    have aq : AQ b q m := ⟨hb, c1, fun i hi => ⟨by rw [(c3 i hi).1]; exact (hq i hi).2, by have := (hq i hi).1; omega⟩⟩
    obtain ⟨r, M, eN, hM, hR⟩ := fewest_ok hS cN aq q2
    have cM1 := CM_sc hM cM
    have a95 : ∀ i, i < b → M.1 95 i = Int32.ofNat (q i) ∧ q i < 25 := fun i hi => ⟨by rw [hM.2 95 i rfl]; exact (hq i hi).2, by have := (hq i hi).1; omega⟩
    obtain ⟨M2, f, e2, hM2, hf⟩ := l32_ok hS hb q2 cM1 a95
    obtain ⟨mn, M3, e3, hM3, u1, u2, u3⟩ := l115_ok (n := b) (by omega) (f := f) (fun i a hi ha => fP_le (hf i a hi ha).2) (sc_t hM hM2) (fun i a hi ha => (hf i a hi ha).1)
    have sN : fN_reach m = some (r, M) := by
      rw [preN, c1]
      simp only [hz]
      rw [if_pos q2, g_ground hS cN, zb1_s, eN, zb2_s]
    have sM : fM_reach M = if Int32.ofNat mn = 99 then some (-5, M3) else some (Int32.ofNat mn, M3) := by
      rw [preM M cM1, if_neg q1, hM.2 68 42 rfl, c2]
      simp only [hz]
      rw [if_pos q2, q2, e2, zb1_s, e3, zb1_s]
    have low : ∀ v, As (CC D q) b b (2 ^ b - 1) v → mn ≤ v := fun v hv => by
      obtain ⟨p, g, p1, p2, p3⟩ := pk_as (by omega) hv
      have := u2 p p1
      have e : smf g b = smf (fun i => f i (pk b p i)) b := smf_c b fun i hi => by
        obtain ⟨_, _, _, -, -, -, -, -, -, -, a6, -, -⟩ := oB_f (show b < 6 by omega) p1 hi
        exact ((CC_f (hf i _ hi a6).2 _).mp (p2 i hi)).1
      omega
    have up : mn < 99 → As (CC D q) b b (2 ^ b - 1) mn := fun hl => by
      obtain ⟨p, p1, p2⟩ := u3 hl
      have a := as_pk (C := CC D q) (n := b) (show b < 6 by omega) p1 (g := fun i => f i (pk b p i)) (fun i hi => by
        obtain ⟨_, _, _, -, -, -, -, -, -, -, a6, -, -⟩ := oB_f (show b < 6 by omega) p1 hi
        have := smf_ge (f := fun i => f i (pk b p i)) b i hi
        have this : f i (pk b p i) ≤ smf (fun i => f i (pk b p i)) b := this
        exact (CC_f (hf i _ hi a6).2 _).mpr ⟨rfl, by omega⟩) b (Nat.le_refl b)
      rw [oZ (by omega) p1, ← p2] at a
      have e : ad (2 ^ b - 1) 0 = 2 ^ b - 1 := by
        apply Nat.eq_of_testBit_eq
        intro i
        rw [ad_t, Nat.zero_testBit]
        simp
      rw [e] at a
      exact a
    have hI := INV_sc hM3 h'
    have h99 : (Int32.ofNat mn = 99) = (mn = 99) := propext (i_eq (b := 99) (by omega) (by decide))
    simp only [h99] at sM
    rcases hR with ⟨v, v1, v2, rfl⟩ | ⟨v1, rfl⟩
    · have l1 := low v v1
      have l2 := As_le (fun j i c (h : CC D q j i c) => h.1) _ _ _ v1
      have l3 := v2 _ (up (by omega))
      rw [if_neg (by omega)] at sM
      exact ⟨_, M, M3, sN, by rw [sM, show mn = v by omega], hI⟩
    · have : ¬ mn < 99 := fun z => v1 _ (up z)
      rw [if_pos (by omega)] at sM
      exact ⟨_, M, M3, sN, sM, hI⟩
  · refine ⟨-5, m, m, ?_, ?_, h'⟩
    · rw [preN, c1]
      simp only [hz]
      rw [if_neg q2]
    · rw [preM m cM, if_neg q1, c2]
      simp only [hz]
      rw [if_neg q2]
