/-! The reference's steps: made shorter till nothing changes. -/
def apx (x y : Nat) : Nat := if x < y then y - x else x - y
theorem apx_le (x y : Nat) : apx x y ≤ x + y := by
  rw [apx]
  split <;> omega
theorem n_apart {x y : Nat} (hx : x < 2147483648) (hy : y < 2147483648) : fM_apart (Int32.ofNat x) (Int32.ofNat y) = some (Int32.ofNat (apx x y)) := by
  rw [fM_apart, apx]
  by_cases q : x < y
  · rw [if_pos ((i_lt hx hy).mpr q), if_pos q, i_mi (by omega) hy]
  · rw [if_neg (fun z => q ((i_lt hx hy).mp z)), if_neg q, i_mi (by omega) hx]
def apB (W a b : Nat) : Bool := decide (decide (apx (a % W) (b % W) + apx (a / W) (b / W) = 1) = aj W a b)
theorem apB_ok : ∀ W, W < 6 → 2 ≤ W → ∀ a, a < 25 → ∀ b, b < 25 → (!(decide (a < W * W) && decide (b < W * W)) || apB W a b) = true := by decide +kernel
theorem ap_aj {W a b : Nat} (h1 : W < 6) (h2 : 2 ≤ W) (ha : a < W * W) (hb : b < W * W) (ha2 : a < 25) (hb2 : b < 25) : (apx (a % W) (b % W) + apx (a / W) (b / W) = 1) = (aj W a b = true) := by
  have h := apB_ok W h1 h2 a ha2 b hb2
  rw [decide_eq_true ha, decide_eq_true hb] at h
  have h : apB W a b = true := h
  have h := of_decide_eq_true h
  exact propext ⟨fun q => by rw [← h]; exact decide_eq_true q, fun q => by rw [q] at h; exact of_decide_eq_true h⟩
def upv (v : Nat → Nat) (a x t : Nat) : Nat := if t = a then x else v t
theorem smf_u {v : Nat → Nat} {a x : Nat} (hx : x < v a) : ∀ n, (n ≤ a → smf (upv v a x) n = smf v n) ∧ (a < n → smf (upv v a x) n < smf v n)
  | 0 => ⟨fun _ => rfl, fun h => absurd h (Nat.not_lt_zero a)⟩
  | n + 1 => by
    obtain ⟨i1, i2⟩ := smf_u hx n
    refine ⟨fun h => ?_, fun h => ?_⟩
    · rw [smf, smf, i1 (by omega), upv, if_neg (by omega)]
    · rw [smf, smf]
      by_cases q : n = a
      · rw [i1 (by omega), upv, if_pos q, q]
        omega
      · have := i2 (by omega)
        rw [upv, if_neg q]
        omega
def mV (m : zv_M) (v : Nat → Nat) : zv_M := vF m 96 (fun t => Int32.ofNat (v t)) 25
theorem mV_sc {m0 m : zv_M} (h : sc m0 m) (v : Nat → Nat) : sc m0 (mV m v) := sc_F h (fun _ => rfl)
theorem mV_e (m : zv_M) (v : Nat → Nat) {t : Nat} (ht : t < 25) : (mV m v).1 96 t = Int32.ofNat (v t) := vF_e _ _ _ ht
theorem mV_u (m : zv_M) (v : Nat → Nat) {a : Nat} (ha : a < 25) (x : Nat) : wI (mV m v) 96 a (Int32.ofNat x) = mV m (upv v a x) := by
  refine Prod.ext ?_ rfl
  funext o k
  by_cases h : o = 96 ∧ k = a
  · obtain ⟨rfl, rfl⟩ := h
    rw [wI_e, mV_e _ _ ha, upv, if_pos rfl]
  · rw [wI_o _ _ h]
    by_cases q : o = 96 ∧ k < 25
    · obtain ⟨rfl, q⟩ := q
      rw [mV_e _ _ q, mV_e _ _ q, upv, if_neg (fun z => h ⟨rfl, z⟩)]
    · show (vF m 96 _ 25).1 o k = (vF m 96 _ 25).1 o k
      rw [vF_o _ _ q, vF_o _ _ q]
def RV (D : Dt) (s : Nat) (v : Nat → Nat) : Prop := (∀ t, v t ≤ 99) ∧ v s = 0 ∧ ∀ t, v t < 99 → (Ls D s (v t)).testBit t = true
theorem RV_u {D : Dt} (hS : CS D) {s : Nat} (hs : s < dW D * dW D) {v : Nat → Nat} (h : RV D s v) {a b : Nat} (hl : v b + 1 < v a) (hf : (fr D).testBit a = true) (hj : aj (dW D) a b = true) : RV D s (upv v a (v b + 1)) := by
  obtain ⟨h1, h2, h3⟩ := h
  have ha := h1 a
  refine ⟨fun t => ?_, ?_, fun t ht => ?_⟩
  · rw [upv]
    split
    · omega
    · exact h1 t
  · rw [upv]
    split
    · rename_i q
      rw [← q, h2] at hl
      omega
    · exact h2
  · rw [upv] at ht ⊢
    by_cases q : t = a
    · rw [if_pos q, q]
      exact (Ls_t hS hs _ _).mpr (Or.inr ⟨hf, b, h3 b (by omega), by rw [aj_c]; exact hj⟩)
    · rw [if_neg q] at ht ⊢
      exact h3 t ht
def fxa (D : Dt) (v : Nat → Nat) (a n : Nat) : Prop := ∀ b, b < n → aj (dW D) a b = true → v a ≤ v b + 1
def fx (D : Dt) (v : Nat → Nat) (n : Nat) : Prop := ∀ a, a < n → (fr D).testBit a = true → fxa D v a (dW D * dW D)
def PJ (D : Dt) (s : Nat) (v0 : Nat → Nat) (x : Bool × (Nat → Nat)) (d : Prop) : Prop := RV D s x.2 ∧ smf x.2 25 ≤ smf v0 25 ∧ (x.1 = true → smf x.2 25 < smf v0 25) ∧ (x.1 = false → x.2 = v0 ∧ d)
def b01 (b : Bool) : Int32 := if b = true then 1 else 0
theorem l70_ok {D : Dt} (hS : CS D) {m : zv_M} (cM : CM D m) {s : Nat} (hs : s < dW D * dW D) {v0 : Nat → Nat} {a : Nat} (ha : a < dW D * dW D) (hf : (fr D).testBit a = true) (x0 : Bool × (Nat → Nat)) (hx : PJ D s v0 x0 (fx D v0 a)) : ∃ x : Bool × (Nat → Nat), whileN zFU (fM_laySteps_l70 (Int32.ofNat a)) (b01 x0.1, 0, mV m x0.2) = some (b01 x.1, mV m x.2) ∧ PJ D s v0 x (fx D v0 (a + 1)) := by
  have hWW := CS_WW hS
  have h5 := hS.2.2.1
  have h2 := hS.2.1
  obtain ⟨r, e, x, rfl, hr⟩ := wn_up (fM_laySteps_l70 (Int32.ofNat a)) (fun i (x : Bool × (Nat → Nat)) => (b01 x.1, Int32.ofNat i, mV m x.2)) (dW D * dW D) (fun i x => PJ D s v0 x (fx D v0 a ∧ fxa D v0 a i)) (fun r => ∃ x : Bool × (Nat → Nat), r = (b01 x.1, mV m x.2) ∧ PJ D s v0 x (fx D v0 (a + 1))) (by omega) (fun i x hi hJ => by
    have c := CM_sc (mV_sc (sc_r m) x.2) cM
    have i25 : i < 25 := by omega
    have a25 : a < 25 := by omega
    obtain ⟨j1, j2, j3, j4⟩ := hJ
    have hb : x.2 i ≤ 99 := j1.1 i
    have hbe : (Int32.ofNat (apx (a % dW D) (i % dW D) + apx (a / dW D) (i / dW D)) = 1) = (aj (dW D) a i = true) := by
      rw [← ap_aj (by omega) h2 ha hi a25 i25]
      refine propext (i_eq (b := 1) ?_ (by decide))
      have q1 : a % dW D ≤ a := Nat.mod_le _ _
      have q2 : i % dW D ≤ i := Nat.mod_le _ _
      have q3 : a / dW D ≤ a := Nat.div_le_self _ _
      have q4 : i / dW D ≤ i := Nat.div_le_self _ _
      have q5 := apx_le (a % dW D) (i % dW D)
      have q6 := apx_le (a / dW D) (i / dW D)
      generalize a % dW D = y1 at *
      generalize i % dW D = y2 at *
      generalize a / dW D = y3 at *
      generalize i / dW D = y4 at *
      omega
    have pre : fM_laySteps_l70 (Int32.ofNat a) (b01 x.1, Int32.ofNat i, mV m x.2) = if aj (dW D) a i = true then (if Int32.ofNat (x.2 i + 1) < Int32.ofNat (x.2 a) then some (.inl (1, Int32.ofNat (i + 1), mV m (upv x.2 a (x.2 i + 1)))) else some (.inl (b01 x.1, Int32.ofNat (i + 1), mV m x.2))) else some (.inl (b01 x.1, Int32.ofNat (i + 1), mV m x.2)) := by
      rw [fM_laySteps_l70, WWm c, if_pos ((i_lt (by omega) (by omega)).mpr hi), c.1.1, zN25 _ (by omega) h2, zg_t, zg_t, md25 _ (by omega) h2 a a25, md25 _ (by omega) h2 i i25, dv25 _ (by omega) h2 a a25, dv25 _ (by omega) h2 i i25, n_apart (by have : a % dW D ≤ a := Nat.mod_le _ _; omega) (by have : i % dW D ≤ i := Nat.mod_le _ _; omega), zb1_s, zg_t, zg_t, n_apart (by have : a / dW D ≤ a := Nat.div_le_self _ _; omega) (by have : i / dW D ≤ i := Nat.div_le_self _ _; omega), zb1_s, i_pl, zI_n (by omega) i25, zI_n (by omega) a25, zg_t, zg_t, zg_t, zg_t, i_tn (by omega), i_tn (by omega), mV_e _ _ i25, mV_e _ _ a25, inc, mV_u _ _ a25]
      simp only [hbe, fM_laySteps_j161, inc]
    rw [pre]
    have keep : (¬ (aj (dW D) a i = true ∧ x.2 i + 1 < x.2 a)) → PJ D s v0 x (fx D v0 a ∧ fxa D v0 a (i + 1)) := fun hn => ⟨j1, j2, j3, fun z => by
      obtain ⟨k1, k2, k3⟩ := j4 z
      refine ⟨k1, k2, fun b hb hj => ?_⟩
      by_cases q : b = i
      · rw [q] at hj ⊢
        rw [k1] at hn
        refine Decidable.byContradiction fun w => hn ⟨hj, by omega⟩
      · exact k3 b (by omega) hj⟩
    by_cases q : aj (dW D) a i = true
    · rw [if_pos q]
      by_cases q2 : x.2 i + 1 < x.2 a
      · have ha9 := j1.1 a
        rw [if_pos ((i_lt (by omega) (by omega)).mpr q2)]
        have l := (smf_u q2 25).2 a25
        refine ⟨(true, upv x.2 a (x.2 i + 1)), rfl, RV_u hS hs j1 q2 hf q, ?_, fun _ => ?_, fun z => by cases z⟩
        · show smf (upv x.2 a (x.2 i + 1)) 25 ≤ _
          omega
        · show smf (upv x.2 a (x.2 i + 1)) 25 < _
          omega
      · have ha9 := j1.1 a
        rw [if_neg (fun z => q2 ((i_lt (by omega) (by omega)).mp z))]
        exact ⟨x, rfl, keep (fun z => q2 z.2)⟩
    · rw [if_neg q]
      exact ⟨x, rfl, keep (fun z => q z.1)⟩) (fun x hJ => by
    have c := CM_sc (mV_sc (sc_r m) x.2) cM
    rw [fM_laySteps_l70, WWm c, if_neg (fun q => by have := (i_lt (by omega) (by omega)).mp q; omega)]
    obtain ⟨j1, j2, j3, j4⟩ := hJ
    refine ⟨_, rfl, x, rfl, j1, j2, j3, fun z => ?_⟩
    obtain ⟨k1, k2, k3⟩ := j4 z
    refine ⟨k1, fun b hb hfb => ?_⟩
    by_cases q : b = a
    · rw [q]
      exact k3
    · exact k2 b (by omega) hfb) x0 ⟨hx.1, hx.2.1, hx.2.2.1, fun z => ⟨(hx.2.2.2 z).1, (hx.2.2.2 z).2, fun b hb => absurd hb (Nat.not_lt_zero b)⟩⟩
  exact ⟨x, e, hr⟩
theorem l39_ok {D : Dt} (hS : CS D) {m : zv_M} (cM : CM D m) {s : Nat} (hs : s < dW D * dW D) {v0 : Nat → Nat} (h0 : RV D s v0) : ∃ x : Bool × (Nat → Nat), whileN zFU fM_laySteps_l39 (0, 0, mV m v0) = some (b01 x.1, mV m x.2) ∧ PJ D s v0 x (fx D v0 (dW D * dW D)) := by
  have hWW := CS_WW hS
  obtain ⟨r, e, x, rfl, hr⟩ := wn_up fM_laySteps_l39 (fun i (x : Bool × (Nat → Nat)) => (b01 x.1, Int32.ofNat i, mV m x.2)) (dW D * dW D) (fun i x => PJ D s v0 x (fx D v0 i)) (fun r => ∃ x : Bool × (Nat → Nat), r = (b01 x.1, mV m x.2) ∧ PJ D s v0 x (fx D v0 (dW D * dW D))) (by omega) (fun i x hi hJ => by
    have c := CM_sc (mV_sc (sc_r m) x.2) cM
    rw [fM_laySteps_l39, WWm c, if_pos ((i_lt (by omega) (by omega)).mpr hi), c.1.2.2.2, n_has (by omega), zb1_s, if01]
    cases hb : (dB D).testBit i
    · rw [if_neg (show ¬ false = true by decide)]
      obtain ⟨y, e, hy⟩ := l70_ok hS cM hs (v0 := v0) hi (by rw [fr_t, hb, decide_eq_true hi]; rfl) x hJ
      rw [e, zb1_s]
      exact ⟨y, by show fM_laySteps_j167 _ _ _ = _; rw [fM_laySteps_j167, inc], hy⟩
    · rw [if_pos (show true = true from rfl), fM_laySteps_j167, inc]
      refine ⟨x, rfl, hJ.1, hJ.2.1, hJ.2.2.1, fun z => ⟨(hJ.2.2.2 z).1, fun a ha hf => ?_⟩⟩
      by_cases q : a = i
      · rw [q, fr_t, hb] at hf
        simp at hf
      · exact (hJ.2.2.2 z).2 a (by omega) hf) (fun x hJ => by
    have c := CM_sc (mV_sc (sc_r m) x.2) cM
    rw [fM_laySteps_l39, WWm c, if_neg (fun q => by have := (i_lt (by omega) (by omega)).mp q; omega)]
    exact ⟨_, rfl, x, rfl, hJ⟩) (false, v0) ⟨h0, Nat.le_refl _, (fun z => by cases z), fun _ => ⟨rfl, fun a ha => absurd ha (Nat.not_lt_zero a)⟩⟩
  exact ⟨x, e, hr⟩
theorem l31_ok {D : Dt} (hS : CS D) {m : zv_M} (cM : CM D m) {s : Nat} (hs : s < dW D * dW D) : ∀ (n fu : Nat) (v : Nat → Nat), smf v 25 < n → n < fu → RV D s v → ∃ v', whileN fu fM_laySteps_l31 (1, mV m v) = some (mV m v') ∧ RV D s v' ∧ fx D v' (dW D * dW D) := by
  intro n
  induction n with
  | zero => intro fu v h; omega
  | succ n ih =>
    intro fu v h hf hv
    obtain ⟨fu, rfl⟩ : ∃ j, fu = j + 1 := ⟨fu - 1, by omega⟩
    obtain ⟨x, e, j1, j2, j3, j4⟩ := l39_ok hS cM hs hv
    have step : fM_laySteps_l31 (1, mV m v) = some (.inl (b01 x.1, mV m x.2)) := by
      rw [fM_laySteps_l31, if_neg (by decide), e]
      rfl
    cases hb : x.1
    · obtain ⟨k1, k2⟩ := j4 hb
      obtain ⟨fu, rfl⟩ : ∃ j, fu = j + 1 := ⟨fu - 1, by omega⟩
      refine ⟨x.2, ?_, j1, by rw [k1]; exact k2⟩
      rw [whileN, step, hb]
      show whileN (fu + 1) fM_laySteps_l31 (0, mV m x.2) = _
      rw [whileN, fM_laySteps_l31, if_pos (by decide)]
    · have := j3 hb
      obtain ⟨v', e', r1, r2⟩ := ih fu x.2 (by omega) (by omega) j1
      refine ⟨v', ?_, r1, r2⟩
      rw [whileN, step, hb]
      exact e'
theorem g_steps {D : Dt} (hS : CS D) {m : zv_M} (cM : CM D m) {s : Nat} (hs : s < dW D * dW D) : ∃ v : Nat → Nat, fM_laySteps (Int32.ofNat s) m = some (mV m v) ∧ ∀ t, (∃ k, k ≤ 19 ∧ af D s k t ∧ v t = k) ∨ (v t = 99 ∧ ∀ k, (Ls D s k).testBit t = false) := by
  have hWW := CS_WW hS
  have e2 := wn_eq fM_laySteps_l2 (fun i => (Int32.ofNat i, vF m 96 (fun _ => Int32.ofNat 99) i)) 25 (mV m (fun _ => 99)) (by decide) (fun i hi => by
    show fM_laySteps_l2 (_, _) = _
    rw [fM_laySteps_l2, if_pos (c25 hi), zI_n (by omega) hi, zg_t, i_tn (by omega), inc, show (99 : Int32) = Int32.ofNat 99 from rfl, vF_s (g := fun _ => Int32.ofNat 99)]) (by
    show fM_laySteps_l2 (_, _) = _
    rw [fM_laySteps_l2, if_neg (by decide)]
    rfl)
  rw [vF_0] at e2
  have e2' : whileN zFU fM_laySteps_l2 (0, m) = some (mV m (fun _ => 99)) := e2
  have sm : ∀ n, smf (upv (fun _ => 99) s 0) n ≤ 99 * n := fun n => by
    induction n with
    | zero => exact Nat.le_refl _
    | succ n ih =>
      rw [smf]
      have : upv (fun _ => 99) s 0 n ≤ 99 := by
        rw [upv]
        split <;> omega
      omega
  have r0 : RV D s (upv (fun _ => 99) s 0) := by
    refine ⟨fun t => ?_, by rw [upv, if_pos rfl], fun t ht => ?_⟩
    · rw [upv]
      split <;> omega
    · rw [upv] at ht ⊢
      by_cases q : t = s
      · rw [if_pos q, q, Ls, Nat.testBit_two_pow, decide_eq_true rfl]
      · rw [if_neg q] at ht
        omega
  obtain ⟨v, e, r1, r2⟩ := l31_ok hS cM hs 5000 zFU (upv (fun _ => 99) s 0) (by have := sm 25; omega) (zn_FU (by decide)) r0
  refine ⟨v, ?_, fun t => ?_⟩
  · rw [fM_laySteps, e2', zb1_s, zI_n (by omega) (by omega), zg_t, i_tn (by omega), show (0 : Int32) = Int32.ofNat 0 from rfl, mV_u _ _ (by omega)]
    have e' : whileN zFU fM_laySteps_l31 (1, mV m (upv (fun _ => 99) s 0)) = _ := e
    rw [e', zb1_s]
  · have up : ∀ k t, (Ls D s k).testBit t = true → v t ≤ k := fun k => by
      induction k with
      | zero =>
        intro t ht
        rw [Ls, Nat.testBit_two_pow] at ht
        rw [← of_decide_eq_true ht, r1.2.1]
        exact Nat.le_refl _
      | succ k ih =>
        intro t ht
        rcases (Ls_t hS hs k t).mp ht with q | ⟨q, j, j1, j2⟩
        · have := ih t q
          omega
        · have h1 := ih j j1
          have hj : j < dW D * dW D := by
            rcases Nat.lt_or_ge j (dW D * dW D) with w | w
            · exact w
            · rw [tb_hi (Ls_lt hS hs k) w] at j1
              cases j1
          have ht : t < dW D * dW D := by
            rw [fr_t] at q
            exact of_decide_eq_true (Bool.and_eq_true _ _ |>.mp q).1
          have := r2 t ht q j hj (by rw [aj_c]; exact j2)
          omega
    by_cases q : v t < 99
    · obtain ⟨k, k1, k2⟩ := af_of (r1.2.2 t q)
      refine Or.inl ⟨k, far19 hS hs k2, k2, ?_⟩
      have := up k t k2.1
      omega
    · have h9 := r1.1 t
      refine Or.inr ⟨by omega, fun k => ?_⟩
      cases e : (Ls D s k).testBit t
      · rfl
      · obtain ⟨j, -, hj⟩ := af_of e
        have := far19 hS hs hj
        have := up j t hj.1
        omega
