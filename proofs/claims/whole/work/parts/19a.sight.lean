/-! Men's bits, and what men and a plan see, laid into the sights. -/
def on (D : Dt) (s : Nat) : Bool := !decide (da D s < 0)
def mp (D : Dt) (s : Nat) : Nat := (da D s).toNatClampNeg
def Mn (D : Dt) : Nat := bs (on D) 25
def mv (D : Dt) (s : Nat) : Nat := if on D s = true then VV D (mp D s) s else 0
theorem on_t {D : Dt} (hS : CS D) {s : Nat} (hs : s < 25) (h : on D s = true) : s < dW D * dW D ∧ mp D s < dn D ∧ da D s = Int32.ofNat (mp D s) := by
  rcases hS.2.2.2.2.2.2.2.1 s hs with e | ⟨h1, q, hq, e⟩
  · rw [on, e] at h
    cases h
  · have hn := hS.1
    have t := tn_of e (by omega)
    refine ⟨h1, ?_, t.1⟩
    rw [mp, t.2]
    exact hq
theorem on_f {D : Dt} (hS : CS D) {s : Nat} (hs : s < 25) (h : on D s = false) : da D s = -1 := by
  rcases hS.2.2.2.2.2.2.2.1 s hs with e | ⟨h1, q, hq, e⟩
  · exact e
  · have hn := hS.1
    rw [on, e, decide_eq_false (i_lt0 (by omega))] at h
    cases h
theorem on_w {D : Dt} (hS : CS D) {s : Nat} (hs : s < 25) (h : dW D * dW D ≤ s) : on D s = false := by
  cases e : on D s
  · rfl
  · have := (on_t hS hs e).1
    omega
theorem Mn_t (D : Dt) (s : Nat) : (Mn D).testBit s = (decide (s < 25) && on D s) := bs_t _ _ _
theorem Mn_lt (D : Dt) : Mn D < 2 ^ 25 := bs_lt _ _
theorem z_ofn (x : Int32) : x ||| 0 = x := by simp
theorem g_man {D : Dt} {m : zv_M} (c : CN D m) {s : Nat} (hs : s < 25) : fSt_manOn 1 (Int32.ofNat s) m = some (da D s) := by
  rw [fSt_manOn, if_neg (i_lt0 (by omega)), show zrf 1 3 = 8 from rfl, show zln 8 = 25 from rfl, if_pos ((i_lt (by omega) (by decide)).mpr hs), zI_n (by omega) hs, zg_t, i_tn (by omega), c.2.2.2.2 s hs]
theorem g_men {D : Dt} {m : zv_M} (hS : CS D) (c : CN D m) : fSt_menBits 1 m = some (Int32.ofNat (Mn D)) := by
  have e := wn_eq (fSt_menBits_l4 1 m) (fun i => (Int32.ofNat (bs (on D) i), Int32.ofNat i)) 25 (Int32.ofNat (bs (on D) 25)) (by decide) (fun i hi => by
    show fSt_menBits_l4 1 m (_, _) = _
    rw [fSt_menBits_l4, show zrf 1 3 = 8 from rfl, show zln 8 = 25 from rfl, if_pos ((i_lt (by omega) (by decide)).mpr hi), zI_n (by omega) hi, zg_t, i_tn (by omega), c.2.2.2.2 i hi]
    cases h : on D i
    · rw [if_pos (on_f hS hi h), n_puf _ _ h, fSt_menBits_j29, inc]
    · rw [(on_t hS hi h).2.2, if_neg (i_ne (by have := (on_t hS hi h).2.1; have := hS.1; omega) (by decide)), n_put _ _ h (by omega), fSt_menBits_j29, inc]) (by
    show fSt_menBits_l4 1 m (_, _) = _
    rw [fSt_menBits_l4, show zrf 1 3 = 8 from rfl, show zln 8 = 25 from rfl, if_neg (by decide)])
  rw [fSt_menBits]
  exact congrArg (fun z => zb1 z (fun r => some r)) e
theorem g_menM {D : Dt} {m : zv_M} (hS : CS D) (c : CM D m) : fM_men m = some (Int32.ofNat (Mn D)) := by
  have e := wn_eq (fM_men_l4 m) (fun i => (Int32.ofNat (bs (on D) i), Int32.ofNat i)) 25 (Int32.ofNat (bs (on D) 25)) (by decide) (fun i hi => by
    show fM_men_l4 m (_, _) = _
    rw [fM_men_l4, if_pos (c25 hi), zI_n (by omega) hi, zg_t, i_tn (by omega), c.2.2.2.1 i hi]
    cases h : on D i
    · rw [if_pos (show da D i < 0 by rw [on_f hS hi h]; decide), n_puf _ _ h, fM_men_j27, inc, z_ofn]
    · rw [(on_t hS hi h).2.2, if_neg (i_lt0 (by have := (on_t hS hi h).2.1; have := hS.1; omega)), fM_men_j27, n_put _ _ h (by omega), inc]) (by
    show fM_men_l4 m (_, _) = _
    rw [fM_men_l4, if_neg (by decide)])
  rw [fM_men]
  exact congrArg (fun z => zb1 z (fun r => some r)) e
theorem mv_lt {D : Dt} (hS : CS D) {s : Nat} (hs : s < 25) : mv D s < 2 ^ (dW D * dW D) := by
  unfold mv
  split
  · rename_i h
    exact VV_lt hS (on_t hS hs h).1
  · exact Nat.pow_pos (by decide)
theorem w25 {D : Dt} (hS : CS D) {a : Nat} (h : a < 2 ^ (dW D * dW D)) : a < 2 ^ 25 := Nat.lt_of_lt_of_le h (Nat.pow_le_pow_right (by decide) (CS_WW hS))
theorem g_put {o a s : Nat} (h0 : zrf o 0 = a) (hl : zln a = 25) (hs : s < 25) (v : Int32) (m : zv_M) : fSi_put o (Int32.ofNat s) v m = some (wI m a s v) := by
  rw [fSi_put, if_neg (i_lt0 (by omega)), h0, hl, if_pos ((i_lt (by omega) (by decide)).mpr hs), zI_n (by omega) hs, zg_t, i_tn (by omega)]
theorem g_byMen {D : Dt} {m : zv_M} (hS : CS D) (c : CN D m) : fN_lookByMen m = some (vF m 44 (fun s => Int32.ofNat (mv D s)) 25) := by
  have e := wn_eq fN_lookByMen_l2 (fun i => (Int32.ofNat i, vF m 44 (fun s => Int32.ofNat (mv D s)) i)) 25 (vF m 44 (fun s => Int32.ofNat (mv D s)) 25) (by decide) (fun i hi => by
    have ci : CN D (vF m 44 (fun s => Int32.ofNat (mv D s)) i) := CN_sc hS (sc_F (sc_r m) (fun _ => rfl)) c
    show fN_lookByMen_l2 (_, _) = _
    rw [fN_lookByMen_l2, if_pos (c25 hi), g_man ci hi, zb1_s]
    cases h : on D i
    · rw [if_pos (show da D i < 0 by rw [on_f hS hi h]; decide), fN_lookByMen_j36, g_put (a := 44) rfl rfl hi, zb1_s, inc, show (0 : Int32) = Int32.ofNat (mv D i) by rw [mv, h]; rfl, vF_s (g := fun s => Int32.ofNat (mv D s))]
    · obtain ⟨h1, h2, h3⟩ := on_t hS hi h
      rw [h3, if_neg (i_lt0 (by have := hS.1; omega)), g_view hS ci h2 h1, zb1_s, fN_lookByMen_j36, g_put (a := 44) rfl rfl hi, zb1_s, inc, show Int32.ofNat (VV D (mp D i) i) = Int32.ofNat (mv D i) by rw [mv, h]; rfl, vF_s (g := fun s => Int32.ofNat (mv D s))]) (by
    show fN_lookByMen_l2 (_, _) = _
    rw [fN_lookByMen_l2, if_neg (by decide)])
  rw [vF_0] at e
  rw [fN_lookByMen]
  exact congrArg (fun z => zb1 z (fun r => some r)) e
/-- all squares, those not barred, those open -/
def al (D : Dt) : Nat := 2 ^ (dW D * dW D) - 1
def fr (D : Dt) : Nat := ad (al D) (dB D)
def op (D : Dt) : Nat := ad (fr D) (Mn D)
theorem al_t (D : Dt) (i : Nat) : (al D).testBit i = decide (i < dW D * dW D) := Nat.testBit_two_pow_sub_one _ _
theorem al_lt (D : Dt) : al D < 2 ^ (dW D * dW D) := Nat.sub_lt (Nat.pow_pos (by decide)) (by decide)
theorem fr_t (D : Dt) (i : Nat) : (fr D).testBit i = (decide (i < dW D * dW D) && !(dB D).testBit i) := by rw [fr, ad_t, al_t]
theorem op_t (D : Dt) (i : Nat) : (op D).testBit i = (decide (i < dW D * dW D) && !(dB D).testBit i && !(decide (i < 25) && on D i)) := by rw [op, ad_t, fr_t, Mn_t]
theorem fr_lt (D : Dt) : fr D < 2 ^ (dW D * dW D) := ad_lt (al_lt D)
theorem op_lt (D : Dt) : op D < 2 ^ (dW D * dW D) := ad_lt (fr_lt D)
theorem all5 : ∀ W, W < 6 → 2 ≤ W → fN_allSquares (Int32.ofNat W) = some (Int32.ofNat (2 ^ (W * W) - 1)) := by decide +kernel
theorem g_all {D : Dt} {m : zv_M} (hS : CS D) (c : CN D m) : fYa_all (dg D) m = some (Int32.ofNat (al D)) := by
  rw [fYa_all, c.2.1.1, all5 _ (by have := hS.2.2.1; omega) hS.2.1, zb1_s, al]
theorem g_free {D : Dt} {m : zv_M} (hS : CS D) (c : CN D m) : fYa_free (dg D) m = some (Int32.ofNat (fr D)) := by
  rw [fYa_free, g_all hS c, zb1_s, c.2.1.2.2.2, n_ad, fr]
theorem g_open {D : Dt} {m : zv_M} (hS : CS D) (c : CN D m) : fN_openSquares m = some (Int32.ofNat (op D)) := by
  rw [fN_openSquares, g_ground hS c, zb1_s, g_free hS c, zb1_s, g_men hS c, zb1_s, n_ad, op]
/-- what a plan sees from every square -/
def pw (D : Dt) (p s : Nat) : Nat := if s < dW D * dW D then VV D p s else 0
theorem pw_lt {D : Dt} (hS : CS D) (p s : Nat) : pw D p s < 2 ^ (dW D * dW D) := by
  unfold pw
  split
  · rename_i h
    exact VV_lt hS h
  · exact Nat.pow_pos (by decide)
theorem g_byPlan {D : Dt} {m : zv_M} (hS : CS D) (c : CN D m) {p : Nat} (hp : p < dn D) : fN_lookByPlan (Int32.ofNat p) m = some (vF m 47 (fun s => Int32.ofNat (pw D p s)) 25) := by
  have e := wn_eq (fN_lookByPlan_l10 (Int32.ofNat p) (Int32.ofNat (al D))) (fun i => (Int32.ofNat i, vF m 47 (fun s => Int32.ofNat (pw D p s)) i)) 25 (vF m 47 (fun s => Int32.ofNat (pw D p s)) 25) (by decide) (fun i hi => by
    have ci : CN D (vF m 47 (fun s => Int32.ofNat (pw D p s)) i) := CN_sc hS (sc_F (sc_r m) (fun _ => rfl)) c
    show fN_lookByPlan_l10 _ _ (_, _) = _
    rw [fN_lookByPlan_l10, if_pos (c25 hi), n_isIn (by omega), decide_eq_true hi, Bool.true_and, al_t, zb1_s]
    by_cases h : i < dW D * dW D
    · rw [decide_eq_true h, if_neg (by decide), g_view hS ci hp h, zb1_s, fN_lookByPlan_j39, g_put (a := 47) rfl rfl hi, zb1_s, inc, show Int32.ofNat (VV D p i) = Int32.ofNat (pw D p i) by rw [pw, if_pos h], vF_s (g := fun s => Int32.ofNat (pw D p s))]
    · rw [decide_eq_false h, if_pos (by decide), fN_lookByPlan_j39, g_put (a := 47) rfl rfl hi, zb1_s, inc, show (0 : Int32) = Int32.ofNat (pw D p i) by rw [pw, if_neg h]; rfl, vF_s (g := fun s => Int32.ofNat (pw D p s))]) (by
    show fN_lookByPlan_l10 _ _ (_, _) = _
    rw [fN_lookByPlan_l10, if_neg (by decide)])
  rw [vF_0] at e
  rw [fN_lookByPlan, g_ground hS c, zb1_s, g_all hS c, zb1_s]
  exact congrArg (fun z => zb1 z (fun r => some r)) e
/-! the sights' own methods: views v at a, links at b -/
def SV (o a b : Nat) (v : Nat → Nat) (m : zv_M) : Prop := zrf o 0 = a ∧ zln a = 25 ∧ zrf o 1 = b ∧ zln b = 25 ∧ ¬ a = b ∧ (∀ s, s < 25 → m.1 a s = Int32.ofNat (v s)) ∧ ∀ s, s < 25 → v s < 2 ^ 25
theorem v_from {o a b : Nat} {v : Nat → Nat} {m : zv_M} (h : SV o a b v m) {s : Nat} (hs : s < 25) : fSi_viewFrom o (Int32.ofNat s) m = some (Int32.ofNat (v s)) := by
  obtain ⟨h0, hl, -, -, -, hv, -⟩ := h
  rw [fSi_viewFrom, if_neg (i_lt0 (by omega)), h0, hl, if_pos ((i_lt (by omega) (by decide)).mpr hs), zI_n (by omega) hs, zg_t, i_tn (by omega), hv s hs]
theorem v_seers {o a b : Nat} {v : Nat → Nat} {m : zv_M} (h : SV o a b v m) {s : Nat} (hs : s < 25) : fSi_seersOf o (Int32.ofNat s) m = some (Int32.ofNat (fb_ct (fun f => (v f).testBit s) 25)) := by
  obtain ⟨h0, hl, -, -, -, hv, hv2⟩ := h
  have e := wn_eq (fSi_seersOf_l4 o (Int32.ofNat s) m) (fun i => (Int32.ofNat (fb_ct (fun f => (v f).testBit s) i), Int32.ofNat i)) 25 (Int32.ofNat (fb_ct (fun f => (v f).testBit s) 25)) (by decide) (fun i hi => by
    show fSi_seersOf_l4 _ _ _ (_, _) = _
    rw [fSi_seersOf_l4, h0, hl, if_pos ((i_lt (by omega) (by decide)).mpr hi), zI_n (by omega) hi, zg_t, i_tn (by omega), hv i hi, n_isIn (by omega), decide_eq_true hs, Bool.true_and, zb1_s, if01, fb_ct_succ, fSi_seersOf_j29, fSi_seersOf_j29, inc, inc]
    cases (v i).testBit s <;> rfl) (by
    show fSi_seersOf_l4 _ _ _ (_, _) = _
    rw [fSi_seersOf_l4, h0, hl, if_neg (by decide)])
  rw [fSi_seersOf]
  exact congrArg (fun z => zb1 z (fun r => some r)) e
theorem v_together {o a b : Nat} {v : Nat → Nat} {m : zv_M} (h : SV o a b v m) : fSi_together o m = some (Int32.ofNat (orf v 25)) := by
  obtain ⟨h0, hl, -, -, -, hv, hv2⟩ := h
  have e := wn_eq (fSi_together_l4 o m) (fun i => (Int32.ofNat (orf v i), Int32.ofNat i)) 25 (Int32.ofNat (orf v 25)) (by decide) (fun i hi => by
    show fSi_together_l4 _ _ (_, _) = _
    rw [fSi_together_l4, h0, hl, if_pos ((i_lt (by omega) (by decide)).mpr hi), zI_n (by omega) hi, zg_t, i_tn (by omega), hv i hi, n_or, inc, orf_s]) (by
    show fSi_together_l4 _ _ (_, _) = _
    rw [fSi_together_l4, h0, hl, if_neg (by decide)])
  rw [fSi_together]
  exact congrArg (fun z => zb1 z (fun r => some r)) e
def smf (f : Nat → Nat) : Nat → Nat
  | 0 => 0
  | n + 1 => smf f n + f n
theorem v_all {o a b : Nat} {v : Nat → Nat} {m : zv_M} (h : SV o a b v m) : fSi_allSeen o m = some (Int32.ofNat (smf (fun s => pc (v s)) 25)) := by
  obtain ⟨h0, hl, -, -, -, hv, hv2⟩ := h
  have e := wn_eq (fSi_allSeen_l4 o m) (fun i => (Int32.ofNat (smf (fun s => pc (v s)) i), Int32.ofNat i)) 25 (Int32.ofNat (smf (fun s => pc (v s)) 25)) (by decide) (fun i hi => by
    show fSi_allSeen_l4 _ _ (_, _) = _
    rw [fSi_allSeen_l4, h0, hl, if_pos ((i_lt (by omega) (by decide)).mpr hi), zI_n (by omega) hi, zg_t, i_tn (by omega), hv i hi, n_bc (p25 (hv2 i hi)), zb1_s, i_pl, inc, smf]) (by
    show fSi_allSeen_l4 _ _ (_, _) = _
    rw [fSi_allSeen_l4, h0, hl, if_neg (by decide)])
  rw [fSi_allSeen]
  exact congrArg (fun z => zb1 z (fun r => some r)) e
/-- two squares of a set are linked, if one sees the other -/
def jnb (v : Nat → Nat) (q s t : Nat) : Bool := q.testBit s && q.testBit t && ((v s).testBit t || (v t).testBit s)
def jn (v : Nat → Nat) (q s : Nat) : Nat := bs (jnb v q s) 25
theorem jn_t (v : Nat → Nat) (q s t : Nat) : (jn v q s).testBit t = (decide (t < 25) && jnb v q s t) := bs_t _ _ _
theorem jn_lt (v : Nat → Nat) (q s : Nat) : jn v q s < 2 ^ 25 := bs_lt _ _
def jg (v : Nat → Nat) (q i t : Nat) : Nat := (if q.testBit t = true then v t &&& q else 0) ||| bs (fun f => q.testBit f && q.testBit t && (v f).testBit t) i
theorem vF_k {m : zv_M} {a n : Nat} {g : Nat → Int32} (h : m.1 a n = g n) : vF m a g (n + 1) = vF m a g n := by
  unfold vF
  congr 1
  funext o k
  by_cases h1 : o = a ∧ k < n
  · rw [if_pos (by omega), if_pos h1]
  · rw [if_neg h1]
    by_cases h2 : o = a ∧ k < n + 1
    · rw [if_pos h2]
      obtain ⟨rfl, h2⟩ := h2
      obtain rfl : k = n := by omega
      exact h.symm
    · rw [if_neg h2]
theorem vF_w {m : zv_M} {a n : Nat} {g g' : Nat → Int32} : vF (vF m a g n) a g' n = vF m a g' n := by
  unfold vF
  congr 1
  funext o k
  show (if o = a ∧ k < n then g' k else if o = a ∧ k < n then g k else m.1 o k) = if o = a ∧ k < n then g' k else m.1 o k
  by_cases h1 : o = a ∧ k < n
  · rw [if_pos h1, if_pos h1]
  · rw [if_neg h1, if_neg h1, if_neg h1]
theorem vF_c {m : zv_M} {a n : Nat} {g g' : Nat → Int32} (h : ∀ k, k < n → g k = g' k) : vF m a g n = vF m a g' n := by
  unfold vF
  congr 1
  funext o k
  by_cases h1 : o = a ∧ k < n
  · rw [if_pos h1, if_pos h1, h k h1.2]
  · rw [if_neg h1, if_neg h1]
theorem v_join {o a b : Nat} {v : Nat → Nat} {m : zv_M} (h : SV o a b v m) {q : Nat} (hq : q < 2 ^ 25) : fSi_join o (Int32.ofNat q) m = some (vF m b (fun s => Int32.ofNat (jn v q s)) 25) := by
  have hh := h
  obtain ⟨h0, hl, h1, hl1, hab, hv, hv2⟩ := h
  have e1 := wn_eq (fSi_join_l2 o (Int32.ofNat q)) (fun i => (Int32.ofNat i, vF m b (fun s => Int32.ofNat (jg v q 0 s)) i)) 25 (vF m b (fun s => Int32.ofNat (jg v q 0 s)) 25) (by decide) (fun i hi => by
    have hi' : SV o a b v (vF m b (fun s => Int32.ofNat (jg v q 0 s)) i) := ⟨h0, hl, h1, hl1, hab, fun s hs => by rw [vF_o _ _ (fun z => hab z.1), hv s hs], hv2⟩
    show fSi_join_l2 _ _ (_, _) = _
    rw [fSi_join_l2, h1, hl1, if_pos ((i_lt (by omega) (by decide)).mpr hi), n_isIn (by omega), decide_eq_true hi, Bool.true_and, zb1_s, if01, v_from hi' hi, zb1_s, n_and, fSi_join_j35, fSi_join_j35, h1, hl1, zI_n (by omega) hi, zg_t, zg_t, i_tn (by omega), inc, ← vF_s]
    have e : jg v q 0 i = if q.testBit i = true then v i &&& q else 0 := Nat.or_zero _
    rw [e]
    cases q.testBit i <;> rfl) (by
    show fSi_join_l2 _ _ (_, _) = _
    rw [fSi_join_l2, h1, hl1, if_neg (by decide)])
  rw [vF_0] at e1
  have inner : ∀ f, f < 25 → whileN zFU (fSi_join_l55 o (Int32.ofNat q) (Int32.ofNat f)) (0, vF m b (fun s => Int32.ofNat (jg v q f s)) 25) = some (vF m b (fun s => Int32.ofNat (jg v q (f + 1) s)) 25) := by
    intro f hf
    have e := wn_eq (fSi_join_l55 o (Int32.ofNat q) (Int32.ofNat f)) (fun i => (Int32.ofNat i, vF (vF m b (fun s => Int32.ofNat (jg v q f s)) 25) b (fun s => Int32.ofNat (jg v q (f + 1) s)) i)) 25 (vF (vF m b (fun s => Int32.ofNat (jg v q f s)) 25) b (fun s => Int32.ofNat (jg v q (f + 1) s)) 25) (by decide) (fun i hi => by
      show fSi_join_l55 _ _ _ (_, _) = _
      have old : (vF m b (fun s => Int32.ofNat (jg v q f s)) 25).1 b i = Int32.ofNat (jg v q f i) := vF_e _ _ _ hi
      have olv : (vF (vF m b (fun s => Int32.ofNat (jg v q f s)) 25) b (fun s => Int32.ofNat (jg v q (f + 1) s)) i).1 b i = Int32.ofNat (jg v q f i) := by
        rw [vF_o _ _ (by omega), old]
      have vw : (vF (vF m b (fun s => Int32.ofNat (jg v q f s)) 25) b (fun s => Int32.ofNat (jg v q (f + 1) s)) i).1 a f = Int32.ofNat (v f) := by
        rw [vF_o _ _ (fun z => hab z.1), vF_o _ _ (fun z => hab z.1), hv f hf]
      have keep : (q.testBit f && q.testBit i && (v f).testBit i) = false → vF (vF m b (fun s => Int32.ofNat (jg v q f s)) 25) b (fun s => Int32.ofNat (jg v q (f + 1) s)) i = vF (vF m b (fun s => Int32.ofNat (jg v q f s)) 25) b (fun s => Int32.ofNat (jg v q (f + 1) s)) (i + 1) := fun z => by
        refine (vF_k ?_).symm
        rw [old]
        show Int32.ofNat (jg v q f i) = Int32.ofNat (jg v q (f + 1) i)
        rw [jg, jg, n_puf _ _ z]
      rw [fSi_join_l55, h1, hl1, if_pos ((i_lt (by omega) (by decide)).mpr hi), n_isIn (by omega), decide_eq_true hf, Bool.true_and, zb1_s, if01]
      cases b1 : q.testBit f
      · rw [if_neg (by decide), fSi_join_j105, inc, keep (by rw [b1]; rfl)]
      · rw [if_pos (by decide), n_isIn (by omega), decide_eq_true hi, Bool.true_and, zb1_s, if01]
        cases b2 : q.testBit i
        · rw [if_neg (by decide), fSi_join_j105, inc, keep (by rw [b2]; simp)]
        · rw [if_pos (by decide), h0, hl, zI_n (by omega) hf, zg_t, i_tn (by omega), vw, n_isIn (by omega), decide_eq_true hi, Bool.true_and, zb1_s, if01]
          cases b3 : (v f).testBit i
          · rw [if_neg (by decide), fSi_join_j105, inc, keep (by rw [b3]; simp)]
          · have e : jg v q f i ||| 2 ^ f = jg v q (f + 1) i := by
              rw [jg, jg, bs_s, b1, b2, b3, Nat.or_assoc]
              rfl
            rw [if_pos (by decide), zI_n (by omega) hi, zg_t, zg_t, i_tn (by omega), olv, fSi_join_j105, inc, n_sh _ (by omega), n_or, e, vF_s (g := fun s => Int32.ofNat (jg v q (f + 1) s))]) (by
      show fSi_join_l55 _ _ _ (_, _) = _
      rw [fSi_join_l55, h1, hl1, if_neg (by decide)])
    rw [vF_0] at e
    rw [vF_w] at e
    exact e
  have e2 := wn_eq (fSi_join_l44 o (Int32.ofNat q)) (fun i => (Int32.ofNat i, vF m b (fun s => Int32.ofNat (jg v q i s)) 25)) 25 (vF m b (fun s => Int32.ofNat (jg v q 25 s)) 25) (by decide) (fun i hi => by
    show fSi_join_l44 _ _ (_, _) = _
    rw [fSi_join_l44, h0, hl, if_pos ((i_lt (by omega) (by decide)).mpr hi), inner i hi, zb1_s, inc]) (by
    show fSi_join_l44 _ _ (_, _) = _
    rw [fSi_join_l44, h0, hl, if_neg (by decide)])
  have e3 : vF m b (fun s => Int32.ofNat (jg v q 25 s)) 25 = vF m b (fun s => Int32.ofNat (jn v q s)) 25 := vF_c fun s hs => by
    have : jg v q 25 s = jn v q s := by
      have l1 : jg v q 25 s < 2 ^ 25 := by
        rw [jg]
        apply Nat.or_lt_two_pow
        · split
          · exact Nat.and_lt_two_pow _ hq
          · decide
        · exact bs_lt _ _
      refine sx l1 (jn_lt _ _ _) fun i hi => ?_
      rw [jg, jn_t, Nat.testBit_or, bs_t, decide_eq_true hi, Bool.true_and, Bool.true_and, jnb]
      cases b1 : q.testBit s
      · simp [b1]
      · rw [if_pos (by decide), Nat.testBit_and]
        cases q.testBit i <;> cases (v s).testBit i <;> cases (v i).testBit s <;> rfl
    show Int32.ofNat (jg v q 25 s) = _
    rw [this]
  rw [fSi_join]
  rw [show ((0 : Int32), m) = (Int32.ofNat 0, m) from rfl, e1, zb1_s]
  refine (congrArg (fun z => zb1 z (fun r => some r)) e2).trans ?_
  rw [e3]
  rfl
