/-! Squares where one was rubbed out. -/
def up (D : Dt) (s p : Nat) : Dt := (D.1, D.2.1, D.2.2.1, D.2.2.2.1, D.2.2.2.2.1, D.2.2.2.2.2.1, D.2.2.2.2.2.2.1, D.2.2.2.2.2.2.2.1, D.2.2.2.2.2.2.2.2.1, D.2.2.2.2.2.2.2.2.2.1, fun k => if k = s then Int32.ofNat p else da D k)
theorem up_S {D : Dt} (hS : CS D) {s p : Nat} (hp : p < dn D) (hs : s < dW D * dW D) : CS (up D s p) := by
  obtain ⟨h1, h2, h3, h4, h5, h6, h7, h8, h9⟩ := hS
  refine ⟨h1, h2, h3, h4, h5, h6, h7, fun k hk => ?_, h9⟩
  show (if k = s then Int32.ofNat p else da D k) = -1 ∨ k < dW D * dW D ∧ ∃ q : Nat, q < dn D ∧ (if k = s then Int32.ofNat p else da D k) = Int32.ofNat q
  by_cases q : k = s
  · rw [if_pos q]
    exact Or.inr ⟨by omega, p, hp, rfl⟩
  · rw [if_neg q]
    exact h8 k hk
theorem up_M {D : Dt} {m : zv_M} (c : CM D m) (s p : Nat) : CM (up D s p) (wI m 72 s (Int32.ofNat p)) := by
  obtain ⟨h1, h2, h3, h4, h5⟩ := c
  refine ⟨h1, h2, h3, fun k hk => ?_, h5⟩
  show (wI m 72 s (Int32.ofNat p)).1 72 k = if k = s then Int32.ofNat p else da D k
  by_cases q : k = s
  · rw [if_pos q, q, wI_e]
  · rw [if_neg q, wI_o _ _ (by omega), h4 k hk]
theorem wI_back {m : zv_M} {o k : Nat} {v w : Int32} (h : m.1 o k = w) : wI (wI m o k v) o k w = m := by
  unfold wI
  have : (fun o' k' => if o' = o ∧ k' = k then w else if o' = o ∧ k' = k then v else m.1 o' k') = m.1 := by
    funext o' k'
    by_cases q : o' = o ∧ k' = k
    · rw [if_pos q, q.1, q.2, h]
    · rw [if_neg q, if_neg q]
  rw [this]
theorem up_se {D : Dt} (hS : CS D) {s p : Nat} (hs : s < 25) (hp : p < dn D) (h0 : on D s = false) (q : Nat) : pc (se (up D s p) q) = fb_ct (fun f => (mv D f).testBit q) 25 + (if (VV D p s).testBit q = true then 1 else 0) := by
  have e : ∀ f, (mv (up D s p) f).testBit q = if f = s then (VV D p s).testBit q else (mv D f).testBit q := fun f => by
    by_cases z : f = s
    · subst z
      have e1 : da (up D f p) f = Int32.ofNat p := if_pos rfl
      have e2 : on (up D f p) f = true := by rw [on, e1, decide_eq_false (i_lt0 (by have := hS.1; omega))]; rfl
      have e3 : mp (up D f p) f = p := by rw [mp, e1, i_tn (by have := hS.1; omega)]
      rw [if_pos rfl, mv_1 e2, e3]
      rfl
    · have e1 : da (up D s p) f = da D f := if_neg z
      rw [if_neg z, mv, mv, on, on, mp, mp, e1]
      rfl
  have u := fb_ct_upd (fun f => (mv D f).testBit q) ((VV D p s).testBit q) hs
  rw [show (mv D s).testBit q = false by rw [mv_0 h0, Nat.zero_testBit], if_neg (show ¬ false = true by decide), Nat.add_zero] at u
  rw [se_pc, ← u]
  exact fb_ct_cong fun k _ => e k
theorem seen_eq {D : Dt} {M : zv_M} (hS : CS D) (hM : CM D M) (hV : SV 43 44 45 (mv D) M) {n11 : Nat} {p s : Nat} (hp : p < dn D) (hs : s < dW D * dW D) (h0 : on D s = false) (b1 : n11 ≤ 8) (c1 : M.1 11 1 = Int32.ofNat n11) (c2 : M.1 68 47 = Int32.ofNat n11) (c3 : ∀ i, i < n11 → M.1 12 i = M.1 99 i ∧ ∃ q : Nat, q < dW D * dW D ∧ M.1 99 i = Int32.ofNat q) (d1 : M.1 13 1 = Int32.ofNat n11) (d3 : ∀ i, i < n11 → M.1 14 i = M.1 100 i) : ∃ r, fN_makesSeenSo (Int32.ofNat (VV D p s)) M = some r ∧ fM_isSeen (wI M 72 s (Int32.ofNat p)) = some r ∧ (r = 0 ∨ r = 1) := by
  have h25 : s < 25 := Nat.lt_of_lt_of_le hs (CS_WW hS)
  obtain ⟨r, w, e1, e2, e3, e4⟩ := wn_two (fN_makesSeenSo_l2 (Int32.ofNat (VV D p s)) M) (fM_isSeen_l2 (wI M 72 s (Int32.ofNat p))) n11 (fun i s t => s = Int32.ofNat i ∧ t = Int32.ofNat i) (fun r w => r = w ∧ (r = 0 ∨ r = 1)) (by omega) (fun i a b hi hJ => by
    obtain ⟨rfl, rfl⟩ := hJ
    rw [fN_makesSeenSo_l2, fM_isSeen_l2, c1, show (wI M 72 s (Int32.ofNat p)).1 68 47 = Int32.ofNat n11 from c2]
    by_cases q : i < n11
    · obtain ⟨k1, sq, k2, k3⟩ := c3 i q
      have ksq : sq < 25 := Nat.lt_of_lt_of_le k2 (CS_WW hS)
      have hct := fb_ct_le (fun f => (mv D f).testBit sq) 25
      rw [if_pos ((i_lt (by omega) (by omega)).mpr q), if_pos ((i_lt (by omega) (by omega)).mpr q), pi_get (a := 12) (cap := 8) (n := n11) ⟨rfl, rfl, by decide, c1, b1, by decide⟩ (by omega), if_pos q, zb1_s, k1, k3, v_seers hV ksq, zb1_s, n_isIn (by omega), decide_eq_true ksq, Bool.true_and, zb1_s, if01, zI_n (by omega) (by omega), zg_t, i_tn (by omega), show (wI M 72 s (Int32.ofNat p)).1 99 i = M.1 99 i from rfl, k3, g_seersM (up_S hS hp hs) (up_M hM s p) ksq, zb1_s, n_ones (p25 (se_lt _ _)), zb1_s, zg_t, up_se hS h25 hp h0, fN_makesSeenSo_j49, fN_makesSeenSo_j49, pi_get (a := 14) (cap := 8) (n := n11) ⟨rfl, rfl, by decide, d1, b1, by decide⟩ (by omega), if_pos q, zb1_s, zb1_s, d3 i q, show (wI M 72 s (Int32.ofNat p)).1 100 i = M.1 100 i from rfl, inc]
      cases (VV D p s).testBit sq
      · rw [if_neg (show ¬ false = true by decide), if_neg (show ¬ false = true by decide), show Int32.ofNat (fb_ct (fun f => (mv D f).testBit sq) 25) + 0 = Int32.ofNat (fb_ct (fun f => (mv D f).testBit sq) 25 + 0) from i_pl _ 0]
        by_cases z : Int32.ofNat (fb_ct (fun f => (mv D f).testBit sq) 25 + 0) = M.1 100 i
        · rw [if_pos z, inc]
          exact Or.inr ⟨q, _, _, rfl, rfl, rfl, rfl⟩
        · rw [if_neg z]
          exact Or.inl ⟨_, _, rfl, rfl, rfl, Or.inl rfl⟩
      · rw [if_pos (show true = true from rfl), if_pos (show true = true from rfl), inc]
        by_cases z : Int32.ofNat (fb_ct (fun f => (mv D f).testBit sq) 25 + 1) = M.1 100 i
        · rw [if_pos z]
          exact Or.inr ⟨q, _, _, rfl, rfl, rfl, rfl⟩
        · rw [if_neg z]
          exact Or.inl ⟨_, _, rfl, rfl, rfl, Or.inl rfl⟩
    · rw [if_neg (fun z => q ((i_lt (by omega) (by omega)).mp z)), if_neg (fun z => q ((i_lt (by omega) (by omega)).mp z))]
      exact Or.inl ⟨_, _, rfl, rfl, rfl, Or.inr rfl⟩) (Int32.ofNat 0) (Int32.ofNat 0) ⟨rfl, rfl⟩
  subst e3
  exact ⟨r, by rw [fN_makesSeenSo, show (0 : Int32) = Int32.ofNat 0 from rfl, e1, zb1_s], by rw [fM_isSeen, show (0 : Int32) = Int32.ofNat 0 from rfl, e2, zb1_s], e4⟩
theorem O_rubbed_ok : O_rubbed INV := fun m h x1 => by
  obtain ⟨D, hS, cN, cM⟩ := pic h
  have hWW := CS_WW hS
  rcases i_cases x1 with hx | ⟨p, hp, rfl⟩
  · exact ⟨-1, m, m, by rw [fN_rubbed, (isPlan_neg hx).1]; rfl, by rw [fM_rubbed, (isPlan_neg hx).2]; rfl, h⟩
  by_cases h1 : p < dn D
  · have hsc := fM2_sc D p m
    have c1 : CN D (vF m 44 (fun s => Int32.ofNat (mv D s)) 25) := CN_sc hS (sc_F (sc_r m) (fun _ => rfl)) cN
    have c2 := CN_sc hS hsc cN
    have cM2 := CM_sc hsc cM
    have hI := INV_sc hsc h
    have hV1 := fM2_men hS p m
    have hV2 : SV 46 47 48 (pw D p) (fM2 D p m) := SV_plan hS p _
    have hI' := hI
    obtain ⟨y, ⟨n, W, hPl, hN1, hN2, ⟨hW2, hW5, hN3⟩, hMn, hp5, ⟨b, hb, d1, d2, d3⟩, ⟨b', hb', e1, e2, e3⟩, hp8⟩, hK, hB, -⟩ := hI'
    obtain rfl : W = dW D := (i_eq (by omega) (by have := hS.2.2.1; omega)).mp (hN3.symm.trans (hB.2.2.2.2.1.symm.trans cM2.1.1))
    obtain rfl : b' = b := (i_eq (by omega) (by omega)).mp (e2.symm.trans d2)
    generalize hM : fM2 D p m = M at *
    have key : ∀ s, s < dW D * dW D → (op D).testBit s = true → ∃ r, fN_makesSeenSo (Int32.ofNat (pw D p s)) M = some r ∧ fM_isSeen (wI M 72 s (Int32.ofNat p)) = some r ∧ (r = 0 ∨ r = 1) := fun s hs ho => by
      have h0 : on D s = false := by
        rw [op_t, decide_eq_true hs, decide_eq_true (show s < 25 by omega)] at ho
        cases e : on D s
        · rfl
        · rw [e] at ho
          simp at ho
      rw [pw, if_pos hs]
      exact seen_eq hS cM2 hV1 h1 hs h0 hb d1 d2 d3 e1 (fun i hi => (e3 i hi).1)
    have eN := wn_eq (fN_rubbed_l29 M (Int32.ofNat (op D))) (fun i => (Int32.ofNat (bs (fun s => (op D).testBit s && decide (fN_makesSeenSo (Int32.ofNat (pw D p s)) M = some 1)) i), Int32.ofNat i)) 25 (Int32.ofNat (bs (fun s => (op D).testBit s && decide (fN_makesSeenSo (Int32.ofNat (pw D p s)) M = some 1)) 25), M) (by decide) (fun i hi => by
      show fN_rubbed_l29 _ _ (_, _) = _
      rw [fN_rubbed_l29, if_pos (c25 hi), n_isIn (by omega), decide_eq_true hi, Bool.true_and, zb1_s, if01]
      cases b1 : (op D).testBit i
      · rw [if_neg (by decide), fN_rubbed_j68, inc, n_puf _ i (by rw [b1]; rfl)]
      · have hs : i < dW D * dW D := by
          rw [op_t] at b1
          rcases Nat.lt_or_ge i (dW D * dW D) with z | z
          · exact z
          · rw [decide_eq_false (by omega)] at b1
            cases b1
        obtain ⟨r, k1, k2, k3⟩ := key i hs b1
        rw [if_pos (by decide), v_from hV2 hi, zb1_s, k1, zb1_s, fN_rubbed_j68, fN_rubbed_j68, inc]
        rcases k3 with rfl | rfl
        · rw [if_pos (by decide), n_puf _ i (by rw [k1]; simp)]
        · rw [if_neg (by decide), n_put (fun s => (op D).testBit s && decide (fN_makesSeenSo (Int32.ofNat (pw D p s)) M = some 1)) i (by rw [b1, k1]; rfl) (by omega)]) (by
      show fN_rubbed_l29 _ _ (_, _) = _
      rw [fN_rubbed_l29, if_neg (by decide)])
    have eM := wn_eq (fM_rubbed_l14 (Int32.ofNat p)) (fun i => (Int32.ofNat (bs (fun s => (op D).testBit s && decide (fN_makesSeenSo (Int32.ofNat (pw D p s)) M = some 1)) i), Int32.ofNat i, M)) (dW D * dW D) (Int32.ofNat (bs (fun s => (op D).testBit s && decide (fN_makesSeenSo (Int32.ofNat (pw D p s)) M = some 1)) (dW D * dW D)), M) (by omega) (fun i hi => by
      have h25 : i < 25 := by omega
      show fM_rubbed_l14 _ (_, _, _) = _
      rw [fM_rubbed_l14, WWm cM2, if_pos ((i_lt (by omega) (by omega)).mpr hi), g_mayBe hS cM2 h25 hi, zb1_s, if01]
      cases b1 : (op D).testBit i
      · rw [if_neg (by decide), fM_rubbed_j69, inc, n_puf _ i (by rw [b1]; rfl)]
      · obtain ⟨r, k1, k2, k3⟩ := key i hi b1
        have h0 : on D i = false := by
          rw [op_t, decide_eq_true hi, decide_eq_true h25] at b1
          cases e : on D i
          · rfl
          · rw [e] at b1
            simp at b1
        have hback : wI (wI M 72 i (Int32.ofNat p)) 72 i (-1) = M := wI_back ((cM2.2.2.2.1 i h25).trans (on_f hS h25 h0))
        rw [if_pos (by decide), zI_n (by omega) h25, zg_t, i_tn (by omega), k2, zb1_s, fM_rubbed_j60, fM_rubbed_j60, zI_n (by omega) h25, zg_t, zg_t, i_tn (by omega), hback, fM_rubbed_j69, fM_rubbed_j69, inc, z_ofn]
        rcases k3 with rfl | rfl
        · rw [if_pos (by decide), n_puf _ i (by rw [k1]; simp)]
        · rw [if_neg (by decide), n_put (fun s => (op D).testBit s && decide (fN_makesSeenSo (Int32.ofNat (pw D p s)) M = some 1)) i (by rw [b1, k1]; rfl) (by omega)]) (by
      show fM_rubbed_l14 _ (_, _, _) = _
      rw [fM_rubbed_l14, WWm cM2, if_neg (fun q => by have := (i_lt (by omega) (by omega)).mp q; omega)])
    have ew : bs (fun s => (op D).testBit s && decide (fN_makesSeenSo (Int32.ofNat (pw D p s)) M = some 1)) (dW D * dW D) = bs (fun s => (op D).testBit s && decide (fN_makesSeenSo (Int32.ofNat (pw D p s)) M = some 1)) 25 := bs_w hWW fun i q1 q2 => by
      show ((op D).testBit i && _) = false
      rw [op_t, decide_eq_false (by omega)]
      rfl
    rw [ew] at eM
    refine ⟨Int32.ofNat (bs (fun s => (op D).testBit s && decide (fN_makesSeenSo (Int32.ofNat (pw D p s)) M = some 1)) 25), M, M, ?_, ?_, hI⟩
    · rw [fN_rubbed, g_plan hS cN hp, if_pos h1, zb1_s, if_neg (by decide), g_byMen hS cN, zb1_s, g_byPlan hS c1 h1, zb1_s]
      have eF : vF (vF m 44 (fun s => Int32.ofNat (mv D s)) 25) 47 (fun s => Int32.ofNat (pw D p s)) 25 = M := hM
      rw [eF, g_open hS c2, zb1_s]
      exact congrArg (fun z => zb1 z (fun r => some r)) eN
    · rw [fM_rubbed, g_planM hS cM2 hp, if_pos h1, zb1_s, if_neg (by decide)]
      exact congrArg (fun z => zb1 z (fun r => some r)) eM
  · exact ⟨-1, m, m, by rw [fN_rubbed, g_plan hS cN hp, if_neg h1]; rfl, by rw [fM_rubbed, g_planM hS cM hp, if_neg h1]; rfl, h⟩
