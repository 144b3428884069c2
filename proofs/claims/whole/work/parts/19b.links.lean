/-! Links among men; who sees most; where one fits. -/
def qs (D : Dt) (s : Nat) : Nat := jn (mv D) (Mn D) s
theorem SV_men {D : Dt} (hS : CS D) (m : zv_M) : SV 43 44 45 (mv D) (vF m 44 (fun s => Int32.ofNat (mv D s)) 25) := ⟨rfl, rfl, rfl, rfl, by decide, fun _ hs => vF_e _ _ _ hs, fun _ hs => w25 hS (mv_lt hS hs)⟩
theorem SV_plan {D : Dt} (hS : CS D) (p : Nat) (m : zv_M) : SV 46 47 48 (pw D p) (vF m 47 (fun s => Int32.ofNat (pw D p s)) 25) := ⟨rfl, rfl, rfl, rfl, by decide, fun _ hs => vF_e _ _ _ hs, fun _ _ => w25 hS (pw_lt hS _ _)⟩
theorem SV_o {o a b : Nat} {v : Nat → Nat} {m m' : zv_M} (h : SV o a b v m) (e : ∀ s, s < 25 → m'.1 a s = m.1 a s) : SV o a b v m' := ⟨h.1, h.2.1, h.2.2.1, h.2.2.2.1, h.2.2.2.2.1, fun s hs => (e s hs).trans (h.2.2.2.2.2.1 s hs), h.2.2.2.2.2.2⟩
def jM (D : Dt) (m : zv_M) : zv_M := vF (vF m 44 (fun s => Int32.ofNat (mv D s)) 25) 45 (fun s => Int32.ofNat (qs D s)) 25
theorem jM_sc (D : Dt) (m : zv_M) : sc m (jM D m) := sc_F (sc_F (sc_r m) (fun _ => rfl)) (fun _ => rfl)
theorem g_join {D : Dt} {m : zv_M} (hS : CS D) (c : CN D m) : fN_joinMen m = some (jM D m) := by
  rw [fN_joinMen, g_byMen hS c, zb1_s, g_men hS (CN_sc hS (sc_F (sc_r m) (fun _ => rfl)) c), zb1_s, v_join (SV_men hS m) (Mn_lt D)]
  rfl
def mj (c : Nat → Nat) : Nat → Int32 × Nat
  | 0 => (-5, 0)
  | n + 1 => if (mj c n).2 < c n then (Int32.ofNat n, c n) else mj c n
theorem mj_s (c : Nat → Nat) (n : Nat) : mj c (n + 1) = if (mj c n).2 < c n then (Int32.ofNat n, c n) else mj c n := rfl
theorem mj_le {c : Nat → Nat} {b : Nat} (h : ∀ s, c s ≤ b) : ∀ n, (mj c n).2 ≤ b
  | 0 => Nat.zero_le _
  | n + 1 => by
    rw [mj_s]
    split
    · exact h n
    · exact mj_le h n
theorem mj_w {c : Nat → Nat} {n : Nat} : ∀ k, (∀ s, n ≤ s → s < n + k → c s = 0) → mj c (n + k) = mj c n
  | 0, _ => rfl
  | k + 1, h => by
    show mj c (n + k + 1) = _
    rw [mj_s, h (n + k) (by omega) (by omega), if_neg (Nat.not_lt_zero _)]
    exact mj_w k (fun s h1 h2 => h s h1 (by omega))
theorem mj_z {c : Nat → Nat} : ∀ n, ((mj c n).1 = -5 ∧ (mj c n).2 = 0 ∧ ∀ s, s < n → c s = 0) ∨ ∃ k, k < n ∧ (mj c n).1 = Int32.ofNat k ∧ 0 < (mj c n).2 ∧ 0 < c k
  | 0 => Or.inl ⟨rfl, rfl, fun s hs => absurd hs (Nat.not_lt_zero s)⟩
  | n + 1 => by
    rw [mj_s]
    split
    · rename_i h
      exact Or.inr ⟨n, by omega, rfl, by show 0 < c n; omega, by omega⟩
    · rename_i h
      rcases mj_z (c := c) n with ⟨a, b, d⟩ | ⟨k, hk, a, b, d⟩
      · refine Or.inl ⟨a, b, fun s hs => ?_⟩
        rcases Nat.lt_or_ge s n with q | q
        · exact d s q
        · obtain rfl : s = n := by omega
          omega
      · exact Or.inr ⟨k, by omega, a, b, d⟩
theorem pc32 (a : Nat) : pc a < 2147483648 := Nat.lt_of_le_of_lt (pc_le a) (by decide)
theorem v_most {o b : Nat} {l : Nat → Nat} {m : zv_M} (h1 : zrf o 1 = b) (hl : zln b = 25) (hv : ∀ s, s < 25 → m.1 b s = Int32.ofNat (l s)) (hv2 : ∀ s, s < 25 → l s < 2 ^ 25) : fSi_mostJoined o m = some (mj (fun s => pc (l s)) 25).1 := by
  have hle := mj_le (c := fun s => pc (l s)) (fun s => pc_le (l s))
  have e := wn_eq (fSi_mostJoined_l7 o m) (fun i => ((mj (fun s => pc (l s)) i).1, Int32.ofNat (mj (fun s => pc (l s)) i).2, Int32.ofNat i)) 25 (mj (fun s => pc (l s)) 25).1 (by decide) (fun i hi => by
    show fSi_mostJoined_l7 _ _ (_, _, _) = _
    have := hle i
    rw [fSi_mostJoined_l7, h1, hl, if_pos ((i_lt (by omega) (by decide)).mpr hi), zI_n (by omega) hi, zg_t, i_tn (by omega), hv i hi, n_bc (p25 (hv2 i hi)), zb1_s, zg_t, zb1_s, mj_s]
    by_cases q : (mj (fun s => pc (l s)) i).2 < pc (l i)
    · rw [if_pos ((i_lt (by omega) (pc32 _)).mpr q), if_pos q, fSi_mostJoined_j41, inc]
    · rw [if_neg (fun z => q ((i_lt (by omega) (pc32 _)).mp z)), if_neg q, fSi_mostJoined_j41, inc]) (by
    show fSi_mostJoined_l7 _ _ (_, _, _) = _
    rw [fSi_mostJoined_l7, h1, hl, if_neg (by decide)])
  rw [fSi_mostJoined]
  exact congrArg (fun z => zb1 z (fun r => some r)) e
theorem qs_lt (D : Dt) (s : Nat) : qs D s < 2 ^ 25 := jn_lt _ _ _
theorem g_most {D : Dt} {m : zv_M} : fSi_mostJoined 43 (jM D m) = some (mj (fun s => pc (qs D s)) 25).1 := v_most rfl rfl (fun _ hs => vF_e _ _ _ hs) (fun _ _ => qs_lt _ _)
/-! the reference's side -/
def se (D : Dt) (s : Nat) : Nat := bs (fun o => (mv D o).testBit s) 25
theorem se_lt (D : Dt) (s : Nat) : se D s < 2 ^ 25 := bs_lt _ _
theorem mv_0 {D : Dt} {s : Nat} (h : on D s = false) : mv D s = 0 := by rw [mv, h]; rfl
theorem mv_1 {D : Dt} {s : Nat} (h : on D s = true) : mv D s = VV D (mp D s) s := by rw [mv, if_pos h]
theorem WWm {D : Dt} {m : zv_M} (c : CM D m) : m.1 68 1 * m.1 68 1 = Int32.ofNat (dW D * dW D) := by rw [c.1.1, i_mu]
theorem g_seersM {D : Dt} {m : zv_M} (hS : CS D) (c : CM D m) {s : Nat} (hs : s < 25) : fM_seersOf (Int32.ofNat s) m = some (Int32.ofNat (se D s)) := by
  have hWW := CS_WW hS
  have e := wn_eq (fM_seersOf_l4 (Int32.ofNat s) m) (fun i => (Int32.ofNat (bs (fun o => (mv D o).testBit s) i), Int32.ofNat i)) (dW D * dW D) (Int32.ofNat (bs (fun o => (mv D o).testBit s) (dW D * dW D))) (by omega) (fun i hi => by
    show fM_seersOf_l4 _ _ (_, _) = _
    have h25 : i < 25 := by omega
    rw [fM_seersOf_l4, WWm c, if_pos ((i_lt (by omega) (by omega)).mpr hi), zI_n (by omega) h25, zg_t, zg_t, i_tn (by omega), c.2.2.2.1 i h25]
    cases h : on D i
    · have z : (mv D i).testBit s = false := by rw [mv_0 h, Nat.zero_testBit]
      rw [if_pos (show da D i < 0 by rw [on_f hS h25 h]; decide), fM_seersOf_j52, inc, z_ofn, n_puf (fun o => (mv D o).testBit s) i z]
    · obtain ⟨h1, h2, h3⟩ := on_t hS h25 h
      rw [h3, if_neg (i_lt0 (by have := hS.1; omega)), g_sees hS c h2 h1, zb1_s, n_has (by omega), zb1_s, if01, ← mv_1 h]
      cases b : (mv D i).testBit s
      · rw [if_neg (by decide), fM_seersOf_j52, inc, z_ofn, n_puf (fun o => (mv D o).testBit s) i b]
      · rw [if_pos (by decide), fM_seersOf_j53, inc, n_put (fun o => (mv D o).testBit s) i b (by omega)]) (by
    show fM_seersOf_l4 _ _ (_, _) = _
    rw [fM_seersOf_l4, WWm c, if_neg (fun q => by have := (i_lt (by omega) (by omega)).mp q; omega)])
  have e2 : bs (fun o => (mv D o).testBit s) (dW D * dW D) = se D s := bs_w hWW fun i h1 h2 => by
    rw [mv_0 (on_w hS h2 h1), Nat.zero_testBit]
  rw [e2] at e
  rw [fM_seersOf]
  exact congrArg (fun z => zb1 z (fun r => some r)) e
theorem g_quar {D : Dt} {m : zv_M} (hS : CS D) (c : CM D m) {s : Nat} (hs : s < 25) (h : on D s = true) : fM_quarrels (Int32.ofNat s) m = some (Int32.ofNat (qs D s)) := by
  obtain ⟨h1, h2, h3⟩ := on_t hS hs h
  rw [fM_quarrels, zI_n (by omega) hs, zg_t, i_tn (by omega), c.2.2.2.1 s hs, h3, g_sees hS c h2 h1, zb1_s, g_seersM hS c hs, zb1_s, g_menM hS c, zb1_s, n_or, n_and, n_sh _ (by omega), n_ad, ← mv_1 h]
  congr 2
  refine sx (N := 25) (ad_lt (Nat.and_lt_two_pow _ (Mn_lt D))) (qs_lt D s) fun i hi => ?_
  rw [ad_t, Nat.testBit_and, Nat.testBit_or, qs, jn_t, jnb, se, bs_t, Nat.testBit_two_pow, Mn_t, Mn_t, decide_eq_true hi, decide_eq_true hs, h]
  by_cases q : s = i
  · subst q
    have : (mv D s).testBit s = false := by
      cases e : (mv D s).testBit s
      · rfl
      · rw [mv_1 h] at e
        exact absurd rfl (VV_t hS h1 e).2.1
    rw [this, decide_eq_true rfl]
    simp
  · rw [decide_eq_false q]
    cases on D i <;> cases (mv D s).testBit i <;> cases (mv D i).testBit s <;> rfl
theorem qs_0 {D : Dt} {s : Nat} (h : on D s = false) : qs D s = 0 := by
  refine sx (N := 25) (qs_lt D s) (by decide) fun i hi => ?_
  rw [qs, jn_t, jnb, Mn_t, h, Nat.zero_testBit]
  simp
theorem fst1 {p : Nat → Prop} (hd : ∀ n, p n ∨ ¬ p n) : ∀ {n : Nat}, (∃ i, i < n ∧ p i) → ∃ i, i < n ∧ p i ∧ ∀ j, j < i → ¬ p j := by
  intro n
  induction n with
  | zero => rintro ⟨i, hi, -⟩; omega
  | succ n ih =>
    rintro ⟨i, hi, hp⟩
    by_cases h : ∃ i, i < n ∧ p i
    · obtain ⟨j, h1, h2, h3⟩ := ih h
      exact ⟨j, by omega, h2, h3⟩
    · refine ⟨i, hi, hp, fun j hj hpj => h ⟨j, by omega, hpj⟩⟩
theorem g_peace {D : Dt} {m : zv_M} (hS : CS D) (c : CM D m) : ∃ r : Int32, fM_isPeace m = some r ∧ ((r = 1 ∧ (mj (fun s => pc (qs D s)) 25).1 = -5) ∨ (r = 0 ∧ ¬ (mj (fun s => pc (qs D s)) 25).1 = -5)) := by
  have hWW := CS_WW hS
  have hst : ∀ i, i < dW D * dW D → qs D i = 0 → fM_isPeace_l2 m (Int32.ofNat i) = some (.inl (Int32.ofNat (i + 1))) := fun i hi h0 => by
    have h25 : i < 25 := by omega
    rw [fM_isPeace_l2, WWm c, if_pos ((i_lt (by omega) (by omega)).mpr hi), zI_n (by omega) h25, zg_t, i_tn (by omega), c.2.2.2.1 i h25, fM_isPeace_j34, inc]
    cases h : on D i
    · rw [if_pos (show da D i < 0 by rw [on_f hS h25 h]; decide)]
    · obtain ⟨h1, h2, h3⟩ := on_t hS h25 h
      rw [h3, if_neg (i_lt0 (by have := hS.1; omega)), g_quar hS c h25 h, zb1_s, h0, if_pos (by decide)]
  rw [fM_isPeace]
  by_cases hA : ∃ i, i < dW D * dW D ∧ ¬ qs D i = 0
  · obtain ⟨i, hi, hq, hf⟩ := fst1 (p := fun i => ¬ qs D i = 0) (fun n => Decidable.em _) hA
    have h25 : i < 25 := by omega
    have hon : on D i = true := by
      cases e : on D i
      · exact absurd (qs_0 e) hq
      · rfl
    obtain ⟨h1, h2, h3⟩ := on_t hS h25 hon
    have e := wn_eq (fM_isPeace_l2 m) (fun i => Int32.ofNat i) i (0 : Int32) (by omega) (fun j hj => hst j (by omega) (Decidable.not_not.mp (hf j hj))) (by
      show fM_isPeace_l2 m (Int32.ofNat i) = _
      rw [fM_isPeace_l2, WWm c, if_pos ((i_lt (by omega) (by omega)).mpr hi), zI_n (by omega) h25, zg_t, i_tn (by omega), c.2.2.2.1 i h25, h3, if_neg (i_lt0 (by have := hS.1; omega)), g_quar hS c h25 hon, zb1_s, if_neg (show ¬ Int32.ofNat (qs D i) = 0 from fun z => hq ((i_eq (b := 0) (p25 (qs_lt D i)) (by decide)).mp z))])
    refine ⟨0, congrArg (fun z => zb1 z (fun r => some r)) e, Or.inr ⟨rfl, fun z => ?_⟩⟩
    rcases mj_z (c := fun s => pc (qs D s)) 25 with ⟨-, -, d⟩ | ⟨k, hk, a, -, -⟩
    · exact hq (pc_z (d i h25) (p25 (qs_lt D i)))
    · rw [a] at z
      exact i_ne (by omega) (show (-5 : Int32) < 0 by decide) z
  · have hz : ∀ i, i < dW D * dW D → qs D i = 0 := fun i hi => Decidable.not_not.mp fun z => hA ⟨i, hi, z⟩
    have e := wn_eq (fM_isPeace_l2 m) (fun i => Int32.ofNat i) (dW D * dW D) (1 : Int32) (by omega) (fun j hj => hst j hj (hz j hj)) (by
      show fM_isPeace_l2 m (Int32.ofNat _) = _
      rw [fM_isPeace_l2, WWm c, if_neg (fun q => by have := (i_lt (by omega) (by omega)).mp q; omega)])
    refine ⟨1, congrArg (fun z => zb1 z (fun r => some r)) e, Or.inl ⟨rfl, ?_⟩⟩
    rcases mj_z (c := fun s => pc (qs D s)) 25 with ⟨d, -, -⟩ | ⟨k, hk, -, -, a⟩
    · exact d
    · exfalso
      have : qs D k = 0 := by
        rcases Nat.lt_or_ge k (dW D * dW D) with q | q
        · exact hz k q
        · exact qs_0 (on_w hS hk q)
      simp only [this, pc_0] at a
      omega
theorem g_worstM {D : Dt} {m : zv_M} (hS : CS D) (c : CM D m) : fM_worst m = some (mj (fun s => pc (qs D s)) 25).1 := by
  have hWW := CS_WW hS
  have hle := mj_le (c := fun s => pc (qs D s)) (fun s => pc_le (qs D s))
  have e := wn_eq (fM_worst_l7 m) (fun i => ((mj (fun s => pc (qs D s)) i).1, Int32.ofNat (mj (fun s => pc (qs D s)) i).2, Int32.ofNat i)) (dW D * dW D) (mj (fun s => pc (qs D s)) (dW D * dW D)).1 (by omega) (fun i hi => by
    have h25 : i < 25 := by omega
    have h8 := hle i
    show fM_worst_l7 _ (_, _, _) = _
    rw [fM_worst_l7, WWm c, if_pos ((i_lt (by omega) (by omega)).mpr hi), zI_n (by omega) h25, zg_t, i_tn (by omega), c.2.2.2.1 i h25]
    have st : ∀ b : Int32, fM_worst_j42 b (Int32.ofNat (mj (fun s => pc (qs D s)) i).2) (Int32.ofNat i) (Int32.ofNat (pc (qs D i))) = if (mj (fun s => pc (qs D s)) i).2 < pc (qs D i) then some (.inl (Int32.ofNat i, Int32.ofNat (pc (qs D i)), Int32.ofNat (i + 1))) else some (.inl (b, Int32.ofNat (mj (fun s => pc (qs D s)) i).2, Int32.ofNat (i + 1))) := fun b => by
      rw [fM_worst_j42, fM_worst_j58, fM_worst_j58, inc]
      by_cases q : (mj (fun s => pc (qs D s)) i).2 < pc (qs D i)
      · rw [if_pos ((i_lt (by omega) (pc32 _)).mpr q), if_pos q]
      · rw [if_neg (fun z => q ((i_lt (by omega) (pc32 _)).mp z)), if_neg q]
    have fin : ∀ b : Int32, b = (mj (fun s => pc (qs D s)) i).1 → (if (mj (fun s => pc (qs D s)) i).2 < pc (qs D i) then some (.inl (Int32.ofNat i, Int32.ofNat (pc (qs D i)), Int32.ofNat (i + 1))) else some (.inl (b, Int32.ofNat (mj (fun s => pc (qs D s)) i).2, Int32.ofNat (i + 1))) : Option ((Int32 × Int32 × Int32) ⊕ Int32)) = some (.inl ((mj (fun s => pc (qs D s)) (i + 1)).1, Int32.ofNat (mj (fun s => pc (qs D s)) (i + 1)).2, Int32.ofNat (i + 1))) := fun b hb => by
      subst hb
      rw [mj_s]
      by_cases q : (mj (fun s => pc (qs D s)) i).2 < pc (qs D i)
      · rw [if_pos q, if_pos q]
      · rw [if_neg q, if_neg q]
    cases h : on D i
    · have z : (0 : Int32) = Int32.ofNat (pc (qs D i)) := by rw [qs_0 h, pc_0]; rfl
      rw [if_pos (show da D i < 0 by rw [on_f hS h25 h]; decide)]
      rw [show fM_worst_j42 (mj (fun s => pc (qs D s)) i).1 (Int32.ofNat (mj (fun s => pc (qs D s)) i).2) (Int32.ofNat i) 0 = fM_worst_j42 (mj (fun s => pc (qs D s)) i).1 (Int32.ofNat (mj (fun s => pc (qs D s)) i).2) (Int32.ofNat i) (Int32.ofNat (pc (qs D i))) from congrArg (fun v => fM_worst_j42 _ _ _ v) z, st]
      exact fin _ rfl
    · obtain ⟨h1, h2, h3⟩ := on_t hS h25 h
      rw [h3, if_neg (i_lt0 (by have := hS.1; omega)), g_quar hS c h25 h, zb1_s, n_ones (p25 (qs_lt D i)), zb1_s, st]
      exact fin _ rfl) (by
    show fM_worst_l7 _ (_, _, _) = _
    rw [fM_worst_l7, WWm c, if_neg (fun q => by have := (i_lt (by omega) (by omega)).mp q; omega)])
  have e2 : mj (fun s => pc (qs D s)) 25 = mj (fun s => pc (qs D s)) (dW D * dW D) := by
    have := mj_w (c := fun s => pc (qs D s)) (n := dW D * dW D) (25 - dW D * dW D) (fun s h1 h2 => by
      show pc (qs D s) = 0
      rw [qs_0 (on_w hS (by omega) h1), pc_0])
    rwa [Nat.add_sub_cancel' hWW] at this
  rw [e2, fM_worst]
  exact congrArg (fun z => zb1 z (fun r => some r)) e
theorem O_worst_ok : O_worst INV := fun m h => by
  obtain ⟨D, hS, cN, cM⟩ := pic h
  refine ⟨_, jM D m, by rw [fN_worst, g_join hS cN, zb1_s, g_most]; rfl, g_worstM hS (CM_sc (jM_sc D m) cM), INV_sc (jM_sc D m) h⟩
theorem O_told_ok : O_told INV := fun m h x => by
  obtain ⟨D, hS, cN, cM⟩ := pic h
  have hM := p25 (Mn_lt D)
  rw [fN_told, g_ground hS cN, zb1_s]
  by_cases q0 : x = 0
  · exact ⟨_, m, by rw [if_pos q0], by rw [fM_told, if_pos q0, cN.2.1.1, cM.1.1], h⟩
  rw [if_neg q0]
  by_cases q1 : x = 1
  · rw [if_pos q1, cN.2.1.2.1]
    refine ⟨if rI (dr D) = 0 then 0 else 1, m, ?_, by rw [fM_told, if_neg q0, if_pos q1, cM.1.2.1]; split <;> rfl, h⟩
    split <;> rfl
  rw [if_neg q1]
  by_cases q2 : x = 2
  · exact ⟨_, m, by rw [if_pos q2, g_men hS cN, zb1_s, n_bc hM, zb1_s], by rw [fM_told, if_neg q0, if_neg q1, if_pos q2, g_menM hS cM, zb1_s, n_ones hM, zb1_s], h⟩
  rw [if_neg q2]
  by_cases q3 : x = 3
  · exact ⟨_, m, by rw [if_pos q3], by rw [fM_told, if_neg q0, if_neg q1, if_neg q2, if_pos q3, cN.2.1.2.2.1, cM.1.2.2.1], h⟩
  rw [if_neg q3]
  by_cases q4 : x = 4
  · exact ⟨_, m, by rw [if_pos q4], by rw [fM_told, if_neg q0, if_neg q1, if_neg q2, if_neg q3, if_pos q4, cN.2.1.2.2.2, cM.1.2.2.2], h⟩
  rw [if_neg q4]
  by_cases q5 : x = 5
  · exact ⟨_, m, by rw [if_pos q5, g_men hS cN, zb1_s], by rw [fM_told, if_neg q0, if_neg q1, if_neg q2, if_neg q3, if_neg q4, if_pos q5, g_menM hS cM, zb1_s], h⟩
  rw [if_neg q5]
  by_cases q6 : x = 6
  · obtain ⟨r, e, hr⟩ := g_peace hS (CM_sc (jM_sc D m) cM)
    rw [if_pos q6, g_join hS cN, zb1_s, g_most, zb1_s]
    refine ⟨if r = 0 then 0 else 1, jM D m, ?_, by rw [fM_told, if_neg q0, if_neg q1, if_neg q2, if_neg q3, if_neg q4, if_neg q5, if_pos q6, e, zb1_s]; split <;> rfl, INV_sc (jM_sc D m) h⟩
    rcases hr with ⟨rfl, hr⟩ | ⟨rfl, hr⟩
    · rw [if_pos hr]
      rfl
    · rw [if_neg hr]
      rfl
  rw [if_neg q6]
  exact ⟨-1, m, rfl, by rw [fM_told, if_neg q0, if_neg q1, if_neg q2, if_neg q3, if_neg q4, if_neg q5, if_neg q6], h⟩
