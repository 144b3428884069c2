/-! The class's side. -/
theorem wn_or {σ ρ α : Type} (f : σ → Option (σ ⊕ ρ)) (st : Nat → α → σ) (N : Nat) (J : Nat → α → Prop) (Q : ρ → Prop) (hN : N < 1000000000) (step : ∀ i x, i ≤ N → J i x → (∃ r, f (st i x) = some (.inr r) ∧ Q r) ∨ (i < N ∧ ∃ x', f (st i x) = some (.inl (st (i + 1) x')) ∧ J (i + 1) x')) (x0 : α) (h0 : J 0 x0) : ∃ r, whileN zFU f (st 0 x0) = some r ∧ Q r := by
  have key : ∀ (j i : Nat) (x : α) (fu : Nat), i + j = N → J i x → j < fu → ∃ r, whileN fu f (st i x) = some r ∧ Q r := by
    intro j
    induction j with
    | zero =>
      intro i x fu hi hJ hf
      obtain ⟨fu', rfl⟩ : ∃ k, fu = k + 1 := ⟨fu - 1, by omega⟩
      rcases step i x (by omega) hJ with ⟨r, e, q⟩ | ⟨z, -⟩
      · exact ⟨r, by rw [whileN, e], q⟩
      · omega
    | succ j ih =>
      intro i x fu hi hJ hf
      obtain ⟨fu', rfl⟩ : ∃ k, fu = k + 1 := ⟨fu - 1, by omega⟩
      rcases step i x (by omega) hJ with ⟨r, e, q⟩ | ⟨-, x', e, q⟩
      · exact ⟨r, by rw [whileN, e], q⟩
      · obtain ⟨r, e2, q2⟩ := ih (i + 1) x' fu' (by omega) q (by omega)
        exact ⟨r, by rw [whileN, e]; exact e2, q2⟩
  exact key N 0 x0 zFU (by omega) h0 (zn_FU (by omega))
theorem llink_ok {a : Nat} {Q : Nat → Nat} {X : Nat} {m : zv_M} (hl : zln a = 25) (hQ : ∀ s, s < 25 → m.1 a s = Int32.ofNat (Q s)) (hX : X < 2 ^ 25) : ∃ r, fN_leastLinked a (Int32.ofNat X) m = some r ∧ ((r = -1 ∧ X = 0) ∨ ∃ b : Nat, b < 25 ∧ X.testBit b = true ∧ r = Int32.ofNat b) := by
  obtain ⟨r, e, hr⟩ := wn_up (fN_leastLinked_l8 a (Int32.ofNat X) m) (fun i (x : Int32 × Int32) => (x.1, x.2, Int32.ofNat i)) 25 (fun i x => (x = (-1, 26) ∧ ∀ s, s < i → X.testBit s = false) ∨ ∃ b : Nat, b < i ∧ X.testBit b = true ∧ x.1 = Int32.ofNat b) (fun r => (r = -1 ∧ X = 0) ∨ ∃ b : Nat, b < 25 ∧ X.testBit b = true ∧ r = Int32.ofNat b) (by decide) (fun i x hi hJ => by
    have hlt : ∀ y, y &&& X < 2 ^ 25 := fun y => Nat.and_lt_two_pow _ hX
    rw [fN_leastLinked_l8, hl, if_pos ((i_lt (by omega) (by decide)).mpr hi), n_isIn (by omega), decide_eq_true hi, Bool.true_and, zb1_s, if01]
    cases hb : X.testBit i
    · rw [if_neg (show ¬ false = true by decide), fN_leastLinked_j50, inc]
      refine ⟨x, rfl, ?_⟩
      rcases hJ with ⟨h1, h2⟩ | ⟨b, h1, h2, h3⟩
      · refine Or.inl ⟨h1, fun s hs => ?_⟩
        by_cases q : s = i
        · rw [q, hb]
        · exact h2 s (by omega)
      · exact Or.inr ⟨b, by omega, h2, h3⟩
    · rw [if_pos (show true = true from rfl), zI_n (by omega) hi, zg_t, zg_t, i_tn (by omega), hQ i hi, n_and, n_bc (p25 (hlt _)), zb1_s, zb1_s, fN_leastLinked_j50, fN_leastLinked_j50, inc]
      have h25 := pc_25 (hlt (Q i))
      rcases hJ with ⟨h1, h2⟩ | ⟨b, h1, h2, h3⟩
      · rw [h1, if_pos (show Int32.ofNat (pc (Q i &&& X)) < 26 from (i_lt (b := 26) (by omega) (by decide)).mpr (by omega))]
        exact ⟨(Int32.ofNat i, Int32.ofNat (pc (Q i &&& X))), rfl, Or.inr ⟨i, by omega, hb, rfl⟩⟩
      · by_cases q : Int32.ofNat (pc (Q i &&& X)) < x.2
        · rw [if_pos q]
          exact ⟨(Int32.ofNat i, Int32.ofNat (pc (Q i &&& X))), rfl, Or.inr ⟨i, by omega, hb, rfl⟩⟩
        · rw [if_neg q]
          exact ⟨x, rfl, Or.inr ⟨b, by omega, h2, h3⟩⟩) (fun x hJ => by
    rw [fN_leastLinked_l8, hl, if_neg (by decide)]
    refine ⟨x.1, rfl, ?_⟩
    rcases hJ with ⟨h1, h2⟩ | ⟨b, h1, h2, h3⟩
    · exact Or.inl ⟨by rw [h1], sx (N := 25) hX (by decide) fun i hi => by rw [h2 i hi, Nat.zero_testBit]⟩
    · exact Or.inr ⟨b, h1, h2, h3⟩) ((-1, 26) : Int32 × Int32) (Or.inl ⟨rfl, fun s hs => absurd hs (Nat.not_lt_zero s)⟩)
  refine ⟨r, ?_, hr⟩
  rw [fN_leastLinked]
  exact congrArg (fun z => zb1 z (fun r => some r)) e
theorem n_max {a b : Nat} (ha : a < 2147483648) (hb : b < 2147483648) : fJ_max (Int32.ofNat a) (Int32.ofNat b) = some (Int32.ofNat (max a b)) := by
  rw [fJ_max]
  by_cases q : a < b
  · rw [if_pos ((i_lt ha hb).mpr q), Nat.max_eq_right (by omega)]
  · rw [if_neg (fun z => q ((i_lt ha hb).mp z)), Nat.max_eq_left (by omega)]
theorem n_wo (N : Nat → Nat) {X r : Nat} (hr : r < 31) : Int32.ofNat X &&& ((Int32.ofNat (N r) ||| 1 <<< (Int32.ofNat r &&& 31)) ^^^ -1) = Int32.ofNat (wo N X r) := by
  rw [n_sh r hr, n_or, n_ad, wo_or]
theorem ma_ok {N : Nat → Nat} (hN : sy N) {m : zv_M} (h48 : ∀ s, s < 25 → m.1 48 s = Int32.ofNat (N s)) : ∀ (c X d fu v : Nat), pc X ≤ c → c + d ≤ 25 → c < fu → X < 2 ^ 25 → AA N X v → fN_mostApart fu 48 (Int32.ofNat X) (Int32.ofNat d) m = some (Int32.ofNat v) := by
  intro c
  induction c with
  | zero =>
    intro X d fu v hp hd hf hX hA
    obtain rfl := pc_z (by omega) (p25 hX)
    obtain rfl := AA_u hA (AA_0 N)
    obtain ⟨fu, rfl⟩ : ∃ j, fu = j + 1 := ⟨fu - 1, by omega⟩
    have e : whileN zFU (fN_mostApart_l8 48 m) (Int32.ofNat 0, 0, 0) = some (.inl (0, 0)) := wn_eq _ (fun i => (Int32.ofNat 0, 0, Int32.ofNat i)) 0 _ (by decide) (fun i hi => absurd hi (Nat.not_lt_zero i)) (by
      show fN_mostApart_l8 _ _ (_, _, _) = _
      rw [fN_mostApart_l8, if_pos (by decide), if_pos (by decide)]
      rfl)
    obtain ⟨r, e2, hr⟩ := mlink_ok (a := 48) (Q := N) (X := 0) rfl h48 (by decide)
    rcases hr with ⟨rfl, -⟩ | ⟨b, -, hb, -⟩
    · have e2' : fN_mostLinked 48 0 m = some (-1) := e2
      rw [fN_mostApart, fN_mostApart_b, e, zb1_s]
      show zb1 (fN_mostLinked 48 0 m) _ = _
      rw [e2', zb1_s, show fN_isIn 0 (-1) = some 0 from rfl, zb1_s, if_pos rfl]
      rfl
    · rw [Nat.zero_testBit] at hb
      cases hb
  | succ c ih =>
    intro X d fu v hp hd hf hX hA
    obtain ⟨fu, rfl⟩ : ∃ j, fu = j + 1 := ⟨fu - 1, by omega⟩
    have h25 := pc_25 hX
    obtain ⟨r, e, Y, o, rfl, hY, hpY, hup⟩ := wn_or (fN_mostApart_l8 48 m) (fun i (x : Int32 × Int32) => (x.1, x.2, Int32.ofNat i)) 25 (fun i x => ∃ Y o, x = (Int32.ofNat Y, Int32.ofNat o) ∧ Y < 2 ^ 25 ∧ pc Y + o ≤ pc X ∧ ∀ w, AA N Y w → AA N X (o + w)) (fun r => ∃ Y o, r = .inl (Int32.ofNat Y, Int32.ofNat o) ∧ Y < 2 ^ 25 ∧ pc Y + o ≤ pc X ∧ ∀ w, AA N Y w → AA N X (o + w)) (by decide) (fun i x hi hJ => by
      obtain ⟨Y, o, rfl, hY, hpY, hup⟩ := hJ
      have stop : fN_mostApart_l8 48 m (Int32.ofNat Y, Int32.ofNat o, Int32.ofNat i) = some (.inr (.inl (Int32.ofNat Y, Int32.ofNat o))) → (∃ r, fN_mostApart_l8 48 m (Int32.ofNat Y, Int32.ofNat o, Int32.ofNat i) = some (.inr r) ∧ ∃ Y o, r = .inl (Int32.ofNat Y, Int32.ofNat o) ∧ Y < 2 ^ 25 ∧ pc Y + o ≤ pc X ∧ ∀ w, AA N Y w → AA N X (o + w)) := fun e => ⟨_, e, Y, o, rfl, hY, hpY, hup⟩
      by_cases hi25 : i < 25
      · have hz : (Int32.ofNat Y = 0) = (Y = 0) := n_eq0 (p25 hY)
        by_cases q0 : Y = 0
        · refine Or.inl (stop ?_)
          rw [fN_mostApart_l8, if_pos (show Int32.ofNat i < 25 from (i_lt (b := 25) (by omega) (by decide)).mpr hi25)]
          simp only [hz]
          rw [if_pos q0]
        · obtain ⟨r, e, hr⟩ := llink_ok (a := 48) (Q := N) (X := Y) rfl h48 hY
          rcases hr with ⟨-, z⟩ | ⟨b, hb, hYb, rfl⟩
          · exact absurd z q0
          · have pre : fN_mostApart_l8 48 m (Int32.ofNat Y, Int32.ofNat o, Int32.ofNat i) = if (1 : Int32) < Int32.ofNat (pc (N b &&& Y)) then some (.inr (.inl (Int32.ofNat Y, Int32.ofNat o))) else some (.inl (Int32.ofNat (wo N Y b), Int32.ofNat (o + 1), Int32.ofNat (i + 1))) := by
              rw [fN_mostApart_l8, if_pos (show Int32.ofNat i < 25 from (i_lt (b := 25) (by omega) (by decide)).mpr hi25)]
              simp only [hz]
              rw [if_neg q0, e, zb1_s, n_isIn (by omega), decide_eq_true hb, hYb, zb1_s, if_neg (by decide), zI_n (by omega) (show b < zln 48 from hb), zg_t, i_tn (by omega), h48 b hb, n_and, n_bc (p25 (Nat.and_lt_two_pow _ hY)), zb1_s, zg_t, n_wo N (by omega), inc, inc]
              rfl
            by_cases q1 : (1 : Int32) < Int32.ofNat (pc (N b &&& Y))
            · rw [if_pos q1] at pre
              exact Or.inl (stop pre)
            · rw [if_neg q1] at pre
              have hle : pc (N b &&& Y) ≤ 1 := by
                refine Decidable.byContradiction fun z => q1 ((i_lt (a := 1) (by decide) (pc32 _)).mpr (by omega))
              have u := pc_ad hYb (by omega)
              have u2 : pc (wo N Y b) ≤ pc (ad Y (2 ^ b)) := pc_mono (wo_sub N Y b)
              refine Or.inr ⟨hi25, (Int32.ofNat (wo N Y b), Int32.ofNat (o + 1)), pre, wo N Y b, o + 1, rfl, wo_lt hY, by omega, fun w hw => ?_⟩
              have := hup _ (AA_lo hN (by omega) hYb hle hw)
              rw [show o + 1 + w = o + (w + 1) by omega]
              exact this
      · obtain rfl : i = 25 := by omega
        refine Or.inl (stop ?_)
        rw [fN_mostApart_l8, if_neg (by decide)]) (Int32.ofNat X, 0) ⟨X, 0, rfl, hX, by omega, fun w hw => by rw [Nat.zero_add]; exact hw⟩
    have e' : whileN zFU (fN_mostApart_l8 48 m) (Int32.ofNat X, 0, 0) = some (.inl (Int32.ofNat Y, Int32.ofNat o)) := e
    obtain ⟨r, e2, hr⟩ := mlink_ok (a := 48) (Q := N) (X := Y) rfl h48 hY
    rw [fN_mostApart, fN_mostApart_b, e', zb1_s]
    show zb1 (fN_mostLinked 48 (Int32.ofNat Y) m) _ = _
    rw [e2, zb1_s]
    rcases hr with ⟨rfl, rfl⟩ | ⟨b, hb, hYb, rfl, -⟩
    · have := hup 0 (AA_0 N)
      obtain rfl := AA_u hA this
      rw [show fN_isIn (Int32.ofNat 0) (-1) = some 0 from rfl, zb1_s, if_pos rfl]
    · have u := pc_ad hYb (by omega)
      have u2 : pc (wo N Y b) ≤ pc (ad Y (2 ^ b)) := pc_mono (wo_sub N Y b)
      obtain ⟨v1, a1⟩ := AA_ex hN 25 (ad Y (2 ^ b)) (ad_lt hY) (by omega)
      obtain ⟨v2, a2⟩ := AA_ex hN 25 (wo N Y b) (wo_lt hY) (by omega)
      have l1 := AA_pc a1
      have l2 := AA_pc a2
      obtain rfl := AA_u hA (hup _ (AA_br hN (by omega) hYb a1 a2))
      have i1 := ih (ad Y (2 ^ b)) (d + 1) fu v1 (by omega) (by omega) (by omega) (ad_lt hY) a1
      have i2 := ih (wo N Y b) (d + 1) fu v2 (by omega) (by omega) (by omega) (wo_lt hY) a2
      rw [n_isIn (by omega), decide_eq_true hb, hYb, zb1_s, if_neg (by decide), if_neg (show ¬ (25 : Int32) < Int32.ofNat d from fun z => by have := (i_lt (a := 25) (by decide) (by omega)).mp z; omega), zI_n (by omega) (show b < zln 48 from hb), zg_t, i_tn (by omega), h48 b hb, n_wo N (by omega), inc, i2, zb1_s, n_sh b (by omega), n_ad, i1, zb1_s, show (1 : Int32) + Int32.ofNat v2 = Int32.ofNat (1 + v2) from i_pl 1 v2, n_max (by omega) (by omega), zb1_s, i_pl, Nat.add_comm 1 v2, Nat.max_comm]
theorem VV_no {D : Dt} (hS : CS D) (p s : Nat) : (pw D p s).testBit s = false := by
  unfold pw
  by_cases q : s < dW D * dW D
  · rw [if_pos q]
    cases e : (VV D p s).testBit s
    · rfl
    · exact absurd rfl (VV_t hS q e).2.1
  · rw [if_neg q, Nat.zero_testBit]
theorem sy_jn {D : Dt} (hS : CS D) (p : Nat) {q : Nat} (hq : q < 2 ^ 25) : sy (jn (pw D p) q) := fun s t => by
  have hh : ∀ i, 25 ≤ i → q.testBit i = false := fun i hi => tb_hi hq hi
  refine ⟨?_, by rw [jn_t, jnb, VV_no hS]; simp⟩
  rw [jn_t, jn_t, jnb, jnb]
  by_cases a : s < 25
  · by_cases b : t < 25
    · rw [decide_eq_true a, decide_eq_true b]
      cases q.testBit s <;> cases q.testBit t <;> cases (pw D p s).testBit t <;> cases (pw D p t).testBit s <;> rfl
    · rw [hh t (by omega)]
      simp
  · rw [hh s (by omega)]
    simp
theorem sy_bd {D : Dt} (hS : CS D) (p : Nat) : sy (bdn D p) := fun s t => by
  have hWW := CS_WW hS
  refine ⟨?_, by rw [bdn_t, VV_no hS]; simp⟩
  rw [bdn_t, bdn_t]
  by_cases a : s < 25
  · by_cases b : t < 25
    · rw [decide_eq_true a, decide_eq_true b]
      cases (pw D p s).testBit t <;> cases (pw D p t).testBit s <;> rfl
    · rw [decide_eq_false b, pw_hi hS (show dW D * dW D ≤ t by omega), pw_0 (show dW D * dW D ≤ t by omega), Nat.zero_testBit]
      simp
  · rw [decide_eq_false a, pw_hi hS (show dW D * dW D ≤ s by omega), pw_0 (show dW D * dW D ≤ s by omega), Nat.zero_testBit]
    simp
theorem O_most_ok : O_most INV := fun m h x1 => by
  obtain ⟨D, hS, cN, cM⟩ := pic h
  rcases i_cases x1 with hx | ⟨p, hp, rfl⟩
  · exact ⟨-1, m, m, by rw [fN_most, (isPlan_neg hx).1]; rfl, by rw [fM_most, (isPlan_neg hx).2]; rfl, h⟩
  by_cases h1 : p < dn D
  · have hWW := CS_WW hS
    have hf25 : fr D < 2 ^ 25 := w25 hS (fr_lt D)
    have hs1 := sy_jn hS p hf25
    have hs2 := sy_bd hS p
    obtain ⟨v, hA⟩ := AA_ex hs1 25 (fr D) hf25 (pc_25 hf25)
    have hB : AA (bdn D p) (fr D) v := AA_c (fun s t a b => by
      have ht : t < 25 := by
        rw [fr_t] at b
        have := of_decide_eq_true (Bool.and_eq_true _ _ |>.mp b).1
        omega
      rw [jn_t, jnb, bdn_t, a, b, decide_eq_true ht]
      rfl) hA
    have sc8 : sc m (vF m 47 (fun s => Int32.ofNat (pw D p s)) 25) := sc_F (sc_r m) (fun _ => rfl)
    have hj := v_join (SV_plan hS p m) hf25
    generalize hm9 : vF (vF m 47 (fun s => Int32.ofNat (pw D p s)) 25) 48 (fun s => Int32.ofNat (jn (pw D p) (fr D) s)) 25 = m9 at hj
    have sc9 : sc m m9 := by rw [← hm9]; exact sc_F sc8 (fun _ => rfl)
    have h48 : ∀ s, s < 25 → m9.1 48 s = Int32.ofNat (jn (pw D p) (fr D) s) := fun s hs => by rw [← hm9]; exact vF_e _ _ _ hs
    have sN : fN_most (Int32.ofNat p) m = some (Int32.ofNat v, m9) := by
      have e := ma_ok hs1 h48 25 (fr D) 0 30 v (pc_25 hf25) (by decide) (by decide) hf25 hA
      have e' : fN_mostApart 30 48 (Int32.ofNat (fr D)) 0 m9 = some (Int32.ofNat v) := e
      rw [fN_most, g_plan hS cN hp, if_pos h1, zb1_s, if_neg (by decide), g_ground hS cN, zb1_s, g_free hS cN, zb1_s, g_byPlan hS cN h1, zb1_s, hj, zb1_s, e', zb1_s]
    have c9 := CM_sc sc9 cM
    have sc3 : sc m (vF m9 85 (fun s => Int32.ofNat (bdn D p s)) 25) := sc_F sc9 (fun _ => rfl)
    have h85 : ∀ s, s < 25 → (vF m9 85 (fun s => Int32.ofNat (bdn D p s)) 25).1 85 s = Int32.ofNat (bdn D p s) := fun s hs => vF_e _ _ _ hs
    have hbad := g_bad hS c9 h1
    generalize vF m9 85 (fun s => Int32.ofNat (bdn D p s)) 25 = m3 at *
    have c3 := CM_sc sc3 cM
    obtain ⟨m', j, j1, j2, j3⟩ := mr_ok hs2 25 (fr D) 0 0 0 v (wI (wI m3 88 0 (Int32.ofNat (fr D))) 89 0 (Int32.ofNat 0)) (pc_25 hf25) hf25 (by decide) (by decide) (by decide) (by rw [wI_o _ _ (by omega), wI_e]) (wI_e _ _ _ _) (fun s hs => by rw [wI_o _ _ (by omega), wI_o _ _ (by omega), h85 s hs]) hB
    have hend : fM_most_l52 (Int32.ofNat (max 0 (0 + v)), Int32.ofNat 0, m') = some (.inr (Int32.ofNat v, m')) := by
      rw [fM_most_l52, if_neg (by decide), Nat.zero_add, Nat.max_eq_right (Nat.zero_le v)]
    have hfu : j + 1 < zFU := zn_FU (by omega)
    have ew : whileN zFU fM_most_l52 (Int32.ofNat 0, Int32.ofNat (0 + 1), wI (wI m3 88 0 (Int32.ofNat (fr D))) 89 0 (Int32.ofNat 0)) = some (Int32.ofNat v, m') := by
      have : zFU = ((zFU - j - 1) + 1) + j := by omega
      rw [this, j3, whileN, hend]
    have ew' : whileN zFU fM_most_l52 (0, 1, wI (wI m3 88 0 (Int32.ofNat (fr D))) 89 0 0) = some (Int32.ofNat v, m') := ew
    have sM : fM_most (Int32.ofNat p) m9 = some (Int32.ofNat v, m') := by
      rw [fM_most, g_planM hS c9 hp, if_pos h1, zb1_s, if_neg (by decide), hbad, zb1_s, WWm c3, c3.1.2.2.2, n_sh _ (by omega), show Int32.ofNat (2 ^ (dW D * dW D)) - 1 = Int32.ofNat (al D) from i_mi (b := 1) (Nat.pow_pos (by decide)) (by have : 2 ^ (dW D * dW D) ≤ 2 ^ 25 := Nat.pow_le_pow_right (by decide) hWW; omega), n_ad]
      show zg true (zg true (zb1 (whileN zFU fM_most_l52 (0, 1, wI (wI m3 88 0 (Int32.ofNat (fr D))) 89 0 0)) _)) = _
      rw [zg_t, zg_t, ew', zb1_s]
    exact ⟨_, m9, m', sN, sM, INV_sc (sc_t (sc_w (sc_w sc3 rfl) rfl) (frS_sc j2)) h⟩
  · exact ⟨-1, m, m, by rw [fN_most, g_plan hS cN hp, if_neg h1]; rfl, by rw [fM_most, g_planM hS cM hp, if_neg h1]; rfl, h⟩
