/-- the first j men come to be on just the set S, by v steps together -/
def As (C : Nat → Nat → Nat → Prop) (n : Nat) : Nat → Nat → Nat → Prop
  | 0, S, v => S = 0 ∧ v = 0
  | j + 1, S, v => ∃ i c w, i < n ∧ S.testBit i = true ∧ C j i c ∧ As C n j (ad S (2 ^ i)) w ∧ v = w + c
theorem As_le {C : Nat → Nat → Nat → Prop} {n : Nat} (hC : ∀ j i c, C j i c → c ≤ 19) : ∀ (j S v : Nat), As C n j S v → v ≤ 19 * j
  | 0, S, v, h => by
    rw [h.2]
    exact Nat.zero_le _
  | j + 1, S, v, ⟨i, c, w, _, _, h3, h4, h5⟩ => by
    have := As_le hC j _ w h4
    have := hC j i c h3
    omega
def IT (C : Nat → Nat → Nat → Prop) (n j : Nat) (T : Nat → Nat) : Prop := ∀ S, S < 32 → T S ≤ FAR ∧ (pc S = j → (∀ v, As C n j S v → T S ≤ v) ∧ (T S < FAR → As C n j S (T S))) ∧ (j < pc S → T S = FAR)
theorem IT_0 (C : Nat → Nat → Nat → Prop) (n : Nat) : IT C n 0 (upv (fun _ => FAR) 0 0) := fun S hS => by
  have hF : FAR = 1000000 := rfl
  by_cases q : S = 0
  · subst q
    rw [upv, if_pos rfl]
    exact ⟨Nat.zero_le _, fun _ => ⟨fun v _ => Nat.zero_le v, fun _ => ⟨rfl, rfl⟩⟩, fun z => by rw [pc_0] at z; omega⟩
  · rw [upv, if_neg q]
    exact ⟨Nat.le_refl _, fun z => absurd (pc_z z (by omega)) q, fun _ => rfl⟩
theorem IT_s {C : Nat → Nat → Nat → Prop} {n j : Nat} {e T0 T : Nat → Nat} (hC : ∀ j i c, C j i c → c ≤ 19) (hn : n ≤ 5) (hj : j < 100) (he : ∀ i, i < n → ∀ c, C j i c ↔ (c = e i ∧ e i < FAR)) (h0 : IT C n j T0) (h : BJ n e T0 j 32 0 T) : IT C n (j + 1) T := fun S hS => by
  have hF : FAR = 1000000 := rfl
  obtain ⟨h1, h2, h3, h4⟩ := h S hS
  have sm : ∀ i, ad S (2 ^ i) < 32 := fun i => ad_lt hS
  refine ⟨h1, fun hp => ⟨fun v hv => ?_, fun hl => ?_⟩, h4⟩
  · obtain ⟨i, c, w, i1, i2, i3, i4, rfl⟩ := hv
    have up := pc_ad i2 (by omega)
    have a1 := ((h0 _ (sm i)).2.1 (by omega)).1 w i4
    have a2 := As_le hC j _ w i4
    obtain ⟨rfl, hfar⟩ := (he i i1 c).mp i3
    have := (h3 hp).1 i i1 i2 (Or.inl (sm i)) (by omega)
    omega
  · obtain ⟨a, a1, a2, a3, a4⟩ := (h3 hp).2 hl
    have up := pc_ad a2 (by omega)
    have k := ((h0 _ (sm a)).2.1 (by omega)).2 a3
    exact ⟨a, e a, T0 (ad S (2 ^ a)), a1, a2, (he a a1 _).mpr ⟨rfl, by omega⟩, k, a4⟩
def RR (C : Nat → Nat → Nat → Prop) (n : Nat) (r : Int32) : Prop := (∃ v, As C n n (2 ^ n - 1) v ∧ (∀ w, As C n n (2 ^ n - 1) w → v ≤ w) ∧ r = Int32.ofNat v) ∨ ((∀ w, ¬ As C n n (2 ^ n - 1) w) ∧ r = -5)
/-- man j steps c to aim i -/
def CC (D : Dt) (q : Nat → Nat) (j i c : Nat) : Prop := c ≤ 19 ∧ af D (sp (Mn D) j) c (q i)
theorem pc_full : ∀ n, n < 6 → pc (2 ^ n - 1) = n ∧ 2 ^ n - 1 < 32 := by decide +kernel
theorem fewest_ok {D : Dt} (hS : CS D) {m : zv_M} (cN : CN D m) {n : Nat} {q : Nat → Nat} (hq : AQ n q m) (hc : c25t (Mn D) = n) : ∃ r M, fWa_fewestSteps (dg D) (Int32.ofNat (Mn D)) 9 m = some (r, M) ∧ sc m M ∧ RR (CC D q) n r := by
  have hF : FAR = 1000000 := rfl
  have hWW := CS_WW hS
  have hn := hq.1
  have hC : ∀ j i c, CC D q j i c → c ≤ 19 := fun j i c h => h.1
  obtain ⟨M, e, hM, T, hT, hI⟩ := wn_up (fWa_fewestSteps_l22 (dg D) (Int32.ofNat (Mn D)) 9) (fun i (M : zv_M) => (Int32.ofNat (fb_ct (Mn D).testBit i), Int32.ofNat i, M)) 25 (fun i M => sc m M ∧ ∃ T, (∀ S, S < 32 → M.1 60 S = Int32.ofNat (T S)) ∧ IT (CC D q) n (fb_ct (Mn D).testBit i) T) (fun M => sc m M ∧ ∃ T, (∀ S, S < 32 → M.1 60 S = Int32.ofNat (T S)) ∧ IT (CC D q) n n T) (by decide) (fun i M hi hJ => by
    obtain ⟨hM, T, hT, hI⟩ := hJ
    rw [fWa_fewestSteps_l22, if_pos (c25 hi), n_isIn (by omega), decide_eq_true hi, Bool.true_and, zb1_s, if01, fb_ct_succ]
    cases hb : (Mn D).testBit i
    · rw [if_neg (show ¬ false = true by decide), fWa_fewestSteps_j55, inc]
      exact ⟨M, rfl, hM, T, hT, hI⟩
    · have hs := Mn_WW hS hb
      have hj : fb_ct (Mn D).testBit i < 100 := Nat.lt_of_le_of_lt (fb_ct_le _ _) (by omega)
      have hsp : sp (Mn D) (fb_ct (Mn D).testBit i) = i := kth_at hi hb
      have cNM := CN_sc hS hM cN
      have sc1 : sc m (vF M 59 (fun t => Int32.ofNat (dC D i 25 t)) 25) := sc_F hM (fun _ => rfl)
      have eM : mT (vF M 59 (fun t => Int32.ofNat (dC D i 25 t)) 25) T = vF M 59 (fun t => Int32.ofNat (dC D i 25 t)) 25 := vF_i (fun k hk => (vF_o _ _ (by omega)).trans (hT k hk))
      obtain ⟨T', eb, hB⟩ := bring_ok (e := fun a => dC D i 25 (q a)) (AQ_sc sc1 hq) (fun a ha => ⟨vF_e _ _ _ (hq.2.2 a ha).2, dC_le D i 25 _ (by decide)⟩) (T0 := T) hj (fun S hS' => ⟨(hI S hS').1, (hI S hS').2.2⟩)
      rw [eM] at eb
      rw [if_pos (show true = true from rfl), g_measure hS cNM hs, zb1_s, eb, zb1_s, fWa_fewestSteps_j55, inc, inc]
      refine ⟨mT (vF M 59 (fun t => Int32.ofNat (dC D i 25 t)) 25) T', rfl, mT_sc sc1 T', T', fun S hS' => mT_e _ _ hS', ?_⟩
      refine IT_s hC hn hj (fun a ha c => ?_) hI hB
      unfold CC
      rw [hsp]
      rcases dC_25 hS hs (q a) with ⟨k, k1, k2, k3⟩ | ⟨k1, k2⟩
      · constructor
        · rintro ⟨-, z⟩
          have := af_u z k2
          exact ⟨by omega, by omega⟩
        · rintro ⟨z, -⟩
          rw [z, k3]
          exact ⟨k1, k2⟩
      · constructor
        · rintro ⟨-, z⟩
          have := k2 c
          rw [z.1] at this
          cases this
        · rintro ⟨-, z⟩
          omega) (fun M hJ => by
    obtain ⟨hM, T, hT, hI⟩ := hJ
    rw [fWa_fewestSteps_l22, if_neg (by decide)]
    have hI2 : IT (CC D q) n (c25t (Mn D)) T := hI
    rw [hc] at hI2
    exact ⟨M, rfl, hM, T, hT, hI2⟩) (mT m (upv (fun _ => FAR) 0 0)) ⟨mT_sc (sc_r m) _, _, fun S hS' => mT_e _ _ hS', IT_0 _ _⟩
  have e' : whileN zFU (fWa_fewestSteps_l22 (dg D) (Int32.ofNat (Mn D)) 9) (0, 0, wI (vF m 60 (fun _ => (1000000 : Int32)) 32) 60 0 0) = some M := by
    have : wI (vF m 60 (fun _ => (1000000 : Int32)) 32) 60 0 0 = mT m (upv (fun _ => FAR) 0 0) := mT_u m (fun _ => FAR) (a := 0) (by decide) 0
    rw [this]
    exact e
  obtain ⟨hp, h32⟩ := pc_full n (by omega)
  have hone : (1 <<< (Int32.ofNat n &&& 31)) - 1 = Int32.ofNat (2 ^ n - 1) := by
    rw [n_sh n (by omega)]
    exact i_mi (b := 1) (Nat.pow_pos (by decide)) (by have : 2 ^ n ≤ 2 ^ 5 := Nat.pow_le_pow_right (by decide) hn; omega)
  have h91 : M.1 9 1 = Int32.ofNat n := (AQ_sc hM hq).2.1
  obtain ⟨t1, t2, -⟩ := hI _ h32
  obtain ⟨u1, u2⟩ := t2 hp
  have hl : (Int32.ofNat (T (2 ^ n - 1)) < 1000000) = (T (2 ^ n - 1) < FAR) := propext (i_lt (b := 1000000) (by omega) (by decide))
  have pre : fWa_fewestSteps (dg D) (Int32.ofNat (Mn D)) 9 m = if T (2 ^ n - 1) < FAR then some (Int32.ofNat (T (2 ^ n - 1)), M) else some (-5, M) := by
    rw [fWa_fewestSteps, g_fill (N := 32) rfl (by decide), zb1_s, show zI 0 32 = true from rfl, zg_t, show (0 : Int32).toNatClampNeg = 0 from rfl, e', zb1_s, h91, hone, if_neg (i_lt0 (by omega)), if_pos (show Int32.ofNat (2 ^ n - 1) < 32 from (i_lt (b := 32) (by omega) (by decide)).mpr h32), zI_n (by omega) h32, zg_t, zg_t, i_tn (by omega), hT _ h32]
    simp only [hl]
  by_cases q1 : T (2 ^ n - 1) < FAR
  · rw [if_pos q1] at pre
    exact ⟨_, M, pre, hM, Or.inl ⟨_, u2 q1, u1, rfl⟩⟩
  · rw [if_neg q1] at pre
    refine ⟨_, M, pre, hM, Or.inr ⟨fun w hw => ?_, rfl⟩⟩
    have := u1 w hw
    have := As_le hC _ _ _ hw
    omega
