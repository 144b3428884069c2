/-! The ten loops of the reference's hold. -/
def hA (D : Dt) : Nat := ad (al D) (dH D)
def hh2 (D : Dt) (p s : Nat) : Nat := (VV D p s ||| 2 ^ s) &&& hA D
theorem hA_lt {D : Dt} (hS : CS D) : hA D < 2 ^ 25 := ad_lt (w25 hS (al_lt D))
theorem hh2_lt {D : Dt} (hS : CS D) (p s : Nat) : hh2 D p s < 2 ^ 25 := Nat.and_lt_two_pow _ (hA_lt hS)
theorem nop_l {f : Int32 × zv_M → Option ((Int32 × zv_M) ⊕ zv_M)} {B : Nat} {m : zv_M} (hB : B ≤ 25) (step : ∀ i, i < B → f (Int32.ofNat i, m) = some (.inl (Int32.ofNat (i + 1), m))) (last : f (Int32.ofNat B, m) = some (.inr m)) : whileN zFU f (Int32.ofNat 0, m) = some m := wn_eq f (fun i => (Int32.ofNat i, m)) B m (by omega) step last
theorem or25 {a b : Nat} (ha : a < 2 ^ 25) (hb : b < 2 ^ 25) : a ||| b < 2 ^ 25 := Nat.or_lt_two_pow ha hb
theorem hold_1 {D : Dt} {p : Nat} {m0 : zv_M} (hS : CS D) (c0 : CM D m0) {m : zv_M} (hst : ST 1 none m) (hc : HC D (hh2 D p) m) : ∃ m', whileN zFU (fM_layHold_l74 m0 (Int32.ofNat (hA D))) (Int32.ofNat 0, m) = some m' ∧ ST 1 (fh (hA D) (Cs (Fb D) (hh2 D p) 1 (dW D * dW D) 0 0)) m' ∧ HC D (hh2 D p) m' ∧ sc m m' := by
  have hWW := CS_WW hS
  have h := hl_loop (D := D) (h := hh2 D p) (F := Fb D) (k := 1) (k' := 0) (B := dW D * dW D) (S := 0) (U := 0) (all := hA D) (f := fM_layHold_l74 m0 (Int32.ofNat (hA D))) hWW (fun i m o hi hst hc ho => Or.inr (by
    rw [fM_layHold_l74, WWm c0, if_pos ((i_lt (by omega) (by omega)).mpr hi), may_ok hS hc hi, zb1_s, if01]
    cases hF : Fb D i
    · rw [if_neg (show ¬ false = true by decide), if_neg (show ¬ false = true by decide), fM_layHold_j106, inc]
      exact ⟨m, rfl, by rw [show fh (hA D) [] = none from rfl, orS_n]; exact hst, hc, sc_r m⟩
    · have t2 := two_lt (show i < 25 by omega)
      obtain ⟨m', e1, e2, e3, e4⟩ := tries_ok (S := 2 ^ i) (U := hh2 D p i) (all := hA D) hc hst (by decide) (p25 t2) (p25 (hh2_lt hS p i)) (p25 (hA_lt hS)) (fun S0 h0 => by have := ho S0 h0; omega)
      have e1' : fM_tries (Int32.ofNat (2 ^ i)) (Int32.ofNat (hh2 D p i)) 1 (Int32.ofNat (hA D)) m = some m' := e1
      rw [if_pos (show true = true from rfl), if_pos (show true = true from rfl), zI_n (by omega) (by omega), zg_t, i_tn (by omega), n_sh _ (by omega), hc.2 i hi, e1', zb1_s, fM_layHold_j106, inc]
      refine ⟨m', rfl, ?_, e3, e4⟩
      rw [Cs, fh_1, Nat.zero_or, Nat.zero_add]
      exact e2)) (fun m hc => by
    rw [fM_layHold_l74, WWm c0, if_neg (fun q => by have := (i_lt (by omega) (by omega)).mp q; omega)]) m none hst hc (fun S0 h0 => by cases h0)
  exact h
theorem hold_2i {D : Dt} {p a : Nat} (hS : CS D) (ha : a < dW D * dW D) {m : zv_M} {o : Option Nat} (hst : ST 2 o m) (hc : HC D (hh2 D p) m) (ho : ∀ S0, o = some S0 → S0 ≤ 2 ^ a) : ∃ m', whileN zFU (fM_layHold_l131 (Int32.ofNat (hA D)) (Int32.ofNat a)) (Int32.ofNat 0, m) = some m' ∧ ST 2 (orS o (fh (hA D) (if Fb D a = true then Cs (Fb D) (hh2 D p) 1 a (2 ^ a) (hh2 D p a) else []))) m' ∧ HC D (hh2 D p) m' ∧ sc m m' := by
  have hWW := CS_WW hS
  have hlast : ∀ m, fM_layHold_l131 (Int32.ofNat (hA D)) (Int32.ofNat a) (Int32.ofNat a, m) = some (.inr m) := fun m => by
    rw [fM_layHold_l131, if_neg (fun q => by have := (i_lt (by omega) (by omega)).mp q; omega)]
  cases hF : Fb D a
  · refine ⟨m, nop_l (B := a) (by omega) (fun i hi => ?_) (hlast m), ?_, hc, sc_r m⟩
    · rw [fM_layHold_l131, if_pos ((i_lt (by omega) (by omega)).mpr hi), may_ok hS hc ha, hF, zb1_s, if_pos (by decide), fM_layHold_j186, inc]
    · rw [if_neg (show ¬ false = true by decide), show fh (hA D) [] = none from rfl, orS_n]
      exact hst
  · rw [if_pos (show true = true from rfl)]
    refine hl_loop (D := D) (h := hh2 D p) (F := Fb D) (k := 2) (k' := 0) (B := a) (by omega) (fun i m o hi hst hc ho => Or.inr ?_) (fun m _ => hlast m) m o hst hc ho
    rw [fM_layHold_l131, if_pos ((i_lt (by omega) (by omega)).mpr hi), may_ok hS hc ha, hF, zb1_s, if_neg (by decide), may_ok hS hc (show i < dW D * dW D by omega), zb1_s, if01]
    cases hFi : Fb D i
    · rw [if_neg (show ¬ false = true by decide), if_neg (show ¬ false = true by decide), fM_layHold_j186, inc]
      exact ⟨m, rfl, by rw [show fh (hA D) [] = none from rfl, orS_n]; exact hst, hc, sc_r m⟩
    · have t1 := two_lt (show a < 25 by omega)
      have t2 := two_lt (show i < 25 by omega)
      have t3 : 2 ^ a + 2 ^ i < 2 ^ 25 := by rw [← or3 hi]; exact or25 t1 t2
      obtain ⟨m', e1, e2, e3, e4⟩ := tries_ok (S := 2 ^ a + 2 ^ i) (U := hh2 D p a ||| hh2 D p i) (all := hA D) hc hst (by decide) (p25 t3) (p25 (or25 (hh2_lt hS p a) (hh2_lt hS p i))) (p25 (hA_lt hS)) (fun S0 h0 => by have := ho S0 h0; omega)
      have e1' : fM_tries (Int32.ofNat (2 ^ a + 2 ^ i)) (Int32.ofNat (hh2 D p a ||| hh2 D p i)) 2 (Int32.ofNat (hA D)) m = some m' := e1
      rw [if_pos (show true = true from rfl), if_pos (show true = true from rfl), zI_n (by omega) (by omega), zg_t, zI_n (by omega) (by omega), zg_t, i_tn (by omega), i_tn (show i < 2147483648 by omega), n_sh _ (by omega), n_sh i (by omega), n_or, or3 hi, hc.2 a ha, hc.2 i (by omega), n_or, e1', zb1_s, fM_layHold_j186, inc]
      refine ⟨m', rfl, ?_, e3, e4⟩
      rw [Cs, fh_1]
      exact e2
theorem hold_2 {D : Dt} {p : Nat} {m0 : zv_M} (hS : CS D) (c0 : CM D m0) {m : zv_M} (hst : ST 2 none m) (hc : HC D (hh2 D p) m) : ∃ m', whileN zFU (fM_layHold_l115 m0 (Int32.ofNat (hA D))) (Int32.ofNat 0, m) = some m' ∧ ST 2 (fh (hA D) (Cs (Fb D) (hh2 D p) 2 (dW D * dW D) 0 0)) m' ∧ HC D (hh2 D p) m' ∧ sc m m' := by
  have hWW := CS_WW hS
  have h := hl_loop (D := D) (h := hh2 D p) (F := Fb D) (k := 2) (k' := 1) (B := dW D * dW D) (S := 0) (U := 0) (all := hA D) (f := fM_layHold_l115 m0 (Int32.ofNat (hA D))) hWW (fun i m o hi hst hc ho => by
    rw [fM_layHold_l115, WWm c0, if_pos ((i_lt (by omega) (by omega)).mpr hi)]
    cases o with
    | some S0 => exact Or.inl ⟨⟨S0, rfl⟩, by rw [hst.1, if_neg (i_lt0 (by omega))]⟩
    | none =>
      obtain ⟨m', e1, e2, e3, e4⟩ := hold_2i hS hi hst hc (fun S0 h0 => by cases h0)
      have e1' : whileN zFU (fM_layHold_l131 (Int32.ofNat (hA D)) (Int32.ofNat i)) (0, m) = some m' := e1
      rw [hst.1, if_pos (by decide), e1', zb1_s, inc]
      refine Or.inr ⟨m', rfl, ?_, e3, e4⟩
      rw [Nat.zero_or, Nat.zero_add]
      exact e2) (fun m hc => by
    rw [fM_layHold_l115, WWm c0, if_neg (fun q => by have := (i_lt (by omega) (by omega)).mp q; omega)]) m none hst hc (fun S0 h0 => by cases h0)
  exact h
theorem hold_3j {D : Dt} {p a b : Nat} (hS : CS D) (ha : a < dW D * dW D) (hb : b < a) {m : zv_M} {o : Option Nat} (hst : ST 3 o m) (hc : HC D (hh2 D p) m) (ho : ∀ S0, o = some S0 → S0 ≤ 2 ^ a + 2 ^ b) : ∃ m', whileN zFU (fM_layHold_l239 (Int32.ofNat (hA D)) (Int32.ofNat a) (Int32.ofNat b)) (Int32.ofNat 0, m) = some m' ∧ ST 3 (orS o (fh (hA D) (if (Fb D a && Fb D b) = true then Cs (Fb D) (hh2 D p) 1 b (2 ^ a + 2 ^ b) (hh2 D p a ||| hh2 D p b) else []))) m' ∧ HC D (hh2 D p) m' ∧ sc m m' := by
  have hWW := CS_WW hS
  have hlast : ∀ m, fM_layHold_l239 (Int32.ofNat (hA D)) (Int32.ofNat a) (Int32.ofNat b) (Int32.ofNat b, m) = some (.inr m) := fun m => by
    rw [fM_layHold_l239, if_neg (fun q => by have := (i_lt (by omega) (by omega)).mp q; omega)]
  cases hF : (Fb D a && Fb D b)
  · refine ⟨m, nop_l (B := b) (by omega) (fun i hi => ?_) (hlast m), ?_, hc, sc_r m⟩
    · rw [fM_layHold_l239, if_pos ((i_lt (by omega) (by omega)).mpr hi), may_ok hS hc ha, zb1_s, if01, may_ok hS hc (show b < dW D * dW D by omega), zb1_s, if01, fM_layHold_j316, inc]
      revert hF
      cases Fb D a <;> cases Fb D b <;> intro hF
      · rfl
      · rfl
      · rfl
      · cases hF
    · rw [if_neg (show ¬ false = true by decide), show fh (hA D) [] = none from rfl, orS_n]
      exact hst
  · obtain ⟨hFa, hFb⟩ := Bool.and_eq_true _ _ |>.mp hF
    rw [if_pos (show true = true from rfl)]
    refine hl_loop (D := D) (h := hh2 D p) (F := Fb D) (k := 3) (k' := 0) (B := b) (by omega) (fun i m o hi hst hc ho => Or.inr ?_) (fun m _ => hlast m) m o hst hc ho
    rw [fM_layHold_l239, if_pos ((i_lt (by omega) (by omega)).mpr hi), may_ok hS hc ha, hFa, zb1_s, if_neg (by decide), may_ok hS hc (show b < dW D * dW D by omega), hFb, zb1_s, if_neg (by decide), may_ok hS hc (show i < dW D * dW D by omega), zb1_s, if01]
    cases hFi : Fb D i
    · rw [if_neg (show ¬ false = true by decide), if_neg (show ¬ false = true by decide), fM_layHold_j316, inc]
      exact ⟨m, rfl, by rw [show fh (hA D) [] = none from rfl, orS_n]; exact hst, hc, sc_r m⟩
    · have t1 := two_lt (show a < 25 by omega)
      have t2 := two_lt (show b < 25 by omega)
      have t4 := two_lt (show i < 25 by omega)
      have t3 : 2 ^ a + 2 ^ b + 2 ^ i < 2 ^ 25 := by rw [← or4 hb hi, ← or3 hb]; exact or25 (or25 t1 t2) t4
      obtain ⟨m', e1, e2, e3, e4⟩ := tries_ok (S := 2 ^ a + 2 ^ b + 2 ^ i) (U := hh2 D p a ||| hh2 D p b ||| hh2 D p i) (all := hA D) hc hst (by decide) (p25 t3) (p25 (or25 (or25 (hh2_lt hS p a) (hh2_lt hS p b)) (hh2_lt hS p i))) (p25 (hA_lt hS)) (fun S0 h0 => by have := ho S0 h0; omega)
      have e1' : fM_tries (Int32.ofNat (2 ^ a + 2 ^ b + 2 ^ i)) (Int32.ofNat (hh2 D p a ||| hh2 D p b ||| hh2 D p i)) 3 (Int32.ofNat (hA D)) m = some m' := e1
      rw [if_pos (show true = true from rfl), if_pos (show true = true from rfl), zI_n (show a < 2147483648 by omega) (show a < 25 by omega), zg_t, zI_n (show b < 2147483648 by omega) (show b < 25 by omega), zg_t, zI_n (show i < 2147483648 by omega) (show i < 25 by omega), zg_t, i_tn (show a < 2147483648 by omega), i_tn (show b < 2147483648 by omega), i_tn (show i < 2147483648 by omega), n_sh a (by omega), n_sh b (by omega), n_sh i (by omega), n_or, n_or, or3 hb, or4 hb hi, hc.2 a ha, hc.2 b (by omega), hc.2 i (by omega), n_or, n_or, e1', zb1_s, fM_layHold_j316, inc]
      refine ⟨m', rfl, ?_, e3, e4⟩
      rw [Cs, fh_1]
      exact e2
theorem hold_3i {D : Dt} {p a : Nat} (hS : CS D) (ha : a < dW D * dW D) {m : zv_M} {o : Option Nat} (hst : ST 3 o m) (hc : HC D (hh2 D p) m) (ho : ∀ S0, o = some S0 → S0 ≤ 2 ^ a) : ∃ m', whileN zFU (fM_layHold_l229 (Int32.ofNat (hA D)) (Int32.ofNat a)) (Int32.ofNat 0, m) = some m' ∧ ST 3 (orS o (fh (hA D) (if Fb D a = true then Cs (Fb D) (hh2 D p) 2 a (2 ^ a) (hh2 D p a) else []))) m' ∧ HC D (hh2 D p) m' ∧ sc m m' := by
  have hWW := CS_WW hS
  have hlast : ∀ m, fM_layHold_l229 (Int32.ofNat (hA D)) (Int32.ofNat a) (Int32.ofNat a, m) = some (.inr m) := fun m => by
    rw [fM_layHold_l229, if_neg (fun q => by have := (i_lt (by omega) (by omega)).mp q; omega)]
  have g := hl_loop (D := D) (h := hh2 D p) (F := fun b => Fb D a && Fb D b) (k := 3) (k' := 1) (B := a) (S := 2 ^ a) (U := hh2 D p a) (all := hA D) (f := fM_layHold_l229 (Int32.ofNat (hA D)) (Int32.ofNat a)) (by omega) (fun i m o hi hst hc ho => Or.inr (by
    obtain ⟨m', e1, e2, e3, e4⟩ := hold_3j hS ha hi hst hc (fun S0 h0 => by have := ho S0 h0; omega)
    have e1' : whileN zFU (fM_layHold_l239 (Int32.ofNat (hA D)) (Int32.ofNat a) (Int32.ofNat i)) (0, m) = some m' := e1
    rw [fM_layHold_l229, if_pos ((i_lt (by omega) (by omega)).mpr hi), e1', zb1_s, inc]
    refine ⟨m', rfl, ?_, e3, e4⟩
    cases hFa : Fb D a
    · rw [hFa] at e2
      exact e2
    · rw [hFa] at e2
      rw [show (fun b => true && Fb D b) = Fb D from funext fun b => Bool.true_and _]
      exact e2)) (fun m _ => hlast m) m o hst hc ho
  obtain ⟨m', e1, e2, e3, e4⟩ := g
  refine ⟨m', e1, ?_, e3, e4⟩
  cases hFa : Fb D a
  · rw [if_neg (show ¬ false = true by decide), show fh (hA D) [] = none from rfl]
    rw [hFa] at e2
    have hnil : fh (hA D) (Cs (fun b => false && Fb D b) (hh2 D p) (1 + 1) a (2 ^ a) (hh2 D p a)) = none := by
      cases e : fh (hA D) (Cs (fun b => false && Fb D b) (hh2 D p) (1 + 1) a (2 ^ a) (hh2 D p a)) with
      | none => rfl
      | some S =>
        obtain ⟨z, z1, -, -⟩ := fh_mem e
        rw [Cs] at z1
        obtain ⟨i, -, -, z2⟩ := fl_m _ _ z1
        exact absurd z2 List.not_mem_nil
    rw [hnil] at e2
    exact e2
  · rw [if_pos (show true = true from rfl)]
    rw [hFa, show (fun b => true && Fb D b) = Fb D from funext fun b => Bool.true_and _] at e2
    exact e2
theorem hold_3 {D : Dt} {p : Nat} {m0 : zv_M} (hS : CS D) (c0 : CM D m0) {m : zv_M} (hst : ST 3 none m) (hc : HC D (hh2 D p) m) : ∃ m', whileN zFU (fM_layHold_l215 m0 (Int32.ofNat (hA D)) 1) (Int32.ofNat 0, m) = some m' ∧ ST 3 (fh (hA D) (Cs (Fb D) (hh2 D p) 3 (dW D * dW D) 0 0)) m' ∧ HC D (hh2 D p) m' ∧ sc m m' := by
  have hWW := CS_WW hS
  have h := hl_loop (D := D) (h := hh2 D p) (F := Fb D) (k := 3) (k' := 2) (B := dW D * dW D) (S := 0) (U := 0) (all := hA D) (f := fM_layHold_l215 m0 (Int32.ofNat (hA D)) 1) hWW (fun i m o hi hst hc ho => Or.inr (by
    obtain ⟨m', e1, e2, e3, e4⟩ := hold_3i hS hi hst hc (fun S0 h0 => by have := ho S0 h0; omega)
    have e1' : whileN zFU (fM_layHold_l229 (Int32.ofNat (hA D)) (Int32.ofNat i)) (0, m) = some m' := e1
    rw [fM_layHold_l215, WWm c0, if_pos ((i_lt (by omega) (by omega)).mpr hi), if_neg (by decide), e1', zb1_s, inc]
    refine ⟨m', rfl, ?_, e3, e4⟩
    rw [Nat.zero_or, Nat.zero_add]
    exact e2)) (fun m hc => by
    rw [fM_layHold_l215, WWm c0, if_neg (fun q => by have := (i_lt (by omega) (by omega)).mp q; omega)]) m none hst hc (fun S0 h0 => by cases h0)
  exact h
theorem hold_4k {D : Dt} {p a b c : Nat} (hS : CS D) (ha : a < dW D * dW D) (hb : b < a) (hcb : c < b) {m : zv_M} {o : Option Nat} (hst : ST 4 o m) (hc : HC D (hh2 D p) m) (ho : ∀ S0, o = some S0 → S0 ≤ 2 ^ a + 2 ^ b + 2 ^ c) : ∃ m', whileN zFU (fM_layHold_l403 (Int32.ofNat (hA D)) (Int32.ofNat a) (Int32.ofNat b) (Int32.ofNat c)) (Int32.ofNat 0, m) = some m' ∧ ST 4 (orS o (fh (hA D) (if Fb D c = true then Cs (Fb D) (hh2 D p) 1 c (2 ^ a + 2 ^ b + 2 ^ c) (hh2 D p a ||| hh2 D p b ||| hh2 D p c) else []))) m' ∧ HC D (hh2 D p) m' ∧ sc m m' := by
  have hWW := CS_WW hS
  have hlast : ∀ m, fM_layHold_l403 (Int32.ofNat (hA D)) (Int32.ofNat a) (Int32.ofNat b) (Int32.ofNat c) (Int32.ofNat c, m) = some (.inr m) := fun m => by
    rw [fM_layHold_l403, if_neg (fun q => by have := (i_lt (by omega) (by omega)).mp q; omega)]
  cases hF : Fb D c
  · have e : whileN zFU (fM_layHold_l403 (Int32.ofNat (hA D)) (Int32.ofNat a) (Int32.ofNat b) (Int32.ofNat c)) (Int32.ofNat 0, m) = some m := wn_eq _ (fun i => (Int32.ofNat i, m)) 0 m (by decide) (fun i hi => absurd hi (Nat.not_lt_zero i)) (by
      show fM_layHold_l403 _ _ _ _ (Int32.ofNat 0, m) = _
      rcases Nat.eq_zero_or_pos c with q | q
      · have := hlast m
        rw [q] at this ⊢
        exact this
      · rw [fM_layHold_l403, if_pos ((i_lt (by omega) (by omega)).mpr q), may_ok hS hc (show c < dW D * dW D by omega), hF, zb1_s, if_pos (by decide)])
    refine ⟨m, e, ?_, hc, sc_r m⟩
    rw [if_neg (show ¬ false = true by decide), show fh (hA D) [] = none from rfl, orS_n]
    exact hst
  · rw [if_pos (show true = true from rfl)]
    refine hl_loop (D := D) (h := hh2 D p) (F := Fb D) (k := 4) (k' := 0) (B := c) (by omega) (fun i m o hi hst hc ho => Or.inr ?_) (fun m _ => hlast m) m o hst hc ho
    rw [fM_layHold_l403, if_pos ((i_lt (by omega) (by omega)).mpr hi), may_ok hS hc (show c < dW D * dW D by omega), hF, zb1_s, if_neg (by decide), may_ok hS hc (show i < dW D * dW D by omega), zb1_s, if01]
    cases hFi : Fb D i
    · rw [if_neg (show ¬ false = true by decide), if_neg (show ¬ false = true by decide), fM_layHold_j484, inc]
      exact ⟨m, rfl, by rw [show fh (hA D) [] = none from rfl, orS_n]; exact hst, hc, sc_r m⟩
    · have t1 := two_lt (show a < 25 by omega)
      have t2 := two_lt (show b < 25 by omega)
      have t5 := two_lt (show c < 25 by omega)
      have t4 := two_lt (show i < 25 by omega)
      have t3 : 2 ^ a + 2 ^ b + 2 ^ c + 2 ^ i < 2 ^ 25 := by rw [← or5 hb hcb hi, ← or4 hb hcb, ← or3 hb]; exact or25 (or25 (or25 t1 t2) t5) t4
      obtain ⟨m', e1, e2, e3, e4⟩ := tries_ok (S := 2 ^ a + 2 ^ b + 2 ^ c + 2 ^ i) (U := hh2 D p a ||| hh2 D p b ||| hh2 D p c ||| hh2 D p i) (all := hA D) hc hst (by decide) (p25 t3) (p25 (or25 (or25 (or25 (hh2_lt hS p a) (hh2_lt hS p b)) (hh2_lt hS p c)) (hh2_lt hS p i))) (p25 (hA_lt hS)) (fun S0 h0 => by have := ho S0 h0; omega)
      have e1' : fM_tries (Int32.ofNat (2 ^ a + 2 ^ b + 2 ^ c + 2 ^ i)) (Int32.ofNat (hh2 D p a ||| hh2 D p b ||| hh2 D p c ||| hh2 D p i)) 4 (Int32.ofNat (hA D)) m = some m' := e1
      rw [if_pos (show true = true from rfl), if_pos (show true = true from rfl), zI_n (show a < 2147483648 by omega) (show a < 25 by omega), zg_t, zI_n (show b < 2147483648 by omega) (show b < 25 by omega), zg_t, zI_n (show c < 2147483648 by omega) (show c < 25 by omega), zg_t, zI_n (show i < 2147483648 by omega) (show i < 25 by omega), zg_t, i_tn (show a < 2147483648 by omega), i_tn (show b < 2147483648 by omega), i_tn (show c < 2147483648 by omega), i_tn (show i < 2147483648 by omega), n_sh a (by omega), n_sh b (by omega), n_sh c (by omega), n_sh i (by omega), n_or, n_or, n_or, or3 hb, or4 hb hcb, or5 hb hcb hi, hc.2 a ha, hc.2 b (by omega), hc.2 c (by omega), hc.2 i (by omega), n_or, n_or, n_or, e1', zb1_s, fM_layHold_j484, inc]
      refine ⟨m', rfl, ?_, e3, e4⟩
      rw [Cs, fh_1]
      exact e2
theorem hold_4j {D : Dt} {p a b : Nat} (hS : CS D) (ha : a < dW D * dW D) (hb : b < a) {m : zv_M} {o : Option Nat} (hst : ST 4 o m) (hc : HC D (hh2 D p) m) (ho : ∀ S0, o = some S0 → S0 ≤ 2 ^ a + 2 ^ b) : ∃ m', whileN zFU (fM_layHold_l384 (Int32.ofNat (hA D)) (Int32.ofNat a) (Int32.ofNat b)) (Int32.ofNat 0, m) = some m' ∧ ST 4 (orS o (fh (hA D) (if Fb D b = true then Cs (Fb D) (hh2 D p) 2 b (2 ^ a + 2 ^ b) (hh2 D p a ||| hh2 D p b) else []))) m' ∧ HC D (hh2 D p) m' ∧ sc m m' := by
  have hWW := CS_WW hS
  have hlast : ∀ m, fM_layHold_l384 (Int32.ofNat (hA D)) (Int32.ofNat a) (Int32.ofNat b) (Int32.ofNat b, m) = some (.inr m) := fun m => by
    rw [fM_layHold_l384, if_neg (fun q => by have := (i_lt (by omega) (by omega)).mp q; omega)]
  cases hF : Fb D b
  · have e : whileN zFU (fM_layHold_l384 (Int32.ofNat (hA D)) (Int32.ofNat a) (Int32.ofNat b)) (Int32.ofNat 0, m) = some m := wn_eq _ (fun i => (Int32.ofNat i, m)) 0 m (by decide) (fun i hi => absurd hi (Nat.not_lt_zero i)) (by
      show fM_layHold_l384 _ _ _ (Int32.ofNat 0, m) = _
      rcases Nat.eq_zero_or_pos b with q | q
      · have := hlast m
        rw [q] at this ⊢
        exact this
      · rw [fM_layHold_l384, if_pos ((i_lt (by omega) (by omega)).mpr q), may_ok hS hc (show b < dW D * dW D by omega), hF, zb1_s, if_pos (by decide)])
    refine ⟨m, e, ?_, hc, sc_r m⟩
    rw [if_neg (show ¬ false = true by decide), show fh (hA D) [] = none from rfl, orS_n]
    exact hst
  · rw [if_pos (show true = true from rfl)]
    refine hl_loop (D := D) (h := hh2 D p) (F := Fb D) (k := 4) (k' := 1) (B := b) (by omega) (fun i m o hi hst hc ho => Or.inr ?_) (fun m _ => hlast m) m o hst hc ho
    obtain ⟨m', e1, e2, e3, e4⟩ := hold_4k hS ha hb hi hst hc (fun S0 h0 => by have := ho S0 h0; omega)
    have e1' : whileN zFU (fM_layHold_l403 (Int32.ofNat (hA D)) (Int32.ofNat a) (Int32.ofNat b) (Int32.ofNat i)) (0, m) = some m' := e1
    rw [fM_layHold_l384, if_pos ((i_lt (by omega) (by omega)).mpr hi), may_ok hS hc (show b < dW D * dW D by omega), hF, zb1_s, if_neg (by decide), e1', zb1_s, inc]
    exact ⟨m', rfl, e2, e3, e4⟩
theorem hold_4i {D : Dt} {p a : Nat} (hS : CS D) (ha : a < dW D * dW D) {m : zv_M} {o : Option Nat} (hst : ST 4 o m) (hc : HC D (hh2 D p) m) (ho : ∀ S0, o = some S0 → S0 ≤ 2 ^ a) : ∃ m', whileN zFU (fM_layHold_l365 (Int32.ofNat (hA D)) (Int32.ofNat a)) (Int32.ofNat 0, m) = some m' ∧ ST 4 (orS o (fh (hA D) (if Fb D a = true then Cs (Fb D) (hh2 D p) 3 a (2 ^ a) (hh2 D p a) else []))) m' ∧ HC D (hh2 D p) m' ∧ sc m m' := by
  have hWW := CS_WW hS
  have hlast : ∀ m, fM_layHold_l365 (Int32.ofNat (hA D)) (Int32.ofNat a) (Int32.ofNat a, m) = some (.inr m) := fun m => by
    rw [fM_layHold_l365, if_neg (fun q => by have := (i_lt (by omega) (by omega)).mp q; omega)]
  cases hF : Fb D a
  · have e : whileN zFU (fM_layHold_l365 (Int32.ofNat (hA D)) (Int32.ofNat a)) (Int32.ofNat 0, m) = some m := wn_eq _ (fun i => (Int32.ofNat i, m)) 0 m (by decide) (fun i hi => absurd hi (Nat.not_lt_zero i)) (by
      show fM_layHold_l365 _ _ (Int32.ofNat 0, m) = _
      rcases Nat.eq_zero_or_pos a with q | q
      · have := hlast m
        rw [q] at this ⊢
        exact this
      · rw [fM_layHold_l365, if_pos ((i_lt (by omega) (by omega)).mpr q), may_ok hS hc ha, hF, zb1_s, if_pos (by decide)])
    refine ⟨m, e, ?_, hc, sc_r m⟩
    rw [if_neg (show ¬ false = true by decide), show fh (hA D) [] = none from rfl, orS_n]
    exact hst
  · rw [if_pos (show true = true from rfl)]
    refine hl_loop (D := D) (h := hh2 D p) (F := Fb D) (k := 4) (k' := 2) (B := a) (by omega) (fun i m o hi hst hc ho => Or.inr ?_) (fun m _ => hlast m) m o hst hc ho
    obtain ⟨m', e1, e2, e3, e4⟩ := hold_4j hS ha hi hst hc (fun S0 h0 => by have := ho S0 h0; omega)
    have e1' : whileN zFU (fM_layHold_l384 (Int32.ofNat (hA D)) (Int32.ofNat a) (Int32.ofNat i)) (0, m) = some m' := e1
    rw [fM_layHold_l365, if_pos ((i_lt (by omega) (by omega)).mpr hi), may_ok hS hc ha, hF, zb1_s, if_neg (by decide), e1', zb1_s, inc]
    exact ⟨m', rfl, e2, e3, e4⟩
theorem hold_4 {D : Dt} {p : Nat} {m0 : zv_M} (hS : CS D) (c0 : CM D m0) {m : zv_M} (hst : ST 4 none m) (hc : HC D (hh2 D p) m) : ∃ m', whileN zFU (fM_layHold_l351 m0 (Int32.ofNat (hA D)) 1) (Int32.ofNat 0, m) = some m' ∧ ST 4 (fh (hA D) (Cs (Fb D) (hh2 D p) 4 (dW D * dW D) 0 0)) m' ∧ HC D (hh2 D p) m' ∧ sc m m' := by
  have hWW := CS_WW hS
  have h := hl_loop (D := D) (h := hh2 D p) (F := Fb D) (k := 4) (k' := 3) (B := dW D * dW D) (S := 0) (U := 0) (all := hA D) (f := fM_layHold_l351 m0 (Int32.ofNat (hA D)) 1) hWW (fun i m o hi hst hc ho => Or.inr (by
    obtain ⟨m', e1, e2, e3, e4⟩ := hold_4i hS hi hst hc (fun S0 h0 => by have := ho S0 h0; omega)
    have e1' : whileN zFU (fM_layHold_l365 (Int32.ofNat (hA D)) (Int32.ofNat i)) (0, m) = some m' := e1
    rw [fM_layHold_l351, WWm c0, if_pos ((i_lt (by omega) (by omega)).mpr hi), if_neg (by decide), e1', zb1_s, inc]
    refine ⟨m', rfl, ?_, e3, e4⟩
    rw [Nat.zero_or, Nat.zero_add]
    exact e2)) (fun m hc => by
    rw [fM_layHold_l351, WWm c0, if_neg (fun q => by have := (i_lt (by omega) (by omega)).mp q; omega)]) m none hst hc (fun S0 h0 => by cases h0)
  exact h
