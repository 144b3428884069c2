/-! The reference's search with a pile of its own. -/
def frS (k : Nat) (m m' : zv_M) : Prop := m'.2 = m.2 ∧ ∀ a i, ¬ ((a = 88 ∨ a = 89) ∧ k ≤ i) → m'.1 a i = m.1 a i
theorem frS_r (k : Nat) (m : zv_M) : frS k m m := ⟨rfl, fun _ _ _ => rfl⟩
theorem frS_t {k : Nat} {m m1 m2 : zv_M} (h : frS k m m1) (h2 : frS k m1 m2) : frS k m m2 := ⟨h2.1.trans h.1, fun a i q => (h2.2 a i q).trans (h.2 a i q)⟩
theorem frS_w {k : Nat} {m m' : zv_M} {a i : Nat} {v : Int32} (h : frS k m m') (ha : a = 88 ∨ a = 89) (hi : k ≤ i) : frS k m (wI m' a i v) := ⟨h.1, fun b j q => by
  rw [wI_o _ _ (show ¬ (b = a ∧ j = i) from fun z => q (by rw [z.1, z.2]; exact ⟨ha, hi⟩))]
  exact h.2 b j q⟩
theorem frS_u {k j : Nat} {m m' : zv_M} (h : frS k m m') (hj : j ≤ k) : frS j m m' := ⟨h.1, fun a i q => h.2 a i fun z => q ⟨z.1, by omega⟩⟩
theorem frS_sc {m m' : zv_M} (h : frS 0 m m') : sc m m' := ⟨h.1, fun o k q => h.2 o k fun z => by
  rcases z.1 with rfl | rfl
  · cases q
  · cases q⟩
theorem z60 {k : Nat} (h : k < 60) : zI (Int32.ofNat k) 60 = true := zI_n (by omega) h
theorem mr_ok {N : Nat → Nat} (hN : sy N) : ∀ (c X o k many v : Nat) (m : zv_M), pc X ≤ c → X < 2 ^ 25 → k + c < 60 → o + c ≤ 25 → many ≤ 25 → m.1 88 k = Int32.ofNat X → m.1 89 k = Int32.ofNat o → (∀ s, s < 25 → m.1 85 s = Int32.ofNat (N s)) → AA N X v → ∃ m' j, j < 2 ^ (c + 1) ∧ frS k m m' ∧ ∀ fu, whileN (fu + j) fM_most_l52 (Int32.ofNat many, Int32.ofNat (k + 1), m) = whileN fu fM_most_l52 (Int32.ofNat (max many (o + v)), Int32.ofNat k, m') := by
  intro c
  induction c with
  | zero =>
    intro X o k many v m hp hX hk ho hm h88 h89 h85 hA
    obtain rfl := pc_z (by omega) (p25 hX)
    obtain rfl := AA_u hA (AA_0 N)
    refine ⟨m, 1, by decide, frS_r k m, fun fu => ?_⟩
    have e1 : Int32.ofNat (k + 1) - 1 = Int32.ofNat k := i_mi (b := 1) (by omega) (by omega)
    have e2 : ((0 : Int32) < Int32.ofNat (k + 1)) := (i_lt (a := 0) (by decide) (by omega)).mpr (by omega)
    have step : fM_most_l52 (Int32.ofNat many, Int32.ofNat (k + 1), m) = some (.inl (Int32.ofNat (max many o), Int32.ofNat k, m)) := by
      have fin : fM_most_j87 (Int32.ofNat (k + 1)) m (Int32.ofNat (max many o)) = some (.inl (Int32.ofNat (max many o), Int32.ofNat k, m)) := by
        have := Nat.le_max_right many o
        have : max many o ≤ 25 := Nat.max_le.mpr ⟨hm, by omega⟩
        rw [fM_most_j87, e1, i_tn (by omega), h88, h89, n_ones (by decide), zb1_s, pc_0, i_pl, Nat.add_zero, if_neg (fun q => by have := (i_lt (by omega) (by omega)).mp q; omega)]
      rw [fM_most_l52, if_pos e2, e1, z60 (by omega), zg_t, zg_t, i_tn (by omega), h89]
      by_cases q : many < o
      · rw [if_pos ((i_lt (by omega) (by omega)).mpr q)]
        rw [Nat.max_eq_right (by omega)] at fin ⊢
        exact fin
      · rw [if_neg (fun z => q ((i_lt (by omega) (by omega)).mp z))]
        rw [Nat.max_eq_left (by omega)] at fin ⊢
        exact fin
    rw [whileN, step]
    rfl
  | succ c ih =>
    intro X o k many v m hp hX hk ho hm h88 h89 h85 hA
    have e1 : Int32.ofNat (k + 1) - 1 = Int32.ofNat k := i_mi (b := 1) (by omega) (by omega)
    have e2 : ((0 : Int32) < Int32.ofNat (k + 1)) := (i_lt (a := 0) (by decide) (by omega)).mpr (by omega)
    have hmo : max many o ≤ 25 := Nat.max_le.mpr ⟨hm, by omega⟩
    have hle := AA_pc hA
    have first : fM_most_l52 (Int32.ofNat many, Int32.ofNat (k + 1), m) = fM_most_j87 (Int32.ofNat (k + 1)) m (Int32.ofNat (max many o)) := by
      rw [fM_most_l52, if_pos e2, e1, z60 (by omega), zg_t, zg_t, i_tn (by omega), h89]
      by_cases q : many < o
      · rw [if_pos ((i_lt (by omega) (by omega)).mpr q), Nat.max_eq_right (by omega)]
      · rw [if_neg (fun z => q ((i_lt (by omega) (by omega)).mp z)), Nat.max_eq_left (by omega)]
    have pos : 0 < 2 ^ (c + 1) := Nat.pow_pos (by decide)
    have dbl : 2 ^ (c + 1 + 1) = 2 ^ (c + 1) + 2 ^ (c + 1) := by rw [Nat.pow_succ]; omega
    by_cases hb : max many o < o + pc X
    · have hpos : 0 < pc X := by
        have := Nat.le_max_right many o
        omega
      obtain ⟨r, r1, r2, r3⟩ := pc_bit hX hpos
      have u := pc_ad r2 (by omega)
      have u2 : pc (wo N X r) ≤ pc (ad X (2 ^ r)) := pc_mono (wo_sub N X r)
      have lX : ad X (2 ^ r) < 2 ^ 25 := ad_lt hX
      have lW : wo N X r < 2 ^ 25 := wo_lt hX
      obtain ⟨v1, a1⟩ := AA_ex hN 25 (ad X (2 ^ r)) lX (by omega)
      obtain ⟨v2, a2⟩ := AA_ex hN 25 (wo N X r) lW (by omega)
      have hz : (Int32.ofNat (N r &&& ad X (2 ^ r)) = 0) = (N r &&& ad X (2 ^ r) = 0) := n_eq0 (p25 (Nat.and_lt_two_pow _ lX))
      have body : fM_most_j87 (Int32.ofNat (k + 1)) m (Int32.ofNat (max many o)) = if N r &&& ad X (2 ^ r) = 0 then some (.inl (Int32.ofNat (max many o), Int32.ofNat (k + 1), wI (wI m 88 k (Int32.ofNat (wo N X r))) 89 k (Int32.ofNat (o + 1)))) else some (.inl (Int32.ofNat (max many o), Int32.ofNat (k + 1 + 1), wI (wI (wI (wI m 88 k (Int32.ofNat (ad X (2 ^ r)))) 89 k (Int32.ofNat o)) 88 (k + 1) (Int32.ofNat (wo N X r))) 89 (k + 1) (Int32.ofNat (o + 1)))) := by
        rw [fM_most_j87, e1, i_tn (show k < 2147483648 by omega), h88, h89, n_ones (p25 hX), zb1_s, i_pl, if_pos ((i_lt (by omega) (by omega)).mpr hb), n_lowest r2 r3 (by omega), zb1_s, zI_n (by omega) r1, zg_t, i_tn (show r < 2147483648 by omega), h85 r r1, n_sh r (by omega), n_ad, n_and, z60 (show k < 60 by omega), zg_t, zg_t]
        simp only [hz]
        by_cases q : N r &&& ad X (2 ^ r) = 0
        · rw [if_pos q, if_pos q, fM_most_j155, e1, i_tn (show k < 2147483648 by omega), i_tn (show r < 2147483648 by omega), h88, h89, h85 r r1, zI_n (by omega) r1, zg_t, z60 (show k < 60 by omega), zg_t, zg_t, n_sh r (by omega), n_ad, n_ad, inc, inc]
          rfl
        · have h85' : (wI (wI m 88 k (Int32.ofNat (ad X (2 ^ r)))) 89 k (Int32.ofNat o)).1 85 r = Int32.ofNat (N r) := by
            rw [wI_o _ _ (by omega), wI_o _ _ (by omega), h85 r r1]
          rw [if_neg q, if_neg q, fM_most_j155, e1, inc, i_tn (show k < 2147483648 by omega), i_tn (show k + 1 < 2147483648 by omega), i_tn (show r < 2147483648 by omega), h85', h88, h89, zI_n (by omega) r1, zg_t, z60 (show k + 1 < 60 by omega), zg_t, zg_t, n_sh r (by omega), n_ad, n_ad, inc, inc]
          rfl
      by_cases q : N r &&& ad X (2 ^ r) = 0
      · rw [if_pos q] at body
        have hlo : AA N X (v2 + 1) := AA_lo hN (by omega) r2 (by
          have : N r &&& X = 0 := by
            apply Nat.eq_of_testBit_eq
            intro i
            have := congrArg (fun z => z.testBit i) q
            simp only [Nat.testBit_and, ad_one, Nat.zero_testBit] at this
            rw [Nat.testBit_and, Nat.zero_testBit]
            by_cases q2 : r = i
            · rw [← q2, (hN r r).2]
              rfl
            · rw [decide_eq_false q2] at this
              simpa using this
          rw [this, pc_0]
          omega) a2
        obtain rfl := AA_u hA hlo
        obtain ⟨m', j, j1, j2, j3⟩ := ih (wo N X r) (o + 1) k (max many o) v2 (wI (wI m 88 k (Int32.ofNat (wo N X r))) 89 k (Int32.ofNat (o + 1))) (by omega) lW (by omega) (by omega) hmo (by rw [wI_o _ _ (by omega), wI_e]) (wI_e _ _ _ _) (fun s hs => by rw [wI_o _ _ (by omega), wI_o _ _ (by omega), h85 s hs]) a2
        refine ⟨m', j + 1, by omega, frS_t (frS_w (frS_w (frS_r k m) (Or.inl rfl) (Nat.le_refl k)) (Or.inr rfl) (Nat.le_refl k)) j2, fun fu => ?_⟩
        rw [show fu + (j + 1) = (fu + j) + 1 by omega, whileN, first, body]
        show whileN (fu + j) fM_most_l52 _ = _
        rw [j3 fu, show max (max many o) (o + 1 + v2) = max many (o + (v2 + 1)) by omega]
      · rw [if_neg q] at body
        obtain rfl := AA_u hA (AA_br hN (by omega) r2 a1 a2)
        have l1 := AA_pc a1
        have l2 := AA_pc a2
        obtain ⟨m1, j, j1, j2, j3⟩ := ih (wo N X r) (o + 1) (k + 1) (max many o) v2 (wI (wI (wI (wI m 88 k (Int32.ofNat (ad X (2 ^ r)))) 89 k (Int32.ofNat o)) 88 (k + 1) (Int32.ofNat (wo N X r))) 89 (k + 1) (Int32.ofNat (o + 1))) (by omega) lW (by omega) (by omega) hmo (by rw [wI_o _ _ (by omega), wI_e]) (wI_e _ _ _ _) (fun s hs => by rw [wI_o _ _ (by omega), wI_o _ _ (by omega), wI_o _ _ (by omega), wI_o _ _ (by omega), h85 s hs]) a2
        obtain ⟨m2, i, i1, i2, i3⟩ := ih (ad X (2 ^ r)) o k (max (max many o) (o + 1 + v2)) v1 m1 (by omega) lX (by omega) (by omega) (by omega) (by rw [j2.2 88 k (by omega), wI_o _ _ (by omega), wI_o _ _ (by omega), wI_o _ _ (by omega), wI_e]) (by rw [j2.2 89 k (by omega), wI_o _ _ (by omega), wI_o _ _ (by omega), wI_e]) (fun s hs => by rw [j2.2 85 s (by omega), wI_o _ _ (by omega), wI_o _ _ (by omega), wI_o _ _ (by omega), wI_o _ _ (by omega), h85 s hs]) a1
        refine ⟨m2, i + j + 1, by omega, frS_t (frS_t (frS_w (frS_w (frS_w (frS_w (frS_r k m) (Or.inl rfl) (Nat.le_refl k)) (Or.inr rfl) (Nat.le_refl k)) (Or.inl rfl) (by omega)) (Or.inr rfl) (by omega)) (frS_u j2 (by omega))) i2, fun fu => ?_⟩
        rw [show fu + (i + j + 1) = ((fu + i) + j) + 1 by omega, whileN, first, body]
        show whileN ((fu + i) + j) fM_most_l52 _ = _
        rw [j3 (fu + i), i3 fu, show max (max (max many o) (o + 1 + v2)) (o + v1) = max many (o + max v1 (v2 + 1)) by omega]
    · refine ⟨m, 1, by omega, frS_r k m, fun fu => ?_⟩
      have body : fM_most_j87 (Int32.ofNat (k + 1)) m (Int32.ofNat (max many o)) = some (.inl (Int32.ofNat (max many o), Int32.ofNat k, m)) := by
        rw [fM_most_j87, e1, i_tn (show k < 2147483648 by omega), h88, h89, n_ones (p25 hX), zb1_s, i_pl, if_neg (fun z => hb ((i_lt (by omega) (by omega)).mp z))]
      rw [whileN, first, body]
      show whileN fu fM_most_l52 _ = _
      rw [show max many o = max many (o + v) by omega]
