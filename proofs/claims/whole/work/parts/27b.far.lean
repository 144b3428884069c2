/-! How far a square can lie: at most 19 steps. -/
theorem aj_c {W a b : Nat} : aj W a b = aj W b a := by
  unfold aj
  cases decide (b + 1 = a) <;> cases decide (a + 1 = b) <;> cases decide (a + W = b) <;> cases decide (b + W = a) <;> cases decide (¬ a % W = 0) <;> cases decide (¬ b % W = 0) <;> rfl
def af (D : Dt) (s k t : Nat) : Prop := (Ls D s k).testBit t = true ∧ ∀ j, j < k → (Ls D s j).testBit t = false
theorem af_u {D : Dt} {s k j t : Nat} (h : af D s k t) (g : af D s j t) : k = j := by
  rcases Nat.lt_trichotomy k j with q | q | q
  · have := g.2 k q
    rw [h.1] at this
    cases this
  · exact q
  · have := h.2 j q
    rw [g.1] at this
    cases this
theorem af_of {D : Dt} {s k t : Nat} (h : (Ls D s k).testBit t = true) : ∃ j, j ≤ k ∧ af D s j t := by
  obtain ⟨j, h1, h2, h3⟩ := fst1 (p := fun j => (Ls D s j).testBit t = true) (fun n => Decidable.em _) (n := k + 1) ⟨k, by omega, h⟩
  exact ⟨j, by omega, h2, fun i hi => by
    cases e : (Ls D s i).testBit t
    · rfl
    · exact absurd e (h3 i hi)⟩
theorem Ls_t {D : Dt} (hS : CS D) {s : Nat} (hs : s < dW D * dW D) (k t : Nat) : (Ls D s (k + 1)).testBit t = true ↔ (Ls D s k).testBit t = true ∨ ((fr D).testBit t = true ∧ ∃ j, (Ls D s k).testBit j = true ∧ aj (dW D) j t = true) := spr_t hS (Ls_lt hS hs k) t
theorem af_s {D : Dt} (hS : CS D) {s : Nat} (hs : s < dW D * dW D) {k t : Nat} (h : af D s (k + 1) t) : (fr D).testBit t = true ∧ ∃ j, af D s k j ∧ aj (dW D) j t = true := by
  rcases (Ls_t hS hs k t).mp h.1 with q | ⟨q, j, j1, j2⟩
  · have := h.2 k (by omega)
    rw [q] at this
    cases this
  · refine ⟨q, j, ⟨j1, fun i hi => ?_⟩, j2⟩
    cases e : (Ls D s i).testBit j
    · rfl
    · have := (Ls_t hS hs i t).mpr (Or.inr ⟨q, j, e, j2⟩)
      have g := h.2 (i + 1) (by omega)
      rw [this] at g
      cases g
theorem af_lt {D : Dt} (hS : CS D) {s : Nat} (hs : s < dW D * dW D) {k t : Nat} (h : af D s k t) : t < dW D * dW D := by
  rcases Nat.lt_or_ge t (dW D * dW D) with q | q
  · exact q
  · have := h.1
    rw [tb_hi (Ls_lt hS hs k) q] at this
    cases this
theorem af_all {D : Dt} (hS : CS D) {s : Nat} (hs : s < dW D * dW D) : ∀ {k t : Nat}, af D s k t → ∀ i, i ≤ k → ∃ u, af D s i u
  | 0, t, h, i, hi => by
    obtain rfl : i = 0 := by omega
    exact ⟨t, h⟩
  | k + 1, t, h, i, hi => by
    by_cases q : i = k + 1
    · exact ⟨t, q ▸ h⟩
    · obtain ⟨-, j, hj, -⟩ := af_s hS hs h
      exact af_all hS hs hj i (by omega)
theorem af_n {D : Dt} (hS : CS D) {s : Nat} (hs : s < dW D * dW D) {a b x y : Nat} (hx : af D s a x) (hy : af D s b y) (hj : aj (dW D) x y = true) : b ≤ a + 1 := by
  rcases Nat.eq_zero_or_pos b with q | q
  · omega
  · obtain ⟨b', rfl⟩ : ∃ b', b = b' + 1 := ⟨b - 1, by omega⟩
    have := (Ls_t hS hs a y).mpr (Or.inr ⟨(af_s hS hs hy).1, x, hx.1, hj⟩)
    refine Decidable.byContradiction fun z => ?_
    have g := hy.2 (a + 1) (by omega)
    rw [this] at g
    cases g
theorem ct_img {u : Nat → Nat} : ∀ (L : Nat), (∀ k, k < L → u k < 25) → (∀ k j, k < L → j < L → u k = u j → k = j) → L ≤ fb_ct (fun t => anyb (fun k => decide (u k = t)) L) 25
  | 0, _, _ => Nat.zero_le _
  | L + 1, h1, h2 => by
    have ih := ct_img L (fun k hk => h1 k (by omega)) (fun k j hk hj => h2 k j (by omega) (by omega))
    have e : fb_ct (fun t => anyb (fun k => decide (u k = t)) (L + 1)) 25 = fb_ct (fun t => anyb (fun k => decide (u k = t)) L) 25 + fb_ct (fun t => decide (u L = t)) 25 := by
      rw [← fb_ct_or]
      · rfl
      · rintro t - ⟨a, b⟩
        obtain ⟨k, k1, k2⟩ := anyb_t.mp a
        have := h2 k L (by omega) (by omega) ((of_decide_eq_true k2).trans (of_decide_eq_true b).symm)
        omega
    have p : 0 < fb_ct (fun t => decide (u L = t)) 25 := fb_ct_pos.mpr ⟨u L, h1 L (by omega), decide_eq_true rfl⟩
    rw [e]
    omega
def gi (b : Bool) : Nat := if b = true then 1 else 0
theorem gi_1 (b : Bool) : gi b ≤ 1 := by cases b <;> decide
theorem ct_25 (f : Nat → Bool) : fb_ct f 25 = 0 + gi (f 0) + gi (f 1) + gi (f 2) + gi (f 3) + gi (f 4) + gi (f 5) + gi (f 6) + gi (f 7) + gi (f 8) + gi (f 9) + gi (f 10) + gi (f 11) + gi (f 12) + gi (f 13) + gi (f 14) + gi (f 15) + gi (f 16) + gi (f 17) + gi (f 18) + gi (f 19) + gi (f 20) + gi (f 21) + gi (f 22) + gi (f 23) + gi (f 24) := rfl
theorem far19 {D : Dt} (hS : CS D) {s : Nat} (hs : s < dW D * dW D) {k t : Nat} (h : af D s k t) : k ≤ 19 := by
  refine Decidable.byContradiction fun hk => ?_
  have hall : ∀ i, ∃ u, i ≤ 20 → af D s i u := fun i => by
    by_cases q : i ≤ 20
    · obtain ⟨u, hu⟩ := af_all hS hs h i (by omega)
      exact ⟨u, fun _ => hu⟩
    · exact ⟨0, fun z => absurd z q⟩
  have hu := fun i => Classical.choose_spec (hall i)
  generalize (fun i => Classical.choose (hall i)) = u at hu
  have hu' : ∀ i, i ≤ 20 → af D s i (Classical.choose (hall i)) := fun i => Classical.choose_spec (hall i)
  have hWW := CS_WW hS
  have cnt := ct_img (u := fun i => Classical.choose (hall i)) 21 (fun i hi => by have := af_lt hS hs (hu' i (by omega)); omega) (fun i j hi hj e => by
    have a := hu' i (by omega)
    have b := hu' j (by omega)
    have e : Classical.choose (hall i) = Classical.choose (hall j) := e
    rw [e] at a
    exact af_u a b)
  have frm : ∀ x, anyb (fun k => decide (Classical.choose (hall k) = x)) 21 = true → ∃ k, k ≤ 20 ∧ Classical.choose (hall k) = x ∧ af D s k x := fun x hx => by
    obtain ⟨k, k1, k2⟩ := anyb_t.mp hx
    have k2 := of_decide_eq_true k2
    exact ⟨k, by omega, k2, by have := hu' k (by omega); rw [k2] at this; exact this⟩
  generalize hf : (fun t => anyb (fun k => decide (Classical.choose (hall k) = t)) 21) = f at cnt
  have frm2 : ∀ x, f x = true → ∃ k, k ≤ 20 ∧ Classical.choose (hall k) = x ∧ af D s k x := fun x hx => frm x (by rw [← hf] at hx; exact hx)
  by_cases w5 : dW D = 5
  · have nb : ∀ {a b x y}, af D s a x → af D s b y → aj 5 x y = true → b ≤ a + 1 ∧ a ≤ b + 1 := fun {a b x y} hx hy hj => ⟨af_n hS hs hx hy (by rw [w5]; exact hj), af_n hS hs hy hx (by rw [w5, aj_c]; exact hj)⟩
    have df : ∀ {a b x y}, Classical.choose (hall a) = x → Classical.choose (hall b) = y → ¬ x = y → ¬ a = b := fun {a b x y} h1 h2 h3 e => h3 (by rw [← h1, ← h2, e])
    have blk : ∀ a b c d, aj 5 a b = true → aj 5 a c = true → aj 5 b d = true → aj 5 c d = true → ¬ a = d → ¬ b = c → ¬ a = b → ¬ a = c → ¬ b = d → ¬ c = d → gi (f a) + gi (f b) + gi (f c) + gi (f d) ≤ 3 := fun a b c d j1 j2 j3 j4 n1 n2 n3 n4 n5 n6 => by
      refine Decidable.byContradiction fun z => ?_
      have g1 := gi_1 (f a)
      have g2 := gi_1 (f b)
      have g3 := gi_1 (f c)
      have g4 := gi_1 (f d)
      have tr : ∀ x, gi (f x) = 1 → f x = true := fun x hx => by
        cases e : f x
        · rw [e] at hx
          cases hx
        · rfl
      obtain ⟨ka, -, a1, a2⟩ := frm2 a (tr a (by omega))
      obtain ⟨kb, -, b1, b2⟩ := frm2 b (tr b (by omega))
      obtain ⟨kc, -, c1, c2⟩ := frm2 c (tr c (by omega))
      obtain ⟨kd, -, d1, d2⟩ := frm2 d (tr d (by omega))
      have := nb a2 b2 j1
      have := nb a2 c2 j2
      have := nb b2 d2 j3
      have := nb c2 d2 j4
      have := df a1 d1 n1
      have := df b1 c1 n2
      have := df a1 b1 n3
      have := df a1 c1 n4
      have := df b1 d1 n5
      have := df c1 d1 n6
      omega
    have crs : gi (f 12) + gi (f 7) + gi (f 17) + gi (f 11) + gi (f 13) ≤ 4 := by
      refine Decidable.byContradiction fun z => ?_
      have g1 := gi_1 (f 12)
      have g2 := gi_1 (f 7)
      have g3 := gi_1 (f 17)
      have g4 := gi_1 (f 11)
      have g5 := gi_1 (f 13)
      have tr : ∀ x, gi (f x) = 1 → f x = true := fun x hx => by
        cases e : f x
        · rw [e] at hx
          cases hx
        · rfl
      obtain ⟨ka, -, a1, a2⟩ := frm2 12 (tr 12 (by omega))
      obtain ⟨kb, -, b1, b2⟩ := frm2 7 (tr 7 (by omega))
      obtain ⟨kc, -, c1, c2⟩ := frm2 17 (tr 17 (by omega))
      obtain ⟨kd, -, d1, d2⟩ := frm2 11 (tr 11 (by omega))
      obtain ⟨ke, -, e1, e2⟩ := frm2 13 (tr 13 (by omega))
      have := nb a2 b2 (by decide)
      have := nb a2 c2 (by decide)
      have := nb a2 d2 (by decide)
      have := nb a2 e2 (by decide)
      have := df a1 b1 (by decide)
      have := df a1 c1 (by decide)
      have := df a1 d1 (by decide)
      have := df a1 e1 (by decide)
      have := df b1 c1 (by decide)
      have := df b1 d1 (by decide)
      have := df b1 e1 (by decide)
      have := df c1 d1 (by decide)
      have := df c1 e1 (by decide)
      have := df d1 e1 (by decide)
      omega
    have q1 := blk 0 1 5 6 (by decide) (by decide) (by decide) (by decide) (by decide) (by decide) (by decide) (by decide) (by decide) (by decide)
    have q2 := blk 3 4 8 9 (by decide) (by decide) (by decide) (by decide) (by decide) (by decide) (by decide) (by decide) (by decide) (by decide)
    have q3 := blk 15 16 20 21 (by decide) (by decide) (by decide) (by decide) (by decide) (by decide) (by decide) (by decide) (by decide) (by decide)
    have q4 := blk 18 19 23 24 (by decide) (by decide) (by decide) (by decide) (by decide) (by decide) (by decide) (by decide) (by decide) (by decide)
    have r1 := gi_1 (f 2)
    have r2 := gi_1 (f 10)
    have r3 := gi_1 (f 14)
    have r4 := gi_1 (f 22)
    rw [ct_25] at cnt
    omega
  · have h16 : dW D * dW D ≤ 4 * 4 := Nat.mul_le_mul (by have := hS.2.2.1; omega) (by have := hS.2.2.1; omega)
    have z : fb_ct f 25 ≤ 16 := by
      have e := fb_ct_split f 16 9
      have z : fb_ct (fun k => f (16 + k)) 9 = 0 := fb_ct_zero.mpr fun k _ => by
        cases e : f (16 + k)
        · rfl
        · obtain ⟨j, -, -, hj⟩ := frm2 _ e
          have := af_lt hS hs hj
          omega
      rw [z] at e
      have := fb_ct_le f 16
      show fb_ct f (16 + 9) ≤ 16
      omega
    omega
theorem dC_af {D : Dt} {s t : Nat} : ∀ n, n ≤ 25 → (∃ k, k < n ∧ af D s k t ∧ dC D s n t = k) ∨ (dC D s n t = 1000000 ∧ ∀ k, k < n → (Ls D s k).testBit t = false)
  | 0, _ => Or.inr ⟨rfl, (fun k hk => absurd hk (Nat.not_lt_zero k))⟩
  | n + 1, h => by
    rcases dC_af (D := D) (s := s) (t := t) n (by omega) with ⟨k, k1, k2, k3⟩ | ⟨k1, k2⟩
    · refine Or.inl ⟨k, by omega, k2, ?_⟩
      rw [dC, if_neg (fun q => by have := q.1; omega), k3]
    · cases e : (Ls D s n).testBit t
      · refine Or.inr ⟨by rw [dC, e, if_neg (fun q => by cases q.2), k1], fun k hk => ?_⟩
        by_cases q : k = n
        · rw [q, e]
        · exact k2 k (by omega)
      · exact Or.inl ⟨n, by omega, ⟨e, k2⟩, by rw [dC, e, if_pos ⟨k1, rfl⟩]⟩
theorem dC_25 {D : Dt} (hS : CS D) {s : Nat} (hs : s < dW D * dW D) (t : Nat) : (∃ k, k ≤ 19 ∧ af D s k t ∧ dC D s 25 t = k) ∨ (dC D s 25 t = 1000000 ∧ ∀ k, (Ls D s k).testBit t = false) := by
  rcases dC_af (D := D) (s := s) (t := t) 25 (by decide) with ⟨k, k1, k2, k3⟩ | ⟨k1, k2⟩
  · exact Or.inl ⟨k, far19 hS hs k2, k2, k3⟩
  · refine Or.inr ⟨k1, fun k => ?_⟩
    cases e : (Ls D s k).testBit t
    · rfl
    · obtain ⟨j, -, hj⟩ := af_of e
      have := far19 hS hs hj
      have g := k2 j (by omega)
      rw [hj.1] at g
      cases g
