theorem oB_f {n p i : Nat} (hn : n < 6) (hp : p < fac n) (hi : i < n) : ∃ f k r, stO n p i = (f, k, r) ∧ stO n p (i + 1) = (f / (n - i), ad k (2 ^ pk n p i), r - r / (f / (n - i)) * (f / (n - i))) ∧ zN (Int32.ofNat n - Int32.ofNat i) = true ∧ zN (Int32.ofNat f / (Int32.ofNat n - Int32.ofNat i)) = true ∧ Int32.ofNat f / (Int32.ofNat n - Int32.ofNat i) = Int32.ofNat (f / (n - i)) ∧ Int32.ofNat r / Int32.ofNat (f / (n - i)) = Int32.ofNat (r / (f / (n - i))) ∧ whileN zFU (fM_layOrder_l70 (Int32.ofNat k)) (Int32.ofNat (r / (f / (n - i))), 0) = some (Int32.ofNat (pk n p i)) ∧ pk n p i < n ∧ k.testBit (pk n p i) = true ∧ Int32.ofNat r - Int32.ofNat (r / (f / (n - i))) * Int32.ofNat (f / (n - i)) = Int32.ofNat (r - r / (f / (n - i)) * (f / (n - i))) := by
  have h := oB_ok n hn p (by have := (fac_ok n hn).2; omega) i (by omega)
  rw [decide_eq_true hp, decide_eq_true hi] at h
  have h : oB n p i = true := h
  rcases hst : stO n p i with ⟨f, k, r⟩
  have e1 : pk n p i = kth k.testBit (r / (f / (n - i))) 5 := by rw [pk, hst]
  have e2 : stO n p (i + 1) = (f / (n - i), ad k (2 ^ kth k.testBit (r / (f / (n - i))) 5), r - r / (f / (n - i)) * (f / (n - i))) := by rw [stO, hst]
  rw [oB, hst] at h
  rw [← e1] at e2
  obtain ⟨h, a8⟩ := Bool.and_eq_true _ _ |>.mp h
  obtain ⟨h, a7⟩ := Bool.and_eq_true _ _ |>.mp h
  obtain ⟨h, a6⟩ := Bool.and_eq_true _ _ |>.mp h
  obtain ⟨h, a5⟩ := Bool.and_eq_true _ _ |>.mp h
  obtain ⟨h, a4⟩ := Bool.and_eq_true _ _ |>.mp h
  obtain ⟨h, a3⟩ := Bool.and_eq_true _ _ |>.mp h
  obtain ⟨a1, a2⟩ := Bool.and_eq_true _ _ |>.mp h
  refine ⟨f, k, r, rfl, e2, a1, a2, of_decide_eq_true a3, of_decide_eq_true a4, ?_, ?_, ?_, of_decide_eq_true a8⟩
  · rw [e1]
    exact of_decide_eq_true a5
  · rw [e1]
    exact of_decide_eq_true a6
  · rw [e1]
    exact a7
theorem oZ {n p : Nat} (hn : n < 6) (hp : p < fac n) : (stO n p n).2.1 = 0 := by
  have h := oZ_ok n hn p (by have := (fac_ok n hn).2; omega)
  rw [decide_eq_true hp] at h
  exact of_decide_eq_true h
theorem order_ok {n p : Nat} (hn : n < 6) (hp : p < 1000) (m : zv_M) : fM_layOrder (Int32.ofNat n) (Int32.ofNat p) m = if p < fac n then some (1, vF m 98 (fun i => Int32.ofNat (pk n p i)) n) else some (0, m) := by
  obtain ⟨e1, e2⟩ := fac_ok n hn
  have hl : (Int32.ofNat p < Int32.ofNat (fac n)) = (p < fac n) := propext (i_lt (by omega) (by omega))
  rw [fM_layOrder, e1, zb1_s]
  simp only [hl]
  by_cases q : p < fac n
  · rw [if_pos q, if_pos q]
    have e := wn_eq (fM_layOrder_l42 (Int32.ofNat n)) (fun i => (Int32.ofNat (stO n p i).1, Int32.ofNat (stO n p i).2.1, Int32.ofNat (stO n p i).2.2, Int32.ofNat i, vF m 98 (fun i => Int32.ofNat (pk n p i)) i)) n (1, vF m 98 (fun i => Int32.ofNat (pk n p i)) n) (by omega) (fun i hi => by
      obtain ⟨f, k, r, s1, s2, a1, a2, a3, a4, a5, a6, a7, a8⟩ := oB_f hn q hi
      rw [s1, s2]
      show fM_layOrder_l42 _ (_, _, _, _, _) = _
      rw [fM_layOrder_l42, if_pos ((i_lt (by omega) (by omega)).mpr hi), a1, zg_t, a2, zg_t, zg_t, a3, a4, a5, zb1_s, zI_n (by omega) (by omega), zg_t, a8, n_sh _ (by omega), n_ad, i_tn (by omega), inc, vF_s (g := fun i => Int32.ofNat (pk n p i))]) (by
      show fM_layOrder_l42 _ (_, _, _, _, _) = _
      rw [fM_layOrder_l42, if_neg (fun z => by have := (i_lt (by omega) (by omega)).mp z; omega)])
    have h0 : (1 <<< (Int32.ofNat n &&& 31)) - 1 = Int32.ofNat (2 ^ n - 1) := by
      rw [n_sh n (by omega)]
      exact i_mi (b := 1) (Nat.pow_pos (by decide)) (by have : 2 ^ n ≤ 2 ^ 5 := Nat.pow_le_pow_right (by decide) (by omega); omega)
    rw [vF_0] at e
    have e' : whileN zFU (fM_layOrder_l42 (Int32.ofNat n)) (Int32.ofNat (fac n), Int32.ofNat (2 ^ n - 1), Int32.ofNat p, 0, m) = some (1, vF m 98 (fun i => Int32.ofNat (pk n p i)) n) := e
    rw [h0, e', zb1_s]
  · rw [if_neg q, if_neg q]
theorem as_pk {C : Nat → Nat → Nat → Prop} {n p : Nat} (hn : n < 6) (hp : p < fac n) {g : Nat → Nat} (hg : ∀ i, i < n → C i (pk n p i) (g i)) : ∀ j, j ≤ n → As C n j (ad (2 ^ n - 1) (stO n p j).2.1) (smf g j) := by
  intro j
  induction j with
  | zero =>
    intro _
    refine ⟨?_, rfl⟩
    show ad (2 ^ n - 1) (2 ^ n - 1) = 0
    apply Nat.eq_of_testBit_eq
    intro i
    rw [ad_t, Nat.zero_testBit]
    simp
  | succ j ih =>
    intro hj
    obtain ⟨f, k, r, s1, s2, -, -, -, -, -, a6, a7, -⟩ := oB_f hn hp (show j < n by omega)
    have ih' := ih (by omega)
    rw [s1] at ih'
    rw [s2]
    have hf : (2 ^ n - 1).testBit (pk n p j) = true := by
      rw [Nat.testBit_two_pow_sub_one]
      exact decide_eq_true a6
    refine ⟨pk n p j, g j, smf g j, a6, ?_, hg j (by omega), ?_, rfl⟩
    · show (ad (2 ^ n - 1) (ad k (2 ^ pk n p j))).testBit _ = true
      rw [ad_t, ad_no, hf]
      rfl
    · have e : ad (ad (2 ^ n - 1) (ad k (2 ^ pk n p j))) (2 ^ pk n p j) = ad (2 ^ n - 1) k := by
        apply Nat.eq_of_testBit_eq
        intro i
        rw [ad_one, ad_t, ad_one, ad_t]
        by_cases q : pk n p j = i
        · rw [← q, a7, hf, decide_eq_true rfl]
          rfl
        · rw [decide_eq_false q]
          simp
      show As C n j (ad (ad (2 ^ n - 1) (ad k (2 ^ pk n p j))) (2 ^ pk n p j)) (smf g j)
      rw [e]
      exact ih'
theorem smf_c {f g : Nat → Nat} : ∀ n, (∀ i, i < n → f i = g i) → smf f n = smf g n
  | 0, _ => rfl
  | n + 1, h => by rw [smf, smf, smf_c n (fun i hi => h i (by omega)), h n (by omega)]
theorem ch_c {o o' : Nat → Nat} : ∀ (j S : Nat), (∀ i, i < j → o i = o' i) → ch o j S = ch o' j S
  | 0, _, _ => rfl
  | j + 1, S, h => by rw [ch, ch, h j (by omega), ch_c j _ (fun i hi => h i (by omega))]
theorem As_o {C : Nat → Nat → Nat → Prop} {n : Nat} : ∀ (j S v : Nat), As C n j S v → ∃ o g : Nat → Nat, (∀ i, i < j → o i < n ∧ C i (o i) (g i)) ∧ ch o j S = true ∧ v = smf g j
  | 0, S, v, h => ⟨fun _ => 0, fun _ => 0, (fun i hi => absurd hi (Nat.not_lt_zero i)), rfl, h.2⟩
  | j + 1, S, v, ⟨i, c, w, h1, h2, h3, h4, h5⟩ => by
    obtain ⟨o, g, k1, k2, k3⟩ := As_o j _ w h4
    refine ⟨upv o j i, upv g j c, fun a ha => ?_, ?_, ?_⟩
    · by_cases q : a = j
      · rw [upv, upv, if_pos q, if_pos q, q]
        exact ⟨h1, h3⟩
      · rw [upv, upv, if_neg q, if_neg q]
        exact k1 a (by omega)
    · rw [ch, show upv o j i j = i by rw [upv, if_pos rfl], h2, ch_c j _ (o' := o) (fun a ha => by rw [upv, if_neg (by omega)]), k2]
      rfl
    · rw [smf, show upv g j c j = c by rw [upv, if_pos rfl], smf_c (g := g) j (fun a ha => by rw [upv, if_neg (by omega)]), ← k3, h5]
theorem zro_t {o : Nat → Nat} {n : Nat} : ∀ k, (∀ j, j < k → j < n ∨ o j = 0) → zro o n k = true
  | 0, _ => rfl
  | k + 1, h => by
    rw [zro, zro_t k (fun j hj => h j (by omega)), Bool.and_true]
    rcases h k (by omega) with q | q
    · rw [decide_eq_true q]
      rfl
    · rw [decide_eq_true q, Bool.or_true]
theorem pkB_t {o : Nat → Nat} {n p : Nat} : ∀ k, pkB o n p k = true → ∀ j, j < k → pk n p j = o j
  | 0, _, j, hj => absurd hj (Nat.not_lt_zero j)
  | k + 1, h, j, hj => by
    rw [pkB] at h
    obtain ⟨a, b⟩ := Bool.and_eq_true _ _ |>.mp h
    by_cases q : j = k
    · rw [q]
      exact of_decide_eq_true a
    · exact pkB_t k b j (by omega)
theorem pk_as {C : Nat → Nat → Nat → Prop} {n v : Nat} (hn : n < 6) (h : As C n n (2 ^ n - 1) v) : ∃ p g, p < fac n ∧ (∀ i, i < n → C i (pk n p i) (g i)) ∧ v = smf g n := by
  obtain ⟨o, g, k1, k2, k3⟩ := As_o n _ v h
  have z : ∀ i, (if i < n then o i else 0) < 5 := fun i => by
    split
    · rename_i q
      have := (k1 i q).1
      omega
    · decide
  have hog : ∀ j, j < 5 → og (if 0 < n then o 0 else 0) (if 1 < n then o 1 else 0) (if 2 < n then o 2 else 0) (if 3 < n then o 3 else 0) (if 4 < n then o 4 else 0) j = if j < n then o j else 0 := fun j hj => by
    rcases (show j = 0 ∨ j = 1 ∨ j = 2 ∨ j = 3 ∨ j = 4 by omega) with rfl | rfl | rfl | rfl | rfl <;> rfl
  have f := fB_ok n hn _ (z 0) _ (z 1) _ (z 2) _ (z 3) _ (z 4)
  unfold fB at f
  generalize og (if 0 < n then o 0 else 0) (if 1 < n then o 1 else 0) (if 2 < n then o 2 else 0) (if 3 < n then o 3 else 0) (if 4 < n then o 4 else 0) = o2 at hog f
  have hz : zro o2 n 5 = true := zro_t 5 fun j hj => by
    rw [hog j hj]
    by_cases q : j < n
    · exact Or.inl q
    · exact Or.inr (by rw [if_neg q])
  have heq : ∀ i, i < n → o2 i = o i := fun i hi => by rw [hog i (by omega), if_pos hi]
  rw [hz, ch_c n _ heq, k2] at f
  obtain ⟨f1, f2⟩ := Bool.and_eq_true _ _ |>.mp (show (decide _ && _) = true from f)
  have f3 := pkB_t n f2
  exact ⟨_, g, of_decide_eq_true f1, (fun i hi => by rw [f3 i hi, heq i hi]; exact (k1 i hi).2), k3⟩
