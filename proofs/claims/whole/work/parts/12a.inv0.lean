def z0L : List (Nat × Nat × Int32) := [(2, 1, 0), (4, 1, 0), (6, 1, 0), (68, 0, 0), (1, 8, -1), (68, 10, -1), (42, 0, 4), (9, 1, 0), (68, 42, 0), (11, 1, 0), (68, 47, 0), (13, 1, 0), (15, 1, 0), (68, 50, 0), (0, 2, 0), (68, 52, 0), (0, 6, 0), (68, 9, 0), (68, 1, 4), (68, 4, 0), (68, 2, 0), (68, 3, 0), (42, 1, 0), (42, 2, 0), (42, 3, 0), (33, 1, 0), (68, 11, 0), (61, 1, 0), (68, 66, 0), (62, 1, 0)]
theorem z0_a : ∀ q ∈ z0L, zm_0.1 q.1 q.2.1 = q.2.2 := by decide +kernel
theorem z0_men : ∀ s, s < 25 → zm_0.1 8 s = -1 ∧ zm_0.1 72 s = -1 := by decide +kernel
theorem z0_tp : ∀ t, t < 6 → zm_0.1 65 t = -1 ∧ zm_0.1 111 t = -1 ∧ zm_0.1 66 t = 0 ∧ zm_0.1 112 t = 0 := by decide +kernel
theorem z0_it : ∀ k, k < 360 → zm_0.2 67 k = 0 ∧ zm_0.2 113 k = 0 := by decide +kernel
theorem z0_ko : iKo zm_0 := by
  unfold iKo
  decide +kernel
theorem z0g (m : zv_M) (h : ∀ q ∈ z0L, m.1 q.1 q.2.1 = q.2.2) (o k : Nat) (v : Int32) (hq : (o, k, v) ∈ z0L) : m.1 o k = v := h (o, k, v) hq
theorem z0 (o k : Nat) (v : Int32) (h : (o, k, v) ∈ z0L) : zm_0.1 o k = v := z0g zm_0 z0_a o k v h
theorem inv_0 : INV zm_0 := by
  have hs : zm_0.1 68 10 = -1 := z0 _ _ _ (by decide +kernel)
  have hp : ∀ (o a sl ma cap B : Nat), zm_0.1 o 1 = 0 → zm_0.1 68 sl = 0 → gPi zm_0 o a sl ma cap B := fun o a sl ma cap B h1 h2 => ⟨0, Nat.zero_le _, h1, h2, fun i hi => absurd hi (Nat.not_lt_zero i)⟩
  have hg : ∀ k, gW zm_0 (zm_0.1 68 10) k = zm_0.1 42 k := fun k => by
    unfold gW
    rw [hs, if_pos (by decide)]
  refine ⟨0, ⟨0, 4, ⟨Nat.zero_le _, z0 _ _ _ (by decide +kernel), z0 _ _ _ (by decide +kernel), z0 _ _ _ (by decide +kernel), z0 _ _ _ (by decide +kernel), fun i hi => absurd hi (Nat.not_lt_zero i)⟩, ?_, Or.inl hs, ?_, fun s hs => ?_, ?_, ?_, ?_, ?_⟩, Or.inl ⟨z0 _ _ _ (by decide +kernel), z0 _ _ _ (by decide +kernel)⟩, ⟨by decide, z0 _ _ _ (by decide +kernel), z0 _ _ _ (by decide +kernel), fun f hf => absurd hf (Nat.not_lt_zero f), ?_, ?_, ?_, ?_⟩, ⟨z0 _ _ _ (by decide +kernel), z0 _ _ _ (by decide +kernel), z0 _ _ _ (by decide +kernel), z0 _ _ _ (by decide +kernel)⟩, hp _ _ _ _ _ _ (z0 _ _ _ (by decide +kernel)) (z0 _ _ _ (by decide +kernel)), ⟨0, by decide, z0 _ _ _ (by decide +kernel), z0 _ _ _ (by decide +kernel), z0 _ _ _ (by decide +kernel), fun k _ hk => absurd hk (Nat.not_lt_zero k)⟩, fun t ht => ?_, z0_ko, fun f hf => absurd hf (Nat.not_lt_zero f)⟩
  · rw [hs]; exact z0 _ _ _ (by decide +kernel)
  · refine ⟨by decide, by decide, ?_⟩
    rw [hg]; exact z0 _ _ _ (by decide +kernel)
  · obtain ⟨h1, h2⟩ := z0_men s hs
    exact ⟨h1.trans h2.symm, Or.inl h2⟩
  · exact hp _ _ _ _ _ _ (z0 _ _ _ (by decide +kernel)) (z0 _ _ _ (by decide +kernel))
  · exact hp _ _ _ _ _ _ (z0 _ _ _ (by decide +kernel)) (z0 _ _ _ (by decide +kernel))
  · exact hp _ _ _ _ _ _ (z0 _ _ _ (by decide +kernel)) (z0 _ _ _ (by decide +kernel))
  · exact hp _ _ _ _ _ _ (z0 _ _ _ (by decide +kernel)) (z0 _ _ _ (by decide +kernel))
  · rw [hg, z0 68 1 4 (by decide +kernel), z0 42 0 4 (by decide +kernel)]
  · rw [hg, z0 68 4 0 (by decide +kernel), z0 42 1 0 (by decide +kernel)]
  · rw [hg, z0 68 2 0 (by decide +kernel), z0 42 2 0 (by decide +kernel)]
  · rw [hg, z0 68 3 0 (by decide +kernel), z0 42 3 0 (by decide +kernel)]
  · obtain ⟨h1, h2, h3, h4⟩ := z0_tp t ht
    refine ⟨h1.trans h2.symm, h3.trans h4.symm, ⟨0, by decide, h4, Or.inl ⟨h2, rfl⟩⟩, fun k hk => ?_, fun q => absurd (h2.symm.trans q) (by decide)⟩
    obtain ⟨q1, q2⟩ := z0_it (60 * t + k) (by omega)
    exact q1.trans q2.symm
