theorem i_127 {k : Nat} (hk : k < 2147483648) : (127 : Int32) < Int32.ofNat k ↔ 127 < k := i_lt (a := 127) (by decide) hk
theorem byte_k : ∀ k, k < 128 → (Int32.ofNat k).toInt8.toInt32.toInt8.toInt32 = Int32.ofNat k := by decide +kernel
theorem O_feed_ok : O_feed INV := fun m h x => by
  have h' := h
  obtain ⟨y, hN, hK, hB, hA, hT, hR, hP, hO, hY⟩ := h
  obtain ⟨n, hn, a1, a2, a3⟩ := hT
  rcases i_cases x with hx | ⟨k, hk, rfl⟩
  · exact ⟨-2, m, m, by rw [fN_feed, if_pos hx], by rw [fM_feed, fM_in, if_pos hx]; rfl, h'⟩
  · by_cases h1 : 127 < k
    · exact ⟨-2, m, m, by rw [fN_feed, if_neg (i_lt0 hk), if_pos ((i_127 hk).mpr h1)], by rw [fM_feed, fM_in, if_neg (i_lt0 hk), if_pos ((i_127 hk).mpr h1)]; rfl, h'⟩
    · have e1 : ¬ (127 : Int32) < Int32.ofNat k := fun q => h1 ((i_127 hk).mp q)
      by_cases h2 : n < 100
      · have e2 : Int32.ofNat n < 100 := (i_lt (b := 100) (by omega) (by decide)).mpr h2
        have e3 : ¬ Int32.ofNat n = 100 := fun q => by have := (i_eq (b := 100) (by omega) (by decide)).mp q; omega
        refine ⟨Int32.ofNat (n + 1), wI (wI m 34 n (Int32.ofNat k)) 33 1 (Int32.ofNat (n + 1)), wI (wI (wI (wI m 34 n (Int32.ofNat k)) 33 1 (Int32.ofNat (n + 1))) 73 n (Int32.ofNat k)) 68 11 (Int32.ofNat (n + 1)), ?_, ?_, ?_⟩
        · rw [fN_feed, if_neg (i_lt0 hk), if_neg e1, fRe_isFull, a1, if_pos e2, zb1_s, if_pos rfl, fRe_add, a1, if_neg (i_lt0 (by omega)), if_pos e2, zI_n (by omega) h2, zg_t, zb1_s, i_tn (by omega), byte_k k (by omega), wI_o m _ (by omega), a1]
          have e4 : Int32.ofNat n + 1 = Int32.ofNat (n + 1) := i_pl n 1
          rw [e4, wI_e]
        · have e4 : Int32.ofNat n + 1 = Int32.ofNat (n + 1) := i_pl n 1
          have e5 : (wI (wI m 34 n (Int32.ofNat k)) 33 1 (Int32.ofNat (n + 1))).1 68 11 = Int32.ofNat n := by rw [wI_o _ _ (by omega), wI_o _ _ (by omega), a2]
          rw [fM_feed, fM_in, if_neg (i_lt0 hk), if_neg e1, zb1_s, if_neg (by decide), e5, if_neg e3, zI_n (by omega) h2, zg_t, i_tn (by omega), wI_e, wI_o _ _ (by omega), e5, e4]
        · have A : ∀ K : Nat → Nat → Bool, K 34 n = false → K 33 1 = false → K 73 n = false → K 68 11 = false → ag K m (wI (wI (wI (wI m 34 n (Int32.ofNat k)) 33 1 (Int32.ofNat (n + 1))) 73 n (Int32.ofNat k)) 68 11 (Int32.ofNat (n + 1))) := fun K q1 q2 q3 q4 => ag_w (ag_w (ag_w (ag_w (ag_r m) q1) q2) q3) q4
          refine ⟨y, fNow (A _ rfl rfl rfl rfl) hN, fKp (A _ rfl rfl rfl rfl) hK, fBo (A _ rfl rfl rfl rfl) hB, fBa (A _ rfl rfl rfl rfl) hA, ⟨n + 1, by omega, ?_, wI_e _ _ _ _, fun i hi => ?_⟩, fTr (A _ rfl rfl rfl rfl) hR, fTp (A _ rfl rfl rfl rfl) (fun _ _ => rfl) hP, fKo (A _ rfl rfl rfl rfl) hO, fYd (A _ rfl rfl rfl rfl) hY⟩
          · rw [wI_o _ _ (by omega), wI_o _ _ (by omega), wI_e]
          · by_cases q : i = n
            · subst q
              rw [wI_o _ _ (by omega), wI_o _ _ (by omega), wI_o _ _ (by omega), wI_e, wI_o _ _ (by omega), wI_e]
              exact ⟨rfl, k, by omega, rfl⟩
            · obtain ⟨b1, b2⟩ := a3 i (by omega)
              rw [wI_o _ _ (by omega), wI_o _ _ (by omega), wI_o _ _ (by omega), wI_o _ _ (by omega), wI_o _ _ (by omega), wI_o _ _ (by omega), wI_o _ _ (by omega), wI_o _ _ (by omega)]
              exact ⟨b1, b2⟩
      · have e2 : ¬ Int32.ofNat n < 100 := fun q => h2 ((i_lt (b := 100) (by omega) (by decide)).mp q)
        have e3 : Int32.ofNat n = 100 := by rw [show n = 100 by omega]; rfl
        exact ⟨-4, m, m, by rw [fN_feed, if_neg (i_lt0 hk), if_neg e1, fRe_isFull, a1, if_neg e2]; rfl, by rw [fM_feed, fM_in, if_neg (i_lt0 hk), if_neg e1, zb1_s, if_neg (by decide), a2, if_pos e3], h'⟩
