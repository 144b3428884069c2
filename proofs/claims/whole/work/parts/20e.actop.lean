theorem M_man {p c : Nat} {k v x : Int32} {m : zv_M} (hc : c < 20) (h : TM c p k v m) : fM_manLooks (Int32.ofNat p) x m = some (x + Int32.ofNat p, eM 10 c m) := by
  rw [fM_manLooks, body_ok h hc, zb1_s]
theorem M_looks {p kk c : Nat} {v x : Int32} {m : zv_M} (hp : p < 6) (hk : kk < 7) (hc : c < 18) (h : TM c p (Int32.ofNat kk) v m) : fM_looksAct (Int32.ofNat p) x m = some (vL kk (Int32.ofNat p) v x, evM (lL kk) c m) := by
  have f0 := M_man (x := x) (show c < 20 by omega) h
  have f30 := M_man (x := x * 3) (show c + 1 < 20 by omega) (TM_e (b := 30) h)
  have f50 := M_man (x := x) (show c + 1 < 20 by omega) (TM_e (b := 50) h)
  have f71 := M_man (x := x) (show c + 1 < 20 by omega) (TM_e (b := 71) h)
  have hv : (eM 10 (c + 1) (eM 71 c m)).1 70 p = v := h.2.2
  have b30 := body_ok (b := 30) h (show c < 20 by omega)
  have b50 := body_ok (b := 50) h (show c < 20 by omega)
  have b71 := body_ok (b := 71) h (show c < 20 by omega)
  rw [fM_looksAct, zI_n (by omega) hp, zg_t, i_tn (by omega), h.2.1]
  rcases k7 hk with rfl | rfl | rfl | rfl | rfl | rfl | rfl
  · rw [if_neg (by decide), if_neg (by decide), if_neg (by decide), if_neg (by decide), if_neg (by decide), f0]
    rfl
  · rw [if_neg (by decide), if_neg (by decide), if_neg (by decide), if_neg (by decide), if_neg (by decide), f0]
    rfl
  · rw [if_pos (by decide), b30, zb1_s, f30]
    rfl
  · rw [if_neg (by decide), if_pos (by decide), f0]
    rfl
  · rw [if_neg (by decide), if_neg (by decide), if_pos (by decide), b50, zb1_s, f50]
    rfl
  · rw [if_neg (by decide), if_neg (by decide), if_neg (by decide), if_pos (by decide), b30, zb1_s, f30]
    rfl
  · rw [if_neg (by decide), if_neg (by decide), if_neg (by decide), if_neg (by decide), if_pos (by decide), b71, zb1_s, f71, zb2_s, zg_t, hv]
    rfl
theorem M_s11 {p kk c : Nat} {v x : Int32} {m : zv_M} (hp : p < 6) (hk : kk < 7) (hc : c < 17) (h : TM c p (Int32.ofNat kk) v m) : fM_manSees (Int32.ofNat p) x m = some (vL kk (Int32.ofNat p) v x - v, evM (11 :: lL kk) c m) := by
  have f := M_looks (x := x) hp hk (show c + 1 < 18 by omega) (TM_e (b := 11) h)
  have hv : (evM (lL kk) (c + 1) (eM 11 c m)).1 70 p = v := (TM_v (lL kk) (TM_e (b := 11) h)).2.2
  rw [fM_manSees, body_ok h (by omega), zb1_s, f, zb2_s, zI_n (by omega) hp, zg_t, i_tn (by omega), hv]
  rfl
theorem M_s1 {p kk c : Nat} {v x : Int32} {m : zv_M} (hp : p < 6) (hk : kk < 7) (hc : c < 16) (h : TM c p (Int32.ofNat kk) v m) : fM_rookSees (Int32.ofNat p) x m = some ((vL kk (Int32.ofNat p) v x - v) ^^^ 6, evM (20 :: 11 :: lL kk) c m) := by
  have f := M_s11 (x := x) hp hk (show c + 1 < 17 by omega) (TM_e (b := 20) h)
  rw [fM_rookSees, body_ok h (by omega), zb1_s, f]
  rfl
theorem M_sees {p kk c : Nat} {v x : Int32} {m : zv_M} (hp : p < 6) (hk : kk < 7) (hc : c < 14) (h : TM c p (Int32.ofNat kk) v m) : fM_seesAct (Int32.ofNat p) x m = some (vS kk (Int32.ofNat p) v x, evM (lS kk) c m) := by
  have f0 := M_s11 (x := x) hp hk (show c < 17 by omega) h
  have f1 := M_s1 (x := x) hp hk (show c < 16 by omega) h
  have f51 := M_s1 (x := x + 1) hp hk (show c + 1 < 16 by omega) (TM_e (b := 51) h)
  have f70 := M_s11 (x := x) hp hk (show c + 1 < 17 by omega) (TM_e (b := 70) h)
  have b51 := body_ok (b := 51) h (show c < 20 by omega)
  have b70 := body_ok (b := 70) h (show c < 20 by omega)
  rw [fM_seesAct, zI_n (by omega) hp, zg_t, i_tn (by omega), h.2.1]
  rcases k7 hk with rfl | rfl | rfl | rfl | rfl | rfl | rfl
  · rw [if_neg (by decide), if_neg (by decide), if_neg (by decide), f0]
    rfl
  · rw [if_pos (by decide), f1]
    rfl
  · rw [if_neg (by decide), if_neg (by decide), if_neg (by decide), f0]
    rfl
  · rw [if_neg (by decide), if_neg (by decide), if_neg (by decide), f0]
    rfl
  · rw [if_neg (by decide), if_pos (by decide), b51, zb1_s, f51]
    rfl
  · rw [if_neg (by decide), if_neg (by decide), if_neg (by decide), f0]
    rfl
  · have t := TM_v (11 :: lL 6) (TM_e (b := 70) h)
    have f2 := M_man (x := 2) (show c + 1 + (11 :: lL 6).length < 20 by show c + 1 + 3 < 20; omega) t
    rw [if_neg (by decide), if_neg (by decide), if_pos (by decide), b70, zb1_s, f70, zb2_s, f2]
    rfl
theorem M_t12 {p kk c : Nat} {v x : Int32} {m : zv_M} (hp : p < 6) (hk : kk < 7) (hc : c < 13) (h : TM c p (Int32.ofNat kk) v m) : fM_manTells (Int32.ofNat p) x m = some (vS kk (Int32.ofNat p) v x * 2, evM (12 :: lS kk) c m) := by
  have f := M_sees (x := x) hp hk (show c + 1 < 14 by omega) (TM_e (b := 12) h)
  rw [fM_manTells, body_ok h (by omega), zb1_s, f]
  rfl
theorem M_tells {p kk c : Nat} {v x : Int32} {m : zv_M} (hp : p < 6) (hk : kk < 7) (hc : c < 5) (h : TM c p (Int32.ofNat kk) v m) : fM_tellsAct (Int32.ofNat p) x m = some (vT kk (Int32.ofNat p) v x, evM (lT kk) c m) := by
  have f0 := M_t12 (x := x) hp hk (show c < 13 by omega) h
  have f60 := M_t12 (x := x - Int32.ofNat p) hp hk (show c + 1 < 13 by omega) (TM_e (b := 60) h)
  have b60 := body_ok (b := 60) h (show c < 20 by omega)
  have k40 : kk = 3 ∨ kk = 6 → zb1 (fM_body 40 m) (fun m1 => zb2 (fM_manTells (Int32.ofNat p) x m1) (fun r2 m3 => zb2 (fM_seesAct (Int32.ofNat p) 1 m3) (fun r4 m5 => some (r2 + r4, m5)))) = some (vS kk (Int32.ofNat p) v x * 2 + vS kk (Int32.ofNat p) v 1, evM (40 :: (12 :: lS kk ++ lS kk)) c m) := fun hkk => by
    have f := M_t12 (x := x) hp hk (show c + 1 < 13 by omega) (TM_e (b := 40) h)
    have t := TM_v (12 :: lS kk) (TM_e (b := 40) h)
    have hl := (lL_len kk hk).2.1
    have f2 := M_sees (x := 1) hp hk (show c + 1 + (12 :: lS kk).length < 14 by rw [List.length_cons]; omega) t
    rw [body_ok h (by omega), zb1_s, f, zb2_s, f2, zb2_s]
    show _ = some (vS kk (Int32.ofNat p) v x * 2 + vS kk (Int32.ofNat p) v 1, evM (12 :: lS kk ++ lS kk) (c + 1) (eM 40 c m))
    rw [evM_app]
  rw [fM_tellsAct, zI_n (by omega) hp, zg_t, i_tn (by omega), h.2.1]
  rcases k7 hk with rfl | rfl | rfl | rfl | rfl | rfl | rfl
  · rw [if_neg (by decide), if_neg (by decide), if_neg (by decide), if_neg (by decide), f0]
    rfl
  · rw [if_neg (by decide), if_neg (by decide), if_neg (by decide), if_neg (by decide), f0]
    rfl
  · rw [if_neg (by decide), if_neg (by decide), if_neg (by decide), if_neg (by decide), f0]
    rfl
  · rw [if_pos (by decide)]
    exact k40 (Or.inl rfl)
  · rw [if_neg (by decide), if_pos (by decide), f0]
    rfl
  · rw [if_neg (by decide), if_neg (by decide), if_pos (by decide), b60, zb1_s, f60]
    rfl
  · rw [if_neg (by decide), if_neg (by decide), if_neg (by decide), if_pos (by decide)]
    exact k40 (Or.inr rfl)
theorem evN_o : ∀ (L : List Int32) (c : Nat) (m : zv_M) (o k : Nat), ¬ o = 61 → ¬ o = 62 → ¬ o = 63 → (evN L c m).1 o k = m.1 o k
  | [], _, _, _, _, _, _, _ => rfl
  | b :: L, c, m, o, k, h1, h2, h3 => by
    show (evN L (c + 1) (eN b c m)).1 o k = _
    rw [evN_o L _ _ o k h1 h2 h3, eN, wI_o _ _ (fun z => h1 z.1), wI_o _ _ (fun z => h2 z.1), wI_o _ _ (fun z => h3 z.1)]
theorem evM_o : ∀ (L : List Int32) (c : Nat) (m : zv_M) (o k : Nat), ¬ o = 110 → ¬ (o = 68 ∧ k = 66) → (evM L c m).1 o k = m.1 o k
  | [], _, _, _, _, _, _ => rfl
  | b :: L, c, m, o, k, h1, h2 => by
    show (evM L (c + 1) (eM b c m)).1 o k = _
    rw [evM_o L _ _ o k h1 h2, eM, wI_o _ _ h2, wI_o _ _ (fun z => h1 z.1)]
theorem evN_2 : ∀ (L : List Int32) (c : Nat) (m : zv_M), (evN L c m).2 = m.2
  | [], _, _ => rfl
  | b :: L, c, m => evN_2 L (c + 1) (eN b c m)
theorem evM_2 : ∀ (L : List Int32) (c : Nat) (m : zv_M), (evM L c m).2 = m.2
  | [], _, _ => rfl
  | b :: L, c, m => evM_2 L (c + 1) (eM b c m)
theorem evN_c : ∀ (L : List Int32) (c : Nat) (m : zv_M) (k : Nat), (evN L c m).1 63 k = if c ≤ k ∧ k < c + L.length then L.getD (k - c) 0 else m.1 63 k
  | [], c, m, k => by
    rw [if_neg (by simp)]
    rfl
  | b :: L, c, m, k => by
    show (evN L (c + 1) (eN b c m)).1 63 k = _
    rw [evN_c L (c + 1) (eN b c m) k, List.length_cons, eN, wI_o _ _ (by omega), wI_o _ _ (by omega)]
    by_cases h : k = c
    · subst h
      rw [if_neg (by omega), if_pos (by omega), wI_e, Nat.sub_self]
      rfl
    · rw [wI_o _ _ (by omega)]
      by_cases h2 : c + 1 ≤ k ∧ k < c + 1 + L.length
      · rw [if_pos h2, if_pos (by omega)]
        obtain ⟨j, rfl⟩ : ∃ j, k = c + 1 + j := ⟨k - (c + 1), by omega⟩
        rw [show c + 1 + j - (c + 1) = j by omega, show c + 1 + j - c = j + 1 by omega]
        rfl
      · rw [if_neg h2, if_neg (by omega)]
theorem evM_c : ∀ (L : List Int32) (c : Nat) (m : zv_M) (k : Nat), (evM L c m).1 110 k = if c ≤ k ∧ k < c + L.length then L.getD (k - c) 0 else m.1 110 k
  | [], c, m, k => by
    rw [if_neg (by simp)]
    rfl
  | b :: L, c, m, k => by
    show (evM L (c + 1) (eM b c m)).1 110 k = _
    rw [evM_c L (c + 1) (eM b c m) k, List.length_cons, eM, wI_o _ _ (by omega)]
    by_cases h : k = c
    · subst h
      rw [if_neg (by omega), if_pos (by omega), wI_e, Nat.sub_self]
      rfl
    · rw [wI_o _ _ (by omega)]
      by_cases h2 : c + 1 ≤ k ∧ k < c + 1 + L.length
      · rw [if_pos h2, if_pos (by omega)]
        obtain ⟨j, rfl⟩ : ∃ j, k = c + 1 + j := ⟨k - (c + 1), by omega⟩
        rw [show c + 1 + j - (c + 1) = j by omega, show c + 1 + j - c = j + 1 by omega]
        rfl
      · rw [if_neg h2, if_neg (by omega)]
theorem wI_self {m : zv_M} {o k : Nat} {v : Int32} (h : m.1 o k = v) : wI m o k v = m := by
  unfold wI
  have : (fun o' k' => if o' = o ∧ k' = k then v else m.1 o' k') = m.1 := by
    funext o' k'
    by_cases q : o' = o ∧ k' = k
    · rw [if_pos q, q.1, q.2, h]
    · rw [if_neg q]
  rw [this]
def m0N (m : zv_M) : zv_M := wI (wI m 62 1 0) 61 1 0
def m3N (m : zv_M) (i k v : Int32) : zv_M := wI (wI (wI (m0N m) 61 2 i) 61 3 k) 61 4 v
/-- after an act with these bodies the invariant holds -/
theorem INV_act {m : zv_M} (h : INV m) (i k v : Int32) (L : List Int32) (hL : L.length ≤ 12) : INV (evM L 0 (wI (evN L 0 (m3N m i k v)) 68 66 0)) := by
  obtain ⟨y, hN, hK, hB, hA, hT, hR, hP, hO, hY⟩ := h
  have hc : ∀ o k', ¬ o = 61 → ¬ o = 62 → ¬ o = 63 → ¬ o = 110 → ¬ (o = 68 ∧ k' = 66) → (evM L 0 (wI (evN L 0 (m3N m i k v)) 68 66 0)).1 o k' = m.1 o k' := fun o k' h1 h2 h3 h4 h5 => by
    rw [evM_o L _ _ o k' h4 h5, wI_o _ _ h5, evN_o L _ _ o k' h1 h2 h3, m3N, m0N, wI_o _ _ (fun z => h1 z.1), wI_o _ _ (fun z => h1 z.1), wI_o _ _ (fun z => h1 z.1), wI_o _ _ (fun z => h1 z.1), wI_o _ _ (fun z => h2 z.1)]
  have A : ∀ K : Nat → Nat → Bool, (∀ k', K 61 k' = false) → (∀ k', K 62 k' = false) → (∀ k', K 63 k' = false) → (∀ k', K 110 k' = false) → K 68 66 = false → ag K m (evM L 0 (wI (evN L 0 (m3N m i k v)) 68 66 0)) := fun K q1 q2 q3 q4 q5 o k' hK => hc o k' (fun z => by rw [z, q1] at hK; cases hK) (fun z => by rw [z, q2] at hK; cases hK) (fun z => by rw [z, q3] at hK; cases hK) (fun z => by rw [z, q4] at hK; cases hK) (fun z => by rw [z.1, z.2, q5] at hK; cases hK)
  have hl : (evM L 0 (wI (evN L 0 (m3N m i k v)) 68 66 0)).2 = m.2 := by
    rw [evM_2]
    show (evN L 0 (m3N m i k v)).2 = _
    rw [evN_2]
    rfl
  have t1 := TN_v L (c := 0) (i := i) (k := k) (v := v) (m := m3N m i k v) ⟨rfl, rfl, rfl, rfl, rfl⟩
  have t2 := TM_v L (c := 0) (p := 0) (k := (wI (evN L 0 (m3N m i k v)) 68 66 0).1 69 0) (v := (wI (evN L 0 (m3N m i k v)) 68 66 0).1 70 0) (m := wI (evN L 0 (m3N m i k v)) 68 66 0) ⟨rfl, rfl, rfl⟩
  rw [Nat.zero_add] at t1 t2
  have s1 : ∀ o k', o = 61 ∨ o = 62 ∨ o = 63 → (evM L 0 (wI (evN L 0 (m3N m i k v)) 68 66 0)).1 o k' = (evN L 0 (m3N m i k v)).1 o k' := fun o k' ho => by
    rw [evM_o L _ _ o k' (by omega) (by omega), wI_o _ _ (by omega)]
  refine ⟨y, fNow (A _ (fun _ => rfl) (fun _ => rfl) (fun _ => rfl) (fun _ => rfl) rfl) hN, fKp (A _ (fun _ => rfl) (fun _ => rfl) (fun _ => rfl) (fun _ => rfl) rfl) hK, fBo (A _ (fun _ => rfl) (fun _ => rfl) (fun _ => rfl) (fun _ => rfl) rfl) hB, fBa (A _ (fun _ => rfl) (fun _ => rfl) (fun _ => rfl) (fun _ => rfl) rfl) hA, fTx (A _ (fun _ => rfl) (fun _ => rfl) (fun _ => rfl) (fun _ => rfl) rfl) hT, ⟨L.length, by omega, (s1 61 1 (by omega)).trans t1.2.1, t2.1, ?_, fun k' h1 h2 => ?_⟩, fTp (A _ (fun _ => rfl) (fun _ => rfl) (fun _ => rfl) (fun _ => rfl) rfl) (fun _ _ => by rw [hl]) hP, fKo (A _ (fun _ => rfl) (fun _ => rfl) (fun _ => rfl) (fun _ => rfl) rfl) hO, fYd (A _ (fun _ => rfl) (fun _ => rfl) (fun _ => rfl) (fun _ => rfl) rfl) hY⟩
  · rw [s1 62 1 (by omega), t1.1, Nat.min_eq_left (by omega)]
  · rw [s1 63 k' (by omega), evN_c, evM_c, if_pos (by omega), if_pos (by omega)]
theorem CN_o {D : Dt} {m m' : zv_M} (hS : CS D) (h : ∀ o k, o ≤ 16 ∨ (36 ≤ o ∧ o ≤ 42) → m'.1 o k = m.1 o k) (c : CN D m) : CN D m' := by
  obtain ⟨a0, ⟨a1, a2, a3, a4⟩, ⟨a5, a6, a7⟩, a8, a9⟩ := c
  have hg : 36 ≤ dg D ∧ dg D ≤ 42 := by
    obtain ⟨-, -, -, -, -, -, -, -, hh⟩ := hS
    rcases hh with ⟨-, e⟩ | ⟨f, hf, -, e⟩
    · rw [e]; decide
    · rw [e]; omega
  refine ⟨(h 1 8 (by decide)).trans a0, ⟨(h _ _ (Or.inr hg)).trans a1, (h _ _ (Or.inr hg)).trans a2, (h _ _ (Or.inr hg)).trans a3, (h _ _ (Or.inr hg)).trans a4⟩, ⟨(h 2 1 (by decide)).trans a5, (h 4 1 (by decide)).trans a6, (h 6 1 (by decide)).trans a7⟩, fun p hp => ?_, fun s hs => (h 8 s (by decide)).trans (a9 s hs)⟩
  obtain ⟨b1, b2, b3⟩ := a8 p hp
  exact ⟨(h 3 p (by decide)).trans b1, (h 5 p (by decide)).trans b2, (h 7 p (by decide)).trans b3⟩
theorem O_act_ok : O_act INV := fun m h x1 x2 x3 => by
  obtain ⟨D, hS, cN, cM⟩ := pic h
  have hf : fAc_forget m = some (m0N m) := rfl
  have bad : INV (wI (m0N m) 68 66 0) := by
    have hI := INV_act h (m.1 61 2) (m.1 61 3) (m.1 61 4) [] (by decide)
    have e : m3N m (m.1 61 2) (m.1 61 3) (m.1 61 4) = m0N m := by
      have e1 : wI (m0N m) 61 2 (m.1 61 2) = m0N m := wI_self rfl
      have e2 : wI (m0N m) 61 3 (m.1 61 3) = m0N m := wI_self rfl
      have e3 : wI (m0N m) 61 4 (m.1 61 4) = m0N m := wI_self rfl
      rw [m3N, e1, e2, e3]
    rw [e] at hI
    exact hI
  have cN0 : CN D (m0N m) := CN_o hS (fun o k ho => by rw [m0N, wI_o _ _ (by omega), wI_o _ _ (by omega)]) cN
  have pM : ∀ x, fM_isPlan x (wI (m0N m) 68 66 0) = fM_isPlan x m := fun x => rfl
  rcases i_cases x1 with hx | ⟨p, hp, rfl⟩
  · exact ⟨0, m0N m, wI (m0N m) 68 66 0, by rw [fN_act, hf, zb1_s, (isPlan_neg hx).1]; rfl, by rw [fM_act, pM, (isPlan_neg hx).2]; rfl, bad⟩
  by_cases h1 : p < dn D
  · have nN : fN_isPlan (Int32.ofNat p) (m0N m) = some 1 := by rw [g_plan hS cN0 hp, if_pos h1]
    have nM : ∀ M : zv_M, M.1 68 0 = m.1 68 0 → fM_isPlan (Int32.ofNat p) M = some 1 := fun M e => by
      have := g_planM hS cM hp
      rw [if_pos h1] at this
      rw [← this, fM_isPlan, fM_isPlan, e]
    rcases i_cases x2 with hx | ⟨a, ha, rfl⟩
    · exact ⟨0, m0N m, wI (m0N m) 68 66 0, by rw [fN_act, hf, zb1_s, nN, zb1_s, if_neg (by decide), if_pos hx], by rw [fM_act, nM (wI (m0N m) 68 66 0) rfl, zb1_s, if_neg (by decide), in_neg (by decide) hx]; rfl, bad⟩
    have k2 : ((2 : Int32) < Int32.ofNat a) ↔ 2 < a := i_lt (a := 2) (by decide) ha
    by_cases h2 : 2 < a
    · exact ⟨0, m0N m, wI (m0N m) 68 66 0, by rw [fN_act, hf, zb1_s, nN, zb1_s, if_neg (by decide), if_neg (i_lt0 ha), if_pos (k2.mpr h2)], by rw [fM_act, nM (wI (m0N m) 68 66 0) rfl, zb1_s, if_neg (by decide), in_l 0 2 0 2 ha rfl rfl (by decide) (by decide), if_neg (by omega)]; rfl, bad⟩
    have k2n : ¬ (2 : Int32) < Int32.ofNat a := fun z => h2 (k2.mp z)
    have ain : fM_in (Int32.ofNat a) 0 2 = some 1 := by rw [in_l 0 2 0 2 ha rfl rfl (by decide) (by decide), if_pos (by omega)]
    have hp6 : p < 6 := by have := hS.1; omega
    obtain ⟨hk, hv, -⟩ := hS.2.2.2.2.2.2.1 p h1
    obtain ⟨e1, e2, -⟩ := cN.2.2.2.1 p h1
    obtain ⟨f1, f2, -⟩ := cM.2.2.1 p h1
    have g2 : fPi_get 2 (Int32.ofNat p) (m0N m) = some (Int32.ofNat (dk D p)) := by
      rw [pi_get (m := m0N m) (o := 2) (a := 3) (cap := 6) (n := dn D) ⟨rfl, rfl, by decide, cN.2.2.1.1, hS.1, by decide⟩ hp, if_pos h1]
      exact congrArg some e1
    have g4 : fPi_get 4 (Int32.ofNat p) (m0N m) = some (Int32.ofNat (dv D p)) := by
      rw [pi_get (m := m0N m) (o := 4) (a := 5) (cap := 6) (n := dn D) ⟨rfl, rfl, by decide, cN.2.2.1.2.1, hS.1, by decide⟩ hp, if_pos h1]
      exact congrArg some e2
    generalize hkk : dk D p = kk at *
    generalize hvv : Int32.ofNat (dv D p) = v at *
    have sN : fN_act (Int32.ofNat p) (Int32.ofNat a) x3 m = gR 14 (Int32.ofNat kk) (Int32.ofNat a) x3 0 (m3N m (Int32.ofNat p) (Int32.ofNat kk) v) := by
      rw [fN_act, hf, zb1_s, nN, zb1_s, if_neg (by decide), if_neg (i_lt0 ha), if_neg k2n, g2, zb1_s, g4, zb1_s, fAc_start]
      show zb2 (zb2 (fAc_run 28 (Int32.ofNat kk) (Int32.ofNat a) x3 0 (m3N m (Int32.ofNat p) (Int32.ofNat kk) v)) (fun r1 m2 => some (r1, m2))) (fun r8 m9 => some (r8, m9)) = _
      rw [gR_28]
      cases gR 14 (Int32.ofNat kk) (Int32.ofNat a) x3 0 (m3N m (Int32.ofNat p) (Int32.ofNat kk) v) <;> rfl
    have t0 : TN 0 (Int32.ofNat p) (Int32.ofNat kk) v (m3N m (Int32.ofNat p) (Int32.ofNat kk) v) := ⟨rfl, rfl, rfl, rfl, rfl⟩
    have tM : ∀ L, TM 0 p (Int32.ofNat kk) v (wI (evN L 0 (m3N m (Int32.ofNat p) (Int32.ofNat kk) v)) 68 66 0) := fun L => by
      refine ⟨rfl, ?_, ?_⟩
      · rw [wI_o _ _ (by omega), evN_o _ _ _ _ _ (by decide) (by decide) (by decide)]
        exact f1
      · rw [wI_o _ _ (by omega), evN_o _ _ _ _ _ (by decide) (by decide) (by decide)]
        exact f2
    have n68 : ∀ L, (wI (evN L 0 (m3N m (Int32.ofNat p) (Int32.ofNat kk) v)) 68 66 0).1 68 0 = m.1 68 0 := fun L => by
      rw [wI_o _ _ (by omega), evN_o _ _ _ _ _ (by decide) (by decide) (by decide)]
      rfl
    obtain ⟨l1, l2, l3⟩ := lL_len kk hk
    rcases (show a = 0 ∨ a = 1 ∨ a = 2 by omega) with rfl | rfl | rfl
    · refine ⟨_, _, _, sN.trans (N_looks (n := 12) (d := 0) hk (by decide) (by decide) t0), ?_, INV_act h (Int32.ofNat p) (Int32.ofNat kk) v (lL kk) (by omega)⟩
      rw [fM_act, nM _ (n68 _), zb1_s, if_neg (by decide), ain, zb1_s, if_neg (by decide), if_pos (by decide), M_looks hp6 hk (by decide) (tM _)]
      rfl
    · refine ⟨_, _, _, sN.trans (N_sees (n := 9) (d := 0) hk (by decide) (by decide) t0), ?_, INV_act h (Int32.ofNat p) (Int32.ofNat kk) v (lS kk) (by omega)⟩
      rw [fM_act, nM _ (n68 _), zb1_s, if_neg (by decide), ain, zb1_s, if_neg (by decide), if_neg (by decide), if_pos (by decide), M_sees hp6 hk (by decide) (tM _)]
      rfl
    · refine ⟨_, _, _, sN.trans (N_tells (n := 7) (d := 0) hk (by decide) (by decide) t0), ?_, INV_act h (Int32.ofNat p) (Int32.ofNat kk) v (lT kk) (by omega)⟩
      rw [fM_act, nM _ (n68 _), zb1_s, if_neg (by decide), ain, zb1_s, if_neg (by decide), if_neg (by decide), if_neg (by decide), M_tells hp6 hk (by decide) (tM _)]
      rfl
  · exact ⟨0, m0N m, wI (m0N m) 68 66 0, by rw [fN_act, hf, zb1_s, g_plan hS cN0 hp, if_neg h1]; rfl, by rw [fM_act, pM, g_planM hS cM hp, if_neg h1]; rfl, bad⟩
