/-! Who should go: both sides alike. -/
theorem fl_i {α : Type} {g : Nat → List α} {z : α} {b : Nat} : ∀ (c a : Nat), a ≤ b → b < a + c → z ∈ g b → z ∈ fl g a c
  | 0, a, h1, h2, _ => by omega
  | c + 1, a, h1, h2, h3 => by
    rw [fl_s, List.mem_append]
    by_cases q : b = a
    · exact Or.inl (q ▸ h3)
    · exact Or.inr (fl_i c (a + 1) (by omega) (by omega) h3)
theorem topbit {T : Nat} (h : T ≠ 0) : ∃ a T', T = T' + 2 ^ a ∧ T' < 2 ^ a := by
  refine ⟨T.log2, T - 2 ^ T.log2, ?_, ?_⟩
  · have := Nat.log2_self_le h
    omega
  · have := @Nat.lt_log2_self T
    rw [Nat.pow_succ] at this
    omega
theorem Ds_f {F : Nat → Bool} : ∀ (k B S z : Nat), B ≤ 25 → z ∈ Ds F k B S → ∃ T, z = S + T ∧ T < 2 ^ B ∧ (∀ i, T.testBit i = true → F i = true) ∧ pc T = k
  | 0, B, S, z, _, hz => by
    rw [Ds, List.mem_singleton] at hz
    exact ⟨0, hz, Nat.pow_pos (by decide), (fun i hi => by rw [Nat.zero_testBit] at hi; cases hi), pc_0⟩
  | k + 1, B, S, z, hB, hz => by
    rw [Ds] at hz
    obtain ⟨a, -, h2, h3⟩ := fl_m _ _ hz
    by_cases q : F a = true
    · rw [if_pos q] at h3
      obtain ⟨T, e, t1, t2, t3⟩ := Ds_f k a (S + 2 ^ a) z (by omega) h3
      have h5 : 2 ^ (a + 1) ≤ 2 ^ B := Nat.pow_le_pow_right (by decide) (by omega)
      rw [Nat.pow_succ] at h5
      have h6 : T.testBit a = false := Nat.testBit_lt_two_pow t1
      refine ⟨T ||| 2 ^ a, by rw [addbit h6]; omega, by rw [addbit h6]; omega, fun i hi => ?_, by rw [pc_add h6 (by omega), t3]⟩
      rw [Nat.testBit_or, Nat.testBit_two_pow] at hi
      rcases Bool.or_eq_true _ _ |>.mp hi with z | z
      · exact t2 i z
      · rw [← of_decide_eq_true z]
        exact q
    · rw [if_neg q] at h3
      exact absurd h3 List.not_mem_nil
theorem Ds_b {F : Nat → Bool} : ∀ (k B S T : Nat), B ≤ 25 → T < 2 ^ B → (∀ i, T.testBit i = true → F i = true) → pc T = k → S + T ∈ Ds F k B S
  | 0, B, S, T, hB, h1, _, h3 => by
    have h25 : 2 ^ B ≤ 2 ^ 25 := Nat.pow_le_pow_right (by decide) hB
    obtain rfl := pc_z h3 (p25 (by omega))
    rw [Ds, List.mem_singleton, Nat.add_zero]
  | k + 1, B, S, T, hB, h1, h2, h3 => by
    have h0 : T ≠ 0 := fun z => by rw [z, pc_0] at h3; omega
    obtain ⟨a, T', rfl, ht⟩ := topbit h0
    have h6 : T'.testBit a = false := Nat.testBit_lt_two_pow ht
    rw [← addbit h6] at h2
    have ha : a < B := by
      refine Decidable.byContradiction fun q => ?_
      have h5 : 2 ^ B ≤ 2 ^ a := Nat.pow_le_pow_right (by decide) (by omega)
      omega
    rw [← addbit h6, pc_add h6 (by omega)] at h3
    rw [Ds]
    refine fl_i B 0 (Nat.zero_le a) (by omega) ?_
    rw [if_pos (h2 a (by rw [Nat.testBit_or, Nat.testBit_two_pow, decide_eq_true rfl, Bool.or_true]))]
    have := Ds_b k a (S + 2 ^ a) T' (by omega) ht (fun i hi => h2 i (by rw [Nat.testBit_or, hi, Bool.true_or])) (by omega)
    rw [show S + (T' + 2 ^ a) = S + 2 ^ a + T' by omega]
    exact this
theorem fl_pw {g : Nat → List Nat} {lo : Nat → Nat} : ∀ (c a : Nat), (∀ b, b < a + c → (g b).Pairwise (· < ·)) → (∀ b, lo b ≤ lo (b + 1)) → (∀ b z, b < a + c → z ∈ g b → lo b ≤ z ∧ z < lo (b + 1)) → (fl g a c).Pairwise (· < ·)
  | 0, a, _, _, _ => List.Pairwise.nil
  | c + 1, a, h1, hm, h2 => by
    have mono : ∀ d b, lo b ≤ lo (b + d) := fun d => by
      induction d with
      | zero => exact fun b => Nat.le_refl _
      | succ d ih => exact fun b => Nat.le_trans (ih b) (hm _)
    rw [fl_s, List.pairwise_append]
    refine ⟨h1 a (by omega), fl_pw c (a + 1) (fun b hb => h1 b (by omega)) hm (fun b z hb => h2 b z (by omega)), fun x hx y hy => ?_⟩
    obtain ⟨b, b1, b2, b3⟩ := fl_m _ _ hy
    have u1 := (h2 a x (by omega) hx).2
    have u2 := (h2 b y (by omega) b3).1
    have u3 := mono (b - (a + 1)) (a + 1)
    rw [show a + 1 + (b - (a + 1)) = b by omega] at u3
    omega
theorem Ds_pw {F : Nat → Bool} : ∀ (k B S : Nat), B ≤ 25 → (Ds F k B S).Pairwise (· < ·)
  | 0, B, S, _ => by rw [Ds]; exact List.pairwise_singleton _ _
  | k + 1, B, S, hB => by
    rw [Ds]
    refine fl_pw (lo := fun b => S + 2 ^ b) B 0 (fun b hb => ?_) (fun b => ?_) (fun b z hb hz => ?_)
    · by_cases q : F b = true
      · rw [if_pos q]
        exact Ds_pw k b _ (by omega)
      · rw [if_neg q]
        exact List.Pairwise.nil
    · show S + 2 ^ b ≤ S + 2 ^ (b + 1)
      rw [Nat.pow_succ]
      omega
    · show S + 2 ^ b ≤ z ∧ z < S + 2 ^ (b + 1)
      rw [Nat.pow_succ]
      by_cases q : F b = true
      · rw [if_pos q] at hz
        obtain ⟨T, e, t1, -, -⟩ := Ds_f k b _ z (by omega) hz
        omega
      · rw [if_neg q] at hz
        exact absurd hz List.not_mem_nil
theorem fnd_l {P : Nat → Bool} : ∀ {L : List Nat}, L.Pairwise (· < ·) → (L.find? P = none ∧ ∀ z, z ∈ L → ¬ P z = true) ∨ ∃ z, L.find? P = some z ∧ z ∈ L ∧ P z = true ∧ ∀ z', z' ∈ L → P z' = true → z ≤ z'
  | [], _ => Or.inl ⟨rfl, (fun z h => absurd h List.not_mem_nil)⟩
  | a :: L, h => by
    obtain ⟨h1, h2⟩ := List.pairwise_cons.mp h
    rw [List.find?_cons]
    cases e : P a
    · rcases fnd_l h2 with ⟨e2, h3⟩ | ⟨z, e2, h3, h4, h5⟩
      · refine Or.inl ⟨e2, fun z hz hp => ?_⟩
        rcases List.mem_cons.mp hz with rfl | hz
        · rw [e] at hp
          cases hp
        · exact h3 z hz hp
      · refine Or.inr ⟨z, e2, List.mem_cons_of_mem _ h3, h4, fun z' hz hp => ?_⟩
        rcases List.mem_cons.mp hz with rfl | hz
        · rw [e] at hp
          cases hp
        · exact h5 z' hz hp
    · refine Or.inr ⟨a, rfl, List.mem_cons_self, e, fun z' hz hp => ?_⟩
      rcases List.mem_cons.mp hz with rfl | hz
      · exact Nat.le_refl _
      · exact Nat.le_of_lt (h1 z' hz)
def oK (D : Dt) (K : Nat) : Option Nat := (Ds (Mn D).testBit K (dW D * dW D) 0).find? (PG (Mn D) (qs D))
theorem Mn_WW {D : Dt} (hS : CS D) {i : Nat} (h : (Mn D).testBit i = true) : i < dW D * dW D := by
  rw [Mn_t] at h
  obtain ⟨a, b⟩ := Bool.and_eq_true _ _ |>.mp h
  exact (on_t hS (of_decide_eq_true a) b).1
theorem cov_Ds {D : Dt} (hS : CS D) {T : Nat} (h : cov (qs D) (Mn D) T) : T ∈ Ds (Mn D).testBit (pc T) (dW D * dW D) 0 ∧ PG (Mn D) (qs D) T = true := by
  have := Ds_b (F := (Mn D).testBit) (pc T) (dW D * dW D) 0 T (CS_WW hS) (lt_of_t fun i hi => Mn_WW hS (h.1 i hi)) h.1 rfl
  rw [Nat.zero_add] at this
  exact ⟨this, h.2⟩
theorem lr_oK {D : Dt} (hS : CS D) {K : Nat} {r : Int32} (h : LR (qs D) (Mn D) K r) : (r = -1 ∧ oK D K = none ∧ ∀ T, cov (qs D) (Mn D) T → ¬ pc T = K) ∨ ∃ T, T < 2 ^ 25 ∧ r = Int32.ofNat T ∧ oK D K = some T := by
  have hWW := CS_WW hS
  have key := fnd_l (P := PG (Mn D) (qs D)) (Ds_pw (F := (Mn D).testBit) K (dW D * dW D) 0 hWW)
  have back : ∀ z, z ∈ Ds (Mn D).testBit K (dW D * dW D) 0 → PG (Mn D) (qs D) z = true → cov (qs D) (Mn D) z ∧ pc z = K := fun z hz hp => by
    obtain ⟨T, e, t1, t2, t3⟩ := Ds_f K _ 0 z hWW hz
    rw [Nat.zero_add] at e
    subst e
    exact ⟨⟨t2, hp⟩, t3⟩
  rcases h with ⟨h1, h2⟩ | ⟨T, h1, h2, h3, h4, h5⟩
  · refine Or.inl ⟨h1, ?_, h2⟩
    rcases key with ⟨e, -⟩ | ⟨z, -, hz, hp, -⟩
    · exact e
    · obtain ⟨b1, b2⟩ := back z hz hp
      exact absurd b2 (h2 z b1)
  · refine Or.inr ⟨T, h2, h1, ?_⟩
    obtain ⟨c1, c2⟩ := cov_Ds hS h3
    rw [h4] at c1
    rcases key with ⟨-, n⟩ | ⟨z, e, hz, hp, hl⟩
    · exact absurd c2 (n T c1)
    · obtain ⟨b1, b2⟩ := back z hz hp
      have u1 := hl T c1 c2
      have u2 := h5 z b1 b2
      rw [oK, e, show z = T by omega]
/-- first to go, by number -/
theorem O_right_ok : O_right INV := fun m h x => by
  obtain ⟨D, hS, cN, cM⟩ := pic h
  have hWW := CS_WW hS
  by_cases x0 : x < 0
  · exact ⟨-1, m, m, by rw [fN_right, if_pos x0], by rw [fM_right, fM_in, if_pos x0]; rfl, h⟩
  by_cases x1 : (1 : Int32) < x
  · exact ⟨-1, m, m, by rw [fN_right, if_neg x0, if_pos x1], by rw [fM_right, fM_in, if_neg x0, if_pos x1]; rfl, h⟩
  have sj := jM_sc D m
  have cM1 := CM_sc sj cM
  have cN1 := CN_sc hS sj cN
  have s6 : sc m (vF (jM D m) 91 (fun s => Int32.ofNat (qs D s)) (dW D * dW D)) := sc_F sj (fun _ => rfl)
  have e6 : whileN zFU fM_right_l14 (0, jM D m) = some (vF (jM D m) 91 (fun s => Int32.ofNat (qs D s)) (dW D * dW D)) := by
    have e := wn_eq fM_right_l14 (fun i => (Int32.ofNat i, vF (jM D m) 91 (fun s => Int32.ofNat (qs D s)) i)) (dW D * dW D) (vF (jM D m) 91 (fun s => Int32.ofNat (qs D s)) (dW D * dW D)) (by omega) (fun i hi => by
      have c := CM_sc (sc_F (n := i) (g := fun s => Int32.ofNat (qs D s)) (a := 91) sj (fun _ => rfl)) cM
      have h25 : i < 25 := by omega
      show fM_right_l14 (_, _) = _
      rw [fM_right_l14, WWm c, if_pos ((i_lt (by omega) (by omega)).mpr hi), zI_n (by omega) h25, zg_t, i_tn (by omega), c.2.2.2.1 i h25]
      cases o : on D i
      · rw [if_pos (show da D i < 0 by rw [on_f hS h25 o]; decide), fM_right_j50, zI_n (by omega) h25, zg_t, i_tn (by omega), inc, ← vF_s (g := fun s => Int32.ofNat (qs D s)), qs_0 o]
        rfl
      · obtain ⟨h1, h2, h3⟩ := on_t hS h25 o
        rw [h3, if_neg (i_lt0 (by have := hS.1; omega)), g_quar hS c h25 o, zb1_s, fM_right_j50, zI_n (by omega) h25, zg_t, i_tn (by omega), inc, ← vF_s (g := fun s => Int32.ofNat (qs D s))]) (by
      have c := CM_sc s6 cM
      show fM_right_l14 (_, _) = _
      rw [fM_right_l14, WWm c, if_neg (fun q => by have := (i_lt (by omega) (by omega)).mp q; omega)])
    rw [vF_0] at e
    exact e
  have c6 := CM_sc s6 cM
  have gc : ∀ v, GC (Mn D) (qs D) (wI (vF (jM D m) 91 (fun s => Int32.ofNat (qs D s)) (dW D * dW D)) 68 38 v) := fun v => ⟨Mn_lt D, fun s hs hb => by
    rw [wI_o _ v (show ¬ (91 = 68 ∧ s = 38) by omega)]
    exact vF_e _ _ _ (Mn_WW hS hb)⟩
  have gc0 : GC (Mn D) (qs D) (vF (jM D m) 91 (fun s => Int32.ofNat (qs D s)) (dW D * dW D)) := ⟨Mn_lt D, fun s hs hb => vF_e _ _ _ (Mn_WW hS hb)⟩
  generalize vF (jM D m) 91 (fun s => Int32.ofNat (qs D s)) (dW D * dW D) = m6 at *
  have sw : ∀ v, sc m (wI m6 68 38 v) := fun v => sc_w s6 rfl
  have go : ∀ (K : Nat), K < 5 → fM_goes (Int32.ofNat (Mn D)) (Int32.ofNat K) (if K = 0 then m6 else wI m6 68 38 (-5)) = some (match oK D K with | some _ => 1 | none => 0, wI m6 68 38 (oF (oK D K))) := fun K hK => by
    by_cases q : K = 0
    · rw [if_pos q]
      exact goes_ok hS c6 gc0 hK
    · rw [if_neg q, goes_ok hS (CM_sc (sw _) cM) (gc _) hK, wI_w]
      rfl
  have lr := lr_ok (Q := qs D) (m := jM D m) (fun s hs => vF_e _ _ _ hs) (fun s _ => qs_lt D s)
  have cN17 : ∀ K, K ≤ 4 → (∀ j, j < K → oK D j = none) → (∀ j, j < K → ∀ T, cov (qs D) (Mn D) T → ¬ pc T = j) → ∃ r, fN_right_l17 (jM D m) (Int32.ofNat K) = (if r < 0 then some (.inl (Int32.ofNat (K + 1))) else some (.inr (.inl (Int32.ofNat K, r)))) ∧ LR (qs D) (Mn D) K r := fun K hK _ hno => by
    obtain ⟨r, e, hr⟩ := lr K (Mn D) 8 hK (by omega) (Mn_lt D) (fun T hT => by
      refine Decidable.byContradiction fun q => ?_
      exact hno (pc T) (by omega) T hT rfl)
    refine ⟨r, ?_, hr⟩
    rw [fN_right_l17, if_neg (show ¬ (4 : Int32) < Int32.ofNat K from fun z => by have := (i_lt (a := 4) (by decide) (by omega)).mp z; omega), g_men hS cN1, zb1_s, e, zb1_s, inc]
  have noc : ∀ K, K ≤ 5 → (∀ j, j < K → oK D j = none) → ∀ j, j < K → ∀ T, cov (qs D) (Mn D) T → ¬ pc T = j := fun K hK hn j hj T hT hp => by
    obtain ⟨c1, c2⟩ := cov_Ds hS hT
    rw [hp] at c1
    have := List.find?_eq_none.mp (hn j hj) T c1
    exact this c2
  have inN : ∀ (r : Int32 × Int32 × zv_M), True := fun _ => trivial
  have xin : fM_in x 0 1 = some 1 := by rw [fM_in, if_neg x0, if_neg x1]
  have stepN : ∀ K, K ≤ 4 → (∀ j, j < K → oK D j = none) → fN_right_l17 (jM D m) (Int32.ofNat K) = match oK D K with | none => some (.inl (Int32.ofNat (K + 1))) | some T => some (.inr (.inl (Int32.ofNat K, Int32.ofNat T))) := fun K hK hn => by
    obtain ⟨r, e, hr⟩ := cN17 K hK hn (noc K (by omega) hn)
    rcases lr_oK hS hr with ⟨rfl, o, -⟩ | ⟨T, h25, rfl, o⟩
    · rw [e, o, if_pos (by decide)]
    · rw [e, o, if_neg (i_lt0 (p25 h25))]
  have oT : ∀ K T, oK D K = some T → T < 2147483648 := fun K T e => by
    have := Ds_lt _ _ _ _ (List.mem_of_find?_eq_some e)
    have h2 : 2 ^ (dW D * dW D) ≤ 2 ^ 25 := Nat.pow_le_pow_right (by decide) hWW
    omega
  have stM : ∀ K, K < 5 → fM_right_l64 (Int32.ofNat (Mn D)) (Int32.ofNat K, if K = 0 then m6 else wI m6 68 38 (-5)) = match oK D K with | none => some (.inl (Int32.ofNat (K + 1), if K + 1 = 0 then m6 else wI m6 68 38 (-5))) | some T => some (.inr (.inl (Int32.ofNat K, wI m6 68 38 (Int32.ofNat T)))) := fun K hK => by
    rw [fM_right_l64, if_pos (show Int32.ofNat K < 5 from (i_lt (b := 5) (by omega) (by decide)).mpr hK), go K hK, inc]
    cases oK D K <;> rfl
  have headN : fN_right x m = zb1 (whileN zFU (fN_right_l17 (jM D m)) 0) (fun y => match y with | .inl (a4, a5) => if x = 0 then some (a4, jM D m) else some (a5, jM D m) | .inr r => some r) := by
    rw [fN_right, if_neg x0, if_neg x1, g_join hS cN, zb1_s]
    rfl
  have headM : fM_right x (jM D m) = zb1 (whileN zFU (fM_right_l64 (Int32.ofNat (Mn D))) (0, m6)) (fun y => match y with | .inl (a12, m13) => if x = 0 then some (a12, m13) else some (m13.1 68 38, m13) | .inr r => some r) := by
    rw [fM_right, xin, zb1_s, if_neg (by decide), e6, zb1_s, g_menM hS c6, zb1_s]
    rfl
  by_cases hex : ∃ K, K < 5 ∧ ¬ oK D K = none
  · obtain ⟨K, hK, hs, hn⟩ := fst1 (p := fun K => ¬ oK D K = none) (fun n => Decidable.em _) hex
    obtain ⟨T, hT⟩ := Option.ne_none_iff_exists'.mp hs
    have hn' : ∀ j, j < K → oK D j = none := fun j hj => Decidable.not_not.mp (hn j hj)
    have eN := wn_eq (fN_right_l17 (jM D m)) (fun j => Int32.ofNat j) K (.inl (Int32.ofNat K, Int32.ofNat T)) (by omega) (fun j hj => by rw [stepN j (by omega) (fun i hi => hn' i (by omega)), hn' j hj]) (by rw [stepN K (by omega) hn', hT])
    have eM := wn_eq (fM_right_l64 (Int32.ofNat (Mn D))) (fun j => (Int32.ofNat j, if j = 0 then m6 else wI m6 68 38 (-5))) K (.inl (Int32.ofNat K, wI m6 68 38 (Int32.ofNat T))) (by omega) (fun j hj => by rw [stM j (by omega), hn' j hj]) (by rw [stM K hK, hT])
    have eN' : whileN zFU (fN_right_l17 (jM D m)) 0 = _ := eN
    have eM' : whileN zFU (fM_right_l64 (Int32.ofNat (Mn D))) (0, m6) = _ := eM
    refine ⟨if x = 0 then Int32.ofNat K else Int32.ofNat T, jM D m, wI m6 68 38 (Int32.ofNat T), ?_, ?_, INV_sc (sw _) h⟩
    · rw [headN, eN', zb1_s]
      show (if x = 0 then _ else _) = _
      by_cases q : x = 0
      · rw [if_pos q, if_pos q]
      · rw [if_neg q, if_neg q]
    · rw [headM, eM', zb1_s]
      show (if x = 0 then _ else some ((wI m6 68 38 (Int32.ofNat T)).1 68 38, _)) = _
      rw [wI_e]
      by_cases q : x = 0
      · rw [if_pos q, if_pos q]
      · rw [if_neg q, if_neg q]
  · have hn' : ∀ j, j < 5 → oK D j = none := fun j hj => Decidable.byContradiction fun q => hex ⟨j, hj, q⟩
    have eN := wn_eq (fN_right_l17 (jM D m)) (fun j => Int32.ofNat j) 5 (.inr (-5, jM D m)) (by decide) (fun j hj => by rw [stepN j (by omega) (fun i hi => hn' i (by omega)), hn' j hj]) (by rw [fN_right_l17, if_pos (by decide)])
    have eM := wn_eq (fM_right_l64 (Int32.ofNat (Mn D))) (fun j => (Int32.ofNat j, if j = 0 then m6 else wI m6 68 38 (-5))) 5 (.inr (-5, wI m6 68 38 (-5))) (by decide) (fun j hj => by rw [stM j (by omega), hn' j hj]) (by rw [fM_right_l64, if_neg (by decide), if_neg (by decide)])
    have eN' : whileN zFU (fN_right_l17 (jM D m)) 0 = _ := eN
    have eM' : whileN zFU (fM_right_l64 (Int32.ofNat (Mn D))) (0, m6) = _ := eM
    exact ⟨-5, jM D m, wI m6 68 38 (-5), by rw [headN, eN']; rfl, by rw [headM, eM']; rfl, INV_sc (sw _) h⟩
