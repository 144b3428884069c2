/-! The reference reads a clause and the text. -/
def tR (f o k : Nat) : Prop := (o = 68 ∧ (k = 12 ∨ k = 13 ∨ k = 22 ∨ k = 23 ∨ k = 24)) ∨ o = 80 ∨ (o = 79 ∧ 100 * f ≤ k ∧ k < 100 * f + 100) ∨ ((o = 75 ∨ o = 76 ∨ o = 77 ∨ o = 78) ∧ 10 * f ≤ k ∧ k < 10 * f + 10) ∨ (o = 74 ∧ k = f)
def TF (f : Nat) (m0 m : zv_M) : Prop := m.2 = m0.2 ∧ ∀ o k, ¬ tR f o k → m.1 o k = m0.1 o k
theorem TF_t {f : Nat} {m0 m m' : zv_M} (h : TF f m0 m) (h2 : TF f m m') : TF f m0 m' := ⟨h2.1.trans h.1, fun o k q => (h2.2 o k q).trans (h.2 o k q)⟩
theorem TF_w {f : Nat} {m0 m : zv_M} (h : TF f m0 m) {o k : Nat} (hs : tR f o k) (v : Int32) : TF f m0 (wI m o k v) := ⟨h.1, fun o' k' q => (wI_o _ _ (by rintro ⟨rfl, rfl⟩; exact q hs)).trans (h.2 o' k' q)⟩
theorem TF_DN {f : Nat} {m0 m m' : zv_M} {q : Nat} (h : TF f m0 m) (h2 : DN m m' q) : TF f m0 m' := TF_t h ⟨h2.1, fun o k hs => h2.2.1 o k (fun z => hs (by unfold tR; omega))⟩
theorem TF_RF {f j : Nat} {m0 m m' : zv_M} (hj : 10 * f ≤ j ∧ j < 10 * f + 10) (h : TF f m0 m) (h2 : RF (100 * f) j m m') : TF f m0 m' := TF_t h ⟨h2.1, fun o k hs => h2.2 o k (fun z => hs (by unfold sR at z; unfold tR; omega))⟩
theorem TF_RT {f n : Nat} {L : Nat → Nat} {m0 m : zv_M} (h : TF f m0 m) (h2 : RT L n m0) : RT L n m := ⟨h2.1, (h.2 68 11 (by unfold tR; omega)).trans h2.2.1, fun p hp => (h.2 73 p (by unfold tR; omega)).trans (h2.2.2 p hp)⟩
theorem TF_81 {f : Nat} {m0 m : zv_M} (h : TF f m0 m) (h2 : L81 m0) : L81 m := fun k hk => (h.2 81 k (by unfold tR; omega)).trans (h2 k hk)
/-- clause i is kept -/
def CF (f : Nat) (m : zv_M) (E : List Int32) (i : Nat) (c : Cl) : Prop := m.1 75 (10 * f + i) = Int32.ofNat c.1 ∧ (c.1 = 0 → m.1 76 (10 * f + i) = Int32.ofNat c.2.1) ∧ (c.1 = 1 ∨ c.1 = 2 → ∃ E1 E2, E = E1 ++ c.2.2.2 ++ E2 ∧ m.1 77 (10 * f + i) = Int32.ofNat (100 * f + E1.length) ∧ m.1 78 (10 * f + i) = Int32.ofNat (100 * f + E1.length + c.2.2.2.length))
def KF (f : Nat) (m : zv_M) (E : List Int32) (A : List Cl) : Prop := (∀ i, i < E.length → m.1 79 (100 * f + i) = E.getD i 0) ∧ E.length ≤ 100 ∧ ∀ i c, A[i]? = some c → CF f m E i c
def TS (f : Nat) (m0 m : zv_M) (p : Nat) (E : List Int32) (A : List Cl) : Prop := TF f m0 m ∧ m.1 68 12 = Int32.ofNat p ∧ m.1 68 22 = Int32.ofNat (100 * f + E.length) ∧ E.length ≤ p ∧ KF f m E A
theorem TS_k {f : Nat} {m0 m m' : zv_M} {p q : Nat} {E X : List Int32} {A : List Cl} {c : Cl} (h : TS f m0 m p E A) (hA : A.length < 10) (hF : TF f m0 m') (hk : ∀ o k, 75 ≤ o → o ≤ 78 → ¬ k = 10 * f + A.length → m'.1 o k = m.1 o k) (e12 : m'.1 68 12 = Int32.ofNat q) (e22 : m'.1 68 22 = Int32.ofNat (100 * f + (E ++ X).length)) (hl : (E ++ X).length ≤ q) (hq : q ≤ 100) (h79 : ∀ i, i < (E ++ X).length → m'.1 79 (100 * f + i) = (E ++ X).getD i 0) (hc : CF f m' (E ++ X) A.length c) : TS f m0 m' q (E ++ X) (A ++ [c]) := by
  obtain ⟨-, -, -, -, -, -, h5⟩ := h
  refine ⟨hF, e12, e22, hl, h79, by omega, fun i x hi => ?_⟩
  by_cases q1 : i < A.length
  · rw [List.getElem?_append_left q1] at hi
    obtain ⟨k1, k2, k3⟩ := h5 i x hi
    refine ⟨(hk _ _ (by omega) (by omega) (by omega)).trans k1, fun z => (hk _ _ (by omega) (by omega) (by omega)).trans (k2 z), fun z => ?_⟩
    obtain ⟨E1, E2, a1, a2, a3⟩ := k3 z
    exact ⟨E1, E2 ++ X, by rw [a1, List.append_assoc], (hk _ _ (by omega) (by omega) (by omega)).trans a2, (hk _ _ (by omega) (by omega) (by omega)).trans a3⟩
  · rw [List.getElem?_append_right (by omega)] at hi
    have e : i = A.length := by
      rcases Nat.lt_or_ge (i - A.length) 1 with z | z
      · omega
      · rw [List.getElem?_eq_none (by exact z)] at hi
        cases hi
    subst e
    rw [Nat.sub_self] at hi
    cases hi
    exact hc
def CR (f : Nat) (m0 : zv_M) (A : List Cl) (x : Option (Int32 × zv_M)) (R : Rs Cl) : Prop := match R with
    | .inl q => ∃ m', x = some (0, m') ∧ TF f m0 m' ∧ m'.1 68 12 = Int32.ofNat q
    | .inr (c, q) => ∃ m' E', x = some (1, m') ∧ TS f m0 m' q E' (A ++ [c])
theorem r_E {f j n : Nat} {L : Nat → Nat} {m : zv_M} (h : RT L n m) (hf : f < 6) (hj : 10 * f ≤ j ∧ j < 10 * f + 10) {q : Nat} {E : List Int32} (e12 : m.1 68 12 = Int32.ofNat q) (e22 : m.1 68 22 = Int32.ofNat (100 * f + E.length)) (h79 : ∀ i, i < E.length → m.1 79 (100 * f + i) = E.getD i 0) (hE : E.length ≤ q) (hq : q ≤ n) : match anyP L (oneR L 4) q with
    | .inl z => ∃ m', fM_takesE (Int32.ofNat j) m = some (0, m') ∧ RF (100 * f) j (wI (wI (wI m 68 23 0) 68 24 0) 77 j (Int32.ofNat (100 * f + E.length))) m' ∧ m'.1 68 12 = Int32.ofNat z
    | .inr (e, z) => ∃ m', fM_takesE (Int32.ofNat j) m = some (1, m') ∧ RSt (100 * f) j (wI (wI (wI m 68 23 0) 68 24 0) 77 j (Int32.ofNat (100 * f + E.length))) m' z (E ++ e.2) [] 0 ∧ m'.1 78 j = Int32.ofNat (100 * f + (E ++ e.2).length) := by
  have hn := h.1.1
  have pre : fM_takesE (Int32.ofNat j) m = zb1 (whileN zFU (fM_takesE_l22 (Int32.ofNat j)) (1, wI (wI (wI m 68 23 0) 68 24 0) 77 j (Int32.ofNat (100 * f + E.length)))) (fun r => some r) := by
    rw [fM_takesE, zI_n (by omega) (by omega), zg_t, i_tn (by omega), wI_o _ _ (by omega), wI_o _ _ (by omega), e22]
  rw [pre]
  generalize hM : wI (wI (wI m 68 23 0) 68 24 0) 77 j (Int32.ofNat (100 * f + E.length)) = M
  have hMx : ∀ o k, ¬ (o = 68 ∧ (k = 23 ∨ k = 24)) → ¬ (o = 77 ∧ k = j) → M.1 o k = m.1 o k := fun o k h1 h2 => by
    rw [← hM, wI_o _ _ (by omega), wI_o _ _ (by omega), wI_o _ _ (by omega)]
  have hRT : RT L n M := ⟨h.1, (hMx _ _ (by omega) (by omega)).trans h.2.1, fun p hp => (hMx _ _ (by omega) (by omega)).trans (h.2.2 p hp)⟩
  have hRS : RSt (100 * f) j M M q E [] 0 := ⟨⟨rfl, fun _ _ _ => rfl⟩, (hMx _ _ (by omega) (by omega)).trans e12, (hMx _ _ (by omega) (by omega)).trans e22, fun i hi => (hMx _ _ (by omega) (by omega)).trans (h79 i hi), by rw [← hM, wI_o _ _ (by omega), wI_o _ _ (by omega), wI_e]; rfl, fun i hi => absurd hi (Nat.not_lt_zero i), by rw [← hM, wI_o _ _ (by omega), wI_e]; rfl, by rw [List.length_nil]; omega, by omega⟩
  have ha := r_any hRT (by omega) (r_one hRT (by omega) (by omega) 4 (by decide)) (by decide) (show 0 + 4 = 4 from rfl) (s := []) (Or.inl rfl) hq hRS
  cases ea : anyP L (oneR L 4) q with
  | inl z =>
    rw [ea] at ha
    have hz := anyP_f h.1 (oneR_n h.1 4) (oneR_f h.1 4) hq ea
    obtain ⟨m', k, a1, a2, a3, a4⟩ := ha
    refine ⟨m', ?_, a3, a4⟩
    have e := a2 (zFU - (k + 1))
    rw [show zFU - (k + 1) + k + 1 = zFU by have := zn_FU (n := k + 1) (by omega); omega] at e
    rw [e, zb1_s]
  | inr z =>
    obtain ⟨e, z⟩ := z
    rw [ea] at ha
    have hz := (anyP_n (oneR_n h.1 4) ea).2
    obtain ⟨m', k, m2, b1, b2, b3, b4, b5, b6, b7, b8⟩ := ha
    obtain ⟨M', k1, k2, k3⟩ := r_end hRT (by omega) b3 b4 hz b5 b6 b7 b8
    have e23 : M'.1 68 23 = 0 := k1.2.2.2.2.1
    rw [e23, if_pos rfl] at k3
    refine ⟨M', ?_, k1, k2⟩
    have e := b2 (zFU - (k + 1) + 1)
    rw [show zFU - (k + 1) + 1 + k = zFU by have := zn_FU (n := k + 1) (by omega); omega, whileN, k3] at e
    rw [e, zb1_s]
theorem r_clause {f n : Nat} {L : Nat → Nat} {m0 m : zv_M} (h : RT L n m0) (h8 : L81 m0) (hf : f < 6) {p : Nat} {E : List Int32} {A : List Cl} (hT : TS f m0 m p E A) (hA : A.length < 10) (hp : p ≤ n) : CR f m0 A (fM_takesClause (Int32.ofNat (10 * f + A.length)) m) (pC L p) := by
  have hn := h.1.1
  have hTF := hT.1
  have hR := TF_RT hTF h
  have hh := r_head (b := 0) (j := 10 * f + A.length) hR (TF_81 hTF h8) (by omega) hT.2.1 hp
  have hlt := hdC_lt (L p)
  have hF1 : TF f m0 (wI m 75 (10 * f + A.length) (Int32.ofNat (hdC (L p)))) := TF_w hTF (by unfold tR; omega) _
  rw [fM_takesClause]
  unfold pC
  cases ew : pW L (wds (hdC (L p))) p with
  | inl q =>
    rw [ew] at hh
    obtain ⟨m2, a1, a2⟩ := hh
    exact ⟨m2, by rw [a1, zb2_s, if_pos rfl], TF_DN hF1 a2, a2.2.2⟩
  | inr q =>
    rw [ew] at hh
    obtain ⟨m2, a1, a2⟩ := hh
    have hF2 := TF_DN hF1 a2
    have hq := pW_n h.1 _ _ _ (wds_c _ hlt) hp ew
    have e75 : m2.1 75 (10 * f + A.length) = Int32.ofNat (hdC (L p)) := (a2.2.1 _ _ (by omega)).trans (wI_e _ _ _ _)
    have hx : ∀ o k, ¬ (o = 68 ∧ (k = 12 ∨ k = 13)) → ¬ (o = 75 ∧ k = 10 * f + A.length) → m2.1 o k = m.1 o k := fun o k h1 h2 => (a2.2.1 o k h1).trans (wI_o _ _ (by omega))
    have e22 : m2.1 68 22 = Int32.ofNat (100 * f + E.length) := (hx _ _ (by omega) (by omega)).trans hT.2.2.1
    have h79 : ∀ i, i < E.length → m2.1 79 (100 * f + i) = E.getD i 0 := fun i hi => (hx _ _ (by omega) (by omega)).trans (hT.2.2.2.2.1 i hi)
    have hEp := hT.2.2.2.1
    have eA : E ++ [] = E := List.append_nil E
    rw [a1, zb2_s, if_neg (by decide), zI_n (by omega) (by omega), zg_t, i_tn (by omega), e75]
    show CR f m0 A _ (if hdC (L p) = 0 then (match pN L q with
      | .inl z => (.inl z : Rs Cl)
      | .inr (v, z) => .inr ((0, v, e00), z)) else if hdC (L p) < 3 then (match anyP L (oneR L 4) q with
      | .inl z => .inl z
      | .inr (e, z) => .inr ((hdC (L p), 0, e), z)) else .inr ((hdC (L p), 0, e00), q))
    by_cases q0 : hdC (L p) = 0
    · have hN := r_num (b := 0) (j := 0) (TF_RT hF2 h) (m := m2) ⟨rfl, fun _ _ _ => rfl⟩ a2.2.2 hq.2
      rw [if_pos q0, q0, if_neg (by decide), zg_t, if_pos (show Int32.ofNat 0 = 0 from rfl)]
      cases eN : pN L q with
      | inl z =>
        rw [eN] at hN
        obtain rfl := pN_f eN
        exact ⟨m2, by rw [hN, zb2_s, if_pos rfl], hF2, a2.2.2⟩
      | inr z =>
        obtain ⟨v, z⟩ := z
        rw [eN] at hN
        obtain ⟨m3, b1, b2, b3⟩ := hN
        obtain ⟨n1, n2, n3⟩ := pN_n h.1 eN
        have hy : ∀ o k, ¬ (o = 68 ∧ (k = 12 ∨ k = 13)) → ¬ (o = 76 ∧ k = 10 * f + A.length) → (wI m3 76 (10 * f + A.length) (Int32.ofNat v)).1 o k = m2.1 o k := fun o k h1 h2 => (wI_o _ _ (by omega)).trans (b2.2.1 o k h1)
        refine ⟨wI m3 76 (10 * f + A.length) (Int32.ofNat v), E ++ [], by rw [b1, zb2_s, if_neg (by decide), zg_t, b3], ?_⟩
        refine TS_k hT hA (TF_w (TF_DN hF2 b2) (by unfold tR; omega) _) (fun o k h1 h2 h3 => (hy o k (by omega) (by omega)).trans (hx o k (by omega) (by omega))) ((wI_o _ _ (by omega)).trans b2.2.2) ?_ ?_ (by omega) (fun i hi => ?_) ⟨?_, fun _ => wI_e _ _ _ _, fun z => absurd z (show ¬ ((0 : Nat) = 1 ∨ (0 : Nat) = 2) by decide)⟩
        · rw [eA]
          exact (hy _ _ (by omega) (by omega)).trans e22
        · rw [eA]
          omega
        · rw [eA] at hi ⊢
          exact (hy _ _ (by omega) (by omega)).trans (h79 i hi)
        · exact (hy _ _ (by omega) (by omega)).trans (q0 ▸ e75)
    · rw [if_neg q0]
      by_cases q3 : hdC (L p) < 3
      · rw [if_pos q3, if_neg (show ¬ (2 : Int32) < Int32.ofNat (hdC (L p)) from fun z => by have := (i_lt (a := 2) (by decide) (by omega)).mp z; omega), zg_t, if_neg (show ¬ Int32.ofNat (hdC (L p)) = 0 from fun z => q0 ((i_eq (b := 0) (by omega) (by decide)).mp z))]
        have hE := r_E (j := 10 * f + A.length) (TF_RT hF2 h) hf (by omega) a2.2.2 e22 h79 (by omega) hq.2
        have hF3 : TF f m0 (wI (wI (wI m2 68 23 0) 68 24 0) 77 (10 * f + A.length) (Int32.ofNat (100 * f + E.length))) := TF_w (TF_w (TF_w hF2 (by unfold tR; omega) _) (by unfold tR; omega) _) (by unfold tR; omega) _
        cases ea : anyP L (oneR L 4) q with
        | inl z =>
          rw [ea] at hE
          obtain ⟨m', b1, b2, b3⟩ := hE
          exact ⟨m', by rw [b1, zb2_s]; rfl, TF_RF (by omega) hF3 b2, b3⟩
        | inr z =>
          obtain ⟨e, z⟩ := z
          rw [ea] at hE
          obtain ⟨m', b1, b2, b3⟩ := hE
          have hz := anyP_n (oneR_n h.1 4) ea
          obtain ⟨c1, c2, c3, c4, -, -, -, c8, c9⟩ := b2
          have hy : ∀ o k, 75 ≤ o → o ≤ 77 → ¬ (o = 77 ∧ k = 10 * f + A.length) → m'.1 o k = m2.1 o k := fun o k h1 h2 h3 => by
            rw [c1.2 o k (by unfold sR; omega), wI_o _ _ (by omega), wI_o _ _ (by omega), wI_o _ _ (by omega)]
          have hy78 : ∀ k, ¬ k = 10 * f + A.length → m'.1 78 k = m2.1 78 k := fun k h3 => by
            rw [c1.2 78 k (by unfold sR; omega), wI_o _ _ (by omega), wI_o _ _ (by omega), wI_o _ _ (by omega)]
          refine ⟨m', E ++ e.2, by rw [b1, zb2_s]; rfl, ?_⟩
          refine TS_k hT hA (TF_RF (by omega) hF3 c1) (fun o k h1 h2 h3 => ?_) c2 c3 (by rw [List.length_nil] at c8; omega) (by omega) c4 ⟨?_, fun z => absurd z q0, fun _ => ⟨E, [], (List.append_nil _).symm, ?_, ?_⟩⟩
          · rcases (show o ≤ 77 ∨ o = 78 by omega) with z | rfl
            · exact (hy o k h1 z (by omega)).trans (hx o k (by omega) (by omega))
            · exact (hy78 k h3).trans (hx 78 k (by omega) (by omega))
          · exact (hy 75 _ (by omega) (by omega) (by omega)).trans e75
          · rw [c1.2 77 _ (by unfold sR; omega), wI_e]
          · rw [b3, List.length_append, Nat.add_assoc]
      · rw [if_neg q3, if_pos (show (2 : Int32) < Int32.ofNat (hdC (L p)) from (i_lt (a := 2) (by decide) (by omega)).mpr (by omega))]
        refine ⟨m2, E ++ [], rfl, TS_k hT hA hF2 (fun o k h1 h2 h3 => hx o k (by omega) (by omega)) a2.2.2 ?_ ?_ (by omega) (fun i hi => ?_) ⟨e75, fun z => absurd z q0, fun z => ?_⟩⟩
        · rw [eA]
          exact e22
        · rw [eA]
          omega
        · rw [eA] at hi ⊢
          exact h79 i hi
        · have z : hdC (L p) = 1 ∨ hdC (L p) = 2 := z
          omega
def GT (f : Nat) (m0 : zv_M) (x : Option (Int32 × zv_M)) (R : Nat ⊕ List Cl) : Prop := match R with
    | .inl q => ∃ m', x = some (0, m') ∧ TF f m0 m' ∧ m'.1 68 12 = Int32.ofNat q
    | .inr B => ∃ m' E, x = some (1, m') ∧ TF f m0 m' ∧ KF f m' E B ∧ m'.1 74 f = Int32.ofNat B.length ∧ B.length ≤ 10
theorem KF_74 {f k : Nat} {m : zv_M} {E : List Int32} {A : List Cl} (h : KF f m E A) (v : Int32) : KF f (wI m 74 k v) E A := by
  obtain ⟨h1, h2, h3⟩ := h
  refine ⟨fun i hi => (wI_o _ _ (by omega)).trans (h1 i hi), h2, fun i c hc => ?_⟩
  obtain ⟨k1, k2, k3⟩ := h3 i c hc
  refine ⟨(wI_o _ _ (by omega)).trans k1, fun z => (wI_o _ _ (by omega)).trans (k2 z), fun z => ?_⟩
  obtain ⟨E1, E2, a1, a2, a3⟩ := k3 z
  exact ⟨E1, E2, a1, (wI_o _ _ (by omega)).trans a2, (wI_o _ _ (by omega)).trans a3⟩
theorem r_text {f n : Nat} {L : Nat → Nat} {m0 : zv_M} (h : RT L n m0) (h8 : L81 m0) (hf : f < 6) : ∀ (k fu : Nat) (A : List Cl) (E : List Int32) (p : Nat) (m : zv_M), A.length + k = 9 → k + 2 < fu → TS f m0 m p E A → p ≤ n → GT f m0 (whileN fu (fM_goesText_l15 (Int32.ofNat f)) (Int32.ofNat A.length, m)) (pL L (k + 1) A p) := by
  have o := LT_or h.1
  have hn := h.1.1
  intro k
  induction k with
  | zero =>
    intro fu A E p m hA hfu hT hp
    obtain ⟨fu, rfl⟩ : ∃ j, fu = j + 1 := ⟨fu - 1, by omega⟩
    have hc := r_clause h h8 hf hT (by omega) hp
    have e10 : (10 : Int32) * Int32.ofNat f = Int32.ofNat (10 * f) := i_mu 10 f
    rw [pL_s, whileN, fM_goesText_l15, e10, i_pl]
    cases ec : pC L p with
    | inl q =>
      rw [ec] at hc
      obtain ⟨m', a1, a2, a3⟩ := hc
      exact ⟨m', by rw [a1, zb2_s, if_pos rfl], a2, a3⟩
    | inr q =>
      obtain ⟨c, q⟩ := q
      rw [ec] at hc
      obtain ⟨m', E', a1, a2⟩ := hc
      have hq := (pC_n h.1 hp ec).2
      have e11 : m'.1 68 11 = Int32.ofNat n := (TF_RT a2.1 h).2.1
      have hF : TF f m0 (wI m' 74 f (Int32.ofNat (A.length + 1))) := TF_w a2.1 (by unfold tR; omega) _
      have i12 : (wI m' 74 f (Int32.ofNat (A.length + 1))).1 68 12 = Int32.ofNat q := (wI_o _ _ (by omega)).trans a2.2.1
      have i11 : (wI m' 74 f (Int32.ofNat (A.length + 1))).1 68 11 = Int32.ofNat n := (wI_o _ _ (by omega)).trans e11
      rw [a1, zb2_s, if_neg (by decide), zI_n (by omega) hf, zg_t, i_tn (by omega), inc, i12, i11]
      show GT f m0 _ (pLm L 0 (A ++ [c]) q)
      unfold pLm
      by_cases q1 : q = n
      · rw [if_pos (q1 ▸ rfl), if_pos (h.1.2.2 q (by omega))]
        exact ⟨_, E', rfl, hF, KF_74 a2.2.2.2.2 _, (wI_e _ _ _ _).trans (by rw [List.length_append]; rfl), by rw [List.length_append, show [c].length = 1 from rfl]; omega⟩
      · have := h.1.2.1 q (by omega)
        rw [if_neg (fun z => q1 ((i_eq (by omega) (by omega)).mp z)), if_neg (show ¬ L q = 200 by omega), if_pos rfl, if_pos (show Int32.ofNat (A.length + 1) = 10 by rw [show A.length + 1 = 10 by omega]; rfl)]
        exact ⟨_, rfl, hF, i12⟩
  | succ k ih =>
    intro fu A E p m hA hfu hT hp
    obtain ⟨fu, rfl⟩ : ∃ j, fu = j + 1 := ⟨fu - 1, by omega⟩
    have hc := r_clause h h8 hf hT (by omega) hp
    have e10 : (10 : Int32) * Int32.ofNat f = Int32.ofNat (10 * f) := i_mu 10 f
    rw [pL_s, whileN, fM_goesText_l15, e10, i_pl]
    cases ec : pC L p with
    | inl q =>
      rw [ec] at hc
      obtain ⟨m', a1, a2, a3⟩ := hc
      exact ⟨m', by rw [a1, zb2_s, if_pos rfl], a2, a3⟩
    | inr q =>
      obtain ⟨c, q⟩ := q
      rw [ec] at hc
      obtain ⟨m', E', a1, a2⟩ := hc
      have hq := (pC_n h.1 hp ec).2
      have e11 : m'.1 68 11 = Int32.ofNat n := (TF_RT a2.1 h).2.1
      have hF : TF f m0 (wI m' 74 f (Int32.ofNat (A.length + 1))) := TF_w a2.1 (by unfold tR; omega) _
      have i12 : (wI m' 74 f (Int32.ofNat (A.length + 1))).1 68 12 = Int32.ofNat q := (wI_o _ _ (by omega)).trans a2.2.1
      have i11 : (wI m' 74 f (Int32.ofNat (A.length + 1))).1 68 11 = Int32.ofNat n := (wI_o _ _ (by omega)).trans e11
      have hln : (A ++ [c]).length = A.length + 1 := by rw [List.length_append]; rfl
      rw [a1, zb2_s, if_neg (by decide), zI_n (by omega) hf, zg_t, i_tn (by omega), inc, i12, i11]
      show GT f m0 _ (pLm L (k + 1) (A ++ [c]) q)
      unfold pLm
      by_cases q1 : q = n
      · rw [if_pos (q1 ▸ rfl), if_pos (h.1.2.2 q (by omega))]
        exact ⟨_, E', rfl, hF, KF_74 a2.2.2.2.2 _, (wI_e _ _ _ _).trans (by rw [hln]), by omega⟩
      · have hq2 := h.1.2.1 q (by omega)
        rw [if_neg (fun z => q1 ((i_eq (by omega) (by omega)).mp z)), if_neg (show ¬ L q = 200 by omega), if_neg (show ¬ k + 1 = 0 by omega), if_neg (show ¬ Int32.ofNat (A.length + 1) = 10 from fun z => by have := (i_eq (b := 10) (by omega) (by decide)).mp z; omega)]
        have ht : fM_takes 59 (wI m' 74 f (Int32.ofNat (A.length + 1))) = some (if L q = 59 then (1, wI (wI m' 74 f (Int32.ofNat (A.length + 1))) 68 12 (Int32.ofNat (q + 1))) else (0, wI m' 74 f (Int32.ofNat (A.length + 1)))) := r_takes (b := 0) (j := 0) (TF_RT hF h) ⟨rfl, fun _ _ _ => rfl⟩ (c := 59) i12 (by omega) (by decide)
        rw [ht]
        by_cases q3 : L q = 59
        · rw [if_pos q3, if_pos q3, zb2_s, if_neg (by decide)]
          have hT2 : TS f m0 (wI (wI m' 74 f (Int32.ofNat (A.length + 1))) 68 12 (Int32.ofNat (q + 1))) (q + 1) E' (A ++ [c]) := by
            have hk := KF_74 (k := f) a2.2.2.2.2 (Int32.ofNat (A.length + 1))
            refine ⟨TF_w hF (by unfold tR; omega) _, wI_e _ _ _ _, (wI_o _ _ (by omega)).trans ((wI_o _ _ (by omega)).trans a2.2.2.1), by have := a2.2.2.2.1; omega, fun i hi => (wI_o _ _ (by omega)).trans (hk.1 i hi), hk.2.1, fun i c hc => ?_⟩
            obtain ⟨k1, k2, k3⟩ := hk.2.2 i c hc
            refine ⟨(wI_o _ _ (by omega)).trans k1, fun z => (wI_o _ _ (by omega)).trans (k2 z), fun z => ?_⟩
            obtain ⟨E1, E2, a1, a2, a3⟩ := k3 z
            exact ⟨E1, E2, a1, (wI_o _ _ (by omega)).trans a2, (wI_o _ _ (by omega)).trans a3⟩
          have := ih fu (A ++ [c]) E' (q + 1) _ (by omega) (by omega) hT2 (by omega)
          rw [hln] at this
          exact this
        · rw [if_neg q3, if_neg q3, zb2_s, if_pos rfl]
          exact ⟨_, rfl, hF, i12⟩
theorem r_goes {f n : Nat} {L : Nat → Nat} {m : zv_M} (h : RT L n m) (h8 : L81 m) (hf : f < 6) : GT f m (fM_goesText (Int32.ofNat f) m) (pL L 10 [] 0) := by
  have e100 : (100 : Int32) * Int32.ofNat f = Int32.ofNat (100 * f) := i_mu 100 f
  have hT : TS f m (wI (wI m 68 12 0) 68 22 (Int32.ofNat (100 * f))) 0 [] [] := by
    refine ⟨TF_w (TF_w ⟨rfl, fun _ _ _ => rfl⟩ (by unfold tR; omega) _) (by unfold tR; omega) _, (wI_o _ _ (by omega)).trans (wI_e _ _ _ _), wI_e _ _ _ _, Nat.le_refl _, fun i hi => absurd hi (Nat.not_lt_zero i), Nat.zero_le _, fun i c hc => ?_⟩
    rw [List.getElem?_nil] at hc
    cases hc
  have := r_text h h8 hf 9 zFU [] [] 0 _ rfl (zn_FU (by decide)) hT (Nat.zero_le _)
  rw [fM_goesText, e100]
  show GT f m (zb1 (whileN zFU _ (Int32.ofNat 0, _)) _) _
  have this : GT f m (whileN zFU (fM_goesText_l15 (Int32.ofNat f)) (Int32.ofNat 0, wI (wI m 68 12 0) 68 22 (Int32.ofNat (100 * f)))) (pL L 10 [] 0) := this
  cases e : pL L 10 [] 0 with
  | inl q =>
    rw [e] at this
    obtain ⟨m', a1, a2⟩ := this
    exact ⟨m', by rw [a1, zb1_s], a2⟩
  | inr B =>
    rw [e] at this
    obtain ⟨m', E, a1, a2⟩ := this
    exact ⟨m', E, by rw [a1, zb1_s], a2⟩
