/-! The reference reads: what it has so far. -/
def sR (b j o k : Nat) : Prop := (o = 68 ∧ (k = 12 ∨ k = 13 ∨ k = 22 ∨ k = 23 ∨ k = 24)) ∨ o = 80 ∨ (o = 79 ∧ b ≤ k ∧ k < b + 100) ∨ (o = 78 ∧ k = j)
def RF (b j : Nat) (m0 m : zv_M) : Prop := m.2 = m0.2 ∧ ∀ o k, ¬ sR b j o k → m.1 o k = m0.1 o k
theorem RF_w {b j : Nat} {m0 m : zv_M} (h : RF b j m0 m) {o k : Nat} (hs : sR b j o k) (v : Int32) : RF b j m0 (wI m o k v) := ⟨h.1, fun o' k' q => (wI_o _ _ (by rintro ⟨rfl, rfl⟩; exact q hs)).trans (h.2 o' k' q)⟩
/-- the text in the reference's cells -/
def RT (L : Nat → Nat) (n : Nat) (m : zv_M) : Prop := LT L n ∧ m.1 68 11 = Int32.ofNat n ∧ ∀ p, p < n → m.1 73 p = cI (L p)
theorem sR_11 {b j : Nat} : ¬ sR b j 68 11 := by unfold sR; omega
theorem sR_73 {b j p : Nat} : ¬ sR b j 73 p := by unfold sR; omega
theorem sR_m {b j k : Nat} (h : k = 12 ∨ k = 13 ∨ k = 22 ∨ k = 23 ∨ k = 24) : sR b j 68 k := Or.inl ⟨rfl, h⟩
/-- so far: place p, emitted E, pile s, depth d -/
def RSt (b j : Nat) (m0 m : zv_M) (p : Nat) (E s : List Int32) (d : Nat) : Prop := RF b j m0 m ∧ m.1 68 12 = Int32.ofNat p ∧ m.1 68 22 = Int32.ofNat (b + E.length) ∧ (∀ i, i < E.length → m.1 79 (b + i) = E.getD i 0) ∧ m.1 68 23 = Int32.ofNat s.length ∧ (∀ i, i < s.length → m.1 80 i = s.getD i 0) ∧ m.1 68 24 = Int32.ofNat d ∧ E.length + s.length ≤ p ∧ p ≤ 100
theorem gD_l {l l2 : List Int32} {i : Nat} (h : i < l.length) : (l ++ l2).getD i 0 = l.getD i 0 := by
  rw [List.getD_eq_getElem?_getD, List.getD_eq_getElem?_getD, List.getElem?_append_left h]
theorem gD_e (l : List Int32) (v : Int32) : (l ++ [v]).getD l.length 0 = v := by
  rw [List.getD_eq_getElem?_getD, List.getElem?_append_right (Nat.le_refl _), Nat.sub_self]
  rfl
theorem ln_1 (l : List Int32) (v : Int32) : (l ++ [v]).length = l.length + 1 := by rw [List.length_append]; rfl
theorem r_next {L : Nat → Nat} {n b j : Nat} {m0 m : zv_M} (h : RT L n m0) (hf : RF b j m0 m) {p : Nat} (hp : p ≤ n) (e : m.1 68 12 = Int32.ofNat p) : fM_next m = some (cI (L p)) := by
  obtain ⟨h1, h2, h3⟩ := h
  have hn := h1.1
  rw [fM_next, e, hf.2 68 11 sR_11, h2]
  by_cases q : p < n
  · rw [if_pos ((i_lt (by omega) (by omega)).mpr q), zI_n (by omega) (by omega), zg_t, i_tn (by omega), hf.2 73 p sR_73, h3 p q]
  · rw [if_neg (fun z => q ((i_lt (by omega) (by omega)).mp z)), cI, if_pos (h1.2.2 p (by omega))]
/-- cells that are no part of it -/
theorem RS_f {b j : Nat} {m0 m : zv_M} {p d : Nat} {E s : List Int32} (h : RSt b j m0 m p E s d) {o k : Nat} (hs : (o = 68 ∧ k = 13) ∨ (o = 78 ∧ k = j)) (v : Int32) : RSt b j m0 (wI m o k v) p E s d := by
  obtain ⟨h1, h2, h3, h4, h5, h6, h7, h8⟩ := h
  exact ⟨RF_w h1 (by unfold sR; omega) v, (wI_o _ _ (by omega)).trans h2, (wI_o _ _ (by omega)).trans h3, fun i hi => (wI_o _ _ (by omega)).trans (h4 i hi), (wI_o _ _ (by omega)).trans h5, fun i hi => (wI_o _ _ (by omega)).trans (h6 i hi), (wI_o _ _ (by omega)).trans h7, h8⟩
theorem RS_p {b j : Nat} {m0 m : zv_M} {p d : Nat} {E s : List Int32} (h : RSt b j m0 m p E s d) {q : Nat} (hq : p ≤ q) (hq2 : q ≤ 100) : RSt b j m0 (wI m 68 12 (Int32.ofNat q)) q E s d := by
  obtain ⟨h1, h2, h3, h4, h5, h6, h7, h8⟩ := h
  exact ⟨RF_w h1 (sR_m (by omega)) _, wI_e _ _ _ _, (wI_o _ _ (by omega)).trans h3, fun i hi => (wI_o _ _ (by omega)).trans (h4 i hi), (wI_o _ _ (by omega)).trans h5, fun i hi => (wI_o _ _ (by omega)).trans (h6 i hi), (wI_o _ _ (by omega)).trans h7, by omega⟩
theorem RS_d {b j : Nat} {m0 m : zv_M} {p d : Nat} {E s : List Int32} (h : RSt b j m0 m p E s d) (d' : Nat) : RSt b j m0 (wI m 68 24 (Int32.ofNat d')) p E s d' := by
  obtain ⟨h1, h2, h3, h4, h5, h6, h7, h8⟩ := h
  exact ⟨RF_w h1 (sR_m (by omega)) _, (wI_o _ _ (by omega)).trans h2, (wI_o _ _ (by omega)).trans h3, fun i hi => (wI_o _ _ (by omega)).trans (h4 i hi), (wI_o _ _ (by omega)).trans h5, fun i hi => (wI_o _ _ (by omega)).trans (h6 i hi), wI_e _ _ _ _, h8⟩
theorem RS_pop {b j : Nat} {m0 m : zv_M} {p d : Nat} {E s : List Int32} {x : Int32} (h : RSt b j m0 m p E (s ++ [x]) d) : RSt b j m0 (wI m 68 23 (Int32.ofNat s.length)) p E s d := by
  obtain ⟨h1, h2, h3, h4, h5, h6, h7, h8⟩ := h
  rw [ln_1] at h6 h8
  exact ⟨RF_w h1 (sR_m (by omega)) _, (wI_o _ _ (by omega)).trans h2, (wI_o _ _ (by omega)).trans h3, fun i hi => (wI_o _ _ (by omega)).trans (h4 i hi), wI_e _ _ _ _, fun i hi => (wI_o _ _ (by omega)).trans ((h6 i (by omega)).trans (gD_l hi)), (wI_o _ _ (by omega)).trans h7, by omega⟩
theorem RS_top {b j : Nat} {m0 m : zv_M} {p d : Nat} {E s : List Int32} {x : Int32} (h : RSt b j m0 m p E (s ++ [x]) d) : m.1 68 23 = Int32.ofNat (s.length + 1) ∧ m.1 80 s.length = x ∧ s.length < 100 := by
  obtain ⟨h1, h2, h3, h4, h5, h6, h7, h8⟩ := h
  rw [ln_1] at h5 h6 h8
  exact ⟨h5, (h6 s.length (by omega)).trans (gD_e s x), by omega⟩
theorem RS_push {b j : Nat} {m0 m : zv_M} {p d : Nat} {E s : List Int32} (h : RSt b j m0 m p E s d) (hp : p < 100) (x : Int32) : RSt b j m0 (wI (wI (wI m 80 s.length x) 68 23 (Int32.ofNat (s.length + 1))) 68 12 (Int32.ofNat (p + 1))) (p + 1) E (s ++ [x]) d := by
  obtain ⟨h1, h2, h3, h4, h5, h6, h7, h8⟩ := h
  refine ⟨RF_w (RF_w (RF_w h1 (Or.inr (Or.inl rfl)) _) (sR_m (by omega)) _) (sR_m (by omega)) _, wI_e _ _ _ _, ?_, fun i hi => ?_, ?_, fun i hi => ?_, ?_, ?_⟩
  · rw [wI_o _ _ (by omega), wI_o _ _ (by omega), wI_o _ _ (by omega), h3]
  · rw [wI_o _ _ (by omega), wI_o _ _ (by omega), wI_o _ _ (by omega), h4 i hi]
  · rw [wI_o _ _ (by omega), wI_e, ln_1]
  · rw [wI_o _ _ (by omega), wI_o _ _ (by omega)]
    rw [ln_1] at hi
    by_cases q : i = s.length
    · subst q
      rw [wI_e, gD_e]
    · rw [wI_o _ _ (by omega), h6 i (by omega), gD_l (by omega)]
  · rw [wI_o _ _ (by omega), wI_o _ _ (by omega), wI_o _ _ (by omega), h7]
  · rw [ln_1]
    omega
def mE (b l : Nat) (m : zv_M) (v : Int32) : zv_M := wI (wI m 79 (b + l) v) 68 22 (Int32.ofNat (b + l + 1))
theorem r_emits {b j : Nat} {m0 m : zv_M} {p d : Nat} {E s : List Int32} (hb : b ≤ 500) (h : RSt b j m0 m p E s d) (hE : E.length < 100) (v : Int32) : fM_emits v m = some (mE b E.length m v) := by
  obtain ⟨h1, h2, h3, h4, h5, h6, h7, h8, h9⟩ := h
  rw [fM_emits, h3, zI_n (by omega) (by omega), zg_t, i_tn (by omega), wI_o _ _ (by omega), h3, inc]
  rfl
theorem RS_e {b j : Nat} {m0 m : zv_M} {p d : Nat} {E s : List Int32} (h : RSt b j m0 m p E s d) (hE : E.length + 1 + s.length ≤ p) (v : Int32) : RSt b j m0 (mE b E.length m v) p (E ++ [v]) s d := by
  obtain ⟨h1, h2, h3, h4, h5, h6, h7, h8, h9⟩ := h
  unfold mE
  refine ⟨RF_w (RF_w h1 (Or.inr (Or.inr (Or.inl ⟨rfl, by omega, by omega⟩))) _) (sR_m (by omega)) _, ?_, ?_, fun i hi => ?_, ?_, fun i hi => ?_, ?_, ?_⟩
  · rw [wI_o _ _ (by omega), wI_o _ _ (by omega), h2]
  · rw [wI_e, ln_1, Nat.add_assoc]
  · rw [ln_1] at hi
    rw [wI_o _ _ (by omega)]
    by_cases q : i = E.length
    · subst q
      rw [wI_e, gD_e]
    · rw [wI_o _ _ (by omega), h4 i (by omega), gD_l (by omega)]
  · rw [wI_o _ _ (by omega), wI_o _ _ (by omega), h5]
  · rw [wI_o _ _ (by omega), wI_o _ _ (by omega), h6 i hi]
  · rw [wI_o _ _ (by omega), wI_o _ _ (by omega), h7]
  · rw [ln_1]
    omega
theorem mE_w (b l : Nat) (m : zv_M) (v x : Int32) {k : Nat} (hk : k = 23 ∨ k = 24) : wI (mE b l m v) 68 k x = mE b l (wI m 68 k x) v := by
  unfold mE
  rw [wI_c (o := 68) (k := 22) (o' := 68) (k' := k) (by omega), wI_c (o := 79) (k := b + l) (o' := 68) (k' := k) (by omega)]
theorem mE_x (b l : Nat) (m : zv_M) (v : Int32) {k : Nat} (hk : ¬ k = 22) : (mE b l m v).1 68 k = m.1 68 k := by
  rw [mE, wI_o _ _ (by omega), wI_o _ _ (by omega)]
/-! whole -/
def WR (c : Nat) (m m' : zv_M) : Prop := ∀ fu, c < fu → whileN fu fM_whole_l0 m = some m'
theorem WR_w {c : Nat} {m m' : zv_M} (h : WR c m m') (hc : c < 1000) : fM_whole m = some m' := by
  rw [fM_whole, h zFU (zn_FU (by omega)), zb1_s]
theorem WR_0 {b j : Nat} {m0 m : zv_M} {p d : Nat} {E s : List Int32} (h : RSt b j m0 m p E s d) (hs : s = [] ∨ ∃ t x, s = t ++ [x] ∧ ¬ x = (33 : Int32)) : WR 0 m m := by
  intro fu hf
  obtain ⟨fu, rfl⟩ : ∃ i, fu = i + 1 := ⟨fu - 1, by omega⟩
  rcases hs with rfl | ⟨t, x, rfl, hx⟩
  · have e : m.1 68 23 = 0 := h.2.2.2.2.1
    rw [whileN, fM_whole_l0, e, if_neg (by decide)]
  · obtain ⟨e1, e2, e3⟩ := RS_top h
    rw [whileN, fM_whole_l0, e1, if_pos (show (0 : Int32) < Int32.ofNat (t.length + 1) from (i_lt (a := 0) (by decide) (by omega)).mpr (by omega)), n_one _ (by omega) (by omega), Nat.add_sub_cancel, zI_n (by omega) (by omega), zg_t, i_tn (by omega), e2, if_neg hx]
theorem WR_33 {b j : Nat} {m0 m : zv_M} {p d : Nat} {E s : List Int32} (hb : b ≤ 500) (h : RSt b j m0 m p E (s ++ [33]) (d + 1)) (hd : d < 100) : ∃ m', RSt b j m0 m' p (E ++ [-33]) s d ∧ ∀ c m'', WR c m' m'' → WR (c + 1) m m'' := by
  obtain ⟨e1, e2, e3⟩ := RS_top h
  have hl : E.length + (s.length + 1) ≤ p := by
    have := h.2.2.2.2.2.2.2.1
    rwa [ln_1] at this
  have hp100 := h.2.2.2.2.2.2.2.2
  have e4 : m.1 68 24 = Int32.ofNat (d + 1) := h.2.2.2.2.2.2.1
  refine ⟨_, RS_e (RS_d (RS_pop h) d) (by omega) (-33), ?_⟩
  intro c m'' hw fu hf
  obtain ⟨fu, rfl⟩ : ∃ i, fu = i + 1 := ⟨fu - 1, by omega⟩
  rw [whileN, fM_whole_l0, e1, if_pos (show (0 : Int32) < Int32.ofNat (s.length + 1) from (i_lt (a := 0) (by decide) (by omega)).mpr (by omega)), n_one _ (by omega) (by omega), Nat.add_sub_cancel, zI_n (by omega) (by omega), zg_t, i_tn (by omega), e2, if_pos rfl, r_emits hb h (by omega), zb1_s, mE_x _ _ _ _ (by decide), e1, n_one _ (by omega) (by omega), Nat.add_sub_cancel, wI_o _ _ (by decide), mE_x _ _ _ _ (by decide), e4, n_one _ (by omega) (by omega), Nat.add_sub_cancel, mE_w _ _ _ _ _ (Or.inl rfl), mE_w _ _ _ _ _ (Or.inr rfl)]
  exact hw fu (by omega)
/-! settle -/
def SR (c : Nat) (v : Int32) (m m' : zv_M) : Prop := ∀ fu, c < fu → whileN fu (fM_settle_l0 v) m = some m'
theorem SR_s {c : Nat} {v : Int32} {m m' : zv_M} (h : SR c v m m') (hc : c < 1000) : fM_settle v m = some m' := by
  rw [fM_settle, h zFU (zn_FU (by omega)), zb1_s]
theorem SR_0 {b j : Nat} {m0 m : zv_M} {p d : Nat} {E s : List Int32} {v : Int32} (h : RSt b j m0 m p E s d) (hs : s = [] ∨ ∃ t x, s = t ++ [x] ∧ ¬ x = (38 : Int32) ∧ (¬ x = 124 ∨ v = 38)) : SR 0 v m m := by
  intro fu hf
  obtain ⟨fu, rfl⟩ : ∃ i, fu = i + 1 := ⟨fu - 1, by omega⟩
  rcases hs with rfl | ⟨t, x, rfl, hx, hx2⟩
  · have e : m.1 68 23 = 0 := h.2.2.2.2.1
    rw [whileN, fM_settle_l0, e, if_neg (by decide)]
  · obtain ⟨e1, e2, e3⟩ := RS_top h
    rw [whileN, fM_settle_l0, e1, if_pos (show (0 : Int32) < Int32.ofNat (t.length + 1) from (i_lt (a := 0) (by decide) (by omega)).mpr (by omega)), n_one _ (by omega) (by omega), Nat.add_sub_cancel, zI_n (by omega) (by omega), zg_t, i_tn (by omega), e2, if_neg hx, zg_t]
    by_cases q : x = 124
    · rw [if_pos q, if_pos (hx2.resolve_left (fun z => z q))]
    · rw [if_neg q]
theorem SR_p {b j : Nat} {m0 m : zv_M} {p d : Nat} {E s : List Int32} {v x : Int32} (hb : b ≤ 500) (h : RSt b j m0 m p E (s ++ [x]) d) (hx : x = 38 ∨ (x = 124 ∧ ¬ v = 38)) : ∃ m', RSt b j m0 m' p (E ++ [-x]) s d ∧ ∀ c m'', SR c v m' m'' → SR (c + 1) v m m'' := by
  obtain ⟨e1, e2, e3⟩ := RS_top h
  have hl : E.length + (s.length + 1) ≤ p := by
    have := h.2.2.2.2.2.2.2.1
    rwa [ln_1] at this
  have hp100 := h.2.2.2.2.2.2.2.2
  have h' := RS_pop h
  refine ⟨_, RS_e h' (by omega) (-x), ?_⟩
  intro c m'' hw fu hf
  obtain ⟨fu, rfl⟩ : ∃ i, fu = i + 1 := ⟨fu - 1, by omega⟩
  have ej : fM_settle_j45 m = some (.inl (mE b E.length (wI m 68 23 (Int32.ofNat s.length)) (-x))) := by
    rw [fM_settle_j45, e1, n_one _ (by omega) (by omega), Nat.add_sub_cancel, wI_e, zI_n (by omega) (by omega), zg_t, i_tn (by omega), wI_o _ _ (by omega), e2, r_emits hb h' (by omega), zb1_s]
  have e : fM_settle_l0 v m = some (.inl (mE b E.length (wI m 68 23 (Int32.ofNat s.length)) (-x))) := by
    rw [fM_settle_l0, e1, if_pos (show (0 : Int32) < Int32.ofNat (s.length + 1) from (i_lt (a := 0) (by decide) (by omega)).mpr (by omega)), n_one _ (by omega) (by omega), Nat.add_sub_cancel, zI_n (by omega) (by omega), zg_t, i_tn (by omega), e2, zg_t]
    rcases hx with rfl | ⟨rfl, hv⟩
    · rw [if_pos rfl, ej]
    · rw [if_neg (show ¬ (124 : Int32) = 38 by decide), if_pos rfl, if_neg hv, ej]
  rw [whileN, e]
  exact hw fu (by omega)
/-! what waits -/
def oL (A : Option Ex) : List Int32 := match A with
  | none => []
  | some a => a.2
def pA (x : Int32) (A : Option Ex) : List Int32 := match A with
  | none => []
  | some _ => [x]
/-- the pile's top is no sign that waits -/
def okT (s : List Int32) : Prop := s = [] ∨ ∃ t, s = t ++ [40]
theorem settle_B {b j : Nat} {m0 m : zv_M} {p d : Nat} {E s : List Int32} {v : Int32} (hb : b ≤ 500) {B : Option Ex} {C : Ex} (h : RSt b j m0 m p (E ++ oL B ++ C.2) (s ++ pA 38 B) d) : ∃ m', RSt b j m0 m' p (E ++ (anO B C).2) s d ∧ ∀ c m'', SR c v m' m'' → SR (c + 1) v m m'' := by
  cases B with
  | none =>
    refine ⟨m, ?_, fun c m'' h fu hf => h fu (by omega)⟩
    have e1 : E ++ oL none ++ C.2 = E ++ (anO none C).2 := by rw [show oL none = [] from rfl, List.append_nil]; rfl
    have e2 : s ++ pA 38 none = s := List.append_nil s
    rw [e1, e2] at h
    exact h
  | some B =>
    obtain ⟨m', k1, k2⟩ := SR_p (v := v) hb h (Or.inl rfl)
    refine ⟨m', ?_, k2⟩
    have e1 : E ++ oL (some B) ++ C.2 ++ [-38] = E ++ (anO (some B) C).2 := by
      show E ++ B.2 ++ C.2 ++ [-38] = E ++ (B.2 ++ C.2 ++ [-38])
      rw [List.append_assoc, List.append_assoc, List.append_assoc]
    rw [e1] at k1
    exact k1
theorem settle_A {b j : Nat} {m0 m : zv_M} {p d : Nat} {E s : List Int32} (hb : b ≤ 500) (hs : okT s) {A B : Option Ex} {C : Ex} (h : RSt b j m0 m p (E ++ oL A ++ oL B ++ C.2) (s ++ pA 124 A ++ pA 38 B) d) : ∃ m', RSt b j m0 m' p (E ++ (orO A (anO B C)).2) s d ∧ fM_settle 124 m = some m' := by
  obtain ⟨m1, k1, k2⟩ := settle_B (v := 124) hb h
  have stop : ∀ {m1 : zv_M} {E1 : List Int32}, RSt b j m0 m1 p E1 s d → SR 0 124 m1 m1 := fun h => SR_0 h (by
    rcases hs with rfl | ⟨t, rfl⟩
    · exact Or.inl rfl
    · exact Or.inr ⟨t, 40, rfl, by decide, Or.inl (by decide)⟩)
  cases A with
  | none =>
    have e1 : E ++ oL none ++ (anO B C).2 = E ++ (orO none (anO B C)).2 := by rw [show oL none = [] from rfl, List.append_nil]; rfl
    have e2 : s ++ pA 124 none = s := List.append_nil s
    rw [e1, e2] at k1
    exact ⟨m1, k1, SR_s (k2 0 m1 (stop k1)) (by decide)⟩
  | some A =>
    obtain ⟨m2, l1, l2⟩ := SR_p (v := 124) hb k1 (Or.inr ⟨rfl, by decide⟩)
    have e1 : E ++ oL (some A) ++ (anO B C).2 ++ [-124] = E ++ (orO (some A) (anO B C)).2 := by
      show E ++ A.2 ++ (anO B C).2 ++ [-124] = E ++ (A.2 ++ (anO B C).2 ++ [-124])
      rw [List.append_assoc, List.append_assoc, List.append_assoc]
    rw [e1] at l1
    exact ⟨m2, l1, SR_s (k2 1 m2 (l2 0 m2 (stop l1))) (by decide)⟩
theorem settle_38 {b j : Nat} {m0 m : zv_M} {p d : Nat} {E s : List Int32} (hb : b ≤ 500) (hs : okT s) {A B : Option Ex} {C : Ex} (h : RSt b j m0 m p (E ++ oL A ++ oL B ++ C.2) (s ++ pA 124 A ++ pA 38 B) d) : ∃ m', RSt b j m0 m' p (E ++ oL A ++ (anO B C).2) (s ++ pA 124 A) d ∧ fM_settle 38 m = some m' := by
  obtain ⟨m1, k1, k2⟩ := settle_B (v := 38) hb h
  refine ⟨m1, k1, SR_s (k2 0 m1 (SR_0 k1 ?_)) (by decide)⟩
  cases A with
  | none =>
    have e2 : s ++ pA 124 none = s := List.append_nil s
    rw [e2]
    rcases hs with rfl | ⟨t, rfl⟩
    · exact Or.inl rfl
    · exact Or.inr ⟨t, 40, rfl, by decide, Or.inl (by decide)⟩
  | some A => exact Or.inr ⟨s, 124, rfl, by decide, Or.inr rfl⟩
