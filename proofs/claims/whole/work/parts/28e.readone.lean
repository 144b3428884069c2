/-! Words; one and any together. -/
def pW (L : Nat → Nat) : List Nat → Nat → Nat ⊕ Nat
  | [], p => .inr p
  | c :: cs, p => if L p = c then pW L cs (p + 1) else .inl p
theorem pW_n {L : Nat → Nat} {n : Nat} (hL : LT L n) : ∀ (ws : List Nat) (p q : Nat), (∀ c, c ∈ ws → c < 128) → p ≤ n → pW L ws p = .inr q → p ≤ q ∧ q ≤ n
  | [], p, q, _, hp, h => by
    rw [pW] at h
    cases h
    omega
  | c :: cs, p, q, hc, hp, h => by
    rw [pW] at h
    by_cases q1 : L p = c
    · rw [if_pos q1] at h
      have := hc c List.mem_cons_self
      have l := LT_n hL (p := p) (by omega)
      have := pW_n hL cs (p + 1) q (fun x hx => hc x (List.mem_cons_of_mem _ hx)) (by omega) h
      omega
    · rw [if_neg q1] at h
      cases h
theorem n_word {L : Nat → Nat} {n W : Nat} {m : zv_M} (h : TXN L n W m) {w : Nat} (hz : zsl w < 100) : ∀ (cs : List Nat) (i p fu : Nat), i + cs.length = zsl w → (∀ j, j < cs.length → zsc w (i + j) = Int32.ofNat (cs.getD j 0)) → (∀ c, c ∈ cs → c < 128) → p ≤ n → cs.length + 2 < fu → whileN fu (fRe_readWord_l2 w) (Int32.ofNat i, rdA m L p 0) = some (match pW L cs p with
    | .inl q => rdA m L q 1
    | .inr q => rdA m L q 0) := by
  have o := LT_or h.1
  have hn := h.1.1
  have r7 : ∀ x c, (rdA m L x c).1 33 7 = cI (L x) := fun x c => mR_7 _ _ _ _
  have r8 : ∀ x c, (rdA m L x c).1 33 8 = c := fun x c => mR_8 _ _ _ _
  have f8 : ∀ x, wI (rdA m L x 0) 33 8 1 = rdA m L x 1 := fun x => mR_w8 _ _ _ _ _
  have stop : ∀ (fu i p : Nat), i < 200 → 0 < fu → whileN fu (fRe_readWord_l2 w) (Int32.ofNat i, rdA m L p 1) = some (rdA m L p 1) := fun fu i p hi hf => by
    obtain ⟨fu, rfl⟩ : ∃ j, fu = j + 1 := ⟨fu - 1, by omega⟩
    rw [whileN, fRe_readWord_l2, r8, if_neg (show ¬ (1 : Int32) = 0 by decide)]
    by_cases q : Int32.ofNat i < Int32.ofNat (zsl w)
    · rw [if_pos q]
    · rw [if_neg q]
  intro cs
  induction cs with
  | nil =>
    intro i p fu hi _ _ hp hf
    obtain ⟨fu, rfl⟩ : ∃ j, fu = j + 1 := ⟨fu - 1, by omega⟩
    have hi : i = zsl w := by simpa using hi
    rw [whileN, fRe_readWord_l2, if_neg (fun z => by have := (i_lt (by omega) (by omega)).mp z; omega)]
    rfl
  | cons c cs ih =>
    intro i p fu hi hs hc hp hf
    rw [List.length_cons] at hi hf
    obtain ⟨fu, rfl⟩ : ∃ j, fu = j + 1 := ⟨fu - 1, by omega⟩
    have s0 : zsc w i = Int32.ofNat c := hs 0 (by rw [List.length_cons]; omega)
    have hc0 := hc c List.mem_cons_self
    have ce : (cI (L p) = Int32.ofNat c) = (L p = c) := cI_eq (o p) hc0
    rw [whileN, fRe_readWord_l2, if_pos ((i_lt (by omega) (by omega)).mpr (by omega)), r8, if_pos rfl, zI_n (by omega) (by omega), zg_t, r7, i_tn (by omega), s0, pW]
    simp only [ce, fRe_readWord_j47]
    by_cases q : L p = c
    · have l := LT_n h.1 (p := p) (by omega)
      rw [if_pos q, if_pos q, n_next h (by omega), zb1_s, inc]
      exact ih (i + 1) (p + 1) fu (by omega) (fun j hj => by
        have := hs (j + 1) (by rw [List.length_cons]; omega)
        rw [show i + 1 + j = i + (j + 1) by omega]
        exact this) (fun x hx => hc x (List.mem_cons_of_mem _ hx)) (by omega) (by omega)
    · rw [if_neg q, if_neg q, f8, inc]
      exact stop fu (i + 1) p (by omega) (by omega)
theorem n_close {L : Nat → Nat} {n W : Nat} {m : zv_M} (h : TXN L n W m) {p : Nat} (hp : p ≤ n) : fRe_readWord 5 (rdA m L p 0) = some (if L p = 41 then rdA m L (p + 1) 0 else rdA m L p 1) := by
  have e := n_word h (w := 5) (by decide) [41] 0 p zFU (by decide) (fun j hj => by
    have : j = 0 := by
      have : j < 1 := hj
      omega
    subst this
    decide) (by decide) hp (zn_FU (by decide))
  have e' : whileN zFU (fRe_readWord_l2 5) (0, rdA m L p 0) = _ := e
  rw [fRe_readWord, e', zb1_s, pW]
  by_cases q : L p = 41
  · rw [if_pos q, if_pos q]
    rfl
  · rw [if_neg q, if_neg q]
theorem n_any {L : Nat → Nat} {n W : Nat} {m : zv_M} (h : TXN L n W m) {one : Nat → Rs Ex} {d : Int32} {fu : Nat} (h1 : ∀ p c q, one p = .inr (c, q) → p < q ∧ q ≤ n) (hr : ∀ p, p ≤ n → nR m L (vE W) (fRe_readOne_readAny fu true d (rdA m L p 0)) (one p)) {p : Nat} (hp : p ≤ n) : nR m L (vE W) (fRe_readOne_readAny (fu + 1) false d (rdA m L p 0)) (anyP L one p) := by
  have r8 : ∀ x c, (rdA m L x c).1 33 8 = c := fun x c => mR_8 _ _ _ _
  have hh := hr p hp
  rw [fRe_readOne_readAny, fRe_readAny_b, anyP]
  cases ho : one p with
  | inl z =>
    rw [ho] at hh
    obtain ⟨v, ev⟩ := hh
    have e := wn_eq (fRe_readAny_l11 d (fRe_readOne_readAny fu true d |> fun _ => fRe_readOne_readAny fu true)) (fun _ => (0, v, 0, rdA m L z 1)) 0 ((0 : Int32) ||| v, rdA m L z 1) (by decide) (fun i hi => absurd hi (Nat.not_lt_zero i)) (by
      rw [fRe_readAny_l11, if_pos (by decide), r8, if_neg (show ¬ (1 : Int32) = 0 by decide)])
    refine ⟨(0 : Int32) ||| v, ?_⟩
    rw [ev, zb2_s]
    exact congrArg (fun z => zb1 z (fun r => some r)) e
  | inr z =>
    obtain ⟨c, z⟩ := z
    rw [ho] at hh
    have ev : fRe_readOne_readAny fu true d (rdA m L p 0) = some (vE W c, rdA m L z 0) := hh
    obtain ⟨v, hv⟩ := n_anyL h h1 hr 100 zFU none none c z (Nat.le_refl _) (zn_FU (by decide)) (h1 _ _ _ ho).2
    rw [ev, zb2_s]
    show nR m L (vE W) _ (anyL L one 100 none none c z)
    cases ha : anyL L one 100 none none c z with
    | inl q =>
      rw [ha] at hv
      refine ⟨v, ?_⟩
      exact congrArg (fun z => zb1 z (fun r => some r)) hv
    | inr q =>
      obtain ⟨e, q⟩ := q
      rw [ha] at hv
      obtain ⟨rfl, hv⟩ := hv
      exact congrArg (fun z => zb1 z (fun r => some r)) hv
