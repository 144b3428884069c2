def zw {α : Type} (x : Option α) (P : α → Prop) : Prop := match x with
  | none => False
  | some a => P a
def zw2 {α β : Type} (x : Option (α × β)) (P : α → β → Prop) : Prop := match x with
  | none => False
  | some q => P q.1 q.2
def zb1 {α β : Type} (x : Option α) (k : α → Option β) : Option β := match x with
  | none => none
  | some a => k a
def zb2 {α β γ : Type} (x : Option (α × β)) (k : α → β → Option γ) : Option γ := match x with
  | none => none
  | some q => k q.1 q.2
def zg {α : Type} (b : Bool) (x : Option α) : Option α := match b with
  | true => x
  | false => none
def zlet {α β : Type} (x : α) (k : α → β) : β := k x
def whileN {σ ρ : Type} : Nat → (σ → Option (σ ⊕ ρ)) → σ → Option ρ
  | 0, _, _ => none
  | n + 1, f, s => match f s with
    | none => none
    | some (.inl s') => whileN n f s'
    | some (.inr r) => some r
def zFU : Nat := 1000000000000
theorem zw_b1 {α β : Type} {x : Option α} {k : α → Option β} {P : β → Prop} (h : zw (zb1 x k) P) : zw x (fun a => zw (k a) P) := by
  cases x with
  | none => exact h
  | some a => exact h
theorem zw_b12 {α β γ : Type} {x : Option α} {k : α → Option (β × γ)} {P : β → γ → Prop} (h : zw2 (zb1 x k) P) : zw x (fun a => zw2 (k a) P) := by
  cases x with
  | none => exact h
  | some a => exact h
theorem zw_b2 {α β γ : Type} {x : Option (α × β)} {k : α → β → Option γ} {P : γ → Prop} (h : zw (zb2 x k) P) : zw2 x (fun a b => zw (k a b) P) := by
  cases x with
  | none => exact h
  | some a => exact h
theorem zw_b22 {α β γ δ : Type} {x : Option (α × β)} {k : α → β → Option (γ × δ)} {P : γ → δ → Prop} (h : zw2 (zb2 x k) P) : zw2 x (fun a b => zw2 (k a b) P) := by
  cases x with
  | none => exact h
  | some a => exact h
theorem zg_e {α : Type} {b : Bool} {x : Option α} {P : α → Prop} (h : zw (zg b x) P) : b = true ∧ zw x P := by
  cases b with
  | true => exact ⟨rfl, h⟩
  | false => exact h.elim
theorem zg_e2 {α β : Type} {b : Bool} {x : Option (α × β)} {P : α → β → Prop} (h : zw2 (zg b x) P) : b = true ∧ zw2 x P := by
  cases b with
  | true => exact ⟨rfl, h⟩
  | false => exact h.elim
def zI (i : Int32) (n : Nat) : Bool := !(decide (i < 0)) && decide (i.toNatClampNeg < n)
theorem zI_in {i : Int32} {n : Nat} (h : zI i n = true) : vp_in i n := by
  simp only [zI, Bool.and_eq_true, Bool.not_eq_true', decide_eq_false_iff_not, decide_eq_true_eq] at h
  rintro (q | q)
  · exact h.1 q
  · omega
theorem zI_lt {i : Int32} {n : Nat} (h : zI i n = true) : i.toNatClampNeg < n := by
  simp only [zI, Bool.and_eq_true, decide_eq_true_eq] at h
  exact h.2
def zN (y : Int32) : Bool := decide (¬ y = 0)
theorem zN_ne {y : Int32} (h : zN y = true) : ¬ y = 0 := of_decide_eq_true h
def zB (v : Int32) : Bool := decide (narrow .boolean (.int v) = .int v)
theorem zB_n {v : Int32} (h : zB v = true) : narrow .boolean (.int v) = .int v := of_decide_eq_true h
def zKc (sp dp n : Int32) (n0 n1 : Nat) : Bool := !(decide (sp < 0)) && (!(decide (dp < 0)) && (!(decide (n < 0)) && (decide (sp.toNatClampNeg + n.toNatClampNeg ≤ n0) && decide (dp.toNatClampNeg + n.toNatClampNeg ≤ n1))))
theorem zKc_all {sp dp n : Int32} {n0 n1 : Nat} (h : zKc sp dp n n0 n1 = true) : ¬ sp < 0 ∧ ¬ dp < 0 ∧ ¬ n < 0 ∧ sp.toNatClampNeg + n.toNatClampNeg ≤ n0 ∧ dp.toNatClampNeg + n.toNatClampNeg ≤ n1 := by
  simpa [zKc] using h
theorem zKc_1 {sp dp n : Int32} {n0 n1 : Nat} (h : zKc sp dp n n0 n1 = true) : ¬ sp < 0 := (zKc_all h).1
theorem zKc_2 {sp dp n : Int32} {n0 n1 : Nat} (h : zKc sp dp n n0 n1 = true) : ¬ dp < 0 := (zKc_all h).2.1
theorem zKc_3 {sp dp n : Int32} {n0 n1 : Nat} (h : zKc sp dp n n0 n1 = true) : ¬ n < 0 := (zKc_all h).2.2.1
theorem zKc_4 {sp dp n : Int32} {n0 n1 : Nat} (h : zKc sp dp n n0 n1 = true) : sp.toNatClampNeg + n.toNatClampNeg ≤ n0 := (zKc_all h).2.2.2.1
theorem zKc_5 {sp dp n : Int32} {n0 n1 : Nat} (h : zKc sp dp n n0 n1 = true) : dp.toNatClampNeg + n.toNatClampNeg ≤ n1 := (zKc_all h).2.2.2.2
theorem zRm {d' d mc ms : Nat} (h : d' + 1 ≤ d) : d' + 1 ≤ (zv_rm d mc ms).frames ∧ 40 * d' + 40 ≤ (zv_rm d mc ms).locals := ⟨h, by show 40 * d' + 40 ≤ 40 * d; omega⟩
theorem zRm2 {d : Nat} (h : 1 ≤ d) : (([] : List Value).map fun v => v.category).sum + (nativeFrameWords "java/lang/System" "arraycopy" 5 + 11) ≤ (zv_rm d 0 0).locals := by
  have h1 : (([] : List Value).map fun v => v.category).sum + (nativeFrameWords "java/lang/System" "arraycopy" 5 + 11) ≤ 40 := by decide +kernel
  show _ ≤ 40 * d
  omega
def zsl (w : Nat) : Nat := (zstrs.getD w []).length
def zsc (w k : Nat) : Int32 := (zstrs.getD w []).getD k 0
theorem zl_w1 {A0 ρ : Type} (VH : A0 → Prop) (f : A0 → Option ((A0) ⊕ ρ)) (P : ρ → Prop) (hb : ∀ (Φ : (A0) ⊕ ρ → Prop), (∀ s, Φ (.inl s) → VH s) → (∀ r, Φ (.inr r) → P r) → ∀ (a0 : A0), zw (f a0) Φ → VH a0) : ∀ (n : Nat) (a0 : A0), zw (whileN n f a0) P → VH a0 := by
  intro n
  induction n with
  | zero => intro a0 h; exact h.elim
  | succ n ih =>
    intro a0 h
    refine hb (fun q => match q with | .inl s => zw (whileN n f s) P | .inr r => P r) (fun s hs => ?_) (fun r hr => hr) a0 ?_
    · exact ih s hs
    · rw [whileN] at h
      cases hq : f a0 with
      | none => rw [hq] at h; exact h
      | some q =>
        rw [hq] at h
        cases q with
        | inl s => exact h
        | inr r => exact h
theorem zl_w2 {A0 A1 ρ : Type} (VH : A0 → A1 → Prop) (f : A0 × A1 → Option ((A0 × A1) ⊕ ρ)) (P : ρ → Prop) (hb : ∀ (Φ : (A0 × A1) ⊕ ρ → Prop), (∀ s, Φ (.inl s) → VH s.1 s.2) → (∀ r, Φ (.inr r) → P r) → ∀ (a0 : A0) (a1 : A1), zw (f (a0, a1)) Φ → VH a0 a1) : ∀ (n : Nat) (a0 : A0) (a1 : A1), zw (whileN n f (a0, a1)) P → VH a0 a1 := by
  intro n
  induction n with
  | zero => intro a0 a1 h; exact h.elim
  | succ n ih =>
    intro a0 a1 h
    refine hb (fun q => match q with | .inl s => zw (whileN n f s) P | .inr r => P r) (fun s hs => ?_) (fun r hr => hr) a0 a1 ?_
    · exact ih s.1 s.2 hs
    · rw [whileN] at h
      cases hq : f (a0, a1) with
      | none => rw [hq] at h; exact h
      | some q =>
        rw [hq] at h
        cases q with
        | inl s => exact h
        | inr r => exact h
theorem zl_w3 {A0 A1 A2 ρ : Type} (VH : A0 → A1 → A2 → Prop) (f : A0 × A1 × A2 → Option ((A0 × A1 × A2) ⊕ ρ)) (P : ρ → Prop) (hb : ∀ (Φ : (A0 × A1 × A2) ⊕ ρ → Prop), (∀ s, Φ (.inl s) → VH s.1 s.2.1 s.2.2) → (∀ r, Φ (.inr r) → P r) → ∀ (a0 : A0) (a1 : A1) (a2 : A2), zw (f (a0, a1, a2)) Φ → VH a0 a1 a2) : ∀ (n : Nat) (a0 : A0) (a1 : A1) (a2 : A2), zw (whileN n f (a0, a1, a2)) P → VH a0 a1 a2 := by
  intro n
  induction n with
  | zero => intro a0 a1 a2 h; exact h.elim
  | succ n ih =>
    intro a0 a1 a2 h
    refine hb (fun q => match q with | .inl s => zw (whileN n f s) P | .inr r => P r) (fun s hs => ?_) (fun r hr => hr) a0 a1 a2 ?_
    · exact ih s.1 s.2.1 s.2.2 hs
    · rw [whileN] at h
      cases hq : f (a0, a1, a2) with
      | none => rw [hq] at h; exact h
      | some q =>
        rw [hq] at h
        cases q with
        | inl s => exact h
        | inr r => exact h
theorem zl_w4 {A0 A1 A2 A3 ρ : Type} (VH : A0 → A1 → A2 → A3 → Prop) (f : A0 × A1 × A2 × A3 → Option ((A0 × A1 × A2 × A3) ⊕ ρ)) (P : ρ → Prop) (hb : ∀ (Φ : (A0 × A1 × A2 × A3) ⊕ ρ → Prop), (∀ s, Φ (.inl s) → VH s.1 s.2.1 s.2.2.1 s.2.2.2) → (∀ r, Φ (.inr r) → P r) → ∀ (a0 : A0) (a1 : A1) (a2 : A2) (a3 : A3), zw (f (a0, a1, a2, a3)) Φ → VH a0 a1 a2 a3) : ∀ (n : Nat) (a0 : A0) (a1 : A1) (a2 : A2) (a3 : A3), zw (whileN n f (a0, a1, a2, a3)) P → VH a0 a1 a2 a3 := by
  intro n
  induction n with
  | zero => intro a0 a1 a2 a3 h; exact h.elim
  | succ n ih =>
    intro a0 a1 a2 a3 h
    refine hb (fun q => match q with | .inl s => zw (whileN n f s) P | .inr r => P r) (fun s hs => ?_) (fun r hr => hr) a0 a1 a2 a3 ?_
    · exact ih s.1 s.2.1 s.2.2.1 s.2.2.2 hs
    · rw [whileN] at h
      cases hq : f (a0, a1, a2, a3) with
      | none => rw [hq] at h; exact h
      | some q =>
        rw [hq] at h
        cases q with
        | inl s => exact h
        | inr r => exact h
theorem zl_w5 {A0 A1 A2 A3 A4 ρ : Type} (VH : A0 → A1 → A2 → A3 → A4 → Prop) (f : A0 × A1 × A2 × A3 × A4 → Option ((A0 × A1 × A2 × A3 × A4) ⊕ ρ)) (P : ρ → Prop) (hb : ∀ (Φ : (A0 × A1 × A2 × A3 × A4) ⊕ ρ → Prop), (∀ s, Φ (.inl s) → VH s.1 s.2.1 s.2.2.1 s.2.2.2.1 s.2.2.2.2) → (∀ r, Φ (.inr r) → P r) → ∀ (a0 : A0) (a1 : A1) (a2 : A2) (a3 : A3) (a4 : A4), zw (f (a0, a1, a2, a3, a4)) Φ → VH a0 a1 a2 a3 a4) : ∀ (n : Nat) (a0 : A0) (a1 : A1) (a2 : A2) (a3 : A3) (a4 : A4), zw (whileN n f (a0, a1, a2, a3, a4)) P → VH a0 a1 a2 a3 a4 := by
  intro n
  induction n with
  | zero => intro a0 a1 a2 a3 a4 h; exact h.elim
  | succ n ih =>
    intro a0 a1 a2 a3 a4 h
    refine hb (fun q => match q with | .inl s => zw (whileN n f s) P | .inr r => P r) (fun s hs => ?_) (fun r hr => hr) a0 a1 a2 a3 a4 ?_
    · exact ih s.1 s.2.1 s.2.2.1 s.2.2.2.1 s.2.2.2.2 hs
    · rw [whileN] at h
      cases hq : f (a0, a1, a2, a3, a4) with
      | none => rw [hq] at h; exact h
      | some q =>
        rw [hq] at h
        cases q with
        | inl s => exact h
        | inr r => exact h
theorem zl_w6 {A0 A1 A2 A3 A4 A5 ρ : Type} (VH : A0 → A1 → A2 → A3 → A4 → A5 → Prop) (f : A0 × A1 × A2 × A3 × A4 × A5 → Option ((A0 × A1 × A2 × A3 × A4 × A5) ⊕ ρ)) (P : ρ → Prop) (hb : ∀ (Φ : (A0 × A1 × A2 × A3 × A4 × A5) ⊕ ρ → Prop), (∀ s, Φ (.inl s) → VH s.1 s.2.1 s.2.2.1 s.2.2.2.1 s.2.2.2.2.1 s.2.2.2.2.2) → (∀ r, Φ (.inr r) → P r) → ∀ (a0 : A0) (a1 : A1) (a2 : A2) (a3 : A3) (a4 : A4) (a5 : A5), zw (f (a0, a1, a2, a3, a4, a5)) Φ → VH a0 a1 a2 a3 a4 a5) : ∀ (n : Nat) (a0 : A0) (a1 : A1) (a2 : A2) (a3 : A3) (a4 : A4) (a5 : A5), zw (whileN n f (a0, a1, a2, a3, a4, a5)) P → VH a0 a1 a2 a3 a4 a5 := by
  intro n
  induction n with
  | zero => intro a0 a1 a2 a3 a4 a5 h; exact h.elim
  | succ n ih =>
    intro a0 a1 a2 a3 a4 a5 h
    refine hb (fun q => match q with | .inl s => zw (whileN n f s) P | .inr r => P r) (fun s hs => ?_) (fun r hr => hr) a0 a1 a2 a3 a4 a5 ?_
    · exact ih s.1 s.2.1 s.2.2.1 s.2.2.2.1 s.2.2.2.2.1 s.2.2.2.2.2 hs
    · rw [whileN] at h
      cases hq : f (a0, a1, a2, a3, a4, a5) with
      | none => rw [hq] at h; exact h
      | some q =>
        rw [hq] at h
        cases q with
        | inl s => exact h
        | inr r => exact h
theorem zl_w7 {A0 A1 A2 A3 A4 A5 A6 ρ : Type} (VH : A0 → A1 → A2 → A3 → A4 → A5 → A6 → Prop) (f : A0 × A1 × A2 × A3 × A4 × A5 × A6 → Option ((A0 × A1 × A2 × A3 × A4 × A5 × A6) ⊕ ρ)) (P : ρ → Prop) (hb : ∀ (Φ : (A0 × A1 × A2 × A3 × A4 × A5 × A6) ⊕ ρ → Prop), (∀ s, Φ (.inl s) → VH s.1 s.2.1 s.2.2.1 s.2.2.2.1 s.2.2.2.2.1 s.2.2.2.2.2.1 s.2.2.2.2.2.2) → (∀ r, Φ (.inr r) → P r) → ∀ (a0 : A0) (a1 : A1) (a2 : A2) (a3 : A3) (a4 : A4) (a5 : A5) (a6 : A6), zw (f (a0, a1, a2, a3, a4, a5, a6)) Φ → VH a0 a1 a2 a3 a4 a5 a6) : ∀ (n : Nat) (a0 : A0) (a1 : A1) (a2 : A2) (a3 : A3) (a4 : A4) (a5 : A5) (a6 : A6), zw (whileN n f (a0, a1, a2, a3, a4, a5, a6)) P → VH a0 a1 a2 a3 a4 a5 a6 := by
  intro n
  induction n with
  | zero => intro a0 a1 a2 a3 a4 a5 a6 h; exact h.elim
  | succ n ih =>
    intro a0 a1 a2 a3 a4 a5 a6 h
    refine hb (fun q => match q with | .inl s => zw (whileN n f s) P | .inr r => P r) (fun s hs => ?_) (fun r hr => hr) a0 a1 a2 a3 a4 a5 a6 ?_
    · exact ih s.1 s.2.1 s.2.2.1 s.2.2.2.1 s.2.2.2.2.1 s.2.2.2.2.2.1 s.2.2.2.2.2.2 hs
    · rw [whileN] at h
      cases hq : f (a0, a1, a2, a3, a4, a5, a6) with
      | none => rw [hq] at h; exact h
      | some q =>
        rw [hq] at h
        cases q with
        | inl s => exact h
        | inr r => exact h
theorem zl_w8 {A0 A1 A2 A3 A4 A5 A6 A7 ρ : Type} (VH : A0 → A1 → A2 → A3 → A4 → A5 → A6 → A7 → Prop) (f : A0 × A1 × A2 × A3 × A4 × A5 × A6 × A7 → Option ((A0 × A1 × A2 × A3 × A4 × A5 × A6 × A7) ⊕ ρ)) (P : ρ → Prop) (hb : ∀ (Φ : (A0 × A1 × A2 × A3 × A4 × A5 × A6 × A7) ⊕ ρ → Prop), (∀ s, Φ (.inl s) → VH s.1 s.2.1 s.2.2.1 s.2.2.2.1 s.2.2.2.2.1 s.2.2.2.2.2.1 s.2.2.2.2.2.2.1 s.2.2.2.2.2.2.2) → (∀ r, Φ (.inr r) → P r) → ∀ (a0 : A0) (a1 : A1) (a2 : A2) (a3 : A3) (a4 : A4) (a5 : A5) (a6 : A6) (a7 : A7), zw (f (a0, a1, a2, a3, a4, a5, a6, a7)) Φ → VH a0 a1 a2 a3 a4 a5 a6 a7) : ∀ (n : Nat) (a0 : A0) (a1 : A1) (a2 : A2) (a3 : A3) (a4 : A4) (a5 : A5) (a6 : A6) (a7 : A7), zw (whileN n f (a0, a1, a2, a3, a4, a5, a6, a7)) P → VH a0 a1 a2 a3 a4 a5 a6 a7 := by
  intro n
  induction n with
  | zero => intro a0 a1 a2 a3 a4 a5 a6 a7 h; exact h.elim
  | succ n ih =>
    intro a0 a1 a2 a3 a4 a5 a6 a7 h
    refine hb (fun q => match q with | .inl s => zw (whileN n f s) P | .inr r => P r) (fun s hs => ?_) (fun r hr => hr) a0 a1 a2 a3 a4 a5 a6 a7 ?_
    · exact ih s.1 s.2.1 s.2.2.1 s.2.2.2.1 s.2.2.2.2.1 s.2.2.2.2.2.1 s.2.2.2.2.2.2.1 s.2.2.2.2.2.2.2 hs
    · rw [whileN] at h
      cases hq : f (a0, a1, a2, a3, a4, a5, a6, a7) with
      | none => rw [hq] at h; exact h
      | some q =>
        rw [hq] at h
        cases q with
        | inl s => exact h
        | inr r => exact h
theorem zl_w9 {A0 A1 A2 A3 A4 A5 A6 A7 A8 ρ : Type} (VH : A0 → A1 → A2 → A3 → A4 → A5 → A6 → A7 → A8 → Prop) (f : A0 × A1 × A2 × A3 × A4 × A5 × A6 × A7 × A8 → Option ((A0 × A1 × A2 × A3 × A4 × A5 × A6 × A7 × A8) ⊕ ρ)) (P : ρ → Prop) (hb : ∀ (Φ : (A0 × A1 × A2 × A3 × A4 × A5 × A6 × A7 × A8) ⊕ ρ → Prop), (∀ s, Φ (.inl s) → VH s.1 s.2.1 s.2.2.1 s.2.2.2.1 s.2.2.2.2.1 s.2.2.2.2.2.1 s.2.2.2.2.2.2.1 s.2.2.2.2.2.2.2.1 s.2.2.2.2.2.2.2.2) → (∀ r, Φ (.inr r) → P r) → ∀ (a0 : A0) (a1 : A1) (a2 : A2) (a3 : A3) (a4 : A4) (a5 : A5) (a6 : A6) (a7 : A7) (a8 : A8), zw (f (a0, a1, a2, a3, a4, a5, a6, a7, a8)) Φ → VH a0 a1 a2 a3 a4 a5 a6 a7 a8) : ∀ (n : Nat) (a0 : A0) (a1 : A1) (a2 : A2) (a3 : A3) (a4 : A4) (a5 : A5) (a6 : A6) (a7 : A7) (a8 : A8), zw (whileN n f (a0, a1, a2, a3, a4, a5, a6, a7, a8)) P → VH a0 a1 a2 a3 a4 a5 a6 a7 a8 := by
  intro n
  induction n with
  | zero => intro a0 a1 a2 a3 a4 a5 a6 a7 a8 h; exact h.elim
  | succ n ih =>
    intro a0 a1 a2 a3 a4 a5 a6 a7 a8 h
    refine hb (fun q => match q with | .inl s => zw (whileN n f s) P | .inr r => P r) (fun s hs => ?_) (fun r hr => hr) a0 a1 a2 a3 a4 a5 a6 a7 a8 ?_
    · exact ih s.1 s.2.1 s.2.2.1 s.2.2.2.1 s.2.2.2.2.1 s.2.2.2.2.2.1 s.2.2.2.2.2.2.1 s.2.2.2.2.2.2.2.1 s.2.2.2.2.2.2.2.2 hs
    · rw [whileN] at h
      cases hq : f (a0, a1, a2, a3, a4, a5, a6, a7, a8) with
      | none => rw [hq] at h; exact h
      | some q =>
        rw [hq] at h
        cases q with
        | inl s => exact h
        | inr r => exact h
/-- the world behind the constructors -/
def SH0 : List zv_C := [.inl (10, [some 1, some 17, none, some 33, some 35, some 42, none, some 43, some 46, some 49, some 54, some 58, some 61, some 64]), .inl (5, [some 2, some 4, some 6, some 8, some 9, some 11, some 13, some 15, none]), .inl (2, [some 3, none]), .inr (.inl (0, 6)), .inl (2, [some 5, none]), .inr (.inl (0, 6)), .inl (2, [some 7, none]), .inr (.inl (0, 6)), .inr (.inl (0, 25)), .inl (2, [some 10, none]), .inr (.inl (0, 5)), .inl (2, [some 12, none]), .inr (.inl (0, 8)), .inl (2, [some 14, none]), .inr (.inl (0, 8)), .inl (2, [some 16, none]), .inr (.inl (0, 12)), .inl (5, [some 18, some 20, some 22, some 24, some 25, some 27, some 29, some 31, none]), .inl (2, [some 19, none]), .inr (.inl (0, 6)), .inl (2, [some 21, none]), .inr (.inl (0, 6)), .inl (2, [some 23, none]), .inr (.inl (0, 6)), .inr (.inl (0, 25)), .inl (2, [some 26, none]), .inr (.inl (0, 5)), .inl (2, [some 28, none]), .inr (.inl (0, 8)), .inl (2, [some 30, none]), .inr (.inl (0, 8)), .inl (2, [some 32, none]), .inr (.inl (0, 12)), .inl (9, [some 34, none, none, none, none, none, none, none, none, none]), .inr (.inl (1, 100)), .inr (.inr [some 36, some 37, some 38, some 39, some 40, some 41]), .inl (8, [none, none, none, none]), .inl (8, [none, none, none, none]), .inl (8, [none, none, none, none]), .inl (8, [none, none, none, none]), .inl (8, [none, none, none, none]), .inl (8, [none, none, none, none]), .inl (8, [none, none, none, none]), .inl (4, [some 44, some 45]), .inr (.inl (0, 25)), .inr (.inl (0, 25)), .inl (4, [some 47, some 48]), .inr (.inl (0, 25)), .inr (.inl (0, 25)), .inl (3, [some 50, some 51, some 52, some 53, none, none, none, none]), .inr (.inl (0, 25)), .inr (.inl (0, 5)), .inr (.inl (0, 5)), .inr (.inl (0, 5)), .inl (1, [some 55, some 56, some 57]), .inr (.inl (0, 9)), .inr (.inl (0, 9)), .inr (.inl (1, 512)), .inl (7, [some 59, some 60]), .inr (.inl (0, 25)), .inr (.inl (0, 32)), .inl (0, [some 62, none, none, none, none]), .inl (2, [some 63, none]), .inr (.inl (0, 20)), .inl (6, [some 65, some 66, some 67]), .inr (.inl (0, 6)), .inr (.inl (0, 6)), .inr (.inl (3, 360)), .inl (11, [none, none, none, none, none, some 69, some 70, some 71, some 72, none, none, none, none, none, some 73, some 74, some 75, some 76, some 77, some 78, some 79, some 80, none, none, none, some 81, some 82, some 83, some 84, some 85, some 86, some 87, some 88, some 89, some 90, none, none, some 91, none, some 92, some 93, some 94, none, some 95, some 96, some 97, some 98, none, some 99, some 100, none, some 101, none, none, none, none, none, none, some 102, some 103, some 104, some 105, some 106, some 107, some 108, some 109, none, some 110, some 111, some 112, some 113, some 114]), .inr (.inl (0, 6)), .inr (.inl (0, 6)), .inr (.inl (0, 48)), .inr (.inl (0, 25)), .inr (.inl (0, 100)), .inr (.inl (0, 6)), .inr (.inl (0, 60)), .inr (.inl (0, 60)), .inr (.inl (0, 60)), .inr (.inl (0, 60)), .inr (.inl (0, 600)), .inr (.inl (0, 101)), .inr (.inl (0, 20)), .inr (.inl (2, 100)), .inr (.inl (0, 8)), .inr (.inl (0, 8)), .inr (.inl (0, 25)), .inr (.inl (0, 5)), .inr (.inl (0, 5)), .inr (.inl (0, 60)), .inr (.inl (0, 60)), .inr (.inl (0, 25)), .inr (.inl (0, 25)), .inr (.inl (0, 9)), .inr (.inl (0, 9)), .inr (.inl (2, 512)), .inr (.inl (0, 5)), .inr (.inl (0, 25)), .inr (.inl (0, 25)), .inr (.inl (0, 5)), .inr (.inl (0, 8)), .inr (.inl (0, 8)), .inr (.inl (0, 12)), .inr (.inl (0, 6)), .inr (.inl (0, 6)), .inr (.inl (0, 48)), .inr (.inl (0, 25)), .inr (.inl (0, 5)), .inr (.inl (0, 8)), .inr (.inl (0, 8)), .inr (.inl (0, 12)), .inr (.inl (0, 20)), .inr (.inl (0, 6)), .inr (.inl (0, 6)), .inr (.inl (3, 360)), .inr (.inl (3, 60))]
def zrs (o : Nat) : List (Option Nat) := match SH0[o]? with
  | some (.inl q) => q.2
  | some (.inr (.inr q)) => q
  | _ => []
def zrf (o k : Nat) : Nat := ((zrs o).getD k none).getD 0
def zln (a : Nat) : Nat := match SH0[a]? with
  | some (.inr (.inl q)) => q.2
  | _ => 0
abbrev zcl (o ci : Nat) : Prop := SH0[o]? = some (.inl (ci, zrs o))
abbrev zar (a t : Nat) : Prop := SH0[a]? = some (.inr (.inl (t, zln a)))
def zclb (o ci : Nat) : Bool := match SH0[o]? with
  | some (.inl q) => q.1 == ci
  | _ => false
theorem zclb_of {o ci : Nat} (h : zclb o ci = true) : zcl o ci := by
  unfold zclb at h
  show SH0[o]? = some (.inl (ci, zrs o))
  unfold zrs
  split at h
  next q hq =>
    rw [hq]
    have e : q.1 = ci := by simpa using h
    rw [← e]
  next => cases h
theorem zclb_iff {o ci : Nat} (h : zcl o ci) : zclb o ci = true := by
  unfold zclb
  have h1 : SH0[o]? = some (.inl (ci, zrs o)) := h
  rw [h1]
  simp
def zarb (a t : Nat) : Bool := match SH0[a]? with
  | some (.inr (.inl q)) => q.1 == t
  | _ => false
theorem zarb_of {a t : Nat} (h : zarb a t = true) : zar a t := by
  unfold zarb at h
  show SH0[a]? = some (.inr (.inl (t, zln a)))
  unfold zln
  split at h
  next q hq =>
    rw [hq]
    have e : q.1 = t := by simpa using h
    rw [← e]
  next => cases h
def zrfb (o k : Nat) : Bool := match (zrs o)[k]? with
  | some (some _) => true
  | _ => false
theorem zrfb_of {o k : Nat} (h : zrfb o k = true) : (zrs o)[k]? = some (some (zrf o k)) := by
  unfold zrfb at h
  unfold zrf
  split at h
  next a hq => simp [List.getD_eq_getElem?_getD, hq]
  next => cases h
theorem zall {n : Nat} {p : Nat → Bool} (h : (List.range n).all p = true) {o : Nat} (ho : o < n) : p o = true := List.all_eq_true.mp h o (List.mem_range.mpr ho)
theorem zcl_lt {o ci : Nat} (h : zcl o ci) : o < 115 := (List.getElem?_eq_some_iff.mp h).1
theorem zo_1 : zcl 1 5 := rfl
theorem zo_2 : zcl 2 2 := rfl
theorem zo_4 : zcl 4 2 := rfl
theorem zo_6 : zcl 6 2 := rfl
theorem zo_9 : zcl 9 2 := rfl
theorem zo_11 : zcl 11 2 := rfl
theorem zo_13 : zcl 13 2 := rfl
theorem zo_15 : zcl 15 2 := rfl
theorem zo_17 : zcl 17 5 := rfl
theorem zo_33 : zcl 33 9 := rfl
theorem zo_42 : zcl 42 8 := rfl
theorem zo_43 : zcl 43 4 := rfl
theorem zo_46 : zcl 46 4 := rfl
theorem zo_49 : zcl 49 3 := rfl
theorem zo_54 : zcl 54 1 := rfl
theorem zo_58 : zcl 58 7 := rfl
theorem zo_61 : zcl 61 0 := rfl
theorem zo_62 : zcl 62 2 := rfl
theorem zo_64 : zcl 64 6 := rfl
theorem za_34 : SH0[34]? = some (.inr (.inl (1, 100))) := rfl
theorem za_45 : SH0[45]? = some (.inr (.inl (0, 25))) := rfl
theorem za_47 : SH0[47]? = some (.inr (.inl (0, 25))) := rfl
theorem za_48 : SH0[48]? = some (.inr (.inl (0, 25))) := rfl
theorem za_50 : SH0[50]? = some (.inr (.inl (0, 25))) := rfl
theorem za_51 : SH0[51]? = some (.inr (.inl (0, 5))) := rfl
theorem za_52 : SH0[52]? = some (.inr (.inl (0, 5))) := rfl
theorem za_53 : SH0[53]? = some (.inr (.inl (0, 5))) := rfl
theorem za_55 : SH0[55]? = some (.inr (.inl (0, 9))) := rfl
theorem za_56 : SH0[56]? = some (.inr (.inl (0, 9))) := rfl
theorem za_57 : SH0[57]? = some (.inr (.inl (1, 512))) := rfl
theorem za_59 : SH0[59]? = some (.inr (.inl (0, 25))) := rfl
theorem za_60 : SH0[60]? = some (.inr (.inl (0, 32))) := rfl
theorem za_65 : SH0[65]? = some (.inr (.inl (0, 6))) := rfl
theorem za_66 : SH0[66]? = some (.inr (.inl (0, 6))) := rfl
theorem za_67 : SH0[67]? = some (.inr (.inl (3, 360))) := rfl
theorem za_69 : SH0[69]? = some (.inr (.inl (0, 6))) := rfl
theorem za_70 : SH0[70]? = some (.inr (.inl (0, 6))) := rfl
theorem za_71 : SH0[71]? = some (.inr (.inl (0, 48))) := rfl
theorem za_72 : SH0[72]? = some (.inr (.inl (0, 25))) := rfl
theorem za_73 : SH0[73]? = some (.inr (.inl (0, 100))) := rfl
theorem za_74 : SH0[74]? = some (.inr (.inl (0, 6))) := rfl
theorem za_75 : SH0[75]? = some (.inr (.inl (0, 60))) := rfl
theorem za_76 : SH0[76]? = some (.inr (.inl (0, 60))) := rfl
theorem za_77 : SH0[77]? = some (.inr (.inl (0, 60))) := rfl
theorem za_78 : SH0[78]? = some (.inr (.inl (0, 60))) := rfl
theorem za_79 : SH0[79]? = some (.inr (.inl (0, 600))) := rfl
theorem za_80 : SH0[80]? = some (.inr (.inl (0, 101))) := rfl
theorem za_81 : SH0[81]? = some (.inr (.inl (0, 20))) := rfl
theorem za_82 : SH0[82]? = some (.inr (.inl (2, 100))) := rfl
theorem za_83 : SH0[83]? = some (.inr (.inl (0, 8))) := rfl
theorem za_84 : SH0[84]? = some (.inr (.inl (0, 8))) := rfl
theorem za_85 : SH0[85]? = some (.inr (.inl (0, 25))) := rfl
theorem za_86 : SH0[86]? = some (.inr (.inl (0, 5))) := rfl
theorem za_87 : SH0[87]? = some (.inr (.inl (0, 5))) := rfl
theorem za_88 : SH0[88]? = some (.inr (.inl (0, 60))) := rfl
theorem za_89 : SH0[89]? = some (.inr (.inl (0, 60))) := rfl
theorem za_90 : SH0[90]? = some (.inr (.inl (0, 25))) := rfl
theorem za_91 : SH0[91]? = some (.inr (.inl (0, 25))) := rfl
theorem za_92 : SH0[92]? = some (.inr (.inl (0, 9))) := rfl
theorem za_93 : SH0[93]? = some (.inr (.inl (0, 9))) := rfl
theorem za_94 : SH0[94]? = some (.inr (.inl (2, 512))) := rfl
theorem za_95 : SH0[95]? = some (.inr (.inl (0, 5))) := rfl
theorem za_96 : SH0[96]? = some (.inr (.inl (0, 25))) := rfl
theorem za_97 : SH0[97]? = some (.inr (.inl (0, 25))) := rfl
theorem za_98 : SH0[98]? = some (.inr (.inl (0, 5))) := rfl
theorem za_99 : SH0[99]? = some (.inr (.inl (0, 8))) := rfl
theorem za_100 : SH0[100]? = some (.inr (.inl (0, 8))) := rfl
theorem za_101 : SH0[101]? = some (.inr (.inl (0, 12))) := rfl
theorem za_102 : SH0[102]? = some (.inr (.inl (0, 6))) := rfl
theorem za_103 : SH0[103]? = some (.inr (.inl (0, 6))) := rfl
theorem za_104 : SH0[104]? = some (.inr (.inl (0, 48))) := rfl
theorem za_105 : SH0[105]? = some (.inr (.inl (0, 25))) := rfl
theorem za_106 : SH0[106]? = some (.inr (.inl (0, 5))) := rfl
theorem za_107 : SH0[107]? = some (.inr (.inl (0, 8))) := rfl
theorem za_108 : SH0[108]? = some (.inr (.inl (0, 8))) := rfl
theorem za_109 : SH0[109]? = some (.inr (.inl (0, 12))) := rfl
theorem za_110 : SH0[110]? = some (.inr (.inl (0, 20))) := rfl
theorem za_111 : SH0[111]? = some (.inr (.inl (0, 6))) := rfl
theorem za_112 : SH0[112]? = some (.inr (.inl (0, 6))) := rfl
theorem za_113 : SH0[113]? = some (.inr (.inl (3, 360))) := rfl
theorem za_114 : SH0[114]? = some (.inr (.inl (3, 60))) := rfl
theorem zq_35 : SH0[35]? = some (.inr (.inr (zrs 35))) := rfl
theorem zqe_35 {i : Int32} (h : zI i 6 = true) : (zrs 35)[i.toNatClampNeg]? = some (some (zrf 35 i.toNatClampNeg)) ∧ zcl (zrf 35 i.toNatClampNeg) 8 := by
  have q := zall (n := 6) (p := fun j => zrfb 35 j && zclb (zrf 35 j) 8) (by decide +kernel) (zI_lt h)
  simp only [Bool.and_eq_true] at q
  exact ⟨zrfb_of q.1, zclb_of q.2⟩
theorem zl_0_0 : (zrs 0)[0]? = some (some 1) := rfl
theorem zl_0_1 : (zrs 0)[1]? = some (some 17) := rfl
theorem zl_0_3 : (zrs 0)[3]? = some (some 33) := rfl
theorem zl_0_4 : (zrs 0)[4]? = some (some 35) := rfl
theorem zl_0_5 : (zrs 0)[5]? = some (some 42) := rfl
theorem zl_0_7 : (zrs 0)[7]? = some (some 43) := rfl
theorem zl_0_8 : (zrs 0)[8]? = some (some 46) := rfl
theorem zl_0_9 : (zrs 0)[9]? = some (some 49) := rfl
theorem zl_0_10 : (zrs 0)[10]? = some (some 54) := rfl
theorem zl_0_11 : (zrs 0)[11]? = some (some 58) := rfl
theorem zl_0_12 : (zrs 0)[12]? = some (some 61) := rfl
theorem zl_0_13 : (zrs 0)[13]? = some (some 64) := rfl
theorem zl_1_0 : (zrs 1)[0]? = some (some 2) := rfl
theorem zl_1_1 : (zrs 1)[1]? = some (some 4) := rfl
theorem zl_1_2 : (zrs 1)[2]? = some (some 6) := rfl
theorem zl_1_4 : (zrs 1)[4]? = some (some 9) := rfl
theorem zl_1_5 : (zrs 1)[5]? = some (some 11) := rfl
theorem zl_1_6 : (zrs 1)[6]? = some (some 13) := rfl
theorem zl_1_7 : (zrs 1)[7]? = some (some 15) := rfl
theorem zl_33_0 : (zrs 33)[0]? = some (some 34) := rfl
theorem zl_43_1 : (zrs 43)[1]? = some (some 45) := rfl
theorem zl_46_0 : (zrs 46)[0]? = some (some 47) := rfl
theorem zl_46_1 : (zrs 46)[1]? = some (some 48) := rfl
theorem zl_49_0 : (zrs 49)[0]? = some (some 50) := rfl
theorem zl_49_1 : (zrs 49)[1]? = some (some 51) := rfl
theorem zl_49_2 : (zrs 49)[2]? = some (some 52) := rfl
theorem zl_49_3 : (zrs 49)[3]? = some (some 53) := rfl
theorem zl_54_0 : (zrs 54)[0]? = some (some 55) := rfl
theorem zl_54_1 : (zrs 54)[1]? = some (some 56) := rfl
theorem zl_54_2 : (zrs 54)[2]? = some (some 57) := rfl
theorem zl_58_0 : (zrs 58)[0]? = some (some 59) := rfl
theorem zl_58_1 : (zrs 58)[1]? = some (some 60) := rfl
theorem zl_61_0 : (zrs 61)[0]? = some (some 62) := rfl
theorem zl_64_0 : (zrs 64)[0]? = some (some 65) := rfl
theorem zl_64_1 : (zrs 64)[1]? = some (some 66) := rfl
theorem zl_64_2 : (zrs 64)[2]? = some (some 67) := rfl
theorem zl_68_5 : (zrs 68)[5]? = some (some 69) := rfl
theorem zl_68_6 : (zrs 68)[6]? = some (some 70) := rfl
theorem zl_68_7 : (zrs 68)[7]? = some (some 71) := rfl
theorem zl_68_8 : (zrs 68)[8]? = some (some 72) := rfl
theorem zl_68_14 : (zrs 68)[14]? = some (some 73) := rfl
theorem zl_68_15 : (zrs 68)[15]? = some (some 74) := rfl
theorem zl_68_16 : (zrs 68)[16]? = some (some 75) := rfl
theorem zl_68_17 : (zrs 68)[17]? = some (some 76) := rfl
theorem zl_68_18 : (zrs 68)[18]? = some (some 77) := rfl
theorem zl_68_19 : (zrs 68)[19]? = some (some 78) := rfl
theorem zl_68_20 : (zrs 68)[20]? = some (some 79) := rfl
theorem zl_68_21 : (zrs 68)[21]? = some (some 80) := rfl
theorem zl_68_25 : (zrs 68)[25]? = some (some 81) := rfl
theorem zl_68_26 : (zrs 68)[26]? = some (some 82) := rfl
theorem zl_68_27 : (zrs 68)[27]? = some (some 83) := rfl
theorem zl_68_28 : (zrs 68)[28]? = some (some 84) := rfl
theorem zl_68_29 : (zrs 68)[29]? = some (some 85) := rfl
theorem zl_68_30 : (zrs 68)[30]? = some (some 86) := rfl
theorem zl_68_31 : (zrs 68)[31]? = some (some 87) := rfl
theorem zl_68_32 : (zrs 68)[32]? = some (some 88) := rfl
theorem zl_68_33 : (zrs 68)[33]? = some (some 89) := rfl
theorem zl_68_34 : (zrs 68)[34]? = some (some 90) := rfl
theorem zl_68_37 : (zrs 68)[37]? = some (some 91) := rfl
theorem zl_68_39 : (zrs 68)[39]? = some (some 92) := rfl
theorem zl_68_40 : (zrs 68)[40]? = some (some 93) := rfl
theorem zl_68_41 : (zrs 68)[41]? = some (some 94) := rfl
theorem zl_68_43 : (zrs 68)[43]? = some (some 95) := rfl
theorem zl_68_44 : (zrs 68)[44]? = some (some 96) := rfl
theorem zl_68_45 : (zrs 68)[45]? = some (some 97) := rfl
theorem zl_68_46 : (zrs 68)[46]? = some (some 98) := rfl
theorem zl_68_48 : (zrs 68)[48]? = some (some 99) := rfl
theorem zl_68_49 : (zrs 68)[49]? = some (some 100) := rfl
theorem zl_68_51 : (zrs 68)[51]? = some (some 101) := rfl
theorem zl_68_58 : (zrs 68)[58]? = some (some 102) := rfl
theorem zl_68_59 : (zrs 68)[59]? = some (some 103) := rfl
theorem zl_68_60 : (zrs 68)[60]? = some (some 104) := rfl
theorem zl_68_61 : (zrs 68)[61]? = some (some 105) := rfl
theorem zl_68_62 : (zrs 68)[62]? = some (some 106) := rfl
theorem zl_68_63 : (zrs 68)[63]? = some (some 107) := rfl
theorem zl_68_64 : (zrs 68)[64]? = some (some 108) := rfl
theorem zl_68_65 : (zrs 68)[65]? = some (some 109) := rfl
theorem zl_68_67 : (zrs 68)[67]? = some (some 110) := rfl
theorem zl_68_68 : (zrs 68)[68]? = some (some 111) := rfl
theorem zl_68_69 : (zrs 68)[69]? = some (some 112) := rfl
theorem zl_68_70 : (zrs 68)[70]? = some (some 113) := rfl
theorem zl_68_71 : (zrs 68)[71]? = some (some 114) := rfl
theorem zk_0 {o : Nat} (h : zcl o 0) : (zrs o).length = 5 := by
  have q := zall (n := 115) (p := fun o => !(zclb o 0) || ((zrs o).length == 5)) (by decide +kernel) (zcl_lt h)
  simpa [zclb_iff h] using q
theorem zk_2 {o : Nat} (h : zcl o 2) : (zrs o).length = 2 := by
  have q := zall (n := 115) (p := fun o => !(zclb o 2) || ((zrs o).length == 2)) (by decide +kernel) (zcl_lt h)
  simpa [zclb_iff h] using q
theorem zk_3 {o : Nat} (h : zcl o 3) : (zrs o).length = 8 := by
  have q := zall (n := 115) (p := fun o => !(zclb o 3) || ((zrs o).length == 8)) (by decide +kernel) (zcl_lt h)
  simpa [zclb_iff h] using q
theorem zk_5 {o : Nat} (h : zcl o 5) : (zrs o).length = 9 := by
  have q := zall (n := 115) (p := fun o => !(zclb o 5) || ((zrs o).length == 9)) (by decide +kernel) (zcl_lt h)
  simpa [zclb_iff h] using q
theorem zk_8 {o : Nat} (h : zcl o 8) : (zrs o).length = 4 := by
  have q := zall (n := 115) (p := fun o => !(zclb o 8) || ((zrs o).length == 4)) (by decide +kernel) (zcl_lt h)
  simpa [zclb_iff h] using q
theorem zk_9 {o : Nat} (h : zcl o 9) : (zrs o).length = 10 := by
  have q := zall (n := 115) (p := fun o => !(zclb o 9) || ((zrs o).length == 10)) (by decide +kernel) (zcl_lt h)
  simpa [zclb_iff h] using q
theorem zk_10 {o : Nat} (h : zcl o 10) : (zrs o).length = 14 := by
  have q := zall (n := 115) (p := fun o => !(zclb o 10) || ((zrs o).length == 14)) (by decide +kernel) (zcl_lt h)
  simpa [zclb_iff h] using q
theorem zk_11 {o : Nat} (h : zcl o 11) : (zrs o).length = 72 := by
  have q := zall (n := 115) (p := fun o => !(zclb o 11) || ((zrs o).length == 72)) (by decide +kernel) (zcl_lt h)
  simpa [zclb_iff h] using q
theorem zf_2_0 {o : Nat} (h : zcl o 2) : (zrs o)[0]? = some (some (zrf o 0)) ∧ zar (zrf o 0) 0 := by
  have q := zall (n := 115) (p := fun o => !(zclb o 2) || (zrfb o 0 && zarb (zrf o 0) 0)) (by decide +kernel) (zcl_lt h)
  simp only [zclb_iff h, Bool.not_true, Bool.false_or, Bool.and_eq_true] at q
  exact ⟨zrfb_of q.1, zarb_of q.2⟩
theorem zf_4_0 {o : Nat} (h : zcl o 4) : (zrs o)[0]? = some (some (zrf o 0)) ∧ zar (zrf o 0) 0 := by
  have q := zall (n := 115) (p := fun o => !(zclb o 4) || (zrfb o 0 && zarb (zrf o 0) 0)) (by decide +kernel) (zcl_lt h)
  simp only [zclb_iff h, Bool.not_true, Bool.false_or, Bool.and_eq_true] at q
  exact ⟨zrfb_of q.1, zarb_of q.2⟩
theorem zf_4_1 {o : Nat} (h : zcl o 4) : (zrs o)[1]? = some (some (zrf o 1)) ∧ zar (zrf o 1) 0 := by
  have q := zall (n := 115) (p := fun o => !(zclb o 4) || (zrfb o 1 && zarb (zrf o 1) 0)) (by decide +kernel) (zcl_lt h)
  simp only [zclb_iff h, Bool.not_true, Bool.false_or, Bool.and_eq_true] at q
  exact ⟨zrfb_of q.1, zarb_of q.2⟩
theorem zf_5_0 {o : Nat} (h : zcl o 5) : (zrs o)[0]? = some (some (zrf o 0)) ∧ zcl (zrf o 0) 2 := by
  have q := zall (n := 115) (p := fun o => !(zclb o 5) || (zrfb o 0 && zclb (zrf o 0) 2)) (by decide +kernel) (zcl_lt h)
  simp only [zclb_iff h, Bool.not_true, Bool.false_or, Bool.and_eq_true] at q
  exact ⟨zrfb_of q.1, zclb_of q.2⟩
theorem zf_5_1 {o : Nat} (h : zcl o 5) : (zrs o)[1]? = some (some (zrf o 1)) ∧ zcl (zrf o 1) 2 := by
  have q := zall (n := 115) (p := fun o => !(zclb o 5) || (zrfb o 1 && zclb (zrf o 1) 2)) (by decide +kernel) (zcl_lt h)
  simp only [zclb_iff h, Bool.not_true, Bool.false_or, Bool.and_eq_true] at q
  exact ⟨zrfb_of q.1, zclb_of q.2⟩
theorem zf_5_2 {o : Nat} (h : zcl o 5) : (zrs o)[2]? = some (some (zrf o 2)) ∧ zcl (zrf o 2) 2 := by
  have q := zall (n := 115) (p := fun o => !(zclb o 5) || (zrfb o 2 && zclb (zrf o 2) 2)) (by decide +kernel) (zcl_lt h)
  simp only [zclb_iff h, Bool.not_true, Bool.false_or, Bool.and_eq_true] at q
  exact ⟨zrfb_of q.1, zclb_of q.2⟩
theorem zf_5_3 {o : Nat} (h : zcl o 5) : (zrs o)[3]? = some (some (zrf o 3)) ∧ zar (zrf o 3) 0 := by
  have q := zall (n := 115) (p := fun o => !(zclb o 5) || (zrfb o 3 && zarb (zrf o 3) 0)) (by decide +kernel) (zcl_lt h)
  simp only [zclb_iff h, Bool.not_true, Bool.false_or, Bool.and_eq_true] at q
  exact ⟨zrfb_of q.1, zarb_of q.2⟩
theorem zf_5_4 {o : Nat} (h : zcl o 5) : (zrs o)[4]? = some (some (zrf o 4)) ∧ zcl (zrf o 4) 2 := by
  have q := zall (n := 115) (p := fun o => !(zclb o 5) || (zrfb o 4 && zclb (zrf o 4) 2)) (by decide +kernel) (zcl_lt h)
  simp only [zclb_iff h, Bool.not_true, Bool.false_or, Bool.and_eq_true] at q
  exact ⟨zrfb_of q.1, zclb_of q.2⟩
theorem zf_5_5 {o : Nat} (h : zcl o 5) : (zrs o)[5]? = some (some (zrf o 5)) ∧ zcl (zrf o 5) 2 := by
  have q := zall (n := 115) (p := fun o => !(zclb o 5) || (zrfb o 5 && zclb (zrf o 5) 2)) (by decide +kernel) (zcl_lt h)
  simp only [zclb_iff h, Bool.not_true, Bool.false_or, Bool.and_eq_true] at q
  exact ⟨zrfb_of q.1, zclb_of q.2⟩
theorem zf_5_6 {o : Nat} (h : zcl o 5) : (zrs o)[6]? = some (some (zrf o 6)) ∧ zcl (zrf o 6) 2 := by
  have q := zall (n := 115) (p := fun o => !(zclb o 5) || (zrfb o 6 && zclb (zrf o 6) 2)) (by decide +kernel) (zcl_lt h)
  simp only [zclb_iff h, Bool.not_true, Bool.false_or, Bool.and_eq_true] at q
  exact ⟨zrfb_of q.1, zclb_of q.2⟩
theorem zf_5_7 {o : Nat} (h : zcl o 5) : (zrs o)[7]? = some (some (zrf o 7)) ∧ zcl (zrf o 7) 2 := by
  have q := zall (n := 115) (p := fun o => !(zclb o 5) || (zrfb o 7 && zclb (zrf o 7) 2)) (by decide +kernel) (zcl_lt h)
  simp only [zclb_iff h, Bool.not_true, Bool.false_or, Bool.and_eq_true] at q
  exact ⟨zrfb_of q.1, zclb_of q.2⟩
