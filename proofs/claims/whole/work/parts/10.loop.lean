theorem zg_t {α : Type} (x : Option α) : zg true x = x := rfl
theorem zb1_s {α β : Type} (a : α) (k : α → Option β) : zb1 (some a) k = k a := rfl
theorem zb2_s {α β γ : Type} (a : α) (b : β) (k : α → β → Option γ) : zb2 (some (a, b)) k = k a b := rfl
theorem zif_r {α β : Type} (a : α) [Decidable (a = a)] (x y : β) : (if a = a then x else y) = x := if_pos rfl
theorem lgc_r (a : Int64) : lg_cmp a a = 0 := by simp [lg_cmp]
/-- a loop that keeps V and goes down in mu comes to an end, in Q -/
theorem wn_ok {σ ρ : Type} (f : σ → Option (σ ⊕ ρ)) (V : σ → Prop) (mu : σ → Nat) (Q : ρ → Prop) (h : ∀ s, V s → (∃ r, f s = some (.inr r) ∧ Q r) ∨ (∃ s', f s = some (.inl s') ∧ V s' ∧ mu s' < mu s)) : ∀ (n : Nat) (s : σ), V s → mu s < n → ∃ r, whileN n f s = some r ∧ Q r := by
  intro n
  induction n with
  | zero => intro s _ hm; omega
  | succ n ih =>
    intro s hV hm
    rcases h s hV with ⟨r, e, q⟩ | ⟨s', e, q, hlt⟩
    · exact ⟨r, by rw [whileN, e], q⟩
    · obtain ⟨r, e2, q2⟩ := ih s' q (by omega)
      exact ⟨r, by rw [whileN, e]; exact e2, q2⟩
theorem zn_FU {n : Nat} (h : n < 1000000000000) : n < zFU := h
theorem i_bm {x : Int} (h1 : -2147483648 ≤ x) (h2 : x < 2147483648) : x.bmod (2 ^ 32) = x := by
  rw [Int.bmod_def]
  split <;> omega
theorem i_add {a k : Int32} (h1 : -2147483648 ≤ a.toInt + k.toInt) (h2 : a.toInt + k.toInt < 2147483648) : (a + k).toInt = a.toInt + k.toInt := by
  rw [Int32.toInt_add]
  exact i_bm h1 h2
theorem i_sub {a k : Int32} (h1 : -2147483648 ≤ a.toInt - k.toInt) (h2 : a.toInt - k.toInt < 2147483648) : (a - k).toInt = a.toInt - k.toInt := by
  rw [Int32.toInt_sub]
  exact i_bm h1 h2
theorem i_ofNat {n : Nat} (h : n < 2147483648) : (Int32.ofNat n).toInt = n := by
  rw [Int32.toInt_ofNat_of_lt h]
theorem i_zI {i : Int32} {n : Nat} (h1 : 0 ≤ i.toInt) (h2 : i.toInt < n) : zI i n = true := by
  have h3 : ¬ i < 0 := by
    rw [Int32.lt_iff_toInt_lt]
    show ¬ i.toInt < 0
    omega
  have h4 : i.toNatClampNeg < n := by
    rw [← Int32.toNat_toInt]
    omega
  simp [zI, h3, h4]
/-- what the six ints of a step need -/
def LZ (L : Nat) (a : Int32) : Prop := zI (a + 1) L = true ∧ zI (a + 2) L = true ∧ zI (a + 3) L = true ∧ zI (a + 4) L = true ∧ zI (a + 5) L = true
theorem lz_of {L : Nat} {a : Int32} (h0 : 0 ≤ a.toInt) (h1 : a.toInt + 6 ≤ L) (hL : L ≤ 3072) : zI a L = true ∧ LZ L a ∧ (a + 6).toInt = a.toInt + 6 := by
  have e : ∀ k : Int32, 0 ≤ k.toInt → k.toInt ≤ 6 → (a + k).toInt = a.toInt + k.toInt := fun k q1 q2 => i_add (by omega) (by omega)
  have z : ∀ k : Int32, 0 ≤ k.toInt → k.toInt ≤ 5 → zI (a + k) L = true := fun k q1 q2 => i_zI (by rw [e k q1 (by omega)]; omega) (by rw [e k q1 (by omega)]; omega)
  exact ⟨i_zI h0 (by omega), ⟨z 1 (by decide) (by decide), z 2 (by decide) (by decide), z 3 (by decide) (by decide), z 4 (by decide) (by decide), z 5 (by decide) (by decide)⟩, e 6 (by decide) (by decide)⟩
def O_plan (I : zv_M → Prop) : Prop := ∀ (m : zv_M), I m → ∀ (x1 x2 : Int32), ∃ (r : Int32) (m1 : zv_M) (m2 : zv_M), fN_plan x1 x2 m = some (r, m1) ∧ fM_plan x1 x2 m1 = some (r, m2) ∧ I m2
theorem lo_fLaw_j208 {I : zv_M → Prop} (h : O_plan I) {L : Nat} {xs : Nat → Int32} {a2 : Int32} {m : zv_M} (hi : I m) (hz : LZ L a2) : ∃ m', fLaw_j208 L xs a2 m = some (.inl (a2 + 6, m')) ∧ I m' := by
  obtain ⟨z1, z2, z3, z4, z5⟩ := hz
  obtain ⟨r, m1, m2, e1, e2, hI⟩ := h m hi (xs (a2 + 1).toNatClampNeg) (xs (a2 + 2).toNatClampNeg)
  exact ⟨m2, by simp only [fLaw_j208, z1, z2, z3, z4, z5, zg_t, e1, e2, zb1_s, zb2_s, zif_r, lgc_r, ↓reduceIte], hI⟩
def O_of (I : zv_M → Prop) : Prop := ∀ (m : zv_M), I m → ∀ (x1 x2 : Int32), ∃ (r : Int32), fN_of x1 x2 m = some r ∧ fM_of x1 x2 m = some r
theorem lo_fLaw_j241 {I : zv_M → Prop} (h : O_of I) {L : Nat} {xs : Nat → Int32} {a2 : Int32} {m : zv_M} (hi : I m) (hz : LZ L a2) : ∃ m', fLaw_j241 L xs a2 m = some (.inl (a2 + 6, m')) ∧ I m' := by
  obtain ⟨z1, z2, z3, z4, z5⟩ := hz
  obtain ⟨r, e1, e2⟩ := h m hi (xs (a2 + 1).toNatClampNeg) (xs (a2 + 2).toNatClampNeg)
  exact ⟨m, by simp only [fLaw_j241, z1, z2, z3, z4, z5, zg_t, e1, e2, zb1_s, zb2_s, zif_r, lgc_r, ↓reduceIte], hi⟩
def O_row (I : zv_M → Prop) : Prop := ∀ (m : zv_M), I m → ∀ (x1 x2 x3 : Int32), ∃ (r : Int32) (m1 : zv_M) (m2 : zv_M), fN_row x1 x2 x3 m = some (r, m1) ∧ fM_row x1 x2 x3 m1 = some (r, m2) ∧ I m2
theorem lo_fLaw_j274 {I : zv_M → Prop} (h : O_row I) {L : Nat} {xs : Nat → Int32} {a2 : Int32} {m : zv_M} (hi : I m) (hz : LZ L a2) : ∃ m', fLaw_j274 L xs a2 m = some (.inl (a2 + 6, m')) ∧ I m' := by
  obtain ⟨z1, z2, z3, z4, z5⟩ := hz
  obtain ⟨r, m1, m2, e1, e2, hI⟩ := h m hi (xs (a2 + 1).toNatClampNeg) (xs (a2 + 2).toNatClampNeg) (xs (a2 + 3).toNatClampNeg)
  exact ⟨m2, by simp only [fLaw_j274, z1, z2, z3, z4, z5, zg_t, e1, e2, zb1_s, zb2_s, zif_r, lgc_r, ↓reduceIte], hI⟩
def O_feed (I : zv_M → Prop) : Prop := ∀ (m : zv_M), I m → ∀ (x1 : Int32), ∃ (r : Int32) (m1 : zv_M) (m2 : zv_M), fN_feed x1 m = some (r, m1) ∧ fM_feed x1 m1 = some (r, m2) ∧ I m2
theorem lo_fLaw_j317 {I : zv_M → Prop} (h : O_feed I) {L : Nat} {xs : Nat → Int32} {a2 : Int32} {m : zv_M} (hi : I m) (hz : LZ L a2) : ∃ m', fLaw_j317 L xs a2 m = some (.inl (a2 + 6, m')) ∧ I m' := by
  obtain ⟨z1, z2, z3, z4, z5⟩ := hz
  obtain ⟨r, m1, m2, e1, e2, hI⟩ := h m hi (xs (a2 + 1).toNatClampNeg)
  exact ⟨m2, by simp only [fLaw_j317, z1, z2, z3, z4, z5, zg_t, e1, e2, zb1_s, zb2_s, zif_r, lgc_r, ↓reduceIte], hI⟩
def O_yard (I : zv_M → Prop) : Prop := ∀ (m : zv_M), I m → ∃ (r : Int32) (m1 : zv_M) (m2 : zv_M), fN_yard  m = some (r, m1) ∧ fM_yard  m1 = some (r, m2) ∧ I m2
theorem lo_fLaw_j340 {I : zv_M → Prop} (h : O_yard I) {L : Nat} {xs : Nat → Int32} {a2 : Int32} {m : zv_M} (hi : I m) (hz : LZ L a2) : ∃ m', fLaw_j340 a2 m = some (.inl (a2 + 6, m')) ∧ I m' := by
  obtain ⟨z1, z2, z3, z4, z5⟩ := hz
  obtain ⟨r, m1, m2, e1, e2, hI⟩ := h m hi 
  exact ⟨m2, by simp only [fLaw_j340, z1, z2, z3, z4, z5, zg_t, e1, e2, zb1_s, zb2_s, zif_r, lgc_r, ↓reduceIte], hI⟩
def O_told (I : zv_M → Prop) : Prop := ∀ (m : zv_M), I m → ∀ (x1 : Int32), ∃ (r : Int32) (m1 : zv_M), fN_told x1 m = some (r, m1) ∧ fM_told x1 m1 = some r ∧ I m1
theorem lo_fLaw_j353 {I : zv_M → Prop} (h : O_told I) {L : Nat} {xs : Nat → Int32} {a2 : Int32} {m : zv_M} (hi : I m) (hz : LZ L a2) : ∃ m', fLaw_j353 L xs a2 m = some (.inl (a2 + 6, m')) ∧ I m' := by
  obtain ⟨z1, z2, z3, z4, z5⟩ := hz
  obtain ⟨r, m1, e1, e2, hI⟩ := h m hi (xs (a2 + 1).toNatClampNeg)
  exact ⟨m1, by simp only [fLaw_j353, z1, z2, z3, z4, z5, zg_t, e1, e2, zb1_s, zb2_s, zif_r, lgc_r, ↓reduceIte], hI⟩
def O_set (I : zv_M → Prop) : Prop := ∀ (m : zv_M), I m → ∀ (x1 x2 : Int32), ∃ (r : Int32) (m1 : zv_M) (m2 : zv_M), fN_set x1 x2 m = some (r, m1) ∧ fM_set x1 x2 m1 = some (r, m2) ∧ I m2
theorem lo_fLaw_j376 {I : zv_M → Prop} (h : O_set I) {L : Nat} {xs : Nat → Int32} {a2 : Int32} {m : zv_M} (hi : I m) (hz : LZ L a2) : ∃ m', fLaw_j376 L xs a2 m = some (.inl (a2 + 6, m')) ∧ I m' := by
  obtain ⟨z1, z2, z3, z4, z5⟩ := hz
  obtain ⟨r, m1, m2, e1, e2, hI⟩ := h m hi (xs (a2 + 1).toNatClampNeg) (xs (a2 + 2).toNatClampNeg)
  exact ⟨m2, by simp only [fLaw_j376, z1, z2, z3, z4, z5, zg_t, e1, e2, zb1_s, zb2_s, zif_r, lgc_r, ↓reduceIte], hI⟩
def O_take (I : zv_M → Prop) : Prop := ∀ (m : zv_M), I m → ∀ (x1 : Int32), ∃ (r : Int32) (m1 : zv_M) (m2 : zv_M), fN_take x1 m = some (r, m1) ∧ fM_take x1 m1 = some (r, m2) ∧ I m2
theorem lo_fLaw_j409 {I : zv_M → Prop} (h : O_take I) {L : Nat} {xs : Nat → Int32} {a2 : Int32} {m : zv_M} (hi : I m) (hz : LZ L a2) : ∃ m', fLaw_j409 L xs a2 m = some (.inl (a2 + 6, m')) ∧ I m' := by
  obtain ⟨z1, z2, z3, z4, z5⟩ := hz
  obtain ⟨r, m1, m2, e1, e2, hI⟩ := h m hi (xs (a2 + 1).toNatClampNeg)
  exact ⟨m2, by simp only [fLaw_j409, z1, z2, z3, z4, z5, zg_t, e1, e2, zb1_s, zb2_s, zif_r, lgc_r, ↓reduceIte], hI⟩
def O_at (I : zv_M → Prop) : Prop := ∀ (m : zv_M), I m → ∀ (x1 x2 : Int32), ∃ (r : Int32) (m1 : zv_M), fN_at x1 x2 m = some (r, m1) ∧ fM_at x1 x2 m1 = some r ∧ I m1
theorem lo_fLaw_j432 {I : zv_M → Prop} (h : O_at I) {L : Nat} {xs : Nat → Int32} {a2 : Int32} {m : zv_M} (hi : I m) (hz : LZ L a2) : ∃ m', fLaw_j432 L xs a2 m = some (.inl (a2 + 6, m')) ∧ I m' := by
  obtain ⟨z1, z2, z3, z4, z5⟩ := hz
  obtain ⟨r, m1, e1, e2, hI⟩ := h m hi (xs (a2 + 1).toNatClampNeg) (xs (a2 + 2).toNatClampNeg)
  exact ⟨m1, by simp only [fLaw_j432, z1, z2, z3, z4, z5, zg_t, e1, e2, zb1_s, zb2_s, zif_r, lgc_r, ↓reduceIte], hI⟩
def O_sees (I : zv_M → Prop) : Prop := ∀ (m : zv_M), I m → ∀ (x1 x2 : Int32), ∃ (r : Int32), fN_sees x1 x2 m = some r ∧ fM_sees x1 x2 m = some r
theorem lo_fLaw_j465 {I : zv_M → Prop} (h : O_sees I) {L : Nat} {xs : Nat → Int32} {a2 : Int32} {m : zv_M} (hi : I m) (hz : LZ L a2) : ∃ m', fLaw_j465 L xs a2 m = some (.inl (a2 + 6, m')) ∧ I m' := by
  obtain ⟨z1, z2, z3, z4, z5⟩ := hz
  obtain ⟨r, e1, e2⟩ := h m hi (xs (a2 + 1).toNatClampNeg) (xs (a2 + 2).toNatClampNeg)
  exact ⟨m, by simp only [fLaw_j465, z1, z2, z3, z4, z5, zg_t, e1, e2, zb1_s, zb2_s, zif_r, lgc_r, ↓reduceIte], hi⟩
def O_clear (I : zv_M → Prop) : Prop := ∀ (m : zv_M), I m → ∃ (r : Int32) (m1 : zv_M) (m2 : zv_M), fN_clear  m = some (r, m1) ∧ fM_clear  m1 = some (r, m2) ∧ I m2
theorem lo_fLaw_j498 {I : zv_M → Prop} (h : O_clear I) {L : Nat} {xs : Nat → Int32} {a2 : Int32} {m : zv_M} (hi : I m) (hz : LZ L a2) : ∃ m', fLaw_j498 a2 m = some (.inl (a2 + 6, m')) ∧ I m' := by
  obtain ⟨z1, z2, z3, z4, z5⟩ := hz
  obtain ⟨r, m1, m2, e1, e2, hI⟩ := h m hi 
  exact ⟨m2, by simp only [fLaw_j498, z1, z2, z3, z4, z5, zg_t, e1, e2, zb1_s, zb2_s, zif_r, lgc_r, ↓reduceIte], hI⟩
def O_worst (I : zv_M → Prop) : Prop := ∀ (m : zv_M), I m → ∃ (r : Int32) (m1 : zv_M), fN_worst  m = some (r, m1) ∧ fM_worst  m1 = some r ∧ I m1
theorem lo_fLaw_j511 {I : zv_M → Prop} (h : O_worst I) {L : Nat} {xs : Nat → Int32} {a2 : Int32} {m : zv_M} (hi : I m) (hz : LZ L a2) : ∃ m', fLaw_j511 a2 m = some (.inl (a2 + 6, m')) ∧ I m' := by
  obtain ⟨z1, z2, z3, z4, z5⟩ := hz
  obtain ⟨r, m1, e1, e2, hI⟩ := h m hi 
  exact ⟨m1, by simp only [fLaw_j511, z1, z2, z3, z4, z5, zg_t, e1, e2, zb1_s, zb2_s, zif_r, lgc_r, ↓reduceIte], hI⟩
def O_ways (I : zv_M → Prop) : Prop := ∀ (m : zv_M), I m → ∀ (x1 x2 : Int32), ∃ (r : Int32) (m1 : zv_M) (m2 : zv_M), fN_ways x1 x2 m = some (r, m1) ∧ fM_ways x1 x2 m1 = some (r, m2) ∧ I m2
theorem lo_fLaw_j524 {I : zv_M → Prop} (h : O_ways I) {L : Nat} {xs : Nat → Int32} {a2 : Int32} {m : zv_M} (hi : I m) (hz : LZ L a2) : ∃ m', fLaw_j524 L xs a2 m = some (.inl (a2 + 6, m')) ∧ I m' := by
  obtain ⟨z1, z2, z3, z4, z5⟩ := hz
  obtain ⟨r, m1, m2, e1, e2, hI⟩ := h m hi (xs (a2 + 1).toNatClampNeg) (xs (a2 + 2).toNatClampNeg)
  exact ⟨m2, by simp only [fLaw_j524, z1, z2, z3, z4, z5, zg_t, e1, e2, zb1_s, zb2_s, zif_r, lgc_r, ↓reduceIte], hI⟩
def O_after (I : zv_M → Prop) : Prop := ∀ (m : zv_M), I m → ∀ (x1 x2 : Int32), ∃ (r : Int32) (m1 : zv_M) (m2 : zv_M), fN_after x1 x2 m = some (r, m1) ∧ fM_after x1 x2 m1 = some (r, m2) ∧ I m2
theorem lo_fLaw_j557 {I : zv_M → Prop} (h : O_after I) {L : Nat} {xs : Nat → Int32} {a2 : Int32} {m : zv_M} (hi : I m) (hz : LZ L a2) : ∃ m', fLaw_j557 L xs a2 m = some (.inl (a2 + 6, m')) ∧ I m' := by
  obtain ⟨z1, z2, z3, z4, z5⟩ := hz
  obtain ⟨r, m1, m2, e1, e2, hI⟩ := h m hi (xs (a2 + 1).toNatClampNeg) (xs (a2 + 2).toNatClampNeg)
  exact ⟨m2, by simp only [fLaw_j557, z1, z2, z3, z4, z5, zg_t, e1, e2, zb1_s, zb2_s, zif_r, lgc_r, ↓reduceIte], hI⟩
def O_most (I : zv_M → Prop) : Prop := ∀ (m : zv_M), I m → ∀ (x1 : Int32), ∃ (r : Int32) (m1 : zv_M) (m2 : zv_M), fN_most x1 m = some (r, m1) ∧ fM_most x1 m1 = some (r, m2) ∧ I m2
theorem lo_fLaw_j590 {I : zv_M → Prop} (h : O_most I) {L : Nat} {xs : Nat → Int32} {a2 : Int32} {m : zv_M} (hi : I m) (hz : LZ L a2) : ∃ m', fLaw_j590 L xs a2 m = some (.inl (a2 + 6, m')) ∧ I m' := by
  obtain ⟨z1, z2, z3, z4, z5⟩ := hz
  obtain ⟨r, m1, m2, e1, e2, hI⟩ := h m hi (xs (a2 + 1).toNatClampNeg)
  exact ⟨m2, by simp only [fLaw_j590, z1, z2, z3, z4, z5, zg_t, e1, e2, zb1_s, zb2_s, zif_r, lgc_r, ↓reduceIte], hI⟩
def O_hold (I : zv_M → Prop) : Prop := ∀ (m : zv_M), I m → ∀ (x1 x2 : Int32), ∃ (r : Int32) (m1 : zv_M) (m2 : zv_M), fN_hold x1 x2 m = some (r, m1) ∧ fM_hold x1 x2 m1 = some (r, m2) ∧ I m2
theorem lo_fLaw_j613 {I : zv_M → Prop} (h : O_hold I) {L : Nat} {xs : Nat → Int32} {a2 : Int32} {m : zv_M} (hi : I m) (hz : LZ L a2) : ∃ m', fLaw_j613 L xs a2 m = some (.inl (a2 + 6, m')) ∧ I m' := by
  obtain ⟨z1, z2, z3, z4, z5⟩ := hz
  obtain ⟨r, m1, m2, e1, e2, hI⟩ := h m hi (xs (a2 + 1).toNatClampNeg) (xs (a2 + 2).toNatClampNeg)
  exact ⟨m2, by simp only [fLaw_j613, z1, z2, z3, z4, z5, zg_t, e1, e2, zb1_s, zb2_s, zif_r, lgc_r, ↓reduceIte], hI⟩
def O_more (I : zv_M → Prop) : Prop := ∀ (m : zv_M), I m → ∀ (x1 : Int32), ∃ (r : Int32) (m1 : zv_M), fN_more x1 m = some (r, m1) ∧ fM_more x1 m1 = some r ∧ I m1
theorem lo_fLaw_j646 {I : zv_M → Prop} (h : O_more I) {L : Nat} {xs : Nat → Int32} {a2 : Int32} {m : zv_M} (hi : I m) (hz : LZ L a2) : ∃ m', fLaw_j646 L xs a2 m = some (.inl (a2 + 6, m')) ∧ I m' := by
  obtain ⟨z1, z2, z3, z4, z5⟩ := hz
  obtain ⟨r, m1, e1, e2, hI⟩ := h m hi (xs (a2 + 1).toNatClampNeg)
  exact ⟨m1, by simp only [fLaw_j646, z1, z2, z3, z4, z5, zg_t, e1, e2, zb1_s, zb2_s, zif_r, lgc_r, ↓reduceIte], hI⟩
def O_right (I : zv_M → Prop) : Prop := ∀ (m : zv_M), I m → ∀ (x1 : Int32), ∃ (r : Int32) (m1 : zv_M) (m2 : zv_M), fN_right x1 m = some (r, m1) ∧ fM_right x1 m1 = some (r, m2) ∧ I m2
theorem lo_fLaw_j669 {I : zv_M → Prop} (h : O_right I) {L : Nat} {xs : Nat → Int32} {a2 : Int32} {m : zv_M} (hi : I m) (hz : LZ L a2) : ∃ m', fLaw_j669 L xs a2 m = some (.inl (a2 + 6, m')) ∧ I m' := by
  obtain ⟨z1, z2, z3, z4, z5⟩ := hz
  obtain ⟨r, m1, m2, e1, e2, hI⟩ := h m hi (xs (a2 + 1).toNatClampNeg)
  exact ⟨m2, by simp only [fLaw_j669, z1, z2, z3, z4, z5, zg_t, e1, e2, zb1_s, zb2_s, zif_r, lgc_r, ↓reduceIte], hI⟩
def O_game (I : zv_M → Prop) : Prop := ∀ (m : zv_M), I m → ∀ (x1 : Int32), ∃ (r : Int32) (m1 : zv_M) (m2 : zv_M), fN_game x1 m = some (r, m1) ∧ fM_game x1 m1 = some (r, m2) ∧ I m2
theorem lo_fLaw_j692 {I : zv_M → Prop} (h : O_game I) {L : Nat} {xs : Nat → Int32} {a2 : Int32} {m : zv_M} (hi : I m) (hz : LZ L a2) : ∃ m', fLaw_j692 L xs a2 m = some (.inl (a2 + 6, m')) ∧ I m' := by
  obtain ⟨z1, z2, z3, z4, z5⟩ := hz
  obtain ⟨r, m1, m2, e1, e2, hI⟩ := h m hi (xs (a2 + 1).toNatClampNeg)
  exact ⟨m2, by simp only [fLaw_j692, z1, z2, z3, z4, z5, zg_t, e1, e2, zb1_s, zb2_s, zif_r, lgc_r, ↓reduceIte], hI⟩
def O_turned (I : zv_M → Prop) : Prop := ∀ (m : zv_M), I m → ∀ (x1 : Int32), ∃ (r : Int32), fN_turned x1 m = some r ∧ fM_turned x1 m = some r
theorem lo_fLaw_j715 {I : zv_M → Prop} (h : O_turned I) {L : Nat} {xs : Nat → Int32} {a2 : Int32} {m : zv_M} (hi : I m) (hz : LZ L a2) : ∃ m', fLaw_j715 L xs a2 m = some (.inl (a2 + 6, m')) ∧ I m' := by
  obtain ⟨z1, z2, z3, z4, z5⟩ := hz
  obtain ⟨r, e1, e2⟩ := h m hi (xs (a2 + 1).toNatClampNeg)
  exact ⟨m, by simp only [fLaw_j715, z1, z2, z3, z4, z5, zg_t, e1, e2, zb1_s, zb2_s, zif_r, lgc_r, ↓reduceIte], hi⟩
def O_alike (I : zv_M → Prop) : Prop := ∀ (m : zv_M), I m → ∃ (r : Int32), fN_alike  m = some r ∧ fM_alike  m = some r
theorem lo_fLaw_j738 {I : zv_M → Prop} (h : O_alike I) {L : Nat} {xs : Nat → Int32} {a2 : Int32} {m : zv_M} (hi : I m) (hz : LZ L a2) : ∃ m', fLaw_j738 a2 m = some (.inl (a2 + 6, m')) ∧ I m' := by
  obtain ⟨z1, z2, z3, z4, z5⟩ := hz
  obtain ⟨r, e1, e2⟩ := h m hi 
  exact ⟨m, by simp only [fLaw_j738, z1, z2, z3, z4, z5, zg_t, e1, e2, zb1_s, zb2_s, zif_r, lgc_r, ↓reduceIte], hi⟩
def O_aim (I : zv_M → Prop) : Prop := ∀ (m : zv_M), I m → ∀ (x1 : Int32), ∃ (r : Int32) (m1 : zv_M) (m2 : zv_M), fN_aim x1 m = some (r, m1) ∧ fM_aim x1 m1 = some (r, m2) ∧ I m2
theorem lo_fLaw_j751 {I : zv_M → Prop} (h : O_aim I) {L : Nat} {xs : Nat → Int32} {a2 : Int32} {m : zv_M} (hi : I m) (hz : LZ L a2) : ∃ m', fLaw_j751 L xs a2 m = some (.inl (a2 + 6, m')) ∧ I m' := by
  obtain ⟨z1, z2, z3, z4, z5⟩ := hz
  obtain ⟨r, m1, m2, e1, e2, hI⟩ := h m hi (xs (a2 + 1).toNatClampNeg)
  exact ⟨m2, by simp only [fLaw_j751, z1, z2, z3, z4, z5, zg_t, e1, e2, zb1_s, zb2_s, zif_r, lgc_r, ↓reduceIte], hI⟩
def O_reach (I : zv_M → Prop) : Prop := ∀ (m : zv_M), I m → ∃ (r : Int32) (m1 : zv_M) (m2 : zv_M), fN_reach  m = some (r, m1) ∧ fM_reach  m1 = some (r, m2) ∧ I m2
theorem lo_fLaw_j774 {I : zv_M → Prop} (h : O_reach I) {L : Nat} {xs : Nat → Int32} {a2 : Int32} {m : zv_M} (hi : I m) (hz : LZ L a2) : ∃ m', fLaw_j774 a2 m = some (.inl (a2 + 6, m')) ∧ I m' := by
  obtain ⟨z1, z2, z3, z4, z5⟩ := hz
  obtain ⟨r, m1, m2, e1, e2, hI⟩ := h m hi 
  exact ⟨m2, by simp only [fLaw_j774, z1, z2, z3, z4, z5, zg_t, e1, e2, zb1_s, zb2_s, zif_r, lgc_r, ↓reduceIte], hI⟩
def O_see (I : zv_M → Prop) : Prop := ∀ (m : zv_M), I m → ∀ (x1 x2 : Int32), ∃ (r : Int32) (m1 : zv_M) (m2 : zv_M), fN_see x1 x2 m = some (r, m1) ∧ fM_see x1 x2 m1 = some (r, m2) ∧ I m2
theorem lo_fLaw_j787 {I : zv_M → Prop} (h : O_see I) {L : Nat} {xs : Nat → Int32} {a2 : Int32} {m : zv_M} (hi : I m) (hz : LZ L a2) : ∃ m', fLaw_j787 L xs a2 m = some (.inl (a2 + 6, m')) ∧ I m' := by
  obtain ⟨z1, z2, z3, z4, z5⟩ := hz
  obtain ⟨r, m1, m2, e1, e2, hI⟩ := h m hi (xs (a2 + 1).toNatClampNeg) (xs (a2 + 2).toNatClampNeg)
  exact ⟨m2, by simp only [fLaw_j787, z1, z2, z3, z4, z5, zg_t, e1, e2, zb1_s, zb2_s, zif_r, lgc_r, ↓reduceIte], hI⟩
def O_rubbed (I : zv_M → Prop) : Prop := ∀ (m : zv_M), I m → ∀ (x1 : Int32), ∃ (r : Int32) (m1 : zv_M) (m2 : zv_M), fN_rubbed x1 m = some (r, m1) ∧ fM_rubbed x1 m1 = some (r, m2) ∧ I m2
theorem lo_fLaw_j820 {I : zv_M → Prop} (h : O_rubbed I) {L : Nat} {xs : Nat → Int32} {a2 : Int32} {m : zv_M} (hi : I m) (hz : LZ L a2) : ∃ m', fLaw_j820 L xs a2 m = some (.inl (a2 + 6, m')) ∧ I m' := by
  obtain ⟨z1, z2, z3, z4, z5⟩ := hz
  obtain ⟨r, m1, m2, e1, e2, hI⟩ := h m hi (xs (a2 + 1).toNatClampNeg)
  exact ⟨m2, by simp only [fLaw_j820, z1, z2, z3, z4, z5, zg_t, e1, e2, zb1_s, zb2_s, zif_r, lgc_r, ↓reduceIte], hI⟩
def O_odds (I : zv_M → Prop) : Prop := ∀ (m : zv_M), I m → ∀ (x1 x2 : Int32), ∃ (r : Int64) (m1 : zv_M), fN_odds x1 x2 m = some (r, m1) ∧ fM_odds x1 x2 m1 = some r ∧ I m1
theorem lo_fLaw_j843 {I : zv_M → Prop} (h : O_odds I) {L : Nat} {xs : Nat → Int32} {a2 : Int32} {m : zv_M} (hi : I m) (hz : LZ L a2) : ∃ m', fLaw_j843 L xs a2 m = some (.inl (a2 + 6, m')) ∧ I m' := by
  obtain ⟨z1, z2, z3, z4, z5⟩ := hz
  obtain ⟨r, m1, e1, e2, hI⟩ := h m hi (xs (a2 + 1).toNatClampNeg) (xs (a2 + 2).toNatClampNeg)
  exact ⟨m1, by simp only [fLaw_j843, z1, z2, z3, z4, z5, zg_t, e1, e2, zb1_s, zb2_s, zif_r, lgc_r, ↓reduceIte], hI⟩
def O_mean (I : zv_M → Prop) : Prop := ∀ (m : zv_M), I m → ∀ (x1 : Int32), ∃ (r : Int64) (m1 : zv_M), fN_mean x1 m = some (r, m1) ∧ fM_mean x1 m1 = some r ∧ I m1
theorem lo_fLaw_j877 {I : zv_M → Prop} (h : O_mean I) {L : Nat} {xs : Nat → Int32} {a2 : Int32} {m : zv_M} (hi : I m) (hz : LZ L a2) : ∃ m', fLaw_j877 L xs a2 m = some (.inl (a2 + 6, m')) ∧ I m' := by
  obtain ⟨z1, z2, z3, z4, z5⟩ := hz
  obtain ⟨r, m1, e1, e2, hI⟩ := h m hi (xs (a2 + 1).toNatClampNeg)
  exact ⟨m1, by simp only [fLaw_j877, z1, z2, z3, z4, z5, zg_t, e1, e2, zb1_s, zb2_s, zif_r, lgc_r, ↓reduceIte], hI⟩
def O_book (I : zv_M → Prop) : Prop := ∀ (m : zv_M), I m → ∀ (x1 : Int32), ∃ (r : Int32) (m1 : zv_M) (m2 : zv_M), fN_book x1 m = some (r, m1) ∧ fM_book x1 m1 = some (r, m2) ∧ I m2
theorem lo_fLaw_j901 {I : zv_M → Prop} (h : O_book I) {L : Nat} {xs : Nat → Int32} {a2 : Int32} {m : zv_M} (hi : I m) (hz : LZ L a2) : ∃ m', fLaw_j901 L xs a2 m = some (.inl (a2 + 6, m')) ∧ I m' := by
  obtain ⟨z1, z2, z3, z4, z5⟩ := hz
  obtain ⟨r, m1, m2, e1, e2, hI⟩ := h m hi (xs (a2 + 1).toNatClampNeg)
  exact ⟨m2, by simp only [fLaw_j901, z1, z2, z3, z4, z5, zg_t, e1, e2, zb1_s, zb2_s, zif_r, lgc_r, ↓reduceIte], hI⟩
def O_looked (I : zv_M → Prop) : Prop := ∀ (m : zv_M), I m → ∃ (r : Int32), fN_looked  m = some r ∧ fM_looked  m = some r
theorem lo_fLaw_j924 {I : zv_M → Prop} (h : O_looked I) {L : Nat} {xs : Nat → Int32} {a2 : Int32} {m : zv_M} (hi : I m) (hz : LZ L a2) : ∃ m', fLaw_j924 a2 m = some (.inl (a2 + 6, m')) ∧ I m' := by
  obtain ⟨z1, z2, z3, z4, z5⟩ := hz
  obtain ⟨r, e1, e2⟩ := h m hi 
  exact ⟨m, by simp only [fLaw_j924, z1, z2, z3, z4, z5, zg_t, e1, e2, zb1_s, zb2_s, zif_r, lgc_r, ↓reduceIte], hi⟩
def O_judge (I : zv_M → Prop) : Prop := ∀ (m : zv_M), I m → ∀ (x1 x2 : Int32), ∃ (r : Int32), fN_judge x1 x2 m = some r ∧ fM_judge x1 x2 m = some r
theorem lo_fLaw_j937 {I : zv_M → Prop} (h : O_judge I) {L : Nat} {xs : Nat → Int32} {a2 : Int32} {m : zv_M} (hi : I m) (hz : LZ L a2) : ∃ m', fLaw_j937 L xs a2 m = some (.inl (a2 + 6, m')) ∧ I m' := by
  obtain ⟨z1, z2, z3, z4, z5⟩ := hz
  obtain ⟨r, e1, e2⟩ := h m hi (xs (a2 + 1).toNatClampNeg) (xs (a2 + 2).toNatClampNeg)
  exact ⟨m, by simp only [fLaw_j937, z1, z2, z3, z4, z5, zg_t, e1, e2, zb1_s, zb2_s, zif_r, lgc_r, ↓reduceIte], hi⟩
def O_image (I : zv_M → Prop) : Prop := ∀ (m : zv_M), I m → ∃ (r : Int32) (m1 : zv_M) (m2 : zv_M), fN_image  m = some (r, m1) ∧ fM_image  m1 = some (r, m2) ∧ I m2
theorem lo_fLaw_j970 {I : zv_M → Prop} (h : O_image I) {L : Nat} {xs : Nat → Int32} {a2 : Int32} {m : zv_M} (hi : I m) (hz : LZ L a2) : ∃ m', fLaw_j970 a2 m = some (.inl (a2 + 6, m')) ∧ I m' := by
  obtain ⟨z1, z2, z3, z4, z5⟩ := hz
  obtain ⟨r, m1, m2, e1, e2, hI⟩ := h m hi 
  exact ⟨m2, by simp only [fLaw_j970, z1, z2, z3, z4, z5, zg_t, e1, e2, zb1_s, zb2_s, zif_r, lgc_r, ↓reduceIte], hI⟩
def O_undo (I : zv_M → Prop) : Prop := ∀ (m : zv_M), I m → ∃ (r : Int32) (m1 : zv_M) (m2 : zv_M), fN_undo  m = some (r, m1) ∧ fM_undo  m1 = some (r, m2) ∧ I m2
theorem lo_fLaw_j983 {I : zv_M → Prop} (h : O_undo I) {L : Nat} {xs : Nat → Int32} {a2 : Int32} {m : zv_M} (hi : I m) (hz : LZ L a2) : ∃ m', fLaw_j983 a2 m = some (.inl (a2 + 6, m')) ∧ I m' := by
  obtain ⟨z1, z2, z3, z4, z5⟩ := hz
  obtain ⟨r, m1, m2, e1, e2, hI⟩ := h m hi 
  exact ⟨m2, by simp only [fLaw_j983, z1, z2, z3, z4, z5, zg_t, e1, e2, zb1_s, zb2_s, zif_r, lgc_r, ↓reduceIte], hI⟩
def O_act (I : zv_M → Prop) : Prop := ∀ (m : zv_M), I m → ∀ (x1 x2 x3 : Int32), ∃ (r : Int32) (m1 : zv_M) (m2 : zv_M), fN_act x1 x2 x3 m = some (r, m1) ∧ fM_act x1 x2 x3 m1 = some (r, m2) ∧ I m2
theorem lo_fLaw_j996 {I : zv_M → Prop} (h : O_act I) {L : Nat} {xs : Nat → Int32} {a2 : Int32} {m : zv_M} (hi : I m) (hz : LZ L a2) : ∃ m', fLaw_j996 L xs a2 m = some (.inl (a2 + 6, m')) ∧ I m' := by
  obtain ⟨z1, z2, z3, z4, z5⟩ := hz
  obtain ⟨r, m1, m2, e1, e2, hI⟩ := h m hi (xs (a2 + 1).toNatClampNeg) (xs (a2 + 2).toNatClampNeg) (xs (a2 + 3).toNatClampNeg)
  exact ⟨m2, by simp only [fLaw_j996, z1, z2, z3, z4, z5, zg_t, e1, e2, zb1_s, zb2_s, zif_r, lgc_r, ↓reduceIte], hI⟩
def O_trace (I : zv_M → Prop) : Prop := ∀ (m : zv_M), I m → ∀ (x1 : Int32), ∃ (r : Int32), fN_trace x1 m = some r ∧ fM_trace x1 m = some r
theorem lo_fLaw_j1039 {I : zv_M → Prop} (h : O_trace I) {L : Nat} {xs : Nat → Int32} {a2 : Int32} {m : zv_M} (hi : I m) (hz : LZ L a2) : ∃ m', fLaw_j1039 L xs a2 m = some (.inl (a2 + 6, m')) ∧ I m' := by
  obtain ⟨z1, z2, z3, z4, z5⟩ := hz
  obtain ⟨r, e1, e2⟩ := h m hi (xs (a2 + 1).toNatClampNeg)
  exact ⟨m, by simp only [fLaw_j1039, z1, z2, z3, z4, z5, zg_t, e1, e2, zb1_s, zb2_s, zif_r, lgc_r, ↓reduceIte], hi⟩
def O_taken (I : zv_M → Prop) : Prop := ∀ (m : zv_M), I m → ∀ (x1 x2 : Int32), ∃ (r : Int32), fN_taken x1 x2 m = some r ∧ fM_taken x1 x2 m = some r
theorem lo_fLaw_j1062 {I : zv_M → Prop} (h : O_taken I) {L : Nat} {xs : Nat → Int32} {a2 : Int32} {m : zv_M} (hi : I m) (hz : LZ L a2) : ∃ m', fLaw_j1062 L xs a2 m = some (.inl (a2 + 6, m')) ∧ I m' := by
  obtain ⟨z1, z2, z3, z4, z5⟩ := hz
  obtain ⟨r, e1, e2⟩ := h m hi (xs (a2 + 1).toNatClampNeg) (xs (a2 + 2).toNatClampNeg)
  exact ⟨m, by simp only [fLaw_j1062, z1, z2, z3, z4, z5, zg_t, e1, e2, zb1_s, zb2_s, zif_r, lgc_r, ↓reduceIte], hi⟩
def O_count (I : zv_M → Prop) : Prop := ∀ (m : zv_M), I m → ∀ (x1 : Int32), ∃ (r : Int32), fN_count x1 m = some r ∧ fM_count x1 m = some r
theorem lo_fLaw_j1095 {I : zv_M → Prop} (h : O_count I) {L : Nat} {xs : Nat → Int32} {a2 : Int32} {m : zv_M} (hi : I m) (hz : LZ L a2) : ∃ m', fLaw_j1095 L xs a2 m = some (.inl (a2 + 6, m')) ∧ I m' := by
  obtain ⟨z1, z2, z3, z4, z5⟩ := hz
  obtain ⟨r, e1, e2⟩ := h m hi (xs (a2 + 1).toNatClampNeg)
  exact ⟨m, by simp only [fLaw_j1095, z1, z2, z3, z4, z5, zg_t, e1, e2, zb1_s, zb2_s, zif_r, lgc_r, ↓reduceIte], hi⟩
def O_tape (I : zv_M → Prop) : Prop := ∀ (m : zv_M), I m → ∀ (x1 x2 x3 : Int32), ∃ (r : Int32) (m1 : zv_M) (m2 : zv_M), fN_tape x1 x2 x3 m = some (r, m1) ∧ fM_tape x1 x2 x3 m1 = some (r, m2) ∧ I m2
theorem lo_fLaw_j1118 {I : zv_M → Prop} (h : O_tape I) {L : Nat} {xs : Nat → Int32} {a2 : Int32} {m : zv_M} (hi : I m) (hz : LZ L a2) : ∃ m', fLaw_j1118 L xs a2 m = some (.inl (a2 + 6, m')) ∧ I m' := by
  obtain ⟨z1, z2, z3, z4, z5⟩ := hz
  obtain ⟨r, m1, m2, e1, e2, hI⟩ := h m hi (xs (a2 + 1).toNatClampNeg) (xs (a2 + 2).toNatClampNeg) (xs (a2 + 3).toNatClampNeg)
  exact ⟨m2, by simp only [fLaw_j1118, z1, z2, z3, z4, z5, zg_t, e1, e2, zb1_s, zb2_s, zif_r, lgc_r, ↓reduceIte], hI⟩
def O_item (I : zv_M → Prop) : Prop := ∀ (m : zv_M), I m → ∀ (x1 x2 : Int32) (v : Int64), ∃ (r : Int32) (m1 : zv_M) (m2 : zv_M), fN_item x1 x2 v m = some (r, m1) ∧ fM_item x1 x2 v m1 = some (r, m2) ∧ I m2
theorem lo_fLaw_j1161 {I : zv_M → Prop} (h : O_item I) {L : Nat} {xs : Nat → Int32} {a2 : Int32} {m : zv_M} (hi : I m) (hz : LZ L a2) : ∃ m', fLaw_j1161 L xs a2 m = some (.inl (a2 + 6, m')) ∧ I m' := by
  obtain ⟨z1, z2, z3, z4, z5⟩ := hz
  obtain ⟨r, m1, m2, e1, e2, hI⟩ := h m hi (xs (a2 + 1).toNatClampNeg) (xs (a2 + 2).toNatClampNeg) ((((xs (a2 + 3).toNatClampNeg).toInt64) <<< ((32 : Int32).toInt64 &&& 63)) ||| (((xs (a2 + 4).toNatClampNeg).toInt64) &&& 4294967295))
  exact ⟨m2, by simp only [fLaw_j1161, z1, z2, z3, z4, z5, zg_t, e1, e2, zb1_s, zb2_s, zif_r, lgc_r, ↓reduceIte], hI⟩
def O_read (I : zv_M → Prop) : Prop := ∀ (m : zv_M), I m → ∀ (x1 x2 : Int32), ∃ (r : Int64), fN_read x1 x2 m = some r ∧ fM_read x1 x2 m = some r
theorem lo_fLaw_j1234 {I : zv_M → Prop} (h : O_read I) {L : Nat} {xs : Nat → Int32} {a2 : Int32} {m : zv_M} (hi : I m) (hz : LZ L a2) : ∃ m', fLaw_j1234 L xs a2 m = some (.inl (a2 + 6, m')) ∧ I m' := by
  obtain ⟨z1, z2, z3, z4, z5⟩ := hz
  obtain ⟨r, e1, e2⟩ := h m hi (xs (a2 + 1).toNatClampNeg) (xs (a2 + 2).toNatClampNeg)
  exact ⟨m, by simp only [fLaw_j1234, z1, z2, z3, z4, z5, zg_t, e1, e2, zb1_s, zb2_s, zif_r, lgc_r, ↓reduceIte], hi⟩
def O_shift (I : zv_M → Prop) : Prop := ∀ (m : zv_M), I m → ∀ (x1 x2 x3 x4 x5 : Int32), ∃ (r : Int32) (m1 : zv_M) (m2 : zv_M), fN_shift x1 x2 x3 x4 x5 m = some (r, m1) ∧ fM_shift x1 x2 x3 x4 x5 m1 = some (r, m2) ∧ I m2
theorem lo_fLaw_j1268 {I : zv_M → Prop} (h : O_shift I) {L : Nat} {xs : Nat → Int32} {a2 : Int32} {m : zv_M} (hi : I m) (hz : LZ L a2) : ∃ m', fLaw_j1268 L xs a2 m = some (.inl (a2 + 6, m')) ∧ I m' := by
  obtain ⟨z1, z2, z3, z4, z5⟩ := hz
  obtain ⟨r, m1, m2, e1, e2, hI⟩ := h m hi (xs (a2 + 1).toNatClampNeg) (xs (a2 + 2).toNatClampNeg) (xs (a2 + 3).toNatClampNeg) (xs (a2 + 4).toNatClampNeg) (xs (a2 + 5).toNatClampNeg)
  exact ⟨m2, by simp only [fLaw_j1268, z1, z2, z3, z4, z5, zg_t, e1, e2, zb1_s, zb2_s, zif_r, lgc_r, ↓reduceIte], hI⟩
set_option maxRecDepth 100000 in
set_option maxHeartbeats 4000000 in
/-- one step of the law's loop keeps I -/
theorem lo_step {I : zv_M → Prop} (h_plan : O_plan I) (h_of : O_of I) (h_row : O_row I) (h_feed : O_feed I) (h_yard : O_yard I) (h_told : O_told I) (h_set : O_set I) (h_take : O_take I) (h_at : O_at I) (h_sees : O_sees I) (h_clear : O_clear I) (h_worst : O_worst I) (h_ways : O_ways I) (h_after : O_after I) (h_most : O_most I) (h_hold : O_hold I) (h_more : O_more I) (h_right : O_right I) (h_game : O_game I) (h_turned : O_turned I) (h_alike : O_alike I) (h_aim : O_aim I) (h_reach : O_reach I) (h_see : O_see I) (h_rubbed : O_rubbed I) (h_odds : O_odds I) (h_mean : O_mean I) (h_book : O_book I) (h_looked : O_looked I) (h_judge : O_judge I) (h_image : O_image I) (h_undo : O_undo I) (h_act : O_act I) (h_trace : O_trace I) (h_taken : O_taken I) (h_count : O_count I) (h_tape : O_tape I) (h_item : O_item I) (h_read : O_read I) (h_shift : O_shift I) {L : Nat} {xs : Nat → Int32} {a2 : Int32} {m : zv_M} (hi : I m) (h0 : zI a2 L = true) (hz : LZ L a2) (hg : ¬ (Int32.ofNat L) - 6 < a2) : ∃ m', fLaw_l18 L xs (a2, m) = some (.inl (a2 + 6, m')) ∧ I m' := by
  rw [fLaw_l18, if_neg hg, h0, zg_t]
  refine dite _ (fun q => by rw [if_pos q]; exact lo_fLaw_j208 (xs := xs) h_plan hi hz) (fun q => ?_)
  rw [if_neg q]; clear q
  refine dite _ (fun q => by rw [if_pos q]; exact lo_fLaw_j241 (xs := xs) h_of hi hz) (fun q => ?_)
  rw [if_neg q]; clear q
  refine dite _ (fun q => by rw [if_pos q]; exact lo_fLaw_j274 (xs := xs) h_row hi hz) (fun q => ?_)
  rw [if_neg q]; clear q
  refine dite _ (fun q => by rw [if_pos q]; exact lo_fLaw_j317 (xs := xs) h_feed hi hz) (fun q => ?_)
  rw [if_neg q]; clear q
  refine dite _ (fun q => by rw [if_pos q]; exact lo_fLaw_j340 (xs := xs) h_yard hi hz) (fun q => ?_)
  rw [if_neg q]; clear q
  refine dite _ (fun q => by rw [if_pos q]; exact lo_fLaw_j353 (xs := xs) h_told hi hz) (fun q => ?_)
  rw [if_neg q]; clear q
  refine dite _ (fun q => by rw [if_pos q]; exact lo_fLaw_j376 (xs := xs) h_set hi hz) (fun q => ?_)
  rw [if_neg q]; clear q
  refine dite _ (fun q => by rw [if_pos q]; exact lo_fLaw_j409 (xs := xs) h_take hi hz) (fun q => ?_)
  rw [if_neg q]; clear q
  refine dite _ (fun q => by rw [if_pos q]; exact lo_fLaw_j432 (xs := xs) h_at hi hz) (fun q => ?_)
  rw [if_neg q]; clear q
  refine dite _ (fun q => by rw [if_pos q]; exact lo_fLaw_j465 (xs := xs) h_sees hi hz) (fun q => ?_)
  rw [if_neg q]; clear q
  refine dite _ (fun q => by rw [if_pos q]; exact lo_fLaw_j498 (xs := xs) h_clear hi hz) (fun q => ?_)
  rw [if_neg q]; clear q
  refine dite _ (fun q => by rw [if_pos q]; exact lo_fLaw_j511 (xs := xs) h_worst hi hz) (fun q => ?_)
  rw [if_neg q]; clear q
  refine dite _ (fun q => by rw [if_pos q]; exact lo_fLaw_j524 (xs := xs) h_ways hi hz) (fun q => ?_)
  rw [if_neg q]; clear q
  refine dite _ (fun q => by rw [if_pos q]; exact lo_fLaw_j557 (xs := xs) h_after hi hz) (fun q => ?_)
  rw [if_neg q]; clear q
  refine dite _ (fun q => by rw [if_pos q]; exact lo_fLaw_j590 (xs := xs) h_most hi hz) (fun q => ?_)
  rw [if_neg q]; clear q
  refine dite _ (fun q => by rw [if_pos q]; exact lo_fLaw_j613 (xs := xs) h_hold hi hz) (fun q => ?_)
  rw [if_neg q]; clear q
  refine dite _ (fun q => by rw [if_pos q]; exact lo_fLaw_j646 (xs := xs) h_more hi hz) (fun q => ?_)
  rw [if_neg q]; clear q
  refine dite _ (fun q => by rw [if_pos q]; exact lo_fLaw_j669 (xs := xs) h_right hi hz) (fun q => ?_)
  rw [if_neg q]; clear q
  refine dite _ (fun q => by rw [if_pos q]; exact lo_fLaw_j692 (xs := xs) h_game hi hz) (fun q => ?_)
  rw [if_neg q]; clear q
  refine dite _ (fun q => by rw [if_pos q]; exact lo_fLaw_j715 (xs := xs) h_turned hi hz) (fun q => ?_)
  rw [if_neg q]; clear q
  refine dite _ (fun q => by rw [if_pos q]; exact lo_fLaw_j738 (xs := xs) h_alike hi hz) (fun q => ?_)
  rw [if_neg q]; clear q
  refine dite _ (fun q => by rw [if_pos q]; exact lo_fLaw_j751 (xs := xs) h_aim hi hz) (fun q => ?_)
  rw [if_neg q]; clear q
  refine dite _ (fun q => by rw [if_pos q]; exact lo_fLaw_j774 (xs := xs) h_reach hi hz) (fun q => ?_)
  rw [if_neg q]; clear q
  refine dite _ (fun q => by rw [if_pos q]; exact lo_fLaw_j787 (xs := xs) h_see hi hz) (fun q => ?_)
  rw [if_neg q]; clear q
  refine dite _ (fun q => by rw [if_pos q]; exact lo_fLaw_j820 (xs := xs) h_rubbed hi hz) (fun q => ?_)
  rw [if_neg q]; clear q
  refine dite _ (fun q => by rw [if_pos q]; exact lo_fLaw_j843 (xs := xs) h_odds hi hz) (fun q => ?_)
  rw [if_neg q]; clear q
  refine dite _ (fun q => by rw [if_pos q]; exact lo_fLaw_j877 (xs := xs) h_mean hi hz) (fun q => ?_)
  rw [if_neg q]; clear q
  refine dite _ (fun q => by rw [if_pos q]; exact lo_fLaw_j901 (xs := xs) h_book hi hz) (fun q => ?_)
  rw [if_neg q]; clear q
  refine dite _ (fun q => by rw [if_pos q]; exact lo_fLaw_j924 (xs := xs) h_looked hi hz) (fun q => ?_)
  rw [if_neg q]; clear q
  refine dite _ (fun q => by rw [if_pos q]; exact lo_fLaw_j937 (xs := xs) h_judge hi hz) (fun q => ?_)
  rw [if_neg q]; clear q
  refine dite _ (fun q => by rw [if_pos q]; exact lo_fLaw_j970 (xs := xs) h_image hi hz) (fun q => ?_)
  rw [if_neg q]; clear q
  refine dite _ (fun q => by rw [if_pos q]; exact lo_fLaw_j983 (xs := xs) h_undo hi hz) (fun q => ?_)
  rw [if_neg q]; clear q
  refine dite _ (fun q => by rw [if_pos q]; exact lo_fLaw_j996 (xs := xs) h_act hi hz) (fun q => ?_)
  rw [if_neg q]; clear q
  refine dite _ (fun q => by rw [if_pos q]; exact lo_fLaw_j1039 (xs := xs) h_trace hi hz) (fun q => ?_)
  rw [if_neg q]; clear q
  refine dite _ (fun q => by rw [if_pos q]; exact lo_fLaw_j1062 (xs := xs) h_taken hi hz) (fun q => ?_)
  rw [if_neg q]; clear q
  refine dite _ (fun q => by rw [if_pos q]; exact lo_fLaw_j1095 (xs := xs) h_count hi hz) (fun q => ?_)
  rw [if_neg q]; clear q
  refine dite _ (fun q => by rw [if_pos q]; exact lo_fLaw_j1118 (xs := xs) h_tape hi hz) (fun q => ?_)
  rw [if_neg q]; clear q
  refine dite _ (fun q => by rw [if_pos q]; exact lo_fLaw_j1161 (xs := xs) h_item hi hz) (fun q => ?_)
  rw [if_neg q]; clear q
  refine dite _ (fun q => by rw [if_pos q]; exact lo_fLaw_j1234 (xs := xs) h_read hi hz) (fun q => ?_)
  rw [if_neg q]; clear q
  refine dite _ (fun q => by rw [if_pos q]; exact lo_fLaw_j1268 (xs := xs) h_shift hi hz) (fun q => ?_)
  rw [if_neg q]; clear q
  exact ⟨m, rfl, hi⟩
/-- the law's function is 1, out of an invariant and one lemma for each op -/
theorem lo_law {I : zv_M → Prop} (h_plan : O_plan I) (h_of : O_of I) (h_row : O_row I) (h_feed : O_feed I) (h_yard : O_yard I) (h_told : O_told I) (h_set : O_set I) (h_take : O_take I) (h_at : O_at I) (h_sees : O_sees I) (h_clear : O_clear I) (h_worst : O_worst I) (h_ways : O_ways I) (h_after : O_after I) (h_most : O_most I) (h_hold : O_hold I) (h_more : O_more I) (h_right : O_right I) (h_game : O_game I) (h_turned : O_turned I) (h_alike : O_alike I) (h_aim : O_aim I) (h_reach : O_reach I) (h_see : O_see I) (h_rubbed : O_rubbed I) (h_odds : O_odds I) (h_mean : O_mean I) (h_book : O_book I) (h_looked : O_looked I) (h_judge : O_judge I) (h_image : O_image I) (h_undo : O_undo I) (h_act : O_act I) (h_trace : O_trace I) (h_taken : O_taken I) (h_count : O_count I) (h_tape : O_tape I) (h_item : O_item I) (h_read : O_read I) (h_shift : O_shift I) {L : Nat} {xs : Nat → Int32} (hL : L ≤ 3072) {m : zv_M} (hi : I m) : fLaw L xs m = some 1 := by
  have eL : (Int32.ofNat L).toInt = L := i_ofNat (by omega)
  have e6 : (Int32.ofNat L - 6).toInt = (L : Int) - 6 := by
    rw [i_sub (by rw [eL]; show _ ≤ (L : Int) - 6; omega) (by rw [eL]; show (L : Int) - 6 < _; omega), eL]
    rfl
  obtain ⟨r, e, q⟩ := wn_ok (fLaw_l18 L xs) (fun s => I s.2 ∧ 0 ≤ s.1.toInt ∧ s.1.toInt ≤ L) (fun s => 4000 - s.1.toInt.toNat) (fun r => r = 1) (fun s hs => by
    obtain ⟨a2, m⟩ := s
    obtain ⟨hI, h1, h2⟩ := hs
    replace h1 : 0 ≤ a2.toInt := h1
    replace h2 : a2.toInt ≤ L := h2
    by_cases hg : (Int32.ofNat L) - 6 < a2
    · exact Or.inl ⟨1, by rw [fLaw_l18, if_pos hg], rfl⟩
    · have hg' : a2.toInt + 6 ≤ L := by
        rw [Int32.lt_iff_toInt_lt, e6] at hg
        omega
      obtain ⟨hz0, hz, e6'⟩ := lz_of h1 hg' hL
      obtain ⟨m', em, hI'⟩ := lo_step h_plan h_of h_row h_feed h_yard h_told h_set h_take h_at h_sees h_clear h_worst h_ways h_after h_most h_hold h_more h_right h_game h_turned h_alike h_aim h_reach h_see h_rubbed h_odds h_mean h_book h_looked h_judge h_image h_undo h_act h_trace h_taken h_count h_tape h_item h_read h_shift (xs := xs) hI hz0 hz hg
      refine Or.inr ⟨(a2 + 6, m'), em, ⟨hI', ?_, ?_⟩, ?_⟩
      · show 0 ≤ (a2 + 6).toInt
        omega
      · show (a2 + 6).toInt ≤ L
        omega
      · show 4000 - (a2 + 6).toInt.toNat < 4000 - a2.toInt.toNat
        omega) zFU (0, m) ⟨hi, Int.le_refl _, by show (0 : Int) ≤ L; omega⟩ (zn_FU (by show 4000 - (0 : Int32).toInt.toNat < _; omega))
  subst q
  rw [fLaw, e]
  rfl
