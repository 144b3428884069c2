/-! The texts of yards: a parser in the middle. -/
/-- what a number stands for, at square s of a board so wide -/
def fct (W pl s : Nat) : Nat := if pl = 0 then s % W else if pl = 1 then s / W else if pl = 2 then s % W + s / W else if pl = 3 then apx (s % W) (s / W) else if pl = 4 then s else W
/-- what is told of a square (width, square), and what is emitted -/
abbrev Ex : Type := (Nat → Nat → Bool) × List Int32
def xT (pl op v : Nat) : Ex := (fun W s => if op = 0 then decide (fct W pl s < v) else if op = 1 then decide (fct W pl s = v) else decide (v < fct W pl s), [Int32.ofNat (1000 * pl + 100 * op + v)])
def xN (a : Ex) : Ex := (fun W s => !a.1 W s, a.2 ++ [-33])
def xA (a b : Ex) : Ex := (fun W s => a.1 W s && b.1 W s, a.2 ++ b.2 ++ [-38])
def xO (a b : Ex) : Ex := (fun W s => a.1 W s || b.1 W s, a.2 ++ b.2 ++ [-124])
/-- a text: letters below 128, 200 behind its end -/
def cI (x : Nat) : Int32 := if x = 200 then -1 else Int32.ofNat x
def LT (L : Nat → Nat) (n : Nat) : Prop := n ≤ 100 ∧ (∀ p, p < n → L p < 128) ∧ ∀ p, n ≤ p → L p = 200
theorem LT_or {L : Nat → Nat} {n : Nat} (h : LT L n) (p : Nat) : L p < 128 ∨ L p = 200 := by
  rcases Nat.lt_or_ge p n with q | q
  · exact Or.inl (h.2.1 p q)
  · exact Or.inr (h.2.2 p q)
theorem cI_eq {x k : Nat} (hx : x < 128 ∨ x = 200) (hk : k < 128) : (cI x = Int32.ofNat k) = (x = k) := by
  unfold cI
  rcases hx with h | h
  · rw [if_neg (by omega)]
    exact propext (i_eq (by omega) (by omega))
  · rw [if_pos h]
    exact propext ⟨fun z => absurd z.symm (i_ne (by omega) (by decide)), fun z => by omega⟩
theorem cI_lt {x k : Nat} (hx : x < 128 ∨ x = 200) (hk : k < 128) : (cI x < Int32.ofNat k) = (x < k ∨ x = 200) := by
  unfold cI
  rcases hx with h | h
  · rw [if_neg (by omega)]
    exact propext ((i_lt (by omega) (by omega)).trans ⟨fun z => Or.inl z, fun z => by omega⟩)
  · rw [if_pos h]
    refine propext ⟨fun _ => Or.inr h, fun _ => ?_⟩
    rw [Int32.lt_iff_toInt_lt, i_ofNat (by omega)]
    have : (-1 : Int32).toInt = -1 := rfl
    omega
theorem cI_gt {x k : Nat} (hx : x < 128 ∨ x = 200) (hk : k < 128) : (Int32.ofNat k < cI x) = (k < x ∧ ¬ x = 200) := by
  unfold cI
  rcases hx with h | h
  · rw [if_neg (by omega)]
    exact propext ((i_lt (by omega) (by omega)).trans ⟨fun z => ⟨z, by omega⟩, fun z => z.1⟩)
  · rw [if_pos h]
    refine propext ⟨fun z => ?_, fun z => absurd h z.2⟩
    rw [Int32.lt_iff_toInt_lt, i_ofNat (by omega)] at z
    have : (-1 : Int32).toInt = -1 := rfl
    omega
/-- read, and the place behind; or where it fails -/
abbrev Rs (α : Type) : Type := Nat ⊕ (α × Nat)
def dgt (x : Nat) : Bool := decide (48 ≤ x) && decide (x ≤ 57)
def pN (L : Nat → Nat) (p : Nat) : Rs Nat := if dgt (L p) = true then (if dgt (L (p + 1)) = true then .inr (10 * (L p - 48) + (L (p + 1) - 48), p + 2) else .inr (L p - 48, p + 1)) else .inl p
def plc (x : Nat) : Option Nat := if x = 100 then some 3 else if x = 110 then some 4 else if x = 115 then some 2 else if x = 119 then some 5 else if x = 120 then some 0 else if x = 121 then some 1 else none
def pT (L : Nat → Nat) (p : Nat) : Rs Ex := match plc (L p) with
  | none => .inl p
  | some pl => if 60 ≤ L (p + 1) ∧ L (p + 1) ≤ 62 then (match pN L (p + 2) with
    | .inl q => .inl q
    | .inr (v, q) => .inr (xT pl (L (p + 1) - 60) v, q)) else .inl (p + 1)
def anO (B : Option Ex) (C : Ex) : Ex := match B with
  | none => C
  | some b => xA b C
def orO (A : Option Ex) (C : Ex) : Ex := match A with
  | none => C
  | some a => xO a C
def anyL (L : Nat → Nat) (one : Nat → Rs Ex) : Nat → Option Ex → Option Ex → Ex → Nat → Rs Ex
  | 0, A, B, C, q => .inr (orO A (anO B C), q)
  | k + 1, A, B, C, q => if L q = 124 then (match one (q + 1) with
      | .inl z => .inl z
      | .inr (c, z) => anyL L one k (some (orO A (anO B C))) none c z) else if L q = 38 then (match one (q + 1) with
      | .inl z => .inl z
      | .inr (c, z) => anyL L one k A (some (anO B C)) c z) else .inr (orO A (anO B C), q)
def anyP (L : Nat → Nat) (one : Nat → Rs Ex) (p : Nat) : Rs Ex := match one p with
  | .inl q => .inl q
  | .inr (c, q) => anyL L one 100 none none c q
/-- r: how much deeper it may go -/
def oneR (L : Nat → Nat) : Nat → Nat → Rs Ex
  | 0, p => pT L p
  | r + 1, p => if L p = 33 then (match oneR L r (p + 1) with
      | .inl q => .inl q
      | .inr (e, q) => .inr (xN e, q)) else if L p = 40 then (match anyP L (oneR L r) (p + 1) with
      | .inl q => .inl q
      | .inr (e, q) => if L q = 41 then .inr (e, q + 1) else .inl q) else pT L p
/-- as a set -/
def evS (W : Nat) (e : Ex) : Nat := bs (fun s => e.1 W s) (W * W)
/-! the class's reader: place, letter, failed -/
def mR (m : zv_M) (a b c : Int32) : zv_M := wI (wI (wI m 33 6 a) 33 7 b) 33 8 c
theorem mR_x {m : zv_M} {a b c : Int32} {o k : Nat} (h : ¬ (o = 33 ∧ (k = 6 ∨ k = 7 ∨ k = 8))) : (mR m a b c).1 o k = m.1 o k := by
  rw [mR, wI_o _ _ (by omega), wI_o _ _ (by omega), wI_o _ _ (by omega)]
theorem mR_6 (m : zv_M) (a b c : Int32) : (mR m a b c).1 33 6 = a := by rw [mR, wI_o _ _ (by omega), wI_o _ _ (by omega), wI_e]
theorem mR_7 (m : zv_M) (a b c : Int32) : (mR m a b c).1 33 7 = b := by rw [mR, wI_o _ _ (by omega), wI_e]
theorem mR_8 (m : zv_M) (a b c : Int32) : (mR m a b c).1 33 8 = c := wI_e _ _ _ _
theorem wI_c {m : zv_M} {o k o' k' : Nat} {v v' : Int32} (h : ¬ (o = o' ∧ k = k')) : wI (wI m o k v) o' k' v' = wI (wI m o' k' v') o k v := by
  refine Prod.ext ?_ rfl
  funext a b
  by_cases h1 : a = o ∧ b = k
  · obtain ⟨rfl, rfl⟩ := h1
    rw [wI_o _ _ h, wI_e, wI_e]
  · by_cases h2 : a = o' ∧ b = k'
    · obtain ⟨rfl, rfl⟩ := h2
      rw [wI_e, wI_o _ _ h1, wI_e]
    · rw [wI_o _ _ h2, wI_o _ _ h1, wI_o _ _ h1, wI_o _ _ h2]
theorem mR_w8 (m : zv_M) (a b c x : Int32) : wI (mR m a b c) 33 8 x = mR m a b x := by rw [mR, wI_w]; rfl
theorem mR_67 (m : zv_M) (a b c x y : Int32) : wI (wI (mR m a b c) 33 6 x) 33 7 y = mR m x y c := by
  unfold mR
  rw [wI_c (o := 33) (k := 8) (o' := 33) (k' := 6) (by omega), wI_c (o := 33) (k := 7) (o' := 33) (k' := 6) (by omega), wI_w, wI_c (o := 33) (k := 8) (o' := 33) (k' := 7) (by omega), wI_w]
/-- the text is in the class's cells -/
def TXN (L : Nat → Nat) (n W : Nat) (m : zv_M) : Prop := LT L n ∧ m.1 33 1 = Int32.ofNat n ∧ (∀ p, p < n → m.1 34 p = cI (L p)) ∧ m.1 33 9 = Int32.ofNat W ∧ 2 ≤ W ∧ W ≤ 5
def rdA (m : zv_M) (L : Nat → Nat) (p : Nat) (fl : Int32) : zv_M := mR m (Int32.ofNat p) (cI (L p)) fl
theorem n_move {L : Nat → Nat} {n W : Nat} {m : zv_M} (h : TXN L n W m) {p : Nat} (hp : p < 200) (a b c : Int32) : fRe_moveTo (Int32.ofNat p) (mR m a b c) = some (mR m (Int32.ofNat p) (cI (L p)) c) := by
  obtain ⟨⟨h1, h2, h3⟩, h4, h5, -⟩ := h
  have e1 : (wI (mR m a b c) 33 6 (Int32.ofNat p)).1 33 1 = Int32.ofNat n := by rw [wI_o _ _ (by omega), mR_x (by omega), h4]
  have end1 : ¬ p < n → (-1 : Int32) = cI (L p) := fun q => by rw [cI, if_pos (h3 p (by omega))]
  rw [fRe_moveTo, if_neg (i_lt0 (by omega)), e1]
  by_cases q : p < n
  · have e2 : (wI (mR m a b c) 33 6 (Int32.ofNat p)).1 34 p = cI (L p) := by rw [wI_o _ _ (by omega), mR_x (by omega), h5 p q]
    rw [if_pos ((i_lt (by omega) (by omega)).mpr q), if_pos (show Int32.ofNat p < 100 from (i_lt (b := 100) (by omega) (by decide)).mpr (by omega)), zI_n (by omega) (by omega), zg_t, i_tn (by omega), e2, mR_67]
  · rw [if_neg (fun z => q ((i_lt (by omega) (by omega)).mp z)), mR_67, end1 q]
theorem n_next {L : Nat → Nat} {n W : Nat} {m : zv_M} (h : TXN L n W m) {p : Nat} (hp : p < 150) (c : Int32) : fRe_moveTo ((rdA m L p c).1 33 6 + 1) (rdA m L p c) = some (rdA m L (p + 1) c) := by
  unfold rdA
  rw [mR_6, inc]
  exact n_move h (by omega) _ _ _
/-- a class's reading so far as the parser's: what it gives does not count if it fails -/
def nR (m : zv_M) (L : Nat → Nat) {α : Type} (val : α → Int32) (f : Option (Int32 × zv_M)) (r : Rs α) : Prop := match r with
  | .inl q => ∃ v, f = some (v, rdA m L q 1)
  | .inr (e, q) => f = some (val e, rdA m L q 0)
theorem n_num {L : Nat → Nat} {n W : Nat} {m : zv_M} (h : TXN L n W m) {p : Nat} (hp : p < 140) : nR m L (fun v => Int32.ofNat v) (fRe_readNumber (rdA m L p 0)) (pN L p) := by
  have o := LT_or h.1
  have l1 : ∀ x, (cI (L x) < 48) = (L x < 48 ∨ L x = 200) := fun x => cI_lt (k := 48) (o x) (by decide)
  have l2 : ∀ x, (57 < cI (L x)) = (57 < L x ∧ ¬ L x = 200) := fun x => cI_gt (k := 57) (o x) (by decide)
  have dg : ∀ x, (dgt (L x) = true) = (48 ≤ L x ∧ L x ≤ 57) := fun x => by
    unfold dgt
    simp
  have nx : ∀ x, x < 150 → fRe_moveTo (Int32.ofNat x + 1) (rdA m L x 0) = some (rdA m L (x + 1) 0) := fun x hx => by
    have := n_next h hx 0
    rwa [show (rdA m L x 0).1 33 6 = Int32.ofNat x from mR_6 _ _ _ _] at this
  have r7 : ∀ x c, (rdA m L x c).1 33 7 = cI (L x) := fun x c => mR_7 _ _ _ _
  have r6 : ∀ x c, (rdA m L x c).1 33 6 = Int32.ofNat x := fun x c => mR_6 _ _ _ _
  have r8 : ∀ x c, (rdA m L x c).1 33 8 = c := fun x c => mR_8 _ _ _ _
  have f8 : ∀ x, wI (rdA m L x 0) 33 8 1 = rdA m L x 1 := fun x => mR_w8 _ _ _ _ _
  unfold nR pN
  simp only [dg]
  by_cases q1 : 48 ≤ L p ∧ L p ≤ 57
  · have c1 : cI (L p) = Int32.ofNat (L p) := by rw [cI, if_neg (by omega)]
    rw [if_pos q1, fRe_readNumber, r8, if_pos rfl, r7, r6]
    simp only [l1, l2]
    rw [if_neg (show ¬ (L p < 48 ∨ L p = 200) by omega), if_neg (show ¬ (57 < L p ∧ ¬ L p = 200) by omega), nx p (by omega), zb1_s]
    simp only [r7, l1, l2, r6]
    have e1 : Int32.ofNat (L p) - 48 = Int32.ofNat (L p - 48) := i_mi (b := 48) (by omega) (by omega)
    by_cases q2 : 48 ≤ L (p + 1) ∧ L (p + 1) ≤ 57
    · have c2 : cI (L (p + 1)) = Int32.ofNat (L (p + 1)) := by rw [cI, if_neg (by omega)]
      rw [if_pos q2, if_neg (show ¬ (L (p + 1) < 48 ∨ L (p + 1) = 200) by omega), if_neg (show ¬ (57 < L (p + 1) ∧ ¬ L (p + 1) = 200) by omega), nx (p + 1) (by omega), zb1_s, c1, c2, e1, show Int32.ofNat (L p - 48) * 10 = Int32.ofNat ((L p - 48) * 10) from i_mu _ 10, i_pl, show Int32.ofNat ((L p - 48) * 10 + L (p + 1)) - 48 = Int32.ofNat ((L p - 48) * 10 + L (p + 1) - 48) from i_mi (b := 48) (by omega) (by omega), show (L p - 48) * 10 + L (p + 1) - 48 = 10 * (L p - 48) + (L (p + 1) - 48) by omega]
    · have l3 := o (p + 1)
      rw [if_neg q2, c1, e1]
      by_cases q3 : L (p + 1) < 48 ∨ L (p + 1) = 200
      · rw [if_pos q3]
      · rw [if_neg q3, if_pos (show 57 < L (p + 1) ∧ ¬ L (p + 1) = 200 by omega)]
  · have l3 := o p
    rw [if_neg q1, fRe_readNumber, r8, if_pos rfl, r7]
    simp only [l1, l2]
    by_cases q3 : L p < 48 ∨ L p = 200
    · rw [if_pos q3, f8]
      exact ⟨0, rfl⟩
    · rw [if_neg q3, if_pos (show 57 < L p ∧ ¬ L p = 200 by omega), f8]
      exact ⟨0, rfl⟩
