/-! What holds between the ops: the class's cells (under 68) tell what the reference's cells (from 68) tell. -/
/-- the kinds, values and rows of the plans: three piles of the class, the reference's count and arrays -/
def gPl (m : zv_M) (p1 a1 p2 a2 p3 a3 sl k v r n : Nat) : Prop := n ≤ 6 ∧ m.1 p1 1 = Int32.ofNat n ∧ m.1 p2 1 = Int32.ofNat n ∧ m.1 p3 1 = Int32.ofNat n ∧ m.1 68 sl = Int32.ofNat n ∧ ∀ i, i < n → m.1 a1 i = m.1 k i ∧ m.1 a2 i = m.1 v i ∧ (∃ q : Nat, q < 7 ∧ m.1 k i = Int32.ofNat q) ∧ (∃ q : Nat, q < 10 ∧ m.1 v i = Int32.ofNat q) ∧ ∃ q : Nat, q < 256 ∧ m.1 a3 i = Int32.ofNat q ∧ ∀ d, d < 8 → m.1 r (8 * i + d) = Int32.ofNat (q / 2 ^ d % 2)
/-- the men: n plans, W the board's width -/
def gMn (m : zv_M) (a ma n W : Nat) : Prop := ∀ s, s < 25 → m.1 a s = m.1 ma s ∧ (m.1 ma s = -1 ∨ s < W * W ∧ ∃ q : Nat, q < n ∧ m.1 ma s = Int32.ofNat q)
/-- a pile of numbers below B -/
def gPi (m : zv_M) (o a sl ma cap B : Nat) : Prop := ∃ n : Nat, n ≤ cap ∧ m.1 o 1 = Int32.ofNat n ∧ m.1 68 sl = Int32.ofNat n ∧ ∀ i, i < n → m.1 a i = m.1 ma i ∧ ∃ q : Nat, q < B ∧ m.1 ma i = Int32.ofNat q
/-- slot k of the board by the number that holds: the bare one, or a yard's -/
def gW (m : zv_M) (h : Int32) (k : Nat) : Int32 := if h < 0 then m.1 42 k else if h = 0 then m.1 36 k else if h = 1 then m.1 37 k else if h = 2 then m.1 38 k else if h = 3 then m.1 39 k else if h = 4 then m.1 40 k else m.1 41 k
/-- what the image keeps: plans, men, aim, seen, book, the yard that holds -/
def gSt (m : zv_M) (p1 a1 p2 a2 p3 a3 am p5 a5 p6 a6 p7 a7 p8 a8 oh : Nat) (sl k v r mm s5 m5 s6 m6 m7 s8 m8 sh y : Nat) : Prop :=
  ∃ n W : Nat, gPl m p1 a1 p2 a2 p3 a3 sl k v r n ∧ m.1 oh 8 = m.1 68 sh ∧ (m.1 68 sh = -1 ∨ ∃ f : Nat, f < y ∧ m.1 68 sh = Int32.ofNat f) ∧ (2 ≤ W ∧ W ≤ 5 ∧ gW m (m.1 68 sh) 0 = Int32.ofNat W) ∧ gMn m am mm n W ∧ gPi m p5 a5 s5 m5 5 (W * W) ∧ gPi m p6 a6 s6 m6 8 (W * W) ∧ gPi m p7 a7 s6 m7 8 26 ∧ gPi m p8 a8 s8 m8 12 (W * W)
abbrev iNow (m : zv_M) (y : Nat) : Prop := gSt m 2 3 4 5 6 7 8 9 10 11 12 13 14 15 16 1 0 69 70 71 72 42 95 47 99 100 50 101 10 y
abbrev iKept (m : zv_M) (y : Nat) : Prop := gSt m 18 19 20 21 22 23 24 25 26 27 28 29 30 31 32 17 54 102 103 104 105 55 106 56 107 108 57 109 53 y
/-- the four numbers of a board -/
def gBo (w r h b : Int32) : Prop := ∃ W H B : Nat, 2 ≤ W ∧ W ≤ 5 ∧ w = Int32.ofNat W ∧ (r = 0 ∨ r = 1) ∧ h = Int32.ofNat H ∧ b = Int32.ofNat B ∧ H < 2 ^ (W * W) ∧ B < 2 ^ (W * W) ∧ H &&& B = H
/-- the board that holds, as the reference has it laid -/
def iBo (m : zv_M) (y : Nat) : Prop := y ≤ 6 ∧ m.1 0 6 = Int32.ofNat y ∧ m.1 68 9 = Int32.ofNat y ∧ (∀ f, f < y → gBo (gW m (Int32.ofNat f) 0) (gW m (Int32.ofNat f) 1) (gW m (Int32.ofNat f) 2) (gW m (Int32.ofNat f) 3)) ∧ m.1 68 1 = gW m (m.1 68 10) 0 ∧ m.1 68 4 = gW m (m.1 68 10) 1 ∧ m.1 68 2 = gW m (m.1 68 10) 2 ∧ m.1 68 3 = gW m (m.1 68 10) 3
/-- the bare board -/
def iBa (m : zv_M) : Prop := m.1 42 0 = 4 ∧ m.1 42 1 = 0 ∧ m.1 42 2 = 0 ∧ m.1 42 3 = 0
/-- the text -/
def iTx (m : zv_M) : Prop := gPi m 33 34 11 73 100 128
/-- the trace -/
def iTr (m : zv_M) : Prop := ∃ n : Nat, n ≤ 1000 ∧ m.1 61 1 = Int32.ofNat n ∧ m.1 68 66 = Int32.ofNat n ∧ m.1 62 1 = Int32.ofNat (min n 20) ∧ ∀ k, k < 20 → k < n → m.1 63 k = m.1 110 k
/-- the tapes -/
def iTp (m : zv_M) : Prop := ∀ t, t < 6 → m.1 65 t = m.1 111 t ∧ m.1 66 t = m.1 112 t ∧ (∃ z : Nat, z ≤ 60 ∧ m.1 112 t = Int32.ofNat z ∧ (m.1 111 t = -1 ∧ z = 0 ∨ ∃ q : Nat, q < 5 ∧ m.1 111 t = Int32.ofNat q)) ∧ (∀ k, k < 60 → m.2 67 (60 * t + k) = m.2 113 (60 * t + k)) ∧ (m.1 111 t = 4 → ∀ k, k < 60 → m.2 113 (60 * t + k) = 0 ∨ m.2 113 (60 * t + k) = 1)
/-- the reference's own constants: letters and the ways along -/
def iKo (m : zv_M) : Prop := (∀ k, k < 20 → m.1 81 k = ([119, 105, 100, 101, 104, 111, 108, 101, 98, 97, 114, 114, 111, 117, 110, 100, 102, 108, 97, 116] : List Int32).getD k 0) ∧ (∀ k, k < 8 → m.1 83 k = ([1, 0, -1, 0, 1, -1, -1, 1] : List Int32).getD k 0) ∧ ∀ k, k < 8 → m.1 84 k = ([0, 1, 0, -1, 1, 1, -1, -1] : List Int32).getD k 0
def iKp (m : zv_M) (y : Nat) : Prop := (m.1 0 2 = 0 ∧ m.1 68 52 = 0) ∨ (m.1 0 2 = 1 ∧ m.1 68 52 = 1 ∧ iKept m y)
/-- the memory seen through a mask, and what stays if the masked cells do -/
def mask (K : Nat → Nat → Bool) (m : zv_M) : zv_M := (fun o k => if K o k = true then m.1 o k else 0, fun _ _ => 0)
def ag (K : Nat → Nat → Bool) (m m' : zv_M) : Prop := ∀ o k, K o k = true → m'.1 o k = m.1 o k
theorem ag_r {K : Nat → Nat → Bool} (m : zv_M) : ag K m m := fun _ _ _ => rfl
theorem ag_w {K : Nat → Nat → Bool} {m m' : zv_M} {o k : Nat} {v : Int32} (h : ag K m m') (hk : K o k = false) : ag K m (wI m' o k v) := fun o' k' q => by
  rw [wI_o m' v (by rintro ⟨rfl, rfl⟩; rw [hk] at q; cases q)]
  exact h o' k' q
theorem ag_t {K : Nat → Nat → Bool} {m m1 m2 : zv_M} (h : ag K m m1) (h2 : ag K m1 m2) : ag K m m2 := fun o k q => (h2 o k q).trans (h o k q)
theorem fr_int (P : zv_M → Prop) (K : Nat → Nat → Bool) (hP : ∀ m, P m = P (mask K m)) {m m' : zv_M} (h : ag K m m') (p : P m) : P m' := by
  have e : mask K m' = mask K m := by
    unfold mask
    congr 1
    funext o k
    by_cases q : K o k = true
    · rw [if_pos q, if_pos q, h o k q]
    · rw [if_neg q, if_neg q]
  rw [hP m', e, ← hP m]
  exact p
def kNow (o k : Nat) : Bool := [2, 3, 4, 5, 6, 7, 8, 9, 10, 11, 12, 13, 14, 15, 16, 36, 37, 38, 39, 40, 41, 42, 69, 70, 71, 72, 95, 99, 100, 101].elem o || (o == 1 && k == 8) || (o == 68 && [0, 10, 42, 47, 50].elem k)
def kKp (o k : Nat) : Bool := [18, 19, 20, 21, 22, 23, 24, 25, 26, 27, 28, 29, 30, 31, 32, 36, 37, 38, 39, 40, 41, 42, 102, 103, 104, 105, 106, 107, 108, 109].elem o || (o == 17 && k == 8) || (o == 0 && k == 2) || (o == 68 && [52, 53, 54, 55, 56, 57].elem k)
def kBo (o k : Nat) : Bool := [36, 37, 38, 39, 40, 41, 42].elem o || (o == 0 && k == 6) || (o == 68 && [1, 2, 3, 4, 9, 10].elem k)
def kTx (o k : Nat) : Bool := [34, 73].elem o || (o == 33 && k == 1) || (o == 68 && k == 11)
def kTr (o k : Nat) : Bool := [62, 63, 110].elem o || (o == 61 && k == 1) || (o == 68 && k == 66)
def kKo (o _ : Nat) : Bool := [81, 83, 84].elem o
theorem fNow {m m' : zv_M} {y : Nat} (h : ag kNow m m') (p : iNow m y) : iNow m' y := fr_int (fun m => iNow m y) kNow (fun _ => rfl) h p
theorem fKp {m m' : zv_M} {y : Nat} (h : ag kKp m m') (p : iKp m y) : iKp m' y := fr_int (fun m => iKp m y) kKp (fun _ => rfl) h p
theorem fBo {m m' : zv_M} {y : Nat} (h : ag kBo m m') (p : iBo m y) : iBo m' y := fr_int (fun m => iBo m y) kBo (fun _ => rfl) h p
theorem fBa {m m' : zv_M} (h : ag kBo m m') (p : iBa m) : iBa m' := fr_int iBa kBo (fun _ => rfl) h p
theorem fTx {m m' : zv_M} (h : ag kTx m m') (p : iTx m) : iTx m' := fr_int iTx kTx (fun _ => rfl) h p
theorem fTr {m m' : zv_M} (h : ag kTr m m') (p : iTr m) : iTr m' := fr_int iTr kTr (fun _ => rfl) h p
theorem fKo {m m' : zv_M} (h : ag kKo m m') (p : iKo m) : iKo m' := fr_int iKo kKo (fun _ => rfl) h p
/-- an op that reads alone answers alike -/
theorem op_count {m : zv_M} {y : Nat} (h1 : iNow m y) (h2 : iBo m y) (h3 : iTx m) (h4 : iTr m) (x : Int32) : ∃ r, fN_count x m = some r ∧ fM_count x m = some r := by
  obtain ⟨n, W, ⟨-, a1, -, -, a2, -⟩, -, -, -, -, ⟨n5, -, b1, b2, -⟩, ⟨n6, -, c1, c2, -⟩, -, ⟨n8, -, d1, d2, -⟩⟩ := h1
  obtain ⟨-, e1, e2, -⟩ := h2
  obtain ⟨n9, -, f1, f2, -⟩ := h3
  obtain ⟨n10, -, g1, g2, -⟩ := h4
  have e : fN_count x m = fM_count x m := by
    rw [fN_count, fM_count, a1, a2, b1, b2, c1, c2, d1, d2, e1, e2, f1, f2, g1, g2]
  refine (show ∃ r, fN_count x m = some r from ?_).imp fun r h => ⟨h, e ▸ h⟩
  rw [fN_count]
  repeat' split
  all_goals exact ⟨_, rfl⟩
theorem op_trace {m : zv_M} (h : iTr m) (x : Int32) : ∃ r, fN_trace x m = some r ∧ fM_trace x m = some r := by
  obtain ⟨n, hn, g1, g2, g3, g4⟩ := h
  rw [fN_trace, fM_trace, fM_in]
  rcases i_cases x with hx | ⟨k, hk, rfl⟩
  · exact ⟨-1, by rw [if_pos hx], by rw [if_pos hx]; rfl⟩
  · rw [if_neg (i_lt0 hk), if_neg (i_lt0 hk), g3, g2]
    by_cases h1 : k < 20
    · rw [if_neg (show ¬ (19 : Int32) < Int32.ofNat k from fun q => by have := (i_lt (a := 19) (by decide) hk).mp q; omega), zb1_s]
      by_cases h2 : k < n
      · refine ⟨m.1 110 k, ?_, ?_⟩
        · rw [if_pos ((i_lt hk (by omega)).mpr (by omega)), pi_get (a := 63) (cap := 20) (n := min n 20) ⟨rfl, rfl, by decide, g3, by omega, by decide⟩ hk, zb1_s, if_pos (by omega), g4 k h1 h2]
        · rw [if_neg (by decide), if_pos ((i_lt hk (by omega)).mpr h2), zI_n hk h1, zg_t, i_tn hk]
      · exact ⟨-1, by rw [if_neg (fun q => h2 (by have := (i_lt hk (by omega)).mp q; omega))], by rw [if_neg (by decide), if_neg (fun q => h2 ((i_lt hk (by omega)).mp q))]⟩
    · exact ⟨-1, by rw [if_neg (fun q => by have := (i_lt hk (by omega)).mp q; omega)], by rw [if_pos (show (19 : Int32) < Int32.ofNat k from (i_lt (a := 19) (by decide) hk).mpr (by omega))]; rfl⟩
def maskL (m : zv_M) : zv_M := (fun o k => if [65, 66, 111, 112].elem o = true then m.1 o k else 0, fun o k => if [67, 113].elem o = true then m.2 o k else 0)
def kTp (o _ : Nat) : Bool := [65, 66, 111, 112].elem o
theorem fTp {m m' : zv_M} (h : ag kTp m m') (h2 : ∀ o, [67, 113].elem o = true → m'.2 o = m.2 o) (p : iTp m) : iTp m' := by
  have hP : ∀ m, iTp m = iTp (maskL m) := fun _ => rfl
  have e : maskL m' = maskL m := by
    unfold maskL
    congr 1
    · funext o k
      by_cases q : [65, 66, 111, 112].elem o = true
      · rw [if_pos q, if_pos q, h o k q]
      · rw [if_neg q, if_neg q]
    · funext o k
      by_cases q : [67, 113].elem o = true
      · rw [if_pos q, if_pos q, h2 o q]
      · rw [if_neg q, if_neg q]
  rw [hP m', e, ← hP m]
  exact p
/-- the yards' clauses: what the reference keeps of yard f lays, by its own layBoard, the board of the class's cell 36 + f -/
def kYf (f o k : Nat) : Bool := o == 36 + f || (o == 74 && k == f) || ([75, 76, 77, 78].elem o && (decide (10 * f ≤ k) && decide (k < 10 * f + 10))) || (o == 79 && (decide (100 * f ≤ k) && decide (k < 100 * f + 100)))
def iYd (m : zv_M) (y : Nat) : Prop := ∀ f, f < y → f < 6 → ∀ m', ag (kYf f) m m' → m'.1 68 10 = Int32.ofNat f → ∃ m'', fM_layBoard m' = some m'' ∧ m''.2 = m'.2 ∧ (∀ o k, ¬ o = 82 → ¬ (o = 68 ∧ 1 ≤ k ∧ k ≤ 4) → m''.1 o k = m'.1 o k) ∧ m''.1 68 1 = m.1 (36 + f) 0 ∧ m''.1 68 4 = m.1 (36 + f) 1 ∧ m''.1 68 2 = m.1 (36 + f) 2 ∧ m''.1 68 3 = m.1 (36 + f) 3
def kYd (o _ : Nat) : Bool := [36, 37, 38, 39, 40, 41, 74, 75, 76, 77, 78, 79].elem o
theorem kYf_d {f o k : Nat} (hf : f < 6) (h : kYf f o k = true) : kYd o k = true := by
  unfold kYf at h
  rcases Bool.or_eq_true _ _ |>.mp h with h | h
  · rcases Bool.or_eq_true _ _ |>.mp h with h | h
    · rcases Bool.or_eq_true _ _ |>.mp h with h | h
      · obtain rfl := eq_of_beq h
        rcases (show f = 0 ∨ f = 1 ∨ f = 2 ∨ f = 3 ∨ f = 4 ∨ f = 5 by omega) with rfl | rfl | rfl | rfl | rfl | rfl <;> rfl
      · obtain ⟨h1, -⟩ := Bool.and_eq_true _ _ |>.mp h
        obtain rfl := eq_of_beq h1
        rfl
    · obtain ⟨h1, -⟩ := Bool.and_eq_true _ _ |>.mp h
      have h2 := List.elem_iff.mp h1
      simp only [List.mem_cons, List.not_mem_nil, or_false] at h2
      rcases h2 with rfl | rfl | rfl | rfl <;> rfl
  · obtain ⟨h1, -⟩ := Bool.and_eq_true _ _ |>.mp h
    obtain rfl := eq_of_beq h1
    rfl
theorem fYf {m m' : zv_M} {y : Nat} (h : ∀ f, f < y → f < 6 → ag (kYf f) m m') (p : iYd m y) : iYd m' y := fun f hf hf6 m1 h1 e => by
  have h2 := h f hf hf6
  obtain ⟨m'', a1, a2, a3, a4, a5, a6, a7⟩ := p f hf hf6 m1 (ag_t h2 h1) e
  have hc : ∀ k, m'.1 (36 + f) k = m.1 (36 + f) k := fun k => h2 (36 + f) k (by
    unfold kYf
    rw [beq_self_eq_true]
    rfl)
  exact ⟨m'', a1, a2, a3, a4.trans (hc 0).symm, a5.trans (hc 1).symm, a6.trans (hc 2).symm, a7.trans (hc 3).symm⟩
theorem fYd {m m' : zv_M} {y : Nat} (h : ag kYd m m') (p : iYd m y) : iYd m' y := fYf (fun _ _ hf o k q => h o k (kYf_d hf q)) p
/-- THE INVARIANT -/
def INV (m : zv_M) : Prop := ∃ y : Nat, iNow m y ∧ iKp m y ∧ iBo m y ∧ iBa m ∧ iTx m ∧ iTr m ∧ iTp m ∧ iKo m ∧ iYd m y
theorem O_count_ok : O_count INV := fun m h x => by
  obtain ⟨y, hN, hK, hB, hA, hT, hR, hP, hO, hY⟩ := h
  exact op_count hN hB hT hR x
theorem O_trace_ok : O_trace INV := fun m h x => by
  obtain ⟨y, hN, hK, hB, hA, hT, hR, hP, hO, hY⟩ := h
  exact op_trace hR x
/-- the plans' test on both sides -/
theorem isPlan_neg {m : zv_M} {x : Int32} (hx : x < 0) : fN_isPlan x m = some 0 ∧ fM_isPlan x m = some 0 := by
  rw [fN_isPlan, fM_isPlan, fM_in, if_pos hx, if_pos hx]
  exact ⟨rfl, rfl⟩
theorem i_pred {n k : Nat} (hn : n < 2147483648) (hk : k < 2147483648) : Int32.ofNat n - 1 < Int32.ofNat k ↔ n ≤ k := by
  have e1 : (1 : Int32).toInt = 1 := rfl
  rw [Int32.lt_iff_toInt_lt, i_sub (by rw [i_ofNat hn, e1]; omega) (by rw [i_ofNat hn, e1]; omega), i_ofNat hn, i_ofNat hk, e1]
  omega
theorem isPlan_nat {m : zv_M} {n k : Nat} (h1 : m.1 2 1 = Int32.ofNat n) (h2 : m.1 68 0 = Int32.ofNat n) (hn : n ≤ 6) (hk : k < 2147483648) : fN_isPlan (Int32.ofNat k) m = some (if k < n then 1 else 0) ∧ fM_isPlan (Int32.ofNat k) m = some (if k < n then 1 else 0) := by
  have e1 : (Int32.ofNat k < Int32.ofNat n) = (k < n) := propext (i_lt hk (by omega))
  have e2 : (Int32.ofNat n - 1 < Int32.ofNat k) = (n ≤ k) := propext (i_pred (by omega) hk)
  rw [fN_isPlan, fM_isPlan, fM_in, if_neg (i_lt0 hk), if_neg (i_lt0 hk), h1, h2]
  simp only [e1, e2]
  by_cases q : k < n
  · have q' : ¬ n ≤ k := by omega
    simp only [if_pos q, if_neg q']
    exact ⟨trivial, rfl⟩
  · have q' : n ≤ k := by omega
    simp only [if_neg q, if_pos q']
    exact ⟨trivial, rfl⟩
/-- a loop that counts up: its states are st i x -/
theorem wn_up {σ ρ α : Type} (f : σ → Option (σ ⊕ ρ)) (st : Nat → α → σ) (N : Nat) (J : Nat → α → Prop) (Q : ρ → Prop) (hN : N < 1000000000) (step : ∀ i x, i < N → J i x → ∃ x', f (st i x) = some (.inl (st (i + 1) x')) ∧ J (i + 1) x') (last : ∀ x, J N x → ∃ r, f (st N x) = some (.inr r) ∧ Q r) (x0 : α) (h0 : J 0 x0) : ∃ r, whileN zFU f (st 0 x0) = some r ∧ Q r := by
  have key : ∀ (j i : Nat) (x : α) (fu : Nat), i + j = N → J i x → j < fu → ∃ r, whileN fu f (st i x) = some r ∧ Q r := by
    intro j
    induction j with
    | zero =>
      intro i x fu hi hJ hf
      obtain ⟨fu', rfl⟩ : ∃ k, fu = k + 1 := ⟨fu - 1, by omega⟩
      obtain rfl : i = N := by omega
      obtain ⟨r, e, q⟩ := last x hJ
      exact ⟨r, by rw [whileN, e], q⟩
    | succ j ih =>
      intro i x fu hi hJ hf
      obtain ⟨fu', rfl⟩ : ∃ k, fu = k + 1 := ⟨fu - 1, by omega⟩
      obtain ⟨x', e, q⟩ := step i x (by omega) hJ
      obtain ⟨r, e2, q2⟩ := ih (i + 1) x' fu' (by omega) q (by omega)
      exact ⟨r, by rw [whileN, e]; exact e2, q2⟩
  exact key N 0 x0 zFU (by omega) h0 (zn_FU (by omega))
/-- two loops side by side -/
theorem wn_two {σ τ ρ ω : Type} (f : σ → Option (σ ⊕ ρ)) (g : τ → Option (τ ⊕ ω)) (N : Nat) (J : Nat → σ → τ → Prop) (Q : ρ → ω → Prop) (hN : N < 1000000000) (step : ∀ i s t, i ≤ N → J i s t → (∃ r w, f s = some (.inr r) ∧ g t = some (.inr w) ∧ Q r w) ∨ (i < N ∧ ∃ s' t', f s = some (.inl s') ∧ g t = some (.inl t') ∧ J (i + 1) s' t')) (s0 : σ) (t0 : τ) (h0 : J 0 s0 t0) : ∃ r w, whileN zFU f s0 = some r ∧ whileN zFU g t0 = some w ∧ Q r w := by
  have key : ∀ (j i : Nat) (s : σ) (t : τ) (fu : Nat), i + j = N → J i s t → j < fu → ∃ r w, whileN fu f s = some r ∧ whileN fu g t = some w ∧ Q r w := by
    intro j
    induction j with
    | zero =>
      intro i s t fu hi hJ hf
      obtain ⟨fu', rfl⟩ : ∃ k, fu = k + 1 := ⟨fu - 1, by omega⟩
      rcases step i s t (by omega) hJ with ⟨r, w, e1, e2, q⟩ | ⟨q, -⟩
      · exact ⟨r, w, by rw [whileN, e1], by rw [whileN, e2], q⟩
      · omega
    | succ j ih =>
      intro i s t fu hi hJ hf
      obtain ⟨fu', rfl⟩ : ∃ k, fu = k + 1 := ⟨fu - 1, by omega⟩
      rcases step i s t (by omega) hJ with ⟨r, w, e1, e2, q⟩ | ⟨-, s', t', e1, e2, q⟩
      · exact ⟨r, w, by rw [whileN, e1], by rw [whileN, e2], q⟩
      · obtain ⟨r, w, f1, f2, q2⟩ := ih (i + 1) s' t' fu' (by omega) q (by omega)
        exact ⟨r, w, by rw [whileN, e1]; exact f1, by rw [whileN, e2]; exact f2, q2⟩
  exact key N 0 s0 t0 zFU (by omega) h0 (zn_FU (by omega))
