/-! The picture D of plans, board and men that both sides show; cells that no picture needs (scratch). -/
def scr (o k : Nat) : Bool := [44, 45, 47, 48, 50, 51, 52, 53, 55, 56, 57, 59, 60, 80, 82, 85, 86, 87, 88, 89, 90, 91, 92, 93, 94, 96, 97, 98].elem o || (o == 49 && [4, 5, 6, 7].elem k) || (o == 68 && !([0, 1, 2, 3, 4, 9, 10, 11, 42, 47, 50, 52, 53, 54, 55, 56, 57, 66].elem k))
def sc (m m' : zv_M) : Prop := m'.2 = m.2 ∧ ∀ o k, scr o k = false → m'.1 o k = m.1 o k
theorem sc_r (m : zv_M) : sc m m := ⟨rfl, fun _ _ _ => rfl⟩
theorem sc_t {m m1 m2 : zv_M} (h : sc m m1) (h2 : sc m1 m2) : sc m m2 := ⟨h2.1.trans h.1, fun o k q => (h2.2 o k q).trans (h.2 o k q)⟩
theorem sc_w {m m' : zv_M} {o k : Nat} {v : Int32} (h : sc m m') (hk : scr o k = true) : sc m (wI m' o k v) := ⟨h.1, fun o' k' q => by
  rw [wI_o m' v (by rintro ⟨rfl, rfl⟩; rw [hk] at q; cases q)]
  exact h.2 o' k' q⟩
theorem sc_F {m m' : zv_M} {a n : Nat} {g : Nat → Int32} (h : sc m m') (hk : ∀ k, scr a k = true) : sc m (vF m' a g n) := ⟨h.1, fun o' k' q => by
  rw [vF_o m' g (by rintro ⟨rfl, -⟩; rw [hk] at q; cases q)]
  exact h.2 o' k' q⟩
theorem scr_68 {k : Nat} (h : scr 68 k = true) : [0, 1, 2, 3, 4, 9, 10, 11, 42, 47, 50, 52, 53, 54, 55, 56, 57, 66].elem k = false := by
  have e : scr 68 k = !([0, 1, 2, 3, 4, 9, 10, 11, 42, 47, 50, 52, 53, 54, 55, 56, 57, 66].elem k) := rfl
  rw [e] at h
  cases q : [0, 1, 2, 3, 4, 9, 10, 11, 42, 47, 50, 52, 53, 54, 55, 56, 57, 66].elem k
  · rfl
  · rw [q] at h
    cases h
theorem scr_c {K : Nat → Nat → Bool} (h1 : ∀ k, ∀ o ∈ [44, 45, 47, 48, 50, 51, 52, 53, 55, 56, 57, 59, 60, 80, 82, 85, 86, 87, 88, 89, 90, 91, 92, 93, 94, 96, 97, 98], K o k = false) (h2 : ∀ k, [4, 5, 6, 7].elem k = true → K 49 k = false) (h3 : ∀ k, [0, 1, 2, 3, 4, 9, 10, 11, 42, 47, 50, 52, 53, 54, 55, 56, 57, 66].elem k = false → K 68 k = false) {m m' : zv_M} (h : sc m m') : ag K m m' := fun o k hK => by
  apply h.2
  cases q : scr o k
  · rfl
  · exfalso
    have q' := q
    unfold scr at q
    rcases Bool.or_eq_true _ _ |>.mp q with q | q
    · rcases Bool.or_eq_true _ _ |>.mp q with q | q
      · have := h1 k o (List.elem_iff.mp q)
        rw [this] at hK
        cases hK
      · obtain ⟨q1, q2⟩ := Bool.and_eq_true _ _ |>.mp q
        obtain rfl := eq_of_beq q1
        rw [h2 k q2] at hK
        cases hK
    · obtain ⟨q1, q2⟩ := Bool.and_eq_true _ _ |>.mp q
      obtain rfl := eq_of_beq q1
      rw [h3 k (scr_68 q')] at hK
      cases hK
theorem el_sub {a b : List Nat} (h : ∀ x ∈ b, x ∈ a) {k : Nat} (hk : a.elem k = false) : b.elem k = false := by
  cases q : b.elem k
  · rfl
  · have := h k (List.elem_iff.mp q)
    rw [List.elem_iff.mpr this] at hk
    cases hk
theorem scl {P : Nat → Prop} (h : P 44 ∧ P 45 ∧ P 47 ∧ P 48 ∧ P 50 ∧ P 51 ∧ P 52 ∧ P 53 ∧ P 55 ∧ P 56 ∧ P 57 ∧ P 59 ∧ P 60 ∧ P 80 ∧ P 82 ∧ P 85 ∧ P 86 ∧ P 87 ∧ P 88 ∧ P 89 ∧ P 90 ∧ P 91 ∧ P 92 ∧ P 93 ∧ P 94 ∧ P 96 ∧ P 97 ∧ P 98) : ∀ o ∈ [44, 45, 47, 48, 50, 51, 52, 53, 55, 56, 57, 59, 60, 80, 82, 85, 86, 87, 88, 89, 90, 91, 92, 93, 94, 96, 97, 98], P o := by
  intro o ho
  simp only [List.mem_cons, List.not_mem_nil, or_false] at ho
  rcases ho with rfl | rfl | rfl | rfl | rfl | rfl | rfl | rfl | rfl | rfl | rfl | rfl | rfl | rfl | rfl | rfl | rfl | rfl | rfl | rfl | rfl | rfl | rfl | rfl | rfl | rfl | rfl | rfl <;> simp only [h]
theorem sc_ag {K : Nat → Nat → Bool} (h1 : ∀ k, K 44 k = false ∧ K 45 k = false ∧ K 47 k = false ∧ K 48 k = false ∧ K 50 k = false ∧ K 51 k = false ∧ K 52 k = false ∧ K 53 k = false ∧ K 55 k = false ∧ K 56 k = false ∧ K 57 k = false ∧ K 59 k = false ∧ K 60 k = false ∧ K 80 k = false ∧ K 82 k = false ∧ K 85 k = false ∧ K 86 k = false ∧ K 87 k = false ∧ K 88 k = false ∧ K 89 k = false ∧ K 90 k = false ∧ K 91 k = false ∧ K 92 k = false ∧ K 93 k = false ∧ K 94 k = false ∧ K 96 k = false ∧ K 97 k = false ∧ K 98 k = false) (h2 : ∀ k, K 49 k = false) (h3 : ∀ k, [0, 1, 2, 3, 4, 9, 10, 11, 42, 47, 50, 52, 53, 54, 55, 56, 57, 66].elem k = false → K 68 k = false) {m m' : zv_M} (h : sc m m') : ag K m m' := scr_c (fun k => scl (h1 k)) (fun k _ => h2 k) h3 h
theorem sc_now {m m' : zv_M} (h : sc m m') : ag kNow m m' := sc_ag (fun _ => ⟨rfl, rfl, rfl, rfl, rfl, rfl, rfl, rfl, rfl, rfl, rfl, rfl, rfl, rfl, rfl, rfl, rfl, rfl, rfl, rfl, rfl, rfl, rfl, rfl, rfl, rfl, rfl, rfl⟩) (fun _ => rfl) (fun k hk => el_sub (b := [0, 10, 42, 47, 50]) (by decide) hk) h
theorem sc_kp {m m' : zv_M} (h : sc m m') : ag kKp m m' := sc_ag (fun _ => ⟨rfl, rfl, rfl, rfl, rfl, rfl, rfl, rfl, rfl, rfl, rfl, rfl, rfl, rfl, rfl, rfl, rfl, rfl, rfl, rfl, rfl, rfl, rfl, rfl, rfl, rfl, rfl, rfl⟩) (fun _ => rfl) (fun k hk => el_sub (b := [52, 53, 54, 55, 56, 57]) (by decide) hk) h
theorem sc_bo {m m' : zv_M} (h : sc m m') : ag kBo m m' := sc_ag (fun _ => ⟨rfl, rfl, rfl, rfl, rfl, rfl, rfl, rfl, rfl, rfl, rfl, rfl, rfl, rfl, rfl, rfl, rfl, rfl, rfl, rfl, rfl, rfl, rfl, rfl, rfl, rfl, rfl, rfl⟩) (fun _ => rfl) (fun k hk => el_sub (b := [1, 2, 3, 4, 9, 10]) (by decide) hk) h
theorem sc_tx {m m' : zv_M} (h : sc m m') : ag kTx m m' := sc_ag (fun _ => ⟨rfl, rfl, rfl, rfl, rfl, rfl, rfl, rfl, rfl, rfl, rfl, rfl, rfl, rfl, rfl, rfl, rfl, rfl, rfl, rfl, rfl, rfl, rfl, rfl, rfl, rfl, rfl, rfl⟩) (fun _ => rfl) (fun k hk => by
  have := el_sub (b := [11]) (by decide) hk
  have e : (kTx 68 k) = (k == 11) := rfl
  rw [e]
  simpa using this) h
theorem sc_tr {m m' : zv_M} (h : sc m m') : ag kTr m m' := sc_ag (fun _ => ⟨rfl, rfl, rfl, rfl, rfl, rfl, rfl, rfl, rfl, rfl, rfl, rfl, rfl, rfl, rfl, rfl, rfl, rfl, rfl, rfl, rfl, rfl, rfl, rfl, rfl, rfl, rfl, rfl⟩) (fun _ => rfl) (fun k hk => by
  have := el_sub (b := [66]) (by decide) hk
  have e : (kTr 68 k) = (k == 66) := rfl
  rw [e]
  simpa using this) h
theorem sc_ko {m m' : zv_M} (h : sc m m') : ag kKo m m' := sc_ag (fun _ => ⟨rfl, rfl, rfl, rfl, rfl, rfl, rfl, rfl, rfl, rfl, rfl, rfl, rfl, rfl, rfl, rfl, rfl, rfl, rfl, rfl, rfl, rfl, rfl, rfl, rfl, rfl, rfl, rfl⟩) (fun _ => rfl) (fun _ _ => rfl) h
theorem sc_tp {m m' : zv_M} (h : sc m m') : ag kTp m m' := sc_ag (fun _ => ⟨rfl, rfl, rfl, rfl, rfl, rfl, rfl, rfl, rfl, rfl, rfl, rfl, rfl, rfl, rfl, rfl, rfl, rfl, rfl, rfl, rfl, rfl, rfl, rfl, rfl, rfl, rfl, rfl⟩) (fun _ => rfl) (fun _ _ => rfl) h
theorem sc_yd {m m' : zv_M} (h : sc m m') : ag kYd m m' := sc_ag (fun _ => ⟨rfl, rfl, rfl, rfl, rfl, rfl, rfl, rfl, rfl, rfl, rfl, rfl, rfl, rfl, rfl, rfl, rfl, rfl, rfl, rfl, rfl, rfl, rfl, rfl, rfl, rfl, rfl, rfl⟩) (fun _ => rfl) (fun _ _ => rfl) h
theorem INV_sc {m m' : zv_M} (h : sc m m') (hI : INV m) : INV m' := by
  obtain ⟨y, hN, hK, hB, hA, hT, hR, hP, hO, hY⟩ := hI
  exact ⟨y, fNow (sc_now h) hN, fKp (sc_kp h) hK, fBo (sc_bo h) hB, fBa (sc_bo h) hA, fTx (sc_tx h) hT, fTr (sc_tr h) hR, fTp (sc_tp h) (fun o _ => by rw [h.1]) hP, fKo (sc_ko h) hO, fYd (sc_yd h) hY⟩
/-! the picture: g the yard's cell, h the number that holds, n plans, W, round, holes, barred, kinds, values, rows, men -/
abbrev Dt : Type := Nat × Int32 × Nat × Nat × Bool × Nat × Nat × (Nat → Nat) × (Nat → Nat) × (Nat → Nat) × (Nat → Int32)
def dg (D : Dt) : Nat := D.1
def dh (D : Dt) : Int32 := D.2.1
def dn (D : Dt) : Nat := D.2.2.1
def dW (D : Dt) : Nat := D.2.2.2.1
def dr (D : Dt) : Bool := D.2.2.2.2.1
def dH (D : Dt) : Nat := D.2.2.2.2.2.1
def dB (D : Dt) : Nat := D.2.2.2.2.2.2.1
def dk (D : Dt) : Nat → Nat := D.2.2.2.2.2.2.2.1
def dv (D : Dt) : Nat → Nat := D.2.2.2.2.2.2.2.2.1
def dq (D : Dt) : Nat → Nat := D.2.2.2.2.2.2.2.2.2.1
def da (D : Dt) : Nat → Int32 := D.2.2.2.2.2.2.2.2.2.2
def CS (D : Dt) : Prop := dn D ≤ 6 ∧ 2 ≤ dW D ∧ dW D ≤ 5 ∧ dH D < 2 ^ (dW D * dW D) ∧ dB D < 2 ^ (dW D * dW D) ∧ dH D &&& dB D = dH D ∧ (∀ p, p < dn D → dk D p < 7 ∧ dv D p < 10 ∧ dq D p < 256) ∧ (∀ s, s < 25 → da D s = -1 ∨ s < dW D * dW D ∧ ∃ q : Nat, q < dn D ∧ da D s = Int32.ofNat q) ∧ (dh D = -1 ∧ dg D = 42 ∨ ∃ f : Nat, f < 6 ∧ dh D = Int32.ofNat f ∧ dg D = 36 + f)
def CN (D : Dt) (m : zv_M) : Prop := m.1 1 8 = dh D ∧ (m.1 (dg D) 0 = Int32.ofNat (dW D) ∧ m.1 (dg D) 1 = rI (dr D) ∧ m.1 (dg D) 2 = Int32.ofNat (dH D) ∧ m.1 (dg D) 3 = Int32.ofNat (dB D)) ∧ (m.1 2 1 = Int32.ofNat (dn D) ∧ m.1 4 1 = Int32.ofNat (dn D) ∧ m.1 6 1 = Int32.ofNat (dn D)) ∧ (∀ p, p < dn D → m.1 3 p = Int32.ofNat (dk D p) ∧ m.1 5 p = Int32.ofNat (dv D p) ∧ m.1 7 p = Int32.ofNat (dq D p)) ∧ ∀ s, s < 25 → m.1 8 s = da D s
def CM (D : Dt) (m : zv_M) : Prop := (m.1 68 1 = Int32.ofNat (dW D) ∧ m.1 68 4 = rI (dr D) ∧ m.1 68 2 = Int32.ofNat (dH D) ∧ m.1 68 3 = Int32.ofNat (dB D)) ∧ m.1 68 0 = Int32.ofNat (dn D) ∧ (∀ p, p < dn D → m.1 69 p = Int32.ofNat (dk D p) ∧ m.1 70 p = Int32.ofNat (dv D p) ∧ ∀ d, d < 8 → m.1 71 (8 * p + d) = Int32.ofNat (dq D p / 2 ^ d % 2)) ∧ (∀ s, s < 25 → m.1 72 s = da D s) ∧ ∀ d, d < 8 → m.1 83 d = aX d ∧ m.1 84 d = aY d
theorem CM_sc {D : Dt} {m m' : zv_M} (h : sc m m') (c : CM D m) : CM D m' := by
  obtain ⟨⟨a1, a2, a3, a4⟩, a5, a6, a7, a8⟩ := c
  refine ⟨⟨(h.2 68 1 rfl).trans a1, (h.2 68 4 rfl).trans a2, (h.2 68 2 rfl).trans a3, (h.2 68 3 rfl).trans a4⟩, (h.2 68 0 rfl).trans a5, fun p hp => ?_, fun s hs => (h.2 72 s rfl).trans (a7 s hs), fun d hd => ⟨(h.2 83 d rfl).trans (a8 d hd).1, (h.2 84 d rfl).trans (a8 d hd).2⟩⟩
  obtain ⟨b1, b2, b3⟩ := a6 p hp
  exact ⟨(h.2 69 p rfl).trans b1, (h.2 70 p rfl).trans b2, fun d hd => (h.2 71 _ rfl).trans (b3 d hd)⟩
theorem CN_sc {D : Dt} {m m' : zv_M} (hS : CS D) (h : sc m m') (c : CN D m) : CN D m' := by
  obtain ⟨a0, ⟨a1, a2, a3, a4⟩, ⟨a5, a6, a7⟩, a8, a9⟩ := c
  have hg : ∀ k, scr (dg D) k = false := fun k => by
    obtain ⟨-, -, -, -, -, -, -, -, hh⟩ := hS
    rcases hh with ⟨-, e⟩ | ⟨f, hf, -, e⟩
    · rw [e]; rfl
    · rw [e]
      rcases (show f = 0 ∨ f = 1 ∨ f = 2 ∨ f = 3 ∨ f = 4 ∨ f = 5 by omega) with rfl | rfl | rfl | rfl | rfl | rfl <;> rfl
  refine ⟨(h.2 1 8 rfl).trans a0, ⟨(h.2 _ _ (hg _)).trans a1, (h.2 _ _ (hg _)).trans a2, (h.2 _ _ (hg _)).trans a3, (h.2 _ _ (hg _)).trans a4⟩, ⟨(h.2 2 1 rfl).trans a5, (h.2 4 1 rfl).trans a6, (h.2 6 1 rfl).trans a7⟩, fun p hp => ?_, fun s hs => (h.2 8 s rfl).trans (a9 s hs)⟩
  obtain ⟨b1, b2, b3⟩ := a8 p hp
  exact ⟨(h.2 3 p rfl).trans b1, (h.2 5 p rfl).trans b2, (h.2 7 p rfl).trans b3⟩
theorem tn_of {x : Int32} {k : Nat} (h : x = Int32.ofNat k) (hk : k < 2147483648) : x = Int32.ofNat x.toNatClampNeg ∧ x.toNatClampNeg = k := by
  subst h
  rw [i_tn hk]
  exact ⟨rfl, rfl⟩
/-- the invariant shows a picture -/
theorem pic {m : zv_M} (hI : INV m) : ∃ D, CS D ∧ CN D m ∧ CM D m := by
  obtain ⟨y, ⟨n, W, ⟨hn, a1, a2, a3, a4, a5⟩, hN1, hN2, ⟨hW2, hW5, hN3⟩, hMn, -⟩, hK, ⟨hy, hB1, hB2, hB3, hB5, hB6, hB7, hB8⟩, hA, hT, hR, hP, ⟨-, hO2, hO3⟩, hY⟩ := hI
  have hg : ∃ g, (m.1 68 10 = -1 ∧ g = 42 ∨ ∃ f : Nat, f < 6 ∧ m.1 68 10 = Int32.ofNat f ∧ g = 36 + f) ∧ (∀ k, m.1 g k = gW m (m.1 68 10) k) ∧ gBo (gW m (m.1 68 10) 0) (gW m (m.1 68 10) 1) (gW m (m.1 68 10) 2) (gW m (m.1 68 10) 3) := by
    rcases hN2 with h | ⟨f, hf, h⟩
    · refine ⟨42, Or.inl ⟨h, rfl⟩, fun k => by rw [h, gW, if_pos (by decide)], ?_⟩
      obtain ⟨b1, b2, b3, b4⟩ := hA
      rw [h]
      have e : ∀ k, gW m (-1) k = m.1 42 k := fun k => by rw [gW, if_pos (by decide)]
      rw [e, e, e, e, b1, b2, b3, b4]
      exact ⟨4, 0, 0, by decide, by decide, rfl, Or.inl rfl, rfl, rfl, by decide, by decide, rfl⟩
    · refine ⟨36 + f, Or.inr ⟨f, by omega, h, rfl⟩, fun k => ?_, ?_⟩
      · rw [h]
        rcases (show f = 0 ∨ f = 1 ∨ f = 2 ∨ f = 3 ∨ f = 4 ∨ f = 5 by omega) with rfl | rfl | rfl | rfl | rfl | rfl <;> rfl
      · rw [h]
        exact hB3 f hf
  obtain ⟨g, hg1, hg2, ⟨W', H, B, q1, q2, q3, q4, q5, q6, q7, q8, q9⟩⟩ := hg
  obtain rfl : W' = W := (i_eq (by omega) (by omega)).mp (q3.symm.trans hN3)
  have hr : gW m (m.1 68 10) 1 = rI (decide (gW m (m.1 68 10) 1 = 1)) := by
    rcases q4 with e | e
    · rw [e]; rfl
    · rw [e]; rfl
  refine ⟨(g, m.1 68 10, n, W', decide (gW m (m.1 68 10) 1 = 1), H, B, fun p => (m.1 69 p).toNatClampNeg, fun p => (m.1 70 p).toNatClampNeg, fun p => (m.1 7 p).toNatClampNeg, fun s => m.1 72 s), ⟨hn, q1, q2, q7, q8, q9, fun p hp => ?_, fun s hs => ?_, hg1⟩, ⟨hN1, ⟨(hg2 0).trans q3, (hg2 1).trans hr, (hg2 2).trans q5, (hg2 3).trans q6⟩, ⟨a1, a2, a3⟩, fun p hp => ?_, fun s hs => (hMn s hs).1⟩, ⟨⟨hB5.trans q3, hB6.trans hr, hB7.trans q5, hB8.trans q6⟩, a4, fun p hp => ?_, fun s _ => rfl, fun d hd => ⟨(hO2 d hd).trans (kX d hd), (hO3 d hd).trans (kY d hd)⟩⟩⟩
  · obtain ⟨-, -, ⟨k, hk, e1⟩, ⟨v, hv, e2⟩, ⟨q, hq, e3, -⟩⟩ := a5 p hp
    refine ⟨?_, ?_, ?_⟩
    · show (m.1 69 p).toNatClampNeg < 7
      rw [(tn_of e1 (by omega)).2]
      exact hk
    · show (m.1 70 p).toNatClampNeg < 10
      rw [(tn_of e2 (by omega)).2]
      exact hv
    · show (m.1 7 p).toNatClampNeg < 256
      rw [(tn_of e3 (by omega)).2]
      exact hq
  · exact (hMn s hs).2
  · obtain ⟨c1, c2, ⟨k, hk, e1⟩, ⟨v, hv, e2⟩, ⟨q, hq, e3, -⟩⟩ := a5 p hp
    exact ⟨c1.trans (tn_of e1 (by omega)).1, c2.trans (tn_of e2 (by omega)).1, (tn_of e3 (by omega)).1⟩
  · obtain ⟨c1, c2, ⟨k, hk, e1⟩, ⟨v, hv, e2⟩, ⟨q, hq, e3, e4⟩⟩ := a5 p hp
    refine ⟨(tn_of e1 (by omega)).1, (tn_of e2 (by omega)).1, fun d hd => ?_⟩
    show m.1 71 (8 * p + d) = Int32.ofNat ((m.1 7 p).toNatClampNeg / 2 ^ d % 2)
    rw [(tn_of e3 (by omega)).2]
    exact e4 d hd
/-! what the picture tells of the calls -/
theorem CS_WW {D : Dt} (h : CS D) : dW D * dW D ≤ 25 := Nat.mul_le_mul h.2.2.1 h.2.2.1
theorem g_ground {D : Dt} {m : zv_M} (hS : CS D) (c : CN D m) : fN_ground m = some (dg D) := by
  obtain ⟨-, -, -, -, -, -, -, -, hh⟩ := hS
  rw [fN_ground, c.1]
  rcases hh with ⟨h, e⟩ | ⟨f, hf, h, e⟩
  · rw [h, if_pos (by decide), e]
  · rw [h, if_neg (i_lt0 (by omega)), if_pos (show Int32.ofNat f < 6 from (i_lt (b := 6) (by omega) (by decide)).mpr hf), zI_n (by omega) (by omega), zg_t, zg_t, i_tn (by omega), e]
    rcases (show f = 0 ∨ f = 1 ∨ f = 2 ∨ f = 3 ∨ f = 4 ∨ f = 5 by omega) with rfl | rfl | rfl | rfl | rfl | rfl <;> rfl
theorem g_plan {D : Dt} {m : zv_M} (hS : CS D) (c : CN D m) {k : Nat} (hk : k < 2147483648) : fN_isPlan (Int32.ofNat k) m = some (if k < dn D then 1 else 0) := by
  have e1 : (Int32.ofNat k < Int32.ofNat (dn D)) = (k < dn D) := propext (i_lt hk (by have := hS.1; omega))
  rw [fN_isPlan, if_neg (i_lt0 hk), c.2.2.1.1]
  simp only [e1]
  split <;> rfl
theorem g_planM {D : Dt} {m : zv_M} (hS : CS D) (c : CM D m) {k : Nat} (hk : k < 2147483648) : fM_isPlan (Int32.ofNat k) m = some (if k < dn D then 1 else 0) := by
  have e2 : (Int32.ofNat (dn D) - 1 < Int32.ofNat k) = (dn D ≤ k) := propext (i_pred (by have := hS.1; omega) hk)
  rw [fM_isPlan, fM_in, if_neg (i_lt0 hk), c.2.1]
  simp only [e2]
  by_cases q : k < dn D
  · rw [if_neg (by omega), if_pos q]
    rfl
  · rw [if_pos (by omega), if_neg q]
    rfl
theorem g_sq {D : Dt} {m : zv_M} (hS : CS D) (c : CN D m) {s : Nat} (hs : s < 2147483648) : fN_isSquare (Int32.ofNat s) m = some (if s < dW D * dW D then 1 else 0) := by
  have hWW := CS_WW hS
  have e1 : (Int32.ofNat s < Int32.ofNat (dW D * dW D)) = (s < dW D * dW D) := propext (i_lt hs (by omega))
  rw [fN_isSquare, g_ground hS c, zb1_s, if_neg (i_lt0 hs), c.2.1.1, i_mu]
  simp only [e1]
  split <;> rfl
theorem g_sqM {D : Dt} {m : zv_M} (hS : CS D) (c : CM D m) {s : Nat} (hs : s < 2147483648) : fM_isSquare (Int32.ofNat s) m = some (if s < dW D * dW D then 1 else 0) := by
  have hWW := CS_WW hS
  have e2 : (Int32.ofNat (dW D * dW D) - 1 < Int32.ofNat s) = (dW D * dW D ≤ s) := propext (i_pred (by omega) hs)
  rw [fM_isSquare, c.1.1, i_mu, fM_in, if_neg (i_lt0 hs)]
  simp only [e2]
  by_cases q : s < dW D * dW D
  · rw [if_neg (by omega), if_pos q]
    rfl
  · rw [if_pos (by omega), if_neg q]
    rfl
theorem g_sqneg {D : Dt} {m : zv_M} (hS : CS D) (c : CN D m) {x : Int32} (hx : x < 0) : fN_isSquare x m = some 0 ∧ fM_isSquare x m = some 0 := by
  rw [fN_isSquare, fM_isSquare, g_ground hS c, zb1_s, if_pos hx, in_neg (by decide) hx]
  exact ⟨rfl, rfl⟩
/-- what a plan sees from a square -/
def VV (D : Dt) (p s : Nat) : Nat := vw (dW D) (dr D) (dH D) (dk D p) (dv D p) (dq D p) s
theorem VV_t {D : Dt} (hS : CS D) {p s i : Nat} (hs : s < dW D * dW D) (h : (VV D p s).testBit i = true) : i < dW D * dW D ∧ ¬ i = s ∧ (dH D).testBit i = false := vw_t hS.2.2.1 hS.2.1 hs h
theorem lt_of_t {a N : Nat} (h : ∀ i, a.testBit i = true → i < N) : a < 2 ^ N := by
  have e : a = bs a.testBit N := by
    apply Nat.eq_of_testBit_eq
    intro i
    rw [bs_t]
    cases q : a.testBit i
    · simp
    · rw [decide_eq_true (h i q)]
      rfl
  rw [e]
  exact bs_lt _ _
theorem VV_lt {D : Dt} (hS : CS D) {p s : Nat} (hs : s < dW D * dW D) : VV D p s < 2 ^ (dW D * dW D) := lt_of_t fun _ h => (VV_t hS hs h).1
theorem VV_25 {D : Dt} (hS : CS D) {p s : Nat} (hs : s < dW D * dW D) : VV D p s < 2147483648 := by
  have h1 := VV_lt (p := p) hS hs
  have h2 : 2 ^ (dW D * dW D) ≤ 2 ^ 31 := Nat.pow_le_pow_right (by decide) (by have := CS_WW hS; omega)
  exact Nat.lt_of_lt_of_le h1 h2
theorem g_view {D : Dt} {m : zv_M} (hS : CS D) (c : CN D m) {p s : Nat} (hp : p < dn D) (hs : s < dW D * dW D) : fN_viewOf (Int32.ofNat p) (Int32.ofNat s) m = some (Int32.ofNat (VV D p s)) := by
  have hS' := hS
  obtain ⟨hn, h2, h5, -, -, -, hk, -, -⟩ := hS'
  obtain ⟨b1, b2, b3⟩ := hk p hp
  obtain ⟨c0, ⟨c1, c2, c3, c4⟩, ⟨c5, c6, c7⟩, c8, c9⟩ := c
  obtain ⟨e1, e2, e3⟩ := c8 p hp
  have cc : CN D m := ⟨c0, ⟨c1, c2, c3, c4⟩, ⟨c5, c6, c7⟩, c8, c9⟩
  rw [fN_viewOf, g_ground hS cc, zb1_s, pi_get (a := 3) (cap := 6) (n := dn D) ⟨rfl, rfl, by decide, c5, hn, by decide⟩ (by omega), if_pos hp, zb1_s, pi_get (a := 5) (cap := 6) (n := dn D) ⟨rfl, rfl, by decide, c6, hn, by decide⟩ (by omega), if_pos hp, zb1_s, pi_get (a := 7) (cap := 6) (n := dn D) ⟨rfl, rfl, by decide, c7, hn, by decide⟩ (by omega), if_pos hp, zb1_s, e1, e2, e3, view_ok h5 h2 hs b1 b2 b3 c1 c2 c3]
  rfl
theorem g_sees {D : Dt} {m : zv_M} (hS : CS D) (c : CM D m) {p s : Nat} (hp : p < dn D) (hs : s < dW D * dW D) : fM_seesOf (Int32.ofNat p) (Int32.ofNat s) m = some (Int32.ofNat (VV D p s)) := by
  obtain ⟨b1, b2, b3⟩ := hS.2.2.2.2.2.2.1 p hp
  obtain ⟨⟨a1, a2, a3, a4⟩, a5, a6, a7, a8⟩ := c
  obtain ⟨e1, e2, e3⟩ := a6 p hp
  exact sees_ok hS.2.2.1 hS.2.1 hs (by have := hS.1; omega) a1 a2 a3 (fun d hd => (a8 d hd).1) (fun d hd => (a8 d hd).2) e1 b1 e2 b2 b3 e3
theorem O_sees_ok : O_sees INV := fun m h x1 x2 => by
  obtain ⟨D, hS, cN, cM⟩ := pic h
  rw [fN_sees, fM_sees]
  rcases i_cases x1 with hx | ⟨p, hp, rfl⟩
  · rw [(isPlan_neg hx).1, (isPlan_neg hx).2]
    exact ⟨-1, rfl, rfl⟩
  · rw [g_plan hS cN hp, g_planM hS cM hp, zb1_s, zb1_s]
    by_cases h1 : p < dn D
    · rw [if_pos h1, if_neg (by decide), if_neg (by decide)]
      rcases i_cases x2 with hx | ⟨s, hs, rfl⟩
      · rw [(g_sqneg hS cN hx).1, (g_sqneg hS cN hx).2]
        exact ⟨-1, rfl, rfl⟩
      · rw [g_sq hS cN hs, g_sqM hS cM hs, zb1_s, zb1_s]
        by_cases h2 : s < dW D * dW D
        · rw [if_pos h2, if_neg (by decide), if_neg (by decide), g_view hS cN h1 h2, g_sees hS cM h1 h2]
          exact ⟨_, rfl, rfl⟩
        · rw [if_neg h2]
          exact ⟨-1, rfl, rfl⟩
    · rw [if_neg h1]
      exact ⟨-1, rfl, rfl⟩
