/-! The acts' bodies, on both sides by kinds. -/
def eN (b : Int32) (c : Nat) (m : zv_M) : zv_M := wI (wI (wI m 63 c b) 62 1 (Int32.ofNat (c + 1))) 61 1 (Int32.ofNat (c + 1))
def eM (b : Int32) (c : Nat) (m : zv_M) : zv_M := wI (wI m 110 c b) 68 66 (Int32.ofNat (c + 1))
def evN : List Int32 → Nat → zv_M → zv_M
  | [], _, m => m
  | b :: L, c, m => evN L (c + 1) (eN b c m)
def evM : List Int32 → Nat → zv_M → zv_M
  | [], _, m => m
  | b :: L, c, m => evM L (c + 1) (eM b c m)
theorem evN_app : ∀ (L1 L2 : List Int32) (c : Nat) (m : zv_M), evN (L1 ++ L2) c m = evN L2 (c + L1.length) (evN L1 c m)
  | [], _, _, _ => rfl
  | b :: L, L2, c, m => by
    show evN (L ++ L2) (c + 1) (eN b c m) = evN L2 (c + (L.length + 1)) (evN L (c + 1) (eN b c m))
    rw [evN_app L L2, Nat.add_assoc, Nat.add_comm 1]
theorem evM_app : ∀ (L1 L2 : List Int32) (c : Nat) (m : zv_M), evM (L1 ++ L2) c m = evM L2 (c + L1.length) (evM L1 c m)
  | [], _, _, _ => rfl
  | b :: L, L2, c, m => by
    show evM (L ++ L2) (c + 1) (eM b c m) = evM L2 (c + (L.length + 1)) (evM L (c + 1) (eM b c m))
    rw [evM_app L L2, Nat.add_assoc, Nat.add_comm 1]
def TN (c : Nat) (i k v : Int32) (m : zv_M) : Prop := m.1 62 1 = Int32.ofNat c ∧ m.1 61 1 = Int32.ofNat c ∧ m.1 61 2 = i ∧ m.1 61 3 = k ∧ m.1 61 4 = v
def TM (c p : Nat) (k v : Int32) (m : zv_M) : Prop := m.1 68 66 = Int32.ofNat c ∧ m.1 69 p = k ∧ m.1 70 p = v
theorem TN_e {c : Nat} {i k v b : Int32} {m : zv_M} (h : TN c i k v m) : TN (c + 1) i k v (eN b c m) := ⟨rfl, rfl, h.2.2.1, h.2.2.2.1, h.2.2.2.2⟩
theorem TM_e {c p : Nat} {k v b : Int32} {m : zv_M} (h : TM c p k v m) : TM (c + 1) p k v (eM b c m) := ⟨rfl, h.2.1, h.2.2⟩
theorem TN_v : ∀ (L : List Int32) {c : Nat} {i k v : Int32} {m : zv_M}, TN c i k v m → TN (c + L.length) i k v (evN L c m)
  | [], _, _, _, _, _, h => h
  | b :: L, c, i, k, v, m, h => by
    have := TN_v L (TN_e (b := b) h)
    rw [Nat.add_assoc, Nat.add_comm 1] at this
    exact this
theorem TM_v : ∀ (L : List Int32) {c p : Nat} {k v : Int32} {m : zv_M}, TM c p k v m → TM (c + L.length) p k v (evM L c m)
  | [], _, _, _, _, _, h => h
  | b :: L, c, p, k, v, m, h => by
    have := TM_v L (TM_e (b := b) h)
    rw [Nat.add_assoc, Nat.add_comm 1] at this
    exact this
theorem body_ok {c p : Nat} {k v b : Int32} {m : zv_M} (h : TM c p k v m) (hc : c < 20) : fM_body b m = some (eM b c m) := by
  rw [fM_body, h.1, if_pos (show Int32.ofNat c < 20 from (i_lt (b := 20) (by omega) (by decide)).mpr hc), zI_n (by omega) hc, zg_t, i_tn (by omega), wI_o _ _ (by omega), h.1, inc]
  rfl
/-- which kind's body runs, and its number -/
def own (p a : Nat) : Nat := if a = 0 then (if p = 2 ∨ p = 5 then 2 else if p = 4 then 4 else if p = 6 then 6 else 0) else if a = 1 then (if p = 1 then 1 else if p = 4 then 4 else if p = 6 then 6 else 0) else (if p = 3 ∨ p = 6 then 3 else if p = 5 then 5 else 0)
def bdy (p a : Nat) : Int32 := zv_tv 3 (own p a * 3 + a)
def runB (p a : Nat) : Bool := decide (whileN zFU (fAc_run_l6 (Int32.ofNat a)) (Int32.ofNat p, 0) = some (Int32.ofNat (own p a))) && (decide (fN_isKind (Int32.ofNat (own p a)) = some 1) && (decide (fAc_bodyOf (Int32.ofNat (own p a)) (Int32.ofNat a) = some (bdy p a)) && decide (own p a < 7)))
theorem runB_ok : ∀ p, p < 7 → ∀ a, a < 3 → runB p a = true := by decide +kernel
/-- what a body does, in the class -/
def gR (n : Nat) : Int32 → Int32 → Int32 → Int32 → zv_M → Option (Int32 × zv_M) := fAc_answerOf_run (2 * n) false
theorem gR_28 (p1 p2 p3 p4 : Int32) (m : zv_M) : fAc_run 28 p1 p2 p3 p4 m = gR 14 p1 p2 p3 p4 m := rfl
theorem gR_s (n : Nat) (p1 p2 p3 p4 : Int32) (m : zv_M) : gR (n + 1) p1 p2 p3 p4 m = fAc_run_b (fAc_answerOf_run (2 * n + 1) true) (fAc_answerOf_run (2 * n + 1) false) p1 p2 p3 p4 m := by
  show fAc_answerOf_run (2 * n + 1 + 1) false p1 p2 p3 p4 m = _
  rw [fAc_answerOf_run]
theorem zb2_id {α β : Type} (x : Option (α × β)) : zb2 x (fun r m => some (r, m)) = x := by
  cases x <;> rfl
def brN (n : Nat) (r7 : Int32) (o : Nat) (p3 d : Int32) (m : zv_M) : Option (Int32 × zv_M) := if r7 = 10 then some (p3 + m.1 61 2, m) else if r7 = 11 then zb2 (gR n (m.1 61 3) 0 p3 d m) (fun r10 m11 => some (r10 - (m11.1 61 4), m11)) else if r7 = 12 then zb2 (gR n (m.1 61 3) 1 p3 d m) (fun r12 m13 => some (r12 * 2, m13)) else if r7 = 20 then zb2 (gR n (zv_tv 0 o) 1 p3 d m) (fun r14 m15 => some (r14 ^^^ 6, m15)) else if r7 = 30 then zb2 (gR n (zv_tv 0 o) 0 (p3 * 3) d m) (fun r16 m17 => some (r16, m17)) else if r7 = 40 then zb2 (gR n (zv_tv 0 o) 2 p3 d m) (fun r18 m19 => zb2 (gR n (m19.1 61 3) 1 1 d m19) (fun r20 m21 => some (r18 + r20, m21))) else if r7 = 50 then zb2 (gR n (zv_tv 0 o) 0 p3 d m) (fun r22 m23 => some (-r22, m23)) else if r7 = 51 then zb2 (gR n (zv_tv 0 o) 1 (p3 + 1) d m) (fun r24 m25 => some (r24, m25)) else if r7 = 60 then zb2 (gR n (zv_tv 0 o) 2 (p3 - m.1 61 2) d m) (fun r26 m27 => some (r26, m27)) else if r7 = 70 then zb2 (gR n (zv_tv 0 o) 1 p3 d m) (fun r28 m29 => zb2 (gR n (zv_tv 0 o) 0 2 d m29) (fun r30 m31 => some (r28 + r30, m31))) else if r7 = 71 then zb2 (gR n (zv_tv 0 o) 0 p3 d m) (fun r32 m33 => some (r32 ^^^ (m33.1 61 4), m33)) else some (0, m)
theorem gA_s (n : Nat) (r7 : Int32) (o : Nat) (p3 d : Int32) (m : zv_M) : fAc_answerOf_run (2 * n + 1) true r7 (zv_tv 0 o) p3 d m = brN n r7 o p3 d m := by
  rw [fAc_answerOf_run, fAc_answerOf_b]
  rfl
theorem run_ok2 {n p a d c : Nat} {i k v x : Int32} {m : zv_M} (hp : p < 7) (ha : a < 3) (hd : d < 40) (hc : c < 20) (h : TN c i k v m) : gR (n + 1) (Int32.ofNat p) (Int32.ofNat a) x (Int32.ofNat d) m = brN n (bdy p a) (own p a) x (Int32.ofNat (d + 1)) (eN (bdy p a) c m) := by
  obtain ⟨w1, q⟩ := Bool.and_eq_true _ _ |>.mp (runB_ok p hp a ha)
  obtain ⟨w2, q⟩ := Bool.and_eq_true _ _ |>.mp q
  obtain ⟨w3, w4⟩ := Bool.and_eq_true _ _ |>.mp q
  have e1 := of_decide_eq_true w1
  have e2 := of_decide_eq_true w2
  have e3 := of_decide_eq_true w3
  have e4 := of_decide_eq_true w4
  have hd' : ¬ (40 : Int32) < Int32.ofNat d := fun z => by
    have := (i_lt (a := 40) (by decide) (by omega)).mp z
    omega
  rw [gR_s, fAc_run_b, e1, zb1_s, e2, zb1_s, if_neg (by decide), if_neg hd', e3, zb1_s, pi_add (a := 63) (cap := 20) (n := c) ⟨rfl, rfl, by decide, h.1, by omega, by decide⟩ hc, zb1_s, zI_n (by omega) (show own p a < zv_tl 0 from e4), zg_t, i_tn (by omega), show (wI (wI m 63 c (bdy p a)) 62 1 (Int32.ofNat (c + 1))).1 61 1 = m.1 61 1 from rfl, h.2.1, inc, inc, zb2_id, gA_s]
  rfl
/-- values and bodies of looks, sees, tells of a kind -/
def vL (k : Nat) (i v x : Int32) : Int32 := if k = 2 ∨ k = 5 then x * 3 + i else if k = 4 then -(x + i) else if k = 6 then (x + i) ^^^ v else x + i
def lL (k : Nat) : List Int32 := if k = 2 ∨ k = 5 then [30, 10] else if k = 4 then [50, 10] else if k = 6 then [71, 10] else [10]
def vS (k : Nat) (i v x : Int32) : Int32 := if k = 1 then (vL k i v x - v) ^^^ 6 else if k = 4 then (vL k i v (x + 1) - v) ^^^ 6 else if k = 6 then (vL k i v x - v) + (2 + i) else vL k i v x - v
def lS (k : Nat) : List Int32 := if k = 1 then 20 :: 11 :: lL k else if k = 4 then 51 :: 20 :: 11 :: lL k else if k = 6 then 70 :: (11 :: lL k ++ [10]) else 11 :: lL k
def vT (k : Nat) (i v x : Int32) : Int32 := if k = 3 ∨ k = 6 then vS k i v x * 2 + vS k i v 1 else if k = 5 then vS k i v (x - i) * 2 else vS k i v x * 2
def lT (k : Nat) : List Int32 := if k = 3 ∨ k = 6 then 40 :: (12 :: lS k ++ lS k) else if k = 5 then 60 :: 12 :: lS k else 12 :: lS k
theorem k7 {k : Nat} (h : k < 7) : k = 0 ∨ k = 1 ∨ k = 2 ∨ k = 3 ∨ k = 4 ∨ k = 5 ∨ k = 6 := by omega
theorem lL_len : ∀ k, k < 7 → (lL k).length ≤ 2 ∧ (lS k).length ≤ 5 ∧ (lT k).length ≤ 12 := by decide
theorem N_l0 {n p d c : Nat} {i k v x : Int32} {m : zv_M} (hp : p = 0 ∨ p = 1 ∨ p = 3) (hd : d < 40) (hc : c < 20) (h : TN c i k v m) : gR (n + 1) (Int32.ofNat p) 0 x (Int32.ofNat d) m = some (x + i, eN 10 c m) := by
  have e := run_ok2 (n := n) (a := 0) (x := x) (show p < 7 by omega) (by decide) hd hc h
  refine e.trans ?_
  have hi : (eN 10 c m).1 61 2 = i := h.2.2.1
  rcases hp with rfl | rfl | rfl
  · show some (x + (eN 10 c m).1 61 2, eN 10 c m) = _
    rw [hi]
  · show some (x + (eN 10 c m).1 61 2, eN 10 c m) = _
    rw [hi]
  · show some (x + (eN 10 c m).1 61 2, eN 10 c m) = _
    rw [hi]
theorem N_looks {n kk d c : Nat} {i k v x : Int32} {m : zv_M} (hk : kk < 7) (hd : d < 30) (hc : c < 18) (h : TN c i k v m) : gR (n + 2) (Int32.ofNat kk) 0 x (Int32.ofNat d) m = some (vL kk i v x, evN (lL kk) c m) := by
  have e := run_ok2 (n := n + 1) (a := 0) (x := x) hk (by decide) (show d < 40 by omega) (show c < 20 by omega) h
  rcases k7 hk with rfl | rfl | rfl | rfl | rfl | rfl | rfl
  · exact N_l0 (Or.inl rfl) (by omega) (by omega) h
  · exact N_l0 (Or.inr (Or.inl rfl)) (by omega) (by omega) h
  · refine e.trans ?_
    have f := N_l0 (n := n) (p := 0) (d := d + 1) (x := x * 3) (Or.inl rfl) (by omega) (show c + 1 < 20 by omega) (TN_e (b := 30) h)
    show zb2 (gR (n + 1) (Int32.ofNat 0) 0 (x * 3) (Int32.ofNat (d + 1)) (eN 30 c m)) (fun r16 m17 => some (r16, m17)) = _
    rw [f]
    rfl
  · exact N_l0 (Or.inr (Or.inr rfl)) (by omega) (by omega) h
  · refine e.trans ?_
    have f := N_l0 (n := n) (p := 1) (d := d + 1) (x := x) (Or.inr (Or.inl rfl)) (by omega) (show c + 1 < 20 by omega) (TN_e (b := 50) h)
    show zb2 (gR (n + 1) (Int32.ofNat 1) 0 x (Int32.ofNat (d + 1)) (eN 50 c m)) (fun r22 m23 => some (-r22, m23)) = _
    rw [f]
    rfl
  · refine e.trans ?_
    have f := N_l0 (n := n) (p := 0) (d := d + 1) (x := x * 3) (Or.inl rfl) (by omega) (show c + 1 < 20 by omega) (TN_e (b := 30) h)
    show zb2 (gR (n + 1) (Int32.ofNat 0) 0 (x * 3) (Int32.ofNat (d + 1)) (eN 30 c m)) (fun r16 m17 => some (r16, m17)) = _
    rw [f]
    rfl
  · refine e.trans ?_
    have f := N_l0 (n := n) (p := 3) (d := d + 1) (x := x) (Or.inr (Or.inr rfl)) (by omega) (show c + 1 < 20 by omega) (TN_e (b := 71) h)
    have hv : (eN 10 (c + 1) (eN 71 c m)).1 61 4 = v := h.2.2.2.2
    show zb2 (gR (n + 1) (Int32.ofNat 3) 0 x (Int32.ofNat (d + 1)) (eN 71 c m)) (fun r32 m33 => some (r32 ^^^ (m33.1 61 4), m33)) = _
    rw [f, zb2_s, hv]
    rfl
theorem N_s11 {n p kk d c : Nat} {i v x : Int32} {m : zv_M} (hp : p = 0 ∨ p = 2 ∨ p = 3 ∨ p = 5) (hk : kk < 7) (hd : d < 29) (hc : c < 17) (h : TN c i (Int32.ofNat kk) v m) : gR (n + 3) (Int32.ofNat p) 1 x (Int32.ofNat d) m = some (vL kk i v x - v, evN (11 :: lL kk) c m) := by
  have e := run_ok2 (n := n + 2) (a := 1) (x := x) (show p < 7 by omega) (by decide) (show d < 40 by omega) (show c < 20 by omega) h
  have f := N_looks (n := n) (d := d + 1) (x := x) hk (by omega) (show c + 1 < 18 by omega) (TN_e (b := 11) h)
  have hv : (evN (lL kk) (c + 1) (eN 11 c m)).1 61 4 = v := (TN_v (lL kk) (TN_e (b := 11) h)).2.2.2.2
  have hk3 : (eN 11 c m).1 61 3 = Int32.ofNat kk := h.2.2.2.1
  have g : zb2 (gR (n + 2) ((eN 11 c m).1 61 3) 0 x (Int32.ofNat (d + 1)) (eN 11 c m)) (fun r10 m11 => some (r10 - (m11.1 61 4), m11)) = some (vL kk i v x - v, evN (11 :: lL kk) c m) := by
    rw [hk3, f, zb2_s, hv]
    rfl
  refine e.trans ?_
  rcases hp with rfl | rfl | rfl | rfl
  · exact g
  · exact g
  · exact g
  · exact g
theorem N_s1 {n kk d c : Nat} {i v x : Int32} {m : zv_M} (hk : kk < 7) (hd : d < 28) (hc : c < 16) (h : TN c i (Int32.ofNat kk) v m) : gR (n + 4) (Int32.ofNat 1) 1 x (Int32.ofNat d) m = some ((vL kk i v x - v) ^^^ 6, evN (20 :: 11 :: lL kk) c m) := by
  have e := run_ok2 (n := n + 3) (a := 1) (p := 1) (x := x) (by decide) (by decide) (show d < 40 by omega) (show c < 20 by omega) h
  have f := N_s11 (n := n) (p := 0) (d := d + 1) (x := x) (Or.inl rfl) hk (by omega) (show c + 1 < 17 by omega) (TN_e (b := 20) h)
  refine e.trans ?_
  show zb2 (gR (n + 3) (Int32.ofNat 0) 1 x (Int32.ofNat (d + 1)) (eN 20 c m)) (fun r14 m15 => some (r14 ^^^ 6, m15)) = _
  rw [f]
  rfl
theorem N_sees {n kk d c : Nat} {i v x : Int32} {m : zv_M} (hk : kk < 7) (hd : d < 27) (hc : c < 14) (h : TN c i (Int32.ofNat kk) v m) : gR (n + 5) (Int32.ofNat kk) 1 x (Int32.ofNat d) m = some (vS kk i v x, evN (lS kk) c m) := by
  have e := run_ok2 (n := n + 4) (a := 1) (x := x) hk (by decide) (show d < 40 by omega) (show c < 20 by omega) h
  rcases k7 hk with rfl | rfl | rfl | rfl | rfl | rfl | rfl
  · exact N_s11 (n := n + 2) (Or.inl rfl) hk (by omega) (by omega) h
  · exact N_s1 (n := n + 1) hk (by omega) (by omega) h
  · exact N_s11 (n := n + 2) (Or.inr (Or.inl rfl)) hk (by omega) (by omega) h
  · exact N_s11 (n := n + 2) (Or.inr (Or.inr (Or.inl rfl))) hk (by omega) (by omega) h
  · refine e.trans ?_
    have f := N_s1 (n := n) (d := d + 1) (x := x + 1) hk (by omega) (show c + 1 < 16 by omega) (TN_e (b := 51) h)
    show zb2 (gR (n + 4) (Int32.ofNat 1) 1 (x + 1) (Int32.ofNat (d + 1)) (eN 51 c m)) (fun r24 m25 => some (r24, m25)) = _
    rw [f]
    rfl
  · exact N_s11 (n := n + 2) (Or.inr (Or.inr (Or.inr rfl))) hk (by omega) (by omega) h
  · refine e.trans ?_
    have f := N_s11 (n := n + 1) (p := 3) (d := d + 1) (x := x) (Or.inr (Or.inr (Or.inl rfl))) hk (by omega) (show c + 1 < 17 by omega) (TN_e (b := 70) h)
    have t := TN_v (11 :: lL 6) (TN_e (b := 70) h)
    have f2 := N_l0 (n := n + 3) (p := 3) (d := d + 1) (x := 2) (Or.inr (Or.inr rfl)) (by omega) (show c + 1 + (11 :: lL 6).length < 20 by show c + 1 + 3 < 20; omega) t
    show zb2 (gR (n + 4) (Int32.ofNat 3) 1 x (Int32.ofNat (d + 1)) (eN 70 c m)) (fun r28 m29 => zb2 (gR (n + 4) (Int32.ofNat 3) 0 2 (Int32.ofNat (d + 1)) m29) (fun r30 m31 => some (r28 + r30, m31))) = _
    rw [f, zb2_s, f2]
    rfl
theorem N_t12 {n p kk d c : Nat} {i v x : Int32} {m : zv_M} (hp : p = 0 ∨ p = 1 ∨ p = 2 ∨ p = 4) (hk : kk < 7) (hd : d < 26) (hc : c < 13) (h : TN c i (Int32.ofNat kk) v m) : gR (n + 6) (Int32.ofNat p) 2 x (Int32.ofNat d) m = some (vS kk i v x * 2, evN (12 :: lS kk) c m) := by
  have e := run_ok2 (n := n + 5) (a := 2) (x := x) (show p < 7 by omega) (by decide) (show d < 40 by omega) (show c < 20 by omega) h
  have f := N_sees (n := n) (d := d + 1) (x := x) hk (by omega) (show c + 1 < 14 by omega) (TN_e (b := 12) h)
  have hk3 : (eN 12 c m).1 61 3 = Int32.ofNat kk := h.2.2.2.1
  have g : zb2 (gR (n + 5) ((eN 12 c m).1 61 3) 1 x (Int32.ofNat (d + 1)) (eN 12 c m)) (fun r12 m13 => some (r12 * 2, m13)) = some (vS kk i v x * 2, evN (12 :: lS kk) c m) := by
    rw [hk3, f, zb2_s]
    rfl
  refine e.trans ?_
  rcases hp with rfl | rfl | rfl | rfl
  · exact g
  · exact g
  · exact g
  · exact g
theorem N_tells {n kk d c : Nat} {i v x : Int32} {m : zv_M} (hk : kk < 7) (hd : d < 25) (hc : c < 5) (h : TN c i (Int32.ofNat kk) v m) : gR (n + 7) (Int32.ofNat kk) 2 x (Int32.ofNat d) m = some (vT kk i v x, evN (lT kk) c m) := by
  have e := run_ok2 (n := n + 6) (a := 2) (x := x) hk (by decide) (show d < 40 by omega) (show c < 20 by omega) h
  have k40 : kk = 3 ∨ kk = 6 → zb2 (gR (n + 6) (Int32.ofNat 0) 2 x (Int32.ofNat (d + 1)) (eN 40 c m)) (fun r18 m19 => zb2 (gR (n + 6) (m19.1 61 3) 1 1 (Int32.ofNat (d + 1)) m19) (fun r20 m21 => some (r18 + r20, m21))) = some (vS kk i v x * 2 + vS kk i v 1, evN (40 :: (12 :: lS kk ++ lS kk)) c m) := fun hkk => by
    have f := N_t12 (n := n) (p := 0) (d := d + 1) (x := x) (Or.inl rfl) hk (by omega) (show c + 1 < 13 by omega) (TN_e (b := 40) h)
    have t := TN_v (12 :: lS kk) (TN_e (b := 40) h)
    have hl := (lL_len kk hk).2.1
    have f2 := N_sees (n := n + 1) (d := d + 1) (x := 1) hk (by omega) (show c + 1 + (12 :: lS kk).length < 14 by rw [List.length_cons]; omega) t
    have hk3 : (evN (12 :: lS kk) (c + 1) (eN 40 c m)).1 61 3 = Int32.ofNat kk := t.2.2.2.1
    rw [f, zb2_s, hk3, f2, zb2_s]
    show _ = some (vS kk i v x * 2 + vS kk i v 1, evN (12 :: lS kk ++ lS kk) (c + 1) (eN 40 c m))
    rw [evN_app]
  rcases k7 hk with rfl | rfl | rfl | rfl | rfl | rfl | rfl
  · exact N_t12 (n := n + 1) (Or.inl rfl) hk (by omega) (by omega) h
  · exact N_t12 (n := n + 1) (Or.inr (Or.inl rfl)) hk (by omega) (by omega) h
  · exact N_t12 (n := n + 1) (Or.inr (Or.inr (Or.inl rfl))) hk (by omega) (by omega) h
  · exact e.trans (k40 (Or.inl rfl))
  · exact N_t12 (n := n + 1) (Or.inr (Or.inr (Or.inr rfl))) hk (by omega) (by omega) h
  · refine e.trans ?_
    have f := N_t12 (n := n) (p := 2) (d := d + 1) (x := x - i) (Or.inr (Or.inr (Or.inl rfl))) hk (by omega) (show c + 1 < 13 by omega) (TN_e (b := 60) h)
    have hi : (eN 60 c m).1 61 2 = i := h.2.2.1
    show zb2 (gR (n + 6) (Int32.ofNat 2) 2 (x - (eN 60 c m).1 61 2) (Int32.ofNat (d + 1)) (eN 60 c m)) (fun r26 m27 => some (r26, m27)) = _
    rw [hi, f]
    rfl
  · exact e.trans (k40 (Or.inr rfl))
