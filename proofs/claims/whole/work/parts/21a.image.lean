/-! The image: piles and arrays copied. -/
def pB (m : zv_M) (o a : Nat) (g : Nat → Int32) (n : Nat) : zv_M := wI (vF m a g n) o 1 (Int32.ofNat n)
theorem pB_s (m : zv_M) {o a : Nat} (g : Nat → Int32) (n : Nat) (h : ¬ a = o) : wI (wI (pB m o a g n) a n (g n)) o 1 (Int32.ofNat (n + 1)) = pB m o a g (n + 1) := by
  unfold pB
  rw [← vF_s]
  unfold wI
  congr 1
  funext o' k'
  show (if o' = o ∧ k' = 1 then Int32.ofNat (n + 1) else if o' = a ∧ k' = n then g n else if o' = o ∧ k' = 1 then Int32.ofNat n else (vF m a g n).1 o' k') = if o' = o ∧ k' = 1 then Int32.ofNat (n + 1) else if o' = a ∧ k' = n then g n else (vF m a g n).1 o' k'
  by_cases q : o' = o ∧ k' = 1
  · rw [if_pos q, if_pos q]
  · rw [if_neg q, if_neg q, if_neg q]
theorem pi_bec {o p a pa cap n : Nat} {m : zv_M} (h1 : zrf o 0 = a) (h2 : zln a = cap) (h3 : zrf p 0 = pa) (h4 : zln pa = cap) (d1 : ¬ a = o) (d2 : ¬ pa = a) (d3 : ¬ p = o) (d4 : ¬ pa = o) (d5 : ¬ a = p) (d6 : ¬ pa = p) (hn : m.1 p 1 = Int32.ofNat n) (hc : n ≤ cap) (hcap : cap < 1000) : fPi_becomes o p m = some (pB m o a (m.1 pa) n) := by
  have c : ∀ i, (pB m o a (m.1 pa) i).1 p 1 = Int32.ofNat n := fun i => by
    rw [pB, wI_o _ _ (by omega), vF_o _ _ (by omega), hn]
  have c2 : ∀ i k, (pB m o a (m.1 pa) i).1 pa k = m.1 pa k := fun i k => by
    rw [pB, wI_o _ _ (by omega), vF_o _ _ (by omega)]
  have e := wn_eq (fPi_becomes_l7 o p) (fun i => (Int32.ofNat i, pB m o a (m.1 pa) i)) n (pB m o a (m.1 pa) n) (by omega) (fun i hi => by
    show fPi_becomes_l7 _ _ (_, _) = _
    rw [fPi_becomes_l7, c, if_pos ((i_lt (by omega) (by omega)).mpr hi), pi_get (m := pB m o a (m.1 pa) i) (o := p) (a := pa) (cap := cap) (n := n) ⟨h3, h4, d6, c i, hc, by omega⟩ (by omega), if_pos hi, zb1_s, c2, pi_add (m := pB m o a (m.1 pa) i) (o := o) (a := a) (cap := cap) (n := i) ⟨h1, h2, d1, wI_e _ _ _ _, by omega, by omega⟩ (by omega), zb1_s, inc, pB_s _ _ _ d1]) (by
    show fPi_becomes_l7 _ _ (_, _) = _
    rw [fPi_becomes_l7, c, if_neg (fun q => by have := (i_lt (by omega) (by omega)).mp q; omega)])
  have e0 : pB m o a (m.1 pa) 0 = wI m o 1 0 := by
    rw [pB, vF_0]
    rfl
  rw [e0] at e
  rw [fPi_becomes]
  exact congrArg (fun z => zb1 z (fun r => some r)) e
theorem man_any {p a i : Nat} (m : zv_M) (h1 : zrf p 3 = a) (h2 : zln a = 25) (hi : i < 25) : fSt_manOn p (Int32.ofNat i) m = some (m.1 a i) := by
  rw [fSt_manOn, if_neg (i_lt0 (by omega)), h1, h2, if_pos ((i_lt (by omega) (by decide)).mpr hi), zI_n (by omega) hi, zg_t, i_tn (by omega)]
theorem vF2_s (m : zv_M) {a b : Nat} (g h : Nat → Int32) (n : Nat) (d : ¬ a = b) : wI (wI (vF (vF m a g n) b h n) a n (g n)) b n (h n) = vF (vF m a g (n + 1)) b h (n + 1) := by
  rw [← vF_s, ← vF_s]
  congr 1
  unfold wI vF
  congr 1
  funext o' k'
  show (if o' = a ∧ k' = n then g n else if o' = b ∧ k' < n then h k' else if o' = a ∧ k' < n then g k' else m.1 o' k') = if o' = b ∧ k' < n then h k' else if o' = a ∧ k' = n then g n else if o' = a ∧ k' < n then g k' else m.1 o' k'
  by_cases q : o' = b ∧ k' < n
  · rw [if_pos q, if_pos q, if_neg (by omega)]
  · rw [if_neg q, if_neg q]

def kA1 (m : zv_M) (n n5 n6 n7 n8 : Nat) : zv_M := pB m 18 19 (m.1 3) n
def kA2 (m : zv_M) (n n5 n6 n7 n8 : Nat) : zv_M := pB (kA1 m n n5 n6 n7 n8) 20 21 (m.1 5) n
def kA3 (m : zv_M) (n n5 n6 n7 n8 : Nat) : zv_M := pB (kA2 m n n5 n6 n7 n8) 22 23 (m.1 7) n
def kA4 (m : zv_M) (n n5 n6 n7 n8 : Nat) : zv_M := vF (kA3 m n n5 n6 n7 n8) 24 (m.1 8) 25
def kA5 (m : zv_M) (n n5 n6 n7 n8 : Nat) : zv_M := pB (kA4 m n n5 n6 n7 n8) 25 26 (m.1 10) n5
def kA6 (m : zv_M) (n n5 n6 n7 n8 : Nat) : zv_M := pB (kA5 m n n5 n6 n7 n8) 27 28 (m.1 12) n6
def kA7 (m : zv_M) (n n5 n6 n7 n8 : Nat) : zv_M := pB (kA6 m n n5 n6 n7 n8) 29 30 (m.1 14) n7
def kA8 (m : zv_M) (n n5 n6 n7 n8 : Nat) : zv_M := pB (kA7 m n n5 n6 n7 n8) 31 32 (m.1 16) n8
def kA9 (m : zv_M) (n n5 n6 n7 n8 : Nat) : zv_M := wI (kA8 m n n5 n6 n7 n8) 17 8 (m.1 1 8)
theorem kA_ok {m : zv_M} {n n5 n6 n7 n8 : Nat} (h1 : m.1 2 1 = Int32.ofNat n) (h2 : m.1 4 1 = Int32.ofNat n) (h3 : m.1 6 1 = Int32.ofNat n) (hn : n ≤ 6) (h5 : m.1 9 1 = Int32.ofNat n5) (hn5 : n5 ≤ 5) (h6 : m.1 11 1 = Int32.ofNat n6) (hn6 : n6 ≤ 8) (h7 : m.1 13 1 = Int32.ofNat n7) (hn7 : n7 ≤ 8) (h8 : m.1 15 1 = Int32.ofNat n8) (hn8 : n8 ≤ 12) : fSt_becomes 17 1 m = some (kA9 m n n5 n6 n7 n8) := by
  have e1 : fPi_becomes 18 2 m = some (kA1 m n n5 n6 n7 n8) := pi_bec (a := 19) (pa := 3) (cap := 6) (m := m) rfl rfl rfl rfl (by decide) (by decide) (by decide) (by decide) (by decide) (by decide) h1 hn (by decide)
  have e2 : fPi_becomes 20 4 (kA1 m n n5 n6 n7 n8) = some (kA2 m n n5 n6 n7 n8) := pi_bec (a := 21) (pa := 5) (cap := 6) (m := (kA1 m n n5 n6 n7 n8)) rfl rfl rfl rfl (by decide) (by decide) (by decide) (by decide) (by decide) (by decide) h2 hn (by decide)
  have e3 : fPi_becomes 22 6 (kA2 m n n5 n6 n7 n8) = some (kA3 m n n5 n6 n7 n8) := pi_bec (a := 23) (pa := 7) (cap := 6) (m := (kA2 m n n5 n6 n7 n8)) rfl rfl rfl rfl (by decide) (by decide) (by decide) (by decide) (by decide) (by decide) h3 hn (by decide)
  have e4 : whileN zFU (fSt_becomes_l35 17 1) (0, (kA3 m n n5 n6 n7 n8)) = some (kA4 m n n5 n6 n7 n8) := by
    have e := wn_eq (fSt_becomes_l35 17 1) (fun i => (Int32.ofNat i, vF (kA3 m n n5 n6 n7 n8) 24 (m.1 8) i)) 25 (kA4 m n n5 n6 n7 n8) (by decide) (fun i hi => by
      show fSt_becomes_l35 _ _ (_, _) = _
      rw [fSt_becomes_l35, show zrf 17 3 = 24 from rfl, show zln 24 = 25 from rfl, if_pos ((i_lt (by omega) (by decide)).mpr hi), man_any (a := 8) _ rfl rfl hi, zb1_s, zI_n (by omega) hi, zg_t, i_tn (by omega), inc, show (vF (kA3 m n n5 n6 n7 n8) 24 (m.1 8) i).1 8 i = m.1 8 i from rfl, vF_s (g := m.1 8)]) (by
      show fSt_becomes_l35 _ _ (_, _) = _
      rw [fSt_becomes_l35, if_neg (by decide)]
      rfl)
    rw [vF_0] at e
    exact e
  have e5 : fPi_becomes 25 9 (kA4 m n n5 n6 n7 n8) = some (kA5 m n n5 n6 n7 n8) := pi_bec (a := 26) (pa := 10) (cap := 5) (m := (kA4 m n n5 n6 n7 n8)) rfl rfl rfl rfl (by decide) (by decide) (by decide) (by decide) (by decide) (by decide) h5 hn5 (by decide)
  have e6 : fPi_becomes 27 11 (kA5 m n n5 n6 n7 n8) = some (kA6 m n n5 n6 n7 n8) := pi_bec (a := 28) (pa := 12) (cap := 8) (m := (kA5 m n n5 n6 n7 n8)) rfl rfl rfl rfl (by decide) (by decide) (by decide) (by decide) (by decide) (by decide) h6 hn6 (by decide)
  have e7 : fPi_becomes 29 13 (kA6 m n n5 n6 n7 n8) = some (kA7 m n n5 n6 n7 n8) := pi_bec (a := 30) (pa := 14) (cap := 8) (m := (kA6 m n n5 n6 n7 n8)) rfl rfl rfl rfl (by decide) (by decide) (by decide) (by decide) (by decide) (by decide) h7 hn7 (by decide)
  have e8 : fPi_becomes 31 15 (kA7 m n n5 n6 n7 n8) = some (kA8 m n n5 n6 n7 n8) := pi_bec (a := 32) (pa := 16) (cap := 12) (m := (kA7 m n n5 n6 n7 n8)) rfl rfl rfl rfl (by decide) (by decide) (by decide) (by decide) (by decide) (by decide) h8 hn8 (by decide)
  rw [fSt_becomes]
  show zb1 (fPi_becomes 18 2 m) (fun m1 => zb1 (fPi_becomes 20 4 m1) (fun m2 => zb1 (fPi_becomes 22 6 m2) (fun m3 => zb1 (whileN zFU (fSt_becomes_l35 17 1) (0, m3)) (fun m7 => zb1 (fPi_becomes 25 9 m7) (fun m8 => zb1 (fPi_becomes 27 11 m8) (fun m9 => zb1 (fPi_becomes 29 13 m9) (fun m10 => zb1 (fPi_becomes 31 15 m10) (fun m11 => some (wI m11 17 8 (m11.1 1 8)))))))))) = _
  rw [e1, zb1_s, e2, zb1_s, e3, zb1_s, e4, zb1_s, e5, zb1_s, e6, zb1_s, e7, zb1_s, e8, zb1_s]
  rfl
def kB1 (m : zv_M) (n n5 n6 n7 n8 : Nat) : zv_M := pB m 2 3 (m.1 19) n
def kB2 (m : zv_M) (n n5 n6 n7 n8 : Nat) : zv_M := pB (kB1 m n n5 n6 n7 n8) 4 5 (m.1 21) n
def kB3 (m : zv_M) (n n5 n6 n7 n8 : Nat) : zv_M := pB (kB2 m n n5 n6 n7 n8) 6 7 (m.1 23) n
def kB4 (m : zv_M) (n n5 n6 n7 n8 : Nat) : zv_M := vF (kB3 m n n5 n6 n7 n8) 8 (m.1 24) 25
def kB5 (m : zv_M) (n n5 n6 n7 n8 : Nat) : zv_M := pB (kB4 m n n5 n6 n7 n8) 9 10 (m.1 26) n5
def kB6 (m : zv_M) (n n5 n6 n7 n8 : Nat) : zv_M := pB (kB5 m n n5 n6 n7 n8) 11 12 (m.1 28) n6
def kB7 (m : zv_M) (n n5 n6 n7 n8 : Nat) : zv_M := pB (kB6 m n n5 n6 n7 n8) 13 14 (m.1 30) n7
def kB8 (m : zv_M) (n n5 n6 n7 n8 : Nat) : zv_M := pB (kB7 m n n5 n6 n7 n8) 15 16 (m.1 32) n8
def kB9 (m : zv_M) (n n5 n6 n7 n8 : Nat) : zv_M := wI (kB8 m n n5 n6 n7 n8) 1 8 (m.1 17 8)
theorem kB_ok {m : zv_M} {n n5 n6 n7 n8 : Nat} (h1 : m.1 18 1 = Int32.ofNat n) (h2 : m.1 20 1 = Int32.ofNat n) (h3 : m.1 22 1 = Int32.ofNat n) (hn : n ≤ 6) (h5 : m.1 25 1 = Int32.ofNat n5) (hn5 : n5 ≤ 5) (h6 : m.1 27 1 = Int32.ofNat n6) (hn6 : n6 ≤ 8) (h7 : m.1 29 1 = Int32.ofNat n7) (hn7 : n7 ≤ 8) (h8 : m.1 31 1 = Int32.ofNat n8) (hn8 : n8 ≤ 12) : fSt_becomes 1 17 m = some (kB9 m n n5 n6 n7 n8) := by
  have e1 : fPi_becomes 2 18 m = some (kB1 m n n5 n6 n7 n8) := pi_bec (a := 3) (pa := 19) (cap := 6) (m := m) rfl rfl rfl rfl (by decide) (by decide) (by decide) (by decide) (by decide) (by decide) h1 hn (by decide)
  have e2 : fPi_becomes 4 20 (kB1 m n n5 n6 n7 n8) = some (kB2 m n n5 n6 n7 n8) := pi_bec (a := 5) (pa := 21) (cap := 6) (m := (kB1 m n n5 n6 n7 n8)) rfl rfl rfl rfl (by decide) (by decide) (by decide) (by decide) (by decide) (by decide) h2 hn (by decide)
  have e3 : fPi_becomes 6 22 (kB2 m n n5 n6 n7 n8) = some (kB3 m n n5 n6 n7 n8) := pi_bec (a := 7) (pa := 23) (cap := 6) (m := (kB2 m n n5 n6 n7 n8)) rfl rfl rfl rfl (by decide) (by decide) (by decide) (by decide) (by decide) (by decide) h3 hn (by decide)
  have e4 : whileN zFU (fSt_becomes_l35 1 17) (0, (kB3 m n n5 n6 n7 n8)) = some (kB4 m n n5 n6 n7 n8) := by
    have e := wn_eq (fSt_becomes_l35 1 17) (fun i => (Int32.ofNat i, vF (kB3 m n n5 n6 n7 n8) 8 (m.1 24) i)) 25 (kB4 m n n5 n6 n7 n8) (by decide) (fun i hi => by
      show fSt_becomes_l35 _ _ (_, _) = _
      rw [fSt_becomes_l35, show zrf 1 3 = 8 from rfl, show zln 8 = 25 from rfl, if_pos ((i_lt (by omega) (by decide)).mpr hi), man_any (a := 24) _ rfl rfl hi, zb1_s, zI_n (by omega) hi, zg_t, i_tn (by omega), inc, show (vF (kB3 m n n5 n6 n7 n8) 8 (m.1 24) i).1 24 i = m.1 24 i from rfl, vF_s (g := m.1 24)]) (by
      show fSt_becomes_l35 _ _ (_, _) = _
      rw [fSt_becomes_l35, if_neg (by decide)]
      rfl)
    rw [vF_0] at e
    exact e
  have e5 : fPi_becomes 9 25 (kB4 m n n5 n6 n7 n8) = some (kB5 m n n5 n6 n7 n8) := pi_bec (a := 10) (pa := 26) (cap := 5) (m := (kB4 m n n5 n6 n7 n8)) rfl rfl rfl rfl (by decide) (by decide) (by decide) (by decide) (by decide) (by decide) h5 hn5 (by decide)
  have e6 : fPi_becomes 11 27 (kB5 m n n5 n6 n7 n8) = some (kB6 m n n5 n6 n7 n8) := pi_bec (a := 12) (pa := 28) (cap := 8) (m := (kB5 m n n5 n6 n7 n8)) rfl rfl rfl rfl (by decide) (by decide) (by decide) (by decide) (by decide) (by decide) h6 hn6 (by decide)
  have e7 : fPi_becomes 13 29 (kB6 m n n5 n6 n7 n8) = some (kB7 m n n5 n6 n7 n8) := pi_bec (a := 14) (pa := 30) (cap := 8) (m := (kB6 m n n5 n6 n7 n8)) rfl rfl rfl rfl (by decide) (by decide) (by decide) (by decide) (by decide) (by decide) h7 hn7 (by decide)
  have e8 : fPi_becomes 15 31 (kB7 m n n5 n6 n7 n8) = some (kB8 m n n5 n6 n7 n8) := pi_bec (a := 16) (pa := 32) (cap := 12) (m := (kB7 m n n5 n6 n7 n8)) rfl rfl rfl rfl (by decide) (by decide) (by decide) (by decide) (by decide) (by decide) h8 hn8 (by decide)
  rw [fSt_becomes]
  show zb1 (fPi_becomes 2 18 m) (fun m1 => zb1 (fPi_becomes 4 20 m1) (fun m2 => zb1 (fPi_becomes 6 22 m2) (fun m3 => zb1 (whileN zFU (fSt_becomes_l35 1 17) (0, m3)) (fun m7 => zb1 (fPi_becomes 9 25 m7) (fun m8 => zb1 (fPi_becomes 11 27 m8) (fun m9 => zb1 (fPi_becomes 13 29 m9) (fun m10 => zb1 (fPi_becomes 15 31 m10) (fun m11 => some (wI m11 1 8 (m11.1 17 8)))))))))) = _
  rw [e1, zb1_s, e2, zb1_s, e3, zb1_s, e4, zb1_s, e5, zb1_s, e6, zb1_s, e7, zb1_s, e8, zb1_s]
  rfl
def kC0 (m : zv_M) : zv_M := wI (wI (wI (wI (wI (wI m 68 52 1) 68 53 (m.1 68 10)) 68 54 (m.1 68 0)) 68 55 (m.1 68 42)) 68 56 (m.1 68 47)) 68 57 (m.1 68 50)
def kC1 (m : zv_M) : zv_M := vF (vF (kC0 m) 102 (m.1 69) 6) 103 (m.1 70) 6
def kC2 (m : zv_M) : zv_M := vF (kC1 m) 104 (m.1 71) 48
def kC3 (m : zv_M) : zv_M := vF (kC2 m) 105 (m.1 72) 25
def kC4 (m : zv_M) : zv_M := vF (kC3 m) 106 (m.1 95) 5
def kC5 (m : zv_M) : zv_M := vF (vF (kC4 m) 107 (m.1 99) 8) 108 (m.1 100) 8
def kC6 (m : zv_M) : zv_M := vF (kC5 m) 109 (m.1 101) 12
theorem kC1_ok (m : zv_M) : whileN zFU fM_image_l47 (0, (kC0 m)) = some (kC1 m) := by
  have e := wn_eq fM_image_l47 (fun i => (Int32.ofNat i, vF (vF (kC0 m) 102 (m.1 69) i) 103 (m.1 70) i)) 6 (kC1 m) (by decide) (fun i hi => by
    have z : zI (Int32.ofNat i) 6 = true := zI_n (by omega) hi
    show fM_image_l47 (_, _) = _
    rw [fM_image_l47, if_pos (show Int32.ofNat i < 6 from (i_lt (b := 6) (by omega) (by decide)).mpr hi), z, zg_t, zg_t, zg_t, zg_t, i_tn (by omega), inc, show (vF (vF (kC0 m) 102 (m.1 69) i) 103 (m.1 70) i).1 69 i = (m.1 69) i from rfl, show (wI (vF (vF (kC0 m) 102 (m.1 69) i) 103 (m.1 70) i) 102 i ((m.1 69) i)).1 70 i = (m.1 70) i from rfl, vF2_s (g := m.1 69) (h := m.1 70) (d := by decide)]) (by
    show fM_image_l47 (_, _) = _
    rw [fM_image_l47, if_neg (by decide)]
    rfl)
  rw [vF_0, vF_0] at e
  exact e
theorem kC2_ok (m : zv_M) : whileN zFU fM_image_l85 (0, (kC1 m)) = some (kC2 m) := by
  have e := wn_eq fM_image_l85 (fun i => (Int32.ofNat i, vF (kC1 m) 104 (m.1 71) i)) 48 (kC2 m) (by decide) (fun i hi => by
    have z : zI (Int32.ofNat i) 48 = true := zI_n (by omega) hi
    show fM_image_l85 (_, _) = _
    rw [fM_image_l85, if_pos (show Int32.ofNat i < 48 from (i_lt (b := 48) (by omega) (by decide)).mpr hi), z, zg_t, zg_t, i_tn (by omega), inc, show (vF (kC1 m) 104 (m.1 71) i).1 71 i = (m.1 71) i from rfl, vF_s (g := m.1 71)]) (by
    show fM_image_l85 (_, _) = _
    rw [fM_image_l85, if_neg (by decide)]
    rfl)
  rw [vF_0] at e
  exact e
theorem kC3_ok (m : zv_M) : whileN zFU fM_image_l111 (0, (kC2 m)) = some (kC3 m) := by
  have e := wn_eq fM_image_l111 (fun i => (Int32.ofNat i, vF (kC2 m) 105 (m.1 72) i)) 25 (kC3 m) (by decide) (fun i hi => by
    have z : zI (Int32.ofNat i) 25 = true := zI_n (by omega) hi
    show fM_image_l111 (_, _) = _
    rw [fM_image_l111, if_pos (show Int32.ofNat i < 25 from (i_lt (b := 25) (by omega) (by decide)).mpr hi), z, zg_t, zg_t, i_tn (by omega), inc, show (vF (kC2 m) 105 (m.1 72) i).1 72 i = (m.1 72) i from rfl, vF_s (g := m.1 72)]) (by
    show fM_image_l111 (_, _) = _
    rw [fM_image_l111, if_neg (by decide)]
    rfl)
  rw [vF_0] at e
  exact e
theorem kC4_ok (m : zv_M) : whileN zFU fM_image_l137 (0, (kC3 m)) = some (kC4 m) := by
  have e := wn_eq fM_image_l137 (fun i => (Int32.ofNat i, vF (kC3 m) 106 (m.1 95) i)) 5 (kC4 m) (by decide) (fun i hi => by
    have z : zI (Int32.ofNat i) 5 = true := zI_n (by omega) hi
    show fM_image_l137 (_, _) = _
    rw [fM_image_l137, if_pos (show Int32.ofNat i < 5 from (i_lt (b := 5) (by omega) (by decide)).mpr hi), z, zg_t, zg_t, i_tn (by omega), inc, show (vF (kC3 m) 106 (m.1 95) i).1 95 i = (m.1 95) i from rfl, vF_s (g := m.1 95)]) (by
    show fM_image_l137 (_, _) = _
    rw [fM_image_l137, if_neg (by decide)]
    rfl)
  rw [vF_0] at e
  exact e
theorem kC5_ok (m : zv_M) : whileN zFU fM_image_l162 (0, (kC4 m)) = some (kC5 m) := by
  have e := wn_eq fM_image_l162 (fun i => (Int32.ofNat i, vF (vF (kC4 m) 107 (m.1 99) i) 108 (m.1 100) i)) 8 (kC5 m) (by decide) (fun i hi => by
    have z : zI (Int32.ofNat i) 8 = true := zI_n (by omega) hi
    show fM_image_l162 (_, _) = _
    rw [fM_image_l162, if_pos (show Int32.ofNat i < 8 from (i_lt (b := 8) (by omega) (by decide)).mpr hi), z, zg_t, zg_t, zg_t, zg_t, i_tn (by omega), inc, show (vF (vF (kC4 m) 107 (m.1 99) i) 108 (m.1 100) i).1 99 i = (m.1 99) i from rfl, show (wI (vF (vF (kC4 m) 107 (m.1 99) i) 108 (m.1 100) i) 107 i ((m.1 99) i)).1 100 i = (m.1 100) i from rfl, vF2_s (g := m.1 99) (h := m.1 100) (d := by decide)]) (by
    show fM_image_l162 (_, _) = _
    rw [fM_image_l162, if_neg (by decide)]
    rfl)
  rw [vF_0, vF_0] at e
  exact e
theorem kC6_ok (m : zv_M) : whileN zFU fM_image_l200 (0, (kC5 m)) = some ((kC6 m).1 68 0, kC6 m) := by
  have e := wn_eq fM_image_l200 (fun i => (Int32.ofNat i, vF (kC5 m) 109 (m.1 101) i)) 12 ((kC6 m).1 68 0, kC6 m) (by decide) (fun i hi => by
    have z : zI (Int32.ofNat i) 12 = true := zI_n (by omega) hi
    show fM_image_l200 (_, _) = _
    rw [fM_image_l200, if_pos (show Int32.ofNat i < 12 from (i_lt (b := 12) (by omega) (by decide)).mpr hi), z, zg_t, zg_t, i_tn (by omega), inc, show (vF (kC5 m) 109 (m.1 101) i).1 101 i = (m.1 101) i from rfl, vF_s (g := m.1 101)]) (by
    show fM_image_l200 (_, _) = _
    rw [fM_image_l200, if_neg (by decide)]
    rfl)
  rw [vF_0] at e
  exact e
theorem kC_ok (m : zv_M) : fM_image m = some ((kC6 m).1 68 0, kC6 m) := by
  rw [fM_image]
  show zb1 (whileN zFU fM_image_l47 (0, kC0 m)) _ = _
  rw [kC1_ok, zb1_s, kC2_ok, zb1_s, kC3_ok, zb1_s, kC4_ok, zb1_s, kC5_ok, zb1_s, kC6_ok, zb1_s]
def kD0 (m : zv_M) : zv_M := wI (wI (wI (wI (wI (m) 68 10 (m.1 68 53)) 68 0 (m.1 68 54)) 68 42 (m.1 68 55)) 68 47 (m.1 68 56)) 68 50 (m.1 68 57)
def kD1 (m : zv_M) : zv_M := vF (vF (kD0 m) 69 (m.1 102) 6) 70 (m.1 103) 6
def kD2 (m : zv_M) : zv_M := vF (kD1 m) 71 (m.1 104) 48
def kD3 (m : zv_M) : zv_M := vF (kD2 m) 72 (m.1 105) 25
def kD4 (m : zv_M) : zv_M := vF (kD3 m) 95 (m.1 106) 5
def kD5 (m : zv_M) : zv_M := vF (vF (kD4 m) 99 (m.1 107) 8) 100 (m.1 108) 8
def kD6 (m : zv_M) : zv_M := vF (kD5 m) 101 (m.1 109) 12
theorem kD1_ok (m : zv_M) : whileN zFU fM_undo_l52 (0, (kD0 m)) = some (kD1 m) := by
  have e := wn_eq fM_undo_l52 (fun i => (Int32.ofNat i, vF (vF (kD0 m) 69 (m.1 102) i) 70 (m.1 103) i)) 6 (kD1 m) (by decide) (fun i hi => by
    have z : zI (Int32.ofNat i) 6 = true := zI_n (by omega) hi
    show fM_undo_l52 (_, _) = _
    rw [fM_undo_l52, if_pos (show Int32.ofNat i < 6 from (i_lt (b := 6) (by omega) (by decide)).mpr hi), z, zg_t, zg_t, zg_t, zg_t, i_tn (by omega), inc, show (vF (vF (kD0 m) 69 (m.1 102) i) 70 (m.1 103) i).1 102 i = (m.1 102) i from rfl, show (wI (vF (vF (kD0 m) 69 (m.1 102) i) 70 (m.1 103) i) 69 i ((m.1 102) i)).1 103 i = (m.1 103) i from rfl, vF2_s (g := m.1 102) (h := m.1 103) (d := by decide)]) (by
    show fM_undo_l52 (_, _) = _
    rw [fM_undo_l52, if_neg (by decide)]
    rfl)
  rw [vF_0, vF_0] at e
  exact e
theorem kD2_ok (m : zv_M) : whileN zFU fM_undo_l90 (0, (kD1 m)) = some (kD2 m) := by
  have e := wn_eq fM_undo_l90 (fun i => (Int32.ofNat i, vF (kD1 m) 71 (m.1 104) i)) 48 (kD2 m) (by decide) (fun i hi => by
    have z : zI (Int32.ofNat i) 48 = true := zI_n (by omega) hi
    show fM_undo_l90 (_, _) = _
    rw [fM_undo_l90, if_pos (show Int32.ofNat i < 48 from (i_lt (b := 48) (by omega) (by decide)).mpr hi), z, zg_t, zg_t, i_tn (by omega), inc, show (vF (kD1 m) 71 (m.1 104) i).1 104 i = (m.1 104) i from rfl, vF_s (g := m.1 104)]) (by
    show fM_undo_l90 (_, _) = _
    rw [fM_undo_l90, if_neg (by decide)]
    rfl)
  rw [vF_0] at e
  exact e
theorem kD3_ok (m : zv_M) : whileN zFU fM_undo_l116 (0, (kD2 m)) = some (kD3 m) := by
  have e := wn_eq fM_undo_l116 (fun i => (Int32.ofNat i, vF (kD2 m) 72 (m.1 105) i)) 25 (kD3 m) (by decide) (fun i hi => by
    have z : zI (Int32.ofNat i) 25 = true := zI_n (by omega) hi
    show fM_undo_l116 (_, _) = _
    rw [fM_undo_l116, if_pos (show Int32.ofNat i < 25 from (i_lt (b := 25) (by omega) (by decide)).mpr hi), z, zg_t, zg_t, i_tn (by omega), inc, show (vF (kD2 m) 72 (m.1 105) i).1 105 i = (m.1 105) i from rfl, vF_s (g := m.1 105)]) (by
    show fM_undo_l116 (_, _) = _
    rw [fM_undo_l116, if_neg (by decide)]
    rfl)
  rw [vF_0] at e
  exact e
theorem kD4_ok (m : zv_M) : whileN zFU fM_undo_l142 (0, (kD3 m)) = some (kD4 m) := by
  have e := wn_eq fM_undo_l142 (fun i => (Int32.ofNat i, vF (kD3 m) 95 (m.1 106) i)) 5 (kD4 m) (by decide) (fun i hi => by
    have z : zI (Int32.ofNat i) 5 = true := zI_n (by omega) hi
    show fM_undo_l142 (_, _) = _
    rw [fM_undo_l142, if_pos (show Int32.ofNat i < 5 from (i_lt (b := 5) (by omega) (by decide)).mpr hi), z, zg_t, zg_t, i_tn (by omega), inc, show (vF (kD3 m) 95 (m.1 106) i).1 106 i = (m.1 106) i from rfl, vF_s (g := m.1 106)]) (by
    show fM_undo_l142 (_, _) = _
    rw [fM_undo_l142, if_neg (by decide)]
    rfl)
  rw [vF_0] at e
  exact e
theorem kD5_ok (m : zv_M) : whileN zFU fM_undo_l167 (0, (kD4 m)) = some (kD5 m) := by
  have e := wn_eq fM_undo_l167 (fun i => (Int32.ofNat i, vF (vF (kD4 m) 99 (m.1 107) i) 100 (m.1 108) i)) 8 (kD5 m) (by decide) (fun i hi => by
    have z : zI (Int32.ofNat i) 8 = true := zI_n (by omega) hi
    show fM_undo_l167 (_, _) = _
    rw [fM_undo_l167, if_pos (show Int32.ofNat i < 8 from (i_lt (b := 8) (by omega) (by decide)).mpr hi), z, zg_t, zg_t, zg_t, zg_t, i_tn (by omega), inc, show (vF (vF (kD4 m) 99 (m.1 107) i) 100 (m.1 108) i).1 107 i = (m.1 107) i from rfl, show (wI (vF (vF (kD4 m) 99 (m.1 107) i) 100 (m.1 108) i) 99 i ((m.1 107) i)).1 108 i = (m.1 108) i from rfl, vF2_s (g := m.1 107) (h := m.1 108) (d := by decide)]) (by
    show fM_undo_l167 (_, _) = _
    rw [fM_undo_l167, if_neg (by decide)]
    rfl)
  rw [vF_0, vF_0] at e
  exact e
theorem kD6_ok (m : zv_M) {r : zv_M} (hr : fM_layBoard (kD6 m) = some r) : whileN zFU fM_undo_l205 (0, (kD5 m)) = some (r.1 68 0, r) := by
  have e := wn_eq fM_undo_l205 (fun i => (Int32.ofNat i, vF (kD5 m) 101 (m.1 109) i)) 12 (r.1 68 0, r) (by decide) (fun i hi => by
    have z : zI (Int32.ofNat i) 12 = true := zI_n (by omega) hi
    show fM_undo_l205 (_, _) = _
    rw [fM_undo_l205, if_pos (show Int32.ofNat i < 12 from (i_lt (b := 12) (by omega) (by decide)).mpr hi), z, zg_t, zg_t, i_tn (by omega), inc, show (vF (kD5 m) 101 (m.1 109) i).1 109 i = (m.1 109) i from rfl, vF_s (g := m.1 109)]) (by
    show fM_undo_l205 (_, _) = _
    rw [fM_undo_l205, if_neg (by decide)]
    exact congrArg (fun z => zb1 z (fun m24 => some (Sum.inr (m24.1 68 0, m24)))) hr)
  rw [vF_0] at e
  exact e
theorem kD_ok (m : zv_M) (h : ¬ m.1 68 52 = 0) {r : zv_M} (hr : fM_layBoard (kD6 m) = some r) : fM_undo m = some (r.1 68 0, r) := by
  rw [fM_undo, if_neg h]
  show zb1 (whileN zFU fM_undo_l52 (0, kD0 m)) _ = _
  rw [kD1_ok, zb1_s, kD2_ok, zb1_s, kD3_ok, zb1_s, kD4_ok, zb1_s, kD5_ok, zb1_s, kD6_ok m hr, zb1_s]
