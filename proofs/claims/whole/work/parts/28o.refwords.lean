/-! The reference reads words and heads. -/
theorem r_takes {L : Nat → Nat} {n b j : Nat} {m0 m : zv_M} (h : RT L n m0) (hf : RF b j m0 m) {p c : Nat} (e12 : m.1 68 12 = Int32.ofNat p) (hp : p ≤ n) (hc : c < 128) : fM_takes (Int32.ofNat c) m = some (if L p = c then (1, wI m 68 12 (Int32.ofNat (p + 1))) else (0, m)) := by
  have ce : (cI (L p) = Int32.ofNat c) = (L p = c) := cI_eq (LT_or h.1 p) hc
  rw [fM_takes, r_next h hf hp e12, zb1_s]
  simp only [ce]
  by_cases q : L p = c
  · rw [if_pos q, if_pos q, e12, inc]
  · rw [if_neg q, if_neg q]
theorem DN_12 {m : zv_M} {q : Nat} : DN m (wI m 68 12 (Int32.ofNat q)) q := ⟨rfl, fun o k h => wI_o _ _ (by omega), wI_e _ _ _ _⟩
theorem DN_r {m : zv_M} {p : Nat} (e12 : m.1 68 12 = Int32.ofNat p) : DN m m p := ⟨rfl, fun _ _ _ => rfl, e12⟩
def WD (m : zv_M) (f : Option (Int32 × zv_M)) (R : Nat ⊕ Nat) : Prop := match R with
  | .inl q => ∃ m', f = some (0, m') ∧ DN m m' q
  | .inr q => ∃ m', f = some (1, m') ∧ DN m m' q
theorem r_alone {L : Nat → Nat} {n b j : Nat} {m0 : zv_M} (h : RT L n m0) {a c : Nat} (hac : a + c ≤ 20) : ∀ (cs : List Nat) (i p fu : Nat) (m : zv_M), RF b j m0 m → m.1 68 12 = Int32.ofNat p → i + cs.length = c → (∀ k, k < cs.length → m0.1 81 (a + i + k) = Int32.ofNat (cs.getD k 0)) → (∀ x, x ∈ cs → x < 128) → p ≤ n → cs.length + 2 < fu → WD m (whileN fu (fM_takesAlone_l2 (Int32.ofNat a) (Int32.ofNat c)) (Int32.ofNat i, m)) (pW L cs p) := by
  intro cs
  induction cs with
  | nil =>
    intro i p fu m hf e12 hi _ _ hp hfu
    obtain ⟨fu, rfl⟩ : ∃ j, fu = j + 1 := ⟨fu - 1, by omega⟩
    have hi : i = c := by simpa using hi
    refine ⟨m, ?_, DN_r e12⟩
    rw [whileN, fM_takesAlone_l2, if_neg (fun z => by have := (i_lt (by omega) (by omega)).mp z; omega)]
  | cons x cs ih =>
    intro i p fu m hf e12 hi hs hc hp hfu
    rw [List.length_cons] at hi hfu
    obtain ⟨fu, rfl⟩ : ∃ j, fu = j + 1 := ⟨fu - 1, by omega⟩
    have s0 : m.1 81 (a + i) = Int32.ofNat x := (hf.2 81 (a + i) (by unfold sR; omega)).trans (hs 0 (by rw [List.length_cons]; omega))
    have hx := hc x List.mem_cons_self
    rw [whileN, fM_takesAlone_l2, if_pos ((i_lt (by omega) (by omega)).mpr (by omega)), i_pl, zI_n (by omega) (by omega), zg_t, i_tn (by omega), s0, r_takes h hf e12 hp hx, pW]
    by_cases q : L p = x
    · have hl := LT_n h.1 (p := p) (by omega)
      rw [if_pos q, if_pos q, zb2_s, if_neg (by decide), inc]
      have hd : DN m (wI m 68 12 (Int32.ofNat (p + 1))) (p + 1) := DN_12
      have := ih (i + 1) (p + 1) fu _ (DN_F hf hd) hd.2.2 (by omega) (fun k hk => by
        have := hs (k + 1) (by rw [List.length_cons]; omega)
        rw [show a + (i + 1) + k = a + i + (k + 1) by omega]
        exact this) (fun y hy => hc y (List.mem_cons_of_mem _ hy)) (by omega) (by omega)
      show WD m (whileN fu _ _) (pW L cs (p + 1))
      cases e : pW L cs (p + 1) with
      | inl z =>
        rw [e] at this
        obtain ⟨m', a1, a2⟩ := this
        exact ⟨m', a1, DN_t hd a2⟩
      | inr z =>
        rw [e] at this
        obtain ⟨m', a1, a2⟩ := this
        exact ⟨m', a1, DN_t hd a2⟩
    · rw [if_neg q, if_neg q, zb2_s, if_pos rfl]
      exact ⟨m, rfl, DN_r e12⟩
theorem pW_app (L : Nat → Nat) (x : Nat) : ∀ (cs : List Nat) (p : Nat), pW L (cs ++ [x]) p = (match pW L cs p with
    | .inl q => .inl q
    | .inr q => if L q = x then .inr (q + 1) else .inl q)
  | [], p => rfl
  | c :: cs, p => by
    rw [List.cons_append, pW, pW]
    by_cases q : L p = c
    · rw [if_pos q, if_pos q]
      exact pW_app L x cs (p + 1)
    · rw [if_neg q, if_neg q]
/-- where the words stand -/
def w81 (w : Nat) : Nat := if w = 0 then 0 else if w = 1 then 4 else if w = 2 then 8 else if w = 3 then 11 else 16
def wdc (w : Nat) : List Nat := if w = 0 then [119, 105, 100, 101] else if w = 1 then [104, 111, 108, 101] else if w = 2 then [98, 97, 114] else if w = 3 then [114, 111, 117, 110, 100] else [102, 108, 97, 116]
def L81 (m : zv_M) : Prop := ∀ k, k < 20 → m.1 81 k = ([119, 105, 100, 101, 104, 111, 108, 101, 98, 97, 114, 114, 111, 117, 110, 100, 102, 108, 97, 116] : List Int32).getD k 0
theorem w81_ok : ∀ w, w < 5 → w81 w + (wdc w).length ≤ 20 ∧ (wdc w).length < 10 ∧ (∀ x, x ∈ wdc w → x < 128) ∧ (∀ k, k < (wdc w).length → ([119, 105, 100, 101, 104, 111, 108, 101, 98, 97, 114, 114, 111, 117, 110, 100, 102, 108, 97, 116] : List Int32).getD (w81 w + 0 + k) 0 = Int32.ofNat ((wdc w).getD k 0)) ∧ (w < 3 → wds w = wdc w ++ [32]) ∧ (¬ w < 3 → wds w = wdc w) := by decide +kernel
theorem r_aloneW {L : Nat → Nat} {n b j : Nat} {m0 m : zv_M} (h : RT L n m0) (h8 : L81 m0) {w : Nat} (hw : w < 5) {p : Nat} (hf : RF b j m0 m) (e12 : m.1 68 12 = Int32.ofNat p) (hp : p ≤ n) : WD m (fM_takesAlone (Int32.ofNat (w81 w)) (Int32.ofNat (wdc w).length) m) (pW L (wdc w) p) := by
  obtain ⟨k1, k2, k3, k4, -⟩ := w81_ok w hw
  have := r_alone h k1 (wdc w) 0 p zFU m hf e12 (Nat.zero_add _) (fun k hk => by
    rw [h8 _ (by omega)]
    exact k4 k hk) k3 hp (zn_FU (by omega))
  rw [fM_takesAlone]
  show WD m (zb1 (whileN zFU _ (Int32.ofNat 0, m)) _) _
  cases e : pW L (wdc w) p with
  | inl z =>
    rw [e] at this
    obtain ⟨m', a1, a2⟩ := this
    exact ⟨m', by rw [a1, zb1_s], a2⟩
  | inr z =>
    rw [e] at this
    obtain ⟨m', a1, a2⟩ := this
    exact ⟨m', by rw [a1, zb1_s], a2⟩
theorem r_word {L : Nat → Nat} {n b j : Nat} {m0 m : zv_M} (h : RT L n m0) (h8 : L81 m0) {w : Nat} (hw : w < 3) {p : Nat} (hf : RF b j m0 m) (e12 : m.1 68 12 = Int32.ofNat p) (hp : p ≤ n) : WD m (fM_takesWord (Int32.ofNat (w81 w)) (Int32.ofNat (wdc w).length) m) (pW L (wds w) p) := by
  obtain ⟨-, -, k3, -, k5, -⟩ := w81_ok w (by omega)
  have ha := r_aloneW h h8 (w := w) (by omega) hf e12 hp
  rw [k5 hw, pW_app, fM_takesWord]
  cases e : pW L (wdc w) p with
  | inl z =>
    rw [e] at ha
    obtain ⟨m', a1, a2⟩ := ha
    exact ⟨m', by rw [a1, zb2_s, if_pos rfl], a2⟩
  | inr z =>
    rw [e] at ha
    obtain ⟨m', a1, a2⟩ := ha
    have hz := (pW_n h.1 _ _ _ k3 hp e).2
    have ht : fM_takes 32 m' = some (if L z = 32 then (1, wI m' 68 12 (Int32.ofNat (z + 1))) else (0, m')) := r_takes h (DN_F hf a2) (c := 32) a2.2.2 hz (by decide)
    show WD m _ (if L z = 32 then .inr (z + 1) else .inl z)
    by_cases q : L z = 32
    · rw [if_pos q] at ht
      rw [if_pos q]
      exact ⟨_, by rw [a1, zb2_s, if_neg (by decide), ht, zb2_s, if_neg (by decide)], DN_t a2 DN_12⟩
    · rw [if_neg q] at ht
      rw [if_neg q]
      exact ⟨_, by rw [a1, zb2_s, if_neg (by decide), ht, zb2_s, if_pos rfl], a2⟩
theorem WD_b {m : zv_M} {f : Option (Int32 × zv_M)} {R : Nat ⊕ Nat} (h : WD m f R) : WD m (zb2 f (fun r m => zg (zB r) (some (r, m)))) R := by
  cases R with
  | inl q =>
    obtain ⟨m', a1, a2⟩ := h
    exact ⟨m', by rw [a1, zb2_s]; rfl, a2⟩
  | inr q =>
    obtain ⟨m', a1, a2⟩ := h
    exact ⟨m', by rw [a1, zb2_s]; rfl, a2⟩
theorem r_head {L : Nat → Nat} {n b j : Nat} {m : zv_M} (h : RT L n m) (h8 : L81 m) (hj : j < 60) {p : Nat} (e12 : m.1 68 12 = Int32.ofNat p) (hp : p ≤ n) : WD (wI m 75 j (Int32.ofNat (hdC (L p)))) (fM_takesHead (Int32.ofNat j) m) (pW L (wds (hdC (L p))) p) := by
  have o := LT_or h.1
  have c1 : (cI (L p) = 98) = (L p = 98) := cI_eq (k := 98) (o _) (by decide)
  have c2 : (cI (L p) = 104) = (L p = 104) := cI_eq (k := 104) (o _) (by decide)
  have c3 : (cI (L p) = 114) = (L p = 114) := cI_eq (k := 114) (o _) (by decide)
  have c4 : (cI (L p) = 119) = (L p = 119) := cI_eq (k := 119) (o _) (by decide)
  have rf : ∀ m : zv_M, RF b j m m := fun m => ⟨rfl, fun _ _ _ => rfl⟩
  have hM : ∀ x, RT L n (wI m 75 j x) := fun x => ⟨h.1, (wI_o _ _ (by omega)).trans h.2.1, fun p hp => (wI_o _ _ (by omega)).trans (h.2.2 p hp)⟩
  have h8M : ∀ x, L81 (wI m 75 j x) := fun x k hk => (wI_o _ _ (by omega)).trans (h8 k hk)
  have e12M : ∀ x, (wI m 75 j x).1 68 12 = Int32.ofNat p := fun x => (wI_o _ _ (by omega)).trans e12
  rw [fM_takesHead, r_next h (rf m) hp e12, zb1_s]
  simp only [c1, c2, c3, c4]
  rw [zI_n (by omega) hj, i_tn (by omega)]
  simp only [zg_t]
  by_cases q1 : L p = 98
  · rw [if_pos q1, show hdC (L p) = 2 by rw [q1]; rfl]
    exact WD_b (r_word (hM 2) (h8M 2) (w := 2) (by decide) (rf _) (e12M 2) hp)
  rw [if_neg q1]
  by_cases q2 : L p = 104
  · rw [if_pos q2, show hdC (L p) = 1 by rw [q2]; rfl]
    exact WD_b (r_word (hM 1) (h8M 1) (w := 1) (by decide) (rf _) (e12M 1) hp)
  rw [if_neg q2]
  by_cases q3 : L p = 114
  · rw [if_pos q3, show hdC (L p) = 3 by rw [q3]; rfl]
    exact WD_b (r_aloneW (hM 3) (h8M 3) (w := 3) (by decide) (rf _) (e12M 3) hp)
  rw [if_neg q3]
  by_cases q4 : L p = 119
  · rw [if_pos q4, show hdC (L p) = 0 by rw [q4]; rfl]
    exact WD_b (r_word (hM 0) (h8M 0) (w := 0) (by decide) (rf _) (e12M 0) hp)
  · rw [if_neg q4, show hdC (L p) = 4 by rw [hdC, if_neg q1, if_neg q2, if_neg q3, if_neg q4]]
    exact WD_b (r_aloneW (hM 4) (h8M 4) (w := 4) (by decide) (rf _) (e12M 4) hp)
