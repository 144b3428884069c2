/-! Rows of x in their order, and the ways among them. -/
def ux (x : Nat → Nat) (r a : Nat) : Nat → Nat := fun k => if k = r then a else x k
theorem ux_e (x : Nat → Nat) (r a : Nat) : ux x r a r = a := if_pos rfl
theorem ux_o (x : Nat → Nat) {r a k : Nat} (h : ¬ k = r) : ux x r a k = x k := if_neg h
def fl {α : Type} (g : Nat → List α) (a : Nat) : Nat → List α
  | 0 => []
  | c + 1 => g a ++ fl g (a + 1) c
theorem fl_s {α : Type} (g : Nat → List α) (a c : Nat) : fl g a (c + 1) = g a ++ fl g (a + 1) c := rfl
theorem fl_c {α : Type} {g h : Nat → List α} : ∀ (c a : Nat), (∀ b, a ≤ b → b < a + c → g b = h b) → fl g a c = fl h a c
  | 0, _, _ => rfl
  | c + 1, a, e => by rw [fl_s, fl_s, e a (Nat.le_refl a) (by omega), fl_c c (a + 1) (fun b h1 h2 => e b (by omega) (by omega))]
theorem fl_m {α : Type} {g : Nat → List α} {z : α} : ∀ (c a : Nat), z ∈ fl g a c → ∃ b, a ≤ b ∧ b < a + c ∧ z ∈ g b
  | 0, _, h => absurd h List.not_mem_nil
  | c + 1, a, h => by
    rw [fl_s, List.mem_append] at h
    rcases h with h | h
    · exact ⟨a, Nat.le_refl a, by omega, h⟩
    · obtain ⟨b, h1, h2, h3⟩ := fl_m c (a + 1) h
      exact ⟨b, by omega, by omega, h3⟩
theorem fl_f {α : Type} {g : Nat → List α} (p : α → Bool) : ∀ (c a : Nat), (fl g a c).filter p = fl (fun b => (g b).filter p) a c
  | 0, _ => rfl
  | c + 1, a => by rw [fl_s, fl_s, List.filter_append, fl_f p c (a + 1)]
theorem fl_app {α : Type} (g : Nat → List α) : ∀ (c d a : Nat), fl g a (c + d) = fl g a c ++ fl g (a + c) d
  | 0, d, a => by rw [Nat.zero_add]; rfl
  | c + 1, d, a => by rw [Nat.succ_add, fl_s, fl_s, fl_app g c d (a + 1), List.append_assoc, show a + 1 + c = a + (c + 1) by omega]
theorem fl_len {α : Type} {g : Nat → List α} {b : Nat} : ∀ (c a : Nat), (∀ i, (g i).length ≤ b) → (fl g a c).length ≤ c * b
  | 0, _, _ => by simp [fl]
  | c + 1, a, h => by
    have h1 := fl_len c (a + 1) h
    have h2 := h a
    rw [fl_s, List.length_append, Nat.succ_mul]
    omega
def tl (W : Nat) : Nat → Nat → (Nat → Nat) → List (Nat → Nat)
  | 0, _, x => [x]
  | k + 1, y, x => fl (fun a => tl W k (y + 1) (ux x y a)) 0 W
def ala (W : Nat) : Nat → Nat → (Nat → Nat) → List (Nat → Nat)
  | 0, _, _ => []
  | k + 1, y, x => ala W k (y + 1) x ++ fl (fun a => tl W k (y + 1) (ux x y a)) (x y + 1) (W - 1 - x y)
def zr (y k : Nat) (x : Nat → Nat) : Nat → Nat := fun r => if y ≤ r ∧ r < y + k then 0 else x r
def nr (W y : Nat) : Nat → (Nat → Nat) → Option (Nat → Nat)
  | 0, _ => none
  | k + 1, x => if x (y + k) + 1 < W then some (ux x (y + k) (x (y + k) + 1)) else nr W y k (ux x (y + k) 0)
theorem nr_split (W y : Nat) : ∀ (k : Nat) (x : Nat → Nat), nr W y (k + 1) x = match nr W (y + 1) k x with
    | some x' => some x'
    | none => if x y + 1 < W then some (ux (zr (y + 1) k x) y (x y + 1)) else none
  | 0, x => by
    have e : zr (y + 1) 0 x = x := by
      funext r
      rw [zr, if_neg (by omega)]
    show (if x (y + 0) + 1 < W then some (ux x (y + 0) (x (y + 0) + 1)) else none) = if x y + 1 < W then some (ux (zr (y + 1) 0 x) y (x y + 1)) else none
    rw [e]
    rfl
  | k + 1, x => by
    have e1 : y + (k + 1) = y + 1 + k := by omega
    have e2 : ux x (y + 1 + k) 0 y = x y := ux_o x (by omega)
    have e3 : zr (y + 1) k (ux x (y + 1 + k) 0) = zr (y + 1) (k + 1) x := by
      funext r
      unfold zr ux
      by_cases q : r = y + 1 + k
      · rw [if_neg (by omega), if_pos q, if_pos (by omega)]
      · by_cases q2 : y + 1 ≤ r ∧ r < y + 1 + k
        · rw [if_pos q2, if_pos (by omega)]
        · rw [if_neg q2, if_neg q, if_neg (by omega)]
    have ih := nr_split W y k (ux x (y + 1 + k) 0)
    rw [e2, e3] at ih
    show (if x (y + (k + 1)) + 1 < W then some (ux x (y + (k + 1)) (x (y + (k + 1)) + 1)) else nr W y (k + 1) (ux x (y + (k + 1)) 0)) = match (if x (y + 1 + k) + 1 < W then some (ux x (y + 1 + k) (x (y + 1 + k) + 1)) else nr W (y + 1) k (ux x (y + 1 + k) 0)) with
      | some x' => some x'
      | none => if x y + 1 < W then some (ux (zr (y + 1) (k + 1) x) y (x y + 1)) else none
    rw [e1]
    by_cases q : x (y + 1 + k) + 1 < W
    · rw [if_pos q, if_pos q]
    · rw [if_neg q, if_neg q]
      exact ih
theorem nr_o {W y : Nat} : ∀ (k : Nat) (x x' : Nat → Nat), nr W y k x = some x' → ∀ r, (r < y ∨ y + k ≤ r) → x' r = x r
  | 0, _, _, h, _, _ => by cases h
  | k + 1, x, x', h, r, hr => by
    rw [nr] at h
    by_cases q : x (y + k) + 1 < W
    · rw [if_pos q] at h
      obtain rfl := Option.some.inj h
      exact ux_o x (by omega)
    · rw [if_neg q] at h
      rw [nr_o k _ _ h r (by omega), ux_o x (by omega)]
theorem nr_lt {W y : Nat} (hW : 0 < W) : ∀ (k : Nat) (x x' : Nat → Nat), nr W y k x = some x' → (∀ r, r < W → x r < W) → y + k ≤ W → ∀ r, r < W → x' r < W
  | 0, _, _, h, _, _, _, _ => by cases h
  | k + 1, x, x', h, hx, hk, r, hr => by
    rw [nr] at h
    by_cases q : x (y + k) + 1 < W
    · rw [if_pos q] at h
      obtain rfl := Option.some.inj h
      by_cases q2 : r = y + k
      · rw [q2, ux_e]
        exact q
      · rw [ux_o x q2]
        exact hx r hr
    · rw [if_neg q] at h
      refine nr_lt hW k _ _ h (fun r hr => ?_) (by omega) r hr
      by_cases q2 : r = y + k
      · rw [q2, ux_e]
        exact hW
      · rw [ux_o x q2]
        exact hx r hr
theorem tl_c {W : Nat} : ∀ (k y : Nat) (x x' : Nat → Nat), (∀ r, (r < y ∨ y + k ≤ r) → x r = x' r) → tl W k y x = tl W k y x'
  | 0, y, x, x', h => by
    have : x = x' := funext fun r => h r (by omega)
    rw [this]
  | k + 1, y, x, x', h => fl_c W 0 fun b _ _ => tl_c k (y + 1) _ _ fun r hr => by
    by_cases q : r = y
    · rw [q, ux_e, ux_e]
    · rw [ux_o x q, ux_o x' q]
      exact h r (by omega)
theorem tl_al {W : Nat} (hW : 0 < W) : ∀ (k y : Nat) (x : Nat → Nat), tl W k y x = zr y k x :: ala W k y (zr y k x)
  | 0, y, x => by
    have e : zr y 0 x = x := by
      funext r
      rw [zr, if_neg (by omega)]
    rw [e]
    rfl
  | k + 1, y, x => by
    obtain ⟨V, rfl⟩ : ∃ V, W = V + 1 := ⟨W - 1, by omega⟩
    have e1 : zr (y + 1) k (ux x y 0) = zr y (k + 1) x := by
      funext r
      unfold zr ux
      by_cases q : r = y
      · rw [if_neg (by omega), if_pos q, if_pos (by omega)]
      · by_cases q2 : y + 1 ≤ r ∧ r < y + 1 + k
        · rw [if_pos q2, if_pos (by omega)]
        · rw [if_neg q2, if_neg q, if_neg (by omega)]
    have e2 : zr y (k + 1) x y = 0 := if_pos (by omega)
    have ih := tl_al hW k (y + 1) (ux x y 0)
    rw [e1] at ih
    show fl (fun a => tl (V + 1) k (y + 1) (ux x y a)) 0 (V + 1) = zr y (k + 1) x :: (ala (V + 1) k (y + 1) (zr y (k + 1) x) ++ fl (fun a => tl (V + 1) k (y + 1) (ux (zr y (k + 1) x) y a)) (zr y (k + 1) x y + 1) (V + 1 - 1 - zr y (k + 1) x y))
    rw [fl_s, ih, e2, List.cons_append, show V + 1 - 1 - 0 = V by omega]
    congr 2
    refine fl_c V 1 fun b _ _ => tl_c k (y + 1) _ _ fun r hr => ?_
    by_cases q : r = y
    · rw [q, ux_e, ux_e]
    · rw [ux_o _ q, ux_o _ q, zr, if_neg (by omega)]
theorem al_nr {W : Nat} : ∀ (k y : Nat) (x : Nat → Nat), (∀ r, y ≤ r → r < y + k → x r < W) → ala W k y x = match nr W y k x with
    | none => []
    | some x' => x' :: ala W k y x'
  | 0, _, _, _ => rfl
  | k + 1, y, x, hx => by
    have hy := hx y (Nat.le_refl y) (by omega)
    have ih := al_nr k (y + 1) x (fun r h1 h2 => hx r (by omega) (by omega))
    rw [nr_split]
    cases hn : nr W (y + 1) k x with
    | some x' =>
      rw [hn] at ih
      have hy' : x' y = x y := nr_o k x x' hn y (by omega)
      show ala W k (y + 1) x ++ fl (fun a => tl W k (y + 1) (ux x y a)) (x y + 1) (W - 1 - x y) = x' :: (ala W k (y + 1) x' ++ fl (fun a => tl W k (y + 1) (ux x' y a)) (x' y + 1) (W - 1 - x' y))
      rw [ih, hy']
      show x' :: (ala W k (y + 1) x' ++ _) = _
      congr 2
      refine fl_c _ _ fun b _ _ => tl_c k (y + 1) _ _ fun r hr => ?_
      by_cases q : r = y
      · rw [q, ux_e, ux_e]
      · rw [ux_o _ q, ux_o _ q]
        exact (nr_o k x x' hn r (by omega)).symm
    | none =>
      rw [hn] at ih
      show ala W k (y + 1) x ++ fl (fun a => tl W k (y + 1) (ux x y a)) (x y + 1) (W - 1 - x y) = _
      rw [ih]
      by_cases q : x y + 1 < W
      · have hc : W - 1 - x y = (W - 1 - (x y + 1)) + 1 := by omega
        have e1 : zr (y + 1) k (ux x y (x y + 1)) = ux (zr (y + 1) k x) y (x y + 1) := by
          funext r
          unfold zr ux
          by_cases q : r = y
          · rw [if_neg (by omega), if_pos q, if_pos q]
          · by_cases q2 : y + 1 ≤ r ∧ r < y + 1 + k
            · rw [if_pos q2, if_neg q]
              exact (if_pos q2).symm
            · rw [if_neg q2, if_neg q, if_neg q]
              exact (if_neg q2).symm
        have t := tl_al (show 0 < W by omega) k (y + 1) (ux x y (x y + 1))
        rw [e1] at t
        rw [if_pos q, hc, fl_s, t]
        show ux (zr (y + 1) k x) y (x y + 1) :: (ala W k (y + 1) (ux (zr (y + 1) k x) y (x y + 1)) ++ _) = ux (zr (y + 1) k x) y (x y + 1) :: (ala W k (y + 1) (ux (zr (y + 1) k x) y (x y + 1)) ++ fl (fun a => tl W k (y + 1) (ux (ux (zr (y + 1) k x) y (x y + 1)) y a)) (ux (zr (y + 1) k x) y (x y + 1) y + 1) (W - 1 - ux (zr (y + 1) k x) y (x y + 1) y))
        rw [ux_e]
        congr 2
        refine fl_c _ _ fun b _ _ => tl_c k (y + 1) _ _ fun r hr => ?_
        by_cases q : r = y
        · rw [q, ux_e, ux_e]
        · rw [ux_o _ q, ux_o _ q, ux_o _ q, zr, if_neg (by omega)]
      · rw [if_neg q, show W - 1 - x y = 0 by omega]
        rfl
theorem tl_m {W : Nat} : ∀ (k y : Nat) (x z : Nat → Nat), z ∈ tl W k y x → ∀ r, r < y → z r = x r
  | 0, y, x, z, h, r, _ => by
    rw [tl, List.mem_singleton] at h
    rw [h]
  | k + 1, y, x, z, h, r, hr => by
    rw [tl] at h
    obtain ⟨b, -, -, hb⟩ := fl_m _ _ h
    rw [tl_m k (y + 1) _ z hb r (by omega), ux_o x (by omega)]
theorem tl_m2 {W k y a : Nat} {x z : Nat → Nat} (h : z ∈ tl W k (y + 1) (ux x y a)) : z y = a := by
  rw [tl_m k (y + 1) _ z h y (by omega), ux_e]
theorem al_m {W : Nat} : ∀ (k y : Nat) (x z : Nat → Nat), z ∈ ala W k y x → ∀ r, r < y → z r = x r
  | 0, y, x, z, h, r, _ => absurd h List.not_mem_nil
  | k + 1, y, x, z, h, r, hr => by
    rw [ala, List.mem_append] at h
    rcases h with h | h
    · exact al_m k (y + 1) x z h r (by omega)
    · obtain ⟨b, -, -, hb⟩ := fl_m _ _ h
      rw [tl_m k (y + 1) _ z hb r (by omega), ux_o x (by omega)]
/-- the ways among them -/
def okb (F : Nat) (bd : Nat → Nat) (set s : Nat) : Bool := F.testBit s && decide (bd s &&& set = 0)
def iw (W F : Nat) (bd : Nat → Nat) : Nat → Nat → Nat → (Nat → Nat) → Bool
  | 0, _, _, _ => true
  | k + 1, y, set, x => okb F bd set (y * W + x y) && iw W F bd k (y + 1) (set ||| 2 ^ (y * W + x y)) x
def dt (W F : Nat) (bd : Nat → Nat) : Nat → Nat → (Nat → Nat) → Nat → List (Nat → Nat)
  | 0, _, x, _ => [x]
  | k + 1, y, x, set => fl (fun a => if okb F bd set (y * W + a) = true then dt W F bd k (y + 1) (ux x y a) (set ||| 2 ^ (y * W + a)) else []) 0 W
def da2 (W F : Nat) (bd : Nat → Nat) : Nat → Nat → (Nat → Nat) → Nat → List (Nat → Nat)
  | 0, _, _, _ => []
  | k + 1, y, x, set => (if okb F bd set (y * W + x y) = true then da2 W F bd k (y + 1) x (set ||| 2 ^ (y * W + x y)) else []) ++ fl (fun a => if okb F bd set (y * W + a) = true then dt W F bd k (y + 1) (ux x y a) (set ||| 2 ^ (y * W + a)) else []) (x y + 1) (W - 1 - x y)
theorem fil_row {W F : Nat} {bd : Nat → Nat} {k y a set : Nat} {L : List (Nat → Nat)} (h : ∀ z ∈ L, z y = a) : L.filter (iw W F bd (k + 1) y set) = if okb F bd set (y * W + a) = true then L.filter (iw W F bd k (y + 1) (set ||| 2 ^ (y * W + a))) else [] := by
  have e : ∀ z ∈ L, iw W F bd (k + 1) y set z = (okb F bd set (y * W + a) && iw W F bd k (y + 1) (set ||| 2 ^ (y * W + a)) z) := fun z hz => by rw [iw, h z hz]
  rw [List.filter_congr e]
  cases okb F bd set (y * W + a)
  · rw [if_neg (by decide)]
    simp
  · rw [if_pos rfl]
    simp
theorem dt_tl (W F : Nat) (bd : Nat → Nat) : ∀ (k y : Nat) (x : Nat → Nat) (set : Nat), dt W F bd k y x set = (tl W k y x).filter (iw W F bd k y set)
  | 0, y, x, set => rfl
  | k + 1, y, x, set => by
    rw [dt, tl, fl_f]
    refine fl_c W 0 fun a _ _ => ?_
    rw [fil_row (a := a) (fun z hz => tl_m2 hz), dt_tl W F bd k (y + 1)]
theorem da_al (W F : Nat) (bd : Nat → Nat) : ∀ (k y : Nat) (x : Nat → Nat) (set : Nat), da2 W F bd k y x set = (ala W k y x).filter (iw W F bd k y set)
  | 0, y, x, set => rfl
  | k + 1, y, x, set => by
    rw [da2, ala, List.filter_append, fl_f, fil_row (a := x y) (fun z hz => al_m k (y + 1) x z hz y (by omega)), da_al W F bd k (y + 1)]
    congr 1
    refine fl_c _ _ fun a _ _ => ?_
    rw [fil_row (a := a) (fun z hz => tl_m2 hz), dt_tl W F bd k (y + 1)]
theorem dt_len {W F : Nat} {bd : Nat → Nat} (hW : W ≤ 5) : ∀ (k y : Nat) (x : Nat → Nat) (set : Nat), (dt W F bd k y x set).length ≤ 5 ^ k
  | 0, y, x, set => Nat.le_refl _
  | k + 1, y, x, set => by
    have h := fl_len (g := fun a => if okb F bd set (y * W + a) = true then dt W F bd k (y + 1) (ux x y a) (set ||| 2 ^ (y * W + a)) else []) (b := 5 ^ k) W 0 (fun i => by
      show (if okb F bd set (y * W + i) = true then dt W F bd k (y + 1) (ux x y i) (set ||| 2 ^ (y * W + i)) else []).length ≤ _
      split
      · exact dt_len hW k _ _ _
      · exact Nat.zero_le _)
    have h2 : W * 5 ^ k ≤ 5 * 5 ^ k := Nat.mul_le_mul_right _ hW
    rw [dt, Nat.pow_succ]
    omega
