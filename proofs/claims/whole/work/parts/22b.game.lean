/-! The k-th square of a set; the game's tables. -/
theorem wI_w {m : zv_M} {o k : Nat} {v w : Int32} : wI (wI m o k v) o k w = wI m o k w := by
  unfold wI
  congr 1
  funext o' k'
  show (if o' = o ∧ k' = k then w else if o' = o ∧ k' = k then v else m.1 o' k') = if o' = o ∧ k' = k then w else m.1 o' k'
  by_cases q : o' = o ∧ k' = k
  · rw [if_pos q, if_pos q]
  · rw [if_neg q, if_neg q, if_neg q]
def kth (p : Nat → Bool) (k : Nat) : Nat → Nat
  | 0 => 0
  | n + 1 => if p n = true ∧ fb_ct p n = k then n else kth p k n
theorem kth_ok {p : Nat → Bool} {k : Nat} : ∀ {n : Nat}, k < fb_ct p n → kth p k n < n ∧ p (kth p k n) = true ∧ fb_ct p (kth p k n) = k
  | 0, h => absurd h (Nat.not_lt_zero k)
  | n + 1, h => by
    rw [kth]
    by_cases q : p n = true ∧ fb_ct p n = k
    · rw [if_pos q]
      exact ⟨Nat.lt_succ_self n, q.1, q.2⟩
    · rw [if_neg q]
      have hk : k < fb_ct p n := by
        rw [fb_ct_succ] at h
        cases e : p n
        · rw [e, if_neg (by decide)] at h
          omega
        · rw [e, if_pos rfl] at h
          have : ¬ fb_ct p n = k := fun z => q ⟨e, z⟩
          omega
      obtain ⟨a, b, c⟩ := kth_ok hk
      exact ⟨by omega, b, c⟩
theorem kth_at {p : Nat → Bool} {n i : Nat} (hi : i < n) (h : p i = true) : kth p (fb_ct p i) n = i := by
  have hlt : fb_ct p i < fb_ct p n := by
    have := fb_ct_mono p (show i + 1 ≤ n from hi)
    rw [fb_ct_succ, h, if_pos rfl] at this
    omega
  obtain ⟨a, b, c⟩ := kth_ok hlt
  exact fb_ct_kth_one b h c
theorem ct_lt {p : Nat → Bool} {i n : Nat} (hi : i < n) (h : p i = true) : fb_ct p i < fb_ct p n := by
  have := fb_ct_mono p (show i + 1 ≤ n from hi)
  rw [fb_ct_succ, h, if_pos rfl] at this
  omega
def sp (s k : Nat) : Nat := kth s.testBit k 25
def c25t (s : Nat) : Nat := fb_ct s.testBit 25
theorem sp_ok {s k : Nat} (h : k < c25t s) : sp s k < 25 ∧ s.testBit (sp s k) = true ∧ fb_ct s.testBit (sp s k) = k := kth_ok h
theorem gather_ok {s : Nat} (h9 : c25t s ≤ 9) (m : zv_M) : fGa_gather (Int32.ofNat s) m = some (Int32.ofNat (c25t s), vF m 55 (fun k => Int32.ofNat (sp s k)) (c25t s)) := by
  have e := wn_eq (fGa_gather_l4 (Int32.ofNat s)) (fun i => (Int32.ofNat (fb_ct s.testBit i), Int32.ofNat i, vF m 55 (fun k => Int32.ofNat (sp s k)) (fb_ct s.testBit i))) 25 (Int32.ofNat (c25t s), vF m 55 (fun k => Int32.ofNat (sp s k)) (c25t s)) (by decide) (fun i hi => by
    show fGa_gather_l4 _ (_, _, _) = _
    rw [fGa_gather_l4, if_pos (c25 hi), n_isIn (by omega), decide_eq_true hi, Bool.true_and, zb1_s, if01, fb_ct_succ, fGa_gather_j37, fGa_gather_j37]
    cases b : s.testBit i
    · rw [if_neg (show ¬ false = true by decide), if_neg (show ¬ false = true by decide), Nat.add_zero, inc]
    · have hc : fb_ct s.testBit i < 9 := Nat.lt_of_lt_of_le (ct_lt hi b) h9
      rw [if_pos (show true = true from rfl), if_pos (show true = true from rfl), if_pos (show Int32.ofNat (fb_ct s.testBit i) < 9 from (i_lt (b := 9) (by omega) (by decide)).mpr hc), zI_n (by omega) hc, zg_t, i_tn (by omega), inc, inc, show Int32.ofNat i = Int32.ofNat (sp s (fb_ct s.testBit i)) by rw [sp, kth_at hi b], vF_s (g := fun k => Int32.ofNat (sp s k))]) (by
    show fGa_gather_l4 _ (_, _, _) = _
    rw [fGa_gather_l4, if_neg (by decide)]
    rfl)
  rw [show fb_ct s.testBit 0 = 0 from rfl, vF_0] at e
  rw [fGa_gather]
  exact congrArg (fun z => zb1 z (fun r => some r)) e
/-- what is left of a set without its k lowest -/
def lef (s k : Nat) : Nat := bs (fun i => s.testBit i && decide (k ≤ fb_ct s.testBit i)) 25
theorem lef_t (s k i : Nat) : (lef s k).testBit i = (decide (i < 25) && (s.testBit i && decide (k ≤ fb_ct s.testBit i))) := bs_t _ _ _
theorem lef_lt (s k : Nat) : lef s k < 2 ^ 25 := bs_lt _ _
theorem lef_low {s k : Nat} (h : k < c25t s) : (lef s k).testBit (sp s k) = true ∧ (∀ i, i < sp s k → (lef s k).testBit i = false) ∧ lef s k &&& (lef s k - 1) = lef s (k + 1) := by
  obtain ⟨a, b, c⟩ := sp_ok h
  have h1 : (lef s k).testBit (sp s k) = true := by rw [lef_t, decide_eq_true a, b, c, decide_eq_true (Nat.le_refl k)]; rfl
  have h2 : ∀ i, i < sp s k → (lef s k).testBit i = false := fun i hi => by
    rw [lef_t]
    cases e : s.testBit i
    · simp
    · have := ct_lt hi e
      rw [decide_eq_false (show ¬ k ≤ fb_ct s.testBit i by omega)]
      simp
  refine ⟨h1, h2, ?_⟩
  have hpos : 0 < lef s k := by
    rcases Nat.eq_zero_or_pos (lef s k) with q | q
    · rw [q, Nat.zero_testBit] at h1
      cases h1
    · exact q
  obtain ⟨j, j1, j2, j3⟩ := n_lo hpos
  obtain rfl : j = sp s k := by
    rcases Nat.lt_trichotomy j (sp s k) with q | q | q
    · rw [h2 j q] at j1
      cases j1
    · exact q
    · rw [j2 _ q] at h1
      cases h1
  refine sx (N := 25) (and_lt (lef_lt s k)) (lef_lt s (k + 1)) fun i hi => ?_
  rw [j3, lef_t, lef_t, decide_eq_true hi, Bool.true_and, Bool.true_and]
  cases e : s.testBit i
  · simp
  · by_cases q : i = sp s k
    · rw [decide_eq_true q, q, c, decide_eq_false (show ¬ k + 1 ≤ k by omega)]
      simp
    · rw [decide_eq_false q]
      have hne : ¬ fb_ct s.testBit i = k := fun z => q (fb_ct_kth_one e b (z.trans c.symm))
      have : decide (k ≤ fb_ct s.testBit i) = decide (k + 1 ≤ fb_ct s.testBit i) := decide_eq_decide.mpr (by omega)
      rw [this]
      simp
theorem lef_0 {s : Nat} (hs : s < 2 ^ 25) : lef s 0 = s := sx (lef_lt s 0) hs fun i hi => by rw [lef_t, decide_eq_true hi]; simp
theorem lef_n (s : Nat) : lef s (c25t s) = 0 := sx (N := 25) (lef_lt s _) (by decide) fun i hi => by
  rw [lef_t, Nat.zero_testBit]
  cases e : s.testBit i
  · simp
  · have := ct_lt hi e
    rw [decide_eq_false (show ¬ c25t s ≤ fb_ct s.testBit i by unfold c25t; omega)]
    simp
theorem gatherM_ok {s : Nat} (hs : s < 2 ^ 25) (h9 : c25t s ≤ 9) (m : zv_M) : whileN zFU fM_game_l42 (0, Int32.ofNat s, m) = some (vF m 92 (fun k => Int32.ofNat (sp s k)) (c25t s)) := by
  have e := wn_eq fM_game_l42 (fun k => (Int32.ofNat k, Int32.ofNat (lef s k), vF m 92 (fun k => Int32.ofNat (sp s k)) k)) (c25t s) (vF m 92 (fun k => Int32.ofNat (sp s k)) (c25t s)) (by omega) (fun k hk => by
    obtain ⟨l1, l2, l3⟩ := lef_low hk
    have hsp := (sp_ok hk).1
    have hpos : 0 < lef s k := by
      rcases Nat.eq_zero_or_pos (lef s k) with q | q
      · rw [q, Nat.zero_testBit] at l1
        cases l1
      · exact q
    have hlt := p25 (lef_lt s k)
    show fM_game_l42 (_, _, _) = _
    rw [fM_game_l42, if_neg (show ¬ Int32.ofNat (lef s k) = 0 from fun z => by have := (i_eq (b := 0) hlt (by decide)).mp z; omega), n_lowest l1 l2 (by omega), zb1_s, zI_n (by omega) (by omega), zg_t, i_tn (by omega), inc, n_one _ hpos hlt, n_and, l3, vF_s (g := fun k => Int32.ofNat (sp s k))]) (by
    show fM_game_l42 (_, _, _) = _
    rw [fM_game_l42, lef_n, if_pos (by decide)])
  rw [lef_0 hs, vF_0] at e
  exact e
/-- what goes when spot a is taken -/
def gn (D : Dt) (p s n a : Nat) : Nat := bs (fun i => decide (i = a) || (bdn D p (sp s a)).testBit (sp s i)) n
theorem gn_t (D : Dt) (p s n a i : Nat) : (gn D p s n a).testBit i = (decide (i < n) && (decide (i = a) || (bdn D p (sp s a)).testBit (sp s i))) := bs_t _ _ _
theorem sp_inj {s a b : Nat} (ha : a < c25t s) (hb : b < c25t s) (h : sp s a = sp s b) : a = b := by
  rw [← (sp_ok ha).2.2, ← (sp_ok hb).2.2, h]
theorem gone_ok {D : Dt} {p s n : Nat} {m : zv_M} (hn : n = c25t s) (h9 : n ≤ 9) (h55 : ∀ k, k < n → m.1 55 k = Int32.ofNat (sp s k)) (h48 : ∀ t, t < 25 → m.1 48 t = Int32.ofNat (jn (pw D p) s t)) {a : Nat} (ha : a < n) : fGa_goneBy (Int32.ofNat (sp s a)) 48 (Int32.ofNat n) m = some (Int32.ofNat (gn D p s n a)) := by
  have hs := sp_ok (show a < c25t s by omega)
  have e := wn_eq (fGa_goneBy_l25 (Int32.ofNat (sp s a)) (Int32.ofNat n) m (Int32.ofNat (jn (pw D p) s (sp s a)))) (fun i => (Int32.ofNat (bs (fun i => decide (i = a) || (bdn D p (sp s a)).testBit (sp s i)) i), Int32.ofNat i)) n (Int32.ofNat (gn D p s n a)) (by omega) (fun i hi => by
    have hi' := sp_ok (show i < c25t s by omega)
    show fGa_goneBy_l25 _ _ _ _ (_, _) = _
    rw [fGa_goneBy_l25, if_pos ((i_lt (by omega) (by omega)).mpr hi), if_pos (show Int32.ofNat i < 9 from (i_lt (b := 9) (by omega) (by decide)).mpr (by omega)), zI_n (by omega) (by omega), zg_t, zg_t, i_tn (by omega), h55 i hi, n_isIn (by omega), decide_eq_true hi'.1, Bool.true_and, zb1_s, if01, jn_t, jnb, decide_eq_true hi'.1, hs.2.1, hi'.2.1, fGa_goneBy_j67, fGa_goneBy_j76, inc]
    by_cases q : i = a
    · rw [q, if_pos rfl, n_put (fun i => decide (i = a) || (bdn D p (sp s a)).testBit (sp s i)) a (by simp) (by omega)]
    · rw [if_neg (fun z => q (sp_inj (by omega) (by omega) ((i_eq (by omega) (by omega)).mp z)))]
      have hb : (bdn D p (sp s a)).testBit (sp s i) = ((pw D p (sp s a)).testBit (sp s i) || (pw D p (sp s i)).testBit (sp s a)) := by rw [bdn_t, decide_eq_true hi'.1, Bool.true_and]
      rw [show (true && (true && true && ((pw D p (sp s a)).testBit (sp s i) || (pw D p (sp s i)).testBit (sp s a)))) = (bdn D p (sp s a)).testBit (sp s i) by rw [hb]; rfl]
      cases b : (bdn D p (sp s a)).testBit (sp s i)
      · rw [if_neg (show ¬ false = true by decide), n_puf (fun i => decide (i = a) || (bdn D p (sp s a)).testBit (sp s i)) i (by rw [decide_eq_false q, b]; rfl)]
      · rw [if_pos (show true = true from rfl), n_put (fun i => decide (i = a) || (bdn D p (sp s a)).testBit (sp s i)) i (by rw [b]; simp) (by omega)]) (by
    show fGa_goneBy_l25 _ _ _ _ (_, _) = _
    rw [fGa_goneBy_l25, if_neg (fun q => by have := (i_lt (by omega) (by omega)).mp q; omega)]
    rfl)
  rw [fGa_goneBy, if_neg (i_lt0 (by omega)), show zln 48 = 25 from rfl, if_pos ((i_lt (by omega) (by decide)).mpr hs.1), zI_n (by omega) hs.1, zg_t, i_tn (by omega), h48 _ hs.1, fGa_goneBy_j17]
  exact congrArg (fun z => zb1 z (fun r => some r)) e
theorem goneM_ok {D : Dt} {p s n : Nat} {m : zv_M} (hn : n = c25t s) (h9 : n ≤ 9) (h92 : ∀ k, k < n → m.1 92 k = Int32.ofNat (sp s k)) (h85 : ∀ t, t < 25 → m.1 85 t = Int32.ofNat (bdn D p t)) : whileN zFU (fM_game_l78 (Int32.ofNat n)) (0, m) = some (vF m 93 (fun a => Int32.ofNat (gn D p s n a)) n) := by
  have e := wn_eq (fM_game_l78 (Int32.ofNat n)) (fun a => (Int32.ofNat a, vF m 93 (fun a => Int32.ofNat (gn D p s n a)) a)) n (vF m 93 (fun a => Int32.ofNat (gn D p s n a)) n) (by omega) (fun a ha => by
    have hs := sp_ok (show a < c25t s by omega)
    have inner := wn_eq (fM_game_l98 (Int32.ofNat n) (Int32.ofNat a)) (fun i => (Int32.ofNat i, wI (vF m 93 (fun a => Int32.ofNat (gn D p s n a)) a) 93 a (Int32.ofNat (2 ^ a ||| bs (fun i => (bdn D p (sp s a)).testBit (sp s i)) i)))) n (wI (vF m 93 (fun a => Int32.ofNat (gn D p s n a)) a) 93 a (Int32.ofNat (2 ^ a ||| bs (fun i => (bdn D p (sp s a)).testBit (sp s i)) n))) (by omega) (fun i hi => by
      have hi' := sp_ok (show i < c25t s by omega)
      have c1 : ∀ v k, k < n → (wI (vF m 93 (fun a => Int32.ofNat (gn D p s n a)) a) 93 a v).1 92 k = Int32.ofNat (sp s k) := fun v k hk => (h92 k hk)
      have c2 : ∀ v t, t < 25 → (wI (vF m 93 (fun a => Int32.ofNat (gn D p s n a)) a) 93 a v).1 85 t = Int32.ofNat (bdn D p t) := fun v t ht => (h85 t ht)
      have w2 : ∀ v w : Int32, wI (wI (vF m 93 (fun a => Int32.ofNat (gn D p s n a)) a) 93 a v) 93 a w = wI (vF m 93 (fun a => Int32.ofNat (gn D p s n a)) a) 93 a w := fun v w => wI_w
      show fM_game_l98 _ _ (_, _) = _
      rw [fM_game_l98, if_pos ((i_lt (by omega) (by omega)).mpr hi), zI_n (by omega) (show a < 9 by omega), zg_t, zg_t, i_tn (show a < 2147483648 by omega), i_tn (show i < 2147483648 by omega), c1 _ a ha, c1 _ i hi, zI_n (by omega) hs.1, zg_t, zI_n (by omega) (show i < 9 by omega), zg_t, i_tn (by omega), c2 _ _ hs.1, n_has (by omega), zb1_s, if01, fM_game_j146, fM_game_j146, zI_n (by omega) (show a < 9 by omega), zg_t, zg_t, i_tn (by omega), wI_e, inc, w2, w2, n_sh _ (by omega), n_or, z_ofn, bs_s]
      cases b : (bdn D p (sp s a)).testBit (sp s i)
      · rw [if_neg (show ¬ false = true by decide), if_neg (show ¬ false = true by decide), Nat.or_zero]
      · rw [if_pos (show true = true from rfl), if_pos (show true = true from rfl), Nat.or_assoc]) (by
      show fM_game_l98 _ _ (_, _) = _
      rw [fM_game_l98, if_neg (fun q => by have := (i_lt (by omega) (by omega)).mp q; omega)])
    have e0 : 2 ^ a ||| bs (fun i => (bdn D p (sp s a)).testBit (sp s i)) n = gn D p s n a := by
      apply Nat.eq_of_testBit_eq
      intro i
      rw [Nat.testBit_or, bs_t, gn_t, Nat.testBit_two_pow]
      by_cases q : i = a
      · subst q
        rw [decide_eq_true rfl, decide_eq_true ha]
        rfl
      · rw [decide_eq_false q, decide_eq_false (fun z => q z.symm)]
        rfl
    rw [e0, vF_s (g := fun a => Int32.ofNat (gn D p s n a))] at inner
    show fM_game_l78 _ (_, _) = _
    rw [fM_game_l78, if_pos ((i_lt (by omega) (by omega)).mpr ha), zI_n (by omega) (by omega), zg_t, i_tn (by omega), n_sh _ (by omega), show 2 ^ a = 2 ^ a ||| bs (fun i => (bdn D p (sp s a)).testBit (sp s i)) 0 by rw [bs, Nat.or_zero], show (0 : Int32) = Int32.ofNat 0 from rfl, inner, zb1_s, inc]) (by
    show fM_game_l78 _ (_, _) = _
    rw [fM_game_l78, if_neg (fun q => by have := (i_lt (by omega) (by omega)).mp q; omega)])
  rw [vF_0] at e
  exact e
/-- who is to move wins -/
def anyb (q : Nat → Bool) : Nat → Bool
  | 0 => false
  | n + 1 => anyb q n || q n
theorem anyb_s (q : Nat → Bool) (n : Nat) : anyb q (n + 1) = (anyb q n || q n) := rfl
theorem anyb_c {q r : Nat → Bool} : ∀ {n : Nat}, (∀ a, a < n → q a = r a) → anyb q n = anyb r n
  | 0, _ => rfl
  | n + 1, h => by rw [anyb_s, anyb_s, anyb_c (fun a ha => h a (by omega)), h n (by omega)]
def wt (g : Nat → Nat) (n : Nat) : Nat → Nat → Bool
  | 0, _ => false
  | k + 1, x => if x = k then anyb (fun a => k.testBit a && !wt g n k (ad k (g a))) n else wt g n k x
def wv (g : Nat → Nat) (n x : Nat) : Bool := wt g n (x + 1) x
theorem wt_wv (g : Nat → Nat) (n : Nat) : ∀ k x, x < k → wt g n k x = wv g n x
  | 0, x, h => absurd h (Nat.not_lt_zero x)
  | k + 1, x, h => by
    by_cases q : x = k
    · subst q
      rfl
    · rw [wt, if_neg q]
      exact wt_wv g n k x (by omega)
theorem ad_dec {k b a : Nat} (h : k.testBit a = true) (hb : b.testBit a = true) : ad k b < k := by
  have h1 := ad_le k b
  rcases Nat.lt_or_ge (ad k b) k with q | q
  · exact q
  · have e : ad k b = k := Nat.le_antisymm h1 q
    have := ad_t k b a
    rw [e, h, hb] at this
    cases this
theorem wv_eq {g : Nat → Nat} {n : Nat} (hg : ∀ a, a < n → (g a).testBit a = true) (x : Nat) : wv g n x = anyb (fun a => x.testBit a && !wv g n (ad x (g a))) n := by
  rw [wv, wt, if_pos rfl]
  refine anyb_c fun a ha => ?_
  cases h : x.testBit a
  · rfl
  · rw [wt_wv g n x _ (ad_dec h (hg a ha))]
def bI (b : Bool) : Int32 := if b = true then 1 else 0
theorem winsN_ok {g : Nat → Nat} {n : Nat} {m : zv_M} (h9 : n ≤ 9) (hg : ∀ a, a < n → (g a).testBit a = true) (h56 : ∀ a, a < n → m.1 56 a = Int32.ofNat (g a)) : whileN zFU (fGa_firstWins_l71 (Int32.ofNat n)) (0, m) = some (vF m 57 (fun x => bI (wv g n x)) (2 ^ n)) := by
  have hp : 2 ^ n ≤ 2 ^ 9 := Nat.pow_le_pow_right (by decide) h9
  have hp1 : 0 < 2 ^ n := Nat.pow_pos (by decide)
  have hone : (1 <<< (Int32.ofNat n &&& 31)) - 1 = Int32.ofNat (2 ^ n - 1) := by
    rw [n_sh n (by omega)]
    exact i_mi (b := 1) hp1 (by omega)
  have e := wn_eq (fGa_firstWins_l71 (Int32.ofNat n)) (fun x => (Int32.ofNat x, vF m 57 (fun x => bI (wv g n x)) x)) (2 ^ n) (vF m 57 (fun x => bI (wv g n x)) (2 ^ n)) (by omega) (fun x hx => by
    have w2 : ∀ v w : Int32, wI (wI (vF m 57 (fun x => bI (wv g n x)) x) 57 x v) 57 x w = wI (vF m 57 (fun x => bI (wv g n x)) x) 57 x w := fun v w => wI_w
    have inner := wn_eq (fGa_firstWins_l99 (Int32.ofNat n) (Int32.ofNat x)) (fun i => (Int32.ofNat i, wI (vF m 57 (fun x => bI (wv g n x)) x) 57 x (bI (anyb (fun a => x.testBit a && !wv g n (ad x (g a))) i)))) n (wI (vF m 57 (fun x => bI (wv g n x)) x) 57 x (bI (anyb (fun a => x.testBit a && !wv g n (ad x (g a))) n))) (by omega) (fun i hi => by
      have c1 : ∀ v, (wI (vF m 57 (fun x => bI (wv g n x)) x) 57 x v).1 56 i = Int32.ofNat (g i) := fun v => h56 i hi
      show fGa_firstWins_l99 _ _ (_, _) = _
      rw [fGa_firstWins_l99, if_pos ((i_lt (by omega) (by omega)).mpr hi), if_pos (show Int32.ofNat i < 9 from (i_lt (b := 9) (by omega) (by decide)).mpr (by omega)), n_bit (by omega), if01, anyb_s, fGa_firstWins_j153, fGa_firstWins_j153, inc]
      cases b : x.testBit i
      · rw [if_neg (show ¬ false = true by decide), Bool.false_and, Bool.or_false]
      · have hd := ad_dec b (hg i hi)
        have old : ∀ v, (wI (vF m 57 (fun x => bI (wv g n x)) x) 57 x v).1 57 (ad x (g i)) = bI (wv g n (ad x (g i))) := fun v => by
          rw [wI_o _ _ (by omega), vF_e _ _ _ hd]
        rw [if_pos (show true = true from rfl), zI_n (by omega) (by omega), zg_t, i_tn (show i < 2147483648 by omega), c1, n_ad, zI_n (by omega) (by omega), zg_t, i_tn (by omega), old, zI_n (by omega) (by omega), zg_t, i_tn (by omega), w2]
        cases b2 : wv g n (ad x (g i))
        · rw [if_pos (by decide), show (1 : Int32).toInt8.toInt32 = bI true from rfl]
          simp
        · rw [if_neg (by decide)]
          simp) (by
      show fGa_firstWins_l99 _ _ (_, _) = _
      rw [fGa_firstWins_l99, if_neg (fun q => by have := (i_lt (by omega) (by omega)).mp q; omega)])
    rw [← wv_eq hg, vF_s (g := fun x => bI (wv g n x))] at inner
    show fGa_firstWins_l71 _ (_, _) = _
    rw [fGa_firstWins_l71, hone, if_neg (fun q => by have := (i_lt (by omega) (by omega)).mp q; omega), if_pos (show Int32.ofNat x < 512 from (i_lt (b := 512) (by omega) (by decide)).mpr (by omega)), zI_n (by omega) (by omega), zg_t, i_tn (by omega), show (0 : Int32).toInt8.toInt32 = bI (anyb (fun a => x.testBit a && !wv g n (ad x (g a))) 0) from rfl, show (0 : Int32) = Int32.ofNat 0 from rfl, inner, zb1_s, inc]) (by
    show fGa_firstWins_l71 _ (_, _) = _
    rw [fGa_firstWins_l71, hone, if_pos ((i_lt (by omega) (by omega)).mpr (by omega))])
  rw [vF_0] at e
  exact e
theorem winsM_ok {g : Nat → Nat} {n : Nat} {m : zv_M} (h9 : n ≤ 9) (hg : ∀ a, a < n → (g a).testBit a = true) (h93 : ∀ a, a < n → m.1 93 a = Int32.ofNat (g a)) : whileN zFU (fM_game_l163 (Int32.ofNat n)) (0, m) = some (vF m 94 (fun x => bI (wv g n x)) (2 ^ n)) := by
  have hp : 2 ^ n ≤ 2 ^ 9 := Nat.pow_le_pow_right (by decide) h9
  have hp1 : 0 < 2 ^ n := Nat.pow_pos (by decide)
  have e := wn_eq (fM_game_l163 (Int32.ofNat n)) (fun x => (Int32.ofNat x, vF m 94 (fun x => bI (wv g n x)) x)) (2 ^ n) (vF m 94 (fun x => bI (wv g n x)) (2 ^ n)) (by omega) (fun x hx => by
    have c1 : ∀ i, i < n → (vF m 94 (fun x => bI (wv g n x)) x).1 93 i = Int32.ofNat (g i) := fun i hi => h93 i hi
    have key : ∀ j i fu, i + j = n → anyb (fun a => x.testBit a && !wv g n (ad x (g a))) i = false → j < fu → whileN fu (fM_game_l177 (Int32.ofNat n) (Int32.ofNat x) (vF m 94 (fun x => bI (wv g n x)) x)) (0, Int32.ofNat i) = some (bI (anyb (fun a => x.testBit a && !wv g n (ad x (g a))) n)) := by
      intro j
      induction j with
      | zero =>
        intro i fu hi ha hf
        obtain ⟨fu', rfl⟩ : ∃ k, fu = k + 1 := ⟨fu - 1, by omega⟩
        obtain rfl : i = n := by omega
        rw [whileN, fM_game_l177, if_neg (fun q => by have := (i_lt (by omega) (by omega)).mp q; omega), ha]
        rfl
      | succ j ih =>
        intro i fu hi ha hf
        obtain ⟨fu', rfl⟩ : ∃ k, fu = k + 1 := ⟨fu - 1, by omega⟩
        have hs := anyb_s (fun a => x.testBit a && !wv g n (ad x (g a))) i
        rw [ha, Bool.false_or] at hs
        rw [whileN, fM_game_l177, if_pos ((i_lt (by omega) (by omega)).mpr (by omega)), if_pos (by decide), n_has (by omega), zb1_s, if01]
        cases b : x.testBit i
        · rw [if_neg (show ¬ false = true by decide), fM_game_j223, inc]
          show whileN fu' _ _ = _
          exact ih (i + 1) fu' (by omega) (by rw [hs]; simp [b]) (by omega)
        · have hi' : i < n := by omega
          have hd := ad_dec b (hg i hi')
          rw [if_pos (show true = true from rfl), zI_n (by omega) (by omega), zg_t, i_tn (show i < 2147483648 by omega), c1 i hi', n_ad, zI_n (by omega) (by omega), zg_t, i_tn (by omega), vF_e _ _ _ hd]
          cases b2 : wv g n (ad x (g i))
          · have ht : anyb (fun a => x.testBit a && !wv g n (ad x (g a))) (i + 1) = true := by rw [hs]; simp [b, b2]
            have hall : ∀ k, anyb (fun a => x.testBit a && !wv g n (ad x (g a))) (i + 1 + k) = true := by
              intro k
              induction k with
              | zero => exact ht
              | succ k ih2 =>
                rw [← Nat.add_assoc, anyb_s, ih2]
                rfl
            have hfin := hall (n - (i + 1))
            rw [Nat.add_sub_cancel' (by omega)] at hfin
            rw [if_pos (by decide), fM_game_j224, inc, hfin]
            show whileN fu' _ _ = _
            obtain ⟨fu2, rfl⟩ : ∃ k, fu' = k + 1 := ⟨fu' - 1, by omega⟩
            rw [whileN, fM_game_l177]
            by_cases q : i + 1 < n
            · rw [if_pos ((i_lt (by omega) (by omega)).mpr q), if_neg (by decide)]
              rfl
            · rw [if_neg (fun z => q ((i_lt (by omega) (by omega)).mp z))]
              rfl
          · rw [if_neg (by decide), fM_game_j223, inc]
            show whileN fu' _ _ = _
            exact ih (i + 1) fu' (by omega) (by rw [hs]; simp [b2]) (by omega)
    have inner := key n 0 zFU (by omega) rfl (zn_FU (by omega))
    rw [← wv_eq hg] at inner
    have hB : zB (bI (wv g n x)) = true := by
      cases wv g n x <;> rfl
    show fM_game_l163 _ (_, _) = _
    rw [fM_game_l163, n_sh _ (by omega), if_pos ((i_lt (by omega) (by omega)).mpr hx), show (0 : Int32) = Int32.ofNat 0 from rfl, show whileN zFU (fM_game_l177 (Int32.ofNat n) (Int32.ofNat x) (vF m 94 (fun x => bI (wv g n x)) x)) (Int32.ofNat 0, Int32.ofNat 0) = some (bI (wv g n x)) from inner, zb1_s, zI_n (by omega) (by omega), zg_t, hB, zg_t, i_tn (by omega), inc, vF_s (g := fun x => bI (wv g n x))]) (by
    show fM_game_l163 _ (_, _) = _
    rw [fM_game_l163, n_sh _ (by omega), if_neg (fun q => by have := (i_lt (by omega) (by omega)).mp q; omega)])
  rw [vF_0] at e
  exact e
