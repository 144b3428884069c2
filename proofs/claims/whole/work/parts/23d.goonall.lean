theorem goOn_ok {one lv0 : Bool} {W F : Nat} {ln b bd : Nat → Nat} (hW2 : 2 ≤ W) (hW : W ≤ 5) (hln : ∀ s0, s0 < 25 → F.testBit s0 = true → ∀ s, s < 25 → F.testBit s = true → (ln s0).testBit s = (bd s).testBit s0) (hb : ∀ r, r < W → b r < W) : ∀ (k y n : Nat) (shut set c : Nat) (level : Bool) (x : Nat → Nat) (m : zv_M), y + k = W → k ≤ n → 0 < k → RS one lv0 W F ln b m → SH F bd shut set → m.1 49 7 = Int32.ofNat c → c + 5 ^ k ≤ 100000 → (∀ r, r < y → m.1 52 r = Int32.ofNat (x r)) → (level = true → ∀ r, r < y → x r = b r) → (level = true → lv0 = true) → ∃ m', gG n (Int32.ofNat y) (Int32.ofNat shut) (bI level) m = some m' ∧ EF one W y c (if level = true then da2 W F bd k y b set else dt W F bd k y x set) m m' := by
  intro k
  induction k with
  | zero => intro y n shut set c level x m _ _ h; omega
  | succ k ih =>
    intro y n shut set c level x m hyk hn _ hR hSH h7 hc hp hlev hl0
    suffices H : ∀ x : Nat → Nat, (∀ r, r < y → m.1 52 r = Int32.ofNat (x r)) → (level = true → ∀ r, x r = b r) → ∃ m', gG n (Int32.ofNat y) (Int32.ofNat shut) (bI level) m = some m' ∧ EF one W y c (if level = true then da2 W F bd (k + 1) y b set else dt W F bd (k + 1) y x set) m m' by
      cases level with
      | false => exact H x hp (fun z => by cases z)
      | true => exact H b (fun r hr => by rw [hp r hr, hlev rfl r hr]) (fun _ _ => rfl)
    clear hp hlev x
    intro x hp hlevA
    have hlev : level = true → ∀ r, r < y → x r = b r := fun z r _ => hlevA z r
    obtain ⟨n, rfl⟩ : ∃ j, n = j + 1 := ⟨n - 1, by omega⟩
    have hyW : y < W := by omega
    have hp5 : 0 < 5 ^ k := Nat.pow_pos (by decide)
    have hbW : ∀ r, r < W → b r < 100 := fun r hr => by have := hb r hr; omega
    have h5 : 5 ^ (k + 1) = 5 * 5 ^ k := by rw [Nat.pow_succ, Nat.mul_comm]
    rw [h5] at hc
    have IH : ∀ (shut set c : Nat) (lv : Bool) (x : Nat → Nat) (m : zv_M), 0 < k → RS one lv0 W F ln b m → SH F bd shut set → m.1 49 7 = Int32.ofNat c → c + 5 ^ k ≤ 100000 → (∀ r, r < y + 1 → m.1 52 r = Int32.ofNat (x r)) → (lv = true → ∀ r, r < y + 1 → x r = b r) → (lv = true → lv0 = true) → ∃ m', gG n (Int32.ofNat (y + 1)) (Int32.ofNat shut) (bI lv) m = some m' ∧ EF one W (y + 1) c (if lv = true then da2 W F bd k (y + 1) b set else dt W F bd k (y + 1) x set) m m' := fun shut set c lv x m hk a1 a2 a3 a4 a5 a6 a7 => ih (y + 1) n shut set c lv x m (by omega) (by omega) hk a1 a2 a3 a4 a5 a6 a7
    -- the rows from a on, not level
    have loop : ∀ d a c fu m, a + d = W → d < fu → (level = false ∨ b y < a) → RS one lv0 W F ln b m → m.1 49 7 = Int32.ofNat c → c + d * 5 ^ k ≤ 100000 → (∀ r, r < y → m.1 52 r = Int32.ofNat (x r)) → ∃ m', whileN fu (fRo_goOn_l47 (Int32.ofNat y) (Int32.ofNat shut) (bI level) (gB n)) (Int32.ofNat a, m) = some m' ∧ EF one W y c (fl (fun a => if okb F bd set (y * W + a) = true then dt W F bd k (y + 1) (ux x y a) (set ||| 2 ^ (y * W + a)) else []) a d) m m' := by
      intro d
      induction d with
      | zero =>
        intro a c fu m had hf hl hR h7 hc hp
        obtain ⟨fu', rfl⟩ : ∃ k, fu = k + 1 := ⟨fu - 1, by omega⟩
        rw [whileN, fRo_goOn_l47, hR.1, if_neg (fun q => by have := (i_lt (by omega) (by omega)).mp q; omega)]
        exact ⟨m, rfl, EF_0 h7⟩
      | succ d ihd =>
        intro a c fu m had hf hl hR h7 hc hp
        obtain ⟨fu', rfl⟩ : ∃ k, fu = k + 1 := ⟨fu - 1, by omega⟩
        rw [Nat.succ_mul] at hc
        obtain ⟨m1, e1, ef1⟩ := row_ok (a := a) hW2 hW hln hyk (by omega) hR hSH h7 (by omega) hp hlev hbW hl0 IH
        have hno : (level && decide (a = b y)) = false := by
          rcases hl with hl | hl
          · rw [hl]; rfl
          · rw [decide_eq_false (by omega), Bool.and_false]
        rw [hno, if_neg (show ¬ false = true by decide)] at ef1
        have hlen : (if okb F bd set (y * W + a) = true then dt W F bd k (y + 1) (ux x y a) (set ||| 2 ^ (y * W + a)) else []).length ≤ 5 ^ k := by
          split
          · exact dt_len hW k _ _ _
          · exact Nat.zero_le _
        have hcc := nC_le one c (if okb F bd set (y * W + a) = true then dt W F bd k (y + 1) (ux x y a) (set ||| 2 ^ (y * W + a)) else []).length
        obtain ⟨m2, e2, ef2⟩ := ihd (a + 1) _ fu' m1 (by omega) (by omega) (hl.imp id (fun z => by omega)) (RS_ef hR ef1) ef1.2.2.1 (by omega) (fun r hr => (ef1.2.1 52 r (by omega) (by omega) (by omega)).trans (hp r hr))
        rw [whileN, e1]
        exact ⟨m2, e2, EF_app ef1 ef2⟩
    have hstart : gG (n + 1) (Int32.ofNat y) (Int32.ofNat shut) (bI level) m = whileN zFU (fRo_goOn_l47 (Int32.ofNat y) (Int32.ofNat shut) (bI level) (gB n)) (Int32.ofNat (if level = true then b y else 0), m) := by
      rw [gG_s, fRo_goOn_b, if_neg (i_lt0 (by omega)), hR.1, if_pos ((i_lt (by omega) (by omega)).mpr hyW), if_pos (show Int32.ofNat y < 5 from (i_lt (b := 5) (by omega) (by decide)).mpr (by omega)), if_pos (show Int32.ofNat y < 5 from (i_lt (b := 5) (by omega) (by decide)).mpr (by omega)), zI_n (by omega) (show y < 5 by omega), zg_t, i_tn (by omega), fRo_goOn_j45, fRo_goOn_j45]
      cases level with
      | false =>
        rw [if_pos (by decide)]
        show zb1 (whileN zFU _ (Int32.ofNat 0, m)) (fun r => some r) = whileN zFU _ (Int32.ofNat 0, m)
        cases whileN zFU (fRo_goOn_l47 (Int32.ofNat y) (Int32.ofNat shut) (bI false) (gB n)) (Int32.ofNat 0, m) <;> rfl
      | true =>
        rw [if_neg (by decide), hR.2.2.2.2 (hl0 rfl) y hyW]
        show zb1 (whileN zFU _ (Int32.ofNat (b y), m)) (fun r => some r) = whileN zFU _ (Int32.ofNat (b y), m)
        cases whileN zFU (fRo_goOn_l47 (Int32.ofNat y) (Int32.ofNat shut) (bI true) (gB n)) (Int32.ofNat (b y), m) <;> rfl
    rw [hstart]
    have hW5 : W * 5 ^ k ≤ 5 * 5 ^ k := Nat.mul_le_mul_right _ hW
    cases level with
    | false =>
      rw [if_neg (show ¬ false = true by decide), if_neg (show ¬ false = true by decide)]
      obtain ⟨m', e, ef⟩ := loop W 0 c zFU m (by omega) (zn_FU (by omega)) (Or.inl rfl) hR h7 (by omega) hp
      exact ⟨m', e, ef⟩
    | true =>
      rw [if_pos (show true = true from rfl), if_pos (show true = true from rfl)]
      have hby := hb y hyW
      obtain ⟨m1, e1, ef1⟩ := row_ok (a := b y) hW2 hW hln hyk hby hR hSH h7 (by omega) hp hlev hbW hl0 IH
      rw [decide_eq_true rfl, Bool.true_and, if_pos (show true = true from rfl)] at ef1
      have hlen : (if okb F bd set (y * W + b y) = true then da2 W F bd k (y + 1) b (set ||| 2 ^ (y * W + b y)) else []).length ≤ 5 ^ k := by
        split
        · refine da_len hW k (y + 1) b _ ?_ (fun r a b => hb r (by omega))
          rcases Nat.eq_zero_or_pos k with q | q
          · exact Or.inr q
          · exact Or.inl (hb (y + 1) (by omega))
        · exact Nat.zero_le _
      have hcc := nC_le one c (if okb F bd set (y * W + b y) = true then da2 W F bd k (y + 1) b (set ||| 2 ^ (y * W + b y)) else []).length
      have hd : (W - 1 - b y) * 5 ^ k ≤ 4 * 5 ^ k := Nat.mul_le_mul_right _ (by omega)
      obtain ⟨m2, e2, ef2⟩ := loop (W - 1 - b y) (b y + 1) _ 999999999999 m1 (by omega) (by omega) (Or.inr (by omega)) (RS_ef hR ef1) ef1.2.2.1 (by omega) (fun r hr => (ef1.2.1 52 r (by omega) (by omega) (by omega)).trans (hp r hr))
      have hxb : fl (fun a => if okb F bd set (y * W + a) = true then dt W F bd k (y + 1) (ux x y a) (set ||| 2 ^ (y * W + a)) else []) (b y + 1) (W - 1 - b y) = fl (fun a => if okb F bd set (y * W + a) = true then dt W F bd k (y + 1) (ux b y a) (set ||| 2 ^ (y * W + a)) else []) (b y + 1) (W - 1 - b y) := by
        refine fl_c _ _ fun a _ ha => ?_
        by_cases q : okb F bd set (y * W + a) = true
        · rw [if_pos q, if_pos q, dt_tl, dt_tl]
          congr 1
          refine tl_c k (y + 1) _ _ fun r hr => ?_
          by_cases q2 : r = y
          · rw [q2, ux_e, ux_e]
          · rw [ux_o _ q2, ux_o _ q2]
            rcases hr with hr | hr
            · exact hlev rfl r (by omega)
            · exact hlevA rfl r
        · rw [if_neg q, if_neg q]
      refine ⟨m2, ?_, ?_⟩
      · show whileN (999999999999 + 1) _ _ = _
        rw [whileN, e1]
        exact e2
      · have := EF_app ef1 ef2
        rw [hxb] at this
        exact this
