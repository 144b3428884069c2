/-! Sets of men at peace; the reference's tries who should go. -/
def pzb (Q : Nat → Nat) (X : Nat) : Bool := !anyb (fun s => X.testBit s && !decide (Q s &&& X = 0)) 25
theorem anyb_t {q : Nat → Bool} : ∀ {n : Nat}, anyb q n = true ↔ ∃ a, a < n ∧ q a = true
  | 0 => ⟨(fun h => by cases h), (fun h => by obtain ⟨a, h, _⟩ := h; exact absurd h (Nat.not_lt_zero a))⟩
  | n + 1 => by
    rw [anyb_s, Bool.or_eq_true, anyb_t (n := n)]
    constructor
    · rintro (⟨a, h1, h2⟩ | h)
      · exact ⟨a, by omega, h2⟩
      · exact ⟨n, by omega, h⟩
    · rintro ⟨a, h1, h2⟩
      by_cases q : a < n
      · exact Or.inl ⟨a, q, h2⟩
      · obtain rfl : a = n := by omega
        exact Or.inr h2
theorem pz_t {Q : Nat → Nat} {X : Nat} : pzb Q X = true ↔ ∀ s, s < 25 → X.testBit s = true → Q s &&& X = 0 := by
  unfold pzb
  constructor
  · intro h s hs hX
    refine Decidable.byContradiction fun hn => ?_
    have : anyb (fun s => X.testBit s && !decide (Q s &&& X = 0)) 25 = true := anyb_t.mpr ⟨s, hs, by rw [hX, decide_eq_false hn]; rfl⟩
    rw [this] at h
    cases h
  · intro h
    cases e : anyb (fun s => X.testBit s && !decide (Q s &&& X = 0)) 25
    · rfl
    · obtain ⟨s, hs, q⟩ := anyb_t.mp e
      obtain ⟨q1, q2⟩ := Bool.and_eq_true _ _ |>.mp q
      rw [decide_eq_true (h s hs q1)] at q2
      cases q2
theorem peaceOf_ok {Q : Nat → Nat} {X : Nat} {m : zv_M} (hX : X < 2 ^ 25) (h91 : ∀ s, s < 25 → X.testBit s = true → m.1 91 s = Int32.ofNat (Q s)) : fM_isPeaceOf (Int32.ofNat X) m = some (if pzb Q X = true then 1 else 0) := by
  have hle : c25t X ≤ 25 := fb_ct_le _ _
  have step : ∀ k, k < c25t X → fM_isPeaceOf_l2 (Int32.ofNat X) m (Int32.ofNat (lef X k)) = if Q (sp X k) &&& X = 0 then some (.inl (Int32.ofNat (lef X (k + 1)))) else some (.inr 0) := fun k hk => by
    obtain ⟨l1, l2, l3⟩ := lef_low hk
    obtain ⟨s1, s2, s3⟩ := sp_ok hk
    have hlt := p25 (lef_lt X k)
    have hpos : 0 < lef X k := by
      rcases Nat.eq_zero_or_pos (lef X k) with q | q
      · rw [q, Nat.zero_testBit] at l1
        cases l1
      · exact q
    have hz : (Int32.ofNat (Q (sp X k) &&& X) = 0) = (Q (sp X k) &&& X = 0) := n_eq0 (p25 (Nat.and_lt_two_pow _ hX))
    rw [fM_isPeaceOf_l2, if_neg (show ¬ Int32.ofNat (lef X k) = 0 from fun z => by have := (i_eq (b := 0) hlt (by decide)).mp z; omega), n_lowest l1 l2 (by omega), zb1_s, zI_n (by omega) s1, zg_t, i_tn (by omega), h91 _ s1 s2, n_and, n_one _ hpos hlt, n_and, l3]
    simp only [hz]
  have fin : ∀ r : Int32, whileN zFU (fM_isPeaceOf_l2 (Int32.ofNat X) m) (Int32.ofNat (lef X 0)) = some r → fM_isPeaceOf (Int32.ofNat X) m = some r := fun r e => by
    rw [lef_0 hX] at e
    rw [fM_isPeaceOf, e, zb1_s]
  cases hp : pzb Q X
  · have hex : ∃ k, k < c25t X ∧ ¬ Q (sp X k) &&& X = 0 := by
      refine Classical.byContradiction fun hn => ?_
      have : pzb Q X = true := pz_t.mpr fun s hs hXs => Decidable.byContradiction fun hz => hn ⟨fb_ct X.testBit s, ct_lt hs hXs, by rw [sp, kth_at hs hXs]; exact hz⟩
      rw [hp] at this
      cases this
    obtain ⟨k, hk, hb, hf⟩ := fst1 (p := fun k => ¬ Q (sp X k) &&& X = 0) (fun n => Decidable.em _) hex
    rw [if_neg (show ¬ false = true by decide)]
    exact fin 0 (wn_eq _ (fun k => Int32.ofNat (lef X k)) k 0 (by omega) (fun j hj => by rw [step j (by omega), if_pos (Decidable.not_not.mp (hf j hj))]) (by rw [step k hk, if_neg hb]))
  · rw [if_pos (show true = true from rfl)]
    refine fin 1 (wn_eq _ (fun k => Int32.ofNat (lef X k)) (c25t X) 1 (by omega) (fun j hj => by
      obtain ⟨s1, s2, s3⟩ := sp_ok hj
      rw [step j hj, if_pos (pz_t.mp hp _ s1 s2)]) (by
      show fM_isPeaceOf_l2 _ _ (Int32.ofNat (lef X (c25t X))) = _
      rw [fM_isPeaceOf_l2, lef_n, if_pos (by decide)]))
def Ds (F : Nat → Bool) : Nat → Nat → Nat → List Nat
  | 0, _, S => [S]
  | k + 1, B, S => fl (fun a => if F a = true then Ds F k a (S + 2 ^ a) else []) 0 B
theorem Ds_lt {F : Nat → Bool} : ∀ (k B S z : Nat), z ∈ Ds F k B S → z < S + 2 ^ B
  | 0, B, S, z, hz => by
    rw [Ds, List.mem_singleton] at hz
    rw [hz]
    exact Nat.lt_add_of_pos_right (Nat.pow_pos (by decide))
  | k + 1, B, S, z, hz => by
    rw [Ds] at hz
    obtain ⟨a, -, h2, h3⟩ := fl_m _ _ hz
    by_cases q : F a = true
    · rw [if_pos q] at h3
      have h4 := Ds_lt k a (S + 2 ^ a) z h3
      have h5 : 2 ^ (a + 1) ≤ 2 ^ B := Nat.pow_le_pow_right (by decide) (by omega)
      rw [Nat.pow_succ] at h5
      omega
    · rw [if_neg q] at h3
      exact absurd h3 List.not_mem_nil
theorem fnd_app (P : Nat → Bool) (L1 L2 : List Nat) : (L1 ++ L2).find? P = orS (L1.find? P) (L2.find? P) := by
  rw [List.find?_append]
  cases L1.find? P <;> rfl
def oF (o : Option Nat) : Int32 := match o with
  | none => -5
  | some S => Int32.ofNat S
theorem gl_loop {F P : Nat → Bool} {k' B S : Nat} {f : Int32 × Int32 → Option ((Int32 × Int32) ⊕ Int32)} (hB : B ≤ 25) (step : ∀ i o, i < B → (∀ S0, o = some S0 → S0 < S + 2 ^ i) → f (oF o, Int32.ofNat i) = some (.inl (oF (orS o ((if F i = true then Ds F k' i (S + 2 ^ i) else []).find? P)), Int32.ofNat (i + 1)))) (last : ∀ o, f (oF o, Int32.ofNat B) = some (.inr (oF o))) (o : Option Nat) (ho : ∀ S0, o = some S0 → S0 ≤ S) : whileN zFU f (oF o, Int32.ofNat 0) = some (oF (orS o ((Ds F (k' + 1) B S).find? P))) := by
  have key : ∀ (d i : Nat) (o : Option Nat) (fu : Nat), i + d = B → d < fu → (∀ S0, o = some S0 → S0 < S + 2 ^ i) → whileN fu f (oF o, Int32.ofNat i) = some (oF (orS o ((fl (fun a => if F a = true then Ds F k' a (S + 2 ^ a) else []) i d).find? P))) := by
    intro d
    induction d with
    | zero =>
      intro i o fu hi hf ho
      obtain ⟨fu', rfl⟩ : ∃ k, fu = k + 1 := ⟨fu - 1, by omega⟩
      obtain rfl : i = B := by omega
      rw [whileN, last o, show (fl (fun a => if F a = true then Ds F k' a (S + 2 ^ a) else []) i 0).find? P = none from rfl, orS_n]
    | succ d ih =>
      intro i o fu hi hf ho
      obtain ⟨fu', rfl⟩ : ∃ k, fu = k + 1 := ⟨fu - 1, by omega⟩
      rw [whileN, step i o (by omega) ho]
      show whileN fu' f _ = _
      rw [ih (i + 1) _ fu' (by omega) (by omega) (fun S0 hS0 => by
          cases o with
          | some S1 =>
            obtain rfl := Option.some.inj hS0
            have := ho S1 rfl
            have h2 : 2 ^ i ≤ 2 ^ (i + 1) := Nat.pow_le_pow_right (by decide) (by omega)
            omega
          | none =>
            have hm : S0 ∈ (if F i = true then Ds F k' i (S + 2 ^ i) else []) := List.mem_of_find?_eq_some (show List.find? P _ = some S0 from hS0)
            by_cases q : F i = true
            · rw [if_pos q] at hm
              have := Ds_lt k' i (S + 2 ^ i) _ hm
              rw [Nat.pow_succ]
              omega
            · rw [if_neg q] at hm
              exact absurd hm List.not_mem_nil), fl_s, fnd_app, orS_a]
  rw [Ds]
  exact key B 0 o zFU (by omega) (zn_FU (by omega)) (fun S0 h0 => by have := ho S0 h0; omega)
/-- what it is about: men, links -/
def GC (A : Nat) (Q : Nat → Nat) (m : zv_M) : Prop := A < 2 ^ 25 ∧ ∀ s, s < 25 → A.testBit s = true → m.1 91 s = Int32.ofNat (Q s)
def PG (A : Nat) (Q : Nat → Nat) (S : Nat) : Bool := pzb Q (ad A S)
theorem gone1 {A : Nat} {Q : Nat → Nat} {m : zv_M} (c : GC A Q m) {S : Nat} (hS : S < 2147483648) (o : Option Nat) (ho : ∀ S0, o = some S0 → S0 ≤ S) : fM_gone (Int32.ofNat A) (Int32.ofNat S) (oF o) m = some (oF (orS o ([S].find? (PG A Q)))) := by
  have hp := peaceOf_ok (Q := Q) (X := ad A S) (m := m) (ad_lt c.1) (fun s hs hb => c.2 s hs (by rw [ad_t] at hb; exact (Bool.and_eq_true _ _ |>.mp hb).1))
  rw [List.find?_cons]
  cases o with
  | none =>
    rw [fM_gone, show oF none = (-5 : Int32) from rfl, if_pos (by decide), fM_gone_j9, n_ad, hp, zb1_s, if01]
    show _ = some (oF (orS none (match PG A Q S with | true => some S | false => [].find? (PG A Q))))
    unfold PG
    cases pzb Q (ad A S) <;> rfl
  | some S0 =>
    have h0 := ho S0 rfl
    rw [fM_gone, show oF (some S0) = Int32.ofNat S0 from rfl, if_neg (i_lt0 (by omega)), if_neg (fun z => by have := (i_lt hS (by omega)).mp z; omega)]
    rfl
theorem goes_4 {A a b c : Nat} {Q : Nat → Nat} {m : zv_M} (hc : GC A Q m) (ha : a < 25) (hb : b < a) (hcb : c < b) (o : Option Nat) (ho : ∀ S0, o = some S0 → S0 ≤ 2 ^ a + 2 ^ b + 2 ^ c) : whileN zFU (fM_goes_l176 (Int32.ofNat A) m (Int32.ofNat a) (Int32.ofNat b) (Int32.ofNat c)) (oF o, Int32.ofNat 0) = some (oF (orS o ((Ds A.testBit 1 c (2 ^ a + 2 ^ b + 2 ^ c)).find? (PG A Q)))) := by
  refine gl_loop (k' := 0) (by omega) (fun i o hi ho => ?_) (fun o => ?_) o ho
  · have t1 := two_lt (show a < 25 by omega)
    have t2 := two_lt (show b < 25 by omega)
    have t5 := two_lt (show c < 25 by omega)
    have t4 := two_lt (show i < 25 by omega)
    have t3 : 2 ^ a + 2 ^ b + 2 ^ c + 2 ^ i < 2 ^ 25 := by rw [← or5 hb hcb hi, ← or4 hb hcb, ← or3 hb]; exact or25 (or25 (or25 t1 t2) t5) t4
    rw [fM_goes_l176, if_pos ((i_lt (by omega) (by omega)).mpr hi), n_has (by omega), zb1_s, if01, n_sh a (by omega), n_sh b (by omega), n_sh c (by omega), n_sh i (by omega), n_or, n_or, n_or, or3 hb, or4 hb hcb, or5 hb hcb hi, fM_goes_j219, inc]
    cases hF : A.testBit i
    · rw [if_neg (show ¬ false = true by decide), if_neg (show ¬ false = true by decide), show ([] : List Nat).find? (PG A Q) = none from rfl, orS_n]
    · rw [if_pos (show true = true from rfl), if_pos (show true = true from rfl), gone1 hc (p25 t3) o (fun S0 h0 => by have := ho S0 h0; omega), zb1_s, fM_goes_j219, inc]
      rfl
  · rw [fM_goes_l176, if_neg (fun q => by have := (i_lt (by omega) (by omega)).mp q; omega)]
theorem goes_3 {A a b K : Nat} {Q : Nat → Nat} {m : zv_M} (hc : GC A Q m) (hK : K = 3 ∨ K = 4) (ha : a < 25) (hb : b < a) (o : Option Nat) (ho : ∀ S0, o = some S0 → S0 ≤ 2 ^ a + 2 ^ b) : whileN zFU (fM_goes_l124 (Int32.ofNat A) (Int32.ofNat K) m (Int32.ofNat a) (Int32.ofNat b)) (oF o, Int32.ofNat 0) = some (oF (orS o ((Ds A.testBit (K - 2) b (2 ^ a + 2 ^ b)).find? (PG A Q)))) := by
  have hK2 : K - 2 = (K - 3) + 1 := by omega
  rw [hK2]
  refine gl_loop (k' := K - 3) (by omega) (fun i o hi ho => ?_) (fun o => ?_) o ho
  · have t1 := two_lt (show a < 25 by omega)
    have t2 := two_lt (show b < 25 by omega)
    have t4 := two_lt (show i < 25 by omega)
    have t3 : 2 ^ a + 2 ^ b + 2 ^ i < 2 ^ 25 := by rw [← or4 hb hi, ← or3 hb]; exact or25 (or25 t1 t2) t4
    rw [fM_goes_l124, if_pos ((i_lt (by omega) (by omega)).mpr hi), n_has (by omega), zb1_s, if01, n_sh a (by omega), n_sh b (by omega), n_sh i (by omega), n_or, n_or, or3 hb, or4 hb hi, fM_goes_j225, inc]
    cases hF : A.testBit i
    · rw [if_neg (show ¬ false = true by decide), if_neg (show ¬ false = true by decide), show ([] : List Nat).find? (PG A Q) = none from rfl, orS_n]
    · rw [if_pos (show true = true from rfl), if_pos (show true = true from rfl)]
      rcases hK with rfl | rfl
      · rw [if_pos (by decide), gone1 hc (p25 t3) o (fun S0 h0 => by have := ho S0 h0; omega), zb1_s, fM_goes_j225, inc]
        rfl
      · have e := goes_4 hc ha hb hi o (fun S0 h0 => by have := ho S0 h0; omega)
        have e' : whileN zFU (fM_goes_l176 (Int32.ofNat A) m (Int32.ofNat a) (Int32.ofNat b) (Int32.ofNat i)) (oF o, 0) = _ := e
        rw [if_neg (by decide), e', zb1_s, fM_goes_j225, inc]
  · rw [fM_goes_l124, if_neg (fun q => by have := (i_lt (by omega) (by omega)).mp q; omega)]
theorem goes_2 {A a K : Nat} {Q : Nat → Nat} {m : zv_M} (hc : GC A Q m) (hK : K = 2 ∨ K = 3 ∨ K = 4) (ha : a < 25) (o : Option Nat) (ho : ∀ S0, o = some S0 → S0 ≤ 2 ^ a) : whileN zFU (fM_goes_l77 (Int32.ofNat A) (Int32.ofNat K) m (Int32.ofNat a)) (oF o, Int32.ofNat 0) = some (oF (orS o ((Ds A.testBit (K - 1) a (2 ^ a)).find? (PG A Q)))) := by
  have hK2 : K - 1 = (K - 2) + 1 := by omega
  rw [hK2]
  refine gl_loop (k' := K - 2) (by omega) (fun i o hi ho => ?_) (fun o => ?_) o ho
  · have t1 := two_lt (show a < 25 by omega)
    have t4 := two_lt (show i < 25 by omega)
    have t3 : 2 ^ a + 2 ^ i < 2 ^ 25 := by rw [← or3 hi]; exact or25 t1 t4
    rw [fM_goes_l77, if_pos ((i_lt (by omega) (by omega)).mpr hi), n_has (by omega), zb1_s, if01, n_sh a (by omega), n_sh i (by omega), n_or, or3 hi, fM_goes_j231, inc]
    cases hF : A.testBit i
    · rw [if_neg (show ¬ false = true by decide), if_neg (show ¬ false = true by decide), show ([] : List Nat).find? (PG A Q) = none from rfl, orS_n]
    · rw [if_pos (show true = true from rfl), if_pos (show true = true from rfl)]
      rcases hK with rfl | hK
      · rw [if_pos (by decide), gone1 hc (p25 t3) o (fun S0 h0 => by have := ho S0 h0; omega), zb1_s, fM_goes_j231, inc]
        rfl
      · have e := goes_3 hc hK ha hi o (fun S0 h0 => by have := ho S0 h0; omega)
        have e' : whileN zFU (fM_goes_l124 (Int32.ofNat A) (Int32.ofNat K) m (Int32.ofNat a) (Int32.ofNat i)) (oF o, 0) = _ := e
        rw [if_neg (show ¬ Int32.ofNat K = 2 from fun z => by have := (i_eq (b := 2) (by omega) (by decide)).mp z; omega), e', zb1_s, fM_goes_j231, inc]
  · rw [fM_goes_l77, if_neg (fun q => by have := (i_lt (by omega) (by omega)).mp q; omega)]
theorem goes_1 {D : Dt} {A K : Nat} {Q : Nat → Nat} {m : zv_M} (hS : CS D) (cM : CM D m) (hc : GC A Q m) (hK : K = 1 ∨ K = 2 ∨ K = 3 ∨ K = 4) : whileN zFU (fM_goes_l31 (Int32.ofNat A) (Int32.ofNat K) m) (-5, 0) = some (oF ((Ds A.testBit K (dW D * dW D) 0).find? (PG A Q))) := by
  have hWW := CS_WW hS
  have hK2 : K = (K - 1) + 1 := by omega
  have g := gl_loop (F := A.testBit) (P := PG A Q) (k' := K - 1) (B := dW D * dW D) (S := 0) (f := fM_goes_l31 (Int32.ofNat A) (Int32.ofNat K) m) hWW (fun i o hi ho => by
    have t3 := two_lt (show i < 25 by omega)
    rw [fM_goes_l31, WWm cM, if_pos ((i_lt (by omega) (by omega)).mpr hi), if_pos (show (0 : Int32) < Int32.ofNat K from (i_lt (a := 0) (by decide) (by omega)).mpr (by omega)), n_has (by omega), zb1_s, if01, n_sh i (by omega), fM_goes_j237, inc, Nat.zero_add]
    cases hF : A.testBit i
    · rw [if_neg (show ¬ false = true by decide), if_neg (show ¬ false = true by decide), show ([] : List Nat).find? (PG A Q) = none from rfl, orS_n]
    · rw [if_pos (show true = true from rfl), if_pos (show true = true from rfl)]
      rcases hK with rfl | hK
      · rw [if_pos (by decide), gone1 hc (p25 t3) o (fun S0 h0 => by have := ho S0 h0; omega), zb1_s, fM_goes_j237, inc]
        rfl
      · have e := goes_2 hc hK (show i < 25 by omega) o (fun S0 h0 => by have := ho S0 h0; omega)
        have e' : whileN zFU (fM_goes_l77 (Int32.ofNat A) (Int32.ofNat K) m (Int32.ofNat i)) (oF o, 0) = _ := e
        rw [if_neg (show ¬ Int32.ofNat K = 1 from fun z => by have := (i_eq (b := 1) (by omega) (by decide)).mp z; omega), e', zb1_s, fM_goes_j237, inc]) (fun o => by
    rw [fM_goes_l31, WWm cM, if_neg (fun q => by have := (i_lt (by omega) (by omega)).mp q; omega)]) none (fun S0 h0 => by cases h0)
  rw [← hK2] at g
  exact g
theorem goes_ok {D : Dt} {A K : Nat} {Q : Nat → Nat} {m : zv_M} (hS : CS D) (cM : CM D m) (hc : GC A Q m) (hK : K < 5) : fM_goes (Int32.ofNat A) (Int32.ofNat K) m = some (match (Ds A.testBit K (dW D * dW D) 0).find? (PG A Q) with | some _ => 1 | none => 0, wI m 68 38 (oF ((Ds A.testBit K (dW D * dW D) 0).find? (PG A Q)))) := by
  have hWW := CS_WW hS
  have h4 : 2 * 2 ≤ dW D * dW D := Nat.mul_le_mul hS.2.1 hS.2.1
  have fin : ∀ (o : Option Nat) (a1 : Int32), (∀ S, o = some S → S < 2147483648) → whileN zFU (fM_goes_l31 (Int32.ofNat A) (Int32.ofNat K) m) (a1, 0) = some (oF o) → fM_goes_j28 (Int32.ofNat A) (Int32.ofNat K) m a1 = some (match o with | some _ => 1 | none => 0, wI m 68 38 (oF o)) := fun o a1 ho e => by
    rw [fM_goes_j28, e, zb1_s]
    cases o with
    | none => rw [show oF none = (-5 : Int32) from rfl, if_pos (by decide)]
    | some S => rw [show oF (some S) = Int32.ofNat S from rfl, if_neg (i_lt0 (ho S rfl))]
  rcases Nat.eq_zero_or_pos K with q | q
  · subst q
    have hp := peaceOf_ok (Q := Q) (X := A) (m := m) hc.1 hc.2
    have h0 : ad A 0 = A := by
      apply Nat.eq_of_testBit_eq
      intro i
      rw [ad_t, Nat.zero_testBit]
      simp
    have skip : ∀ a1 : Int32, whileN zFU (fM_goes_l31 (Int32.ofNat A) (Int32.ofNat 0) m) (a1, 0) = some a1 := fun a1 => wn_eq _ (fun i => (a1, Int32.ofNat i)) 0 a1 (by decide) (fun i hi => absurd hi (Nat.not_lt_zero i)) (by
      show fM_goes_l31 _ _ _ (a1, Int32.ofNat 0) = _
      rw [fM_goes_l31, WWm cM, if_pos ((i_lt (by omega) (by omega)).mpr (by omega)), if_neg (by decide)])
    have hL : (Ds A.testBit 0 (dW D * dW D) 0).find? (PG A Q) = if pzb Q A = true then some 0 else none := by
      rw [Ds, List.find?_cons]
      unfold PG
      rw [h0]
      cases pzb Q A <;> rfl
    rw [fM_goes, if_pos (by decide), hp, zb1_s, if01, hL]
    cases hz : pzb Q A
    · rw [if_neg (show ¬ false = true by decide), if_neg (show ¬ false = true by decide)]
      exact fin none (-5) (fun S h => by cases h) (skip (-5))
    · rw [if_pos (show true = true from rfl), if_pos (show true = true from rfl)]
      exact fin (some 0) 0 (fun S h => by obtain rfl := Option.some.inj h; decide) (skip 0)
  · rw [fM_goes, if_neg (show ¬ Int32.ofNat K = 0 from fun z => by have := (i_eq (b := 0) (by omega) (by decide)).mp z; omega)]
    refine fin _ (-5) (fun S h => ?_) (goes_1 hS cM hc (by omega))
    have := Ds_lt _ _ _ _ (List.mem_of_find?_eq_some h)
    have h2 : 2 ^ (dW D * dW D) ≤ 2 ^ 25 := Nat.pow_le_pow_right (by decide) hWW
    omega
