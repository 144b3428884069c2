/-! Int32 as a natural number: every index and count of the two programs is Int32.ofNat k, k < 2^31. -/
theorem i_cases (x : Int32) : x < 0 ∨ ∃ k : Nat, k < 2147483648 ∧ x = Int32.ofNat k := by
  by_cases h : x < 0
  · exact Or.inl h
  · refine Or.inr ⟨x.toInt.toNat, ?_, ?_⟩
    · have := x.toInt_lt
      omega
    · rw [Int32.lt_iff_toInt_lt] at h
      have h' : 0 ≤ x.toInt := by
        have : ¬ x.toInt < 0 := h
        omega
      apply Int32.toInt_inj.mp
      have := x.toInt_lt
      rw [i_ofNat (by omega)]
      omega
theorem i_lt {a b : Nat} (ha : a < 2147483648) (hb : b < 2147483648) : Int32.ofNat a < Int32.ofNat b ↔ a < b := by
  rw [Int32.lt_iff_toInt_lt, i_ofNat ha, i_ofNat hb]
  omega
theorem i_lt0 {a : Nat} (ha : a < 2147483648) : ¬ Int32.ofNat a < 0 := by
  have h : ¬ (Int32.ofNat a < Int32.ofNat 0) := by
    rw [i_lt ha (by decide)]
    omega
  exact h
theorem i_tn {a : Nat} (ha : a < 2147483648) : (Int32.ofNat a).toNatClampNeg = a := by
  rw [← Int32.toNat_toInt, i_ofNat ha]
  omega
theorem i_eq {a b : Nat} (ha : a < 2147483648) (hb : b < 2147483648) : Int32.ofNat a = Int32.ofNat b ↔ a = b := by
  constructor
  · intro h
    have := congrArg Int32.toNatClampNeg h
    rwa [i_tn ha, i_tn hb] at this
  · rintro rfl
    rfl
theorem i_ne {a : Nat} (ha : a < 2147483648) {x : Int32} (hx : x < 0) : ¬ Int32.ofNat a = x := by
  rintro rfl
  exact i_lt0 ha hx
theorem zI_n {a n : Nat} (ha : a < 2147483648) (h : a < n) : zI (Int32.ofNat a) n = true := by
  simp [zI, i_lt0 ha, i_tn ha, h]
theorem i_pl (a b : Nat) : Int32.ofNat a + Int32.ofNat b = Int32.ofNat (a + b) := (Int32.ofNat_add a b).symm
theorem i_mu (a b : Nat) : Int32.ofNat a * Int32.ofNat b = Int32.ofNat (a * b) := (Int32.ofNat_mul a b).symm
theorem i_mi {a b : Nat} (h : b ≤ a) (ha : a < 2147483648) : Int32.ofNat a - Int32.ofNat b = Int32.ofNat (a - b) := by
  apply Int32.toInt_inj.mp
  rw [i_sub (by rw [i_ofNat ha, i_ofNat (by omega)]; omega) (by rw [i_ofNat ha, i_ofNat (by omega)]; omega), i_ofNat ha, i_ofNat (by omega), i_ofNat (by omega)]
  omega
/-- one write, read again -/
theorem wI_e (m : zv_M) (o k : Nat) (v : Int32) : (wI m o k v).1 o k = v := if_pos ⟨rfl, rfl⟩
theorem wI_o (m : zv_M) {o k o' k' : Nat} (v : Int32) (h : ¬ (o' = o ∧ k' = k)) : (wI m o k v).1 o' k' = m.1 o' k' := if_neg h
theorem wI_2 (m : zv_M) (o k : Nat) (v : Int32) : (wI m o k v).2 = m.2 := rfl
