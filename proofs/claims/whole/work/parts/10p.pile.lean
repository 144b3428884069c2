/-! The class's piles: at o, their items at a, room for cap. -/
def gP (m : zv_M) (o a cap n : Nat) : Prop := zrf o 0 = a ∧ zln a = cap ∧ ¬ a = o ∧ m.1 o 1 = Int32.ofNat n ∧ n ≤ cap ∧ cap < 1000000
theorem pi_get {m : zv_M} {o a cap n k : Nat} (h : gP m o a cap n) (hk : k < 2147483648) : fPi_get o (Int32.ofNat k) m = some (if k < n then m.1 a k else 0) := by
  obtain ⟨h1, h2, -, h3, h4, h5⟩ := h
  rw [fPi_get, if_neg (i_lt0 hk), h3, h1, h2]
  by_cases q : k < n
  · rw [if_pos ((i_lt hk (by omega)).mpr q), if_pos ((i_lt hk (by omega)).mpr (by omega)), zI_n hk (by omega), zg_t, i_tn hk, if_pos q]
  · rw [if_neg (fun z => q ((i_lt hk (by omega)).mp z)), if_neg q]
theorem pi_full {m : zv_M} {o a cap n : Nat} (h : gP m o a cap n) : fPi_isFull o m = some (if n < cap then 0 else 1) := by
  obtain ⟨h1, h2, -, h3, h4, h5⟩ := h
  rw [fPi_isFull, h3, h1, h2]
  by_cases q : n < cap
  · rw [if_pos ((i_lt (by omega) (by omega)).mpr q), if_pos q]
  · rw [if_neg (fun z => q ((i_lt (by omega) (by omega)).mp z)), if_neg q]
theorem pi_add {m : zv_M} {o a cap n : Nat} (h : gP m o a cap n) (hn : n < cap) (v : Int32) : fPi_add o v m = some (wI (wI m a n v) o 1 (Int32.ofNat (n + 1))) := by
  obtain ⟨h1, h2, h0, h3, h4, h5⟩ := h
  rw [fPi_add, h3, h1, h2, if_neg (i_lt0 (by omega)), if_pos ((i_lt (by omega) (by omega)).mpr hn), zI_n (by omega) hn, zg_t, i_tn (by omega), wI_o m v (fun q => h0 q.1.symm), h3]
  exact congrArg (fun z => some (wI (wI m a n v) o 1 z)) (i_pl n 1)
theorem pi_put {m : zv_M} {o a cap n k : Nat} (h : gP m o a cap n) (hk : k < n) (v : Int32) : fPi_put o (Int32.ofNat k) v m = some (wI m a k v) := by
  obtain ⟨h1, h2, -, h3, h4, h5⟩ := h
  rw [fPi_put, if_neg (i_lt0 (by omega)), h3, h1, h2, if_pos ((i_lt (by omega) (by omega)).mpr hk), if_pos ((i_lt (by omega) (by omega)).mpr (by omega)), zI_n (by omega) (by omega), zg_t, i_tn (by omega)]
