/-! The words of the clauses. -/
def wds (w : Nat) : List Nat := if w = 0 then [119, 105, 100, 101, 32] else if w = 1 then [104, 111, 108, 101, 32] else if w = 2 then [98, 97, 114, 32] else if w = 3 then [114, 111, 117, 110, 100] else [102, 108, 97, 116]
def wdB (w : Nat) : Bool := decide (zsl w = (wds w).length) && (wds w).all (fun c => decide (c < 128)) && (List.range (zsl w)).all (fun j => decide (zsc w j = Int32.ofNat ((wds w).getD j 0)))
theorem wdB_ok : ∀ w, w < 5 → wdB w = true := by decide +kernel
theorem n_wd {L : Nat → Nat} {n W : Nat} {m : zv_M} (h : TXN L n W m) {w : Nat} (hw : w < 5) {p : Nat} (hp : p ≤ n) : fRe_readWord w (rdA m L p 0) = some (match pW L (wds w) p with
    | .inl q => rdA m L q 1
    | .inr q => rdA m L q 0) := by
  have b := wdB_ok w hw
  unfold wdB at b
  obtain ⟨b, b3⟩ := Bool.and_eq_true _ _ |>.mp b
  obtain ⟨b1, b2⟩ := Bool.and_eq_true _ _ |>.mp b
  have b1 := of_decide_eq_true b1
  have l5 : (wds w).length < 10 := by
    rcases (show w = 0 ∨ w = 1 ∨ w = 2 ∨ w = 3 ∨ w = 4 by omega) with rfl | rfl | rfl | rfl | rfl <;> decide
  have e := n_word h (w := w) (by omega) (wds w) 0 p zFU (by omega) (fun j hj => by
    rw [Nat.zero_add]
    exact of_decide_eq_true (List.all_eq_true.mp b3 j (List.mem_range.mpr (by omega)))) (fun c hc => of_decide_eq_true (List.all_eq_true.mp b2 c hc)) hp (zn_FU (by omega))
  have e' : whileN zFU (fRe_readWord_l2 w) (0, rdA m L p 0) = _ := e
  rw [fRe_readWord, e', zb1_s]
  rfl
