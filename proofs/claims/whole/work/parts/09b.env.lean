theorem we_cls {s : State} {args : Array Value} (hts : ∀ w ∈ lw_tbl, w.before args s = true) : ∃ D : va_G, ∀ (c : Nat) (q : vw_C), vwCl[c]? = some q → u_Kn s q.1 q.2.1 q.2.2 (D.1 c) (D.2 c) := by
  have h : ∀ c : Nat, ∃ x : ClassId × (Nat → Nat), ∀ q : vw_C, vwCl[c]? = some q → u_Kn s q.1 q.2.1 q.2.2 x.1 x.2 := by
    intro c
    match c with
    | 0 =>
      obtain ⟨c0, i0, h⟩ := u_known (C := RX0) (T := TX0) (N := 5) (n := 5) hts inX0 (hts _ (List.mem_filter.mp wins_0).1)
      exact ⟨(c0, i0), fun q hq => by cases hq; exact h⟩
    | 1 =>
      obtain ⟨c0, i0, h⟩ := u_known (C := RX1) (T := TX1) (N := 3) (n := 3) hts inX1 (hts _ (List.mem_filter.mp wins_1).1)
      exact ⟨(c0, i0), fun q hq => by cases hq; exact h⟩
    | 2 =>
      obtain ⟨c0, i0, h⟩ := u_known (C := RX2) (T := TX2) (N := 2) (n := 2) hts inX2 (hts _ (List.mem_filter.mp wins_2).1)
      exact ⟨(c0, i0), fun q hq => by cases hq; exact h⟩
    | 3 =>
      obtain ⟨c0, i0, h⟩ := u_known (C := RX3) (T := TX3) (N := 8) (n := 8) hts inX3 (hts _ (List.mem_filter.mp wins_3).1)
      exact ⟨(c0, i0), fun q hq => by cases hq; exact h⟩
    | 4 =>
      obtain ⟨c0, i0, h⟩ := u_known (C := RX4) (T := TX4) (N := 2) (n := 2) hts inX4 (hts _ (List.mem_filter.mp wins_4).1)
      exact ⟨(c0, i0), fun q hq => by cases hq; exact h⟩
    | 5 =>
      obtain ⟨c0, i0, h⟩ := u_known (C := RX5) (T := TX5) (N := 9) (n := 9) hts inX5 (hts _ (List.mem_filter.mp wins_5).1)
      exact ⟨(c0, i0), fun q hq => by cases hq; exact h⟩
    | 6 =>
      obtain ⟨c0, i0, h⟩ := u_known (C := RX6) (T := TX6) (N := 3) (n := 3) hts inX6 (hts _ (List.mem_filter.mp wins_6).1)
      exact ⟨(c0, i0), fun q hq => by cases hq; exact h⟩
    | 7 =>
      obtain ⟨c0, i0, h⟩ := u_known (C := RX7) (T := TX7) (N := 2) (n := 2) hts inX7 (hts _ (List.mem_filter.mp wins_7).1)
      exact ⟨(c0, i0), fun q hq => by cases hq; exact h⟩
    | 8 =>
      obtain ⟨c0, i0, h⟩ := u_known (C := RX8) (T := TX8) (N := 4) (n := 4) hts inX8 (hts _ (List.mem_filter.mp wins_8).1)
      exact ⟨(c0, i0), fun q hq => by cases hq; exact h⟩
    | 9 =>
      obtain ⟨c0, i0, h⟩ := u_known (C := RX9) (T := TX9) (N := 10) (n := 10) hts inX9 (hts _ (List.mem_filter.mp wins_9).1)
      exact ⟨(c0, i0), fun q hq => by cases hq; exact h⟩
    | 10 =>
      obtain ⟨c0, i0, h⟩ := u_known (C := RX10) (T := TX10) (N := 14) (n := 14) hts inX10 (hts _ (List.mem_filter.mp ws_s10).1)
      exact ⟨(c0, i0), fun q hq => by cases hq; exact h⟩
    | 11 =>
      obtain ⟨c0, i0, h⟩ := u_known (C := RX11) (T := TX11) (N := 72) (n := 72) hts inX11 (hts _ (List.mem_filter.mp ws_s11).1)
      exact ⟨(c0, i0), fun q hq => by cases hq; exact h⟩
    | k + 12 => exact ⟨(0, fun _ => 0), fun q hq => by cases hq⟩
  exact ⟨(fun c => (h c).choose.1, fun c => (h c).choose.2), fun c q hq => (h c).choose_spec q hq⟩
theorem we_ac {s : State} {args : Array Value} {ty : FieldType} (h : (Cond.arrayClass ty).before args s = true) (hp : ∀ cA : ClassId, s.vm.findClass ("[" ++ ty.toString) = some cA → va_RA s cA ty) : ∃ cA : ClassId, ArrOfT s cA ty ∧ va_RA s cA ty := by
  obtain ⟨c, k, comp, h1, h2, h3⟩ := Cond.arrayClass_spec (args := args) (first := s) (o := none) (idx := []) h
  exact ⟨c, fun n z => ⟨(fun k h => by cases h), k, h2, comp, h3⟩, hp c h1⟩
theorem we_arr {s : State} {args : Array Value} (hts : ∀ w ∈ lw_tbl, w.before args s = true) : ∃ cA : Nat → ClassId, ∀ t, t < 5 → ArrOfT s (cA t) (zv_ty t) ∧ va_RA s (cA t) (zv_ty t) := by
  have h : ∀ t : Nat, ∃ cA : ClassId, t < 5 → ArrOfT s cA (zv_ty t) ∧ va_RA s cA (zv_ty t) := by
    intro t
    match t with
    | 0 =>
      obtain ⟨c, h⟩ := we_ac (ty := zv_ty 0) (hts _ (List.mem_filter.mp zwa_0).1) (fun c h => h)
      exact ⟨c, fun _ => h⟩
    | 1 =>
      obtain ⟨c, h⟩ := we_ac (ty := zv_ty 1) (hts _ (List.mem_filter.mp zwa_1).1) (fun c h => h)
      exact ⟨c, fun _ => h⟩
    | 2 =>
      obtain ⟨c, h⟩ := we_ac (ty := zv_ty 2) (hts _ (List.mem_filter.mp zwa_2).1) (fun c h => h)
      exact ⟨c, fun _ => h⟩
    | 3 =>
      obtain ⟨c, h⟩ := we_ac (ty := zv_ty 3) (hts _ (List.mem_filter.mp zwa_3).1) (fun c h => h)
      exact ⟨c, fun _ => h⟩
    | 4 =>
      obtain ⟨comp, c, k, h1, -, h3, h4, h5⟩ := Cond.arrayOver_spec (args := args) (first := s) (o := none) (idx := []) (hts _ (List.mem_filter.mp zwo).1)
      exact ⟨c, fun _ => ⟨fun n z => ⟨(fun k h => by cases h), k, h3, comp, h4⟩, k, comp, h3, h4, h1, h5⟩⟩
    | k + 5 => exact ⟨0, fun h => absurd h (by omega)⟩
  exact ⟨fun t => (h t).choose, fun t ht => (h t).choose_spec ht⟩
def we_st (k : Nat) : Term := .static (zv_tc k) (zv_tn k) "[I"
def we_sg (w : Nat) : Term := .string "NoneSees$YardReader" (zsk w)
def we_len : List Nat := [5, 5, 4, 5, 4, 1]
def we_fl : List Cond := flatC (Jvm.Cond.and given_1 narrow_1)
def we_in (c : Cond) : Bool := we_fl.any (fun d => decide (d = c))
theorem we_in_ok {c : Cond} (h : we_in c = true) : c ∈ we_fl := by
  obtain ⟨d, hd, he⟩ := List.any_eq_true.mp h
  cases of_decide_eq_true he
  exact hd
theorem we_t1 : ∀ k, k < 4 → we_in (.arrayOf (we_st k) .int) = true := by decide +kernel
theorem we_t2 : ∀ k, k < 4 → we_in (.eq (.length (we_st k)) (.int (Int32.ofNat (zv_tl k)))) = true := by decide +kernel
theorem we_t3 : ∀ k, k < 4 → ∀ j, j < zv_tl k → we_in (.eq (.elem (we_st k) (.int (Int32.ofNat j))) (.int (zv_tv k j))) = true := by decide +kernel
theorem we_t4 : ∀ k, k < 4 → Cond.laysStatic (zv_tc k) (zv_tn k) "[I" ∈ lw_tbl ∧ Cond.initialized (zv_tc k) ∈ lw_tbl := by decide +kernel
theorem we_s1 : ∀ w, w < 6 → we_in (.exactly (we_sg w) "java/lang/String") = true := by decide +kernel
theorem we_s2 : ∀ w, w < 6 → we_in (.eq (.field (we_sg w) "java/lang/String" "coder" "B") (.int 0)) = true := by decide +kernel
theorem we_s3 : ∀ w, w < 6 → we_in (.arrayOf (.field (we_sg w) "java/lang/String" "value" "[B") .byte) = true := by decide +kernel
theorem we_s4 : ∀ w, w < 6 → we_in (.eq (.length (.field (we_sg w) "java/lang/String" "value" "[B")) (.int (Int32.ofNat (we_len.getD w 0)))) = true := by decide +kernel
theorem we_s5 : ∀ w, w < 6 → ∀ j, j < we_len.getD w 0 → we_in (.eq (.elem (.field (we_sg w) "java/lang/String" "value" "[B") (.int (Int32.ofNat j))) (.int ((zstrs.getD w []).getD j 0))) = true := by decide +kernel
theorem we_s6 : ∀ i, i < 6 → ∀ j, j < 6 → i ≠ j → we_in (Cond.not (Cond.eq (we_sg i) (we_sg j))) = true ∨ we_in (Cond.not (Cond.eq (we_sg j) (we_sg i))) = true := by decide +kernel
theorem we_s7 : ∀ w, w < 6 → Cond.stringRef "NoneSees$YardReader" (zsk w) (zstx w) ∈ lw_tbl := by decide +kernel
theorem we_c1 : we_in (.eq (.static "java/lang/String" "COMPACT_STRINGS" "Z") (.int 1)) = true := by decide +kernel
theorem we_c2 : we_in (.isRef (.static "jdk/internal/util/Preconditions" "SIOOBE_FORMATTER" "Ljava/util/function/BiFunction;")) = true := by decide +kernel
theorem we_c3 : Cond.laysStatic "java/lang/String" "COMPACT_STRINGS" "Z" ∈ lw_tbl ∧ Cond.initialized "java/lang/String" ∈ lw_tbl ∧ Cond.laysStatic "jdk/internal/util/Preconditions" "SIOOBE_FORMATTER" "Ljava/util/function/BiFunction;" ∈ lw_tbl ∧ Cond.initialized "jdk/internal/util/Preconditions" ∈ lw_tbl := by decide +kernel
theorem we_St {s : State} {args : Array Value} (hts : ∀ w ∈ lw_tbl, w.before args s = true) (hgv : (Jvm.Cond.and given_1 narrow_1).before args s = true) : ∃ tb sx, zv_St s tb sx := by
  have hg : ∀ c, we_in c = true → c.before args s = true := fun c h => flat_of_before _ hgv c (we_in_ok h)
  have hA : ∀ a : Nat, a < s.heap.size → ¬ (fun q : Nat => s.heap.size ≤ q) a := fun a h => Nat.not_le.mpr h
  obtain ⟨sx, sv, hS, he⟩ := vk_Sof (args := args) (s := s) (N := 6) (tm := we_sg) (len := we_len) (byt := zstrs) (A := fun q => s.heap.size ≤ q) (by decide) (fun i hi => hg _ (we_s1 i hi)) (fun i hi => hg _ (we_s2 i hi)) (fun i hi => hg _ (we_s3 i hi)) (fun i hi => hg _ (we_s4 i hi)) (fun i hi j hj => hg _ (we_s5 i hi j hj)) (fun i j hi hj hn => (we_s6 i hi j hj hn).imp (hg _) (hg _)) hA
  have ht : ∀ k : Nat, ∃ t : Nat, k < 4 → va_Z (zv_tc k) (zv_tn k) "[I" (.ref t) (fun q => s.heap.size ≤ q) s s.heap ∧ va_T .int t (zv_tl k) (fun j => .int (zv_tv k j)) (fun q => s.heap.size ≤ q) s s.heap := by
    intro k
    by_cases hk : k < 4
    · have hN : zv_tl k < 2 ^ 31 := (by decide : ∀ k, k < 4 → zv_tl k < 2 ^ 31) k hk
      obtain ⟨t, h1, h2⟩ := va_Tof (tm := we_st k) (f := fun j => .int (zv_tv k j)) (A := fun q => s.heap.size ≤ q) hN (hg _ (we_t1 k hk)) (va_eqt (hg _ (we_t2 k hk))) (fun j hj => va_eqt (hg _ (we_t3 k hk j hj))) hA
      exact ⟨t, fun _ => ⟨va_Zref (hts _ (we_t4 k hk).1) (hts _ (we_t4 k hk).2) h1 hA, h2⟩⟩
    · exact ⟨0, fun h => absurd h hk⟩
  refine ⟨fun k => (ht k).choose, sx, ⟨sv, hS, fun w hw => vk_R.of (hts _ (we_s7 w hw)) (he w hw), ?_, ?_⟩, fun k hk => (ht k).choose_spec hk⟩
  · exact va_Zof (hts _ we_c3.1) (hts _ we_c3.2.1) (va_eqi (hg _ we_c1)) hA
  · exact va_Zqof (hts _ we_c3.2.2.1) (hts _ we_c3.2.2.2) (hg _ we_c2) hA
/-- the law comes to its end with true, if its function does -/
theorem we_start {p : Program} {e : Env} {s : State} {m : MethodId} {below : List Frame} {meth : Method} {c : Code} (l : Launch) {b L : Nat} {xs : Nat → Int32} (hF : fLaw L xs zm_0 = some 1) (C0 : lw_At p s m meth c b L xs) : W p l e room_1 s m #[Value.ref b] below meth c s.heap [] 0 0 (lw_Z below #[Value.ref b] s) (entryFrame m ([Value.ref b] : List Value).toArray 4) := by
  obtain ⟨hx, hb, hr, hml, hown, hts, hX, hbl, hlocks, hgv⟩ := id C0
  obtain ⟨D, hD⟩ := we_cls hts
  obtain ⟨cA, hc⟩ := we_arr hts
  obtain ⟨tb, sx, hS⟩ := we_St hts hgv
  have hK : ∀ t, t < 5 → va_K D vwCl [(cA t, zv_ty t)] s := fun t ht => ⟨hD, fun k q hq => by
    match k, hq with
    | 0, hq => cases hq; exact hc t ht⟩
  have hG : zv_G s D cA tb sx := ⟨hK, hS⟩
  have X : zv_X s D cA tb sx p s m #[Value.ref b] meth c code 4 RL (some .boolean) false := ⟨hx, hb, hml, hlocks, hown, fun w hw => hts w (List.mem_filter.mp hw).1, State.WarmedH.refl s, Nat.le_refl _, hK, fun _ _ => rfl, hr, (fun z => by cases z), hS⟩
  have hV := ws_walk (l := l) (e := e) (below := below) hG X hX hbl hF
  have hl := lv_entry ([.ref b]) (n := 4) (Nat.le_of_ble_eq_true rfl)
  rw [lg_entry_eq]
  exact hV s.heap [] _ ⟨rfl, fun _ _ => rfl, fun i c h => by cases h⟩ (fun q h => by cases h) hl
