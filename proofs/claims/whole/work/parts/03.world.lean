def zv_kds : List (List Bool) := [[true, false, false, false, false], [true, true, true], [true, false], [true, true, true, true, false, false, false, false], [true, true], [true, true, true, true, true, true, true, true, false], [true, true, true], [true, true], [false, false, false, false], [true, false, false, false, false, false, false, false, false, false], [true, true, false, true, true, true, false, true, true, true, true, true, true, true], [false, false, false, false, false, true, true, true, true, false, false, false, false, false, true, true, true, true, true, true, true, true, false, false, false, true, true, true, true, true, true, true, true, true, true, false, false, true, false, true, true, true, false, true, true, true, true, false, true, true, false, true, false, false, false, false, false, false, true, true, true, true, true, true, true, true, false, true, true, true, true, true]]
def zv_tc (k : Nat) : String := match k with
  | 0 => "NoneSees"
  | 1 => "NoneSees$Yard"
  | 2 => "NoneSees$Yard"
  | _ => "NoneSees$Acts"
def zv_tn (k : Nat) : String := match k with
  | 0 => "ABOVE"
  | 1 => "STEP_X"
  | 2 => "STEP_Y"
  | _ => "BODIES"
def zv_tl (k : Nat) : Nat := match k with
  | 0 => 7
  | 1 => 16
  | 2 => 16
  | _ => 21
def zv_tvs : List (List Int32) := [[(-1), 0, 0, 0, 1, 2, 3], [1, 0, (-1), 0, 1, (-1), (-1), 1, 1, 1, (-1), (-1), 2, 2, (-2), (-2)], [0, 1, 0, (-1), 1, 1, (-1), (-1), 2, (-2), 2, (-2), 1, (-1), 1, (-1)], [10, 11, 12, 0, 20, 0, 30, 0, 0, 0, 0, 40, 50, 51, 0, 0, 0, 60, 71, 70, 0]]
def zv_tv (k j : Nat) : Int32 := (zv_tvs.getD k []).getD j 0
def zstrs : List (List Int32) := [[119, 105, 100, 101, 32], [104, 111, 108, 101, 32], [98, 97, 114, 32], [114, 111, 117, 110, 100], [102, 108, 97, 116], [41]]

/-- words that stay true while a run only warms the tables -/
def zv_gw : Cond → Bool
  | .methodLinkNest .. => true
  | .fieldLinkNest .. => true
  | .stringRef .. => true
  | .arrayOver (.object _) => true
  | w => goodWord w
def zv_tbl : List Cond := lw_tbl.filter zv_gw
theorem zv_mem {w : Cond} (i : Nat) (h : lw_tbl[i]? = some w) (hg : zv_gw w = true) : w ∈ zv_tbl := List.mem_filter.mpr ⟨List.mem_of_getElem? h, hg⟩
-- the machine's rows over one uniform world: cell i of the world lies at address bs + i, bs the heap's size where the law began
abbrev zv_C : Type := (Nat × List (Option Nat)) ⊕ ((Nat × Nat) ⊕ List (Option Nat))
abbrev zv_M : Type := (Nat → Nat → Int32) × (Nat → Nat → Int64)
def zv_ty (t : Nat) : FieldType := match t with
  | 0 => .int
  | 1 => .byte
  | 2 => .boolean
  | 3 => .long
  | _ => .object "NoneSees$Yard"
def zv_rv (b : Nat) (r : Option Nat) : Value := match r with
  | none => .null
  | some a => .ref (b + a)
/-- which slots of a class hold references -/
def zv_kd (ci k : Nat) : Bool := ((zv_kds.getD ci []).getD k false)
def zv_fv (b : Nat) (m : zv_M) (ci i : Nat) (rs : List (Option Nat)) (k : Nat) : Value := if zv_kd ci k = true then zv_rv b (rs.getD k none) else .int (m.1 i k)
def zv_E (cA : Nat → ClassId) (b : Nat) (m : zv_M) (i : Nat) (c : zv_C) : va_E := match c with
  | .inl o => .inr (o.1, (List.range o.2.length).map (zv_fv b m o.1 i o.2))
  | .inr (.inl a) => .inl (cA a.1, a.2, if a.1 = 3 then .inr (.inl (m.2 i)) else .inl (m.1 i))
  | .inr (.inr rs) => .inl (cA 4, rs.length, .inr (.inr (.inr (.inr (fun j => (rs.getD j none).map (fun z => b + z))))))
def zv_W (S : State) (D : va_G) (cA : Nat → ClassId) (sh : List zv_C) (m : zv_M) (H : Heap) : Prop :=
  H.size = S.heap.size + sh.length ∧ (∀ q : Nat, q < S.heap.size → H[q]? = S.heap[q]?) ∧ ∀ (i : Nat) (c : zv_C), sh[i]? = some c → va_at D vwCl (S.heap.size + i, zv_E cA S.heap.size m i c) H
/-- one int changes, one long, a new cell is all 0 -/
def wI (m : zv_M) (o k : Nat) (v : Int32) : zv_M := (fun o' k' => if o' = o ∧ k' = k then v else m.1 o' k', m.2)
def wL (m : zv_M) (o k : Nat) (v : Int64) : zv_M := (m.1, fun o' k' => if o' = o ∧ k' = k then v else m.2 o' k')
def wZ (m : zv_M) (o : Nat) : zv_M := (fun o' k' => if o' = o then 0 else m.1 o' k', fun o' k' => if o' = o then 0 else m.2 o' k')
def zsk (w : Nat) : Nat := [51, 70, 76, 78, 79, 98].getD w 0
def zstx (w : Nat) : String := ["wide ", "hole ", "bar ", "round", "flat", ")"].getD w ""
/-- the six words of the class as the JDK's Strings, at sx w, their bytes at sv w -/
def zv_Ss (S : State) (sx sv : Nat → Nat) : Prop := vk_S 6 [5, 5, 4, 5, 4, 1] zstrs sx sv (fun q => S.heap.size ≤ q) S S.heap ∧ (∀ w, w < 6 → vk_R "NoneSees$YardReader" (zsk w) (zstx w) (sx w) S) ∧ va_Z "java/lang/String" "COMPACT_STRINGS" "Z" (.int 1) (fun q => S.heap.size ≤ q) S S.heap ∧ va_Zq "jdk/internal/util/Preconditions" "SIOOBE_FORMATTER" "Ljava/util/function/BiFunction;" (fun q => S.heap.size ≤ q) S S.heap
def zv_St (S : State) (tb sx : Nat → Nat) : Prop := (∃ sv, zv_Ss S sx sv) ∧ ∀ k, k < 4 → va_Z (zv_tc k) (zv_tn k) "[I" (.ref (tb k)) (fun q => S.heap.size ≤ q) S S.heap ∧ va_T .int (tb k) (zv_tl k) (fun j => .int (zv_tv k j)) (fun q => S.heap.size ≤ q) S S.heap
def zv_X (S : State) (D : va_G) (cA : Nat → ClassId) (tb sx : Nat → Nat) (p : Program) (s : State) (mi : MethodId) (args : Array Value) (meth : Method) (c : Code) (cc : ByteArray) (nL : Nat) (own : String) (ret : Option FieldType) (isInit : Bool) : Prop :=
  p.tables.exec = Jvm.exec ∧ c.code = cc ∧ c.maxLocals = nL ∧ meth.locks = false ∧ s.vm.findClass own = some mi.cls ∧ (∀ w ∈ zv_tbl, w.before args s = true) ∧ S.WarmedH s.vm ∧ S.heap.size ≤ s.heap.size ∧ (∀ t, t < 5 → va_K D vwCl [(cA t, zv_ty t)] s) ∧ (∀ q : Nat, q < S.heap.size → s.heap[q]? = S.heap[q]?) ∧ meth.sig.returnType = ret ∧ (isInit = true → meth.name = "<init>") ∧ zv_St S tb sx
def zv_V (S : State) (D : va_G) (cA : Nat → ClassId) (p : Program) (l : Launch) (e : Env) (R : Room) (s : State) (mi : MethodId) (args : Array Value) (below : List Frame) (meth : Method) (c : Code) (nL : Nat) (Qf : State → Prop) (kc ks pc : Nat) (lo : List (Nat × Value)) (st : List Value) (sh : List zv_C) (m : zv_M) : Prop :=
  ∀ (H : Heap) (locs : List Loc) (ls : Array Slot), zv_W S D cA sh m H → (∀ q ∈ locs, S.heap.size ≤ q.base) → lv_has ls nL lo → W p l e R s mi args below meth c H locs kc ks Qf (F0 mi pc ls st)
def zv_P (S : State) (D : va_G) (cA : Nat → ClassId) (as : List Value) (sh : List zv_C) (m : zv_M) : Array Value → State → Prop := fun v U => v = as.toArray ∧ S.WarmedH U.vm ∧ zv_W S D cA sh m U.heap
def zv_Q (S : State) (D : va_G) (cA : Nat → ClassId) (Q : Option Value → List zv_C → zv_M → Prop) : Array Value → State → Outcome → State → Prop := fun _ _ oc t => ∃ (r : Option Value) (sh : List zv_C) (m : zv_M), oc = .returned r ∧ Q r sh m ∧ S.WarmedH t.vm ∧ zv_W S D cA sh m t.heap
abbrev zv_fr (S : State) : Addr → Prop := fun q => S.heap.size ≤ q
def zv_rm (d mc ms : Nat) : Room := { frames := d, cells := mc, slots := ms, locals := 40 * d }
/-- a method's contract: from this world, with these arguments, it returns, and Q holds -/
def zv_Met (l : Launch) (S : State) (D : va_G) (cA : Nat → ClassId) (d mc ms : Nat) (y : MethodName) (cc : ByteArray) (nL : Nat) (ret : Option FieldType) (as : List Value) (sh : List zv_C) (m : zv_M) (Q : Option Value → List zv_C → zv_M → Prop) : Prop :=
  Met l y (Cond.code y cc nL ret :: zv_tbl) (zv_rm d mc ms) (zv_P S D cA as sh m) (zv_Q S D cA Q) mc ms (zv_fr S)
-- facts of the world
theorem zv_cell {S : State} {D : va_G} {cA : Nat → ClassId} {sh : List zv_C} {m : zv_M} {H : Heap} (h : zv_W S D cA sh m H) {i : Nat} {c : zv_C} (hi : sh[i]? = some c) : va_P D vwCl [(S.heap.size + i, zv_E cA S.heap.size m i c)] H := by
  intro k q hk
  cases k with
  | zero =>
    cases hk
    exact h.2.2 i c hi
  | succ k => simp at hk
theorem zv_fvI {b : Nat} {m : zv_M} {ci i : Nat} {rs : List (Option Nat)} {k : Nat} (hk : zv_kd ci k = false) (hl : k < rs.length) : ((List.range rs.length).map (zv_fv b m ci i rs))[k]? = some (.int (m.1 i k)) := by
  rw [List.getElem?_map, List.getElem?_range hl]
  simp [zv_fv, hk]
theorem zv_fvR {b : Nat} {m : zv_M} {ci i : Nat} {rs : List (Option Nat)} {k a : Nat} (hk : zv_kd ci k = true) (hr : rs[k]? = some (some a)) : ((List.range rs.length).map (zv_fv b m ci i rs))[k]? = some (.ref (b + a)) := by
  have hl : k < rs.length := (List.getElem?_eq_some_iff.mp hr).1
  rw [List.getElem?_map, List.getElem?_range hl]
  simp [zv_fv, hk, zv_rv, List.getD_eq_getElem?_getD, hr]
/-- another cell's words don't depend on what is written here -/
theorem zv_E_wI {cA : Nat → ClassId} {b : Nat} {m : zv_M} {o k i : Nat} {v : Int32} {c : zv_C} (h : i ≠ o) : zv_E cA b (wI m o k v) i c = zv_E cA b m i c := by
  rcases c with ⟨ci, rs⟩ | ⟨t, n⟩ | rs
  · simp [zv_E, zv_fv, wI, h]
  · simp [zv_E, wI, h]
  · rfl
theorem zv_E_wL {cA : Nat → ClassId} {b : Nat} {m : zv_M} {o k i : Nat} {v : Int64} {c : zv_C} (h : i ≠ o) : zv_E cA b (wL m o k v) i c = zv_E cA b m i c := by
  rcases c with ⟨ci, rs⟩ | ⟨t, n⟩ | rs
  · rfl
  · simp [zv_E, wL, h]
  · rfl
theorem zv_E_wZ {cA : Nat → ClassId} {b : Nat} {m : zv_M} {o i : Nat} {c : zv_C} (h : i ≠ o) : zv_E cA b (wZ m o) i c = zv_E cA b m i c := by
  rcases c with ⟨ci, rs⟩ | ⟨t, n⟩ | rs
  · simp [zv_E, wZ, h]
    intro a ha
    simp [zv_fv, h]
  · simp [zv_E, wZ, h]
  · rfl
/-- the world behind a write into cell o -/
theorem zv_W_set {S : State} {D : va_G} {cA : Nat → ClassId} {sh sh' : List zv_C} {m m' : zv_M} {H H1 : Heap} {o : Nat} {c : zv_C} (h : zv_W S D cA sh m H) (z : H1.size = H.size) (oq : ∀ q : Nat, q ≠ S.heap.size + o → H1[q]? = H[q]?) (hl : sh'.length = sh.length)
    (hs : ∀ i : Nat, i ≠ o → sh'[i]? = sh[i]?) (ho : sh'[o]? = some c) (hE : ∀ (i : Nat) (c : zv_C), i ≠ o → zv_E cA S.heap.size m' i c = zv_E cA S.heap.size m i c) (hc : va_at D vwCl (S.heap.size + o, zv_E cA S.heap.size m' o c) H1) : zv_W S D cA sh' m' H1 := by
  refine ⟨by rw [z, hl]; exact h.1, fun q hq => by rw [oq q (by omega)]; exact h.2.1 q hq, fun i c' hi => ?_⟩
  by_cases hio : i = o
  · subst hio
    rw [ho] at hi
    cases hi
    exact hc
  · rw [hE i c' hio]
    rw [hs i hio] at hi
    exact (h.2.2 i c' hi).kept (oq _ (by omega))
/-- the world with a new cell -/
theorem zv_W_push {S : State} {D : va_G} {cA : Nat → ClassId} {sh : List zv_C} {m : zv_M} {H H1 : Heap} {c : zv_C} (h : zv_W S D cA sh m H) (z : H1.size = H.size + 1) (oq : ∀ q : Nat, q < H.size → H1[q]? = H[q]?)
    (hc : va_at D vwCl (S.heap.size + sh.length, zv_E cA S.heap.size (wZ m sh.length) sh.length c) H1) : zv_W S D cA (sh ++ [c]) (wZ m sh.length) H1 := by
  have h1 := h.1
  refine ⟨by rw [z, h.1]; simp; omega, fun q hq => by rw [oq q (by omega)]; exact h.2.1 q hq, fun i c' hi => ?_⟩
  by_cases hl : i < sh.length
  · rw [List.getElem?_append_left hl] at hi
    rw [zv_E_wZ (by omega)]
    exact (h.2.2 i c' hi).kept (oq _ (by omega))
  · rw [List.getElem?_append_right (by omega)] at hi
    have hz : i - sh.length < 1 := (List.getElem?_eq_some_iff.mp hi).1
    have hi0 : i = sh.length := by omega
    subst hi0
    rw [Nat.sub_self] at hi
    cases hi
    exact hc
-- words
/-- a field: its class in vwCl, its slot, whether it is final, its type -/
def zv_fd (own : String) (idx ci k : Nat) (fin : Bool) (ty : FieldType) : Prop := ∃ (C : String) (T : u_T) (N : Nat) (ty0 : Nat → FieldType), vwCl[ci]? = some (C, T, N) ∧ (∀ w ∈ u_ws C T N, w ∈ zv_tbl) ∧ k < N ∧ Cond.fieldLink own idx C (T k).2.1 (T k).2.2.1 ∈ zv_tbl ∧ (T k).1 = C ∧ (∀ k, k < N → parseFieldDescriptor (T k).2.2.1 = some (ty0 k)) ∧ (∀ a, a < N → ∀ b, b < N → a ≠ b → (T a).2.1 ≠ (T b).2.1) ∧ (T k).2.2.2 = fin ∧ parseFieldDescriptor (T k).2.2.1 = some ty
/-- a method: its code, how many arguments -/
def zv_my (y : MethodName) (cc : ByteArray) (nL : Nat) (ret : Option FieldType) (n : Nat) : Prop := Cond.code y cc nL ret ∈ zv_tbl ∧ Cond.initialized y.cls ∈ zv_tbl ∧ (y.cls ≠ "java/lang/invoke/MethodHandle" ∧ y.cls ≠ "java/lang/invoke/VarHandle" ∧ (parseMethodDescriptor y.desc).map (fun d => d.parameters.length) = some n) ∧ nL ≤ 21
def zv_myV (y : MethodName) (ci : Nat) : Prop := Cond.instanceMethod y ∈ zv_tbl ∧ Cond.selects y.cls y y ∈ zv_tbl ∧ ∃ (T : u_T) (N : Nat), vwCl[ci]? = some (y.cls, T, N)
theorem zv_warm {w : Cond} (hg : zv_gw w = true) {args a' : Array Value} {s U : State} (h : w.before args s = true) (hW : s.WarmedH U.vm) : w.before a' U = true := by
  unfold zv_gw at hg
  split at hg
  next => exact va_Nw.use rfl (va_Nw.warmM hW (va_Nw.of rfl h))
  next => exact va_Nw.use rfl (va_Nw.warmF hW (va_Nw.of rfl h))
  next a b c =>
    have h1 := Cond.stringRef_warmed hW h
    first
      | exact va_tabs rfl (rfl : (s.setVm U.vm).vm = U.vm) h1
      | (simp only [Cond.before, Cond.holds, Cond.value, State.names, State.poolOf?, State.resolvedAt?] at h1 ⊢; exact h1)
  next => exact (va_AO.moved hW.alike (va_AO.of h)).use
  next => exact word_at hW (good_of_word hg) h
theorem zv_ws {y : MethodName} {cc : ByteArray} {nL : Nat} {ret : Option FieldType} (h : Cond.code y cc nL ret ∈ zv_tbl) {args : Array Value} {s : State} (hts : ∀ w ∈ zv_tbl, w.before args s = true) : ∀ w ∈ (Cond.code y cc nL ret :: zv_tbl), ∀ (a' : Array Value) (U : State), s.WarmedH U.vm → w.before a' U = true := by
  intro w hw a' U hU
  have hm : w ∈ zv_tbl := by
    rcases List.mem_cons.mp hw with rfl | hw
    · exact h
    · exact hw
  exact zv_warm (List.mem_filter.mp hm).2 (hts w hm) hU
theorem zv_ar {y : MethodName} {n : Nat} (h : (parseMethodDescriptor y.desc).map (fun d => d.parameters.length) = some n) : ∀ sig, parseMethodDescriptor y.desc = some sig → n = sig.parameters.length := by
  intro sig hs
  rw [hs] at h
  exact (Option.some.inj h).symm
section ZR
variable {S : State} {D : va_G} {cA : Nat → ClassId} {tb sx : Nat → Nat} {p : Program} {l : Launch} {e : Env} {R : Room} {s : State} {mi : MethodId} {args : Array Value} {below : List Frame} {meth : Method} {c : Code} {nL : Nat} {Qf : State → Prop} {kc ks pc : Nat} {lo : List (Nat × Value)} {st : List Value} {sh : List zv_C} {m : zv_M} {cc : ByteArray} {own : String} {ret : Option FieldType} {ini : Bool}
theorem zr_iconst {n : Int} {v : Int32} (X : zv_X S D cA tb sx p s mi args meth c cc nL own ret ini) (hd : decode cc pc = .ok (.iconst n, 1)) (hv : Int32.ofInt n = v) (kk : zv_V S D cA p l e R s mi args below meth c nL Qf kc ks (pc + 1) lo (.int v :: st) sh m) : zv_V S D cA p l e R s mi args below meth c nL Qf kc ks pc lo st sh m := fun H locs ls h1 h2 h3 => lv_iconst X.1 X.2.1 hd hv (kk H locs ls h1 h2 h3)
theorem zr_bipush {n : Int} {v : Int32} (X : zv_X S D cA tb sx p s mi args meth c cc nL own ret ini) (hd : decode cc pc = .ok (.bipush n, 2)) (hv : (Int8.ofInt n).toInt32 = v) (kk : zv_V S D cA p l e R s mi args below meth c nL Qf kc ks (pc + 2) lo (.int v :: st) sh m) : zv_V S D cA p l e R s mi args below meth c nL Qf kc ks pc lo st sh m := fun H locs ls h1 h2 h3 => lv_bipush X.1 X.2.1 hd hv (kk H locs ls h1 h2 h3)
theorem zr_sipush {n : Int} {v : Int32} (X : zv_X S D cA tb sx p s mi args meth c cc nL own ret ini) (hd : decode cc pc = .ok (.sipush n, 3)) (hv : (Int16.ofInt n).toInt32 = v) (kk : zv_V S D cA p l e R s mi args below meth c nL Qf kc ks (pc + 3) lo (.int v :: st) sh m) : zv_V S D cA p l e R s mi args below meth c nL Qf kc ks pc lo st sh m := fun H locs ls h1 h2 h3 => lv_sipush X.1 X.2.1 hd hv (kk H locs ls h1 h2 h3)
theorem zr_lconst {n : Fin 2} {v : Int64} (X : zv_X S D cA tb sx p s mi args meth c cc nL own ret ini) (hd : decode cc pc = .ok (.lconst n, 1)) (hv : Int64.ofNat (n : Nat) = v) (kk : zv_V S D cA p l e R s mi args below meth c nL Qf kc ks (pc + 1) lo (.long v :: st) sh m) : zv_V S D cA p l e R s mi args below meth c nL Qf kc ks pc lo st sh m := fun H locs ls h1 h2 h3 => lv_lconst X.1 X.2.1 hd hv (kk H locs ls h1 h2 h3)
theorem zr_iadd {x y : Int32} (X : zv_X S D cA tb sx p s mi args meth c cc nL own ret ini) (hd : decode cc pc = .ok (.iadd, 1))  (kk : zv_V S D cA p l e R s mi args below meth c nL Qf kc ks (pc + 1) lo (.int (x + y) :: st) sh m) : zv_V S D cA p l e R s mi args below meth c nL Qf kc ks pc lo (.int y :: .int x :: st) sh m := fun H locs ls h1 h2 h3 => lv_iadd X.1 X.2.1 hd  (kk H locs ls h1 h2 h3)
theorem zr_isub {x y : Int32} (X : zv_X S D cA tb sx p s mi args meth c cc nL own ret ini) (hd : decode cc pc = .ok (.isub, 1))  (kk : zv_V S D cA p l e R s mi args below meth c nL Qf kc ks (pc + 1) lo (.int (x - y) :: st) sh m) : zv_V S D cA p l e R s mi args below meth c nL Qf kc ks pc lo (.int y :: .int x :: st) sh m := fun H locs ls h1 h2 h3 => lv_isub X.1 X.2.1 hd  (kk H locs ls h1 h2 h3)
theorem zr_imul {x y : Int32} (X : zv_X S D cA tb sx p s mi args meth c cc nL own ret ini) (hd : decode cc pc = .ok (.imul, 1))  (kk : zv_V S D cA p l e R s mi args below meth c nL Qf kc ks (pc + 1) lo (.int (x * y) :: st) sh m) : zv_V S D cA p l e R s mi args below meth c nL Qf kc ks pc lo (.int y :: .int x :: st) sh m := fun H locs ls h1 h2 h3 => lv_imul X.1 X.2.1 hd  (kk H locs ls h1 h2 h3)
theorem zr_iand {x y : Int32} (X : zv_X S D cA tb sx p s mi args meth c cc nL own ret ini) (hd : decode cc pc = .ok (.iand, 1))  (kk : zv_V S D cA p l e R s mi args below meth c nL Qf kc ks (pc + 1) lo (.int (x &&& y) :: st) sh m) : zv_V S D cA p l e R s mi args below meth c nL Qf kc ks pc lo (.int y :: .int x :: st) sh m := fun H locs ls h1 h2 h3 => lv_iand X.1 X.2.1 hd  (kk H locs ls h1 h2 h3)
theorem zr_ior {x y : Int32} (X : zv_X S D cA tb sx p s mi args meth c cc nL own ret ini) (hd : decode cc pc = .ok (.ior, 1))  (kk : zv_V S D cA p l e R s mi args below meth c nL Qf kc ks (pc + 1) lo (.int (x ||| y) :: st) sh m) : zv_V S D cA p l e R s mi args below meth c nL Qf kc ks pc lo (.int y :: .int x :: st) sh m := fun H locs ls h1 h2 h3 => lv_ior X.1 X.2.1 hd  (kk H locs ls h1 h2 h3)
theorem zr_ixor {x y : Int32} (X : zv_X S D cA tb sx p s mi args meth c cc nL own ret ini) (hd : decode cc pc = .ok (.ixor, 1))  (kk : zv_V S D cA p l e R s mi args below meth c nL Qf kc ks (pc + 1) lo (.int (x ^^^ y) :: st) sh m) : zv_V S D cA p l e R s mi args below meth c nL Qf kc ks pc lo (.int y :: .int x :: st) sh m := fun H locs ls h1 h2 h3 => lv_ixor X.1 X.2.1 hd  (kk H locs ls h1 h2 h3)
theorem zr_ishl {x y : Int32} (X : zv_X S D cA tb sx p s mi args meth c cc nL own ret ini) (hd : decode cc pc = .ok (.ishl, 1))  (kk : zv_V S D cA p l e R s mi args below meth c nL Qf kc ks (pc + 1) lo (.int (x <<< (y &&& 31)) :: st) sh m) : zv_V S D cA p l e R s mi args below meth c nL Qf kc ks pc lo (.int y :: .int x :: st) sh m := fun H locs ls h1 h2 h3 => lv_ishl X.1 X.2.1 hd  (kk H locs ls h1 h2 h3)
theorem zr_ishr {x y : Int32} (X : zv_X S D cA tb sx p s mi args meth c cc nL own ret ini) (hd : decode cc pc = .ok (.ishr, 1))  (kk : zv_V S D cA p l e R s mi args below meth c nL Qf kc ks (pc + 1) lo (.int (x >>> (y &&& 31)) :: st) sh m) : zv_V S D cA p l e R s mi args below meth c nL Qf kc ks pc lo (.int y :: .int x :: st) sh m := fun H locs ls h1 h2 h3 => lv_ishr X.1 X.2.1 hd  (kk H locs ls h1 h2 h3)
theorem zr_iushr {x y : Int32} (X : zv_X S D cA tb sx p s mi args meth c cc nL own ret ini) (hd : decode cc pc = .ok (.iushr, 1))  (kk : zv_V S D cA p l e R s mi args below meth c nL Qf kc ks (pc + 1) lo (.int ((x.toUInt32 >>> (y.toUInt32 &&& Int32.toUInt32 31)).toInt32) :: st) sh m) : zv_V S D cA p l e R s mi args below meth c nL Qf kc ks pc lo (.int y :: .int x :: st) sh m := fun H locs ls h1 h2 h3 => lv_iushr X.1 X.2.1 hd rfl (kk H locs ls h1 h2 h3)
theorem zr_land {x y : Int64} (X : zv_X S D cA tb sx p s mi args meth c cc nL own ret ini) (hd : decode cc pc = .ok (.land, 1))  (kk : zv_V S D cA p l e R s mi args below meth c nL Qf kc ks (pc + 1) lo (.long (x &&& y) :: st) sh m) : zv_V S D cA p l e R s mi args below meth c nL Qf kc ks pc lo (.long y :: .long x :: st) sh m := fun H locs ls h1 h2 h3 => lv_land X.1 X.2.1 hd  (kk H locs ls h1 h2 h3)
theorem zr_lor {x y : Int64} (X : zv_X S D cA tb sx p s mi args meth c cc nL own ret ini) (hd : decode cc pc = .ok (.lor, 1))  (kk : zv_V S D cA p l e R s mi args below meth c nL Qf kc ks (pc + 1) lo (.long (x ||| y) :: st) sh m) : zv_V S D cA p l e R s mi args below meth c nL Qf kc ks pc lo (.long y :: .long x :: st) sh m := fun H locs ls h1 h2 h3 => lv_lor X.1 X.2.1 hd  (kk H locs ls h1 h2 h3)
theorem zr_lshl {x : Int64} {y : Int32} (X : zv_X S D cA tb sx p s mi args meth c cc nL own ret ini) (hd : decode cc pc = .ok (.lshl, 1))  (kk : zv_V S D cA p l e R s mi args below meth c nL Qf kc ks (pc + 1) lo (.long (x <<< (y.toInt64 &&& 63)) :: st) sh m) : zv_V S D cA p l e R s mi args below meth c nL Qf kc ks pc lo (.int y :: .long x :: st) sh m := fun H locs ls h1 h2 h3 => lv_lshl X.1 X.2.1 hd rfl (kk H locs ls h1 h2 h3)
theorem zr_ineg {x : Int32} (X : zv_X S D cA tb sx p s mi args meth c cc nL own ret ini) (hd : decode cc pc = .ok (.ineg, 1))  (kk : zv_V S D cA p l e R s mi args below meth c nL Qf kc ks (pc + 1) lo (.int (-x) :: st) sh m) : zv_V S D cA p l e R s mi args below meth c nL Qf kc ks pc lo (.int x :: st) sh m := fun H locs ls h1 h2 h3 => lv_ineg X.1 X.2.1 hd  (kk H locs ls h1 h2 h3)
theorem zr_i2l {x : Int32} (X : zv_X S D cA tb sx p s mi args meth c cc nL own ret ini) (hd : decode cc pc = .ok (.i2l, 1))  (kk : zv_V S D cA p l e R s mi args below meth c nL Qf kc ks (pc + 1) lo (.long x.toInt64 :: st) sh m) : zv_V S D cA p l e R s mi args below meth c nL Qf kc ks pc lo (.int x :: st) sh m := fun H locs ls h1 h2 h3 => lv_i2l X.1 X.2.1 hd rfl (kk H locs ls h1 h2 h3)
theorem zr_l2i {x : Int64} (X : zv_X S D cA tb sx p s mi args meth c cc nL own ret ini) (hd : decode cc pc = .ok (.l2i, 1))  (kk : zv_V S D cA p l e R s mi args below meth c nL Qf kc ks (pc + 1) lo (.int x.toInt32 :: st) sh m) : zv_V S D cA p l e R s mi args below meth c nL Qf kc ks pc lo (.long x :: st) sh m := fun H locs ls h1 h2 h3 => lv_l2i X.1 X.2.1 hd rfl (kk H locs ls h1 h2 h3)
theorem zr_i2b {x : Int32} (X : zv_X S D cA tb sx p s mi args meth c cc nL own ret ini) (hd : decode cc pc = .ok (.i2b, 1))  (kk : zv_V S D cA p l e R s mi args below meth c nL Qf kc ks (pc + 1) lo (.int x.toInt8.toInt32 :: st) sh m) : zv_V S D cA p l e R s mi args below meth c nL Qf kc ks pc lo (.int x :: st) sh m := fun H locs ls h1 h2 h3 => lv_i2b X.1 X.2.1 hd rfl (kk H locs ls h1 h2 h3)
theorem zr_i2s {x : Int32} (X : zv_X S D cA tb sx p s mi args meth c cc nL own ret ini) (hd : decode cc pc = .ok (.i2s, 1))  (kk : zv_V S D cA p l e R s mi args below meth c nL Qf kc ks (pc + 1) lo (.int x.toInt16.toInt32 :: st) sh m) : zv_V S D cA p l e R s mi args below meth c nL Qf kc ks pc lo (.int x :: st) sh m := fun H locs ls h1 h2 h3 => lv_i2s X.1 X.2.1 hd rfl (kk H locs ls h1 h2 h3)
theorem zr_i2c {x : Int32} (X : zv_X S D cA tb sx p s mi args meth c cc nL own ret ini) (hd : decode cc pc = .ok (.i2c, 1))  (kk : zv_V S D cA p l e R s mi args below meth c nL Qf kc ks (pc + 1) lo (.int (x.toUInt32 % 65536).toInt32 :: st) sh m) : zv_V S D cA p l e R s mi args below meth c nL Qf kc ks pc lo (.int x :: st) sh m := fun H locs ls h1 h2 h3 => lv_i2c X.1 X.2.1 hd rfl (kk H locs ls h1 h2 h3)
theorem zr_dup {va : Value} (X : zv_X S D cA tb sx p s mi args meth c cc nL own ret ini) (hd : decode cc pc = .ok (.dup, 1)) (hv : va.category = 1) (kk : zv_V S D cA p l e R s mi args below meth c nL Qf kc ks (pc + 1) lo (va :: va :: st) sh m) : zv_V S D cA p l e R s mi args below meth c nL Qf kc ks pc lo (va :: st) sh m := fun H locs ls h1 h2 h3 => lv_dup X.1 X.2.1 hd hv (kk H locs ls h1 h2 h3)
theorem zr_pop {va : Value} (X : zv_X S D cA tb sx p s mi args meth c cc nL own ret ini) (hd : decode cc pc = .ok (.pop, 1)) (hv : va.category = 1) (kk : zv_V S D cA p l e R s mi args below meth c nL Qf kc ks (pc + 1) lo st sh m) : zv_V S D cA p l e R s mi args below meth c nL Qf kc ks pc lo (va :: st) sh m := fun H locs ls h1 h2 h3 => lv_pop X.1 X.2.1 hd hv (kk H locs ls h1 h2 h3)
theorem zr_dup2 {va vb : Value} (X : zv_X S D cA tb sx p s mi args meth c cc nL own ret ini) (hd : decode cc pc = .ok (.dup2, 1)) (hv : va.category = 1) (hw : vb.category = 1) (kk : zv_V S D cA p l e R s mi args below meth c nL Qf kc ks (pc + 1) lo (va :: vb :: va :: vb :: st) sh m) : zv_V S D cA p l e R s mi args below meth c nL Qf kc ks pc lo (va :: vb :: st) sh m := fun H locs ls h1 h2 h3 => lv_dup2_11 X.1 X.2.1 hd hv hw (kk H locs ls h1 h2 h3)
theorem zr_idiv {x y : Int32} (X : zv_X S D cA tb sx p s mi args meth c cc nL own ret ini) (hd : decode cc pc = .ok (.idiv, 1)) (hv : ¬ y = 0) (kk : zv_V S D cA p l e R s mi args below meth c nL Qf kc ks (pc + 1) lo (.int (x / y) :: st) sh m) : zv_V S D cA p l e R s mi args below meth c nL Qf kc ks pc lo (.int y :: .int x :: st) sh m := fun H locs ls h1 h2 h3 => lv_idiv X.1 X.2.1 hd hv (kk H locs ls h1 h2 h3)
theorem zr_irem {x y : Int32} (X : zv_X S D cA tb sx p s mi args meth c cc nL own ret ini) (hd : decode cc pc = .ok (.irem, 1)) (hv : ¬ y = 0) (kk : zv_V S D cA p l e R s mi args below meth c nL Qf kc ks (pc + 1) lo (.int (x - x / y * y) :: st) sh m) : zv_V S D cA p l e R s mi args below meth c nL Qf kc ks pc lo (.int y :: .int x :: st) sh m := fun H locs ls h1 h2 h3 => lv_irem X.1 X.2.1 hd hv (kk H locs ls h1 h2 h3)
theorem zr_lcmp {x y : Int64} (X : zv_X S D cA tb sx p s mi args meth c cc nL own ret ini) (hd : decode cc pc = .ok (.lcmp, 1))  (kk : zv_V S D cA p l e R s mi args below meth c nL Qf kc ks (pc + 1) lo (.int (lg_cmp x y) :: st) sh m) : zv_V S D cA p l e R s mi args below meth c nL Qf kc ks pc lo (.long y :: .long x :: st) sh m := fun H locs ls h1 h2 h3 => W.lcmp X.1 X.2.1 hd  (kk H locs ls h1 h2 h3)
theorem zr_iload_n {k : Fin 4} {x : Int32} (X : zv_X S D cA tb sx p s mi args meth c cc nL own ret ini) (hd : decode cc pc = .ok (.iload_n k, 1)) (j : Nat) (hl : lo[j]? = some ((k : Nat), .int x)) (kk : zv_V S D cA p l e R s mi args below meth c nL Qf kc ks (pc + 1) lo (.int x :: st) sh m) : zv_V S D cA p l e R s mi args below meth c nL Qf kc ks pc lo st sh m := fun H locs ls h1 h2 h3 => lv_iload_n X.1 X.2.1 hd rfl (lv_at h3 j hl) (kk H locs ls h1 h2 h3)
theorem zr_istore_n {k : Fin 4} {x : Int32} {lo' : List (Nat × Value)} (X : zv_X S D cA tb sx p s mi args meth c cc nL own ret ini) (hd : decode cc pc = .ok (.istore_n k, 1)) (hn : (k : Nat) < nL) (hl : ((k : Nat), Value.int x) :: lo.filter (fun q => !(q.1 == (k : Nat)) && !(q.1 + 1 == (k : Nat) && q.2.category == 2)) = lo') (kk : zv_V S D cA p l e R s mi args below meth c nL Qf kc ks (pc + 1) lo' st sh m) : zv_V S D cA p l e R s mi args below meth c nL Qf kc ks pc lo (.int x :: st) sh m := fun H locs ls h1 h2 h3 => lv_istore_n X.1 X.2.1 hd rfl h3 hn hl (fun ls' h3' => kk H locs ls' h1 h2 h3')
theorem zr_iload {i : Nat} {x : Int32} (X : zv_X S D cA tb sx p s mi args meth c cc nL own ret ini) (hd : decode cc pc = .ok (.iload i, 2)) (j : Nat) (hl : lo[j]? = some (i, .int x)) (kk : zv_V S D cA p l e R s mi args below meth c nL Qf kc ks (pc + 2) lo (.int x :: st) sh m) : zv_V S D cA p l e R s mi args below meth c nL Qf kc ks pc lo st sh m := fun H locs ls h1 h2 h3 => lv_iload X.1 X.2.1 hd (lv_at h3 j hl) (kk H locs ls h1 h2 h3)
theorem zr_istore {i : Nat} {x : Int32} {lo' : List (Nat × Value)} (X : zv_X S D cA tb sx p s mi args meth c cc nL own ret ini) (hd : decode cc pc = .ok (.istore i, 2)) (hn : i < nL) (hl : (i, Value.int x) :: lo.filter (fun q => !(q.1 == i) && !(q.1 + 1 == i && q.2.category == 2)) = lo') (kk : zv_V S D cA p l e R s mi args below meth c nL Qf kc ks (pc + 2) lo' st sh m) : zv_V S D cA p l e R s mi args below meth c nL Qf kc ks pc lo (.int x :: st) sh m := fun H locs ls h1 h2 h3 => lv_istore X.1 X.2.1 hd h3 hn hl (fun ls' h3' => kk H locs ls' h1 h2 h3')
theorem zr_lload_n {k : Fin 4} {x : Int64} (X : zv_X S D cA tb sx p s mi args meth c cc nL own ret ini) (hd : decode cc pc = .ok (.lload_n k, 1)) (j : Nat) (hl : lo[j]? = some ((k : Nat), .long x)) (kk : zv_V S D cA p l e R s mi args below meth c nL Qf kc ks (pc + 1) lo (.long x :: st) sh m) : zv_V S D cA p l e R s mi args below meth c nL Qf kc ks pc lo st sh m := fun H locs ls h1 h2 h3 => lv_lload_n X.1 X.2.1 hd rfl (lv_at h3 j hl) (kk H locs ls h1 h2 h3)
theorem zr_lstore_n {k : Fin 4} {x : Int64} {lo' : List (Nat × Value)} (X : zv_X S D cA tb sx p s mi args meth c cc nL own ret ini) (hd : decode cc pc = .ok (.lstore_n k, 1)) (hn : (k : Nat) + 1 < nL) (hl : ((k : Nat), Value.long x) :: lo.filter (fun q => !(q.1 == (k : Nat)) && (!(q.1 == (k : Nat) + 1) && !(q.1 + 1 == (k : Nat) && q.2.category == 2))) = lo') (kk : zv_V S D cA p l e R s mi args below meth c nL Qf kc ks (pc + 1) lo' st sh m) : zv_V S D cA p l e R s mi args below meth c nL Qf kc ks pc lo (.long x :: st) sh m := fun H locs ls h1 h2 h3 => lv_lstore_n X.1 X.2.1 hd rfl h3 hn hl (fun ls' h3' => kk H locs ls' h1 h2 h3')
theorem zr_lload {i : Nat} {x : Int64} (X : zv_X S D cA tb sx p s mi args meth c cc nL own ret ini) (hd : decode cc pc = .ok (.lload i, 2)) (j : Nat) (hl : lo[j]? = some (i, .long x)) (kk : zv_V S D cA p l e R s mi args below meth c nL Qf kc ks (pc + 2) lo (.long x :: st) sh m) : zv_V S D cA p l e R s mi args below meth c nL Qf kc ks pc lo st sh m := fun H locs ls h1 h2 h3 => lv_lload X.1 X.2.1 hd (lv_at h3 j hl) (kk H locs ls h1 h2 h3)
theorem zr_lstore {i : Nat} {x : Int64} {lo' : List (Nat × Value)} (X : zv_X S D cA tb sx p s mi args meth c cc nL own ret ini) (hd : decode cc pc = .ok (.lstore i, 2)) (hn : i + 1 < nL) (hl : (i, Value.long x) :: lo.filter (fun q => !(q.1 == i) && (!(q.1 == i + 1) && !(q.1 + 1 == i && q.2.category == 2))) = lo') (kk : zv_V S D cA p l e R s mi args below meth c nL Qf kc ks (pc + 2) lo' st sh m) : zv_V S D cA p l e R s mi args below meth c nL Qf kc ks pc lo (.long x :: st) sh m := fun H locs ls h1 h2 h3 => lv_lstore X.1 X.2.1 hd h3 hn hl (fun ls' h3' => kk H locs ls' h1 h2 h3')
theorem zr_aload_n {k : Fin 4} {x : Nat} (X : zv_X S D cA tb sx p s mi args meth c cc nL own ret ini) (hd : decode cc pc = .ok (.aload_n k, 1)) (j : Nat) (hl : lo[j]? = some ((k : Nat), .ref x)) (kk : zv_V S D cA p l e R s mi args below meth c nL Qf kc ks (pc + 1) lo (.ref x :: st) sh m) : zv_V S D cA p l e R s mi args below meth c nL Qf kc ks pc lo st sh m := fun H locs ls h1 h2 h3 => lv_aload_n X.1 X.2.1 hd rfl (lv_at h3 j hl) (kk H locs ls h1 h2 h3)
theorem zr_astore_n {k : Fin 4} {x : Nat} {lo' : List (Nat × Value)} (X : zv_X S D cA tb sx p s mi args meth c cc nL own ret ini) (hd : decode cc pc = .ok (.astore_n k, 1)) (hn : (k : Nat) < nL) (hl : ((k : Nat), Value.ref x) :: lo.filter (fun q => !(q.1 == (k : Nat)) && !(q.1 + 1 == (k : Nat) && q.2.category == 2)) = lo') (kk : zv_V S D cA p l e R s mi args below meth c nL Qf kc ks (pc + 1) lo' st sh m) : zv_V S D cA p l e R s mi args below meth c nL Qf kc ks pc lo (.ref x :: st) sh m := fun H locs ls h1 h2 h3 => lv_astore_n X.1 X.2.1 hd rfl h3 hn hl (fun ls' h3' => kk H locs ls' h1 h2 h3')
theorem zr_aload {i : Nat} {x : Nat} (X : zv_X S D cA tb sx p s mi args meth c cc nL own ret ini) (hd : decode cc pc = .ok (.aload i, 2)) (j : Nat) (hl : lo[j]? = some (i, .ref x)) (kk : zv_V S D cA p l e R s mi args below meth c nL Qf kc ks (pc + 2) lo (.ref x :: st) sh m) : zv_V S D cA p l e R s mi args below meth c nL Qf kc ks pc lo st sh m := fun H locs ls h1 h2 h3 => lv_aload X.1 X.2.1 hd (lv_at h3 j hl) (kk H locs ls h1 h2 h3)
theorem zr_astore {i : Nat} {x : Nat} {lo' : List (Nat × Value)} (X : zv_X S D cA tb sx p s mi args meth c cc nL own ret ini) (hd : decode cc pc = .ok (.astore i, 2)) (hn : i < nL) (hl : (i, Value.ref x) :: lo.filter (fun q => !(q.1 == i) && !(q.1 + 1 == i && q.2.category == 2)) = lo') (kk : zv_V S D cA p l e R s mi args below meth c nL Qf kc ks (pc + 2) lo' st sh m) : zv_V S D cA p l e R s mi args below meth c nL Qf kc ks pc lo (.ref x :: st) sh m := fun H locs ls h1 h2 h3 => lv_astore X.1 X.2.1 hd h3 hn hl (fun ls' h3' => kk H locs ls' h1 h2 h3')
theorem zr_iinc {i : Nat} {n : Int} {x v : Int32} {lo' : List (Nat × Value)} (X : zv_X S D cA tb sx p s mi args meth c cc nL own ret ini) (hd : decode cc pc = .ok (.iinc i n, 3)) (j : Nat) (hj : lo[j]? = some (i, .int x)) (hv : x + Int32.ofInt n = v) (hn : i < nL) (hl : (i, Value.int v) :: lo.filter (fun q => !(q.1 == i) && !(q.1 + 1 == i && q.2.category == 2)) = lo') (kk : zv_V S D cA p l e R s mi args below meth c nL Qf kc ks (pc + 3) lo' st sh m) : zv_V S D cA p l e R s mi args below meth c nL Qf kc ks pc lo st sh m := fun H locs ls h1 h2 h3 => lv_iinc X.1 X.2.1 hd h3 hj hv hn hl (fun ls' h3' => kk H locs ls' h1 h2 h3')
theorem zr_sub (ks' : List Nat) {lo' : List (Nat × Value)} (hl : lv_pick lo ks' = lo') (kk : zv_V S D cA p l e R s mi args below meth c nL Qf kc ks pc lo' st sh m) : zv_V S D cA p l e R s mi args below meth c nL Qf kc ks pc lo st sh m := fun H locs ls h1 h2 h3 => kk H locs ls h1 h2 (lv_sub h3 ks' hl)
theorem zr_if_eq {x : Int32} {off : Int} {tgt : Nat} (X : zv_X S D cA tb sx p s mi args meth c cc nL own ret ini) (hd : decode cc pc = .ok (.ifCond .eq off, 3)) (ht : (pc : Int) + off = (tgt : Int)) (kt : x = 0 → zv_V S D cA p l e R s mi args below meth c nL Qf kc ks tgt lo st sh m) (kf : ¬ x = 0 → zv_V S D cA p l e R s mi args below meth c nL Qf kc ks (pc + 3) lo st sh m) : zv_V S D cA p l e R s mi args below meth c nL Qf kc ks pc lo (.int x :: st) sh m := fun H locs ls h1 h2 h3 => lv_if_eq X.1 X.2.1 hd ht (fun q => kt q H locs ls h1 h2 h3) (fun q => kf q H locs ls h1 h2 h3)
theorem zr_icmp_eq {x y : Int32} {off : Int} {tgt : Nat} (X : zv_X S D cA tb sx p s mi args meth c cc nL own ret ini) (hd : decode cc pc = .ok (.if_icmp .eq off, 3)) (ht : (pc : Int) + off = (tgt : Int)) (kt : x = y → zv_V S D cA p l e R s mi args below meth c nL Qf kc ks tgt lo st sh m) (kf : ¬ x = y → zv_V S D cA p l e R s mi args below meth c nL Qf kc ks (pc + 3) lo st sh m) : zv_V S D cA p l e R s mi args below meth c nL Qf kc ks pc lo (.int y :: .int x :: st) sh m := fun H locs ls h1 h2 h3 => lv_icmp_eq X.1 X.2.1 hd ht (fun q => kt q H locs ls h1 h2 h3) (fun q => kf q H locs ls h1 h2 h3)
theorem zr_if_ne {x : Int32} {off : Int} {tgt : Nat} (X : zv_X S D cA tb sx p s mi args meth c cc nL own ret ini) (hd : decode cc pc = .ok (.ifCond .ne off, 3)) (ht : (pc : Int) + off = (tgt : Int)) (kt : ¬ x = 0 → zv_V S D cA p l e R s mi args below meth c nL Qf kc ks tgt lo st sh m) (kf : x = 0 → zv_V S D cA p l e R s mi args below meth c nL Qf kc ks (pc + 3) lo st sh m) : zv_V S D cA p l e R s mi args below meth c nL Qf kc ks pc lo (.int x :: st) sh m := fun H locs ls h1 h2 h3 => lv_if_ne X.1 X.2.1 hd ht (fun q => kt q H locs ls h1 h2 h3) (fun q => kf q H locs ls h1 h2 h3)
theorem zr_icmp_ne {x y : Int32} {off : Int} {tgt : Nat} (X : zv_X S D cA tb sx p s mi args meth c cc nL own ret ini) (hd : decode cc pc = .ok (.if_icmp .ne off, 3)) (ht : (pc : Int) + off = (tgt : Int)) (kt : ¬ x = y → zv_V S D cA p l e R s mi args below meth c nL Qf kc ks tgt lo st sh m) (kf : x = y → zv_V S D cA p l e R s mi args below meth c nL Qf kc ks (pc + 3) lo st sh m) : zv_V S D cA p l e R s mi args below meth c nL Qf kc ks pc lo (.int y :: .int x :: st) sh m := fun H locs ls h1 h2 h3 => lv_icmp_ne X.1 X.2.1 hd ht (fun q => kt q H locs ls h1 h2 h3) (fun q => kf q H locs ls h1 h2 h3)
theorem zr_if_lt {x : Int32} {off : Int} {tgt : Nat} (X : zv_X S D cA tb sx p s mi args meth c cc nL own ret ini) (hd : decode cc pc = .ok (.ifCond .lt off, 3)) (ht : (pc : Int) + off = (tgt : Int)) (kt : x < 0 → zv_V S D cA p l e R s mi args below meth c nL Qf kc ks tgt lo st sh m) (kf : ¬ x < 0 → zv_V S D cA p l e R s mi args below meth c nL Qf kc ks (pc + 3) lo st sh m) : zv_V S D cA p l e R s mi args below meth c nL Qf kc ks pc lo (.int x :: st) sh m := fun H locs ls h1 h2 h3 => lv_if_lt X.1 X.2.1 hd ht (fun q => kt q H locs ls h1 h2 h3) (fun q => kf q H locs ls h1 h2 h3)
theorem zr_icmp_lt {x y : Int32} {off : Int} {tgt : Nat} (X : zv_X S D cA tb sx p s mi args meth c cc nL own ret ini) (hd : decode cc pc = .ok (.if_icmp .lt off, 3)) (ht : (pc : Int) + off = (tgt : Int)) (kt : x < y → zv_V S D cA p l e R s mi args below meth c nL Qf kc ks tgt lo st sh m) (kf : ¬ x < y → zv_V S D cA p l e R s mi args below meth c nL Qf kc ks (pc + 3) lo st sh m) : zv_V S D cA p l e R s mi args below meth c nL Qf kc ks pc lo (.int y :: .int x :: st) sh m := fun H locs ls h1 h2 h3 => lv_icmp_lt X.1 X.2.1 hd ht (fun q => kt q H locs ls h1 h2 h3) (fun q => kf q H locs ls h1 h2 h3)
theorem zr_if_ge {x : Int32} {off : Int} {tgt : Nat} (X : zv_X S D cA tb sx p s mi args meth c cc nL own ret ini) (hd : decode cc pc = .ok (.ifCond .ge off, 3)) (ht : (pc : Int) + off = (tgt : Int)) (kt : ¬ x < 0 → zv_V S D cA p l e R s mi args below meth c nL Qf kc ks tgt lo st sh m) (kf : x < 0 → zv_V S D cA p l e R s mi args below meth c nL Qf kc ks (pc + 3) lo st sh m) : zv_V S D cA p l e R s mi args below meth c nL Qf kc ks pc lo (.int x :: st) sh m := fun H locs ls h1 h2 h3 => lv_if_ge X.1 X.2.1 hd ht (fun q => kt (Int32.not_lt.mpr q) H locs ls h1 h2 h3) (fun q => kf (Int32.not_le.mp q) H locs ls h1 h2 h3)
theorem zr_icmp_ge {x y : Int32} {off : Int} {tgt : Nat} (X : zv_X S D cA tb sx p s mi args meth c cc nL own ret ini) (hd : decode cc pc = .ok (.if_icmp .ge off, 3)) (ht : (pc : Int) + off = (tgt : Int)) (kt : ¬ x < y → zv_V S D cA p l e R s mi args below meth c nL Qf kc ks tgt lo st sh m) (kf : x < y → zv_V S D cA p l e R s mi args below meth c nL Qf kc ks (pc + 3) lo st sh m) : zv_V S D cA p l e R s mi args below meth c nL Qf kc ks pc lo (.int y :: .int x :: st) sh m := fun H locs ls h1 h2 h3 => lv_icmp_ge X.1 X.2.1 hd ht (fun q => kt (Int32.not_lt.mpr q) H locs ls h1 h2 h3) (fun q => kf (Int32.not_le.mp q) H locs ls h1 h2 h3)
theorem zr_if_gt {x : Int32} {off : Int} {tgt : Nat} (X : zv_X S D cA tb sx p s mi args meth c cc nL own ret ini) (hd : decode cc pc = .ok (.ifCond .gt off, 3)) (ht : (pc : Int) + off = (tgt : Int)) (kt : 0 < x → zv_V S D cA p l e R s mi args below meth c nL Qf kc ks tgt lo st sh m) (kf : ¬ 0 < x → zv_V S D cA p l e R s mi args below meth c nL Qf kc ks (pc + 3) lo st sh m) : zv_V S D cA p l e R s mi args below meth c nL Qf kc ks pc lo (.int x :: st) sh m := fun H locs ls h1 h2 h3 => lv_if_gt X.1 X.2.1 hd ht (fun q => kt q H locs ls h1 h2 h3) (fun q => kf q H locs ls h1 h2 h3)
theorem zr_icmp_gt {x y : Int32} {off : Int} {tgt : Nat} (X : zv_X S D cA tb sx p s mi args meth c cc nL own ret ini) (hd : decode cc pc = .ok (.if_icmp .gt off, 3)) (ht : (pc : Int) + off = (tgt : Int)) (kt : y < x → zv_V S D cA p l e R s mi args below meth c nL Qf kc ks tgt lo st sh m) (kf : ¬ y < x → zv_V S D cA p l e R s mi args below meth c nL Qf kc ks (pc + 3) lo st sh m) : zv_V S D cA p l e R s mi args below meth c nL Qf kc ks pc lo (.int y :: .int x :: st) sh m := fun H locs ls h1 h2 h3 => lv_icmp_gt X.1 X.2.1 hd ht (fun q => kt q H locs ls h1 h2 h3) (fun q => kf q H locs ls h1 h2 h3)
theorem zr_if_le {x : Int32} {off : Int} {tgt : Nat} (X : zv_X S D cA tb sx p s mi args meth c cc nL own ret ini) (hd : decode cc pc = .ok (.ifCond .le off, 3)) (ht : (pc : Int) + off = (tgt : Int)) (kt : ¬ 0 < x → zv_V S D cA p l e R s mi args below meth c nL Qf kc ks tgt lo st sh m) (kf : 0 < x → zv_V S D cA p l e R s mi args below meth c nL Qf kc ks (pc + 3) lo st sh m) : zv_V S D cA p l e R s mi args below meth c nL Qf kc ks pc lo (.int x :: st) sh m := fun H locs ls h1 h2 h3 => lv_if_le X.1 X.2.1 hd ht (fun q => kt (Int32.not_lt.mpr q) H locs ls h1 h2 h3) (fun q => kf (Int32.not_le.mp q) H locs ls h1 h2 h3)
theorem zr_icmp_le {x y : Int32} {off : Int} {tgt : Nat} (X : zv_X S D cA tb sx p s mi args meth c cc nL own ret ini) (hd : decode cc pc = .ok (.if_icmp .le off, 3)) (ht : (pc : Int) + off = (tgt : Int)) (kt : ¬ y < x → zv_V S D cA p l e R s mi args below meth c nL Qf kc ks tgt lo st sh m) (kf : y < x → zv_V S D cA p l e R s mi args below meth c nL Qf kc ks (pc + 3) lo st sh m) : zv_V S D cA p l e R s mi args below meth c nL Qf kc ks pc lo (.int y :: .int x :: st) sh m := fun H locs ls h1 h2 h3 => lv_icmp_le X.1 X.2.1 hd ht (fun q => kt (Int32.not_lt.mpr q) H locs ls h1 h2 h3) (fun q => kf (Int32.not_le.mp q) H locs ls h1 h2 h3)
theorem zr_goto {off : Int} {tgt : Nat} (X : zv_X S D cA tb sx p s mi args meth c cc nL own ret ini) (hd : decode cc pc = .ok (.goto off, 3)) (ht : (pc : Int) + off = (tgt : Int)) (kk : zv_V S D cA p l e R s mi args below meth c nL Qf kc ks tgt lo st sh m) : zv_V S D cA p l e R s mi args below meth c nL Qf kc ks pc lo st sh m := fun H locs ls h1 h2 h3 => lv_goto X.1 X.2.1 hd ht (kk H locs ls h1 h2 h3)
theorem zr_ifnonnull {x : Nat} {off : Int} {tgt : Nat} (X : zv_X S D cA tb sx p s mi args meth c cc nL own ret ini) (hd : decode cc pc = .ok (.ifnonnull off, 3)) (ht : (pc : Int) + off = (tgt : Int)) (kk : zv_V S D cA p l e R s mi args below meth c nL Qf kc ks tgt lo st sh m) : zv_V S D cA p l e R s mi args below meth c nL Qf kc ks pc lo (.ref x :: st) sh m := fun H locs ls h1 h2 h3 => lv_ifnonnull X.1 X.2.1 hd ht (kk H locs ls h1 h2 h3)
theorem zr_tableOut {dflt a b : Int} {offs : Array Int} {len : Nat} {x : Int32} {tgt : Nat} (X : zv_X S D cA tb sx p s mi args meth c cc nL own ret ini) (hd : decode cc pc = .ok (.tableswitch dflt a b offs, len)) (h : x.toInt < a ∨ b < x.toInt) (ht : (pc : Int) + dflt = (tgt : Int)) (kk : zv_V S D cA p l e R s mi args below meth c nL Qf kc ks tgt lo st sh m) : zv_V S D cA p l e R s mi args below meth c nL Qf kc ks pc lo (.int x :: st) sh m := fun H locs ls h1 h2 h3 => lv_tableOut X.1 X.2.1 hd h ht (kk H locs ls h1 h2 h3)
theorem zr_tableIn {dflt a b : Int} {offs : Array Int} {len : Nat} {x : Int32} {off : Int} {tgt : Nat} (X : zv_X S D cA tb sx p s mi args meth c cc nL own ret ini) (hd : decode cc pc = .ok (.tableswitch dflt a b offs, len)) (z : Int) (hz : x.toInt = z) (g1 : ¬ z < a) (g2 : ¬ b < z) (ho : offs[(z - a).toNat]? = some off) (ht : (pc : Int) + off = (tgt : Int)) (kk : zv_V S D cA p l e R s mi args below meth c nL Qf kc ks tgt lo st sh m) : zv_V S D cA p l e R s mi args below meth c nL Qf kc ks pc lo (.int x :: st) sh m := fun H locs ls h1 h2 h3 => lv_tableIn X.1 X.2.1 hd (by rw [hz]; exact g1) (by rw [hz]; exact g2) (by rw [hz]; exact ho) ht (kk H locs ls h1 h2 h3)
theorem zr_lookup {dflt : Int} {ps : Array (Int × Int)} {len : Nat} {x : Int32} {off : Int} {tgt : Nat} (X : zv_X S D cA tb sx p s mi args meth c cc nL own ret ini) (hd : decode cc pc = .ok (.lookupswitch dflt ps, len)) (hp : (ps.toList.zip (ps.toList.drop 1)).all (fun (a, next) => a.1 < next.1) = true) (ho : Op.lookupswitch.offset ps.toList dflt x.toInt = off) (ht : (pc : Int) + off = (tgt : Int)) (kk : zv_V S D cA p l e R s mi args below meth c nL Qf kc ks tgt lo st sh m) : zv_V S D cA p l e R s mi args below meth c nL Qf kc ks pc lo (.int x :: st) sh m := fun H locs ls h1 h2 h3 => lv_lookup X.1 X.2.1 hd hp ho ht (kk H locs ls h1 h2 h3)
theorem zr_ldc {index : Nat} {v : Int32} (X : zv_X S D cA tb sx p s mi args meth c cc nL own ret ini) (hd : decode cc pc = .ok (.ldc index, 2)) (hc : Cond.constant own index v ∈ zv_tbl) (kk : zv_V S D cA p l e R s mi args below meth c nL Qf kc ks (pc + 2) lo (.int v :: st) sh m) : zv_V S D cA p l e R s mi args below meth c nL Qf kc ks pc lo st sh m := fun H locs ls h1 h2 h3 => lv_ldc X.1 X.2.1 X.2.2.2.2.1 (X.2.2.2.2.2.1 _ hc) hd (kk H locs ls h1 h2 h3)
theorem zr_ldcw {index : Nat} {v : Int32} (X : zv_X S D cA tb sx p s mi args meth c cc nL own ret ini) (hd : decode cc pc = .ok (.ldc_w index, 3)) (hc : Cond.constant own index v ∈ zv_tbl) (kk : zv_V S D cA p l e R s mi args below meth c nL Qf kc ks (pc + 3) lo (.int v :: st) sh m) : zv_V S D cA p l e R s mi args below meth c nL Qf kc ks pc lo st sh m := fun H locs ls h1 h2 h3 => lv_ldcw X.1 X.2.1 X.2.2.2.2.1 (X.2.2.2.2.2.1 _ hc) hd (kk H locs ls h1 h2 h3)
theorem zr_ldc2 {index : Nat} {v : Int64} (X : zv_X S D cA tb sx p s mi args meth c cc nL own ret ini) (hd : decode cc pc = .ok (.ldc2_w index, 3)) (hc : Cond.constantLong own index v ∈ zv_tbl) (kk : zv_V S D cA p l e R s mi args below meth c nL Qf kc ks (pc + 3) lo (.long v :: st) sh m) : zv_V S D cA p l e R s mi args below meth c nL Qf kc ks pc lo st sh m := fun H locs ls h1 h2 h3 => lv_ldc2 X.1 X.2.1 X.2.2.2.2.1 (X.2.2.2.2.2.1 _ hc) hd (kk H locs ls h1 h2 h3)
theorem zr_getI {o ci k idx : Nat} {rs : List (Option Nat)} {fin : Bool} {ty : FieldType} (X : zv_X S D cA tb sx p s mi args meth c cc nL own ret ini) (hd : decode cc pc = .ok (.getfield idx, 3)) (hf : zv_fd own idx ci k fin ty) (hk : zv_kd ci k = false) (ho : sh[o]? = some (.inl (ci, rs))) (hl : k < rs.length) (kk : zv_V S D cA p l e R s mi args below meth c nL Qf kc ks (pc + 3) lo (.int (m.1 o k) :: st) sh m) : zv_V S D cA p l e R s mi args below meth c nL Qf kc ks pc lo (.ref (S.heap.size + o) :: st) sh m := by
  intro H locs ls h1 h2 h3
  obtain ⟨C, T, N, ty0, a1, a2, a3, a4, a5, a6, a7, a8, a9⟩ := hf
  obtain ⟨x1, x2, x3, x4, x5, x6, x7, x8, x9, x10, x11⟩ := X
  refine va_get (D := D) (ci := ci) (v := .int (m.1 o k)) (C := C) (T := T) (N := N) x1 x2 x6 a2 x5 (x9 0 (by decide)) (zv_cell h1 ho) 0 (fs := (List.range rs.length).map (zv_fv S.heap.size m ci o rs)) rfl a1 k a3 (x6 _ a4) (fun y h => by rw [a5] at h; exact h) (zv_fvI hk hl) hd (kk H locs ls h1 h2 h3)
theorem zr_getR {o ci k idx a : Nat} {rs : List (Option Nat)} {fin : Bool} {ty : FieldType} (X : zv_X S D cA tb sx p s mi args meth c cc nL own ret ini) (hd : decode cc pc = .ok (.getfield idx, 3)) (hf : zv_fd own idx ci k fin ty) (hk : zv_kd ci k = true) (ho : sh[o]? = some (.inl (ci, rs))) (hl : rs[k]? = some (some a)) (kk : zv_V S D cA p l e R s mi args below meth c nL Qf kc ks (pc + 3) lo (.ref (S.heap.size + a) :: st) sh m) : zv_V S D cA p l e R s mi args below meth c nL Qf kc ks pc lo (.ref (S.heap.size + o) :: st) sh m := by
  intro H locs ls h1 h2 h3
  obtain ⟨C, T, N, ty0, a1, a2, a3, a4, a5, a6, a7, a8, a9⟩ := hf
  obtain ⟨x1, x2, x3, x4, x5, x6, x7, x8, x9, x10, x11⟩ := X
  refine va_get (D := D) (ci := ci) (v := .ref (S.heap.size + a)) (C := C) (T := T) (N := N) x1 x2 x6 a2 x5 (x9 0 (by decide)) (zv_cell h1 ho) 0 (fs := (List.range rs.length).map (zv_fv S.heap.size m ci o rs)) rfl a1 k a3 (x6 _ a4) (fun y h => by rw [a5] at h; exact h) (zv_fvR hk hl) hd (kk H locs ls h1 h2 h3)
theorem zv_putfs {b : Nat} {m : zv_M} {ci o k : Nat} {rs : List (Option Nat)} {v : Int32} (hk : zv_kd ci k = false) (j : Nat) : vp_V (((List.range rs.length).map (zv_fv b m ci o rs)).set k (.int v)) j = vp_V ((List.range rs.length).map (zv_fv b (wI m o k v) ci o rs)) j := by
  simp only [vp_V, List.getD_eq_getElem?_getD]
  by_cases hj : j < rs.length
  · by_cases hjk : j = k
    · subst hjk
      rw [List.getElem?_set_self (by simpa using hj), zv_fvI hk hj]
      simp [wI]
    · rw [List.getElem?_set_ne (Ne.symm hjk), List.getElem?_map, List.getElem?_map, List.getElem?_range hj]
      simp [zv_fv, wI, hjk]
  · rw [List.getElem?_eq_none (by simpa using hj), List.getElem?_eq_none (by simpa using hj)]
theorem zv_putrs {b : Nat} {m : zv_M} {ci o k a : Nat} {rs : List (Option Nat)} (hk : zv_kd ci k = true) (j : Nat) : vp_V (((List.range rs.length).map (zv_fv b m ci o rs)).set k (.ref (b + a))) j = vp_V ((List.range (rs.set k (some a)).length).map (zv_fv b m ci o (rs.set k (some a)))) j := by
  simp only [vp_V, List.getD_eq_getElem?_getD, List.length_set]
  by_cases hj : j < rs.length
  · by_cases hjk : j = k
    · subst hjk
      rw [List.getElem?_set_self (by simpa using hj), List.getElem?_map, List.getElem?_range hj]
      simp [zv_fv, hk, zv_rv, List.getD_eq_getElem?_getD, hj]
    · rw [List.getElem?_set_ne (Ne.symm hjk), List.getElem?_map, List.getElem?_map, List.getElem?_range hj]
      simp [zv_fv, List.getD_eq_getElem?_getD, List.getElem?_set_ne (Ne.symm hjk)]
  · rw [List.getElem?_eq_none (by simpa using hj), List.getElem?_eq_none (by simpa using hj)]
/-- a word of the world changes: an int field, or an int's-worth of a boolean field -/
theorem zr_put {o ci k idx : Nat} {rs : List (Option Nat)} {ty : FieldType} {v : Int32} (X : zv_X S D cA tb sx p s mi args meth c cc nL own ret ini) (hd : decode cc pc = .ok (.putfield idx, 3)) (hf : zv_fd own idx ci k false ty) (hk : zv_kd ci k = false) (hn : narrow ty (.int v) = .int v) (hfit : fits ty (.int v) = true) (ho : sh[o]? = some (.inl (ci, rs))) (hl : k < rs.length) (kk : zv_V S D cA p l e R s mi args below meth c nL Qf kc ks (pc + 3) lo st sh (wI m o k v)) : zv_V S D cA p l e R s mi args below meth c nL Qf kc ks pc lo (.int v :: .ref (S.heap.size + o) :: st) sh m := by
  intro H locs ls h1 h2 h3
  obtain ⟨C, T, N, ty0, a1, a2, a3, a4, a5, a6, a7, a8, a9⟩ := hf
  obtain ⟨x1, x2, x3, x4, x5, x6, x7, x8, x9, x10, x11⟩ := X
  have hK := x9 0 (by decide)
  have hap := va_apart (own := own) x6 a2 ty0 a6 a7 hK a1
  obtain ⟨r, g1, cell, q1, q2, q3, q4⟩ := h1.2.2 o _ ho
  have hr : r = (C, T, N) := Option.some.inj (g1.symm.trans a1)
  subst hr
  obtain ⟨hS, hfc, kC, hkC, hkind⟩ := hK.1 ci _ a1
  obtain ⟨cf, kf, fi, f, hi, hsl⟩ := hS k a3
  have hlay := x6 _ (a2 _ (u_in_lay a3))
  unfold u_lay at hlay
  rw [if_neg (by rw [a8]; decide)] at hlay
  have hst := (u_facts hfc hkC (u_lays x6 a2 a3) hi).1
  have h6 := u_store hfc hkC hkind hlay hi a9 hn hfit
  refine W.putK x1 x2 (f := f) ⟨x5, x6 _ a4, ⟨_, _, _, by have z := hi; rw [a5] at z; exact z⟩, hst⟩ (by rw [q2]; exact h6) q1 q3 (by rw [hsl]; exact k2_hasslot (q4 k a3)) rfl rfl hd fun H' e1 e2 e3 => ?_
  rw [hsl] at e1 ⊢
  refine kk H' _ ls (zv_W_set h1 e2 e3 rfl (fun _ _ => rfl) ho (fun i c hio => zv_E_wI hio) ?_) ?_ h3
  · refine ⟨_, a1, t_OB.to (V := updV (vp_V ((List.range rs.length).map (zv_fv S.heap.size m ci o rs))) k (.int v)) ⟨_, e1, q2, q3, t_set q4 hap a3 _⟩ (fun j _ => ?_)⟩
    rw [vp_updV_set (by simpa using hl)]
    exact zv_putfs hk j
  · intro q hq
    rcases List.mem_append.mp hq with h | h
    · exact h2 q h
    · rw [List.mem_singleton.mp h]
      exact Nat.le_add_right _ _
theorem zr_putR {o ci k idx a : Nat} {rs : List (Option Nat)} {ty : FieldType} {ret' : Option FieldType} (X : zv_X S D cA tb sx p s mi args meth c cc nL own ret' true) (hd : decode cc pc = .ok (.putfield idx, 3)) (hf : zv_fd own idx ci k true ty) (hC : ∀ q, vwCl[ci]? = some q → q.1 = own) (hk : zv_kd ci k = true) (hn : narrow ty (.ref (S.heap.size + a)) = .ref (S.heap.size + a)) (hfit : fits ty (.ref (S.heap.size + a)) = true) (ho : sh[o]? = some (.inl (ci, rs))) (hl : k < rs.length) (kk : zv_V S D cA p l e R s mi args below meth c nL Qf kc ks (pc + 3) lo st (sh.set o (.inl (ci, rs.set k (some a)))) m) : zv_V S D cA p l e R s mi args below meth c nL Qf kc ks pc lo (.ref (S.heap.size + a) :: .ref (S.heap.size + o) :: st) sh m := by
  intro H locs ls h1 h2 h3
  obtain ⟨C, T, N, ty0, a1, a2, a3, a4, a5, a6, a7, a8, a9⟩ := hf
  obtain ⟨x1, x2, x3, x4, x5, x6, x7, x8, x9, x10, x11, x12, -⟩ := X
  have hK := x9 0 (by decide)
  have hap := va_apart (own := own) x6 a2 ty0 a6 a7 hK a1
  obtain ⟨r, g1, cell, q1, q2, q3, q4⟩ := h1.2.2 o _ ho
  have hr : r = (C, T, N) := Option.some.inj (g1.symm.trans a1)
  subst hr
  obtain ⟨hS, hfc, kC, hkC, hkind⟩ := hK.1 ci _ a1
  obtain ⟨cf, kf, fi, f, hi, hsl⟩ := hS k a3
  have hlay := x6 _ (a2 _ (u_in_lay a3))
  unfold u_lay at hlay
  rw [if_pos a8] at hlay
  have hst := (u_facts hfc hkC (u_lays x6 a2 a3) hi).1
  have hcf : mi.cls = cf := by
    obtain ⟨_, _, c', _, _, _, -, -, hf', -, -, -, hown2, -⟩ := Cond.laysFinal_spec hlay
    have e1 : c' = cf := by have := hi.symm.trans hf'; simp at this; exact this.1.symm
    have hCo : C = own := hC _ a1
    rw [a5, hCo] at hown2
    rw [← e1]; exact Option.some.inj (x5.symm.trans hown2)
  have h6 := u_fits hfc hkC hkind (Or.inr hlay) hi a9 hn hfit
  refine W.putFinK x1 x2 x5 (x6 _ a4) (by have z := hi; rw [a5] at z; exact z) hst hcf (x12 rfl) (by rw [q2]; exact h6) q1 q3 (by rw [hsl]; exact k2_hasslot (q4 k a3)) rfl rfl hd fun H' e1 e2 e3 => ?_
  rw [hsl] at e1 ⊢
  have hlen : o < sh.length := (List.getElem?_eq_some_iff.mp ho).1
  refine kk H' _ ls (zv_W_set h1 e2 e3 (by simp) (fun i hi => List.getElem?_set_ne (Ne.symm hi)) (List.getElem?_set_self hlen) (fun i c hio => rfl) ?_) ?_ h3
  · refine ⟨_, a1, t_OB.to (V := updV (vp_V ((List.range rs.length).map (zv_fv S.heap.size m ci o rs))) k (.ref (S.heap.size + a))) ⟨_, e1, q2, q3, t_set q4 hap a3 _⟩ (fun j _ => ?_)⟩
    rw [vp_updV_set (by simpa using hl)]
    exact zv_putrs hk j
  · intro q hq
    rcases List.mem_append.mp hq with h | h
    · exact h2 q h
    · rw [List.mem_singleton.mp h]
      exact Nat.le_add_right _ _
theorem zr_alen {a t n : Nat} {v : Int32} (X : zv_X S D cA tb sx p s mi args meth c cc nL own ret ini) (hd : decode cc pc = .ok (.arraylength, 1)) (ho : sh[a]? = some (.inr (.inl (t, n)))) (ht : t < 5) (hv : Int32.ofNat n = v) (kk : zv_V S D cA p l e R s mi args below meth c nL Qf kc ks (pc + 1) lo (.int v :: st) sh m) : zv_V S D cA p l e R s mi args below meth c nL Qf kc ks pc lo (.ref (S.heap.size + a) :: st) sh m := by
  intro H locs ls h1 h2 h3
  obtain ⟨x1, x2, x3, x4, x5, x6, x7, x8, x9, x10, x11⟩ := X
  exact va_alen (D := D) x1 x2 (x9 t ht) (zv_cell h1 ho) 0 0 (cA := cA t) (x := (n, if t = 3 then .inr (.inl (m.2 a)) else .inl (m.1 a))) rfl (ty := zv_ty t) rfl hv hd (kk H locs ls h1 h2 h3)
theorem zr_alenQ {a : Nat} {rs : List (Option Nat)} {v : Int32} (X : zv_X S D cA tb sx p s mi args meth c cc nL own ret ini) (hd : decode cc pc = .ok (.arraylength, 1)) (ho : sh[a]? = some (.inr (.inr rs))) (hv : Int32.ofNat rs.length = v) (kk : zv_V S D cA p l e R s mi args below meth c nL Qf kc ks (pc + 1) lo (.int v :: st) sh m) : zv_V S D cA p l e R s mi args below meth c nL Qf kc ks pc lo (.ref (S.heap.size + a) :: st) sh m := by
  intro H locs ls h1 h2 h3
  obtain ⟨x1, x2, x3, x4, x5, x6, x7, x8, x9, x10, x11⟩ := X
  exact va_alen (D := D) x1 x2 (x9 4 (by decide)) (zv_cell h1 ho) 0 0 (cA := cA 4) (x := (rs.length, .inr (.inr (.inr (.inr (fun j => (rs.getD j none).map (fun z => S.heap.size + z))))))) rfl (ty := zv_ty 4) rfl hv hd (kk H locs ls h1 h2 h3)
theorem zr_iald {a n : Nat} {i : Int32} (X : zv_X S D cA tb sx p s mi args meth c cc nL own ret ini) (hd : decode cc pc = .ok (.iaload, 1)) (ho : sh[a]? = some (.inr (.inl (0, n)))) (hin : vp_in i n) (kk : zv_V S D cA p l e R s mi args below meth c nL Qf kc ks (pc + 1) lo (.int (m.1 a i.toNatClampNeg) :: st) sh m) : zv_V S D cA p l e R s mi args below meth c nL Qf kc ks pc lo (.int i :: .ref (S.heap.size + a) :: st) sh m := by
  intro H locs ls h1 h2 h3
  obtain ⟨x1, x2, x3, x4, x5, x6, x7, x8, x9, x10, x11⟩ := X
  exact va_iald (D := D) x1 x2 (x9 0 (by decide)) (zv_cell h1 ho) 0 0 (cA := cA 0) (n := n) (f := m.1 a) rfl rfl hin hd (kk H locs ls h1 h2 h3)
theorem zr_bald {a n : Nat} {i : Int32} (X : zv_X S D cA tb sx p s mi args meth c cc nL own ret ini) (hd : decode cc pc = .ok (.baload, 1)) (ho : sh[a]? = some (.inr (.inl (1, n)))) (hin : vp_in i n) (kk : zv_V S D cA p l e R s mi args below meth c nL Qf kc ks (pc + 1) lo (.int (m.1 a i.toNatClampNeg) :: st) sh m) : zv_V S D cA p l e R s mi args below meth c nL Qf kc ks pc lo (.int i :: .ref (S.heap.size + a) :: st) sh m := by
  intro H locs ls h1 h2 h3
  obtain ⟨x1, x2, x3, x4, x5, x6, x7, x8, x9, x10, x11⟩ := X
  exact va_bald (D := D) x1 x2 (x9 1 (by decide)) (zv_cell h1 ho) 0 0 (cA := cA 1) (n := n) (f := m.1 a) rfl rfl hin hd (kk H locs ls h1 h2 h3)
theorem zr_zald {a n : Nat} {i : Int32} (X : zv_X S D cA tb sx p s mi args meth c cc nL own ret ini) (hd : decode cc pc = .ok (.baload, 1)) (ho : sh[a]? = some (.inr (.inl (2, n)))) (hin : vp_in i n) (kk : zv_V S D cA p l e R s mi args below meth c nL Qf kc ks (pc + 1) lo (.int (m.1 a i.toNatClampNeg) :: st) sh m) : zv_V S D cA p l e R s mi args below meth c nL Qf kc ks pc lo (.int i :: .ref (S.heap.size + a) :: st) sh m := by
  intro H locs ls h1 h2 h3
  obtain ⟨x1, x2, x3, x4, x5, x6, x7, x8, x9, x10, x11⟩ := X
  exact va_zald (D := D) x1 x2 (x9 2 (by decide)) (zv_cell h1 ho) 0 0 (cA := cA 2) (n := n) (f := m.1 a) rfl rfl hin hd (kk H locs ls h1 h2 h3)
theorem zr_lald {a n : Nat} {i : Int32} (X : zv_X S D cA tb sx p s mi args meth c cc nL own ret ini) (hd : decode cc pc = .ok (.laload, 1)) (ho : sh[a]? = some (.inr (.inl (3, n)))) (hin : vp_in i n) (kk : zv_V S D cA p l e R s mi args below meth c nL Qf kc ks (pc + 1) lo (.long (m.2 a i.toNatClampNeg) :: st) sh m) : zv_V S D cA p l e R s mi args below meth c nL Qf kc ks pc lo (.int i :: .ref (S.heap.size + a) :: st) sh m := by
  intro H locs ls h1 h2 h3
  obtain ⟨x1, x2, x3, x4, x5, x6, x7, x8, x9, x10, x11⟩ := X
  exact va_lald (D := D) x1 x2 (x9 3 (by decide)) (zv_cell h1 ho) 0 0 (cA := cA 3) (n := n) (f := m.2 a) rfl rfl hin hd (kk H locs ls h1 h2 h3)
theorem zr_aald {a z : Nat} {rs : List (Option Nat)} {i : Int32} (X : zv_X S D cA tb sx p s mi args meth c cc nL own ret ini) (hd : decode cc pc = .ok (.aaload, 1)) (ho : sh[a]? = some (.inr (.inr rs))) (hin : vp_in i rs.length) (hz : rs[i.toNatClampNeg]? = some (some z)) (kk : zv_V S D cA p l e R s mi args below meth c nL Qf kc ks (pc + 1) lo (.ref (S.heap.size + z) :: st) sh m) : zv_V S D cA p l e R s mi args below meth c nL Qf kc ks pc lo (.int i :: .ref (S.heap.size + a) :: st) sh m := by
  intro H locs ls h1 h2 h3
  obtain ⟨x1, x2, x3, x4, x5, x6, x7, x8, x9, x10, x11⟩ := X
  refine va_aldq (D := D) x1 x2 (x9 4 (by decide)) (zv_cell h1 ho) 0 0 (cA := cA 4) (C := "NoneSees$Yard") (n := rs.length) (f := fun j => (rs.getD j none).map (fun z => S.heap.size + z)) rfl rfl hin hd ?_
  have e : va_rf ((rs.getD i.toNatClampNeg none).map (fun z => S.heap.size + z)) = .ref (S.heap.size + z) := by
    simp [List.getD_eq_getElem?_getD, hz, va_rf]
  have e2 := kk H locs ls h1 h2 h3
  rw [← e] at e2
  exact e2
theorem zv_locs {S : State} {locs : List Loc} {o k : Nat} (h2 : ∀ q ∈ locs, S.heap.size ≤ q.base) : ∀ q ∈ locs ++ [(⟨S.heap.size + o, k⟩ : Loc)], S.heap.size ≤ q.base := by
  intro q hq
  rcases List.mem_append.mp hq with h | h
  · exact h2 q h
  · rw [List.mem_singleton.mp h]
    exact Nat.le_add_right _ _
theorem zv_stI {cA : Nat → ClassId} {m : zv_M} {a t n k : Nat} {v : Int32} : (vp_cell (cA t) (n, .inl (m.1 a))).setSlot k (.int v) = vp_cell (cA t) (n, .inl ((wI m a k v).1 a)) := by
  rw [vp_cell_i, vp_cell_i, arrV_store]
  congr 1
  funext q
  by_cases hq : q = k
  · subst hq
    simp [updV, wI]
  · simp [updV, wI, hq]
theorem zr_iast {a n : Nat} {i v : Int32} (X : zv_X S D cA tb sx p s mi args meth c cc nL own ret ini) (hd : decode cc pc = .ok (.iastore, 1)) (ho : sh[a]? = some (.inr (.inl (0, n)))) (hin : vp_in i n) (kk : zv_V S D cA p l e R s mi args below meth c nL Qf kc ks (pc + 1) lo st sh (wI m a i.toNatClampNeg v)) : zv_V S D cA p l e R s mi args below meth c nL Qf kc ks pc lo (.int v :: .int i :: .ref (S.heap.size + a) :: st) sh m := by
  intro H locs ls h1 h2 h3
  obtain ⟨x1, x2, x3, x4, x5, x6, x7, x8, x9, x10, x11⟩ := X
  refine W.iast x1 x2 (h1.2.2 a _ ho) (((x9 0 (by decide)).2 0 _ rfl).1 n (fun j => .int (m.1 a j))) (fun q => by cases q) (by show ¬ (i < 0 ∨ (arrV _ _ _).slots.size ≤ _); rw [arrV_size]; exact hin) rfl rfl hd fun H1 e1 z oq => ?_
  refine kk H1 _ ls (zv_W_set h1 z oq rfl (fun _ _ => rfl) ho (fun i c hio => zv_E_wI hio) ?_) (zv_locs h2) h3
  show H1[_]? = some (vp_cell (cA 0) (n, .inl ((wI m a i.toNatClampNeg v).1 a)))
  rw [e1]
  exact congrArg some zv_stI
theorem zr_bast {a n : Nat} {i v : Int32} (X : zv_X S D cA tb sx p s mi args meth c cc nL own ret ini) (hd : decode cc pc = .ok (.bastore, 1)) (ho : sh[a]? = some (.inr (.inl (1, n)))) (hin : vp_in i n) (kk : zv_V S D cA p l e R s mi args below meth c nL Qf kc ks (pc + 1) lo st sh (wI m a i.toNatClampNeg v.toInt8.toInt32)) : zv_V S D cA p l e R s mi args below meth c nL Qf kc ks pc lo (.int v :: .int i :: .ref (S.heap.size + a) :: st) sh m := by
  intro H locs ls h1 h2 h3
  obtain ⟨x1, x2, x3, x4, x5, x6, x7, x8, x9, x10, x11⟩ := X
  refine W.bast x1 x2 (h1.2.2 a _ ho) (((x9 1 (by decide)).2 0 _ rfl).1 n (fun j => .int (m.1 a j))) (fun q => by cases q) (by show ¬ (i < 0 ∨ (arrV _ _ _).slots.size ≤ _); rw [arrV_size]; exact hin) rfl rfl hd fun H1 e1 z oq => ?_
  refine kk H1 _ ls (zv_W_set h1 z oq rfl (fun _ _ => rfl) ho (fun i c hio => zv_E_wI hio) ?_) (zv_locs h2) h3
  show H1[_]? = some (vp_cell (cA 1) (n, .inl ((wI m a i.toNatClampNeg v.toInt8.toInt32).1 a)))
  rw [e1]
  exact congrArg some zv_stI
theorem zr_zast {a n : Nat} {i v : Int32} (X : zv_X S D cA tb sx p s mi args meth c cc nL own ret ini) (hd : decode cc pc = .ok (.bastore, 1)) (ho : sh[a]? = some (.inr (.inl (2, n)))) (hin : vp_in i n) (hv : narrow .boolean (.int v) = .int v) (kk : zv_V S D cA p l e R s mi args below meth c nL Qf kc ks (pc + 1) lo st sh (wI m a i.toNatClampNeg v)) : zv_V S D cA p l e R s mi args below meth c nL Qf kc ks pc lo (.int v :: .int i :: .ref (S.heap.size + a) :: st) sh m := by
  intro H locs ls h1 h2 h3
  obtain ⟨x1, x2, x3, x4, x5, x6, x7, x8, x9, x10, x11⟩ := X
  refine W.zast x1 x2 (h1.2.2 a _ ho) (((x9 2 (by decide)).2 0 _ rfl).1 n (fun j => .int (m.1 a j))) (fun q => by cases q) (by show ¬ (i < 0 ∨ (arrV _ _ _).slots.size ≤ _); rw [arrV_size]; exact hin) rfl rfl hd fun H1 e1 z oq => ?_
  refine kk H1 _ ls (zv_W_set h1 z oq rfl (fun _ _ => rfl) ho (fun i c hio => zv_E_wI hio) ?_) (zv_locs h2) h3
  show H1[_]? = some (vp_cell (cA 2) (n, .inl ((wI m a i.toNatClampNeg v).1 a)))
  rw [e1, hv]
  exact congrArg some zv_stI
theorem zv_stL {cA : Nat → ClassId} {m : zv_M} {a t n k : Nat} {v : Int64} : (vp_cell (cA t) (n, .inr (.inl (m.2 a)))).setSlot k (.long v) = vp_cell (cA t) (n, .inr (.inl ((wL m a k v).2 a))) := by
  rw [vp_cell_l, vp_cell_l, arrV_store]
  congr 1
  funext q
  by_cases hq : q = k
  · subst hq
    simp [updV, wL]
  · simp [updV, wL, hq]
theorem zr_last {a n : Nat} {i : Int32} {v : Int64} (X : zv_X S D cA tb sx p s mi args meth c cc nL own ret ini) (hd : decode cc pc = .ok (.lastore, 1)) (ho : sh[a]? = some (.inr (.inl (3, n)))) (hin : vp_in i n) (kk : zv_V S D cA p l e R s mi args below meth c nL Qf kc ks (pc + 1) lo st sh (wL m a i.toNatClampNeg v)) : zv_V S D cA p l e R s mi args below meth c nL Qf kc ks pc lo (.long v :: .int i :: .ref (S.heap.size + a) :: st) sh m := by
  intro H locs ls h1 h2 h3
  obtain ⟨x1, x2, x3, x4, x5, x6, x7, x8, x9, x10, x11⟩ := X
  refine W.last x1 x2 (h1.2.2 a _ ho) (((x9 3 (by decide)).2 0 _ rfl).1 n (fun j => .long (m.2 a j))) (fun q => by cases q) (by show ¬ (i < 0 ∨ (arrV _ _ _).slots.size ≤ _); rw [arrV_size]; exact hin) rfl rfl hd fun H1 e1 z oq => ?_
  refine kk H1 _ ls (zv_W_set h1 z oq rfl (fun _ _ => rfl) ho (fun i c hio => zv_E_wL hio) ?_) (zv_locs h2) h3
  show H1[_]? = some (vp_cell (cA 3) (n, .inr (.inl ((wL m a i.toNatClampNeg v).2 a))))
  rw [e1]
  exact congrArg some zv_stL

/-- a static that holds a table -/
theorem zr_gets {k idx : Nat} (X : zv_X S D cA tb sx p s mi args meth c cc nL own ret ini) (hd : decode cc pc = .ok (.getstatic idx, 3)) (hk : k < 4) (hl : Cond.fieldLink own idx (zv_tc k) (zv_tn k) "[I" ∈ zv_tbl) (kk : zv_V S D cA p l e R s mi args below meth c nL Qf kc ks (pc + 3) lo (.ref (tb k) :: st) sh m) : zv_V S D cA p l e R s mi args below meth c nL Qf kc ks pc lo st sh m := by
  intro H locs ls h1 h2 h3
  obtain ⟨x1, x2, x3, x4, x5, x6, x7, x8, x9, x10, x11, x12, x13⟩ := X
  have hZ : va_Z (zv_tc k) (zv_tn k) "[I" (.ref (tb k)) (fun q => S.heap.size ≤ q) s s.heap := ((x13.2 k hk).1.moved x7.alike).kept (fun a h9 h10 => x10 a (Nat.not_le.mp h10))
  obtain ⟨cf, kf, fi, f, a, cell, g1, g2, g3, g4, g5, g6, g7, g8⟩ := hZ
  have ha : a < S.heap.size := Nat.not_le.mp g8
  exact W.gets x1 x2 x5 (x6 _ hl) g1 g2 g3 g4 (by rw [h1.2.1 a ha, ← x10 a ha]; exact g5) (fun h => by rw [h] at g6; cases g6) g7 rfl hd (kk H locs ls h1 h2 h3)
theorem zr_getsN {k idx : Nat} {host : String} (X : zv_X S D cA tb sx p s mi args meth c cc nL own ret ini) (hd : decode cc pc = .ok (.getstatic idx, 3)) (hk : k < 4) (hl : Cond.fieldLinkNest own idx (zv_tc k) (zv_tn k) "[I" host ∈ zv_tbl) (kk : zv_V S D cA p l e R s mi args below meth c nL Qf kc ks (pc + 3) lo (.ref (tb k) :: st) sh m) : zv_V S D cA p l e R s mi args below meth c nL Qf kc ks pc lo st sh m := by
  intro H locs ls h1 h2 h3
  obtain ⟨x1, x2, x3, x4, x5, x6, x7, x8, x9, x10, x11, x12, x13⟩ := X
  have hZ : va_Z (zv_tc k) (zv_tn k) "[I" (.ref (tb k)) (fun q => S.heap.size ≤ q) s s.heap := ((x13.2 k hk).1.moved x7.alike).kept (fun a h9 h10 => x10 a (Nat.not_le.mp h10))
  obtain ⟨cf, kf, fi, f, a, cell, g1, g2, g3, g4, g5, g6, g7, g8⟩ := hZ
  have ha : a < S.heap.size := Nat.not_le.mp g8
  exact va_WgetsN x1 x2 x5 (x6 _ hl) g1 g2 g3 g4 (by rw [h1.2.1 a ha, ← x10 a ha]; exact g5) (fun h => by rw [h] at g6; cases g6) g7 rfl hd (kk H locs ls h1 h2 h3)
theorem zr_tld {k : Nat} {i : Int32} (X : zv_X S D cA tb sx p s mi args meth c cc nL own ret ini) (hd : decode cc pc = .ok (.iaload, 1)) (hk : k < 4) (hin : vp_in i (zv_tl k)) (kk : zv_V S D cA p l e R s mi args below meth c nL Qf kc ks (pc + 1) lo (.int (zv_tv k i.toNatClampNeg) :: st) sh m) : zv_V S D cA p l e R s mi args below meth c nL Qf kc ks pc lo (.int i :: .ref (tb k) :: st) sh m := by
  intro H locs ls h1 h2 h3
  obtain ⟨x1, x2, x3, x4, x5, x6, x7, x8, x9, x10, x11, x12, x13⟩ := X
  have hT : va_T .int (tb k) (zv_tl k) (fun j => .int (zv_tv k j)) (fun q => S.heap.size ≤ q) s S.heap := (x13.2 k hk).2.moved x7.alike
  obtain ⟨cell, g1, g2, g3, g4, g5, g6, g7⟩ := hT
  have ha : tb k < S.heap.size := Nat.not_le.mp g7
  have hlt : i.toNatClampNeg < zv_tl k := Nat.not_le.mp fun q => hin (Or.inr q)
  have hin' : ¬ (i < 0 ∨ cell.slots.size ≤ i.toNatClampNeg) := by
    intro q
    rcases q with q | q
    · exact hin (Or.inl q)
    · omega
  exact W.iald (v := .int (zv_tv k i.toNatClampNeg)) x1 x2 (by rw [h1.2.1 _ ha]; exact g1) g2 g3 hin' (g6 _ hlt) rfl rfl hd (kk H locs ls h1 h2 h3)
theorem zr_tlen {k : Nat} {v : Int32} (X : zv_X S D cA tb sx p s mi args meth c cc nL own ret ini) (hd : decode cc pc = .ok (.arraylength, 1)) (hk : k < 4) (hv : Int32.ofNat (zv_tl k) = v) (kk : zv_V S D cA p l e R s mi args below meth c nL Qf kc ks (pc + 1) lo (.int v :: st) sh m) : zv_V S D cA p l e R s mi args below meth c nL Qf kc ks pc lo (.ref (tb k) :: st) sh m := by
  subst hv
  intro H locs ls h1 h2 h3
  obtain ⟨x1, x2, x3, x4, x5, x6, x7, x8, x9, x10, x11, x12, x13⟩ := X
  have hT : va_T .int (tb k) (zv_tl k) (fun j => .int (zv_tv k j)) (fun q => S.heap.size ≤ q) s S.heap := (x13.2 k hk).2.moved x7.alike
  obtain ⟨cell, g1, g2, g3, g4, g5, g6, g7⟩ := hT
  have ha : tb k < S.heap.size := Nat.not_le.mp g7
  exact W.alen (n := Int32.ofNat (zv_tl k)) x1 x2 (by rw [h1.2.1 _ ha]; exact g1) g2 g5 rfl rfl hd (kk H locs ls h1 h2 h3)
-- new cells
theorem zr_new {ci n idx : Nat} {C : String} {T : u_T} {ty0 : Nat → FieldType} (X : zv_X S D cA tb sx p s mi args meth c cc nL own ret ini) (hd : decode cc pc = .ok (.new idx, 3)) (hc : vwCl[ci]? = some (C, T, n)) (hin : ∀ w ∈ u_ws C T n, w ∈ zv_tbl) (hty : ∀ k, k < n → parseFieldDescriptor (T k).2.2.1 = some (ty0 k)) (hdv : ∀ k, k < n → defaultValue (ty0 k) = if zv_kd ci k = true then .null else .int 0) (hcl : Cond.classLink own idx C ∈ zv_tbl) (hins : Cond.instantiable C n ∈ zv_tbl) (hini : Cond.initialized C ∈ zv_tbl) (hf : kc + 1 ≤ R.cells ∧ ks + n ≤ R.slots)
    (kk : zv_V S D cA p l e R s mi args below meth c nL Qf (kc + 1) (ks + n) (pc + 3) lo (.ref (S.heap.size + sh.length) :: st) (sh ++ [.inl (ci, List.replicate n none)]) (wZ m sh.length)) : zv_V S D cA p l e R s mi args below meth c nL Qf kc ks pc lo st sh m := by
  intro H locs ls h1 h2 h3
  obtain ⟨x1, x2, x3, x4, x5, x6, x7, x8, x9, x10, x11, x12, x13⟩ := X
  have hK := x9 0 (by decide)
  have hKn := hK.1 ci _ hc
  refine W.newcK x1 x2 x5 (x6 _ hcl) (x6 _ hins) (x6 _ hini) rfl hd hf.1 hf.2 hKn.2.1 rfl fun H1 kC hkC e1 z1 o1 => ?_
  have hW : zv_W S D cA (sh ++ [.inl (ci, List.replicate n none)]) (wZ m sh.length) H1 := by
    refine zv_W_push h1 z1 o1 ⟨_, hc, ?_⟩
    have e2 : H1[S.heap.size + sh.length]? = some (blank (D.1 ci) kC) := by rw [← h1.1]; exact e1
    refine (u_born ty0 x6 hin hKn hkC e2 hty).to (fun k hk => ?_)
    rw [hdv k hk]
    have hk' : k < n := hk
    simp only [vp_V, List.getD_eq_getElem?_getD, List.length_replicate, List.getElem?_map, List.getElem?_range hk', Option.map_some, Option.getD_some, zv_fv, wZ]
    by_cases hr : zv_kd ci k = true
    · simp [hr, zv_rv, List.getElem?_replicate, hk']
    · simp [hr]
  rw [h1.1]
  exact kk H1 locs ls hW h2 h3
theorem zr_newa {atype : ArrayType} {t N : Nat} {n : Int32} (X : zv_X S D cA tb sx p s mi args meth c cc nL own ret ini) (hd : decode cc pc = .ok (.newarray atype, 2)) (hw : Cond.arrayClass (newarray.typeOf atype) ∈ zv_tbl) (hty : newarray.typeOf atype = zv_ty t) (ht : t < 4) (hn : ¬ n < 0) (hN : n.toNatClampNeg = N) (hb : N * componentBytes (newarray.typeOf atype) ≤ 536870912) (hf : kc + 1 ≤ R.cells ∧ ks + N ≤ R.slots)
    (kk : zv_V S D cA p l e R s mi args below meth c nL Qf (kc + 1) (ks + N) (pc + 2) lo (.ref (S.heap.size + sh.length) :: st) (sh ++ [.inr (.inl (t, N))]) (wZ m sh.length)) : zv_V S D cA p l e R s mi args below meth c nL Qf kc ks pc lo (.int n :: st) sh m := by
  intro H locs ls h1 h2 h3
  obtain ⟨x1, x2, x3, x4, x5, x6, x7, x8, x9, x10, x11, x12, x13⟩ := X
  refine va_newaK x1 x2 (x6 _ hw) rfl hd rfl hn hN hb hf.1 hf.2 rfl fun H1 cA' e1 z1 o1 hAr hNm => ?_
  have hcA : cA' = cA t := by
    have q := ((x9 t (by omega)).2 0 _ rfl).2
    have e2 : s.vm.findClass ("[" ++ (zv_ty t).toString) = some (cA t) := by
      rcases t with _ | _ | _ | _ | t
      · exact q
      · exact q
      · exact q
      · exact q
      · omega
    rw [← hty] at e2
    exact Option.some.inj (hNm.symm.trans e2)
  subst hcA
  have hW : zv_W S D cA (sh ++ [.inr (.inl (t, N))]) (wZ m sh.length) H1 := by
    refine zv_W_push h1 z1 o1 ?_
    show H1[S.heap.size + sh.length]? = some (vp_cell (cA t) (N, if t = 3 then .inr (.inl ((wZ m sh.length).2 sh.length)) else .inl ((wZ m sh.length).1 sh.length)))
    rw [← h1.1, e1, hty]
    congr 1
    rcases t with _ | _ | _ | _ | t
    · simp [vp_cell, wZ, zv_ty, defaultValue]
    · simp [vp_cell, wZ, zv_ty, defaultValue]
    · simp [vp_cell, wZ, zv_ty, defaultValue]
    · simp [vp_cell, wZ, zv_ty, defaultValue]
    · omega
  rw [h1.1]
  exact kk H1 locs ls hW h2 h3
theorem zr_newq {N idx : Nat} {n : Int32} (X : zv_X S D cA tb sx p s mi args meth c cc nL own ret ini) (hd : decode cc pc = .ok (.anewarray idx, 3)) (hcl : Cond.classLink own idx "NoneSees$Yard" ∈ zv_tbl) (hov : Cond.arrayOver (.object "NoneSees$Yard") ∈ zv_tbl) (hn : ¬ n < 0) (hN : n.toNatClampNeg = N) (hb : N * 4 ≤ 536870912) (hf : kc + 1 ≤ R.cells ∧ ks + N ≤ R.slots)
    (kk : zv_V S D cA p l e R s mi args below meth c nL Qf (kc + 1) (ks + N) (pc + 3) lo (.ref (S.heap.size + sh.length) :: st) (sh ++ [.inr (.inr (List.replicate N none))]) (wZ m sh.length)) : zv_V S D cA p l e R s mi args below meth c nL Qf kc ks pc lo (.int n :: st) sh m := by
  intro H locs ls h1 h2 h3
  obtain ⟨x1, x2, x3, x4, x5, x6, x7, x8, x9, x10, x11, x12, x13⟩ := X
  subst hN
  refine W.anew x1 x2 x5 (x6 _ hcl) (x6 _ hov) rfl hd rfl hn hb hf.1 hf.2 fun cA' kA comp g1 g2 g3 g4 => ?_
  have hcA : cA' = cA 4 := by
    obtain ⟨kA', comp', q1, q2, q3, q4⟩ := ((x9 4 (by decide)).2 0 _ rfl).2
    exact Option.some.inj (g1.symm.trans q4)
  subst hcA
  refine kk _ locs ls ?_ h2 h3 |> cast (by rw [h1.1])
  refine zv_W_push h1 (by simp) (fun q hq => by rw [Array.getElem?_push, if_neg (Nat.ne_of_lt hq)]) ?_
  show (H.push _)[S.heap.size + sh.length]? = some (vp_cell (cA 4) ((List.replicate n.toNatClampNeg none).length, .inr (.inr (.inr (.inr (fun j => ((List.replicate n.toNatClampNeg (none : Option Nat)).getD j none).map (fun z => S.heap.size + z)))))))
  rw [← h1.1]
  simp only [Array.getElem?_push_size, List.length_replicate, Option.some.injEq]
  rw [arrV_new, vp_cell_q]
  congr 1
  funext j
  by_cases hj : j < n.toNatClampNeg
  · simp [List.getD_eq_getElem?_getD, List.getElem?_replicate, va_rf, hj]
  · simp [List.getD_eq_getElem?_getD, List.getElem?_replicate, va_rf, hj]

theorem zr_aast {a ci v : Nat} {rs vs : List (Option Nat)} {C : u_T} {N : Nat} {i : Int32} (X : zv_X S D cA tb sx p s mi args meth c cc nL own ret ini) (hd : decode cc pc = .ok (.aastore, 1)) (ho : sh[a]? = some (.inr (.inr rs))) (hv : sh[v]? = some (.inl (ci, vs))) (hc : vwCl[ci]? = some ("NoneSees$Yard", C, N)) (hin : vp_in i rs.length) (kk : zv_V S D cA p l e R s mi args below meth c nL Qf kc ks (pc + 1) lo st (sh.set a (.inr (.inr (rs.set i.toNatClampNeg (some v))))) m) : zv_V S D cA p l e R s mi args below meth c nL Qf kc ks pc lo (.ref (S.heap.size + v) :: .int i :: .ref (S.heap.size + a) :: st) sh m := by
  intro H locs ls h1 h2 h3
  obtain ⟨x1, x2, x3, x4, x5, x6, x7, x8, x9, x10, x11⟩ := X
  have hlt : i.toNatClampNeg < rs.length := Nat.not_le.mp fun q => hin (Or.inr q)
  have h0 : ¬ i < 0 := fun q => hin (Or.inl q)
  have hK := x9 4 (by decide)
  obtain ⟨r', hr', cellV, g1, g2, g3, -⟩ := h1.2.2 v _ hv
  have hcls := (hK.1 ci _ hc).2
  obtain ⟨kA, comp, k1, k2, k3, -⟩ := (hK.2 0 _ rfl).2
  have hcomp : comp = D.1 ci := Option.some.inj (k3.symm.trans hcls.1)
  subst hcomp
  obtain ⟨kC, hkC, -⟩ := hcls.2
  refine W.aast x1 x2 (h1.2.2 a _ ho) (fun q h => by cases h) (fun h => by cases h) k1 k2 rfl hkC ⟨h0, by show _ < (arrV _ _ _).slots.size; rw [arrV_size]; exact hlt⟩ g1 (fun q h => by rw [g3] at h; cases h) (by rw [g2]; exact hkC) (by rw [g2]; exact va_assign hcls) rfl rfl hd fun H1 e z oq => ?_
  have hlen : a < sh.length := (List.getElem?_eq_some_iff.mp ho).1
  refine kk H1 _ ls (zv_W_set h1 z oq (by simp) (fun i hi => List.getElem?_set_ne (Ne.symm hi)) (List.getElem?_set_self hlen) (fun i c hio => rfl) ?_) (zv_locs h2) h3
  show H1[_]? = some (vp_cell (cA 4) ((rs.set i.toNatClampNeg (some v)).length, .inr (.inr (.inr (.inr (fun j => ((rs.set i.toNatClampNeg (some v)).getD j none).map (fun z => S.heap.size + z)))))))
  rw [e]
  refine congrArg some ?_
  show (vp_cell (cA 4) (rs.length, .inr (.inr (.inr (.inr (fun j => (rs.getD j none).map (fun z => S.heap.size + z))))))).setSlot _ _ = _
  rw [vp_cell_q, vp_cell_q, arrV_store, List.length_set]
  congr 1
  funext q
  by_cases hq : q = i.toNatClampNeg
  · subst hq
    simp [updV, va_rf, List.getD_eq_getElem?_getD, hlt]
  · simp [updV, hq, List.getD_eq_getElem?_getD, List.getElem?_set_ne (Ne.symm hq)]
/-- a block of longs is copied -/
def wC (m : zv_M) (a0 sp a dp n : Nat) : zv_M := (m.1, fun o' k' => if o' = a then va_cpy (m.2 a0) (m.2 a) sp dp n k' else m.2 o' k')
theorem zr_copyl {a0 a n0 n1 idx : Nat} {sp dp n : Int32} (X : zv_X S D cA tb sx p s mi args meth c cc nL own ret ini) (hd : decode cc pc = .ok (.invokestatic idx, 3)) (hsz : c.maxLocals = nL) (w1 : Cond.methodLink own idx arraycopyName ∈ zv_tbl) (w2 : Cond.native arraycopyName ∈ zv_tbl) (w3 : Cond.static arraycopyName ∈ zv_tbl) (w4 : Cond.initialized "java/lang/System" ∈ zv_tbl) (ho0 : sh[a0]? = some (.inr (.inl (3, n0)))) (ho1 : sh[a]? = some (.inr (.inl (3, n1))))
    (g1 : ¬ sp < 0) (g2 : ¬ dp < 0) (g3 : ¬ n < 0) (g4 : sp.toNatClampNeg + n.toNatClampNeg ≤ n0) (g5 : dp.toNatClampNeg + n.toNatClampNeg ≤ n1) (hframes : 1 ≤ R.frames) (hlocals : (st.map fun v => v.category).sum + (nativeFrameWords "java/lang/System" "arraycopy" 5 + 11) ≤ R.locals)
    (kk : zv_V S D cA p l e R s mi args below meth c nL Qf kc ks (pc + 3) lo st sh (wC m a0 sp.toNatClampNeg a dp.toNatClampNeg n.toNatClampNeg)) : zv_V S D cA p l e R s mi args below meth c nL Qf kc ks pc lo (.int n :: .int dp :: .ref (S.heap.size + a) :: .int sp :: .ref (S.heap.size + a0) :: st) sh m := by
  intro H locs ls h1 h2 h3
  obtain ⟨x1, x2, x3, x4, x5, x6, x7, x8, x9, x10, x11⟩ := X
  have nn : ∀ z : Int32, ¬ z < 0 → z.toInt = (z.toNatClampNeg : Int) := by
    intro z hz
    have hz0 : (0 : Int) ≤ z.toInt := by
      have := Int32.not_lt.mp hz
      simpa using Int32.le_iff_toInt_le.mp this
    show z.toInt = ((z.toInt.toNat : Nat) : Int)
    omega
  intro T hT X
  have hc0 : H[S.heap.size + a0]? = some (vp_cell (cA 3) (n0, .inr (.inl (m.2 a0)))) := h1.2.2 a0 _ ho0
  have hc1 : H[S.heap.size + a]? = some (vp_cell (cA 3) (n1, .inr (.inl (m.2 a)))) := h1.2.2 a _ ho1
  have hA := ((x9 3 (by decide)).2 0 _ rfl).1
  obtain ⟨-, k0, hk0, cm0, hkk0⟩ := hA n0 (fun j => .long (m.2 a0 j))
  obtain ⟨-, k1, hk1, cm1, hkk1⟩ := hA n1 (fun j => .long (m.2 a j))
  obtain ⟨vm', X', step⟩ := X.arraycopy x1 x5 (x6 _ w1) (x6 _ w2) (x6 _ w3) (x6 _ w4) (src := S.heap.size + a0) (dst := S.heap.size + a) (cs := vp_cell (cA 3) (n0, .inr (.inl (m.2 a0)))) (cd := vp_cell (cA 3) (n1, .inr (.inl (m.2 a)))) (srcPos := sp) (destPos := dp) (n := n) (by rw [hT]; exact hc0) (by rw [hT]; exact hc1)
    (fun _ h => by cases h) (fun _ h => by cases h) (fun h => by cases h) (fun h => by cases h) hk0 hk1 hkk0 hkk1 (by simp [zv_ty, refKind]) g1 g2 g3
    (by rw [nn sp g1, nn n g3]; show ¬ _ > ((arrV (cA 3) n0 (fun j => .long (m.2 a0 j))).slots.size : Int); rw [arrV_size]; omega)
    (by rw [nn dp g2, nn n g3]; show ¬ _ > ((arrV (cA 3) n1 (fun j => .long (m.2 a j))).slots.size : Int); rw [arrV_size]; omega)
    (fun vm₁ _ i hi => by
      have e : (vp_cell (cA 3) (n0, .inr (.inl (m.2 a0)))).slots.getD (sp.toNatClampNeg + i) .null = .long (m.2 a0 (sp.toNatClampNeg + i)) := by
        show (arrV (cA 3) n0 (fun j => .long (m.2 a0 j))).slots.getD _ _ = _
        rw [Array.getD_eq_getD_getElem?, arrV_read _ _ (by omega)]
        rfl
      refine ⟨?_, ?_⟩
      · rw [e]
        rfl
      · rw [e]
        exact trivial)
    (g := F0 mi pc ls (.int n :: .int dp :: .ref (S.heap.size + a) :: .int sp :: .ref (S.heap.size + a0) :: st)) rfl (by rw [x3]; exact h3.1) (rest := st) rfl (by rw [x2]; exact hd) hframes (by show 2 * 0 + _ + _ ≤ _; omega)
  have e1 : copied (vp_cell (cA 3) (n0, .inr (.inl (m.2 a0)))) (vp_cell (cA 3) (n1, .inr (.inl (m.2 a)))) sp dp n = vp_cell (cA 3) (n1, .inr (.inl (va_cpy (m.2 a0) (m.2 a) sp.toNatClampNeg dp.toNatClampNeg n.toNatClampNeg))) := va_copied (fun z => .long z) (cA 3) (cA 3) (m.2 a0) (m.2 a) g4
  rw [e1] at X' step
  have hl : S.heap.size + a < H.size := (Array.getElem?_eq_some_iff.mp hc1).1
  have hheap : ((T.setVm vm').setCell (S.heap.size + a) (vp_cell (cA 3) (n1, .inr (.inl (va_cpy (m.2 a0) (m.2 a) sp.toNatClampNeg dp.toNatClampNeg n.toNatClampNeg))))).heap = H.setIfInBounds (S.heap.size + a) (vp_cell (cA 3) (n1, .inr (.inl (va_cpy (m.2 a0) (m.2 a) sp.toNatClampNeg dp.toNatClampNeg n.toNatClampNeg)))) := by rw [← hT]; rfl
  have oq : ∀ q : Nat, q ≠ S.heap.size + a → (H.setIfInBounds (S.heap.size + a) (vp_cell (cA 3) (n1, .inr (.inl (va_cpy (m.2 a0) (m.2 a) sp.toNatClampNeg dp.toNatClampNeg n.toNatClampNeg)))))[q]? = H[q]? := fun q hq => by simp [Array.getElem?_setIfInBounds, Ne.symm hq]
  obtain ⟨t, a1, b1⟩ := kk _ _ ls (zv_W_set h1 (by simp) oq rfl (fun _ _ => rfl) ho1 (fun i c hio => by
      rcases c with ⟨ci, rs⟩ | ⟨t, n⟩ | rs
      · rfl
      · simp [zv_E, wC, hio]
      · rfl) (show (H.setIfInBounds (S.heap.size + a) _)[S.heap.size + a]? = some (vp_cell (cA 3) (n1, .inr (.inl ((wC m a0 sp.toNatClampNeg a dp.toNatClampNeg n.toNatClampNeg).2 a)))) by simp [Array.getElem?_setIfInBounds, hl, wC])) (fun q hq => by
      rcases List.mem_append.mp hq with h | h
      · exact h2 q h
      · obtain ⟨z, -, hz⟩ := List.mem_map.mp h
        rw [← hz]
        exact Nat.le_add_right _ _) h3 _ hheap X'
  exact ⟨t, step t a1, b1⟩
theorem zr_objInit {idx : Nat} {a : Nat} (X : zv_X S D cA tb sx p s mi args meth c cc nL own ret ini) (hd : decode cc pc = .ok (.invokespecial idx, 3)) (w1 : Cond.methodLink own idx Lib.objectInit ∈ zv_tbl) (w2 : Cond.instanceMethod Lib.objectInit ∈ zv_tbl) (w3 : Cond.code Lib.objectInit ⟨#[0xb1]⟩ 1 none ∈ zv_tbl) (hframes : 1 ≤ R.frames) (hlocals : (st.map fun v => v.category).sum + 12 ≤ R.locals) (kk : zv_V S D cA p l e R s mi args below meth c nL Qf kc ks (pc + 3) lo st sh m) : zv_V S D cA p l e R s mi args below meth c nL Qf kc ks pc lo (.ref a :: st) sh m := by
  intro H locs ls h1 h2 h3
  obtain ⟨x1, x2, x3, x4, x5, x6, x7, x8, x9, x10, x11⟩ := X
  exact W.objInit x1 x2 x5 (x6 _ w1) (x6 _ w2) (x6 _ w3) rfl (by rw [x3]; exact h3.1) rfl hd hframes (by show 2 * 0 + _ + 12 ≤ _; omega) (kk H locs ls h1 h2 h3)
-- calls
theorem zv_blind {S : State} {D : va_G} {cA : Nat → ClassId} {as : List Value} {sh : List zv_C} {m : zv_M} : FrameBlind (zv_P S D cA as sh m) := fun _ _ _ _ h => ⟨h.1, h.2.1, h.2.2⟩
theorem zv_call {Q' : Option Value → List zv_C → zv_M → Prop} {mc ms : Nat} {H : Heap} {locs : List Loc} {ls : Array Slot} {st0 : List Value} {a : Array Value} (h2 : ∀ q ∈ locs, S.heap.size ≤ q.base) (h3 : lv_has ls nL lo) (X : zv_X S D cA tb sx p s mi args meth c cc nL own ret ini) (hr : va_Run p l e R s mi args below meth c H locs kc ks mc ms (F0 mi pc ls st0) st (zv_Q S D cA Q' a) (zv_fr S))
    (kk : ∀ (r : Option Value) (sh' : List zv_C) (m' : zv_M), Q' r sh' m' → zv_V S D cA p l e R s mi args below meth c nL Qf (kc + mc) (ks + ms) (pc + 3) lo (r.toList ++ st) sh' m') : W p l e R s mi args below meth c H locs kc ks Qf (F0 mi pc ls st0) := by
  intro T hT X'
  obtain ⟨v, st₀, t, T', L, h0, X', hL, e1, e2, ⟨r, sh', m', hv, hQ, hA, hW⟩, stp⟩ := hr T hT X'
  cases hv
  rw [← e1] at hW
  obtain ⟨t2, a1, b1⟩ := kk v sh' m' hQ T'.heap (locs ++ L) ls hW (fun q hq => by
    rcases List.mem_append.mp hq with h | h
    · exact h2 q h
    · exact hL q h) h3 T' rfl X'
  exact ⟨t2, stp t2 a1, b1⟩
theorem zr_callV {y : MethodName} {bytes : ByteArray} {maxL n o ci d mc ms idx : Nat} {rt : Option FieldType} {rs : List (Option Nat)} {As : List Value} {Q' : Option Value → List zv_C → zv_M → Prop} (X : zv_X S D cA tb sx p s mi args meth c cc nL own ret ini) (hd : decode cc pc = .ok (.invokevirtual idx, 3)) (w1 : Cond.methodLink own idx y ∈ zv_tbl) (hy : zv_my y bytes maxL rt n) (hyv : zv_myV y ci) (ho : sh[o]? = some (.inl (ci, rs))) (hn : As.length = n) (hst : (st.map fun v => v.category).sum ≤ 8) (hR : d + 1 ≤ R.frames ∧ 40 * d + 40 ≤ R.locals) (hf : kc + mc ≤ R.cells ∧ ks + ms ≤ R.slots)
    (hM : zv_Met l S D cA d mc ms y bytes maxL rt (.ref (S.heap.size + o) :: As) sh m Q') (kk : ∀ (r : Option Value) (sh' : List zv_C) (m' : zv_M), Q' r sh' m' → zv_V S D cA p l e R s mi args below meth c nL Qf (kc + mc) (ks + ms) (pc + 3) lo (r.toList ++ st) sh' m') : zv_V S D cA p l e R s mi args below meth c nL Qf kc ks pc lo (As.reverse ++ .ref (S.heap.size + o) :: st) sh m := by
  intro H locs ls h1 h2 h3
  have X0 := X
  obtain ⟨x1, x2, x3, x4, x5, x6, x7, x8, x9, x10, x11⟩ := X
  obtain ⟨y1, y2, y3, y4⟩ := hy
  obtain ⟨z1, z2, T, N, z3⟩ := hyv
  refine zv_call h2 h3 X0 (va_runV (As := As) (rest := st) (C := y.cls) ⟨x1, x2, x3, x5, x6⟩ hM ⟨⟨rfl, rfl, hR.1, by show 8 + (maxL + 11) + 40 * d ≤ R.locals; omega, zv_ws y1 x6, List.mem_cons_self, x6 _ y1, x6 _ y2, ⟨y3.1, y3.2.1⟩, zv_ar y3.2.2, x6 _ w1⟩, x6 _ z1, x6 _ z2⟩ ⟨zv_blind, va_recv (x9 0 (by decide)) (zv_cell h1 ho) (ci := ci) (q0 := 0) z3 rfl, fun U hU hW => ⟨rfl, x7.trans hW, by rw [hU]; exact h1⟩⟩ rfl hn h3.1 rfl (lv_room hst) hd hf) kk
theorem zr_callS {y : MethodName} {bytes : ByteArray} {maxL n d mc ms idx : Nat} {rt : Option FieldType} {As : List Value} {Q' : Option Value → List zv_C → zv_M → Prop} (X : zv_X S D cA tb sx p s mi args meth c cc nL own ret ini) (hd : decode cc pc = .ok (.invokestatic idx, 3)) (w1 : Cond.methodLink own idx y ∈ zv_tbl) (w2 : Cond.static y ∈ zv_tbl) (hy : zv_my y bytes maxL rt n) (hn : As.length = n) (hst : (st.map fun v => v.category).sum ≤ 8) (hR : d + 1 ≤ R.frames ∧ 40 * d + 40 ≤ R.locals) (hf : kc + mc ≤ R.cells ∧ ks + ms ≤ R.slots)
    (hM : zv_Met l S D cA d mc ms y bytes maxL rt As sh m Q') (kk : ∀ (r : Option Value) (sh' : List zv_C) (m' : zv_M), Q' r sh' m' → zv_V S D cA p l e R s mi args below meth c nL Qf (kc + mc) (ks + ms) (pc + 3) lo (r.toList ++ st) sh' m') : zv_V S D cA p l e R s mi args below meth c nL Qf kc ks pc lo (As.reverse ++ st) sh m := by
  intro H locs ls h1 h2 h3
  have X0 := X
  obtain ⟨x1, x2, x3, x4, x5, x6, x7, x8, x9, x10, x11⟩ := X
  obtain ⟨y1, y2, y3, y4⟩ := hy
  refine zv_call h2 h3 X0 (va_runS (As := As) (rest := st) ⟨x1, x2, x3, x5, x6⟩ hM ⟨⟨rfl, rfl, hR.1, by show 8 + (maxL + 11) + 40 * d ≤ R.locals; omega, zv_ws y1 x6, List.mem_cons_self, x6 _ y1, x6 _ y2, ⟨y3.1, y3.2.1⟩, zv_ar y3.2.2, x6 _ w1⟩, x6 _ w2⟩ ⟨zv_blind, fun U hU hW => ⟨rfl, x7.trans hW, by rw [hU]; exact h1⟩⟩ rfl hn h3.1 rfl (lv_room hst) hd hf) kk
theorem zr_callSN {y : MethodName} {bytes : ByteArray} {maxL n d mc ms idx : Nat} {host : String} {rt : Option FieldType} {As : List Value} {Q' : Option Value → List zv_C → zv_M → Prop} (X : zv_X S D cA tb sx p s mi args meth c cc nL own ret ini) (hd : decode cc pc = .ok (.invokestatic idx, 3)) (w1 : Cond.methodLinkNest own idx y host ∈ zv_tbl) (w2 : Cond.static y ∈ zv_tbl) (hy : zv_my y bytes maxL rt n) (hn : As.length = n) (hst : (st.map fun v => v.category).sum ≤ 8) (hR : d + 1 ≤ R.frames ∧ 40 * d + 40 ≤ R.locals) (hf : kc + mc ≤ R.cells ∧ ks + ms ≤ R.slots)
    (hM : zv_Met l S D cA d mc ms y bytes maxL rt As sh m Q') (kk : ∀ (r : Option Value) (sh' : List zv_C) (m' : zv_M), Q' r sh' m' → zv_V S D cA p l e R s mi args below meth c nL Qf (kc + mc) (ks + ms) (pc + 3) lo (r.toList ++ st) sh' m') : zv_V S D cA p l e R s mi args below meth c nL Qf kc ks pc lo (As.reverse ++ st) sh m := by
  intro H locs ls h1 h2 h3
  have X0 := X
  obtain ⟨x1, x2, x3, x4, x5, x6, x7, x8, x9, x10, x11⟩ := X
  obtain ⟨y1, y2, y3, y4⟩ := hy
  refine zv_call h2 h3 X0 (va_runSN (As := As) (rest := st) ⟨x1, x2, x3, x5, x6⟩ hM ⟨⟨⟨rfl, rfl, hR.1, by show 8 + (maxL + 11) + 40 * d ≤ R.locals; omega, zv_ws y1 x6, List.mem_cons_self⟩, x6 _ y1, x6 _ y2, ⟨y3.1, y3.2.1⟩, zv_ar y3.2.2, x6 _ w1⟩, x6 _ w2, trivial⟩ ⟨zv_blind, fun U hU hW => ⟨rfl, x7.trans hW, by rw [hU]; exact h1⟩⟩ rfl hn h3.1 rfl (lv_room hst) hd hf) kk
theorem zr_callI {y : MethodName} {bytes : ByteArray} {maxL n d mc ms idx a : Nat} {As : List Value} {Q' : Option Value → List zv_C → zv_M → Prop} (X : zv_X S D cA tb sx p s mi args meth c cc nL own ret ini) (hd : decode cc pc = .ok (.invokespecial idx, 3)) (w1 : Cond.methodLink own idx y ∈ zv_tbl) (w2 : Cond.instanceMethod y ∈ zv_tbl) (hy1 : y.name = "<init>") (hy : zv_my y bytes maxL none n) (hn : As.length = n) (hst : (st.map fun v => v.category).sum ≤ 8) (hR : d + 1 ≤ R.frames ∧ 40 * d + 40 ≤ R.locals) (hf : kc + mc ≤ R.cells ∧ ks + ms ≤ R.slots)
    (hM : zv_Met l S D cA d mc ms y bytes maxL none (.ref a :: As) sh m Q') (kk : ∀ (r : Option Value) (sh' : List zv_C) (m' : zv_M), Q' r sh' m' → zv_V S D cA p l e R s mi args below meth c nL Qf (kc + mc) (ks + ms) (pc + 3) lo (r.toList ++ st) sh' m') : zv_V S D cA p l e R s mi args below meth c nL Qf kc ks pc lo (As.reverse ++ .ref a :: st) sh m := by
  intro H locs ls h1 h2 h3
  have X0 := X
  obtain ⟨x1, x2, x3, x4, x5, x6, x7, x8, x9, x10, x11⟩ := X
  obtain ⟨y1, y2, y3, y4⟩ := hy
  refine zv_call h2 h3 X0 (va_runI (As := As) (rest := st) ⟨x1, x2, x3, x5, x6⟩ hM ⟨⟨rfl, rfl, hR.1, by show 8 + (maxL + 11) + 40 * d ≤ R.locals; omega, zv_ws y1 x6, List.mem_cons_self, x6 _ y1, x6 _ y2, ⟨y3.1, y3.2.1⟩, zv_ar y3.2.2, x6 _ w1⟩, hy1, x6 _ w2⟩ ⟨zv_blind, fun U hU hW => ⟨rfl, x7.trans hW, by rw [hU]; exact h1⟩⟩ rfl hn h3.1 rfl (lv_room hst) hd hf) kk
theorem zr_callIN {y : MethodName} {bytes : ByteArray} {maxL n d mc ms idx a : Nat} {host : String} {As : List Value} {Q' : Option Value → List zv_C → zv_M → Prop} (X : zv_X S D cA tb sx p s mi args meth c cc nL own ret ini) (hd : decode cc pc = .ok (.invokespecial idx, 3)) (w1 : Cond.methodLinkNest own idx y host ∈ zv_tbl) (w2 : Cond.instanceMethod y ∈ zv_tbl) (hy1 : y.name = "<init>") (hy : zv_my y bytes maxL none n) (hn : As.length = n) (hst : (st.map fun v => v.category).sum ≤ 8) (hR : d + 1 ≤ R.frames ∧ 40 * d + 40 ≤ R.locals) (hf : kc + mc ≤ R.cells ∧ ks + ms ≤ R.slots)
    (hM : zv_Met l S D cA d mc ms y bytes maxL none (.ref a :: As) sh m Q') (kk : ∀ (r : Option Value) (sh' : List zv_C) (m' : zv_M), Q' r sh' m' → zv_V S D cA p l e R s mi args below meth c nL Qf (kc + mc) (ks + ms) (pc + 3) lo (r.toList ++ st) sh' m') : zv_V S D cA p l e R s mi args below meth c nL Qf kc ks pc lo (As.reverse ++ .ref a :: st) sh m := by
  intro H locs ls h1 h2 h3
  have X0 := X
  obtain ⟨x1, x2, x3, x4, x5, x6, x7, x8, x9, x10, x11⟩ := X
  obtain ⟨y1, y2, y3, y4⟩ := hy
  refine zv_call h2 h3 X0 (va_runIN (As := As) (rest := st) ⟨x1, x2, x3, x5, x6⟩ hM ⟨⟨⟨rfl, rfl, hR.1, by show 8 + (maxL + 11) + 40 * d ≤ R.locals; omega, zv_ws y1 x6, List.mem_cons_self⟩, x6 _ y1, x6 _ y2, ⟨y3.1, y3.2.1⟩, zv_ar y3.2.2, x6 _ w1⟩, hy1, x6 _ w2⟩ ⟨zv_blind, fun U hU hW => ⟨rfl, x7.trans hW, by rw [hU]; exact h1⟩⟩ rfl hn h3.1 rfl (lv_room hst) hd hf) kk
/-- what a call gives: an int, a long, a cell, nothing -/
def zq_i (sh : List zv_C) (K : Int32 → zv_M → Prop) : Option Value → List zv_C → zv_M → Prop := fun r sh' m' => sh' = sh ∧ ∃ v, r = some (.int v) ∧ K v m'
def zq_l (sh : List zv_C) (K : Int64 → zv_M → Prop) : Option Value → List zv_C → zv_M → Prop := fun r sh' m' => sh' = sh ∧ ∃ v, r = some (.long v) ∧ K v m'
def zq_a (b : Nat) (sh : List zv_C) (K : Nat → zv_M → Prop) : Option Value → List zv_C → zv_M → Prop := fun r sh' m' => sh' = sh ∧ ∃ v, r = some (.ref (b + v)) ∧ K v m'
def zq_v (sh : List zv_C) (K : zv_M → Prop) : Option Value → List zv_C → zv_M → Prop := fun r sh' m' => sh' = sh ∧ r = none ∧ K m'
theorem zr_callV_i {y : MethodName} {bytes : ByteArray} {maxL n d idx : Nat} {rt : Option FieldType} {As : List Value} {K : Int32 → zv_M → Prop} {o ci : Nat} {rs : List (Option Nat)} (X : zv_X S D cA tb sx p s mi args meth c cc nL own ret ini) (hd : decode cc pc = .ok (.invokevirtual idx, 3)) (w1 : Cond.methodLink own idx y ∈ zv_tbl) (hy : zv_my y bytes maxL rt n) (hyv : zv_myV y ci) (ho : sh[o]? = some (.inl (ci, rs))) (hn : As.length = n) (hst : (st.map fun v => v.category).sum ≤ 8) (hR : d + 1 ≤ R.frames ∧ 40 * d + 40 ≤ R.locals) (hf : kc + 0 ≤ R.cells ∧ ks + 0 ≤ R.slots) (hM : zv_Met l S D cA d 0 0 y bytes maxL rt (.ref (S.heap.size + o) :: As) sh m (zq_i sh K)) (kk : ∀ (v : Int32) (m' : zv_M), K v m' → zv_V S D cA p l e R s mi args below meth c nL Qf kc ks (pc + 3) lo (.int v :: st) sh m') : zv_V S D cA p l e R s mi args below meth c nL Qf kc ks pc lo (As.reverse ++ .ref (S.heap.size + o) :: st) sh m := zr_callV X hd w1 hy hyv ho hn hst hR hf hM (fun r sh' m' q => by obtain ⟨rfl, v, rfl, q⟩ := q; exact kk v _ q)
theorem zr_callV_l {y : MethodName} {bytes : ByteArray} {maxL n d idx : Nat} {rt : Option FieldType} {As : List Value} {K : Int64 → zv_M → Prop} {o ci : Nat} {rs : List (Option Nat)} (X : zv_X S D cA tb sx p s mi args meth c cc nL own ret ini) (hd : decode cc pc = .ok (.invokevirtual idx, 3)) (w1 : Cond.methodLink own idx y ∈ zv_tbl) (hy : zv_my y bytes maxL rt n) (hyv : zv_myV y ci) (ho : sh[o]? = some (.inl (ci, rs))) (hn : As.length = n) (hst : (st.map fun v => v.category).sum ≤ 8) (hR : d + 1 ≤ R.frames ∧ 40 * d + 40 ≤ R.locals) (hf : kc + 0 ≤ R.cells ∧ ks + 0 ≤ R.slots) (hM : zv_Met l S D cA d 0 0 y bytes maxL rt (.ref (S.heap.size + o) :: As) sh m (zq_l sh K)) (kk : ∀ (v : Int64) (m' : zv_M), K v m' → zv_V S D cA p l e R s mi args below meth c nL Qf kc ks (pc + 3) lo (.long v :: st) sh m') : zv_V S D cA p l e R s mi args below meth c nL Qf kc ks pc lo (As.reverse ++ .ref (S.heap.size + o) :: st) sh m := zr_callV X hd w1 hy hyv ho hn hst hR hf hM (fun r sh' m' q => by obtain ⟨rfl, v, rfl, q⟩ := q; exact kk v _ q)
theorem zr_callV_a {y : MethodName} {bytes : ByteArray} {maxL n d idx : Nat} {rt : Option FieldType} {As : List Value} {K : Nat → zv_M → Prop} {o ci : Nat} {rs : List (Option Nat)} (X : zv_X S D cA tb sx p s mi args meth c cc nL own ret ini) (hd : decode cc pc = .ok (.invokevirtual idx, 3)) (w1 : Cond.methodLink own idx y ∈ zv_tbl) (hy : zv_my y bytes maxL rt n) (hyv : zv_myV y ci) (ho : sh[o]? = some (.inl (ci, rs))) (hn : As.length = n) (hst : (st.map fun v => v.category).sum ≤ 8) (hR : d + 1 ≤ R.frames ∧ 40 * d + 40 ≤ R.locals) (hf : kc + 0 ≤ R.cells ∧ ks + 0 ≤ R.slots) (hM : zv_Met l S D cA d 0 0 y bytes maxL rt (.ref (S.heap.size + o) :: As) sh m (zq_a S.heap.size sh K)) (kk : ∀ (v : Nat) (m' : zv_M), K v m' → zv_V S D cA p l e R s mi args below meth c nL Qf kc ks (pc + 3) lo (.ref (S.heap.size + v) :: st) sh m') : zv_V S D cA p l e R s mi args below meth c nL Qf kc ks pc lo (As.reverse ++ .ref (S.heap.size + o) :: st) sh m := zr_callV X hd w1 hy hyv ho hn hst hR hf hM (fun r sh' m' q => by obtain ⟨rfl, v, rfl, q⟩ := q; exact kk v _ q)
theorem zr_callV_v {y : MethodName} {bytes : ByteArray} {maxL n d idx : Nat} {rt : Option FieldType} {As : List Value} {K : zv_M → Prop} {o ci : Nat} {rs : List (Option Nat)} (X : zv_X S D cA tb sx p s mi args meth c cc nL own ret ini) (hd : decode cc pc = .ok (.invokevirtual idx, 3)) (w1 : Cond.methodLink own idx y ∈ zv_tbl) (hy : zv_my y bytes maxL rt n) (hyv : zv_myV y ci) (ho : sh[o]? = some (.inl (ci, rs))) (hn : As.length = n) (hst : (st.map fun v => v.category).sum ≤ 8) (hR : d + 1 ≤ R.frames ∧ 40 * d + 40 ≤ R.locals) (hf : kc + 0 ≤ R.cells ∧ ks + 0 ≤ R.slots) (hM : zv_Met l S D cA d 0 0 y bytes maxL rt (.ref (S.heap.size + o) :: As) sh m (zq_v sh K)) (kk : ∀ (m' : zv_M), K m' → zv_V S D cA p l e R s mi args below meth c nL Qf kc ks (pc + 3) lo st sh m') : zv_V S D cA p l e R s mi args below meth c nL Qf kc ks pc lo (As.reverse ++ .ref (S.heap.size + o) :: st) sh m := zr_callV X hd w1 hy hyv ho hn hst hR hf hM (fun r sh' m' q => by obtain ⟨rfl, rfl, q⟩ := q; exact kk _ q)
theorem zr_callS_i {y : MethodName} {bytes : ByteArray} {maxL n d idx : Nat} {rt : Option FieldType} {As : List Value} {K : Int32 → zv_M → Prop} (X : zv_X S D cA tb sx p s mi args meth c cc nL own ret ini) (hd : decode cc pc = .ok (.invokestatic idx, 3)) (w1 : Cond.methodLink own idx y ∈ zv_tbl) (w2 : Cond.static y ∈ zv_tbl) (hy : zv_my y bytes maxL rt n) (hn : As.length = n) (hst : (st.map fun v => v.category).sum ≤ 8) (hR : d + 1 ≤ R.frames ∧ 40 * d + 40 ≤ R.locals) (hf : kc + 0 ≤ R.cells ∧ ks + 0 ≤ R.slots) (hM : zv_Met l S D cA d 0 0 y bytes maxL rt As sh m (zq_i sh K)) (kk : ∀ (v : Int32) (m' : zv_M), K v m' → zv_V S D cA p l e R s mi args below meth c nL Qf kc ks (pc + 3) lo (.int v :: st) sh m') : zv_V S D cA p l e R s mi args below meth c nL Qf kc ks pc lo (As.reverse ++ st) sh m := zr_callS X hd w1 w2 hy hn hst hR hf hM (fun r sh' m' q => by obtain ⟨rfl, v, rfl, q⟩ := q; exact kk v _ q)
theorem zr_callS_l {y : MethodName} {bytes : ByteArray} {maxL n d idx : Nat} {rt : Option FieldType} {As : List Value} {K : Int64 → zv_M → Prop} (X : zv_X S D cA tb sx p s mi args meth c cc nL own ret ini) (hd : decode cc pc = .ok (.invokestatic idx, 3)) (w1 : Cond.methodLink own idx y ∈ zv_tbl) (w2 : Cond.static y ∈ zv_tbl) (hy : zv_my y bytes maxL rt n) (hn : As.length = n) (hst : (st.map fun v => v.category).sum ≤ 8) (hR : d + 1 ≤ R.frames ∧ 40 * d + 40 ≤ R.locals) (hf : kc + 0 ≤ R.cells ∧ ks + 0 ≤ R.slots) (hM : zv_Met l S D cA d 0 0 y bytes maxL rt As sh m (zq_l sh K)) (kk : ∀ (v : Int64) (m' : zv_M), K v m' → zv_V S D cA p l e R s mi args below meth c nL Qf kc ks (pc + 3) lo (.long v :: st) sh m') : zv_V S D cA p l e R s mi args below meth c nL Qf kc ks pc lo (As.reverse ++ st) sh m := zr_callS X hd w1 w2 hy hn hst hR hf hM (fun r sh' m' q => by obtain ⟨rfl, v, rfl, q⟩ := q; exact kk v _ q)
theorem zr_callS_a {y : MethodName} {bytes : ByteArray} {maxL n d idx : Nat} {rt : Option FieldType} {As : List Value} {K : Nat → zv_M → Prop} (X : zv_X S D cA tb sx p s mi args meth c cc nL own ret ini) (hd : decode cc pc = .ok (.invokestatic idx, 3)) (w1 : Cond.methodLink own idx y ∈ zv_tbl) (w2 : Cond.static y ∈ zv_tbl) (hy : zv_my y bytes maxL rt n) (hn : As.length = n) (hst : (st.map fun v => v.category).sum ≤ 8) (hR : d + 1 ≤ R.frames ∧ 40 * d + 40 ≤ R.locals) (hf : kc + 0 ≤ R.cells ∧ ks + 0 ≤ R.slots) (hM : zv_Met l S D cA d 0 0 y bytes maxL rt As sh m (zq_a S.heap.size sh K)) (kk : ∀ (v : Nat) (m' : zv_M), K v m' → zv_V S D cA p l e R s mi args below meth c nL Qf kc ks (pc + 3) lo (.ref (S.heap.size + v) :: st) sh m') : zv_V S D cA p l e R s mi args below meth c nL Qf kc ks pc lo (As.reverse ++ st) sh m := zr_callS X hd w1 w2 hy hn hst hR hf hM (fun r sh' m' q => by obtain ⟨rfl, v, rfl, q⟩ := q; exact kk v _ q)
theorem zr_callS_v {y : MethodName} {bytes : ByteArray} {maxL n d idx : Nat} {rt : Option FieldType} {As : List Value} {K : zv_M → Prop} (X : zv_X S D cA tb sx p s mi args meth c cc nL own ret ini) (hd : decode cc pc = .ok (.invokestatic idx, 3)) (w1 : Cond.methodLink own idx y ∈ zv_tbl) (w2 : Cond.static y ∈ zv_tbl) (hy : zv_my y bytes maxL rt n) (hn : As.length = n) (hst : (st.map fun v => v.category).sum ≤ 8) (hR : d + 1 ≤ R.frames ∧ 40 * d + 40 ≤ R.locals) (hf : kc + 0 ≤ R.cells ∧ ks + 0 ≤ R.slots) (hM : zv_Met l S D cA d 0 0 y bytes maxL rt As sh m (zq_v sh K)) (kk : ∀ (m' : zv_M), K m' → zv_V S D cA p l e R s mi args below meth c nL Qf kc ks (pc + 3) lo st sh m') : zv_V S D cA p l e R s mi args below meth c nL Qf kc ks pc lo (As.reverse ++ st) sh m := zr_callS X hd w1 w2 hy hn hst hR hf hM (fun r sh' m' q => by obtain ⟨rfl, rfl, q⟩ := q; exact kk _ q)
theorem zr_callSN_i {y : MethodName} {bytes : ByteArray} {maxL n d idx : Nat} {rt : Option FieldType} {As : List Value} {K : Int32 → zv_M → Prop} {host : String} (X : zv_X S D cA tb sx p s mi args meth c cc nL own ret ini) (hd : decode cc pc = .ok (.invokestatic idx, 3)) (w1 : Cond.methodLinkNest own idx y host ∈ zv_tbl) (w2 : Cond.static y ∈ zv_tbl) (hy : zv_my y bytes maxL rt n) (hn : As.length = n) (hst : (st.map fun v => v.category).sum ≤ 8) (hR : d + 1 ≤ R.frames ∧ 40 * d + 40 ≤ R.locals) (hf : kc + 0 ≤ R.cells ∧ ks + 0 ≤ R.slots) (hM : zv_Met l S D cA d 0 0 y bytes maxL rt As sh m (zq_i sh K)) (kk : ∀ (v : Int32) (m' : zv_M), K v m' → zv_V S D cA p l e R s mi args below meth c nL Qf kc ks (pc + 3) lo (.int v :: st) sh m') : zv_V S D cA p l e R s mi args below meth c nL Qf kc ks pc lo (As.reverse ++ st) sh m := zr_callSN X hd w1 w2 hy hn hst hR hf hM (fun r sh' m' q => by obtain ⟨rfl, v, rfl, q⟩ := q; exact kk v _ q)
theorem zr_callSN_l {y : MethodName} {bytes : ByteArray} {maxL n d idx : Nat} {rt : Option FieldType} {As : List Value} {K : Int64 → zv_M → Prop} {host : String} (X : zv_X S D cA tb sx p s mi args meth c cc nL own ret ini) (hd : decode cc pc = .ok (.invokestatic idx, 3)) (w1 : Cond.methodLinkNest own idx y host ∈ zv_tbl) (w2 : Cond.static y ∈ zv_tbl) (hy : zv_my y bytes maxL rt n) (hn : As.length = n) (hst : (st.map fun v => v.category).sum ≤ 8) (hR : d + 1 ≤ R.frames ∧ 40 * d + 40 ≤ R.locals) (hf : kc + 0 ≤ R.cells ∧ ks + 0 ≤ R.slots) (hM : zv_Met l S D cA d 0 0 y bytes maxL rt As sh m (zq_l sh K)) (kk : ∀ (v : Int64) (m' : zv_M), K v m' → zv_V S D cA p l e R s mi args below meth c nL Qf kc ks (pc + 3) lo (.long v :: st) sh m') : zv_V S D cA p l e R s mi args below meth c nL Qf kc ks pc lo (As.reverse ++ st) sh m := zr_callSN X hd w1 w2 hy hn hst hR hf hM (fun r sh' m' q => by obtain ⟨rfl, v, rfl, q⟩ := q; exact kk v _ q)
theorem zr_callSN_a {y : MethodName} {bytes : ByteArray} {maxL n d idx : Nat} {rt : Option FieldType} {As : List Value} {K : Nat → zv_M → Prop} {host : String} (X : zv_X S D cA tb sx p s mi args meth c cc nL own ret ini) (hd : decode cc pc = .ok (.invokestatic idx, 3)) (w1 : Cond.methodLinkNest own idx y host ∈ zv_tbl) (w2 : Cond.static y ∈ zv_tbl) (hy : zv_my y bytes maxL rt n) (hn : As.length = n) (hst : (st.map fun v => v.category).sum ≤ 8) (hR : d + 1 ≤ R.frames ∧ 40 * d + 40 ≤ R.locals) (hf : kc + 0 ≤ R.cells ∧ ks + 0 ≤ R.slots) (hM : zv_Met l S D cA d 0 0 y bytes maxL rt As sh m (zq_a S.heap.size sh K)) (kk : ∀ (v : Nat) (m' : zv_M), K v m' → zv_V S D cA p l e R s mi args below meth c nL Qf kc ks (pc + 3) lo (.ref (S.heap.size + v) :: st) sh m') : zv_V S D cA p l e R s mi args below meth c nL Qf kc ks pc lo (As.reverse ++ st) sh m := zr_callSN X hd w1 w2 hy hn hst hR hf hM (fun r sh' m' q => by obtain ⟨rfl, v, rfl, q⟩ := q; exact kk v _ q)
theorem zr_callSN_v {y : MethodName} {bytes : ByteArray} {maxL n d idx : Nat} {rt : Option FieldType} {As : List Value} {K : zv_M → Prop} {host : String} (X : zv_X S D cA tb sx p s mi args meth c cc nL own ret ini) (hd : decode cc pc = .ok (.invokestatic idx, 3)) (w1 : Cond.methodLinkNest own idx y host ∈ zv_tbl) (w2 : Cond.static y ∈ zv_tbl) (hy : zv_my y bytes maxL rt n) (hn : As.length = n) (hst : (st.map fun v => v.category).sum ≤ 8) (hR : d + 1 ≤ R.frames ∧ 40 * d + 40 ≤ R.locals) (hf : kc + 0 ≤ R.cells ∧ ks + 0 ≤ R.slots) (hM : zv_Met l S D cA d 0 0 y bytes maxL rt As sh m (zq_v sh K)) (kk : ∀ (m' : zv_M), K m' → zv_V S D cA p l e R s mi args below meth c nL Qf kc ks (pc + 3) lo st sh m') : zv_V S D cA p l e R s mi args below meth c nL Qf kc ks pc lo (As.reverse ++ st) sh m := zr_callSN X hd w1 w2 hy hn hst hR hf hM (fun r sh' m' q => by obtain ⟨rfl, rfl, q⟩ := q; exact kk _ q)
-- returns
theorem zr_iret {Q' : Option Value → List zv_C → zv_M → Prop} {mc ms : Nat} {v : Int32} {ty : FieldType} (X : zv_X S D cA tb sx p s mi args meth c cc nL own (some ty) ini) (hd : decode cc pc = .ok (.ireturn, 1)) (hn : narrow ty (.int v) = .int v) (hm : kc ≤ mc ∧ ks ≤ ms) (hQ : Q' (some (.int v)) sh m) : zv_V S D cA p l e R s mi args below meth c nL (MQ below (zv_Q S D cA Q') args s mc ms (zv_fr S)) kc ks pc lo ([.int v]) sh m := by
  intro H locs ls h1 h2 h3
  obtain ⟨x1, x2, x3, x4, x5, x6, x7, x8, x9, x10, x11, x12, x13⟩ := X
  exact W.widen hm.1 hm.2 (W.zret x1 x2 x11 hn (fun t ht hW => ⟨_, sh, m, rfl, hQ, x7.trans hW, by rw [ht]; exact h1⟩) h2 hd x4)
theorem zr_lret {Q' : Option Value → List zv_C → zv_M → Prop} {mc ms : Nat} {v : Int64} (X : zv_X S D cA tb sx p s mi args meth c cc nL own (some .long) ini) (hd : decode cc pc = .ok (.lreturn, 1)) (hm : kc ≤ mc ∧ ks ≤ ms) (hQ : Q' (some (.long v)) sh m) : zv_V S D cA p l e R s mi args below meth c nL (MQ below (zv_Q S D cA Q') args s mc ms (zv_fr S)) kc ks pc lo ([.long v]) sh m := by
  intro H locs ls h1 h2 h3
  obtain ⟨x1, x2, x3, x4, x5, x6, x7, x8, x9, x10, x11, x12, x13⟩ := X
  exact W.widen hm.1 hm.2 (W.lret x1 x2 x11 (fun t ht hW => ⟨_, sh, m, rfl, hQ, x7.trans hW, by rw [ht]; exact h1⟩) h2 hd x4)
theorem zr_aret {Q' : Option Value → List zv_C → zv_M → Prop} {mc ms a : Nat} {ty : FieldType} (X : zv_X S D cA tb sx p s mi args meth c cc nL own (some ty) ini) (hd : decode cc pc = .ok (.areturn, 1)) (hty : (∃ n, ty = .object n) ∨ ∃ t, ty = .array t) (hm : kc ≤ mc ∧ ks ≤ ms) (hQ : Q' (some (.ref a)) sh m) : zv_V S D cA p l e R s mi args below meth c nL (MQ below (zv_Q S D cA Q') args s mc ms (zv_fr S)) kc ks pc lo ([.ref a]) sh m := by
  intro H locs ls h1 h2 h3
  obtain ⟨x1, x2, x3, x4, x5, x6, x7, x8, x9, x10, x11, x12, x13⟩ := X
  exact W.widen hm.1 hm.2 (W.aret x1 x2 x11 hty (Or.inr ⟨_, rfl⟩) (fun t ht hW => ⟨_, sh, m, rfl, hQ, x7.trans hW, by rw [ht]; exact h1⟩) h2 hd x4)
theorem zr_vret {Q' : Option Value → List zv_C → zv_M → Prop} {mc ms : Nat} (X : zv_X S D cA tb sx p s mi args meth c cc nL own none ini) (hd : decode cc pc = .ok (.return_, 1)) (hm : kc ≤ mc ∧ ks ≤ ms) (hQ : Q' none sh m) : zv_V S D cA p l e R s mi args below meth c nL (MQ below (zv_Q S D cA Q') args s mc ms (zv_fr S)) kc ks pc lo [] sh m := by
  intro H locs ls h1 h2 h3
  obtain ⟨x1, x2, x3, x4, x5, x6, x7, x8, x9, x10, x11, x12, x13⟩ := X
  exact W.widen hm.1 hm.2 (W.vret x1 x2 x11 (fun t ht hW => ⟨_, sh, m, rfl, hQ, x7.trans hW, by rw [ht]; exact h1⟩) h2 hd x4)
end ZR
/-- the world where the law began: its classes, arrays and statics -/
def zv_G (S : State) (D : va_G) (cA : Nat → ClassId) (tb sx : Nat → Nat) : Prop := (∀ t, t < 5 → va_K D vwCl [(cA t, zv_ty t)] S) ∧ zv_St S tb sx
/-- a contract out of a walk of the body -/
theorem zv_met {l : Launch} {S : State} {D : va_G} {cA : Nat → ClassId} {tb sx : Nat → Nat} {d mc ms : Nat} {y : MethodName} {cc : ByteArray} {nL : Nat} {ret : Option FieldType} {as : List Value} {sh : List zv_C} {m : zv_M} {Q : Option Value → List zv_C → zv_M → Prop} (ini : Bool) (hG : zv_G S D cA tb sx) (hy : plainFor y = true) (hini : ini = true → y.name = "<init>") (has : (lg_sl as).length ≤ nL) (lo : List (Nat × Value)) (hlo : lv_args 0 as = lo)
    (body : ∀ (p : Program) (e : Env) (s : State) (mi : MethodId) (args : Array Value) (below : List Frame) (meth : Method) (c : Code), zv_X S D cA tb sx p s mi args meth c cc nL y.cls ret ini → zv_V S D cA p l e (zv_rm d mc ms) s mi args below meth c nL (MQ below (zv_Q S D cA Q) args s mc ms (zv_fr S)) 0 0 0 lo [] sh m) : zv_Met l S D cA d mc ms y cc nL ret as sh m Q := by
  unfold zv_Met Met
  refine MetFree.of_bodySF (code := cc) (maxLocals := nL) (ret := ret) hy ?_ ?_
  · intro args s m h hn
    obtain ⟨meth, c, h1, h2, h3, h4, h5, h6, -, -⟩ := Cond.code_spec hn (atoms_spec (ws := Cond.code y cc nL ret :: zv_tbl) h _ List.mem_cons_self)
    exact ⟨meth, c, h1, h2, h3, h4, h5, h6⟩
  intro p e s mi args below meth c s₁ B hml hv _
  obtain ⟨rfl, hA, hW⟩ := hv
  have hts := atoms_spec (ws := Cond.code y cc nL ret :: zv_tbl) B.pre
  have hown : s.vm.findClass y.cls = some mi.cls := findClass_of_methodNamed B.named
  have hl := lv_entry as (n := nL) has
  rw [hlo] at hl
  have hh0 : s₁.heap = s.heap := by rw [B.state]; rfl
  have key : W p l e (zv_rm d mc ms) s mi as.toArray below meth c s.heap [] 0 0 (MQ below (zv_Q S D cA Q) as.toArray s mc ms (zv_fr S)) (entryFrame mi as.toArray nL) := ?_
  · obtain ⟨t, a1, o, b1, b2, b3⟩ := key s₁ hh0 (Stand.of_body B)
    exact ⟨t, o, a1, b1, b2, ⟨b3.1, b3.2⟩⟩
  rw [lg_entry_eq]
  refine body p e s mi as.toArray below meth c ⟨B.exec, B.bytes, hml, B.notSynchronized, hown, fun w h => hts w (List.mem_cons_of_mem _ h), hA, by rw [hW.1]; exact Nat.le_add_right _ _, fun t ht => (hG.1 t ht).moved hA.alike, fun q hq => hW.2.1 q hq, B.returns, fun h => ?_, hG.2⟩ s.heap [] _ hW (fun q h => by cases h) hl
  exact (name_of_methodNamed B.named B.method).1.trans (hini h)
