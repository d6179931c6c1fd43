/-! THE BUILDER, over the machine -/
def zbnest : List (String × Nat × MethodName) := [("PackedForest", 15, ⟨"PackedForest$Setting", "<init>", "()V"⟩), ("PackedForest$Setting", 11, ⟨"PackedForest$Grammar", "<init>", "()V"⟩), ("PackedForest", 26, ⟨"PackedForest$Grammar", "<init>", "()V"⟩), ("PackedForest", 42, ⟨"PackedForest$States", "<init>", "()V"⟩)]
def zbnw (U : State) : Prop := (∀ q ∈ zbnest, va_Nw (.methodLinkNest q.1 q.2.1 q.2.2 "PackedForest") U) ∧ va_AO "PackedForest$Setting" U
def zbmw (q : zbT) : Prop := Cond.code q.1 q.2.1 q.2.2.1 none ∈ zzTb ∧ Cond.initialized q.1.cls ∈ zzTb ∧ Cond.instanceMethod q.1 ∈ zzTb ∧ q.1.name = "<init>" ∧ q.1.cls ≠ "java/lang/invoke/MethodHandle" ∧ q.1.cls ≠ "java/lang/invoke/VarHandle" ∧ q.2.2.1 ≤ 21
def zbwd (P : List zbT) (own : String) (nL len pc : Nat) (i : Instr) (aux : List (Nat × Nat)) : Prop := match i with
  | .iconst n => len = 1 ∧ Int32.ofInt n = zzkon (zzfst aux)
  | .bipush n => len = 2 ∧ (Int8.ofInt n).toInt32 = zzkon (zzfst aux)
  | .sipush n => len = 3 ∧ (Int16.ofInt n).toInt32 = zzkon (zzfst aux)
  | .iload_n k => len = 1 ∧ (k : Nat) = (zzfst aux).1
  | .aload_n k => len = 1 ∧ (k : Nat) = (zzfst aux).1
  | .istore_n k => len = 1 ∧ (k : Nat) = (zzfst aux).1 ∧ (zzfst aux).1 < nL
  | .iinc k n => len = 3 ∧ k < nL ∧ Int32.ofInt n = zzkon (zzfst aux)
  | .goto o => len = 3 ∧ (pc : Int) + o = ((zzfst aux).1 : Int)
  | .if_icmp _ o => len = 3 ∧ (pc : Int) + o = ((zzfst aux).1 : Int)
  | .getfield j => len = 3 ∧ ∃ r, zzcl[(zzfst aux).1]? = some r ∧ (zzfst aux).2 < r.2.2 ∧ Cond.fieldLink own j (r.2.1 (zzfst aux).2).1 (r.2.1 (zzfst aux).2).2.1 (r.2.1 (zzfst aux).2).2.2.1 ∈ zzTb
  | .putfield j => len = 3 ∧ ∃ r, zzcl[(zzfst aux).1]? = some r ∧ (zzfst aux).2 < r.2.2 ∧ Cond.fieldLink own j (r.2.1 (zzfst aux).2).1 (r.2.1 (zzfst aux).2).2.1 (r.2.1 (zzfst aux).2).2.2.1 ∈ zzTb ∧ (r.2.1 (zzfst aux).2).1 = own
  | .new j => len = 3 ∧ ∃ r, zzcl[(zzfst aux).1]? = some r ∧ (zzfst aux).2 = r.2.2 ∧ Cond.classLink own j r.1 ∈ zzTb ∧ Cond.instantiable r.1 r.2.2 ∈ zzTb ∧ Cond.initialized r.1 ∈ zzTb
  | .newarray t => len = 2 ∧ Cond.arrayClass (newarray.typeOf t) ∈ zzTb
  | .anewarray j => len = 3 ∧ Cond.classLink own j "PackedForest$Setting" ∈ zzTb
  | .invokespecial j => len = 3 ∧ (match (zzfst aux).1 with
    | 0 => Cond.methodLink own j objectInit ∈ zzTb ∧ Cond.instanceMethod objectInit ∈ zzTb ∧ Cond.code objectInit ⟨#[0xb1]⟩ 1 none ∈ zzTb
    | y + 1 => ∃ q, P[y]? = some q ∧ zbmw q ∧ (parseMethodDescriptor q.1.desc).map (fun d => d.parameters.length) = some (zzfst aux).2 ∧ (Cond.methodLink own j q.1 ∈ zzTb ∨ (own, j, q.1) ∈ zbnest))
  | _ => len = 1
def zbroom (d : Nat) (lim : Nat × Nat) : Room := { frames := d + 1, cells := lim.1, slots := lim.2, locals := 40 * (d + 1) }
def zbA (ad : Nat → Nat) (n sz : Nat) : Nat → Prop := fun q => (∃ i, i < n ∧ q = ad i) ∨ sz ≤ q
def zbPc (D : va_G) (dA : Nat → ClassId) (ad : Nat → Nat) (as : List Value) (h : zbH) (sz : Nat) : Array Value → State → Prop := va_Pc (as.map (zzcv ad)) (fun U => U.heap.size = sz ∧ va_P D zzcl (zbw dA ad h) U.heap ∧ va_D (fun _ => True) (zbw dA ad h) ∧ va_K D zzcl (zbtys dA h) U ∧ zbnw U)
def zbQ (D : va_G) (h0 : zbH) (dA0 : Nat → ClassId) (ad0 : Nat → Nat) (A : Nat → Prop) (h' : zbH) : Array Value → State → Outcome → State → Prop := fun _ st oc t => oc = .returned none ∧ (∃ dA ad, zbag h0 dA0 ad0 dA ad ∧ va_P D zzcl (zbw dA ad h') t.heap ∧ va_D A (zbw dA ad h') ∧ va_K D zzcl (zbtys dA h') t) ∧ va_F A st t
def zbMet (l : Launch) (D : va_G) (d : Nat) (q : zbT) (as : List Value) (h h' : zbH) : Prop := ∀ (dA : Nat → ClassId) (ad : Nat → Nat) (sz : Nat), Met l q.1 (Cond.code q.1 q.2.1 q.2.2.1 none :: zzTb) (zbroom d q.2.2.2.1) (zbPc D dA ad as h sz) (zbQ D h dA ad (zbA ad h.length sz) h') q.2.2.2.1.1 q.2.2.2.1.2 (zbA ad h.length sz)
def zbW (p : Program) (l : Launch) (e : Env) (R : Room) (s : State) (m : MethodId) (args : Array Value) (below : List Frame) (meth : Method) (c : Code) (Q : State → Prop) (D : va_G) (A : Nat → Prop) (nL : Nat) (h0 : zbH) (dA0 : Nat → ClassId) (ad0 : Nat → Nat) (pc : Nat) (ls : zzL) (st : List Value) (h : zbH) (cs ss : Nat) : Prop :=
  ∀ (dA : Nat → ClassId) (ad : Nat → Nat) (H : Heap) (locs : List Loc) (lc : Array Slot), zbag h0 dA0 ad0 dA ad → h0.length ≤ h.length → (h0.any zb4 = true → h.any zb4 = true) → va_P D zzcl (zbw dA ad h) H → va_D A (zbw dA ad h) → va_K D zzcl (zbtys dA h) s → va_S A s.heap H locs → lv_has lc nL (zzlc ad ls) → W p l e R s m args below meth c H locs cs ss Q (F0 m pc lc (st.map (zzcv ad)))
def zbX (p : Program) (s : State) (m : MethodId) (args : Array Value) (meth : Method) (c : Code) (cc : ByteArray) (own : String) (nL : Nat) (A : Nat → Prop) : Prop :=
  p.tables.exec = Jvm.exec ∧ c.code = cc ∧ c.maxLocals = nL ∧ s.vm.findClass own = some m.cls ∧ (∀ w ∈ zzTb, w.before args s = true) ∧ zbnw s ∧ (∀ q, s.heap.size ≤ q → A q) ∧ meth.locks = false ∧ meth.sig.returnType = none ∧ meth.name = "<init>"
theorem zb4_set : ∀ {h : zbH} {i : Nat} {e e' : zbE}, h[i]? = some e → zb4 e' = zb4 e → (h.set i e').any zb4 = h.any zb4
  | [], _, _, _, hi, _ => by cases hi
  | a :: r, 0, e, e', hi, h4 => by
    cases hi
    rw [List.set_cons_zero, List.any_cons, List.any_cons, h4]
  | a :: r, i + 1, e, e', hi, h4 => by
    rw [List.set_cons_succ, List.any_cons, List.any_cons, zb4_set (h := r) (i := i) hi h4]
theorem zbtys_set {dA : Nat → ClassId} {h : zbH} {i : Nat} {e e' : zbE} (hi : h[i]? = some e) (h4 : zb4 e' = zb4 e) : zbtys dA (h.set i e') = zbtys dA h := by
  unfold zbtys
  rw [zb4_set hi h4]
theorem zb4_push {h : zbH} {e : zbE} : (h ++ [e]).any zb4 = (h.any zb4 || zb4 e) := by
  rw [List.any_append, List.any_cons, List.any_nil, Bool.or_false]
theorem zbtys_push {dA : Nat → ClassId} {h : zbH} {e : zbE} (h4 : zb4 e = false) : zbtys dA (h ++ [e]) = zbtys dA h := by
  unfold zbtys
  rw [zb4_push, h4, Bool.or_false]
theorem zbtys_at (dA : Nat → ClassId) (h : zbH) : (zbtys dA h)[0]? = some (dA 0, .int) ∧ (zbtys dA h)[1]? = some (dA 1, .boolean) ∧ (zbtys dA h)[2]? = some (dA 2, .byte) ∧ (zbtys dA h)[3]? = some (dA 3, .long) := ⟨rfl, rfl, rfl, rfl⟩
theorem zbtys_4 (dA : Nat → ClassId) {h : zbH} (h4 : h.any zb4 = true) : (zbtys dA h)[4]? = some (dA 4, .object "PackedForest$Setting") := by
  unfold zbtys
  rw [h4]
  rfl
theorem zbok_s {ls : zzL} {st : List Value} {h : zbH} (z : zbok ls st h = true) : (ls.all fun q => zbrk h.length q.2) = true ∧ st.all (zbrk h.length) = true ∧ h.all (zbre h.length) = true := by
  unfold zbok at z
  rw [Bool.and_eq_true, Bool.and_eq_true] at z
  exact ⟨z.1.1, z.1.2, z.2⟩
theorem zbnull_at {ci : Nat} {r : vw_C} {ty : Nat → FieldType} (hr : zzcl[ci]? = some r) (hty : ∀ k, k < r.2.2 → parseFieldDescriptor (r.2.1 k).2.2.1 = some (ty k)) (ad : Nat → Nat) : ∀ j, j < r.2.2 → defaultValue (ty j) = vp_V ((zbnull ci).map (zzcv ad)) j := by
  intro j hj
  unfold zbnull vp_V
  rw [hr]
  simp only [List.map_map, List.getD_eq_getElem?_getD, List.getElem?_map, List.getElem?_range hj, Option.map_some, Option.getD_some, Function.comp]
  rw [hty j hj]
  show defaultValue (ty j) = zzcv ad (defaultValue (ty j))
  cases ty j <;> rfl
