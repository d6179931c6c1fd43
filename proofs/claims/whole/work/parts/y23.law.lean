/-! THE CLAIM OUT OF ONE WALK OF THE LAW'S BODY. Your part is whole_start (and what it stands on); all else here is the same for every law, but numbers. -/
def R_law : String := "PackedForestLaw"
def lw_P (b : Addr) (xs : List Int32) (args : Array Value) (s : State) : Prop := args = #[.ref b] ∧ s.IntsAt b xs ∧ xs.length ≤ 3072 ∧ (Jvm.Cond.and given_1 narrow_1).before args s = true
def lw_Q (_ : Array Value) (s : State) (o : Outcome) (t : State) : Prop := o = .returned (some (.int 1)) ∧ Framed s o t [] 600000 7302250
def lw_Z (below : List Frame) (a : Array Value) (s : State) : State → Prop := fun t => ∃ o, t.status = .running ∧ Ended t below o ∧ lw_Q a s o t
/-- the law's own end, with 1 on the stack, nothing written that was there before, its room as the claim has it -/
theorem lw_ret {p : Program} {l : Launch} {e : Env} {s : State} {m : MethodId} {below : List Frame} {meth : Method} {c : Code} {b : Nat} (hx : p.tables.exec = Jvm.exec) (hb : c.code = code) (hr : meth.sig.returnType = ret) (hlocks : meth.locks = false) {pc : Nat} {H : Heap} {ls : Array Slot} (hdg : decode code pc = .ok (.ireturn, 1)) : W p l e room_1 s m #[Value.ref b] below meth c H [] 600000 7302250 (lw_Z below #[Value.ref b] s) (F0 m pc ls [.int 1]) := by
  intro T hT X
  obtain ⟨fs, hret, hrun, hended, hW, hframe⟩ := X.leave (v := some (.int 1)) (hlocks := hlocks) (fun h => by rw [hr] at h; cases h)
  have hmeth' : T.vm.method? m = some meth := X.method'
  refine ⟨T.setFrames fs, ?_, .returned (some (.int 1)), hrun, hended, rfl, ⟨_, rfl⟩, hW, hframe⟩
  jvm_step X.here [X.here.top, hx, hb, hdg, hmeth', hr, ret, narrow_b1]
  (try refine ⟨rfl, ?_⟩); (try refine ⟨rfl, ?_⟩)
  first | (intro acts; rw [hret _ acts rfl rfl rfl]) | rw [hret _ _ rfl rfl rfl]
  exact Steps.refl _
/-- what holds at the law's entry: the machine, the code, the tables' words (any of lw_tbl by 'hts w (by decide +kernel)'), the script of L ints xs at the cell b, what the Statement gives of the start (any of its parts by flat_of_before) -/
def lw_At (p : Program) (s : State) (m : MethodId) (meth : Method) (c : Code) (b L : Nat) (xs : Nat → Int32) : Prop :=
  p.tables.exec = Jvm.exec ∧ c.code = code ∧ meth.sig.returnType = ret ∧ c.maxLocals = 4 ∧ s.vm.findClass R_law = some m.cls ∧ (∀ w ∈ lw_tbl, w.before #[Value.ref b] s = true) ∧ va_X b L xs s s.heap ∧ b < s.heap.size ∧ meth.locks = false ∧ (Jvm.Cond.and given_1 narrow_1).before #[Value.ref b] s = true
theorem dl_0 : decode code 0 = .ok (.new 7, 3) := by decide +kernel
theorem dl_3 : decode code 3 = .ok (.dup, 1) := by decide +kernel
theorem dl_4 : decode code 4 = .ok (.invokespecial 9, 3) := by decide +kernel
theorem dl_7 : decode code 7 = .ok (.astore_n 1, 1) := by decide +kernel
theorem dl_8 : decode code 8 = .ok (.new 10, 3) := by decide +kernel
theorem dl_11 : decode code 11 = .ok (.dup, 1) := by decide +kernel
theorem dl_12 : decode code 12 = .ok (.invokespecial 12, 3) := by decide +kernel
theorem dl_15 : decode code 15 = .ok (.astore_n 2, 1) := by decide +kernel
theorem dl_16 : decode code 16 = .ok (.iconst 0, 1) := by decide +kernel
theorem dl_17 : decode code 17 = .ok (.istore_n 3, 1) := by decide +kernel
theorem dl_18 : decode code 18 = .ok (.iload_n 3, 1) := by decide +kernel
theorem dl_19 : decode code 19 = .ok (.aload_n 0, 1) := by decide +kernel
theorem dl_20 : decode code 20 = .ok (.arraylength, 1) := by decide +kernel
theorem dl_21 : decode code 21 = .ok (.bipush 6, 2) := by decide +kernel
theorem dl_23 : decode code 23 = .ok (.isub, 1) := by decide +kernel
theorem dl_24 : decode code 24 = .ok (.if_icmp .gt 1233, 3) := by decide +kernel
theorem dl_27 : decode code 27 = .ok (.aload_n 0, 1) := by decide +kernel
theorem dl_28 : decode code 28 = .ok (.iload_n 3, 1) := by decide +kernel
theorem dl_29 : decode code 29 = .ok (.iaload, 1) := by decide +kernel
theorem dl_30 : decode code 30 = .ok (.bipush 63, 2) := by decide +kernel
theorem dl_32 : decode code 32 = .ok (.iand, 1) := by decide +kernel
theorem dl_33 : decode code 33 = .ok (.tableswitch 1218 0 38 #[171, 234, 257, 270, 303, 336, 359, 382, 405, 428, 441, 474, 507, 530, 543, 566, 579, 612, 635, 678, 701, 714, 737, 770, 803, 826, 869, 912, 955, 998, 1021, 1034, 1067, 1080, 1093, 1116, 1149, 1172, 1195], 171) := by decide +kernel
theorem zzinst : ∀ (ci : Nat) (q : vw_C), zzcl[ci]? = some q → Cond.instantiable q.1 q.2.2 ∈ lw_tbl := by
  intro ci q h
  match ci, h with
  | 0, h => cases h; exact (by decide +kernel : Cond.instantiable zzR0 7 ∈ lw_tbl)
  | 1, h => cases h; exact (by decide +kernel : Cond.instantiable zzR1 5 ∈ lw_tbl)
  | 2, h => cases h; exact (by decide +kernel : Cond.instantiable zzR2 11 ∈ lw_tbl)
  | 3, h => cases h; exact (by decide +kernel : Cond.instantiable zzR3 10 ∈ lw_tbl)
  | 4, h => cases h; exact (by decide +kernel : Cond.instantiable zzR4 8 ∈ lw_tbl)
  | 5, h => cases h; exact (by decide +kernel : Cond.instantiable zzR5 8 ∈ lw_tbl)
  | 6, h => cases h; exact (by decide +kernel : Cond.instantiable zzR6 4 ∈ lw_tbl)
  | 7, h => cases h; exact (by decide +kernel : Cond.instantiable zzR7 11 ∈ lw_tbl)
  | 8, h => cases h; exact (by decide +kernel : Cond.instantiable zzR8 9 ∈ lw_tbl)
  | 9, h => cases h; exact (by decide +kernel : Cond.instantiable zzR9 4 ∈ lw_tbl)
  | 10, h => cases h; exact (by decide +kernel : Cond.instantiable zzR10 6 ∈ lw_tbl)
  | 11, h => cases h; exact (by decide +kernel : Cond.instantiable zzR11 15 ∈ lw_tbl)
  | 12, h => cases h; exact (by decide +kernel : Cond.instantiable zzR12 72 ∈ lw_tbl)
  | n + 13, h => cases h
theorem lw_known {args : Array Value} {s : State} (hts : ∀ w ∈ lw_tbl, w.before args s = true) : ∃ D : va_G, ∀ (c : Nat) (q : vw_C), zzcl[c]? = some q → u_Kn s q.1 q.2.1 q.2.2 (D.1 c) (D.2 c) := by
  have h : ∀ c : Nat, ∃ x : ClassId × (Nat → Nat), ∀ q, zzcl[c]? = some q → u_Kn s q.1 q.2.1 q.2.2 x.1 x.2 := by
    intro c
    cases hq : zzcl[c]? with
    | none => exact ⟨(0, fun _ => 0), fun q h => by cases h⟩
    | some q =>
      obtain ⟨ty, -, -, hin⟩ := zzcls c q hq
      obtain ⟨cC, iS, hk⟩ := u_known (C := q.1) (T := q.2.1) (N := q.2.2) (n := q.2.2) hts (fun w hw => (zzTb_in (hin w hw)).1) (hts _ (zzinst c q hq))
      exact ⟨(cC, iS), fun q' h' => by cases h'; exact hk⟩
  exact ⟨(fun c => (Classical.choose (h c)).1, fun c => (Classical.choose (h c)).2), fun c q hq => Classical.choose_spec (h c) q hq⟩
theorem lw_arr1 {args : Array Value} {s : State} {ty : FieldType} (h : (Cond.arrayClass ty).before args s = true) : ∃ cA, ArrOfT s cA ty ∧ s.vm.findClass ("[" ++ ty.toString) = some cA := by
  obtain ⟨c, k, comp, h1, h2, h3⟩ := Cond.arrayClass_spec h
  exact ⟨c, fun n z => ⟨fun k h => (by cases h), k, h2, comp, h3⟩, h1⟩
theorem lw_arrs {args : Array Value} {s : State} {D : va_G} (hts : ∀ w ∈ lw_tbl, w.before args s = true) (hD : ∀ (c : Nat) (q : vw_C), zzcl[c]? = some q → u_Kn s q.1 q.2.1 q.2.2 (D.1 c) (D.2 c)) : ∃ dA : Nat → ClassId, va_K D zzcl (zbtys dA []) s := by
  obtain ⟨c0, a0, b0⟩ := lw_arr1 (hts (.arrayClass .int) (by decide +kernel))
  obtain ⟨c1, a1, b1⟩ := lw_arr1 (hts (.arrayClass .boolean) (by decide +kernel))
  obtain ⟨c2, a2, b2⟩ := lw_arr1 (hts (.arrayClass .byte) (by decide +kernel))
  obtain ⟨c3, a3, b3⟩ := lw_arr1 (hts (.arrayClass .long) (by decide +kernel))
  refine ⟨fun k => match k with
    | 0 => c0
    | 1 => c1
    | 2 => c2
    | _ => c3, hD, fun k q hq => ?_⟩
  match k, hq with
  | 0, hq => cases hq; exact ⟨a0, b0⟩
  | 1, hq => cases hq; exact ⟨a1, b1⟩
  | 2, hq => cases hq; exact ⟨a2, b2⟩
  | 3, hq => cases hq; exact ⟨a3, b3⟩
  | n + 4, hq => cases hq
theorem lw_nw {args : Array Value} {s : State} (hts : ∀ w ∈ lw_tbl, w.before args s = true) : zbnw s ∧ zznw s := by
  refine ⟨⟨fun q hq => ?_, va_AO.of (hts (.arrayOver (.object "PackedForest$Setting")) (by decide +kernel))⟩, fun q hq => ?_⟩
  · exact va_Nw.of rfl (hts _ ((by decide +kernel : ∀ q ∈ zbnest, Cond.methodLinkNest q.1 q.2.1 q.2.2 "PackedForest" ∈ lw_tbl) q hq))
  · exact va_Nw.of rfl (hts _ ((by decide +kernel : ∀ q ∈ zznest, Cond.methodLinkNest q.1 q.2.1 q.2.2 "PackedForest" ∈ lw_tbl) q hq))
