/-! THE SMALL MACHINE: memory, values, one instruction, a method's code with its loops, calls -/
/-- the memory: of each cell the ints (fields or elements; booleans and bytes too) and the longs, by their places -/
abbrev zzM : Type := (Nat → Nat → Int32) × (Nat → Nat → Int64)
/-- an answer (int, long, cell) and the memory behind it -/
abbrev zzR : Type := (Int32 × Int64 × Nat) × zzM
/-- a row of code: pc, length (0: here a loop begins), instruction, what a program looked up for it -/
abbrev zzI : Type := Nat × Nat × Instr × List (Nat × Nat)
abbrev zzL : Type := List (Nat × Value)
/-- a loop's state: ints, longs, memory -/
abbrev zzS : Type := List Int32 × List Int64 × zzM
def zzwI (μ : zzM) (c k : Nat) (v : Int32) : zzM := (fun c' k' => if c' = c ∧ k' = k then v else μ.1 c' k', μ.2)
def zzwL (μ : zzM) (c k : Nat) (v : Int64) : zzM := (μ.1, fun c' k' => if c' = c ∧ k' = k then v else μ.2 c' k')
def zzri (μ : zzM) (c n : Nat) (i : Int32) : Option Int32 := if i < 0 ∨ n ≤ i.toNatClampNeg then none else some (μ.1 c i.toNatClampNeg)
def zzrl (μ : zzM) (c n : Nat) (i : Int32) : Option Int64 := if i < 0 ∨ n ≤ i.toNatClampNeg then none else some (μ.2 c i.toNatClampNeg)
def zzsi (μ : zzM) (c n : Nat) (i v : Int32) : Option zzM := if i < 0 ∨ n ≤ i.toNatClampNeg then none else some (zzwI μ c i.toNatClampNeg v)
def zzsl (μ : zzM) (c n : Nat) (i : Int32) (v : Int64) : Option zzM := if i < 0 ∨ n ≤ i.toNatClampNeg then none else some (zzwL μ c i.toNatClampNeg v)
/-- a row of references -/
def zzsr (i : Int32) (f : Nat → Option zzR) : Nat → List Nat → Option zzR
  | _, [] => none
  | k, t :: ts => if i = nI k then f t else zzsr i f (k + 1) ts
def zzcp (μ : zzM) (a n0 : Nat) (sp : Int32) (b n1 : Nat) (dp n : Int32) : Option zzM :=
  if sp < 0 ∨ dp < 0 ∨ n < 0 ∨ n0 < sp.toNatClampNeg + n.toNatClampNeg ∨ n1 < dp.toNatClampNeg + n.toNatClampNeg then none
  else some (fun c k => if c = b then va_cpy (μ.1 a) (μ.1 b) sp.toNatClampNeg dp.toNatClampNeg n.toNatClampNeg k else μ.1 c k, μ.2)
/-- a loop -/
def zzl (body : zzS → (zzS → Option zzR) → Option zzR) : Nat → zzS → Option zzR
  | 0, _ => none
  | n + 1, v => body v (zzl body n)
-- nothing, but tall: so that Lean's kernel unfolds the machine first, and not what it is held against
def zzhh0 (o : Option zzR) : Option zzR := o
def zzhh1 (o : Option zzR) : Option zzR := zzhh0 o
def zzhh2 (o : Option zzR) : Option zzR := zzhh1 o
def zzhh3 (o : Option zzR) : Option zzR := zzhh2 o
def zzhh4 (o : Option zzR) : Option zzR := zzhh3 o
def zzhh5 (o : Option zzR) : Option zzR := zzhh4 o
def zzhh6 (o : Option zzR) : Option zzR := zzhh5 o
def zzhh7 (o : Option zzR) : Option zzR := zzhh6 o
def zzhh8 (o : Option zzR) : Option zzR := zzhh7 o
def zzhh9 (o : Option zzR) : Option zzR := zzhh8 o
def zzhh10 (o : Option zzR) : Option zzR := zzhh9 o
def zzhh11 (o : Option zzR) : Option zzR := zzhh10 o
def zzhh (o : Option zzR) : Option zzR := zzhh11 o
-- the stack's tops
def zzp1 (st : List Value) (f : Int32 → List Value → Option zzR) : Option zzR := match st with
  | .int x :: r => f x r
  | _ => zzhh none
def zzp2 (st : List Value) (f : Int32 → Int32 → List Value → Option zzR) : Option zzR := match st with
  | .int y :: .int x :: r => f x y r
  | _ => zzhh none
def zzq1 (st : List Value) (f : Int64 → List Value → Option zzR) : Option zzR := match st with
  | .long x :: r => f x r
  | _ => zzhh none
def zzq2 (st : List Value) (f : Int64 → Int64 → List Value → Option zzR) : Option zzR := match st with
  | .long y :: .long x :: r => f x y r
  | _ => zzhh none
def zzqs (st : List Value) (f : Int64 → Int32 → List Value → Option zzR) : Option zzR := match st with
  | .int y :: .long x :: r => f x y r
  | _ => zzhh none
def zza1 (st : List Value) (f : Nat → List Value → Option zzR) : Option zzR := match st with
  | .ref c :: r => f c r
  | _ => zzhh none
def zzai (st : List Value) (f : Nat → Int32 → List Value → Option zzR) : Option zzR := match st with
  | .int i :: .ref c :: r => f c i r
  | _ => zzhh none
def zzas (st : List Value) (f : Nat → Int32 → Int32 → List Value → Option zzR) : Option zzR := match st with
  | .int v :: .int i :: .ref c :: r => f c i v r
  | _ => zzhh none
def zzal (st : List Value) (f : Nat → Int32 → Int64 → List Value → Option zzR) : Option zzR := match st with
  | .long v :: .int i :: .ref c :: r => f c i v r
  | _ => zzhh none
/-- an array: its kind, length, cells named -/
def zzar (c : Nat) (f : Nat → Nat → List Nat → Option zzR) : Option zzR := match zzcells[c]? with
  | some (.inr (k, n, ts)) => f k n ts
  | _ => zzhh none
/-- a field of an object: its kind, the cell named -/
def zzfd (c ci k : Nat) (f : Nat → Nat → Option zzR) : Option zzR := match zzcells[c]? with
  | some (.inl (cj, fs)) => (match cj.beq ci with
    | true => (match fs[k]? with
      | some (a, b) => f a b
      | none => zzhh none)
    | false => zzhh none)
  | _ => zzhh none
def zzlk : zzL → Nat → Option Value
  | [], _ => none
  | q :: r, i => bif q.1.beq i then some q.2 else zzlk r i
def zzset1 (i : Nat) (v : Value) (ls : zzL) : zzL := (i, v) :: ls.filter (fun q => !(q.1 == i) && !(q.1 + 1 == i && q.2.category == 2))
def zzset2 (i : Nat) (v : Value) (ls : zzL) : zzL := (i, v) :: ls.filter (fun q => !(q.1 == i) && (!(q.1 == i + 1) && !(q.1 + 1 == i && q.2.category == 2)))
/-- arguments off the stack (the last on top), and the rest -/
def zzcut : Nat → List Value → List Value → Option (List Value × List Value)
  | 0, st, acc => some (acc, st)
  | n + 1, v :: st, acc => zzcut n st (v :: acc)
  | _ + 1, [], _ => none
def zzcat : List Value → Nat
  | [] => 0
  | v :: r => v.category + zzcat r
def zzfst (aux : List (Nat × Nat)) : Nat × Nat := match aux with
  | q :: _ => q
  | [] => (0, 0)
def zzsnd (aux : List (Nat × Nat)) : Nat × Nat := match aux with
  | _ :: q :: _ => q
  | _ => (0, 0)
def zzthd (aux : List (Nat × Nat)) : Nat × Nat := match aux with
  | _ :: _ :: q :: _ => q
  | _ => (0, 0)
/-- an int that the code names: n, or minus n -/
def zzkon (q : Nat × Nat) : Int32 := match q.2 with
  | 0 => nI q.1
  | _ => -(nI q.1)
def zzkol (q : Nat × Nat) : Int64 := match q.2 with
  | 0 => lN q.1
  | _ => -(lN q.1)
def zzinc (x : Int32) (q : Nat × Nat) : Int32 := match q.2 with
  | 0 => x + nI q.1
  | _ => x - nI q.1
def zzdp (st : List Value) (f : List Value → Option zzR) : Option zzR := match st with
  | .int x :: r => f (.int x :: .int x :: r)
  | .ref x :: r => f (.ref x :: .ref x :: r)
  | _ => zzhh none
def zzd2 (st : List Value) (f : List Value → Option zzR) : Option zzR := match st with
  | .int x :: .ref c :: r => f (.int x :: .ref c :: .int x :: .ref c :: r)
  | _ => zzhh none
def zzpo (st : List Value) (f : List Value → Option zzR) : Option zzR := match st with
  | .int _ :: r => f r
  | .ref _ :: r => f r
  | _ => zzhh none
def zzpf (st : List Value) (f : Nat → Int32 → List Value → Option zzR) (g : Nat → Int64 → List Value → Option zzR) : Option zzR := match st with
  | .int v :: .ref c :: r => f c v r
  | .long v :: .ref c :: r => g c v r
  | _ => zzhh none
/-- nothing is left on the stack -/
def zzno (st : List Value) (f : Option zzR) : Option zzR := match st with
  | [] => f
  | _ => zzhh none
/-- a switch: keys with targets, else the last -/
def zzsw (x : Int32) (jump : Nat → Option zzR) (d : Nat) : List (Nat × Nat) → Option zzR
  | [] => jump d
  | q :: r => if x = nI q.1 then jump q.2 else zzsw x jump d r
/-- what a call leaves on the stack -/
def zzres (q : Nat × Nat) (o : zzR) (f : List Value → Option zzR) : Option zzR := match q.1 with
  | 0 => f []
  | 2 => f [.long o.1.2.1]
  | 3 => if o.1.2.2 = q.2 then f [.ref q.2] else zzhh none
  | _ => f [.int o.1.1]
/-- ONE INSTRUCTION, goal first: 'next' at the next row, 'jump' elsewhere -/
def zzstep (call : Nat → List Value → zzM → Option zzR) (rk : Nat) (i : Instr) (aux : List (Nat × Nat)) (ls : zzL) (st : List Value) (μ : zzM)
    (next : zzL → List Value → zzM → Option zzR) (jump : Nat → List Value → Option zzR) : Option zzR :=
  match i with
  | .iconst _ => next ls (.int (zzkon (zzfst aux)) :: st) μ
  | .bipush _ => next ls (.int (zzkon (zzfst aux)) :: st) μ
  | .sipush _ => next ls (.int (zzkon (zzfst aux)) :: st) μ
  | .ldc _ => next ls (.int (zzkon (zzfst aux)) :: st) μ
  | .ldc_w _ => next ls (.int (zzkon (zzfst aux)) :: st) μ
  | .lconst _ => next ls (.long (zzkol (zzfst aux)) :: st) μ
  | .ldc2_w _ => next ls (.long (zzkol (zzfst aux)) :: st) μ
  | .iload k => (match zzlk ls k with
    | some (.int x) => next ls (.int x :: st) μ
    | _ => none)
  | .iload_n k => (match zzlk ls (zzfst aux).1 with
    | some (.int x) => next ls (.int x :: st) μ
    | _ => none)
  | .lload k => (match zzlk ls k with
    | some (.long x) => next ls (.long x :: st) μ
    | _ => none)
  | .lload_n k => (match zzlk ls (zzfst aux).1 with
    | some (.long x) => next ls (.long x :: st) μ
    | _ => none)
  | .aload k => (match zzlk ls k with
    | some (.ref x) => next ls (.ref x :: st) μ
    | _ => none)
  | .aload_n k => (match zzlk ls (zzfst aux).1 with
    | some (.ref x) => next ls (.ref x :: st) μ
    | _ => none)
  | .istore k => zzp1 st fun x st => next (zzset1 k (.int x) ls) st μ
  | .istore_n k => zzp1 st fun x st => next (zzset1 (zzfst aux).1 (.int x) ls) st μ
  | .lstore k => zzq1 st fun x st => next (zzset2 k (.long x) ls) st μ
  | .lstore_n k => zzq1 st fun x st => next (zzset2 (zzfst aux).1 (.long x) ls) st μ
  | .iinc k _ => (match zzlk ls k with
    | some (.int x) => next (zzset1 k (.int (zzinc x (zzfst aux))) ls) st μ
    | _ => none)
  | .iadd => zzp2 st fun x y st => next ls (.int (x + y) :: st) μ
  | .isub => zzp2 st fun x y st => next ls (.int (x - y) :: st) μ
  | .imul => zzp2 st fun x y st => next ls (.int (x * y) :: st) μ
  | .iand => zzp2 st fun x y st => next ls (.int (x &&& y) :: st) μ
  | .ior => zzp2 st fun x y st => next ls (.int (x ||| y) :: st) μ
  | .ixor => zzp2 st fun x y st => next ls (.int (x ^^^ y) :: st) μ
  | .ishl => zzp2 st fun x y st => next ls (.int (x <<< (y &&& 31)) :: st) μ
  | .ishr => zzp2 st fun x y st => next ls (.int (x >>> (y &&& 31)) :: st) μ
  | .iushr => zzp2 st fun x y st => next ls (.int (x.toUInt32 >>> (y.toUInt32 &&& Int32.toUInt32 31)).toInt32 :: st) μ
  | .idiv => zzp2 st fun x y st => if y = 0 then none else next ls (.int (x / y) :: st) μ
  | .irem => zzp2 st fun x y st => if y = 0 then none else next ls (.int (x - x / y * y) :: st) μ
  | .ladd => zzq2 st fun x y st => next ls (.long (x + y) :: st) μ
  | .lsub => zzq2 st fun x y st => next ls (.long (x - y) :: st) μ
  | .lmul => zzq2 st fun x y st => next ls (.long (x * y) :: st) μ
  | .land => zzq2 st fun x y st => next ls (.long (x &&& y) :: st) μ
  | .lor => zzq2 st fun x y st => next ls (.long (x ||| y) :: st) μ
  | .lrem => zzq2 st fun x y st => if y = 0 then none else next ls (.long (x - x / y * y) :: st) μ
  | .lshl => zzqs st fun x y st => next ls (.long (x <<< (y.toInt64 &&& 63)) :: st) μ
  | .lshr => zzqs st fun x y st => next ls (.long (x >>> (y.toInt64 &&& 63)) :: st) μ
  | .lcmp => zzq2 st fun x y st => next ls (.int (lg_cmp x y) :: st) μ
  | .i2l => zzp1 st fun x st => next ls (.long x.toInt64 :: st) μ
  | .l2i => zzq1 st fun x st => next ls (.int x.toInt32 :: st) μ
  | .i2b => zzp1 st fun x st => next ls (.int x.toInt8.toInt32 :: st) μ
  | .dup => zzdp st fun r => next ls r μ
  | .dup2 => zzd2 st fun r => next ls r μ
  | .pop => zzpo st fun r => next ls r μ
  | .goto _ => jump (zzfst aux).1 st
  | .ifCond .eq _ => zzp1 st fun x st => if x = 0 then jump (zzfst aux).1 st else next ls st μ
  | .ifCond .ne _ => zzp1 st fun x st => if x = 0 then next ls st μ else jump (zzfst aux).1 st
  | .ifCond .lt _ => zzp1 st fun x st => if x < 0 then jump (zzfst aux).1 st else next ls st μ
  | .ifCond .ge _ => zzp1 st fun x st => if 0 ≤ x then jump (zzfst aux).1 st else next ls st μ
  | .ifCond .gt _ => zzp1 st fun x st => if 0 < x then jump (zzfst aux).1 st else next ls st μ
  | .ifCond .le _ => zzp1 st fun x st => if x ≤ 0 then jump (zzfst aux).1 st else next ls st μ
  | .if_icmp .eq _ => zzp2 st fun x y st => if x = y then jump (zzfst aux).1 st else next ls st μ
  | .if_icmp .ne _ => zzp2 st fun x y st => if x = y then next ls st μ else jump (zzfst aux).1 st
  | .if_icmp .lt _ => zzp2 st fun x y st => if x < y then jump (zzfst aux).1 st else next ls st μ
  | .if_icmp .ge _ => zzp2 st fun x y st => if y ≤ x then jump (zzfst aux).1 st else next ls st μ
  | .if_icmp .gt _ => zzp2 st fun x y st => if y < x then jump (zzfst aux).1 st else next ls st μ
  | .if_icmp .le _ => zzp2 st fun x y st => if x ≤ y then jump (zzfst aux).1 st else next ls st μ
  | .tableswitch _ _ _ _ => zzp1 st fun x st => zzsw x (fun t => jump t st) (zzfst aux).1 (aux.drop 1)
  | .lookupswitch _ _ => zzp1 st fun x st => zzsw x (fun t => jump t st) (zzfst aux).1 (aux.drop 1)
  | .getfield _ => zza1 st fun c st => zzfd c (zzfst aux).1 (zzfst aux).2 fun a b => (match a with
    | 0 => next ls (.int (μ.1 c (zzfst aux).2) :: st) μ
    | 1 => next ls (.int (μ.1 c (zzfst aux).2) :: st) μ
    | 2 => next ls (.long (μ.2 c (zzfst aux).2) :: st) μ
    | _ => next ls (.ref b :: st) μ)
  | .putfield _ => zzpf st (fun c v r => zzfd c (zzfst aux).1 (zzfst aux).2 fun a _ => (match a with
      | 0 => next ls r (zzwI μ c (zzfst aux).2 v)
      | 1 => if v = 0 ∨ v = 1 then next ls r (zzwI μ c (zzfst aux).2 v) else none
      | _ => none))
    (fun c v r => zzfd c (zzfst aux).1 (zzfst aux).2 fun a _ => (match a with
      | 2 => next ls r (zzwL μ c (zzfst aux).2 v)
      | _ => none))
  | .arraylength => zza1 st fun c st => zzar c fun _ n _ => next ls (.int (nI n) :: st) μ
  | .iaload => zzai st fun c i st => zzar c fun k n _ => (match k with
    | 0 => (zzri μ c n i).bind fun v => next ls (.int v :: st) μ
    | _ => none)
  | .baload => zzai st fun c i st => zzar c fun k n _ => (match k with
    | 1 => (zzri μ c n i).bind fun v => next ls (.int v :: st) μ
    | 2 => (zzri μ c n i).bind fun v => next ls (.int v :: st) μ
    | _ => none)
  | .laload => zzai st fun c i st => zzar c fun k n _ => (match k with
    | 3 => (zzrl μ c n i).bind fun v => next ls (.long v :: st) μ
    | _ => none)
  | .aaload => zzai st fun c i st => zzar c fun k _ ts => (match k with
    | 4 => zzsr i (fun t => next ls (.ref t :: st) μ) 0 ts
    | _ => none)
  | .iastore => zzas st fun c i v st => zzar c fun k n _ => (match k with
    | 0 => (zzsi μ c n i v).bind fun μ => next ls st μ
    | _ => none)
  | .bastore => zzas st fun c i v st => zzar c fun k n _ => (match k with
    | 1 => if v = 0 ∨ v = 1 then (zzsi μ c n i v).bind fun μ => next ls st μ else none
    | 2 => (zzsi μ c n i v.toInt8.toInt32).bind fun μ => next ls st μ
    | _ => none)
  | .lastore => zzal st fun c i v st => zzar c fun k n _ => (match k with
    | 3 => (zzsl μ c n i v).bind fun μ => next ls st μ
    | _ => none)
  | .ireturn => zzp1 st fun x st => zzno st (match rk with
    | 1 => some ((x, 0, 0), μ)
    | 4 => if x = 0 ∨ x = 1 then some ((x, 0, 0), μ) else none
    | _ => none)
  | .lreturn => zzq1 st fun x st => zzno st (match rk with
    | 2 => some ((0, x, 0), μ)
    | _ => none)
  | .areturn => zza1 st fun c st => zzno st (match rk with
    | 3 => some ((0, 0, c), μ)
    | _ => none)
  | .return_ => zzno st (match rk with
    | 0 => some ((0, 0, 0), μ)
    | _ => none)
  | .invokestatic _ => (zzcut (zzfst aux).2 st []).bind fun q => bif (zzcat q.2).ble 8 then
      (call (zzfst aux).1 q.1 μ).bind fun o => zzres (zzsnd aux) o fun t => next ls (t ++ q.2) o.2 else none
  | .invokevirtual _ => (zzcut (zzfst aux).2 st []).bind fun q => zza1 q.2 fun c r => bif (zzcat r).ble 8 then zzfd c (zzthd aux).1 (zzthd aux).2 fun _ _ =>
      (call (zzfst aux).1 (.ref c :: q.1) μ).bind fun o => zzres (zzsnd aux) o fun t => next ls (t ++ r) o.2 else none
  | _ => none
def zzpk : List (Nat × Nat) → zzL → zzL → Option (List Int32 × List Int64)
  | [], _, _ => some ([], [])
  | (i, 1) :: r, l0, ls => (match zzlk ls i with
    | some (.int x) => (zzpk r l0 ls).bind fun v => some (x :: v.1, v.2)
    | _ => none)
  | (i, 2) :: r, l0, ls => (match zzlk ls i with
    | some (.long x) => (zzpk r l0 ls).bind fun v => some (v.1, x :: v.2)
    | _ => none)
  | (i, _) :: r, l0, ls => (match zzlk l0 i, zzlk ls i with
    | some (.ref a), some (.ref b) => bif a.beq b then zzpk r l0 ls else none
    | _, _ => none)
def zzup : List (Nat × Nat) → zzL → List Int32 → List Int64 → zzL
  | [], _, _, _ => []
  | (i, 1) :: r, l0, a, b => (i, .int (a.headD 0)) :: zzup r l0 a.tail b
  | (i, 2) :: r, l0, a, b => (i, .long (b.headD 0)) :: zzup r l0 a b.tail
  | (i, _) :: r, l0, a, b => (match zzlk l0 i with
    | some v => (i, v) :: zzup r l0 a b
    | none => zzup r l0 a b)
def zzdrop (t : Nat) : List zzI → List zzI
  | [] => []
  | q :: r => bif q.1.beq t then q :: r else zzdrop t r
def zzfind (t : Nat) : List (Nat × (zzL → zzM → Option zzR)) → Option (zzL → zzM → Option zzR)
  | [] => none
  | q :: r => bif q.1.beq t then some q.2 else zzfind t r
def zzlp (o : Option (List Int32 × List Int64)) (f : List Int32 × List Int64 → Option zzR) : Option zzR := match o with
  | some v => f v
  | none => zzhh none
theorem zzlp_s {o : Option (List Int32 × List Int64)} {f : List Int32 × List Int64 → Option zzR} {r : zzR} (h : zzlp o f = some r) : ∃ v, o = some v ∧ f v = some r := by
  cases o with
  | some v => exact ⟨v, rfl, h⟩
  | none => exact absurd (show none = some r from h) (fun q => by cases q)
/-- A METHOD's CODE from a row on: 'open' loops with their way back; a loop is a zzl with N turns at most -/
def zzx (call : Nat → List Value → zzM → Option zzR) (N rk : Nat) : Nat → List (Nat × (zzL → zzM → Option zzR)) → List zzI → zzL → List Value → zzM → Option zzR
  | 0, _, _, _, _, _ => none
  | _ + 1, _, [], _, _, _ => none
  | f + 1, ctx, (pc, len, i, aux) :: is, ls, st, μ => (match len with
    | 0 => (match st with
      | [] => zzlp (zzpk aux ls ls) fun v0 => zzl (fun v again => zzx call N rk f ((pc, fun ls' μ' => (zzpk aux ls ls').bind fun v' => again (v'.1, v'.2, μ')) :: ctx) is (zzup aux ls v.1 v.2.1) [] v.2.2) N (v0.1, v0.2, μ)
      | _ => none)
    | _ => zzstep call rk i aux ls st μ (fun ls st μ => zzx call N rk f ctx is ls st μ)
        (fun t st => match zzfind t ctx with
          | some k => (match st with
            | [] => k ls μ
            | _ => none)
          | none => zzx call N rk f ctx (zzdrop t is) ls st μ))
/-- a method: name, bytes, locals, return type, kind of its answer (0 none, 1 int, 2 long, 3 cell, 4 boolean), rows -/
abbrev zzT : Type := MethodName × ByteArray × Nat × Option FieldType × Nat × List zzI
/-- System.arraycopy, Math.min of ints, of longs -/
def zzcy (as : List Value) (μ : zzM) : Option zzR := match as with
  | [.ref a, .int sp, .ref b, .int dp, .int n] => (match zzcells[a]?, zzcells[b]? with
    | some (.inr (0, n0, _)), some (.inr (0, n1, _)) => (zzcp μ a n0 sp b n1 dp n).bind fun μ => some ((0, 0, 0), μ)
    | _, _ => none)
  | _ => none
def zzmi (as : List Value) (μ : zzM) : Option zzR := match as with
  | [.int a, .int b] => some ((if b < a then b else a, 0, 0), μ)
  | _ => none
def zzml (as : List Value) (μ : zzM) : Option zzR := match as with
  | [.long a, .long b] => some ((0, if b < a then b else a, 0), μ)
  | _ => none
/-- CALLS, d deep at most; methods 0, 1, 2 are System.arraycopy and Math.min -/
def zzf (P : List zzT) (N : Nat) : Nat → Nat → List Value → zzM → Option zzR
  | 0, _, _, _ => none
  | d + 1, y, as, μ => (match y with
    | 0 => zzcy as μ
    | 1 => zzmi as μ
    | 2 => zzml as μ
    | y + 3 => (match P[y]? with
      | some q => bif (zzcat as).ble q.2.2.1 then zzx (zzf P N d) N q.2.2.2.2.1 400 [] q.2.2.2.2.2 (lv_args 0 as) [] μ else none
      | none => none))
-- a loop's ints and longs, by their places
def zi0 (v : zzS) : Int32 := v.1.headD 0
def zi1 (v : zzS) : Int32 := v.1.tail.headD 0
def zi2 (v : zzS) : Int32 := v.1.tail.tail.headD 0
def zi3 (v : zzS) : Int32 := v.1.tail.tail.tail.headD 0
def zi4 (v : zzS) : Int32 := v.1.tail.tail.tail.tail.headD 0
def zi5 (v : zzS) : Int32 := v.1.tail.tail.tail.tail.tail.headD 0
def zi6 (v : zzS) : Int32 := v.1.tail.tail.tail.tail.tail.tail.headD 0
def zi7 (v : zzS) : Int32 := v.1.tail.tail.tail.tail.tail.tail.tail.headD 0
def zi8 (v : zzS) : Int32 := v.1.tail.tail.tail.tail.tail.tail.tail.tail.headD 0
def zj0 (v : zzS) : Int64 := v.2.1.headD 0
def zj1 (v : zzS) : Int64 := v.2.1.tail.headD 0
def zj2 (v : zzS) : Int64 := v.2.1.tail.tail.headD 0
def zm (v : zzS) : zzM := v.2.2
