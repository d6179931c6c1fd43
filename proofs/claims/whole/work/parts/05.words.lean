/-! ONE INSTRUCTION of the small machine is one of the machine -/
-- what an answer says
theorem zzp1_s {st : List Value} {f : Int32 → List Value → Option zzR} {r : zzR} (h : zzp1 st f = some r) : ∃ x st', st = .int x :: st' ∧ f x st' = some r := by
  unfold zzp1 at h
  split at h
  · exact ⟨_, _, rfl, h⟩
  · cases h
theorem zzp2_s {st : List Value} {f : Int32 → Int32 → List Value → Option zzR} {r : zzR} (h : zzp2 st f = some r) : ∃ x y st', st = .int y :: .int x :: st' ∧ f x y st' = some r := by
  unfold zzp2 at h
  split at h
  · exact ⟨_, _, _, rfl, h⟩
  · cases h
theorem zzq1_s {st : List Value} {f : Int64 → List Value → Option zzR} {r : zzR} (h : zzq1 st f = some r) : ∃ x st', st = .long x :: st' ∧ f x st' = some r := by
  unfold zzq1 at h
  split at h
  · exact ⟨_, _, rfl, h⟩
  · cases h
theorem zzq2_s {st : List Value} {f : Int64 → Int64 → List Value → Option zzR} {r : zzR} (h : zzq2 st f = some r) : ∃ x y st', st = .long y :: .long x :: st' ∧ f x y st' = some r := by
  unfold zzq2 at h
  split at h
  · exact ⟨_, _, _, rfl, h⟩
  · cases h
theorem zzqs_s {st : List Value} {f : Int64 → Int32 → List Value → Option zzR} {r : zzR} (h : zzqs st f = some r) : ∃ x y st', st = .int y :: .long x :: st' ∧ f x y st' = some r := by
  unfold zzqs at h
  split at h
  · exact ⟨_, _, _, rfl, h⟩
  · cases h
theorem zza1_s {st : List Value} {f : Nat → List Value → Option zzR} {r : zzR} (h : zza1 st f = some r) : ∃ x st', st = .ref x :: st' ∧ f x st' = some r := by
  unfold zza1 at h
  split at h
  · exact ⟨_, _, rfl, h⟩
  · cases h
theorem zzai_s {st : List Value} {f : Nat → Int32 → List Value → Option zzR} {r : zzR} (h : zzai st f = some r) : ∃ c i st', st = .int i :: .ref c :: st' ∧ f c i st' = some r := by
  unfold zzai at h
  split at h
  · exact ⟨_, _, _, rfl, h⟩
  · cases h
theorem zzas_s {st : List Value} {f : Nat → Int32 → Int32 → List Value → Option zzR} {r : zzR} (h : zzas st f = some r) : ∃ c i v st', st = .int v :: .int i :: .ref c :: st' ∧ f c i v st' = some r := by
  unfold zzas at h
  split at h
  · exact ⟨_, _, _, _, rfl, h⟩
  · cases h
theorem zzal_s {st : List Value} {f : Nat → Int32 → Int64 → List Value → Option zzR} {r : zzR} (h : zzal st f = some r) : ∃ c i v st', st = .long v :: .int i :: .ref c :: st' ∧ f c i v st' = some r := by
  unfold zzal at h
  split at h
  · exact ⟨_, _, _, _, rfl, h⟩
  · cases h
theorem zzdp_s {st : List Value} {f : List Value → Option zzR} {r : zzR} (h : zzdp st f = some r) : ∃ v st', st = v :: st' ∧ v.category = 1 ∧ f (v :: v :: st') = some r := by
  unfold zzdp at h
  split at h
  · exact ⟨_, _, rfl, rfl, h⟩
  · exact ⟨_, _, rfl, rfl, h⟩
  · cases h
theorem zzd2_s {st : List Value} {f : List Value → Option zzR} {r : zzR} (h : zzd2 st f = some r) : ∃ v w st', st = v :: w :: st' ∧ v.category = 1 ∧ w.category = 1 ∧ f (v :: w :: v :: w :: st') = some r := by
  unfold zzd2 at h
  split at h
  · exact ⟨_, _, _, rfl, rfl, rfl, h⟩
  · cases h
theorem zzpo_s {st : List Value} {f : List Value → Option zzR} {r : zzR} (h : zzpo st f = some r) : ∃ v st', st = v :: st' ∧ v.category = 1 ∧ f st' = some r := by
  unfold zzpo at h
  split at h
  · exact ⟨_, _, rfl, rfl, h⟩
  · exact ⟨_, _, rfl, rfl, h⟩
  · cases h
theorem zzpf_s {st : List Value} {f : Nat → Int32 → List Value → Option zzR} {g : Nat → Int64 → List Value → Option zzR} {r : zzR} (h : zzpf st f g = some r) : (∃ c v st', st = .int v :: .ref c :: st' ∧ f c v st' = some r) ∨ ∃ c v st', st = .long v :: .ref c :: st' ∧ g c v st' = some r := by
  unfold zzpf at h
  split at h
  · exact Or.inl ⟨_, _, _, rfl, h⟩
  · exact Or.inr ⟨_, _, _, rfl, h⟩
  · cases h
theorem zzno_s {st : List Value} {f : Option zzR} {r : zzR} (h : zzno st f = some r) : st = [] ∧ f = some r := by
  unfold zzno at h
  split at h
  · exact ⟨rfl, h⟩
  · cases h
theorem zzinc_eq (x : Int32) (q : Nat × Nat) : x + zzkon q = zzinc x q := by
  obtain ⟨a, b⟩ := q
  cases b with
  | zero => rfl
  | succ b => exact (Int32.sub_eq_add_neg _ _).symm
theorem zzar_s {c : Nat} {f : Nat → Nat → List Nat → Option zzR} {r : zzR} (h : zzar c f = some r) : ∃ k n ts, zzcells[c]? = some (.inr (k, n, ts)) ∧ f k n ts = some r := by
  unfold zzar at h
  split at h
  · exact ⟨_, _, _, by assumption, h⟩
  · cases h
theorem zzfd_s {c ci k : Nat} {f : Nat → Nat → Option zzR} {r : zzR} (h : zzfd c ci k f = some r) : ∃ fs a b, zzcells[c]? = some (.inl (ci, fs)) ∧ fs[k]? = some (a, b) ∧ f a b = some r := by
  unfold zzfd at h
  split at h
  · rename_i cj fs hc
    cases hb : cj.beq ci with
    | false =>
      rw [hb] at h
      exact absurd (show none = some r from h) (fun q => by cases q)
    | true =>
      rw [hb] at h
      have : cj = ci := Nat.eq_of_beq_eq_true hb
      subst this
      have h : (match fs[k]? with
        | some (a, b) => f a b
        | none => zzhh none) = some r := h
      split at h
      · exact ⟨_, _, _, hc, by assumption, h⟩
      · exact absurd (show none = some r from h) (fun q => by cases q)
  · cases h
theorem zzlk_mem {ls : zzL} {k : Nat} {v : Value} (h : zzlk ls k = some v) : (k, v) ∈ ls := by
  induction ls with
  | nil => cases h
  | cons q r ih =>
    unfold zzlk at h
    cases hb : q.1.beq k with
    | false => rw [hb] at h; exact List.mem_cons_of_mem _ (ih h)
    | true =>
      rw [hb] at h
      have h1 : q.1 = k := Nat.eq_of_beq_eq_true hb
      have h2 : q.2 = v := Option.some.inj h
      rw [← h1, ← h2]
      exact List.mem_cons_self
def zzlc (ad : Nat → Nat) (ls : zzL) : List (Nat × Value) := ls.map fun q => (q.1, zzcv ad q.2)
theorem zzlc_at {ad : Nat → Nat} {lc : Array Slot} {nL k : Nat} {ls : zzL} {v : Value} (hl : lv_has lc nL (zzlc ad ls)) (h : zzlk ls k = some v) : lc[k]? = some (.val (zzcv ad v)) :=
  hl.2.2 (k, zzcv ad v) (List.mem_map.mpr ⟨(k, v), zzlk_mem h, rfl⟩)
theorem zzlc_set1 {ad : Nat → Nat} {i : Nat} {v : Value} {ls : zzL} : (i, zzcv ad v) :: (zzlc ad ls).filter (fun q => !(q.1 == i) && !(q.1 + 1 == i && q.2.category == 2)) = zzlc ad (zzset1 i v ls) := by
  unfold zzlc zzset1
  rw [List.map_cons, List.filter_map]
  congr 2
  apply List.filter_congr
  intro q _
  simp only [Function.comp, zzcv_cat]
theorem zzlc_set2 {ad : Nat → Nat} {i : Nat} {v : Value} {ls : zzL} : (i, zzcv ad v) :: (zzlc ad ls).filter (fun q => !(q.1 == i) && (!(q.1 == i + 1) && !(q.1 + 1 == i && q.2.category == 2))) = zzlc ad (zzset2 i v ls) := by
  unfold zzlc zzset2
  rw [List.map_cons, List.filter_map]
  congr 2
  apply List.filter_congr
  intro q _
  simp only [Function.comp, zzcv_cat]
theorem zzri_s {μ : zzM} {c n : Nat} {i : Int32} {v : Int32} (h : zzri μ c n i = some v) : vp_in i n ∧ v = μ.1 c i.toNatClampNeg := by
  unfold zzri at h
  split at h
  · cases h
  · exact ⟨by assumption, (Option.some.inj h).symm⟩
theorem zzrl_s {μ : zzM} {c n : Nat} {i : Int32} {v : Int64} (h : zzrl μ c n i = some v) : vp_in i n ∧ v = μ.2 c i.toNatClampNeg := by
  unfold zzrl at h
  split at h
  · cases h
  · exact ⟨by assumption, (Option.some.inj h).symm⟩
theorem zzsi_s {μ μ' : zzM} {c n : Nat} {i v : Int32} (h : zzsi μ c n i v = some μ') : vp_in i n ∧ μ' = zzwI μ c i.toNatClampNeg v := by
  unfold zzsi at h
  split at h
  · cases h
  · exact ⟨by assumption, (Option.some.inj h).symm⟩
theorem zzsl_s {μ μ' : zzM} {c n : Nat} {i : Int32} {v : Int64} (h : zzsl μ c n i v = some μ') : vp_in i n ∧ μ' = zzwL μ c i.toNatClampNeg v := by
  unfold zzsl at h
  split at h
  · cases h
  · exact ⟨by assumption, (Option.some.inj h).symm⟩
-- what a row of code must have
def zztab (pc : Nat) : Nat → List Int → List (Nat × Nat) → Bool
  | _, [], [] => true
  | lo, o :: os, q :: qs => q.1.beq lo && decide ((pc : Int) + o = (q.2 : Int)) && zztab pc (lo + 1) os qs
  | _, _, _ => false
def zzlkp (pc : Nat) : List (Int × Int) → List (Nat × Nat) → Bool
  | [], [] => true
  | a :: os, q :: qs => decide (a.1 = (q.1 : Int)) && decide ((nI q.1).toInt = (q.1 : Int)) && decide ((pc : Int) + a.2 = (q.2 : Int)) && zzlkp pc os qs
  | _, _ => false
/-- a method's words, for whom calls it -/
def zzmw (q : zzT) : Prop := Cond.code q.1 q.2.1 q.2.2.1 q.2.2.2.1 ∈ zzTb ∧ Cond.initialized q.1.cls ∈ zzTb ∧ q.1.cls ≠ "java/lang/invoke/MethodHandle" ∧ q.1.cls ≠ "java/lang/invoke/VarHandle" ∧ q.2.2.1 ≤ 21
/-- calls of a private static method of the outer class -/
def zznest : List (String × Nat × MethodName) := [("PackedForest$Grammar", 60, ⟨"PackedForest", "faultAt", "(II)I"⟩), ("PackedForest$Chart", 32, ⟨"PackedForest", "span", "(II)I"⟩), ("PackedForest$Counts", 61, ⟨"PackedForest", "span", "(II)I"⟩), ("PackedForest$Forest", 35, ⟨"PackedForest", "span", "(II)I"⟩), ("PackedForest$Sizes", 54, ⟨"PackedForest", "span", "(II)I"⟩), ("PackedForest$Mender", 44, ⟨"PackedForest", "span", "(II)I"⟩)]
def zznw (U : State) : Prop := ∀ q ∈ zznest, va_Nw (.methodLinkNest q.1 q.2.1 q.2.2 "PackedForest") U
def zzwd (P : List zzT) (own : String) (nL len pc : Nat) (i : Instr) (aux : List (Nat × Nat)) : Prop := match i with
  | .iconst n => len = 1 ∧ Int32.ofInt n = zzkon (zzfst aux)
  | .bipush n => len = 2 ∧ (Int8.ofInt n).toInt32 = zzkon (zzfst aux)
  | .sipush n => len = 3 ∧ (Int16.ofInt n).toInt32 = zzkon (zzfst aux)
  | .ldc j => len = 2 ∧ Cond.constant own j (zzkon (zzfst aux)) ∈ zzTb
  | .ldc_w j => len = 3 ∧ Cond.constant own j (zzkon (zzfst aux)) ∈ zzTb
  | .lconst n => len = 1 ∧ Int64.ofNat (n : Nat) = zzkol (zzfst aux)
  | .ldc2_w j => len = 3 ∧ Cond.constantLong own j (zzkol (zzfst aux)) ∈ zzTb
  | .iload _ => len = 2
  | .lload _ => len = 2
  | .aload _ => len = 2
  | .iload_n k => len = 1 ∧ (k : Nat) = (zzfst aux).1
  | .lload_n k => len = 1 ∧ (k : Nat) = (zzfst aux).1
  | .aload_n k => len = 1 ∧ (k : Nat) = (zzfst aux).1
  | .istore k => len = 2 ∧ k < nL
  | .lstore k => len = 2 ∧ k + 1 < nL
  | .istore_n k => len = 1 ∧ (k : Nat) = (zzfst aux).1 ∧ (zzfst aux).1 < nL
  | .lstore_n k => len = 1 ∧ (k : Nat) = (zzfst aux).1 ∧ (zzfst aux).1 + 1 < nL
  | .iinc k n => len = 3 ∧ k < nL ∧ Int32.ofInt n = zzkon (zzfst aux)
  | .goto o => len = 3 ∧ (pc : Int) + o = ((zzfst aux).1 : Int)
  | .ifCond _ o => len = 3 ∧ (pc : Int) + o = ((zzfst aux).1 : Int)
  | .if_icmp _ o => len = 3 ∧ (pc : Int) + o = ((zzfst aux).1 : Int)
  | .tableswitch d lo hi os => (pc : Int) + d = ((zzfst aux).1 : Int) ∧ zztab pc lo.toNat os.toList (aux.drop 1) = true ∧ lo = (lo.toNat : Int) ∧ hi + 1 = lo + (os.size : Int) ∧ lo.toNat + os.size < 2147483648
  | .lookupswitch d ps => (pc : Int) + d = ((zzfst aux).1 : Int) ∧ zzlkp pc ps.toList (aux.drop 1) = true ∧ (ps.toList.zip (ps.toList.drop 1)).all (fun (a, next) => a.1 < next.1) = true
  | .getfield j => len = 3 ∧ ∃ r, zzcl[(zzfst aux).1]? = some r ∧ (zzfst aux).2 < r.2.2 ∧ Cond.fieldLink own j (r.2.1 (zzfst aux).2).1 (r.2.1 (zzfst aux).2).2.1 (r.2.1 (zzfst aux).2).2.2.1 ∈ zzTb
  | .putfield j => len = 3 ∧ ∃ r, zzcl[(zzfst aux).1]? = some r ∧ (zzfst aux).2 < r.2.2 ∧ Cond.fieldLink own j (r.2.1 (zzfst aux).2).1 (r.2.1 (zzfst aux).2).2.1 (r.2.1 (zzfst aux).2).2.2.1 ∈ zzTb ∧ (r.2.1 (zzfst aux).2).2.2.2 = false
  | .invokestatic j => len = 3 ∧ (match (zzfst aux).1 with
    | 0 => Cond.methodLink own j arraycopyName ∈ zzTb ∧ (zzfst aux).2 = 5 ∧ (zzsnd aux).1 = 0
    | 1 => Cond.methodLink own j Lib.Math.min.name ∈ zzTb ∧ (zzfst aux).2 = 2 ∧ (zzsnd aux).1 = 1
    | 2 => Cond.methodLink own j Lib.MathLoose.min_long.x ∈ zzTb ∧ (zzfst aux).2 = 2 ∧ (zzsnd aux).1 = 2
    | y + 3 => ∃ q, P[y]? = some q ∧ zzmw q ∧ Cond.static q.1 ∈ zzTb ∧ (zzsnd aux).1 = q.2.2.2.2.1 ∧ (parseMethodDescriptor q.1.desc).map (fun d => d.parameters.length) = some (zzfst aux).2 ∧ (Cond.methodLink own j q.1 ∈ zzTb ∨ (own, j, q.1) ∈ zznest))
  | .invokevirtual j => len = 3 ∧ (match (zzfst aux).1 with
    | 0 => False
    | 1 => False
    | 2 => False
    | y + 3 => ∃ q r, P[y]? = some q ∧ zzmw q ∧ zzcl[(zzthd aux).1]? = some r ∧ r.1 = q.1.cls ∧ Cond.instanceMethod q.1 ∈ zzTb ∧ Cond.selects q.1.cls q.1 q.1 ∈ zzTb ∧ (zzsnd aux).1 = q.2.2.2.2.1 ∧ (parseMethodDescriptor q.1.desc).map (fun d => d.parameters.length) = some (zzfst aux).2 ∧ Cond.methodLink own j q.1 ∈ zzTb)
  | _ => len = 1
theorem zz4 (n : Nat) : n = 0 ∨ n = 1 ∨ n = 2 ∨ ∃ y, n = y + 3 := by
  match n with
  | 0 => exact Or.inl rfl
  | 1 => exact Or.inr (Or.inl rfl)
  | 2 => exact Or.inr (Or.inr (Or.inl rfl))
  | y + 3 => exact Or.inr (Or.inr (Or.inr ⟨y, rfl⟩))
theorem zzmiw : Cond.static Lib.Math.min.name ∈ zzTb ∧ Cond.initialized "java/lang/Math" ∈ zzTb ∧ Cond.code Lib.Math.min.name Lib.Math.min.code 2 (some .int) ∈ zzTb := ⟨zzTb_of (by decide +kernel) rfl, zzTb_of (by decide +kernel) rfl, zzTb_of (by decide +kernel) rfl⟩
theorem zzmlw : Cond.static Lib.MathLoose.min_long.x ∈ zzTb ∧ Cond.code Lib.MathLoose.min_long.x Lib.MathLoose.min_long.code 4 (some .long) ∈ zzTb := ⟨zzTb_of (by decide +kernel) rfl, zzTb_of (by decide +kernel) rfl⟩
