def zzrt (rk : Nat) (ret : Option FieldType) : Prop := match rk with
  | 0 => ret = none
  | 1 => ret = some .int
  | 2 => ret = some .long
  | 3 => ∃ n, ret = some (.object n)
  | _ => ret = some .boolean
def zzroom (d : Nat) : Room := { frames := d, cells := 0, slots := 0, locals := 40 * d }
def zzPc (D : va_G) (dA : Nat → ClassId) (ad : Nat → Nat) (as : List Value) (μ : zzM) (sz : Nat) : Array Value → State → Prop := va_Pc (as.map (zzcv ad)) (fun U => U.heap.size = sz ∧ va_P D zzcl (zzworld dA ad μ) U.heap ∧ va_K D zzcl (zztys dA) U ∧ zznw U)
def zzval (ad : Nat → Nat) (rk : Nat) (rr : zzR) : Option Value := match rk with
  | 0 => none
  | 2 => some (.long rr.1.2.1)
  | 3 => some (.ref (ad rr.1.2.2))
  | _ => some (.int rr.1.1)
def zzQ (D : va_G) (dA : Nat → ClassId) (ad : Nat → Nat) (A : Nat → Prop) (rk : Nat) (rr : zzR) : Array Value → State → Outcome → State → Prop := fun _ st oc t => oc = .returned (zzval ad rk rr) ∧ va_P D zzcl (zzworld dA ad rr.2) t.heap ∧ va_K D zzcl (zztys dA) t ∧ va_F A st t
/-- a method's contract -/
def zzMet (l : Launch) (D : va_G) (dA : Nat → ClassId) (ad : Nat → Nat) (d : Nat) (q : zzT) (as : List Value) (μ : zzM) (rr : zzR) : Prop := ∀ sz, Met l q.1 (Cond.code q.1 q.2.1 q.2.2.1 q.2.2.2.1 :: zzTb) (zzroom d) (zzPc D dA ad as μ sz) (zzQ D dA ad (zzA ad sz) q.2.2.2.2.1 rr) 0 0 (zzA ad sz)
/-- what holds all through a method's body -/
def zzX (p : Program) (s : State) (m : MethodId) (args : Array Value) (meth : Method) (c : Code) (cc : ByteArray) (own : String) (nL : Nat) (rk : Nat) (D : va_G) (dA : Nat → ClassId) (ad : Nat → Nat) (A : Nat → Prop) : Prop :=
  p.tables.exec = Jvm.exec ∧ c.code = cc ∧ c.maxLocals = nL ∧ s.vm.findClass own = some m.cls ∧ (∀ w ∈ zzTb, w.before args s = true) ∧ va_K D zzcl (zztys dA) s ∧ zznw s ∧ zzinj ad ∧ (∀ q, zzA ad s.heap.size q → A q) ∧ meth.locks = false ∧ zzrt rk meth.sig.returnType
def zzW (p : Program) (l : Launch) (e : Env) (R : Room) (s : State) (m : MethodId) (args : Array Value) (below : List Frame) (meth : Method) (c : Code) (Q : State → Prop) (D : va_G) (dA : Nat → ClassId) (ad : Nat → Nat) (A : Nat → Prop) (nL pc : Nat) (ls : zzL) (st : List Value) (μ : zzM) : Prop :=
  ∀ (H : Heap) (locs : List Loc) (lc : Array Slot), va_P D zzcl (zzworld dA ad μ) H → va_S A s.heap H locs → lv_has lc nL (zzlc ad ls) → W p l e R s m args below meth c H locs 0 0 Q (F0 m pc lc (st.map (zzcv ad)))
theorem zzgoodIn {y : MethodName} {b : ByteArray} {n : Nat} {r : Option FieldType} (h : Cond.code y b n r ∈ zzTb) : GoodIn zzTb (Cond.code y b n r :: zzTb) := by
  intro w hw
  have hm : w ∈ zzTb := by
    rcases List.mem_cons.mp hw with h1 | h1
    · rw [h1]; exact h
    · exact h1
  exact ⟨hm, good_of_word (zzTb_in hm).2⟩
theorem zzgoodL {l0 ws : List Cond} (h : ∀ w ∈ l0, w ∈ zzTb) (hw : GoodIn zzTb ws) : GoodIn zzTb (l0 ++ ws) := by
  intro w h1
  rcases List.mem_append.mp h1 with h2 | h2
  · exact ⟨h w h2, good_of_word (zzTb_in (h w h2)).2⟩
  · exact hw w h2
theorem zzkd_at {c ci k a b : Nat} {fs : List (Nat × Nat)} {r : vw_C} (hc : zzcells[c]? = some (.inl (ci, fs))) (hr : zzcl[ci]? = some r) (hk : fs[k]? = some (a, b)) : zzkd (parseFieldDescriptor (r.2.1 k).2.2.1) a = true := by
  have h := List.all_eq_true.mp zzkd_all _ (List.mem_of_getElem? hc)
  unfold zzkd_row at h
  simp only [hr, Bool.and_eq_true] at h
  have hl : fs.length = r.2.2 := Nat.eq_of_beq_eq_true h.1
  have hkl : k < fs.length := (List.getElem?_eq_some_iff.mp hk).1
  have h2 := List.all_eq_true.mp h.2 k (List.mem_range.mpr (by rw [← hl]; exact hkl))
  simp only [List.getD_eq_getElem?_getD, hk, Option.getD_some] at h2
  exact h2
theorem zzkd0 {t : Option FieldType} (h : zzkd t 0 = true) : t = some .int := by
  unfold zzkd at h
  split at h <;> first | rfl | (simp_all; done) | cases h
theorem zzkd1 {t : Option FieldType} (h : zzkd t 1 = true) : t = some .boolean := by
  unfold zzkd at h
  split at h <;> first | rfl | (simp_all; done) | cases h
theorem zzkd2 {t : Option FieldType} (h : zzkd t 2 = true) : t = some .long := by
  unfold zzkd at h
  split at h <;> first | rfl | (simp_all; done) | cases h
theorem zznar {v : Int32} (h : v = 0 ∨ v = 1) : vp_nar .boolean v = v := by
  rcases h with rfl | rfl <;> decide
theorem zznarB {v : Int32} (h : v = 0 ∨ v = 1) : narrow .boolean (.int v) = .int v := by
  rcases h with rfl | rfl <;> decide
theorem zzfitB {v : Int32} (h : v = 0 ∨ v = 1) : fits .boolean (.int v) = true := by
  rcases h with rfl | rfl <;> decide
section
variable {p : Program} {l : Launch} {e : Env} {R : Room} {s : State} {m : MethodId} {args : Array Value} {below : List Frame} {meth : Method} {c : Code} {Q : State → Prop} {D : va_G} {dA : Nat → ClassId} {ad : Nat → Nat} {A : Nat → Prop} {nL : Nat} {H : Heap} {locs : List Loc} {lc : Array Slot}
/-- behind a call -/
theorem zzcall {pc rk : Nat} {rr : zzR} {A1 : Nat → Prop} {a : Array Value} {rest st0 : List Value} (hr : va_Run p l e R s m args below meth c H locs 0 0 0 0 (F0 m pc lc st0) rest (zzQ D dA ad A1 rk rr a) A1) (hS : va_S A s.heap H locs) (hA : ∀ q, A1 q → A q)
    (kk : ∀ (H1 : Heap) (locs1 : List Loc), va_P D zzcl (zzworld dA ad rr.2) H1 → va_S A s.heap H1 locs1 → W p l e R s m args below meth c H1 locs1 0 0 Q (F0 m (pc + 3) lc ((zzval ad rk rr).toList ++ rest))) : W p l e R s m args below meth c H locs 0 0 Q (F0 m pc lc st0) := by
  intro T hT X
  obtain ⟨v, st₀, t, T', L, h0, X', hL, e1, e2, ⟨hv, hp, hk, hz, hkk⟩, st⟩ := hr T hT X
  cases hv
  rw [h0] at hz hkk
  obtain ⟨t2, a1, b1⟩ := kk T'.heap (locs ++ L) (by rw [e1]; exact hp)
    ⟨Nat.le_trans hS.1 (by rw [e1]; exact hz), fun q h1 h2 => by rw [e1, hkk q (Nat.lt_of_lt_of_le h1 hS.1) (fun z => h2 (hA q z))]; exact hS.2.1 q h1 h2, fun q hq => by
      rcases List.mem_append.mp hq with h | h
      · exact hS.2.2 q h
      · exact hA _ (hL q h)⟩ T' rfl X'
  exact ⟨t2, st t2 a1, b1⟩
theorem zzAsub {ad : Nat → Nat} {a b : Nat} (h : a ≤ b) : ∀ q, zzA ad b q → zzA ad a q := fun q hq => hq.elim Or.inl (fun z => Or.inr (Nat.le_trans h z))
theorem zzcut_s : ∀ (n : Nat) (st acc as rest : List Value), zzcut n st acc = some (as, rest) → ∃ bs : List Value, bs.length = n ∧ st = bs.reverse ++ rest ∧ as = bs ++ acc
  | 0, st, acc, as, rest, h => by
    obtain ⟨h1, h2⟩ := Prod.mk.inj (Option.some.inj h)
    exact ⟨[], rfl, h2, by rw [← h1]; rfl⟩
  | n + 1, v :: st, acc, as, rest, h => by
    obtain ⟨bs, h1, h2, h3⟩ := zzcut_s n st (v :: acc) as rest h
    refine ⟨bs ++ [v], by rw [List.length_append, h1]; rfl, by rw [List.reverse_append, h2]; rfl, by rw [h3, List.append_assoc]; rfl⟩
  | _ + 1, [], _, _, _, h => by cases h
theorem zzcat_s (ad : Nat → Nat) : ∀ st : List Value, ((st.map (zzcv ad)).map fun v => v.category).sum = zzcat st
  | [] => rfl
  | v :: r => by
    rw [List.map_cons, List.map_cons, List.sum_cons, zzcv_cat, zzcat_s ad r]
    rfl
theorem zzres_s {q : Nat × Nat} {o rr : zzR} {f : List Value → Option zzR} (h : zzres q o f = some rr) : ∃ t, t.map (zzcv ad) = (zzval ad q.1 o).toList ∧ f t = some rr := by
  obtain ⟨k, rc⟩ := q
  unfold zzres at h
  dsimp only at h
  split at h
  · exact ⟨_, rfl, h⟩
  · exact ⟨_, rfl, h⟩
  · split at h
    · rename_i he
      exact ⟨_, by rw [← he]; rfl, h⟩
    · cases h
  · rename_i n h0 h2 h3
    refine ⟨_, ?_, h⟩
    unfold zzval
    split
    next hq => exact (h0 hq).elim
    next hq => exact (h2 hq).elim
    next hq => exact (h3 hq).elim
    next => rfl
end
