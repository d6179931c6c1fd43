/-! A ROW's CHECK, by places of the tables' words -/
def zzw (k : Nat) : List Cond := match k with
  | 0 => k2_sels lw_privs
  | 1 => tables_1_1
  | 2 => tables_1_2
  | 3 => tables_1_3
  | 4 => tables_1_4
  | 5 => tables_1_5
  | 6 => tables_1_6
  | 7 => tables_1_7
  | 8 => tables_1_8
  | 9 => tables_1_9
  | _ => []
theorem zzw_in {k : Nat} {w : Cond} (h : w ∈ zzw k) : w ∈ lw_tbl := by
  unfold lw_tbl tables_1
  match k, h with
  | 0, h => exact List.mem_append_left _ h
  | 1, h => exact List.mem_append_right _ (List.mem_append_left _ h)
  | 2, h => exact List.mem_append_right _ (List.mem_append_right _ (List.mem_append_left _ h))
  | 3, h => exact List.mem_append_right _ (List.mem_append_right _ (List.mem_append_right _ (List.mem_append_left _ h)))
  | 4, h => exact List.mem_append_right _ (List.mem_append_right _ (List.mem_append_right _ (List.mem_append_right _ (List.mem_append_left _ h))))
  | 5, h => exact List.mem_append_right _ (List.mem_append_right _ (List.mem_append_right _ (List.mem_append_right _ (List.mem_append_right _ (List.mem_append_left _ h)))))
  | 6, h => exact List.mem_append_right _ (List.mem_append_right _ (List.mem_append_right _ (List.mem_append_right _ (List.mem_append_right _ (List.mem_append_right _ (List.mem_append_left _ h))))))
  | 7, h => exact List.mem_append_right _ (List.mem_append_right _ (List.mem_append_right _ (List.mem_append_right _ (List.mem_append_right _ (List.mem_append_right _ (List.mem_append_right _ (List.mem_append_left _ h)))))))
  | 8, h => exact List.mem_append_right _ (List.mem_append_right _ (List.mem_append_right _ (List.mem_append_right _ (List.mem_append_right _ (List.mem_append_right _ (List.mem_append_right _ (List.mem_append_right _ (List.mem_append_left _ h))))))))
  | 9, h => exact List.mem_append_right _ (List.mem_append_right _ (List.mem_append_right _ (List.mem_append_right _ (List.mem_append_right _ (List.mem_append_right _ (List.mem_append_right _ (List.mem_append_right _ (List.mem_append_right _ h))))))))
  | n + 10, h => cases h
def zzh (q : Nat × Nat) (w : Cond) : Bool := decide ((zzw q.1)[q.2]? = some w) && goodWord w
theorem zzh_in {q : Nat × Nat} {w : Cond} (h : zzh q w = true) : w ∈ zzTb := by
  unfold zzh at h
  simp only [Bool.and_eq_true, decide_eq_true_eq] at h
  exact zzTb_of (zzw_in (List.mem_of_getElem? h.1)) h.2
def zzg (ps : List (Nat × Nat)) (k : Nat) : Nat × Nat := ps.getD k (99, 0)
/-- a field's link -/
def zzckf (own : String) (j : Nat) (a : Nat × Nat) (q : Nat × Nat) (w : Bool) : Bool := match zzcl[a.1]? with
  | some r => decide (a.2 < r.2.2) && zzh q (Cond.fieldLink own j (r.2.1 a.2).1 (r.2.1 a.2).2.1 (r.2.1 a.2).2.2.1) && (!w || !(r.2.1 a.2).2.2.2)
  | none => false
theorem zzckf_s {own : String} {j : Nat} {a q : Nat × Nat} {w : Bool} (h : zzckf own j a q w = true) : ∃ r, zzcl[a.1]? = some r ∧ a.2 < r.2.2 ∧ Cond.fieldLink own j (r.2.1 a.2).1 (r.2.1 a.2).2.1 (r.2.1 a.2).2.2.1 ∈ zzTb ∧ (w = true → (r.2.1 a.2).2.2.2 = false) := by
  unfold zzckf at h
  split at h
  · rename_i r hr
    simp only [Bool.and_eq_true, decide_eq_true_eq] at h
    refine ⟨r, hr, h.1.1, zzh_in h.1.2, fun hw => ?_⟩
    have h2 := h.2
    rw [hw] at h2
    simpa using h2
  · cases h
/-- a method's words -/
def zzckm (q : zzT) (a b : Nat × Nat) : Bool := zzh a (Cond.code q.1 q.2.1 q.2.2.1 q.2.2.2.1) && zzh b (Cond.initialized q.1.cls) && decide (q.1.cls ≠ "java/lang/invoke/MethodHandle" ∧ q.1.cls ≠ "java/lang/invoke/VarHandle" ∧ q.2.2.1 ≤ 21)
theorem zzckm_s {q : zzT} {a b : Nat × Nat} (h : zzckm q a b = true) : zzmw q := by
  unfold zzckm at h
  simp only [Bool.and_eq_true, decide_eq_true_eq] at h
  exact ⟨zzh_in h.1.1, zzh_in h.1.2, h.2⟩
def zzcks (P : List zzT) (own : String) (j : Nat) (aux ps : List (Nat × Nat)) : Bool := match (zzfst aux).1 with
  | 0 => zzh (zzg ps 0) (Cond.methodLink own j arraycopyName) && decide ((zzfst aux).2 = 5 ∧ (zzsnd aux).1 = 0)
  | 1 => zzh (zzg ps 0) (Cond.methodLink own j Lib.Math.min.name) && decide ((zzfst aux).2 = 2 ∧ (zzsnd aux).1 = 1)
  | 2 => zzh (zzg ps 0) (Cond.methodLink own j Lib.MathLoose.min_long.x) && decide ((zzfst aux).2 = 2 ∧ (zzsnd aux).1 = 2)
  | y + 3 => (match P[y]? with
    | some q => zzckm q (zzg ps 1) (zzg ps 2) && zzh (zzg ps 3) (Cond.static q.1) && decide ((zzsnd aux).1 = q.2.2.2.2.1 ∧ (parseMethodDescriptor q.1.desc).map (fun d => d.parameters.length) = some (zzfst aux).2) && (match (zzg ps 4).1 with
      | 0 => zzh (zzg ps 0) (Cond.methodLink own j q.1)
      | _ => decide ((own, j, q.1) ∈ zznest))
    | none => false)
theorem zzcks_s {P : List zzT} {own : String} {j : Nat} {aux ps : List (Nat × Nat)} (h : zzcks P own j aux ps = true) : (match (zzfst aux).1 with
    | 0 => Cond.methodLink own j arraycopyName ∈ zzTb ∧ (zzfst aux).2 = 5 ∧ (zzsnd aux).1 = 0
    | 1 => Cond.methodLink own j Lib.Math.min.name ∈ zzTb ∧ (zzfst aux).2 = 2 ∧ (zzsnd aux).1 = 1
    | 2 => Cond.methodLink own j Lib.MathLoose.min_long.x ∈ zzTb ∧ (zzfst aux).2 = 2 ∧ (zzsnd aux).1 = 2
    | y + 3 => ∃ q, P[y]? = some q ∧ zzmw q ∧ Cond.static q.1 ∈ zzTb ∧ (zzsnd aux).1 = q.2.2.2.2.1 ∧ (parseMethodDescriptor q.1.desc).map (fun d => d.parameters.length) = some (zzfst aux).2 ∧ (Cond.methodLink own j q.1 ∈ zzTb ∨ (own, j, q.1) ∈ zznest)) := by
  unfold zzcks at h
  rcases zz4 (zzfst aux).1 with hy | hy | hy | ⟨y, hy⟩
  · simp only [hy, Bool.and_eq_true, decide_eq_true_eq] at h
    rw [hy]
    exact ⟨zzh_in h.1, h.2⟩
  · simp only [hy, Bool.and_eq_true, decide_eq_true_eq] at h
    rw [hy]
    exact ⟨zzh_in h.1, h.2⟩
  · simp only [hy, Bool.and_eq_true, decide_eq_true_eq] at h
    rw [hy]
    exact ⟨zzh_in h.1, h.2⟩
  · simp only [hy] at h
    rw [hy]
    cases hq : P[y]? with
    | none => simp only [hq] at h; cases h
    | some q =>
      simp only [hq, Bool.and_eq_true, decide_eq_true_eq] at h
      refine ⟨q, hq, zzckm_s h.1.1.1, zzh_in h.1.1.2, h.1.2.1, h.1.2.2, ?_⟩
      have h2 := h.2
      split at h2
      · exact Or.inl (zzh_in h2)
      · exact Or.inr (of_decide_eq_true h2)
def zzckv (P : List zzT) (own : String) (j : Nat) (aux ps : List (Nat × Nat)) : Bool := match (zzfst aux).1 with
  | 0 => false
  | 1 => false
  | 2 => false
  | y + 3 => (match P[y]?, zzcl[(zzthd aux).1]? with
    | some q, some r => zzckm q (zzg ps 1) (zzg ps 2) && decide (r.1 = q.1.cls) && zzh (zzg ps 3) (Cond.instanceMethod q.1) && zzh (zzg ps 4) (Cond.selects q.1.cls q.1 q.1) && decide ((zzsnd aux).1 = q.2.2.2.2.1 ∧ (parseMethodDescriptor q.1.desc).map (fun d => d.parameters.length) = some (zzfst aux).2) && zzh (zzg ps 0) (Cond.methodLink own j q.1)
    | _, _ => false)
theorem zzckv_s {P : List zzT} {own : String} {j : Nat} {aux ps : List (Nat × Nat)} (h : zzckv P own j aux ps = true) : (match (zzfst aux).1 with
    | 0 => False
    | 1 => False
    | 2 => False
    | y + 3 => ∃ q r, P[y]? = some q ∧ zzmw q ∧ zzcl[(zzthd aux).1]? = some r ∧ r.1 = q.1.cls ∧ Cond.instanceMethod q.1 ∈ zzTb ∧ Cond.selects q.1.cls q.1 q.1 ∈ zzTb ∧ (zzsnd aux).1 = q.2.2.2.2.1 ∧ (parseMethodDescriptor q.1.desc).map (fun d => d.parameters.length) = some (zzfst aux).2 ∧ Cond.methodLink own j q.1 ∈ zzTb) := by
  unfold zzckv at h
  rcases zz4 (zzfst aux).1 with hy | hy | hy | ⟨y, hy⟩
  · simp only [hy] at h; cases h
  · simp only [hy] at h; cases h
  · simp only [hy] at h; cases h
  · simp only [hy] at h
    rw [hy]
    cases hq : P[y]? with
    | none => simp only [hq] at h; cases h
    | some q =>
      cases hr : zzcl[(zzthd aux).1]? with
      | none => simp only [hq, hr] at h; cases h
      | some r =>
        simp only [hq, hr, Bool.and_eq_true, decide_eq_true_eq] at h
        exact ⟨q, r, hq, zzckm_s h.1.1.1.1.1, rfl, h.1.1.1.1.2, zzh_in h.1.1.1.2, zzh_in h.1.1.2, h.1.2.1, h.1.2.2, zzh_in h.2⟩
def zzckw (P : List zzT) (own : String) (nL len pc : Nat) (i : Instr) (aux ps : List (Nat × Nat)) : Bool := match i with
  | .iconst n => len.beq 1 && decide (Int32.ofInt n = zzkon (zzfst aux))
  | .bipush n => len.beq 2 && decide ((Int8.ofInt n).toInt32 = zzkon (zzfst aux))
  | .sipush n => len.beq 3 && decide ((Int16.ofInt n).toInt32 = zzkon (zzfst aux))
  | .lconst n => len.beq 1 && decide (Int64.ofNat (n : Nat) = zzkol (zzfst aux))
  | .ldc j => len.beq 2 && zzh (zzg ps 0) (Cond.constant own j (zzkon (zzfst aux)))
  | .ldc_w j => len.beq 3 && zzh (zzg ps 0) (Cond.constant own j (zzkon (zzfst aux)))
  | .ldc2_w j => len.beq 3 && zzh (zzg ps 0) (Cond.constantLong own j (zzkol (zzfst aux)))
  | .iload k => len.beq 2
  | .lload k => len.beq 2
  | .aload k => len.beq 2
  | .iload_n k => len.beq 1 && decide ((k : Nat) = (zzfst aux).1)
  | .lload_n k => len.beq 1 && decide ((k : Nat) = (zzfst aux).1)
  | .aload_n k => len.beq 1 && decide ((k : Nat) = (zzfst aux).1)
  | .istore k => len.beq 2 && decide (k < nL)
  | .lstore k => len.beq 2 && decide (k + 1 < nL)
  | .istore_n k => len.beq 1 && decide ((k : Nat) = (zzfst aux).1 ∧ (zzfst aux).1 < nL)
  | .lstore_n k => len.beq 1 && decide ((k : Nat) = (zzfst aux).1 ∧ (zzfst aux).1 + 1 < nL)
  | .iinc k n => len.beq 3 && decide (k < nL ∧ Int32.ofInt n = zzkon (zzfst aux))
  | .goto o => len.beq 3 && decide ((pc : Int) + o = ((zzfst aux).1 : Int))
  | .ifCond cd o => len.beq 3 && decide ((pc : Int) + o = ((zzfst aux).1 : Int))
  | .if_icmp cd o => len.beq 3 && decide ((pc : Int) + o = ((zzfst aux).1 : Int))
  | .tableswitch d lo hi os => decide ((pc : Int) + d = ((zzfst aux).1 : Int) ∧ zztab pc lo.toNat os.toList (aux.drop 1) = true ∧ lo = (lo.toNat : Int) ∧ hi + 1 = lo + (os.size : Int) ∧ lo.toNat + os.size < 2147483648)
  | .lookupswitch d ps0 => decide ((pc : Int) + d = ((zzfst aux).1 : Int) ∧ zzlkp pc ps0.toList (aux.drop 1) = true ∧ (ps0.toList.zip (ps0.toList.drop 1)).all (fun (a, next) => a.1 < next.1) = true)
  | .getfield j => len.beq 3 && zzckf own j (zzfst aux) (zzg ps 0) false
  | .putfield j => len.beq 3 && zzckf own j (zzfst aux) (zzg ps 0) true
  | .invokestatic j => len.beq 3 && zzcks P own j aux ps
  | .invokevirtual j => len.beq 3 && zzckv P own j aux ps
  | _ => len.beq 1
theorem zzckw_s {P : List zzT} {own : String} {nL len pc : Nat} {aux ps : List (Nat × Nat)} : ∀ i : Instr, zzckw P own nL len pc i aux ps = true → zzwd P own nL len pc i aux := by
  intro i
  cases i with
  | iconst n => exact fun h => ⟨Nat.eq_of_beq_eq_true (Bool.and_eq_true_iff.mp h).1, of_decide_eq_true (Bool.and_eq_true_iff.mp h).2⟩
  | bipush n => exact fun h => ⟨Nat.eq_of_beq_eq_true (Bool.and_eq_true_iff.mp h).1, of_decide_eq_true (Bool.and_eq_true_iff.mp h).2⟩
  | sipush n => exact fun h => ⟨Nat.eq_of_beq_eq_true (Bool.and_eq_true_iff.mp h).1, of_decide_eq_true (Bool.and_eq_true_iff.mp h).2⟩
  | lconst n => exact fun h => ⟨Nat.eq_of_beq_eq_true (Bool.and_eq_true_iff.mp h).1, of_decide_eq_true (Bool.and_eq_true_iff.mp h).2⟩
  | ldc j => exact fun h => ⟨Nat.eq_of_beq_eq_true (Bool.and_eq_true_iff.mp h).1, zzh_in (Bool.and_eq_true_iff.mp h).2⟩
  | ldc_w j => exact fun h => ⟨Nat.eq_of_beq_eq_true (Bool.and_eq_true_iff.mp h).1, zzh_in (Bool.and_eq_true_iff.mp h).2⟩
  | ldc2_w j => exact fun h => ⟨Nat.eq_of_beq_eq_true (Bool.and_eq_true_iff.mp h).1, zzh_in (Bool.and_eq_true_iff.mp h).2⟩
  | iload k => exact fun h => Nat.eq_of_beq_eq_true h
  | lload k => exact fun h => Nat.eq_of_beq_eq_true h
  | aload k => exact fun h => Nat.eq_of_beq_eq_true h
  | iload_n k => exact fun h => ⟨Nat.eq_of_beq_eq_true (Bool.and_eq_true_iff.mp h).1, of_decide_eq_true (Bool.and_eq_true_iff.mp h).2⟩
  | lload_n k => exact fun h => ⟨Nat.eq_of_beq_eq_true (Bool.and_eq_true_iff.mp h).1, of_decide_eq_true (Bool.and_eq_true_iff.mp h).2⟩
  | aload_n k => exact fun h => ⟨Nat.eq_of_beq_eq_true (Bool.and_eq_true_iff.mp h).1, of_decide_eq_true (Bool.and_eq_true_iff.mp h).2⟩
  | istore k => exact fun h => ⟨Nat.eq_of_beq_eq_true (Bool.and_eq_true_iff.mp h).1, of_decide_eq_true (Bool.and_eq_true_iff.mp h).2⟩
  | lstore k => exact fun h => ⟨Nat.eq_of_beq_eq_true (Bool.and_eq_true_iff.mp h).1, of_decide_eq_true (Bool.and_eq_true_iff.mp h).2⟩
  | istore_n k => exact fun h => ⟨Nat.eq_of_beq_eq_true (Bool.and_eq_true_iff.mp h).1, of_decide_eq_true (Bool.and_eq_true_iff.mp h).2⟩
  | lstore_n k => exact fun h => ⟨Nat.eq_of_beq_eq_true (Bool.and_eq_true_iff.mp h).1, of_decide_eq_true (Bool.and_eq_true_iff.mp h).2⟩
  | iinc k n => exact fun h => ⟨Nat.eq_of_beq_eq_true (Bool.and_eq_true_iff.mp h).1, of_decide_eq_true (Bool.and_eq_true_iff.mp h).2⟩
  | goto o => exact fun h => ⟨Nat.eq_of_beq_eq_true (Bool.and_eq_true_iff.mp h).1, of_decide_eq_true (Bool.and_eq_true_iff.mp h).2⟩
  | ifCond cd o => exact fun h => ⟨Nat.eq_of_beq_eq_true (Bool.and_eq_true_iff.mp h).1, of_decide_eq_true (Bool.and_eq_true_iff.mp h).2⟩
  | if_icmp cd o => exact fun h => ⟨Nat.eq_of_beq_eq_true (Bool.and_eq_true_iff.mp h).1, of_decide_eq_true (Bool.and_eq_true_iff.mp h).2⟩
  | tableswitch d lo hi os => exact fun h => of_decide_eq_true (p := ((pc : Int) + d = ((zzfst aux).1 : Int) ∧ zztab pc lo.toNat os.toList (aux.drop 1) = true ∧ lo = (lo.toNat : Int) ∧ hi + 1 = lo + (os.size : Int) ∧ lo.toNat + os.size < 2147483648)) h
  | lookupswitch d ps0 => exact fun h => of_decide_eq_true (p := ((pc : Int) + d = ((zzfst aux).1 : Int) ∧ zzlkp pc ps0.toList (aux.drop 1) = true ∧ (ps0.toList.zip (ps0.toList.drop 1)).all (fun (a, next) => a.1 < next.1) = true)) h
  | getfield j => exact fun h => ⟨Nat.eq_of_beq_eq_true (Bool.and_eq_true_iff.mp h).1, (zzckf_s (Bool.and_eq_true_iff.mp h).2).imp fun r q => ⟨q.1, q.2.1, q.2.2.1⟩⟩
  | putfield j => exact fun h => ⟨Nat.eq_of_beq_eq_true (Bool.and_eq_true_iff.mp h).1, (zzckf_s (Bool.and_eq_true_iff.mp h).2).imp fun r q => ⟨q.1, q.2.1, q.2.2.1, q.2.2.2 rfl⟩⟩
  | invokestatic j => exact fun h => ⟨Nat.eq_of_beq_eq_true (Bool.and_eq_true_iff.mp h).1, zzcks_s (Bool.and_eq_true_iff.mp h).2⟩
  | invokevirtual j => exact fun h => ⟨Nat.eq_of_beq_eq_true (Bool.and_eq_true_iff.mp h).1, zzckv_s (Bool.and_eq_true_iff.mp h).2⟩
  | _ => exact fun h => Nat.eq_of_beq_eq_true h
def zzall (P : List zzT) (own : String) (nL : Nat) (cc : ByteArray) : List zzI → List (List (Nat × Nat)) → Bool
  | [], [] => true
  | q :: r, a :: ps => (q.2.1.beq 0 || (decide (decode cc q.1 = .ok (q.2.2.1, q.2.1)) && zzckw P own nL q.2.1 q.1 q.2.2.1 q.2.2.2 a)) && zzall P own nL cc r ps
  | _, _ => false
theorem zzall_s {P : List zzT} {own : String} {nL : Nat} {cc : ByteArray} : ∀ (rows : List zzI) (ps : List (List (Nat × Nat))), zzall P own nL cc rows ps = true → ∀ r ∈ rows, zzrow P own nL cc r
  | [], _, _, r, hr => by cases hr
  | q :: r, [], h, _, _ => by cases h
  | q :: r, a :: ps, h, x, hx => by
    unfold zzall at h
    simp only [Bool.and_eq_true, Bool.or_eq_true, decide_eq_true_eq] at h
    rcases List.mem_cons.mp hx with rfl | hx
    · rcases h.1 with h1 | h1
      · exact Or.inl (Nat.eq_of_beq_eq_true h1)
      · exact Or.inr ⟨h1.1, zzckw_s _ h1.2⟩
    · exact zzall_s r ps h.2 x hx
def zzrtB (rk : Nat) (ret : Option FieldType) : Bool := match rk with
  | 0 => decide (ret = none)
  | 1 => decide (ret = some .int)
  | 2 => decide (ret = some .long)
  | 3 => (match ret with
    | some (.object _) => true
    | _ => false)
  | _ => decide (ret = some .boolean)
theorem zzrtB_s {rk : Nat} {ret : Option FieldType} (h : zzrtB rk ret = true) : zzrt rk ret := by
  unfold zzrtB at h
  unfold zzrt
  split at h
  · exact of_decide_eq_true (p := ret = none) h
  · exact of_decide_eq_true (p := ret = some .int) h
  · exact of_decide_eq_true (p := ret = some .long) h
  · split at h
    · exact ⟨_, rfl⟩
    · cases h
  · rename_i h0 h1 h2 h3
    split
    · exact (h0 rfl).elim
    · exact (h1 rfl).elim
    · exact (h2 rfl).elim
    · exact (h3 rfl).elim
    · exact of_decide_eq_true h
def zzmB (P : List zzT) (q : zzT) (ps : List (List (Nat × Nat))) : Bool := plainName q.1.cls && zzrtB q.2.2.2.2.1 q.2.2.2.1 && zzall P q.1.cls q.2.2.1 q.2.1 q.2.2.2.2.2 ps && zzseq q.2.2.2.2.2 && zzhd q.2.2.2.2.2
theorem zzmB_s {P : List zzT} {q : zzT} {ps : List (List (Nat × Nat))} (h : zzmB P q ps = true) : zzmg P q := by
  unfold zzmB at h
  simp only [Bool.and_eq_true] at h
  exact ⟨h.1.1.1.1, zzrtB_s h.1.1.1.2, zzall_s _ _ h.1.1.2, h.1.2, h.2⟩
