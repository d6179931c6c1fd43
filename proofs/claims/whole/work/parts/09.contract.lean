/-! EVERY METHOD's CONTRACT: what the small machine answers, the machine answers -/
def zzhd (rows : List zzI) : Bool := match rows with
  | r :: _ => r.1.beq 0
  | [] => false
/-- a method's rows are its code's -/
def zzmg (P : List zzT) (q : zzT) : Prop := plainName q.1.cls = true ∧ zzrt q.2.2.2.2.1 q.2.2.2.1 ∧ (∀ r ∈ q.2.2.2.2.2, zzrow P q.1.cls q.2.2.1 q.2.1 r) ∧ zzseq q.2.2.2.2.2 = true ∧ zzhd q.2.2.2.2.2 = true
theorem zzargs_map (ad : Nat → Nat) : ∀ (as : List Value) (k : Nat), lv_args k (as.map (zzcv ad)) = zzlc ad (lv_args k as)
  | [], _ => rfl
  | v :: as, k => by
    show (k, zzcv ad v) :: lv_args (if (zzcv ad v).category = 2 then k + 2 else k + 1) (as.map (zzcv ad)) = (k, zzcv ad v) :: zzlc ad (lv_args (if v.category = 2 then k + 2 else k + 1) as)
    rw [zzcv_cat, zzargs_map ad as]
theorem zzsl_len (ad : Nat → Nat) : ∀ (as : List Value), (lg_sl (as.map (zzcv ad))).length = zzcat as
  | [] => rfl
  | v :: as => by
    have h := zzsl_len ad as
    unfold lg_sl at h ⊢
    rw [List.map_cons, List.flatMap_cons, List.length_append, h, zzcv_cat]
    show _ = v.category + zzcat as
    rcases lv_cat v with h1 | h1
    · rw [h1]; rfl
    · rw [h1]; rfl
theorem zzcopy_s {P : List zzT} {N d : Nat} {as : List Value} {μ : zzM} {o : zzR} (h : zzf P N (d + 1) 0 as μ = some o) : ∃ (a b n0 n1 : Nat) (t0 t1 : List Nat) (sp dp n : Int32) (μ' : zzM), as = [.ref a, .int sp, .ref b, .int dp, .int n] ∧ zzcells[a]? = some (.inr (0, n0, t0)) ∧ zzcells[b]? = some (.inr (0, n1, t1)) ∧ zzcp μ a n0 sp b n1 dp n = some μ' ∧ o = ((0, 0, 0), μ') := by
  have h : zzcy as μ = some o := h
  unfold zzcy at h
  split at h
  · split at h
    · rename_i ha hb
      obtain ⟨μ', h1, h2⟩ := Option.bind_eq_some_iff.mp h
      exact ⟨_, _, _, _, _, _, _, _, _, μ', rfl, ha, hb, h1, (Option.some.inj h2).symm⟩
    · cases h
  · cases h
theorem zzmi_s {as : List Value} {μ : zzM} {o : zzR} (h : zzmi as μ = some o) : ∃ (a b : Int32), as = [.int a, .int b] ∧ o = ((if b < a then b else a, 0, 0), μ) := by
  unfold zzmi at h
  split at h
  · exact ⟨_, _, rfl, (Option.some.inj h).symm⟩
  · cases h
theorem zzml_s {as : List Value} {μ : zzM} {o : zzR} (h : zzml as μ = some o) : ∃ (a b : Int64), as = [.long a, .long b] ∧ o = ((0, if b < a then b else a, 0), μ) := by
  unfold zzml at h
  split at h
  · exact ⟨_, _, rfl, (Option.some.inj h).symm⟩
  · cases h
set_option maxHeartbeats 4000000 in
theorem zzf_one (l : Launch) (D : va_G) (dA : Nat → ClassId) (ad : Nat → Nat) (hinj : zzinj ad) {P : List zzT} (hg : ∀ q ∈ P, zzmg P q) {N d y : Nat} {as : List Value} {μ : zzM} {rr : zzR} {q : zzT} (hcl : zzCl l D dA ad P (zzroom d) (zzf P N d)) (h : zzf P N (d + 1) (y + 3) as μ = some rr) (hq : P[y]? = some q) : zzMet l D dA ad d q as μ rr := by
  intro sz
  obtain ⟨hpl, hrt, hrows, hseq, hhd⟩ := hg q (List.mem_of_getElem? hq)
  have h : (match P[y]? with
      | some q => bif (zzcat as).ble q.2.2.1 then zzx (zzf P N d) N q.2.2.2.2.1 400 [] q.2.2.2.2.2 (lv_args 0 as) [] μ else none
      | none => none) = some rr := h
  rw [hq] at h
  have h : (bif (zzcat as).ble q.2.2.1 then zzx (zzf P N d) N q.2.2.2.2.1 400 [] q.2.2.2.2.2 (lv_args 0 as) [] μ else none) = some rr := h
  cases hb : (zzcat as).ble q.2.2.1 with
  | false => rw [hb] at h; cases h
  | true =>
    rw [hb] at h
    have h : zzx (zzf P N d) N q.2.2.2.2.1 400 [] q.2.2.2.2.2 (lv_args 0 as) [] μ = some rr := h
    cases hrw : q.2.2.2.2.2 with
    | nil => rw [hrw] at hhd; cases hhd
    | cons r0 rs =>
      rw [hrw] at h hrows hseq hhd
      have hpc : r0.1 = 0 := Nat.eq_of_beq_eq_true hhd
      refine Met.ofW (cc := q.2.1) (maxL := q.2.2.1) (ret := q.2.2.2.1) hpl rfl ?_
      intro p e s m args below meth c s₁ B hml hv
      obtain ⟨rfl, hsz, hP, hK, hN⟩ := hv
      subst hsz
      have hts := atoms_spec (ws := Cond.code q.1 q.2.1 q.2.2.1 q.2.2.2.1 :: zzTb) B.pre
      have hX : zzX p s m (as.map (zzcv ad)).toArray meth c q.2.1 q.1.cls q.2.2.1 q.2.2.2.2.1 D dA ad (zzA ad s.heap.size) := ⟨B.exec, B.bytes, hml, findClass_of_methodNamed B.named, fun w hw => hts w (List.mem_cons_of_mem _ hw), hK, hN, hinj, fun _ h => h, B.notSynchronized, by rw [B.returns]; exact hrt⟩
      have key := zzx_ok (below := below) (e := e) (R := zzroom d) (P := P) (N := N) hX rfl hcl 400 [] r0 rs (lv_args 0 as) [] μ h hrows hseq (fun x hx => by cases hx)
      rw [hpc] at key
      rw [lg_entry_eq]
      have hl := lv_entry (as.map (zzcv ad)) (n := q.2.2.1) (by rw [zzsl_len]; exact Nat.le_of_ble_eq_true hb)
      rw [zzargs_map] at hl
      exact key s.heap [] _ hP va_S.rf hl
set_option maxHeartbeats 4000000 in
theorem zzf_ok (l : Launch) (D : va_G) (dA : Nat → ClassId) (ad : Nat → Nat) (hinj : zzinj ad) {P : List zzT} (hg : ∀ q ∈ P, zzmg P q) {N : Nat} : ∀ (d y : Nat) (as : List Value) (μ : zzM) (rr : zzR), zzf P N (d + 1) (y + 3) as μ = some rr → ∀ q, P[y]? = some q → zzMet l D dA ad d q as μ rr := by
  intro d
  induction d with
  | zero =>
    intro y as μ rr h q hq
    have hcl : zzCl l D dA ad P (zzroom 0) (zzf P N 0) := ⟨fun _ _ _ _ h => (by cases h), fun _ _ _ h => (by cases h), fun _ _ _ h => (by cases h), fun _ _ _ h => (by cases h)⟩
    exact zzf_one l D dA ad hinj hg hcl h hq
  | succ d ih =>
    intro y as μ rr h q hq
    have hcl : zzCl l D dA ad P (zzroom (d + 1)) (zzf P N (d + 1)) := ⟨fun y as μ o h q hq => ⟨d, rfl, ih y as μ o h q hq⟩, fun as μ o h => ⟨⟨d, rfl⟩, zzcopy_s h⟩, fun as μ o h => ⟨⟨d, rfl⟩, zzmi_s h⟩, fun as μ o h => ⟨⟨d, rfl⟩, zzml_s h⟩⟩
    exact zzf_one l D dA ad hinj hg hcl h hq
