/-! A METHOD of the small machine, over the machine: rows in a row, loops, calls -/
section
variable {p : Program} {l : Launch} {e : Env} {R : Room} {s : State} {m : MethodId} {args : Array Value} {below : List Frame} {meth : Method} {c : Code} {Q : State → Prop} {D : va_G} {dA : Nat → ClassId} {ad : Nat → Nat} {A : Nat → Prop} {nL rk : Nat} {cc : ByteArray} {own : String} {P : List zzT}
set_option maxHeartbeats 4000000 in
theorem zzstep_ok {rr : zzR} (hX : zzX p s m args meth c cc own nL rk D dA ad A) (hQ : Q = MQ below (zzQ D dA ad A rk rr) args s 0 0 A) {call : Nat → List Value → zzM → Option zzR} (hcall : zzCl l D dA ad P R call)
    {pc len : Nat} {aux : List (Nat × Nat)} {ls : zzL} {st : List Value} {μ : zzM} {next : zzL → List Value → zzM → Option zzR} {jump : Nat → List Value → Option zzR}
    (hn : ∀ ls' st' μ', next ls' st' μ' = some rr → zzW p l e R s m args below meth c Q D dA ad A nL (pc + len) ls' st' μ')
    (hj : ∀ t st', jump t st' = some rr → zzW p l e R s m args below meth c Q D dA ad A nL t ls st' μ) : ∀ (i : Instr), decode cc pc = .ok (i, len) → zzwd P own nL len pc i aux → zzstep call rk i aux ls st μ next jump = some rr → zzW p l e R s m args below meth c Q D dA ad A nL pc ls st μ := by
  intro i
  cases i with
  | iadd => exact fun hdg hw h => zs_iadd hX hQ hcall hdg hw h hn hj
  | isub => exact fun hdg hw h => zs_isub hX hQ hcall hdg hw h hn hj
  | imul => exact fun hdg hw h => zs_imul hX hQ hcall hdg hw h hn hj
  | iand => exact fun hdg hw h => zs_iand hX hQ hcall hdg hw h hn hj
  | ior => exact fun hdg hw h => zs_ior hX hQ hcall hdg hw h hn hj
  | ixor => exact fun hdg hw h => zs_ixor hX hQ hcall hdg hw h hn hj
  | ishl => exact fun hdg hw h => zs_ishl hX hQ hcall hdg hw h hn hj
  | ishr => exact fun hdg hw h => zs_ishr hX hQ hcall hdg hw h hn hj
  | iushr => exact fun hdg hw h => zs_iushr hX hQ hcall hdg hw h hn hj
  | idiv => exact fun hdg hw h => zs_idiv hX hQ hcall hdg hw h hn hj
  | irem => exact fun hdg hw h => zs_irem hX hQ hcall hdg hw h hn hj
  | ladd => exact fun hdg hw h => zs_ladd hX hQ hcall hdg hw h hn hj
  | lsub => exact fun hdg hw h => zs_lsub hX hQ hcall hdg hw h hn hj
  | lmul => exact fun hdg hw h => zs_lmul hX hQ hcall hdg hw h hn hj
  | land => exact fun hdg hw h => zs_land hX hQ hcall hdg hw h hn hj
  | lor => exact fun hdg hw h => zs_lor hX hQ hcall hdg hw h hn hj
  | lrem => exact fun hdg hw h => zs_lrem hX hQ hcall hdg hw h hn hj
  | lcmp => exact fun hdg hw h => zs_lcmp hX hQ hcall hdg hw h hn hj
  | lshl => exact fun hdg hw h => zs_lshl hX hQ hcall hdg hw h hn hj
  | lshr => exact fun hdg hw h => zs_lshr hX hQ hcall hdg hw h hn hj
  | i2l => exact fun hdg hw h => zs_i2l hX hQ hcall hdg hw h hn hj
  | l2i => exact fun hdg hw h => zs_l2i hX hQ hcall hdg hw h hn hj
  | i2b => exact fun hdg hw h => zs_i2b hX hQ hcall hdg hw h hn hj
  | iconst n => exact fun hdg hw h => zs_iconst hX hQ hcall hdg hw h hn hj
  | bipush n => exact fun hdg hw h => zs_bipush hX hQ hcall hdg hw h hn hj
  | sipush n => exact fun hdg hw h => zs_sipush hX hQ hcall hdg hw h hn hj
  | lconst n => exact fun hdg hw h => zs_lconst hX hQ hcall hdg hw h hn hj
  | ldc n => exact fun hdg hw h => zs_ldc hX hQ hcall hdg hw h hn hj
  | ldc_w n => exact fun hdg hw h => zs_ldc_w hX hQ hcall hdg hw h hn hj
  | ldc2_w n => exact fun hdg hw h => zs_ldc2_w hX hQ hcall hdg hw h hn hj
  | iload k => exact fun hdg hw h => zs_iload hX hQ hcall hdg hw h hn hj
  | iload_n k => exact fun hdg hw h => zs_iload_n hX hQ hcall hdg hw h hn hj
  | lload k => exact fun hdg hw h => zs_lload hX hQ hcall hdg hw h hn hj
  | lload_n k => exact fun hdg hw h => zs_lload_n hX hQ hcall hdg hw h hn hj
  | aload k => exact fun hdg hw h => zs_aload hX hQ hcall hdg hw h hn hj
  | aload_n k => exact fun hdg hw h => zs_aload_n hX hQ hcall hdg hw h hn hj
  | istore k => exact fun hdg hw h => zs_istore hX hQ hcall hdg hw h hn hj
  | istore_n k => exact fun hdg hw h => zs_istore_n hX hQ hcall hdg hw h hn hj
  | lstore k => exact fun hdg hw h => zs_lstore hX hQ hcall hdg hw h hn hj
  | lstore_n k => exact fun hdg hw h => zs_lstore_n hX hQ hcall hdg hw h hn hj
  | iinc k n => exact fun hdg hw h => zs_iinc hX hQ hcall hdg hw h hn hj
  | dup => exact fun hdg hw h => zs_dup hX hQ hcall hdg hw h hn hj
  | dup2 => exact fun hdg hw h => zs_dup2 hX hQ hcall hdg hw h hn hj
  | pop => exact fun hdg hw h => zs_pop hX hQ hcall hdg hw h hn hj
  | goto o => exact fun hdg hw h => zs_goto hX hQ hcall hdg hw h hn hj
  | tableswitch d lo hi os => exact fun hdg hw h => zs_tableswitch hX hQ hcall hdg hw h hn hj
  | lookupswitch d ps => exact fun hdg hw h => zs_lookupswitch hX hQ hcall hdg hw h hn hj
  | getfield j => exact fun hdg hw h => zs_getfield hX hQ hcall hdg hw h hn hj
  | putfield j => exact fun hdg hw h => zs_putfield hX hQ hcall hdg hw h hn hj
  | arraylength => exact fun hdg hw h => zs_arraylength hX hQ hcall hdg hw h hn hj
  | iaload => exact fun hdg hw h => zs_iaload hX hQ hcall hdg hw h hn hj
  | baload => exact fun hdg hw h => zs_baload hX hQ hcall hdg hw h hn hj
  | laload => exact fun hdg hw h => zs_laload hX hQ hcall hdg hw h hn hj
  | aaload => exact fun hdg hw h => zs_aaload hX hQ hcall hdg hw h hn hj
  | iastore => exact fun hdg hw h => zs_iastore hX hQ hcall hdg hw h hn hj
  | bastore => exact fun hdg hw h => zs_bastore hX hQ hcall hdg hw h hn hj
  | lastore => exact fun hdg hw h => zs_lastore hX hQ hcall hdg hw h hn hj
  | ireturn => exact fun hdg hw h => zs_ireturn hX hQ hcall hdg hw h hn hj
  | lreturn => exact fun hdg hw h => zs_lreturn hX hQ hcall hdg hw h hn hj
  | areturn => exact fun hdg hw h => zs_areturn hX hQ hcall hdg hw h hn hj
  | return_ => exact fun hdg hw h => zs_return_ hX hQ hcall hdg hw h hn hj
  | invokestatic j => exact fun hdg hw h => zs_invokestatic hX hQ hcall hdg hw h hn hj
  | invokevirtual j => exact fun hdg hw h => zs_invokevirtual hX hQ hcall hdg hw h hn hj
  | ifCond cd o =>
    cases cd with
    | eq => exact fun hdg hw h => zs_ifCond_eq hX hQ hcall hdg hw h hn hj
    | ne => exact fun hdg hw h => zs_ifCond_ne hX hQ hcall hdg hw h hn hj
    | lt => exact fun hdg hw h => zs_ifCond_lt hX hQ hcall hdg hw h hn hj
    | ge => exact fun hdg hw h => zs_ifCond_ge hX hQ hcall hdg hw h hn hj
    | gt => exact fun hdg hw h => zs_ifCond_gt hX hQ hcall hdg hw h hn hj
    | le => exact fun hdg hw h => zs_ifCond_le hX hQ hcall hdg hw h hn hj
  | if_icmp cd o =>
    cases cd with
    | eq => exact fun hdg hw h => zs_if_icmp_eq hX hQ hcall hdg hw h hn hj
    | ne => exact fun hdg hw h => zs_if_icmp_ne hX hQ hcall hdg hw h hn hj
    | lt => exact fun hdg hw h => zs_if_icmp_lt hX hQ hcall hdg hw h hn hj
    | ge => exact fun hdg hw h => zs_if_icmp_ge hX hQ hcall hdg hw h hn hj
    | gt => exact fun hdg hw h => zs_if_icmp_gt hX hQ hcall hdg hw h hn hj
    | le => exact fun hdg hw h => zs_if_icmp_le hX hQ hcall hdg hw h hn hj
  | _ => exact fun _ _ h => absurd (show (none : Option zzR) = some rr from h) (fun z => by cases z)
def zzrow (P : List zzT) (own : String) (nL : Nat) (cc : ByteArray) (q : zzI) : Prop := q.2.1 = 0 ∨ (decode cc q.1 = .ok (q.2.2.1, q.2.1) ∧ zzwd P own nL q.2.1 q.1 q.2.2.1 q.2.2.2)
def zzseq : List zzI → Bool
  | [] => true
  | [_] => true
  | q :: r :: t => r.1.beq (q.1 + q.2.1) && zzseq (r :: t)
theorem zzseq_tail {q : zzI} {r : List zzI} (h : zzseq (q :: r) = true) : zzseq r = true := by
  cases r with
  | nil => rfl
  | cons a t =>
    unfold zzseq at h
    exact (Bool.and_eq_true_iff.mp h).2
theorem zzseq_head {q a : zzI} {t : List zzI} (h : zzseq (q :: a :: t) = true) : a.1 = q.1 + q.2.1 := by
  unfold zzseq at h
  exact Nat.eq_of_beq_eq_true (Bool.and_eq_true_iff.mp h).1
theorem zzdrop_s (t : Nat) : ∀ (r : List zzI) (q : zzI) (r' : List zzI), zzdrop t r = q :: r' → q.1 = t ∧ (∀ x ∈ q :: r', x ∈ r) ∧ (zzseq r = true → zzseq (q :: r') = true)
  | [], _, _, h => by cases h
  | a :: r, q, r', h => by
    unfold zzdrop at h
    cases hb : a.1.beq t with
    | true =>
      rw [hb] at h
      have h : a :: r = q :: r' := h
      cases h
      exact ⟨Nat.eq_of_beq_eq_true hb, fun x hx => hx, fun h => h⟩
    | false =>
      rw [hb] at h
      obtain ⟨h1, h2, h3⟩ := zzdrop_s t r q r' h
      exact ⟨h1, fun x hx => List.mem_cons_of_mem _ (h2 x hx), fun h => h3 (zzseq_tail h)⟩
theorem zzfind_s (t : Nat) : ∀ (ctx : List (Nat × (zzL → zzM → Option zzR))) (k : zzL → zzM → Option zzR), zzfind t ctx = some k → (t, k) ∈ ctx
  | [], _, h => by cases h
  | q :: r, k, h => by
    unfold zzfind at h
    cases hb : q.1.beq t with
    | true =>
      rw [hb] at h
      have h1 : q.1 = t := Nat.eq_of_beq_eq_true hb
      have h2 : q.2 = k := Option.some.inj h
      rw [← h1, ← h2]
      exact List.mem_cons_self
    | false =>
      rw [hb] at h
      exact List.mem_cons_of_mem _ (zzfind_s t r k h)
theorem zzup_sub3 (i : Nat) (r : List (Nat × Nat)) (l0 ls : zzL) (v : List Int32 × List Int64) (ih : ∀ q ∈ zzup r l0 v.1 v.2, zzpk r l0 ls = some v → q ∈ ls) (h : (match zzlk l0 i, zzlk ls i with
    | some (.ref a), some (.ref b) => bif a.beq b then zzpk r l0 ls else none
    | _, _ => none) = some v) (q : Nat × Value) (hq : q ∈ (match zzlk l0 i with
    | some x => (i, x) :: zzup r l0 v.1 v.2
    | none => zzup r l0 v.1 v.2)) : q ∈ ls := by
  split at h
  · rename_i a b ha hb
    cases hab : a.beq b with
    | false => rw [hab] at h; cases h
    | true =>
      rw [hab] at h
      have hab := Nat.eq_of_beq_eq_true hab
      subst hab
      rw [ha] at hq
      rcases List.mem_cons.mp hq with hq | hq
      · subst hq; exact zzlk_mem hb
      · exact ih q hq h
  · cases h
theorem zzup_sub : ∀ (aux : List (Nat × Nat)) (l0 ls : zzL) (v : List Int32 × List Int64), zzpk aux l0 ls = some v → ∀ q ∈ zzup aux l0 v.1 v.2, q ∈ ls
  | [], _, _, _, _, q, hq => by cases hq
  | (i, 1) :: r, l0, ls, v, h, q, hq => by
    have h : (match zzlk ls i with
      | some (.int x) => (zzpk r l0 ls).bind fun v => some (x :: v.1, v.2)
      | _ => none) = some v := h
    split at h
    · rename_i x hx
      obtain ⟨v', h1, h2⟩ := Option.bind_eq_some_iff.mp h
      cases h2
      rcases List.mem_cons.mp hq with hq | hq
      · subst hq; exact zzlk_mem hx
      · exact zzup_sub r l0 ls v' h1 q hq
    · cases h
  | (i, 2) :: r, l0, ls, v, h, q, hq => by
    have h : (match zzlk ls i with
      | some (.long x) => (zzpk r l0 ls).bind fun v => some (v.1, x :: v.2)
      | _ => none) = some v := h
    split at h
    · rename_i x hx
      obtain ⟨v', h1, h2⟩ := Option.bind_eq_some_iff.mp h
      cases h2
      rcases List.mem_cons.mp hq with hq | hq
      · subst hq; exact zzlk_mem hx
      · exact zzup_sub r l0 ls v' h1 q hq
    · cases h
  | (i, 0) :: r, l0, ls, v, h, q, hq => zzup_sub3 i r l0 ls v (fun q hq h => zzup_sub r l0 ls v h q hq) h q hq
  | (i, k + 3) :: r, l0, ls, v, h, q, hq => zzup_sub3 i r l0 ls v (fun q hq h => zzup_sub r l0 ls v h q hq) h q hq
theorem zzW_sub {pc : Nat} {ls ls' : zzL} {st : List Value} {μ : zzM} (hs : ∀ q ∈ ls', q ∈ ls) (h : zzW p l e R s m args below meth c Q D dA ad A nL pc ls' st μ) : zzW p l e R s m args below meth c Q D dA ad A nL pc ls st μ := by
  intro H locs lc hP hS hl
  refine h H locs lc hP hS ⟨hl.1, hl.2.1, fun q hq => hl.2.2 q ?_⟩
  obtain ⟨x, hx, rfl⟩ := List.mem_map.mp hq
  exact List.mem_map.mpr ⟨x, hs x hx, rfl⟩
set_option maxHeartbeats 4000000 in
theorem zzx_ok {rr : zzR} {N : Nat} (hX : zzX p s m args meth c cc own nL rk D dA ad A) (hQ : Q = MQ below (zzQ D dA ad A rk rr) args s 0 0 A) {call : Nat → List Value → zzM → Option zzR} (hcall : zzCl l D dA ad P R call) : ∀ (f : Nat) (ctx : List (Nat × (zzL → zzM → Option zzR))) (q : zzI) (is : List zzI) (ls : zzL) (st : List Value) (μ : zzM), zzx call N rk f ctx (q :: is) ls st μ = some rr → (∀ x ∈ q :: is, zzrow P own nL cc x) → zzseq (q :: is) = true →
    (∀ x ∈ ctx, ∀ ls' μ', x.2 ls' μ' = some rr → zzW p l e R s m args below meth c Q D dA ad A nL x.1 ls' [] μ') → zzW p l e R s m args below meth c Q D dA ad A nL q.1 ls st μ := by
  intro f
  induction f with
  | zero => intro ctx q is ls st μ h; cases h
  | succ f ih =>
    intro ctx q is ls st μ h hr hs hc
    obtain ⟨pc, len, i, aux⟩ := q
    -- the rest of the code, with any open loops
    have go : ∀ (ctx' : List (Nat × (zzL → zzM → Option zzR))) (ls' : zzL) (st' : List Value) (μ' : zzM), zzx call N rk f ctx' is ls' st' μ' = some rr → (∀ x ∈ ctx', ∀ ls' μ', x.2 ls' μ' = some rr → zzW p l e R s m args below meth c Q D dA ad A nL x.1 ls' [] μ') → zzW p l e R s m args below meth c Q D dA ad A nL (pc + len) ls' st' μ' := by
      intro ctx' ls' st' μ' h' hc'
      cases his : is with
      | nil => rw [his] at h'; cases f <;> cases h'
      | cons a t =>
        subst his
        have := ih ctx' a t ls' st' μ' h' (fun x hx => hr x (List.mem_cons_of_mem _ hx)) (zzseq_tail hs) hc'
        rw [zzseq_head hs] at this
        exact this
    cases len with
    | zero =>
      have h : (match st with
        | [] => zzlp (zzpk aux ls ls) fun v0 => zzl (fun v again => zzx call N rk f ((pc, fun ls' μ' => (zzpk aux ls ls').bind fun v' => again (v'.1, v'.2, μ')) :: ctx) is (zzup aux ls v.1 v.2.1) [] v.2.2) N (v0.1, v0.2, μ)
        | _ => none) = some rr := by
        cases st <;> exact h
      cases st with
      | cons a t => cases h
      | nil =>
        obtain ⟨v0, hv0, h⟩ := zzlp_s h
        have lp : ∀ (n : Nat) (v : zzS), zzl (fun v again => zzx call N rk f ((pc, fun ls' μ' => (zzpk aux ls ls').bind fun v' => again (v'.1, v'.2, μ')) :: ctx) is (zzup aux ls v.1 v.2.1) [] v.2.2) n v = some rr → zzW p l e R s m args below meth c Q D dA ad A nL pc (zzup aux ls v.1 v.2.1) [] v.2.2 := by
          intro n
          induction n with
          | zero => intro v hv; cases hv
          | succ n ihn =>
            intro v hv
            refine go _ _ _ _ hv ?_
            intro x hx ls' μ' hk
            rcases List.mem_cons.mp hx with rfl | hx
            · obtain ⟨v', hv', hk⟩ := Option.bind_eq_some_iff.mp hk
              exact zzW_sub (zzup_sub aux ls ls' v' hv') (ihn (v'.1, v'.2, μ') hk)
            · exact hc x hx ls' μ' hk
        exact zzW_sub (zzup_sub aux ls ls v0 hv0) (lp N (v0.1, v0.2, μ) h)
    | succ len =>
      rcases hr _ List.mem_cons_self with h0 | ⟨hdg, hw⟩
      · cases h0
      · refine zzstep_ok (aux := aux) (next := fun ls st μ => zzx call N rk f ctx is ls st μ) (jump := fun t st => match zzfind t ctx with
          | some k => (match st with
            | [] => k ls μ
            | _ => none)
          | none => zzx call N rk f ctx (zzdrop t is) ls st μ) hX hQ hcall (fun ls' st' μ' h' => go ctx ls' st' μ' h' hc) (fun t st' h' => ?_) i hdg hw h
        cases hf : zzfind t ctx with
        | some k =>
          simp only [hf] at h'
          cases st' with
          | cons a b => cases h'
          | nil => exact hc (t, k) (zzfind_s t ctx k hf) ls μ h'
        | none =>
          simp only [hf] at h'
          cases hd : zzdrop t is with
          | nil => rw [hd] at h'; cases f <;> cases h'
          | cons a b =>
            rw [hd] at h'
            obtain ⟨h1, h2, h3⟩ := zzdrop_s t is a b hd
            have := ih ctx a b ls st' μ h' (fun x hx => hr x (List.mem_cons_of_mem _ (h2 x hx))) (h3 (zzseq_tail hs)) hc
            rw [h1] at this
            exact this
end
