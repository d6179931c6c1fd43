/-! ONE INSTRUCTION of the small machine, over the machine -/
theorem zzsw_tab {pc : Nat} {x : Int32} {jump : Nat → Option zzR} {d : Nat} {rr : zzR} : ∀ (os : List Int) (qs : List (Nat × Nat)) (lo : Nat), zztab pc lo os qs = true → zzsw x jump d qs = some rr →
    (∃ (j : Nat) (o : Int) (t : Nat), x = nI (lo + j) ∧ os[j]? = some o ∧ (pc : Int) + o = (t : Int) ∧ jump t = some rr) ∨ ((∀ j, j < os.length → x ≠ nI (lo + j)) ∧ jump d = some rr)
  | [], [], lo, _, h => Or.inr ⟨fun j hj => absurd hj (Nat.not_lt_zero _), h⟩
  | [], _ :: _, _, ht, _ => by cases ht
  | _ :: _, [], _, ht, _ => by cases ht
  | o :: os, q :: qs, lo, ht, h => by
    unfold zztab at ht
    simp only [Bool.and_eq_true, decide_eq_true_eq] at ht
    obtain ⟨⟨h1, h2⟩, h3⟩ := ht
    have h1 := Nat.eq_of_beq_eq_true h1
    unfold zzsw at h
    split at h
    · rename_i hx
      exact Or.inl ⟨0, o, q.2, by rw [hx, h1]; rfl, rfl, h2, h⟩
    · rename_i hx
      rcases zzsw_tab os qs (lo + 1) h3 h with ⟨j, o', t, a, b, c, g⟩ | ⟨a, b⟩
      · exact Or.inl ⟨j + 1, o', t, by rw [a]; congr 1; omega, b, c, g⟩
      · refine Or.inr ⟨fun j hj => ?_, b⟩
        cases j with
        | zero => rw [Nat.add_zero, ← h1]; exact hx
        | succ j =>
          have := a j (by simpa using hj)
          rw [show lo + (j + 1) = lo + 1 + j by omega]
          exact this
theorem zzsw_lkp {pc : Nat} {x : Int32} {jump : Nat → Option zzR} {d : Nat} {dd : Int} {rr : zzR} (hd : (pc : Int) + dd = (d : Int)) : ∀ (ps : List (Int × Int)) (qs : List (Nat × Nat)), zzlkp pc ps qs = true → zzsw x jump d qs = some rr →
    ∃ (t : Nat), (pc : Int) + Op.lookupswitch.offset ps dd x.toInt = (t : Int) ∧ jump t = some rr
  | [], [], _, h => ⟨d, hd, h⟩
  | [], _ :: _, ht, _ => by cases ht
  | _ :: _, [], ht, _ => by cases ht
  | a :: ps, q :: qs, ht, h => by
    unfold zzlkp at ht
    simp only [Bool.and_eq_true, decide_eq_true_eq] at ht
    obtain ⟨⟨⟨h1, h2⟩, h3⟩, h4⟩ := ht
    unfold zzsw at h
    rw [Op.lookupswitch.offset_cons]
    split at h
    · rename_i hx
      refine ⟨q.2, ?_, h⟩
      rw [if_pos (by rw [hx, h2, h1])]
      exact h3
    · rename_i hx
      rw [if_neg (fun g => hx (Int32.toInt_inj.mp (by rw [← g, h1, h2])))]
      exact zzsw_lkp hd ps qs h4 h
theorem zzsr_s {i : Int32} {f : Nat → Option zzR} {rr : zzR} : ∀ (ts : List Nat) (k : Nat), zzsr i f k ts = some rr → ∃ (j t : Nat), i = nI (k + j) ∧ ts[j]? = some t ∧ f t = some rr
  | [], _, h => by cases h
  | t :: ts, k, h => by
    unfold zzsr at h
    split at h
    · rename_i hx
      exact ⟨0, t, hx, rfl, h⟩
    · obtain ⟨j, t', a, b, g⟩ := zzsr_s ts (k + 1) h
      exact ⟨j + 1, t', by rw [a]; congr 1; omega, b, g⟩
/-- a call that is no copy: at one room more -/
def zzCl (l : Launch) (D : va_G) (dA : Nat → ClassId) (ad : Nat → Nat) (P : List zzT) (R : Room) (call : Nat → List Value → zzM → Option zzR) : Prop :=
  (∀ y as μ o, call (y + 3) as μ = some o → ∀ q, P[y]? = some q → ∃ d, R = zzroom (d + 1) ∧ zzMet l D dA ad d q as μ o) ∧
  (∀ as μ o, call 0 as μ = some o → (∃ d, R = zzroom (d + 1)) ∧ ∃ (a b n0 n1 : Nat) (t0 t1 : List Nat) (sp dp n : Int32) (μ' : zzM), as = [.ref a, .int sp, .ref b, .int dp, .int n] ∧ zzcells[a]? = some (.inr (0, n0, t0)) ∧ zzcells[b]? = some (.inr (0, n1, t1)) ∧ zzcp μ a n0 sp b n1 dp n = some μ' ∧ o = ((0, 0, 0), μ')) ∧
  (∀ as μ o, call 1 as μ = some o → (∃ d, R = zzroom (d + 1)) ∧ ∃ (a b : Int32), as = [.int a, .int b] ∧ o = ((if b < a then b else a, 0, 0), μ)) ∧
  ∀ as μ o, call 2 as μ = some o → (∃ d, R = zzroom (d + 1)) ∧ ∃ (a b : Int64), as = [.long a, .long b] ∧ o = ((0, if b < a then b else a, 0), μ)
section
variable {p : Program} {l : Launch} {e : Env} {R : Room} {s : State} {m : MethodId} {args : Array Value} {below : List Frame} {meth : Method} {c : Code} {Q : State → Prop} {D : va_G} {dA : Nat → ClassId} {ad : Nat → Nat} {A : Nat → Prop} {nL rk : Nat} {cc : ByteArray} {own : String} {P : List zzT}
theorem zzcp_cell {μ μ' : zzM} {a b n0 n1 : Nat} {sp dp n : Int32} (h : zzcp μ a n0 sp b n1 dp n = some μ') : (¬ sp < 0 ∧ ¬ dp < 0 ∧ ¬ n < 0 ∧ sp.toNatClampNeg + n.toNatClampNeg ≤ n0 ∧ dp.toNatClampNeg + n.toNatClampNeg ≤ n1) ∧ μ'.1 b = va_cpy (μ.1 a) (μ.1 b) sp.toNatClampNeg dp.toNatClampNeg n.toNatClampNeg ∧ (∀ j, j ≠ b → μ'.1 j = μ.1 j) ∧ μ'.2 = μ.2 := by
  unfold zzcp at h
  split at h
  · cases h
  · rename_i hc
    have h := (Option.some.inj h).symm
    subst h
    refine ⟨⟨fun z => hc (Or.inl z), fun z => hc (Or.inr (Or.inl z)), fun z => hc (Or.inr (Or.inr (Or.inl z))), Nat.not_lt.mp fun z => hc (Or.inr (Or.inr (Or.inr (Or.inl z)))), Nat.not_lt.mp fun z => hc (Or.inr (Or.inr (Or.inr (Or.inr z))))⟩, ?_, fun j hj => ?_, rfl⟩
    · funext x; show (if b = b then _ else _) = _; rw [if_pos rfl]
    · funext x; show (if j = b then _ else _) = _; rw [if_neg hj]
set_option maxHeartbeats 400000 in
set_option maxRecDepth 20000 in
theorem zs_iadd {rr : zzR} (hX : zzX p s m args meth c cc own nL rk D dA ad A) (hQ : Q = MQ below (zzQ D dA ad A rk rr) args s 0 0 A) {call : Nat → List Value → zzM → Option zzR} (hcall : zzCl l D dA ad P R call)
    {pc len : Nat} {aux : List (Nat × Nat)} (hdg : decode cc pc = .ok (.iadd, len)) (hw : zzwd P own nL len pc (.iadd) aux) {ls : zzL} {st : List Value} {μ : zzM} {next : zzL → List Value → zzM → Option zzR} {jump : Nat → List Value → Option zzR}
    (h : zzstep call rk (.iadd) aux ls st μ next jump = some rr)
    (hn : ∀ ls' st' μ', next ls' st' μ' = some rr → zzW p l e R s m args below meth c Q D dA ad A nL (pc + len) ls' st' μ')
    (hj : ∀ t st', jump t st' = some rr → zzW p l e R s m args below meth c Q D dA ad A nL t ls st' μ) : zzW p l e R s m args below meth c Q D dA ad A nL pc ls st μ := by
  intro H locs lc hP hS hl
  obtain ⟨hx, hb, hml, hown, hts, hK, hnw, hinj, hA, hlocks, hrt⟩ := hX
  have hD : ∀ μ, va_D A (zzworld dA ad μ) := fun μ => zzD_of hinj (fun i hi => hA _ (Or.inl ⟨i, hi, rfl⟩))
  obtain ⟨x, y, r, he9, h9⟩ := zzp2_s h
  clear h
  subst he9
  have h := h9
  clear h9
  try dsimp only at h
  cases hw
  exact lv_iadd hx hb hdg (hn _ _ _ h H locs lc hP hS hl)
set_option maxHeartbeats 400000 in
set_option maxRecDepth 20000 in
theorem zs_isub {rr : zzR} (hX : zzX p s m args meth c cc own nL rk D dA ad A) (hQ : Q = MQ below (zzQ D dA ad A rk rr) args s 0 0 A) {call : Nat → List Value → zzM → Option zzR} (hcall : zzCl l D dA ad P R call)
    {pc len : Nat} {aux : List (Nat × Nat)} (hdg : decode cc pc = .ok (.isub, len)) (hw : zzwd P own nL len pc (.isub) aux) {ls : zzL} {st : List Value} {μ : zzM} {next : zzL → List Value → zzM → Option zzR} {jump : Nat → List Value → Option zzR}
    (h : zzstep call rk (.isub) aux ls st μ next jump = some rr)
    (hn : ∀ ls' st' μ', next ls' st' μ' = some rr → zzW p l e R s m args below meth c Q D dA ad A nL (pc + len) ls' st' μ')
    (hj : ∀ t st', jump t st' = some rr → zzW p l e R s m args below meth c Q D dA ad A nL t ls st' μ) : zzW p l e R s m args below meth c Q D dA ad A nL pc ls st μ := by
  intro H locs lc hP hS hl
  obtain ⟨hx, hb, hml, hown, hts, hK, hnw, hinj, hA, hlocks, hrt⟩ := hX
  have hD : ∀ μ, va_D A (zzworld dA ad μ) := fun μ => zzD_of hinj (fun i hi => hA _ (Or.inl ⟨i, hi, rfl⟩))
  obtain ⟨x, y, r, he9, h9⟩ := zzp2_s h
  clear h
  subst he9
  have h := h9
  clear h9
  try dsimp only at h
  cases hw
  exact lv_isub hx hb hdg (hn _ _ _ h H locs lc hP hS hl)
set_option maxHeartbeats 400000 in
set_option maxRecDepth 20000 in
theorem zs_imul {rr : zzR} (hX : zzX p s m args meth c cc own nL rk D dA ad A) (hQ : Q = MQ below (zzQ D dA ad A rk rr) args s 0 0 A) {call : Nat → List Value → zzM → Option zzR} (hcall : zzCl l D dA ad P R call)
    {pc len : Nat} {aux : List (Nat × Nat)} (hdg : decode cc pc = .ok (.imul, len)) (hw : zzwd P own nL len pc (.imul) aux) {ls : zzL} {st : List Value} {μ : zzM} {next : zzL → List Value → zzM → Option zzR} {jump : Nat → List Value → Option zzR}
    (h : zzstep call rk (.imul) aux ls st μ next jump = some rr)
    (hn : ∀ ls' st' μ', next ls' st' μ' = some rr → zzW p l e R s m args below meth c Q D dA ad A nL (pc + len) ls' st' μ')
    (hj : ∀ t st', jump t st' = some rr → zzW p l e R s m args below meth c Q D dA ad A nL t ls st' μ) : zzW p l e R s m args below meth c Q D dA ad A nL pc ls st μ := by
  intro H locs lc hP hS hl
  obtain ⟨hx, hb, hml, hown, hts, hK, hnw, hinj, hA, hlocks, hrt⟩ := hX
  have hD : ∀ μ, va_D A (zzworld dA ad μ) := fun μ => zzD_of hinj (fun i hi => hA _ (Or.inl ⟨i, hi, rfl⟩))
  obtain ⟨x, y, r, he9, h9⟩ := zzp2_s h
  clear h
  subst he9
  have h := h9
  clear h9
  try dsimp only at h
  cases hw
  exact lv_imul hx hb hdg (hn _ _ _ h H locs lc hP hS hl)
set_option maxHeartbeats 400000 in
set_option maxRecDepth 20000 in
theorem zs_iand {rr : zzR} (hX : zzX p s m args meth c cc own nL rk D dA ad A) (hQ : Q = MQ below (zzQ D dA ad A rk rr) args s 0 0 A) {call : Nat → List Value → zzM → Option zzR} (hcall : zzCl l D dA ad P R call)
    {pc len : Nat} {aux : List (Nat × Nat)} (hdg : decode cc pc = .ok (.iand, len)) (hw : zzwd P own nL len pc (.iand) aux) {ls : zzL} {st : List Value} {μ : zzM} {next : zzL → List Value → zzM → Option zzR} {jump : Nat → List Value → Option zzR}
    (h : zzstep call rk (.iand) aux ls st μ next jump = some rr)
    (hn : ∀ ls' st' μ', next ls' st' μ' = some rr → zzW p l e R s m args below meth c Q D dA ad A nL (pc + len) ls' st' μ')
    (hj : ∀ t st', jump t st' = some rr → zzW p l e R s m args below meth c Q D dA ad A nL t ls st' μ) : zzW p l e R s m args below meth c Q D dA ad A nL pc ls st μ := by
  intro H locs lc hP hS hl
  obtain ⟨hx, hb, hml, hown, hts, hK, hnw, hinj, hA, hlocks, hrt⟩ := hX
  have hD : ∀ μ, va_D A (zzworld dA ad μ) := fun μ => zzD_of hinj (fun i hi => hA _ (Or.inl ⟨i, hi, rfl⟩))
  obtain ⟨x, y, r, he9, h9⟩ := zzp2_s h
  clear h
  subst he9
  have h := h9
  clear h9
  try dsimp only at h
  cases hw
  exact lv_iand hx hb hdg (hn _ _ _ h H locs lc hP hS hl)
set_option maxHeartbeats 400000 in
set_option maxRecDepth 20000 in
theorem zs_ior {rr : zzR} (hX : zzX p s m args meth c cc own nL rk D dA ad A) (hQ : Q = MQ below (zzQ D dA ad A rk rr) args s 0 0 A) {call : Nat → List Value → zzM → Option zzR} (hcall : zzCl l D dA ad P R call)
    {pc len : Nat} {aux : List (Nat × Nat)} (hdg : decode cc pc = .ok (.ior, len)) (hw : zzwd P own nL len pc (.ior) aux) {ls : zzL} {st : List Value} {μ : zzM} {next : zzL → List Value → zzM → Option zzR} {jump : Nat → List Value → Option zzR}
    (h : zzstep call rk (.ior) aux ls st μ next jump = some rr)
    (hn : ∀ ls' st' μ', next ls' st' μ' = some rr → zzW p l e R s m args below meth c Q D dA ad A nL (pc + len) ls' st' μ')
    (hj : ∀ t st', jump t st' = some rr → zzW p l e R s m args below meth c Q D dA ad A nL t ls st' μ) : zzW p l e R s m args below meth c Q D dA ad A nL pc ls st μ := by
  intro H locs lc hP hS hl
  obtain ⟨hx, hb, hml, hown, hts, hK, hnw, hinj, hA, hlocks, hrt⟩ := hX
  have hD : ∀ μ, va_D A (zzworld dA ad μ) := fun μ => zzD_of hinj (fun i hi => hA _ (Or.inl ⟨i, hi, rfl⟩))
  obtain ⟨x, y, r, he9, h9⟩ := zzp2_s h
  clear h
  subst he9
  have h := h9
  clear h9
  try dsimp only at h
  cases hw
  exact lv_ior hx hb hdg (hn _ _ _ h H locs lc hP hS hl)
set_option maxHeartbeats 400000 in
set_option maxRecDepth 20000 in
theorem zs_ixor {rr : zzR} (hX : zzX p s m args meth c cc own nL rk D dA ad A) (hQ : Q = MQ below (zzQ D dA ad A rk rr) args s 0 0 A) {call : Nat → List Value → zzM → Option zzR} (hcall : zzCl l D dA ad P R call)
    {pc len : Nat} {aux : List (Nat × Nat)} (hdg : decode cc pc = .ok (.ixor, len)) (hw : zzwd P own nL len pc (.ixor) aux) {ls : zzL} {st : List Value} {μ : zzM} {next : zzL → List Value → zzM → Option zzR} {jump : Nat → List Value → Option zzR}
    (h : zzstep call rk (.ixor) aux ls st μ next jump = some rr)
    (hn : ∀ ls' st' μ', next ls' st' μ' = some rr → zzW p l e R s m args below meth c Q D dA ad A nL (pc + len) ls' st' μ')
    (hj : ∀ t st', jump t st' = some rr → zzW p l e R s m args below meth c Q D dA ad A nL t ls st' μ) : zzW p l e R s m args below meth c Q D dA ad A nL pc ls st μ := by
  intro H locs lc hP hS hl
  obtain ⟨hx, hb, hml, hown, hts, hK, hnw, hinj, hA, hlocks, hrt⟩ := hX
  have hD : ∀ μ, va_D A (zzworld dA ad μ) := fun μ => zzD_of hinj (fun i hi => hA _ (Or.inl ⟨i, hi, rfl⟩))
  obtain ⟨x, y, r, he9, h9⟩ := zzp2_s h
  clear h
  subst he9
  have h := h9
  clear h9
  try dsimp only at h
  cases hw
  exact lv_ixor hx hb hdg (hn _ _ _ h H locs lc hP hS hl)
set_option maxHeartbeats 400000 in
set_option maxRecDepth 20000 in
theorem zs_ishl {rr : zzR} (hX : zzX p s m args meth c cc own nL rk D dA ad A) (hQ : Q = MQ below (zzQ D dA ad A rk rr) args s 0 0 A) {call : Nat → List Value → zzM → Option zzR} (hcall : zzCl l D dA ad P R call)
    {pc len : Nat} {aux : List (Nat × Nat)} (hdg : decode cc pc = .ok (.ishl, len)) (hw : zzwd P own nL len pc (.ishl) aux) {ls : zzL} {st : List Value} {μ : zzM} {next : zzL → List Value → zzM → Option zzR} {jump : Nat → List Value → Option zzR}
    (h : zzstep call rk (.ishl) aux ls st μ next jump = some rr)
    (hn : ∀ ls' st' μ', next ls' st' μ' = some rr → zzW p l e R s m args below meth c Q D dA ad A nL (pc + len) ls' st' μ')
    (hj : ∀ t st', jump t st' = some rr → zzW p l e R s m args below meth c Q D dA ad A nL t ls st' μ) : zzW p l e R s m args below meth c Q D dA ad A nL pc ls st μ := by
  intro H locs lc hP hS hl
  obtain ⟨hx, hb, hml, hown, hts, hK, hnw, hinj, hA, hlocks, hrt⟩ := hX
  have hD : ∀ μ, va_D A (zzworld dA ad μ) := fun μ => zzD_of hinj (fun i hi => hA _ (Or.inl ⟨i, hi, rfl⟩))
  obtain ⟨x, y, r, he9, h9⟩ := zzp2_s h
  clear h
  subst he9
  have h := h9
  clear h9
  try dsimp only at h
  cases hw
  exact lv_ishl hx hb hdg (hn _ _ _ h H locs lc hP hS hl)
set_option maxHeartbeats 400000 in
set_option maxRecDepth 20000 in
theorem zs_ishr {rr : zzR} (hX : zzX p s m args meth c cc own nL rk D dA ad A) (hQ : Q = MQ below (zzQ D dA ad A rk rr) args s 0 0 A) {call : Nat → List Value → zzM → Option zzR} (hcall : zzCl l D dA ad P R call)
    {pc len : Nat} {aux : List (Nat × Nat)} (hdg : decode cc pc = .ok (.ishr, len)) (hw : zzwd P own nL len pc (.ishr) aux) {ls : zzL} {st : List Value} {μ : zzM} {next : zzL → List Value → zzM → Option zzR} {jump : Nat → List Value → Option zzR}
    (h : zzstep call rk (.ishr) aux ls st μ next jump = some rr)
    (hn : ∀ ls' st' μ', next ls' st' μ' = some rr → zzW p l e R s m args below meth c Q D dA ad A nL (pc + len) ls' st' μ')
    (hj : ∀ t st', jump t st' = some rr → zzW p l e R s m args below meth c Q D dA ad A nL t ls st' μ) : zzW p l e R s m args below meth c Q D dA ad A nL pc ls st μ := by
  intro H locs lc hP hS hl
  obtain ⟨hx, hb, hml, hown, hts, hK, hnw, hinj, hA, hlocks, hrt⟩ := hX
  have hD : ∀ μ, va_D A (zzworld dA ad μ) := fun μ => zzD_of hinj (fun i hi => hA _ (Or.inl ⟨i, hi, rfl⟩))
  obtain ⟨x, y, r, he9, h9⟩ := zzp2_s h
  clear h
  subst he9
  have h := h9
  clear h9
  try dsimp only at h
  cases hw
  exact lv_ishr hx hb hdg (hn _ _ _ h H locs lc hP hS hl)
set_option maxHeartbeats 400000 in
set_option maxRecDepth 20000 in
theorem zs_iushr {rr : zzR} (hX : zzX p s m args meth c cc own nL rk D dA ad A) (hQ : Q = MQ below (zzQ D dA ad A rk rr) args s 0 0 A) {call : Nat → List Value → zzM → Option zzR} (hcall : zzCl l D dA ad P R call)
    {pc len : Nat} {aux : List (Nat × Nat)} (hdg : decode cc pc = .ok (.iushr, len)) (hw : zzwd P own nL len pc (.iushr) aux) {ls : zzL} {st : List Value} {μ : zzM} {next : zzL → List Value → zzM → Option zzR} {jump : Nat → List Value → Option zzR}
    (h : zzstep call rk (.iushr) aux ls st μ next jump = some rr)
    (hn : ∀ ls' st' μ', next ls' st' μ' = some rr → zzW p l e R s m args below meth c Q D dA ad A nL (pc + len) ls' st' μ')
    (hj : ∀ t st', jump t st' = some rr → zzW p l e R s m args below meth c Q D dA ad A nL t ls st' μ) : zzW p l e R s m args below meth c Q D dA ad A nL pc ls st μ := by
  intro H locs lc hP hS hl
  obtain ⟨hx, hb, hml, hown, hts, hK, hnw, hinj, hA, hlocks, hrt⟩ := hX
  have hD : ∀ μ, va_D A (zzworld dA ad μ) := fun μ => zzD_of hinj (fun i hi => hA _ (Or.inl ⟨i, hi, rfl⟩))
  obtain ⟨x, y, r, he9, h9⟩ := zzp2_s h
  clear h
  subst he9
  have h := h9
  clear h9
  try dsimp only at h
  cases hw
  exact lv_iushr hx hb hdg rfl (hn _ _ _ h H locs lc hP hS hl)
set_option maxHeartbeats 400000 in
set_option maxRecDepth 20000 in
theorem zs_idiv {rr : zzR} (hX : zzX p s m args meth c cc own nL rk D dA ad A) (hQ : Q = MQ below (zzQ D dA ad A rk rr) args s 0 0 A) {call : Nat → List Value → zzM → Option zzR} (hcall : zzCl l D dA ad P R call)
    {pc len : Nat} {aux : List (Nat × Nat)} (hdg : decode cc pc = .ok (.idiv, len)) (hw : zzwd P own nL len pc (.idiv) aux) {ls : zzL} {st : List Value} {μ : zzM} {next : zzL → List Value → zzM → Option zzR} {jump : Nat → List Value → Option zzR}
    (h : zzstep call rk (.idiv) aux ls st μ next jump = some rr)
    (hn : ∀ ls' st' μ', next ls' st' μ' = some rr → zzW p l e R s m args below meth c Q D dA ad A nL (pc + len) ls' st' μ')
    (hj : ∀ t st', jump t st' = some rr → zzW p l e R s m args below meth c Q D dA ad A nL t ls st' μ) : zzW p l e R s m args below meth c Q D dA ad A nL pc ls st μ := by
  intro H locs lc hP hS hl
  obtain ⟨hx, hb, hml, hown, hts, hK, hnw, hinj, hA, hlocks, hrt⟩ := hX
  have hD : ∀ μ, va_D A (zzworld dA ad μ) := fun μ => zzD_of hinj (fun i hi => hA _ (Or.inl ⟨i, hi, rfl⟩))
  obtain ⟨x, y, r, he9, h9⟩ := zzp2_s h
  clear h
  subst he9
  have h := h9
  clear h9
  try dsimp only at h
  cases hw
  split at h
  · cases h
  · rename_i hne
    exact lv_idiv hx hb hdg hne (hn _ _ _ h H locs lc hP hS hl)
set_option maxHeartbeats 400000 in
set_option maxRecDepth 20000 in
theorem zs_irem {rr : zzR} (hX : zzX p s m args meth c cc own nL rk D dA ad A) (hQ : Q = MQ below (zzQ D dA ad A rk rr) args s 0 0 A) {call : Nat → List Value → zzM → Option zzR} (hcall : zzCl l D dA ad P R call)
    {pc len : Nat} {aux : List (Nat × Nat)} (hdg : decode cc pc = .ok (.irem, len)) (hw : zzwd P own nL len pc (.irem) aux) {ls : zzL} {st : List Value} {μ : zzM} {next : zzL → List Value → zzM → Option zzR} {jump : Nat → List Value → Option zzR}
    (h : zzstep call rk (.irem) aux ls st μ next jump = some rr)
    (hn : ∀ ls' st' μ', next ls' st' μ' = some rr → zzW p l e R s m args below meth c Q D dA ad A nL (pc + len) ls' st' μ')
    (hj : ∀ t st', jump t st' = some rr → zzW p l e R s m args below meth c Q D dA ad A nL t ls st' μ) : zzW p l e R s m args below meth c Q D dA ad A nL pc ls st μ := by
  intro H locs lc hP hS hl
  obtain ⟨hx, hb, hml, hown, hts, hK, hnw, hinj, hA, hlocks, hrt⟩ := hX
  have hD : ∀ μ, va_D A (zzworld dA ad μ) := fun μ => zzD_of hinj (fun i hi => hA _ (Or.inl ⟨i, hi, rfl⟩))
  obtain ⟨x, y, r, he9, h9⟩ := zzp2_s h
  clear h
  subst he9
  have h := h9
  clear h9
  try dsimp only at h
  cases hw
  split at h
  · cases h
  · rename_i hne
    exact lv_irem hx hb hdg hne (hn _ _ _ h H locs lc hP hS hl)
set_option maxHeartbeats 400000 in
set_option maxRecDepth 20000 in
theorem zs_ladd {rr : zzR} (hX : zzX p s m args meth c cc own nL rk D dA ad A) (hQ : Q = MQ below (zzQ D dA ad A rk rr) args s 0 0 A) {call : Nat → List Value → zzM → Option zzR} (hcall : zzCl l D dA ad P R call)
    {pc len : Nat} {aux : List (Nat × Nat)} (hdg : decode cc pc = .ok (.ladd, len)) (hw : zzwd P own nL len pc (.ladd) aux) {ls : zzL} {st : List Value} {μ : zzM} {next : zzL → List Value → zzM → Option zzR} {jump : Nat → List Value → Option zzR}
    (h : zzstep call rk (.ladd) aux ls st μ next jump = some rr)
    (hn : ∀ ls' st' μ', next ls' st' μ' = some rr → zzW p l e R s m args below meth c Q D dA ad A nL (pc + len) ls' st' μ')
    (hj : ∀ t st', jump t st' = some rr → zzW p l e R s m args below meth c Q D dA ad A nL t ls st' μ) : zzW p l e R s m args below meth c Q D dA ad A nL pc ls st μ := by
  intro H locs lc hP hS hl
  obtain ⟨hx, hb, hml, hown, hts, hK, hnw, hinj, hA, hlocks, hrt⟩ := hX
  have hD : ∀ μ, va_D A (zzworld dA ad μ) := fun μ => zzD_of hinj (fun i hi => hA _ (Or.inl ⟨i, hi, rfl⟩))
  obtain ⟨x, y, r, he9, h9⟩ := zzq2_s h
  clear h
  subst he9
  have h := h9
  clear h9
  try dsimp only at h
  cases hw
  exact lv_ladd hx hb hdg (hn _ _ _ h H locs lc hP hS hl)
set_option maxHeartbeats 400000 in
set_option maxRecDepth 20000 in
theorem zs_lsub {rr : zzR} (hX : zzX p s m args meth c cc own nL rk D dA ad A) (hQ : Q = MQ below (zzQ D dA ad A rk rr) args s 0 0 A) {call : Nat → List Value → zzM → Option zzR} (hcall : zzCl l D dA ad P R call)
    {pc len : Nat} {aux : List (Nat × Nat)} (hdg : decode cc pc = .ok (.lsub, len)) (hw : zzwd P own nL len pc (.lsub) aux) {ls : zzL} {st : List Value} {μ : zzM} {next : zzL → List Value → zzM → Option zzR} {jump : Nat → List Value → Option zzR}
    (h : zzstep call rk (.lsub) aux ls st μ next jump = some rr)
    (hn : ∀ ls' st' μ', next ls' st' μ' = some rr → zzW p l e R s m args below meth c Q D dA ad A nL (pc + len) ls' st' μ')
    (hj : ∀ t st', jump t st' = some rr → zzW p l e R s m args below meth c Q D dA ad A nL t ls st' μ) : zzW p l e R s m args below meth c Q D dA ad A nL pc ls st μ := by
  intro H locs lc hP hS hl
  obtain ⟨hx, hb, hml, hown, hts, hK, hnw, hinj, hA, hlocks, hrt⟩ := hX
  have hD : ∀ μ, va_D A (zzworld dA ad μ) := fun μ => zzD_of hinj (fun i hi => hA _ (Or.inl ⟨i, hi, rfl⟩))
  obtain ⟨x, y, r, he9, h9⟩ := zzq2_s h
  clear h
  subst he9
  have h := h9
  clear h9
  try dsimp only at h
  cases hw
  exact lv_lsub hx hb hdg (hn _ _ _ h H locs lc hP hS hl)
set_option maxHeartbeats 400000 in
set_option maxRecDepth 20000 in
theorem zs_lmul {rr : zzR} (hX : zzX p s m args meth c cc own nL rk D dA ad A) (hQ : Q = MQ below (zzQ D dA ad A rk rr) args s 0 0 A) {call : Nat → List Value → zzM → Option zzR} (hcall : zzCl l D dA ad P R call)
    {pc len : Nat} {aux : List (Nat × Nat)} (hdg : decode cc pc = .ok (.lmul, len)) (hw : zzwd P own nL len pc (.lmul) aux) {ls : zzL} {st : List Value} {μ : zzM} {next : zzL → List Value → zzM → Option zzR} {jump : Nat → List Value → Option zzR}
    (h : zzstep call rk (.lmul) aux ls st μ next jump = some rr)
    (hn : ∀ ls' st' μ', next ls' st' μ' = some rr → zzW p l e R s m args below meth c Q D dA ad A nL (pc + len) ls' st' μ')
    (hj : ∀ t st', jump t st' = some rr → zzW p l e R s m args below meth c Q D dA ad A nL t ls st' μ) : zzW p l e R s m args below meth c Q D dA ad A nL pc ls st μ := by
  intro H locs lc hP hS hl
  obtain ⟨hx, hb, hml, hown, hts, hK, hnw, hinj, hA, hlocks, hrt⟩ := hX
  have hD : ∀ μ, va_D A (zzworld dA ad μ) := fun μ => zzD_of hinj (fun i hi => hA _ (Or.inl ⟨i, hi, rfl⟩))
  obtain ⟨x, y, r, he9, h9⟩ := zzq2_s h
  clear h
  subst he9
  have h := h9
  clear h9
  try dsimp only at h
  cases hw
  exact lv_lmul hx hb hdg (hn _ _ _ h H locs lc hP hS hl)
set_option maxHeartbeats 400000 in
set_option maxRecDepth 20000 in
theorem zs_land {rr : zzR} (hX : zzX p s m args meth c cc own nL rk D dA ad A) (hQ : Q = MQ below (zzQ D dA ad A rk rr) args s 0 0 A) {call : Nat → List Value → zzM → Option zzR} (hcall : zzCl l D dA ad P R call)
    {pc len : Nat} {aux : List (Nat × Nat)} (hdg : decode cc pc = .ok (.land, len)) (hw : zzwd P own nL len pc (.land) aux) {ls : zzL} {st : List Value} {μ : zzM} {next : zzL → List Value → zzM → Option zzR} {jump : Nat → List Value → Option zzR}
    (h : zzstep call rk (.land) aux ls st μ next jump = some rr)
    (hn : ∀ ls' st' μ', next ls' st' μ' = some rr → zzW p l e R s m args below meth c Q D dA ad A nL (pc + len) ls' st' μ')
    (hj : ∀ t st', jump t st' = some rr → zzW p l e R s m args below meth c Q D dA ad A nL t ls st' μ) : zzW p l e R s m args below meth c Q D dA ad A nL pc ls st μ := by
  intro H locs lc hP hS hl
  obtain ⟨hx, hb, hml, hown, hts, hK, hnw, hinj, hA, hlocks, hrt⟩ := hX
  have hD : ∀ μ, va_D A (zzworld dA ad μ) := fun μ => zzD_of hinj (fun i hi => hA _ (Or.inl ⟨i, hi, rfl⟩))
  obtain ⟨x, y, r, he9, h9⟩ := zzq2_s h
  clear h
  subst he9
  have h := h9
  clear h9
  try dsimp only at h
  cases hw
  exact lv_land hx hb hdg (hn _ _ _ h H locs lc hP hS hl)
set_option maxHeartbeats 400000 in
set_option maxRecDepth 20000 in
theorem zs_lor {rr : zzR} (hX : zzX p s m args meth c cc own nL rk D dA ad A) (hQ : Q = MQ below (zzQ D dA ad A rk rr) args s 0 0 A) {call : Nat → List Value → zzM → Option zzR} (hcall : zzCl l D dA ad P R call)
    {pc len : Nat} {aux : List (Nat × Nat)} (hdg : decode cc pc = .ok (.lor, len)) (hw : zzwd P own nL len pc (.lor) aux) {ls : zzL} {st : List Value} {μ : zzM} {next : zzL → List Value → zzM → Option zzR} {jump : Nat → List Value → Option zzR}
    (h : zzstep call rk (.lor) aux ls st μ next jump = some rr)
    (hn : ∀ ls' st' μ', next ls' st' μ' = some rr → zzW p l e R s m args below meth c Q D dA ad A nL (pc + len) ls' st' μ')
    (hj : ∀ t st', jump t st' = some rr → zzW p l e R s m args below meth c Q D dA ad A nL t ls st' μ) : zzW p l e R s m args below meth c Q D dA ad A nL pc ls st μ := by
  intro H locs lc hP hS hl
  obtain ⟨hx, hb, hml, hown, hts, hK, hnw, hinj, hA, hlocks, hrt⟩ := hX
  have hD : ∀ μ, va_D A (zzworld dA ad μ) := fun μ => zzD_of hinj (fun i hi => hA _ (Or.inl ⟨i, hi, rfl⟩))
  obtain ⟨x, y, r, he9, h9⟩ := zzq2_s h
  clear h
  subst he9
  have h := h9
  clear h9
  try dsimp only at h
  cases hw
  exact lv_lor hx hb hdg (hn _ _ _ h H locs lc hP hS hl)
set_option maxHeartbeats 400000 in
set_option maxRecDepth 20000 in
theorem zs_lrem {rr : zzR} (hX : zzX p s m args meth c cc own nL rk D dA ad A) (hQ : Q = MQ below (zzQ D dA ad A rk rr) args s 0 0 A) {call : Nat → List Value → zzM → Option zzR} (hcall : zzCl l D dA ad P R call)
    {pc len : Nat} {aux : List (Nat × Nat)} (hdg : decode cc pc = .ok (.lrem, len)) (hw : zzwd P own nL len pc (.lrem) aux) {ls : zzL} {st : List Value} {μ : zzM} {next : zzL → List Value → zzM → Option zzR} {jump : Nat → List Value → Option zzR}
    (h : zzstep call rk (.lrem) aux ls st μ next jump = some rr)
    (hn : ∀ ls' st' μ', next ls' st' μ' = some rr → zzW p l e R s m args below meth c Q D dA ad A nL (pc + len) ls' st' μ')
    (hj : ∀ t st', jump t st' = some rr → zzW p l e R s m args below meth c Q D dA ad A nL t ls st' μ) : zzW p l e R s m args below meth c Q D dA ad A nL pc ls st μ := by
  intro H locs lc hP hS hl
  obtain ⟨hx, hb, hml, hown, hts, hK, hnw, hinj, hA, hlocks, hrt⟩ := hX
  have hD : ∀ μ, va_D A (zzworld dA ad μ) := fun μ => zzD_of hinj (fun i hi => hA _ (Or.inl ⟨i, hi, rfl⟩))
  obtain ⟨x, y, r, he9, h9⟩ := zzq2_s h
  clear h
  subst he9
  have h := h9
  clear h9
  try dsimp only at h
  cases hw
  split at h
  · cases h
  · rename_i hne
    exact lv_lrem hx hb hdg hne (hn _ _ _ h H locs lc hP hS hl)
set_option maxHeartbeats 400000 in
set_option maxRecDepth 20000 in
theorem zs_lcmp {rr : zzR} (hX : zzX p s m args meth c cc own nL rk D dA ad A) (hQ : Q = MQ below (zzQ D dA ad A rk rr) args s 0 0 A) {call : Nat → List Value → zzM → Option zzR} (hcall : zzCl l D dA ad P R call)
    {pc len : Nat} {aux : List (Nat × Nat)} (hdg : decode cc pc = .ok (.lcmp, len)) (hw : zzwd P own nL len pc (.lcmp) aux) {ls : zzL} {st : List Value} {μ : zzM} {next : zzL → List Value → zzM → Option zzR} {jump : Nat → List Value → Option zzR}
    (h : zzstep call rk (.lcmp) aux ls st μ next jump = some rr)
    (hn : ∀ ls' st' μ', next ls' st' μ' = some rr → zzW p l e R s m args below meth c Q D dA ad A nL (pc + len) ls' st' μ')
    (hj : ∀ t st', jump t st' = some rr → zzW p l e R s m args below meth c Q D dA ad A nL t ls st' μ) : zzW p l e R s m args below meth c Q D dA ad A nL pc ls st μ := by
  intro H locs lc hP hS hl
  obtain ⟨hx, hb, hml, hown, hts, hK, hnw, hinj, hA, hlocks, hrt⟩ := hX
  have hD : ∀ μ, va_D A (zzworld dA ad μ) := fun μ => zzD_of hinj (fun i hi => hA _ (Or.inl ⟨i, hi, rfl⟩))
  obtain ⟨x, y, r, he9, h9⟩ := zzq2_s h
  clear h
  subst he9
  have h := h9
  clear h9
  try dsimp only at h
  cases hw
  exact W.lcmp hx hb hdg (hn _ _ _ h H locs lc hP hS hl)
set_option maxHeartbeats 400000 in
set_option maxRecDepth 20000 in
theorem zs_lshl {rr : zzR} (hX : zzX p s m args meth c cc own nL rk D dA ad A) (hQ : Q = MQ below (zzQ D dA ad A rk rr) args s 0 0 A) {call : Nat → List Value → zzM → Option zzR} (hcall : zzCl l D dA ad P R call)
    {pc len : Nat} {aux : List (Nat × Nat)} (hdg : decode cc pc = .ok (.lshl, len)) (hw : zzwd P own nL len pc (.lshl) aux) {ls : zzL} {st : List Value} {μ : zzM} {next : zzL → List Value → zzM → Option zzR} {jump : Nat → List Value → Option zzR}
    (h : zzstep call rk (.lshl) aux ls st μ next jump = some rr)
    (hn : ∀ ls' st' μ', next ls' st' μ' = some rr → zzW p l e R s m args below meth c Q D dA ad A nL (pc + len) ls' st' μ')
    (hj : ∀ t st', jump t st' = some rr → zzW p l e R s m args below meth c Q D dA ad A nL t ls st' μ) : zzW p l e R s m args below meth c Q D dA ad A nL pc ls st μ := by
  intro H locs lc hP hS hl
  obtain ⟨hx, hb, hml, hown, hts, hK, hnw, hinj, hA, hlocks, hrt⟩ := hX
  have hD : ∀ μ, va_D A (zzworld dA ad μ) := fun μ => zzD_of hinj (fun i hi => hA _ (Or.inl ⟨i, hi, rfl⟩))
  obtain ⟨x, y, r, he9, h9⟩ := zzqs_s h
  clear h
  subst he9
  have h := h9
  clear h9
  try dsimp only at h
  cases hw
  exact lv_lshl hx hb hdg rfl (hn _ _ _ h H locs lc hP hS hl)
set_option maxHeartbeats 400000 in
set_option maxRecDepth 20000 in
theorem zs_lshr {rr : zzR} (hX : zzX p s m args meth c cc own nL rk D dA ad A) (hQ : Q = MQ below (zzQ D dA ad A rk rr) args s 0 0 A) {call : Nat → List Value → zzM → Option zzR} (hcall : zzCl l D dA ad P R call)
    {pc len : Nat} {aux : List (Nat × Nat)} (hdg : decode cc pc = .ok (.lshr, len)) (hw : zzwd P own nL len pc (.lshr) aux) {ls : zzL} {st : List Value} {μ : zzM} {next : zzL → List Value → zzM → Option zzR} {jump : Nat → List Value → Option zzR}
    (h : zzstep call rk (.lshr) aux ls st μ next jump = some rr)
    (hn : ∀ ls' st' μ', next ls' st' μ' = some rr → zzW p l e R s m args below meth c Q D dA ad A nL (pc + len) ls' st' μ')
    (hj : ∀ t st', jump t st' = some rr → zzW p l e R s m args below meth c Q D dA ad A nL t ls st' μ) : zzW p l e R s m args below meth c Q D dA ad A nL pc ls st μ := by
  intro H locs lc hP hS hl
  obtain ⟨hx, hb, hml, hown, hts, hK, hnw, hinj, hA, hlocks, hrt⟩ := hX
  have hD : ∀ μ, va_D A (zzworld dA ad μ) := fun μ => zzD_of hinj (fun i hi => hA _ (Or.inl ⟨i, hi, rfl⟩))
  obtain ⟨x, y, r, he9, h9⟩ := zzqs_s h
  clear h
  subst he9
  have h := h9
  clear h9
  try dsimp only at h
  cases hw
  exact lv_lshr hx hb hdg rfl (hn _ _ _ h H locs lc hP hS hl)
set_option maxHeartbeats 400000 in
set_option maxRecDepth 20000 in
theorem zs_i2l {rr : zzR} (hX : zzX p s m args meth c cc own nL rk D dA ad A) (hQ : Q = MQ below (zzQ D dA ad A rk rr) args s 0 0 A) {call : Nat → List Value → zzM → Option zzR} (hcall : zzCl l D dA ad P R call)
    {pc len : Nat} {aux : List (Nat × Nat)} (hdg : decode cc pc = .ok (.i2l, len)) (hw : zzwd P own nL len pc (.i2l) aux) {ls : zzL} {st : List Value} {μ : zzM} {next : zzL → List Value → zzM → Option zzR} {jump : Nat → List Value → Option zzR}
    (h : zzstep call rk (.i2l) aux ls st μ next jump = some rr)
    (hn : ∀ ls' st' μ', next ls' st' μ' = some rr → zzW p l e R s m args below meth c Q D dA ad A nL (pc + len) ls' st' μ')
    (hj : ∀ t st', jump t st' = some rr → zzW p l e R s m args below meth c Q D dA ad A nL t ls st' μ) : zzW p l e R s m args below meth c Q D dA ad A nL pc ls st μ := by
  intro H locs lc hP hS hl
  obtain ⟨hx, hb, hml, hown, hts, hK, hnw, hinj, hA, hlocks, hrt⟩ := hX
  have hD : ∀ μ, va_D A (zzworld dA ad μ) := fun μ => zzD_of hinj (fun i hi => hA _ (Or.inl ⟨i, hi, rfl⟩))
  obtain ⟨x, r, he9, h9⟩ := zzp1_s h
  clear h
  subst he9
  have h := h9
  clear h9
  try dsimp only at h
  cases hw
  exact lv_i2l hx hb hdg rfl (hn _ _ _ h H locs lc hP hS hl)
set_option maxHeartbeats 400000 in
set_option maxRecDepth 20000 in
theorem zs_l2i {rr : zzR} (hX : zzX p s m args meth c cc own nL rk D dA ad A) (hQ : Q = MQ below (zzQ D dA ad A rk rr) args s 0 0 A) {call : Nat → List Value → zzM → Option zzR} (hcall : zzCl l D dA ad P R call)
    {pc len : Nat} {aux : List (Nat × Nat)} (hdg : decode cc pc = .ok (.l2i, len)) (hw : zzwd P own nL len pc (.l2i) aux) {ls : zzL} {st : List Value} {μ : zzM} {next : zzL → List Value → zzM → Option zzR} {jump : Nat → List Value → Option zzR}
    (h : zzstep call rk (.l2i) aux ls st μ next jump = some rr)
    (hn : ∀ ls' st' μ', next ls' st' μ' = some rr → zzW p l e R s m args below meth c Q D dA ad A nL (pc + len) ls' st' μ')
    (hj : ∀ t st', jump t st' = some rr → zzW p l e R s m args below meth c Q D dA ad A nL t ls st' μ) : zzW p l e R s m args below meth c Q D dA ad A nL pc ls st μ := by
  intro H locs lc hP hS hl
  obtain ⟨hx, hb, hml, hown, hts, hK, hnw, hinj, hA, hlocks, hrt⟩ := hX
  have hD : ∀ μ, va_D A (zzworld dA ad μ) := fun μ => zzD_of hinj (fun i hi => hA _ (Or.inl ⟨i, hi, rfl⟩))
  obtain ⟨x, r, he9, h9⟩ := zzq1_s h
  clear h
  subst he9
  have h := h9
  clear h9
  try dsimp only at h
  cases hw
  exact lv_l2i hx hb hdg rfl (hn _ _ _ h H locs lc hP hS hl)
set_option maxHeartbeats 400000 in
set_option maxRecDepth 20000 in
theorem zs_i2b {rr : zzR} (hX : zzX p s m args meth c cc own nL rk D dA ad A) (hQ : Q = MQ below (zzQ D dA ad A rk rr) args s 0 0 A) {call : Nat → List Value → zzM → Option zzR} (hcall : zzCl l D dA ad P R call)
    {pc len : Nat} {aux : List (Nat × Nat)} (hdg : decode cc pc = .ok (.i2b, len)) (hw : zzwd P own nL len pc (.i2b) aux) {ls : zzL} {st : List Value} {μ : zzM} {next : zzL → List Value → zzM → Option zzR} {jump : Nat → List Value → Option zzR}
    (h : zzstep call rk (.i2b) aux ls st μ next jump = some rr)
    (hn : ∀ ls' st' μ', next ls' st' μ' = some rr → zzW p l e R s m args below meth c Q D dA ad A nL (pc + len) ls' st' μ')
    (hj : ∀ t st', jump t st' = some rr → zzW p l e R s m args below meth c Q D dA ad A nL t ls st' μ) : zzW p l e R s m args below meth c Q D dA ad A nL pc ls st μ := by
  intro H locs lc hP hS hl
  obtain ⟨hx, hb, hml, hown, hts, hK, hnw, hinj, hA, hlocks, hrt⟩ := hX
  have hD : ∀ μ, va_D A (zzworld dA ad μ) := fun μ => zzD_of hinj (fun i hi => hA _ (Or.inl ⟨i, hi, rfl⟩))
  obtain ⟨x, r, he9, h9⟩ := zzp1_s h
  clear h
  subst he9
  have h := h9
  clear h9
  try dsimp only at h
  cases hw
  exact lv_i2b hx hb hdg rfl (hn _ _ _ h H locs lc hP hS hl)
set_option maxHeartbeats 400000 in
set_option maxRecDepth 20000 in
theorem zs_iconst {n : Int} {rr : zzR} (hX : zzX p s m args meth c cc own nL rk D dA ad A) (hQ : Q = MQ below (zzQ D dA ad A rk rr) args s 0 0 A) {call : Nat → List Value → zzM → Option zzR} (hcall : zzCl l D dA ad P R call)
    {pc len : Nat} {aux : List (Nat × Nat)} (hdg : decode cc pc = .ok (.iconst n, len)) (hw : zzwd P own nL len pc (.iconst n) aux) {ls : zzL} {st : List Value} {μ : zzM} {next : zzL → List Value → zzM → Option zzR} {jump : Nat → List Value → Option zzR}
    (h : zzstep call rk (.iconst n) aux ls st μ next jump = some rr)
    (hn : ∀ ls' st' μ', next ls' st' μ' = some rr → zzW p l e R s m args below meth c Q D dA ad A nL (pc + len) ls' st' μ')
    (hj : ∀ t st', jump t st' = some rr → zzW p l e R s m args below meth c Q D dA ad A nL t ls st' μ) : zzW p l e R s m args below meth c Q D dA ad A nL pc ls st μ := by
  intro H locs lc hP hS hl
  obtain ⟨hx, hb, hml, hown, hts, hK, hnw, hinj, hA, hlocks, hrt⟩ := hX
  have hD : ∀ μ, va_D A (zzworld dA ad μ) := fun μ => zzD_of hinj (fun i hi => hA _ (Or.inl ⟨i, hi, rfl⟩))
  obtain ⟨rfl, hv⟩ := hw
  exact lv_iconst hx hb hdg hv (hn _ _ _ h H locs lc hP hS hl)
set_option maxHeartbeats 400000 in
set_option maxRecDepth 20000 in
theorem zs_bipush {n : Int} {rr : zzR} (hX : zzX p s m args meth c cc own nL rk D dA ad A) (hQ : Q = MQ below (zzQ D dA ad A rk rr) args s 0 0 A) {call : Nat → List Value → zzM → Option zzR} (hcall : zzCl l D dA ad P R call)
    {pc len : Nat} {aux : List (Nat × Nat)} (hdg : decode cc pc = .ok (.bipush n, len)) (hw : zzwd P own nL len pc (.bipush n) aux) {ls : zzL} {st : List Value} {μ : zzM} {next : zzL → List Value → zzM → Option zzR} {jump : Nat → List Value → Option zzR}
    (h : zzstep call rk (.bipush n) aux ls st μ next jump = some rr)
    (hn : ∀ ls' st' μ', next ls' st' μ' = some rr → zzW p l e R s m args below meth c Q D dA ad A nL (pc + len) ls' st' μ')
    (hj : ∀ t st', jump t st' = some rr → zzW p l e R s m args below meth c Q D dA ad A nL t ls st' μ) : zzW p l e R s m args below meth c Q D dA ad A nL pc ls st μ := by
  intro H locs lc hP hS hl
  obtain ⟨hx, hb, hml, hown, hts, hK, hnw, hinj, hA, hlocks, hrt⟩ := hX
  have hD : ∀ μ, va_D A (zzworld dA ad μ) := fun μ => zzD_of hinj (fun i hi => hA _ (Or.inl ⟨i, hi, rfl⟩))
  obtain ⟨rfl, hv⟩ := hw
  exact lv_bipush hx hb hdg hv (hn _ _ _ h H locs lc hP hS hl)
set_option maxHeartbeats 400000 in
set_option maxRecDepth 20000 in
theorem zs_sipush {n : Int} {rr : zzR} (hX : zzX p s m args meth c cc own nL rk D dA ad A) (hQ : Q = MQ below (zzQ D dA ad A rk rr) args s 0 0 A) {call : Nat → List Value → zzM → Option zzR} (hcall : zzCl l D dA ad P R call)
    {pc len : Nat} {aux : List (Nat × Nat)} (hdg : decode cc pc = .ok (.sipush n, len)) (hw : zzwd P own nL len pc (.sipush n) aux) {ls : zzL} {st : List Value} {μ : zzM} {next : zzL → List Value → zzM → Option zzR} {jump : Nat → List Value → Option zzR}
    (h : zzstep call rk (.sipush n) aux ls st μ next jump = some rr)
    (hn : ∀ ls' st' μ', next ls' st' μ' = some rr → zzW p l e R s m args below meth c Q D dA ad A nL (pc + len) ls' st' μ')
    (hj : ∀ t st', jump t st' = some rr → zzW p l e R s m args below meth c Q D dA ad A nL t ls st' μ) : zzW p l e R s m args below meth c Q D dA ad A nL pc ls st μ := by
  intro H locs lc hP hS hl
  obtain ⟨hx, hb, hml, hown, hts, hK, hnw, hinj, hA, hlocks, hrt⟩ := hX
  have hD : ∀ μ, va_D A (zzworld dA ad μ) := fun μ => zzD_of hinj (fun i hi => hA _ (Or.inl ⟨i, hi, rfl⟩))
  obtain ⟨rfl, hv⟩ := hw
  exact lv_sipush hx hb hdg hv (hn _ _ _ h H locs lc hP hS hl)
set_option maxHeartbeats 400000 in
set_option maxRecDepth 20000 in
theorem zs_lconst {n : Fin 2} {rr : zzR} (hX : zzX p s m args meth c cc own nL rk D dA ad A) (hQ : Q = MQ below (zzQ D dA ad A rk rr) args s 0 0 A) {call : Nat → List Value → zzM → Option zzR} (hcall : zzCl l D dA ad P R call)
    {pc len : Nat} {aux : List (Nat × Nat)} (hdg : decode cc pc = .ok (.lconst n, len)) (hw : zzwd P own nL len pc (.lconst n) aux) {ls : zzL} {st : List Value} {μ : zzM} {next : zzL → List Value → zzM → Option zzR} {jump : Nat → List Value → Option zzR}
    (h : zzstep call rk (.lconst n) aux ls st μ next jump = some rr)
    (hn : ∀ ls' st' μ', next ls' st' μ' = some rr → zzW p l e R s m args below meth c Q D dA ad A nL (pc + len) ls' st' μ')
    (hj : ∀ t st', jump t st' = some rr → zzW p l e R s m args below meth c Q D dA ad A nL t ls st' μ) : zzW p l e R s m args below meth c Q D dA ad A nL pc ls st μ := by
  intro H locs lc hP hS hl
  obtain ⟨hx, hb, hml, hown, hts, hK, hnw, hinj, hA, hlocks, hrt⟩ := hX
  have hD : ∀ μ, va_D A (zzworld dA ad μ) := fun μ => zzD_of hinj (fun i hi => hA _ (Or.inl ⟨i, hi, rfl⟩))
  obtain ⟨rfl, hv⟩ := hw
  exact lv_lconst hx hb hdg hv (hn _ _ _ h H locs lc hP hS hl)
set_option maxHeartbeats 400000 in
set_option maxRecDepth 20000 in
theorem zs_ldc {n : Nat} {rr : zzR} (hX : zzX p s m args meth c cc own nL rk D dA ad A) (hQ : Q = MQ below (zzQ D dA ad A rk rr) args s 0 0 A) {call : Nat → List Value → zzM → Option zzR} (hcall : zzCl l D dA ad P R call)
    {pc len : Nat} {aux : List (Nat × Nat)} (hdg : decode cc pc = .ok (.ldc n, len)) (hw : zzwd P own nL len pc (.ldc n) aux) {ls : zzL} {st : List Value} {μ : zzM} {next : zzL → List Value → zzM → Option zzR} {jump : Nat → List Value → Option zzR}
    (h : zzstep call rk (.ldc n) aux ls st μ next jump = some rr)
    (hn : ∀ ls' st' μ', next ls' st' μ' = some rr → zzW p l e R s m args below meth c Q D dA ad A nL (pc + len) ls' st' μ')
    (hj : ∀ t st', jump t st' = some rr → zzW p l e R s m args below meth c Q D dA ad A nL t ls st' μ) : zzW p l e R s m args below meth c Q D dA ad A nL pc ls st μ := by
  intro H locs lc hP hS hl
  obtain ⟨hx, hb, hml, hown, hts, hK, hnw, hinj, hA, hlocks, hrt⟩ := hX
  have hD : ∀ μ, va_D A (zzworld dA ad μ) := fun μ => zzD_of hinj (fun i hi => hA _ (Or.inl ⟨i, hi, rfl⟩))
  obtain ⟨rfl, hv⟩ := hw
  exact lv_ldc hx hb hown (hts _ hv) hdg (hn _ _ _ h H locs lc hP hS hl)
set_option maxHeartbeats 400000 in
set_option maxRecDepth 20000 in
theorem zs_ldc_w {n : Nat} {rr : zzR} (hX : zzX p s m args meth c cc own nL rk D dA ad A) (hQ : Q = MQ below (zzQ D dA ad A rk rr) args s 0 0 A) {call : Nat → List Value → zzM → Option zzR} (hcall : zzCl l D dA ad P R call)
    {pc len : Nat} {aux : List (Nat × Nat)} (hdg : decode cc pc = .ok (.ldc_w n, len)) (hw : zzwd P own nL len pc (.ldc_w n) aux) {ls : zzL} {st : List Value} {μ : zzM} {next : zzL → List Value → zzM → Option zzR} {jump : Nat → List Value → Option zzR}
    (h : zzstep call rk (.ldc_w n) aux ls st μ next jump = some rr)
    (hn : ∀ ls' st' μ', next ls' st' μ' = some rr → zzW p l e R s m args below meth c Q D dA ad A nL (pc + len) ls' st' μ')
    (hj : ∀ t st', jump t st' = some rr → zzW p l e R s m args below meth c Q D dA ad A nL t ls st' μ) : zzW p l e R s m args below meth c Q D dA ad A nL pc ls st μ := by
  intro H locs lc hP hS hl
  obtain ⟨hx, hb, hml, hown, hts, hK, hnw, hinj, hA, hlocks, hrt⟩ := hX
  have hD : ∀ μ, va_D A (zzworld dA ad μ) := fun μ => zzD_of hinj (fun i hi => hA _ (Or.inl ⟨i, hi, rfl⟩))
  obtain ⟨rfl, hv⟩ := hw
  exact lv_ldcw hx hb hown (hts _ hv) hdg (hn _ _ _ h H locs lc hP hS hl)
set_option maxHeartbeats 400000 in
set_option maxRecDepth 20000 in
theorem zs_ldc2_w {n : Nat} {rr : zzR} (hX : zzX p s m args meth c cc own nL rk D dA ad A) (hQ : Q = MQ below (zzQ D dA ad A rk rr) args s 0 0 A) {call : Nat → List Value → zzM → Option zzR} (hcall : zzCl l D dA ad P R call)
    {pc len : Nat} {aux : List (Nat × Nat)} (hdg : decode cc pc = .ok (.ldc2_w n, len)) (hw : zzwd P own nL len pc (.ldc2_w n) aux) {ls : zzL} {st : List Value} {μ : zzM} {next : zzL → List Value → zzM → Option zzR} {jump : Nat → List Value → Option zzR}
    (h : zzstep call rk (.ldc2_w n) aux ls st μ next jump = some rr)
    (hn : ∀ ls' st' μ', next ls' st' μ' = some rr → zzW p l e R s m args below meth c Q D dA ad A nL (pc + len) ls' st' μ')
    (hj : ∀ t st', jump t st' = some rr → zzW p l e R s m args below meth c Q D dA ad A nL t ls st' μ) : zzW p l e R s m args below meth c Q D dA ad A nL pc ls st μ := by
  intro H locs lc hP hS hl
  obtain ⟨hx, hb, hml, hown, hts, hK, hnw, hinj, hA, hlocks, hrt⟩ := hX
  have hD : ∀ μ, va_D A (zzworld dA ad μ) := fun μ => zzD_of hinj (fun i hi => hA _ (Or.inl ⟨i, hi, rfl⟩))
  obtain ⟨rfl, hv⟩ := hw
  exact lv_ldc2 hx hb hown (hts _ hv) hdg (hn _ _ _ h H locs lc hP hS hl)
set_option maxHeartbeats 400000 in
set_option maxRecDepth 20000 in
theorem zs_iload {k : Nat} {rr : zzR} (hX : zzX p s m args meth c cc own nL rk D dA ad A) (hQ : Q = MQ below (zzQ D dA ad A rk rr) args s 0 0 A) {call : Nat → List Value → zzM → Option zzR} (hcall : zzCl l D dA ad P R call)
    {pc len : Nat} {aux : List (Nat × Nat)} (hdg : decode cc pc = .ok (.iload k, len)) (hw : zzwd P own nL len pc (.iload k) aux) {ls : zzL} {st : List Value} {μ : zzM} {next : zzL → List Value → zzM → Option zzR} {jump : Nat → List Value → Option zzR}
    (h : zzstep call rk (.iload k) aux ls st μ next jump = some rr)
    (hn : ∀ ls' st' μ', next ls' st' μ' = some rr → zzW p l e R s m args below meth c Q D dA ad A nL (pc + len) ls' st' μ')
    (hj : ∀ t st', jump t st' = some rr → zzW p l e R s m args below meth c Q D dA ad A nL t ls st' μ) : zzW p l e R s m args below meth c Q D dA ad A nL pc ls st μ := by
  intro H locs lc hP hS hl
  obtain ⟨hx, hb, hml, hown, hts, hK, hnw, hinj, hA, hlocks, hrt⟩ := hX
  have hD : ∀ μ, va_D A (zzworld dA ad μ) := fun μ => zzD_of hinj (fun i hi => hA _ (Or.inl ⟨i, hi, rfl⟩))
  cases hw
  have h : (match zzlk ls k with
    | some (.int x) => next ls (.int x :: st) μ
    | _ => none) = some rr := h
  split at h
  · rename_i x hv
    exact lv_iload hx hb hdg (zzlc_at hl hv) (hn _ _ _ h H locs lc hP hS hl)
  · cases h
set_option maxHeartbeats 400000 in
set_option maxRecDepth 20000 in
theorem zs_iload_n {k : Fin 4} {rr : zzR} (hX : zzX p s m args meth c cc own nL rk D dA ad A) (hQ : Q = MQ below (zzQ D dA ad A rk rr) args s 0 0 A) {call : Nat → List Value → zzM → Option zzR} (hcall : zzCl l D dA ad P R call)
    {pc len : Nat} {aux : List (Nat × Nat)} (hdg : decode cc pc = .ok (.iload_n k, len)) (hw : zzwd P own nL len pc (.iload_n k) aux) {ls : zzL} {st : List Value} {μ : zzM} {next : zzL → List Value → zzM → Option zzR} {jump : Nat → List Value → Option zzR}
    (h : zzstep call rk (.iload_n k) aux ls st μ next jump = some rr)
    (hn : ∀ ls' st' μ', next ls' st' μ' = some rr → zzW p l e R s m args below meth c Q D dA ad A nL (pc + len) ls' st' μ')
    (hj : ∀ t st', jump t st' = some rr → zzW p l e R s m args below meth c Q D dA ad A nL t ls st' μ) : zzW p l e R s m args below meth c Q D dA ad A nL pc ls st μ := by
  intro H locs lc hP hS hl
  obtain ⟨hx, hb, hml, hown, hts, hK, hnw, hinj, hA, hlocks, hrt⟩ := hX
  have hD : ∀ μ, va_D A (zzworld dA ad μ) := fun μ => zzD_of hinj (fun i hi => hA _ (Or.inl ⟨i, hi, rfl⟩))
  obtain ⟨rfl, hk⟩ := hw
  have h : (match zzlk ls (zzfst aux).1 with
    | some (.int x) => next ls (.int x :: st) μ
    | _ => none) = some rr := h
  split at h
  · rename_i x hv
    exact lv_iload_n hx hb hdg hk (zzlc_at hl hv) (hn _ _ _ h H locs lc hP hS hl)
  · cases h
set_option maxHeartbeats 400000 in
set_option maxRecDepth 20000 in
theorem zs_lload {k : Nat} {rr : zzR} (hX : zzX p s m args meth c cc own nL rk D dA ad A) (hQ : Q = MQ below (zzQ D dA ad A rk rr) args s 0 0 A) {call : Nat → List Value → zzM → Option zzR} (hcall : zzCl l D dA ad P R call)
    {pc len : Nat} {aux : List (Nat × Nat)} (hdg : decode cc pc = .ok (.lload k, len)) (hw : zzwd P own nL len pc (.lload k) aux) {ls : zzL} {st : List Value} {μ : zzM} {next : zzL → List Value → zzM → Option zzR} {jump : Nat → List Value → Option zzR}
    (h : zzstep call rk (.lload k) aux ls st μ next jump = some rr)
    (hn : ∀ ls' st' μ', next ls' st' μ' = some rr → zzW p l e R s m args below meth c Q D dA ad A nL (pc + len) ls' st' μ')
    (hj : ∀ t st', jump t st' = some rr → zzW p l e R s m args below meth c Q D dA ad A nL t ls st' μ) : zzW p l e R s m args below meth c Q D dA ad A nL pc ls st μ := by
  intro H locs lc hP hS hl
  obtain ⟨hx, hb, hml, hown, hts, hK, hnw, hinj, hA, hlocks, hrt⟩ := hX
  have hD : ∀ μ, va_D A (zzworld dA ad μ) := fun μ => zzD_of hinj (fun i hi => hA _ (Or.inl ⟨i, hi, rfl⟩))
  cases hw
  have h : (match zzlk ls k with
    | some (.long x) => next ls (.long x :: st) μ
    | _ => none) = some rr := h
  split at h
  · rename_i x hv
    exact lv_lload hx hb hdg (zzlc_at hl hv) (hn _ _ _ h H locs lc hP hS hl)
  · cases h
set_option maxHeartbeats 400000 in
set_option maxRecDepth 20000 in
theorem zs_lload_n {k : Fin 4} {rr : zzR} (hX : zzX p s m args meth c cc own nL rk D dA ad A) (hQ : Q = MQ below (zzQ D dA ad A rk rr) args s 0 0 A) {call : Nat → List Value → zzM → Option zzR} (hcall : zzCl l D dA ad P R call)
    {pc len : Nat} {aux : List (Nat × Nat)} (hdg : decode cc pc = .ok (.lload_n k, len)) (hw : zzwd P own nL len pc (.lload_n k) aux) {ls : zzL} {st : List Value} {μ : zzM} {next : zzL → List Value → zzM → Option zzR} {jump : Nat → List Value → Option zzR}
    (h : zzstep call rk (.lload_n k) aux ls st μ next jump = some rr)
    (hn : ∀ ls' st' μ', next ls' st' μ' = some rr → zzW p l e R s m args below meth c Q D dA ad A nL (pc + len) ls' st' μ')
    (hj : ∀ t st', jump t st' = some rr → zzW p l e R s m args below meth c Q D dA ad A nL t ls st' μ) : zzW p l e R s m args below meth c Q D dA ad A nL pc ls st μ := by
  intro H locs lc hP hS hl
  obtain ⟨hx, hb, hml, hown, hts, hK, hnw, hinj, hA, hlocks, hrt⟩ := hX
  have hD : ∀ μ, va_D A (zzworld dA ad μ) := fun μ => zzD_of hinj (fun i hi => hA _ (Or.inl ⟨i, hi, rfl⟩))
  obtain ⟨rfl, hk⟩ := hw
  have h : (match zzlk ls (zzfst aux).1 with
    | some (.long x) => next ls (.long x :: st) μ
    | _ => none) = some rr := h
  split at h
  · rename_i x hv
    exact lv_lload_n hx hb hdg hk (zzlc_at hl hv) (hn _ _ _ h H locs lc hP hS hl)
  · cases h
set_option maxHeartbeats 400000 in
set_option maxRecDepth 20000 in
theorem zs_aload {k : Nat} {rr : zzR} (hX : zzX p s m args meth c cc own nL rk D dA ad A) (hQ : Q = MQ below (zzQ D dA ad A rk rr) args s 0 0 A) {call : Nat → List Value → zzM → Option zzR} (hcall : zzCl l D dA ad P R call)
    {pc len : Nat} {aux : List (Nat × Nat)} (hdg : decode cc pc = .ok (.aload k, len)) (hw : zzwd P own nL len pc (.aload k) aux) {ls : zzL} {st : List Value} {μ : zzM} {next : zzL → List Value → zzM → Option zzR} {jump : Nat → List Value → Option zzR}
    (h : zzstep call rk (.aload k) aux ls st μ next jump = some rr)
    (hn : ∀ ls' st' μ', next ls' st' μ' = some rr → zzW p l e R s m args below meth c Q D dA ad A nL (pc + len) ls' st' μ')
    (hj : ∀ t st', jump t st' = some rr → zzW p l e R s m args below meth c Q D dA ad A nL t ls st' μ) : zzW p l e R s m args below meth c Q D dA ad A nL pc ls st μ := by
  intro H locs lc hP hS hl
  obtain ⟨hx, hb, hml, hown, hts, hK, hnw, hinj, hA, hlocks, hrt⟩ := hX
  have hD : ∀ μ, va_D A (zzworld dA ad μ) := fun μ => zzD_of hinj (fun i hi => hA _ (Or.inl ⟨i, hi, rfl⟩))
  cases hw
  have h : (match zzlk ls k with
    | some (.ref x) => next ls (.ref x :: st) μ
    | _ => none) = some rr := h
  split at h
  · rename_i x hv
    exact lv_aload hx hb hdg (zzlc_at hl hv) (hn _ _ _ h H locs lc hP hS hl)
  · cases h
set_option maxHeartbeats 400000 in
set_option maxRecDepth 20000 in
theorem zs_aload_n {k : Fin 4} {rr : zzR} (hX : zzX p s m args meth c cc own nL rk D dA ad A) (hQ : Q = MQ below (zzQ D dA ad A rk rr) args s 0 0 A) {call : Nat → List Value → zzM → Option zzR} (hcall : zzCl l D dA ad P R call)
    {pc len : Nat} {aux : List (Nat × Nat)} (hdg : decode cc pc = .ok (.aload_n k, len)) (hw : zzwd P own nL len pc (.aload_n k) aux) {ls : zzL} {st : List Value} {μ : zzM} {next : zzL → List Value → zzM → Option zzR} {jump : Nat → List Value → Option zzR}
    (h : zzstep call rk (.aload_n k) aux ls st μ next jump = some rr)
    (hn : ∀ ls' st' μ', next ls' st' μ' = some rr → zzW p l e R s m args below meth c Q D dA ad A nL (pc + len) ls' st' μ')
    (hj : ∀ t st', jump t st' = some rr → zzW p l e R s m args below meth c Q D dA ad A nL t ls st' μ) : zzW p l e R s m args below meth c Q D dA ad A nL pc ls st μ := by
  intro H locs lc hP hS hl
  obtain ⟨hx, hb, hml, hown, hts, hK, hnw, hinj, hA, hlocks, hrt⟩ := hX
  have hD : ∀ μ, va_D A (zzworld dA ad μ) := fun μ => zzD_of hinj (fun i hi => hA _ (Or.inl ⟨i, hi, rfl⟩))
  obtain ⟨rfl, hk⟩ := hw
  have h : (match zzlk ls (zzfst aux).1 with
    | some (.ref x) => next ls (.ref x :: st) μ
    | _ => none) = some rr := h
  split at h
  · rename_i x hv
    exact lv_aload_n hx hb hdg hk (zzlc_at hl hv) (hn _ _ _ h H locs lc hP hS hl)
  · cases h
set_option maxHeartbeats 400000 in
set_option maxRecDepth 20000 in
theorem zs_istore {k : Nat} {rr : zzR} (hX : zzX p s m args meth c cc own nL rk D dA ad A) (hQ : Q = MQ below (zzQ D dA ad A rk rr) args s 0 0 A) {call : Nat → List Value → zzM → Option zzR} (hcall : zzCl l D dA ad P R call)
    {pc len : Nat} {aux : List (Nat × Nat)} (hdg : decode cc pc = .ok (.istore k, len)) (hw : zzwd P own nL len pc (.istore k) aux) {ls : zzL} {st : List Value} {μ : zzM} {next : zzL → List Value → zzM → Option zzR} {jump : Nat → List Value → Option zzR}
    (h : zzstep call rk (.istore k) aux ls st μ next jump = some rr)
    (hn : ∀ ls' st' μ', next ls' st' μ' = some rr → zzW p l e R s m args below meth c Q D dA ad A nL (pc + len) ls' st' μ')
    (hj : ∀ t st', jump t st' = some rr → zzW p l e R s m args below meth c Q D dA ad A nL t ls st' μ) : zzW p l e R s m args below meth c Q D dA ad A nL pc ls st μ := by
  intro H locs lc hP hS hl
  obtain ⟨hx, hb, hml, hown, hts, hK, hnw, hinj, hA, hlocks, hrt⟩ := hX
  have hD : ∀ μ, va_D A (zzworld dA ad μ) := fun μ => zzD_of hinj (fun i hi => hA _ (Or.inl ⟨i, hi, rfl⟩))
  obtain ⟨rfl, hk⟩ := hw
  obtain ⟨x, r, he9, h9⟩ := zzp1_s h
  clear h
  subst he9
  have h := h9
  clear h9
  try dsimp only at h
  exact lv_istore hx hb hdg hl hk (zzlc_set1 (ad := ad) (v := .int x)) (fun lc' hl' => hn _ _ _ h H locs lc' hP hS hl')
set_option maxHeartbeats 400000 in
set_option maxRecDepth 20000 in
theorem zs_istore_n {k : Fin 4} {rr : zzR} (hX : zzX p s m args meth c cc own nL rk D dA ad A) (hQ : Q = MQ below (zzQ D dA ad A rk rr) args s 0 0 A) {call : Nat → List Value → zzM → Option zzR} (hcall : zzCl l D dA ad P R call)
    {pc len : Nat} {aux : List (Nat × Nat)} (hdg : decode cc pc = .ok (.istore_n k, len)) (hw : zzwd P own nL len pc (.istore_n k) aux) {ls : zzL} {st : List Value} {μ : zzM} {next : zzL → List Value → zzM → Option zzR} {jump : Nat → List Value → Option zzR}
    (h : zzstep call rk (.istore_n k) aux ls st μ next jump = some rr)
    (hn : ∀ ls' st' μ', next ls' st' μ' = some rr → zzW p l e R s m args below meth c Q D dA ad A nL (pc + len) ls' st' μ')
    (hj : ∀ t st', jump t st' = some rr → zzW p l e R s m args below meth c Q D dA ad A nL t ls st' μ) : zzW p l e R s m args below meth c Q D dA ad A nL pc ls st μ := by
  intro H locs lc hP hS hl
  obtain ⟨hx, hb, hml, hown, hts, hK, hnw, hinj, hA, hlocks, hrt⟩ := hX
  have hD : ∀ μ, va_D A (zzworld dA ad μ) := fun μ => zzD_of hinj (fun i hi => hA _ (Or.inl ⟨i, hi, rfl⟩))
  obtain ⟨rfl, hk, hk2⟩ := hw
  obtain ⟨x, r, he9, h9⟩ := zzp1_s h
  clear h
  subst he9
  have h := h9
  clear h9
  try dsimp only at h
  exact lv_istore_n hx hb hdg hk hl hk2 (zzlc_set1 (ad := ad) (v := .int x)) (fun lc' hl' => hn _ _ _ h H locs lc' hP hS hl')
set_option maxHeartbeats 400000 in
set_option maxRecDepth 20000 in
theorem zs_lstore {k : Nat} {rr : zzR} (hX : zzX p s m args meth c cc own nL rk D dA ad A) (hQ : Q = MQ below (zzQ D dA ad A rk rr) args s 0 0 A) {call : Nat → List Value → zzM → Option zzR} (hcall : zzCl l D dA ad P R call)
    {pc len : Nat} {aux : List (Nat × Nat)} (hdg : decode cc pc = .ok (.lstore k, len)) (hw : zzwd P own nL len pc (.lstore k) aux) {ls : zzL} {st : List Value} {μ : zzM} {next : zzL → List Value → zzM → Option zzR} {jump : Nat → List Value → Option zzR}
    (h : zzstep call rk (.lstore k) aux ls st μ next jump = some rr)
    (hn : ∀ ls' st' μ', next ls' st' μ' = some rr → zzW p l e R s m args below meth c Q D dA ad A nL (pc + len) ls' st' μ')
    (hj : ∀ t st', jump t st' = some rr → zzW p l e R s m args below meth c Q D dA ad A nL t ls st' μ) : zzW p l e R s m args below meth c Q D dA ad A nL pc ls st μ := by
  intro H locs lc hP hS hl
  obtain ⟨hx, hb, hml, hown, hts, hK, hnw, hinj, hA, hlocks, hrt⟩ := hX
  have hD : ∀ μ, va_D A (zzworld dA ad μ) := fun μ => zzD_of hinj (fun i hi => hA _ (Or.inl ⟨i, hi, rfl⟩))
  obtain ⟨rfl, hk⟩ := hw
  obtain ⟨x, r, he9, h9⟩ := zzq1_s h
  clear h
  subst he9
  have h := h9
  clear h9
  try dsimp only at h
  exact lv_lstore hx hb hdg hl hk (zzlc_set2 (ad := ad) (v := .long x)) (fun lc' hl' => hn _ _ _ h H locs lc' hP hS hl')
set_option maxHeartbeats 400000 in
set_option maxRecDepth 20000 in
theorem zs_lstore_n {k : Fin 4} {rr : zzR} (hX : zzX p s m args meth c cc own nL rk D dA ad A) (hQ : Q = MQ below (zzQ D dA ad A rk rr) args s 0 0 A) {call : Nat → List Value → zzM → Option zzR} (hcall : zzCl l D dA ad P R call)
    {pc len : Nat} {aux : List (Nat × Nat)} (hdg : decode cc pc = .ok (.lstore_n k, len)) (hw : zzwd P own nL len pc (.lstore_n k) aux) {ls : zzL} {st : List Value} {μ : zzM} {next : zzL → List Value → zzM → Option zzR} {jump : Nat → List Value → Option zzR}
    (h : zzstep call rk (.lstore_n k) aux ls st μ next jump = some rr)
    (hn : ∀ ls' st' μ', next ls' st' μ' = some rr → zzW p l e R s m args below meth c Q D dA ad A nL (pc + len) ls' st' μ')
    (hj : ∀ t st', jump t st' = some rr → zzW p l e R s m args below meth c Q D dA ad A nL t ls st' μ) : zzW p l e R s m args below meth c Q D dA ad A nL pc ls st μ := by
  intro H locs lc hP hS hl
  obtain ⟨hx, hb, hml, hown, hts, hK, hnw, hinj, hA, hlocks, hrt⟩ := hX
  have hD : ∀ μ, va_D A (zzworld dA ad μ) := fun μ => zzD_of hinj (fun i hi => hA _ (Or.inl ⟨i, hi, rfl⟩))
  obtain ⟨rfl, hk, hk2⟩ := hw
  obtain ⟨x, r, he9, h9⟩ := zzq1_s h
  clear h
  subst he9
  have h := h9
  clear h9
  try dsimp only at h
  exact lv_lstore_n hx hb hdg hk hl hk2 (zzlc_set2 (ad := ad) (v := .long x)) (fun lc' hl' => hn _ _ _ h H locs lc' hP hS hl')
set_option maxHeartbeats 400000 in
set_option maxRecDepth 20000 in
theorem zs_iinc {k : Nat} {n : Int} {rr : zzR} (hX : zzX p s m args meth c cc own nL rk D dA ad A) (hQ : Q = MQ below (zzQ D dA ad A rk rr) args s 0 0 A) {call : Nat → List Value → zzM → Option zzR} (hcall : zzCl l D dA ad P R call)
    {pc len : Nat} {aux : List (Nat × Nat)} (hdg : decode cc pc = .ok (.iinc k n, len)) (hw : zzwd P own nL len pc (.iinc k n) aux) {ls : zzL} {st : List Value} {μ : zzM} {next : zzL → List Value → zzM → Option zzR} {jump : Nat → List Value → Option zzR}
    (h : zzstep call rk (.iinc k n) aux ls st μ next jump = some rr)
    (hn : ∀ ls' st' μ', next ls' st' μ' = some rr → zzW p l e R s m args below meth c Q D dA ad A nL (pc + len) ls' st' μ')
    (hj : ∀ t st', jump t st' = some rr → zzW p l e R s m args below meth c Q D dA ad A nL t ls st' μ) : zzW p l e R s m args below meth c Q D dA ad A nL pc ls st μ := by
  intro H locs lc hP hS hl
  obtain ⟨hx, hb, hml, hown, hts, hK, hnw, hinj, hA, hlocks, hrt⟩ := hX
  have hD : ∀ μ, va_D A (zzworld dA ad μ) := fun μ => zzD_of hinj (fun i hi => hA _ (Or.inl ⟨i, hi, rfl⟩))
  obtain ⟨rfl, hk, hv⟩ := hw
  have h : (match zzlk ls k with
    | some (.int x) => next (zzset1 k (.int (zzinc x (zzfst aux))) ls) st μ
    | _ => none) = some rr := h
  split at h
  · rename_i x hv2
    obtain ⟨j, hj2⟩ := List.getElem?_of_mem (show (k, Value.int x) ∈ zzlc ad ls from List.mem_map.mpr ⟨(k, .int x), zzlk_mem hv2, rfl⟩)
    exact lv_iinc (v := zzinc x (zzfst aux)) hx hb hdg hl hj2 (by rw [hv]; exact zzinc_eq _ _) hk (zzlc_set1 (ad := ad) (v := .int (zzinc x (zzfst aux)))) (fun lc' hl' => hn _ _ _ h H locs lc' hP hS hl')
  · cases h
set_option maxHeartbeats 400000 in
set_option maxRecDepth 20000 in
theorem zs_dup {rr : zzR} (hX : zzX p s m args meth c cc own nL rk D dA ad A) (hQ : Q = MQ below (zzQ D dA ad A rk rr) args s 0 0 A) {call : Nat → List Value → zzM → Option zzR} (hcall : zzCl l D dA ad P R call)
    {pc len : Nat} {aux : List (Nat × Nat)} (hdg : decode cc pc = .ok (.dup, len)) (hw : zzwd P own nL len pc (.dup) aux) {ls : zzL} {st : List Value} {μ : zzM} {next : zzL → List Value → zzM → Option zzR} {jump : Nat → List Value → Option zzR}
    (h : zzstep call rk (.dup) aux ls st μ next jump = some rr)
    (hn : ∀ ls' st' μ', next ls' st' μ' = some rr → zzW p l e R s m args below meth c Q D dA ad A nL (pc + len) ls' st' μ')
    (hj : ∀ t st', jump t st' = some rr → zzW p l e R s m args below meth c Q D dA ad A nL t ls st' μ) : zzW p l e R s m args below meth c Q D dA ad A nL pc ls st μ := by
  intro H locs lc hP hS hl
  obtain ⟨hx, hb, hml, hown, hts, hK, hnw, hinj, hA, hlocks, hrt⟩ := hX
  have hD : ∀ μ, va_D A (zzworld dA ad μ) := fun μ => zzD_of hinj (fun i hi => hA _ (Or.inl ⟨i, hi, rfl⟩))
  cases hw
  obtain ⟨v, r, he9, hc, h9⟩ := zzdp_s (st := st) (f := fun r => next ls r μ) h
  subst he9
  exact lv_dup hx hb hdg (by rw [zzcv_cat]; exact hc) (hn _ _ _ h9 H locs lc hP hS hl)
set_option maxHeartbeats 400000 in
set_option maxRecDepth 20000 in
theorem zs_dup2 {rr : zzR} (hX : zzX p s m args meth c cc own nL rk D dA ad A) (hQ : Q = MQ below (zzQ D dA ad A rk rr) args s 0 0 A) {call : Nat → List Value → zzM → Option zzR} (hcall : zzCl l D dA ad P R call)
    {pc len : Nat} {aux : List (Nat × Nat)} (hdg : decode cc pc = .ok (.dup2, len)) (hw : zzwd P own nL len pc (.dup2) aux) {ls : zzL} {st : List Value} {μ : zzM} {next : zzL → List Value → zzM → Option zzR} {jump : Nat → List Value → Option zzR}
    (h : zzstep call rk (.dup2) aux ls st μ next jump = some rr)
    (hn : ∀ ls' st' μ', next ls' st' μ' = some rr → zzW p l e R s m args below meth c Q D dA ad A nL (pc + len) ls' st' μ')
    (hj : ∀ t st', jump t st' = some rr → zzW p l e R s m args below meth c Q D dA ad A nL t ls st' μ) : zzW p l e R s m args below meth c Q D dA ad A nL pc ls st μ := by
  intro H locs lc hP hS hl
  obtain ⟨hx, hb, hml, hown, hts, hK, hnw, hinj, hA, hlocks, hrt⟩ := hX
  have hD : ∀ μ, va_D A (zzworld dA ad μ) := fun μ => zzD_of hinj (fun i hi => hA _ (Or.inl ⟨i, hi, rfl⟩))
  cases hw
  obtain ⟨v, w, r, he9, hc, hc2, h9⟩ := zzd2_s (st := st) (f := fun r => next ls r μ) h
  subst he9
  exact lv_dup2_11 hx hb hdg (by rw [zzcv_cat]; exact hc) (by rw [zzcv_cat]; exact hc2) (hn _ _ _ h9 H locs lc hP hS hl)
set_option maxHeartbeats 400000 in
set_option maxRecDepth 20000 in
theorem zs_pop {rr : zzR} (hX : zzX p s m args meth c cc own nL rk D dA ad A) (hQ : Q = MQ below (zzQ D dA ad A rk rr) args s 0 0 A) {call : Nat → List Value → zzM → Option zzR} (hcall : zzCl l D dA ad P R call)
    {pc len : Nat} {aux : List (Nat × Nat)} (hdg : decode cc pc = .ok (.pop, len)) (hw : zzwd P own nL len pc (.pop) aux) {ls : zzL} {st : List Value} {μ : zzM} {next : zzL → List Value → zzM → Option zzR} {jump : Nat → List Value → Option zzR}
    (h : zzstep call rk (.pop) aux ls st μ next jump = some rr)
    (hn : ∀ ls' st' μ', next ls' st' μ' = some rr → zzW p l e R s m args below meth c Q D dA ad A nL (pc + len) ls' st' μ')
    (hj : ∀ t st', jump t st' = some rr → zzW p l e R s m args below meth c Q D dA ad A nL t ls st' μ) : zzW p l e R s m args below meth c Q D dA ad A nL pc ls st μ := by
  intro H locs lc hP hS hl
  obtain ⟨hx, hb, hml, hown, hts, hK, hnw, hinj, hA, hlocks, hrt⟩ := hX
  have hD : ∀ μ, va_D A (zzworld dA ad μ) := fun μ => zzD_of hinj (fun i hi => hA _ (Or.inl ⟨i, hi, rfl⟩))
  cases hw
  obtain ⟨v, r, he9, hc, h9⟩ := zzpo_s h
  subst he9
  exact lv_pop hx hb hdg (by rw [zzcv_cat]; exact hc) (hn _ _ _ h9 H locs lc hP hS hl)
set_option maxHeartbeats 400000 in
set_option maxRecDepth 20000 in
theorem zs_goto {o : Int} {rr : zzR} (hX : zzX p s m args meth c cc own nL rk D dA ad A) (hQ : Q = MQ below (zzQ D dA ad A rk rr) args s 0 0 A) {call : Nat → List Value → zzM → Option zzR} (hcall : zzCl l D dA ad P R call)
    {pc len : Nat} {aux : List (Nat × Nat)} (hdg : decode cc pc = .ok (.goto o, len)) (hw : zzwd P own nL len pc (.goto o) aux) {ls : zzL} {st : List Value} {μ : zzM} {next : zzL → List Value → zzM → Option zzR} {jump : Nat → List Value → Option zzR}
    (h : zzstep call rk (.goto o) aux ls st μ next jump = some rr)
    (hn : ∀ ls' st' μ', next ls' st' μ' = some rr → zzW p l e R s m args below meth c Q D dA ad A nL (pc + len) ls' st' μ')
    (hj : ∀ t st', jump t st' = some rr → zzW p l e R s m args below meth c Q D dA ad A nL t ls st' μ) : zzW p l e R s m args below meth c Q D dA ad A nL pc ls st μ := by
  intro H locs lc hP hS hl
  obtain ⟨hx, hb, hml, hown, hts, hK, hnw, hinj, hA, hlocks, hrt⟩ := hX
  have hD : ∀ μ, va_D A (zzworld dA ad μ) := fun μ => zzD_of hinj (fun i hi => hA _ (Or.inl ⟨i, hi, rfl⟩))
  obtain ⟨rfl, ht⟩ := hw
  exact lv_goto hx hb hdg ht (hj _ _ h H locs lc hP hS hl)
set_option maxHeartbeats 400000 in
set_option maxRecDepth 20000 in
theorem zs_ifCond_eq {o : Int} {rr : zzR} (hX : zzX p s m args meth c cc own nL rk D dA ad A) (hQ : Q = MQ below (zzQ D dA ad A rk rr) args s 0 0 A) {call : Nat → List Value → zzM → Option zzR} (hcall : zzCl l D dA ad P R call)
    {pc len : Nat} {aux : List (Nat × Nat)} (hdg : decode cc pc = .ok (.ifCond .eq o, len)) (hw : zzwd P own nL len pc (.ifCond .eq o) aux) {ls : zzL} {st : List Value} {μ : zzM} {next : zzL → List Value → zzM → Option zzR} {jump : Nat → List Value → Option zzR}
    (h : zzstep call rk (.ifCond .eq o) aux ls st μ next jump = some rr)
    (hn : ∀ ls' st' μ', next ls' st' μ' = some rr → zzW p l e R s m args below meth c Q D dA ad A nL (pc + len) ls' st' μ')
    (hj : ∀ t st', jump t st' = some rr → zzW p l e R s m args below meth c Q D dA ad A nL t ls st' μ) : zzW p l e R s m args below meth c Q D dA ad A nL pc ls st μ := by
  intro H locs lc hP hS hl
  obtain ⟨hx, hb, hml, hown, hts, hK, hnw, hinj, hA, hlocks, hrt⟩ := hX
  have hD : ∀ μ, va_D A (zzworld dA ad μ) := fun μ => zzD_of hinj (fun i hi => hA _ (Or.inl ⟨i, hi, rfl⟩))
  obtain ⟨rfl, ht⟩ := hw
  obtain ⟨x, r, he9, h9⟩ := zzp1_s h
  clear h
  subst he9
  have h := h9
  clear h9
  try dsimp only at h
  split at h
  · rename_i hc
    exact lv_if_eq hx hb hdg ht (fun z => hj _ _ h H locs lc hP hS hl) (fun z => absurd hc z)
  · rename_i hc
    exact lv_if_eq hx hb hdg ht (fun z => absurd z hc) (fun z => hn _ _ _ h H locs lc hP hS hl)
set_option maxHeartbeats 400000 in
set_option maxRecDepth 20000 in
theorem zs_ifCond_ne {o : Int} {rr : zzR} (hX : zzX p s m args meth c cc own nL rk D dA ad A) (hQ : Q = MQ below (zzQ D dA ad A rk rr) args s 0 0 A) {call : Nat → List Value → zzM → Option zzR} (hcall : zzCl l D dA ad P R call)
    {pc len : Nat} {aux : List (Nat × Nat)} (hdg : decode cc pc = .ok (.ifCond .ne o, len)) (hw : zzwd P own nL len pc (.ifCond .ne o) aux) {ls : zzL} {st : List Value} {μ : zzM} {next : zzL → List Value → zzM → Option zzR} {jump : Nat → List Value → Option zzR}
    (h : zzstep call rk (.ifCond .ne o) aux ls st μ next jump = some rr)
    (hn : ∀ ls' st' μ', next ls' st' μ' = some rr → zzW p l e R s m args below meth c Q D dA ad A nL (pc + len) ls' st' μ')
    (hj : ∀ t st', jump t st' = some rr → zzW p l e R s m args below meth c Q D dA ad A nL t ls st' μ) : zzW p l e R s m args below meth c Q D dA ad A nL pc ls st μ := by
  intro H locs lc hP hS hl
  obtain ⟨hx, hb, hml, hown, hts, hK, hnw, hinj, hA, hlocks, hrt⟩ := hX
  have hD : ∀ μ, va_D A (zzworld dA ad μ) := fun μ => zzD_of hinj (fun i hi => hA _ (Or.inl ⟨i, hi, rfl⟩))
  obtain ⟨rfl, ht⟩ := hw
  obtain ⟨x, r, he9, h9⟩ := zzp1_s h
  clear h
  subst he9
  have h := h9
  clear h9
  try dsimp only at h
  split at h
  · rename_i hc
    exact lv_if_ne hx hb hdg ht (fun z => absurd hc z) (fun z => hn _ _ _ h H locs lc hP hS hl)
  · rename_i hc
    exact lv_if_ne hx hb hdg ht (fun z => hj _ _ h H locs lc hP hS hl) (fun z => absurd z hc)
set_option maxHeartbeats 400000 in
set_option maxRecDepth 20000 in
theorem zs_ifCond_lt {o : Int} {rr : zzR} (hX : zzX p s m args meth c cc own nL rk D dA ad A) (hQ : Q = MQ below (zzQ D dA ad A rk rr) args s 0 0 A) {call : Nat → List Value → zzM → Option zzR} (hcall : zzCl l D dA ad P R call)
    {pc len : Nat} {aux : List (Nat × Nat)} (hdg : decode cc pc = .ok (.ifCond .lt o, len)) (hw : zzwd P own nL len pc (.ifCond .lt o) aux) {ls : zzL} {st : List Value} {μ : zzM} {next : zzL → List Value → zzM → Option zzR} {jump : Nat → List Value → Option zzR}
    (h : zzstep call rk (.ifCond .lt o) aux ls st μ next jump = some rr)
    (hn : ∀ ls' st' μ', next ls' st' μ' = some rr → zzW p l e R s m args below meth c Q D dA ad A nL (pc + len) ls' st' μ')
    (hj : ∀ t st', jump t st' = some rr → zzW p l e R s m args below meth c Q D dA ad A nL t ls st' μ) : zzW p l e R s m args below meth c Q D dA ad A nL pc ls st μ := by
  intro H locs lc hP hS hl
  obtain ⟨hx, hb, hml, hown, hts, hK, hnw, hinj, hA, hlocks, hrt⟩ := hX
  have hD : ∀ μ, va_D A (zzworld dA ad μ) := fun μ => zzD_of hinj (fun i hi => hA _ (Or.inl ⟨i, hi, rfl⟩))
  obtain ⟨rfl, ht⟩ := hw
  obtain ⟨x, r, he9, h9⟩ := zzp1_s h
  clear h
  subst he9
  have h := h9
  clear h9
  try dsimp only at h
  split at h
  · rename_i hc
    exact lv_if_lt hx hb hdg ht (fun z => hj _ _ h H locs lc hP hS hl) (fun z => absurd hc z)
  · rename_i hc
    exact lv_if_lt hx hb hdg ht (fun z => absurd z hc) (fun z => hn _ _ _ h H locs lc hP hS hl)
set_option maxHeartbeats 400000 in
set_option maxRecDepth 20000 in
theorem zs_ifCond_ge {o : Int} {rr : zzR} (hX : zzX p s m args meth c cc own nL rk D dA ad A) (hQ : Q = MQ below (zzQ D dA ad A rk rr) args s 0 0 A) {call : Nat → List Value → zzM → Option zzR} (hcall : zzCl l D dA ad P R call)
    {pc len : Nat} {aux : List (Nat × Nat)} (hdg : decode cc pc = .ok (.ifCond .ge o, len)) (hw : zzwd P own nL len pc (.ifCond .ge o) aux) {ls : zzL} {st : List Value} {μ : zzM} {next : zzL → List Value → zzM → Option zzR} {jump : Nat → List Value → Option zzR}
    (h : zzstep call rk (.ifCond .ge o) aux ls st μ next jump = some rr)
    (hn : ∀ ls' st' μ', next ls' st' μ' = some rr → zzW p l e R s m args below meth c Q D dA ad A nL (pc + len) ls' st' μ')
    (hj : ∀ t st', jump t st' = some rr → zzW p l e R s m args below meth c Q D dA ad A nL t ls st' μ) : zzW p l e R s m args below meth c Q D dA ad A nL pc ls st μ := by
  intro H locs lc hP hS hl
  obtain ⟨hx, hb, hml, hown, hts, hK, hnw, hinj, hA, hlocks, hrt⟩ := hX
  have hD : ∀ μ, va_D A (zzworld dA ad μ) := fun μ => zzD_of hinj (fun i hi => hA _ (Or.inl ⟨i, hi, rfl⟩))
  obtain ⟨rfl, ht⟩ := hw
  obtain ⟨x, r, he9, h9⟩ := zzp1_s h
  clear h
  subst he9
  have h := h9
  clear h9
  try dsimp only at h
  split at h
  · rename_i hc
    exact lv_if_ge hx hb hdg ht (fun z => hj _ _ h H locs lc hP hS hl) (fun z => absurd hc z)
  · rename_i hc
    exact lv_if_ge hx hb hdg ht (fun z => absurd z hc) (fun z => hn _ _ _ h H locs lc hP hS hl)
set_option maxHeartbeats 400000 in
set_option maxRecDepth 20000 in
theorem zs_ifCond_gt {o : Int} {rr : zzR} (hX : zzX p s m args meth c cc own nL rk D dA ad A) (hQ : Q = MQ below (zzQ D dA ad A rk rr) args s 0 0 A) {call : Nat → List Value → zzM → Option zzR} (hcall : zzCl l D dA ad P R call)
    {pc len : Nat} {aux : List (Nat × Nat)} (hdg : decode cc pc = .ok (.ifCond .gt o, len)) (hw : zzwd P own nL len pc (.ifCond .gt o) aux) {ls : zzL} {st : List Value} {μ : zzM} {next : zzL → List Value → zzM → Option zzR} {jump : Nat → List Value → Option zzR}
    (h : zzstep call rk (.ifCond .gt o) aux ls st μ next jump = some rr)
    (hn : ∀ ls' st' μ', next ls' st' μ' = some rr → zzW p l e R s m args below meth c Q D dA ad A nL (pc + len) ls' st' μ')
    (hj : ∀ t st', jump t st' = some rr → zzW p l e R s m args below meth c Q D dA ad A nL t ls st' μ) : zzW p l e R s m args below meth c Q D dA ad A nL pc ls st μ := by
  intro H locs lc hP hS hl
  obtain ⟨hx, hb, hml, hown, hts, hK, hnw, hinj, hA, hlocks, hrt⟩ := hX
  have hD : ∀ μ, va_D A (zzworld dA ad μ) := fun μ => zzD_of hinj (fun i hi => hA _ (Or.inl ⟨i, hi, rfl⟩))
  obtain ⟨rfl, ht⟩ := hw
  obtain ⟨x, r, he9, h9⟩ := zzp1_s h
  clear h
  subst he9
  have h := h9
  clear h9
  try dsimp only at h
  split at h
  · rename_i hc
    exact lv_if_gt hx hb hdg ht (fun z => hj _ _ h H locs lc hP hS hl) (fun z => absurd hc z)
  · rename_i hc
    exact lv_if_gt hx hb hdg ht (fun z => absurd z hc) (fun z => hn _ _ _ h H locs lc hP hS hl)
set_option maxHeartbeats 400000 in
set_option maxRecDepth 20000 in
theorem zs_ifCond_le {o : Int} {rr : zzR} (hX : zzX p s m args meth c cc own nL rk D dA ad A) (hQ : Q = MQ below (zzQ D dA ad A rk rr) args s 0 0 A) {call : Nat → List Value → zzM → Option zzR} (hcall : zzCl l D dA ad P R call)
    {pc len : Nat} {aux : List (Nat × Nat)} (hdg : decode cc pc = .ok (.ifCond .le o, len)) (hw : zzwd P own nL len pc (.ifCond .le o) aux) {ls : zzL} {st : List Value} {μ : zzM} {next : zzL → List Value → zzM → Option zzR} {jump : Nat → List Value → Option zzR}
    (h : zzstep call rk (.ifCond .le o) aux ls st μ next jump = some rr)
    (hn : ∀ ls' st' μ', next ls' st' μ' = some rr → zzW p l e R s m args below meth c Q D dA ad A nL (pc + len) ls' st' μ')
    (hj : ∀ t st', jump t st' = some rr → zzW p l e R s m args below meth c Q D dA ad A nL t ls st' μ) : zzW p l e R s m args below meth c Q D dA ad A nL pc ls st μ := by
  intro H locs lc hP hS hl
  obtain ⟨hx, hb, hml, hown, hts, hK, hnw, hinj, hA, hlocks, hrt⟩ := hX
  have hD : ∀ μ, va_D A (zzworld dA ad μ) := fun μ => zzD_of hinj (fun i hi => hA _ (Or.inl ⟨i, hi, rfl⟩))
  obtain ⟨rfl, ht⟩ := hw
  obtain ⟨x, r, he9, h9⟩ := zzp1_s h
  clear h
  subst he9
  have h := h9
  clear h9
  try dsimp only at h
  split at h
  · rename_i hc
    exact lv_if_le hx hb hdg ht (fun z => hj _ _ h H locs lc hP hS hl) (fun z => absurd hc z)
  · rename_i hc
    exact lv_if_le hx hb hdg ht (fun z => absurd z hc) (fun z => hn _ _ _ h H locs lc hP hS hl)
set_option maxHeartbeats 400000 in
set_option maxRecDepth 20000 in
theorem zs_if_icmp_eq {o : Int} {rr : zzR} (hX : zzX p s m args meth c cc own nL rk D dA ad A) (hQ : Q = MQ below (zzQ D dA ad A rk rr) args s 0 0 A) {call : Nat → List Value → zzM → Option zzR} (hcall : zzCl l D dA ad P R call)
    {pc len : Nat} {aux : List (Nat × Nat)} (hdg : decode cc pc = .ok (.if_icmp .eq o, len)) (hw : zzwd P own nL len pc (.if_icmp .eq o) aux) {ls : zzL} {st : List Value} {μ : zzM} {next : zzL → List Value → zzM → Option zzR} {jump : Nat → List Value → Option zzR}
    (h : zzstep call rk (.if_icmp .eq o) aux ls st μ next jump = some rr)
    (hn : ∀ ls' st' μ', next ls' st' μ' = some rr → zzW p l e R s m args below meth c Q D dA ad A nL (pc + len) ls' st' μ')
    (hj : ∀ t st', jump t st' = some rr → zzW p l e R s m args below meth c Q D dA ad A nL t ls st' μ) : zzW p l e R s m args below meth c Q D dA ad A nL pc ls st μ := by
  intro H locs lc hP hS hl
  obtain ⟨hx, hb, hml, hown, hts, hK, hnw, hinj, hA, hlocks, hrt⟩ := hX
  have hD : ∀ μ, va_D A (zzworld dA ad μ) := fun μ => zzD_of hinj (fun i hi => hA _ (Or.inl ⟨i, hi, rfl⟩))
  obtain ⟨rfl, ht⟩ := hw
  obtain ⟨x, y, r, he9, h9⟩ := zzp2_s h
  clear h
  subst he9
  have h := h9
  clear h9
  try dsimp only at h
  split at h
  · rename_i hc
    exact lv_icmp_eq hx hb hdg ht (fun z => hj _ _ h H locs lc hP hS hl) (fun z => absurd hc z)
  · rename_i hc
    exact lv_icmp_eq hx hb hdg ht (fun z => absurd z hc) (fun z => hn _ _ _ h H locs lc hP hS hl)
set_option maxHeartbeats 400000 in
set_option maxRecDepth 20000 in
theorem zs_if_icmp_ne {o : Int} {rr : zzR} (hX : zzX p s m args meth c cc own nL rk D dA ad A) (hQ : Q = MQ below (zzQ D dA ad A rk rr) args s 0 0 A) {call : Nat → List Value → zzM → Option zzR} (hcall : zzCl l D dA ad P R call)
    {pc len : Nat} {aux : List (Nat × Nat)} (hdg : decode cc pc = .ok (.if_icmp .ne o, len)) (hw : zzwd P own nL len pc (.if_icmp .ne o) aux) {ls : zzL} {st : List Value} {μ : zzM} {next : zzL → List Value → zzM → Option zzR} {jump : Nat → List Value → Option zzR}
    (h : zzstep call rk (.if_icmp .ne o) aux ls st μ next jump = some rr)
    (hn : ∀ ls' st' μ', next ls' st' μ' = some rr → zzW p l e R s m args below meth c Q D dA ad A nL (pc + len) ls' st' μ')
    (hj : ∀ t st', jump t st' = some rr → zzW p l e R s m args below meth c Q D dA ad A nL t ls st' μ) : zzW p l e R s m args below meth c Q D dA ad A nL pc ls st μ := by
  intro H locs lc hP hS hl
  obtain ⟨hx, hb, hml, hown, hts, hK, hnw, hinj, hA, hlocks, hrt⟩ := hX
  have hD : ∀ μ, va_D A (zzworld dA ad μ) := fun μ => zzD_of hinj (fun i hi => hA _ (Or.inl ⟨i, hi, rfl⟩))
  obtain ⟨rfl, ht⟩ := hw
  obtain ⟨x, y, r, he9, h9⟩ := zzp2_s h
  clear h
  subst he9
  have h := h9
  clear h9
  try dsimp only at h
  split at h
  · rename_i hc
    exact lv_icmp_ne hx hb hdg ht (fun z => absurd hc z) (fun z => hn _ _ _ h H locs lc hP hS hl)
  · rename_i hc
    exact lv_icmp_ne hx hb hdg ht (fun z => hj _ _ h H locs lc hP hS hl) (fun z => absurd z hc)
set_option maxHeartbeats 400000 in
set_option maxRecDepth 20000 in
theorem zs_if_icmp_lt {o : Int} {rr : zzR} (hX : zzX p s m args meth c cc own nL rk D dA ad A) (hQ : Q = MQ below (zzQ D dA ad A rk rr) args s 0 0 A) {call : Nat → List Value → zzM → Option zzR} (hcall : zzCl l D dA ad P R call)
    {pc len : Nat} {aux : List (Nat × Nat)} (hdg : decode cc pc = .ok (.if_icmp .lt o, len)) (hw : zzwd P own nL len pc (.if_icmp .lt o) aux) {ls : zzL} {st : List Value} {μ : zzM} {next : zzL → List Value → zzM → Option zzR} {jump : Nat → List Value → Option zzR}
    (h : zzstep call rk (.if_icmp .lt o) aux ls st μ next jump = some rr)
    (hn : ∀ ls' st' μ', next ls' st' μ' = some rr → zzW p l e R s m args below meth c Q D dA ad A nL (pc + len) ls' st' μ')
    (hj : ∀ t st', jump t st' = some rr → zzW p l e R s m args below meth c Q D dA ad A nL t ls st' μ) : zzW p l e R s m args below meth c Q D dA ad A nL pc ls st μ := by
  intro H locs lc hP hS hl
  obtain ⟨hx, hb, hml, hown, hts, hK, hnw, hinj, hA, hlocks, hrt⟩ := hX
  have hD : ∀ μ, va_D A (zzworld dA ad μ) := fun μ => zzD_of hinj (fun i hi => hA _ (Or.inl ⟨i, hi, rfl⟩))
  obtain ⟨rfl, ht⟩ := hw
  obtain ⟨x, y, r, he9, h9⟩ := zzp2_s h
  clear h
  subst he9
  have h := h9
  clear h9
  try dsimp only at h
  split at h
  · rename_i hc
    exact lv_icmp_lt hx hb hdg ht (fun z => hj _ _ h H locs lc hP hS hl) (fun z => absurd hc z)
  · rename_i hc
    exact lv_icmp_lt hx hb hdg ht (fun z => absurd z hc) (fun z => hn _ _ _ h H locs lc hP hS hl)
set_option maxHeartbeats 400000 in
set_option maxRecDepth 20000 in
theorem zs_if_icmp_ge {o : Int} {rr : zzR} (hX : zzX p s m args meth c cc own nL rk D dA ad A) (hQ : Q = MQ below (zzQ D dA ad A rk rr) args s 0 0 A) {call : Nat → List Value → zzM → Option zzR} (hcall : zzCl l D dA ad P R call)
    {pc len : Nat} {aux : List (Nat × Nat)} (hdg : decode cc pc = .ok (.if_icmp .ge o, len)) (hw : zzwd P own nL len pc (.if_icmp .ge o) aux) {ls : zzL} {st : List Value} {μ : zzM} {next : zzL → List Value → zzM → Option zzR} {jump : Nat → List Value → Option zzR}
    (h : zzstep call rk (.if_icmp .ge o) aux ls st μ next jump = some rr)
    (hn : ∀ ls' st' μ', next ls' st' μ' = some rr → zzW p l e R s m args below meth c Q D dA ad A nL (pc + len) ls' st' μ')
    (hj : ∀ t st', jump t st' = some rr → zzW p l e R s m args below meth c Q D dA ad A nL t ls st' μ) : zzW p l e R s m args below meth c Q D dA ad A nL pc ls st μ := by
  intro H locs lc hP hS hl
  obtain ⟨hx, hb, hml, hown, hts, hK, hnw, hinj, hA, hlocks, hrt⟩ := hX
  have hD : ∀ μ, va_D A (zzworld dA ad μ) := fun μ => zzD_of hinj (fun i hi => hA _ (Or.inl ⟨i, hi, rfl⟩))
  obtain ⟨rfl, ht⟩ := hw
  obtain ⟨x, y, r, he9, h9⟩ := zzp2_s h
  clear h
  subst he9
  have h := h9
  clear h9
  try dsimp only at h
  split at h
  · rename_i hc
    exact lv_icmp_ge hx hb hdg ht (fun z => hj _ _ h H locs lc hP hS hl) (fun z => absurd hc z)
  · rename_i hc
    exact lv_icmp_ge hx hb hdg ht (fun z => absurd z hc) (fun z => hn _ _ _ h H locs lc hP hS hl)
set_option maxHeartbeats 400000 in
set_option maxRecDepth 20000 in
theorem zs_if_icmp_gt {o : Int} {rr : zzR} (hX : zzX p s m args meth c cc own nL rk D dA ad A) (hQ : Q = MQ below (zzQ D dA ad A rk rr) args s 0 0 A) {call : Nat → List Value → zzM → Option zzR} (hcall : zzCl l D dA ad P R call)
    {pc len : Nat} {aux : List (Nat × Nat)} (hdg : decode cc pc = .ok (.if_icmp .gt o, len)) (hw : zzwd P own nL len pc (.if_icmp .gt o) aux) {ls : zzL} {st : List Value} {μ : zzM} {next : zzL → List Value → zzM → Option zzR} {jump : Nat → List Value → Option zzR}
    (h : zzstep call rk (.if_icmp .gt o) aux ls st μ next jump = some rr)
    (hn : ∀ ls' st' μ', next ls' st' μ' = some rr → zzW p l e R s m args below meth c Q D dA ad A nL (pc + len) ls' st' μ')
    (hj : ∀ t st', jump t st' = some rr → zzW p l e R s m args below meth c Q D dA ad A nL t ls st' μ) : zzW p l e R s m args below meth c Q D dA ad A nL pc ls st μ := by
  intro H locs lc hP hS hl
  obtain ⟨hx, hb, hml, hown, hts, hK, hnw, hinj, hA, hlocks, hrt⟩ := hX
  have hD : ∀ μ, va_D A (zzworld dA ad μ) := fun μ => zzD_of hinj (fun i hi => hA _ (Or.inl ⟨i, hi, rfl⟩))
  obtain ⟨rfl, ht⟩ := hw
  obtain ⟨x, y, r, he9, h9⟩ := zzp2_s h
  clear h
  subst he9
  have h := h9
  clear h9
  try dsimp only at h
  split at h
  · rename_i hc
    exact lv_icmp_gt hx hb hdg ht (fun z => hj _ _ h H locs lc hP hS hl) (fun z => absurd hc z)
  · rename_i hc
    exact lv_icmp_gt hx hb hdg ht (fun z => absurd z hc) (fun z => hn _ _ _ h H locs lc hP hS hl)
set_option maxHeartbeats 400000 in
set_option maxRecDepth 20000 in
theorem zs_if_icmp_le {o : Int} {rr : zzR} (hX : zzX p s m args meth c cc own nL rk D dA ad A) (hQ : Q = MQ below (zzQ D dA ad A rk rr) args s 0 0 A) {call : Nat → List Value → zzM → Option zzR} (hcall : zzCl l D dA ad P R call)
    {pc len : Nat} {aux : List (Nat × Nat)} (hdg : decode cc pc = .ok (.if_icmp .le o, len)) (hw : zzwd P own nL len pc (.if_icmp .le o) aux) {ls : zzL} {st : List Value} {μ : zzM} {next : zzL → List Value → zzM → Option zzR} {jump : Nat → List Value → Option zzR}
    (h : zzstep call rk (.if_icmp .le o) aux ls st μ next jump = some rr)
    (hn : ∀ ls' st' μ', next ls' st' μ' = some rr → zzW p l e R s m args below meth c Q D dA ad A nL (pc + len) ls' st' μ')
    (hj : ∀ t st', jump t st' = some rr → zzW p l e R s m args below meth c Q D dA ad A nL t ls st' μ) : zzW p l e R s m args below meth c Q D dA ad A nL pc ls st μ := by
  intro H locs lc hP hS hl
  obtain ⟨hx, hb, hml, hown, hts, hK, hnw, hinj, hA, hlocks, hrt⟩ := hX
  have hD : ∀ μ, va_D A (zzworld dA ad μ) := fun μ => zzD_of hinj (fun i hi => hA _ (Or.inl ⟨i, hi, rfl⟩))
  obtain ⟨rfl, ht⟩ := hw
  obtain ⟨x, y, r, he9, h9⟩ := zzp2_s h
  clear h
  subst he9
  have h := h9
  clear h9
  try dsimp only at h
  split at h
  · rename_i hc
    exact lv_icmp_le hx hb hdg ht (fun z => hj _ _ h H locs lc hP hS hl) (fun z => absurd hc z)
  · rename_i hc
    exact lv_icmp_le hx hb hdg ht (fun z => absurd z hc) (fun z => hn _ _ _ h H locs lc hP hS hl)
set_option maxHeartbeats 400000 in
set_option maxRecDepth 20000 in
theorem zs_tableswitch {d : Int} {lo : Int} {hi : Int} {os : Array Int} {rr : zzR} (hX : zzX p s m args meth c cc own nL rk D dA ad A) (hQ : Q = MQ below (zzQ D dA ad A rk rr) args s 0 0 A) {call : Nat → List Value → zzM → Option zzR} (hcall : zzCl l D dA ad P R call)
    {pc len : Nat} {aux : List (Nat × Nat)} (hdg : decode cc pc = .ok (.tableswitch d lo hi os, len)) (hw : zzwd P own nL len pc (.tableswitch d lo hi os) aux) {ls : zzL} {st : List Value} {μ : zzM} {next : zzL → List Value → zzM → Option zzR} {jump : Nat → List Value → Option zzR}
    (h : zzstep call rk (.tableswitch d lo hi os) aux ls st μ next jump = some rr)
    (hn : ∀ ls' st' μ', next ls' st' μ' = some rr → zzW p l e R s m args below meth c Q D dA ad A nL (pc + len) ls' st' μ')
    (hj : ∀ t st', jump t st' = some rr → zzW p l e R s m args below meth c Q D dA ad A nL t ls st' μ) : zzW p l e R s m args below meth c Q D dA ad A nL pc ls st μ := by
  intro H locs lc hP hS hl
  obtain ⟨hx, hb, hml, hown, hts, hK, hnw, hinj, hA, hlocks, hrt⟩ := hX
  have hD : ∀ μ, va_D A (zzworld dA ad μ) := fun μ => zzD_of hinj (fun i hi => hA _ (Or.inl ⟨i, hi, rfl⟩))
  obtain ⟨ht, htab, hlo, hhi, hsz⟩ := hw
  obtain ⟨x, r, he9, h9⟩ := zzp1_s h
  clear h
  subst he9
  have h := h9
  clear h9
  try dsimp only at h
  rcases zzsw_tab _ _ _ htab h with ⟨j, o, t, e1, e2, e3, g⟩ | ⟨e1, g⟩
  · have hjl : j < os.toList.length := (List.getElem?_eq_some_iff.mp e2).1
    rw [Array.length_toList] at hjl
    have hxi : x.toInt = ((lo.toNat + j : Nat) : Int) := by rw [e1]; exact nI_toInt (by omega)
    refine lv_tableIn hx hb hdg (off := o) (by omega) (by omega) ?_ e3 (hj _ _ g H locs lc hP hS hl)
    rw [show (x.toInt - lo).toNat = j by omega, ← Array.getElem?_toList]
    exact e2
  · refine lv_tableOut hx hb hdg ?_ ht (hj _ _ g H locs lc hP hS hl)
    by_cases z1 : x.toInt < lo
    · exact Or.inl z1
    · refine Or.inr ?_
      by_cases z2 : hi < x.toInt
      · exact z2
      · refine absurd ?_ (e1 (x.toInt - lo).toNat (by rw [Array.length_toList]; omega))
        apply Int32.toInt_inj.mp
        rw [nI_toInt (by omega)]
        omega
set_option maxHeartbeats 400000 in
set_option maxRecDepth 20000 in
theorem zs_lookupswitch {d : Int} {ps : Array (Int × Int)} {rr : zzR} (hX : zzX p s m args meth c cc own nL rk D dA ad A) (hQ : Q = MQ below (zzQ D dA ad A rk rr) args s 0 0 A) {call : Nat → List Value → zzM → Option zzR} (hcall : zzCl l D dA ad P R call)
    {pc len : Nat} {aux : List (Nat × Nat)} (hdg : decode cc pc = .ok (.lookupswitch d ps, len)) (hw : zzwd P own nL len pc (.lookupswitch d ps) aux) {ls : zzL} {st : List Value} {μ : zzM} {next : zzL → List Value → zzM → Option zzR} {jump : Nat → List Value → Option zzR}
    (h : zzstep call rk (.lookupswitch d ps) aux ls st μ next jump = some rr)
    (hn : ∀ ls' st' μ', next ls' st' μ' = some rr → zzW p l e R s m args below meth c Q D dA ad A nL (pc + len) ls' st' μ')
    (hj : ∀ t st', jump t st' = some rr → zzW p l e R s m args below meth c Q D dA ad A nL t ls st' μ) : zzW p l e R s m args below meth c Q D dA ad A nL pc ls st μ := by
  intro H locs lc hP hS hl
  obtain ⟨hx, hb, hml, hown, hts, hK, hnw, hinj, hA, hlocks, hrt⟩ := hX
  have hD : ∀ μ, va_D A (zzworld dA ad μ) := fun μ => zzD_of hinj (fun i hi => hA _ (Or.inl ⟨i, hi, rfl⟩))
  obtain ⟨ht, htab, hz⟩ := hw
  obtain ⟨x, r, he9, h9⟩ := zzp1_s h
  clear h
  subst he9
  have h := h9
  clear h9
  try dsimp only at h
  obtain ⟨t, e1, g⟩ := zzsw_lkp ht _ _ htab h
  exact lv_lookup hx hb hdg hz rfl e1 (hj _ _ g H locs lc hP hS hl)
set_option maxHeartbeats 400000 in
set_option maxRecDepth 20000 in
theorem zs_getfield {j : Nat} {rr : zzR} (hX : zzX p s m args meth c cc own nL rk D dA ad A) (hQ : Q = MQ below (zzQ D dA ad A rk rr) args s 0 0 A) {call : Nat → List Value → zzM → Option zzR} (hcall : zzCl l D dA ad P R call)
    {pc len : Nat} {aux : List (Nat × Nat)} (hdg : decode cc pc = .ok (.getfield j, len)) (hw : zzwd P own nL len pc (.getfield j) aux) {ls : zzL} {st : List Value} {μ : zzM} {next : zzL → List Value → zzM → Option zzR} {jump : Nat → List Value → Option zzR}
    (h : zzstep call rk (.getfield j) aux ls st μ next jump = some rr)
    (hn : ∀ ls' st' μ', next ls' st' μ' = some rr → zzW p l e R s m args below meth c Q D dA ad A nL (pc + len) ls' st' μ')
    (hj : ∀ t st', jump t st' = some rr → zzW p l e R s m args below meth c Q D dA ad A nL t ls st' μ) : zzW p l e R s m args below meth c Q D dA ad A nL pc ls st μ := by
  intro H locs lc hP hS hl
  obtain ⟨hx, hb, hml, hown, hts, hK, hnw, hinj, hA, hlocks, hrt⟩ := hX
  have hD : ∀ μ, va_D A (zzworld dA ad μ) := fun μ => zzD_of hinj (fun i hi => hA _ (Or.inl ⟨i, hi, rfl⟩))
  obtain ⟨rfl, q, hq, hk, hlk⟩ := hw
  obtain ⟨a, r, he9, h9⟩ := zza1_s h
  clear h
  subst he9
  have h := h9
  clear h9
  try dsimp only at h
  obtain ⟨fs, ka, kb, hc, hf, h⟩ := zzfd_s h
  obtain ⟨ty, hty, hnm, hin⟩ := zzcls _ _ hq
  have he := zzworld_at (dA := dA) (ad := ad) (μ := μ) hc
  have hv : (fs.mapIdx fun k x => zzfv ad μ a k x)[(zzfst aux).2]? = some (zzfv ad μ a (zzfst aux).2 (ka, kb)) := by
    rw [List.getElem?_mapIdx, hf]; rfl
  refine va_get (C := q.1) (T := q.2.1) (N := q.2.2) hx hb hts hin hown hK hP a he hq (zzfst aux).2 hk (hts _ hlk) (fun _ h9 => h9) hv hdg ?_
  try dsimp only at h
  split at h
  · exact hn _ _ _ h H locs lc hP hS hl
  · exact hn _ _ _ h H locs lc hP hS hl
  · exact hn _ _ _ h H locs lc hP hS hl
  · rename_i h0 h1 h2
    have : zzfv ad μ a (zzfst aux).2 (ka, kb) = .ref (ad kb) := by
      unfold zzfv
      split
      next hz => exact (h0 hz).elim
      next hz => exact (h1 hz).elim
      next hz => exact (h2 hz).elim
      next => rfl
    rw [this]
    exact hn _ _ _ h H locs lc hP hS hl
set_option maxHeartbeats 400000 in
set_option maxRecDepth 20000 in
theorem zs_putfield {j : Nat} {rr : zzR} (hX : zzX p s m args meth c cc own nL rk D dA ad A) (hQ : Q = MQ below (zzQ D dA ad A rk rr) args s 0 0 A) {call : Nat → List Value → zzM → Option zzR} (hcall : zzCl l D dA ad P R call)
    {pc len : Nat} {aux : List (Nat × Nat)} (hdg : decode cc pc = .ok (.putfield j, len)) (hw : zzwd P own nL len pc (.putfield j) aux) {ls : zzL} {st : List Value} {μ : zzM} {next : zzL → List Value → zzM → Option zzR} {jump : Nat → List Value → Option zzR}
    (h : zzstep call rk (.putfield j) aux ls st μ next jump = some rr)
    (hn : ∀ ls' st' μ', next ls' st' μ' = some rr → zzW p l e R s m args below meth c Q D dA ad A nL (pc + len) ls' st' μ')
    (hj : ∀ t st', jump t st' = some rr → zzW p l e R s m args below meth c Q D dA ad A nL t ls st' μ) : zzW p l e R s m args below meth c Q D dA ad A nL pc ls st μ := by
  intro H locs lc hP hS hl
  obtain ⟨hx, hb, hml, hown, hts, hK, hnw, hinj, hA, hlocks, hrt⟩ := hX
  have hD : ∀ μ, va_D A (zzworld dA ad μ) := fun μ => zzD_of hinj (fun i hi => hA _ (Or.inl ⟨i, hi, rfl⟩))
  obtain ⟨rfl, q, hq, hk, hlk, hfin⟩ := hw
  obtain ⟨ty, hty, hnm, hin⟩ := zzcls _ _ hq
  rcases zzpf_s h with ⟨a, v, r, he9, h9⟩ | ⟨a, v, r, he9, h9⟩
  · clear h
    subst he9
    have h := h9
    clear h9
    obtain ⟨fs, ka, kb, hc, hf, h⟩ := zzfd_s h
    have he := zzworld_at (dA := dA) (ad := ad) (μ := μ) hc
    have hkd := zzkd_at hc hq hf
    have hlen : (zzfst aux).2 < (fs.mapIdx fun k x => zzfv ad μ a k x).length := by rw [List.length_mapIdx]; exact (List.getElem?_eq_some_iff.mp hf).1
    have hset : (ka = 0 ∨ ka = 1) → (zzworld dA ad μ).set a (ad a, .inr ((zzfst aux).1, (fs.mapIdx fun k x => zzfv ad μ a k x).set (zzfst aux).2 (.int v))) = zzworld dA ad (zzwI μ a (zzfst aux).2 v) := by
      intro hka
      refine zzset_eq hc ?_ (fun j d' hne => zzcell_wI j d' hne)
      show (Sum.inr ((zzfst aux).1, fs.mapIdx fun k x => zzfv ad (zzwI μ a (zzfst aux).2 v) a k x) : va_E) = _
      rw [zzput_fs hf]
      · rcases hka with rfl | rfl <;> (show Value.int (if a = a ∧ (zzfst aux).2 = (zzfst aux).2 then v else _) = _; rw [if_pos ⟨rfl, rfl⟩])
      · intro k' q' hne
        have : (zzwI μ a (zzfst aux).2 v).1 a k' = μ.1 a k' := by
          show (if a = a ∧ k' = (zzfst aux).2 then v else _) = _
          rw [if_neg (fun z => hne z.2)]
        unfold zzfv
        rw [this]
        rfl
    try dsimp only at h
    split at h
    · exact va_put (C := q.1) (T := q.2.1) (N := q.2.2) (ty := .int) (v := .int v) hx hb hts hin ty hty hnm hown hK hP (hD μ) hS a he hq (zzfst aux).2 hk (hts _ hlk) (fun _ h9 => h9) hfin (zzkd0 hkd) rfl rfl hlen hdg (fun H1 locs1 hP1 _ hS1 => hn _ _ _ h H1 locs1 lc (by rw [hset (Or.inl rfl)] at hP1; exact hP1) hS1 hl)
    · split at h
      · rename_i hv
        exact va_put (C := q.1) (T := q.2.1) (N := q.2.2) (ty := .boolean) (v := .int v) hx hb hts hin ty hty hnm hown hK hP (hD μ) hS a he hq (zzfst aux).2 hk (hts _ hlk) (fun _ h9 => h9) hfin (zzkd1 hkd) (zznarB hv) (zzfitB hv) hlen hdg (fun H1 locs1 hP1 _ hS1 => hn _ _ _ h H1 locs1 lc (by rw [hset (Or.inr rfl)] at hP1; exact hP1) hS1 hl)
      · cases h
    · cases h
  · clear h
    subst he9
    have h := h9
    clear h9
    obtain ⟨fs, ka, kb, hc, hf, h⟩ := zzfd_s h
    have he := zzworld_at (dA := dA) (ad := ad) (μ := μ) hc
    have hkd := zzkd_at hc hq hf
    have hlen : (zzfst aux).2 < (fs.mapIdx fun k x => zzfv ad μ a k x).length := by rw [List.length_mapIdx]; exact (List.getElem?_eq_some_iff.mp hf).1
    try dsimp only at h
    split at h
    · have hset : (zzworld dA ad μ).set a (ad a, .inr ((zzfst aux).1, (fs.mapIdx fun k x => zzfv ad μ a k x).set (zzfst aux).2 (.long v))) = zzworld dA ad (zzwL μ a (zzfst aux).2 v) := by
        refine zzset_eq hc ?_ (fun j d' hne => zzcell_wL j d' hne)
        show (Sum.inr ((zzfst aux).1, fs.mapIdx fun k x => zzfv ad (zzwL μ a (zzfst aux).2 v) a k x) : va_E) = _
        rw [zzput_fs hf]
        · show Value.long (if a = a ∧ (zzfst aux).2 = (zzfst aux).2 then v else _) = _
          rw [if_pos ⟨rfl, rfl⟩]
        · intro k' q' hne
          have : (zzwL μ a (zzfst aux).2 v).2 a k' = μ.2 a k' := by
            show (if a = a ∧ k' = (zzfst aux).2 then v else _) = _
            rw [if_neg (fun z => hne z.2)]
          unfold zzfv
          rw [this]
          rfl
      exact va_put (C := q.1) (T := q.2.1) (N := q.2.2) (ty := .long) (v := .long v) hx hb hts hin ty hty hnm hown hK hP (hD μ) hS a he hq (zzfst aux).2 hk (hts _ hlk) (fun _ h9 => h9) hfin (zzkd2 hkd) rfl rfl hlen hdg (fun H1 locs1 hP1 _ hS1 => hn _ _ _ h H1 locs1 lc (by rw [hset] at hP1; exact hP1) hS1 hl)
    · cases h
set_option maxHeartbeats 400000 in
set_option maxRecDepth 20000 in
theorem zs_arraylength {rr : zzR} (hX : zzX p s m args meth c cc own nL rk D dA ad A) (hQ : Q = MQ below (zzQ D dA ad A rk rr) args s 0 0 A) {call : Nat → List Value → zzM → Option zzR} (hcall : zzCl l D dA ad P R call)
    {pc len : Nat} {aux : List (Nat × Nat)} (hdg : decode cc pc = .ok (.arraylength, len)) (hw : zzwd P own nL len pc (.arraylength) aux) {ls : zzL} {st : List Value} {μ : zzM} {next : zzL → List Value → zzM → Option zzR} {jump : Nat → List Value → Option zzR}
    (h : zzstep call rk (.arraylength) aux ls st μ next jump = some rr)
    (hn : ∀ ls' st' μ', next ls' st' μ' = some rr → zzW p l e R s m args below meth c Q D dA ad A nL (pc + len) ls' st' μ')
    (hj : ∀ t st', jump t st' = some rr → zzW p l e R s m args below meth c Q D dA ad A nL t ls st' μ) : zzW p l e R s m args below meth c Q D dA ad A nL pc ls st μ := by
  intro H locs lc hP hS hl
  obtain ⟨hx, hb, hml, hown, hts, hK, hnw, hinj, hA, hlocks, hrt⟩ := hX
  have hD : ∀ μ, va_D A (zzworld dA ad μ) := fun μ => zzD_of hinj (fun i hi => hA _ (Or.inl ⟨i, hi, rfl⟩))
  cases hw
  obtain ⟨a, r, he9, h9⟩ := zza1_s h
  clear h
  subst he9
  have h := h9
  clear h9
  try dsimp only at h
  obtain ⟨k, n, ts, hc, h⟩ := zzar_s h
  have he := zzworld_at (dA := dA) (ad := ad) (μ := μ) hc
  obtain ⟨ty, ht⟩ := zztys_at dA (zzkd_arr hc).1
  exact va_alen hx hb hK hP a k he ht rfl hdg (hn _ _ _ h H locs lc hP hS hl)
set_option maxHeartbeats 400000 in
set_option maxRecDepth 20000 in
theorem zs_iaload {rr : zzR} (hX : zzX p s m args meth c cc own nL rk D dA ad A) (hQ : Q = MQ below (zzQ D dA ad A rk rr) args s 0 0 A) {call : Nat → List Value → zzM → Option zzR} (hcall : zzCl l D dA ad P R call)
    {pc len : Nat} {aux : List (Nat × Nat)} (hdg : decode cc pc = .ok (.iaload, len)) (hw : zzwd P own nL len pc (.iaload) aux) {ls : zzL} {st : List Value} {μ : zzM} {next : zzL → List Value → zzM → Option zzR} {jump : Nat → List Value → Option zzR}
    (h : zzstep call rk (.iaload) aux ls st μ next jump = some rr)
    (hn : ∀ ls' st' μ', next ls' st' μ' = some rr → zzW p l e R s m args below meth c Q D dA ad A nL (pc + len) ls' st' μ')
    (hj : ∀ t st', jump t st' = some rr → zzW p l e R s m args below meth c Q D dA ad A nL t ls st' μ) : zzW p l e R s m args below meth c Q D dA ad A nL pc ls st μ := by
  intro H locs lc hP hS hl
  obtain ⟨hx, hb, hml, hown, hts, hK, hnw, hinj, hA, hlocks, hrt⟩ := hX
  have hD : ∀ μ, va_D A (zzworld dA ad μ) := fun μ => zzD_of hinj (fun i hi => hA _ (Or.inl ⟨i, hi, rfl⟩))
  cases hw
  obtain ⟨a, i, r, he9, h9⟩ := zzai_s h
  clear h
  subst he9
  have h := h9
  clear h9
  try dsimp only at h
  obtain ⟨k, n, ts, hc, h⟩ := zzar_s h
  try dsimp only at h
  split at h
  · obtain ⟨v, h1, h⟩ := Option.bind_eq_some_iff.mp h
    obtain ⟨hi, rfl⟩ := zzri_s h1
    exact va_iald hx hb hK hP a 0 (zzworld_at hc) rfl hi hdg (hn _ _ _ h H locs lc hP hS hl)
  · cases h
set_option maxHeartbeats 400000 in
set_option maxRecDepth 20000 in
theorem zs_baload {rr : zzR} (hX : zzX p s m args meth c cc own nL rk D dA ad A) (hQ : Q = MQ below (zzQ D dA ad A rk rr) args s 0 0 A) {call : Nat → List Value → zzM → Option zzR} (hcall : zzCl l D dA ad P R call)
    {pc len : Nat} {aux : List (Nat × Nat)} (hdg : decode cc pc = .ok (.baload, len)) (hw : zzwd P own nL len pc (.baload) aux) {ls : zzL} {st : List Value} {μ : zzM} {next : zzL → List Value → zzM → Option zzR} {jump : Nat → List Value → Option zzR}
    (h : zzstep call rk (.baload) aux ls st μ next jump = some rr)
    (hn : ∀ ls' st' μ', next ls' st' μ' = some rr → zzW p l e R s m args below meth c Q D dA ad A nL (pc + len) ls' st' μ')
    (hj : ∀ t st', jump t st' = some rr → zzW p l e R s m args below meth c Q D dA ad A nL t ls st' μ) : zzW p l e R s m args below meth c Q D dA ad A nL pc ls st μ := by
  intro H locs lc hP hS hl
  obtain ⟨hx, hb, hml, hown, hts, hK, hnw, hinj, hA, hlocks, hrt⟩ := hX
  have hD : ∀ μ, va_D A (zzworld dA ad μ) := fun μ => zzD_of hinj (fun i hi => hA _ (Or.inl ⟨i, hi, rfl⟩))
  cases hw
  obtain ⟨a, i, r, he9, h9⟩ := zzai_s h
  clear h
  subst he9
  have h := h9
  clear h9
  try dsimp only at h
  obtain ⟨k, n, ts, hc, h⟩ := zzar_s h
  try dsimp only at h
  split at h
  · obtain ⟨v, h1, h⟩ := Option.bind_eq_some_iff.mp h
    obtain ⟨hi, rfl⟩ := zzri_s h1
    exact va_zald hx hb hK hP a 1 (zzworld_at hc) rfl hi hdg (hn _ _ _ h H locs lc hP hS hl)
  · obtain ⟨v, h1, h⟩ := Option.bind_eq_some_iff.mp h
    obtain ⟨hi, rfl⟩ := zzri_s h1
    exact va_bald hx hb hK hP a 2 (zzworld_at hc) rfl hi hdg (hn _ _ _ h H locs lc hP hS hl)
  · cases h
set_option maxHeartbeats 400000 in
set_option maxRecDepth 20000 in
theorem zs_laload {rr : zzR} (hX : zzX p s m args meth c cc own nL rk D dA ad A) (hQ : Q = MQ below (zzQ D dA ad A rk rr) args s 0 0 A) {call : Nat → List Value → zzM → Option zzR} (hcall : zzCl l D dA ad P R call)
    {pc len : Nat} {aux : List (Nat × Nat)} (hdg : decode cc pc = .ok (.laload, len)) (hw : zzwd P own nL len pc (.laload) aux) {ls : zzL} {st : List Value} {μ : zzM} {next : zzL → List Value → zzM → Option zzR} {jump : Nat → List Value → Option zzR}
    (h : zzstep call rk (.laload) aux ls st μ next jump = some rr)
    (hn : ∀ ls' st' μ', next ls' st' μ' = some rr → zzW p l e R s m args below meth c Q D dA ad A nL (pc + len) ls' st' μ')
    (hj : ∀ t st', jump t st' = some rr → zzW p l e R s m args below meth c Q D dA ad A nL t ls st' μ) : zzW p l e R s m args below meth c Q D dA ad A nL pc ls st μ := by
  intro H locs lc hP hS hl
  obtain ⟨hx, hb, hml, hown, hts, hK, hnw, hinj, hA, hlocks, hrt⟩ := hX
  have hD : ∀ μ, va_D A (zzworld dA ad μ) := fun μ => zzD_of hinj (fun i hi => hA _ (Or.inl ⟨i, hi, rfl⟩))
  cases hw
  obtain ⟨a, i, r, he9, h9⟩ := zzai_s h
  clear h
  subst he9
  have h := h9
  clear h9
  try dsimp only at h
  obtain ⟨k, n, ts, hc, h⟩ := zzar_s h
  try dsimp only at h
  split at h
  · obtain ⟨v, h1, h⟩ := Option.bind_eq_some_iff.mp h
    obtain ⟨hi, rfl⟩ := zzrl_s h1
    exact va_lald hx hb hK hP a 3 (zzworld_at hc) rfl hi hdg (hn _ _ _ h H locs lc hP hS hl)
  · cases h
set_option maxHeartbeats 400000 in
set_option maxRecDepth 20000 in
theorem zs_aaload {rr : zzR} (hX : zzX p s m args meth c cc own nL rk D dA ad A) (hQ : Q = MQ below (zzQ D dA ad A rk rr) args s 0 0 A) {call : Nat → List Value → zzM → Option zzR} (hcall : zzCl l D dA ad P R call)
    {pc len : Nat} {aux : List (Nat × Nat)} (hdg : decode cc pc = .ok (.aaload, len)) (hw : zzwd P own nL len pc (.aaload) aux) {ls : zzL} {st : List Value} {μ : zzM} {next : zzL → List Value → zzM → Option zzR} {jump : Nat → List Value → Option zzR}
    (h : zzstep call rk (.aaload) aux ls st μ next jump = some rr)
    (hn : ∀ ls' st' μ', next ls' st' μ' = some rr → zzW p l e R s m args below meth c Q D dA ad A nL (pc + len) ls' st' μ')
    (hj : ∀ t st', jump t st' = some rr → zzW p l e R s m args below meth c Q D dA ad A nL t ls st' μ) : zzW p l e R s m args below meth c Q D dA ad A nL pc ls st μ := by
  intro H locs lc hP hS hl
  obtain ⟨hx, hb, hml, hown, hts, hK, hnw, hinj, hA, hlocks, hrt⟩ := hX
  have hD : ∀ μ, va_D A (zzworld dA ad μ) := fun μ => zzD_of hinj (fun i hi => hA _ (Or.inl ⟨i, hi, rfl⟩))
  cases hw
  obtain ⟨a, i, r, he9, h9⟩ := zzai_s h
  clear h
  subst he9
  have h := h9
  clear h9
  try dsimp only at h
  obtain ⟨k, n, ts, hc, h⟩ := zzar_s h
  try dsimp only at h
  split at h
  · obtain ⟨j, t, e1, e2, h9⟩ := zzsr_s _ _ h
    clear h
    obtain ⟨_, hn1, hn2⟩ := zzkd_arr hc
    have hj2 : j < ts.length := (List.getElem?_eq_some_iff.mp e2).1
    rw [Nat.zero_add] at e1
    subst e1
    have hcl : (nI j).toNatClampNeg = j := nI_clamp (by omega)
    refine va_aldq (C := "PackedForest$Setting") hx hb hK hP a 4 (zzworld_at hc) rfl (vp_in_nI (show j < n by omega) (show n < 2 ^ 31 by omega)) hdg ?_
    show W p l e R s m args below meth c H locs 0 0 Q (F0 m (pc + 1) lc (va_rf ((ts[(nI j).toNatClampNeg]?).map ad) :: List.map (zzcv ad) r))
    rw [hcl, e2]
    exact hn _ _ _ h9 H locs lc hP hS hl
  · cases h
set_option maxHeartbeats 400000 in
set_option maxRecDepth 20000 in
theorem zs_iastore {rr : zzR} (hX : zzX p s m args meth c cc own nL rk D dA ad A) (hQ : Q = MQ below (zzQ D dA ad A rk rr) args s 0 0 A) {call : Nat → List Value → zzM → Option zzR} (hcall : zzCl l D dA ad P R call)
    {pc len : Nat} {aux : List (Nat × Nat)} (hdg : decode cc pc = .ok (.iastore, len)) (hw : zzwd P own nL len pc (.iastore) aux) {ls : zzL} {st : List Value} {μ : zzM} {next : zzL → List Value → zzM → Option zzR} {jump : Nat → List Value → Option zzR}
    (h : zzstep call rk (.iastore) aux ls st μ next jump = some rr)
    (hn : ∀ ls' st' μ', next ls' st' μ' = some rr → zzW p l e R s m args below meth c Q D dA ad A nL (pc + len) ls' st' μ')
    (hj : ∀ t st', jump t st' = some rr → zzW p l e R s m args below meth c Q D dA ad A nL t ls st' μ) : zzW p l e R s m args below meth c Q D dA ad A nL pc ls st μ := by
  intro H locs lc hP hS hl
  obtain ⟨hx, hb, hml, hown, hts, hK, hnw, hinj, hA, hlocks, hrt⟩ := hX
  have hD : ∀ μ, va_D A (zzworld dA ad μ) := fun μ => zzD_of hinj (fun i hi => hA _ (Or.inl ⟨i, hi, rfl⟩))
  cases hw
  obtain ⟨a, i, v, r, he9, h9⟩ := zzas_s h
  clear h
  subst he9
  have h := h9
  clear h9
  try dsimp only at h
  obtain ⟨k, n, ts, hc, h⟩ := zzar_s h
  try dsimp only at h
  split at h
  · obtain ⟨μ', h1, h⟩ := Option.bind_eq_some_iff.mp h
    obtain ⟨hi, rfl⟩ := zzsi_s h1
    refine va_iast hx hb hK hP (hD μ) hS a 0 (zzworld_at hc) rfl hi hdg (fun H1 locs1 hP1 _ hS1 => hn _ _ _ h H1 locs1 lc ?_ hS1 hl)
    rw [zzset_eq hc ?_ (fun j d' hne => zzcell_wI j d' hne)] at hP1
    · exact hP1
    · show (Sum.inl (dA 0, n, .inl ((zzwI μ a i.toNatClampNeg v).1 a)) : va_E) = _
      rw [zzwI_row]
  · cases h
set_option maxHeartbeats 400000 in
set_option maxRecDepth 20000 in
theorem zs_bastore {rr : zzR} (hX : zzX p s m args meth c cc own nL rk D dA ad A) (hQ : Q = MQ below (zzQ D dA ad A rk rr) args s 0 0 A) {call : Nat → List Value → zzM → Option zzR} (hcall : zzCl l D dA ad P R call)
    {pc len : Nat} {aux : List (Nat × Nat)} (hdg : decode cc pc = .ok (.bastore, len)) (hw : zzwd P own nL len pc (.bastore) aux) {ls : zzL} {st : List Value} {μ : zzM} {next : zzL → List Value → zzM → Option zzR} {jump : Nat → List Value → Option zzR}
    (h : zzstep call rk (.bastore) aux ls st μ next jump = some rr)
    (hn : ∀ ls' st' μ', next ls' st' μ' = some rr → zzW p l e R s m args below meth c Q D dA ad A nL (pc + len) ls' st' μ')
    (hj : ∀ t st', jump t st' = some rr → zzW p l e R s m args below meth c Q D dA ad A nL t ls st' μ) : zzW p l e R s m args below meth c Q D dA ad A nL pc ls st μ := by
  intro H locs lc hP hS hl
  obtain ⟨hx, hb, hml, hown, hts, hK, hnw, hinj, hA, hlocks, hrt⟩ := hX
  have hD : ∀ μ, va_D A (zzworld dA ad μ) := fun μ => zzD_of hinj (fun i hi => hA _ (Or.inl ⟨i, hi, rfl⟩))
  cases hw
  obtain ⟨a, i, v, r, he9, h9⟩ := zzas_s h
  clear h
  subst he9
  have h := h9
  clear h9
  try dsimp only at h
  obtain ⟨k, n, ts, hc, h⟩ := zzar_s h
  try dsimp only at h
  split at h
  · split at h
    · rename_i hv
      obtain ⟨μ', h1, h⟩ := Option.bind_eq_some_iff.mp h
      obtain ⟨hi, rfl⟩ := zzsi_s h1
      refine va_zast hx hb hK hP (hD μ) hS a 1 (zzworld_at hc) rfl hi hdg (fun H1 locs1 hP1 _ hS1 => hn _ _ _ h H1 locs1 lc ?_ hS1 hl)
      rw [zznar hv, zzset_eq hc ?_ (fun j d' hne => zzcell_wI j d' hne)] at hP1
      · exact hP1
      · show (Sum.inl (dA 1, n, .inl ((zzwI μ a i.toNatClampNeg v).1 a)) : va_E) = _
        rw [zzwI_row]
    · cases h
  · obtain ⟨μ', h1, h⟩ := Option.bind_eq_some_iff.mp h
    obtain ⟨hi, rfl⟩ := zzsi_s h1
    refine va_bast hx hb hK hP (hD μ) hS a 2 (zzworld_at hc) rfl hi hdg (fun H1 locs1 hP1 _ hS1 => hn _ _ _ h H1 locs1 lc ?_ hS1 hl)
    rw [vp_nar_byte, zzset_eq hc ?_ (fun j d' hne => zzcell_wI j d' hne)] at hP1
    · exact hP1
    · show (Sum.inl (dA 2, n, .inl ((zzwI μ a i.toNatClampNeg v.toInt8.toInt32).1 a)) : va_E) = _
      rw [zzwI_row]
  · cases h
set_option maxHeartbeats 400000 in
set_option maxRecDepth 20000 in
theorem zs_lastore {rr : zzR} (hX : zzX p s m args meth c cc own nL rk D dA ad A) (hQ : Q = MQ below (zzQ D dA ad A rk rr) args s 0 0 A) {call : Nat → List Value → zzM → Option zzR} (hcall : zzCl l D dA ad P R call)
    {pc len : Nat} {aux : List (Nat × Nat)} (hdg : decode cc pc = .ok (.lastore, len)) (hw : zzwd P own nL len pc (.lastore) aux) {ls : zzL} {st : List Value} {μ : zzM} {next : zzL → List Value → zzM → Option zzR} {jump : Nat → List Value → Option zzR}
    (h : zzstep call rk (.lastore) aux ls st μ next jump = some rr)
    (hn : ∀ ls' st' μ', next ls' st' μ' = some rr → zzW p l e R s m args below meth c Q D dA ad A nL (pc + len) ls' st' μ')
    (hj : ∀ t st', jump t st' = some rr → zzW p l e R s m args below meth c Q D dA ad A nL t ls st' μ) : zzW p l e R s m args below meth c Q D dA ad A nL pc ls st μ := by
  intro H locs lc hP hS hl
  obtain ⟨hx, hb, hml, hown, hts, hK, hnw, hinj, hA, hlocks, hrt⟩ := hX
  have hD : ∀ μ, va_D A (zzworld dA ad μ) := fun μ => zzD_of hinj (fun i hi => hA _ (Or.inl ⟨i, hi, rfl⟩))
  cases hw
  obtain ⟨a, i, v, r, he9, h9⟩ := zzal_s h
  clear h
  subst he9
  have h := h9
  clear h9
  try dsimp only at h
  obtain ⟨k, n, ts, hc, h⟩ := zzar_s h
  try dsimp only at h
  split at h
  · obtain ⟨μ', h1, h⟩ := Option.bind_eq_some_iff.mp h
    obtain ⟨hi, rfl⟩ := zzsl_s h1
    refine va_last hx hb hK hP (hD μ) hS a 3 (zzworld_at hc) rfl hi hdg (fun H1 locs1 hP1 _ hS1 => hn _ _ _ h H1 locs1 lc ?_ hS1 hl)
    rw [zzset_eq hc ?_ (fun j d' hne => zzcell_wL j d' hne)] at hP1
    · exact hP1
    · show (Sum.inl (dA 3, n, .inr (.inl ((zzwL μ a i.toNatClampNeg v).2 a))) : va_E) = _
      rw [zzwL_row]
  · cases h
set_option maxHeartbeats 400000 in
set_option maxRecDepth 20000 in
theorem zs_ireturn {rr : zzR} (hX : zzX p s m args meth c cc own nL rk D dA ad A) (hQ : Q = MQ below (zzQ D dA ad A rk rr) args s 0 0 A) {call : Nat → List Value → zzM → Option zzR} (hcall : zzCl l D dA ad P R call)
    {pc len : Nat} {aux : List (Nat × Nat)} (hdg : decode cc pc = .ok (.ireturn, len)) (hw : zzwd P own nL len pc (.ireturn) aux) {ls : zzL} {st : List Value} {μ : zzM} {next : zzL → List Value → zzM → Option zzR} {jump : Nat → List Value → Option zzR}
    (h : zzstep call rk (.ireturn) aux ls st μ next jump = some rr)
    (hn : ∀ ls' st' μ', next ls' st' μ' = some rr → zzW p l e R s m args below meth c Q D dA ad A nL (pc + len) ls' st' μ')
    (hj : ∀ t st', jump t st' = some rr → zzW p l e R s m args below meth c Q D dA ad A nL t ls st' μ) : zzW p l e R s m args below meth c Q D dA ad A nL pc ls st μ := by
  intro H locs lc hP hS hl
  obtain ⟨hx, hb, hml, hown, hts, hK, hnw, hinj, hA, hlocks, hrt⟩ := hX
  have hD : ∀ μ, va_D A (zzworld dA ad μ) := fun μ => zzD_of hinj (fun i hi => hA _ (Or.inl ⟨i, hi, rfl⟩))
  cases hw
  obtain ⟨x, r, he9, h9⟩ := zzp1_s h
  clear h
  subst he9
  have h := h9
  clear h9
  try dsimp only at h
  obtain ⟨he8, h8⟩ := zzno_s h
  clear h
  subst he8
  have h := h8
  clear h8
  subst hQ
  try dsimp only at h
  split at h
  · cases h
    exact W.iret hx hb hrt (fun t ht hW => ⟨rfl, by rw [ht]; exact hP, va_K.moved hW.alike hK, hS.F ht⟩) hS.2.2 hdg hlocks
  · split at h
    · rename_i hv
      cases h
      exact W.zret hx hb hrt (zznarB hv) (fun t ht hW => ⟨rfl, by rw [ht]; exact hP, va_K.moved hW.alike hK, hS.F ht⟩) hS.2.2 hdg hlocks
    · cases h
  · cases h
set_option maxHeartbeats 400000 in
set_option maxRecDepth 20000 in
theorem zs_lreturn {rr : zzR} (hX : zzX p s m args meth c cc own nL rk D dA ad A) (hQ : Q = MQ below (zzQ D dA ad A rk rr) args s 0 0 A) {call : Nat → List Value → zzM → Option zzR} (hcall : zzCl l D dA ad P R call)
    {pc len : Nat} {aux : List (Nat × Nat)} (hdg : decode cc pc = .ok (.lreturn, len)) (hw : zzwd P own nL len pc (.lreturn) aux) {ls : zzL} {st : List Value} {μ : zzM} {next : zzL → List Value → zzM → Option zzR} {jump : Nat → List Value → Option zzR}
    (h : zzstep call rk (.lreturn) aux ls st μ next jump = some rr)
    (hn : ∀ ls' st' μ', next ls' st' μ' = some rr → zzW p l e R s m args below meth c Q D dA ad A nL (pc + len) ls' st' μ')
    (hj : ∀ t st', jump t st' = some rr → zzW p l e R s m args below meth c Q D dA ad A nL t ls st' μ) : zzW p l e R s m args below meth c Q D dA ad A nL pc ls st μ := by
  intro H locs lc hP hS hl
  obtain ⟨hx, hb, hml, hown, hts, hK, hnw, hinj, hA, hlocks, hrt⟩ := hX
  have hD : ∀ μ, va_D A (zzworld dA ad μ) := fun μ => zzD_of hinj (fun i hi => hA _ (Or.inl ⟨i, hi, rfl⟩))
  cases hw
  obtain ⟨x, r, he9, h9⟩ := zzq1_s h
  clear h
  subst he9
  have h := h9
  clear h9
  try dsimp only at h
  obtain ⟨he8, h8⟩ := zzno_s h
  clear h
  subst he8
  have h := h8
  clear h8
  subst hQ
  try dsimp only at h
  split at h
  · cases h
    exact W.lret hx hb hrt (fun t ht hW => ⟨rfl, by rw [ht]; exact hP, va_K.moved hW.alike hK, hS.F ht⟩) hS.2.2 hdg hlocks
  · cases h
set_option maxHeartbeats 400000 in
set_option maxRecDepth 20000 in
theorem zs_areturn {rr : zzR} (hX : zzX p s m args meth c cc own nL rk D dA ad A) (hQ : Q = MQ below (zzQ D dA ad A rk rr) args s 0 0 A) {call : Nat → List Value → zzM → Option zzR} (hcall : zzCl l D dA ad P R call)
    {pc len : Nat} {aux : List (Nat × Nat)} (hdg : decode cc pc = .ok (.areturn, len)) (hw : zzwd P own nL len pc (.areturn) aux) {ls : zzL} {st : List Value} {μ : zzM} {next : zzL → List Value → zzM → Option zzR} {jump : Nat → List Value → Option zzR}
    (h : zzstep call rk (.areturn) aux ls st μ next jump = some rr)
    (hn : ∀ ls' st' μ', next ls' st' μ' = some rr → zzW p l e R s m args below meth c Q D dA ad A nL (pc + len) ls' st' μ')
    (hj : ∀ t st', jump t st' = some rr → zzW p l e R s m args below meth c Q D dA ad A nL t ls st' μ) : zzW p l e R s m args below meth c Q D dA ad A nL pc ls st μ := by
  intro H locs lc hP hS hl
  obtain ⟨hx, hb, hml, hown, hts, hK, hnw, hinj, hA, hlocks, hrt⟩ := hX
  have hD : ∀ μ, va_D A (zzworld dA ad μ) := fun μ => zzD_of hinj (fun i hi => hA _ (Or.inl ⟨i, hi, rfl⟩))
  cases hw
  obtain ⟨x, r, he9, h9⟩ := zza1_s h
  clear h
  subst he9
  have h := h9
  clear h9
  try dsimp only at h
  obtain ⟨he8, h8⟩ := zzno_s h
  clear h
  subst he8
  have h := h8
  clear h8
  subst hQ
  try dsimp only at h
  split at h
  · cases h
    obtain ⟨n, hrt⟩ := hrt
    exact W.aret hx hb hrt (Or.inl ⟨n, rfl⟩) (Or.inr ⟨_, rfl⟩) (fun t ht hW => ⟨rfl, by rw [ht]; exact hP, va_K.moved hW.alike hK, hS.F ht⟩) hS.2.2 hdg hlocks
  · cases h
set_option maxHeartbeats 400000 in
set_option maxRecDepth 20000 in
theorem zs_return_ {rr : zzR} (hX : zzX p s m args meth c cc own nL rk D dA ad A) (hQ : Q = MQ below (zzQ D dA ad A rk rr) args s 0 0 A) {call : Nat → List Value → zzM → Option zzR} (hcall : zzCl l D dA ad P R call)
    {pc len : Nat} {aux : List (Nat × Nat)} (hdg : decode cc pc = .ok (.return_, len)) (hw : zzwd P own nL len pc (.return_) aux) {ls : zzL} {st : List Value} {μ : zzM} {next : zzL → List Value → zzM → Option zzR} {jump : Nat → List Value → Option zzR}
    (h : zzstep call rk (.return_) aux ls st μ next jump = some rr)
    (hn : ∀ ls' st' μ', next ls' st' μ' = some rr → zzW p l e R s m args below meth c Q D dA ad A nL (pc + len) ls' st' μ')
    (hj : ∀ t st', jump t st' = some rr → zzW p l e R s m args below meth c Q D dA ad A nL t ls st' μ) : zzW p l e R s m args below meth c Q D dA ad A nL pc ls st μ := by
  intro H locs lc hP hS hl
  obtain ⟨hx, hb, hml, hown, hts, hK, hnw, hinj, hA, hlocks, hrt⟩ := hX
  have hD : ∀ μ, va_D A (zzworld dA ad μ) := fun μ => zzD_of hinj (fun i hi => hA _ (Or.inl ⟨i, hi, rfl⟩))
  cases hw
  obtain ⟨he8, h8⟩ := zzno_s h
  clear h
  subst he8
  have h := h8
  clear h8
  subst hQ
  split at h
  · cases h
    exact W.vret hx hb hrt (fun t ht hW => ⟨rfl, by rw [ht]; exact hP, va_K.moved hW.alike hK, hS.F ht⟩) hS.2.2 hdg hlocks
  · cases h
set_option maxHeartbeats 400000 in
set_option maxRecDepth 20000 in
theorem zs_invokestatic {j : Nat} {rr : zzR} (hX : zzX p s m args meth c cc own nL rk D dA ad A) (hQ : Q = MQ below (zzQ D dA ad A rk rr) args s 0 0 A) {call : Nat → List Value → zzM → Option zzR} (hcall : zzCl l D dA ad P R call)
    {pc len : Nat} {aux : List (Nat × Nat)} (hdg : decode cc pc = .ok (.invokestatic j, len)) (hw : zzwd P own nL len pc (.invokestatic j) aux) {ls : zzL} {st : List Value} {μ : zzM} {next : zzL → List Value → zzM → Option zzR} {jump : Nat → List Value → Option zzR}
    (h : zzstep call rk (.invokestatic j) aux ls st μ next jump = some rr)
    (hn : ∀ ls' st' μ', next ls' st' μ' = some rr → zzW p l e R s m args below meth c Q D dA ad A nL (pc + len) ls' st' μ')
    (hj : ∀ t st', jump t st' = some rr → zzW p l e R s m args below meth c Q D dA ad A nL t ls st' μ) : zzW p l e R s m args below meth c Q D dA ad A nL pc ls st μ := by
  intro H locs lc hP hS hl
  obtain ⟨hx, hb, hml, hown, hts, hK, hnw, hinj, hA, hlocks, hrt⟩ := hX
  have hD : ∀ μ, va_D A (zzworld dA ad μ) := fun μ => zzD_of hinj (fun i hi => hA _ (Or.inl ⟨i, hi, rfl⟩))
  obtain ⟨rfl, hw⟩ := hw
  have h : ((zzcut (zzfst aux).2 st []).bind fun q => bif (zzcat q.2).ble 8 then
      (call (zzfst aux).1 q.1 μ).bind fun o => zzres (zzsnd aux) o fun t => next ls (t ++ q.2) o.2 else none) = some rr := h
  obtain ⟨⟨as, rest⟩, hq, h⟩ := Option.bind_eq_some_iff.mp h
  obtain ⟨bs, hbl, hst, has⟩ := zzcut_s _ _ _ _ _ hq
  rw [List.append_nil] at has
  subst has
  cases hb8 : (zzcat rest).ble 8 with
  | false => rw [hb8] at h; cases h
  | true =>
    simp only [hb8, cond_true] at h
    have hr8 : ((rest.map (zzcv ad)).map fun v => v.category).sum ≤ 8 := by rw [zzcat_s]; exact Nat.le_of_ble_eq_true hb8
    obtain ⟨o, ho, h⟩ := Option.bind_eq_some_iff.mp h
    obtain ⟨t, ht, h⟩ := zzres_s (ad := ad) h
    have hA1 : ∀ q, zzA ad H.size q → A q := fun q hq => hA q (zzAsub hS.1 q hq)
    have hgo : ∀ (H1 : Heap) (locs1 : List Loc), va_P D zzcl (zzworld dA ad o.2) H1 → va_S A s.heap H1 locs1 → W p l e R s m args below meth c H1 locs1 0 0 Q (F0 m (pc + 3) lc ((zzval ad (zzsnd aux).1 o).toList ++ rest.map (zzcv ad))) := by
      intro H1 locs1 hP1 hS1
      have := hn _ _ _ h H1 locs1 lc hP1 hS1 hl
      rw [List.map_append, ht] at this
      exact this
    have hstk : st.map (zzcv ad) = (as.map (zzcv ad)).reverse ++ rest.map (zzcv ad) := by rw [hst, List.map_append, List.map_reverse]
    rcases zz4 (zzfst aux).1 with hy | hy | hy | ⟨y, hy⟩
    · rw [hy] at ho hw
      obtain ⟨hlk, hn5, hk0⟩ := hw
      obtain ⟨⟨d, hR⟩, a, b, n0, n1, t0, t1, sp, dp, n, μ', rfl, ha, hb2, hcp, ho2⟩ := hcall.2.1 _ _ _ ho
      subst ho2
      obtain ⟨⟨g1, g2, g3, g4, g5⟩, e1, e2, e3⟩ := zzcp_cell hcp
      rw [hk0] at hgo
      rw [hstk]
      refine va_copyi (rest := rest.map (zzcv ad)) hx hb (hml.trans hl.1.symm) hown (hts _ hlk) (hts _ zzcpw.1) (hts _ zzcpw.2.1) (hts _ zzcpw.2.2) hK hP (hD μ) hS a b 0 0 (zzworld_at ha) (zzworld_at hb2) rfl rfl rfl g1 g2 g3 g4 g5 (fun i _ => rfl) (by rw [hR]; exact Nat.le_add_left _ _) (by rw [hR]; show _ + (7 + 11) ≤ 40 * (d + 1); omega) hdg (fun H1 locs1 hP1 _ hS1 => (show W p l e R s m args below meth c H1 locs1 0 0 Q (F0 m (pc + 3) lc (rest.map (zzcv ad))) from hgo H1 locs1 ?_ hS1))
      rw [zzset_eq hb2 ?_ (fun j d' hne => zzcell_congr d' (e2 j hne) (by rw [e3]))] at hP1
      · exact hP1
      · show (Sum.inl (dA 0, n1, .inl (μ'.1 b)) : va_E) = _
        rw [e1]
    · rw [hy] at ho hw
      obtain ⟨hlk, hn5, hk0⟩ := hw
      obtain ⟨⟨d, hR⟩, a, b, rfl, ho2⟩ := hcall.2.2.1 _ _ _ ho
      subst ho2
      rw [hk0] at hgo
      rw [hstk]
      exact va_mmin (rest := rest.map (zzcv ad)) hx hb (hml.trans hl.1.symm) hown (hts _ hlk) (hts _ zzmiw.1) (hts _ zzmiw.2.1) (hts _ zzmiw.2.2) (by rw [hR]; exact Nat.le_add_left _ _) (by rw [hR]; show _ + 13 ≤ 40 * (d + 1); omega) (Nat.zero_le _) (Nat.zero_le _) hdg (hgo H locs hP hS)
    · rw [hy] at ho hw
      obtain ⟨hlk, hn5, hk0⟩ := hw
      obtain ⟨⟨d, hR⟩, a, b, rfl, ho2⟩ := hcall.2.2.2 _ _ _ ho
      subst ho2
      rw [hk0] at hgo
      rw [hstk]
      exact va_mmin_long (rest := rest.map (zzcv ad)) hx hb (hml.trans hl.1.symm) hown (hts _ hlk) (hts _ zzmlw.1) (hts _ zzmiw.2.1) (hts _ zzmlw.2) (by rw [hR]; exact Nat.le_add_left _ _) (by rw [hR]; show _ + 15 ≤ 40 * (d + 1); omega) (Nat.zero_le _) (Nat.zero_le _) hdg (hgo H locs hP hS)
    · rw [hy] at ho hw
      obtain ⟨q, hPq, ⟨hcode, hini, hc1, hc2, hmL⟩, hstat, hrk, hpar, hlink⟩ := hw
      obtain ⟨d, hR, hM⟩ := hcall.1 y _ _ _ ho q hPq
      subst hR
      rw [hrk] at hgo
      have hroom : (zzroom d).frames + 1 ≤ (zzroom (d + 1)).frames ∧ 8 + (q.2.2.1 + 11) + (zzroom d).locals ≤ (zzroom (d + 1)).locals := ⟨Nat.le_refl _, by show 8 + (q.2.2.1 + 11) + 40 * d ≤ 40 * (d + 1); omega⟩
      have hpre : PreS s H (zzPc D dA ad as μ H.size) (as.map (zzcv ad)) := ⟨fun a U g mk q => by
          obtain ⟨q0, q1, qP, qK, qN⟩ := q
          exact ⟨q0, q1, qP, va_K.moved (u := U) (U := U.calling g mk a) (Vm.Alike.refl U.vm) qK, fun z hz => va_Nw.same rfl rfl (qN z hz)⟩,
        fun U hU hW => ⟨rfl, by rw [hU], by rw [hU]; exact hP, va_K.moved hW.alike hK, fun z hz => va_Nw.warmM hW (hnw z hz)⟩⟩
      rcases hlink with hlink | hlink
      · exact zzcall (va_runS (As := as.map (zzcv ad)) (rest := rest.map (zzcv ad)) ⟨hx, hb, hml, hown, hts⟩ (hM H.size) (va_cwS (zzfst aux).2 hts (zzgoodL (fun w hw => by
            rcases List.mem_cons.mp hw with rfl | hw
            · exact hlink
            rcases List.mem_cons.mp hw with rfl | hw
            · exact hstat
            rcases List.mem_cons.mp hw with rfl | hw
            · exact hini
            · cases hw) (zzgoodIn hcode)) rfl rfl rfl ⟨hc1, hc2, hpar⟩ hroom) hpre rfl (by rw [List.length_map, hbl]) hl.1 hstk (lv_room hr8) hdg ⟨Nat.le_refl _, Nat.le_refl _⟩) hS hA1 hgo
      · exact zzcall (va_runSN (As := as.map (zzcv ad)) (rest := rest.map (zzcv ad)) ⟨hx, hb, hml, hown, hts⟩ (hM H.size) ⟨va_cnB (zzfst aux).2 hts (zzgoodIn hcode) rfl rfl rfl (hnw _ hlink) (hts _ hini) ⟨hc1, hc2, hpar⟩ hroom, hts _ hstat, trivial⟩ hpre rfl (by rw [List.length_map, hbl]) hl.1 hstk (lv_room hr8) hdg ⟨Nat.le_refl _, Nat.le_refl _⟩) hS hA1 hgo
set_option maxHeartbeats 400000 in
set_option maxRecDepth 20000 in
theorem zs_invokevirtual {j : Nat} {rr : zzR} (hX : zzX p s m args meth c cc own nL rk D dA ad A) (hQ : Q = MQ below (zzQ D dA ad A rk rr) args s 0 0 A) {call : Nat → List Value → zzM → Option zzR} (hcall : zzCl l D dA ad P R call)
    {pc len : Nat} {aux : List (Nat × Nat)} (hdg : decode cc pc = .ok (.invokevirtual j, len)) (hw : zzwd P own nL len pc (.invokevirtual j) aux) {ls : zzL} {st : List Value} {μ : zzM} {next : zzL → List Value → zzM → Option zzR} {jump : Nat → List Value → Option zzR}
    (h : zzstep call rk (.invokevirtual j) aux ls st μ next jump = some rr)
    (hn : ∀ ls' st' μ', next ls' st' μ' = some rr → zzW p l e R s m args below meth c Q D dA ad A nL (pc + len) ls' st' μ')
    (hj : ∀ t st', jump t st' = some rr → zzW p l e R s m args below meth c Q D dA ad A nL t ls st' μ) : zzW p l e R s m args below meth c Q D dA ad A nL pc ls st μ := by
  intro H locs lc hP hS hl
  obtain ⟨hx, hb, hml, hown, hts, hK, hnw, hinj, hA, hlocks, hrt⟩ := hX
  have hD : ∀ μ, va_D A (zzworld dA ad μ) := fun μ => zzD_of hinj (fun i hi => hA _ (Or.inl ⟨i, hi, rfl⟩))
  obtain ⟨rfl, hw⟩ := hw
  have h : ((zzcut (zzfst aux).2 st []).bind fun q => zza1 q.2 fun c r => bif (zzcat r).ble 8 then zzfd c (zzthd aux).1 (zzthd aux).2 fun _ _ =>
      (call (zzfst aux).1 (.ref c :: q.1) μ).bind fun o => zzres (zzsnd aux) o fun t => next ls (t ++ r) o.2 else none) = some rr := h
  obtain ⟨⟨as, rest0⟩, hq, h⟩ := Option.bind_eq_some_iff.mp h
  obtain ⟨bs, hbl, hst, has⟩ := zzcut_s _ _ _ _ _ hq
  rw [List.append_nil] at has
  subst has
  obtain ⟨a, rest, he9, h⟩ := zza1_s h
  have he9 : rest0 = .ref a :: rest := he9
  subst he9
  cases hb8 : (zzcat rest).ble 8 with
  | false => rw [hb8] at h; cases h
  | true =>
    simp only [hb8, cond_true] at h
    have hr8 : ((rest.map (zzcv ad)).map fun v => v.category).sum ≤ 8 := by rw [zzcat_s]; exact Nat.le_of_ble_eq_true hb8
    obtain ⟨fs, ka, kb, hcc, hf, h⟩ := zzfd_s h
    obtain ⟨o, ho, h⟩ := Option.bind_eq_some_iff.mp h
    obtain ⟨t, ht, h⟩ := zzres_s (ad := ad) h
    have hA1 : ∀ q, zzA ad H.size q → A q := fun q hq => hA q (zzAsub hS.1 q hq)
    have hgo : ∀ (H1 : Heap) (locs1 : List Loc), va_P D zzcl (zzworld dA ad o.2) H1 → va_S A s.heap H1 locs1 → W p l e R s m args below meth c H1 locs1 0 0 Q (F0 m (pc + 3) lc ((zzval ad (zzsnd aux).1 o).toList ++ rest.map (zzcv ad))) := by
      intro H1 locs1 hP1 hS1
      have := hn _ _ _ h H1 locs1 lc hP1 hS1 hl
      rw [List.map_append, ht] at this
      exact this
    have hstk : st.map (zzcv ad) = (as.map (zzcv ad)).reverse ++ .ref (ad a) :: rest.map (zzcv ad) := by rw [hst, List.map_append, List.map_reverse]; rfl
    rcases zz4 (zzfst aux).1 with hy | hy | hy | ⟨y, hy⟩
    · rw [hy] at hw
      exact hw.elim
    · rw [hy] at hw
      exact hw.elim
    · rw [hy] at hw
      exact hw.elim
    · rw [hy] at ho hw
      obtain ⟨q, r, hPq, ⟨hcode, hini, hc1, hc2, hmL⟩, hcr, hrn, hins, hsel, hrk, hpar, hlink⟩ := hw
      obtain ⟨d, hR, hM⟩ := hcall.1 y _ _ _ ho q hPq
      subst hR
      rw [hrk] at hgo
      have hroom : (zzroom d).frames + 1 ≤ (zzroom (d + 1)).frames ∧ 8 + (q.2.2.1 + 11) + (zzroom d).locals ≤ (zzroom (d + 1)).locals := ⟨Nat.le_refl _, by show 8 + (q.2.2.1 + 11) + 40 * d ≤ 40 * (d + 1); omega⟩
      have hrecv : ∃ cell : Cell, H[ad a]? = some cell ∧ cell.vm.isStatics = false ∧ s.vm.findClass q.1.cls = some cell.cls := by
        rw [← hrn]
        exact va_recv hK hP hcr (zzworld_at hcc)
      have hpre : PreV s H q.1.cls (ad a) (zzPc D dA ad (.ref a :: as) μ H.size) (as.map (zzcv ad)) := ⟨fun a U g mk q => by
          obtain ⟨q0, q1, qP, qK, qN⟩ := q
          exact ⟨q0, q1, qP, va_K.moved (u := U) (U := U.calling g mk a) (Vm.Alike.refl U.vm) qK, fun z hz => va_Nw.same rfl rfl (qN z hz)⟩, hrecv,
        fun U hU hW => ⟨rfl, by rw [hU], by rw [hU]; exact hP, va_K.moved hW.alike hK, fun z hz => va_Nw.warmM hW (hnw z hz)⟩⟩
      exact zzcall (va_runV (As := as.map (zzcv ad)) (rest := rest.map (zzcv ad)) ⟨hx, hb, hml, hown, hts⟩ (hM H.size) (cwV (zzfst aux).2 hts (zzgoodL (fun w hw => by
            rcases List.mem_cons.mp hw with rfl | hw
            · exact hlink
            rcases List.mem_cons.mp hw with rfl | hw
            · exact hins
            rcases List.mem_cons.mp hw with rfl | hw
            · exact hsel
            rcases List.mem_cons.mp hw with rfl | hw
            · exact hini
            · cases hw) (zzgoodIn hcode)) rfl rfl rfl ⟨rfl, hc1, hc2, hpar⟩ hroom) hpre rfl (by rw [List.length_map, hbl]) hl.1 hstk (lv_room hr8) hdg ⟨Nat.le_refl _, Nat.le_refl _⟩) hS hA1 hgo
end
