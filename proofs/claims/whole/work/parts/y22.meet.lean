/-! BEHIND BOTH CONSTRUCTORS: the builder's heap is the small machine's world, its memory zz0 -/
def zz0 : zzM := (fun c k => match zbfin[c]? with
  | some (.inl q) => (match q.2[k]? with
    | some (.int x) => x
    | _ => 0)
  | some (.inr q) => zbup q.2.2.1 k
  | none => 0, fun _ _ => 0)
def zzcf (v : Value) (q : Nat × Nat) : Bool := match q.1, v with
  | 0, .int _ => true
  | 1, .int _ => true
  | 2, .long x => x == 0
  | 3, .ref a => a.beq q.2
  | _, _ => false
def zzcfs : List Value → List (Nat × Nat) → Bool
  | [], [] => true
  | v :: r, q :: t => zzcf v q && zzcfs r t
  | _, _ => false
def zzcm (e : zbE) (d : zzD) : Bool := match e, d with
  | .inl a, .inl b => a.1.beq b.1 && zzcfs a.2 b.2
  | .inr a, .inr b => a.1.beq b.1 && a.2.1.beq b.2.1 && a.1.ble 4 && decide (a.2.2.2 = b.2.2.map some)
  | _, _ => false
def zzcms : List zbE → List zzD → Bool
  | [], [] => true
  | e :: r, d :: t => zzcm e d && zzcms r t
  | _, _ => false
theorem zzcms_fin : zzcms zbfin zzcells = true := by decide +kernel
theorem zzcms_at : ∀ {l1 : List zbE} {l2 : List zzD}, zzcms l1 l2 = true → ∀ i : Nat, (l1[i]? = none ∧ l2[i]? = none) ∨ ∃ e d, l1[i]? = some e ∧ l2[i]? = some d ∧ zzcm e d = true
  | [], [], _, i => Or.inl ⟨rfl, rfl⟩
  | e :: r, d :: t, h, i => by
    unfold zzcms at h
    rw [Bool.and_eq_true] at h
    cases i with
    | zero => exact Or.inr ⟨e, d, rfl, rfl, h.1⟩
    | succ i => exact zzcms_at h.2 i
  | [], _ :: _, h, _ => by cases h
  | _ :: _, [], h, _ => by cases h
theorem zzcfs_at : ∀ {l1 : List Value} {l2 : List (Nat × Nat)}, zzcfs l1 l2 = true → ∀ i : Nat, (l1[i]? = none ∧ l2[i]? = none) ∨ ∃ e d, l1[i]? = some e ∧ l2[i]? = some d ∧ zzcf e d = true
  | [], [], _, i => Or.inl ⟨rfl, rfl⟩
  | e :: r, d :: t, h, i => by
    unfold zzcfs at h
    rw [Bool.and_eq_true] at h
    cases i with
    | zero => exact Or.inr ⟨e, d, rfl, rfl, h.1⟩
    | succ i => exact zzcfs_at h.2 i
  | [], _ :: _, h, _ => by cases h
  | _ :: _, [], h, _ => by cases h
theorem zzmeet (dA : Nat → ClassId) (ad : Nat → Nat) : zbw dA ad zbfin = zzworld dA ad zz0 := by
  apply List.ext_getElem?
  intro i
  unfold zbw zzworld
  rw [List.getElem?_mapIdx, List.getElem?_mapIdx]
  rcases zzcms_at zzcms_fin i with ⟨h1, h2⟩ | ⟨e, d, h1, h2, h3⟩
  · rw [h1, h2]; rfl
  · rw [h1, h2]
    show some (ad i, zbcell dA ad e) = some (ad i, zzcell dA ad zz0 i d)
    congr 2
    unfold zzcm at h3
    split at h3
    · rename_i a b
      rw [Bool.and_eq_true] at h3
      show (Sum.inr (a.1, a.2.map (zzcv ad)) : va_E) = Sum.inr (b.1, b.2.mapIdx fun k x => zzfv ad zz0 i k x)
      rw [Nat.eq_of_beq_eq_true h3.1]
      congr 2
      apply List.ext_getElem?
      intro k
      rw [List.getElem?_map, List.getElem?_mapIdx]
      rcases zzcfs_at h3.2 k with ⟨g1, g2⟩ | ⟨v, q, g1, g2, g3⟩
      · rw [g1, g2]; rfl
      · rw [g1, g2]
        show some (zzcv ad v) = some (zzfv ad zz0 i k q)
        congr 1
        have e0 : ∀ x, v = .int x → zz0.1 i k = x := by
          intro x hx
          show (match zbfin[i]? with
            | some (.inl q) => (match q.2[k]? with
              | some (.int x) => x
              | _ => 0)
            | some (.inr q) => zbup q.2.2.1 k
            | none => 0) = x
          rw [h1]
          show (match a.2[k]? with
              | some (.int x) => x
              | _ => 0) = x
          rw [g1, hx]
        obtain ⟨q1, q2⟩ := q
        unfold zzcf at g3
        split at g3
        · rename_i x hq
          have hq : q1 = 0 := hq
          subst hq
          show Value.int x = Value.int (zz0.1 i k)
          rw [e0 x rfl]
        · rename_i x hq
          have hq : q1 = 1 := hq
          subst hq
          show Value.int x = Value.int (zz0.1 i k)
          rw [e0 x rfl]
        · rename_i x hq
          have hq : q1 = 2 := hq
          subst hq
          have hx : x = 0 := by simpa using g3
          rw [hx]
          rfl
        · rename_i x hq
          have hq : q1 = 3 := hq
          subst hq
          have hx : x = q2 := Nat.eq_of_beq_eq_true g3
          rw [hx]
          rfl
        · cases g3
    · rename_i a b
      simp only [Bool.and_eq_true, decide_eq_true_eq] at h3
      obtain ⟨⟨⟨e1, e2⟩, e3⟩, e4⟩ := h3
      obtain ⟨k, n, us, rs⟩ := a
      obtain ⟨k2, n2, ts⟩ := b
      have f1 : k = k2 := Nat.eq_of_beq_eq_true e1
      have f2 : n = n2 := Nat.eq_of_beq_eq_true e2
      have f4 : rs = ts.map some := e4
      clear e1 e2 e4
      subst f1
      subst f2
      subst f4
      show (Sum.inl (dA k, n, zbar ad k (us, ts.map some)) : va_E) = Sum.inl (dA k, n, zzav ad zz0 i k ts)
      congr 4
      have e5 : zz0.1 i = zbup us := by
        funext j
        show (match zbfin[i]? with
            | some (.inl q) => (match q.2[j]? with
              | some (.int x) => x
              | _ => 0)
            | some (.inr q) => zbup q.2.2.1 j
            | none => 0) = zbup us j
        rw [h1]
      unfold zbar zzav
      split
      · rfl
      · show (Sum.inr (Sum.inr (Sum.inr (Sum.inr (fun j => ((ts.map some)[j]?.join).map ad)))) : (Nat → Int32) ⊕ (Nat → Int64) ⊕ (Nat → UInt32) ⊕ (Nat → UInt64) ⊕ (Nat → Option Nat)) = Sum.inr (Sum.inr (Sum.inr (Sum.inr (fun j => (ts[j]?).map ad))))
        congr 4
        funext j
        rw [List.getElem?_map]
        cases ts[j]? <;> rfl
      · rename_i g3 g4
        rw [e5]
        split
        next => exact (g3 rfl).elim
        next => exact (g4 rfl).elim
        next => rfl
    · cases h3
theorem zbfin_4 : zbfin.any zb4 = true := by decide +kernel
theorem zbfin_len : zbfin.length = zzn := by decide +kernel
theorem zbtys_fin (dA : Nat → ClassId) : zbtys dA zbfin = zztys dA := by
  unfold zbtys
  rw [zbfin_4]
  rfl
