/-! THE BUILDER: what the constructors do. Its heap is a list of cells, by the order in which they are made -/
abbrev zbE : Type := (Nat × List Value) ⊕ (Nat × Nat × List (Nat × Int32) × List (Option Nat))
abbrev zbH : Type := List zbE
def zbup : List (Nat × Int32) → Nat → Int32
  | [] => fun _ => 0
  | q :: r => upd (zbup r) q.1 q.2
def zbar (ad : Nat → Nat) (k : Nat) (q : List (Nat × Int32) × List (Option Nat)) : (Nat → Int32) ⊕ (Nat → Int64) ⊕ (Nat → UInt32) ⊕ (Nat → UInt64) ⊕ (Nat → Option Nat) := match k with
  | 3 => .inr (.inl (fun _ => 0))
  | 4 => .inr (.inr (.inr (.inr (fun j => ((q.2)[j]?.join).map ad))))
  | _ => .inl (zbup q.1)
def zbcell (dA : Nat → ClassId) (ad : Nat → Nat) (e : zbE) : va_E := match e with
  | .inl q => .inr (q.1, q.2.map (zzcv ad))
  | .inr q => .inl (dA q.1, q.2.1, zbar ad q.1 q.2.2)
def zbw (dA : Nat → ClassId) (ad : Nat → Nat) (h : zbH) : va_W := h.mapIdx fun i e => (ad i, zbcell dA ad e)
def zb4 (e : zbE) : Bool := match e with
  | .inr q => q.1.beq 4
  | .inl _ => false
def zbtys (dA : Nat → ClassId) (h : zbH) : List (ClassId × FieldType) := [(dA 0, .int), (dA 1, .boolean), (dA 2, .byte), (dA 3, .long)] ++ (bif h.any zb4 then [(dA 4, .object "PackedForest$Setting")] else [])
/-- references name cells that are there -/
def zbrk (n : Nat) (v : Value) : Bool := match v with
  | .ref a => a.blt n
  | _ => true
def zbre (n : Nat) (e : zbE) : Bool := match e with
  | .inl q => q.2.all (zbrk n)
  | .inr q => q.1.ble 4 && q.2.2.2.all fun o => (match o with
    | some a => a.blt n
    | none => true)
def zbok (ls : zzL) (st : List Value) (h : zbH) : Bool := (ls.all fun q => zbrk h.length q.2) && st.all (zbrk h.length) && h.all (zbre h.length)
/-- the addresses and array classes of a heap go on -/
def zbag (h : zbH) (dA : Nat → ClassId) (ad : Nat → Nat) (dA' : Nat → ClassId) (ad' : Nat → Nat) : Prop := (∀ i, i < h.length → ad' i = ad i) ∧ (∀ k, k ≤ 3 → dA' k = dA k) ∧ (h.any zb4 = true → dA' 4 = dA 4)
theorem zbr_ag {n : Nat} {ad ad' : Nat → Nat} {v : Value} (ha : ∀ i, i < n → ad' i = ad i) (h : zbrk n v = true) : zzcv ad' v = zzcv ad v := by
  cases v with
  | ref a =>
    have : a < n := of_decide_eq_true (by simpa [zbrk, Nat.blt_eq] using h)
    show Value.ref (ad' a) = Value.ref (ad a)
    rw [ha a this]
  | _ => rfl
theorem zbrs_ag {n : Nat} {ad ad' : Nat → Nat} (ha : ∀ i, i < n → ad' i = ad i) : ∀ {vs : List Value}, vs.all (zbrk n) = true → vs.map (zzcv ad') = vs.map (zzcv ad)
  | [], _ => rfl
  | v :: vs, h => by
    rw [List.all_cons, Bool.and_eq_true] at h
    rw [List.map_cons, List.map_cons, zbr_ag ha h.1, zbrs_ag ha h.2]
theorem zbls_ag {n : Nat} {ad ad' : Nat → Nat} (ha : ∀ i, i < n → ad' i = ad i) : ∀ {ls : zzL}, (ls.all fun q => zbrk n q.2) = true → zzlc ad' ls = zzlc ad ls
  | [], _ => rfl
  | v :: vs, h => by
    rw [List.all_cons, Bool.and_eq_true] at h
    have h2 := zbls_ag ha h.2
    unfold zzlc at h2 ⊢
    rw [List.map_cons, List.map_cons, zbr_ag ha h.1, h2]
theorem zbcell_ag {h : zbH} {dA dA' : Nat → ClassId} {ad ad' : Nat → Nat} (hag : zbag h dA ad dA' ad') {e : zbE} (he : e ∈ h) (hr : zbre h.length e = true) : zbcell dA' ad' e = zbcell dA ad e := by
  cases e with
  | inl q =>
    show (Sum.inr (q.1, q.2.map (zzcv ad')) : va_E) = Sum.inr (q.1, q.2.map (zzcv ad))
    rw [zbrs_ag hag.1 hr]
  | inr q =>
    obtain ⟨k, n, us, rs⟩ := q
    have hr : (k.ble 4 && rs.all fun o => (match o with
      | some a => a.blt h.length
      | none => true)) = true := hr
    rw [Bool.and_eq_true] at hr
    have hk : k ≤ 4 := Nat.le_of_ble_eq_true hr.1
    have hdA : dA' k = dA k := by
      by_cases h4 : k = 4
      · subst h4
        exact hag.2.2 (List.any_eq_true.mpr ⟨_, he, rfl⟩)
      · exact hag.2.1 k (by omega)
    show (Sum.inl (dA' k, n, zbar ad' k (us, rs)) : va_E) = Sum.inl (dA k, n, zbar ad k (us, rs))
    have ha : zbar ad' k (us, rs) = zbar ad k (us, rs) := by
      unfold zbar
      split
      · rfl
      · congr 4
        funext j
        cases hj : rs[j]? with
        | none => rfl
        | some o =>
          cases o with
          | none => rfl
          | some a =>
            have h2 := List.all_eq_true.mp hr.2 _ (List.mem_of_getElem? hj)
            have h3 : a < h.length := by simpa [Nat.blt_eq] using h2
            show some (ad' a) = some (ad a)
            rw [hag.1 a h3]
      · rfl
    rw [hdA, ha]
theorem zbw_ag {h : zbH} {dA dA' : Nat → ClassId} {ad ad' : Nat → Nat} (hag : zbag h dA ad dA' ad') (hr : h.all (zbre h.length) = true) : zbw dA' ad' h = zbw dA ad h := by
  apply List.ext_getElem?
  intro i
  unfold zbw
  rw [List.getElem?_mapIdx, List.getElem?_mapIdx]
  cases hi : h[i]? with
  | none => rfl
  | some e =>
    show some (ad' i, zbcell dA' ad' e) = some (ad i, zbcell dA ad e)
    rw [hag.1 i (List.getElem?_eq_some_iff.mp hi).1, zbcell_ag hag (List.mem_of_getElem? hi) (List.all_eq_true.mp hr e (List.mem_of_getElem? hi))]
theorem zbw_at {dA : Nat → ClassId} {ad : Nat → Nat} {h : zbH} {i : Nat} {e : zbE} (hi : h[i]? = some e) : (zbw dA ad h)[i]? = some (ad i, zbcell dA ad e) := by
  unfold zbw
  rw [List.getElem?_mapIdx, hi]
  rfl
theorem zbw_push {dA : Nat → ClassId} {ad : Nat → Nat} {h : zbH} {e : zbE} : zbw dA ad (h ++ [e]) = zbw dA ad h ++ [(ad h.length, zbcell dA ad e)] := by
  unfold zbw
  rw [List.mapIdx_append, List.mapIdx_cons, List.mapIdx_nil, Nat.zero_add]
theorem zbw_set {dA : Nat → ClassId} {ad : Nat → Nat} {h : zbH} {i : Nat} {e : zbE} {x : va_E} (hx : zbcell dA ad e = x) : (zbw dA ad h).set i (ad i, x) = zbw dA ad (h.set i e) := by
  subst hx
  apply List.ext_getElem?
  intro j
  unfold zbw
  rw [List.getElem?_set, List.getElem?_mapIdx, List.getElem?_mapIdx, List.getElem?_set, List.length_mapIdx]
  by_cases hj : i = j
  · subst hj
    by_cases hl : i < h.length
    · rw [if_pos rfl, if_pos hl, if_pos rfl, if_pos hl]; rfl
    · rw [if_pos rfl, if_neg hl, if_pos rfl, if_neg hl]; rfl
  · rw [if_neg hj, if_neg hj]
/-- one address more -/
def zbad (ad : Nat → Nat) (n q : Nat) : Nat → Nat := fun i => if i = n then q else ad i
theorem zbag_push {h : zbH} {dA : Nat → ClassId} {ad : Nat → Nat} {q : Nat} : zbag h dA ad dA (zbad ad h.length q) := ⟨fun i hi => if_neg (Nat.ne_of_lt hi), fun _ _ => rfl, fun _ => rfl⟩
theorem zbag_trans {h0 h : zbH} {d0 d1 d2 : Nat → ClassId} {a0 a1 a2 : Nat → Nat} (h1 : zbag h0 d0 a0 d1 a1) (h2 : zbag h d1 a1 d2 a2) (hl : h0.length ≤ h.length) (h4 : h0.any zb4 = true → h.any zb4 = true) : zbag h0 d0 a0 d2 a2 :=
  ⟨fun i hi => (h2.1 i (Nat.lt_of_lt_of_le hi hl)).trans (h1.1 i hi), fun k hk => (h2.2.1 k hk).trans (h1.2.1 k hk), fun h => (h2.2.2 (h4 h)).trans (h1.2.2 h)⟩
/-- a value of a field's type -/
def zbfit (ty : FieldType) (v : Value) : Bool := match ty, v with
  | .int, .int _ => true
  | .boolean, .int x => x == 0 || x == 1
  | .object _, .ref _ => true
  | .array _, .ref _ => true
  | _, _ => false
theorem zbfit_s {ty : FieldType} {v : Value} {ad : Nat → Nat} (h : zbfit ty v = true) : narrow ty (zzcv ad v) = zzcv ad v ∧ fits ty (zzcv ad v) = true := by
  unfold zbfit at h
  split at h
  · exact ⟨rfl, rfl⟩
  · rename_i x
    have hx : x = 0 ∨ x = 1 := by simpa using h
    exact ⟨zznarB hx, zzfitB hx⟩
  · exact ⟨rfl, rfl⟩
  · exact ⟨rfl, rfl⟩
  · cases h
/-- the fields of a new object -/
def zbnull (ci : Nat) : List Value := match zzcl[ci]? with
  | some r => (List.range r.2.2).map fun k => (match parseFieldDescriptor (r.2.1 k).2.2.1 with
    | some ty => defaultValue ty
    | none => .null)
  | none => []
def zbkind (t : ArrayType) : Nat := match t with
  | .int => 0
  | .boolean => 1
  | .byte => 2
  | .long => 3
  | _ => 9
/-- a constructor: name, bytes, locals, cells and slots that it makes, rows -/
abbrev zbT : Type := MethodName × ByteArray × Nat × (Nat × Nat) × List zzI
abbrev zbK : Type := Nat → zzL → List Value → zbH → Nat → Nat → Option zbH
def zbstep (P : List zbT) (call : Nat → List Value → zbH → Option zbH) (lim : Nat × Nat) (q : zzI) (ls : zzL) (st : List Value) (h : zbH) (cs ss : Nat) (k : zbK) : Option zbH :=
  match q.2.2.1, st with
  | .aload_n _, st => (match zzlk ls (zzfst q.2.2.2).1 with
    | some (.ref x) => k (q.1 + q.2.1) ls (.ref x :: st) h cs ss
    | _ => none)
  | .iload_n _, st => (match zzlk ls (zzfst q.2.2.2).1 with
    | some (.int x) => k (q.1 + q.2.1) ls (.int x :: st) h cs ss
    | _ => none)
  | .istore_n _, .int x :: st => k (q.1 + q.2.1) (zzset1 (zzfst q.2.2.2).1 (.int x) ls) st h cs ss
  | .iinc i _, st => (match zzlk ls i with
    | some (.int x) => k (q.1 + q.2.1) (zzset1 i (.int (zzinc x (zzfst q.2.2.2))) ls) st h cs ss
    | _ => none)
  | .iconst _, st => k (q.1 + q.2.1) ls (.int (zzkon (zzfst q.2.2.2)) :: st) h cs ss
  | .bipush _, st => k (q.1 + q.2.1) ls (.int (zzkon (zzfst q.2.2.2)) :: st) h cs ss
  | .sipush _, st => k (q.1 + q.2.1) ls (.int (zzkon (zzfst q.2.2.2)) :: st) h cs ss
  | .dup, .ref x :: st => k (q.1 + q.2.1) ls (.ref x :: .ref x :: st) h cs ss
  | .goto _, st => k (zzfst q.2.2.2).1 ls st h cs ss
  | .if_icmp .ge _, .int y :: .int x :: st => if y ≤ x then k (zzfst q.2.2.2).1 ls st h cs ss else k (q.1 + q.2.1) ls st h cs ss
  | .getfield _, .ref c :: st => (match h[c]? with
    | some (.inl (ci, fs)) => bif ci.beq (zzfst q.2.2.2).1 then (match fs[(zzfst q.2.2.2).2]? with
      | some v => k (q.1 + q.2.1) ls (v :: st) h cs ss
      | none => none) else none
    | _ => none)
  | .putfield _, v :: .ref c :: st => (match h[c]?, zzcl[(zzfst q.2.2.2).1]? with
    | some (.inl (ci, fs)), some r => bif ci.beq (zzfst q.2.2.2).1 && (zzfst q.2.2.2).2.blt fs.length && (match parseFieldDescriptor (r.2.1 (zzfst q.2.2.2).2).2.2.1 with
      | some ty => zbfit ty v
      | none => false) then k (q.1 + q.2.1) ls st (h.set c (.inl (ci, fs.set (zzfst q.2.2.2).2 v))) cs ss else none
    | _, _ => none)
  | .iastore, .int v :: .int i :: .ref c :: st => (match h[c]? with
    | some (.inr (0, n, us, rs)) => if i < 0 ∨ n ≤ i.toNatClampNeg then none else k (q.1 + q.2.1) ls st (h.set c (.inr (0, n, (i.toNatClampNeg, v) :: us, rs))) cs ss
    | _ => none)
  | .new _, st => bif zbok ls st h && (cs + 1).ble lim.1 && (ss + (zzfst q.2.2.2).2).ble lim.2 then k (q.1 + q.2.1) ls (.ref h.length :: st) (h ++ [.inl ((zzfst q.2.2.2).1, zbnull (zzfst q.2.2.2).1)]) (cs + 1) (ss + (zzfst q.2.2.2).2) else none
  | .newarray t, .int n :: st => if n < 0 then none else bif zbok ls st h && (cs + 1).ble lim.1 && (ss + n.toNatClampNeg).ble lim.2 && n.toNatClampNeg.ble 100000 && (zbkind t).ble 3 then k (q.1 + q.2.1) ls (.ref h.length :: st) (h ++ [.inr (zbkind t, n.toNatClampNeg, [], [])]) (cs + 1) (ss + n.toNatClampNeg) else none
  | .anewarray _, .int n :: st => if n < 0 then none else bif zbok ls st h && (cs + 1).ble lim.1 && (ss + n.toNatClampNeg).ble lim.2 && n.toNatClampNeg.ble 100000 && !h.any zb4 then k (q.1 + q.2.1) ls (.ref h.length :: st) (h ++ [.inr (4, n.toNatClampNeg, [], [])]) (cs + 1) (ss + n.toNatClampNeg) else none
  | .aastore, .ref a :: .int i :: .ref c :: st => (match h[c]?, h[a]? with
    | some (.inr (4, n, us, rs)), some (.inl (ci, _)) => if i < 0 ∨ n ≤ i.toNatClampNeg then none else bif ci.beq 7 && i.toNatClampNeg.beq rs.length then k (q.1 + q.2.1) ls st (h.set c (.inr (4, n, us, rs ++ [some a]))) cs ss else none
    | _, _ => none)
  | .invokespecial _, st => (zzcut (zzfst q.2.2.2).2 st []).bind fun u => (match u.2 with
    | .ref c :: r => (match (zzfst q.2.2.2).1 with
      | 0 => bif u.1.isEmpty && (zzcat r).ble 8 then k (q.1 + q.2.1) ls r h cs ss else none
      | y + 1 => (match P[y]? with
        | some p => bif zbok ls st h && (zzcat r).ble 8 && (cs + p.2.2.2.1.1).ble lim.1 && (ss + p.2.2.2.1.2).ble lim.2 then (call (y + 1) (.ref c :: u.1) h).bind fun h' => bif h.length.ble h'.length && (!h.any zb4 || h'.any zb4) then k (q.1 + q.2.1) ls r h' (cs + p.2.2.2.1.1) (ss + p.2.2.2.1.2) else none else none
        | none => none))
    | _ => none)
  | .return_, [] => bif cs.ble lim.1 && ss.ble lim.2 then some h else none
  | _, _ => none
def zbx (P : List zbT) (call : Nat → List Value → zbH → Option zbH) (lim : Nat × Nat) (rows : List zzI) : Nat → zbK
  | 0, _, _, _, _, _, _ => none
  | f + 1, pc, ls, st, h, cs, ss => (match zzdrop pc rows with
    | [] => none
    | q :: _ => zbstep P call lim q ls st h cs ss (zbx P call lim rows f))
def zbf (P : List zbT) : Nat → Nat → List Value → zbH → Option zbH
  | 0, _, _, _ => none
  | d + 1, y, as, h => (match y with
    | 0 => none
    | y + 1 => (match P[y]? with
      | some q => bif (zzcat as).ble q.2.2.1 then zbx P (zbf P d) q.2.2.2.1 q.2.2.2.2 600 0 (lv_args 0 as) [] h 0 0 else none
      | none => none))
