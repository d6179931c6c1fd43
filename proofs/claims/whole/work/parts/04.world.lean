/-! THE WORLD OF THE SMALL MACHINE: its cells in the heap; what a row of code must have; what a state of it says of the machine -/
def zzcv (ad : Nat → Nat) : Value → Value
  | .ref x => .ref (ad x)
  | v => v
theorem zzcv_cat (ad : Nat → Nat) (v : Value) : (zzcv ad v).category = v.category := by cases v <;> rfl
def zzfv (ad : Nat → Nat) (μ : zzM) (i k : Nat) (q : Nat × Nat) : Value := match q.1 with
  | 0 => .int (μ.1 i k)
  | 1 => .int (μ.1 i k)
  | 2 => .long (μ.2 i k)
  | _ => .ref (ad q.2)
def zzav (ad : Nat → Nat) (μ : zzM) (i k : Nat) (ts : List Nat) : (Nat → Int32) ⊕ (Nat → Int64) ⊕ (Nat → UInt32) ⊕ (Nat → UInt64) ⊕ (Nat → Option Nat) := match k with
  | 3 => .inr (.inl (μ.2 i))
  | 4 => .inr (.inr (.inr (.inr (fun j => (ts[j]?).map ad))))
  | _ => .inl (μ.1 i)
def zzcell (dA : Nat → ClassId) (ad : Nat → Nat) (μ : zzM) (i : Nat) (d : zzD) : va_E := match d with
  | .inl q => .inr (q.1, q.2.mapIdx fun k x => zzfv ad μ i k x)
  | .inr q => .inl (dA q.1, q.2.1, zzav ad μ i q.1 q.2.2)
def zzworld (dA : Nat → ClassId) (ad : Nat → Nat) (μ : zzM) : va_W := zzcells.mapIdx fun i d => (ad i, zzcell dA ad μ i d)
theorem zzworld_at {dA : Nat → ClassId} {ad : Nat → Nat} {μ : zzM} {i : Nat} {d : zzD} (h : zzcells[i]? = some d) : (zzworld dA ad μ)[i]? = some (ad i, zzcell dA ad μ i d) := by
  unfold zzworld
  rw [List.getElem?_mapIdx, h]
  rfl
theorem zzworld_inv {dA : Nat → ClassId} {ad : Nat → Nat} {μ : zzM} {i : Nat} {q : Nat × va_E} (h : (zzworld dA ad μ)[i]? = some q) : ∃ d, zzcells[i]? = some d ∧ q = (ad i, zzcell dA ad μ i d) := by
  unfold zzworld at h
  rw [List.getElem?_mapIdx] at h
  cases hd : zzcells[i]? with
  | none => rw [hd] at h; cases h
  | some d => rw [hd] at h; exact ⟨d, rfl, (Option.some.inj h).symm⟩
theorem zzset_eq {dA : Nat → ClassId} {ad : Nat → Nat} {μ μ' : zzM} {i : Nat} {d : zzD} {e : va_E} (hd : zzcells[i]? = some d) (he : zzcell dA ad μ' i d = e) (ho : ∀ j d', j ≠ i → zzcell dA ad μ' j d' = zzcell dA ad μ j d') : (zzworld dA ad μ).set i (ad i, e) = zzworld dA ad μ' := by
  apply List.ext_getElem?
  intro j
  rw [List.getElem?_set]
  by_cases hj : i = j
  · subst hj
    have hl : i < (zzworld dA ad μ).length := (List.getElem?_eq_some_iff.mp (zzworld_at hd)).1
    rw [if_pos rfl, if_pos hl, zzworld_at hd, he]
  · rw [if_neg hj]
    unfold zzworld
    rw [List.getElem?_mapIdx, List.getElem?_mapIdx]
    cases zzcells[j]? with
    | none => rfl
    | some d' => simp only [Option.map_some, ho j d' (fun h => hj h.symm)]
theorem zzcell_wI {dA : Nat → ClassId} {ad : Nat → Nat} {μ : zzM} {i k : Nat} {v : Int32} (j : Nat) (d : zzD) (h : j ≠ i) : zzcell dA ad (zzwI μ i k v) j d = zzcell dA ad μ j d := by
  have h1 : (zzwI μ i k v).1 j = μ.1 j := by
    funext x
    show (if j = i ∧ x = k then v else μ.1 j x) = μ.1 j x
    rw [if_neg (fun q => h q.1)]
  have h2 : (zzwI μ i k v).2 = μ.2 := rfl
  cases d with
  | inl q =>
    show (Sum.inr (q.1, q.2.mapIdx fun k' x => zzfv ad (zzwI μ i k v) j k' x) : va_E) = Sum.inr (q.1, q.2.mapIdx fun k' x => zzfv ad μ j k' x)
    have : (fun k' x => zzfv ad (zzwI μ i k v) j k' x) = (fun k' x => zzfv ad μ j k' x) := by
      funext k' x
      unfold zzfv
      rw [h1, h2]
    rw [this]
  | inr q =>
    show (Sum.inl (dA q.1, q.2.1, zzav ad (zzwI μ i k v) j q.1 q.2.2) : va_E) = Sum.inl (dA q.1, q.2.1, zzav ad μ j q.1 q.2.2)
    unfold zzav
    rw [h1, h2]
theorem zzcell_wL {dA : Nat → ClassId} {ad : Nat → Nat} {μ : zzM} {i k : Nat} {v : Int64} (j : Nat) (d : zzD) (h : j ≠ i) : zzcell dA ad (zzwL μ i k v) j d = zzcell dA ad μ j d := by
  have h1 : (zzwL μ i k v).2 j = μ.2 j := by
    funext x
    show (if j = i ∧ x = k then v else μ.2 j x) = μ.2 j x
    rw [if_neg (fun q => h q.1)]
  have h2 : (zzwL μ i k v).1 = μ.1 := rfl
  cases d with
  | inl q =>
    show (Sum.inr (q.1, q.2.mapIdx fun k' x => zzfv ad (zzwL μ i k v) j k' x) : va_E) = Sum.inr (q.1, q.2.mapIdx fun k' x => zzfv ad μ j k' x)
    have : (fun k' x => zzfv ad (zzwL μ i k v) j k' x) = (fun k' x => zzfv ad μ j k' x) := by
      funext k' x
      unfold zzfv
      rw [h1, h2]
    rw [this]
  | inr q =>
    show (Sum.inl (dA q.1, q.2.1, zzav ad (zzwL μ i k v) j q.1 q.2.2) : va_E) = Sum.inl (dA q.1, q.2.1, zzav ad μ j q.1 q.2.2)
    unfold zzav
    rw [h1, h2]
theorem zzwI_row (μ : zzM) (i k : Nat) (v : Int32) : (zzwI μ i k v).1 i = upd (μ.1 i) k v := by
  funext x
  show (if i = i ∧ x = k then v else μ.1 i x) = if x = k then v else μ.1 i x
  by_cases h : x = k <;> simp [h]
theorem zzwL_row (μ : zzM) (i k : Nat) (v : Int64) : (zzwL μ i k v).2 i = vp_updL (μ.2 i) k v := by
  funext x
  show (if i = i ∧ x = k then v else μ.2 i x) = if x = k then v else μ.2 i x
  by_cases h : x = k <;> simp [h]
theorem zzav_int {ad : Nat → Nat} {μ : zzM} {i k : Nat} {ts : List Nat} (h : k = 0 ∨ k = 1 ∨ k = 2) : zzav ad μ i k ts = .inl (μ.1 i) := by
  rcases h with rfl | rfl | rfl <;> rfl
theorem zzput_fs {ad : Nat → Nat} {μ μ' : zzM} {i k : Nat} {fs : List (Nat × Nat)} {a b : Nat} {v : Value} (hk : fs[k]? = some (a, b)) (hv : zzfv ad μ' i k (a, b) = v) (ho : ∀ k' q, k' ≠ k → zzfv ad μ' i k' q = zzfv ad μ i k' q) : (fs.mapIdx fun k x => zzfv ad μ i k x).set k v = fs.mapIdx fun k x => zzfv ad μ' i k x := by
  apply List.ext_getElem?
  intro j
  rw [List.getElem?_set]
  by_cases hj : k = j
  · subst hj
    have hl : k < fs.length := (List.getElem?_eq_some_iff.mp hk).1
    rw [if_pos rfl, if_pos (by rw [List.length_mapIdx]; exact hl), List.getElem?_mapIdx, hk]
    simp only [Option.map_some, hv]
  · rw [if_neg hj, List.getElem?_mapIdx, List.getElem?_mapIdx]
    cases fs[j]? with
    | none => rfl
    | some d' => simp only [Option.map_some, ho j d' (fun h => hj h.symm)]
def zzn : Nat := zzcells.length
/-- the cells of the world and those that are new -/
def zzA (ad : Nat → Nat) (sz : Nat) : Nat → Prop := fun q => (∃ i, i < zzn ∧ q = ad i) ∨ sz ≤ q
def zzinj (ad : Nat → Nat) : Prop := ∀ i j, i < zzn → j < zzn → ad i = ad j → i = j
theorem zzD_of {dA : Nat → ClassId} {ad : Nat → Nat} {μ : zzM} {A : Nat → Prop} (hi : zzinj ad) (hA : ∀ i, i < zzn → A (ad i)) : va_D A (zzworld dA ad μ) := by
  refine ⟨fun i j p q hp hq he => ?_, fun k q hq => ?_⟩
  · obtain ⟨d, h1, rfl⟩ := zzworld_inv hp
    obtain ⟨d', h2, rfl⟩ := zzworld_inv hq
    exact hi i j (List.getElem?_eq_some_iff.mp h1).1 (List.getElem?_eq_some_iff.mp h2).1 he
  · obtain ⟨d, h1, rfl⟩ := zzworld_inv hq
    exact hA k (List.getElem?_eq_some_iff.mp h1).1
def zztys (dA : Nat → ClassId) : List (ClassId × FieldType) := [(dA 0, .int), (dA 1, .boolean), (dA 2, .byte), (dA 3, .long), (dA 4, .object "PackedForest$Setting")]
-- the tables' words that hold on over calls
def zzTb : List Cond := lw_tbl.filter goodWord
theorem zzTb_of {w : Cond} (h : w ∈ lw_tbl) (hg : goodWord w = true) : w ∈ zzTb := List.mem_filter.mpr ⟨h, hg⟩
theorem zzTb_in {w : Cond} (h : w ∈ zzTb) : w ∈ lw_tbl ∧ goodWord w = true := List.mem_filter.mp h
-- the classes
theorem zzws0 : ∀ w ∈ u_ws zzR0 zzT0 7, w ∈ zzTb := fun w h => zzTb_of ((by decide +kernel : ∀ w ∈ u_ws zzR0 zzT0 7, w ∈ lw_tbl) w h) ((by decide +kernel : ∀ w ∈ u_ws zzR0 zzT0 7, goodWord w = true) w h)
theorem zzws1 : ∀ w ∈ u_ws zzR1 zzT1 5, w ∈ zzTb := fun w h => zzTb_of ((by decide +kernel : ∀ w ∈ u_ws zzR1 zzT1 5, w ∈ lw_tbl) w h) ((by decide +kernel : ∀ w ∈ u_ws zzR1 zzT1 5, goodWord w = true) w h)
theorem zzws2 : ∀ w ∈ u_ws zzR2 zzT2 11, w ∈ zzTb := fun w h => zzTb_of ((by decide +kernel : ∀ w ∈ u_ws zzR2 zzT2 11, w ∈ lw_tbl) w h) ((by decide +kernel : ∀ w ∈ u_ws zzR2 zzT2 11, goodWord w = true) w h)
theorem zzws3 : ∀ w ∈ u_ws zzR3 zzT3 10, w ∈ zzTb := fun w h => zzTb_of ((by decide +kernel : ∀ w ∈ u_ws zzR3 zzT3 10, w ∈ lw_tbl) w h) ((by decide +kernel : ∀ w ∈ u_ws zzR3 zzT3 10, goodWord w = true) w h)
theorem zzws4 : ∀ w ∈ u_ws zzR4 zzT4 8, w ∈ zzTb := fun w h => zzTb_of ((by decide +kernel : ∀ w ∈ u_ws zzR4 zzT4 8, w ∈ lw_tbl) w h) ((by decide +kernel : ∀ w ∈ u_ws zzR4 zzT4 8, goodWord w = true) w h)
theorem zzws5 : ∀ w ∈ u_ws zzR5 zzT5 8, w ∈ zzTb := fun w h => zzTb_of ((by decide +kernel : ∀ w ∈ u_ws zzR5 zzT5 8, w ∈ lw_tbl) w h) ((by decide +kernel : ∀ w ∈ u_ws zzR5 zzT5 8, goodWord w = true) w h)
theorem zzws6 : ∀ w ∈ u_ws zzR6 zzT6 4, w ∈ zzTb := fun w h => zzTb_of ((by decide +kernel : ∀ w ∈ u_ws zzR6 zzT6 4, w ∈ lw_tbl) w h) ((by decide +kernel : ∀ w ∈ u_ws zzR6 zzT6 4, goodWord w = true) w h)
theorem zzws7 : ∀ w ∈ u_ws zzR7 zzT7 11, w ∈ zzTb := fun w h => zzTb_of ((by decide +kernel : ∀ w ∈ u_ws zzR7 zzT7 11, w ∈ lw_tbl) w h) ((by decide +kernel : ∀ w ∈ u_ws zzR7 zzT7 11, goodWord w = true) w h)
theorem zzws8 : ∀ w ∈ u_ws zzR8 zzT8 9, w ∈ zzTb := fun w h => zzTb_of ((by decide +kernel : ∀ w ∈ u_ws zzR8 zzT8 9, w ∈ lw_tbl) w h) ((by decide +kernel : ∀ w ∈ u_ws zzR8 zzT8 9, goodWord w = true) w h)
theorem zzws9 : ∀ w ∈ u_ws zzR9 zzT9 4, w ∈ zzTb := fun w h => zzTb_of ((by decide +kernel : ∀ w ∈ u_ws zzR9 zzT9 4, w ∈ lw_tbl) w h) ((by decide +kernel : ∀ w ∈ u_ws zzR9 zzT9 4, goodWord w = true) w h)
theorem zzws10 : ∀ w ∈ u_ws zzR10 zzT10 6, w ∈ zzTb := fun w h => zzTb_of ((by decide +kernel : ∀ w ∈ u_ws zzR10 zzT10 6, w ∈ lw_tbl) w h) ((by decide +kernel : ∀ w ∈ u_ws zzR10 zzT10 6, goodWord w = true) w h)
theorem zzws11 : ∀ w ∈ u_ws zzR11 zzT11 15, w ∈ zzTb := fun w h => zzTb_of ((by decide +kernel : ∀ w ∈ u_ws zzR11 zzT11 15, w ∈ lw_tbl) w h) ((by decide +kernel : ∀ w ∈ u_ws zzR11 zzT11 15, goodWord w = true) w h)
theorem zzws12 : ∀ w ∈ u_ws zzR12 zzT12 72, w ∈ zzTb := fun w h => zzTb_of ((by decide +kernel : ∀ w ∈ u_ws zzR12 zzT12 72, w ∈ lw_tbl) w h) ((by decide +kernel : ∀ w ∈ u_ws zzR12 zzT12 72, goodWord w = true) w h)
/-- a class of the table: its types, names apart, its words -/
def zzok_cl (q : vw_C) (ty : Nat → FieldType) : Prop := (∀ k, k < q.2.2 → parseFieldDescriptor (q.2.1 k).2.2.1 = some (ty k)) ∧ (∀ a, a < q.2.2 → ∀ b, b < q.2.2 → a ≠ b → (q.2.1 a).2.1 ≠ (q.2.1 b).2.1) ∧ ∀ w ∈ u_ws q.1 q.2.1 q.2.2, w ∈ zzTb
theorem zzcls : ∀ (ci : Nat) (q : vw_C), zzcl[ci]? = some q → ∃ ty, zzok_cl q ty := by
  intro ci q h
  match ci, h with
  | 0, h => exact ⟨zzt0, by cases h; exact ⟨zzt0_ok, zzn0, zzws0⟩⟩
  | 1, h => exact ⟨zzt1, by cases h; exact ⟨zzt1_ok, zzn1, zzws1⟩⟩
  | 2, h => exact ⟨zzt2, by cases h; exact ⟨zzt2_ok, zzn2, zzws2⟩⟩
  | 3, h => exact ⟨zzt3, by cases h; exact ⟨zzt3_ok, zzn3, zzws3⟩⟩
  | 4, h => exact ⟨zzt4, by cases h; exact ⟨zzt4_ok, zzn4, zzws4⟩⟩
  | 5, h => exact ⟨zzt5, by cases h; exact ⟨zzt5_ok, zzn5, zzws5⟩⟩
  | 6, h => exact ⟨zzt6, by cases h; exact ⟨zzt6_ok, zzn6, zzws6⟩⟩
  | 7, h => exact ⟨zzt7, by cases h; exact ⟨zzt7_ok, zzn7, zzws7⟩⟩
  | 8, h => exact ⟨zzt8, by cases h; exact ⟨zzt8_ok, zzn8, zzws8⟩⟩
  | 9, h => exact ⟨zzt9, by cases h; exact ⟨zzt9_ok, zzn9, zzws9⟩⟩
  | 10, h => exact ⟨zzt10, by cases h; exact ⟨zzt10_ok, zzn10, zzws10⟩⟩
  | 11, h => exact ⟨zzt11, by cases h; exact ⟨zzt11_ok, zzn11, zzws11⟩⟩
  | 12, h => exact ⟨zzt12, by cases h; exact ⟨zzt12_ok, zzn12, zzws12⟩⟩
  | n + 13, h => cases h
/-- a field's kind is its type's -/
def zzkd (t : Option FieldType) (a : Nat) : Bool := match a, t with
  | 0, some .int => true
  | 1, some .boolean => true
  | 2, some .long => true
  | 3, some (.object _) => true
  | 3, some (.array _) => true
  | _, _ => false
def zzkd_row (d : zzD) : Bool := match d with
  | .inl q => (match zzcl[q.1]? with
    | some r => q.2.length.beq r.2.2 && (List.range r.2.2).all fun k => zzkd (parseFieldDescriptor (r.2.1 k).2.2.1) (q.2.getD k (9, 9)).1
    | none => false)
  | .inr q => q.1.ble 4 && (q.2.2.length.ble q.2.1 && q.2.1.ble 100000)
theorem zzkd_all : zzcells.all zzkd_row = true := by decide +kernel
theorem zzkd_arr {c k n : Nat} {ts : List Nat} (h : zzcells[c]? = some (.inr (k, n, ts))) : k ≤ 4 ∧ ts.length ≤ n ∧ n ≤ 100000 := by
  have h1 := List.all_eq_true.mp zzkd_all _ (List.mem_of_getElem? h)
  have h2 : (k.ble 4 && (ts.length.ble n && n.ble 100000)) = true := h1
  simp only [Bool.and_eq_true] at h2
  exact ⟨Nat.le_of_ble_eq_true h2.1, Nat.le_of_ble_eq_true h2.2.1, Nat.le_of_ble_eq_true h2.2.2⟩
theorem zztys_at (dA : Nat → ClassId) {k : Nat} (hk : k ≤ 4) : ∃ ty, (zztys dA)[k]? = some (dA k, ty) := by
  match k, hk with
  | 0, _ => exact ⟨_, rfl⟩
  | 1, _ => exact ⟨_, rfl⟩
  | 2, _ => exact ⟨_, rfl⟩
  | 3, _ => exact ⟨_, rfl⟩
  | 4, _ => exact ⟨_, rfl⟩
theorem zzcell_congr {dA : Nat → ClassId} {ad : Nat → Nat} {μ μ' : zzM} {j : Nat} (d : zzD) (h1 : μ'.1 j = μ.1 j) (h2 : μ'.2 j = μ.2 j) : zzcell dA ad μ' j d = zzcell dA ad μ j d := by
  cases d with
  | inl q =>
    show (Sum.inr (q.1, q.2.mapIdx fun k' x => zzfv ad μ' j k' x) : va_E) = Sum.inr (q.1, q.2.mapIdx fun k' x => zzfv ad μ j k' x)
    have : (fun k' x => zzfv ad μ' j k' x) = (fun k' x => zzfv ad μ j k' x) := by
      funext k' x
      unfold zzfv
      rw [h1, h2]
    rw [this]
  | inr q =>
    show (Sum.inl (dA q.1, q.2.1, zzav ad μ' j q.1 q.2.2) : va_E) = Sum.inl (dA q.1, q.2.1, zzav ad μ j q.1 q.2.2)
    unfold zzav
    rw [h1, h2]
theorem zzcpw : Cond.native arraycopyName ∈ zzTb ∧ Cond.static arraycopyName ∈ zzTb ∧ Cond.initialized "java/lang/System" ∈ zzTb := ⟨zzTb_of (by decide +kernel) rfl, zzTb_of (by decide +kernel) rfl, zzTb_of (by decide +kernel) rfl⟩
