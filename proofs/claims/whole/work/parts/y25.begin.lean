def zbh1 : zbH := zbfin.take 105
def zbh2 : zbH := zbfin.take 105 ++ [.inl (12, zbnull 12)]
theorem zbrun2 : zbf zbP 5 (12 + 1) [.ref 105] zbh2 = some zbfin := zbrun1
set_option maxHeartbeats 200000 in
theorem lw_second {p : Program} {l : Launch} {e : Env} {s : State} {m : MethodId} {below : List Frame} {meth : Method} {c : Code} {args : Array Value} {Q : State → Prop} {D : va_G} {A : Nat → Prop} {H : Heap} {locs : List Loc} {lc : Array Slot} {dA : Nat → ClassId} {ad : Nat → Nat} {xa : Nat} {rest : List Value}
    (hx : p.tables.exec = Jvm.exec) (hb : c.code = code) (hml : c.maxLocals = 4) (hown : s.vm.findClass R_law = some m.cls) (hts : ∀ w ∈ zzTb, w.before args s = true) (hnw : zbnw s) (hlc : lc.size = 4) (ha : ad 105 = xa) (h8 : (rest.map fun v => v.category).sum ≤ 8)
    (hP : va_P D zzcl (zbw dA ad zbh2) H) (hD : va_D A (zbw dA ad zbh2)) (hK : va_K D zzcl (zbtys dA zbh2) s) (hS : va_S A s.heap H locs) (hA : ∀ q, s.heap.size ≤ q → A q)
    (kk : ∀ (dA2 : Nat → ClassId) (ad2 : Nat → Nat) (H1 : Heap) (locs1 : List Loc), zbag zbh2 dA ad dA2 ad2 → va_P D zzcl (zbw dA2 ad2 zbfin) H1 → va_D A (zbw dA2 ad2 zbfin) → va_K D zzcl (zbtys dA2 zbfin) s → va_S A s.heap H1 locs1 → W p l e room_1 s m args below meth c H1 locs1 153 46417 Q (F0 m (12 + 3) lc rest)) : W p l e room_1 s m args below meth c H locs 106 19865 Q (F0 m 12 lc (.ref xa :: rest)) :=
  lw_init (q := zbt13) (y := 12) (a := 105) (dA := dA) (ad := ad) (h := zbh2) (h' := zbfin) (cs2 := 153) (ss2 := 46417) hx hb hml hown hts hnw hlc zbrun2 rfl lw_w2.1 lw_w2.2.1 lw_w2.2.2.1 lw_w2.2.2.2.1 (by decide +kernel) rfl (by decide) dl_12 (show 106 + 47 ≤ 153 from Nat.le_refl _) (show 19865 + 26552 ≤ 46417 from Nat.le_refl _) (Nat.le_of_ble_eq_true rfl) (Nat.le_of_ble_eq_true rfl) ha h8 hP hD hK hS hA kk
set_option maxHeartbeats 400000 in
set_option maxRecDepth 100000 in
theorem law_begin {p : Program} {l : Launch} {e : Env} {s : State} {m : MethodId} {below : List Frame} {meth : Method} {c : Code} {b L : Nat} {xs : Nat → Int32} (C0 : lw_At p s m meth c b L xs)
    (hloop : ∀ (D : va_G) (dA : Nat → ClassId) (ad : Nat → Nat) (H : Heap) (locs : List Loc) (lc : Array Slot), va_P D zzcl (zzworld dA ad zz0) H → va_K D zzcl (zztys dA) s → zzinj ad → (∀ i, i < zzn → s.heap.size ≤ ad i) → va_S (fun q => s.heap.size ≤ q) s.heap H locs → lv_has lc 4 [(3, .int 0), (2, .ref (ad 105)), (1, .ref (ad 0)), (0, .ref b)] → W p l e room_1 s m #[Value.ref b] below meth c H locs 153 46417 (lw_Z below #[Value.ref b] s) (F0 m 18 lc [])) :
    W p l e room_1 s m #[Value.ref b] below meth c s.heap [] 0 0 (lw_Z below #[Value.ref b] s) (entryFrame m ([Value.ref b] : List Value).toArray 4) := by
  obtain ⟨hx, hb, hr, hml, hown, hts0, hX, hbl, hlocks, hgv⟩ := id C0
  have hts : ∀ w ∈ zzTb, w.before #[Value.ref b] s = true := fun w hw => hts0 w (zzTb_in hw).1
  obtain ⟨D, hDk⟩ := lw_known hts0
  obtain ⟨dA, hK⟩ := lw_arrs hts0 hDk
  obtain ⟨hnw, hzw⟩ := lw_nw hts0
  have hA : ∀ q : Nat, s.heap.size ≤ q → (fun q : Nat => s.heap.size ≤ q) q := fun _ h => h
  have hS : va_S (fun q : Nat => s.heap.size ≤ q) s.heap s.heap [] := va_S.rf
  have hP : va_P D zzcl (zbw dA (fun _ => 0) []) s.heap := fun k q h => by cases h
  have hD : va_D (fun q : Nat => s.heap.size ≤ q) (zbw dA (fun _ => 0) []) := ⟨fun i j p q h => (by cases h), fun k q h => (by cases h)⟩
  have hl := lv_entry ([.ref b]) (n := 4) (Nat.le_of_ble_eq_true rfl)
  rw [lg_entry_eq]
  generalize (lg_sl ([.ref b]) ++ List.replicate (4 - (lg_sl ([.ref b])).length) Slot.unset).toArray = lc at hl ⊢
  have hl : lv_has lc 4 [(0, .ref b)] := hl
  refine va_new (ci := 11) (C := zzR11) (T := zzT11) (N := 15) (fs := (zbnull 11).map (zzcv (fun _ => 0))) hx hb hts zzws11 zzt11 zzt11_ok hown (hts _ lw_w1.2.2.2.2.1) (hts _ lw_w1.2.2.2.2.2.1) (hts _ lw_w1.2.2.2.2.2.2) hK hP hD hS hA rfl (zbnull_at (r := (zzR11, zzT11, 15)) (ci := 11) rfl zzt11_ok _) (Nat.le_of_ble_eq_true rfl) (Nat.le_of_ble_eq_true rfl) dl_0 (fun x H1 hP1 hD1 hS1 => ?_)
  refine W.widen (k := 1) (n := 15) (by omega) (by omega) ?_
  refine lv_dup hx hb dl_3 rfl ?_
  have e1 := zbnew (dA := dA) (ad := fun _ => 0) (h := []) (q := x) (e := .inl (11, zbnull 11)) (x := .inr (11, (zbnull 11).map (zzcv (fun _ => 0)))) rfl (by show (Sum.inr (11, (zbnull 11).map (zzcv _)) : va_E) = _; rw [zbnull_cv, zbnull_cv])
  rw [e1] at hP1 hD1
  have a0 : zbad (fun _ => 0) ([] : zbH).length x 0 = x := if_pos rfl
  refine lw_init (q := zbt12) (y := 11) (a := 0) (dA := dA) (ad := zbad (fun _ => 0) ([] : zbH).length x) (h := [.inl (11, zbnull 11)]) (h' := zbfin.take 105) (cs2 := 105) (ss2 := 19793) hx hb hml hown hts hnw hl.1 zbrun0 rfl lw_w1.1 lw_w1.2.1 lw_w1.2.2.1 lw_w1.2.2.2.1 (by decide +kernel) rfl (by decide) dl_4 (show 1 + 104 ≤ 105 from Nat.le_refl _) (show 15 + 19778 ≤ 19793 from Nat.le_refl _) (Nat.le_of_ble_eq_true rfl) (Nat.le_of_ble_eq_true rfl) a0 (Nat.le_of_ble_eq_true rfl) hP1 hD1 hK hS1 hA (fun dA2 ad2 H2 locs2 g1 hP2 hD2 hK2 hS2 => ?_)
  have a2 : ad2 0 = x := (g1.1 0 (by decide)).trans a0
  refine lv_astore_n (lv' := [(1, .ref x), (0, .ref b)]) hx hb dl_7 rfl hl (by decide) rfl (fun lc2 hl2 => ?_)
  refine va_new (ci := 12) (C := zzR12) (T := zzT12) (N := 72) (fs := (zbnull 12).map (zzcv ad2)) hx hb hts zzws12 zzt12 zzt12_ok hown (hts _ lw_w2.2.2.2.2.1) (hts _ lw_w2.2.2.2.2.2.1) (hts _ lw_w2.2.2.2.2.2.2) hK2 hP2 hD2 hS2 hA rfl (zbnull_at (r := (zzR12, zzT12, 72)) (ci := 12) rfl zzt12_ok _) (Nat.le_of_ble_eq_true rfl) (Nat.le_of_ble_eq_true rfl) dl_8 (fun x3 H3 hP3 hD3 hS3 => ?_)
  refine W.widen (k := 106) (n := 19865) (by omega) (by omega) ?_
  refine lv_dup hx hb dl_11 rfl ?_
  have e3 := zbnew (dA := dA2) (ad := ad2) (h := zbfin.take 105) (q := x3) (e := .inl (12, zbnull 12)) (x := .inr (12, (zbnull 12).map (zzcv ad2))) zbfin_re (by show (Sum.inr (12, (zbnull 12).map (zzcv _)) : va_E) = _; rw [zbnull_cv, zbnull_cv])
  rw [e3] at hP3 hD3
  have a3 : zbad ad2 (zbfin.take 105).length x3 105 = x3 := by rw [zbfin_105]; exact if_pos rfl
  have a30 : zbad ad2 (zbfin.take 105).length x3 0 = x := by rw [zbfin_105]; exact (if_neg (by decide)).trans a2
  have hP3 : va_P D zzcl (zbw dA2 (zbad ad2 (zbfin.take 105).length x3) zbh2) H3 := hP3
  have hD3 : va_D (fun q : Nat => s.heap.size ≤ q) (zbw dA2 (zbad ad2 (zbfin.take 105).length x3) zbh2) := hD3
  have hK3 : va_K D zzcl (zbtys dA2 zbh2) s := by
    unfold zbh2
    rw [zbtys_push rfl]
    exact hK2
  refine lw_second (A := fun q : Nat => s.heap.size ≤ q) hx hb hml hown hts hnw hl2.1 a3 (Nat.le_of_ble_eq_true rfl) hP3 hD3 hK3 hS3 hA (fun dA4 ad4 H4 locs4 g4 hP4 hD4 hK4 hS4 => ?_)
  have l4 : zbh2.length = 106 := by unfold zbh2; rw [List.length_append, zbfin_105]; rfl
  have a4 : ad4 105 = x3 := (g4.1 105 (by rw [l4]; decide)).trans a3
  have a40 : ad4 0 = x := (g4.1 0 (by rw [l4]; decide)).trans a30
  refine lv_astore_n (lv' := [(2, .ref x3), (1, .ref x), (0, .ref b)]) hx hb dl_15 rfl hl2 (by decide) rfl (fun lc4 hl4 => ?_)
  refine lv_iconst (v := 0) hx hb dl_16 (by decide) ?_
  refine lv_istore_n (lv' := [(3, .int 0), (2, .ref x3), (1, .ref x), (0, .ref b)]) hx hb dl_17 rfl hl4 (by decide) rfl (fun lc5 hl5 => ?_)
  rw [zzmeet] at hP4
  rw [zbtys_fin] at hK4
  refine hloop D dA4 ad4 H4 locs4 lc5 hP4 hK4 ?_ ?_ hS4 (by rw [a4, a40]; exact hl5)
  · intro i j hi hj he
    rw [← zbfin_len] at hi hj
    exact hD4.1 i j _ _ (zbw_at (List.getElem?_eq_getElem hi)) (zbw_at (List.getElem?_eq_getElem hj)) he
  · intro i hi
    rw [← zbfin_len] at hi
    exact hD4.2 i _ (zbw_at (List.getElem?_eq_getElem hi))
