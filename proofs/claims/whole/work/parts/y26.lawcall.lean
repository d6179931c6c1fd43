/-! A CALL FROM THE LAW, and a place of the script -/
section
variable {p : Program} {l : Launch} {e : Env} {R : Room} {s : State} {m : MethodId} {args : Array Value} {below : List Frame} {meth : Method} {c : Code} {Q : State → Prop} {D : va_G} {dA : Nat → ClassId} {ad : Nat → Nat} {A : Nat → Prop} {H : Heap} {locs : List Loc} {lc : Array Slot}
theorem zzcallC {pc rk cs ss : Nat} {rr : zzR} {A1 : Nat → Prop} {a : Array Value} {rest st0 : List Value} (hr : va_Run p l e R s m args below meth c H locs cs ss 0 0 (F0 m pc lc st0) rest (zzQ D dA ad A1 rk rr a) A1) (hS : va_S A s.heap H locs) (hA : ∀ q, A1 q → A q)
    (kk : ∀ (H1 : Heap) (locs1 : List Loc), va_P D zzcl (zzworld dA ad rr.2) H1 → va_S A s.heap H1 locs1 → W p l e R s m args below meth c H1 locs1 cs ss Q (F0 m (pc + 3) lc ((zzval ad rk rr).toList ++ rest))) : W p l e R s m args below meth c H locs cs ss Q (F0 m pc lc st0) := by
  intro T hT X
  obtain ⟨v, st₀, t, T', L, h0, X', hL, e1, e2, ⟨hv, hp, hk, hz, hkk⟩, st⟩ := hr T hT X
  cases hv
  rw [h0] at hz hkk
  obtain ⟨t2, a1, b1⟩ := kk T'.heap (locs ++ L) (by rw [e1]; exact hp)
    ⟨Nat.le_trans hS.1 (by rw [e1]; exact hz), fun q h1 h2 => by rw [e1, hkk q (Nat.lt_of_lt_of_le h1 hS.1) (fun z => h2 (hA q z))]; exact hS.2.1 q h1 h2, fun q hq => by
      rcases List.mem_append.mp hq with h | h
      · exact hS.2.2 q h
      · exact hA _ (hL q h)⟩ T' rfl X'
  exact ⟨t2, st t2 a1, b1⟩
/-- what the law's call of a method needs of its words -/
def lw_ok (index y ci n : Nat) (q : zzT) : Prop := zzP[y]? = some q ∧ zzmw q ∧ (∃ r, zzcl[ci]? = some r ∧ r.1 = q.1.cls) ∧ Cond.instanceMethod q.1 ∈ zzTb ∧ Cond.selects q.1.cls q.1 q.1 ∈ zzTb ∧ q.2.2.2.2.1 = 1 ∧ (parseMethodDescriptor q.1.desc).map (fun d => d.parameters.length) = some n ∧ Cond.methodLink R_law index q.1 ∈ zzTb
theorem lw_call {N pc cs ss index y ci n a : Nat} {q : zzT} {as rest st0 : List Value} {μ : zzM} {rr : zzR} {fs : List (Nat × Nat)} (hx : p.tables.exec = Jvm.exec) (hb : c.code = code) (hml : c.maxLocals = 4) (hown : s.vm.findClass R_law = some m.cls) (hts : ∀ w ∈ zzTb, w.before args s = true) (hK : va_K D zzcl (zztys dA) s) (hnw : zznw s) (hinj : zzinj ad) (hlc : lc.size = 4)
    (hw : lw_ok index y ci n q) (hcell : zzcells[a]? = some (.inl (ci, fs))) (hn : as.length = n) (hz : zzf zzP N 13 (y + 3) (.ref a :: as) μ = some rr) (hdg : decode code pc = .ok (.invokevirtual index, 3)) (h8 : (rest.map fun v => v.category).sum ≤ 8) (hcs : cs ≤ 600000) (hss : ss ≤ 7302250)
    (hst : st0 = (as.map (zzcv ad)).reverse ++ .ref (ad a) :: rest) (hP : va_P D zzcl (zzworld dA ad μ) H) (hS : va_S A s.heap H locs) (hA : ∀ q, zzA ad s.heap.size q → A q)
    (kk : ∀ (H1 : Heap) (locs1 : List Loc), va_P D zzcl (zzworld dA ad rr.2) H1 → va_S A s.heap H1 locs1 → W p l e room_1 s m args below meth c H1 locs1 cs ss Q (F0 m (pc + 3) lc (.int rr.1.1 :: rest))) : W p l e room_1 s m args below meth c H locs cs ss Q (F0 m pc lc st0) := by
  obtain ⟨hPq, ⟨hcode, hini, hc1, hc2, hmL⟩, ⟨r, hcr, hrn⟩, hins, hsel, hrk, hpar, hlink⟩ := hw
  have hM := zzf_ok l D dA ad hinj zzmg_all 12 y _ _ _ hz q hPq
  have hA1 : ∀ q, zzA ad H.size q → A q := fun q hq => hA q (zzAsub hS.1 q hq)
  have hrecv : ∃ cell : Cell, H[ad a]? = some cell ∧ cell.vm.isStatics = false ∧ s.vm.findClass q.1.cls = some cell.cls := by
    rw [← hrn]
    exact va_recv hK hP hcr (zzworld_at hcell)
  have hpre : PreV s H q.1.cls (ad a) (zzPc D dA ad (.ref a :: as) μ H.size) (as.map (zzcv ad)) := ⟨fun a U g mk q => by
      obtain ⟨q0, q1, qP, qK, qN⟩ := q
      exact ⟨q0, q1, qP, va_K.moved (u := U) (U := U.calling g mk a) (Vm.Alike.refl U.vm) qK, fun z hz => va_Nw.same rfl rfl (qN z hz)⟩, hrecv,
    fun U hU hW => ⟨rfl, by rw [hU], by rw [hU]; exact hP, va_K.moved hW.alike hK, fun z hz => va_Nw.warmM hW (hnw z hz)⟩⟩
  refine zzcallC (va_runV (As := as.map (zzcv ad)) (rest := rest) ⟨hx, hb, hml, hown, hts⟩ (hM H.size) (cwV n hts (zzgoodL (fun w hw => by
        rcases List.mem_cons.mp hw with rfl | hw
        · exact hlink
        rcases List.mem_cons.mp hw with rfl | hw
        · exact hins
        rcases List.mem_cons.mp hw with rfl | hw
        · exact hsel
        rcases List.mem_cons.mp hw with rfl | hw
        · exact hini
        · cases hw) (zzgoodIn hcode)) rfl rfl rfl ⟨rfl, hc1, hc2, hpar⟩ ⟨Nat.le_of_ble_eq_true rfl, by show 8 + (q.2.2.1 + 11) + 480 ≤ 530; omega⟩) hpre rfl (by rw [List.length_map, hn]) hlc hst (lv_room h8) hdg ⟨hcs, hss⟩) hS hA1 (fun H1 locs1 g1 g2 => ?_)
  rw [hrk]
  exact kk H1 locs1 g1 g2
/-- script[i + j] onto the stack: five instructions -/
theorem lw_push {pc cs ss b L i j : Nat} {xs : Nat → Int32} {st : List Value} {lv : List (Nat × Value)} (hx : p.tables.exec = Jvm.exec) (hb : c.code = code) (hX : va_X b L xs s s.heap) (hbl : b < s.heap.size) (hbA : ¬ A b) (hS : va_S A s.heap H locs) (hl : lv_has lc 4 lv) (h0 : lv[3]? = some (0, .ref b)) (h3 : lv[0]? = some (3, .int (nI i))) (hij : i + j < L) (hL : L ≤ 3072) {v : Int} (hv : Int32.ofInt v = nI j)
    (d0 : decode code pc = .ok (.aload_n 0, 1)) (d1 : decode code (pc + 1) = .ok (.iload_n 3, 1)) (d2 : decode code (pc + 2) = .ok (.iconst v, 1)) (d3 : decode code (pc + 3) = .ok (.iadd, 1)) (d4 : decode code (pc + 4) = .ok (.iaload, 1))
    (kk : W p l e R s m args below meth c H locs cs ss Q (F0 m (pc + 5) lc (.int (xs (i + j)) :: st))) : W p l e R s m args below meth c H locs cs ss Q (F0 m pc lc st) := by
  refine lv_aload_n hx hb d0 rfl (lv_at hl 3 h0) ?_
  refine lv_iload_n hx hb d1 rfl (lv_at hl 0 h3) ?_
  refine lv_iconst hx hb d2 hv ?_
  refine lv_iadd hx hb d3 ?_
  rw [nI_add]
  have hin : vp_in (nI (i + j)) L := vp_in_nI hij (by omega)
  refine va_sld hx hb hX hbl hbA hS hin d4 ?_
  rw [nI_clamp (by omega)]
  exact kk
end
