/-! THE LAW's BEGIN: both objects are made; then the loop, at pc 18, its counter 0 -/
theorem lw_w1 : Cond.code zbt12.1 zbt12.2.1 zbt12.2.2.1 none ∈ zzTb ∧ Cond.initialized zbt12.1.cls ∈ zzTb ∧ Cond.instanceMethod zbt12.1 ∈ zzTb ∧ Cond.methodLink R_law 9 zbt12.1 ∈ zzTb ∧ Cond.classLink R_law 7 zzR11 ∈ zzTb ∧ Cond.instantiable zzR11 15 ∈ zzTb ∧ Cond.initialized zzR11 ∈ zzTb := ⟨zzTb_of (by decide +kernel) rfl, zzTb_of (by decide +kernel) rfl, zzTb_of (by decide +kernel) rfl, zzTb_of (by decide +kernel) rfl, zzTb_of (by decide +kernel) rfl, zzTb_of (by decide +kernel) rfl, zzTb_of (by decide +kernel) rfl⟩
theorem lw_w2 : Cond.code zbt13.1 zbt13.2.1 zbt13.2.2.1 none ∈ zzTb ∧ Cond.initialized zbt13.1.cls ∈ zzTb ∧ Cond.instanceMethod zbt13.1 ∈ zzTb ∧ Cond.methodLink R_law 12 zbt13.1 ∈ zzTb ∧ Cond.classLink R_law 10 zzR12 ∈ zzTb ∧ Cond.instantiable zzR12 72 ∈ zzTb ∧ Cond.initialized zzR12 ∈ zzTb := ⟨zzTb_of (by decide +kernel) rfl, zzTb_of (by decide +kernel) rfl, zzTb_of (by decide +kernel) rfl, zzTb_of (by decide +kernel) rfl, zzTb_of (by decide +kernel) rfl, zzTb_of (by decide +kernel) rfl, zzTb_of (by decide +kernel) rfl⟩
theorem zbfin_re : (zbfin.take 105).all (zbre (zbfin.take 105).length) = true := by decide +kernel
theorem zbfin_105 : (zbfin.take 105).length = 105 := by decide +kernel
/-- a call of a constructor from the law -/
theorem lw_init {p : Program} {l : Launch} {e : Env} {s : State} {m : MethodId} {below : List Frame} {meth : Method} {c : Code} {args : Array Value} {Q : State → Prop} {D : va_G} {A : Nat → Prop} {H : Heap} {locs : List Loc} {lc : Array Slot} {pc cs ss y index cs2 ss2 xa : Nat} {q : zbT} {dA : Nat → ClassId} {ad : Nat → Nat} {h h' : zbH} {a : Nat} {rest : List Value}
    (hx : p.tables.exec = Jvm.exec) (hb : c.code = code) (hml : c.maxLocals = 4) (hown : s.vm.findClass R_law = some m.cls) (hts : ∀ w ∈ zzTb, w.before args s = true) (hnw : zbnw s) (hlc : lc.size = 4)
    (hz : zbf zbP 5 (y + 1) [.ref a] h = some h') (hq : zbP[y]? = some q) (hc : Cond.code q.1 q.2.1 q.2.2.1 none ∈ zzTb) (hini : Cond.initialized q.1.cls ∈ zzTb) (hins : Cond.instanceMethod q.1 ∈ zzTb) (hlk : Cond.methodLink R_law index q.1 ∈ zzTb)
    (hd : q.1.cls ≠ "java/lang/invoke/MethodHandle" ∧ q.1.cls ≠ "java/lang/invoke/VarHandle" ∧ (parseMethodDescriptor q.1.desc).map (fun d => d.parameters.length) = some 0) (hnm : q.1.name = "<init>") (hmL : q.2.2.1 ≤ 21) (hdg : decode code pc = .ok (.invokespecial index, 3))
    (hcs : cs + q.2.2.2.1.1 ≤ cs2) (hss : ss + q.2.2.2.1.2 ≤ ss2) (hcr : cs2 ≤ 600000) (hsr : ss2 ≤ 7302250) (ha : ad a = xa) (h8 : (rest.map fun v => v.category).sum ≤ 8)
    (hP : va_P D zzcl (zbw dA ad h) H) (hD : va_D A (zbw dA ad h)) (hK : va_K D zzcl (zbtys dA h) s) (hS : va_S A s.heap H locs) (hA : ∀ q, s.heap.size ≤ q → A q)
    (kk : ∀ (dA2 : Nat → ClassId) (ad2 : Nat → Nat) (H1 : Heap) (locs1 : List Loc), zbag h dA ad dA2 ad2 → va_P D zzcl (zbw dA2 ad2 h') H1 → va_D A (zbw dA2 ad2 h') → va_K D zzcl (zbtys dA2 h') s → va_S A s.heap H1 locs1 → W p l e room_1 s m args below meth c H1 locs1 cs2 ss2 Q (F0 m (pc + 3) lc rest)) : W p l e room_1 s m args below meth c H locs cs ss Q (F0 m pc lc (.ref xa :: rest)) := by
  subst ha
  have hA1 : ∀ x, zbA ad h.length H.size x → A x := by
    intro x hx2
    rcases hx2 with ⟨i, hi, rfl⟩ | hx2
    · have hi2 : h[i]? = some h[i] := List.getElem?_eq_getElem hi
      exact hD.2 i _ (zbw_at hi2)
    · exact hA x (Nat.le_trans hS.1 hx2)
  have hM := zbf_ok l D zbmg_all 4 y _ _ _ hz q hq
  have hpre : PreS s H (zbPc D dA ad [.ref a] h H.size) [.ref (ad a)] := ⟨fun a U g mk q => by
      obtain ⟨q0, q1, qP, qD, qK, qN, qO⟩ := q
      exact ⟨q0, q1, qP, qD, va_K.moved (u := U) (U := U.calling g mk a) (Vm.Alike.refl U.vm) qK, fun z hz => va_Nw.same rfl rfl (qN z hz), va_AO.moved (u := U) (U := U.calling g mk a) (Vm.Alike.refl U.vm) qO⟩,
    fun U hU hW => ⟨rfl, by rw [hU], by rw [hU]; exact hP, hD.weaken (fun _ _ _ _ => trivial), va_K.moved hW.alike hK, fun z hz => va_Nw.warmM hW (hnw.1 z hz), va_AO.moved hW.alike hnw.2⟩⟩
  exact zbcall (va_runI (As := []) (rest := rest) ⟨hx, hb, hml, hown, hts⟩ (hM dA ad H.size) (cwI 0 hts (zzgoodIn hc) rfl rfl rfl (hts _ hini) (hts _ hlk) (hts _ hins) hnm hd ⟨Nat.le_of_ble_eq_true rfl, by show 8 + (q.2.2.1 + 11) + 200 ≤ 530; omega⟩) hpre rfl rfl hlc rfl (lv_room h8) hdg ⟨Nat.le_trans hcs hcr, Nat.le_trans hss hsr⟩) hS hA1 (fun dA2 ad2 H1 locs1 g1 g2 g3 g4 g5 => W.widen hcs hss (kk dA2 ad2 H1 locs1 g1 g2 (g3.weaken (fun _ x _ z => hA1 x.1 z)) g4 g5))
