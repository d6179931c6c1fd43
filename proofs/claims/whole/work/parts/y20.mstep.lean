/-! ONE INSTRUCTION of the builder, over the machine -/
theorem zbnull_cv (ci : Nat) (ad : Nat → Nat) : (zbnull ci).map (zzcv ad) = zbnull ci := by
  have h : ∀ v ∈ zbnull ci, zzcv ad v = v := by
    intro v hv
    unfold zbnull at hv
    split at hv
    · obtain ⟨k, -, rfl⟩ := List.mem_map.mp hv
      split
      · rename_i ty _
        cases ty <;> rfl
      · rfl
    · cases hv
  exact (List.map_congr_left h).trans (List.map_id _)
theorem zbcA {D : va_G} {tys : List (ClassId × FieldType)} {s : State} {cA d : ClassId} {ty : FieldType} {k : Nat} (h1 : va_K D zzcl (tys ++ [(cA, ty)]) s) (hk : tys[k]? = some (d, ty)) (hp : ty = .int ∨ ty = .boolean ∨ ty = .byte ∨ ty = .long) : cA = d := by
  have e1 : (tys ++ [(cA, ty)])[tys.length]? = some (cA, ty) := by rw [List.getElem?_append_right (Nat.le_refl _), Nat.sub_self]; rfl
  have e2 : (tys ++ [(cA, ty)])[k]? = some (d, ty) := by rw [List.getElem?_append_left (List.getElem?_eq_some_iff.mp hk).1]; exact hk
  have r1 := (h1.2 _ _ e1).2
  have r2 := (h1.2 _ _ e2).2
  rcases hp with rfl | rfl | rfl | rfl
  · exact Option.some.inj ((show s.vm.findClass _ = some cA from r1).symm.trans r2)
  · exact Option.some.inj ((show s.vm.findClass _ = some cA from r1).symm.trans r2)
  · exact Option.some.inj ((show s.vm.findClass _ = some cA from r1).symm.trans r2)
  · exact Option.some.inj ((show s.vm.findClass _ = some cA from r1).symm.trans r2)
theorem zbKcut {D : va_G} {tys t2 : List (ClassId × FieldType)} {s : State} (h : va_K D zzcl (tys ++ t2) s) : va_K D zzcl tys s := ⟨h.1, fun k q hq => h.2 k q (by rw [List.getElem?_append_left (List.getElem?_eq_some_iff.mp hq).1]; exact hq)⟩
/-- a new cell at the address q: the rest is as it was -/
theorem zbnew {dA : Nat → ClassId} {ad : Nat → Nat} {h : zbH} {q : Nat} {e : zbE} {x : va_E} (hr : h.all (zbre h.length) = true) (hx : zbcell dA (zbad ad h.length q) e = x) : zbw dA ad h ++ [(q, x)] = zbw dA (zbad ad h.length q) (h ++ [e]) := by
  rw [zbw_push, zbw_ag zbag_push hr, hx]
  show _ = _ ++ [((if h.length = h.length then q else ad h.length), x)]
  rw [if_pos rfl]
theorem zbad_at {ad : Nat → Nat} {n x : Nat} : zzcv (zbad ad n x) (.ref n) = .ref x := by
  show Value.ref (if n = n then x else _) = _
  rw [if_pos rfl]
def zbCl (l : Launch) (D : va_G) (P : List zbT) (R : Room) (call : Nat → List Value → zbH → Option zbH) : Prop := ∀ y as h h', call (y + 1) as h = some h' → ∀ q, P[y]? = some q → ∃ d, R.frames = d + 2 ∧ R.locals = 40 * (d + 2) ∧ zbMet l D d q as h h'
section
variable {p : Program} {l : Launch} {e : Env} {R : Room} {s : State} {m : MethodId} {args : Array Value} {below : List Frame} {meth : Method} {c : Code} {Q : State → Prop} {D : va_G} {A : Nat → Prop} {nL : Nat} {cc : ByteArray} {own : String} {P : List zbT} {H : Heap} {locs : List Loc} {lc : Array Slot}
theorem zbcall {pc mc ms cs ss : Nat} {h0 h' : zbH} {dA0 : Nat → ClassId} {ad0 : Nat → Nat} {A1 : Nat → Prop} {a : Array Value} {rest st0 : List Value} (hr : va_Run p l e R s m args below meth c H locs cs ss mc ms (F0 m pc lc st0) rest (zbQ D h0 dA0 ad0 A1 h' a) A1) (hS : va_S A s.heap H locs) (hA : ∀ q, A1 q → A q)
    (kk : ∀ (dA : Nat → ClassId) (ad : Nat → Nat) (H1 : Heap) (locs1 : List Loc), zbag h0 dA0 ad0 dA ad → va_P D zzcl (zbw dA ad h') H1 → va_D A1 (zbw dA ad h') → va_K D zzcl (zbtys dA h') s → va_S A s.heap H1 locs1 → W p l e R s m args below meth c H1 locs1 (cs + mc) (ss + ms) Q (F0 m (pc + 3) lc rest)) : W p l e R s m args below meth c H locs cs ss Q (F0 m pc lc st0) := by
  intro T hT X
  obtain ⟨v, st₀, t, T', L, h0', X', hL, e1, e2, ⟨hv, ⟨dA, ad, hag, hp, hd, hk⟩, hz, hkk⟩, st⟩ := hr T hT X
  cases hv
  rw [h0'] at hz hkk
  obtain ⟨t2, a1, b1⟩ := kk dA ad T'.heap (locs ++ L) hag (by rw [e1]; exact hp) hd (va_K.moved (by rw [← e2]; exact X'.warmed.alike.symm) hk)
    ⟨Nat.le_trans hS.1 (by rw [e1]; exact hz), fun q h1 h2 => by rw [e1, hkk q (Nat.lt_of_lt_of_le h1 hS.1) (fun z => h2 (hA q z))]; exact hS.2.1 q h1 h2, fun q hq => by
      rcases List.mem_append.mp hq with h | h
      · exact hS.2.2 q h
      · exact hA _ (hL q h)⟩ T' rfl X'
  exact ⟨t2, st t2 a1, b1⟩
set_option maxHeartbeats 4000000 in
set_option maxRecDepth 20000 in
theorem zbstep_ok {h' h0 : zbH} {dA0 : Nat → ClassId} {ad0 : Nat → Nat} {lim : Nat × Nat} (hX : zbX p s m args meth c cc own nL A) (hQ : Q = MQ below (zbQ D h0 dA0 ad0 A h') args s lim.1 lim.2 A) (hR : R.cells = lim.1 ∧ R.slots = lim.2 ∧ 1 ≤ R.frames ∧ 40 ≤ R.locals) {call : Nat → List Value → zbH → Option zbH} (hcall : zbCl l D P R call)
    {pc len : Nat} {i : Instr} {aux : List (Nat × Nat)} (hdg : decode cc pc = .ok (i, len)) (hw : zbwd P own nL len pc i aux) {ls : zzL} {st : List Value} {h : zbH} {cs ss : Nat} {k : zbK} (hz : zbstep P call lim (pc, len, i, aux) ls st h cs ss k = some h')
    (hk : ∀ pc ls st h cs ss, k pc ls st h cs ss = some h' → zbW p l e R s m args below meth c Q D A nL h0 dA0 ad0 pc ls st h cs ss) : zbW p l e R s m args below meth c Q D A nL h0 dA0 ad0 pc ls st h cs ss := by
  intro dA ad H locs lc hag hlen h4 hP hD hK hS hl
  obtain ⟨hx, hb, hml, hown, hts, hnw, hA, hlocks, hrt, hin⟩ := hX
  unfold zbstep at hz
  dsimp only at hz
  split at hz
  · -- aload_n
    obtain ⟨rfl, hk2⟩ := hw
    split at hz
    · rename_i x hv
      exact lv_aload_n hx hb hdg hk2 (zzlc_at hl hv) (hk _ _ _ _ _ _ hz dA ad H locs lc hag hlen h4 hP hD hK hS hl)
    · cases hz
  · -- iload_n
    obtain ⟨rfl, hk2⟩ := hw
    split at hz
    · rename_i x hv
      exact lv_iload_n hx hb hdg hk2 (zzlc_at hl hv) (hk _ _ _ _ _ _ hz dA ad H locs lc hag hlen h4 hP hD hK hS hl)
    · cases hz
  · -- istore_n
    obtain ⟨rfl, hk2, hk3⟩ := hw
    exact lv_istore_n hx hb hdg hk2 hl hk3 (zzlc_set1 (ad := ad) (v := .int _)) (fun lc' hl' => hk _ _ _ _ _ _ hz dA ad H locs lc' hag hlen h4 hP hD hK hS hl')
  · -- iinc
    obtain ⟨rfl, hk2, hv⟩ := hw
    split at hz
    · rename_i x hv2
      obtain ⟨j, hj2⟩ := List.getElem?_of_mem (show (_, Value.int x) ∈ zzlc ad ls from List.mem_map.mpr ⟨(_, .int x), zzlk_mem hv2, rfl⟩)
      exact lv_iinc (v := zzinc x (zzfst aux)) hx hb hdg hl hj2 (by rw [hv]; exact zzinc_eq _ _) hk2 (zzlc_set1 (ad := ad) (v := .int (zzinc x (zzfst aux)))) (fun lc' hl' => hk _ _ _ _ _ _ hz dA ad H locs lc' hag hlen h4 hP hD hK hS hl')
    · cases hz
  · obtain ⟨rfl, hv⟩ := hw
    exact lv_iconst hx hb hdg hv (hk _ _ _ _ _ _ hz dA ad H locs lc hag hlen h4 hP hD hK hS hl)
  · obtain ⟨rfl, hv⟩ := hw
    exact lv_bipush hx hb hdg hv (hk _ _ _ _ _ _ hz dA ad H locs lc hag hlen h4 hP hD hK hS hl)
  · obtain ⟨rfl, hv⟩ := hw
    exact lv_sipush hx hb hdg hv (hk _ _ _ _ _ _ hz dA ad H locs lc hag hlen h4 hP hD hK hS hl)
  · -- dup
    cases hw
    exact lv_dup hx hb hdg rfl (hk _ _ _ _ _ _ hz dA ad H locs lc hag hlen h4 hP hD hK hS hl)
  · obtain ⟨rfl, ht⟩ := hw
    exact lv_goto hx hb hdg ht (hk _ _ _ _ _ _ hz dA ad H locs lc hag hlen h4 hP hD hK hS hl)
  · -- if_icmpge
    obtain ⟨rfl, ht⟩ := hw
    split at hz
    · rename_i hc
      exact lv_icmp_ge hx hb hdg ht (fun _ => hk _ _ _ _ _ _ hz dA ad H locs lc hag hlen h4 hP hD hK hS hl) (fun z => absurd hc z)
    · rename_i hc
      exact lv_icmp_ge hx hb hdg ht (fun z => absurd z hc) (fun _ => hk _ _ _ _ _ _ hz dA ad H locs lc hag hlen h4 hP hD hK hS hl)
  · -- getfield
    rename_i j a r
    obtain ⟨rfl, q, hq, hk2, hlk⟩ := hw
    obtain ⟨ty, hty, hnm, hin2⟩ := zzcls _ _ hq
    split at hz
    · rename_i ci fs hc
      cases hbq : ci.beq (zzfst aux).1 with
      | false => rw [hbq] at hz; cases hz
      | true =>
        rw [hbq] at hz
        have hci := Nat.eq_of_beq_eq_true hbq
        subst hci
        simp only [cond_true] at hz
        split at hz
        · rename_i v hv
          refine va_get (C := q.1) (T := q.2.1) (N := q.2.2) (v := zzcv ad v) hx hb hts hin2 hown hK hP a (zbw_at hc) hq (zzfst aux).2 hk2 (hts _ hlk) (fun _ h9 => h9) ?_ hdg (hk _ _ _ _ _ _ hz dA ad H locs lc hag hlen h4 hP hD hK hS hl)
          show (fs.map (zzcv ad))[(zzfst aux).2]? = _
          rw [List.getElem?_map, hv]
          rfl
        · cases hz
    · cases hz
  · -- putfield
    rename_i j v a r
    obtain ⟨rfl, q, hq, hk2, hlk, hdecl⟩ := hw
    obtain ⟨ty, hty, hnm, hin2⟩ := zzcls _ _ hq
    split at hz
    · rename_i ci fs r2 hc hr2
      cases hr2.symm.trans hq
      split at hz
      · rename_i ty1 hty1
        cases hbq : (ci.beq (zzfst aux).1 && (zzfst aux).2.blt fs.length && zbfit ty1 v) with
        | false => rw [hbq] at hz; cases hz
        | true =>
          rw [hbq] at hz
          simp only [cond_true] at hz
          simp only [Bool.and_eq_true] at hbq
          have hci := Nat.eq_of_beq_eq_true hbq.1.1
          subst hci
          have hfl : (zzfst aux).2 < fs.length := by simpa [Nat.blt_eq] using hbq.1.2
          obtain ⟨hnar, hfit⟩ := zbfit_s (ad := ad) hbq.2
          have hw4 : zb4 (.inl ((zzfst aux).1, fs.set (zzfst aux).2 v) : zbE) = zb4 (.inl ((zzfst aux).1, fs) : zbE) := rfl
          have hgo : ∀ (H1 : Heap) (locs1 : List Loc), va_P D zzcl ((zbw dA ad h).set a (ad a, .inr ((zzfst aux).1, (fs.map (zzcv ad)).set (zzfst aux).2 (zzcv ad v)))) H1 → va_D A ((zbw dA ad h).set a (ad a, .inr ((zzfst aux).1, (fs.map (zzcv ad)).set (zzfst aux).2 (zzcv ad v)))) → va_S A s.heap H1 locs1 → W p l e R s m args below meth c H1 locs1 cs ss Q (F0 m (pc + 3) lc (r.map (zzcv ad))) := by
            intro H1 locs1 hP1 hD1 hS1
            rw [zbw_set (e := .inl ((zzfst aux).1, fs.set (zzfst aux).2 v)) (by show (Sum.inr ((zzfst aux).1, (fs.set (zzfst aux).2 v).map (zzcv ad)) : va_E) = _; rw [List.map_set])] at hP1 hD1
            exact hk _ _ _ _ _ _ hz dA ad H1 locs1 lc hag (by rw [List.length_set]; exact hlen) (fun z => by rw [zb4_set hc hw4]; exact h4 z) hP1 hD1 (by rw [zbtys_set hc hw4]; exact hK) hS1 hl
          have hlen2 : (zzfst aux).2 < (fs.map (zzcv ad)).length := by rw [List.length_map]; exact hfl
          cases hfin : (q.2.1 (zzfst aux).2).2.2.2 with
          | false => exact va_put (C := q.1) (T := q.2.1) (N := q.2.2) (ty := ty1) (v := zzcv ad v) hx hb hts hin2 ty hty hnm hown hK hP hD hS a (zbw_at hc) hq (zzfst aux).2 hk2 (hts _ hlk) (fun _ h9 => h9) hfin hty1 hnar hfit hlen2 hdg hgo
          | true => exact va_putF (C := q.1) (T := q.2.1) (N := q.2.2) (ty := ty1) (v := zzcv ad v) hx hb hts hin2 ty hty hnm hown hK hP hD hS a (zbw_at hc) hq (zzfst aux).2 hk2 (hts _ hlk) (fun _ h9 => h9) hfin hin hdecl hty1 hnar hfit hlen2 hdg hgo
      · simp at hz
    · cases hz
  · -- iastore
    rename_i v j a r
    cases hw
    split at hz
    · rename_i n us rs hc
      split at hz
      · cases hz
      · rename_i hj
        have hw4 : zb4 (.inr (0, n, (j.toNatClampNeg, v) :: us, rs) : zbE) = zb4 (.inr (0, n, us, rs) : zbE) := rfl
        refine va_iast hx hb hK hP hD hS a 0 (zbw_at hc) rfl hj hdg (fun H1 locs1 hP1 hD1 hS1 => ?_)
        have e9 := zbw_set (dA := dA) (ad := ad) (h := h) (i := a) (e := .inr (0, n, (j.toNatClampNeg, v) :: us, rs)) rfl
        exact hk _ _ _ _ _ _ hz dA ad H1 locs1 lc hag (by rw [List.length_set]; exact hlen) (fun z => by rw [zb4_set hc hw4]; exact h4 z) (by rw [← e9]; exact hP1) (by rw [← e9]; exact hD1) (by rw [zbtys_set hc hw4]; exact hK) hS1 hl
    · cases hz
  · -- new
    obtain ⟨rfl, q, hq, hk2, hlk, hins, hini⟩ := hw
    obtain ⟨ty, hty, hnm, hin2⟩ := zzcls _ _ hq
    cases hbq : (zbok ls st h && (cs + 1).ble lim.1 && (ss + (zzfst aux).2).ble lim.2) with
    | false => rw [hbq] at hz; cases hz
    | true =>
      rw [hbq] at hz
      simp only [cond_true] at hz
      simp only [Bool.and_eq_true] at hbq
      obtain ⟨o1, o2, o3⟩ := zbok_s hbq.1.1
      rw [hk2] at hz hbq
      refine va_new (C := q.1) (T := q.2.1) (N := q.2.2) (fs := (zbnull (zzfst aux).1).map (zzcv ad)) hx hb hts hin2 ty hty hown (hts _ hlk) (hts _ hins) (hts _ hini) hK hP hD hS hA hq (zbnull_at hq hty ad) (by rw [hR.1]; exact Nat.le_of_ble_eq_true hbq.1.2) (by rw [hR.2.1]; exact Nat.le_of_ble_eq_true hbq.2) hdg (fun x H1 hP1 hD1 hS1 => ?_)
      rw [zbnull_cv, zbnew (e := .inl ((zzfst aux).1, zbnull (zzfst aux).1)) o3 (by show (Sum.inr ((zzfst aux).1, (zbnull (zzfst aux).1).map (zzcv (zbad ad h.length x))) : va_E) = _; rw [zbnull_cv])] at hP1 hD1
      have key := hk _ _ _ _ _ _ hz dA (zbad ad h.length x) H1 locs lc (zbag_trans hag zbag_push hlen h4) (by rw [List.length_append]; omega) (fun z => by rw [zb4_push, h4 z, Bool.true_or]) hP1 hD1 (by rw [zbtys_push rfl]; exact hK) hS1 (by rw [zbls_ag (zbag_push (dA := dA)).1 o1]; exact hl)
      rw [List.map_cons, zbrs_ag (zbag_push (dA := dA)).1 o2] at key
      have e1 : zzcv (zbad ad h.length x) (.ref h.length) = .ref x := by show Value.ref (if h.length = h.length then x else _) = _; rw [if_pos rfl]
      rw [e1] at key
      exact key
  · -- newarray
    rename_i t n r
    obtain ⟨rfl, harr⟩ := hw
    split at hz
    · cases hz
    · rename_i hn
      cases hbq : (zbok ls r h && (cs + 1).ble lim.1 && (ss + n.toNatClampNeg).ble lim.2 && n.toNatClampNeg.ble 100000 && (zbkind t).ble 3) with
      | false => rw [hbq] at hz; cases hz
      | true =>
      rw [hbq] at hz
      simp only [cond_true] at hz
      simp only [Bool.and_eq_true] at hbq
      obtain ⟨o1, o2, o3⟩ := zbok_s hbq.1.1.1.1
      have hc1 : cs + 1 ≤ R.cells := by rw [hR.1]; exact Nat.le_of_ble_eq_true hbq.1.1.1.2
      have hc2 : ss + n.toNatClampNeg ≤ R.slots := by rw [hR.2.1]; exact Nat.le_of_ble_eq_true hbq.1.1.2
      have hn5 : n.toNatClampNeg ≤ 100000 := Nat.le_of_ble_eq_true hbq.1.2
      cases t with
      | int =>
        refine va_newa (atype := .int) (ty := .int) (a0 := (n.toNatClampNeg, .inl (fun _ => 0))) hx hb (hts _ harr) rfl hK hP hD hS hA (fun _ => rfl) hn rfl (by show n.toNatClampNeg * 4 ≤ _; omega) hc1 hc2 hdg (fun x cA H1 hK1 hP1 hD1 hS1 => ?_)
        have hcA : cA = dA 0 := zbcA hK1 (k := 0) rfl (by simp)
        subst hcA
        have e9 := zbnew (dA := dA) (ad := ad) (q := x) (e := .inr (zbkind .int, n.toNatClampNeg, [], [])) o3 rfl
        have key := hk _ _ _ _ _ _ hz dA (zbad ad h.length x) H1 locs lc (zbag_trans hag zbag_push hlen h4) (by rw [List.length_append]; omega) (fun z => by rw [zb4_push, h4 z, Bool.true_or]) (by rw [← e9]; exact hP1) (by rw [← e9]; exact hD1) (by rw [zbtys_push rfl]; exact hK) hS1 (by rw [zbls_ag (zbag_push (dA := dA)).1 o1]; exact hl)
        rw [List.map_cons, zbrs_ag (zbag_push (dA := dA)).1 o2, zbad_at] at key
        exact key
      | boolean =>
        refine va_newa (atype := .boolean) (ty := .boolean) (a0 := (n.toNatClampNeg, .inl (fun _ => 0))) hx hb (hts _ harr) rfl hK hP hD hS hA (fun _ => rfl) hn rfl (by show n.toNatClampNeg * 1 ≤ _; omega) hc1 hc2 hdg (fun x cA H1 hK1 hP1 hD1 hS1 => ?_)
        have hcA : cA = dA 1 := zbcA hK1 (k := 1) rfl (by simp)
        subst hcA
        have e9 := zbnew (dA := dA) (ad := ad) (q := x) (e := .inr (zbkind .boolean, n.toNatClampNeg, [], [])) o3 rfl
        have key := hk _ _ _ _ _ _ hz dA (zbad ad h.length x) H1 locs lc (zbag_trans hag zbag_push hlen h4) (by rw [List.length_append]; omega) (fun z => by rw [zb4_push, h4 z, Bool.true_or]) (by rw [← e9]; exact hP1) (by rw [← e9]; exact hD1) (by rw [zbtys_push rfl]; exact hK) hS1 (by rw [zbls_ag (zbag_push (dA := dA)).1 o1]; exact hl)
        rw [List.map_cons, zbrs_ag (zbag_push (dA := dA)).1 o2, zbad_at] at key
        exact key
      | byte =>
        refine va_newa (atype := .byte) (ty := .byte) (a0 := (n.toNatClampNeg, .inl (fun _ => 0))) hx hb (hts _ harr) rfl hK hP hD hS hA (fun _ => rfl) hn rfl (by show n.toNatClampNeg * 1 ≤ _; omega) hc1 hc2 hdg (fun x cA H1 hK1 hP1 hD1 hS1 => ?_)
        have hcA : cA = dA 2 := zbcA hK1 (k := 2) rfl (by simp)
        subst hcA
        have e9 := zbnew (dA := dA) (ad := ad) (q := x) (e := .inr (zbkind .byte, n.toNatClampNeg, [], [])) o3 rfl
        have key := hk _ _ _ _ _ _ hz dA (zbad ad h.length x) H1 locs lc (zbag_trans hag zbag_push hlen h4) (by rw [List.length_append]; omega) (fun z => by rw [zb4_push, h4 z, Bool.true_or]) (by rw [← e9]; exact hP1) (by rw [← e9]; exact hD1) (by rw [zbtys_push rfl]; exact hK) hS1 (by rw [zbls_ag (zbag_push (dA := dA)).1 o1]; exact hl)
        rw [List.map_cons, zbrs_ag (zbag_push (dA := dA)).1 o2, zbad_at] at key
        exact key
      | long =>
        refine va_newa (atype := .long) (ty := .long) (a0 := (n.toNatClampNeg, .inr (.inl (fun _ => 0)))) hx hb (hts _ harr) rfl hK hP hD hS hA (fun _ => rfl) hn rfl (by show n.toNatClampNeg * 8 ≤ _; omega) hc1 hc2 hdg (fun x cA H1 hK1 hP1 hD1 hS1 => ?_)
        have hcA : cA = dA 3 := zbcA hK1 (k := 3) rfl (by simp)
        subst hcA
        have e9 := zbnew (dA := dA) (ad := ad) (q := x) (e := .inr (zbkind .long, n.toNatClampNeg, [], [])) o3 rfl
        have key := hk _ _ _ _ _ _ hz dA (zbad ad h.length x) H1 locs lc (zbag_trans hag zbag_push hlen h4) (by rw [List.length_append]; omega) (fun z => by rw [zb4_push, h4 z, Bool.true_or]) (by rw [← e9]; exact hP1) (by rw [← e9]; exact hD1) (by rw [zbtys_push rfl]; exact hK) hS1 (by rw [zbls_ag (zbag_push (dA := dA)).1 o1]; exact hl)
        rw [List.map_cons, zbrs_ag (zbag_push (dA := dA)).1 o2, zbad_at] at key
        exact key
      | _ => exact absurd hbq.2 (by decide)
  · -- anewarray
    rename_i j n r
    obtain ⟨rfl, hlk⟩ := hw
    split at hz
    · cases hz
    · rename_i hn
      cases hbq : (zbok ls r h && (cs + 1).ble lim.1 && (ss + n.toNatClampNeg).ble lim.2 && n.toNatClampNeg.ble 100000 && !h.any zb4) with
      | false => rw [hbq] at hz; cases hz
      | true =>
        rw [hbq] at hz
        simp only [cond_true] at hz
        simp only [Bool.and_eq_true] at hbq
        obtain ⟨o1, o2, o3⟩ := zbok_s hbq.1.1.1.1
        have hn5 : n.toNatClampNeg ≤ 100000 := Nat.le_of_ble_eq_true hbq.1.2
        have h40 : h.any zb4 = false := by simpa using hbq.2
        refine va_newq (C := "PackedForest$Setting") hx hb hown (hts _ hlk) hnw.2 hK hP hD hS hA hn rfl (by omega) (by rw [hR.1]; exact Nat.le_of_ble_eq_true hbq.1.1.1.2) (by rw [hR.2.1]; exact Nat.le_of_ble_eq_true hbq.1.1.2) hdg (fun x cA H1 hK1 hP1 hD1 hS1 => ?_)
        have hag2 : zbag h dA ad (fun k => if k = 4 then cA else dA k) (zbad ad h.length x) := ⟨fun i hi => if_neg (Nat.ne_of_lt hi), fun k hk => if_neg (by omega), fun z => by rw [h40] at z; cases z⟩
        have e9 : zbw dA ad h ++ [(x, .inl (cA, n.toNatClampNeg, .inr (.inr (.inr (.inr (fun _ => none))))))] = zbw (fun k => if k = 4 then cA else dA k) (zbad ad h.length x) (h ++ [.inr (4, n.toNatClampNeg, [], [])]) := by
          rw [zbw_push, zbw_ag hag2 o3]
          show _ = _ ++ [((if h.length = h.length then x else ad h.length), _)]
          rw [if_pos rfl]
          rfl
        have eT : zbtys (fun k => if k = 4 then cA else dA k) (h ++ [.inr (4, n.toNatClampNeg, [], [])]) = zbtys dA h ++ [(cA, .object "PackedForest$Setting")] := by
          unfold zbtys
          rw [zb4_push, h40]
          rfl
        have key := hk _ _ _ _ _ _ hz (fun k => if k = 4 then cA else dA k) (zbad ad h.length x) H1 locs lc (zbag_trans hag hag2 hlen h4) (by rw [List.length_append]; omega) (fun z => by rw [zb4_push, h4 z, Bool.true_or]) (by rw [← e9]; exact hP1) (by rw [← e9]; exact hD1) (by rw [eT]; exact hK1) hS1 (by rw [zbls_ag hag2.1 o1]; exact hl)
        rw [List.map_cons, zbrs_ag hag2.1 o2, zbad_at] at key
        exact key
  · -- aastore
    rename_i b j a r
    cases hw
    split at hz
    · rename_i n us rs ci fs hc hv
      split at hz
      · cases hz
      · rename_i hj
        cases hbq : (ci.beq 7 && j.toNatClampNeg.beq rs.length) with
        | false => rw [hbq] at hz; cases hz
        | true =>
          rw [hbq] at hz
          simp only [cond_true] at hz
          simp only [Bool.and_eq_true] at hbq
          have hci : ci = 7 := Nat.eq_of_beq_eq_true hbq.1
          have hjl : j.toNatClampNeg = rs.length := Nat.eq_of_beq_eq_true hbq.2
          subst hci
          have hw4 : zb4 (.inr (4, n, us, rs ++ [some b]) : zbE) = zb4 (.inr (4, n, us, rs) : zbE) := rfl
          have hh4 : h.any zb4 = true := List.any_eq_true.mpr ⟨_, List.mem_of_getElem? hc, rfl⟩
          refine va_astq (r := (zzR7, zzT7, 11)) hx hb hK hP hD hS a 4 b 7 (zbw_at hc) (zbtys_4 dA hh4) (zbw_at hv) rfl hj hdg (fun H1 locs1 hP1 hD1 hS1 => ?_)
          have e9 := zbw_set (dA := dA) (ad := ad) (h := h) (i := a) (e := .inr (4, n, us, rs ++ [some b])) (x := .inl (dA 4, n, .inr (.inr (.inr (.inr (va_up (fun j => ((rs)[j]?.join).map ad) j.toNatClampNeg (some (ad b)))))))) (by
            show (Sum.inl (dA 4, n, .inr (.inr (.inr (.inr (fun j => ((rs ++ [some b])[j]?.join).map ad))))) : va_E) = _
            congr 7
            funext i
            unfold va_up
            rw [hjl]
            by_cases hi : i = rs.length
            · subst hi
              rw [if_pos rfl, List.getElem?_append_right (Nat.le_refl _), Nat.sub_self]
              rfl
            · rw [if_neg hi]
              by_cases hi2 : i < rs.length
              · rw [List.getElem?_append_left hi2]
              · show Option.map ad ((rs ++ [some b])[i]?.join) = Option.map ad (rs[i]?.join)
                rw [List.getElem?_eq_none (by rw [List.length_append]; show rs.length + 1 ≤ i; omega), List.getElem?_eq_none (show rs.length ≤ i by omega)])
          exact hk _ _ _ _ _ _ hz dA ad H1 locs1 lc hag (by rw [List.length_set]; exact hlen) (fun z => by rw [zb4_set hc hw4]; exact h4 z) (by rw [← e9]; exact hP1) (by rw [← e9]; exact hD1) (by rw [zbtys_set hc hw4]; exact hK) hS1 hl
    · cases hz
  · -- invokespecial
    obtain ⟨rfl, hw⟩ := hw
    obtain ⟨⟨as, rest0⟩, hq, hz9⟩ := Option.bind_eq_some_iff.mp hz
    clear hz
    have hz := hz9
    clear hz9
    obtain ⟨bs, hbl, hst, has⟩ := zzcut_s _ _ _ _ _ hq
    rw [List.append_nil] at has
    subst has
    dsimp only at hz
    split at hz
    · rename_i a r
      cases hy : (zzfst aux).1 with
      | zero =>
        rw [hy] at hz hw
        dsimp only at hz
        cases hbq : (as.isEmpty && (zzcat r).ble 8) with
        | false => rw [hbq] at hz; cases hz
        | true =>
          rw [hbq] at hz
          simp only [cond_true] at hz
          simp only [Bool.and_eq_true, List.isEmpty_iff] at hbq
          obtain ⟨hbe, hb8⟩ := hbq
          subst hbe
          have hr8 : ((r.map (zzcv ad)).map fun v => v.category).sum ≤ 8 := by rw [zzcat_s]; exact Nat.le_of_ble_eq_true hb8
          have hst : st = .ref a :: r := hst
          subst hst
          exact W.objInit (g := F0 m pc lc (.ref (ad a) :: r.map (zzcv ad))) hx hb hown (hts _ hw.1) (hts _ hw.2.1) (hts _ hw.2.2) rfl (hl.1.trans hml.symm) rfl hdg hR.2.2.1 (by show 2 * 0 + _ + 12 ≤ _; have := hR.2.2.2; omega) (hk _ _ _ _ _ _ hz dA ad H locs lc hag hlen h4 hP hD hK hS hl)
      | succ y =>
        rw [hy] at hz hw
        dsimp only at hz
        obtain ⟨q, hPq, ⟨hcode, hini, hins, hnm, hc1, hc2, hmL⟩, hpar, hlink⟩ := hw
        rw [hPq] at hz
        dsimp only at hz
        cases hbq : (zbok ls st h && (zzcat r).ble 8 && (cs + q.2.2.2.1.1).ble lim.1 && (ss + q.2.2.2.1.2).ble lim.2) with
        | false => rw [hbq] at hz; cases hz
        | true =>
          rw [hbq] at hz
          simp only [cond_true] at hz
          simp only [Bool.and_eq_true] at hbq
          obtain ⟨o1, o2, o3⟩ := zbok_s hbq.1.1.1
          have hr8 : ((r.map (zzcv ad)).map fun v => v.category).sum ≤ 8 := by rw [zzcat_s]; exact Nat.le_of_ble_eq_true hbq.1.1.2
          obtain ⟨h2, hc, hz⟩ := Option.bind_eq_some_iff.mp hz
          cases hbz : (h.length.ble h2.length && (!h.any zb4 || h2.any zb4)) with
          | false => rw [hbz] at hz; cases hz
          | true =>
            rw [hbz] at hz
            simp only [cond_true] at hz
            simp only [Bool.and_eq_true] at hbz
            have hl2 : h.length ≤ h2.length := Nat.le_of_ble_eq_true hbz.1
            have h42 : h.any zb4 = true → h2.any zb4 = true := fun z => by have := hbz.2; rw [z] at this; simpa using this
            obtain ⟨d, hRf, hRl, hM⟩ := hcall y _ _ _ hc q hPq
            have hA1 : ∀ x, zbA ad h.length H.size x → A x := by
              intro x hx2
              rcases hx2 with ⟨i, hi, rfl⟩ | hx2
              · have hi2 : h[i]? = some h[i] := List.getElem?_eq_getElem hi
                exact hD.2 i _ (zbw_at hi2)
              · exact hA x (Nat.le_trans hS.1 hx2)
            have hstk : st.map (zzcv ad) = (as.map (zzcv ad)).reverse ++ .ref (ad a) :: r.map (zzcv ad) := by rw [hst, List.map_append, List.map_reverse]; rfl
            have hor : r.all (zbrk h.length) = true := by
              rw [hst, List.all_append, Bool.and_eq_true, List.all_cons, Bool.and_eq_true] at o2
              exact o2.2.2
            have hroom : (zbroom d q.2.2.2.1).frames + 1 ≤ R.frames ∧ 8 + (q.2.2.1 + 11) + (zbroom d q.2.2.2.1).locals ≤ R.locals := ⟨by rw [hRf]; exact Nat.le_refl _, by rw [hRl]; show 8 + (q.2.2.1 + 11) + 40 * (d + 1) ≤ 40 * (d + 2); omega⟩
            have hpre : PreS s H (zbPc D dA ad (.ref a :: as) h H.size) (.ref (ad a) :: as.map (zzcv ad)) := ⟨fun a U g mk q => by
                obtain ⟨q0, q1, qP, qD, qK, qN, qO⟩ := q
                exact ⟨q0, q1, qP, qD, va_K.moved (u := U) (U := U.calling g mk a) (Vm.Alike.refl U.vm) qK, fun z hz => va_Nw.same rfl rfl (qN z hz), va_AO.moved (u := U) (U := U.calling g mk a) (Vm.Alike.refl U.vm) qO⟩,
              fun U hU hW => ⟨rfl, by rw [hU], by rw [hU]; exact hP, hD.weaken (fun _ _ _ _ => trivial), va_K.moved hW.alike hK, fun z hz => va_Nw.warmM hW (hnw.1 z hz), va_AO.moved hW.alike hnw.2⟩⟩
            have hgo : ∀ (dA2 : Nat → ClassId) (ad2 : Nat → Nat) (H1 : Heap) (locs1 : List Loc), zbag h dA ad dA2 ad2 → va_P D zzcl (zbw dA2 ad2 h2) H1 → va_D (zbA ad h.length H.size) (zbw dA2 ad2 h2) → va_K D zzcl (zbtys dA2 h2) s → va_S A s.heap H1 locs1 → W p l e R s m args below meth c H1 locs1 (cs + q.2.2.2.1.1) (ss + q.2.2.2.1.2) Q (F0 m (pc + 3) lc (r.map (zzcv ad))) := by
              intro dA2 ad2 H1 locs1 hag2 hP1 hD1 hK1 hS1
              have key := hk _ _ _ _ _ _ hz dA2 ad2 H1 locs1 lc (zbag_trans hag hag2 hlen h4) (Nat.le_trans hlen hl2) (fun z => h42 (h4 z)) hP1 (hD1.weaken (fun _ x _ z => hA1 x.1 z)) hK1 hS1 (by rw [zbls_ag hag2.1 o1]; exact hl)
              rw [zbrs_ag hag2.1 hor] at key
              exact key
            have hf : cs + q.2.2.2.1.1 ≤ R.cells ∧ ss + q.2.2.2.1.2 ≤ R.slots := ⟨by rw [hR.1]; exact Nat.le_of_ble_eq_true hbq.1.2, by rw [hR.2.1]; exact Nat.le_of_ble_eq_true hbq.2⟩
            rcases hlink with hlink | hlink
            · exact zbcall (va_runI (As := as.map (zzcv ad)) (rest := r.map (zzcv ad)) ⟨hx, hb, hml, hown, hts⟩ (hM dA ad H.size) (cwI (zzfst aux).2 hts (zzgoodIn hcode) rfl rfl rfl (hts _ hini) (hts _ hlink) (hts _ hins) hnm ⟨hc1, hc2, hpar⟩ hroom) hpre rfl (by rw [List.length_map, hbl]) hl.1 hstk (lv_room hr8) hdg hf) hS hA1 hgo
            · exact zbcall (va_runIN (As := as.map (zzcv ad)) (rest := r.map (zzcv ad)) ⟨hx, hb, hml, hown, hts⟩ (hM dA ad H.size) ⟨va_cnB (zzfst aux).2 hts (zzgoodIn hcode) rfl rfl rfl (hnw.1 _ hlink) (hts _ hini) ⟨hc1, hc2, hpar⟩ hroom, hnm, hts _ hins⟩ hpre rfl (by rw [List.length_map, hbl]) hl.1 hstk (lv_room hr8) hdg hf) hS hA1 hgo
    · cases hz
  · -- return
    cases hw
    cases hbq : (cs.ble lim.1 && ss.ble lim.2) with
    | false => rw [hbq] at hz; cases hz
    | true =>
      rw [hbq] at hz
      simp only [cond_true] at hz
      cases hz
      rw [Bool.and_eq_true] at hbq
      subst hQ
      refine W.widen (k := lim.1) (n := lim.2) (Nat.le_of_ble_eq_true hbq.1) (Nat.le_of_ble_eq_true hbq.2) ?_
      exact W.vret hx hb hrt (fun t ht hW => ⟨rfl, ⟨dA, ad, hag, by rw [ht]; exact hP, hD, va_K.moved hW.alike hK⟩, hS.F ht⟩) hS.2.2 hdg hlocks
  · cases hz
end
