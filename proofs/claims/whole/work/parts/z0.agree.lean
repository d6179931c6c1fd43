/-! THE WHOLE: every call agrees, from the start on -/
theorem whole_agree : lw_agree zN zIv zIv := by
  intro μ h k q hq x1 x2 x3 x4 x5
  have hk : k < 39 := (List.getElem?_eq_some_iff.1 hq).1
  match k, hk with
  | 0, _ =>
    cases hq
    exact r_feed h x1 x2 x3 x4 x5
  | 1, _ =>
    cases hq
    exact r_end h x1
  | 2, _ =>
    cases hq
    exact r_grammar h
  | 3, _ =>
    cases hq
    exact r_rule h x1 x2
  | 4, _ =>
    cases hq
    exact r_symbol h x1 x2
  | 5, _ =>
    cases hq
    exact r_facts h x1
  | 6, _ =>
    cases hq
    exact r_firsts h x1
  | 7, _ =>
    cases hq
    exact r_follows h x1
  | 8, _ =>
    cases hq
    exact r_shortest h x1
  | 9, _ =>
    cases hq
    exact r_states h
  | 10, _ =>
    cases hq
    exact r_goes h x1 x2
  | 11, _ =>
    cases hq
    exact r_points h x1 x2
  | 12, _ =>
    cases hq
    exact r_done h x1
  | 13, _ =>
    cases hq
    exact r_clashes h
  | 14, _ =>
    cases hq
    exact r_read h x1
  | 15, _ =>
    cases hq
    exact r_drop h
  | 16, _ =>
    cases hq
    exact r_change h x1 x2
  | 17, _ =>
    cases hq
    exact r_strike h x1
  | 18, _ =>
    cases hq
    exact r_ban h x1 x2 x3
  | 19, _ =>
    cases hq
    exact r_filter h x1
  | 20, _ =>
    cases hq
    exact r_undo h
  | 21, _ =>
    cases hq
    exact r_letter h x1
  | 22, _ =>
    cases hq
    exact r_alive h x1 x2
  | 23, _ =>
    cases hq
    exact r_links h x1 x2
  | 24, _ =>
    cases hq
    exact r_expects h x1
  | 25, _ =>
    cases hq
    exact r_derives h x1 x2 x3
  | 26, _ =>
    cases hq
    exact r_trees h x1 x2 x3
  | 27, _ =>
    cases hq
    exact r_piece h x1 x2 x3
  | 28, _ =>
    cases hq
    exact r_ways h x1 x2 x3
  | 29, _ =>
    cases hq
    exact r_forest h x1
  | 30, _ =>
    cases hq
    exact r_smallest h
  | 31, _ =>
    cases hq
    exact r_tree h x1 x2
  | 32, _ =>
    cases hq
    exact r_whole h
  | 33, _ =>
    cases hq
    exact r_mend h
  | 34, _ =>
    cases hq
    exact r_seed h x1
  | 35, _ =>
    cases hq
    exact r_spoken h x1 x2
  | 36, _ =>
    cases hq
    exact r_count h x1
  | 37, _ =>
    cases hq
    exact r_image h x1
  | 38, _ =>
    cases hq
    exact r_back h x1
  | n + 39, h => exact absurd h (by omega)
theorem z0_30 : zz0.1 3 0 = 0 := by decide +kernel
theorem z0_31 : zz0.1 3 1 = 0 := by decide +kernel
theorem z0_2 : zz0.1 2 2 = 0 ∧ zz0.1 2 3 = 0 ∧ zz0.1 2 5 = 0 ∧ zz0.1 2 6 = nI 7 ∧ zz0.1 2 8 = 0 ∧ zz0.1 2 9 = 0 := by decide +kernel
theorem z0_01 : zz0.1 0 1 = 0 := by decide +kernel
theorem z0_s : zz0.1 106 0 = 0 ∧ zz0.1 106 1 = -(nI 1) ∧ zz0.1 106 2 = 0 ∧ zz0.1 106 3 = 0 ∧ zz0.1 106 4 = 0 ∧ zz0.1 106 5 = nI 7 ∧ zz0.1 106 6 = 0 := by decide +kernel
theorem z0_m : zz0.1 105 39 = 0 ∧ zz0.1 105 16 = 0 ∧ zz0.1 105 36 = 0 := by decide +kernel
theorem z0_im : ∀ q, q < 4 → zz0.1 (61 + 11 * q) 10 = 0 ∧ zz0.1 152 q = 0 := by decide +kernel
theorem z0_9 : ∀ c, c < 26 → zz0.1 9 c = 0 := by decide +kernel
theorem z0_11 : ∀ p, p < 48 → zz0.1 11 p = 0 := by decide +kernel
theorem z0_34 : ∀ p, p < 624 → zz0.1 34 p = 0 := by decide +kernel
theorem z0_39 : ∀ p, p < 624 → zz0.1 39 p = 0 := by decide +kernel
theorem z0_t : zz0.1 21 1 = 0 ∧ zz0.1 26 0 = 0 ∧ zz0.1 31 2 = nI 0 ∧ zz0.1 31 1 = zB false ∧ zz0.1 36 2 = nI 0 ∧ zz0.1 36 1 = zB true ∧ zz0.1 41 3 = 0 ∧ zz0.1 45 2 = nI 0 ∧ zz0.1 48 2 = nI 0 ∧ zz0.1 52 2 = 0 ∧ zz0.1 56 1 = nI 0 := by decide +kernel
theorem zwg_0 : zwg tG0 := ⟨Nat.zero_le _, fun r hr => absurd hr (Nat.not_lt_zero _), tw_0.2.2⟩
theorem zOk_0 : zOk tG0 zS0 := ⟨zwg_0, ⟨Nat.zero_le _, fun k hk => absurd hk (Nat.not_lt_zero _), (fun j _ e => by
  rw [show sT zS0 = 0 from rfl, b_0] at e
  cases e), ⟨7, by omega, rfl⟩, Nat.zero_le _, List.nodup_nil, fun x hx => absurd hx List.not_mem_nil⟩, fun hn => absurd hn (Nat.not_lt_zero _)⟩
theorem cI_0 : cI tG0 zS0 zz0 := by
  obtain ⟨t1, t2, t3, t4, t5, t6, t7, t8, t9, t10, t11⟩ := z0_t
  obtain ⟨u1, u2, u3, u4, u5, u6⟩ := z0_2
  refine ⟨⟨⟨z0_30, fun j hj => ?_, fun r hr => absurd hr (Nat.not_lt_zero _), fun r hr => absurd hr (Nat.not_lt_zero _), fun r hr => absurd hr (Nat.not_lt_zero _), fun r hr => absurd hr (Nat.not_lt_zero _), fun r k hr => absurd hr (Nat.not_lt_zero _), fun c hc j hj => ?_⟩, u1, fun k hk => absurd hk (Nat.not_lt_zero _), u2, u4, u3, fun p hp q hq => ?_⟩, .inl t1, .inl t2, cCh_0 t3 t4 fun x i j hx hi hj => ?_, cCh_0 t5 t6 fun x i j hx hi hj => ?_, .inl t7, ⟨0, Nat.zero_le _, cNo_0 t8⟩, ⟨0, Nat.zero_le _, cSi_0 t9⟩, .inl t10, ⟨0, Nat.zero_le _, cMd_0 t11⟩⟩
  · rw [z0_31, b_0]
    exact (decide_eq_false fun ⟨r, hr, _⟩ => Nat.not_lt_zero _ hr).symm
  · rw [z0_9 c hc, b_0]
    exact (decide_eq_false fun ⟨hr, _⟩ => Nat.not_lt_zero _ hr).symm
  · rw [z0_11 p hp, b_0]
    exact (decide_eq_false List.not_mem_nil).symm
  · rw [z0_34 _ (by omega), b_0]
  · rw [z0_39 _ (by omega), b_0]
theorem mI_0 : mI tG0 zS0 zz0 := by
  obtain ⟨s0, s1, s2, s3, s4, s5, s6⟩ := z0_s
  refine ⟨⟨⟨s0, s1, fun r hr => absurd hr (Nat.not_lt_zero _), fun r hr => absurd hr (Nat.not_lt_zero _), fun r k hr => absurd hr (Nat.not_lt_zero _), fun r hr => absurd hr (Nat.not_lt_zero _), fun r hr => absurd hr (Nat.not_lt_zero _)⟩, s2, fun k hk => absurd hk (Nat.not_lt_zero _), s3, s5, s4, fun k hk => absurd hk (Nat.not_lt_zero _)⟩, fun i hi e => ?_⟩
  rw [z0_m.2.2, b_0] at e
  cases e
theorem zIv_0 : zIv zz0 := ⟨⟨tG0, zS0, fun _ => zS0, 0, fun k _ => zOk_0, cI_0, mI_0, ⟨by omega, rfl, z0_2.2.2.2.2.1, fun k hk => absurd hk (Nat.not_lt_zero _)⟩, ⟨z0_m.1, fun k hk => absurd hk (Nat.not_lt_zero _)⟩⟩, ⟨0, by omega, z0_2.2.2.2.2.2, z0_s.2.2.2.2.2.2⟩, ⟨fun _ => 0, 0, z0_01, fun i hi => absurd hi (Nat.not_lt_zero _), Nat.zero_le _, z0_m.2.1, fun i hi => absurd hi (Nat.not_lt_zero _)⟩, fun q hq => .inl (z0_im q hq)⟩
theorem whole_start {p : Program} {e : Env} {s : State} {m : MethodId} {below : List Frame} {meth : Method} {c : Code} (l : Launch) (hflags : l.flags = flags0) {b L : Nat} {xs : Nat → Int32} (hL : L ≤ 3072) (C0 : lw_At p s m meth c b L xs) : W p l e room_1 s m #[Value.ref b] below meth c s.heap [] 0 0 (lw_Z below #[Value.ref b] s) (entryFrame m ([Value.ref b] : List Value).toArray 4) :=
  whole_start_open l hL C0 (N := zN) (Inv := fun _ => zIv) zIv_0 (fun _ _ => whole_agree) fun _ _ h => h
