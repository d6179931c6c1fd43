/-! the class's levels are found; what is asked of them -/
def lvA (A : Nat → Nat → Bool) (Cn : Nat → Nat → Nat) (y : zzM) : Prop := ∀ n k, n < 13 → k < 90 → y.1 42 (n * 90 + k) = zB (A n k) ∧ y.1 43 (n * 90 + k) = nI (Cn n k)
theorem ztake_n : ∀ {l : List Nat} {p : Nat} (h : p < l.length), l.Nodup → l[p] ∉ l.take p
  | [], p, h, _ => absurd h (Nat.not_lt_zero _)
  | a :: l, 0, _, _ => by simp
  | a :: l, p + 1, h, hn => by
    rw [List.nodup_cons] at hn
    have h : p < l.length := by simpa using h
    rw [List.take_succ_cons, List.mem_cons]
    rintro (q | q)
    · have := List.getElem_mem h
      rw [List.getElem_cons_succ] at q
      rw [q] at this
      exact hn.1 this
    · exact ztake_n h hn.2 q
theorem ztake_s : ∀ {l z : List Nat} {p k : Nat} (h : p < l.length), (k ∈ (l ++ z).take (p + 1) ↔ k ∈ l.take p ∨ k = l[p])
  | [], _, p, _, h => absurd h (Nat.not_lt_zero _)
  | a :: l, z, 0, k, _ => by simp
  | a :: l, z, p + 1, k, h => by
    have h : p < l.length := by simpa using h
    rw [List.cons_append, List.take_succ_cons, List.mem_cons, List.take_succ_cons, List.mem_cons, ztake_s h, List.getElem_cons_succ, or_assoc]
theorem s_gather {μ : zzM} (d : Nat) {A : Nat → Nat → Bool} {Cn : Nat → Nat → Nat} {l W : Nat} (hl : l < 13) (hW : W ≤ 90) (hM : lvA A Cn μ) (hS : μ.1 26 1 = nI W) : zw (zzf zzP zN (d + 2) 74 [.ref 41, .int (nI l)] μ) fun o => zfr [41, 44] μ o.2 ∧ (∀ p, p ≠ 7 → o.2.1 41 p = μ.1 41 p) ∧ ∃ wl, lvM A Cn wl o.2 ∧ wl.Nodup ∧ ∀ k, k ∈ wl ↔ k < W ∧ A l k = true := by
  rw [w_levels_gather]
  refine zl_up (fun i (y : zzM) => ([nI l, nI i], [], y)) (fun i y => zfr [41, 44] μ y ∧ (∀ p, p ≠ 7 → y.1 41 p = μ.1 41 p) ∧ ∃ wl, lvM A Cn wl y ∧ wl.Nodup ∧ wl.length ≤ i ∧ ∀ k, k ∈ wl ↔ k < i ∧ A l k = true) 0 W _ (by omega) (by omega) rfl ⟨zf_wI _ _ rfl, fun p hp => zm_k _ _ _ _ hp, [], ⟨fun n k a b => ?_, zm_s _ _ _ _, fun p hp => absurd hp (Nat.not_lt_zero _)⟩, by simp, by simp, fun k => by simp⟩ ?_ ?_
  · rw [zm_c _ _ _ (by omega), zm_c _ _ _ (by omega)]
    exact hM n k a b
  · rintro i y ga - hi ⟨i1, i2, wl, i3, i4, i5, i6⟩ hgo
    unfold L74_a
    simp only [zI0, zI1, zI2, zI3, zI4, zI5, zI6, zI7, zI8, zJ0, zJ1, zJ2, zMM]
    rw [zf_i i1 rfl, hS, if_neg (by rw [zq_le (by omega) (by omega)]; omega), s_alive _ i3 hl (by omega), Option.bind_some]
    simp only [zB_0, zq_add]
    cases hA : A l i with
    | false =>
      rw [if_pos rfl]
      refine hgo y ⟨i1, i2, wl, i3, i4, by omega, fun k => ?_⟩
      rw [i6]
      constructor
      · rintro ⟨a, b⟩
        exact ⟨by omega, b⟩
      · rintro ⟨a, b⟩
        refine ⟨?_, b⟩
        by_cases e : k = i
        · rw [e, hA] at b; cases b
        · omega
    | true =>
      rw [if_neg (by decide), i3.2.1, zs_i _ _ _ (by omega) (by omega), Option.bind_some, zm_c _ _ _ (by omega), i3.2.1, zq_add]
      refine hgo _ ⟨zf_twI _ _ (zf_twI _ _ i1 rfl) rfl, fun p hp => ?_, wl ++ [i], ⟨fun n k a b => ?_, ?_, fun p hp => ?_⟩, ?_, ?_, fun k => ?_⟩
      · rw [zm_k _ _ _ _ hp, zm_c _ _ _ (by omega)]
        exact i2 p hp
      · rw [zm_c _ _ _ (by omega), zm_c _ _ _ (by omega), zm_c _ _ _ (by omega), zm_c _ _ _ (by omega)]
        exact i3.1 n k a b
      · rw [zm_s, List.length_append]
        rfl
      · rw [zm_c _ _ _ (by omega)]
        rw [List.length_append] at hp
        have hp : p < wl.length + 1 := hp
        by_cases ep : p = wl.length
        · subst ep
          rw [zm_s]
          simp
        · rw [zm_k _ _ _ _ ep, i3.2.2 p (by omega), List.getElem_append_left (by omega)]
      · refine List.nodup_append.2 ⟨i4, by simp, ?_⟩
        rintro a ha b hb rfl
        simp at hb
        have := (i6 a).1 ha
        omega
      · rw [List.length_append]
        show wl.length + 1 ≤ i + 1
        omega
      · rw [List.mem_append, i6]
        by_cases e : k = i
        · subst e
          simp [hA]
        · simp only [List.mem_singleton, e, or_false]
          exact ⟨fun q => ⟨by omega, q.2⟩, fun q => ⟨by omega, q.2⟩⟩
  · rintro y ga ⟨i1, i2, wl, i3, i4, i5, i6⟩
    unfold L74_a
    simp only [zI0, zI1, zI2, zI3, zI4, zI5, zI6, zI7, zI8, zJ0, zJ1, zJ2, zMM]
    rw [zf_i i1 rfl, hS, if_pos (by rw [zq_le (by omega) (by omega)]; omega)]
    exact zw_some ⟨i1, i2, wl, i3, i4, i6⟩
/-- what the levels hold, with the states gone through so far -/
def lvI (g : zG) (s : zSn) (w : zWs) (dn : Nat → Nat → Prop) (A : Nat → Nat → Bool) (Cn : Nat → Nat → Nat) : Prop := (∀ n k, n ≤ sL s → Cn n k = zLk g s w dn n k) ∧ (∀ n k, n ≤ sL s → (A n k = true ↔ (n = 0 ∧ k = 0) ∨ ∃ m k' x, dn m k' ∧ x < 52 ∧ zEd g s w m k' x n k)) ∧ (∀ m k, dn m k → k < w.1 ∧ zAl g s w m k) ∧ ∀ n k, A n k = true → k < w.1
theorem lvI_so {g : zG} {s : zSn} {w : zWs} {dn : Nat → Nat → Prop} {A : Nat → Nat → Bool} {Cn : Nat → Nat → Nat} (h : lvI g s w dn A Cn) {n k : Nat} (hn : n ≤ sL s) (hA : A n k = true) : zAl g s w n k := by
  rcases (h.2.1 n k hn).1 hA with ⟨rfl, rfl⟩ | ⟨m, k', x, a, b, c⟩
  · exact zAl_0 g s w
  · obtain ⟨d, e⟩ := h.2.2.1 m k' a
    exact zAl_s d b e c
theorem lvI_cg {g : zG} {s : zSn} {w : zWs} {dn dn' : Nat → Nat → Prop} {A : Nat → Nat → Bool} {Cn : Nat → Nat → Nat} (h : lvI g s w dn A Cn) (e : ∀ m k, dn m k ↔ dn' m k) : lvI g s w dn' A Cn := by
  have : dn = dn' := by funext m k; exact propext (e m k)
  rw [← this]
  exact h
theorem lvI_s {g : zG} {s : zSn} {w : zWs} {dn : Nat → Nat → Prop} {A : Nat → Nat → Bool} {Cn : Nat → Nat → Nat} {A' : Nat → Nat → Bool} {Cn' : Nat → Nat → Nat} {wl wl' : List Nat} {l k0 : Nat} (hl : l ≤ sL s) (h : lvI g s w dn A Cn) (hk0 : A l k0 = true) (hn : ¬ dn l k0) (hr : lrel g s w A Cn wl l k0 (fun _ _ => True) A' Cn' wl') : lvI g s w (fun m k => dn m k ∨ (m = l ∧ k = k0)) A' Cn' := by
  obtain ⟨r1, r2, -, -, r5, -⟩ := hr
  have hkw := h.2.2.2 l k0 hk0
  refine ⟨fun n k hns => ?_, fun n k hns => ?_, ?_, r5⟩
  · rw [r1 n k hns, h.1 n k hns]
    have ec : zcnt (fun x => zdc (True ∧ zEd g s w l k0 x n k)) 52 = zec g s w l k0 n k := zcnt_cg fun x _ => zdc_cg (by simp)
    rw [ec]
    by_cases e : l ≤ n
    · exact (zLk_1 e hkw hn (.inr ⟨rfl, rfl⟩) fun m' k' q => ⟨fun a => a.resolve_right q, .inl⟩).symm
    · have : zec g s w l k0 n k = 0 := zcnt_0 fun x _ => zdc_f.2 fun q => e q.1
      rw [this]
      refine zLk_cg fun m k' hm _ => ⟨.inl, fun a => a.resolve_right fun q => ?_⟩
      omega
  · rw [r2 n k hns, h.2.1 n k hns]
    constructor
    · rintro ((q | ⟨m, k', x, a, b, c⟩) | ⟨x, a, -, c⟩)
      · exact .inl q
      · exact .inr ⟨m, k', x, .inl a, b, c⟩
      · exact .inr ⟨l, k0, x, .inr ⟨rfl, rfl⟩, a, c⟩
    · rintro (q | ⟨m, k', x, a | ⟨rfl, rfl⟩, b, c⟩)
      · exact .inl (.inl q)
      · exact .inl (.inr ⟨m, k', x, a, b, c⟩)
      · exact .inr ⟨x, b, trivial, c⟩
  · rintro m k (a | ⟨rfl, rfl⟩)
    · exact h.2.2.1 m k a
    · exact ⟨hkw, lvI_so h hl hk0⟩
/-- the levels of the class as they are found -/
def lvOk (g : zG) (s : zSn) (w : zWs) (μ : zzM) : Prop := ∀ n k, n ≤ sL s → k < w.1 → (∃ t, μ.1 42 (n * 90 + k) = zB t ∧ (t = true ↔ zAl g s w n k)) ∧ μ.1 43 (n * 90 + k) = nI (zLk g s w (zAl g s w) n k)
theorem zcSt_fr {w : zWs} {μ μ' : zzM} {L : List Nat} (h : zcSt w μ) (hf : zfr L μ μ') (hl : [26, 27, 28].all (fun c => !L.elem c) = true) : zcSt w μ' := by
  have hn : ∀ c, c ∈ [26, 27, 28] → L.elem c = false := fun c hc => by have := List.all_eq_true.1 hl c hc; simpa using this
  unfold zcSt zcS at h ⊢
  rw [zf_i hf (hn 26 (by simp)), zf_l hf (hn 27 (by simp)), zf_i hf (hn 28 (by simp))]
  exact h
theorem cCf_fr {b : Bool} {C FI RO EN : Nat} {g : zG} {s : zSn} {μ : zzM} {μ' : zzM} {L : List Nat} (h : cCf b C FI RO EN g s μ) (hf : zfr L μ μ') (hl : [C, FI, RO, EN].all (fun c => !L.elem c) = true) : cCf b C FI RO EN g s μ' := by
  have hn : ∀ c, c ∈ [C, FI, RO, EN] → L.elem c = false := fun c hc => by have := List.all_eq_true.1 hl c hc; simpa using this
  unfold cCf cEl cFi chk at h ⊢
  rw [zf_i hf (hn C (by simp)), zf_i hf (hn FI (by simp)), zf_i hf (hn RO (by simp)), zf_i hf (hn EN (by simp))]
  exact h
theorem cCh_fr {b : Bool} {C FI RO EN : Nat} {g : zG} {s : zSn} {μ : zzM} {μ' : zzM} {L : List Nat} (h : cCh b C FI RO EN g s μ) (hf : zfr L μ μ') (hl : [C, FI, RO, EN].all (fun c => !L.elem c) = true) : cCh b C FI RO EN g s μ' := by
  have hn : ∀ c, c ∈ [C, FI, RO, EN] → L.elem c = false := fun c hc => by have := List.all_eq_true.1 hl c hc; simpa using this
  unfold cCh cEl cFi chk at h ⊢
  rw [zf_i hf (hn C (by simp)), zf_i hf (hn FI (by simp)), zf_i hf (hn RO (by simp)), zf_i hf (hn EN (by simp))]
  exact h
theorem s_levFind {g : zG} {s : zSn} {μ : zzM} (h : zc2 g s μ) (hg : zwg g) (hs : zws g s) (hc : cCh false 31 32 33 34 g s μ) {w : zWs} (hw : zwt w) (hS : zcSt w μ) (d : Nat) (hst : μ.1 41 3 = 0 ∨ lvOk g s w μ) : zw (zzf zzP zN (d + 6) 73 [.ref 41] μ) fun o => zfr [31, 32, 33, 34, 41, 42, 43, 44] μ o.2 ∧ cCh false 31 32 33 34 g s o.2 ∧ lvOk g s w o.2 ∧ ¬ o.2.1 41 3 = 0 := by
  have hsl := hs.1
  have hw9 := hw.2.1
  rw [w_levels_find]
  by_cases e : μ.1 41 3 = 0
  · rw [if_pos e]
    obtain ⟨o, e1, e2, e3, e4⟩ := s_fill_31 d h hg hs hc
    rw [e1, Option.bind_some, s_fill_43, Option.bind_some]
    have hf0 : zfr [31, 32, 33, 34, 41, 42, 43, 44] μ (zblk o.2 43 0 1170 fun _ => nI 0) := zf_trans (zf_mono e2 rfl) (zf_b _ _ _ rfl)
    have hc0 : cCf false 31 32 33 34 g s (zblk o.2 43 0 1170 fun _ => nI 0) := cCf_fr e3 (zf_b (L := [43]) _ _ _ rfl) rfl
    have h43 : ∀ p, p < 1170 → (zblk o.2 43 0 1170 fun _ => nI 0).1 43 p = nI 0 := fun p hp => zb_i _ _ _ (Nat.zero_le _) hp
    generalize zblk o.2 43 0 1170 (fun _ => nI 0) = z0 at hf0 hc0 h43 ⊢
    refine zl_up (fun i (y : zzM) => ([nI i], [], y)) (fun i y => zfr [42] z0 y ∧ ∀ p, p < i → y.1 42 p = nI 0) 0 1170 z0 (by omega) (by omega) rfl ⟨zf_refl _ _, fun p a => absurd a (by omega)⟩ ?_ ?_
    · rintro i y ga - hi ⟨i1, i2⟩ hgo
      unfold L73_c
      simp only [zI0, zI1, zI2, zI3, zI4, zI5, zI6, zI7, zI8, zJ0, zJ1, zJ2, zMM]
      rw [if_neg (by rw [zq_le (by omega) (by omega)]; omega)]
      simp only [zk_0, if_true]
      rw [zs_i _ _ _ hi (by omega), Option.bind_some, zq_add]
      refine hgo _ ⟨zf_twI _ _ i1 rfl, fun p hp => ?_⟩
      rw [zm_if]
      split
      · rfl
      · exact i2 p (by omega)
    · rintro y ga ⟨i1, i2⟩
      unfold L73_c
      simp only [zI0, zI1, zI2, zI3, zI4, zI5, zI6, zI7, zI8, zJ0, zJ1, zJ2, zMM]
      rw [if_pos (by rw [zq_le (by omega) (by omega)]; omega)]
      simp only [zk_1, if_true]
      rw [zs_i _ _ _ (by omega) (by omega), Option.bind_some]
      refine zl_up (fun n (y : zzM) => ([nI n], [], y)) (fun n z => zfr [41, 42, 43, 44] z0 z ∧ ∃ A Cn, lvA A Cn z ∧ lvI g s w (fun m k => m < n ∧ A m k = true) A Cn) 0 (sL s + 1) _ (by omega) (by omega) rfl ⟨zf_twI _ _ (zf_mono i1 rfl) rfl, fun n k => decide (n = 0 ∧ k = 0), fun _ _ => 0, fun n k a b => ⟨?_, ?_⟩, fun n k _ => (zsuM_0 fun m _ => zsuM_0 fun k _ => if_neg (by rw [zdc_t]; omega)).symm, fun n k _ => ?_, fun m k q => absurd q.1 (by omega), fun n k q => ?_⟩ ?_ ?_
      · rw [zm_if]
        show _ = zB (decide (n = 0 ∧ k = 0))
        by_cases e : n * 90 + k = 0
        · rw [if_pos e, decide_eq_true (by omega)]
          rfl
        · rw [if_neg e, decide_eq_false (by omega), i2 _ (by omega)]
          rfl
      · rw [zm_c _ _ _ (by omega), zf_i i1 rfl]
        exact h43 _ (by omega)
      · rw [decide_eq_true_eq]
        exact ⟨.inl, fun q => q.resolve_right fun ⟨m, k', x, a, _⟩ => by omega⟩
      · rw [decide_eq_true_eq] at q
        have := hw.1
        omega
      · rintro n z gb - hn ⟨j1, A, Cn, j2, j3⟩ hgo
        have hfz := zf_trans hf0 (zf_mono (L' := [31, 32, 33, 34, 41, 42, 43, 44]) j1 rfl)
        have hz := zc2_fr h hfz rfl
        have hSz := zcSt_fr hS hfz rfl
        unfold L73_b
        simp only [zI0, zI1, zI2, zI3, zI4, zI5, zI6, zI7, zI8, zJ0, zJ1, zJ2, zMM]
        rw [c_len hz, if_neg (by rw [zq_lt (by omega) (by omega)]; omega)]
        obtain ⟨o1, f1, f2, -, wl, f3, f4, f5⟩ := s_gather (d + 3) (l := n) (W := w.1) (by omega) hw9 j2 hSz.1.1
        rw [f1, Option.bind_some]
        refine zl_ms (fun (x : Nat × zzM) => ([nI n, nI x.1], [], x.2)) (fun M x => M + x.1 = 100 ∧ zfr [41, 42, 43, 44] z0 x.2 ∧ ∃ A Cn wl, lvM A Cn wl x.2 ∧ x.1 ≤ wl.length ∧ wl.Nodup ∧ (∀ k, k ∈ wl ↔ A n k = true) ∧ lvI g s w (fun m k => (m < n ∧ A m k = true) ∨ (m = n ∧ k ∈ wl.take x.1)) A Cn) 100 (0, o1.2) (by omega) rfl ⟨rfl, zf_trans j1 (zf_mono f2 rfl), A, Cn, wl, f3, Nat.zero_le _, f4, fun k => by rw [f5]; exact ⟨fun q => q.2, fun q => ⟨j3.2.2.2 n k q, q⟩⟩, lvI_cg j3 fun m k => by simp⟩ ?_
        rintro M ⟨p, x⟩ gc ⟨k1, k2, A, Cn, wl, k3, k4, k5, k6, k7⟩ hgo2
        simp only at k1 k2 k3 k4 k5 k6 k7
        have hfx := zf_trans hf0 (zf_mono (L' := [31, 32, 33, 34, 41, 42, 43, 44]) k2 rfl)
        have hx := zc2_fr h hfx rfl
        have hSx := zcSt_fr hS hfx rfl
        have hcx := cCf_fr hc0 k2 rfl
        have hwl : wl.length ≤ w.1 := znodup_le k5 fun k q => k7.2.2.2 n k ((k6 k).1 q)
        unfold L73_a
        simp only [zI0, zI1, zI2, zI3, zI4, zI5, zI6, zI7, zI8, zJ0, zJ1, zJ2, zMM]
        rw [k3.2.1]
        simp (disch := omega) only [zq_le, zq_add]
        by_cases ep : wl.length ≤ p
        · rw [if_pos ep]
          have : p = wl.length := by omega
          subst this
          refine hgo x ⟨k2, A, Cn, k3.1, lvI_cg k7 fun m k => ?_⟩
          rw [List.take_length]
          constructor
          · rintro (q | ⟨rfl, q⟩)
            · exact ⟨by omega, q.2⟩
            · exact ⟨by omega, (k6 k).1 q⟩
          · rintro ⟨a, b⟩
            by_cases em : m = n
            · subst em
              exact .inr ⟨rfl, (k6 k).2 b⟩
            · exact .inl ⟨by omega, b⟩
        · rw [if_neg ep, if_neg (by omega), zr_i _ _ (by omega) (by omega), Option.bind_some, k3.2.2 p (by omega)]
          have hpm : wl[p] ∈ wl := List.getElem_mem _
          have hAp := (k6 _).1 hpm
          have hnp := ztake_n (by omega : p < wl.length) k5
          obtain ⟨o2, l1, l2, l3, A', Cn', wl', l4, l5⟩ := s_goFrom hx hg hs hcx hw hSx (d + 1) (l := n) (k0 := wl[p]) (by omega) (k7.2.2.2 _ _ hAp) k3 k5 k6 k7.2.2.2
          rw [l1, Option.bind_some]
          have hst := lvI_s (by omega) k7 hAp (fun q => q.elim (fun q => by omega) (fun q => hnp q.2)) l5
          obtain ⟨r1, r2, r3, r4, r5, zz, r6⟩ := l5
          have hAA : ∀ m k, m < n → (A' m k = true ↔ A m k = true) := fun m k hm => by
            rw [r2 m k (by omega)]
            refine ⟨fun q => q.resolve_right fun ⟨x', _, _, q⟩ => ?_, .inl⟩
            have := q.1
            omega
          refine hgo2 (M - 1) (p + 1, o2.2) (by omega) ⟨by show M - 1 + (p + 1) = 100; omega, zf_trans k2 l2, A', Cn', wl', l4, ?_, r3, r4, lvI_cg hst fun m k => ?_⟩
          · show p + 1 ≤ wl'.length
            rw [r6, List.length_append]
            omega
          · show _ ↔ (m < n ∧ A' m k = true) ∨ (m = n ∧ k ∈ wl'.take (p + 1))
            rw [r6, ztake_s (by omega : p < wl.length)]
            constructor
            · rintro ((⟨a, b⟩ | ⟨a, b⟩) | ⟨a, b⟩)
              · exact .inl ⟨a, (hAA m k a).2 b⟩
              · exact .inr ⟨a, .inl b⟩
              · exact .inr ⟨a, .inr b⟩
            · rintro (⟨a, b⟩ | ⟨a, b | b⟩)
              · exact .inl (.inl ⟨a, (hAA m k a).1 b⟩)
              · exact .inl (.inr ⟨a, b⟩)
              · exact .inr ⟨a, b⟩
      · rintro z gb ⟨j1, A, Cn, j2, j3⟩
        have hfz := zf_trans hf0 (zf_mono (L' := [31, 32, 33, 34, 41, 42, 43, 44]) j1 rfl)
        have hz := zc2_fr h hfz rfl
        unfold L73_b
        simp only [zI0, zI1, zI2, zI3, zI4, zI5, zI6, zI7, zI8, zJ0, zJ1, zJ2, zMM]
        rw [c_len hz, if_pos (by rw [zq_lt (by omega) (by omega)]; omega)]
        simp only [zk_1, if_true]
        have hAal : ∀ n k, n ≤ sL s → (A n k = true ↔ zAl g s w n k) := fun n k hn => ⟨lvI_so j3 hn, fun q => zAl_co (N := sL s) (A := fun n k => A n k = true) ((j3.2.1 0 0 (Nat.zero_le _)).2 (.inl ⟨rfl, rfl⟩)) (fun m k x n t hn _ hx hA he => (j3.2.1 n t hn).2 (.inr ⟨m, k, x, ⟨by have := he.1; omega, hA⟩, hx, he⟩)) hn q⟩
        refine zw_some ⟨zf_twI _ _ hfz rfl, cCf_h (cCf_fr hc0 (zf_twI (L := [41, 42, 43, 44]) _ _ j1 rfl) rfl), fun n k hn hk => ⟨⟨A n k, ?_, hAal n k hn⟩, ?_⟩, ?_⟩
        · rw [zm_c _ _ _ (by omega)]
          exact (j2 n k (by omega) (by omega)).1
        · rw [zm_c _ _ _ (by omega), (j2 n k (by omega) (by omega)).2, j3.1 n k hn, zLk_cg fun m k' hm _ => ⟨fun q => (hAal m k' (by omega)).1 q.2, fun q => ⟨by omega, (hAal m k' (by omega)).2 q⟩⟩]
        · rw [zm_s]
          decide
  · rw [if_neg e]
    exact zw_some ⟨zf_refl _ _, hc, hst.resolve_left e, e⟩
theorem s_smalls (d : Nat) {w : zWs} {μ : zzM} (hw : zwt w) (hS : zcSt w μ) {k : Nat} (hk : k < w.1) : zw (zzf zzP zN (d + 2) 46 [.ref 26, .int (nI k)] μ) fun o => o.2 = μ ∧ ∀ a, a < 32 → (bt o.1.1 a = true ↔ a < 26 ∧ (w.2.2 k a).isSome = true) := by
  have hw9 := hS.2.1
  rw [w_states_smallsFrom]
  refine zl_up (fun i (x : Int32) => ([nI k, x, nI i], [], μ)) (fun i x => ∀ a, a < 32 → (bt x a = true ↔ a < i ∧ (w.2.2 k a).isSome = true)) 0 26 (nI 0) (by omega) (by omega) rfl (fun a ha => by rw [b_z]; exact ⟨fun q => (by cases q), fun q => absurd q.1 (by omega)⟩) ?_ ?_
  · rintro i x ga - hi hI hgo
    unfold L46_a
    simp only [zI0, zI1, zI2, zI3, zI4, zI5, zI6, zI7, zI8, zJ0, zJ1, zJ2, zMM]
    rw [if_neg (by rw [zq_le (by omega) (by omega)]; omega), s_target _ (by omega) (by omega), Option.bind_some, hS.2.2 k i hk (by omega)]
    simp only [zq_add]
    cases ht : w.2.2 k i with
    | none =>
      rw [if_pos (show zgc none < 0 by decide)]
      refine hgo x fun a ha => ?_
      rw [hI a ha]
      by_cases e : a = i
      · subst e
        rw [ht]
        simp
      · exact ⟨fun q => ⟨by omega, q.2⟩, fun q => ⟨by omega, q.2⟩⟩
    | some t =>
      have htw := hw.2.2 _ _ _ ht
      rw [if_neg (show ¬ zgc (some t) < 0 from nI_pos (by omega))]
      · refine hgo _ fun a ha => ?_
        rw [b_or, b_sh1 (by omega) ha, Bool.or_eq_true, hI a ha, decide_eq_true_eq]
        by_cases e : a = i
        · subst e
          rw [ht]
          simp
        · exact ⟨fun q => ⟨by omega, (q.resolve_right e).2⟩, fun q => .inl ⟨by omega, q.2⟩⟩
  · rintro x ga hI
    unfold L46_a
    simp only [zI0, zI1, zI2, zI3, zI4, zI5, zI6, zI7, zI8, zJ0, zJ1, zJ2, zMM]
    rw [if_pos (by rw [zq_le (by omega) (by omega)]; omega)]
    exact zw_some ⟨rfl, hI⟩
