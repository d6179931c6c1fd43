/-! THE LEVELS of the class -/
def zu2 {α : Type} (f : Nat → Nat → α) (n t : Nat) (v : α) : Nat → Nat → α := fun n' t' => if n' = n ∧ t' = t then v else f n' t'
theorem zu2_s {α : Type} (f : Nat → Nat → α) (n t : Nat) (v : α) : zu2 f n t v n t = v := if_pos ⟨rfl, rfl⟩
theorem zu2_o {α : Type} (f : Nat → Nat → α) {n t n' t' : Nat} (v : α) (h : ¬ (n' = n ∧ t' = t)) : zu2 f n t v n' t' = f n' t' := if_neg h
/-- lives, counts, the row of those that wait -/
def lvM (A : Nat → Nat → Bool) (Cn : Nat → Nat → Nat) (wl : List Nat) (y : zzM) : Prop := (∀ n k, n < 13 → k < 90 → y.1 42 (n * 90 + k) = zB (A n k) ∧ y.1 43 (n * 90 + k) = nI (Cn n k)) ∧ y.1 41 7 = nI wl.length ∧ ∀ p (h : p < wl.length), y.1 44 p = nI wl[p]
theorem s_alive (d : Nat) {A : Nat → Nat → Bool} {Cn : Nat → Nat → Nat} {wl : List Nat} {y : zzM} (h : lvM A Cn wl y) {n k : Nat} (hn : n < 13) (hk : k < 90) : zzf zzP zN (d + 1) 68 [.ref 41, .int (nI n), .int (nI k)] y = some ((zB (A n k), 0, 0), y) := by
  rw [u_levels_isAlive, zq_mul, zq_add, zr_i _ _ (by omega) (by omega), Option.bind_some, (h.1 n k hn hk).1]
  simp only [zB_ok, if_true]
theorem s_link (d : Nat) {A : Nat → Nat → Bool} {Cn : Nat → Nat → Nat} {wl : List Nat} {y : zzM} (h : lvM A Cn wl y) {l n t : Nat} (hl : l < 13) (hn : n < 13) (ht : t < 90) (hw : A n t = false → n = l → wl.length < 90) (hw9 : wl.length ≤ 90) : zw (zzf zzP zN (d + 1) 76 [.ref 41, .int (nI l), .int (nI n), .int (nI t)] y) fun o => zfr [41, 42, 43, 44] y o.2 ∧ (∀ p, p ≠ 7 → o.2.1 41 p = y.1 41 p) ∧ lvM (zu2 A n t true) (zu2 Cn n t (Cn n t + 1)) (if A n t = false ∧ n = l then wl ++ [t] else wl) o.2 := by
  obtain ⟨h1, h2, h3⟩ := h
  obtain ⟨h4, h5⟩ := h1 n t hn ht
  rw [u_levels_link]
  simp only [zq_mul, zq_add, zk_1, if_true]
  rw [zr_i _ _ (by omega) (by omega), Option.bind_some, h5, zs_i _ _ _ (by omega) (by omega), Option.bind_some, zr_i _ _ (by omega) (by omega), Option.bind_some, zm_c _ _ _ (by omega), h4, zq_add]
  simp only [zB_0]
  have hidx : ∀ n' k', n' < 13 → k' < 90 → ¬ (n' = n ∧ k' = t) → n' * 90 + k' ≠ n * 90 + t := fun n' k' _ _ e => by omega
  cases hA : A n t with
  | true =>
    rw [if_neg (by decide), if_neg (by simp)]
    refine zw_some ⟨zf_wI _ _ rfl, fun p hp => by rw [zm_c _ _ _ (by omega)], ⟨fun n' k' a b => ?_, by rw [zm_c _ _ _ (by omega)]; exact h2, fun p hp => by rw [zm_c _ _ _ (by omega)]; exact h3 p hp⟩⟩
    by_cases e : n' = n ∧ k' = t
    · obtain ⟨rfl, rfl⟩ := e
      rw [zu2_s, zu2_s, zm_c _ _ _ (by omega), zm_s, h4, hA]
      exact ⟨rfl, rfl⟩
    · rw [zu2_o _ _ e, zu2_o _ _ e, zm_c _ _ _ (by omega), zm_k _ _ _ _ (hidx n' k' a b e)]
      exact h1 n' k' a b
  | false =>
    rw [if_pos rfl, zs_i _ _ _ (by omega) (by omega), Option.bind_some]
    simp (disch := omega) only [zq_eq]
    have hAC : ∀ z : zzM, z.1 42 = (zzwI (zzwI y 43 (n * 90 + t) (nI (Cn n t + 1))) 42 (n * 90 + t) (nI 1)).1 42 → z.1 43 = (zzwI (zzwI y 43 (n * 90 + t) (nI (Cn n t + 1))) 42 (n * 90 + t) (nI 1)).1 43 → ∀ n' k', n' < 13 → k' < 90 → z.1 42 (n' * 90 + k') = zB (zu2 A n t true n' k') ∧ z.1 43 (n' * 90 + k') = nI (zu2 Cn n t (Cn n t + 1) n' k') := by
      intro z e1 e2 n' k' a b
      rw [e1, e2]
      by_cases e : n' = n ∧ k' = t
      · obtain ⟨rfl, rfl⟩ := e
        rw [zu2_s, zu2_s, zm_s, zm_c _ _ _ (by omega), zm_s]
        exact ⟨rfl, rfl⟩
      · rw [zu2_o _ _ e, zu2_o _ _ e, zm_k _ _ _ _ (hidx n' k' a b e), zm_c _ _ _ (by omega), zm_c _ _ _ (by omega), zm_k _ _ _ _ (hidx n' k' a b e)]
        exact h1 n' k' a b
    by_cases enl : n = l
    · rw [if_pos enl, if_pos (show True ∧ n = l from ⟨trivial, enl⟩)]
      have hwl := hw hA enl
      rw [zm_c _ _ _ (by omega), zm_c _ _ _ (by omega), h2, if_neg (by rw [zq_le (by omega) (by omega)]; omega), zs_i _ _ _ hwl (by omega), Option.bind_some, zm_c _ _ _ (by omega), zm_c _ _ _ (by omega), zm_c _ _ _ (by omega), h2, zq_add]
      refine zw_some ⟨zf_twI _ _ (zf_twI _ _ (zf_twI _ _ (zf_wI _ _ rfl) rfl) rfl) rfl, fun p hp => by rw [zm_k _ _ _ _ hp, zm_c _ _ _ (by omega), zm_c _ _ _ (by omega), zm_c _ _ _ (by omega)], ⟨hAC _ (by rw [zm_c _ _ _ (by omega), zm_c _ _ _ (by omega)]) (by rw [zm_c _ _ _ (by omega), zm_c _ _ _ (by omega)]), ?_, fun p hp => ?_⟩⟩
      · rw [zm_s, List.length_append]
        rfl
      · rw [zm_c _ _ _ (by omega)]
        rw [List.length_append] at hp
        have hp : p < wl.length + 1 := hp
        by_cases ep : p = wl.length
        · subst ep
          rw [zm_s]
          simp
        · rw [zm_k _ _ _ _ ep, zm_c _ _ _ (by omega), zm_c _ _ _ (by omega), h3 p (by omega), List.getElem_append_left (by omega)]
    · rw [if_neg enl, if_neg (show ¬ (True ∧ n = l) from fun q => enl q.2)]
      refine zw_some ⟨zf_twI _ _ (zf_wI _ _ rfl) rfl, fun p hp => by rw [zm_c _ _ _ (by omega), zm_c _ _ _ (by omega)], ⟨hAC _ rfl rfl, by rw [zm_c _ _ _ (by omega), zm_c _ _ _ (by omega)]; exact h2, fun p hp => by rw [zm_c _ _ _ (by omega), zm_c _ _ _ (by omega)]; exact h3 p hp⟩⟩
/-- what one state's links add, as far as symbols at levels were gone through -/
def lrel (g : zG) (s : zSn) (w : zWs) (A0 : Nat → Nat → Bool) (Cn0 : Nat → Nat → Nat) (wl0 : List Nat) (l k0 : Nat) (Pr : Nat → Nat → Prop) (A : Nat → Nat → Bool) (Cn : Nat → Nat → Nat) (wl : List Nat) : Prop := (∀ n k, n ≤ sL s → Cn n k = Cn0 n k + zcnt (fun x => zdc (Pr x n ∧ zEd g s w l k0 x n k)) 52) ∧ (∀ n k, n ≤ sL s → (A n k = true ↔ A0 n k = true ∨ ∃ x, x < 52 ∧ Pr x n ∧ zEd g s w l k0 x n k)) ∧ wl.Nodup ∧ (∀ k, k ∈ wl ↔ A l k = true) ∧ (∀ n k, A n k = true → k < w.1) ∧ ∃ z, wl = wl0 ++ z
theorem lrel_cg {g : zG} {s : zSn} {w : zWs} {A0 : Nat → Nat → Bool} {Cn0 : Nat → Nat → Nat} {wl0 : List Nat} {l k0 : Nat} {Pr Pr' : Nat → Nat → Prop} {A : Nat → Nat → Bool} {Cn : Nat → Nat → Nat} {wl : List Nat} (h : lrel g s w A0 Cn0 wl0 l k0 Pr A Cn wl) (hp : ∀ x n k, x < 52 → n ≤ sL s → zEd g s w l k0 x n k → (Pr x n ↔ Pr' x n)) : lrel g s w A0 Cn0 wl0 l k0 Pr' A Cn wl := by
  have hq : ∀ x n k, x < 52 → n ≤ sL s → ((Pr x n ∧ zEd g s w l k0 x n k) ↔ (Pr' x n ∧ zEd g s w l k0 x n k)) := fun x n k a b => ⟨fun q => ⟨(hp x n k a b q.2).1 q.1, q.2⟩, fun q => ⟨(hp x n k a b q.2).2 q.1, q.2⟩⟩
  refine ⟨fun n k hn => ?_, fun n k hn => ?_, h.2.2⟩
  · rw [h.1 n k hn, zcnt_cg fun x hx => zdc_cg (hq x n k hx hn)]
  · rw [h.2.1 n k hn]
    exact ⟨fun q => q.imp id fun ⟨x, a, b⟩ => ⟨x, a, (hq x n k a hn).1 b⟩, fun q => q.imp id fun ⟨x, a, b⟩ => ⟨x, a, (hq x n k a hn).2 b⟩⟩
theorem zEd_un {g : zG} {s : zSn} {w : zWs} {l k0 x n k k' : Nat} (h : zEd g s w l k0 x n k) (h' : zEd g s w l k0 x n k') : k = k' := by
  have := h.2.1.symm.trans h'.2.1
  cases this
  rfl
theorem lrel_s {g : zG} {s : zSn} {w : zWs} {A0 : Nat → Nat → Bool} {Cn0 : Nat → Nat → Nat} {wl0 : List Nat} {l k0 : Nat} {Pr : Nat → Nat → Prop} {A : Nat → Nat → Bool} {Cn : Nat → Nat → Nat} {wl : List Nat} (hl : l ≤ sL s) (hw : zwt w) (h : lrel g s w A0 Cn0 wl0 l k0 Pr A Cn wl) {x n t : Nat} (hx : x < 52) (hn : n ≤ sL s) (hp : ¬ Pr x n) (he : zEd g s w l k0 x n t) : lrel g s w A0 Cn0 wl0 l k0 (fun x' n' => Pr x' n' ∨ (x' = x ∧ n' = n)) (zu2 A n t true) (zu2 Cn n t (Cn n t + 1)) (if A n t = false ∧ n = l then wl ++ [t] else wl) := by
  obtain ⟨h1, h2, h3, h4, h5, z, h6⟩ := h
  have htw := hw.2.2 _ _ _ he.2.1
  refine ⟨fun n' k hn' => ?_, fun n' k hn' => ?_, ?_, fun k => ?_, fun n' k q => ?_, ?_⟩
  · by_cases e : n' = n ∧ k = t
    · obtain ⟨rfl, rfl⟩ := e
      rw [zu2_s, h1 n' k hn', zcnt_1 (p := fun x => zdc (Pr x n' ∧ zEd g s w l k0 x n' k)) (q := fun x' => zdc ((Pr x' n' ∨ (x' = x ∧ n' = n')) ∧ zEd g s w l k0 x' n' k)) hx (zdc_f.2 fun q => hp q.1) (zdc_t.2 ⟨.inr ⟨rfl, rfl⟩, he⟩) (fun i _ hi => zdc_cg ⟨fun q => ⟨q.1.resolve_right fun q => hi q.1, q.2⟩, fun q => ⟨.inl q.1, q.2⟩⟩)]
      omega
    · have hcg : zcnt (fun x' => zdc ((Pr x' n' ∨ (x' = x ∧ n' = n)) ∧ zEd g s w l k0 x' n' k)) 52 = zcnt (fun x' => zdc (Pr x' n' ∧ zEd g s w l k0 x' n' k)) 52 := zcnt_cg fun x' _ => zdc_cg ⟨fun q => ⟨q.1.resolve_right fun q' => e (by obtain ⟨rfl, rfl⟩ := q'; exact ⟨rfl, zEd_un q.2 he⟩), q.2⟩, fun q => ⟨.inl q.1, q.2⟩⟩
      rw [zu2_o _ _ e, h1 n' k hn', hcg]
  · by_cases e : n' = n ∧ k = t
    · obtain ⟨rfl, rfl⟩ := e
      rw [zu2_s]
      exact ⟨fun _ => .inr ⟨x, hx, .inr ⟨rfl, rfl⟩, he⟩, fun _ => rfl⟩
    · rw [zu2_o _ _ e, h2 n' k hn']
      refine ⟨fun q => q.imp id fun ⟨x', a, b, c⟩ => ⟨x', a, .inl b, c⟩, fun q => q.imp id fun ⟨x', a, b, c⟩ => ⟨x', a, b.resolve_right fun q' => e ?_, c⟩⟩
      obtain ⟨rfl, rfl⟩ := q'
      exact ⟨rfl, zEd_un c he⟩
  · split
    · rename_i e
      refine List.nodup_append.2 ⟨h3, by simp, ?_⟩
      rintro a ha b hb rfl
      simp at hb
      subst hb
      have := (h4 a).1 ha
      rw [← e.2, e.1] at this
      cases this
    · exact h3
  · split
    · rename_i e
      rw [List.mem_append, h4 k]
      by_cases ek : k = t
      · subst ek
        rw [e.2, zu2_s]
        simp
      · rw [zu2_o _ _ fun q => ek q.2]
        simp [ek]
    · rename_i e
      rw [h4 k]
      by_cases ek : l = n ∧ k = t
      · obtain ⟨rfl, rfl⟩ := ek
        rw [zu2_s]
        cases q : A l k with
        | true => simp
        | false => exact absurd ⟨q, rfl⟩ e
      · rw [zu2_o _ _ ek]
  · by_cases e : n' = n ∧ k = t
    · rw [e.2]; exact htw
    · rw [zu2_o _ _ e] at q
      exact h5 n' k q
  · split
    · exact ⟨z ++ [t], by rw [h6, List.append_assoc]⟩
    · exact ⟨z, h6⟩
theorem lrel_9 {g : zG} {s : zSn} {w : zWs} {A0 : Nat → Nat → Bool} {Cn0 : Nat → Nat → Nat} {wl0 : List Nat} {l k0 : Nat} {Pr : Nat → Nat → Prop} {A : Nat → Nat → Bool} {Cn : Nat → Nat → Nat} {wl : List Nat} (hw : zwt w) (h : lrel g s w A0 Cn0 wl0 l k0 Pr A Cn wl) : wl.length ≤ 90 ∧ ∀ t, t < w.1 → A l t = false → wl.length < 90 := by
  obtain ⟨-, -, h3, h4, h5, -⟩ := h
  have hb : ∀ x, x ∈ wl → x < w.1 := fun x hx => h5 l x ((h4 x).1 hx)
  have h9 := hw.2.1
  refine ⟨Nat.le_trans (znodup_le h3 hb) h9, fun t ht hA => ?_⟩
  have h6 : (t :: wl).Nodup := by
    rw [List.nodup_cons]
    refine ⟨fun q => ?_, h3⟩
    rw [(h4 t).1 q] at hA
    cases hA
  have := znodup_le h6 (n := w.1) fun x hx => by
    rcases List.mem_cons.1 hx with rfl | hx
    · exact ht
    · exact hb x hx
  have : wl.length + 1 ≤ w.1 := this
  omega
theorem s_goFrom {g : zG} {s : zSn} {μ : zzM} (h : zc2 g s μ) (hg : zwg g) (hs : zws g s) (hc : cCf false 31 32 33 34 g s μ) {w : zWs} (hw : zwt w) (hS : zcSt w μ) (d : Nat) {A0 : Nat → Nat → Bool} {Cn0 : Nat → Nat → Nat} {wl0 : List Nat} {l k0 : Nat} (hl : l ≤ sL s) (hk0 : k0 < w.1) (hM : lvM A0 Cn0 wl0 μ) (h3 : wl0.Nodup) (h4 : ∀ k, k ∈ wl0 ↔ A0 l k = true) (h5 : ∀ n k, A0 n k = true → k < w.1) : zw (zzf zzP zN (d + 4) 75 [.ref 41, .int (nI l), .int (nI k0)] μ) fun o => zfr [41, 42, 43, 44] μ o.2 ∧ (∀ p, p ≠ 7 → o.2.1 41 p = μ.1 41 p) ∧ ∃ A Cn wl, lvM A Cn wl o.2 ∧ lrel g s w A0 Cn0 wl0 l k0 (fun _ _ => True) A Cn wl := by
  have hsl := hs.1
  have hw9 := hw.2.1
  rw [w_levels_goFrom]
  refine zl_up (fun x (y : zzM) => ([nI l, nI k0, nI x], [], y)) (fun x y => zfr [41, 42, 43, 44] μ y ∧ (∀ p, p ≠ 7 → y.1 41 p = μ.1 41 p) ∧ ∃ A Cn wl, lvM A Cn wl y ∧ lrel g s w A0 Cn0 wl0 l k0 (fun x' _ => 26 ≤ x' ∧ x' < x) A Cn wl) 26 52 μ (by omega) (by omega) rfl ⟨zf_refl _ _, fun _ _ => rfl, A0, Cn0, wl0, hM, fun n k _ => ?_, fun n k _ => ⟨.inl, fun q => q.resolve_right fun ⟨x, _, a, _⟩ => by omega⟩, h3, h4, h5, [], by simp⟩ ?_ ?_
  · rw [zcnt_0 fun x _ => zdc_f.2 fun q => by omega]
    omega
  · rintro x y ga hx hx2 ⟨i1, i2, A, Cn, wl, i3, i4⟩ hgo
    have hy := zc2_fr h i1 rfl
    have hcy : cCf false 31 32 33 34 g s y := by
      unfold cCf cEl cFi chk at hc ⊢
      rw [zf_i i1 (c := 31) rfl, zf_i i1 (c := 32) rfl, zf_i i1 (c := 33) rfl, zf_i i1 (c := 34) rfl]
      exact hc
    unfold L75_b
    simp only [zI0, zI1, zI2, zI3, zI4, zI5, zI6, zI7, zI8, zJ0, zJ1, zJ2, zMM]
    have htg : y.1 28 (k0 * 52 + x) = zgc (w.2.2 k0 x) := by
      rw [zf_i i1 rfl]
      exact hS.2.2 k0 x hk0 (by omega)
    rw [if_neg (by rw [zq_le (by omega) (by omega)]; omega), s_target _ (by omega) (by omega), Option.bind_some, htg]
    cases ht : w.2.2 k0 x with
    | none =>
      have hno : ∀ n k, ¬ zEd g s w l k0 x n k := fun n k q => by rw [q.2.1] at ht; cases ht
      refine zl_up (fun n (y : zzM) => ([nI l, nI k0, nI x, zgc none, nI n], [], y)) (fun n z => z = y) l (sL s + 1) y (by omega) (by omega) rfl rfl ?_ ?_
      · rintro n z gb hn hn2 rfl hgo2
        unfold L75_a
        simp only [zI0, zI1, zI2, zI3, zI4, zI5, zI6, zI7, zI8, zJ0, zJ1, zJ2, zMM]
        rw [c_len hy, if_neg (by rw [zq_lt (by omega) (by omega)]; omega), if_pos (by decide), zq_add]
        refine hgo z ⟨i1, i2, A, Cn, wl, i3, lrel_cg i4 fun x' n' k a b q => ?_⟩
        have : x' ≠ x := fun e => hno n' k (by rw [← e]; exact q)
        omega
      · rintro z gb rfl
        unfold L75_a
        simp only [zI0, zI1, zI2, zI3, zI4, zI5, zI6, zI7, zI8, zJ0, zJ1, zJ2, zMM]
        rw [c_len hy, if_pos (by rw [zq_lt (by omega) (by omega)]; omega), zq_add]
        refine hgo z ⟨i1, i2, A, Cn, wl, i3, lrel_cg i4 fun x' n' k a b q => ?_⟩
        have : x' ≠ x := fun e => hno n' k (by rw [← e]; exact q)
        omega
    | some t =>
      have htw := hw.2.2 _ _ _ ht
      show zw (zzl (L75_a zN (d + 3) ga) zN ([nI l, nI k0, nI x, nI t, nI l], [], y)) _
      refine zl_up (fun n (y : zzM) => ([nI l, nI k0, nI x, nI t, nI n], [], y)) (fun n z => zfr [41, 42, 43, 44] μ z ∧ (∀ p, p ≠ 7 → z.1 41 p = μ.1 41 p) ∧ ∃ A Cn wl, lvM A Cn wl z ∧ lrel g s w A0 Cn0 wl0 l k0 (fun x' n' => 26 ≤ x' ∧ (x' < x ∨ (x' = x ∧ n' < n))) A Cn wl) l (sL s + 1) y (by omega) (by omega) rfl ⟨i1, i2, A, Cn, wl, i3, lrel_cg i4 fun x' n' k a b q => ?_⟩ ?_ ?_
      · have := q.1
        omega
      · rintro n z gb hn hn2 ⟨j1, j2, A, Cn, wl, j3, j4⟩ hgo2
        have hz := zc2_fr h j1 rfl
        have hcz : cCf false 31 32 33 34 g s z := by
          unfold cCf cEl cFi chk at hc ⊢
          rw [zf_i j1 (c := 31) rfl, zf_i j1 (c := 32) rfl, zf_i j1 (c := 33) rfl, zf_i j1 (c := 34) rfl]
          exact hc
        unfold L75_a
        simp only [zI0, zI1, zI2, zI3, zI4, zI5, zI6, zI7, zI8, zJ0, zJ1, zJ2, zMM]
        rw [c_len hz, if_neg (by rw [zq_lt (by omega) (by omega)]; omega), if_neg (nI_pos (by omega))]
        obtain ⟨o, e1, e2, b, e3, e4⟩ := s_hasRow hz hg hcz hsl d hx (show x < 52 by omega) (show l ≤ n by omega) (show n ≤ sL s by omega)
        rw [e1, Option.bind_some, e2, e3]
        simp only [zB_0, zq_add]
        have hmo : zMo g s x l n ↔ zDv g s x l n := ⟨fun q => q.elim (fun q => by omega) (fun q => q.2), fun q => .inr ⟨hx, q⟩⟩
        cases b with
        | false =>
          rw [if_pos rfl]
          refine hgo2 z ⟨j1, j2, A, Cn, wl, j3, lrel_cg j4 fun x' n' k a b q => ?_⟩
          have : ¬ (x' = x ∧ n' = n) := fun e => by
            obtain ⟨rfl, rfl⟩ := e
            have := e4.2 (hmo.1 q.2.2)
            cases this
          omega
        | true =>
          rw [if_neg (by decide)]
          have hed : zEd g s w l k0 x n t := ⟨by omega, ht, hmo.2 (e4.1 rfl)⟩
          obtain ⟨h9, h10⟩ := lrel_9 hw j4
          obtain ⟨o', f1, f2, f3, f4⟩ := s_link (d + 2) j3 (l := l) (n := n) (t := t) (by omega) (by omega) (by omega) (fun a b => h10 t htw (by rw [← b]; exact a)) h9
          rw [f1, Option.bind_some]
          refine hgo2 o'.2 ⟨zf_trans j1 f2, fun p hp => (f3 p hp).trans (j2 p hp), _, _, _, f4, lrel_cg (lrel_s hl hw j4 (x := x) (n := n) (t := t) (by omega) (by omega) (by omega) hed) fun x' n' k a b q => by omega⟩
      · rintro z gb ⟨j1, j2, A, Cn, wl, j3, j4⟩
        have hz := zc2_fr h j1 rfl
        unfold L75_a
        simp only [zI0, zI1, zI2, zI3, zI4, zI5, zI6, zI7, zI8, zJ0, zJ1, zJ2, zMM]
        rw [c_len hz, if_pos (by rw [zq_lt (by omega) (by omega)]; omega), zq_add]
        exact hgo z ⟨j1, j2, A, Cn, wl, j3, lrel_cg j4 fun x' n' k a b q => by omega⟩
  · rintro y ga ⟨i1, i2, A, Cn, wl, i3, i4⟩
    have hy := zc2_fr h i1 rfl
    unfold L75_b
    simp only [zI0, zI1, zI2, zI3, zI4, zI5, zI6, zI7, zI8, zJ0, zJ1, zJ2, zMM]
    rw [if_pos (by rw [zq_le (by omega) (by omega)]; omega), c_len hy]
    simp (disch := omega) only [zq_le]
    by_cases hls : sL s ≤ l
    · rw [if_pos hls]
      refine zw_some ⟨i1, i2, A, Cn, wl, i3, lrel_cg i4 fun x' n' k a b q => ?_⟩
      have : 26 ≤ x' := by
        rcases q.2.2 with q' | q'
        · have := q'.2.1; omega
        · exact q'.1
      exact ⟨fun _ => trivial, fun _ => by omega⟩
    · have hx26 := hs.2.1 l (by omega)
      rw [if_neg hls, zr_i _ _ (by omega) (by omega), c_x hy (by omega), Option.bind_some, s_target _ (by omega) (by omega), Option.bind_some]
      have htg : y.1 28 (k0 * 52 + sX s l) = zgc (w.2.2 k0 (sX s l)) := by
        rw [zf_i i1 rfl]
        exact hS.2.2 k0 (sX s l) hk0 (by omega)
      rw [htg]
      have hsm : ∀ x' n' k, x' < 26 → zEd g s w l k0 x' n' k → x' = sX s l ∧ n' = l + 1 := fun x' n' k a q => by
        rcases q.2.2 with q' | q'
        · exact ⟨q'.2.2.symm, q'.2.1⟩
        · omega
      cases ht : w.2.2 k0 (sX s l) with
      | none =>
        rw [if_pos (show zgc none < 0 by decide)]
        refine zw_some ⟨i1, i2, A, Cn, wl, i3, lrel_cg i4 fun x' n' k a b q => ?_⟩
        have : 26 ≤ x' := by
          apply Nat.le_of_not_lt
          intro q'
          obtain ⟨e1, e2⟩ := hsm x' n' k q' q
          rw [e1] at q
          rw [q.2.1] at ht
          cases ht
        exact ⟨fun _ => trivial, fun _ => by omega⟩
      | some t =>
        have htw := hw.2.2 _ _ _ ht
        rw [if_neg (show ¬ zgc (some t) < 0 from nI_pos (by omega)), zq_add]
        have hed : zEd g s w l k0 (sX s l) (l + 1) t := ⟨by omega, ht, .inl ⟨hx26, rfl, rfl⟩⟩
        obtain ⟨h9, h10⟩ := lrel_9 hw i4
        obtain ⟨o', f1, f2, f3, f4⟩ := s_link (d + 2) i3 (l := l) (n := l + 1) (t := t) (by omega) (by omega) (by omega) (fun a b => by omega) h9
        show zw (Option.bind (zzf zzP zN (d + 3) 76 [.ref 41, .int (nI l), .int (nI (l + 1)), .int (nI t)] y) _) _
        rw [f1, Option.bind_some]
        refine zw_some ⟨zf_trans i1 f2, fun p hp => (f3 p hp).trans (i2 p hp), _, _, _, f4, lrel_cg (lrel_s hl hw i4 (x := sX s l) (n := l + 1) (t := t) (by omega) (by omega) (by omega) hed) fun x' n' k a b q => ?_⟩
        by_cases hx' : x' < 26
        · exact ⟨fun _ => trivial, fun _ => .inr (hsm x' n' k hx' q)⟩
        · exact ⟨fun _ => trivial, fun _ => .inl (by omega)⟩
