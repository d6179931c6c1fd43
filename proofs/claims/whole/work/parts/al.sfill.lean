/-! the sizes of the class, column by column -/
def zuC (C : Nat) (f : Nat → Nat → Nat → Nat) (m n q i j : Nat) : Nat := if i = m ∧ j = n then C else f q i j
theorem zuC_s (C : Nat) (f : Nat → Nat → Nat → Nat) (m n q : Nat) : zuC C f m n q m n = C := if_pos ⟨rfl, rfl⟩
theorem zuC_o (C : Nat) (f : Nat → Nat → Nat → Nat) {m n q i j : Nat} (h : ¬ (i = m ∧ j = n)) : zuC C f m n q i j = f q i j := if_neg h
theorem zSP_cg {g : zG} {s : zSn} {T T' : Nat → Nat → Nat → Nat → Prop} {r k i j p : Nat} (h : ∀ q, T q i j p ↔ T' q i j p) : zSP g s T r k i j p ↔ zSP g s T' r k i j p := ⟨zSP_mo fun q => (h q).1, zSP_mo fun q => (h q).2⟩
theorem s_sclear {g : zG} {s : zSn} {μ : zzM} (h : zc2 g s μ) (hg : zwg g) (hc : cCf true 36 37 38 39 g s μ) (hsl : sL s ≤ 12) (d : Nat) {f : Nat → Nat → Nat → Nat} {D : Nat → Nat → Prop} {m n : Nat} (hm : m ≤ n) (hn : n ≤ sL s) (hD : ¬ D m n) (hZ : cSz g s f D μ) : zw (zzf zzP zN (d + 2) 87 [.ref 48, .int (nI m), .int (nI n)] μ) fun o => zfr [49, 50] μ o.2 ∧ cSz g s (zuC 1152921504606846976 f m n) (fun i j => D i j ∨ (i = m ∧ j = n)) o.2 := by
  have hgn := g_n hg
  have hsp := zsp_lt n (by omega) m (by omega) hm
  rw [w_sizes_clear, s_zsp _ hm (by omega), Option.bind_some]
  show zw (zzl (L87_b zN (d + 1)) zN ([nI m, nI n, nI (zsp m n), nI 0], [], μ)) _
  let I : Nat → Nat → zzM → Prop := fun r0 k0 y => zfr [49, 50] μ y ∧ (∀ p, (∀ q, p ≠ q * 91 + zsp m n) → y.2 49 p = μ.2 49 p) ∧ (∀ p, (∀ q, p ≠ q * 91 + zsp m n) → y.2 50 p = μ.2 50 p) ∧ (∀ q, q < r0 ∨ (q = r0 ∧ 0 < k0) → y.2 49 (q * 91 + zsp m n) = lN 1152921504606846976) ∧ ∀ r k, r < gN g → k < gZ g r → (r < r0 ∨ (r = r0 ∧ k + 1 < k0)) → ∃ x, y.2 50 ((r * 4 + k) * 91 + zsp m n) = lN x ∧ zmn 1152921504606846976 (zSP g s (zTf 1152921504606846976 (zuC 1152921504606846976 f m n)) r k m n) x
  refine zl_up (fun r0 (y : zzM) => ([nI m, nI n, nI (zsp m n), nI r0], [], y)) (fun r0 y => I r0 0 y) 0 (gN g) μ (by omega) (by omega) rfl ⟨zf_refl _ _, fun _ _ => rfl, fun _ _ => rfl, fun q e => absurd e (by omega), fun r k _ _ e => absurd e (by omega)⟩ ?_ ?_
  · rintro r0 y ga - hr0 ⟨i1, i2, i3, i4, i5⟩ hgo
    have hz0 := g_z hg hr0
    unfold L87_b
    simp only [zI0, zI1, zI2, zI3, zI4, zI5, zI6, zI7, zI8, zJ0, zJ1, zJ2, zMM]
    rw [c_n (zc2_fr h i1 rfl), if_neg (by rw [zq_le (by omega) (by omega)]; omega), zq_mul, zq_add, zs_l _ _ _ (by omega) (by omega), Option.bind_some]
    refine zl_up (fun k0 (y : zzM) => ([nI m, nI n, nI (zsp m n), nI r0, nI k0], [], y)) (fun k0 y => I r0 (k0 + 1) y) 0 (gZ g r0) _ (by omega) (by omega) rfl ⟨zf_twL _ _ i1 rfl, fun p hp => by rw [zn_k _ _ _ _ (hp r0)]; exact i2 p hp, fun p hp => by rw [zn_c _ _ _ (by omega)]; exact i3 p hp, fun q e => ?_, fun r k a b e => ?_⟩ ?_ ?_
    · by_cases eq : q = r0
      · rw [eq, zn_s]
      · rw [zn_k _ _ _ _ (by omega)]
        exact i4 q (by omega)
    · rw [zn_c _ _ _ (by omega)]
      exact i5 r k a b (by omega)
    · rintro k0 z gb - hk0 ⟨j1, j2, j3, j4, j5⟩ hgo2
      have hz := zc2_fr h j1 rfl
      have hcz := cCf_fr hc j1 rfl
      unfold L87_a
      simp only [zI0, zI1, zI2, zI3, zI4, zI5, zI6, zI7, zI8, zJ0, zJ1, zJ2, zMM]
      rw [zr_i _ _ (by omega) (by omega), c_z hz hr0, Option.bind_some, if_neg (by rw [zq_le (by omega) (by omega)]; omega), s_symAt hz hg d hr0 hk0, Option.bind_some]
      have hgs := g_s hg hr0 hk0
      have fin : ∀ x, zmn 1152921504606846976 (zSP g s (zTf 1152921504606846976 (zuC 1152921504606846976 f m n)) r0 k0 m n) x → zw (J87_a zN (d + 1) ga gb (nI m) (nI n) (nI (zsp m n)) (nI r0) (nI k0) (lN x) (nI ((r0 * 4 + k0) * 91 + zsp m n)) z) fun o => zfr [49, 50] μ o.2 ∧ cSz g s (zuC 1152921504606846976 f m n) (fun i j => D i j ∨ (i = m ∧ j = n)) o.2 := by
        intro x hx
        unfold J87_a
        rw [zs_l _ _ _ (by omega) (by omega), Option.bind_some, zq_add]
        refine hgo2 _ ⟨zf_twL _ _ j1 rfl, fun p hp => by rw [zn_c _ _ _ (by omega)]; exact j2 p hp, fun p hp => by rw [zn_k _ _ _ _ (hp _)]; exact j3 p hp, fun q e => by rw [zn_c _ _ _ (by omega)]; exact j4 q (by omega), fun r k a b e => ?_⟩
        have hz' := g_z hg a
        by_cases er : r = r0 ∧ k = k0
        · obtain ⟨rfl, rfl⟩ := er
          exact ⟨x, zn_s _ _ _ _, hx⟩
        · rw [zn_k _ _ _ _ (by omega)]
          exact j5 r k a b (by omega)
      have fin' : (∀ p, ¬ zSP g s (zTf 1152921504606846976 (zuC 1152921504606846976 f m n)) r0 k0 m n p) → zw (J87_b zN (d + 1) ga gb (nI m) (nI n) (nI (zsp m n)) (nI r0) (nI k0) (nI ((r0 * 4 + k0) * 91 + zsp m n)) z) fun o => zfr [49, 50] μ o.2 ∧ cSz g s (zuC 1152921504606846976 f m n) (fun i j => D i j ∨ (i = m ∧ j = n)) o.2 := fun hx => fin 1152921504606846976 (zmn_C fun p q => absurd q (hx p))
      by_cases e26 : 26 ≤ gS g r0 k0
      · rw [if_pos (by rw [zq_le (by omega) (by omega)]; omega)]
        unfold J87_c
        rw [if_pos (by decide), zq_mul, zq_add, zq_mul, zq_add]
        refine fin' ?_
        rintro p (⟨q, -⟩ | ⟨-, q, -, e1, e2⟩)
        · omega
        · rw [zuC_s] at e1
          omega
      · rw [if_neg (by rw [zq_le (by omega) (by omega)]; omega)]
        unfold J87_c
        obtain ⟨o, a1, a2, b, a3, a4⟩ := s_fits hg hcz hsl d hr0 hk0 hm hn
        rw [if_neg (by decide), a1, Option.bind_some, a2, a3]
        simp only [zB_0, zq_mul, zq_add]
        cases b with
        | false =>
          rw [if_pos rfl]
          refine fin' ?_
          rintro p (⟨q1, q2, q3, -⟩ | ⟨q, -⟩)
          · have := a4.2 (.inl ⟨q1, q2, q3⟩)
            cases this
          · omega
        | true =>
          rw [if_neg (by decide)]
          refine fin 0 (zmn_0 ?_)
          rcases a4.1 rfl with ⟨q1, q2, q3⟩ | ⟨q, -⟩
          · exact .inl ⟨q1, q2, q3, rfl⟩
          · omega
    · rintro z gb ⟨j1, j2, j3, j4, j5⟩
      unfold L87_a
      simp only [zI0, zI1, zI2, zI3, zI4, zI5, zI6, zI7, zI8, zJ0, zJ1, zJ2, zMM]
      rw [zr_i _ _ (by omega) (by omega), c_z (zc2_fr h j1 rfl) hr0, Option.bind_some, if_pos (by rw [zq_le (by omega) (by omega)]; omega), zq_add]
      refine hgo z ⟨j1, j2, j3, fun q e => j4 q (by omega), fun r k a b e => j5 r k a b ?_⟩
      by_cases er : r = r0
      · rw [er] at b
        exact .inr ⟨er, by omega⟩
      · exact .inl (by omega)
  · rintro y ga ⟨i1, i2, i3, i4, i5⟩
    unfold L87_b
    simp only [zI0, zI1, zI2, zI3, zI4, zI5, zI6, zI7, zI8, zJ0, zJ1, zJ2, zMM]
    rw [c_n (zc2_fr h i1 rfl), if_pos (by rw [zq_le (by omega) (by omega)]; omega)]
    refine zw_some ⟨i1, fun i j a b c => ?_⟩
    by_cases e : i = m ∧ j = n
    · obtain ⟨rfl, rfl⟩ := e
      exact ⟨fun q hq => by rw [zuC_s]; exact ⟨i4 q (.inl hq), Nat.le_refl _⟩, fun r k hr hk => i5 r k hr hk (.inl hr)⟩
    · have h1 := zsp_lt j (by omega) i (by omega) a
      have hpn : ∀ x q, x * 91 + zsp i j ≠ q * 91 + zsp m n := fun x q e' => e (zsp_inj j (by omega) i (by omega) a n (by omega) m (by omega) (by omega) (zq91 h1 hsp e').2)
      obtain ⟨z1, z2⟩ := hZ i j a b (c.resolve_right e)
      refine ⟨fun q hq => ?_, fun r k hr hk => ?_⟩
      · rw [zuC_o _ _ e, i2 _ (hpn q)]
        exact z1 q hq
      · rw [i3 _ (hpn _)]
        obtain ⟨x, x1, x2⟩ := z2 r k hr hk
        refine ⟨x, x1, zmn_cg (fun p => zSP_cg fun q => ?_) x2⟩
        unfold zTf
        rw [zuC_o _ _ e]
/-- what the class holds of sizes -/
def cSi (g : zG) (s : zSn) (c : Nat) (μ : zzM) : Prop := μ.1 48 2 = nI c ∧ ∃ f, cSz g s f (fun _ j => j < c) μ ∧ ∀ q i j, i ≤ j → j < c → zmn 1152921504606846976 (zSi g s q i j) (f q i j)
theorem cSz_D {g : zG} {s : zSn} {f : Nat → Nat → Nat → Nat} {D D' : Nat → Nat → Prop} {μ : zzM} (h : cSz g s f D μ) (hd : ∀ i j, i ≤ j → D' i j → D i j) : cSz g s f D' μ := fun i j a b c => h i j a b (hd i j a c)
theorem s_sfill {g : zG} {s : zSn} {μ : zzM} (h : zc2 g s μ) (hg : zwg g) (hs : zws g s) (hc : cCh true 36 37 38 39 g s μ) (d : Nat) {c : Nat} (hcn : cSi g s c μ) (hcl : c ≤ sL s + 1) : zw (zzf zzP zN (d + 6) 86 [.ref 48] μ) fun o => zfr [36, 37, 38, 39, 48, 49, 50, 51] μ o.2 ∧ cCf true 36 37 38 39 g s o.2 ∧ cSi g s (sL s + 1) o.2 ∧ ∀ p, p ≠ 2 → o.2.1 48 p = μ.1 48 p := by
  have hsl := hs.1
  rw [w_sizes_fill]
  obtain ⟨o, e1, e2, e3, e4⟩ := s_fill_36 d h hg hs hc
  rw [e1, Option.bind_some, zf_i e2 rfl, hcn.1]
  obtain ⟨-, f, hT, hQ⟩ := hcn
  have hT' : cSz g s f (fun _ j => j < c) o.2 := fun i j a b e => by rw [zf_l e2 rfl, zf_l e2 rfl]; exact hT i j a b e
  refine zl_up (fun n (y : zzM) => ([nI n], [], y)) (fun n y => zfr [49, 50, 51] o.2 y ∧ ∃ f, cSz g s f (fun _ j => j < n) y ∧ ∀ q i j, i ≤ j → j < n → zmn 1152921504606846976 (zSi g s q i j) (f q i j)) c (sL s + 1) o.2 hcl (by omega) rfl ⟨zf_refl _ _, f, hT', hQ⟩ ?_ ?_
  · rintro n y ga - hn ⟨i1, f, i2, i3⟩ hgo
    have hfy := zf_trans (zf_mono (L' := [36, 37, 38, 39, 48, 49, 50, 51]) e2 rfl) (zf_mono i1 rfl)
    unfold L86_b
    simp only [zI0, zI1, zI2, zI3, zI4, zI5, zI6, zI7, zI8, zJ0, zJ1, zJ2, zMM]
    rw [c_len (zc2_fr h hfy rfl), if_neg (by rw [zq_lt (by omega) (by omega)]; omega)]
    refine zl_dn (fun m (y : zzM) => ([nI n, nJ m], [], y)) (fun m y => zfr [49, 50, 51] o.2 y ∧ ∃ f, cSz g s f (fun i j => j < n ∨ (j = n ∧ m ≤ i)) y ∧ ∀ q i j, i ≤ j → (j < n ∨ (j = n ∧ m ≤ i)) → zmn 1152921504606846976 (zSi g s q i j) (f q i j)) 0 (n + 1) y (by omega) (by omega) (by rw [nJ_s]) ⟨i1, f, cSz_D i2 (fun i j a b => by omega), fun q i j a b => i3 q i j a (by omega)⟩ ?_ ?_
    · rintro m y gb - hm ⟨j1, f, j2, j3⟩ hgo2
      have hfy := zf_trans (zf_mono (L' := [36, 37, 38, 39, 48, 49, 50, 51]) e2 rfl) (zf_mono j1 rfl)
      have hy := zc2_fr h hfy rfl
      have hcy := cCf_fr e3 j1 rfl
      unfold L86_a
      simp only [zI0, zI1, zI2, zI3, zI4, zI5, zI6, zI7, zI8, zJ0, zJ1, zJ2, zMM]
      rw [nJ_s, if_neg (nI_pos (by omega))]
      obtain ⟨o1, f1, f2, f3⟩ := s_sclear hy hg hcy hsl (d + 3) (m := m) (n := n) (by omega) (by omega) (show ¬ (n < n ∨ (n = n ∧ m + 1 ≤ m)) by omega) j2
      rw [f1, Option.bind_some]
      have hf2 := zf_trans j1 (zf_mono (L' := [49, 50, 51]) f2 rfl)
      have hfo := zf_trans (zf_mono (L' := [36, 37, 38, 39, 48, 49, 50, 51]) e2 rfl) (zf_mono hf2 rfl)
      obtain ⟨o2, k1, k2, f', k3, k4, k5⟩ := s_ssettle (zc2_fr h hfo rfl) hg (cCf_fr e3 hf2 rfl) hsl d (f := zuC 1152921504606846976 f m n) (m := m) (n := n) (by omega) (by omega) (fun i j a b c => by omega) f3 ⟨fun q i j a b c e => by
        rw [zuC_o _ _ e]
        exact j3 q i j b (by omega), fun q => by
        rw [zuC_s]
        exact ⟨Nat.le_refl _, fun e => absurd e (Nat.lt_irrefl _)⟩⟩
      rw [k1, Option.bind_some, nJ_e]
      refine hgo2 o2.2 ⟨zf_trans hf2 k2, f', cSz_D k3 (fun i j a b => by omega), fun q i j a b => ?_⟩
      by_cases e : i = m ∧ j = n
      · obtain ⟨rfl, rfl⟩ := e
        exact k5 q
      · rw [k4 q i j e, zuC_o _ _ e]
        exact j3 q i j a (by omega)
    · rintro y gb ⟨j1, f, j2, j3⟩
      unfold L86_a
      simp only [zI0, zI1, zI2, zI3, zI4, zI5, zI6, zI7, zI8, zJ0, zJ1, zJ2, zMM]
      rw [if_pos (by decide), zq_add]
      exact hgo y ⟨j1, f, cSz_D j2 (fun i j a b => by omega), fun q i j a b => j3 q i j a (by omega)⟩
  · rintro y ga ⟨i1, f, i2, i3⟩
    have hfy := zf_trans (zf_mono (L' := [36, 37, 38, 39, 48, 49, 50, 51]) e2 rfl) (zf_mono i1 rfl)
    unfold L86_b
    simp only [zI0, zI1, zI2, zI3, zI4, zI5, zI6, zI7, zI8, zJ0, zJ1, zJ2, zMM]
    rw [c_len (zc2_fr h hfy rfl), if_pos (by rw [zq_lt (by omega) (by omega)]; omega), zq_add]
    refine zw_some ⟨zf_twI _ _ hfy rfl, cCf_fr e3 (zf_twI (L := [48, 49, 50, 51]) _ _ (zf_mono i1 rfl) rfl) rfl, ⟨zm_s _ _ _ _, f, fun i j a b e => i2 i j a b e, i3⟩, fun p hp => ?_⟩
    rw [zm_k _ _ _ _ hp, zf_i i1 rfl, zf_i e2 rfl]
