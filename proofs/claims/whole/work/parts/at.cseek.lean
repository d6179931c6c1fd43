/-! the descent of the class, whole -/
def zGo (g : zG) (s : zSn) : Nat → Nat → Nat → Nat → Nat → Nat → Nat → Nat → Prop
  | 0, r, m, n, k, r', m', n' => k = 0 ∧ r' = r ∧ m' = m ∧ n' = n
  | t + 1, r, m, n, k, r', m', n' => (k = 0 ∧ r' = r ∧ m' = m ∧ n' = n) ∨ ∃ l q i j l', k = l + 1 ∧ zDw g s r n (gZ g r) 0 m l q i j l' ∧ zGo g s t q i j l' r' m' n'
theorem zGo_un {g : zG} {s : zSn} : ∀ {t t' r m n k r1 m1 n1 r2 m2 n2 : Nat}, zGo g s t r m n k r1 m1 n1 → zGo g s t' r m n k r2 m2 n2 → r1 = r2 ∧ m1 = m2 ∧ n1 = n2 := by
  intro t
  induction t with
  | zero =>
    intro t' r m n k r1 m1 n1 r2 m2 n2 h h'
    cases t' with
    | zero => exact ⟨by have := h.2.1; have := h'.2.1; omega, by have := h.2.2.1; have := h'.2.2.1; omega, by have := h.2.2.2; have := h'.2.2.2; omega⟩
    | succ t' =>
      rcases h' with h' | ⟨l, q, i, j, l', a, -⟩
      · exact ⟨by have := h.2.1; have := h'.2.1; omega, by have := h.2.2.1; have := h'.2.2.1; omega, by have := h.2.2.2; have := h'.2.2.2; omega⟩
      · have := h.1
        omega
  | succ t ih =>
    intro t' r m n k r1 m1 n1 r2 m2 n2 h h'
    rcases h with h | ⟨l, q, i, j, l', a, b, c⟩
    · cases t' with
      | zero => exact ⟨by have := h.2.1; have := h'.2.1; omega, by have := h.2.2.1; have := h'.2.2.1; omega, by have := h.2.2.2; have := h'.2.2.2; omega⟩
      | succ t' =>
        rcases h' with h' | ⟨l, q, i, j, l', a, -⟩
        · exact ⟨by have := h.2.1; have := h'.2.1; omega, by have := h.2.2.1; have := h'.2.2.1; omega, by have := h.2.2.2; have := h'.2.2.2; omega⟩
        · have := h.1
          omega
    · cases t' with
      | zero =>
        have := h'.1
        omega
      | succ t' =>
        rcases h' with h' | ⟨l2, q2, i2, j2, l2', a2, b2, c2⟩
        · have := h'.1
          omega
        · obtain rfl : l2 = l := by omega
          obtain ⟨rfl, rfl, rfl, rfl⟩ := zDw_un b b2
          exact ih c c2
noncomputable def zNc (g : zG) (s : zSn) (v : Nat) : Nat := zcnt (fun p => zdc (∃ q i j u, i ≤ j ∧ j ≤ 12 ∧ p = q * 91 + zsp i j ∧ u < v ∧ zLt g s q i j u)) 1092
theorem zNc_no {g : zG} {s : zSn} {q i j u : Nat} (hi : i ≤ j) (hj : j ≤ 12) (h : zLt g s q i j u) : ¬ ∃ q' i' j' u', i' ≤ j' ∧ j' ≤ 12 ∧ q * 91 + zsp i j = q' * 91 + zsp i' j' ∧ u' < u ∧ zLt g s q' i' j' u' := by
  rintro ⟨q', i', j', u', a, b, c, e, f⟩
  have h1 := zsp_lt j (by omega) i (by omega) hi
  have h2 := zsp_lt j' (by omega) i' (by omega) a
  obtain ⟨rfl, h3⟩ := zq91 h1 h2 c
  obtain ⟨rfl, rfl⟩ := zsp_inj j (by omega) i (by omega) hi j' (by omega) i' (by omega) a h3
  have := zLt_un f h
  omega
theorem zNc_lt {g : zG} {s : zSn} {q i j u v : Nat} (hq : q < 12) (hi : i ≤ j) (hj : j ≤ 12) (h : zLt g s q i j u) (huv : u < v) : zNc g s u < zNc g s v := by
  have h1 := zsp_lt j (by omega) i (by omega) hi
  refine zcnt_lt (fun p _ e => ?_) ⟨q * 91 + zsp i j, by omega, zdc_f.2 (zNc_no hi hj h), zdc_t.2 ⟨q, i, j, u, hi, hj, rfl, huv, h⟩⟩
  obtain ⟨q', i', j', u', a, b, c, e, f⟩ := zdc_t.1 e
  exact zdc_t.2 ⟨q', i', j', u', a, b, c, by omega, f⟩
theorem zNc_b {g : zG} {s : zSn} {q i j u : Nat} (hq : q < 12) (hi : i ≤ j) (hj : j ≤ 12) (h : zLt g s q i j u) : zNc g s u < 1092 := by
  have h1 := zsp_lt j (by omega) i (by omega) hi
  have : zNc g s u < zcnt (fun _ => true) 1092 := zcnt_lt (fun _ _ _ => rfl) ⟨q * 91 + zsp i j, by omega, zdc_f.2 (zNc_no hi hj h), rfl⟩
  rwa [zcnt_tr] at this
theorem s_first {g : zG} {s : zSn} {μ : zzM} (h : zc2 g s μ) (hg : zwg g) (hsl : sL s ≤ 12) (d : Nat) {f : Nat → Nat → Nat → Nat} (hn0 : 0 < gN g) (hZ : cSz g s f (fun _ j => j ≤ sL s) μ) (hF : zFt g s 1152921504606846976 f 0 (sL s)) : zw (zzf zzP zN (d + 2) 90 [.ref 48, .int (μ.1 9 (gL g 0 - 26)), .int (nI 0), .int (nI (sL s))] μ) fun o => o.2 = μ ∧ ((o.1.1 = -(nI 1) ∧ ∀ q u, gL g q = gL g 0 → ¬ zLt g s q 0 (sL s) u) ∨ ∃ q, q < gN g ∧ o.1.1 = nI q ∧ zFq g s (fun q => gL g q = gL g 0) 0 (sL s) q) := by
  have hgn := g_n hg
  have hl0 := g_l hg hn0
  obtain ⟨o, a1, a2, a3⟩ := s_leastOf h hg d (Nat.zero_le (sL s)) hsl (fun q hq => (hZ 0 (sL s) (Nat.zero_le _) hsl (Nat.le_refl _)).1 q hq) (μ.1 9 (gL g 0 - 26))
  refine ⟨o, a1, a2, zFs_q hg (by omega) hsl hF (Nat.le_refl _) (Nat.zero_le _) (Nat.le_refl _) (fun q hq _ => ?_) a3⟩
  rw [c_u h (by omega) (by omega), decide_eq_true_eq]
  omega
theorem s_wholeSize {g : zG} {s : zSn} {μ : zzM} (h : zc2 g s μ) (hg : zwg g) (hsl : sL s ≤ 12) (d : Nat) {f : Nat → Nat → Nat → Nat} (hn0 : 0 < gN g) (hZ : cSz g s f (fun _ j => j ≤ sL s) μ) (hF : zFt g s 1152921504606846976 f 0 (sL s)) : zw (zzf zzP zN (d + 3) 85 [.ref 48] μ) fun o => o.2 = μ ∧ ((o.1.2.1 = lN 1152921504606846976 ∧ ∀ q u, gL g q = gL g 0 → ¬ zLt g s q 0 (sL s) u) ∨ ∃ q v, zFq g s (fun q => gL g q = gL g 0) 0 (sL s) q ∧ zLt g s q 0 (sL s) v ∧ o.1.2.1 = lN v) := by
  have hgn := g_n hg
  have hl0 := g_l hg hn0
  have hsp := zsp_lt (sL s) (by omega) 0 (by omega) (Nat.zero_le _)
  rw [w_sizes_wholeSize, zr_i _ _ (by omega) (by omega), c_l h hn0, Option.bind_some, zq_sub (by omega), zr_i _ _ (by omega) (by omega), Option.bind_some, c_len h]
  obtain ⟨o, a1, a2, a3⟩ := s_first h hg hsl d hn0 hZ hF
  rw [a1, Option.bind_some, a2]
  rcases a3 with ⟨b1, b2⟩ | ⟨q, b1, b2, b3⟩
  · rw [if_pos b1]
    exact zw_some ⟨rfl, .inl ⟨rfl, b2⟩⟩
  · rw [b2, if_neg (by rw [zq_em (by omega)]; exact id), c_len h, s_zsp _ (Nat.zero_le _) hsl, Option.bind_some]
    show zw ((zzrl μ 49 1092 (nI q * nI 91 + nI (zsp 0 (sL s)))).bind _) _
    obtain ⟨z1, z2⟩ := (hZ 0 (sL s) (Nat.zero_le _) hsl (Nat.le_refl _)).1 q b1
    rw [zq_mul, zq_add, zr_l _ _ (by omega) (by omega), z1, Option.bind_some]
    obtain ⟨c1, u, c2, c3⟩ := id b3
    have := (zFt_lt hg (by omega) hsl hF (Nat.le_refl _) (Nat.zero_le _) (Nat.le_refl _)).1 c2
    exact zw_some ⟨rfl, .inr ⟨q, u, b3, c2, by rw [← this.1]⟩⟩
theorem zFt_in {g : zG} {s : zSn} {C : Nat} {f : Nat → Nat → Nat → Nat} {m n m' n' : Nat} (h : zFt g s C f m n) (h1 : m ≤ m') (h2 : n' ≤ n) : zFt g s C f m' n' := fun q i j a b c => h q i j (by omega) b (by omega)
theorem cSz_fr {g : zG} {s : zSn} {f : Nat → Nat → Nat → Nat} {D : Nat → Nat → Prop} {μ y : zzM} {L : List Nat} (h : cSz g s f D μ) (hf : zfr L μ y) (hl : [49, 50].all (fun c => !L.elem c) = true) : cSz g s f D y := fun i j a b c => by
  simp only [List.all_cons, List.all_nil, Bool.and_true, Bool.and_eq_true, Bool.not_eq_true'] at hl
  rw [zf_l hf hl.1, zf_l hf hl.2]
  exact h i j a b c
theorem s_seek {g : zG} {s : zSn} {μ : zzM} (h : zc2 g s μ) (hg : zwg g) (hc : cCf true 36 37 38 39 g s μ) (hsl : sL s ≤ 12) (d : Nat) {f : Nat → Nat → Nat → Nat} (hn0 : 0 < gN g) (hZ : cSz g s f (fun _ j => j ≤ sL s) μ) (hF : zFt g s 1152921504606846976 f 0 (sL s)) {r0 v0 k0 : Nat} (hr0 : zFq g s (fun q => gL g q = gL g 0) 0 (sL s) r0) (hv0 : zLt g s r0 0 (sL s) v0) (hk0 : k0 < v0) : zw (zzf zzP zN (d + 5) 93 [.ref 48, .long (lN k0)] μ) fun o => zfr [48, 51] μ o.2 ∧ (∀ p, p ≠ 3 → p ≠ 4 → p ≠ 5 → o.2.1 48 p = μ.1 48 p) ∧ ∃ t r m n, zGo g s t r0 0 (sL s) k0 r m n ∧ o.2.1 48 3 = nI r ∧ o.2.1 48 4 = nI m ∧ o.2.1 48 5 = nI n := by
  have hgn := g_n hg
  have hl0 := g_l hg hn0
  rw [w_sizes_seek]
  have hf0 : zfr [48] μ (zzwI (zzwI μ 48 4 (nI 0)) 48 5 (μ.1 2 2)) := zf_twI _ _ (zf_wI _ _ rfl) rfl
  have h0 := zc2_fr h hf0 rfl
  have hZ0 := cSz_fr hZ hf0 rfl
  rw [zr_i _ _ (by omega) (by omega), c_l h0 hn0, Option.bind_some, zq_sub (by omega), zr_i _ _ (by omega) (by omega), Option.bind_some]
  obtain ⟨o, a1, a2, a3⟩ := s_first h0 hg hsl (d + 2) hn0 hZ0 hF
  rw [c_len h] at a1 a2 ⊢
  rw [a1, Option.bind_some, a2]
  rcases a3 with ⟨b1, b2⟩ | ⟨q, b1, b2, b3⟩
  · exact absurd hv0 (b2 r0 v0 hr0.1)
  · obtain rfl := zFq_un b3 hr0
    rw [b2]
    have hfs : zfr [48, 51] μ (zzwI (zzwI (zzwI μ 48 4 (nI 0)) 48 5 (nI (sL s))) 48 3 (nI q)) := zf_twI _ _ (zf_twI _ _ (zf_wI _ _ rfl) rfl) rfl
    refine zl_up (fun t (a : (Nat × Nat × Nat × Nat) × zzM) => ([nI t], [lN a.1.2.2.2], a.2)) (fun t a => zfr [48, 51] μ a.2 ∧ (∀ p, p ≠ 3 → p ≠ 4 → p ≠ 5 → a.2.1 48 p = μ.1 48 p) ∧ a.2.1 48 3 = nI a.1.1 ∧ a.2.1 48 4 = nI a.1.2.1 ∧ a.2.1 48 5 = nI a.1.2.2.1 ∧ a.1.1 < gN g ∧ a.1.2.1 ≤ a.1.2.2.1 ∧ a.1.2.2.1 ≤ sL s ∧ (∃ v, zLt g s a.1.1 a.1.2.1 a.1.2.2.1 v ∧ a.1.2.2.2 < v ∧ t + zNc g s v < 1092) ∧ ∀ t' r m n, zGo g s t' a.1.1 a.1.2.1 a.1.2.2.1 a.1.2.2.2 r m n → ∃ t, zGo g s t q 0 (sL s) k0 r m n) 0 1092 ((q, 0, sL s, k0), zzwI (zzwI (zzwI μ 48 4 (nI 0)) 48 5 (nI (sL s))) 48 3 (nI q)) (by omega) (by omega) rfl ⟨hfs, fun p p3 p4 p5 => by rw [zm_k _ _ _ _ p3, zm_k _ _ _ _ p5, zm_k _ _ _ _ p4], zm_s _ _ _ _, by rw [zm_k _ _ _ _ (by omega), zm_k _ _ _ _ (by omega), zm_s], by rw [zm_k _ _ _ _ (by omega), zm_s], b1, Nat.zero_le _, Nat.le_refl _, ⟨v0, hv0, hk0, by have := zNc_b (show q < 12 by omega) (Nat.zero_le _) hsl hv0; omega⟩, fun t' r m n e => ⟨t', e⟩⟩ ?_ ?_
    · rintro t ⟨⟨r, m, n, k⟩, y⟩ ga - ht ⟨c1, c2, c3, c4, c5, c6, c7, c8, ⟨v, c9, c10, c11⟩, c12⟩ hgo
      simp only at c1 c2 c3 c4 c5 c6 c7 c8 c9 c10 c11 c12
      have hvb := zLt_b hg (by omega) c9
      unfold L93_a
      simp only [zI0, zI1, zI2, zI3, zI4, zI5, zI6, zI7, zI8, zJ0, zJ1, zJ2, zMM]
      rw [if_neg (by rw [zq_le (by omega) (by omega)]; omega), zif_cg ((lg_cmp_le _ _).trans (pk_lLE (by omega) (by omega)))]
      by_cases ek : k ≤ 0
      · rw [if_pos ek]
        obtain ⟨t2, e2⟩ := c12 0 r m n ⟨by omega, rfl, rfl, rfl⟩
        exact zw_some ⟨c1, c2, t2, r, m, n, e2, c3, c4, c5⟩
      · rw [if_neg ek, c3, if_neg (by rw [zq_em (by omega)]; exact id), lN_sub (by omega)]
        obtain ⟨og, g1, g2, g3, q', i, j, l', g4, g5, g6, g7, g8⟩ := s_goDown (zc2_fr h c1 rfl) hg (cCf_fr hc c1 rfl) hsl d c6 c7 c8 (cSz_fr hZ c1 rfl) (zFt_in hF (Nat.zero_le _) c8) c9 (show k - 1 + 1 < v by omega) c3 c4 c5
        rw [g1, Option.bind_some, g5, zq_add]
        obtain ⟨R, u, x1, x2, x3, x4, x5, x6, x7, x8, x9⟩ := zDw_in g4
        have hRv : R < v := by
          obtain ⟨-, w, w1, w2⟩ := zSi_out c9.1
          have := x1.2 w (by rw [Nat.sub_zero]; exact w1)
          omega
        have hNc := zNc_lt (show q' < 12 by omega) x7 (by omega) x2 (show u < v by omega)
        refine hgo ((q', i, j, l'), og.2) ⟨zf_trans c1 g2, fun p p3 p4 p5 => (g3 p p3 p4 p5).trans (c2 p p3 p4 p5), g6, g7, g8, x9, x7, by simp only; omega, ⟨u, x2, x4, by omega⟩, fun t' r2 m2 n2 e => ?_⟩
        exact c12 (t' + 1) r2 m2 n2 (.inr ⟨k - 1, q', i, j, l', by omega, g4, e⟩)
    · rintro ⟨⟨r, m, n, k⟩, y⟩ ga ⟨-, -, -, -, -, -, -, -, ⟨v, -, -, c11⟩, -⟩
      omega
