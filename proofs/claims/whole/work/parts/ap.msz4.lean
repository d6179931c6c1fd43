/-! the sizes of the reference laid -/
def smOk (g : zG) (s : zSn) (μ : zzM) : Prop := ∃ f, mSz g s f μ ∧ ∀ q i j, i ≤ j → j ≤ sL s → zmn 2000000000 (zSi g s q i j) (f q i j)
theorem b_and64 (x : Int32) : ((x &&& nI 64) = 0) = (bt x 6 = false) := by
  have hb : ∀ j, j < 32 → bt (nI 64) j = decide (j = 6) := by decide +kernel
  rw [b_and0]
  refine propext ⟨fun h => ?_, fun h j hj q => ?_⟩
  · have := h 6 (by omega)
    rw [hb 6 (by omega)] at this
    cases e : bt x 6 with
    | false => rfl
    | true => exact absurd ⟨e, decide_eq_true rfl⟩ this
  · rw [hb j hj, decide_eq_true_eq] at q
    rw [q.2, h] at q
    cases q.1
/-- all sizes together -/
def zTot (f : Nat → Nat → Nat → Nat) : Nat := zsuM (fun p => f (p / 169) (p % 169 / 13) (p % 13)) 2028
theorem zTot_le {f f' : Nat → Nat → Nat → Nat} (h : ∀ q i j, f' q i j ≤ f q i j) : zTot f' ≤ zTot f := zsuM_le fun p _ => h _ _ _
theorem zTot_lt {f f' : Nat → Nat → Nat → Nat} (h : ∀ q i j, f' q i j ≤ f q i j) {q i j : Nat} (hq : q < 12) (hi : i < 13) (hj : j < 13) (hl : f' q i j < f q i j) : zTot f' < zTot f := by
  refine zsuM_lt (fun p _ => h _ _ _) ⟨169 * q + 13 * i + j, by omega, ?_⟩
  rw [show (169 * q + 13 * i + j) / 169 = q by omega, show (169 * q + 13 * i + j) % 169 / 13 = i by omega, show (169 * q + 13 * i + j) % 13 = j by omega]
  exact hl
theorem m_laysSmallest {g : zG} {s : zSn} {μ : zzM} (h : zm2 g s μ) (hg : zwg g) (hs : zws g s) (d : Nat) (hl2 : bt (μ.1 105 36) 2 = false ∨ mMk true g s μ) (hl6 : bt (μ.1 105 36) 6 = false ∨ (mMk true g s μ ∧ smOk g s μ)) : zw (zzf zzP zN (d + 9) 300 [.ref 105] μ) fun o => zfr [105, 134, 135, 136, 146, 147] μ o.2 ∧ (∀ p, p ≠ 36 → o.2.1 105 p = μ.1 105 p) ∧ (∀ i, i < 32 → bt (o.2.1 105 36) i = true → bt (μ.1 105 36) i = true ∨ i = 2 ∨ i = 6) ∧ mMk true g s o.2 ∧ smOk g s o.2 ∧ ∀ p, p < 2028 → o.2.1 134 p = μ.1 134 p := by
  have hsl := hs.1
  have hgn := g_n hg
  rw [w_m_laysSmallest]
  by_cases e : (μ.1 105 36 &&& nI 64) = 0
  · rw [if_pos e]
    obtain ⟨o2, b1, b2, b3, b4, b5, b6⟩ := m_laysMade h hg hs d true hl2
    have b1 : zzf zzP zN (d + 8) 261 [.ref 105, .int (nI 1)] μ = some o2 := b1
    rw [b1, Option.bind_some]
    have h2 := zm2_fr h b2 rfl
    have hf2 : zfr [105, 134, 135, 136, 146, 147] μ o2.2 := zf_mono b2 rfl
    have hp2 : ∀ p, p < 2028 → o2.2.1 134 p = μ.1 134 p := fun p hp => b6 p (by show ¬ (2028 * 1 ≤ p ∧ p < 2028 * 1 + 2028); omega)
    have h36 : ∀ i, i < 32 → bt (o2.2.1 105 36) i = true → bt (μ.1 105 36) i = true ∨ i = 2 ∨ i = 6 := fun i hi q => by
      rw [b4, b_or] at q
      have hb2 : bt (nI (2 * 2 ^ zbn true)) i = decide (i = 2) := (by decide +kernel : ∀ i, i < 32 → bt (nI (2 * 2 ^ zbn true)) i = decide (i = 2)) i hi
      rw [hb2] at q
      simp only [Bool.or_eq_true, decide_eq_true_eq] at q
      rcases q with q | q
      · exact .inl q
      · exact .inr (.inl q)
    generalize o2.2 = z0 at b3 b5 h2 hf2 hp2 h36 ⊢
    refine zl_up (fun i (y : zzM) => ([nI i], [], y)) (fun i y => zfr [146, 147] z0 y ∧ ∀ p, p < i → y.1 146 p = nI 2000000000) 0 2028 z0 (by omega) (by omega) rfl ⟨zf_refl _ _, fun p a => absurd a (by omega)⟩ ?_ ?_
    · rintro i y ga - hi ⟨i1, i2⟩ hgo
      unfold L300_c
      simp only [zI0, zI1, zI2, zI3, zI4, zI5, zI6, zI7, zI8, zJ0, zJ1, zJ2, zMM]
      rw [if_neg (by rw [zq_le (by omega) (by omega)]; omega), zs_i _ _ _ hi (by omega), Option.bind_some, zq_add]
      refine hgo _ ⟨zf_twI _ _ i1 rfl, fun p hp => ?_⟩
      rw [zm_if]
      by_cases ep : p = i
      · rw [if_pos ep]
      · rw [if_neg ep]
        exact i2 p (by omega)
    · rintro y ga ⟨i1, i2⟩
      unfold L300_c
      simp only [zI0, zI1, zI2, zI3, zI4, zI5, zI6, zI7, zI8, zJ0, zJ1, zJ2, zMM]
      rw [if_pos (by rw [zq_le (by omega) (by omega)]; omega)]
      let K : Nat → (Nat → Nat → Nat → Nat) → zzM → Prop := fun l f z => zfr [146, 147] z0 z ∧ mSz g s f z ∧ (∀ q i j, f q i j ≤ 2000000000) ∧ (∀ q i j, i ≤ j → j ≤ sL s → j < i + l → zmn 2000000000 (zSi g s q i j) (f q i j)) ∧ ∀ q i j, i + l < j → f q i j = 2000000000
      refine zl_up (fun l (a : (Nat → Nat → Nat → Nat) × zzM) => ([nI l], [], a.2)) (fun l a => K l a.1 a.2 ∧ ∀ q i, a.1 q i (i + l) = 2000000000) 0 (sL s + 1) ((fun _ _ _ => 2000000000), y) (by omega) (by omega) rfl ⟨⟨i1, fun q i j a b c => ⟨i2 _ (by omega), Nat.le_refl _⟩, fun _ _ _ => Nat.le_refl _, fun q i j a b c => absurd c (by omega), fun _ _ _ _ => rfl⟩, fun _ _ => rfl⟩ ?_ ?_
      · rintro l ⟨f, z⟩ gb - hl ⟨hK, hfl⟩ hgo
        simp only at hK hfl
        obtain ⟨k1, k2, k3, k4, k5⟩ := hK
        unfold L300_b
        simp only [zI0, zI1, zI2, zI3, zI4, zI5, zI6, zI7, zI8, zJ0, zJ1, zJ2, zMM]
        rw [zr_i _ _ (by omega) (by omega), d_len (zm2_fr h2 k1 rfl), Option.bind_some, if_neg (by rw [zq_lt (by omega) (by omega)]; omega)]
        have htot : zTot f ≤ 2028 * 2000000000 := zsuM_mul fun p _ => k3 _ _ _
        refine zl_ms (fun a : Bool × (Nat → Nat → Nat → Nat) × zzM => ([nI l, zB a.1], [], a.2.2)) (fun t a => K l a.2.1 a.2.2 ∧ t = 2 * zTot a.2.1 + (if a.1 = true then 1 else 0) ∧ (∀ m, m + l ≤ sL s → zMi g s 2000000000 a.2.1 m (m + l)) ∧ (a.1 = false → ∀ m, m + l ≤ sL s → ∀ q, zmn 2000000000 (zSi g s q m (m + l)) (a.2.1 q m (m + l)))) (2 * zTot f + 1) (true, f, z) (by omega) rfl ⟨⟨k1, k2, k3, k4, k5⟩, rfl, fun m hm => ⟨fun q i j a b c e => k4 q i j b (by omega) (by omega), fun q => ⟨k3 _ _ _, fun e => ?_⟩⟩, fun q => (by cases q)⟩ ?_
        · have e : f q m (m + l) < 2000000000 := e
          rw [hfl] at e
          exact absurd e (Nat.lt_irrefl _)
        · rintro t ⟨b, f1, z1⟩ gc ⟨⟨m1, m2, m3, m4, m5⟩, ht, m6, m7⟩ hgo2
          simp only at m1 m2 m3 m4 m5 ht m6 m7
          unfold L300_a
          simp only [zI0, zI1, zI2, zI3, zI4, zI5, zI6, zI7, zI8, zJ0, zJ1, zJ2, zMM]
          simp only [zB_0]
          cases b with
          | false =>
            rw [if_pos rfl, zq_add]
            refine hgo (f1, z1) ⟨⟨m1, m2, m3, fun q i j a b c => ?_, fun q i j a => m5 q i j (by omega)⟩, fun q i => m5 q i _ (by omega)⟩
            by_cases ej : j = i + l
            · rw [ej]
              exact m7 rfl i (by omega) q
            · exact m4 q i j a b (by omega)
          | true =>
            rw [if_neg (by decide)]
            obtain ⟨o, a1, a2, b', f', a3, a4, a5, a6, a7, a8, a9⟩ := m_shrinks (zm2_fr h2 m1 rfl) hg hs (mMk_fr b5 m1 rfl) (d + 1) m2 (show l ≤ sL s by omega) m6
            have a1 : zzf zzP zN (d + 8) 299 [.ref 105, .int (nI l)] z1 = some o := a1
            rw [a1, Option.bind_some, a3]
            refine hgo2 (2 * zTot f' + (if b' = true then 1 else 0)) (b', f', o.2) ?_ ⟨⟨zf_trans m1 a2, a4, fun q i j => Nat.le_trans (a6 q i j) (m3 q i j), fun q i j a b c => ?_, fun q i j a => ?_⟩, rfl, a7, a9⟩
            · rw [if_pos rfl] at ht
              cases b' with
              | true =>
                obtain ⟨q, m, c1, c2, c3⟩ := a8 rfl
                have := zTot_lt a6 (show q < 12 by omega) (show m < 13 by omega) (show m + l < 13 by omega) c3
                rw [if_pos rfl]
                omega
              | false =>
                have := zTot_le a6
                rw [if_neg (by decide)]
                omega
            · simp only
              rw [a5 q i j (by omega)]
              exact m4 q i j a b c
            · simp only
              rw [a5 q i j (by omega)]
              exact m5 q i j a
      · rintro ⟨f, z⟩ gb ⟨⟨k1, k2, k3, k4, k5⟩, hfl⟩
        simp only at k1 k2 k3 k4 k5
        unfold L300_b
        simp only [zI0, zI1, zI2, zI3, zI4, zI5, zI6, zI7, zI8, zJ0, zJ1, zJ2, zMM]
        rw [zr_i _ _ (by omega) (by omega), d_len (zm2_fr h2 k1 rfl), Option.bind_some, if_pos (by rw [zq_lt (by omega) (by omega)]; omega)]
        have hk36 : z.1 105 36 = z0.1 105 36 := by rw [zf_i k1 rfl]
        refine zw_some ⟨zf_twI _ _ (zf_trans hf2 (zf_mono k1 rfl)) rfl, fun p hp => ?_, fun i hi q => ?_, mMk_fr (mMk_fr b5 k1 rfl) (zf_wI (L := [105]) _ _ rfl) rfl, ⟨f, mSz_fr k2 (zf_wI (L := [105]) _ _ rfl) rfl, fun q i j a b => k4 q i j a b (by omega)⟩, fun p hp => ?_⟩
        · rw [zm_k _ _ _ _ hp, zf_i k1 rfl]
          exact b3 p hp
        · rw [zm_s, b_or, hk36, Bool.or_eq_true] at q
          rcases q with q | q
          · exact h36 i hi q
          · have hb : ∀ j, j < 32 → bt (nI 64) j = decide (j = 6) := by decide +kernel
            rw [hb i hi, decide_eq_true_eq] at q
            exact .inr (.inr q)
        · rw [zm_c _ _ _ (by omega), zf_i k1 rfl]
          exact hp2 p hp
  · rw [if_neg e]
    rw [b_and64] at e
    obtain ⟨e1, e2⟩ := hl6.resolve_left e
    exact zw_some ⟨zf_refl _ _, fun _ _ => rfl, fun i _ q => .inl q, e1, e2, fun _ _ => rfl⟩
