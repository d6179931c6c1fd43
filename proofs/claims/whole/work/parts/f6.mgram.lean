/-! GRAMMAR of the reference -/
theorem m_keepsO (d : Nat) (μ : zzM) : zw (zzf zzP zN (d + 2) 195 [.ref 105] μ) fun o => zfr [121, 122, 123, 124, 125, 126] μ o.2 ∧ (∀ k, k < 7 → o.2.1 121 k = μ.1 106 k) ∧ (∀ k, k < 12 → o.2.1 122 k = μ.1 107 k) ∧ (∀ k, k < 12 → o.2.1 123 k = μ.1 108 k) ∧ (∀ k, k < 48 → o.2.1 124 k = μ.1 109 k) ∧ (∀ k, k < 12 → o.2.1 125 k = μ.1 110 k) ∧ ∀ k, k < 12 → o.2.1 126 k = μ.1 111 k := by
  rw [u_m_keepsOld, m_copies_106_121, Option.bind_some, m_copies_107_122, Option.bind_some, m_copies_108_123, Option.bind_some, m_copies_109_124, Option.bind_some, m_copies_110_125, Option.bind_some, m_copies_111_126, Option.bind_some]
  dsimp only
  refine zw_some ⟨?_, fun k hk => ?_, fun k hk => ?_, fun k hk => ?_, fun k hk => ?_, fun k hk => ?_, fun k hk => ?_⟩
  · repeat (first | refine zf_twI _ _ ?_ rfl | refine zf_tb _ _ _ ?_ rfl)
    exact zf_refl _ _
  all_goals simp (disch := omega) only [zb_c, zb_i, zb_o, zm_c, zm_k, zm_s, Nat.zero_add, Nat.sub_zero]
theorem m_takesN (d : Nat) (μ : zzM) : zw (zzf zzP zN (d + 2) 197 [.ref 105] μ) fun o => zfr [106, 107, 108, 109, 110, 111] μ o.2 ∧ (∀ k, k < 12 → o.2.1 107 k = μ.1 114 k) ∧ (∀ k, k < 12 → o.2.1 108 k = μ.1 115 k) ∧ (∀ k, k < 48 → o.2.1 109 k = μ.1 116 k) ∧ (∀ k, k < 12 → o.2.1 110 k = μ.1 117 k) ∧ (∀ k, k < 12 → o.2.1 111 k = μ.1 118 k) ∧ o.2.1 106 0 = μ.1 105 15 ∧ o.2.1 106 1 = μ.1 114 0 ∧ o.2.1 106 3 = nI 0 ∧ ∀ k, k ≠ 0 → k ≠ 1 → k ≠ 3 → o.2.1 106 k = μ.1 106 k := by
  rw [u_m_takesNew, m_copies_114_107, Option.bind_some, m_copies_115_108, Option.bind_some, m_copies_116_109, Option.bind_some, m_copies_117_110, Option.bind_some, m_copies_118_111, Option.bind_some, zs_i _ _ _ (by omega) (by omega), Option.bind_some, zr_i _ _ (by omega) (by omega), Option.bind_some, zs_i _ _ _ (by omega) (by omega), Option.bind_some, zs_i _ _ _ (by omega) (by omega), Option.bind_some]
  dsimp only
  refine zw_some ⟨?_, fun k hk => ?_, fun k hk => ?_, fun k hk => ?_, fun k hk => ?_, fun k hk => ?_, ?_, ?_, ?_, fun k h0 h1 h3 => ?_⟩
  · repeat (first | refine zf_twI _ _ ?_ rfl | refine zf_tb _ _ _ ?_ rfl)
    exact zf_refl _ _
  · simp (disch := omega) only [zb_c, zb_i, zb_o, zm_c, zm_k, zm_s, Nat.zero_add, Nat.sub_zero]
  · simp (disch := omega) only [zb_c, zb_i, zb_o, zm_c, zm_k, zm_s, Nat.zero_add, Nat.sub_zero]
  · simp (disch := omega) only [zb_c, zb_i, zb_o, zm_c, zm_k, zm_s, Nat.zero_add, Nat.sub_zero]
  · simp (disch := omega) only [zb_c, zb_i, zb_o, zm_c, zm_k, zm_s, Nat.zero_add, Nat.sub_zero]
  · simp (disch := omega) only [zb_c, zb_i, zb_o, zm_c, zm_k, zm_s, Nat.zero_add, Nat.sub_zero]
  · simp (disch := omega) only [zb_c, zb_i, zb_o, zm_c, zm_k, zm_s, Nat.zero_add, Nat.sub_zero]
  · simp (disch := omega) only [zb_c, zb_i, zb_o, zm_c, zm_k, zm_s, Nat.zero_add, Nat.sub_zero]
  · simp (disch := omega) only [zb_c, zb_i, zb_o, zm_c, zm_k, zm_s, Nat.zero_add, Nat.sub_zero]
  · rw [zm_k _ _ _ _ h3, zm_k _ _ _ _ h1, zm_k _ _ _ _ h0]
    simp (disch := omega) only [zb_c]
theorem m_laysO (d : Nat) (μ : zzM) : zw (zzf zzP zN (d + 2) 196 [.ref 105] μ) fun o => zfr [106, 107, 108, 109, 110, 111] μ o.2 ∧ (∀ k, k < 7 → o.2.1 106 k = μ.1 121 k) ∧ (∀ k, k < 12 → o.2.1 107 k = μ.1 122 k) ∧ (∀ k, k < 12 → o.2.1 108 k = μ.1 123 k) ∧ (∀ k, k < 48 → o.2.1 109 k = μ.1 124 k) ∧ (∀ k, k < 12 → o.2.1 110 k = μ.1 125 k) ∧ ∀ k, k < 12 → o.2.1 111 k = μ.1 126 k := by
  rw [u_m_laysOld, m_copies_121_106, Option.bind_some, m_copies_122_107, Option.bind_some, m_copies_123_108, Option.bind_some, m_copies_124_109, Option.bind_some, m_copies_125_110, Option.bind_some, m_copies_126_111, Option.bind_some]
  dsimp only
  refine zw_some ⟨?_, fun k hk => ?_, fun k hk => ?_, fun k hk => ?_, fun k hk => ?_, fun k hk => ?_, fun k hk => ?_⟩
  · repeat (first | refine zf_twI _ _ ?_ rfl | refine zf_tb _ _ _ ?_ rfl)
    exact zf_refl _ _
  all_goals simp (disch := omega) only [zb_c, zb_i, zb_o, zm_c, zm_k, zm_s, Nat.zero_add, Nat.sub_zero]
abbrev mGl : List Nat := [105, 106, 107, 108, 109, 110, 111, 114, 115, 116, 117, 118, 119, 121, 122, 123, 124, 125, 126, 130, 131]
theorem m_gram {g : zG} {s : zSn} {μ : zzM} {b : Nat → Nat} {n : Nat} (hg : zwg g) (hs : zws g s) (I : mI g s μ) (hT : mTp b n μ) (hG : ∀ G, tAll b n = .inr G → zwg G) (d : Nat) : zw (zzf zzP zN (d + 8) 198 [.ref 105] μ) fun o => zfr mGl μ o.2 ∧ o.2.1 105 16 = nI 0 ∧ o.2.1 106 6 = μ.1 106 6 ∧ ((∃ f, tAll b n = .inl f ∧ o.1.1 = -(nI 2) - nI f ∧ mI g s o.2 ∧ o.2.1 105 39 = μ.1 105 39) ∨ ∃ G, tAll b n = .inr G ∧ ((zLay G zS0 = none ∧ o.1.1 = -(nI 2) - nI (1 + 8 * n + 5) ∧ mI g s o.2 ∧ o.2.1 105 39 = μ.1 105 39) ∨ ∃ w, zLay G zS0 = some w ∧ o.1.1 = nI (gN G) ∧ mI G zS0 o.2 ∧ o.2.1 105 39 = nI 0)) := by
  have hn := hT.1
  obtain ⟨o1, a1, a2, a3⟩ := m_readsAll hT (d + 2)
  have a1 : zzf zzP zN (d + 7) 194 [.ref 105] μ = some o1 := a1
  have h16 : o1.2.1 105 16 = nI n := (a2.2 16 (by omega) (by omega) (by omega)).trans hT.2.1
  rw [w_m_grammar, a1, Option.bind_some, h16]
  have hf1 : zfr [105, 114, 115, 116, 117, 118, 119] μ (zzwI o1.2 105 16 (nI 0)) := zf_twI _ _ a2.1 rfl
  have h1 : ∀ p, p ≠ 15 → p ≠ 16 → p ≠ 17 → p ≠ 18 → (zzwI o1.2 105 16 (nI 0)).1 105 p = μ.1 105 p := fun p p0 p1 p2 p3 => by rw [zm_k _ _ _ _ p1, a2.2 p p0 p2 p3]
  unfold mAll at a3
  cases hT' : tAll b n with
  | inl f =>
    rw [hT'] at a3
    obtain ⟨q1, q2, q3⟩ := a3
    rw [q1, if_neg (by rw [zq_le0 (by omega)]; omega)]
    exact zw_some ⟨zf_mono hf1 rfl, zm_s _ _ _ _, by show (zzwI o1.2 105 16 (nI 0)).1 106 6 = _; rw [zf_i hf1 rfl], .inl ⟨f, rfl, rfl, mI_2 I (zm2_fr I.h hf1 rfl) hf1 (h1 35 (by omega) (by omega) (by omega) (by omega)) (h1 36 (by omega) (by omega) (by omega) (by omega)) rfl, h1 39 (by omega) (by omega) (by omega) (by omega)⟩⟩
  | inr G =>
    rw [hT'] at a3
    obtain ⟨q1, q2, q3, sA, q4⟩ := a3
    have hGw := hG G hT'
    have hgn := g_n hGw
    rw [q1, if_pos (by decide)]
    obtain ⟨o2, b1, b2, b3, b4, b5, b6, b7, b8⟩ := m_keepsO (d + 5) (zzwI o1.2 105 16 (nI 0))
    have b1 : zzf zzP zN (d + 7) 195 [.ref 105] (zzwI o1.2 105 16 (nI 0)) = some o2 := b1
    obtain ⟨o3, c1, c2, c3, c4, c5, c6, c7, c8, c9, c10, c11⟩ := m_takesN (d + 5) o2.2
    have c1 : zzf zzP zN (d + 7) 197 [.ref 105] o2.2 = some o3 := c1
    rw [b1, Option.bind_some, c1, Option.bind_some]
    have e2 : ∀ c, c ≠ 121 → c ≠ 122 → c ≠ 123 → c ≠ 124 → c ≠ 125 → c ≠ 126 → c ≠ 105 → o2.2.1 c = o1.2.1 c := fun c h1 h2 h3 h4 h5 h6 h7 => by
      rw [zf_i b2 (by simp [h1, h2, h3, h4, h5, h6]), zm_c _ _ _ h7]
    obtain ⟨k1, k2, k3, k4, k5, k6⟩ := id q4
    have hf3 : zfr mGl μ o3.2 := zf_trans (zf_mono hf1 rfl) (zf_trans (zf_mono b2 rfl) (zf_mono c2 rfl))
    have i105 : ∀ p, o3.2.1 105 p = (zzwI o1.2 105 16 (nI 0)).1 105 p := fun p => by rw [zf_i c2 rfl, zf_i b2 rfl]
    have i106 : ∀ p, p ≠ 0 → p ≠ 1 → p ≠ 3 → o3.2.1 106 p = μ.1 106 p := fun p p0 p1 p3 => by rw [c11 p p0 p1 p3, zf_i b2 rfl, zf_i hf1 rfl]
    have z3 : zm2 G (sL s, sX s, nI 0, sB s, sF s) (zzwI o3.2 105 36 (nI 0)) := by
      have h106 : ∀ p, (zzwI o3.2 105 36 (nI 0)).1 106 p = o3.2.1 106 p := fun p => by rw [zm_c _ _ _ (by omega)]
      refine ⟨⟨?_, ?_, fun r hr => ?_, fun r hr => ?_, fun r k hr hk => ?_, fun r hr => ?_, fun r hr => ?_⟩, ?_, fun k hk => ?_, ?_, ?_, ?_, fun k hk => ?_⟩
      · rw [h106, c8, zf_i b2 rfl, zm_k _ _ _ _ (by omega)]
        exact k1
      · rw [h106, c9, e2 114 (by omega) (by omega) (by omega) (by omega) (by omega) (by omega) (by omega), if_neg (by omega)]
        exact k2 0 q3
      · rw [zm_c _ _ _ (by omega), c3 r (by omega), e2 114 (by omega) (by omega) (by omega) (by omega) (by omega) (by omega) (by omega)]
        exact k2 r hr
      · rw [zm_c _ _ _ (by omega), c4 r (by omega), e2 115 (by omega) (by omega) (by omega) (by omega) (by omega) (by omega) (by omega)]
        exact k3 r hr
      · have := g_z hGw hr
        rw [zm_c _ _ _ (by omega), c5 _ (by omega), e2 116 (by omega) (by omega) (by omega) (by omega) (by omega) (by omega) (by omega)]
        exact (k4 r k hr hk).1
      · rw [zm_c _ _ _ (by omega), c6 r (by omega), e2 117 (by omega) (by omega) (by omega) (by omega) (by omega) (by omega) (by omega)]
        exact k5 r hr
      · rw [zm_c _ _ _ (by omega), c7 r (by omega), e2 118 (by omega) (by omega) (by omega) (by omega) (by omega) (by omega) (by omega)]
        exact k6 r hr
      · rw [h106, i106 2 (by omega) (by omega) (by omega)]
        exact (show μ.1 106 2 = nI (sL s) from d_len I.h)
      · rw [zm_c _ _ _ (by omega), zf_i hf3 rfl]
        exact d_x I.h hk
      · rw [h106]
        exact c10
      · rw [h106, i106 5 (by omega) (by omega) (by omega)]
        exact (show μ.1 106 5 = sF s from d_f I.h)
      · rw [h106, i106 4 (by omega) (by omega) (by omega)]
        exact (show μ.1 106 4 = nI (sB s).length from d_bn I.h)
      · rw [zm_c _ _ _ (by omega), zf_i hf3 rfl]
        exact d_b I.h hk
    obtain ⟨o4, f1, f2, f3, f4⟩ := m_laysStates z3 hGw q3 d (by rw [zm_s]; decide)
    have hLay : zLay G (sL s, sX s, nI 0, sB s, sF s) = zLay G zS0 := zLay_t rfl
    rw [hLay] at f4
    rw [f1, Option.bind_some]
    have hf4 : zfr mGl μ o4.2 := zf_trans hf3 (zf_trans (zf_wI _ _ rfl) (zf_mono f2 rfl))
    have j105 : ∀ p, p ≠ 15 → p ≠ 16 → p ≠ 17 → p ≠ 18 → p ≠ 35 → p ≠ 36 → o4.2.1 105 p = μ.1 105 p := fun p p0 p1 p2 p3 p4 p5 => by
      rw [f3 p p4 p5, zm_k _ _ _ _ p5, i105, h1 p p0 p1 p2 p3]
    have j16 : o4.2.1 105 16 = nI 0 := by
      rw [f3 16 (by omega) (by omega), zm_k _ _ _ _ (by omega), i105, zm_s]
    rcases f4 with ⟨g0, g1, g2⟩ | ⟨w, g0, g1, g2, g3⟩
    · obtain ⟨o5, t1, t2, t3, t4, t5, t6, t7, t8⟩ := m_laysO (d + 5) o4.2
      have t1 : zzf zzP zN (d + 7) 196 [.ref 105] o4.2 = some o5 := t1
      rw [g1, if_pos (show zB false = 0 by decide), t1, Option.bind_some, zq_mul, zq_add, zq_add]
      have old : ∀ c, c = 121 ∨ c = 122 ∨ c = 123 ∨ c = 124 ∨ c = 125 ∨ c = 126 → o4.2.1 c = o2.2.1 c := fun c hc => by
        rcases hc with rfl | rfl | rfl | rfl | rfl | rfl <;> rw [zf_i f2 rfl, zm_c _ _ _ (by omega), zf_i c2 rfl]
      have hf5 : zfr mGl μ (zzwI o5.2 105 36 (nI 0)) := zf_twI _ _ (zf_trans hf4 (zf_mono t2 rfl)) rfl
      have cp : zmcp μ (zzwI o5.2 105 36 (nI 0)) := by
        refine ⟨fun k hk _ => ?_, fun k hk => ?_, fun k hk => ?_, fun k hk => ?_, fun k hk => ?_, fun k hk => ?_, fun k hk => ?_, fun k hk => ?_⟩
        · rw [zm_c _ _ _ (by omega), t3 k hk, old 121 (by omega), b3 k hk, zf_i hf1 rfl]
        · rw [zm_c _ _ _ (by omega), t4 k hk, old 122 (by omega), b4 k hk, zf_i hf1 rfl]
        · rw [zm_c _ _ _ (by omega), t5 k hk, old 123 (by omega), b5 k hk, zf_i hf1 rfl]
        · rw [zm_c _ _ _ (by omega), t6 k hk, old 124 (by omega), b6 k hk, zf_i hf1 rfl]
        · rw [zm_c _ _ _ (by omega), t7 k hk, old 125 (by omega), b7 k hk, zf_i hf1 rfl]
        · rw [zm_c _ _ _ (by omega), t8 k hk, old 126 (by omega), b8 k hk, zf_i hf1 rfl]
        · rw [zf_i hf5 rfl]
        · rw [zf_i hf5 rfl]
      refine zw_some ⟨hf5, ?_, ?_, .inr ⟨G, rfl, .inl ⟨g0, rfl, ⟨zm2_cp I.h hg hs.1 hs.2.2.2.2.1 cp, fun i hi e => ?_⟩, ?_⟩⟩⟩
      · show (zzwI o5.2 105 36 (nI 0)).1 105 16 = _
        rw [zm_k _ _ _ _ (by omega), zf_i t2 rfl]
        exact j16
      · show (zzwI o5.2 105 36 (nI 0)).1 106 6 = _
        rw [zm_c _ _ _ (by omega), t3 6 (by omega), old 121 (by omega), b3 6 (by omega), zf_i hf1 rfl]
      · rw [show (zzwI o5.2 105 36 (nI 0)).1 105 36 = nI 0 from zm_s _ _ _ _, bt_0 i hi] at e
        cases e
      · show (zzwI o5.2 105 36 (nI 0)).1 105 39 = _
        rw [zm_k _ _ _ _ (by omega), zf_i t2 rfl]
        exact j105 39 (by omega) (by omega) (by omega) (by omega) (by omega) (by omega)
    · have z4 : zm2 G (sL s, sX s, nI 0, sB s, sF s) o4.2 := zm2_fr z3 f2 rfl
      rw [g1, if_neg (show ¬ zB true = 0 by decide), zs_i _ _ _ (by omega) (by omega), Option.bind_some, zs_i _ _ _ (by omega) (by omega), Option.bind_some, zs_i _ _ _ (by omega) (by omega), Option.bind_some, zr_i _ _ (by omega) (by omega), Option.bind_some]
      have hf5 : zfr [105, 106] o4.2 (zzwI (zzwI (zzwI (zzwI o4.2 106 2 (nI 0)) 106 4 (nI 0)) 106 5 (nI 7)) 105 39 (nI 0)) := zf_twI _ _ (zf_twI _ _ (zf_twI _ _ (zf_wI _ _ rfl) rfl) rfl) rfl
      have l105 : ∀ p, p ≠ 39 → (zzwI (zzwI (zzwI (zzwI o4.2 106 2 (nI 0)) 106 4 (nI 0)) 106 5 (nI 7)) 105 39 (nI 0)).1 105 p = o4.2.1 105 p := fun p hp => by
        rw [zm_k _ _ _ _ hp, zm_c _ _ _ (by omega), zm_c _ _ _ (by omega), zm_c _ _ _ (by omega)]
      have l106 : ∀ p, p ≠ 2 → p ≠ 4 → p ≠ 5 → (zzwI (zzwI (zzwI (zzwI o4.2 106 2 (nI 0)) 106 4 (nI 0)) 106 5 (nI 7)) 105 39 (nI 0)).1 106 p = o4.2.1 106 p := fun p p2 p4 p5 => by
        rw [zm_c _ _ _ (by omega), zm_k _ _ _ _ p5, zm_k _ _ _ _ p4, zm_k _ _ _ _ p2]
      have e2 : (zzwI (zzwI (zzwI (zzwI o4.2 106 2 (nI 0)) 106 4 (nI 0)) 106 5 (nI 7)) 105 39 (nI 0)).1 106 2 = nI 0 := by
        rw [zm_c _ _ _ (by omega), zm_k _ _ _ _ (by omega), zm_k _ _ _ _ (by omega), zm_s]
      have e4 : (zzwI (zzwI (zzwI (zzwI o4.2 106 2 (nI 0)) 106 4 (nI 0)) 106 5 (nI 7)) 105 39 (nI 0)).1 106 4 = nI 0 := by
        rw [zm_c _ _ _ (by omega), zm_k _ _ _ _ (by omega), zm_s]
      have e5 : (zzwI (zzwI (zzwI (zzwI o4.2 106 2 (nI 0)) 106 4 (nI 0)) 106 5 (nI 7)) 105 39 (nI 0)).1 106 5 = nI 7 := by
        rw [zm_c _ _ _ (by omega), zm_s]
      have e39 : (zzwI (zzwI (zzwI (zzwI o4.2 106 2 (nI 0)) 106 4 (nI 0)) 106 5 (nI 7)) 105 39 (nI 0)).1 105 39 = nI 0 := zm_s _ _ _ _
      generalize zzwI (zzwI (zzwI (zzwI o4.2 106 2 (nI 0)) 106 4 (nI 0)) 106 5 (nI 7)) 105 39 (nI 0) = y at hf5 l105 l106 e2 e4 e5 e39 ⊢
      have zy : zm2 G zS0 y := by
        refine ⟨?_, e2, fun k hk => absurd hk (Nat.not_lt_zero _), (l106 3 (by omega) (by omega) (by omega)).trans (show o4.2.1 106 3 = nI 0 from d_st z4), e5, e4, fun k hk => absurd hk (Nat.not_lt_zero _)⟩
        have := z4.1
        unfold zmG at this ⊢
        rw [l106 0 (by omega) (by omega) (by omega), l106 1 (by omega) (by omega) (by omega), zf_i hf5 rfl, zf_i hf5 rfl, zf_i hf5 rfl, zf_i hf5 rfl, zf_i hf5 rfl]
        exact this
      refine zw_some ⟨zf_trans hf4 (zf_mono hf5 rfl), ?_, ?_, .inr ⟨G, rfl, .inr ⟨w, g0, d_n zy, ⟨zy, fun i hi e => ?_⟩, e39⟩⟩⟩
      · show y.1 105 16 = _
        rw [l105 16 (by omega)]
        exact j16
      · show y.1 106 6 = _
        rw [l106 6 (by omega) (by omega) (by omega), zf_i f2 rfl, zm_c _ _ _ (by omega), i106 6 (by omega) (by omega) (by omega)]
      · have e : bt (y.1 105 36) i = true := e
        rw [l105 36 (by omega), g3, zm_s] at e
        have : i = 0 := (show ∀ i, i < 7 → bt (nI 0 ||| nI 1) i = true → i = 0 by decide) i hi e
        subst this
        exact ⟨w, g0, zmSt_fr g2 hf5 (l105 35 (by omega)) rfl⟩
/-- GRAMMAR answered alike -/
theorem q_grammar {μ : zzM} (h : zIv μ) : zA 121 198 [.ref 0] [.ref 105] μ := by
  obtain ⟨⟨g, s, S, m, b1, b2, b3, b4, b5⟩, hx, ⟨b, n, t1, t2, t3⟩, hi⟩ := id h
  have K : zOk g s := b4.2.1 ▸ b1 m (Nat.le_refl _)
  obtain ⟨o1, c1, c2, c3, c4, c5⟩ := c_gram b2 t3.1 (fun i hi => ⟨(t3.2.2 i hi).1, t2 i hi⟩) t1 8
  have hT1 : mTp b n o1.2 := ⟨t3.1, by rw [zf_i c2 rfl]; exact t3.2.1, fun i hi => by rw [zf_i c2 rfl]; exact t3.2.2 i hi⟩
  have I1 : mI g s o1.2 := mI_2 b3 (zm2_fr b3.h c2 rfl) c2 (by rw [zf_i c2 rfl]) (by rw [zf_i c2 rfl]) rfl
  have P1 : mP S m o1.2 := mP_fr b5 c2 (by rw [zf_i c2 rfl]) rfl
  obtain ⟨o2, e1, e2, e3, e4, e5⟩ := m_gram K.hg K.hs I1 hT1 (fun G hG => by
    rcases c5 with ⟨f, q, _⟩ | ⟨G', q, q1, _⟩
    · rw [q] at hG
      cases hG
    · rw [q] at hG
      cases hG
      exact q1) 5
  have hf : zfr (cGl ++ mGl) μ o2.2 := zf_trans (zf_mono c2 rfl) (zf_mono e2 rfl)
  have hx2 : zXx o2.2 := zXx_cg hx (by rw [zf_i e2 rfl, c4]) (by rw [e4, zf_i c2 rfl])
  have hT2 : zTp o2.2 := ⟨b, 0, by rw [zf_i e2 rfl]; exact c3, fun i hi => absurd hi (Nat.not_lt_zero _), Nat.zero_le _, e3, fun i hi => absurd hi (Nat.not_lt_zero _)⟩
  have hI2 : ∀ q, q < 4 → zIm q o2.2 := fun q hq => zIm_fr hq (hi q hq) hf rfl
  have keep : o1.1.1 = o2.1.1 → cI g s o1.2 → o1.2.1 2 8 = μ.1 2 8 → o1.2.1 12 = μ.1 12 → mI g s o2.2 → o2.2.1 105 39 = o1.2.1 105 39 → zA 121 198 [.ref 0] [.ref 105] μ := fun k1 k2 k3 k4 k5 k6 => ⟨o1, o2, c1, e1, k1, ⟨g, s, S, m, b1, cI_2 k2 (zc2_fr k2.h e2 rfl) e2 rfl, k5, cP_fr (cP_8 b4 k3 k4) e2 rfl, mP_fr P1 e2 k6 rfl⟩, hx2, hT2, hI2⟩
  rcases c5 with ⟨f, q1, q2, q3, q4, q5⟩ | ⟨G, q1, hGw, hG0, q2⟩
  · rcases e5 with ⟨f', r1, r2, r3, r4⟩ | ⟨G', r1, _⟩
    · rw [q1] at r1
      cases r1
      exact keep (q2.trans r2.symm) q3 q4 q5 r3 r4
    · rw [q1] at r1
      cases r1
  · rcases e5 with ⟨f', r1, _⟩ | ⟨G', r1, r2⟩
    · rw [q1] at r1
      cases r1
    · rw [q1] at r1
      cases r1
      rcases q2 with ⟨u1, u2, u3, u4, u5⟩ | ⟨w, u1, u2, u3, u4⟩
      · rcases r2 with ⟨_, v2, v3, v4⟩ | ⟨w', v1, _⟩
        · exact keep (u2.trans v2.symm) u3 u4 u5 v3 v4
        · rw [u1] at v1
          cases v1
      · rcases r2 with ⟨v1, _⟩ | ⟨w', v1, v2, v3, v4⟩
        · rw [u1] at v1
          cases v1
        · refine ⟨o1, o2, c1, e1, u2.trans v2.symm, ⟨G, zS0, fun _ => zS0, 0, fun k _ => zS0_ok hGw u1, cI_2 u3 (zc2_fr u3.h e2 rfl) e2 rfl, v3, ⟨by omega, rfl, by rw [zf_i e2 rfl]; exact u4, fun k hk => absurd hk (Nat.not_lt_zero _)⟩, ⟨v4, fun k hk => absurd hk (Nat.not_lt_zero _)⟩⟩, hx2, hT2, hI2⟩
