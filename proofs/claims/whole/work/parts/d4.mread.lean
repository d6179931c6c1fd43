/-! A GRAMMAR TOLD, of the reference: rule by rule -/
def mRd (b : Nat → Nat) (n p w : Nat) (G : zG) (sA : Nat → Nat → Nat) (R : Nat ⊕ zG) (y : zzM) : Prop := p ≤ n ∧ y.1 105 17 = nI p ∧ y.1 105 18 = nI 0 ∧ mtG G sA y ∧ twa w G ∧ tPo b p G sA ∧ tRn b n p w G = R
def mFl (R : Nat ⊕ zG) (y : zzM) : Prop := ∃ f, R = .inl f ∧ 0 < f ∧ f ≤ 3300 ∧ y.1 105 18 = nI f
/-- at the next sign -/
theorem mRd_sk {b : Nat → Nat} {n p w : Nat} {G : zG} {sA : Nat → Nat → Nat} {R : Nat ⊕ zG} {y : zzM} (h : mRd b n p w G sA R y) : mRd b n (tsk b (n - p) p) w G sA R (zzwI y 105 17 (nI (tsk b (n - p) p))) := by
  obtain ⟨h1, h2, h3, h4, h5, h6, h7⟩ := h
  have := tsk_le b (n - p) p
  exact ⟨by omega, zm_s _ _ _ _, (zm_k _ _ _ _ (by omega)).trans h3, mtG_p h4 (by omega) _, h5, tPo_sk h6, by rw [← tRn_sk h1]; exact h7⟩
theorem m_fl {b : Nat → Nat} {n q w t : Nat} {G : zG} {sA : Nat → Nat → Nat} {R : Nat ⊕ zG} {y : zzM} (h : mRd b n q w G sA R y) (hn : n ≤ 400) (ht : t ≤ 5) (hR : tRn b n q w G = .inl (1 + 8 * q + t)) (d : Nat) : zw ((zzf zzP zN (d + 1) 184 [.ref 105, .int (nI t), .int (nI q)] y).bind fun o => some ((0, 0, 0), o.2)) fun o => mTf y o.2 ∧ mFl R o.2 := by
  rw [m_fails d t q h.2.2.1, Option.bind_some]
  exact zw_some ⟨mTf_p _ _ (by omega), 1 + 8 * q + t, by rw [← h.2.2.2.2.2.2]; exact hR, by omega, by have := h.1; omega, zm_s _ _ _ _⟩
theorem m_readsLeft {b : Nat → Nat} {n p : Nat} {G : zG} {sA : Nat → Nat → Nat} {R : Nat ⊕ zG} {μ : zzM} (hT : mTp b n μ) (h : mRd b n p 0 G sA R μ) (d : Nat) : zw (zzf zzP zN (d + 4) 189 [.ref 105] μ) fun o => mTf μ o.2 ∧ (mFl R o.2 ∨ ∃ p' G', p < p' ∧ gD G' (gN G' - 1) = 0 ∧ mRd b n p' 1 G' sA R o.2) := by
  have hn := hT.1
  have hle := tsk_le b (n - p) p
  have hb32 := tsk_b b (n - p) p
  have hs := mRd_sk h
  have hf1 : mTf μ (zzwI μ 105 17 (nI (tsk b (n - p) p))) := mTf_p _ _ (by omega)
  have hT1 := mTp_f hT hf1
  rw [w_m_readsLeft, m_sign (d + 2) hT h.1 h.2.1, Option.bind_some]
  generalize tsk b (n - p) p = q at *
  generalize zzwI μ 105 17 (nI q) = y at *
  have hbq : q ≠ n → b q < 256 := fun e => (hT1.2.2 q (by have := h.1; omega)).1
  have hlo : zzf zzP zN (d + 3) 186 [.int (tsg b n q)] y = _ := m_letterOf (d + 1) hbq y
  have hp := h.1
  obtain ⟨s1, s2, s3, s4, s5, s6, s7⟩ := id hs
  have hN := s5.1.1
  show zw ((zzf zzP zN (d + 3) 186 [.int (tsg b n q)] y).bind _) _
  rw [hlo, Option.bind_some, m_isCapital, Option.bind_some]
  simp only [zB_0, decide_eq_false_iff_not]
  rw [s2]
  have fail : ∀ t, t ≤ 5 → tRn b n q 0 G = .inl (1 + 8 * q + t) → zw ((zzf zzP zN (d + 3) 184 [.ref 105, .int (nI t), .int (nI q)] y).bind fun o => some ((0, 0, 0), o.2)) fun o => mTf μ o.2 ∧ (mFl R o.2 ∨ ∃ p' G', p < p' ∧ gD G' (gN G' - 1) = 0 ∧ mRd b n p' 1 G' sA R o.2) := fun t ht hR => zw_mono (m_fl hs hn ht hR (d + 2)) fun o ho => ⟨mTf_t hf1 ho.1, .inl ho.2⟩
  unfold tlo
  by_cases eq : q = n
  · rw [if_pos eq, if_pos (by decide)]
    exact fail 0 (by omega) (by rw [eq, tRn_e]; rfl)
  · have hqn : q < n := by omega
    have h32 := hb32 (by omega)
    have h256 := hbq eq
    rw [if_neg eq]
    cases hC : tC (b q) with
    | false =>
      have hno : ¬ nI 26 ≤ (if tL (b q) = true then nI (tv (b q)) else -(nI 1)) := by
        by_cases eL : tL (b q) = true
        · have h5 := tv_52 eL
          rw [if_pos eL, zq_le (by omega) (by omega), tv_26 eL, hC]
          decide
        · rw [if_neg eL]
          decide
      rw [if_pos hno]
      refine fail 0 (by omega) (tRn_f hqn h32 ?_)
      unfold tF
      rw [if_pos rfl, hC, if_neg (by decide)]
    | true =>
      have hC' := (tC_iff _).1 hC
      have hLt : tL (b q) = true := (tL_iff _).2 (.inl hC')
      have htv : tv (b q) = 26 + (b q - 65) := by
        unfold tv
        rw [if_pos hC]
        omega
      rw [if_pos hLt, htv, if_neg (fun f => f (by rw [zq_le (by omega) (by omega)]; omega)), s4.1]
      have hf4 : (gN G = 12 ∨ (gleft G (b q - 65) = false ∧ zcnt (gleft G) 26 = 5)) → zw (J189_a zN (d + 3) (nI (26 + (b q - 65))) y) fun o => mTf μ o.2 ∧ (mFl R o.2 ∨ ∃ p' G', p < p' ∧ gD G' (gN G' - 1) = 0 ∧ mRd b n p' 1 G' sA R o.2) := by
        intro f
        unfold J189_a
        rw [s2]
        refine fail 4 (by omega) (tRn_f hqn h32 ?_)
        unfold tF
        rw [if_pos rfl, hC, if_pos rfl, if_pos f]
      have hok : ¬ (gN G = 12 ∨ (gleft G (b q - 65) = false ∧ zcnt (gleft G) 26 = 5)) → zw (J189_b zN (d + 3) (nI (26 + (b q - 65))) y) fun o => mTf μ o.2 ∧ (mFl R o.2 ∨ ∃ p' G', p < p' ∧ gD G' (gN G' - 1) = 0 ∧ mRd b n p' 1 G' sA R o.2) := by
        intro f
        have hff : tF 0 G (b q) = none := by
          unfold tF
          rw [if_pos rfl, hC, if_pos rfl, if_neg f]
        have hw' := tT_w s5 hff
        have hN12 : gN G < 12 := by
          have : gN G ≠ 12 := fun e => f (.inl e)
          omega
        obtain ⟨g1, g2, g3, g4, g5, g6⟩ := id s4
        unfold J189_b
        rw [g1, zs_i _ _ _ (by omega) (by omega), Option.bind_some, zm_c _ _ _ (by omega), g1, zs_i _ _ _ (by omega) (by omega), Option.bind_some, zm_c _ _ _ (by omega), zm_c _ _ _ (by omega), g1, zs_i _ _ _ (by omega) (by omega), Option.bind_some, zm_c _ _ _ (by omega), zm_c _ _ _ (by omega), zm_c _ _ _ (by omega), g1, zs_i _ _ _ (by omega) (by omega), Option.bind_some, zm_c _ _ _ (by omega), zm_c _ _ _ (by omega), zm_c _ _ _ (by omega), zm_c _ _ _ (by omega), g1, s2]
        simp only [zq_add]
        refine zw_some ⟨mTf_t hf1 (mTf_t (mTf_c 114 _ _ (by omega)) (mTf_t (mTf_c 115 _ _ (by omega)) (mTf_t (mTf_c 117 _ _ (by omega)) (mTf_t (mTf_c 118 _ _ (by omega)) (mTf_t (mTf_p 15 _ (by omega)) (mTf_p 17 _ (by omega))))))), .inr ⟨q + 1, tB G (b q - 65), by omega, ?_, by omega, zm_s _ _ _ _, ?_, ?_, hw', tPo_B s6, ?_⟩⟩
        · show zup (gD G) (gN G) 0 (gN G + 1 - 1) = 0
          rw [show gN G + 1 - 1 = gN G by omega, zup_s]
        · rw [zm_k _ _ _ _ (by omega), zm_k _ _ _ _ (by omega), zm_c _ _ _ (by omega), zm_c _ _ _ (by omega), zm_c _ _ _ (by omega), zm_c _ _ _ (by omega)]
          exact s3
        · refine mtG_p ?_ (by omega) _
          refine ⟨zm_s _ _ _ _, fun r hr => ?_, fun r hr => ?_, fun r k hr hk => ?_, fun r hr => ?_, fun r hr => ?_⟩
          · have hr : r < gN G + 1 := hr
            show _ = nI (zup (gL G) (gN G) (26 + (b q - 65)) r)
            rw [zm_c _ _ _ (by omega), zm_c _ _ _ (by omega), zm_c _ _ _ (by omega), zm_c _ _ _ (by omega), zm_if]
            unfold zup
            by_cases e : r = gN G
            · rw [if_pos e, if_pos e]
            · rw [if_neg e, if_neg e]
              exact g2 r (by omega)
          · have hr : r < gN G + 1 := hr
            show _ = nI (zup (gZ G) (gN G) 0 r)
            rw [zm_c _ _ _ (by omega), zm_c _ _ _ (by omega), zm_c _ _ _ (by omega), zm_if]
            unfold zup
            by_cases e : r = gN G
            · rw [if_pos e, if_pos e]
            · rw [if_neg e, if_neg e, zm_c _ _ _ (by omega)]
              exact g3 r (by omega)
          · have hr : r < gN G + 1 := hr
            have hk : k < zup (gZ G) (gN G) 0 r := hk
            rw [zm_c _ _ _ (by omega), zm_c _ _ _ (by omega), zm_c _ _ _ (by omega), zm_c _ _ _ (by omega), zm_c _ _ _ (by omega), zm_c _ _ _ (by omega), zm_c _ _ _ (by omega), zm_c _ _ _ (by omega), zm_c _ _ _ (by omega), zm_c _ _ _ (by omega)]
            by_cases e : r = gN G
            · rw [e, zup_s] at hk
              omega
            · rw [zup_o _ e] at hk
              exact g4 r k (by omega) hk
          · have hr : r < gN G + 1 := hr
            show _ = nI (zup (gR G) (gN G) 0 r)
            rw [zm_c _ _ _ (by omega), zm_c _ _ _ (by omega), zm_if]
            unfold zup
            by_cases e : r = gN G
            · rw [if_pos e, if_pos e]
            · rw [if_neg e, if_neg e, zm_c _ _ _ (by omega), zm_c _ _ _ (by omega)]
              exact g5 r (by omega)
          · have hr : r < gN G + 1 := hr
            show _ = nI (zup (gD G) (gN G) 0 r)
            rw [zm_c _ _ _ (by omega), zm_if]
            unfold zup
            by_cases e : r = gN G
            · rw [if_pos e, if_pos e]
            · rw [if_neg e, if_neg e, zm_c _ _ _ (by omega), zm_c _ _ _ (by omega), zm_c _ _ _ (by omega)]
              exact g6 r (by omega)
        · rw [← tRn_s hqn h32 hff (show tT 0 G (b q) = (1, tB G (b q - 65)) from rfl)]
          exact s7
      rw [zif_cg (Iff.of_eq (zq_eq (show gN G < 2147483648 by omega) (by omega)))]
      by_cases eN : gN G = 12
      · rw [if_pos eN]
        exact hf4 (.inl eN)
      · have hnl : zzf zzP zN (d + 3) 187 [.ref 105, .int (nI (26 + (b q - 65))), .int (nI (gN G))] y = _ := m_isNewLeft s4 s5.1 (d + 2) (by omega) (Nat.le_refl _)
        have hns : zzf zzP zN (d + 3) 188 [.ref 105] y = _ := m_newLefts s4 s5.1 (d + 1)
        rw [if_neg eN, hnl, Option.bind_some]
        simp only [zB_0]
        have hgl : decide (∃ r, r < gN G ∧ gL G r = 26 + (b q - 65)) = gleft G (b q - 65) := by
          rw [Bool.eq_iff_iff, decide_eq_true_eq, gleft_iff]
        rw [hgl]
        have h5 := s5.1.2.2
        cases hl : gleft G (b q - 65) with
        | false =>
          rw [if_pos rfl, hns, Option.bind_some, zif_cg (Iff.of_eq (zq_eq (by omega) (by omega)))]
          by_cases e5 : zcnt (gleft G) 26 = 5
          · rw [if_pos e5]
            exact hf4 (.inr ⟨hl, e5⟩)
          · rw [if_neg e5]
            exact hok fun f => f.elim eN fun f => e5 f.2
        | true =>
          rw [if_neg (by decide)]
          exact hok fun f => f.elim eN fun f => by rw [hl] at f; cases f.1
theorem m_readsRight {b : Nat → Nat} {n p : Nat} {G : zG} {sA : Nat → Nat → Nat} {R : Nat ⊕ zG} {μ : zzM} (hT : mTp b n μ) (h : mRd b n p 1 G sA R μ) (hD : gD G (gN G - 1) = 0) (d : Nat) : zw (zzf zzP zN (d + 4) 190 [.ref 105] μ) fun o => mTf μ o.2 ∧ (mFl R o.2 ∨ ∃ p' G' sA', p ≤ p' ∧ gD G' (gN G' - 1) = 0 ∧ mRd b n p' 2 G' sA' R o.2 ∧ (p' < n → b p' ≠ 32 ∧ tL (b p') = false)) := by
  have hn := hT.1
  have hle := tsk_le b (n - p) p
  have hb32 := tsk_b b (n - p) p
  have hs := mRd_sk h
  have hf1 : mTf μ (zzwI μ 105 17 (nI (tsk b (n - p) p))) := mTf_p _ _ (by omega)
  have hT1 := mTp_f hT hf1
  have hp := h.1
  have h15 := h.2.2.2.1.1
  have hN0 := h.2.2.2.2.1.2.2 (by omega)
  have hN12 := h.2.2.2.2.1.1.1
  rw [w_m_readsRight, m_sign (d + 2) hT h.1 h.2.1, Option.bind_some]
  generalize tsk b (n - p) p = q at *
  generalize zzwI μ 105 17 (nI q) = y at *
  have hbq : q ≠ n → b q < 256 := fun e => (hT1.2.2 q (by omega)).1
  obtain ⟨s1, s2, s3, s4, s5, s6, s7⟩ := id hs
  have fail : ∀ t, t ≤ 5 → tRn b n q 1 G = .inl (1 + 8 * q + t) → zw ((zzf zzP zN (d + 3) 184 [.ref 105, .int (nI t), .int (nI q)] y).bind fun o => some ((0, 0, 0), o.2)) fun o => mTf μ o.2 ∧ (mFl R o.2 ∨ ∃ p' G' sA', p ≤ p' ∧ gD G' (gN G' - 1) = 0 ∧ mRd b n p' 2 G' sA' R o.2 ∧ (p' < n → b p' ≠ 32 ∧ tL (b p') = false)) := fun t ht hR => zw_mono (m_fl hs hn ht hR (d + 2)) fun o ho => ⟨mTf_t hf1 ho.1, .inl ho.2⟩
  show zw (if tsg b n q = nI 61 then _ else _) _
  have e61 : tsg b n q = nI 61 ↔ q ≠ n ∧ b q = 61 := by
    unfold tsg
    by_cases eq : q = n
    · rw [if_pos eq]
      exact ⟨fun f => absurd f (by decide), fun f => absurd eq f.1⟩
    · rw [if_neg eq, zq_eq (by have := hbq eq; omega) (by omega)]
      exact ⟨fun f => ⟨eq, f⟩, fun f => f.2⟩
  rw [zif_cg e61]
  by_cases e : q ≠ n ∧ b q = 61
  · rw [if_pos e]
    obtain ⟨eq, e2⟩ := e
    have hqn : q < n := by omega
    have hff : tF 1 G (b q) = none := by rw [e2]; rfl
    have hR1 : tRn b n (q + 1) 2 G = R := by
      rw [← tRn_s hqn (by omega) hff (show tT 1 G (b q) = (2, G) from rfl)]
      exact s7
    show zw ((zzf zzP zN (d + 3) 185 [.ref 105] (zzwI y 105 17 ((y.1 105 17) + nI 1))).bind _) _
    rw [s2, zq_add]
    have hz : mRd b n (q + 1) 2 G sA R (zzwI y 105 17 (nI (q + 1))) := ⟨by omega, zm_s _ _ _ _, (zm_k _ _ _ _ (by omega)).trans s3, mtG_p s4 (by omega) _, ⟨s5.1, by decide, fun _ => hN0⟩, tPo_n s6 (by rw [e2]; rfl), hR1⟩
    have hfz : mTf μ (zzwI y 105 17 (nI (q + 1))) := mTf_t hf1 (mTf_p _ _ (by omega))
    have hTz := mTp_f hT hfz
    -- a sign, and its letter
    have step : ∀ {p2 : Nat} {G2 : zG} {sA2 : Nat → Nat → Nat} {z : zzM}, mRd b n p2 2 G2 sA2 R z → mTf μ z → ∀ {f : Int32 → zzM → Option zzR} {Q : zzR → Prop}, (∀ q2, p2 ≤ q2 → q2 ≤ n → (q2 < n → b q2 ≠ 32) → mRd b n q2 2 G2 sA2 R (zzwI z 105 17 (nI q2)) → zw (f (tlo b n q2) (zzwI z 105 17 (nI q2))) Q) → zw ((zzf zzP zN (d + 3) 185 [.ref 105] z).bind fun o2 => (zzf zzP zN (d + 3) 186 [.int o2.1.1] o2.2).bind fun o3 => f o3.1.1 o3.2) Q := by
      intro p2 G2 sA2 z hm hfz f Q hgo
      have hle2 := tsk_le b (n - p2) p2
      have hb2 := tsk_b b (n - p2) p2
      have hpn := hm.1
      rw [m_sign (d + 2) (mTp_f hT hfz) hm.1 hm.2.1, Option.bind_some]
      have hlo : zzf zzP zN (d + 3) 186 [.int (tsg b n (tsk b (n - p2) p2))] (zzwI z 105 17 (nI (tsk b (n - p2) p2))) = _ := m_letterOf (d + 1) (fun e => (hT.2.2 _ (by omega)).1) _
      show zw ((zzf zzP zN (d + 3) 186 [.int (tsg b n (tsk b (n - p2) p2))] (zzwI z 105 17 (nI (tsk b (n - p2) p2)))).bind _) _
      rw [hlo, Option.bind_some]
      exact hgo _ (by omega) (by omega) (fun e => hb2 (by omega)) (mRd_sk hm)
    refine step hz hfz (f := fun s z => zzl (L190_a zN (d + 3)) zN ([(μ.1 105 15) - nI 1, s], [], z)) fun q2 a1 a2 a3 a4 => ?_
    rw [h15, zq_sub (by omega)]
    refine zl_ms (fun x : (Nat × zG × (Nat → Nat → Nat)) × zzM => ([nI (gN G - 1), tlo b n x.1.1], [], x.2)) (fun t x => t = n - x.1.1 ∧ p ≤ x.1.1 ∧ gN x.1.2.1 = gN G ∧ gD x.1.2.1 (gN G - 1) = 0 ∧ (x.1.1 < n → b x.1.1 ≠ 32) ∧ mTf μ x.2 ∧ mRd b n x.1.1 2 x.1.2.1 x.1.2.2 R x.2) (n - q2) ((q2, G, sA), _) (by omega) rfl ⟨rfl, by simp only; omega, rfl, hD, a3, mTf_t hfz (mTf_p _ _ (by omega)), a4⟩ ?_
    rintro t ⟨⟨p2, G2, sA2⟩, z⟩ ga ⟨ht, c1, c2, c3, c4, c5, c6⟩ hgo
    simp only at ht c1 c2 c3 c4 c5 c6
    obtain ⟨m1, m2, m3, m4, m5, m6, m7⟩ := id c6
    obtain ⟨k1, k2, k3, k4, k5, k6⟩ := id m4
    unfold L190_a
    simp only [zI0, zI1, zI2, zI3, zI4, zI5, zI6, zI7, zI8, zJ0, zJ1, zJ2, zMM]
    unfold tlo
    have fin : (p2 < n → tL (b p2) = false) → zw (some (((0 : Int32), (0 : Int64), (0 : Nat)), z)) fun o => mTf μ o.2 ∧ (mFl R o.2 ∨ ∃ p' G' sA', p ≤ p' ∧ gD G' (gN G' - 1) = 0 ∧ mRd b n p' 2 G' sA' R o.2 ∧ (p' < n → b p' ≠ 32 ∧ tL (b p') = false)) := fun f => zw_some ⟨c5, .inr ⟨p2, G2, sA2, c1, by rw [c2]; exact c3, c6, fun e => ⟨c4 e, f e⟩⟩⟩
    by_cases ep : p2 = n
    · rw [if_pos ep, if_pos rfl]
      exact fin fun e => by omega
    · rw [if_neg ep]
      have hpn : p2 < n := by omega
      have h32 := c4 hpn
      have h256 := (hT.2.2 p2 hpn).1
      cases hL : tL (b p2) with
      | false =>
        rw [if_neg (show ¬ (false = true) by decide), if_pos rfl]
        exact fin fun _ => hL
      | true =>
        have hv := tv_52 hL
        have hz4 := (m5.1.2.1 (gN G - 1) (by omega)).2.2.1
        rw [if_pos rfl, zif_cg (Iff.of_eq (zq_em (by omega))), if_neg (fun q => q), zr_i _ _ (by omega) (by omega), k3 _ (by omega), Option.bind_some, zif_cg (Iff.of_eq (zq_eq (by omega) (by omega)))]
        by_cases e4 : gZ G2 (gN G - 1) = 4
        · rw [if_pos e4, m2]
          refine zw_mono (m_fl c6 hn (t := 3) (by omega) (tRn_f hpn h32 ?_) (d + 2)) fun o ho => ⟨mTf_t c5 ho.1, .inl ho.2⟩
          unfold tF
          rw [if_neg (by omega), if_neg (by omega), if_pos rfl, hL, if_pos rfl, c2, if_pos e4]
        · rw [if_neg e4, Option.bind_some]
          simp only [zq_mul, zq_add]
          rw [zs_i _ _ _ (by omega) (by omega), Option.bind_some, zr_i _ _ (by omega) (by omega), zm_c _ _ _ (by omega), k3 _ (by omega), Option.bind_some, zq_add, zm_c _ _ _ (by omega), m2, zs_i _ _ _ (by omega) (by omega), Option.bind_some, zr_i _ _ (by omega) (by omega), zm_c _ _ _ (by omega), zm_c _ _ _ (by omega), k3 _ (by omega), Option.bind_some, zq_add, zs_i _ _ _ (by omega) (by omega), Option.bind_some, zm_c _ _ _ (by omega), zm_c _ _ _ (by omega), zm_c _ _ _ (by omega), m2, zq_add]
          have hff : tF 2 G2 (b p2) = none := by
            unfold tF
            rw [if_neg (by omega), if_neg (by omega), if_pos rfl, hL, if_pos rfl, c2, if_neg e4]
          have hTT : tT 2 G2 (b p2) = (2, tS G2 (tv (b p2))) := by
            unfold tT
            rw [if_neg (by omega), if_neg (by omega), if_pos rfl, hL, if_pos rfl]
          have hw' := tT_w m5 hff
          rw [hTT] at hw'
          have hTf : mTf z (zzwI (zzwI (zzwI (zzwI z 116 (4 * (gN G - 1) + gZ G2 (gN G - 1)) (nI (tv (b p2)))) 119 (4 * (gN G - 1) + gZ G2 (gN G - 1)) (nI p2)) 115 (gN G - 1) (nI (gZ G2 (gN G - 1) + 1))) 105 17 (nI (p2 + 1))) := mTf_t (mTf_c 116 _ _ (by omega)) (mTf_t (mTf_c 119 _ _ (by omega)) (mTf_t (mTf_c 115 _ _ (by omega)) (mTf_p 17 _ (by omega))))
          have hm' : mRd b n (p2 + 1) 2 (tS G2 (tv (b p2))) (fun r k => if r = gN G2 - 1 ∧ k = gZ G2 (gN G2 - 1) then p2 else sA2 r k) R (zzwI (zzwI (zzwI (zzwI z 116 (4 * (gN G - 1) + gZ G2 (gN G - 1)) (nI (tv (b p2)))) 119 (4 * (gN G - 1) + gZ G2 (gN G - 1)) (nI p2)) 115 (gN G - 1) (nI (gZ G2 (gN G - 1) + 1))) 105 17 (nI (p2 + 1))) := by
            refine ⟨by omega, zm_s _ _ _ _, ?_, mtG_p ?_ (by omega) _, hw', tPo_S m6 (by omega) hL, ?_⟩
            · rw [zm_k _ _ _ _ (by omega), zm_c _ _ _ (by omega), zm_c _ _ _ (by omega), zm_c _ _ _ (by omega)]
              exact m3
            · refine ⟨?_, fun r hr => ?_, fun r hr => ?_, fun r k hr hk => ?_, fun r hr => ?_, fun r hr => ?_⟩
              · rw [zm_c _ _ _ (by omega), zm_c _ _ _ (by omega), zm_c _ _ _ (by omega)]
                exact k1
              · rw [zm_c _ _ _ (by omega), zm_c _ _ _ (by omega), zm_c _ _ _ (by omega)]
                exact k2 r hr
              · show _ = nI (zup (gZ G2) (gN G2 - 1) (gZ G2 (gN G2 - 1) + 1) r)
                rw [zm_if, c2]
                unfold zup
                by_cases er : r = gN G - 1
                · rw [if_pos er, if_pos er]
                · rw [if_neg er, if_neg er, zm_c _ _ _ (by omega), zm_c _ _ _ (by omega)]
                  exact k3 r hr
              · have hr : r < gN G2 := hr
                have hzr := (m5.1.2.1 r hr).2.2.1
                have hk : k < zup (gZ G2) (gN G2 - 1) (gZ G2 (gN G2 - 1) + 1) r := hk
                show _ = nI (if r = gN G2 - 1 ∧ k = gZ G2 (gN G2 - 1) then tv (b p2) else gS G2 r k) ∧ _ = nI (if r = gN G2 - 1 ∧ k = gZ G2 (gN G2 - 1) then p2 else sA2 r k)
                rw [c2] at hk ⊢
                rw [zm_c _ _ _ (by omega), zm_c _ _ _ (by omega), zm_if, zm_c _ _ _ (show (119 : Nat) ≠ 115 by omega), zm_if]
                by_cases er : r = gN G - 1
                · rw [er, zup_s] at hk
                  by_cases ek : k = gZ G2 (gN G - 1)
                  · rw [if_pos (by rw [er, ek]), if_pos ⟨er, ek⟩, if_pos (by rw [er, ek]), if_pos ⟨er, ek⟩]
                    exact ⟨rfl, rfl⟩
                  · rw [if_neg (by omega), if_neg (fun q => ek q.2), if_neg (by omega), if_neg (fun q => ek q.2), zm_c _ _ _ (by omega)]
                    exact k4 r k hr (by rw [er]; omega)
                · rw [zup_o _ er] at hk
                  rw [if_neg (by omega), if_neg (fun q => er q.1), if_neg (by omega), if_neg (fun q => er q.1), zm_c _ _ _ (by omega)]
                  exact k4 r k hr hk
              · rw [zm_c _ _ _ (by omega), zm_c _ _ _ (by omega), zm_c _ _ _ (by omega)]
                exact k5 r hr
              · rw [zm_c _ _ _ (by omega), zm_c _ _ _ (by omega), zm_c _ _ _ (by omega)]
                exact k6 r hr
            · rw [← tRn_s hpn h32 hff hTT]
              exact m7
          refine step hm' (mTf_t c5 hTf) (f := fun s z => ga ([nI (gN G - 1), s], [], z)) fun q3 e1 e2 e3 e4 => ?_
          exact hgo (n - q3) ((q3, tS G2 (tv (b p2)), _), _) (by omega) ⟨rfl, by simp only; omega, c2, c3, e3, mTf_t (mTf_t c5 hTf) (mTf_p _ _ (by omega)), e4⟩
  · rw [if_neg e]
    show zw ((zzf zzP zN (d + 3) 184 [.ref 105, .int (nI 0), .int (y.1 105 17)] y).bind _) _
    rw [s2]
    refine fail 0 (by omega) ?_
    by_cases eq : q = n
    · rw [eq, tRn_e]
      rfl
    · refine tRn_f (by omega) (hb32 (by omega)) ?_
      unfold tF
      rw [if_neg (by omega), if_pos rfl, if_neg (fun f => e ⟨eq, f⟩)]
