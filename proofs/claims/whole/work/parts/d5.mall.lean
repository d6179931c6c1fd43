/-! A GRAMMAR TOLD, of the reference: ranks, and all -/
def tNx (w : Nat) (G : zG) (c : Nat) : Prop := (c = 59 → tF w G c = none ∧ tT w G c = (0, G)) ∧ (c ≠ 59 → tF w G c = some 0)
theorem tsg_c {b : Nat → Nat} {n q c : Nat} (hb : q ≠ n → b q < 256) (hc : c < 256) : tsg b n q = nI c ↔ q ≠ n ∧ b q = c := by
  unfold tsg
  by_cases eq : q = n
  · rw [if_pos eq]
    exact ⟨fun f => absurd f.symm (cast (by rw [zq_em (by omega)]) id), fun f => absurd eq f.1⟩
  · rw [if_neg eq, zq_eq (by have := hb eq; omega) (by omega)]
    exact ⟨fun f => ⟨eq, f⟩, fun f => f.2⟩
theorem tsg_m {b : Nat → Nat} {n q : Nat} (hb : q ≠ n → b q < 256) : tsg b n q = -(nI 1) ↔ q = n := by
  unfold tsg
  by_cases eq : q = n
  · rw [if_pos eq]
    exact ⟨fun _ => eq, fun _ => rfl⟩
  · rw [if_neg eq, zq_em (by have := hb eq; omega)]
    exact ⟨fun f => False.elim f, fun f => absurd f eq⟩
theorem tD_0 {G : zG} (h : gD G (gN G - 1) = 0) : tD G 0 = G := by
  have e : zup (gD G) (gN G - 1) 0 = gD G := by
    funext k
    unfold zup
    by_cases ek : k = gN G - 1
    · rw [if_pos ek, ek, h]
    · rw [if_neg ek]
  unfold tD
  rw [e]
  rfl
theorem tsk_at {b : Nat → Nat} {n p : Nat} (h : p < n → b p ≠ 32) (hp : p ≤ n) : tsk b (n - p) p = p := by
  by_cases e : p = n
  · rw [e, Nat.sub_self]
    rfl
  · rw [show n - p = n - (p + 1) + 1 by omega, tsk_s, if_neg (h (by omega))]
theorem m_readsRank {b : Nat → Nat} {n p : Nat} {G : zG} {sA : Nat → Nat → Nat} {R : Nat ⊕ zG} {μ : zzM} (hT : mTp b n μ) (h : mRd b n p 2 G sA R μ) (hD : gD G (gN G - 1) = 0) (hL : p < n → b p ≠ 32 ∧ tL (b p) = false) (d : Nat) : zw (zzf zzP zN (d + 4) 192 [.ref 105] μ) fun o => mTf μ o.2 ∧ (mFl R o.2 ∨ ∃ p' w' G', p ≤ p' ∧ (w' = 2 ∨ w' = 4 ∨ w' = 5) ∧ mRd b n p' w' G' sA R o.2 ∧ (tsk b (n - p') p' < n → tNx w' G' (b (tsk b (n - p') p')))) := by
  have hn := hT.1
  have hp := h.1
  have hN0 := h.2.2.2.2.1.2.2 (by omega)
  have hN12 := h.2.2.2.2.1.1.1
  have h15 := h.2.2.2.1.1
  have hs := mRd_sk h
  have hat := tsk_at (fun e => (hL e).1) hp
  rw [hat] at hs
  have hf1 : mTf μ (zzwI μ 105 17 (nI p)) := mTf_p _ _ (by omega)
  have hT1 := mTp_f hT hf1
  rw [w_m_readsRank, h.2.2.1, if_neg (by decide), m_sign (d + 2) hT h.1 h.2.1, hat, Option.bind_some]
  generalize zzwI μ 105 17 (nI p) = y at *
  have hb256 : ∀ q, q ≤ n → q ≠ n → b q < 256 := fun q h1 h2 => (hT.2.2 q (by omega)).1
  obtain ⟨s1, s2, s3, s4, s5, s6, s7⟩ := id hs
  show zw (if tsg b n p = nI 58 then _ else _) _
  rw [zif_cg (tsg_c (hb256 p hp) (by omega))]
  by_cases e : p ≠ n ∧ b p = 58
  · rw [if_pos e]
    obtain ⟨ep, e58⟩ := e
    have hpn : p < n := by omega
    have hff : tF 2 G (b p) = none := by rw [e58]; rfl
    have hR1 : tRn b n (p + 1) 3 G = R := by
      rw [← tRn_s hpn (by omega) hff (show tT 2 G (b p) = (3, G) by rw [e58]; rfl)]
      exact s7
    show zw ((zzf zzP zN (d + 3) 185 [.ref 105] (zzwI y 105 17 ((y.1 105 17) + nI 1))).bind _) _
    rw [s2, zq_add]
    have hz : mRd b n (p + 1) 3 G sA R (zzwI y 105 17 (nI (p + 1))) := ⟨by omega, zm_s _ _ _ _, (zm_k _ _ _ _ (by omega)).trans s3, mtG_p s4 (by omega) _, ⟨s5.1, by decide, fun _ => hN0⟩, tPo_n s6 (by rw [e58]; rfl), hR1⟩
    have hfz : mTf μ (zzwI y 105 17 (nI (p + 1))) := mTf_t hf1 (mTf_p _ _ (by omega))
    have hle := tsk_le b (n - (p + 1)) (p + 1)
    have hb32 := tsk_b b (n - (p + 1)) (p + 1)
    have hs2 := mRd_sk hz
    rw [m_sign (d + 2) (mTp_f hT hfz) hz.1 hz.2.1, Option.bind_some]
    have hf2 : mTf μ (zzwI (zzwI y 105 17 (nI (p + 1))) 105 17 (nI (tsk b (n - (p + 1)) (p + 1)))) := mTf_t hfz (mTf_p _ _ (by omega))
    generalize tsk b (n - (p + 1)) (p + 1) = q at *
    generalize zzwI (zzwI y 105 17 (nI (p + 1))) 105 17 (nI q) = z at *
    obtain ⟨z1, z2, z3, z4, z5, z6, z7⟩ := id hs2
    have hq256 := hb256 q z1
    show zw ((zzf zzP zN (d + 3) 173 [.long (Int32.toInt64 (tsg b n q)), .long (lN 49), .long (lN 57)] z).bind _) _
    have fail : ∀ t, t ≤ 5 → tRn b n q 3 G = .inl (1 + 8 * q + t) → zw (J192_b zN (d + 3) ((μ.1 105 15) - nI 1) (tsg b n q) (nI t) z) fun o => mTf μ o.2 ∧ (mFl R o.2 ∨ ∃ p' w' G', p ≤ p' ∧ (w' = 2 ∨ w' = 4 ∨ w' = 5) ∧ mRd b n p' w' G' sA R o.2 ∧ (tsk b (n - p') p' < n → tNx w' G' (b (tsk b (n - p') p')))) := fun t ht hR => by
      unfold J192_b
      rw [z2]
      exact zw_mono (m_fl hs2 hn ht hR (d + 2)) fun o ho => ⟨mTf_t hf2 ho.1, .inl ho.2⟩
    by_cases eq : q = n
    · have hm : zzf zzP zN (d + 3) 173 [.long (Int32.toInt64 (tsg b n q)), .long (lN 49), .long (lN 57)] z = some ((zB false, 0, 0), z) := by
        rw [(tsg_m hq256).2 eq]
        exact m_inm (d + 2) (by omega) z
      rw [hm, Option.bind_some, if_pos (show zB false = 0 by decide), if_pos ((tsg_m hq256).2 eq)]
      exact fail 0 (by omega) (by rw [eq, tRn_e]; rfl)
    · have hqn : q < n := by omega
      have h32 := hb32 (by omega)
      have hbq := hq256 eq
      have htg : tsg b n q = nI (b q) := if_neg eq
      have hm : zzf zzP zN (d + 3) 173 [.long (Int32.toInt64 (tsg b n q)), .long (lN 49), .long (lN 57)] z = some ((zB (decide (49 ≤ b q ∧ b q ≤ 57)), 0, 0), z) := by
        rw [htg]
        exact m_inr (d + 2) hbq (by omega) (by omega) z
      rw [hm, Option.bind_some]
      simp only [zB_0, decide_eq_false_iff_not]
      by_cases e49 : 49 ≤ b q ∧ b q ≤ 57
      · rw [if_neg (fun f => f e49), h15, zq_sub (by omega), htg, zq_sub (by omega), zs_i _ _ _ (by omega) (by omega), Option.bind_some]
        have hff3 : tF 3 G (b q) = none := by
          unfold tF
          rw [if_neg (by omega), if_neg (by omega), if_neg (by omega), if_pos rfl, if_pos e49]
        have hTT3 : tT 3 G (b q) = (4, tR G (b q - 48)) := rfl
        have hw3 := tT_w z5 hff3
        rw [hTT3] at hw3
        have hR3 : tRn b n (q + 1) 4 (tR G (b q - 48)) = R := by
          rw [← tRn_s hqn h32 hff3 hTT3]
          exact z7
        rw [zm_c _ _ _ (by omega), z2, zq_add]
        obtain ⟨k1, k2, k3, k4, k5, k6⟩ := id z4
        have hm3 : mRd b n (q + 1) 4 (tR G (b q - 48)) sA R (zzwI (zzwI z 117 (gN G - 1) (nI (b q - 48))) 105 17 (nI (q + 1))) := by
          refine ⟨by omega, zm_s _ _ _ _, ?_, mtG_p ⟨?_, fun r hr => ?_, fun r hr => ?_, fun r k hr hk => ?_, fun r hr => ?_, fun r hr => ?_⟩ (by omega) _, hw3, tPo_n z6 (Bool.eq_false_iff.2 fun f => by rw [tC_iff] at f; omega), hR3⟩
          · rw [zm_k _ _ _ _ (by omega), zm_c _ _ _ (by omega)]
            exact z3
          · rw [zm_c _ _ _ (by omega)]
            exact k1
          · rw [zm_c _ _ _ (by omega)]
            exact k2 r hr
          · rw [zm_c _ _ _ (by omega)]
            exact k3 r hr
          · rw [zm_c _ _ _ (by omega), zm_c _ _ _ (by omega)]
            exact k4 r k hr hk
          · show _ = nI (zup (gR G) (gN G - 1) (b q - 48) r)
            rw [zm_if]
            unfold zup
            by_cases er : r = gN G - 1
            · rw [if_pos er, if_pos er]
            · rw [if_neg er, if_neg er]
              exact k5 r hr
          · rw [zm_c _ _ _ (by omega)]
            exact k6 r hr
        have hf3 : mTf μ (zzwI (zzwI z 117 (gN G - 1) (nI (b q - 48))) 105 17 (nI (q + 1))) := mTf_t hf2 (mTf_t (mTf_c 117 _ _ (by omega)) (mTf_p _ _ (by omega)))
        have hle3 := tsk_le b (n - (q + 1)) (q + 1)
        have hb3 := tsk_b b (n - (q + 1)) (q + 1)
        have hs3 := mRd_sk hm3
        rw [m_sign (d + 2) (mTp_f hT hf3) hm3.1 hm3.2.1, Option.bind_some]
        have hf4 : mTf μ (zzwI (zzwI (zzwI z 117 (gN G - 1) (nI (b q - 48))) 105 17 (nI (q + 1))) 105 17 (nI (tsk b (n - (q + 1)) (q + 1)))) := mTf_t hf3 (mTf_p _ _ (by omega))
        generalize tsk b (n - (q + 1)) (q + 1) = u at *
        generalize zzwI (zzwI (zzwI z 117 (gN G - 1) (nI (b q - 48))) 105 17 (nI (q + 1))) 105 17 (nI u) = x at *
        obtain ⟨x1, x2, x3, x4, x5, x6, x7⟩ := id hs3
        have hsd : zzf zzP zN (d + 3) 191 [.int (tsg b n u)] x = _ := m_sideOf (d + 2) (hb256 u x1) x
        show zw ((zzf zzP zN (d + 3) 191 [.int (tsg b n u)] x).bind _) _
        rw [hsd, Option.bind_some]
        obtain ⟨v1, v2, v3, v4, v5, v6⟩ := id x4
        have hDR : gD (tR G (b q - 48)) (gN (tR G (b q - 48)) - 1) = 0 := hD
        have h3' : (if u = n then 0 else tsd (b u)) ≤ 3 := by
          split
          · omega
          · exact tsd_3 _
        rw [zs_i _ _ _ (by omega) (by omega), Option.bind_some, zr_i _ _ (by omega) (by omega), zm_s, Option.bind_some, zm_c _ _ _ (by omega), x2]
        have wr : ∀ v, mtG (tD (tR G (b q - 48)) v) sA (zzwI x 118 (gN G - 1) (nI v)) := fun v => by
          refine ⟨?_, fun r hr => ?_, fun r hr => ?_, fun r k hr hk => ?_, fun r hr => ?_, fun r hr => ?_⟩
          · rw [zm_c _ _ _ (by omega)]
            exact v1
          · rw [zm_c _ _ _ (by omega)]
            exact v2 r hr
          · rw [zm_c _ _ _ (by omega)]
            exact v3 r hr
          · rw [zm_c _ _ _ (by omega), zm_c _ _ _ (by omega)]
            exact v4 r k hr hk
          · rw [zm_c _ _ _ (by omega)]
            exact v5 r hr
          · show _ = nI (zup (gD (tR G (b q - 48))) (gN G - 1) v r)
            rw [zm_if]
            unfold zup
            by_cases er : r = gN G - 1
            · rw [if_pos er, if_pos er]
            · rw [if_neg er, if_neg er]
              exact v6 r hr
        have hf5 : ∀ v w, mTf μ (zzwI (zzwI x 118 (gN G - 1) v) 105 17 w) := fun v w => mTf_t hf4 (mTf_t (mTf_c 118 _ _ (by omega)) (mTf_p _ _ (by omega)))
        rw [zif_cg (Iff.of_eq (zq_le0 (by omega)))]
        by_cases eu : (if u = n then 0 else tsd (b u)) = 0
        · rw [if_pos eu, eu]
          unfold J192_a
          rw [zq_add, Nat.add_zero]
          have hG : tD (tR G (b q - 48)) 0 = tR G (b q - 48) := tD_0 hDR
          have hw0 := wr 0
          rw [hG] at hw0
          have hu : tsk b (n - u) u = u := tsk_at (fun e => hb3 (by omega)) x1
          refine zw_some ⟨hf5 _ _, .inr ⟨u, 4, tR G (b q - 48), by omega, .inr (.inl rfl), ⟨x1, zm_s _ _ _ _, (zm_k _ _ _ _ (by omega)).trans ((congrFun (zm_c _ _ _ (by omega)) _).trans x3), mtG_p hw0 (by omega) _, x5, x6, x7⟩, ?_⟩⟩
          rw [hu]
          intro hun
          rw [if_neg (by omega)] at eu
          refine ⟨fun f => ⟨by rw [f]; rfl, ?_⟩, fun f => ?_⟩
          · rw [f]
            show (0, tD (tR G (b q - 48)) 0) = _
            rw [hG]
          · unfold tF
            rw [if_neg (by omega), if_neg (by omega), if_neg (by omega), if_neg (by omega), if_pos rfl, if_neg f, if_pos eu]
        · rw [if_neg eu]
          have hun : u ≠ n := fun f => eu (by rw [if_pos f])
          rw [if_neg hun] at eu h3' ⊢
          have hul : u < n := by omega
          have h59 : b u ≠ 59 := fun f => eu (by rw [f]; rfl)
          unfold J192_a
          rw [zq_add]
          have hff4 : tF 4 (tR G (b q - 48)) (b u) = none := by
            unfold tF
            rw [if_neg (by omega), if_neg (by omega), if_neg (by omega), if_neg (by omega), if_pos rfl, if_neg h59, if_neg eu]
          have hTT4 : tT 4 (tR G (b q - 48)) (b u) = (5, tD (tR G (b q - 48)) (tsd (b u))) := by
            unfold tT
            rw [if_neg (by omega), if_neg (by omega), if_neg (by omega), if_neg (by omega), if_pos rfl, if_neg h59]
          have hw4 := tT_w x5 hff4
          rw [hTT4] at hw4
          have hC : tC (b u) = false := Bool.eq_false_iff.2 fun f => by
            rw [tC_iff] at f
            apply eu
            unfold tsd
            rw [if_neg (by omega), if_neg (by omega), if_neg (by omega)]
          refine zw_some ⟨hf5 _ _, .inr ⟨u + 1, 5, tD (tR G (b q - 48)) (tsd (b u)), by omega, .inr (.inr rfl), ⟨by omega, zm_s _ _ _ _, (zm_k _ _ _ _ (by omega)).trans ((congrFun (zm_c _ _ _ (by omega)) _).trans x3), mtG_p (wr _) (by omega) _, hw4, tPo_n x6 hC, ?_⟩, fun _ => ⟨fun f => ⟨by rw [f]; rfl, by rw [f]; rfl⟩, fun f => ?_⟩⟩⟩
          · rw [← tRn_s hul (hb3 (by omega)) hff4 hTT4]
            exact x7
          · unfold tF
            rw [if_neg (by omega), if_neg (by omega), if_neg (by omega), if_neg (by omega), if_neg (by omega), if_neg f]
      · rw [if_pos e49, zif_cg (tsg_m hq256), if_neg eq]
        refine fail 1 (by omega) (tRn_f hqn h32 ?_)
        unfold tF
        rw [if_neg (by omega), if_neg (by omega), if_neg (by omega), if_pos rfl, if_neg e49]
  · rw [if_neg e]
    refine zw_some ⟨hf1, .inr ⟨p, 2, G, Nat.le_refl _, .inl rfl, hs, ?_⟩⟩
    rw [hat]
    intro hpn
    have hLf := (hL hpn).2
    have h58 : b p ≠ 58 := fun f => e ⟨by omega, f⟩
    refine ⟨fun f => ?_, fun f => ?_⟩
    · rw [f]
      exact ⟨rfl, rfl⟩
    · unfold tF
      rw [if_neg (by omega), if_neg (by omega), if_pos rfl, hLf, if_neg (by decide), if_neg h58, if_neg f]
theorem m_isMore {b : Nat → Nat} {n p w : Nat} {G : zG} {sA : Nat → Nat → Nat} {R : Nat ⊕ zG} {μ : zzM} (hT : mTp b n μ) (h : mRd b n p w G sA R μ) (hw : w = 2 ∨ w = 4 ∨ w = 5) (hN : tsk b (n - p) p < n → tNx w G (b (tsk b (n - p) p))) (d : Nat) : zw (zzf zzP zN (d + 4) 193 [.ref 105] μ) fun o => mTf μ o.2 ∧ ∃ m, o.1.1 = zB m ∧ ((m = false ∧ mFl R o.2) ∨ (m = false ∧ o.2.1 105 18 = nI 0 ∧ R = .inr G ∧ mtG G sA o.2 ∧ tPo b n G sA ∧ tw G ∧ 0 < gN G) ∨ (m = true ∧ ∃ p', p < p' ∧ mRd b n p' 0 G sA R o.2)) := by
  have hn := hT.1
  have hp := h.1
  have hN0 := h.2.2.2.2.1.2.2 (by omega)
  have hle := tsk_le b (n - p) p
  have hb32 := tsk_b b (n - p) p
  have hs := mRd_sk h
  have hf1 : mTf μ (zzwI μ 105 17 (nI (tsk b (n - p) p))) := mTf_p _ _ (by omega)
  rw [w_m_isMore, h.2.2.1, if_pos (by decide), m_sign (d + 2) hT h.1 h.2.1, Option.bind_some]
  generalize tsk b (n - p) p = q at *
  generalize zzwI μ 105 17 (nI q) = y at *
  have hb256 : q ≠ n → b q < 256 := fun h2 => (hT.2.2 q (by omega)).1
  obtain ⟨s1, s2, s3, s4, s5, s6, s7⟩ := id hs
  show zw (if tsg b n q = -(nI 1) then _ else _) _
  rw [zif_cg (tsg_m hb256)]
  by_cases eq : q = n
  · rw [if_pos eq]
    unfold J193_a
    show zw (if tsg b n q = nI 59 then _ else _) _
    rw [zif_cg (tsg_c hb256 (by omega)), if_neg (fun f => f.1 eq), if_pos (by decide)]
    show zw (some ((nI 0, 0, 0), zzwI y 105 17 ((y.1 105 17) + nI 1))) _
    refine zw_some ⟨mTf_t hf1 (mTf_p _ _ (by omega)), false, rfl, .inr (.inl ⟨rfl, (zm_k _ _ _ _ (by omega)).trans s3, ?_, mtG_p s4 (by omega) _, by rw [← eq]; exact s6, s5.1, hN0⟩)⟩
    rw [← s7, eq, tRn_e, if_neg (by omega)]
  · rw [if_neg eq]
    have hqn : q < n := by omega
    have h32 := hb32 (by omega)
    have hx := hN hqn
    show zw (if tsg b n q = nI 59 then _ else _) _
    rw [zif_cg (tsg_c hb256 (by omega))]
    by_cases e59 : b q = 59
    · rw [if_pos ⟨eq, e59⟩]
      unfold J193_a
      show zw (if tsg b n q = nI 59 then _ else _) _
      rw [zif_cg (tsg_c hb256 (by omega)), if_pos ⟨eq, e59⟩, if_pos (by decide)]
      show zw (some ((nI 1, 0, 0), zzwI y 105 17 ((y.1 105 17) + nI 1))) _
      rw [s2, zq_add]
      obtain ⟨x1, x2⟩ := hx.1 e59
      refine zw_some ⟨mTf_t hf1 (mTf_p _ _ (by omega)), true, rfl, .inr (.inr ⟨rfl, q + 1, by omega, by omega, zm_s _ _ _ _, (zm_k _ _ _ _ (by omega)).trans s3, mtG_p s4 (by omega) _, ⟨s5.1, Nat.zero_le _, fun f => absurd rfl f⟩, tPo_n s6 (by rw [e59]; rfl), ?_⟩)⟩
      rw [← tRn_s hqn h32 x1 x2]
      exact s7
    · rw [if_neg (fun f => e59 f.2)]
      show zw ((zzf zzP zN (d + 3) 184 [.ref 105, .int (nI 0), .int (y.1 105 17)] y).bind _) _
      rw [s2, m_fails (d + 2) 0 q s3, Option.bind_some]
      unfold J193_a
      show zw (if tsg b n q = nI 59 then _ else _) _
      rw [zif_cg (tsg_c hb256 (by omega)), if_neg (fun f => e59 f.2), if_pos (by decide)]
      refine zw_some ⟨mTf_t hf1 (mTf_t (mTf_p 18 _ (by omega)) (mTf_p 17 _ (by omega))), false, rfl, .inl ⟨rfl, 1 + 8 * q + 0, ?_, by omega, by omega, ?_⟩⟩
      · rw [← s7]
        exact tRn_f hqn h32 (hx.2 e59)
      · exact (zm_k _ _ _ _ (by omega)).trans (zm_s _ _ _ _)
theorem m_rank_f (d : Nat) {μ : zzM} {R : Nat ⊕ zG} (h : mFl R μ) : zzf zzP zN (d + 1) 192 [.ref 105] μ = some ((0, 0, 0), μ) := by
  obtain ⟨f, -, h1, h2, h3⟩ := h
  rw [w_m_readsRank, h3, if_pos (by rw [zq_0lt (by omega)]; exact h1)]
theorem m_more_f (d : Nat) {μ : zzM} {R : Nat ⊕ zG} (h : mFl R μ) : zzf zzP zN (d + 1) 193 [.ref 105] μ = some ((nI 0, 0, 0), μ) := by
  obtain ⟨f, -, h1, h2, h3⟩ := h
  rw [w_m_isMore, h3, if_neg (by rw [zq_le0 (by omega)]; omega), if_pos (by decide)]
theorem tCp_n {b : Nat → Nat} {G : zG} : ∀ k p, (∀ i, p ≤ i → i < p + k → ¬ (tC (b i) = true ∧ gleft G (b i - 65) = false)) → tCp b G k p = none
  | 0, _, _ => rfl
  | k + 1, p, h => by
    rw [tCp_s, if_neg (h p (Nat.le_refl _) (by omega))]
    exact tCp_n k (p + 1) fun i h1 h2 => h i (by omega) (by omega)
theorem tCp_i {b : Nat → Nat} {G : zG} {q : Nat} (hq : tC (b q) = true ∧ gleft G (b q - 65) = false) : ∀ k p, p ≤ q → q < p + k → (∀ i, p ≤ i → i < q → ¬ (tC (b i) = true ∧ gleft G (b i - 65) = false)) → tCp b G k p = some q
  | 0, p, h1, h2, _ => absurd h2 (by omega)
  | k + 1, p, h1, h2, h => by
    rw [tCp_s]
    by_cases e : p = q
    · rw [e, if_pos hq]
    · rw [if_neg (h p (Nat.le_refl _) (by omega))]
      exact tCp_i hq k (p + 1) (by omega) (by omega) fun i a c => h i (by omega) c
/-- what a grammar told gives, in the reference -/
def mAll (b : Nat → Nat) (n : Nat) (y : zzM) : Prop := match tAll b n with
  | .inl f => y.1 105 18 = nI f ∧ 0 < f ∧ f ≤ 3300
  | .inr G => y.1 105 18 = nI 0 ∧ tw G ∧ 0 < gN G ∧ ∃ sA, mtG G sA y
theorem m_readsAll {b : Nat → Nat} {n : Nat} {μ : zzM} (hT : mTp b n μ) (d : Nat) : zw (zzf zzP zN (d + 5) 194 [.ref 105] μ) fun o => mTf μ o.2 ∧ mAll b n o.2 := by
  have hn := hT.1
  rw [w_m_readsAll]
  have hf0 : mTf μ (zzwI (zzwI (zzwI μ 105 17 (nI 0)) 105 18 (nI 0)) 105 15 (nI 0)) := mTf_t (mTf_p 17 _ (by omega)) (mTf_t (mTf_p 18 _ (by omega)) (mTf_p 15 _ (by omega)))
  have hR0 : tRn b n 0 0 tG0 = tRun b n 0 0 tG0 := rfl
  have hm0 : mRd b n 0 0 tG0 (fun _ _ => 0) (tRun b n 0 0 tG0) (zzwI (zzwI (zzwI μ 105 17 (nI 0)) 105 18 (nI 0)) 105 15 (nI 0)) := ⟨Nat.zero_le _, (zm_k _ _ _ _ (by omega)).trans ((zm_k _ _ _ _ (by omega)).trans (zm_s _ _ _ _)), (zm_k _ _ _ _ (by omega)).trans (zm_s _ _ _ _), ⟨zm_s _ _ _ _, fun r hr => absurd hr (Nat.not_lt_zero _), fun r hr => absurd hr (Nat.not_lt_zero _), fun r k hr => absurd hr (Nat.not_lt_zero _), fun r hr => absurd hr (Nat.not_lt_zero _), fun r hr => absurd hr (Nat.not_lt_zero _)⟩, ⟨tw_0, Nat.zero_le _, fun q => absurd rfl q⟩, ⟨fun r k hr => absurd hr (Nat.not_lt_zero _), fun r k r' k' hr => absurd hr (Nat.not_lt_zero _), fun i hi => absurd hi (Nat.not_lt_zero _)⟩, hR0⟩
  generalize zzwI (zzwI (zzwI μ 105 17 (nI 0)) 105 18 (nI 0)) 105 15 (nI 0) = y0 at *
  have hAll : ∀ R, tRun b n 0 0 tG0 = R → tAll b n = match R with
      | .inl f => .inl f
      | .inr G => match tCp b G n 0 with
        | some p => .inl (1 + 8 * p + 2)
        | none => .inr G := fun R e => by
    unfold tAll
    rw [e]
    cases R <;> rfl
  generalize tRun b n 0 0 tG0 = R at *
  let Fin : zzM → Prop := fun y => mTf μ y ∧ (mFl R y ∨ ∃ G sA, y.1 105 18 = nI 0 ∧ R = .inr G ∧ mtG G sA y ∧ tPo b n G sA ∧ tw G ∧ 0 < gN G)
  -- the check of capitals
  have last : ∀ ga y, Fin y → zw (zzl (L194_b zN (d + 4) ga) zN ([nI 0], [], y)) fun o => mTf μ o.2 ∧ mAll b n o.2 := by
    rintro ga y ⟨f1, f2⟩
    rcases f2 with ⟨f, e1, e2, e3, e4⟩ | ⟨G, sA, e1, e2, e3, e4, e5, e6⟩
    · refine zl_up (fun r (_ : Unit) => ([nI r], [], y)) (fun r _ => r = 0) 0 1 () (by omega) (by omega) rfl rfl ?_ ?_
      · rintro r - gb - hr hJ hgo
        have fin : zw (some (((0 : Int32), (0 : Int64), (0 : Nat)), y)) fun o => mTf μ o.2 ∧ mAll b n o.2 := zw_some ⟨f1, by
          unfold mAll
          rw [hAll R rfl, e1]
          exact ⟨e4, e2, e3⟩⟩
        unfold L194_b
        simp only [zI0, zI1, zI2, zI3, zI4, zI5, zI6, zI7, zI8, zJ0, zJ1, zJ2, zMM]
        by_cases q : y.1 105 15 ≤ nI r
        · rw [if_pos q]
          exact fin
        · rw [if_neg q, e4, if_neg (by rw [zq_e0 (by omega)]; omega)]
          exact fin
      · rintro - gb e
        omega
    · have hN := e5.1
      have hmal : tAll b n = match tCp b G n 0 with
        | some p => .inl (1 + 8 * p + 2)
        | none => .inr G := by rw [hAll R rfl, e2]
      obtain ⟨p1, p2, p3⟩ := id e4
      -- a place is bad
      let Bd : Nat → Nat → Prop := fun r k => 26 ≤ gS G r k ∧ gleft G (gS G r k - 26) = false
      have hbd : ∀ r k, r < gN G → k < gZ G r → (Bd r k ↔ (tC (b (sA r k)) = true ∧ gleft G (b (sA r k) - 65) = false)) := fun r k hr hk => by
        obtain ⟨q1, q2, q3⟩ := p1 r k hr hk
        have h26 := tv_26 q2
        rw [q3] at h26
        refine ⟨fun f => ?_, fun f => ?_⟩
        · have hC := h26.1 f.1
          have hC' := (tC_iff _).1 hC
          have : tv (b (sA r k)) = b (sA r k) - 65 + 26 := if_pos hC
          refine ⟨hC, ?_⟩
          rw [show b (sA r k) - 65 = gS G r k - 26 by omega]
          exact f.2
        · have hC' := (tC_iff _).1 f.1
          have : tv (b (sA r k)) = b (sA r k) - 65 + 26 := if_pos f.1
          refine ⟨h26.2 f.1, ?_⟩
          rw [show gS G r k - 26 = b (sA r k) - 65 by omega]
          exact f.2
      have hgood : (∀ r k, r < gN G → k < gZ G r → ¬ Bd r k) → tCp b G n 0 = none := fun hg => tCp_n n 0 fun i _ hi hbad => by
        rcases p3 i (by omega) hbad.1 with q | ⟨r, k, q1, q2, q3⟩
        · rw [hbad.2] at q
          cases q
        · rw [← q3] at hbad
          exact hg r k q1 q2 ((hbd r k q1 q2).2 hbad)
      have hfst : ∀ r k, r < gN G → k < gZ G r → Bd r k → (∀ r' k', r' < gN G → k' < gZ G r' → (r' < r ∨ (r' = r ∧ k' < k)) → ¬ Bd r' k') → tCp b G n 0 = some (sA r k) := fun r k hr hk hB hg => by
        have hlt := (p1 r k hr hk).1
        refine tCp_i ((hbd r k hr hk).1 hB) n 0 (Nat.zero_le _) (by omega) fun i _ hi hbad => ?_
        rcases p3 i (by omega) hbad.1 with q | ⟨r', k', q1, q2, q3⟩
        · rw [hbad.2] at q
          cases q
        · rw [← q3] at hbad hi
          refine hg r' k' q1 q2 ?_ ((hbd r' k' q1 q2).2 hbad)
          apply Decidable.byContradiction
          intro hn'
          have : r < r' ∨ (r = r' ∧ k ≤ k') := by omega
          rcases this with h1 | ⟨h1, h2⟩
          · have := p2 r k r' k' hr hk q1 q2 (.inl h1)
            omega
          · by_cases e : k = k'
            · rw [← h1, ← e] at hi
              omega
            · have := p2 r k r' k' hr hk q1 q2 (.inr ⟨h1, by omega⟩)
              omega
      let J : Nat → Nat → zzM → Prop := fun r k z => mTf μ z ∧ mtG G sA z ∧ ((z.1 105 18 = nI 0 ∧ ∀ r' k', r' < gN G → k' < gZ G r' → (r' < r ∨ (r' = r ∧ k' < k)) → ¬ Bd r' k') ∨ ∃ p, tCp b G n 0 = some p ∧ p < n ∧ z.1 105 18 = nI (1 + 8 * p + 2))
      have fin : ∀ z, J (gN G) 0 z ∨ (mTf μ z ∧ mtG G sA z ∧ ∃ p, tCp b G n 0 = some p ∧ p < n ∧ z.1 105 18 = nI (1 + 8 * p + 2)) → zw (some (((0 : Int32), (0 : Int64), (0 : Nat)), z)) fun o => mTf μ o.2 ∧ mAll b n o.2 := by
        intro z hz
        have bad : ∀ z, mTf μ z → (∃ p, tCp b G n 0 = some p ∧ p < n ∧ z.1 105 18 = nI (1 + 8 * p + 2)) → zw (some (((0 : Int32), (0 : Int64), (0 : Nat)), z)) fun o => mTf μ o.2 ∧ mAll b n o.2 := fun z q1 ⟨p, q2, q3, q4⟩ => zw_some ⟨q1, by
          unfold mAll
          rw [hmal, q2]
          exact ⟨q4, by omega, by omega⟩⟩
        rcases hz with ⟨q1, q2, ⟨q3, q4⟩ | q3⟩ | ⟨q1, q2, q3⟩
        · refine zw_some ⟨q1, ?_⟩
          unfold mAll
          rw [hmal, hgood fun r k hr hk => q4 r k hr hk (.inl hr)]
          exact ⟨q3, e5, e6, sA, q2⟩
        · exact bad z q1 q3
        · exact bad z q1 q3
      refine zl_up (fun r (z : zzM) => ([nI r], [], z)) (fun r z => J r 0 z) 0 (gN G) y (by omega) (by omega) rfl ⟨f1, e3, .inl ⟨e1, fun r' k' _ _ q => absurd q (by omega)⟩⟩ ?_ ?_
      · rintro r z gb - hr ⟨j1, j2, j3⟩ hgo
        obtain ⟨k1, k2, k3, k4, k5, k6⟩ := id j2
        have hz4 := (e5.2.1 r hr).2.2.1
        unfold L194_b
        simp only [zI0, zI1, zI2, zI3, zI4, zI5, zI6, zI7, zI8, zJ0, zJ1, zJ2, zMM]
        rw [k1, if_neg (by rw [zq_le (by omega) (by omega)]; omega)]
        rcases j3 with ⟨j3, j4⟩ | ⟨p, c1, c2, c3⟩
        · rw [j3, if_pos (by decide)]
          refine zl_up (fun k (z : zzM) => ([nI r, nI k], [], z)) (fun k z => J r k z) 0 (gZ G r) z (by omega) (by omega) rfl ⟨j1, j2, .inl ⟨j3, j4⟩⟩ ?_ ?_
          · rintro k z gc - hk ⟨j1, j2, j3⟩ hgo2
            obtain ⟨k1, k2, k3, k4, k5, k6⟩ := id j2
            unfold L194_a
            simp only [zI0, zI1, zI2, zI3, zI4, zI5, zI6, zI7, zI8, zJ0, zJ1, zJ2, zMM]
            rw [zr_i _ _ (by omega) (by omega), k3 r hr, Option.bind_some, if_neg (by rw [zq_le (by omega) (by omega)]; omega)]
            rcases j3 with ⟨j3, j4⟩ | ⟨p, c1, c2, c3⟩
            · have hs52 := (e5.2.1 r hr).2.2.2.2.2 k hk
              rw [j3, if_pos (by decide)]
              simp only [zq_mul, zq_add]
              rw [zr_i _ _ (by omega) (by omega), (k4 r k hr hk).1, Option.bind_some, m_isCapital, Option.bind_some]
              simp only [zB_0, decide_eq_false_iff_not]
              have good : ¬ Bd r k → J r (k + 1) z := fun hB => ⟨j1, j2, .inl ⟨j3, fun r' k' a1 a2 a3 => by
                by_cases e : r' = r ∧ k' = k
                · rw [e.1, e.2]
                  exact hB
                · exact j4 r' k' a1 a2 (by omega)⟩⟩
              by_cases e26 : 26 ≤ gS G r k
              · have hnl : zzf zzP zN (d + 4) 187 [.ref 105, .int (nI (gS G r k)), .int (nI (gN G))] z = some ((zB (gleft G (gS G r k - 26)), 0, 0), z) := by
                  have := m_isNewLeft j2 e5 (d + 3) (c := gS G r k - 26) (m := gN G) (by omega) (Nat.le_refl _)
                  rw [show 26 + (gS G r k - 26) = gS G r k by omega] at this
                  rw [this, show decide (∃ r', r' < gN G ∧ gL G r' = gS G r k) = gleft G (gS G r k - 26) by
                    rw [Bool.eq_iff_iff, decide_eq_true_eq, gleft_iff, show 26 + (gS G r k - 26) = gS G r k by omega]]
                rw [if_neg (fun f => f (by rw [zq_le (by omega) (by omega)]; exact e26)), k1, hnl, Option.bind_some]
                simp only [zB_0]
                cases hl : gleft G (gS G r k - 26) with
                | false =>
                  have hlt := (p1 r k hr hk).1
                  rw [if_pos rfl, zr_i _ _ (by omega) (by omega), (k4 r k hr hk).2, Option.bind_some, m_fails (d + 3) 2 (sA r k) j3, Option.bind_some]
                  exact hgo2 _ ⟨mTf_t j1 (mTf_p 18 _ (by omega)), mtG_p j2 (by omega) _, .inr ⟨sA r k, hfst r k hr hk ⟨e26, hl⟩ j4, hlt, zm_s _ _ _ _⟩⟩
                | true =>
                  rw [if_neg (by decide)]
                  exact hgo2 z (good fun f => by
                    have f2 : gleft G (gS G r k - 26) = false := f.2
                    rw [hl] at f2
                    cases f2)
              · rw [if_pos (fun f => e26 (by rwa [zq_le (by omega) (by omega)] at f))]
                exact hgo2 z (good fun f => e26 f.1)
            · rw [c3, if_neg (by rw [zq_e0 (by omega)]; omega), zq_add]
              exact hgo z ⟨j1, j2, .inr ⟨p, c1, c2, c3⟩⟩
          · rintro z gc ⟨j1, j2, j3⟩
            obtain ⟨k1, k2, k3, k4, k5, k6⟩ := id j2
            unfold L194_a
            simp only [zI0, zI1, zI2, zI3, zI4, zI5, zI6, zI7, zI8, zJ0, zJ1, zJ2, zMM]
            rw [zr_i _ _ (by omega) (by omega), k3 r hr, Option.bind_some, if_pos (by rw [zq_le (by omega) (by omega)]; omega), zq_add]
            refine hgo z ⟨j1, j2, j3.imp (fun ⟨q1, q2⟩ => ⟨q1, fun r' k' a1 a2 a3 => q2 r' k' a1 a2 ?_⟩) id⟩
            by_cases er : r' = r
            · rw [er] at a2
              exact .inr ⟨er, a2⟩
            · exact .inl (by omega)
        · rw [c3, if_neg (by rw [zq_e0 (by omega)]; omega)]
          exact fin z (.inr ⟨j1, j2, p, c1, c2, c3⟩)
      · rintro z gb hJ
        unfold L194_b
        simp only [zI0, zI1, zI2, zI3, zI4, zI5, zI6, zI7, zI8, zJ0, zJ1, zJ2, zMM]
        rw [hJ.2.1.1, if_pos (by rw [zq_le (by omega) (by omega)]; omega)]
        exact fin z (.inl hJ)
  refine zl_ms (fun x : (Bool × Nat × zG × (Nat → Nat → Nat)) × zzM => ([zB x.1.1], [], x.2)) (fun t x => (x.1.1 = true ∧ t = n + 1 - x.1.2.1 + 1 ∧ mTf μ x.2 ∧ mRd b n x.1.2.1 0 x.1.2.2.1 x.1.2.2.2 R x.2) ∨ (x.1.1 = false ∧ t = 0 ∧ Fin x.2)) (n + 1 - 0 + 1) ((true, 0, tG0, fun _ _ => 0), y0) (by omega) rfl (.inl ⟨rfl, rfl, hf0, hm0⟩) ?_
  rintro t ⟨⟨m, p, G, sA⟩, y⟩ ga hJ hgo
  simp only at hJ
  unfold L194_c
  simp only [zI0, zI1, zI2, zI3, zI4, zI5, zI6, zI7, zI8, zJ0, zJ1, zJ2, zMM]
  rcases hJ with ⟨rfl, ht, c1, c2⟩ | ⟨rfl, ht, c1⟩
  · rw [if_neg (by decide)]
    have hTy := mTp_f hT c1
    obtain ⟨o, a1, a2, a3⟩ := m_readsLeft hTy c2 d
    rw [a1, Option.bind_some]
    have hfo := mTf_t c1 a2
    rcases a3 with a3 | ⟨p', G', a3, a4, a5⟩
    · obtain ⟨f, g1, g2, g3, g4⟩ := id a3
      rw [g4, if_neg (by rw [zq_e0 (by omega)]; omega)]
      unfold J194_a
      have h1 : zzf zzP zN (d + 4) 192 [.ref 105] o.2 = _ := m_rank_f (d + 3) a3
      have h2 : zzf zzP zN (d + 4) 193 [.ref 105] o.2 = _ := m_more_f (d + 3) a3
      rw [h1, Option.bind_some, h2, Option.bind_some]
      exact hgo 0 ((false, p, G, sA), o.2) (by omega) (.inr ⟨rfl, rfl, hfo, .inl a3⟩)
    · rw [a5.2.2.1, if_pos (by decide)]
      obtain ⟨o2, b1, b2, b3⟩ := m_readsRight (mTp_f hT hfo) a5 a4 d
      rw [b1, Option.bind_some]
      have hfo2 := mTf_t hfo b2
      unfold J194_a
      rcases b3 with b3 | ⟨p2, G2, sA2, b3, b4, b5, b6⟩
      · have h1 : zzf zzP zN (d + 4) 192 [.ref 105] o2.2 = _ := m_rank_f (d + 3) b3
        have h2 : zzf zzP zN (d + 4) 193 [.ref 105] o2.2 = _ := m_more_f (d + 3) b3
        rw [h1, Option.bind_some, h2, Option.bind_some]
        exact hgo 0 ((false, p, G, sA), o2.2) (by omega) (.inr ⟨rfl, rfl, hfo2, .inl b3⟩)
      · obtain ⟨o3, e1, e2, e3⟩ := m_readsRank (mTp_f hT hfo2) b5 b4 b6 d
        rw [e1, Option.bind_some]
        have hfo3 := mTf_t hfo2 e2
        rcases e3 with e3 | ⟨p3, w3, G3, e3, e4, e5, e6⟩
        · have h2 : zzf zzP zN (d + 4) 193 [.ref 105] o3.2 = _ := m_more_f (d + 3) e3
          rw [h2, Option.bind_some]
          exact hgo 0 ((false, p, G, sA), o3.2) (by omega) (.inr ⟨rfl, rfl, hfo3, .inl e3⟩)
        · obtain ⟨o4, f1, f2, m4, f3, f4⟩ := m_isMore (mTp_f hT hfo3) e5 e4 e6 d
          rw [f1, Option.bind_some, f3]
          have hfo4 := mTf_t hfo3 f2
          have hp3 := e5.1
          rcases f4 with ⟨rfl, f4⟩ | ⟨rfl, f5, f6, f7, f8, f9, f10⟩ | ⟨rfl, p4, f5, f6⟩
          · exact hgo 0 ((false, p, G, sA), o4.2) (by omega) (.inr ⟨rfl, rfl, hfo4, .inl f4⟩)
          · exact hgo 0 ((false, p, G, sA), o4.2) (by omega) (.inr ⟨rfl, rfl, hfo4, .inr ⟨G3, sA2, f5, f6, f7, f8, f9, f10⟩⟩)
          · have hp4 := f6.1
            exact hgo (n + 1 - p4 + 1) ((true, p4, G3, sA2), o4.2) (by omega) (.inl ⟨rfl, rfl, hfo4, f6⟩)
  · rw [if_pos (by decide)]
    exact last ga y c1
