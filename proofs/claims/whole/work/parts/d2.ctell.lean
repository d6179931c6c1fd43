/-! A GRAMMAR TOLD, of the class -/
def tFi (o : Option Nat) : Int32 := match o with
  | none => -(nI 1)
  | some k => nI k
theorem tFi_n : tFi none = -(nI 1) := rfl
theorem tFi_s (k : Nat) : tFi (some k) = nI k := rfl
theorem s_isC (d : Nat) {c : Nat} (hc : c < 256) (μ : zzM) : zzf zzP zN (d + 1) 17 [.int (nI c)] μ = some ((zB (tC c), 0, 0), μ) := by
  rw [w_gram_isCapital]
  by_cases e1 : c < 65
  · rw [if_pos (by rw [zq_lt (by omega) (by omega)]; omega), if_pos (by decide), show tC c = false from Bool.eq_false_iff.2 fun q => by rw [tC_iff] at q; omega]
    rfl
  · rw [if_neg (by rw [zq_lt (by omega) (by omega)]; omega)]
    by_cases e2 : 90 < c
    · rw [if_pos (by rw [zq_lt (by omega) (by omega)]; omega), if_pos (by decide), show tC c = false from Bool.eq_false_iff.2 fun q => by rw [tC_iff] at q; omega]
      rfl
    · rw [if_neg (by rw [zq_lt (by omega) (by omega)]; omega), if_pos (by decide), show tC c = true from (tC_iff c).2 (by omega)]
      rfl
theorem s_isLt (d : Nat) {c : Nat} (hc : c < 256) (μ : zzM) : zzf zzP zN (d + 2) 18 [.int (nI c)] μ = some ((zB (tL c), 0, 0), μ) := by
  rw [w_gram_isLetter, s_isC d hc, Option.bind_some]
  simp only [zB_0]
  cases e0 : tC c with
  | true =>
    rw [if_neg (by decide), if_pos (by decide), show tL c = true from by unfold tL; rw [e0]; rfl]
    rfl
  | false =>
    rw [if_pos rfl]
    have e0' : ¬ (65 ≤ c ∧ c ≤ 90) := fun q => by rw [← tC_iff, e0] at q; cases q
    by_cases e1 : c < 97
    · rw [if_pos (by rw [zq_lt (by omega) (by omega)]; omega), if_pos (by decide), show tL c = false from Bool.eq_false_iff.2 fun q => by rw [tL_iff] at q; omega]
      rfl
    · rw [if_neg (by rw [zq_lt (by omega) (by omega)]; omega)]
      by_cases e2 : 122 < c
      · rw [if_pos (by rw [zq_lt (by omega) (by omega)]; omega), if_pos (by decide), show tL c = false from Bool.eq_false_iff.2 fun q => by rw [tL_iff] at q; omega]
        rfl
      · rw [if_neg (by rw [zq_lt (by omega) (by omega)]; omega), if_pos (by decide), show tL c = true from (tL_iff c).2 (by omega)]
        rfl
theorem s_sideOf (d : Nat) {c : Nat} (hc : c < 256) (μ : zzM) : zzf zzP zN (d + 1) 19 [.int (nI c)] μ = some ((nI (tsd c), 0, 0), μ) := by
  rw [w_gram_sideOf]
  simp (disch := omega) only [zq_eq]
  unfold tsd
  by_cases e1 : c = 33
  · rw [if_pos e1, if_pos e1]
  · rw [if_neg e1, if_neg e1]
    by_cases e2 : c = 60
    · rw [if_pos e2, if_pos e2]
    · rw [if_neg e2, if_neg e2]
      by_cases e3 : c = 62
      · rw [if_pos e3, if_pos e3]
      · rw [if_neg e3, if_neg e3]
theorem s_faultAt (d p k : Nat) (μ : zzM) : zzf zzP zN (d + 1) 122 [.int (nI p), .int (nI k)] μ = some ((nI (1 + 8 * p + k), 0, 0), μ) := by
  rw [u_pf_faultAt]
  simp only [zq_mul, zq_add]
abbrev tcG (G : zG) (μ : zzM) : Prop := zcG 14 15 16 17 18 19 20 G μ
theorem tc_left {G : zG} {μ : zzM} (h : tcG G μ) {j : Nat} (hj : j < 32) : bt (μ.1 14 1) j = gleft G j := by
  rw [h.2.1 j hj, Bool.eq_iff_iff, decide_eq_true_eq, gleft_iff]
theorem tw_left {G : zG} (h : tw G) {j : Nat} (e : gleft G j = true) : j < 26 := by
  obtain ⟨r, h1, h2⟩ := (gleft_iff G j).1 e
  have := (h.2.1 r h1).2.1
  omega
theorem s_faultOf {G : zG} {μ : zzM} (h : tcG G μ) (d : Nat) {w c : Nat} (hw : twa w G) (hc : c < 256) : zzf zzP zN (d + 3) 11 [.ref 14, .int (nI w), .int (nI c)] μ = some ((tFi (tF w G c), 0, 0), μ) := by
  obtain ⟨h1, h2, h3⟩ := hw
  have hN := h1.1
  rw [w_gram_faultOf]
  simp (disch := omega) only [zq_eq]
  unfold tF
  by_cases e0 : w = 0
  · rw [if_pos e0, if_pos e0, w_gram_faultOfLeft, s_isC d hc, Option.bind_some]
    simp only [zB_0]
    cases hC : tC c with
    | false =>
      rw [if_pos rfl, Option.bind_some, if_neg (by decide), tFi_s]
    | true =>
      have hC' := (tC_iff c).1 hC
      rw [if_neg (by decide), if_pos rfl, zq_sub (by omega)]
      simp (disch := omega) only [b_bit]
      rw [tc_left h (by omega)]
      have hbc : zzf zzP zN (d + 1) 3 [.int (μ.1 14 1)] μ = some ((nI (zcnt (gleft G) 26), 0, 0), μ) := by
        have hcg : zcnt (bt (μ.1 14 1)) 26 = zcnt (gleft G) 26 := zcnt_cg fun i hi => tc_left h (by omega)
        rw [s_bitCount5 d (fun i hi q => by rw [tc_left h hi] at q; exact tw_left h1 q) (by rw [hcg]; exact h1.2.2), hcg]
      have h5 := h1.2.2
      cases hl : gleft G (c - 65) with
      | false =>
        rw [if_pos rfl]
        unfold J12_a
        rw [h.1, zif_cg (Iff.of_eq (zq_eq (by omega) (by omega)))]
        by_cases eN : gN G = 12
        · rw [if_pos eN, Option.bind_some, if_pos (.inl eN), tFi_s]
        · rw [if_neg eN, if_neg (by decide), hbc, Option.bind_some, zif_cg (Iff.of_eq (zq_eq (by omega) (by omega)))]
          by_cases e5 : zcnt (gleft G) 26 = 5
          · rw [if_pos e5, Option.bind_some, if_pos (.inr ⟨rfl, e5⟩), tFi_s]
          · rw [if_neg e5, Option.bind_some, if_neg (fun q => q.elim eN fun q => e5 q.2), tFi_n]
      | true =>
        rw [if_neg (by decide)]
        unfold J12_a
        rw [h.1, zif_cg (Iff.of_eq (zq_eq (by omega) (by omega)))]
        by_cases eN : gN G = 12
        · rw [if_pos eN, Option.bind_some, if_pos (.inl eN), tFi_s]
        · rw [if_neg eN, if_pos (by decide), Option.bind_some, if_neg (fun q => q.elim eN fun q => by cases q.1), tFi_n]
  · rw [if_neg e0, if_neg e0]
    have hn := h3 e0
    by_cases e1 : w = 1
    · rw [if_pos e1, if_pos e1]
      by_cases e : c = 61
      · rw [if_pos e, if_pos e, tFi_n]
      · rw [if_neg e, if_neg e, tFi_s]
    · rw [if_neg e1, if_neg e1]
      by_cases e2 : w = 2
      · rw [if_pos e2, if_pos e2, s_isLt (d + 0) hc, Option.bind_some]
        simp only [zB_0]
        cases hL : tL c with
        | false =>
          rw [if_pos rfl, if_neg (show ¬ (false = true) by decide)]
          by_cases e : c = 58
          · rw [if_pos e, if_pos e, tFi_n]
          · rw [if_neg e, if_neg e]
            by_cases e' : c = 59
            · rw [if_pos e', if_pos e', tFi_n]
            · rw [if_neg e', if_neg e', tFi_s]
        | true =>
          have hz := (h1.2.1 (gN G - 1) (by omega)).2.2.1
          rw [if_neg (by decide), if_pos rfl, h.1, zq_sub (by omega), zr_i _ _ (by omega) (by omega), h.2.2.2.1 _ (by omega), Option.bind_some, zif_cg (Iff.of_eq (zq_eq (by omega) (by omega)))]
          by_cases e : gZ G (gN G - 1) = 4
          · rw [if_pos e, if_pos e, tFi_s]
          · rw [if_neg e, if_neg e, tFi_n]
      · rw [if_neg e2, if_neg e2]
        by_cases e3 : w = 3
        · rw [if_pos e3, if_pos e3]
          by_cases e : c < 49
          · rw [if_pos (by rw [zq_lt (by omega) (by omega)]; omega), if_neg (by omega), tFi_s]
          · rw [if_neg (by rw [zq_lt (by omega) (by omega)]; omega)]
            by_cases e' : 57 < c
            · rw [if_pos (by rw [zq_lt (by omega) (by omega)]; omega), if_neg (by omega), tFi_s]
            · rw [if_neg (by rw [zq_lt (by omega) (by omega)]; omega), if_pos (by omega), tFi_n]
        · rw [if_neg e3, if_neg e3]
          by_cases e4 : w = 4
          · rw [if_pos e4, if_pos e4]
            by_cases e : c = 59
            · rw [if_pos e, if_pos e, tFi_n]
            · have h3' := tsd_3 c
              rw [if_neg e, if_neg e, s_sideOf (d + 1) hc, Option.bind_some, zif_cg (Iff.of_eq (zq_e0 (by omega)))]
              by_cases e' : tsd c = 0
              · rw [if_pos e', if_pos e', tFi_s]
              · rw [if_neg e', if_neg e', tFi_n]
          · rw [if_neg e4, if_neg e4]
            by_cases e : c = 59
            · rw [if_pos e, if_pos e, tFi_n]
            · rw [if_neg e, if_neg e, tFi_s]
theorem s_beginRule {G : zG} {μ : zzM} (h : tcG G μ) (d : Nat) {c : Nat} (hN : gN G < 12) (hc : c < 26) : zw (zzf zzP zN (d + 1) 14 [.ref 14, .int (nI c)] μ) fun o => zfr [14, 15, 16, 17, 18, 19, 20] μ o.2 ∧ tcG (tB G c) o.2 := by
  obtain ⟨a1, a2, a3, a4, a5, a6, a7, a8⟩ := id h
  rw [w_gram_beginRule, a1, zs_i _ _ _ (by omega) (by omega), Option.bind_some, zm_c _ _ _ (by omega), a1, zs_i _ _ _ (by omega) (by omega), Option.bind_some, zm_c _ _ _ (by omega), zm_c _ _ _ (by omega), a1, zs_i _ _ _ (by omega) (by omega), Option.bind_some, zm_c _ _ _ (by omega), zm_c _ _ _ (by omega), zm_c _ _ _ (by omega), a1, zs_i _ _ _ (by omega) (by omega), Option.bind_some, zr_i _ _ (by omega) (by omega), Option.bind_some, zm_c _ _ _ (by omega), zm_c _ _ _ (by omega), zm_c _ _ _ (by omega), zm_c _ _ _ (by omega), zm_c _ _ _ (by omega), zm_c _ _ _ (by omega), zm_c _ _ _ (by omega), zm_c _ _ _ (by omega), a1, zs_i _ _ _ (by omega) (by omega), Option.bind_some, zm_c _ _ _ (by omega), zm_c _ _ _ (by omega), zm_c _ _ _ (by omega), zm_c _ _ _ (by omega), zm_c _ _ _ (by omega), a1]
  simp only [zq_add]
  refine zw_some ⟨zf_twI _ _ (zf_twI _ _ (zf_twI _ _ (zf_twI _ _ (zf_twI _ _ (zf_twI _ _ (zf_wI _ _ rfl) rfl) rfl) rfl) rfl) rfl) rfl, ?_⟩
  refine ⟨zm_s _ _ _ _, fun j hj => ?_, fun r hr => ?_, fun r hr => ?_, fun r hr => ?_, fun r hr => ?_, fun r k hr hk => ?_, fun c' hc' j hj => ?_⟩
  · rw [zm_k _ _ _ _ (by omega), zm_s, b_or, b_sh1 (by omega) hj, tc_left h hj, Bool.eq_iff_iff, decide_eq_true_eq, ← gleft_iff, tB_left]
  · have hr : r < gN G + 1 := hr
    show _ = nI (zup (gL G) (gN G) (26 + c) r)
    simp only [zm_c _ _ _ (show (15 : Nat) ≠ 14 by omega), zm_c _ _ _ (show (15 : Nat) ≠ 20 by omega), zm_c _ _ _ (show (15 : Nat) ≠ 18 by omega), zm_c _ _ _ (show (15 : Nat) ≠ 17 by omega), zm_c _ _ _ (show (15 : Nat) ≠ 16 by omega)]
    rw [zm_if]
    unfold zup
    by_cases e : r = gN G
    · rw [if_pos e, if_pos e, Nat.add_comm]
    · rw [if_neg e, if_neg e]
      exact a3 r (by omega)
  · have hr : r < gN G + 1 := hr
    show _ = nI (zup (gZ G) (gN G) 0 r)
    simp only [zm_c _ _ _ (show (16 : Nat) ≠ 14 by omega), zm_c _ _ _ (show (16 : Nat) ≠ 20 by omega), zm_c _ _ _ (show (16 : Nat) ≠ 18 by omega), zm_c _ _ _ (show (16 : Nat) ≠ 17 by omega)]
    rw [zm_if]
    unfold zup
    by_cases e : r = gN G
    · rw [if_pos e, if_pos e]
    · rw [if_neg e, if_neg e, zm_c _ _ _ (by omega)]
      exact a4 r (by omega)
  · have hr : r < gN G + 1 := hr
    show _ = nI (zup (gR G) (gN G) 0 r)
    simp only [zm_c _ _ _ (show (17 : Nat) ≠ 14 by omega), zm_c _ _ _ (show (17 : Nat) ≠ 20 by omega), zm_c _ _ _ (show (17 : Nat) ≠ 18 by omega)]
    rw [zm_if]
    unfold zup
    by_cases e : r = gN G
    · rw [if_pos e, if_pos e]
    · rw [if_neg e, if_neg e, zm_c _ _ _ (by omega), zm_c _ _ _ (by omega)]
      exact a5 r (by omega)
  · have hr : r < gN G + 1 := hr
    show _ = nI (zup (gD G) (gN G) 0 r)
    simp only [zm_c _ _ _ (show (18 : Nat) ≠ 14 by omega), zm_c _ _ _ (show (18 : Nat) ≠ 20 by omega)]
    rw [zm_if]
    unfold zup
    by_cases e : r = gN G
    · rw [if_pos e, if_pos e]
    · rw [if_neg e, if_neg e, zm_c _ _ _ (by omega), zm_c _ _ _ (by omega), zm_c _ _ _ (by omega)]
      exact a6 r (by omega)
  · have hr : r < gN G + 1 := hr
    have hk : k < zup (gZ G) (gN G) 0 r := hk
    show _ = nI (gS G r k)
    simp only [zm_c _ _ _ (show (19 : Nat) ≠ 14 by omega), zm_c _ _ _ (show (19 : Nat) ≠ 20 by omega), zm_c _ _ _ (show (19 : Nat) ≠ 18 by omega), zm_c _ _ _ (show (19 : Nat) ≠ 17 by omega), zm_c _ _ _ (show (19 : Nat) ≠ 16 by omega), zm_c _ _ _ (show (19 : Nat) ≠ 15 by omega)]
    by_cases e : r = gN G
    · rw [e, zup_s] at hk
      omega
    · rw [zup_o _ e] at hk
      exact a7 r k (by omega) hk
  · show _ = decide (j < gN G + 1 ∧ zup (gL G) (gN G) (26 + c) j = 26 + c')
    simp only [zm_c _ _ _ (show (20 : Nat) ≠ 14 by omega)]
    rw [zm_if]
    by_cases e : c' = c
    · rw [if_pos e, b_or, b_sh1 (by omega) hj, e, a8 c hc j hj, Bool.eq_iff_iff, Bool.or_eq_true, decide_eq_true_eq, decide_eq_true_eq, decide_eq_true_eq]
      unfold zup
      by_cases ej : j = gN G
      · rw [if_pos ej]
        exact ⟨fun _ => ⟨by omega, rfl⟩, fun _ => .inr ej⟩
      · rw [if_neg ej]
        exact ⟨fun q => q.elim (fun q => ⟨by omega, q.2⟩) fun q => absurd q ej, fun q => .inl ⟨by omega, q.2⟩⟩
    · rw [if_neg e]
      simp only [zm_c _ _ _ (show (20 : Nat) ≠ 18 by omega), zm_c _ _ _ (show (20 : Nat) ≠ 17 by omega), zm_c _ _ _ (show (20 : Nat) ≠ 16 by omega), zm_c _ _ _ (show (20 : Nat) ≠ 15 by omega)]
      rw [a8 c' hc' j hj]
      unfold zup
      by_cases ej : j = gN G
      · rw [if_pos ej]
        exact decide_eq_decide.2 ⟨fun q => absurd q.1 (by omega), fun q => absurd q.2 (by omega)⟩
      · rw [if_neg ej]
        exact decide_eq_decide.2 ⟨fun q => ⟨by omega, q.2⟩, fun q => ⟨by omega, q.2⟩⟩
theorem s_addSymbol {G : zG} {μ : zzM} (h : tcG G μ) (hw : tw G) (d : Nat) {a : Nat} (hn : 0 < gN G) (ha : a < 52) (h4 : gZ G (gN G - 1) ≠ 4) : zw (zzf zzP zN (d + 1) 15 [.ref 14, .int (nI a)] μ) fun o => zfr [14, 15, 16, 17, 18, 19, 20] μ o.2 ∧ tcG (tS G a) o.2 := by
  obtain ⟨a1, a2, a3, a4, a5, a6, a7, a8⟩ := id h
  have hN := hw.1
  have hz := (hw.2.1 (gN G - 1) (by omega)).2.2.1
  rw [w_gram_addSymbol, a1, zq_sub (by omega), zr_i _ _ (by omega) (by omega), a4 _ (by omega), Option.bind_some]
  simp only [zq_mul, zq_add]
  rw [zs_i _ _ _ (by omega) (by omega), Option.bind_some, zr_i _ _ (by omega) (by omega), zm_c _ _ _ (by omega), a4 _ (by omega), Option.bind_some, zs_i _ _ _ (by omega) (by omega), Option.bind_some]
  simp only [zq_add]
  refine zw_some ⟨zf_twI _ _ (zf_wI _ _ rfl) rfl, ?_⟩
  refine ⟨?_, fun j hj => ?_, fun r hr => ?_, fun r hr => ?_, fun r hr => ?_, fun r hr => ?_, fun r k hr hk => ?_, fun c' hc' j hj => ?_⟩
  · rw [zm_c _ _ _ (by omega), zm_c _ _ _ (by omega)]
    exact a1
  · rw [zm_c _ _ _ (by omega), zm_c _ _ _ (by omega)]
    exact a2 j hj
  · rw [zm_c _ _ _ (by omega), zm_c _ _ _ (by omega)]
    exact a3 r hr
  · show _ = nI (zup (gZ G) (gN G - 1) (gZ G (gN G - 1) + 1) r)
    rw [zm_if]
    unfold zup
    by_cases e : r = gN G - 1
    · rw [if_pos e, if_pos e]
    · rw [if_neg e, if_neg e, zm_c _ _ _ (by omega)]
      exact a4 r hr
  · rw [zm_c _ _ _ (by omega), zm_c _ _ _ (by omega)]
    exact a5 r hr
  · rw [zm_c _ _ _ (by omega), zm_c _ _ _ (by omega)]
    exact a6 r hr
  · have hr : r < gN G := hr
    have hzr := (hw.2.1 r hr).2.2.1
    have hk : k < zup (gZ G) (gN G - 1) (gZ G (gN G - 1) + 1) r := hk
    show _ = nI (if r = gN G - 1 ∧ k = gZ G (gN G - 1) then a else gS G r k)
    rw [zm_c _ _ _ (by omega), zm_if]
    by_cases er : r = gN G - 1
    · rw [er, zup_s] at hk
      by_cases ek : k = gZ G (gN G - 1)
      · rw [if_pos (by rw [er, ek]), if_pos ⟨er, ek⟩]
      · rw [if_neg (by omega), if_neg (fun q => ek q.2)]
        exact a7 r k hr (by rw [er]; omega)
    · rw [zup_o _ er] at hk
      rw [if_neg (by omega), if_neg (fun q => er q.1)]
      exact a7 r k hr hk
  · rw [zm_c _ _ _ (by omega), zm_c _ _ _ (by omega)]
    exact a8 c' hc' j hj
theorem s_take {G : zG} {μ : zzM} (h : tcG G μ) (d : Nat) {w c : Nat} (hw : twa w G) (hc : c < 256) (hf : tF w G c = none) : zw (zzf zzP zN (d + 3) 13 [.ref 14, .int (nI w), .int (nI c)] μ) fun o => zfr [14, 15, 16, 17, 18, 19, 20] μ o.2 ∧ o.1.1 = nI (tT w G c).1 ∧ tcG (tT w G c).2 o.2 := by
  obtain ⟨h1, h2, h3⟩ := hw
  have hN := h1.1
  rw [w_gram_take]
  simp (disch := omega) only [zq_eq]
  unfold tF at hf
  unfold tT
  by_cases e0 : w = 0
  · rw [if_pos e0] at hf ⊢
    cases hC : tC c with
    | false =>
      rw [hC, if_neg (by decide)] at hf
      cases hf
    | true =>
      rw [hC, if_pos rfl] at hf
      have hC' := (tC_iff c).1 hC
      by_cases e : gN G = 12 ∨ (gleft G (c - 65) = false ∧ zcnt (gleft G) 26 = 5)
      · rw [if_pos e] at hf
        cases hf
      · obtain ⟨o, b1, b2, b3⟩ := s_beginRule h (d + 1) (c := c - 65) (by omega) (by omega)
        rw [zq_sub (by omega), b1, Option.bind_some]
        simp only [if_pos e0]
        exact zw_some ⟨b2, rfl, b3⟩
  · rw [if_neg e0] at hf ⊢
    simp only [if_neg e0]
    have hn := h3 e0
    by_cases e1 : w = 1
    · simp only [if_pos e1]
      exact zw_some ⟨zf_refl _ _, rfl, h⟩
    · rw [if_neg e1] at hf
      simp only [if_neg e1]
      by_cases e2 : w = 2
      · rw [if_pos e2] at hf
        simp only [if_pos e2]
        rw [s_isLt d hc, Option.bind_some]
        simp only [zB_0]
        cases hL : tL c with
        | false =>
          rw [if_pos rfl]
          simp only [Bool.false_eq_true, if_false]
          by_cases e : c = 58
          · simp only [if_pos e]
            exact zw_some ⟨zf_refl _ _, rfl, h⟩
          · simp only [if_neg e]
            exact zw_some ⟨zf_refl _ _, rfl, h⟩
        | true =>
          rw [hL, if_pos rfl] at hf
          have h4 : gZ G (gN G - 1) ≠ 4 := fun q => by rw [if_pos q] at hf; cases hf
          have hv := tv_52 hL
          rw [if_neg (by decide), s_isC (d + 1) hc, Option.bind_some]
          simp only [if_true, zB_0]
          have fin : zw (J13_a zN (d + 2) (nI c) (nI (tv c)) μ) fun o => zfr [14, 15, 16, 17, 18, 19, 20] μ o.2 ∧ o.1.1 = nI 2 ∧ tcG (tS G (tv c)) o.2 := by
            unfold J13_a
            obtain ⟨o, b1, b2, b3⟩ := s_addSymbol h h1 (d + 1) hn hv h4
            rw [b1, Option.bind_some]
            exact zw_some ⟨b2, rfl, b3⟩
          have htv : tv c = if tC c then c - 65 + 26 else c - 97 := rfl
          rw [tL_iff] at hL
          cases hC : tC c with
          | false =>
            rw [hC, if_neg (by decide)] at htv
            rw [if_pos rfl, zq_sub (by
              have : ¬ (65 ≤ c ∧ c ≤ 90) := fun q => by rw [← tC_iff, hC] at q; cases q
              omega), ← htv]
            exact fin
          | true =>
            rw [hC, if_pos rfl] at htv
            have hC' := (tC_iff c).1 hC
            rw [if_neg (by decide), zq_sub (by omega), zq_add, ← htv]
            exact fin
      · rw [if_neg e2] at hf
        simp only [if_neg e2]
        by_cases e3 : w = 3
        · rw [if_pos e3] at hf
          simp only [if_pos e3]
          have e : 49 ≤ c ∧ c ≤ 57 := by
            apply Decidable.byContradiction
            intro q
            rw [if_neg q] at hf
            cases hf
          rw [h.1, zq_sub (by omega), zq_sub (by omega), zs_i _ _ _ (by omega) (by omega), Option.bind_some]
          refine zw_some ⟨zf_wI _ _ rfl, rfl, ?_⟩
          obtain ⟨a1, a2, a3, a4, a5, a6, a7, a8⟩ := id h
          refine ⟨by rw [zm_c _ _ _ (by omega)]; exact a1, fun j hj => by rw [zm_c _ _ _ (by omega)]; exact a2 j hj, fun r hr => by rw [zm_c _ _ _ (by omega)]; exact a3 r hr, fun r hr => by rw [zm_c _ _ _ (by omega)]; exact a4 r hr, fun r hr => ?_, fun r hr => by rw [zm_c _ _ _ (by omega)]; exact a6 r hr, fun r k hr hk => by rw [zm_c _ _ _ (by omega)]; exact a7 r k hr hk, fun c' hc' j hj => by rw [zm_c _ _ _ (by omega)]; exact a8 c' hc' j hj⟩
          show _ = nI (zup (gR G) (gN G - 1) (c - 48) r)
          rw [zm_if]
          unfold zup
          by_cases er : r = gN G - 1
          · rw [if_pos er, if_pos er]
          · rw [if_neg er, if_neg er]
            exact a5 r hr
        · rw [if_neg e3] at hf
          simp only [if_neg e3]
          by_cases e4 : w = 4
          · simp only [if_pos e4]
            rw [s_sideOf (d + 1) hc, Option.bind_some, h.1, zq_sub (by omega), zs_i _ _ _ (by omega) (by omega), Option.bind_some]
            have hD : ∀ v, tsd c = v → tcG (tD G v) (zzwI μ 18 (gN G - 1) (nI (tsd c))) := by
              intro v hv
              obtain ⟨a1, a2, a3, a4, a5, a6, a7, a8⟩ := id h
              refine ⟨by rw [zm_c _ _ _ (by omega)]; exact a1, fun j hj => by rw [zm_c _ _ _ (by omega)]; exact a2 j hj, fun r hr => by rw [zm_c _ _ _ (by omega)]; exact a3 r hr, fun r hr => by rw [zm_c _ _ _ (by omega)]; exact a4 r hr, fun r hr => by rw [zm_c _ _ _ (by omega)]; exact a5 r hr, fun r hr => ?_, fun r k hr hk => by rw [zm_c _ _ _ (by omega)]; exact a7 r k hr hk, fun c' hc' j hj => by rw [zm_c _ _ _ (by omega)]; exact a8 c' hc' j hj⟩
              show _ = nI (zup (gD G) (gN G - 1) v r)
              rw [zm_if]
              unfold zup
              by_cases er : r = gN G - 1
              · rw [if_pos er, if_pos er, hv]
              · rw [if_neg er, if_neg er]
                exact a6 r hr
            by_cases e : c = 59
            · simp only [if_pos e]
              exact zw_some ⟨zf_wI _ _ rfl, rfl, hD 0 (by rw [e]; rfl)⟩
            · simp only [if_neg e]
              exact zw_some ⟨zf_wI _ _ rfl, rfl, hD _ rfl⟩
          · simp only [if_neg e4]
            exact zw_some ⟨zf_refl _ _, rfl, h⟩
theorem s_faultOfCapitals {G : zG} {μ : zzM} (h : tcG G μ) (d : Nat) {b : Nat → Nat} {n : Nat} (hn : n ≤ 400) (hb : ∀ i, i < n → b i < 256 ∧ μ.1 1 i = nI (b i)) : zzf zzP zN (d + 2) 16 [.ref 14, .ref 1, .int (nI n)] μ = some (((match tCp b G n 0 with
  | some p => nI (1 + 8 * p + 2)
  | none => nI 0), 0, 0), μ) := by
  refine zw_eq ?_
  rw [w_gram_faultOfCapitals]
  refine zl_up (fun i (_ : Unit) => ([nI n, nI i], [], μ)) (fun i _ => tCp b G (n - i) i = tCp b G n 0) 0 n () (by omega) (by omega) rfl rfl ?_ ?_
  · rintro i - ga - hi hJ hgo
    obtain ⟨hb1, hb2⟩ := hb i hi
    rw [show n - i = n - (i + 1) + 1 by omega, tCp_s] at hJ
    unfold L16_a
    simp only [zI0, zI1, zI2, zI3, zI4, zI5, zI6, zI7, zI8, zJ0, zJ1, zJ2, zMM]
    rw [if_neg (by rw [zq_le (by omega) (by omega)]; omega), zr_i _ _ (by omega) (by omega), hb2, Option.bind_some, s_isC d hb1, Option.bind_some]
    simp only [zB_0, zq_add]
    cases hC : tC (b i) with
    | false =>
      rw [hC, if_neg (fun q => by cases q.1)] at hJ
      rw [if_pos rfl]
      exact hgo () hJ
    | true =>
      have hC' := (tC_iff _).1 hC
      rw [if_neg (by decide), zq_sub (by omega)]
      simp (disch := omega) only [b_bit]
      rw [tc_left h (by omega)]
      cases hl : gleft G (b i - 65) with
      | false =>
        rw [if_pos ⟨hC, hl⟩] at hJ
        rw [if_pos rfl, s_faultAt, Option.bind_some, ← hJ]
        exact zw_some ⟨rfl, rfl⟩
      | true =>
        rw [if_neg (fun q => by rw [hl] at q; cases q.2)] at hJ
        rw [if_neg (by decide)]
        exact hgo () hJ
  · rintro - ga hJ
    rw [Nat.sub_self] at hJ
    have hJ : none = tCp b G n 0 := hJ
    unfold L16_a
    simp only [zI0, zI1, zI2, zI3, zI4, zI5, zI6, zI7, zI8, zJ0, zJ1, zJ2, zMM]
    rw [if_pos (by rw [zq_le (by omega) (by omega)]; omega), ← hJ]
    exact zw_some ⟨rfl, rfl⟩
/-- the class takes a tape -/
theorem s_tell (d : Nat) {μ : zzM} {b : Nat → Nat} {n : Nat} (hn : n ≤ 400) (hb : ∀ i, i < n → b i < 256 ∧ μ.1 1 i = nI (b i)) : zw (zzf zzP zN (d + 4) 10 [.ref 14, .ref 1, .int (nI n)] μ) fun o => zfr [14, 15, 16, 17, 18, 19, 20] μ o.2 ∧ match tAll b n with
  | .inl f => o.1.1 = nI f ∧ 0 < f ∧ f ≤ 3300
  | .inr G => o.1.1 = nI 0 ∧ tw G ∧ 0 < gN G ∧ tcG G o.2 := by
  rw [w_gram_tell]
  have hf : zzf zzP zN (d + 3) 5 [.ref 20, .int (nI 0)] (zzwI (zzwI μ 14 0 (nI 0)) 14 1 (nI 0)) = _ := s_fill_20 (d + 2) (nI 0) _
  rw [hf, Option.bind_some]
  have h0 : tcG tG0 (zblk (zzwI (zzwI μ 14 0 (nI 0)) 14 1 (nI 0)) 20 0 26 (fun _ => nI 0)) := by
    refine ⟨?_, fun j hj => ?_, fun r hr => absurd hr (Nat.not_lt_zero _), fun r hr => absurd hr (Nat.not_lt_zero _), fun r hr => absurd hr (Nat.not_lt_zero _), fun r hr => absurd hr (Nat.not_lt_zero _), fun r k hr => absurd hr (Nat.not_lt_zero _), fun c hc j hj => ?_⟩
    · rw [zb_c _ _ _ _ (by omega), zm_k _ _ _ _ (by omega), zm_s]
      rfl
    · rw [zb_c _ _ _ _ (by omega), zm_s, show (nI 0 : Int32) = 0 from rfl, b_0]
      exact (decide_eq_false fun ⟨r, hr, _⟩ => Nat.not_lt_zero _ hr).symm
    · rw [zb_i _ _ _ (by omega) hc]
      rw [show (nI 0 : Int32) = 0 from rfl, b_0]
      exact (decide_eq_false fun ⟨hr, _⟩ => Nat.not_lt_zero _ hr).symm
  have hf0 : zfr [14, 15, 16, 17, 18, 19, 20] μ (zblk (zzwI (zzwI μ 14 0 (nI 0)) 14 1 (nI 0)) 20 0 26 (fun _ => nI 0)) := by
    refine zf_trans (zf_twI (c := 14) 1 (nI 0) (zf_wI (c := 14) 0 (nI 0) rfl) rfl) fun c hc => ?_
    have hc' : c ≠ 20 := fun q => by rw [q] at hc; cases hc
    exact ⟨zb_c _ _ _ _ hc', rfl⟩
  refine zl_up (fun p (a : Nat × zG × zzM) => ([nI n, nI a.1, nI p], [], a.2.2)) (fun p a => zfr [14, 15, 16, 17, 18, 19, 20] μ a.2.2 ∧ tcG a.2.1 a.2.2 ∧ twa a.1 a.2.1 ∧ tRun b (n - p) p a.1 a.2.1 = tRun b n 0 0 tG0) 0 n (0, tG0, _) (by omega) (by omega) rfl ⟨hf0, h0, ⟨tw_0, Nat.zero_le _, fun q => absurd rfl q⟩, rfl⟩ ?_ ?_
  · rintro p ⟨w, G, y⟩ ga - hp ⟨i1, i2, i3, i4⟩ hgo
    simp only at i1 i2 i3 i4
    obtain ⟨hb1, hb2⟩ := hb p hp
    have hby : y.1 1 p = nI (b p) := by rw [zf_i i1 rfl]; exact hb2
    rw [show n - p = n - (p + 1) + 1 by omega, tRun_s] at i4
    unfold L10_a
    simp only [zI0, zI1, zI2, zI3, zI4, zI5, zI6, zI7, zI8, zJ0, zJ1, zJ2, zMM]
    rw [if_neg (by rw [zq_le (by omega) (by omega)]; omega), zr_i _ _ (by omega) (by omega), hby, Option.bind_some]
    simp (disch := omega) only [zq_eq, zq_add]
    by_cases e : b p = 32
    · rw [if_pos e] at i4 ⊢
      exact hgo (w, G, y) ⟨i1, i2, i3, i4⟩
    · rw [if_neg e] at i4 ⊢
      rw [s_faultOf i2 d i3 hb1, Option.bind_some]
      cases et : tF w G (b p) with
      | some t =>
        rw [et] at i4
        simp only at i4
        have ht : t ≤ 4 := by
          unfold tF at et
          revert et
          repeat' split
          all_goals intro et
          all_goals first | (cases et; omega) | cases et
        rw [tFi_s, if_neg (nI_pos (by omega)), s_faultAt, Option.bind_some]
        refine zw_some ⟨i1, ?_⟩
        unfold tAll
        rw [← i4]
        exact ⟨rfl, by omega, by omega⟩
      | none =>
        rw [et] at i4
        simp only at i4
        obtain ⟨o, a1, a2, a3, a4⟩ := s_take i2 d i3 hb1 et
        rw [tFi_n, if_pos (show -(nI 1) < (0 : Int32) by decide), a1, Option.bind_some, a3]
        exact hgo ((tT w G (b p)).1, (tT w G (b p)).2, o.2) ⟨zf_trans i1 a2, a4, tT_w i3 et, i4⟩
  · rintro ⟨w, G, y⟩ ga ⟨i1, i2, i3, i4⟩
    simp only at i1 i2 i3 i4
    obtain ⟨h1, h2, h3⟩ := i3
    rw [Nat.sub_self, tRun_0] at i4
    unfold L10_a
    simp only [zI0, zI1, zI2, zI3, zI4, zI5, zI6, zI7, zI8, zJ0, zJ1, zJ2, zMM]
    rw [if_pos (by rw [zq_le (by omega) (by omega)]; omega)]
    simp (disch := omega) only [zq_e0, zq_eq]
    have fin : (w = 0 ∨ w = 1 ∨ w = 3) → zw (J10_a zN (d + 3) ga (nI n) (nI w) (nI n) y) fun o => zfr [14, 15, 16, 17, 18, 19, 20] μ o.2 ∧ match tAll b n with
        | .inl f => o.1.1 = nI f ∧ 0 < f ∧ f ≤ 3300
        | .inr G => o.1.1 = nI 0 ∧ tw G ∧ 0 < gN G ∧ tcG G o.2 := by
      intro e
      rw [if_pos e] at i4
      unfold J10_a
      rw [s_faultAt, Option.bind_some]
      refine zw_some ⟨i1, ?_⟩
      unfold tAll
      rw [← i4]
      exact ⟨rfl, by omega, by omega⟩
    by_cases e0 : w = 0
    · rw [if_pos e0]
      exact fin (.inl e0)
    · rw [if_neg e0]
      by_cases e1 : w = 1
      · rw [if_pos e1]
        exact fin (.inr (.inl e1))
      · rw [if_neg e1]
        by_cases e3 : w = 3
        · rw [if_pos e3]
          exact fin (.inr (.inr e3))
        · rw [if_neg e3]
          rw [if_neg (by omega)] at i4
          have hc : zzf zzP zN (d + 3) 16 [.ref 14, .ref 1, .int (nI n)] y = _ := s_faultOfCapitals i2 (d + 1) hn (fun i hi => by rw [zf_i i1 rfl]; exact hb i hi)
          rw [hc, Option.bind_some]
          refine zw_some ⟨i1, ?_⟩
          unfold tAll
          rw [← i4]
          simp only
          cases ec : tCp b G n 0 with
          | none => exact ⟨rfl, h1, h3 e0, i2⟩
          | some p =>
            have hp : ∀ k i q, tCp b G k i = some q → q < i + k := by
              intro k
              induction k with
              | zero => intro i q e; cases e
              | succ k ih =>
                intro i q e
                unfold tCp at e
                revert e
                split
                · intro e; cases e; omega
                · intro e
                  have := ih _ _ e
                  omega
            have := hp _ _ _ ec
            exact ⟨rfl, by omega, by omega⟩
