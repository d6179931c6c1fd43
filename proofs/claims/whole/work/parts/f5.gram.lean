/-! A GRAMMAR TOLD goes together -/
def tin (b : Nat → Nat) (p : Nat) (G : zG) : Prop := ∀ r k, r < gN G → k < gZ G r → 26 ≤ gS G r k → ∃ i, i < p ∧ tC (b i) = true ∧ 26 + (b i - 65) = gS G r k
theorem tin_le {b : Nat → Nat} {p q : Nat} {G : zG} (h : tin b p G) (hq : p ≤ q) : tin b q G := fun r k h1 h2 h3 => by
  obtain ⟨i, a1, a2, a3⟩ := h r k h1 h2 h3
  exact ⟨i, by omega, a2, a3⟩
theorem tin_T {b : Nat → Nat} {p w : Nat} {G : zG} (h : tin b p G) : tin b (p + 1) (tT w G (b p)).2 := by
  have h1 : tin b (p + 1) G := tin_le h (by omega)
  unfold tT
  by_cases e0 : w = 0
  · rw [if_pos e0]
    intro r k hr hk hs
    have hr : r < gN G + 1 := hr
    have hk : k < zup (gZ G) (gN G) 0 r := hk
    by_cases e : r = gN G
    · rw [e, zup_s] at hk
      omega
    · rw [zup_o _ e] at hk
      exact h1 r k (by omega) hk hs
  rw [if_neg e0]
  by_cases e1 : w = 1
  · rw [if_pos e1]
    exact h1
  rw [if_neg e1]
  by_cases e2 : w = 2
  · rw [if_pos e2]
    by_cases eL : tL (b p) = true
    · rw [if_pos eL]
      intro r k hr hk hs
      have hr : r < gN G := hr
      have hk : k < zup (gZ G) (gN G - 1) (gZ G (gN G - 1) + 1) r := hk
      have hs : 26 ≤ (if r = gN G - 1 ∧ k = gZ G (gN G - 1) then tv (b p) else gS G r k) := hs
      show ∃ i, i < p + 1 ∧ tC (b i) = true ∧ 26 + (b i - 65) = (if r = gN G - 1 ∧ k = gZ G (gN G - 1) then tv (b p) else gS G r k)
      by_cases e : r = gN G - 1 ∧ k = gZ G (gN G - 1)
      · rw [if_pos e] at hs ⊢
        have hC := (tv_26 eL).1 hs
        refine ⟨p, by omega, hC, ?_⟩
        rw [show tv (b p) = b p - 65 + 26 from if_pos hC]
        omega
      · rw [if_neg e] at hs ⊢
        refine h1 r k hr ?_ hs
        by_cases er : r = gN G - 1
        · rw [er, zup_s] at hk
          rw [er]
          have : k ≠ gZ G (gN G - 1) := fun q => e ⟨er, q⟩
          omega
        · rwa [zup_o _ er] at hk
    · rw [if_neg eL]
      by_cases e58 : b p = 58
      · rw [if_pos e58]
        exact h1
      · rw [if_neg e58]
        exact h1
  rw [if_neg e2]
  by_cases e3 : w = 3
  · rw [if_pos e3]
    exact h1
  rw [if_neg e3]
  by_cases e4 : w = 4
  · rw [if_pos e4]
    by_cases e59 : b p = 59
    · rw [if_pos e59]
      exact h1
    · rw [if_neg e59]
      exact h1
  rw [if_neg e4]
  exact h1
theorem tRun_in {b : Nat → Nat} {H : zG} : ∀ k p w G, tin b p G → tRun b k p w G = .inr H → tin b (p + k) H
  | 0, p, w, G, h, e => by
    rw [tRun_0] at e
    by_cases q : w = 0 ∨ w = 1 ∨ w = 3
    · rw [if_pos q] at e
      cases e
    · rw [if_neg q] at e
      cases e
      exact h
  | k + 1, p, w, G, h, e => by
    rw [tRun_s] at e
    rw [show p + (k + 1) = p + 1 + k by omega]
    by_cases q : b p = 32
    · rw [if_pos q] at e
      exact tRun_in k (p + 1) w G (tin_le h (by omega)) e
    · rw [if_neg q] at e
      cases et : tF w G (b p) with
      | some t =>
        rw [et] at e
        cases e
      | none =>
        rw [et] at e
        exact tRun_in k (p + 1) _ _ (tin_T h) e
theorem tCp_no {b : Nat → Nat} {G : zG} : ∀ k p, tCp b G k p = none → ∀ i, p ≤ i → i < p + k → ¬ (tC (b i) = true ∧ gleft G (b i - 65) = false)
  | 0, p, _, i, h1, h2 => absurd h2 (by omega)
  | k + 1, p, e, i, h1, h2 => by
    rw [tCp_s] at e
    by_cases q : tC (b p) = true ∧ gleft G (b p - 65) = false
    · rw [if_pos q] at e
      cases e
    · rw [if_neg q] at e
      by_cases ei : i = p
      · rw [ei]
        exact q
      · exact tCp_no k (p + 1) e i (by omega) (by omega)
theorem tAll_wg {b : Nat → Nat} {n : Nat} {G : zG} (e : tAll b n = .inr G) (h : tw G) : zwg G := by
  unfold tAll at e
  cases er : tRun b n 0 0 tG0 with
  | inl f =>
    rw [er] at e
    cases e
  | inr H =>
    rw [er] at e
    cases ec : tCp b H n 0 with
    | some p =>
      simp only [ec] at e
      cases e
    | none =>
      simp only [ec] at e
      cases e
      have hin := tRun_in n 0 0 tG0 (fun r k hr => absurd hr (Nat.not_lt_zero _)) er
      obtain ⟨a1, a2, a3⟩ := h
      refine ⟨a1, fun r hr => ?_, a3⟩
      obtain ⟨b1, b2, b3, b4, b5, b6⟩ := a2 r hr
      refine ⟨b1, b2, b3, b4, b5, fun k hk => ⟨b6 k hk, fun h26 => ?_⟩⟩
      obtain ⟨i, c1, c2, c3⟩ := hin r k hr hk h26
      have hg : gleft G (b i - 65) = true := by
        cases eg : gleft G (b i - 65) with
        | true => rfl
        | false => exact absurd ⟨c2, eg⟩ (tCp_no n 0 ec i (Nat.zero_le _) c1)
      obtain ⟨q, d1, d2⟩ := (gleft_iff _ _).1 hg
      exact ⟨q, d1, d2.trans c3⟩
/-! cells copied tell the same -/
theorem zcG_cp {D S : Nat} {g : zG} {μ y : zzM} (h : zcG S (S + 1) (S + 2) (S + 3) (S + 4) (S + 5) (S + 6) g μ) (hg : zwg g) (hc : zcpg D S μ y) : zcG D (D + 1) (D + 2) (D + 3) (D + 4) (D + 5) (D + 6) g y := by
  have hn := g_n hg
  obtain ⟨h1, h2, h3, h4, h5, h6, h7, h8⟩ := h
  obtain ⟨c1, c2, c3, c4, c5, c6, c7⟩ := hc
  refine ⟨(c1 0 (by omega)).trans h1, fun j hj => ?_, fun r hr => (c2 r (by omega)).trans (h3 r hr), fun r hr => (c3 r (by omega)).trans (h4 r hr), fun r hr => (c4 r (by omega)).trans (h5 r hr), fun r hr => (c5 r (by omega)).trans (h6 r hr), fun r k hr hk => (c6 _ (by have := g_z hg hr; omega)).trans (h7 r k hr hk), fun c hcc j hj => ?_⟩
  · rw [c1 1 (by omega)]
    exact h2 j hj
  · rw [c7 c hcc]
    exact h8 c hcc j hj
/-- the reference's cells copied -/
def zmcp (ν y : zzM) : Prop := (∀ k, k < 7 → k ≠ 6 → y.1 106 k = ν.1 106 k) ∧ (∀ k, k < 12 → y.1 107 k = ν.1 107 k) ∧ (∀ k, k < 12 → y.1 108 k = ν.1 108 k) ∧ (∀ k, k < 48 → y.1 109 k = ν.1 109 k) ∧ (∀ k, k < 12 → y.1 110 k = ν.1 110 k) ∧ (∀ k, k < 12 → y.1 111 k = ν.1 111 k) ∧ (∀ k, k < 12 → y.1 112 k = ν.1 112 k) ∧ ∀ k, k < 8 → y.1 113 k = ν.1 113 k
theorem zm2_cp {g : zG} {s : zSn} {ν y : zzM} (h : zm2 g s ν) (hg : zwg g) (hl : sL s ≤ 12) (hb : (sB s).length ≤ 8) (hc : zmcp ν y) : zm2 g s y := by
  have hn := g_n hg
  obtain ⟨c1, c2, c3, c4, c5, c6, c7, c8⟩ := hc
  obtain ⟨⟨a1, a2, a3, a4, a5, a6, a7⟩, h2, h3, h4, h5, h6, h7⟩ := h
  refine ⟨⟨(c1 0 (by omega) (by omega)).trans a1, (c1 1 (by omega) (by omega)).trans a2, fun r hr => (c2 r (by omega)).trans (a3 r hr), fun r hr => (c3 r (by omega)).trans (a4 r hr), fun r k hr hk => (c4 _ (by have := g_z hg hr; omega)).trans (a5 r k hr hk), fun r hr => (c5 r (by omega)).trans (a6 r hr), fun r hr => (c6 r (by omega)).trans (a7 r hr)⟩, (c1 2 (by omega) (by omega)).trans h2, fun k hk => (c7 k (by omega)).trans (h3 k hk), (c1 3 (by omega) (by omega)).trans h4, (c1 5 (by omega) (by omega)).trans h5, (c1 4 (by omega) (by omega)).trans h6, fun k hk => (c8 k (by omega)).trans (h7 k hk)⟩
/-- a new grammar's snapshot -/
def zS0 : zSn := (0, (fun _ => 0), nI 0, [], nI 7)
theorem zS0_ok {G : zG} {w : zWs} (hg : zwg G) (hw : zLay G zS0 = some w) : zOk G zS0 := ⟨hg, ⟨Nat.zero_le _, fun k hk => absurd hk (Nat.not_lt_zero _), (fun j _ e => by
  rw [show sT zS0 = 0 from rfl, b_0] at e
  cases e), ⟨7, by omega, rfl⟩, Nat.zero_le _, List.nodup_nil, fun x hx => absurd hx List.not_mem_nil⟩, fun _ => ⟨w, hw⟩⟩
/-! GRAMMAR of the class -/
abbrev cGl : List Nat := [0, 2, 3, 4, 5, 6, 7, 8, 9, 10, 11, 12, 14, 15, 16, 17, 18, 19, 20, 21, 22, 23, 24, 25, 26, 27, 28, 29, 30, 31, 36, 41, 45, 48, 52, 56]
theorem s_begin (d : Nat) (μ : zzM) : zw (zzf zzP zN (d + 3) 21 [.ref 2, .ref 14] μ) fun o => zcpg 3 14 μ o.2 ∧ zfr [2, 3, 4, 5, 6, 7, 8, 9, 11] μ o.2 ∧ (∀ k, k < 48 → o.2.1 11 k = nI 0) ∧ o.2.1 2 2 = nI 0 ∧ o.2.1 2 3 = nI 0 ∧ o.2.1 2 5 = nI 0 ∧ o.2.1 2 6 = nI 7 ∧ o.2.1 2 8 = nI 0 ∧ o.2.1 2 9 = μ.1 2 9 := by
  obtain ⟨o, a1, a2, a3⟩ := s_gcopy_3_14 d μ
  have hfi : ∀ z : zzM, zzf zzP zN (d + 2) 5 [.ref 11, .int (nI 0)] z = some ((0, 0, 0), zblk z 11 0 48 (fun _ => nI 0)) := fun z => s_fill_11 (d + 1) (nI 0) z
  rw [u_set_begin, a1, Option.bind_some, hfi, Option.bind_some]
  have e : ∀ c, c ≠ 2 → c ≠ 11 → (zzwI (zzwI (zzwI (zblk (zzwI (zzwI o.2 2 2 (nI 0)) 2 3 (nI 0)) 11 0 48 (fun _ => nI 0)) 2 5 (nI 0)) 2 6 (nI 7)) 2 8 (nI 0)).1 c = o.2.1 c := fun c h1 h2 => by
    rw [zm_c _ _ _ h1, zm_c _ _ _ h1, zm_c _ _ _ h1, zb_c _ _ _ _ h2, zm_c _ _ _ h1, zm_c _ _ _ h1]
  refine zw_some ⟨?_, zf_twI _ _ (zf_twI _ _ (zf_twI _ _ (zf_trans (zf_twI _ _ (zf_twI _ _ (zf_mono a3 rfl) rfl) rfl) (zf_b _ _ _ rfl)) rfl) rfl) rfl, fun k hk => ?_, ?_, ?_, ?_, ?_, zm_s _ _ _ _, ?_⟩
  · unfold zcpg at a2 ⊢
    simp only [e 3 (by omega) (by omega), e (3 + 1) (by omega) (by omega), e (3 + 2) (by omega) (by omega), e (3 + 3) (by omega) (by omega), e (3 + 4) (by omega) (by omega), e (3 + 5) (by omega) (by omega), e (3 + 6) (by omega) (by omega)]
    exact a2
  · rw [zm_c _ _ _ (by omega), zm_c _ _ _ (by omega), zm_c _ _ _ (by omega), zb_i _ _ _ (by omega) hk]
  · rw [zm_k _ _ _ _ (by omega), zm_k _ _ _ _ (by omega), zm_k _ _ _ _ (by omega), zb_c _ _ _ _ (by omega), zm_k _ _ _ _ (by omega), zm_s]
  · rw [zm_k _ _ _ _ (by omega), zm_k _ _ _ _ (by omega), zm_k _ _ _ _ (by omega), zb_c _ _ _ _ (by omega), zm_s]
  · rw [zm_k _ _ _ _ (by omega), zm_k _ _ _ _ (by omega), zm_s]
  · rw [zm_k _ _ _ _ (by omega), zm_s]
  · rw [zm_k _ _ _ _ (by omega), zm_k _ _ _ _ (by omega), zm_k _ _ _ _ (by omega), zb_c _ _ _ _ (by omega), zm_k _ _ _ _ (by omega), zm_k _ _ _ _ (by omega), zf_i a3 rfl]
theorem c_gram {g : zG} {s : zSn} {μ : zzM} {b : Nat → Nat} {n : Nat} (I : cI g s μ) (hn : n ≤ 400) (hb : ∀ i, i < n → b i < 256 ∧ μ.1 1 i = nI (b i)) (h0 : μ.1 0 1 = nI n) (d : Nat) : zw (zzf zzP zN (d + 5) 121 [.ref 0] μ) fun o => zfr cGl μ o.2 ∧ o.2.1 0 1 = nI 0 ∧ o.2.1 2 9 = μ.1 2 9 ∧ ((∃ f, tAll b n = .inl f ∧ o.1.1 = -(nI 2) - nI f ∧ cI g s o.2 ∧ o.2.1 2 8 = μ.1 2 8 ∧ o.2.1 12 = μ.1 12) ∨ ∃ G, tAll b n = .inr G ∧ zwg G ∧ 0 < gN G ∧ ((zLay G zS0 = none ∧ o.1.1 = -(nI 2) - nI (1 + 8 * n + 5) ∧ cI g s o.2 ∧ o.2.1 2 8 = μ.1 2 8 ∧ o.2.1 12 = μ.1 12) ∨ ∃ w, zLay G zS0 = some w ∧ o.1.1 = nI (gN G) ∧ cI G zS0 o.2 ∧ o.2.1 2 8 = nI 0)) := by
  obtain ⟨o1, a1, a2, a3⟩ := s_tell d (μ := zzwI μ 0 1 (nI 0)) hn (fun i hi => ⟨(hb i hi).1, by rw [zm_c _ _ _ (by omega)]; exact (hb i hi).2⟩)
  rw [u_pf_grammar, h0, a1, Option.bind_some]
  have hf1 : zfr [0, 14, 15, 16, 17, 18, 19, 20] μ o1.2 := zf_trans (zf_wI _ _ rfl) (zf_mono a2 rfl)
  have h01 : o1.2.1 0 1 = nI 0 := by rw [zf_i a2 rfl, zm_s]
  cases hT : tAll b n with
  | inl f =>
    rw [hT] at a3
    obtain ⟨q1, q2, q3⟩ := a3
    rw [q1, if_neg (by rw [zq_e0 (by omega)]; omega), if_neg (by rw [zq_e0 (by omega)]; omega)]
    exact zw_some ⟨zf_mono hf1 rfl, h01, by show o1.2.1 2 9 = _; rw [zf_i hf1 rfl], .inl ⟨f, rfl, rfl, cI_2 I (zc2_fr I.h hf1 rfl) hf1 rfl, by show o1.2.1 2 8 = _; rw [zf_i hf1 rfl], zf_i hf1 rfl⟩⟩
  | inr G =>
    rw [hT] at a3
    obtain ⟨q1, q2, q3, q4⟩ := a3
    have hG := tAll_wg hT q2
    have hgn := g_n hG
    obtain ⟨o4, f1, f2, f3⟩ := s_find_14 (s := zS0) q4 hG q3 (d + 1)
    have f1 : zzf zzP zN (d + 4) 47 [.ref 26, .ref 14, .int (nI 0)] o1.2 = some o4 := f1
    have hf4 : zfr [0, 14, 15, 16, 17, 18, 19, 20, 26, 27, 28, 29, 30] μ o4.2 := zf_trans (zf_mono hf1 rfl) (zf_mono f2 rfl)
    have h04 : o4.2.1 0 1 = nI 0 := by rw [zf_i f2 rfl]; exact h01
    rw [q1, if_pos (show (nI 0 : Int32) = 0 by decide), f1, Option.bind_some]
    rcases f3 with ⟨e0, e1, e2⟩ | ⟨w, e0, e1, e2, e3⟩
    · rw [e1, if_pos (show zB false = 0 by decide), s_faultAt, Option.bind_some, if_neg (by rw [zq_e0 (by omega)]; omega)]
      refine zw_some ⟨zf_mono hf4 rfl, h04, ?_, .inr ⟨G, rfl, hG, q3, .inl ⟨e0, rfl, cI_up I hf4 rfl (.inl rfl) (.inr (.inl e2)) (.inl rfl) (.inl rfl) (.inl rfl) (.inl rfl) (.inl rfl) (.inl rfl) (.inl rfl), ?_, zf_i hf4 rfl⟩⟩⟩
      · show o4.2.1 2 9 = _
        rw [zf_i hf4 rfl]
      · show o4.2.1 2 8 = _
        rw [zf_i hf4 rfl]
    · obtain ⟨o5, b1, b2, b3, b4, b5, b6, b7, b8, b9, b10⟩ := s_begin (d + 1) o4.2
      have b1 : zzf zzP zN (d + 4) 21 [.ref 2, .ref 14] o4.2 = some o5 := b1
      have hcG : zcG 14 15 16 17 18 19 20 G o4.2 := zcG_fr q4 f2 rfl
      have hz : zc2 G zS0 o5.2 := ⟨zcG_cp (D := 3) (S := 14) hcG hG b2, b5, fun k hk => absurd hk (Nat.not_lt_zero _), b6, b8, b7, fun p hp q hq => by
        rw [b4 p hp, show (nI 0 : Int32) = 0 from rfl, b_0]
        exact (decide_eq_false List.not_mem_nil).symm⟩
      have hf5 : zfr [0, 2, 3, 4, 5, 6, 7, 8, 9, 11, 14, 15, 16, 17, 18, 19, 20, 26, 27, 28, 29, 30] μ o5.2 := zf_trans (zf_mono hf4 rfl) (zf_mono b3 rfl)
      obtain ⟨o6, t1, t2, t3⟩ := s_rulesChanged I (fun C hC => by
        simp only [List.mem_cons, List.not_mem_nil, or_false] at hC
        rcases hC with rfl | rfl | rfl | rfl <;> exact zf_i hf5 rfl) hz (.inr ⟨by rw [zf_i b3 rfl]; exact e3, w, e0, zcSt_fr e2 b3 rfl⟩) (d + 2)
      have t1 : zzf zzP zN (d + 4) 123 [.ref 0] o5.2 = some o6 := t1
      rw [e1, if_neg (show ¬ zB true = 0 by decide), if_pos (show (nI 0 : Int32) = 0 by decide), b1, Option.bind_some, t1, Option.bind_some]
      refine zw_some ⟨zf_trans (zf_mono hf5 rfl) (zf_mono t2 rfl), ?_, ?_, .inr ⟨G, rfl, hG, q3, .inr ⟨w, e0, c_n t3.h, t3, ?_⟩⟩⟩
      · show o6.2.1 0 1 = _
        rw [zf_i t2 rfl, zf_i b3 rfl]
        exact h04
      · show o6.2.1 2 9 = _
        rw [zf_i t2 rfl, b10, zf_i hf4 rfl]
      · show o6.2.1 2 8 = _
        rw [zf_i t2 rfl]
        exact b9
