/-! LOOPS, RECURS: the class's findSteps, backToThemselves -/
def zSt (g : zG) (s : zSn) (al : Bool) (c c' : Nat) : Prop := ∃ r, zon g s r = true ∧ gL g r = 26 + c ∧ ∃ k, k < gZ g r ∧ gS g r k = 26 + c' ∧ (∀ j, j < k → zEc g s (gS g r j)) ∧ (al = true → ∀ j, k + 1 ≤ j → j < gZ g r → zEc g s (gS g r j))
/-- to where one comes by one step or more -/
def zTr (R : Nat → Nat → Prop) (a : Nat) : Nat → Prop := zlfp fun P b => R a b ∨ ∃ m, P m ∧ R m b
theorem zTr_mo (R : Nat → Nat → Prop) (a : Nat) : zmon fun P b => R a b ∨ ∃ m, P m ∧ R m b := by
  rintro P Q h b (h1 | ⟨m, h1, h2⟩)
  · exact .inl h1
  · exact .inr ⟨m, h _ h1, h2⟩
theorem zTr_1 {R : Nat → Nat → Prop} {a b : Nat} (h : R a b) : zTr R a b := zlfp_in (zTr_mo R a) (.inl h)
theorem zTr_s {R : Nat → Nat → Prop} {a m b : Nat} (h : zTr R a m) (h' : R m b) : zTr R a b := zlfp_in (zTr_mo R a) (.inr ⟨m, h, h'⟩)
theorem zTr_t {R : Nat → Nat → Prop} {a m b : Nat} (h : zTr R a m) (h' : zTr R m b) : zTr R a b := by
  refine zlfp_le (P := fun b => zTr R a b) ?_ h'
  rintro c (h1 | ⟨k, h1, h2⟩)
  · exact zTr_s h h1
  · exact zTr_s h1 h2
/-- the walk by middles -/
def zWa (R : Nat → Nat → Prop) : Nat → Nat → Nat → Prop
  | 0, a, b => R a b
  | m + 1, a, b => zWa R m a b ∨ (zWa R m a m ∧ zWa R m m b)
theorem zWa_so {R : Nat → Nat → Prop} : ∀ {m a b : Nat}, zWa R m a b → zTr R a b
  | 0, _, _, h => zTr_1 h
  | _ + 1, _, _, .inl h => zWa_so h
  | _ + 1, _, _, .inr ⟨h1, h2⟩ => zTr_t (zWa_so h1) (zWa_so h2)
theorem zWa_tr {R : Nat → Nat → Prop} : ∀ {m i a b : Nat}, i < m → zWa R m a i → zWa R m i b → zWa R m a b
  | 0, _, _, _, h, _, _ => absurd h (Nat.not_lt_zero _)
  | m + 1, i, a, b, h, h1, h2 => by
    by_cases e : i = m
    · subst e
      have g1 : zWa R i a i := h1.elim id fun q => q.1
      have g2 : zWa R i i b := h2.elim id fun q => q.2
      exact .inr ⟨g1, g2⟩
    · have hi : i < m := by omega
      rcases h1 with h1 | ⟨h1, h3⟩
      · rcases h2 with h2 | ⟨h2, h4⟩
        · exact .inl (zWa_tr hi h1 h2)
        · exact .inr ⟨zWa_tr hi h1 h2, h4⟩
      · rcases h2 with h2 | ⟨h2, h4⟩
        · exact .inr ⟨h1, zWa_tr hi h3 h2⟩
        · exact .inr ⟨h1, h4⟩
theorem zWa_R {R : Nat → Nat → Prop} {a b : Nat} (h : R a b) : ∀ m, zWa R m a b
  | 0 => h
  | m + 1 => .inl (zWa_R h m)
theorem zWa_26 {R : Nat → Nat → Prop} (hR : ∀ a b, R a b → b < 26) {a b : Nat} : zWa R 26 a b ↔ zTr R a b := by
  refine ⟨zWa_so, fun h => ?_⟩
  have : b < 26 ∧ zWa R 26 a b := by
    refine zlfp_le (P := fun b => b < 26 ∧ zWa R 26 a b) ?_ h
    rintro c (h1 | ⟨m, h1, h2⟩)
    · exact ⟨hR _ _ h1, zWa_R h1 26⟩
    · exact ⟨hR _ _ h2, zWa_tr h1.1 h1.2 (zWa_R h2 26)⟩
  exact this.2
theorem zSt_lt {g : zG} {s : zSn} (hg : zwg g) {al : Bool} {c c' : Nat} (h : zSt g s al c c') : c < 26 ∧ c' < 26 := by
  obtain ⟨r, h1, h2, k, h3, h4, -⟩ := h
  have h5 := g_l hg (zon_lt h1)
  have h6 := g_s hg (zon_lt h1) h3
  omega
theorem s_stepsOf {g : zG} {s : zSn} {μ : zzM} (h : zc2 g s μ) (hg : zwg g) (hE : zmE g s (μ.1 21 2)) (d : Nat) {r : Nat} (hr : r < gN g) (al : Bool) : zw (zzf zzP zN (d + 3) 42 [.ref 21, .int (nI r), .int (zB al)] μ) fun o => zfr [25] μ o.2 ∧ ∀ c, c < 26 → ∀ a, a < 32 → (bt (o.2.1 25 c) a = true ↔ bt (μ.1 25 c) a = true ∨ (gL g r = 26 + c ∧ ∃ k, k < gZ g r ∧ gS g r k = 26 + a ∧ (∀ j, j < k → zEc g s (gS g r j)) ∧ (al = true → ∀ j, k + 1 ≤ j → j < gZ g r → zEc g s (gS g r j)))) := by
  have hn := g_n hg
  have hz := g_z hg hr
  have hl := g_l hg hr
  rw [u_facts_stepsOf]
  refine zw_bind (s_nulled h hg (d + 0) hr (μ.1 21 2)) ?_
  rintro ⟨⟨nu, w2, w3⟩, y'⟩ ⟨e1, e2⟩
  simp only at e1 e2 ⊢
  have e1 := e1.symm
  subst e1
  -- what stands behind k
  have hnu : ∀ k, k < gZ g r → (bt nu (k + 1) = true ↔ ∀ j, k + 1 ≤ j → j < gZ g r → zEc g s (gS g r j)) := by
    intro k hk
    rw [e2 (k + 1) (by omega)]
    constructor
    · rintro ⟨-, q⟩ j h1 h2
      exact (zmE_am hE (g_s hg hr h2)).1 (q j h1 h2)
    · intro q
      exact ⟨by omega, fun j h1 h2 => (zmE_am hE (g_s hg hr h2)).2 (q j h1 h2)⟩
  refine zl_up (fun k (y : zzM) => ([nI r, zB al, nu, nI k], [], y)) (fun k y => zfr [25] μ y ∧ (∀ j, j < k → zEc g s (gS g r j)) ∧ ∀ c, c < 26 → ∀ a, a < 32 → (bt (y.1 25 c) a = true ↔ bt (μ.1 25 c) a = true ∨ (gL g r = 26 + c ∧ ∃ i, i < k ∧ gS g r i = 26 + a ∧ (al = true → ∀ j, i + 1 ≤ j → j < gZ g r → zEc g s (gS g r j))))) 0 (gZ g r) μ (by omega) (by omega) rfl ⟨zf_refl _ _, fun j hj => absurd hj (by omega), fun c hc a ha => ⟨.inl, fun q => q.elim id fun q => by obtain ⟨-, i, hi, -⟩ := q; omega⟩⟩ ?_ ?_
  · rintro k y g' - hk ⟨a1, a2, a3⟩ hgo
    have hs := g_s hg hr hk
    have hc2 := zc2_fr h a1 rfl
    have hE2 : zmE g s (y.1 21 2) := by rw [zf_i a1 rfl]; exact hE
    -- the end, when what comes is no capital that is empty
    have stop : ∀ z : zzM, zfr [25] μ z → (∀ c, c < 26 → ∀ a, a < 32 → (bt (z.1 25 c) a = true ↔ bt (μ.1 25 c) a = true ∨ (gL g r = 26 + c ∧ ∃ i, i < k + 1 ∧ gS g r i = 26 + a ∧ (al = true → ∀ j, i + 1 ≤ j → j < gZ g r → zEc g s (gS g r j))))) → ¬ zEc g s (gS g r k) → zw (some ((0, 0, 0), z)) fun o => zfr [25] μ o.2 ∧ ∀ c, c < 26 → ∀ a, a < 32 → (bt (o.2.1 25 c) a = true ↔ bt (μ.1 25 c) a = true ∨ (gL g r = 26 + c ∧ ∃ k, k < gZ g r ∧ gS g r k = 26 + a ∧ (∀ j, j < k → zEc g s (gS g r j)) ∧ (al = true → ∀ j, k + 1 ≤ j → j < gZ g r → zEc g s (gS g r j)))) := by
      intro z h1 h2 h3
      refine zw_some ⟨h1, fun c hc a ha => ?_⟩
      rw [h2 c hc a ha]
      constructor
      · rintro (q | ⟨q1, i, q2, q3, q4⟩)
        · exact .inl q
        · exact .inr ⟨q1, i, by omega, q3, fun j hj => a2 j (by omega), q4⟩
      · rintro (q | ⟨q1, i, q2, q3, q4, q5⟩)
        · exact .inl q
        · refine .inr ⟨q1, i, ?_, q3, q5⟩
          apply Nat.lt_of_not_le
          intro hle
          exact h3 (q4 k (by omega))
    have go : ∀ z : zzM, zfr [25] μ z → (∀ c, c < 26 → ∀ a, a < 32 → (bt (z.1 25 c) a = true ↔ bt (μ.1 25 c) a = true ∨ (gL g r = 26 + c ∧ ∃ i, i < k + 1 ∧ gS g r i = 26 + a ∧ (al = true → ∀ j, i + 1 ≤ j → j < gZ g r → zEc g s (gS g r j))))) → 26 ≤ gS g r k → zw ((zzf zzP zN (d + 2) 9 [.int (nI (gS g r k)), .int (z.1 21 2)] z).bind fun o8 => if o8.1.1 = 0 then some ((0, 0, 0), o8.2) else g' ([nI r, zB al, nu, nI (k + 1)], [], o8.2)) fun o => zfr [25] μ o.2 ∧ ∀ c, c < 26 → ∀ a, a < 32 → (bt (o.2.1 25 c) a = true ↔ bt (μ.1 25 c) a = true ∨ (gL g r = 26 + c ∧ ∃ k, k < gZ g r ∧ gS g r k = 26 + a ∧ (∀ j, j < k → zEc g s (gS g r j)) ∧ (al = true → ∀ j, k + 1 ≤ j → j < gZ g r → zEc g s (gS g r j)))) := by
      intro z h1 h2 h3
      have hE3 : zmE g s (z.1 21 2) := by rw [zf_i h1 rfl]; exact hE
      rw [s_isAmong _ hs, Option.bind_some]
      simp only [zB_0]
      have e0 : (decide (26 ≤ gS g r k) && bt (z.1 21 2) (gS g r k - 26)) = zam (z.1 21 2) (gS g r k) := rfl
      rw [e0]
      cases hz2 : zam (z.1 21 2) (gS g r k) with
      | false =>
        rw [if_pos rfl]
        refine stop z h1 h2 fun q => ?_
        rw [(zmE_am hE3 hs).2 q] at hz2
        cases hz2
      | true =>
        rw [if_neg (by decide)]
        refine hgo z ⟨h1, fun j hj => ?_, h2⟩
        by_cases e : j = k
        · rw [e]; exact (zmE_am hE3 hs).1 hz2
        · exact a2 j (by omega)
    have hadd : (al = true → ∀ j, k + 1 ≤ j → j < gZ g r → zEc g s (gS g r j)) → 26 ≤ gS g r k → ∀ c, c < 26 → ∀ a, a < 32 → (bt ((zzwI y 25 (gL g r - 26) (y.1 25 (gL g r - 26) ||| (nI 1 <<< (nI (gS g r k - 26) &&& 31)))).1 25 c) a = true ↔ bt (μ.1 25 c) a = true ∨ (gL g r = 26 + c ∧ ∃ i, i < k + 1 ∧ gS g r i = 26 + a ∧ (al = true → ∀ j, i + 1 ≤ j → j < gZ g r → zEc g s (gS g r j)))) := by
      intro hal h26 c hc a ha
      rw [zm_if]
      by_cases e : c = gL g r - 26
      · rw [if_pos e, b_or, b_sh1 (by omega) ha, Bool.or_eq_true, decide_eq_true_eq, ← e, a3 c hc a ha]
        constructor
        · rintro ((q | ⟨q1, i, q2, q3⟩) | q)
          · exact .inl q
          · exact .inr ⟨q1, i, by omega, q3⟩
          · exact .inr ⟨by omega, k, by omega, by omega, hal⟩
        · rintro (q | ⟨q1, i, q2, q3, q4⟩)
          · exact .inl (.inl q)
          · by_cases ei : i = k
            · exact .inr (by rw [ei] at q3; omega)
            · exact .inl (.inr ⟨q1, i, by omega, q3, q4⟩)
      · rw [if_neg e, a3 c hc a ha]
        constructor
        · rintro (q | ⟨q1, -⟩)
          · exact .inl q
          · omega
        · rintro (q | ⟨q1, -⟩)
          · exact .inl q
          · omega
    have hskip : (gS g r k < 26 ∨ ¬ (al = true → ∀ j, k + 1 ≤ j → j < gZ g r → zEc g s (gS g r j))) → ∀ c, c < 26 → ∀ a, a < 32 → (bt (y.1 25 c) a = true ↔ bt (μ.1 25 c) a = true ∨ (gL g r = 26 + c ∧ ∃ i, i < k + 1 ∧ gS g r i = 26 + a ∧ (al = true → ∀ j, i + 1 ≤ j → j < gZ g r → zEc g s (gS g r j)))) := by
      intro hno c hc a ha
      rw [a3 c hc a ha]
      constructor
      · rintro (q | ⟨q1, i, q2, q3⟩)
        · exact .inl q
        · exact .inr ⟨q1, i, by omega, q3⟩
      · rintro (q | ⟨q1, i, q2, q3, q4⟩)
        · exact .inl q
        · by_cases ei : i = k
          · rw [ei] at q3 q4
            rcases hno with hno | hno
            · omega
            · exact absurd q4 hno
          · exact .inr ⟨q1, i, by omega, q3, q4⟩
    simp only [zI0, zI1, zI2, zI3, zI4, zI5, zI6, zI7, zI8, zJ0, zJ1, zJ2, zMM]
    rw [zr_i _ _ (by omega) (by omega), c_z hc2 hr, Option.bind_some, if_neg (by rw [zq_le (by omega) (by omega)]; omega), s_symAt hc2 hg _ hr hk, Option.bind_some, zq_add]
    simp only [zq_le (show 26 < 2147483648 by omega) (show gS g r k < 2147483648 by omega), zB_0]
    by_cases hc : 26 ≤ gS g r k
    · rw [if_pos hc, zq_sub hc]
      cases al with
      | false =>
        rw [if_pos rfl, zr_i _ _ (by omega) (by omega), c_l hc2 hr, Option.bind_some, s_add_25 _ _ (by omega) (by omega), Option.bind_some]
        exact go _ (zf_twI _ _ a1 rfl) (hadd (fun q => by cases q) hc) hc
      | true =>
        rw [if_neg (by decide)]
        cases hb : bt nu (k + 1) with
        | false =>
          rw [if_pos (by rw [b_bit _ (by omega)]; exact hb)]
          refine go y a1 (hskip (.inr fun q => ?_)) hc
          rw [(hnu k hk).2 (q rfl)] at hb
          cases hb
        | true =>
          rw [if_neg (by rw [b_bit _ (by omega), hb]; decide), zr_i _ _ (by omega) (by omega), c_l hc2 hr, Option.bind_some, s_add_25 _ _ (by omega) (by omega), Option.bind_some]
          exact go _ (zf_twI _ _ a1 rfl) (hadd (fun _ => (hnu k hk).1 hb) hc) hc
    · rw [if_neg hc]
      exact stop y a1 (hskip (.inl (by omega))) fun q => hc q.1
  · rintro y g' ⟨a1, a2, a3⟩
    have hc2 := zc2_fr h a1 rfl
    simp only [zI0, zI1, zI2, zI3, zI4, zI5, zI6, zI7, zI8, zJ0, zJ1, zJ2, zMM]
    rw [zr_i _ _ (by omega) (by omega), c_z hc2 hr, Option.bind_some, if_pos (by rw [zq_le (by omega) (by omega)]; omega)]
    refine zw_some ⟨a1, fun c hc a ha => ?_⟩
    rw [a3 c hc a ha]
    constructor
    · rintro (q | ⟨q1, i, q2, q3, q4⟩)
      · exact .inl q
      · exact .inr ⟨q1, i, q2, q3, fun j hj => a2 j (by omega), q4⟩
    · rintro (q | ⟨q1, i, q2, q3, -, q5⟩)
      · exact .inl q
      · exact .inr ⟨q1, i, q2, q3, q5⟩
theorem s_findSteps {g : zG} {s : zSn} {μ : zzM} (h : zc2 g s μ) (hg : zwg g) (hE : zmE g s (μ.1 21 2)) (d : Nat) (al : Bool) : zw (zzf zzP zN (d + 4) 41 [.ref 21, .int (zB al)] μ) fun o => zfr [25] μ o.2 ∧ ∀ c, c < 26 → ∀ a, a < 32 → (bt (o.2.1 25 c) a = true ↔ zSt g s al c a) := by
  have hn := g_n hg
  rw [u_facts_findSteps, s_fill_25, Option.bind_some]
  refine zl_up (fun r (y : zzM) => ([zB al, nI r], [], y)) (fun r y => zfr [25] μ y ∧ ∀ c, c < 26 → ∀ a, a < 32 → (bt (y.1 25 c) a = true ↔ ∃ q, q < r ∧ zon g s q = true ∧ gL g q = 26 + c ∧ ∃ k, k < gZ g q ∧ gS g q k = 26 + a ∧ (∀ j, j < k → zEc g s (gS g q j)) ∧ (al = true → ∀ j, k + 1 ≤ j → j < gZ g q → zEc g s (gS g q j)))) 0 (gN g) _ (by omega) (by omega) rfl ?_ ?_ ?_
  · refine ⟨zf_b _ _ _ rfl, fun c hc a ha => ?_⟩
    rw [zb_i _ _ _ (by omega) hc, b_z]
    constructor
    · intro q; cases q
    · rintro ⟨q, hq, -⟩; omega
  · rintro r y g' - hr ⟨a1, a2⟩ hgo
    have hc2 := zc2_fr h a1 rfl
    have hE2 : zmE g s (y.1 21 2) := by rw [zf_i a1 rfl]; exact hE
    simp only [zI0, zI1, zI2, zI3, zI4, zI5, zI6, zI7, zI8, zJ0, zJ1, zJ2, zMM]
    rw [c_n hc2, if_neg (by rw [zq_le (by omega) (by omega)]; omega), s_isTold hc2 hg _ (by omega), Option.bind_some]
    simp only [zB_0]
    rw [zq_add]
    cases hon : zon g s r with
    | false =>
      rw [if_pos rfl]
      refine hgo y ⟨a1, fun c hc a ha => ?_⟩
      rw [a2 c hc a ha]
      constructor
      · rintro ⟨q, h1, h2⟩; exact ⟨q, by omega, h2⟩
      · rintro ⟨q, h1, h2⟩
        by_cases e : q = r
        · rw [e, hon] at h2; cases h2.1
        · exact ⟨q, by omega, h2⟩
    | true =>
      rw [if_neg (by decide)]
      refine zw_bind (s_stepsOf hc2 hg hE2 d hr al) ?_
      rintro ⟨w, z⟩ ⟨e1, e2⟩
      simp only at e1 e2 ⊢
      refine hgo z ⟨zf_trans a1 e1, fun c hc a ha => ?_⟩
      rw [e2 c hc a ha, a2 c hc a ha]
      constructor
      · rintro (⟨q, h1, h2⟩ | h1)
        · exact ⟨q, by omega, h2⟩
        · exact ⟨r, by omega, hon, h1⟩
      · rintro ⟨q, h1, h2, h3⟩
        by_cases e : q = r
        · subst e; exact .inr h3
        · exact .inl ⟨q, by omega, h2, h3⟩
  · rintro y g' ⟨a1, a2⟩
    have hc2 := zc2_fr h a1 rfl
    simp only [zI0, zI1, zI2, zI3, zI4, zI5, zI6, zI7, zI8, zJ0, zJ1, zJ2, zMM]
    rw [c_n hc2, if_pos (by rw [zq_le (by omega) (by omega)]; omega)]
    refine zw_some ⟨a1, fun c hc a ha => ?_⟩
    rw [a2 c hc a ha]
    constructor
    · rintro ⟨q, -, h2⟩; exact ⟨q, h2⟩
    · rintro ⟨q, h2⟩; exact ⟨q, zon_lt h2.1, h2⟩
theorem s_back {μ : zzM} {R : Nat → Nat → Prop} (hR : ∀ a b, R a b → a < 26 ∧ b < 26) (hm : ∀ c, c < 26 → ∀ a, a < 32 → (bt (μ.1 25 c) a = true ↔ R c a)) (d : Nat) : zw (zzf zzP zN (d + 1) 43 [.ref 21] μ) fun o => zfr [25] μ o.2 ∧ ∀ c, c < 32 → (bt o.1.1 c = true ↔ zTr R c c) := by
  rw [u_facts_backToThemselves]
  refine zl_up (fun m (y : zzM) => ([nI m], [], y)) (fun m y => zfr [25] μ y ∧ ∀ c, c < 26 → ∀ a, a < 32 → (bt (y.1 25 c) a = true ↔ zWa R m c a)) 0 26 μ (by omega) (by omega) rfl ⟨zf_refl _ _, hm⟩ ?_ ?_
  · rintro m y g' - hm2 ⟨a1, a2⟩ hgo
    simp only [zI0, zI1, zI2, zI3, zI4, zI5, zI6, zI7, zI8, zJ0, zJ1, zJ2, zMM]
    rw [if_neg (by rw [zq_le (by omega) (by omega)]; omega)]
    refine zl_up (fun c (z : zzM) => ([nI m, nI c], [], z)) (fun c z => zfr [25] μ z ∧ z.1 25 m = y.1 25 m ∧ (∀ e, e < 26 → c ≤ e → z.1 25 e = y.1 25 e) ∧ ∀ e, e < 26 → e < c → ∀ a, a < 32 → (bt (z.1 25 e) a = true ↔ zWa R (m + 1) e a)) 0 26 y (by omega) (by omega) rfl ⟨a1, rfl, fun _ _ _ => rfl, fun e _ h => absurd h (by omega)⟩ ?_ ?_
    · rintro c z g'' - hc ⟨b1, b2, b3, b4⟩ hgo2
      simp only [zI0, zI1, zI2, zI3, zI4, zI5, zI6, zI7, zI8, zJ0, zJ1, zJ2, zMM]
      rw [if_neg (by rw [zq_le (by omega) (by omega)]; omega), zr_i _ _ hc (by omega), Option.bind_some]
      simp (disch := omega) only [b_bit]
      rw [b3 c hc (by omega), zq_add]
      have hcm := a2 c hc m (by omega)
      cases hb : bt (y.1 25 c) m with
      | false =>
        rw [if_pos rfl]
        refine hgo2 z ⟨b1, b2, fun e he hce => b3 e he (by omega), fun e he hec a ha => ?_⟩
        by_cases ee : e = c
        · rw [ee, b3 c hc (by omega), a2 c hc a ha]
          constructor
          · exact .inl
          · rintro (q | ⟨q, -⟩)
            · exact q
            · rw [hcm.2 q] at hb; cases hb
        · exact b4 e he (by omega) a ha
      | true =>
        rw [if_neg (by decide), Option.bind_some, zr_i _ _ hm2 (by omega), Option.bind_some, zs_i _ _ _ hc (by omega), Option.bind_some, b2]
        refine hgo2 _ ⟨zf_twI _ _ b1 rfl, ?_, fun e he hce => ?_, fun e he hec a ha => ?_⟩
        · rw [zm_if]
          by_cases em : m = c
          · rw [if_pos em, ← em]
            refine b_ext fun i _ => ?_
            rw [b_or, Bool.or_self]
          · rw [if_neg em]; exact b2
        · rw [zm_k _ _ _ _ (by omega)]
          exact b3 e he (by omega)
        · by_cases ee : e = c
          · rw [ee, zm_s, b_or, Bool.or_eq_true, a2 c hc a ha, a2 m hm2 a ha]
            constructor
            · rintro (q | q)
              · exact .inl q
              · exact .inr ⟨hcm.1 hb, q⟩
            · rintro (q | q)
              · exact .inl q
              · exact .inr q.2
          · rw [zm_k _ _ _ _ ee]
            exact b4 e he (by omega) a ha
    · rintro z g'' ⟨b1, b2, b3, b4⟩
      simp only [zI0, zI1, zI2, zI3, zI4, zI5, zI6, zI7, zI8, zJ0, zJ1, zJ2, zMM]
      rw [if_pos (by decide), zq_add]
      exact hgo z ⟨b1, fun c hc a ha => b4 c hc hc a ha⟩
  · rintro y g' ⟨a1, a2⟩
    simp only [zI0, zI1, zI2, zI3, zI4, zI5, zI6, zI7, zI8, zJ0, zJ1, zJ2, zMM]
    rw [if_pos (by decide)]
    refine zl_up (fun c (x : Int32) => ([x, nI c], [], y)) (fun c x => ∀ e, e < 32 → (bt x e = true ↔ e < c ∧ zTr R e e)) 0 26 _ (by omega) (by omega) rfl ?_ ?_ ?_
    · intro e he
      rw [b_z]
      constructor
      · intro q; cases q
      · rintro ⟨q, -⟩; omega
    · rintro c x g'' - hc hx hgo
      simp only [zI0, zI1, zI2, zI3, zI4, zI5, zI6, zI7, zI8, zJ0, zJ1, zJ2, zMM]
      rw [if_neg (by rw [zq_le (by omega) (by omega)]; omega), zr_i _ _ hc (by omega), Option.bind_some, zq_add]
      refine hgo _ fun e he => ?_
      rw [b_or, b_and, b_sh1 (by omega) he, Bool.or_eq_true, Bool.and_eq_true, decide_eq_true_eq, hx e he]
      constructor
      · rintro (⟨q1, q2⟩ | ⟨q1, q2⟩)
        · exact ⟨by omega, q2⟩
        · rw [q2] at q1 ⊢
          exact ⟨by omega, (zWa_26 fun a b h => (hR a b h).2).1 ((a2 c hc c (by omega)).1 q1)⟩
      · rintro ⟨q1, q2⟩
        by_cases ee : e = c
        · rw [ee] at q2 ⊢
          exact .inr ⟨(a2 c hc c (by omega)).2 ((zWa_26 fun a b h => (hR a b h).2).2 q2), rfl⟩
        · exact .inl ⟨by omega, q2⟩
    · rintro x g'' hx
      simp only [zI0, zI1, zI2, zI3, zI4, zI5, zI6, zI7, zI8, zJ0, zJ1, zJ2, zMM]
      rw [if_pos (by decide)]
      refine zw_some ⟨a1, fun e he => ?_⟩
      rw [hx e he]
      constructor
      · rintro ⟨-, q⟩; exact q
      · intro q
        refine ⟨?_, q⟩
        have : e < 26 := by
          refine zlfp_le (P := fun b => b < 26) ?_ q
          rintro b (h1 | ⟨m, -, h1⟩)
          · exact (hR _ _ h1).2
          · exact (hR _ _ h1).2
        exact this
