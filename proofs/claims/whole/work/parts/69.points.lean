/-! STATES of the class: findPoints -/
def zbrK (g : zG) (s : zSn) (y : zzM) (n : Nat) (z : zzM) : Prop := zfr [30] y z ∧ (∀ c, c < 26 → ∀ i, i < 64 → bl (z.2 30 c) i = true → zlfp (zfP g s i) c) ∧ (∀ c, c < 26 → ∀ i, i < 64 → zbg g s c i → bl (z.2 30 c) i = true) ∧ ∀ i, i < 64 → ((∀ c, c < 26 → zfP g s i (fun c => c < 26 ∧ bl (z.2 30 c) i = true) c → bl (z.2 30 c) i = true) ∨ n ≤ zcnt (fun c => bl (z.2 30 c) i) 26)
theorem s_findPoints_3 {g : zG} {s : zSn} {μ : zzM} (h : zcG 3 4 5 6 7 8 9 g μ) (hg : zwg g) (d : Nat) : zw (zzf zzP zN (d + 2) 48 [.ref 26, .ref 3, .int (sT s)] μ) fun o => zfr [29, 30] μ o.2 ∧ (∀ x, x < 52 → ∀ i, i < 64 → (bl (o.2.2 29 x) i = true ↔ zah g s x i)) ∧ (∀ c, c < 26 → ∀ i, i < 64 → (bl (o.2.2 30 c) i = true ↔ zlfp (zfP g s i) c)) := by
  have hn := g_n hg
  rw [u_states_findPoints_26_3, s_fillL_29, Option.bind_some, s_fillL_30, Option.bind_some]
  refine zl_up (fun r (y : zzM) => ([sT s, nI r], [], y)) (fun r y => zfr [29, 30] μ y ∧ (∀ x, x < 52 → ∀ i, i < 64 → (bl (y.2 29 x) i = true ↔ ∃ q n, q < r ∧ zon g s q = true ∧ n < gZ g q ∧ gS g q n = x ∧ i = 5 * q + n)) ∧ (∀ c, c < 26 → ∀ i, i < 64 → (bl (y.2 30 c) i = true ↔ ∃ q, q < r ∧ zon g s q = true ∧ gL g q = 26 + c ∧ i = 5 * q))) 0 (gN g) _ (by omega) (by omega) rfl ⟨zf_trans (zf_bL _ _ _ rfl) (zf_bL _ _ _ rfl), fun x hx i hi => ?_, fun c hc i hi => ?_⟩ ?_ ?_
  · rw [zc_c _ _ _ _ (by omega), zc_i _ _ _ (by omega) hx, l_z]
    constructor
    · intro q; cases q
    · rintro ⟨q, n, hq, -⟩; omega
  · rw [zc_i _ _ _ (by omega) hc, l_z]
    constructor
    · intro q; cases q
    · rintro ⟨q, hq, -⟩; omega
  · rintro r y g' - hr ⟨a1, a2, a3⟩ hgo
    have h1 := zcG_fr h a1 rfl
    have hl := g_l hg hr
    have hz := g_z hg hr
    have hon : zon g s r = !bt (sT s) r := by
      unfold zon
      rw [decide_eq_true hr, Bool.true_and]
    simp only [zI0, zI1, zI2, zI3, zI4, zI5, zI6, zI7, zI8, zJ0, zJ1, zJ2, zMM]
    rw [h1.1, if_neg (by rw [zq_le (by omega) (by omega)]; omega)]
    cases hb : bt (sT s) r with
    | true =>
      rw [hb] at hon
      rw [if_neg (by rw [b_bit _ (by omega), hb]; decide), zq_add]
      refine hgo y ⟨a1, fun x hx i hi => ?_, fun c hc i hi => ?_⟩
      · rw [a2 x hx i hi]
        constructor
        · rintro ⟨q, n, t1, t2⟩; exact ⟨q, n, by omega, t2⟩
        · rintro ⟨q, n, t1, t2, t3⟩
          by_cases e : q = r
          · rw [e, hon] at t2; cases t2
          · exact ⟨q, n, by omega, t2, t3⟩
      · rw [a3 c hc i hi]
        constructor
        · rintro ⟨q, t1, t2⟩; exact ⟨q, by omega, t2⟩
        · rintro ⟨q, t1, t2, t3⟩
          by_cases e : q = r
          · rw [e, hon] at t2; cases t2
          · exact ⟨q, by omega, t2, t3⟩
    | false =>
      rw [hb] at hon
      have hon : zon g s r = true := hon
      rw [if_pos (by rw [b_bit _ (by omega)]; exact hb), zr_i _ _ (by omega) (by omega), h1.2.2.1 r hr, Option.bind_some, zq_sub hl.1, zr_l _ _ (by omega) (by omega), Option.bind_some, zs_l _ _ _ (by omega) (by omega), Option.bind_some, zq_mul r 5]
      refine zl_up (fun n (z : zzM) => ([sT s, nI r, nI n], [], z)) (fun n z => zfr [29, 30] μ z ∧ (∀ x, x < 52 → ∀ i, i < 64 → (bl (z.2 29 x) i = true ↔ bl (y.2 29 x) i = true ∨ ∃ j, j < n ∧ gS g r j = x ∧ i = 5 * r + j)) ∧ (∀ c, c < 26 → ∀ i, i < 64 → (bl (z.2 30 c) i = true ↔ ∃ q, q < r + 1 ∧ zon g s q = true ∧ gL g q = 26 + c ∧ i = 5 * q))) 0 (gZ g r) _ (by omega) (by omega) rfl ⟨zf_twL _ _ a1 rfl, fun x hx i hi => ?_, fun c hc i hi => ?_⟩ ?_ ?_
      · rw [zn_c _ _ _ (by omega)]
        exact ⟨.inl, fun q => q.elim id fun ⟨j, hj, _⟩ => by omega⟩
      · rw [zn_if]
        by_cases e : c = gL g r - 26
        · rw [if_pos e, l_or, l_sh1 (by omega) hi, Bool.or_eq_true, decide_eq_true_eq, ← e, a3 c hc i hi]
          constructor
          · rintro (⟨q, t1, t2⟩ | t1)
            · exact ⟨q, by omega, t2⟩
            · exact ⟨r, by omega, hon, by omega, by omega⟩
          · rintro ⟨q, t1, t2, t3, t4⟩
            by_cases eq : q = r
            · exact .inr (by rw [eq] at t4; omega)
            · exact .inl ⟨q, by omega, t2, t3, t4⟩
        · rw [if_neg e, a3 c hc i hi]
          constructor
          · rintro ⟨q, t1, t2⟩; exact ⟨q, by omega, t2⟩
          · rintro ⟨q, t1, t2, t3, t4⟩
            by_cases eq : q = r
            · rw [eq] at t3; omega
            · exact ⟨q, by omega, t2, t3, t4⟩
      · rintro n z g'' - hn2 ⟨b1, b2, b3⟩ hgo2
        have h2 := zcG_fr h b1 rfl
        have hs := g_s hg hr hn2
        have hsy : zzf zzP zN (d + 1) 6 [.ref 3, .int (nI r), .int (nI n)] z = some ((nI (gS g r n), 0, 0), z) := by
          rw [u_gram_symbolAt_3, zq_mul, zq_add, zr_i _ _ (by omega) (by omega), Option.bind_some, h2.2.2.2.2.2.2.1 r n hr hn2]
        simp only [zI0, zI1, zI2, zI3, zI4, zI5, zI6, zI7, zI8, zJ0, zJ1, zJ2, zMM]
        rw [zr_i _ _ (by omega) (by omega), h2.2.2.2.1 r hr, Option.bind_some, if_neg (by rw [zq_le (by omega) (by omega)]; omega), hsy, Option.bind_some, zr_l _ _ (by omega) (by omega), Option.bind_some, zs_l _ _ _ (by omega) (by omega), Option.bind_some, zq_mul, zq_add, zq_add]
        refine hgo2 _ ⟨zf_twL _ _ b1 rfl, fun x hx i hi => ?_, fun c hc i hi => ?_⟩
        · rw [zn_if]
          by_cases e : x = gS g r n
          · rw [if_pos e, l_or, l_sh1 (by omega) hi, Bool.or_eq_true, decide_eq_true_eq, ← e, b2 x hx i hi]
            constructor
            · rintro ((q | ⟨j, t1, t2⟩) | q)
              · exact .inl q
              · exact .inr ⟨j, by omega, t2⟩
              · exact .inr ⟨n, by omega, e.symm, by omega⟩
            · rintro (q | ⟨j, t1, t2, t3⟩)
              · exact .inl (.inl q)
              · by_cases ej : j = n
                · exact .inr (by rw [ej] at t3; omega)
                · exact .inl (.inr ⟨j, by omega, t2, t3⟩)
          · rw [if_neg e, b2 x hx i hi]
            constructor
            · rintro (q | ⟨j, t1, t2⟩)
              · exact .inl q
              · exact .inr ⟨j, by omega, t2⟩
            · rintro (q | ⟨j, t1, t2, t3⟩)
              · exact .inl q
              · by_cases ej : j = n
                · rw [ej] at t2; exact absurd t2.symm e
                · exact .inr ⟨j, by omega, t2, t3⟩
        · rw [zn_c _ _ _ (by omega)]
          exact b3 c hc i hi
      · rintro z g'' ⟨b1, b2, b3⟩
        have h2 := zcG_fr h b1 rfl
        simp only [zI0, zI1, zI2, zI3, zI4, zI5, zI6, zI7, zI8, zJ0, zJ1, zJ2, zMM]
        rw [zr_i _ _ (by omega) (by omega), h2.2.2.2.1 r hr, Option.bind_some, if_pos (by rw [zq_le (by omega) (by omega)]; omega), zq_add]
        refine hgo z ⟨b1, fun x hx i hi => ?_, b3⟩
        rw [b2 x hx i hi, a2 x hx i hi]
        constructor
        · rintro (⟨q, n, t1, t2⟩ | ⟨j, t1, t2⟩)
          · exact ⟨q, n, by omega, t2⟩
          · exact ⟨r, j, by omega, hon, t1, t2⟩
        · rintro ⟨q, n, t1, t2, t3, t4⟩
          by_cases e : q = r
          · subst e; exact .inr ⟨n, t3, t4⟩
          · exact .inl ⟨q, n, by omega, t2, t3, t4⟩
  · rintro y g' ⟨a1, a2, a3⟩
    have h1 := zcG_fr h a1 rfl
    have hA : ∀ x, x < 52 → ∀ i, i < 64 → (bl (y.2 29 x) i = true ↔ zah g s x i) := by
      intro x hx i hi
      rw [a2 x hx i hi]
      constructor
      · rintro ⟨q, n, -, t⟩; exact ⟨q, n, t⟩
      · rintro ⟨q, n, t⟩; exact ⟨q, n, zon_lt t.1, t⟩
    simp only [zI0, zI1, zI2, zI3, zI4, zI5, zI6, zI7, zI8, zJ0, zJ1, zJ2, zMM]
    rw [h1.1, if_pos (by rw [zq_le (by omega) (by omega)]; omega)]
    refine zl_up (fun n (x : Bool × zzM) => ([zB x.1, nI n], [], x.2)) (fun n x => zbrK g s y n x.2 ∧ (x.1 = false → ∀ i, i < 64 → ∀ c, c < 26 → zfP g s i (fun c => c < 26 ∧ bl (x.2.2 30 c) i = true) c → bl (x.2.2 30 c) i = true) ∧ (n = 7 → x.1 = false)) 0 7 (true, y) (by omega) (by omega) rfl ⟨⟨zf_refl _ _, fun c hc i hi q => ?_, fun c hc i hi q => ?_, fun i _ => .inr (Nat.zero_le _)⟩, fun q => (by cases q), fun q => absurd q (by omega)⟩ ?_ ?_
    · obtain ⟨q, -, t⟩ := (a3 c hc i hi).1 q
      exact zlfp_in (zfP_mo g s i) (.inl ⟨q, t⟩)
    · obtain ⟨q, t⟩ := q
      exact (a3 c hc i hi).2 ⟨q, zon_lt t.1, t⟩
    · rintro n ⟨b, z⟩ g'' - hn7 ⟨⟨k1, k2, k3, k4⟩, k5, -⟩ hgo
      simp only at k1 k2 k3 k4 k5
      have hend : ∀ w : zzM, zbrK g s y n w → (∀ i, i < 64 → ∀ c, c < 26 → zfP g s i (fun c => c < 26 ∧ bl (w.2 30 c) i = true) c → bl (w.2 30 c) i = true) → zfr [29, 30] μ w ∧ (∀ x, x < 52 → ∀ i, i < 64 → (bl (w.2 29 x) i = true ↔ zah g s x i)) ∧ (∀ c, c < 26 → ∀ i, i < 64 → (bl (w.2 30 c) i = true ↔ zlfp (zfP g s i) c)) := by
        rintro w ⟨t1, t2, t3, t4⟩ t5
        refine ⟨zf_trans a1 (zf_mono t1 rfl), fun x hx i hi => by rw [zf_l t1 rfl]; exact hA x hx i hi, fun c hc i hi => ⟨t2 c hc i hi, fun q => ?_⟩⟩
        have := zlfp_le (P := fun c => c < 26 ∧ bl (w.2 30 c) i = true) (fun c hf => ⟨zfP_lt hg i _ c hf, t5 i hi c (zfP_lt hg i _ c hf) hf⟩) q
        exact this.2
      simp only [zI0, zI1, zI2, zI3, zI4, zI5, zI6, zI7, zI8, zJ0, zJ1, zJ2, zMM]
      rw [if_neg (by rw [zq_le (by omega) (by omega)]; omega)]
      simp only [zB_0]
      cases b with
      | false =>
        rw [if_pos rfl]
        exact zw_some (hend z ⟨k1, k2, k3, k4⟩ (k5 rfl))
      | true =>
        rw [if_neg (by decide)]
        refine zl_up (fun c (x : Bool × zzM) => ([zB x.1, nI n, nI c], [], x.2)) (fun c x => zfr [30] y x.2 ∧ (∀ c, c < 26 → ∀ i, i < 64 → bl (x.2.2 30 c) i = true → zlfp (zfP g s i) c) ∧ (∀ c, c < 26 → ∀ i, i < 64 → bl (z.2 30 c) i = true → bl (x.2.2 30 c) i = true) ∧ (∀ e, e < c → e < 26 → ∀ i, i < 64 → zfP g s i (fun c => c < 26 ∧ bl (z.2 30 c) i = true) e → bl (x.2.2 30 e) i = true) ∧ (x.1 = false → ∀ c, c < 26 → x.2.2 30 c = z.2 30 c) ∧ ((∀ c, c < 26 → ∀ i, i < 64 → zlfp (zfP g s i) c → bl (z.2 30 c) i = true) → x.1 = false)) 0 26 (false, z) (by omega) (by omega) rfl ⟨k1, k2, fun c _ i _ q => q, fun e he => absurd he (by omega), fun _ c _ => rfl, fun _ => rfl⟩ ?_ ?_
        · rintro c ⟨b, w⟩ g3 - hc ⟨c1, c2, c3, c4, c5, c6⟩ hgo2
          simp only at c1 c2 c3 c4 c5 c6
          simp only [zI0, zI1, zI2, zI3, zI4, zI5, zI6, zI7, zI8, zJ0, zJ1, zJ2, zMM]
          rw [if_neg (by rw [zq_le (by omega) (by omega)]; omega), zr_l _ _ hc (by omega), Option.bind_some]
          refine zw_bind (s_closedR d (w.2 30 c) (A := zah g s) (B := fun c i => bl (w.2 30 c) i = true) (fun x hx i hi => by rw [zf_l c1 rfl]; exact hA x hx i hi) (fun c _ i _ => Iff.rfl)) ?_
          rintro ⟨⟨o0, v, o2⟩, w'⟩ ⟨e1, e2⟩
          simp only at e1 e2 ⊢
          have e1 := e1.symm
          subst e1
          rw [zs_l _ _ _ hc (by omega), Option.bind_some, zr_l _ _ hc (by omega), Option.bind_some, zn_s, zq_add, zB_or0, zB_or1]
          simp only [l_cmp]
          have hv1 : ∀ i, i < 64 → bl (w.2 30 c) i = true → bl v i = true := fun i hi q => (e2 i hi).2 (.inl q)
          have hv2 : ∀ i, i < 64 → bl v i = true → zlfp (zfP g s i) c := by
            intro i hi q
            rcases (e2 i hi).1 q with q | ⟨c', t1, ⟨j, t2, t3, r, m, t4, t5, t6, t7⟩, t8⟩
            · exact c2 c hc i hi q
            · obtain ⟨q', u1, u2⟩ := zP_form (c2 c hc j t2 t3)
              have hz := g_z hg (zon_lt t4)
              have hm : m = 0 := by omega
              subst hm
              have hl := g_l hg (zon_lt t4)
              have t9 := c2 c hc j t2 t3
              rw [t7, Nat.add_zero] at t9
              refine zP_tr hl.1 t9 ?_
              exact zlfp_in (zfP_mo g s i) (.inr ⟨c', ⟨r, t4, by omega, t5, t6⟩, c2 c' t1 i hi t8⟩)
          have hmono : ∀ e, e < 26 → ∀ i, i < 64 → bl (w.2 30 e) i = true → bl ((zzwL w 30 c v).2 30 e) i = true := by
            intro e he i hi q
            rw [zn_if]
            by_cases ee : e = c
            · rw [if_pos ee]; rw [ee] at q; exact hv1 i hi q
            · rw [if_neg ee]; exact q
          have hsound : ∀ e, e < 26 → ∀ i, i < 64 → bl ((zzwL w 30 c v).2 30 e) i = true → zlfp (zfP g s i) e := by
            intro e he i hi q
            rw [zn_if] at q
            by_cases ee : e = c
            · rw [if_pos ee] at q; rw [ee]; exact hv2 i hi q
            · rw [if_neg ee] at q; exact c2 e he i hi q
          have hstep : ∀ e, e < c + 1 → e < 26 → ∀ i, i < 64 → zfP g s i (fun c => c < 26 ∧ bl (z.2 30 c) i = true) e → bl ((zzwL w 30 c v).2 30 e) i = true := by
            intro e he he2 i hi q
            by_cases ee : e = c
            · rw [ee] at q ⊢
              rw [zn_s]
              rcases q with q | ⟨c', ⟨r, t1, t2, t3, t4⟩, t5, t6⟩
              · exact hv1 i hi (c3 c hc i hi (k3 c hc i hi q))
              · refine (e2 i hi).2 (.inr ⟨c', t5, ⟨5 * r, ?_, ?_, r, 0, t1, t3, t4, rfl⟩, c3 c' t5 i hi t6⟩)
                · have := zon_lt t1; omega
                · exact c3 c hc _ (by have := zon_lt t1; omega) (k3 c hc _ (by have := zon_lt t1; omega) ⟨r, t1, t2, rfl⟩)
            · exact hmono e he2 i hi (c4 e (by omega) he2 i hi q)
          have hall : (∀ c, c < 26 → ∀ i, i < 64 → zlfp (zfP g s i) c → bl (z.2 30 c) i = true) → v = w.2 30 c := by
            intro hq
            refine l_ext fun i hi => ?_
            cases hvi : bl v i with
            | true => exact (c3 c hc i hi (hq c hc i hi (hv2 i hi hvi))).symm
            | false =>
              cases hwi : bl (w.2 30 c) i with
              | false => rfl
              | true => rw [hv1 i hi hwi] at hvi; cases hvi
          by_cases hx : v = w.2 30 c
          · rw [if_pos hx]
            refine hgo2 (b, _) ⟨zf_twL _ _ c1 rfl, hsound, fun e he i hi q => hmono e he i hi (c3 e he i hi q), hstep, fun q e he => ?_, c6⟩
            show (zzwL w 30 c v).2 30 e = z.2 30 e
            rw [zn_if]
            by_cases ee : e = c
            · rw [if_pos ee, hx, ee]; exact c5 q c hc
            · rw [if_neg ee]; exact c5 q e he
          · rw [if_neg hx]
            exact hgo2 (true, _) ⟨zf_twL _ _ c1 rfl, hsound, fun e he i hi q => hmono e he i hi (c3 e he i hi q), hstep, fun q => (by cases q), fun q => absurd (hall q) hx⟩
        · rintro ⟨b, w⟩ g3 ⟨c1, c2, c3, c4, c5, c6⟩
          simp only at c1 c2 c3 c4 c5 c6
          simp only [zI0, zI1, zI2, zI3, zI4, zI5, zI6, zI7, zI8, zJ0, zJ1, zJ2, zMM]
          rw [if_pos (by decide), zq_add]
          refine hgo (b, w) ⟨⟨c1, c2, fun c hc i hi q => c3 c hc i hi (k3 c hc i hi q), fun i hi => ?_⟩, fun q i hi c hc hf => ?_, fun q => ?_⟩
          · exact zround (zfP_mo g s i) (X := fun c => bl (z.2 30 c) i) (X' := fun c => bl (w.2 30 c) i) (fun c hc q => c2 c hc i hi q) (zfP_lt hg i) (fun c hc q => c3 c hc i hi q) (fun c hc hf => c4 c hc hc i hi hf) (k4 i hi)
          · simp only at q hf ⊢
            refine c4 c hc hc i hi (zfP_mo g s i _ _ (fun c t => ⟨t.1, ?_⟩) c hf)
            rw [← c5 q c t.1]
            exact t.2
          · simp only
            refine c6 fun c hc i hi hf => ?_
            have h5 := hg.2.2
            exact (zrest (X := fun c => bl (z.2 30 c) i) (i := n) (zfP_lt hg i) (k4 i hi) (fun c hc q => zP_left hg i c (k2 c hc i hi q)) (by omega) c hf).2
    · rintro ⟨b, z⟩ g'' ⟨⟨k1, k2, k3, k4⟩, k5, k6⟩
      simp only at k1 k2 k3 k4 k5 k6
      have hb := k6 trivial
      subst hb
      simp only [zI0, zI1, zI2, zI3, zI4, zI5, zI6, zI7, zI8, zJ0, zJ1, zJ2, zMM]
      rw [if_neg (by rw [zq_le (by omega) (by omega)]; omega), if_pos (by decide)]
      refine zw_some ⟨zf_trans a1 (zf_mono k1 rfl), fun x hx i hi => by rw [zf_l k1 rfl]; exact hA x hx i hi, fun c hc i hi => ⟨k2 c hc i hi, fun q => ?_⟩⟩
      have := zlfp_le (P := fun c => c < 26 ∧ bl (z.2 30 c) i = true) (fun c hf => ⟨zfP_lt hg i _ c hf, k5 rfl i hi c (zfP_lt hg i _ c hf) hf⟩) q
      exact this.2
theorem s_findPoints_14 {g : zG} {s : zSn} {μ : zzM} (h : zcG 14 15 16 17 18 19 20 g μ) (hg : zwg g) (d : Nat) : zw (zzf zzP zN (d + 2) 48 [.ref 26, .ref 14, .int (sT s)] μ) fun o => zfr [29, 30] μ o.2 ∧ (∀ x, x < 52 → ∀ i, i < 64 → (bl (o.2.2 29 x) i = true ↔ zah g s x i)) ∧ (∀ c, c < 26 → ∀ i, i < 64 → (bl (o.2.2 30 c) i = true ↔ zlfp (zfP g s i) c)) := by
  have hn := g_n hg
  rw [u_states_findPoints_26_14, s_fillL_29, Option.bind_some, s_fillL_30, Option.bind_some]
  refine zl_up (fun r (y : zzM) => ([sT s, nI r], [], y)) (fun r y => zfr [29, 30] μ y ∧ (∀ x, x < 52 → ∀ i, i < 64 → (bl (y.2 29 x) i = true ↔ ∃ q n, q < r ∧ zon g s q = true ∧ n < gZ g q ∧ gS g q n = x ∧ i = 5 * q + n)) ∧ (∀ c, c < 26 → ∀ i, i < 64 → (bl (y.2 30 c) i = true ↔ ∃ q, q < r ∧ zon g s q = true ∧ gL g q = 26 + c ∧ i = 5 * q))) 0 (gN g) _ (by omega) (by omega) rfl ⟨zf_trans (zf_bL _ _ _ rfl) (zf_bL _ _ _ rfl), fun x hx i hi => ?_, fun c hc i hi => ?_⟩ ?_ ?_
  · rw [zc_c _ _ _ _ (by omega), zc_i _ _ _ (by omega) hx, l_z]
    constructor
    · intro q; cases q
    · rintro ⟨q, n, hq, -⟩; omega
  · rw [zc_i _ _ _ (by omega) hc, l_z]
    constructor
    · intro q; cases q
    · rintro ⟨q, hq, -⟩; omega
  · rintro r y g' - hr ⟨a1, a2, a3⟩ hgo
    have h1 := zcG_fr h a1 rfl
    have hl := g_l hg hr
    have hz := g_z hg hr
    have hon : zon g s r = !bt (sT s) r := by
      unfold zon
      rw [decide_eq_true hr, Bool.true_and]
    simp only [zI0, zI1, zI2, zI3, zI4, zI5, zI6, zI7, zI8, zJ0, zJ1, zJ2, zMM]
    rw [h1.1, if_neg (by rw [zq_le (by omega) (by omega)]; omega)]
    cases hb : bt (sT s) r with
    | true =>
      rw [hb] at hon
      rw [if_neg (by rw [b_bit _ (by omega), hb]; decide), zq_add]
      refine hgo y ⟨a1, fun x hx i hi => ?_, fun c hc i hi => ?_⟩
      · rw [a2 x hx i hi]
        constructor
        · rintro ⟨q, n, t1, t2⟩; exact ⟨q, n, by omega, t2⟩
        · rintro ⟨q, n, t1, t2, t3⟩
          by_cases e : q = r
          · rw [e, hon] at t2; cases t2
          · exact ⟨q, n, by omega, t2, t3⟩
      · rw [a3 c hc i hi]
        constructor
        · rintro ⟨q, t1, t2⟩; exact ⟨q, by omega, t2⟩
        · rintro ⟨q, t1, t2, t3⟩
          by_cases e : q = r
          · rw [e, hon] at t2; cases t2
          · exact ⟨q, by omega, t2, t3⟩
    | false =>
      rw [hb] at hon
      have hon : zon g s r = true := hon
      rw [if_pos (by rw [b_bit _ (by omega)]; exact hb), zr_i _ _ (by omega) (by omega), h1.2.2.1 r hr, Option.bind_some, zq_sub hl.1, zr_l _ _ (by omega) (by omega), Option.bind_some, zs_l _ _ _ (by omega) (by omega), Option.bind_some, zq_mul r 5]
      refine zl_up (fun n (z : zzM) => ([sT s, nI r, nI n], [], z)) (fun n z => zfr [29, 30] μ z ∧ (∀ x, x < 52 → ∀ i, i < 64 → (bl (z.2 29 x) i = true ↔ bl (y.2 29 x) i = true ∨ ∃ j, j < n ∧ gS g r j = x ∧ i = 5 * r + j)) ∧ (∀ c, c < 26 → ∀ i, i < 64 → (bl (z.2 30 c) i = true ↔ ∃ q, q < r + 1 ∧ zon g s q = true ∧ gL g q = 26 + c ∧ i = 5 * q))) 0 (gZ g r) _ (by omega) (by omega) rfl ⟨zf_twL _ _ a1 rfl, fun x hx i hi => ?_, fun c hc i hi => ?_⟩ ?_ ?_
      · rw [zn_c _ _ _ (by omega)]
        exact ⟨.inl, fun q => q.elim id fun ⟨j, hj, _⟩ => by omega⟩
      · rw [zn_if]
        by_cases e : c = gL g r - 26
        · rw [if_pos e, l_or, l_sh1 (by omega) hi, Bool.or_eq_true, decide_eq_true_eq, ← e, a3 c hc i hi]
          constructor
          · rintro (⟨q, t1, t2⟩ | t1)
            · exact ⟨q, by omega, t2⟩
            · exact ⟨r, by omega, hon, by omega, by omega⟩
          · rintro ⟨q, t1, t2, t3, t4⟩
            by_cases eq : q = r
            · exact .inr (by rw [eq] at t4; omega)
            · exact .inl ⟨q, by omega, t2, t3, t4⟩
        · rw [if_neg e, a3 c hc i hi]
          constructor
          · rintro ⟨q, t1, t2⟩; exact ⟨q, by omega, t2⟩
          · rintro ⟨q, t1, t2, t3, t4⟩
            by_cases eq : q = r
            · rw [eq] at t3; omega
            · exact ⟨q, by omega, t2, t3, t4⟩
      · rintro n z g'' - hn2 ⟨b1, b2, b3⟩ hgo2
        have h2 := zcG_fr h b1 rfl
        have hs := g_s hg hr hn2
        have hsy : zzf zzP zN (d + 1) 6 [.ref 14, .int (nI r), .int (nI n)] z = some ((nI (gS g r n), 0, 0), z) := by
          rw [u_gram_symbolAt_14, zq_mul, zq_add, zr_i _ _ (by omega) (by omega), Option.bind_some, h2.2.2.2.2.2.2.1 r n hr hn2]
        simp only [zI0, zI1, zI2, zI3, zI4, zI5, zI6, zI7, zI8, zJ0, zJ1, zJ2, zMM]
        rw [zr_i _ _ (by omega) (by omega), h2.2.2.2.1 r hr, Option.bind_some, if_neg (by rw [zq_le (by omega) (by omega)]; omega), hsy, Option.bind_some, zr_l _ _ (by omega) (by omega), Option.bind_some, zs_l _ _ _ (by omega) (by omega), Option.bind_some, zq_mul, zq_add, zq_add]
        refine hgo2 _ ⟨zf_twL _ _ b1 rfl, fun x hx i hi => ?_, fun c hc i hi => ?_⟩
        · rw [zn_if]
          by_cases e : x = gS g r n
          · rw [if_pos e, l_or, l_sh1 (by omega) hi, Bool.or_eq_true, decide_eq_true_eq, ← e, b2 x hx i hi]
            constructor
            · rintro ((q | ⟨j, t1, t2⟩) | q)
              · exact .inl q
              · exact .inr ⟨j, by omega, t2⟩
              · exact .inr ⟨n, by omega, e.symm, by omega⟩
            · rintro (q | ⟨j, t1, t2, t3⟩)
              · exact .inl (.inl q)
              · by_cases ej : j = n
                · exact .inr (by rw [ej] at t3; omega)
                · exact .inl (.inr ⟨j, by omega, t2, t3⟩)
          · rw [if_neg e, b2 x hx i hi]
            constructor
            · rintro (q | ⟨j, t1, t2⟩)
              · exact .inl q
              · exact .inr ⟨j, by omega, t2⟩
            · rintro (q | ⟨j, t1, t2, t3⟩)
              · exact .inl q
              · by_cases ej : j = n
                · rw [ej] at t2; exact absurd t2.symm e
                · exact .inr ⟨j, by omega, t2, t3⟩
        · rw [zn_c _ _ _ (by omega)]
          exact b3 c hc i hi
      · rintro z g'' ⟨b1, b2, b3⟩
        have h2 := zcG_fr h b1 rfl
        simp only [zI0, zI1, zI2, zI3, zI4, zI5, zI6, zI7, zI8, zJ0, zJ1, zJ2, zMM]
        rw [zr_i _ _ (by omega) (by omega), h2.2.2.2.1 r hr, Option.bind_some, if_pos (by rw [zq_le (by omega) (by omega)]; omega), zq_add]
        refine hgo z ⟨b1, fun x hx i hi => ?_, b3⟩
        rw [b2 x hx i hi, a2 x hx i hi]
        constructor
        · rintro (⟨q, n, t1, t2⟩ | ⟨j, t1, t2⟩)
          · exact ⟨q, n, by omega, t2⟩
          · exact ⟨r, j, by omega, hon, t1, t2⟩
        · rintro ⟨q, n, t1, t2, t3, t4⟩
          by_cases e : q = r
          · subst e; exact .inr ⟨n, t3, t4⟩
          · exact .inl ⟨q, n, by omega, t2, t3, t4⟩
  · rintro y g' ⟨a1, a2, a3⟩
    have h1 := zcG_fr h a1 rfl
    have hA : ∀ x, x < 52 → ∀ i, i < 64 → (bl (y.2 29 x) i = true ↔ zah g s x i) := by
      intro x hx i hi
      rw [a2 x hx i hi]
      constructor
      · rintro ⟨q, n, -, t⟩; exact ⟨q, n, t⟩
      · rintro ⟨q, n, t⟩; exact ⟨q, n, zon_lt t.1, t⟩
    simp only [zI0, zI1, zI2, zI3, zI4, zI5, zI6, zI7, zI8, zJ0, zJ1, zJ2, zMM]
    rw [h1.1, if_pos (by rw [zq_le (by omega) (by omega)]; omega)]
    refine zl_up (fun n (x : Bool × zzM) => ([zB x.1, nI n], [], x.2)) (fun n x => zbrK g s y n x.2 ∧ (x.1 = false → ∀ i, i < 64 → ∀ c, c < 26 → zfP g s i (fun c => c < 26 ∧ bl (x.2.2 30 c) i = true) c → bl (x.2.2 30 c) i = true) ∧ (n = 7 → x.1 = false)) 0 7 (true, y) (by omega) (by omega) rfl ⟨⟨zf_refl _ _, fun c hc i hi q => ?_, fun c hc i hi q => ?_, fun i _ => .inr (Nat.zero_le _)⟩, fun q => (by cases q), fun q => absurd q (by omega)⟩ ?_ ?_
    · obtain ⟨q, -, t⟩ := (a3 c hc i hi).1 q
      exact zlfp_in (zfP_mo g s i) (.inl ⟨q, t⟩)
    · obtain ⟨q, t⟩ := q
      exact (a3 c hc i hi).2 ⟨q, zon_lt t.1, t⟩
    · rintro n ⟨b, z⟩ g'' - hn7 ⟨⟨k1, k2, k3, k4⟩, k5, -⟩ hgo
      simp only at k1 k2 k3 k4 k5
      have hend : ∀ w : zzM, zbrK g s y n w → (∀ i, i < 64 → ∀ c, c < 26 → zfP g s i (fun c => c < 26 ∧ bl (w.2 30 c) i = true) c → bl (w.2 30 c) i = true) → zfr [29, 30] μ w ∧ (∀ x, x < 52 → ∀ i, i < 64 → (bl (w.2 29 x) i = true ↔ zah g s x i)) ∧ (∀ c, c < 26 → ∀ i, i < 64 → (bl (w.2 30 c) i = true ↔ zlfp (zfP g s i) c)) := by
        rintro w ⟨t1, t2, t3, t4⟩ t5
        refine ⟨zf_trans a1 (zf_mono t1 rfl), fun x hx i hi => by rw [zf_l t1 rfl]; exact hA x hx i hi, fun c hc i hi => ⟨t2 c hc i hi, fun q => ?_⟩⟩
        have := zlfp_le (P := fun c => c < 26 ∧ bl (w.2 30 c) i = true) (fun c hf => ⟨zfP_lt hg i _ c hf, t5 i hi c (zfP_lt hg i _ c hf) hf⟩) q
        exact this.2
      simp only [zI0, zI1, zI2, zI3, zI4, zI5, zI6, zI7, zI8, zJ0, zJ1, zJ2, zMM]
      rw [if_neg (by rw [zq_le (by omega) (by omega)]; omega)]
      simp only [zB_0]
      cases b with
      | false =>
        rw [if_pos rfl]
        exact zw_some (hend z ⟨k1, k2, k3, k4⟩ (k5 rfl))
      | true =>
        rw [if_neg (by decide)]
        refine zl_up (fun c (x : Bool × zzM) => ([zB x.1, nI n, nI c], [], x.2)) (fun c x => zfr [30] y x.2 ∧ (∀ c, c < 26 → ∀ i, i < 64 → bl (x.2.2 30 c) i = true → zlfp (zfP g s i) c) ∧ (∀ c, c < 26 → ∀ i, i < 64 → bl (z.2 30 c) i = true → bl (x.2.2 30 c) i = true) ∧ (∀ e, e < c → e < 26 → ∀ i, i < 64 → zfP g s i (fun c => c < 26 ∧ bl (z.2 30 c) i = true) e → bl (x.2.2 30 e) i = true) ∧ (x.1 = false → ∀ c, c < 26 → x.2.2 30 c = z.2 30 c) ∧ ((∀ c, c < 26 → ∀ i, i < 64 → zlfp (zfP g s i) c → bl (z.2 30 c) i = true) → x.1 = false)) 0 26 (false, z) (by omega) (by omega) rfl ⟨k1, k2, fun c _ i _ q => q, fun e he => absurd he (by omega), fun _ c _ => rfl, fun _ => rfl⟩ ?_ ?_
        · rintro c ⟨b, w⟩ g3 - hc ⟨c1, c2, c3, c4, c5, c6⟩ hgo2
          simp only at c1 c2 c3 c4 c5 c6
          simp only [zI0, zI1, zI2, zI3, zI4, zI5, zI6, zI7, zI8, zJ0, zJ1, zJ2, zMM]
          rw [if_neg (by rw [zq_le (by omega) (by omega)]; omega), zr_l _ _ hc (by omega), Option.bind_some]
          refine zw_bind (s_closedR d (w.2 30 c) (A := zah g s) (B := fun c i => bl (w.2 30 c) i = true) (fun x hx i hi => by rw [zf_l c1 rfl]; exact hA x hx i hi) (fun c _ i _ => Iff.rfl)) ?_
          rintro ⟨⟨o0, v, o2⟩, w'⟩ ⟨e1, e2⟩
          simp only at e1 e2 ⊢
          have e1 := e1.symm
          subst e1
          rw [zs_l _ _ _ hc (by omega), Option.bind_some, zr_l _ _ hc (by omega), Option.bind_some, zn_s, zq_add, zB_or0, zB_or1]
          simp only [l_cmp]
          have hv1 : ∀ i, i < 64 → bl (w.2 30 c) i = true → bl v i = true := fun i hi q => (e2 i hi).2 (.inl q)
          have hv2 : ∀ i, i < 64 → bl v i = true → zlfp (zfP g s i) c := by
            intro i hi q
            rcases (e2 i hi).1 q with q | ⟨c', t1, ⟨j, t2, t3, r, m, t4, t5, t6, t7⟩, t8⟩
            · exact c2 c hc i hi q
            · obtain ⟨q', u1, u2⟩ := zP_form (c2 c hc j t2 t3)
              have hz := g_z hg (zon_lt t4)
              have hm : m = 0 := by omega
              subst hm
              have hl := g_l hg (zon_lt t4)
              have t9 := c2 c hc j t2 t3
              rw [t7, Nat.add_zero] at t9
              refine zP_tr hl.1 t9 ?_
              exact zlfp_in (zfP_mo g s i) (.inr ⟨c', ⟨r, t4, by omega, t5, t6⟩, c2 c' t1 i hi t8⟩)
          have hmono : ∀ e, e < 26 → ∀ i, i < 64 → bl (w.2 30 e) i = true → bl ((zzwL w 30 c v).2 30 e) i = true := by
            intro e he i hi q
            rw [zn_if]
            by_cases ee : e = c
            · rw [if_pos ee]; rw [ee] at q; exact hv1 i hi q
            · rw [if_neg ee]; exact q
          have hsound : ∀ e, e < 26 → ∀ i, i < 64 → bl ((zzwL w 30 c v).2 30 e) i = true → zlfp (zfP g s i) e := by
            intro e he i hi q
            rw [zn_if] at q
            by_cases ee : e = c
            · rw [if_pos ee] at q; rw [ee]; exact hv2 i hi q
            · rw [if_neg ee] at q; exact c2 e he i hi q
          have hstep : ∀ e, e < c + 1 → e < 26 → ∀ i, i < 64 → zfP g s i (fun c => c < 26 ∧ bl (z.2 30 c) i = true) e → bl ((zzwL w 30 c v).2 30 e) i = true := by
            intro e he he2 i hi q
            by_cases ee : e = c
            · rw [ee] at q ⊢
              rw [zn_s]
              rcases q with q | ⟨c', ⟨r, t1, t2, t3, t4⟩, t5, t6⟩
              · exact hv1 i hi (c3 c hc i hi (k3 c hc i hi q))
              · refine (e2 i hi).2 (.inr ⟨c', t5, ⟨5 * r, ?_, ?_, r, 0, t1, t3, t4, rfl⟩, c3 c' t5 i hi t6⟩)
                · have := zon_lt t1; omega
                · exact c3 c hc _ (by have := zon_lt t1; omega) (k3 c hc _ (by have := zon_lt t1; omega) ⟨r, t1, t2, rfl⟩)
            · exact hmono e he2 i hi (c4 e (by omega) he2 i hi q)
          have hall : (∀ c, c < 26 → ∀ i, i < 64 → zlfp (zfP g s i) c → bl (z.2 30 c) i = true) → v = w.2 30 c := by
            intro hq
            refine l_ext fun i hi => ?_
            cases hvi : bl v i with
            | true => exact (c3 c hc i hi (hq c hc i hi (hv2 i hi hvi))).symm
            | false =>
              cases hwi : bl (w.2 30 c) i with
              | false => rfl
              | true => rw [hv1 i hi hwi] at hvi; cases hvi
          by_cases hx : v = w.2 30 c
          · rw [if_pos hx]
            refine hgo2 (b, _) ⟨zf_twL _ _ c1 rfl, hsound, fun e he i hi q => hmono e he i hi (c3 e he i hi q), hstep, fun q e he => ?_, c6⟩
            show (zzwL w 30 c v).2 30 e = z.2 30 e
            rw [zn_if]
            by_cases ee : e = c
            · rw [if_pos ee, hx, ee]; exact c5 q c hc
            · rw [if_neg ee]; exact c5 q e he
          · rw [if_neg hx]
            exact hgo2 (true, _) ⟨zf_twL _ _ c1 rfl, hsound, fun e he i hi q => hmono e he i hi (c3 e he i hi q), hstep, fun q => (by cases q), fun q => absurd (hall q) hx⟩
        · rintro ⟨b, w⟩ g3 ⟨c1, c2, c3, c4, c5, c6⟩
          simp only at c1 c2 c3 c4 c5 c6
          simp only [zI0, zI1, zI2, zI3, zI4, zI5, zI6, zI7, zI8, zJ0, zJ1, zJ2, zMM]
          rw [if_pos (by decide), zq_add]
          refine hgo (b, w) ⟨⟨c1, c2, fun c hc i hi q => c3 c hc i hi (k3 c hc i hi q), fun i hi => ?_⟩, fun q i hi c hc hf => ?_, fun q => ?_⟩
          · exact zround (zfP_mo g s i) (X := fun c => bl (z.2 30 c) i) (X' := fun c => bl (w.2 30 c) i) (fun c hc q => c2 c hc i hi q) (zfP_lt hg i) (fun c hc q => c3 c hc i hi q) (fun c hc hf => c4 c hc hc i hi hf) (k4 i hi)
          · simp only at q hf ⊢
            refine c4 c hc hc i hi (zfP_mo g s i _ _ (fun c t => ⟨t.1, ?_⟩) c hf)
            rw [← c5 q c t.1]
            exact t.2
          · simp only
            refine c6 fun c hc i hi hf => ?_
            have h5 := hg.2.2
            exact (zrest (X := fun c => bl (z.2 30 c) i) (i := n) (zfP_lt hg i) (k4 i hi) (fun c hc q => zP_left hg i c (k2 c hc i hi q)) (by omega) c hf).2
    · rintro ⟨b, z⟩ g'' ⟨⟨k1, k2, k3, k4⟩, k5, k6⟩
      simp only at k1 k2 k3 k4 k5 k6
      have hb := k6 trivial
      subst hb
      simp only [zI0, zI1, zI2, zI3, zI4, zI5, zI6, zI7, zI8, zJ0, zJ1, zJ2, zMM]
      rw [if_neg (by rw [zq_le (by omega) (by omega)]; omega), if_pos (by decide)]
      refine zw_some ⟨zf_trans a1 (zf_mono k1 rfl), fun x hx i hi => by rw [zf_l k1 rfl]; exact hA x hx i hi, fun c hc i hi => ⟨k2 c hc i hi, fun q => ?_⟩⟩
      have := zlfp_le (P := fun c => c < 26 ∧ bl (z.2 30 c) i = true) (fun c hf => ⟨zfP_lt hg i _ c hf, k5 rfl i hi c (zfP_lt hg i _ c hf) hf⟩) q
      exact this.2
