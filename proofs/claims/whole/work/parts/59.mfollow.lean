/-! FOLLOW of the reference -/
theorem zfW_lt {g : zG} {s : zSn} (hg : zwg g) (hn0 : 0 < gN g) : ∀ a P c, zfW g s a P c → c < 26 := by
  rintro a P c (⟨-, h1⟩ | ⟨r, h1, -, k, h3, h4, -⟩)
  · have := g_l hg hn0
    omega
  · have := g_s hg (zon_lt h1) h3
    omega
theorem zW_left {g : zG} {s : zSn} (hg : zwg g) (hn0 : 0 < gN g) : ∀ a c, zlfp (zfW g s a) c → gleft g c = true := by
  intro a c h
  refine zlfp_le (P := fun c => gleft g c = true) ?_ h
  rintro c (⟨-, h1⟩ | ⟨r, h1, -, k, h3, h4, -⟩)
  · have := gleft_of hg hn0
    rwa [← h1, Nat.add_sub_cancel_left] at this
  · have := zcap_left hg (zon_lt h1) h3 (by omega)
    rwa [h4, Nat.add_sub_cancel_left] at this
theorem m_followsIn {g : zG} {s : zSn} {μ : zzM} (h : zm2 g s μ) (hg : zwg g) (hE : zmE g s (μ.1 105 26)) (hF : zmF g s (μ.1 127)) (d : Nat) {r : Nat} (hon : zon g s r = true) (hre : zRe g s (gL g r - 26)) (hs0 : ∀ c, c < 26 → ∀ a, a < 32 → bt (μ.1 128 c) a = true → a < 27 ∧ zlfp (zfW g s a) c) :
    zw (zzf zzP zN (d + 4) 214 [.ref 105, .int (nI r)] μ) fun o => zfr [128] μ o.2 ∧ (∀ c, c < 26 → ∀ a, a < 32 → bt (o.2.1 128 c) a = true → a < 27 ∧ zlfp (zfW g s a) c) ∧ (∀ c, c < 26 → ∀ a, a < 32 → bt (μ.1 128 c) a = true → bt (o.2.1 128 c) a = true) ∧ (∀ k, k < gZ g r → 26 ≤ gS g r k → ∀ a, a < 32 → ((a < 26 ∧ zFB (fun c a => zFi g s a c) (zEc g s) (gS g r) (k + 1) (gZ g r) a) ∨ ((∀ j, k + 1 ≤ j → j < gZ g r → zEc g s (gS g r j)) ∧ bt (μ.1 128 (gL g r - 26)) a = true)) → bt (o.2.1 128 (gS g r k - 26)) a = true) := by
  have hn := g_n hg
  have hr := zon_lt hon
  have hz := g_z hg hr
  have hl := g_l hg hr
  rw [u_m_followsIn]
  refine zl_up (fun k (y : zzM) => ([nI r, nI k], [], y)) (fun k y => zfr [128] μ y ∧ (∀ c, c < 26 → ∀ a, a < 32 → bt (y.1 128 c) a = true → a < 27 ∧ zlfp (zfW g s a) c) ∧ (∀ c, c < 26 → ∀ a, a < 32 → bt (μ.1 128 c) a = true → bt (y.1 128 c) a = true) ∧ (∀ j, j < k → j < gZ g r → 26 ≤ gS g r j → ∀ a, a < 32 → ((a < 26 ∧ zFB (fun c a => zFi g s a c) (zEc g s) (gS g r) (j + 1) (gZ g r) a) ∨ ((∀ i, j + 1 ≤ i → i < gZ g r → zEc g s (gS g r i)) ∧ bt (μ.1 128 (gL g r - 26)) a = true)) → bt (y.1 128 (gS g r j - 26)) a = true)) 0 (gZ g r) μ (by omega) (by omega) rfl ⟨zf_refl _ _, hs0, fun c _ a _ q => q, fun j hj => absurd hj (by omega)⟩ ?_ ?_
  · rintro k y g' - hk ⟨a1, a2, a3, a4⟩ hgo
    have hs := g_s hg hr hk
    have h1 := zm2_fr h a1 rfl
    have hE1 : zmE g s (y.1 105 26) := by rw [zf_i a1 rfl]; exact hE
    have hF1 : zmF g s (y.1 127) := by rw [zf_i a1 rfl]; exact hF
    simp only [zI0, zI1, zI2, zI3, zI4, zI5, zI6, zI7, zI8, zJ0, zJ1, zJ2, zMM]
    rw [zr_i _ _ (by omega) (by omega), d_z h1 hr, Option.bind_some, if_neg (by rw [zq_le (by omega) (by omega)]; omega), d_symAt h1 hg hr hk, Option.bind_some, m_isCapital, Option.bind_some, zq_add k 1]
    simp only [zB_0]
    have e26 : (nI 26 ≤ nI (gS g r k)) = (26 ≤ gS g r k) := zq_le (by omega) (by omega)
    by_cases hc : 26 ≤ gS g r k
    · rw [if_neg (by rw [decide_eq_true (by rw [e26]; exact hc)]; decide), zq_sub hc, zr_i _ _ (by omega) (by omega), Option.bind_some]
      refine zw_bind (m_firstBehind h1 hg hE1 (d + 0) hr (lo := k + 1) (by omega)) ?_
      rintro ⟨⟨x, x2, x3⟩, w'⟩ ⟨e1, e2⟩
      simp only at e1 e2 ⊢
      have e1 := e1.symm
      subst e1
      rw [zs_i _ _ _ (by omega) (by omega), Option.bind_some]
      let A := zzwI y 128 (gS g r k - 26) (y.1 128 (gS g r k - 26) ||| x)
      have fA : zfr [128] μ A := zf_twI _ _ a1 rfl
      have hA := zm2_fr h fA rfl
      have hEA : zmE g s (A.1 105 26) := by rw [zf_i fA rfl]; exact hE
      show zw ((zzri A 128 26 (nI (gS g r k - 26))).bind fun x9 => (zzri A 108 12 (nI r)).bind fun x10 => (zzf zzP zN (d + 3) 202 [.ref 105, .int (A.1 105 26), .int (nI r), .int (nI (k + 1)), .int x10, .int (-(nI 1))] A).bind fun o11 => if o11.1.1 = 0 then (zzsi o11.2 128 26 (nI (gS g r k - 26)) (x9 ||| (nI 0))).bind fun m12 => g' ([nI r, nI (k + 1)], [], m12) else (zzri o11.2 107 12 (nI r)).bind fun x13 => (zzri o11.2 128 26 (x13 - (nI 26))).bind fun x14 => (zzsi o11.2 128 26 (nI (gS g r k - 26)) (x9 ||| x14)).bind fun m15 => g' ([nI r, nI (k + 1)], [], m15)) _
      rw [zr_i _ _ (by omega) (by omega), Option.bind_some, zr_i _ _ (by omega) (by omega), d_z hA hr, Option.bind_some]
      refine zw_bind (m_areIn hA hg (d + 0) (A.1 105 26) (lo := k + 1) (hi := gZ g r) (-(nI 1)) hr (by omega) (Nat.le_refl _)) ?_
      rintro ⟨⟨w, w2, w3⟩, y'⟩ ⟨e3, b, e4, e5⟩
      simp only at e3 e4 ⊢
      subst e3
      subst e4
      simp only [zB_0]
      have e6 : b = true ↔ ∀ j, k + 1 ≤ j → j < gZ g r → zEc g s (gS g r j) := by
        rw [e5]
        constructor
        · intro q j h1 h2
          refine (zmE_am hEA (g_s hg hr h2)).1 (q j h1 h2 fun q2 => ?_)
          have := zq_em (a := j) (by omega)
          rw [q2] at this
          exact cast this rfl
        · intro q j h1 h2 _
          exact (zmE_am hEA (g_s hg hr h2)).2 (q j h1 h2)
      -- what A holds
      have hAs : ∀ a, a < 32 → (bt (A.1 128 (gS g r k - 26)) a = true ↔ bt (y.1 128 (gS g r k - 26)) a = true ∨ (a < 26 ∧ zFB (fun c a => zFi g s a c) (zEc g s) (gS g r) (k + 1) (gZ g r) a)) := by
        intro a ha
        show bt ((zzwI y 128 (gS g r k - 26) (y.1 128 (gS g r k - 26) ||| x)).1 128 (gS g r k - 26)) a = true ↔ _
        rw [zm_s, b_or, Bool.or_eq_true, e2 a ha, zFB_F hg hF1 hr ha]
      have hAo : ∀ c, c ≠ gS g r k - 26 → A.1 128 c = y.1 128 c := fun c hne => zm_k _ _ _ _ hne
      have hAF : ∀ c, c < 26 → ∀ a, a < 32 → bt (A.1 128 c) a = true → a < 27 ∧ zlfp (zfW g s a) c := by
        intro c hc2 a ha q
        by_cases e : c = gS g r k - 26
        · rw [e] at q ⊢
          rcases (hAs a ha).1 q with q | q
          · exact a2 _ (by omega) a ha q
          · exact ⟨by omega, zlfp_in (zfW_mo g s a) (.inr ⟨r, hon, hre, k, hk, by omega, .inl q⟩)⟩
        · rw [hAo c e] at q
          exact a2 c hc2 a ha q
      have hAm : ∀ c, c < 26 → ∀ a, a < 32 → bt (y.1 128 c) a = true → bt (A.1 128 c) a = true := by
        intro c hc2 a ha q
        by_cases e : c = gS g r k - 26
        · rw [e] at q ⊢; exact (hAs a ha).2 (.inl q)
        · rw [hAo c e]; exact q
      cases b with
      | false =>
        rw [if_pos rfl, zs_i _ _ _ (by omega) (by omega), Option.bind_some, b_or0, zm_id rfl]
        refine hgo A ⟨fA, hAF, fun c hc2 a ha q => hAm c hc2 a ha (a3 c hc2 a ha q), fun j hj h1 h2 a ha h3 => ?_⟩
        by_cases e : j = k
        · subst e
          rcases h3 with h3 | h3
          · exact (hAs a ha).2 (.inr h3)
          · exact absurd (e6.2 h3.1) (by decide)
        · have h5 := g_s hg hr h1
          exact hAm _ (by omega) a ha (a4 j (by omega) h1 h2 a ha h3)
      | true =>
        have hall := e6.1 rfl
        rw [if_neg (by decide), zr_i _ _ (by omega) (by omega), d_l hA hr, Option.bind_some, zq_sub hl.1, zr_i _ _ (by omega) (by omega), Option.bind_some, zs_i _ _ _ (by omega) (by omega), Option.bind_some]
        have hBm : ∀ c, c < 26 → ∀ a, a < 32 → bt (A.1 128 c) a = true → bt ((zzwI A 128 (gS g r k - 26) (A.1 128 (gS g r k - 26) ||| A.1 128 (gL g r - 26))).1 128 c) a = true := by
          intro c hc2 a ha q
          rw [zm_if]
          by_cases e : c = gS g r k - 26
          · rw [if_pos e, b_or, ← e, q]; rfl
          · rw [if_neg e]; exact q
        refine hgo _ ⟨zf_twI _ _ fA rfl, fun c hc2 a ha q => ?_, fun c hc2 a ha q => hBm c hc2 a ha (hAm c hc2 a ha (a3 c hc2 a ha q)), fun j hj h1 h2 a ha h3 => ?_⟩
        · rw [zm_if] at q
          by_cases e : c = gS g r k - 26
          · rw [if_pos e, b_or, Bool.or_eq_true] at q
            rcases q with q | q
            · rw [← e] at q; exact hAF c hc2 a ha q
            · have q2 := hAF _ (by omega) a ha q
              rw [e]
              exact ⟨q2.1, zlfp_in (zfW_mo g s a) (.inr ⟨r, hon, hre, k, hk, by omega, .inr ⟨hall, q2.2⟩⟩)⟩
          · rw [if_neg e] at q
            exact hAF c hc2 a ha q
        · by_cases e : j = k
          · subst e
            rw [zm_s, b_or, Bool.or_eq_true]
            rcases h3 with h3 | h3
            · exact .inl ((hAs a ha).2 (.inr h3))
            · exact .inr (hAm _ (by omega) a ha (a3 _ (by omega) a ha h3.2))
          · have h5 := g_s hg hr h1
            exact hBm _ (by omega) a ha (hAm _ (by omega) a ha (a4 j (by omega) h1 h2 a ha h3))
    · rw [if_pos (decide_eq_false (by rw [e26]; exact hc))]
      refine hgo y ⟨a1, a2, a3, fun j hj h1 h2 => ?_⟩
      by_cases e : j = k
      · rw [e] at h2; exact absurd h2 hc
      · exact a4 j (by omega) h1 h2
  · rintro y g' ⟨a1, a2, a3, a4⟩
    have h1 := zm2_fr h a1 rfl
    simp only [zI0, zI1, zI2, zI3, zI4, zI5, zI6, zI7, zI8, zJ0, zJ1, zJ2, zMM]
    rw [zr_i _ _ (by omega) (by omega), d_z h1 hr, Option.bind_some, if_pos (by rw [zq_le (by omega) (by omega)]; omega)]
    exact zw_some ⟨a1, a2, a3, fun k hk => a4 k hk hk⟩
theorem m_laysFollow {g : zG} {s : zSn} {μ : zzM} (h : zm2 g s μ) (hg : zwg g) (hn0 : 0 < gN g) (d : Nat) : zw (zzf zzP zN (d + 7) 215 [.ref 105] μ) fun o => zfr [105, 127, 128] μ o.2 ∧ zmFa g s o.2 ∧ zmF g s (o.2.1 127) ∧ zmW g s (o.2.1 128) ∧ (∀ k, (k < 26 ∨ 29 < k) → o.2.1 105 k = μ.1 105 k) := by
  have hn := g_n hg
  have hl0 := g_l hg hn0
  rw [u_m_laysFollow]
  refine zw_bind (m_laysFirst h hg hn0 d) ?_
  rintro ⟨o, ν⟩ ⟨q1, q2, q3, q4⟩
  simp only at q1 q2 q3 q4 ⊢
  have hν := zm2_fr h q1 rfl
  refine zl_up (fun c (y : zzM) => ([nI c], [], y)) (fun c y => zfr [128] ν y ∧ ∀ e, e < c → y.1 128 e = if gL g 0 = 26 + e then nI 67108864 else nI 0) 0 26 ν (by omega) (by omega) rfl ⟨zf_refl _ _, fun e he => absurd he (by omega)⟩ ?_ ?_
  · rintro c y g' - hc ⟨a1, a2⟩ hgo
    have h1 := zm2_fr hν a1 rfl
    simp only [zI0, zI1, zI2, zI3, zI4, zI5, zI6, zI7, zI8, zJ0, zJ1, zJ2, zMM]
    rw [if_neg (by rw [zq_le (by omega) (by omega)]; omega), zr_i _ _ (by omega) (by omega), d_start h1 hn0, Option.bind_some, zq_add c 26, zq_add c 1]
    have ee : (nI (gL g 0) = nI (c + 26)) = (gL g 0 = c + 26) := zq_eq (by omega) (by omega)
    by_cases hs : gL g 0 = c + 26
    · rw [if_pos (by rw [ee]; exact hs), zs_i _ _ _ hc (by omega), Option.bind_some]
      refine hgo _ ⟨zf_twI _ _ a1 rfl, fun e he => ?_⟩
      rw [zm_if]
      by_cases e2 : e = c
      · rw [if_pos e2, if_pos (by omega)]
      · rw [if_neg e2]; exact a2 e (by omega)
    · rw [if_neg (by rw [ee]; exact hs), zs_i _ _ _ hc (by omega), Option.bind_some]
      refine hgo _ ⟨zf_twI _ _ a1 rfl, fun e he => ?_⟩
      rw [zm_if]
      by_cases e2 : e = c
      · rw [if_pos e2, if_neg (by omega)]
      · rw [if_neg e2]; exact a2 e (by omega)
  · rintro y g' ⟨a1, a2⟩
    simp only [zI0, zI1, zI2, zI3, zI4, zI5, zI6, zI7, zI8, zJ0, zJ1, zJ2, zMM]
    rw [if_pos (by decide)]
    refine zl_up (fun n (z : zzM) => ([nI n], [], z)) (fun n z => zfr [128] ν z ∧ bt (z.1 128 (gL g 0 - 26)) 26 = true ∧ zsoR (zfW g s) 27 n (z.1 128)) 0 6 y (by omega) (by omega) rfl ⟨a1, ?_, fun c hc a ha q => ?_, fun a _ => .inr (Nat.zero_le _)⟩ ?_ ?_
    · rw [a2 _ (by omega), if_pos (by omega), b_26 26 (by omega)]
      rfl
    · rw [a2 c hc] at q
      by_cases e : gL g 0 = 26 + c
      · rw [if_pos e, b_26 a ha, decide_eq_true_eq] at q
        exact ⟨by omega, zlfp_in (zfW_mo g s a) (.inl ⟨q, by omega⟩)⟩
      · rw [if_neg e, b_z] at q
        cases q
    · rintro n z g'' - hn6 ⟨b1, b0, b2⟩ hgo
      simp only [zI0, zI1, zI2, zI3, zI4, zI5, zI6, zI7, zI8, zJ0, zJ1, zJ2, zMM]
      rw [if_neg (by rw [zq_lt (by omega) (by omega)]; omega)]
      refine zl_up (fun r (w : zzM) => ([nI n, nI r], [], w)) (fun r w => zfr [128] ν w ∧ (∀ c, c < 26 → ∀ a, a < 32 → bt (w.1 128 c) a = true → a < 27 ∧ zlfp (zfW g s a) c) ∧ (∀ c, c < 26 → ∀ a, a < 32 → bt (z.1 128 c) a = true → bt (w.1 128 c) a = true) ∧ (∀ q, q < r → zon g s q = true → zRe g s (gL g q - 26) → ∀ k, k < gZ g q → 26 ≤ gS g q k → ∀ a, a < 32 → ((a < 26 ∧ zFB (fun c a => zFi g s a c) (zEc g s) (gS g q) (k + 1) (gZ g q) a) ∨ ((∀ j, k + 1 ≤ j → j < gZ g q → zEc g s (gS g q j)) ∧ bt (z.1 128 (gL g q - 26)) a = true)) → bt (w.1 128 (gS g q k - 26)) a = true)) 0 (gN g) z (by omega) (by omega) rfl ⟨b1, b2.1, fun c _ a _ q => q, fun q hq => absurd hq (by omega)⟩ ?_ ?_
      · rintro r w g3 - hr ⟨c1, c2, c3, c4⟩ hgo2
        have h1 := zm2_fr hν c1 rfl
        have i1 : w.1 105 = ν.1 105 := zf_i c1 rfl
        have hE1 : zmE g s (w.1 105 26) := by rw [i1]; exact q2.1
        have hF1 : zmF g s (w.1 127) := by rw [zf_i c1 rfl]; exact q3
        have hR1 : ∀ c, c < 32 → (bt (w.1 105 28) c = true ↔ zRe g s c) := by rw [i1]; exact q2.2.2.1
        have hl := g_l hg hr
        simp only [zI0, zI1, zI2, zI3, zI4, zI5, zI6, zI7, zI8, zJ0, zJ1, zJ2, zMM]
        rw [zr_i _ _ (by omega) (by omega), d_n h1, Option.bind_some, if_neg (by rw [zq_le (by omega) (by omega)]; omega), d_on h1 hg _ hr, Option.bind_some, zq_add r 1]
        simp only [zB_0]
        have skip : (zon g s r = true → ¬ zRe g s (gL g r - 26)) → zw (g3 ([nI n, nI (r + 1)], [], w)) (fun o => zfr [105, 127, 128] μ o.2 ∧ zmFa g s o.2 ∧ zmF g s (o.2.1 127) ∧ zmW g s (o.2.1 128) ∧ (∀ k, (k < 26 ∨ 29 < k) → o.2.1 105 k = μ.1 105 k)) := fun hno => hgo2 w ⟨c1, c2, c3, fun q hq t1 t2 => by
          by_cases e : q = r
          · rw [e] at t1 t2; exact absurd t2 (hno t1)
          · exact c4 q (by omega) t1 t2⟩
        cases hon : zon g s r with
        | false =>
          rw [if_pos rfl]
          exact skip fun q => (by rw [hon] at q; cases q)
        | true =>
          rw [if_neg (by decide), zr_i _ _ (by omega) (by omega), d_l h1 hr, Option.bind_some, m_bitOf _ hl.2, Option.bind_some]
          simp only [zbo_and hl.2]
          have ez : zam (w.1 105 28) (gL g r) = bt (w.1 105 28) (gL g r - 26) := by
            unfold zam
            rw [decide_eq_true hl.1, Bool.true_and]
          rw [ez]
          cases hv : bt (w.1 105 28) (gL g r - 26) with
          | false =>
            rw [if_pos rfl]
            exact skip fun _ q => (by rw [(hR1 _ (by omega)).2 q] at hv; cases hv)
          | true =>
            rw [if_neg (by decide)]
            refine zw_bind (m_followsIn h1 hg hE1 hF1 (d + 2) hon ((hR1 _ (by omega)).1 hv) c2) ?_
            rintro ⟨o2, w'⟩ ⟨e1, e2, e3, e4⟩
            simp only at e1 e2 e3 e4 ⊢
            refine hgo2 w' ⟨zf_trans c1 e1, e2, fun c hc a ha q => e3 c hc a ha (c3 c hc a ha q), fun q hq t1 t2 k t3 t4 a ha t5 => ?_⟩
            by_cases e : q = r
            · subst e
              exact e4 k t3 t4 a ha (t5.imp id fun t => ⟨t.1, c3 _ (by omega) a ha t.2⟩)
            · have h6 := g_s hg (show q < gN g by omega) t3
              exact e3 _ (by omega) a ha (c4 q (by omega) t1 t2 k t3 t4 a ha t5)
      · rintro w g3 ⟨c1, c2, c3, c4⟩
        have h1 := zm2_fr hν c1 rfl
        simp only [zI0, zI1, zI2, zI3, zI4, zI5, zI6, zI7, zI8, zJ0, zJ1, zJ2, zMM]
        rw [zr_i _ _ (by omega) (by omega), d_n h1, Option.bind_some, if_pos (by rw [zq_le (by omega) (by omega)]; omega), zq_add]
        refine hgo w ⟨c1, c3 _ (by omega) 26 (by omega) b0, zsoR_step (zfW_mo g s) (zfW_lt hg hn0) (by omega) b2 c2 c3 ?_⟩
        rintro a ha c hc (⟨t1, t2⟩ | ⟨r, t1, t2, k, t3, t4, t5⟩)
        · have e : gL g 0 - 26 = c := by omega
          rw [e] at b0
          rw [t1]
          exact c3 c hc 26 (by omega) b0
        · have h9 := c4 r (zon_lt t1) t1 t2 k t3 (by omega) a (by omega) (t5.imp id fun t => ⟨t.1, t.2.2⟩)
          rwa [t4, Nat.add_sub_cancel_left] at h9
    · rintro z g'' ⟨b1, -, b2⟩
      simp only [zI0, zI1, zI2, zI3, zI4, zI5, zI6, zI7, zI8, zJ0, zJ1, zJ2, zMM]
      rw [if_pos (by decide)]
      have hi : z.1 105 = ν.1 105 := zf_i b1 rfl
      refine zw_some ⟨zf_trans (zf_mono q1 rfl) (zf_mono b1 rfl), ?_, by rw [zf_i b1 rfl]; exact q3, zsoR_end (zfW_lt hg hn0) hg (zW_left hg hn0) (by omega) (by omega) b2, fun k hk => by rw [hi]; exact q4 k hk⟩
      unfold zmFa
      rw [hi]
      exact q2
