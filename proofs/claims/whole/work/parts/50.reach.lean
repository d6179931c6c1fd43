/-! REACHED: the class's findReached -/
theorem zcnt_bits {b x : Int32} {n : Nat} (hn : n ≤ 32) (h1 : ∀ c, c < 32 → bt b c = true → bt x c = true) (h2 : ∀ c, c < 32 → bt x c = true → c < n) (hne : b ≠ x) : zcnt (bt b) n < zcnt (bt x) n := by
  refine zcnt_lt (fun c hc h => h1 c (by omega) h) ?_
  apply Classical.byContradiction
  intro hno
  refine hne (b_ext fun c hc => ?_)
  cases hb : bt b c with
  | true => exact (h1 c hc hb).symm
  | false =>
    cases hx : bt x c with
    | false => rfl
    | true => exact absurd ⟨c, h2 c hc hx, hb, hx⟩ hno
def zfR (g : zG) (s : zSn) (P : Nat → Prop) (c : Nat) : Prop := 26 + c = gL g 0 ∨ ∃ r, zon g s r = true ∧ P (gL g r - 26) ∧ ∃ k, k < gZ g r ∧ gS g r k = 26 + c
def zRe (g : zG) (s : zSn) : Nat → Prop := zlfp (zfR g s)
theorem zfR_mo (g : zG) (s : zSn) : zmon (zfR g s) := by
  rintro P Q h c (h1 | ⟨r, h1, h2, h3⟩)
  · exact .inl h1
  · exact .inr ⟨r, h1, h _ h2, h3⟩
theorem s_capsOf {g : zG} {s : zSn} {μ : zzM} (h : zc2 g s μ) (hg : zwg g) (d : Nat) {r : Nat} (hr : r < gN g) : zw (zzf zzP zN (d + 2) 35 [.ref 21, .int (nI r)] μ) fun o => o.2 = μ ∧ ∀ c, c < 32 → (bt o.1.1 c = true ↔ ∃ k, k < gZ g r ∧ gS g r k = 26 + c) := by
  have hn := g_n hg
  have hz := g_z hg hr
  rw [u_facts_capitalsOf]
  refine zl_up (fun k (x : Int32) => ([nI r, x, nI k], [], μ)) (fun k x => ∀ c, c < 32 → (bt x c = true ↔ ∃ j, j < k ∧ gS g r j = 26 + c)) 0 (gZ g r) _ (by omega) (by omega) rfl ?_ ?_ ?_
  · intro c hc
    rw [b_z]
    constructor
    · intro h; cases h
    · rintro ⟨j, hj, -⟩; omega
  · rintro k x g' - hk hx hgo
    have hs := g_s hg hr hk
    simp only [zI0, zI1, zI2, zI3, zI4, zI5, zI6, zI7, zI8, zJ0, zJ1, zJ2, zMM]
    rw [zr_i _ _ (by omega) (by omega), c_z h hr, Option.bind_some, if_neg (by rw [zq_le (by omega) (by omega)]; omega), s_symAt h hg d hr hk, Option.bind_some, zq_add]
    simp only [zq_lt (show gS g r k < 2147483648 by omega) (show 26 < 2147483648 by omega)]
    by_cases hc : gS g r k < 26
    · rw [if_pos hc]
      refine hgo _ fun c hc2 => ?_
      rw [hx c hc2]
      constructor
      · rintro ⟨j, h1, h2⟩; exact ⟨j, by omega, h2⟩
      · rintro ⟨j, h1, h2⟩
        by_cases e : j = k
        · rw [e] at h2; omega
        · exact ⟨j, by omega, h2⟩
    · rw [if_neg hc, zq_sub (by omega)]
      refine hgo _ fun c hc2 => ?_
      rw [b_or, b_sh1 (by omega) hc2, Bool.or_eq_true, decide_eq_true_eq, hx c hc2]
      constructor
      · rintro (⟨j, h1, h2⟩ | h1)
        · exact ⟨j, by omega, h2⟩
        · exact ⟨k, by omega, by omega⟩
      · rintro ⟨j, h1, h2⟩
        by_cases e : j = k
        · rw [e] at h2; exact .inr (by omega)
        · exact .inl ⟨j, by omega, h2⟩
  · rintro x g' hx
    simp only [zI0, zI1, zI2, zI3, zI4, zI5, zI6, zI7, zI8, zJ0, zJ1, zJ2, zMM]
    rw [zr_i _ _ (by omega) (by omega), c_z h hr, Option.bind_some, if_pos (by rw [zq_le (by omega) (by omega)]; omega)]
    exact zw_some ⟨rfl, hx⟩
theorem s_findReached {g : zG} {s : zSn} {μ : zzM} (h : zc2 g s μ) (hg : zwg g) (hn0 : 0 < gN g) (d : Nat) : zw (zzf zzP zN (d + 3) 34 [.ref 21] μ) fun o => zfr [21] μ o.2 ∧ (∀ c, c < 32 → (bt (o.2.1 21 4) c = true ↔ zRe g s c)) ∧ (∀ k, k ≠ 4 → o.2.1 21 k = μ.1 21 k) := by
  have hn := g_n hg
  have hl0 := g_l hg hn0
  rw [u_facts_findReached, zr_i _ _ (by omega) (by omega), c_l h hn0, Option.bind_some, zq_sub hl0.1]
  refine zl_ms (fun x : Nat × Int32 × zzM => ([x.2.1, nI x.1], [], x.2.2)) (fun m x => m + x.1 = 40 ∧ x.1 ≤ zcnt (bt x.2.1) 26 + 1 ∧ zfr [21] μ x.2.2 ∧ (∀ c, c < 32 → bt (x.2.2.1 21 4) c = true → c < 26 ∧ zRe g s c) ∧ bt (x.2.2.1 21 4) (gL g 0 - 26) = true ∧ (∀ c, c < 32 → bt x.2.1 c = true → bt (x.2.2.1 21 4) c = true) ∧ (∀ r, zon g s r = true → bt x.2.1 (gL g r - 26) = true → ∀ k, k < gZ g r → 26 ≤ gS g r k → bt (x.2.2.1 21 4) (gS g r k - 26) = true) ∧ (∀ k, k ≠ 4 → x.2.2.1 21 k = μ.1 21 k)) 40 (0, nI 0, _) (by omega) rfl ?_ ?_
  · refine ⟨rfl, by omega, zf_wI _ _ rfl, fun c hc hb => ?_, ?_, fun c _ hb => ?_, fun r _ hb => ?_, fun k hk => ?_⟩
    · have hb : bt ((zzwI μ 21 4 (nI 1 <<< (nI (gL g 0 - 26) &&& 31))).1 21 4) c = true := hb
      rw [zm_s, b_sh1 (by omega) hc, decide_eq_true_eq] at hb
      exact ⟨by omega, zlfp_in (zfR_mo g s) (.inl (by omega))⟩
    · show bt ((zzwI μ 21 4 (nI 1 <<< (nI (gL g 0 - 26) &&& 31))).1 21 4) (gL g 0 - 26) = true
      rw [zm_s, b_sh1 (by omega) (by omega), decide_eq_true_eq]
    · rw [b_z] at hb; cases hb
    · rw [b_z] at hb; cases hb
    · show (zzwI μ 21 4 (nI 1 <<< (nI (gL g 0 - 26) &&& 31))).1 21 k = μ.1 21 k
      rw [zm_k _ _ _ _ hk]
  · rintro m ⟨i, b, ν⟩ gg ⟨hm, hi, hf, hs, h0, hsub, hcl, hk⟩ hgo
    simp only at hm hi hf hs h0 hsub hcl hk
    have hc2 := zc2_fr h hf rfl
    have hcn := zcnt_le (bt b) 26
    simp only [zI0, zI1, zI2, zI3, zI4, zI5, zI6, zI7, zI8, zJ0, zJ1, zJ2, zMM]
    rw [if_neg (by rw [zq_le (by omega) (by omega)]; omega)]
    by_cases hb : b = ν.1 21 4
    · rw [if_pos hb]
      refine zw_some ⟨hf, fun c hc => ⟨fun q => (hs c hc q).2, fun q => ?_⟩, hk⟩
      have hP : c < 26 ∧ bt (ν.1 21 4) c = true := by
        refine zlfp_le (P := fun c => c < 26 ∧ bt (ν.1 21 4) c = true) ?_ q
        rintro c (h1 | ⟨r, h1, h2, k, h3, h4⟩)
        · have e : gL g 0 - 26 = c := by omega
          rw [e] at h0
          exact ⟨by omega, h0⟩
        · have h5 := g_s hg (zon_lt h1) h3
          have h6 := hcl r h1 (by rw [hb]; exact h2.2) k h3 (by omega)
          rw [h4, Nat.add_sub_cancel_left] at h6
          exact ⟨by omega, h6⟩
      exact hP.2
    · rw [if_neg hb]
      have hlt := zcnt_bits (n := 26) (by omega) hsub (fun c hc q => (hs c hc q).1) hb
      refine zl_up (fun r (y : zzM) => ([ν.1 21 4, nI i, nI r], [], y)) (fun r y => zfr [21] μ y ∧ (∀ c, c < 32 → bt (y.1 21 4) c = true → c < 26 ∧ zRe g s c) ∧ (∀ c, c < 32 → bt (ν.1 21 4) c = true → bt (y.1 21 4) c = true) ∧ (∀ q, q < r → zon g s q = true → bt (ν.1 21 4) (gL g q - 26) = true → ∀ k, k < gZ g q → 26 ≤ gS g q k → bt (y.1 21 4) (gS g q k - 26) = true) ∧ (∀ k, k ≠ 4 → y.1 21 k = μ.1 21 k)) 0 (gN g) ν (by omega) (by omega) rfl ⟨hf, hs, fun c _ q => q, fun q hq => absurd hq (by omega), hk⟩ ?_ ?_
      · rintro r y g' - hr ⟨a1, a2, a3, a4, a5⟩ hgo2
        have hc3 := zc2_fr h a1 rfl
        have hl := g_l hg hr
        simp only [zI0, zI1, zI2, zI3, zI4, zI5, zI6, zI7, zI8, zJ0, zJ1, zJ2, zMM]
        rw [c_n hc3, if_neg (by rw [zq_le (by omega) (by omega)]; omega), s_isTold hc3 hg _ (by omega), Option.bind_some]
        simp only [zB_0]
        rw [zq_add]
        have keep : (zon g s r = true → bt (ν.1 21 4) (gL g r - 26) = true → ∀ k, k < gZ g r → 26 ≤ gS g r k → bt (y.1 21 4) (gS g r k - 26) = true) → zw (g' ([ν.1 21 4, nI i, nI (r + 1)], [], y)) fun o => zfr [21] μ o.2 ∧ (∀ c, c < 32 → (bt (o.2.1 21 4) c = true ↔ zRe g s c)) ∧ (∀ k, k ≠ 4 → o.2.1 21 k = μ.1 21 k) := fun hx => hgo2 y ⟨a1, a2, a3, fun q hq => by
          by_cases e : q = r
          · rw [e]; exact hx
          · exact a4 q (by omega), a5⟩
        cases hon : zon g s r with
        | false =>
          rw [if_pos rfl]
          exact keep fun q => by rw [hon] at q; cases q
        | true =>
          rw [if_neg (by decide), zr_i _ _ (by omega) (by omega), c_l hc3 hr, Option.bind_some, s_isAmong _ (by omega), Option.bind_some]
          simp only [zB_0]
          rw [decide_eq_true hl.1, Bool.true_and]
          cases hin : bt (y.1 21 4) (gL g r - 26) with
          | false =>
            rw [if_pos rfl]
            exact keep fun _ q => by rw [a3 _ (by omega) q] at hin; cases hin
          | true =>
            rw [if_neg (by decide)]
            refine zw_bind (s_capsOf hc3 hg d hr) ?_
            rintro ⟨⟨a, b', c'⟩, y'⟩ ⟨e1, e2⟩
            simp only at e1 e2 ⊢
            subst e1
            refine hgo2 _ ⟨zf_twI _ _ a1 rfl, fun c hc q => ?_, fun c hc q => ?_, fun q hq h1 h2 k h3 h4 => ?_, fun k hk2 => ?_⟩
            · rw [zm_s, b_or, Bool.or_eq_true] at q
              rcases q with q | q
              · exact a2 c hc q
              · obtain ⟨k, h3, h4⟩ := (e2 c hc).1 q
                have h5 := g_s hg hr h3
                exact ⟨by omega, zlfp_in (zfR_mo g s) (.inr ⟨r, hon, (a2 _ (by omega) hin).2, k, h3, h4⟩)⟩
            · rw [zm_s, b_or, a3 c hc q]
              rfl
            · rw [zm_s, b_or, Bool.or_eq_true]
              by_cases e : q = r
              · subst e
                have h5 := g_s hg hr h3
                exact .inr ((e2 _ (by omega)).2 ⟨k, h3, by omega⟩)
              · exact .inl (a4 q (by omega) h1 h2 k h3 h4)
            · rw [zm_k _ _ _ _ hk2]
              exact a5 k hk2
      · rintro y g' ⟨a1, a2, a3, a4, a5⟩
        have hc3 := zc2_fr h a1 rfl
        simp only [zI0, zI1, zI2, zI3, zI4, zI5, zI6, zI7, zI8, zJ0, zJ1, zJ2, zMM]
        rw [c_n hc3, if_pos (by rw [zq_le (by omega) (by omega)]; omega), zq_add]
        refine hgo (m - 1) (i + 1, ν.1 21 4, y) (by omega) ⟨by simp only; omega, by simp only; omega, a1, a2, a3 _ (by omega) h0, a3, fun r hr => a4 r (zon_lt hr) hr, a5⟩
