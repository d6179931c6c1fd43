/-! FOLLOW: the class's findFollows -/
def zfW (g : zG) (s : zSn) (a : Nat) (P : Nat → Prop) (c : Nat) : Prop := (a = 26 ∧ 26 + c = gL g 0) ∨ ∃ r, zon g s r = true ∧ zRe g s (gL g r - 26) ∧ ∃ k, k < gZ g r ∧ gS g r k = 26 + c ∧ ((a < 26 ∧ zFB (fun c a => zFi g s a c) (zEc g s) (gS g r) (k + 1) (gZ g r) a) ∨ ((∀ j, k + 1 ≤ j → j < gZ g r → zEc g s (gS g r j)) ∧ P (gL g r - 26)))
def zFo (g : zG) (s : zSn) (a : Nat) : Nat → Prop := zlfp (zfW g s a)
theorem zfW_mo (g : zG) (s : zSn) (a : Nat) : zmon (zfW g s a) := by
  rintro P Q h c (h1 | ⟨r, h1, h2, k, h3, h4, h5⟩)
  · exact .inl h1
  · exact .inr ⟨r, h1, h2, k, h3, h4, h5.imp id fun q => ⟨q.1, h _ q.2⟩⟩
/-- the row of FIRST in the memory -/
def zmF (g : zG) (s : zSn) (f : Nat → Int32) : Prop := ∀ c, c < 26 → ∀ a, a < 32 → (bt (f c) a = true ↔ a < 26 ∧ zFi g s a c)
theorem zFB_F {g : zG} {s : zSn} (hg : zwg g) {f : Nat → Int32} (hF : zmF g s f) {r lo a : Nat} (hr : r < gN g) (ha : a < 32) : zFB (fun c p => bt (f c) p = true) (zEc g s) (gS g r) lo (gZ g r) a ↔ a < 26 ∧ zFB (fun c a => zFi g s a c) (zEc g s) (gS g r) lo (gZ g r) a := by
  constructor
  · rintro ⟨k, h1, h2, h3, h4⟩
    have h5 := g_s hg hr h2
    rcases h4 with h4 | h4
    · exact ⟨by omega, k, h1, h2, h3, .inl h4⟩
    · have h6 := (hF _ (by omega) a ha).1 h4.2
      exact ⟨h6.1, k, h1, h2, h3, .inr ⟨h4.1, h6.2⟩⟩
  · rintro ⟨h0, k, h1, h2, h3, h4⟩
    have h5 := g_s hg hr h2
    exact ⟨k, h1, h2, h3, h4.imp id fun q => ⟨q.1, (hF _ (by omega) a ha).2 ⟨h0, q.2⟩⟩⟩
/-- what a walk over rules adds to the row at cell 23 -/
def zgrow (ν y : zzM) (b : Bool) : Prop := (∀ c, c < 26 → ∀ a, a < 32 → bt (ν.1 23 c) a = true → bt (y.1 23 c) a = true) ∧ (b = false → ∀ c, c < 26 → y.1 23 c = ν.1 23 c) ∧ (b = true → ztot (ν.1 23) 26 27 < ztot (y.1 23) 26 27)
theorem zgrow_refl (ν : zzM) : zgrow ν ν false := ⟨fun c _ a _ q => q, fun _ c _ => rfl, fun q => (by cases q)⟩
theorem ztot_eq {f f' : Nat → Int32} {n m : Nat} (h : ∀ c, c < n → f c = f' c) : ztot f n m = ztot f' n m := by
  apply Nat.le_antisymm
  · exact zsuM_le fun c hc => by rw [h c hc]; exact Nat.le_refl _
  · exact zsuM_le fun c hc => by rw [h c hc]; exact Nat.le_refl _
theorem ztot_le {f f' : Nat → Int32} {n m : Nat} (h1 : ∀ c, c < n → ∀ a, a < m → bt (f c) a = true → bt (f' c) a = true) : ztot f n m ≤ ztot f' n m := zsuM_le fun c hc => zcnt_mono fun a ha => h1 c hc a ha
theorem zgrow_tr {ν y z : zzM} {b b' : Bool} (h : zgrow ν y b) (h' : zgrow y z b') : zgrow ν z (b || b') := by
  refine ⟨fun c hc a ha q => h'.1 c hc a ha (h.1 c hc a ha q), fun q c hc => ?_, fun q => ?_⟩
  · rw [Bool.or_eq_false_iff] at q
    rw [h'.2.1 q.2 c hc, h.2.1 q.1 c hc]
  · have hle1 : ztot (ν.1 23) 26 27 ≤ ztot (y.1 23) 26 27 := ztot_le fun c hc a ha q => h.1 c hc a (by omega) q
    have hle2 : ztot (y.1 23) 26 27 ≤ ztot (z.1 23) 26 27 := ztot_le fun c hc a ha q => h'.1 c hc a (by omega) q
    rw [Bool.or_eq_true] at q
    rcases q with q | q
    · have := h.2.2 q; omega
    · have := h'.2.2 q; omega
theorem zgrow_add {y : zzM} {x : Nat} (w : Int32) (hx : x < 26) (hw : ∀ a, a < 32 → bt w a = true → a < 27) : zgrow y (zzwI y 23 x (y.1 23 x ||| w)) (!decide ((y.1 23 x ||| w) = y.1 23 x)) := by
  have hm : ∀ c, c < 26 → ∀ a, a < 32 → bt (y.1 23 c) a = true → bt ((zzwI y 23 x (y.1 23 x ||| w)).1 23 c) a = true := by
    intro c hc a ha q
    rw [zm_if]
    by_cases e : c = x
    · rw [if_pos e, b_or, ← e, q]; rfl
    · rw [if_neg e]; exact q
  refine ⟨hm, fun q c hc => ?_, fun q => ?_⟩
  · rw [zm_id (zbn_f q).symm]
  · obtain ⟨a, ha, h1, h2⟩ := b_orne (zbn_t q)
    exact ztot_lt (fun c hc a ha q => hm c hc a (by omega) q) ⟨x, hx, a, hw a ha h2, h1, by rw [zm_s, b_or, h2, Bool.or_true]⟩
theorem s_followIn {g : zG} {s : zSn} {μ : zzM} (h : zc2 g s μ) (hg : zwg g) (hE : zmE g s (μ.1 21 2)) (hF : zmF g s (μ.1 22)) (d : Nat) {r : Nat} (hon : zon g s r = true) (hre : zRe g s (gL g r - 26)) (hs0 : ∀ c, c < 26 → ∀ a, a < 32 → bt (μ.1 23 c) a = true → a < 27 ∧ zFo g s a c) :
    zw (zzf zzP zN (d + 3) 38 [.ref 21, .int (nI r)] μ) fun o => ∃ b, o.1.1 = zB b ∧ zfr [23] μ o.2 ∧ zgrow μ o.2 b ∧ (∀ c, c < 26 → ∀ a, a < 32 → bt (o.2.1 23 c) a = true → a < 27 ∧ zFo g s a c) ∧ (∀ k, k < gZ g r → 26 ≤ gS g r k → ∀ a, a < 32 → ((a < 26 ∧ zFB (fun c a => zFi g s a c) (zEc g s) (gS g r) (k + 1) (gZ g r) a) ∨ ((∀ j, k + 1 ≤ j → j < gZ g r → zEc g s (gS g r j)) ∧ bt (μ.1 23 (gL g r - 26)) a = true)) → bt (o.2.1 23 (gS g r k - 26)) a = true) := by
  have hn := g_n hg
  have hr := zon_lt hon
  have hz := g_z hg hr
  have hl := g_l hg hr
  rw [u_facts_followInside]
  refine zl_up (fun k (x : Bool × zzM) => ([nI r, zB x.1, nI k], [], x.2)) (fun k x => zfr [23] μ x.2 ∧ zgrow μ x.2 x.1 ∧ (∀ c, c < 26 → ∀ a, a < 32 → bt (x.2.1 23 c) a = true → a < 27 ∧ zFo g s a c) ∧ (∀ j, j < k → j < gZ g r → 26 ≤ gS g r j → ∀ a, a < 32 → ((a < 26 ∧ zFB (fun c a => zFi g s a c) (zEc g s) (gS g r) (j + 1) (gZ g r) a) ∨ ((∀ i, j + 1 ≤ i → i < gZ g r → zEc g s (gS g r i)) ∧ bt (μ.1 23 (gL g r - 26)) a = true)) → bt (x.2.1 23 (gS g r j - 26)) a = true)) 0 (gZ g r) (false, μ) (by omega) (by omega) rfl ⟨zf_refl _ _, zgrow_refl _, hs0, fun j hj => absurd hj (by omega)⟩ ?_ ?_
  · rintro k ⟨b, y⟩ g' - hk ⟨a1, a2, a3, a4⟩ hgo
    simp only at a1 a2 a3 a4
    have hs := g_s hg hr hk
    have hc2 := zc2_fr h a1 rfl
    have hE2 : zmE g s (y.1 21 2) := by rw [zf_i a1 rfl]; exact hE
    have hF2 : zmF g s (y.1 22) := by rw [zf_i a1 rfl]; exact hF
    simp only [zI0, zI1, zI2, zI3, zI4, zI5, zI6, zI7, zI8, zJ0, zJ1, zJ2, zMM]
    rw [zr_i _ _ (by omega) (by omega), c_z hc2 hr, Option.bind_some, if_neg (by rw [zq_le (by omega) (by omega)]; omega), s_symAt hc2 hg _ hr hk, Option.bind_some, zq_add]
    simp only [zq_lt (show gS g r k < 2147483648 by omega) (show 26 < 2147483648 by omega)]
    by_cases hc : gS g r k < 26
    · rw [if_pos hc]
      refine hgo (b, y) ⟨a1, a2, a3, fun j hj => ?_⟩
      by_cases e : j = k
      · rw [e]; intro _ q; omega
      · exact a4 j (by omega)
    · rw [if_neg hc]
      refine zw_bind (s_firstsOf hc2 hg hE2 (d + 0) hr (lo := k + 1) (by omega)) ?_
      rintro ⟨⟨w, w2, w3⟩, y'⟩ ⟨e1, e2⟩
      simp only at e1 e2 ⊢
      have e1 := e1.symm
      subst e1
      -- the step: a set w' of bits is added to the row of that symbol
      have key : ∀ w' : Int32, (∀ a, a < 32 → (bt w' a = true ↔ (a < 26 ∧ zFB (fun c a => zFi g s a c) (zEc g s) (gS g r) (k + 1) (gZ g r) a) ∨ ((∀ i, k + 1 ≤ i → i < gZ g r → zEc g s (gS g r i)) ∧ bt (y.1 23 (gL g r - 26)) a = true))) → zw (g' ([nI r, zB (b || !decide ((y.1 23 (gS g r k - 26) ||| w') = y.1 23 (gS g r k - 26))), nI (k + 1)], [], zzwI y 23 (gS g r k - 26) (y.1 23 (gS g r k - 26) ||| w'))) (fun o => ∃ b, o.1.1 = zB b ∧ zfr [23] μ o.2 ∧ zgrow μ o.2 b ∧ (∀ c, c < 26 → ∀ a, a < 32 → bt (o.2.1 23 c) a = true → a < 27 ∧ zFo g s a c) ∧ (∀ k, k < gZ g r → 26 ≤ gS g r k → ∀ a, a < 32 → ((a < 26 ∧ zFB (fun c a => zFi g s a c) (zEc g s) (gS g r) (k + 1) (gZ g r) a) ∨ ((∀ j, k + 1 ≤ j → j < gZ g r → zEc g s (gS g r j)) ∧ bt (μ.1 23 (gL g r - 26)) a = true)) → bt (o.2.1 23 (gS g r k - 26)) a = true)) := by
        intro w' hw'
        have hwF : ∀ a, a < 32 → bt w' a = true → a < 27 ∧ zFo g s a (gS g r k - 26) := by
          intro a ha q
          rcases (hw' a ha).1 q with q | q
          · exact ⟨by omega, zlfp_in (zfW_mo g s a) (.inr ⟨r, hon, hre, k, hk, by omega, .inl q⟩)⟩
          · have q2 := a3 _ (by omega) a ha q.2
            exact ⟨q2.1, zlfp_in (zfW_mo g s a) (.inr ⟨r, hon, hre, k, hk, by omega, .inr ⟨q.1, q2.2⟩⟩)⟩
        have hadd := zgrow_add (y := y) (x := gS g r k - 26) w' (by omega) fun a ha q => (hwF a ha q).1
        refine hgo (b || !decide ((y.1 23 (gS g r k - 26) ||| w') = y.1 23 (gS g r k - 26)), _) ⟨zf_twI _ _ a1 rfl, zgrow_tr a2 hadd, fun c hc a ha q => ?_, fun j hj h1 h2 a ha h3 => ?_⟩
        · change bt ((zzwI _ _ _ _).1 _ _) _ = true at q
          rw [zm_if] at q
          by_cases e : c = gS g r k - 26
          · rw [if_pos e, b_or, Bool.or_eq_true] at q
            rcases q with q | q
            · rw [← e] at q; exact a3 c hc a ha q
            · rw [e]; exact hwF a ha q
          · rw [if_neg e] at q
            exact a3 c hc a ha q
        · show bt ((zzwI y 23 (gS g r k - 26) (y.1 23 (gS g r k - 26) ||| w')).1 23 _) _ = true
          by_cases e : j = k
          · subst e
            rw [zm_s, b_or, Bool.or_eq_true]
            refine .inr ((hw' a ha).2 (h3.imp id fun q => ⟨q.1, a2.1 _ (by omega) a ha q.2⟩))
          · have h5 := g_s hg hr h1
            exact hadd.1 _ (by omega) a ha (a4 j (by omega) h1 h2 a ha h3)
      have e27 : (w &&& nI 134217728) = 0 ↔ ¬ ∀ i, k + 1 ≤ i → i < gZ g r → zEc g s (gS g r i) := by
        have h27 : bt w 27 = true ↔ ∀ i, k + 1 ≤ i → i < gZ g r → zEc g s (gS g r i) := by
          rw [e2 27 (by omega), zFB_F hg hF2 hr (by omega)]
          constructor
          · rintro (q | q)
            · omega
            · exact q.2
          · intro q; exact .inr ⟨rfl, q⟩
        rw [b_and0]
        constructor
        · intro q hall
          exact q 27 (by omega) ⟨h27.2 hall, by decide⟩
        · rintro hno j hj ⟨q1, q2⟩
          rw [b_27 j hj, decide_eq_true_eq] at q2
          rw [q2] at q1
          exact hno (h27.1 q1)
      by_cases hall : ∀ i, k + 1 ≤ i → i < gZ g r → zEc g s (gS g r i)
      · rw [if_neg (fun q => (e27.1 q) hall), zr_i _ _ (by omega) (by omega), c_l hc2 hr, Option.bind_some, zq_sub hl.1, zr_i _ _ (by omega) (by omega), Option.bind_some, s_add_23 _ _ (by omega) (by omega), Option.bind_some, zB_or]
        refine key _ fun a ha => ?_
        rw [b_or, b_and, b_n27 a ha, Bool.or_eq_true, Bool.and_eq_true, decide_eq_true_eq, e2 a ha, zFB_F hg hF2 hr ha]
        constructor
        · rintro (⟨q | q, q2⟩ | q)
          · exact .inl q
          · exact absurd q.1 q2
          · exact .inr ⟨hall, q⟩
        · rintro (q | q)
          · exact .inl ⟨.inl q, by omega⟩
          · exact .inr q.2
      · rw [if_pos (e27.2 hall), s_add_23 _ _ (by omega) (by omega), Option.bind_some, zB_or]
        refine key _ fun a ha => ?_
        rw [e2 a ha, zFB_F hg hF2 hr ha]
        constructor
        · rintro (q | q)
          · exact .inl q
          · exact absurd q.2 hall
        · rintro (q | q)
          · exact .inl q
          · exact absurd q.1 hall
  · rintro ⟨b, y⟩ g' ⟨a1, a2, a3, a4⟩
    simp only at a1 a2 a3 a4
    have hc2 := zc2_fr h a1 rfl
    simp only [zI0, zI1, zI2, zI3, zI4, zI5, zI6, zI7, zI8, zJ0, zJ1, zJ2, zMM]
    rw [zr_i _ _ (by omega) (by omega), c_z hc2 hr, Option.bind_some, if_pos (by rw [zq_le (by omega) (by omega)]; omega), if_pos (by rw [zB_ok]; trivial)]
    exact zw_some ⟨b, rfl, a1, a2, a3, fun k hk => a4 k hk hk⟩
theorem b_26 : ∀ p, p < 32 → bt (nI 67108864) p = decide (p = 26) := by decide +kernel
/-- the row of FOLLOW in the memory -/
def zmW (g : zG) (s : zSn) (f : Nat → Int32) : Prop := ∀ c, c < 26 → ∀ a, a < 32 → (bt (f c) a = true ↔ a < 27 ∧ zFo g s a c)
theorem s_findFollows {g : zG} {s : zSn} {μ : zzM} (h : zc2 g s μ) (hg : zwg g) (hn0 : 0 < gN g) (hE : zmE g s (μ.1 21 2)) (hF : zmF g s (μ.1 22)) (hR : ∀ c, c < 32 → (bt (μ.1 21 4) c = true ↔ zRe g s c)) (d : Nat) : zw (zzf zzP zN (d + 4) 37 [.ref 21] μ) fun o => zfr [23] μ o.2 ∧ zmW g s (o.2.1 23) := by
  have hn := g_n hg
  have hl0 := g_l hg hn0
  rw [u_facts_findFollows, s_fill_23, Option.bind_some, zr_i _ _ (by omega) (by omega)]
  have hc0 : zc2 g s (zblk μ 23 0 26 fun _ => nI 0) := zc2_fr (L := [23]) h (zf_b _ _ _ rfl) rfl
  rw [c_l hc0 hn0, Option.bind_some, s_add_23 _ _ (by omega) (by omega), Option.bind_some]
  refine zl_ms (fun x : Nat × Bool × zzM => ([zB x.2.1, nI x.1], [], x.2.2)) (fun m x => m + x.1 = 800 ∧ x.1 ≤ ztot (x.2.2.1 23) 26 27 + (if x.2.1 then 0 else 1) ∧ zfr [23] μ x.2.2 ∧ (∀ c, c < 26 → ∀ a, a < 32 → bt (x.2.2.1 23 c) a = true → a < 27 ∧ zFo g s a c) ∧ bt (x.2.2.1 23 (gL g 0 - 26)) 26 = true ∧ (x.2.1 = false → ∀ r, zon g s r = true → zRe g s (gL g r - 26) → ∀ k, k < gZ g r → 26 ≤ gS g r k → ∀ a, a < 32 → ((a < 26 ∧ zFB (fun c a => zFi g s a c) (zEc g s) (gS g r) (k + 1) (gZ g r) a) ∨ ((∀ j, k + 1 ≤ j → j < gZ g r → zEc g s (gS g r j)) ∧ bt (x.2.2.1 23 (gL g r - 26)) a = true)) → bt (x.2.2.1 23 (gS g r k - 26)) a = true)) 800 (0, true, _) (by omega) rfl ?_ ?_
  · refine ⟨rfl, by simp only [if_true]; omega, zf_twI _ _ (zf_b _ _ _ rfl) rfl, fun c hc a ha q => ?_, ?_, fun q => (by cases q)⟩
    · change bt ((zzwI _ _ _ _).1 _ _) _ = true at q
      rw [zm_if] at q
      by_cases e : c = gL g 0 - 26
      · rw [if_pos e, zb_i _ _ _ (by omega) (by omega), b_or, b_z, Bool.false_or, b_26 a ha, decide_eq_true_eq] at q
        exact ⟨by omega, zlfp_in (zfW_mo g s a) (.inl ⟨q, by omega⟩)⟩
      · rw [if_neg e, zb_i _ _ _ (by omega) hc, b_z] at q
        cases q
    · show bt ((zzwI _ 23 (gL g 0 - 26) _).1 23 (gL g 0 - 26)) 26 = true
      rw [zm_s, b_or, b_26 26 (by omega)]
      simp
  · rintro m ⟨i, b, ν⟩ gg ⟨hm, hi, hf, hs, h0, hcl⟩ hgo
    simp only at hm hi hf hs h0 hcl
    have htb := ztot_b (ν.1 23) 27 26
    have hi2 : i ≤ 703 := by
      have : (if b = true then 0 else 1) ≤ 1 := by split <;> omega
      omega
    simp only [zI0, zI1, zI2, zI3, zI4, zI5, zI6, zI7, zI8, zJ0, zJ1, zJ2, zMM]
    rw [if_neg (by rw [zq_le (by omega) (by omega)]; omega)]
    simp only [zB_0]
    cases b with
    | false =>
      rw [if_pos rfl]
      refine zw_some ⟨hf, fun c hc a ha => ⟨fun q => hs c hc a ha q, fun q => ?_⟩⟩
      have hP : c < 26 ∧ bt (ν.1 23 c) a = true := by
        refine zlfp_le (P := fun c => c < 26 ∧ bt (ν.1 23 c) a = true) ?_ q.2
        rintro c (⟨h1, h2⟩ | ⟨r, h1, h2, k, h3, h4, h5⟩)
        · have e : gL g 0 - 26 = c := by omega
          rw [e] at h0
          rw [h1]
          exact ⟨by omega, h0⟩
        · have h6 := g_s hg (zon_lt h1) h3
          have h7 := hcl rfl r h1 h2 k h3 (by omega) a ha (h5.imp id fun q => ⟨q.1, q.2.2⟩)
          rw [h4, Nat.add_sub_cancel_left] at h7
          exact ⟨by omega, h7⟩
      exact hP.2
    | true =>
      rw [if_neg (by decide)]
      simp only [if_true] at hi
      refine zl_up (fun r (y : Bool × zzM) => ([zB y.1, nI i, nI r], [], y.2)) (fun r y => zfr [23] μ y.2 ∧ zgrow ν y.2 y.1 ∧ (∀ c, c < 26 → ∀ a, a < 32 → bt (y.2.1 23 c) a = true → a < 27 ∧ zFo g s a c) ∧ (∀ q, q < r → zon g s q = true → zRe g s (gL g q - 26) → ∀ k, k < gZ g q → 26 ≤ gS g q k → ∀ a, a < 32 → ((a < 26 ∧ zFB (fun c a => zFi g s a c) (zEc g s) (gS g q) (k + 1) (gZ g q) a) ∨ ((∀ j, k + 1 ≤ j → j < gZ g q → zEc g s (gS g q j)) ∧ bt (ν.1 23 (gL g q - 26)) a = true)) → bt (y.2.1 23 (gS g q k - 26)) a = true)) 0 (gN g) (false, ν) (by omega) (by omega) rfl ⟨hf, zgrow_refl _, hs, fun q hq => absurd hq (by omega)⟩ ?_ ?_
      · rintro r ⟨b, y⟩ g' - hr ⟨a1, a2, a3, a4⟩ hgo2
        simp only at a1 a2 a3 a4
        have hc3 := zc2_fr h a1 rfl
        have hl := g_l hg hr
        have hE3 : zmE g s (y.1 21 2) := by rw [zf_i a1 rfl]; exact hE
        have hF3 : zmF g s (y.1 22) := by rw [zf_i a1 rfl]; exact hF
        have hR3 : ∀ c, c < 32 → (bt (y.1 21 4) c = true ↔ zRe g s c) := by rw [zf_i a1 rfl]; exact hR
        simp only [zI0, zI1, zI2, zI3, zI4, zI5, zI6, zI7, zI8, zJ0, zJ1, zJ2, zMM]
        rw [c_n hc3, if_neg (by rw [zq_le (by omega) (by omega)]; omega), s_isTold hc3 hg _ (by omega), Option.bind_some]
        simp only [zB_0]
        rw [zq_add]
        have skip : (zon g s r = true → ¬ zRe g s (gL g r - 26)) → zw (g' ([zB b, nI i, nI (r + 1)], [], y)) (fun o => zfr [23] μ o.2 ∧ zmW g s (o.2.1 23)) := fun hno => hgo2 (b, y) ⟨a1, a2, a3, fun q hq h1 h2 => by
          by_cases e : q = r
          · rw [e] at h1 h2; exact absurd h2 (hno h1)
          · exact a4 q (by omega) h1 h2⟩
        cases hon : zon g s r with
        | false =>
          rw [if_pos rfl]
          exact skip fun q => (by rw [hon] at q; cases q)
        | true =>
          rw [if_neg (by decide), zr_i _ _ (by omega) (by omega), c_l hc3 hr, Option.bind_some, s_isAmong _ (by omega), Option.bind_some]
          simp only [zB_0]
          rw [decide_eq_true hl.1, Bool.true_and]
          cases hin : bt (y.1 21 4) (gL g r - 26) with
          | false =>
            rw [if_pos rfl]
            exact skip fun _ q => by rw [(hR3 _ (by omega)).2 q] at hin; cases hin
          | true =>
            rw [if_neg (by decide)]
            refine zw_bind (s_followIn hc3 hg hE3 hF3 d hon ((hR3 _ (by omega)).1 hin) a3) ?_
            rintro ⟨⟨a, b1, b2⟩, z⟩ ⟨b', e1, e2, e3, e4, e5⟩
            simp only at e1 e2 e3 e4 e5 ⊢
            rw [e1, zB_or]
            refine hgo2 (b || b', z) ⟨zf_trans a1 e2, zgrow_tr a2 e3, e4, fun q hq h1 h2 k h3 h4 a ha h5 => ?_⟩
            simp only
            by_cases e : q = r
            · subst e
              exact e5 k h3 h4 a ha (h5.imp id fun t => ⟨t.1, a2.1 _ (by omega) a ha t.2⟩)
            · have h6 := g_s hg (show q < gN g by omega) h3
              exact e3.1 _ (by omega) a ha (a4 q (by omega) h1 h2 k h3 h4 a ha h5)
      · rintro ⟨b, y⟩ g' ⟨a1, a2, a3, a4⟩
        simp only at a1 a2 a3 a4
        have hc3 := zc2_fr h a1 rfl
        simp only [zI0, zI1, zI2, zI3, zI4, zI5, zI6, zI7, zI8, zJ0, zJ1, zJ2, zMM]
        rw [c_n hc3, if_pos (by rw [zq_le (by omega) (by omega)]; omega), zq_add]
        refine hgo (m - 1) (i + 1, b, y) (by omega) ⟨by simp only; omega, ?_, a1, a3, a2.1 _ (by omega) 26 (by omega) h0, fun q r hr hre k hk hc a ha h2 => ?_⟩
        · cases b with
          | true =>
            have := a2.2.2 rfl
            simp only [if_true]
            omega
          | false =>
            have e := ztot_eq (n := 26) (m := 27) (a2.2.1 rfl)
            simp only [Bool.false_eq_true, if_false]
            omega
        · simp only at q h2 ⊢
          have hl := g_l hg (zon_lt hr)
          exact a4 r (zon_lt hr) hr hre k hk hc a ha (h2.imp id fun t => ⟨t.1, by rw [← a2.2.1 q _ (by omega)]; exact t.2⟩)
