/-! FACTS of the reference: laysFacts as a whole; what comes again -/
/-- what laysFacts leaves -/
def zmFa (g : zG) (s : zSn) (μ : zzM) : Prop := zmE g s (μ.1 105 26) ∧ (∀ c, c < 32 → (bt (μ.1 105 27) c = true ↔ ∃ h v, zDn g s h c v)) ∧ (∀ c, c < 32 → (bt (μ.1 105 28) c = true ↔ zRe g s c)) ∧ (∀ c, c < 32 → (bt (μ.1 105 29) c = true ↔ ∃ r, r < gN g ∧ gL g r = 26 + c))
/-- so far: within the least set; it rests, or has so many -/
def zso26 (F : (Nat → Prop) → Nat → Prop) (n : Nat) (x : Int32) : Prop := (∀ c, c < 32 → bt x c = true → c < 26 ∧ zlfp F c) ∧ ((∀ c, c < 26 → F (fun c => c < 26 ∧ bt x c = true) c → bt x c = true) ∨ n ≤ zcnt (bt x) 26)
theorem zso_step {F : (Nat → Prop) → Nat → Prop} (hF : zmon F) (hsup : ∀ P c, F P c → c < 26) {n : Nat} {a x : Int32} (h : zso26 F n a) (hg : zgro F a x) : zso26 F (n + 1) x := by
  have hs : ∀ c, c < 32 → bt x c = true → c < 26 ∧ zlfp F c := by
    intro c hc hb
    have := hg.2.2 (fun c => c < 26 ∧ zlfp F c) (fun c hf => ⟨hsup _ _ hf, zlfp_in hF (hF _ _ (fun c q => q.2) c hf)⟩) h.1 c hc hb
    exact this
  exact ⟨hs, zround hF (fun c hc q => (hs c (by omega) q).2) hsup (fun c hc q => hg.1 c (by omega) q) hg.2.1 h.2⟩
theorem zso_end {F : (Nat → Prop) → Nat → Prop} (hsup : ∀ P c, F P c → c < 26) {g : zG} (hg : zwg g) (hl : ∀ c, zlfp F c → gleft g c = true) {n : Nat} (hn : 6 ≤ n) {x : Int32} (h : zso26 F n x) : ∀ c, c < 32 → (bt x c = true ↔ zlfp F c) := by
  intro c hc
  refine ⟨fun q => (h.1 c hc q).2, fun q => ?_⟩
  have h5 := hg.2.2
  exact (zrest hsup h.2 (fun c hc q => hl c (h.1 c (by omega) q).2) (by omega) c q).2
theorem zE_left {g : zG} {s : zSn} (hg : zwg g) : ∀ c, zlfp (zfE g s) c → gleft g c = true := by
  intro c h
  refine zlfp_le (P := fun c => gleft g c = true) ?_ h
  rintro c ⟨r, h1, h2, -⟩
  have := gleft_of hg (zon_lt h1)
  rwa [h2, Nat.add_sub_cancel_left] at this
theorem zN_left {g : zG} {s : zSn} (hg : zwg g) : ∀ c, zlfp (zfN g s) c → gleft g c = true := by
  intro c h
  refine zlfp_le (P := fun c => gleft g c = true) ?_ h
  rintro c ⟨r, h1, h2, -⟩
  have := gleft_of hg (zon_lt h1)
  rwa [h2, Nat.add_sub_cancel_left] at this
theorem zR_left {g : zG} {s : zSn} (hg : zwg g) (hn0 : 0 < gN g) : ∀ c, zlfp (zfR g s) c → gleft g c = true := by
  intro c h
  refine zlfp_le (P := fun c => gleft g c = true) ?_ h
  rintro c (h1 | ⟨r, h1, -, k, h3, h4⟩)
  · have := gleft_of hg hn0
    rwa [← h1, Nat.add_sub_cancel_left] at this
  · have := zcap_left hg (zon_lt h1) h3 (by omega)
    rwa [h4, Nat.add_sub_cancel_left] at this
theorem m_laysFacts {g : zG} {s : zSn} {μ : zzM} (h : zm2 g s μ) (hg : zwg g) (hn0 : 0 < gN g) (d : Nat) : zw (zzf zzP zN (d + 5) 207 [.ref 105] μ) fun o => zfr [105] μ o.2 ∧ zmFa g s o.2 ∧ (∀ k, (k < 26 ∨ 29 < k) → o.2.1 105 k = μ.1 105 k) := by
  have hn := g_n hg
  have hl0 := g_l hg hn0
  have h0 : zm2 g s (zzwI (zzwI μ 105 26 (nI 0)) 105 27 (nI 0)) := zm2_fr (L := [105]) h (zf_twI _ _ (zf_wI _ _ rfl) rfl) rfl
  rw [u_m_laysFacts, zr_i _ _ (by omega) (by omega), d_start h0 hn0, Option.bind_some, m_bitOf _ hl0.2, Option.bind_some]
  refine zl_up (fun n (y : zzM) => ([nI n], [], y)) (fun n y => zfr [105] μ y ∧ zso26 (zfE g s) n (y.1 105 26) ∧ zso26 (zfN g s) n (y.1 105 27) ∧ (zso26 (zfR g s) n (y.1 105 28) ∧ bt (y.1 105 28) (gL g 0 - 26) = true) ∧ y.1 105 29 = nI 0 ∧ (∀ k, (k < 26 ∨ 29 < k) → y.1 105 k = μ.1 105 k)) 0 12 _ (by omega) (by omega) rfl ?_ ?_ ?_
  · have e28 : (zzwI (zzwI (zzwI (zzwI μ 105 26 (nI 0)) 105 27 (nI 0)) 105 28 (zbo (gL g 0))) 105 29 (nI 0)).1 105 28 = zbo (gL g 0) := by rw [zm_k _ _ _ _ (by omega), zm_s]
    have e27 : (zzwI (zzwI (zzwI (zzwI μ 105 26 (nI 0)) 105 27 (nI 0)) 105 28 (zbo (gL g 0))) 105 29 (nI 0)).1 105 27 = nI 0 := by rw [zm_k _ _ _ _ (by omega), zm_k _ _ _ _ (by omega), zm_s]
    have e26 : (zzwI (zzwI (zzwI (zzwI μ 105 26 (nI 0)) 105 27 (nI 0)) 105 28 (zbo (gL g 0))) 105 29 (nI 0)).1 105 26 = nI 0 := by rw [zm_k _ _ _ _ (by omega), zm_k _ _ _ _ (by omega), zm_k _ _ _ _ (by omega), zm_s]
    have hz : ∀ F : (Nat → Prop) → Nat → Prop, zso26 F 0 (nI 0) := fun F => ⟨fun c _ q => (by rw [b_z] at q; cases q), .inr (Nat.zero_le _)⟩
    refine ⟨zf_twI _ _ (zf_twI _ _ (zf_twI _ _ (zf_wI _ _ rfl) rfl) rfl) rfl, ?_, ?_, ⟨?_, ?_⟩, ?_, fun k hk => ?_⟩
    · rw [e26]; exact hz _
    · rw [e27]; exact hz _
    · rw [e28]
      refine ⟨fun c hc q => ?_, .inr (Nat.zero_le _)⟩
      have := (zbo_b hl0.2 hc).1 q
      exact ⟨by omega, zlfp_in (zfR_mo g s) (.inl (by omega))⟩
    · rw [e28]
      exact (zbo_b hl0.2 (by omega)).2 ⟨hl0.1, rfl⟩
    · rw [zm_s]
    · rw [zm_k _ _ _ _ (by omega), zm_k _ _ _ _ (by omega), zm_k _ _ _ _ (by omega), zm_k _ _ _ _ (by omega)]
  · rintro n y g' - hn12 ⟨a1, a2, a3, ⟨a4, a4'⟩, a5, a6⟩ hgo
    simp only [zI0, zI1, zI2, zI3, zI4, zI5, zI6, zI7, zI8, zJ0, zJ1, zJ2, zMM]
    rw [if_neg (by rw [zq_le (by omega) (by omega)]; omega)]
    have h1 := zm2_fr h a1 rfl
    refine zw_bind (m_growsEmpty h1 hg d (y.1 105 26)) ?_
    rintro ⟨⟨x1, w2, w3⟩, y1⟩ ⟨e1, p1⟩
    simp only at e1 p1 ⊢
    have e1 := e1.symm
    subst e1
    have f2 : zfr [105] μ (zzwI y 105 26 x1) := zf_twI _ _ a1 rfl
    have h2 := zm2_fr h f2 rfl
    refine zw_bind (m_growsEnding h2 hg d (y.1 105 27)) ?_
    rintro ⟨⟨x2, w4, w5⟩, y2⟩ ⟨e2, p2⟩
    simp only at e2 p2 ⊢
    have e2 := e2.symm
    subst e2
    have f3 : zfr [105] μ (zzwI (zzwI y 105 26 x1) 105 27 x2) := zf_twI _ _ f2 rfl
    have h3 := zm2_fr h f3 rfl
    have r28 : (zzwI y 105 26 x1).1 105 28 = y.1 105 28 := zm_k _ _ _ _ (by omega)
    rw [r28]
    refine zw_bind (m_growsReached h3 hg hn0 (d + 1) (y.1 105 28) a4') ?_
    rintro ⟨⟨x3, w6, w7⟩, y3⟩ ⟨e3, p3⟩
    simp only at e3 p3 ⊢
    have e3 := e3.symm
    subst e3
    rw [zq_add]
    refine hgo _ ⟨zf_twI _ _ f3 rfl, ?_, ?_, ⟨?_, ?_⟩, ?_, fun k hk => ?_⟩
    · rw [zm_k _ _ _ _ (by omega), zm_k _ _ _ _ (by omega), zm_s]
      exact zso_step (zfE_mo g s) (zfE_lt hg) a2 p1
    · rw [zm_k _ _ _ _ (by omega), zm_s]
      exact zso_step (zfN_mo g s) (zfN_lt hg) a3 p2
    · rw [zm_s]
      exact zso_step (zfR_mo g s) (zfR_lt hg hn0) a4 p3
    · rw [zm_s]
      exact p3.1 _ (by omega) a4'
    · rw [zm_k _ _ _ _ (by omega), zm_k _ _ _ _ (by omega), zm_k _ _ _ _ (by omega)]
      exact a5
    · rw [zm_k _ _ _ _ (by omega), zm_k _ _ _ _ (by omega), zm_k _ _ _ _ (by omega)]
      exact a6 k hk
  · rintro y g' ⟨a1, a2, a3, ⟨a4, a4'⟩, a5, a6⟩
    simp only [zI0, zI1, zI2, zI3, zI4, zI5, zI6, zI7, zI8, zJ0, zJ1, zJ2, zMM]
    rw [if_pos (by decide)]
    have c2 := zso_end (zfE_lt hg) hg (zE_left hg) (by omega) a2
    have c3 := zso_end (zfN_lt hg) hg (zN_left hg) (by omega) a3
    have c4 := zso_end (zfR_lt hg hn0) hg (zR_left hg hn0) (by omega) a4
    refine zl_up (fun r (z : zzM) => ([nI r], [], z)) (fun r z => zfr [105] μ z ∧ z.1 105 26 = y.1 105 26 ∧ z.1 105 27 = y.1 105 27 ∧ z.1 105 28 = y.1 105 28 ∧ (∀ c, c < 32 → (bt (z.1 105 29) c = true ↔ ∃ q, q < r ∧ gL g q = 26 + c)) ∧ (∀ k, (k < 26 ∨ 29 < k) → z.1 105 k = μ.1 105 k)) 0 (gN g) y (by omega) (by omega) rfl ⟨a1, rfl, rfl, rfl, fun c hc => ?_, a6⟩ ?_ ?_
    · rw [a5, b_z]
      constructor
      · intro q; cases q
      · rintro ⟨q, hq, -⟩; omega
    · rintro r z g'' - hr ⟨b1, b2, b3, b4, b5, b6⟩ hgo
      have h1 := zm2_fr h b1 rfl
      have hl := g_l hg hr
      simp only [zI0, zI1, zI2, zI3, zI4, zI5, zI6, zI7, zI8, zJ0, zJ1, zJ2, zMM]
      rw [zr_i _ _ (by omega) (by omega), d_n h1, Option.bind_some, if_neg (by rw [zq_le (by omega) (by omega)]; omega), zr_i _ _ (by omega) (by omega), d_l h1 hr, Option.bind_some, m_bitOf _ hl.2, Option.bind_some, zq_add]
      refine hgo _ ⟨zf_twI _ _ b1 rfl, ?_, ?_, ?_, fun c hc => ?_, fun k hk => ?_⟩
      · rw [zm_k _ _ _ _ (by omega)]; exact b2
      · rw [zm_k _ _ _ _ (by omega)]; exact b3
      · rw [zm_k _ _ _ _ (by omega)]; exact b4
      · rw [zm_s, b_orzbo hl.2 hc, b5 c hc]
        constructor
        · rintro (⟨q, h1, h2⟩ | h1)
          · exact ⟨q, by omega, h2⟩
          · exact ⟨r, by omega, by omega⟩
        · rintro ⟨q, h1, h2⟩
          by_cases e : q = r
          · exact .inr (by rw [e] at h2; omega)
          · exact .inl ⟨q, by omega, h2⟩
      · rw [zm_k _ _ _ _ (by omega)]; exact b6 k hk
    · rintro z g'' ⟨b1, b2, b3, b4, b5, b6⟩
      have h1 := zm2_fr h b1 rfl
      simp only [zI0, zI1, zI2, zI3, zI4, zI5, zI6, zI7, zI8, zJ0, zJ1, zJ2, zMM]
      rw [zr_i _ _ (by omega) (by omega), d_n h1, Option.bind_some, if_pos (by rw [zq_le (by omega) (by omega)]; omega)]
      refine zw_some ⟨b1, ⟨fun c hc => ?_, fun c hc => ?_, fun c hc => ?_, b5⟩, b6⟩
      · rw [b2, c2 c hc, zE_lfp hg]
        constructor
        · intro q
          exact ⟨zfE_lt hg _ c (zlfp_out (zfE_mo g s) ((zE_lfp hg c).2 q)), q⟩
        · intro q; exact q.2
      · rw [b3, c3 c hc, zN_lfp]
      · rw [b4, c4 c hc]
        rfl
