/-! FIRST and FOLLOW of the reference -/
theorem m_firstOf (d : Nat) {x : Nat} (hx : x < 52) (μ : zzM) : zzf zzP zN (d + 2) 211 [.ref 105, .int (nI x)] μ = some ((if x < 26 then nI 1 <<< (nI x &&& 31) else μ.1 127 (x - 26), 0, 0), μ) := by
  rw [u_m_firstOf, m_isCapital, Option.bind_some]
  simp only [zB_0]
  have e : (nI 26 ≤ nI x) = (26 ≤ x) := zq_le (by omega) (by omega)
  by_cases h : x < 26
  · rw [if_pos (decide_eq_false (by rw [e]; omega)), if_pos h]
  · rw [if_neg (by rw [decide_eq_true (by rw [e]; omega)]; decide), if_neg h, zq_sub (by omega), zr_i _ _ (by omega) (by omega), Option.bind_some]
theorem m_firstBehind {g : zG} {s : zSn} {μ : zzM} (h : zm2 g s μ) (hg : zwg g) (hE : zmE g s (μ.1 105 26)) (d : Nat) {r lo : Nat} (hr : r < gN g) (hlo : lo ≤ gZ g r) : zw (zzf zzP zN (d + 3) 212 [.ref 105, .int (nI r), .int (nI lo)] μ) fun o => o.2 = μ ∧ ∀ p, p < 32 → (bt o.1.1 p = true ↔ zFB (fun c p => bt (μ.1 127 c) p = true) (zEc g s) (gS g r) lo (gZ g r) p) := by
  have hn := g_n hg
  have hz := g_z hg hr
  rw [u_m_firstBehind]
  refine zl_up (fun k (x : Int32) => ([nI r, x, nI k], [], μ)) (fun k x => (∀ j, lo ≤ j → j < k → zEc g s (gS g r j)) ∧ ∀ p, p < 32 → (bt x p = true ↔ zFB (fun c p => bt (μ.1 127 c) p = true) (zEc g s) (gS g r) lo k p)) lo (gZ g r) _ hlo (by omega) rfl ?_ ?_ ?_
  · refine ⟨fun j h1 h2 => absurd h2 (by omega), fun p hp => ?_⟩
    rw [b_z]
    constructor
    · intro h; cases h
    · rintro ⟨k, h1, h2, -⟩; omega
  · rintro k x g' hlk hk ⟨h1, h2⟩ hgo
    have hs := g_s hg hr hk
    have hat : ∀ p, p < 32 → (bt (x ||| (if gS g r k < 26 then nI 1 <<< (nI (gS g r k) &&& 31) else μ.1 127 (gS g r k - 26))) p = true ↔ zFB (fun c p => bt (μ.1 127 c) p = true) (zEc g s) (gS g r) lo (k + 1) p) := by
      intro p hp
      have hy : bt (if gS g r k < 26 then nI 1 <<< (nI (gS g r k) &&& 31) else μ.1 127 (gS g r k - 26)) p = true ↔ (gS g r k < 26 ∧ p = gS g r k) ∨ (26 ≤ gS g r k ∧ bt (μ.1 127 (gS g r k - 26)) p = true) := by
        by_cases hc : gS g r k < 26
        · rw [if_pos hc, b_sh1 (by omega) hp, decide_eq_true_eq]
          omega
        · rw [if_neg hc]
          constructor
          · intro q; exact .inr ⟨by omega, q⟩
          · rintro (q | q)
            · omega
            · exact q.2
      rw [b_or, Bool.or_eq_true, h2 p hp, hy]
      constructor
      · rintro (⟨j, a1, a2, a3, a4⟩ | a)
        · exact ⟨j, a1, by omega, a3, a4⟩
        · exact ⟨k, hlk, by omega, h1, a⟩
      · rintro ⟨j, a1, a2, a3, a4⟩
        by_cases e : j = k
        · subst e; exact .inr a4
        · exact .inl ⟨j, a1, by omega, a3, a4⟩
    simp only [zI0, zI1, zI2, zI3, zI4, zI5, zI6, zI7, zI8, zJ0, zJ1, zJ2, zMM]
    rw [zr_i _ _ (by omega) (by omega), d_z h hr, Option.bind_some, if_neg (by rw [zq_le (by omega) (by omega)]; omega), d_symAt h hg hr hk, Option.bind_some, m_firstOf _ hs, Option.bind_some, m_bitOf _ hs, Option.bind_some, zq_add k 1]
    simp only [zbo_and hs]
    cases hv : zam (μ.1 105 26) (gS g r k) with
    | false =>
      rw [if_pos rfl]
      refine zw_some ⟨rfl, fun p hp => ?_⟩
      rw [hat p hp]
      have hno : ¬ zEc g s (gS g r k) := fun q => by rw [(zmE_am hE hs).2 q] at hv; cases hv
      constructor
      · rintro ⟨j, a1, a2, a3, a4⟩
        exact ⟨j, a1, by omega, a3, a4⟩
      · rintro ⟨j, a1, a2, a3, a4⟩
        refine ⟨j, a1, ?_, a3, a4⟩
        apply Nat.lt_of_not_le
        intro hle
        exact hno (a3 k hlk (by omega))
    | true =>
      rw [if_neg (by decide)]
      refine hgo _ ⟨fun j a1 a2 => ?_, hat⟩
      by_cases e : j = k
      · rw [e]; exact (zmE_am hE hs).1 hv
      · exact h1 j a1 (by omega)
  · rintro x g' ⟨h1, h2⟩
    simp only [zI0, zI1, zI2, zI3, zI4, zI5, zI6, zI7, zI8, zJ0, zJ1, zJ2, zMM]
    rw [zr_i _ _ (by omega) (by omega), d_z h hr, Option.bind_some, if_pos (by rw [zq_le (by omega) (by omega)]; omega)]
    exact zw_some ⟨rfl, h2⟩
/-- of each letter: so far within the least set; it rests, or has so many -/
def zsoR (F : Nat → (Nat → Prop) → Nat → Prop) (m n : Nat) (f : Nat → Int32) : Prop := (∀ c, c < 26 → ∀ a, a < 32 → bt (f c) a = true → a < m ∧ zlfp (F a) c) ∧ ∀ a, a < m → ((∀ c, c < 26 → F a (fun c => c < 26 ∧ bt (f c) a = true) c → bt (f c) a = true) ∨ n ≤ zcnt (fun c => bt (f c) a) 26)
theorem zsoR_step {F : Nat → (Nat → Prop) → Nat → Prop} (hF : ∀ a, zmon (F a)) (hsup : ∀ a P c, F a P c → c < 26) {m n : Nat} (hm : m ≤ 32) {f f' : Nat → Int32} (h : zsoR F m n f) (hs : ∀ c, c < 26 → ∀ a, a < 32 → bt (f' c) a = true → a < m ∧ zlfp (F a) c) (h1 : ∀ c, c < 26 → ∀ a, a < 32 → bt (f c) a = true → bt (f' c) a = true) (h2 : ∀ a, a < m → ∀ c, c < 26 → F a (fun c => c < 26 ∧ bt (f c) a = true) c → bt (f' c) a = true) : zsoR F m (n + 1) f' :=
  ⟨hs, fun a ha => zround (hF a) (X := fun c => bt (f c) a) (X' := fun c => bt (f' c) a) (fun c hc q => (hs c hc a (by omega) q).2) (hsup a) (fun c hc q => h1 c hc a (by omega) q) (h2 a ha) (h.2 a ha)⟩
theorem zsoR_end {F : Nat → (Nat → Prop) → Nat → Prop} (hsup : ∀ a P c, F a P c → c < 26) {g : zG} (hg : zwg g) (hl : ∀ a c, zlfp (F a) c → gleft g c = true) {m n : Nat} (hn : 6 ≤ n) (hm : m ≤ 32) {f : Nat → Int32} (h : zsoR F m n f) : ∀ c, c < 26 → ∀ a, a < 32 → (bt (f c) a = true ↔ a < m ∧ zlfp (F a) c) := by
  intro c hc a ha
  refine ⟨fun q => h.1 c hc a ha q, fun q => ?_⟩
  have h5 := hg.2.2
  exact (zrest (X := fun c => bt (f c) a) (hsup a) (h.2 a q.1) (fun c hc q => hl a c (h.1 c hc a ha q).2) (by omega) c q.2).2
theorem zfF_lt {g : zG} {s : zSn} (hg : zwg g) : ∀ a P c, zfF g s a P c → c < 26 := by
  rintro a P c ⟨r, h1, h2, -⟩
  have := g_l hg (zon_lt h1)
  omega
theorem zF_left {g : zG} {s : zSn} (hg : zwg g) : ∀ a c, zlfp (zfF g s a) c → gleft g c = true := by
  intro a c h
  refine zlfp_le (P := fun c => gleft g c = true) ?_ h
  rintro c ⟨r, h1, h2, -⟩
  have := gleft_of hg (zon_lt h1)
  rwa [h2, Nat.add_sub_cancel_left] at this
theorem m_laysFirst {g : zG} {s : zSn} {μ : zzM} (h : zm2 g s μ) (hg : zwg g) (hn0 : 0 < gN g) (d : Nat) : zw (zzf zzP zN (d + 6) 213 [.ref 105] μ) fun o => zfr [105, 127] μ o.2 ∧ zmFa g s o.2 ∧ zmF g s (o.2.1 127) ∧ (∀ k, (k < 26 ∨ 29 < k) → o.2.1 105 k = μ.1 105 k) := by
  have hn := g_n hg
  rw [u_m_laysFirst]
  refine zw_bind (m_laysFacts h hg hn0 d) ?_
  rintro ⟨o, ν⟩ ⟨q1, q2, q3⟩
  simp only at q1 q2 q3 ⊢
  refine zl_up (fun c (y : zzM) => ([nI c], [], y)) (fun c y => zfr [127] ν y ∧ ∀ e, e < c → y.1 127 e = nI 0) 0 26 ν (by omega) (by omega) rfl ⟨zf_refl _ _, fun e he => absurd he (by omega)⟩ ?_ ?_
  · rintro c y g' - hc ⟨a1, a2⟩ hgo
    simp only [zI0, zI1, zI2, zI3, zI4, zI5, zI6, zI7, zI8, zJ0, zJ1, zJ2, zMM]
    rw [if_neg (by rw [zq_le (by omega) (by omega)]; omega), zs_i _ _ _ hc (by omega), Option.bind_some, zq_add]
    refine hgo _ ⟨zf_twI _ _ a1 rfl, fun e he => ?_⟩
    rw [zm_if]
    by_cases ee : e = c
    · rw [if_pos ee]
    · rw [if_neg ee]; exact a2 e (by omega)
  · rintro y g' ⟨a1, a2⟩
    simp only [zI0, zI1, zI2, zI3, zI4, zI5, zI6, zI7, zI8, zJ0, zJ1, zJ2, zMM]
    rw [if_pos (by decide)]
    refine zl_up (fun n (z : zzM) => ([nI n], [], z)) (fun n z => zfr [127] ν z ∧ zsoR (zfF g s) 26 n (z.1 127)) 0 6 y (by omega) (by omega) rfl ⟨a1, fun c hc a _ q => (by rw [a2 c hc, b_z] at q; cases q), fun a _ => .inr (Nat.zero_le _)⟩ ?_ ?_
    · rintro n z g'' - hn6 ⟨b1, b2⟩ hgo
      simp only [zI0, zI1, zI2, zI3, zI4, zI5, zI6, zI7, zI8, zJ0, zJ1, zJ2, zMM]
      rw [if_neg (by rw [zq_lt (by omega) (by omega)]; omega)]
      refine zl_up (fun r (w : zzM) => ([nI n, nI r], [], w)) (fun r w => zfr [127] ν w ∧ (∀ c, c < 26 → ∀ a, a < 32 → bt (w.1 127 c) a = true → a < 26 ∧ zlfp (zfF g s a) c) ∧ (∀ c, c < 26 → ∀ a, a < 32 → bt (z.1 127 c) a = true → bt (w.1 127 c) a = true) ∧ (∀ q, q < r → zon g s q = true → ∀ a, a < 26 → zFB (fun c p => bt (z.1 127 c) p = true) (zEc g s) (gS g q) 0 (gZ g q) a → bt (w.1 127 (gL g q - 26)) a = true)) 0 (gN g) z (by omega) (by omega) rfl ⟨b1, b2.1, fun c _ a _ q => q, fun q hq => absurd hq (by omega)⟩ ?_ ?_
      · rintro r w g3 - hr ⟨c1, c2, c3, c4⟩ hgo2
        have f1 : zfr [105, 127] μ w := zf_trans (zf_mono q1 rfl) (zf_mono c1 rfl)
        have h1 := zm2_fr h f1 rfl
        have hE1 : zmE g s (w.1 105 26) := by rw [zf_i c1 rfl]; exact q2.1
        have hl := g_l hg hr
        simp only [zI0, zI1, zI2, zI3, zI4, zI5, zI6, zI7, zI8, zJ0, zJ1, zJ2, zMM]
        rw [zr_i _ _ (by omega) (by omega), d_n h1, Option.bind_some, if_neg (by rw [zq_le (by omega) (by omega)]; omega), zr_i _ _ (by omega) (by omega), d_l h1 hr, Option.bind_some, zq_sub hl.1, zr_i _ _ (by omega) (by omega), Option.bind_some, d_on h1 hg _ hr, Option.bind_some, zq_add r 1]
        simp only [zB_0]
        cases hon : zon g s r with
        | false =>
          rw [if_pos rfl, zs_i _ _ _ (by omega) (by omega), Option.bind_some, b_or0, zm_id rfl]
          refine hgo2 w ⟨c1, c2, c3, fun q hq => ?_⟩
          by_cases e : q = r
          · rw [e, hon]; intro q; cases q
          · exact c4 q (by omega)
        | true =>
          rw [if_neg (by decide)]
          refine zw_bind (m_firstBehind h1 hg hE1 (d + 2) hr (lo := 0) (by omega)) ?_
          rintro ⟨⟨x, x2, x3⟩, w'⟩ ⟨e1, e2⟩
          simp only at e1 e2 ⊢
          have e1 := e1.symm
          subst e1
          rw [zs_i _ _ _ (by omega) (by omega), Option.bind_some]
          have hx : ∀ a, a < 32 → bt x a = true → a < 26 ∧ zlfp (zfF g s a) (gL g r - 26) := by
            intro a ha q
            obtain ⟨k, h3, h4, h5, h6⟩ := (e2 a ha).1 q
            have h7 := g_s hg hr h4
            refine ⟨?_, zlfp_in (zfF_mo g s a) ⟨r, hon, by omega, k, h3, h4, h5, h6.imp id fun t => ⟨t.1, (c2 _ (by omega) a ha t.2).2⟩⟩⟩
            rcases h6 with h6 | h6
            · omega
            · exact (c2 _ (by omega) a ha h6.2).1
          have hmono : ∀ c, c < 26 → ∀ a, a < 32 → bt (w.1 127 c) a = true → bt ((zzwI w 127 (gL g r - 26) (w.1 127 (gL g r - 26) ||| x)).1 127 c) a = true := by
            intro c hc a ha q
            rw [zm_if]
            by_cases e : c = gL g r - 26
            · rw [if_pos e, b_or, ← e, q]; rfl
            · rw [if_neg e]; exact q
          refine hgo2 _ ⟨zf_twI _ _ c1 rfl, fun c hc a ha q => ?_, fun c hc a ha q => hmono c hc a ha (c3 c hc a ha q), fun q hq h1 a ha h2 => ?_⟩
          · rw [zm_if] at q
            by_cases e : c = gL g r - 26
            · rw [if_pos e, b_or, Bool.or_eq_true] at q
              rcases q with q | q
              · rw [← e] at q; exact c2 c hc a ha q
              · rw [e]; exact hx a ha q
            · rw [if_neg e] at q
              exact c2 c hc a ha q
          · by_cases e : q = r
            · subst e
              rw [zm_s, b_or, Bool.or_eq_true]
              refine .inr ((e2 a (by omega)).2 ?_)
              obtain ⟨k, h3, h4, h5, h6⟩ := h2
              have h7 := g_s hg hr h4
              exact ⟨k, h3, h4, h5, h6.imp id fun t => ⟨t.1, c3 _ (by omega) a (by omega) t.2⟩⟩
            · have h7 := g_l hg (show q < gN g by omega)
              exact hmono _ (by omega) a (by omega) (c4 q (by omega) h1 a ha h2)
      · rintro w g3 ⟨c1, c2, c3, c4⟩
        have f1 : zfr [105, 127] μ w := zf_trans (zf_mono q1 rfl) (zf_mono c1 rfl)
        have h1 := zm2_fr h f1 rfl
        simp only [zI0, zI1, zI2, zI3, zI4, zI5, zI6, zI7, zI8, zJ0, zJ1, zJ2, zMM]
        rw [zr_i _ _ (by omega) (by omega), d_n h1, Option.bind_some, if_pos (by rw [zq_le (by omega) (by omega)]; omega), zq_add]
        refine hgo w ⟨c1, zsoR_step (zfF_mo g s) (zfF_lt hg) (by omega) b2 c2 c3 ?_⟩
        rintro a ha c hc ⟨r, h3, h4, k, h5, h6, h7, h8⟩
        have h9 := c4 r (zon_lt h3) h3 a ha ⟨k, h5, h6, h7, h8.imp id fun t => ⟨t.1, t.2.2⟩⟩
        rwa [h4, Nat.add_sub_cancel_left] at h9
    · rintro z g'' ⟨b1, b2⟩
      simp only [zI0, zI1, zI2, zI3, zI4, zI5, zI6, zI7, zI8, zJ0, zJ1, zJ2, zMM]
      rw [if_pos (by decide)]
      have hi : z.1 105 = ν.1 105 := zf_i b1 rfl
      refine zw_some ⟨zf_trans (zf_mono q1 rfl) (zf_mono b1 rfl), ?_, zsoR_end (zfF_lt hg) hg (zF_left hg) (by omega) (by omega) b2, fun k hk => by rw [hi]; exact q3 k hk⟩
      unfold zmFa
      rw [hi]
      exact q2
