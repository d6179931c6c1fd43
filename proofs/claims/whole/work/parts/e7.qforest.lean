/-! QUERIES: ways, pieces, the forest -/
/-- as s_forFind, and the chart is full -/
theorem s_forFind2 {g : zG} {s : zSn} {μ : zzM} (h : zc2 g s μ) (hg : zwg g) (hs : zws g s) (hn0 : 0 < gN g) (hc : cCh true 36 37 38 39 g s μ) (d : Nat) (hst : μ.1 52 2 = 0 ∨ foOk g s μ) : zw (zzf zzP zN (d + 6) 97 [.ref 52] μ) fun o => zfr [36, 37, 38, 39, 52, 53, 54, 55] μ o.2 ∧ cCh true 36 37 38 39 g s o.2 ∧ foOk g s o.2 ∧ ¬ o.2.1 52 2 = 0 ∧ (∀ p, p ≠ 2 → p ≠ 3 → o.2.1 52 p = μ.1 52 p) ∧ ((o.2.1 52 3 = nI 0 ∧ cCf true 36 37 38 39 g s o.2) ∨ (¬ μ.1 52 2 = 0 ∧ o.2 = μ)) := by
  have hsl := hs.1
  have hgn := g_n hg
  have hl0 := g_l hg hn0
  rw [w_forest_find]
  by_cases e : μ.1 52 2 = 0
  · rw [if_pos e]
    obtain ⟨o, e1, e2, e3, e4⟩ := s_fill_36 d h hg hs hc
    rw [e1, Option.bind_some, s_fill_53, Option.bind_some]
    have hf0 : zfr [36, 37, 38, 39, 52, 53, 54, 55] μ (zblk o.2 53 0 91 fun _ => nI 0) := zf_trans (zf_mono e2 rfl) (zf_b _ _ _ rfl)
    have hc0 : cCf true 36 37 38 39 g s (zblk o.2 53 0 91 fun _ => nI 0) := cCf_fr e3 (zf_b (L := [53]) _ _ _ rfl) rfl
    have h53 : ∀ p, p < 91 → (zblk o.2 53 0 91 fun _ => nI 0).1 53 p = nI 0 := fun p hp => zb_i _ _ _ (Nat.zero_le _) hp
    have h52 : ∀ p, (zblk o.2 53 0 91 fun _ => nI 0).1 52 p = μ.1 52 p := fun p => by rw [zb_c _ _ _ _ (by omega), zf_i e2 rfl]
    generalize zblk o.2 53 0 91 (fun _ => nI 0) = z0 at hf0 hc0 h53 h52 ⊢
    have hz0 := zc2_fr h hf0 rfl
    have hsp := zsp_lt (sL s) (by omega) 0 (by omega) (Nat.zero_le _)
    have es := s_zsp (d + 4) (m := 0) (n := sL s) (Nat.zero_le _) (by omega) z0
    have er := s_rulesAt_36 (d + 3) (m := 0) (n := sL s) (Nat.zero_le _) (by omega) z0
    rw [zr_i _ _ (by omega) (by omega), c_l hz0 hn0, Option.bind_some, c_len hz0, es, Option.bind_some, c_len hz0, er, Option.bind_some, zq_sub hl0.1, zr_i _ _ (by omega) (by omega), Option.bind_some, zs_i _ _ _ hsp (by omega), Option.bind_some]
    have hf1 : zfr [53] z0 (zzwI z0 53 (zsp 0 (sL s)) (z0.1 38 (zsp 0 (sL s)) &&& z0.1 9 (gL g 0 - 26))) := zf_wI _ _ rfl
    have hb1 : ∀ q, q < 32 → (bt (z0.1 38 (zsp 0 (sL s)) &&& z0.1 9 (gL g 0 - 26)) q = true ↔ gL g q = gL g 0 ∧ zM true g s q 0 (sL s)) := fun q hq => by
      rw [b_and, Bool.and_eq_true, c_ro hc0 (Nat.zero_le _) (Nat.le_refl _) hsl hq, c_u hz0 (by omega) hq, decide_eq_true_eq]
      constructor
      · rintro ⟨a, b, c⟩
        exact ⟨by omega, a⟩
      · rintro ⟨a, b⟩
        exact ⟨b, zM_lt b, by omega⟩
    have hP0 : cPc (fun q i j => i = 0 ∧ j = sL s ∧ gL g q = gL g 0 ∧ zM true g s q i j) (sL s) (zzwI z0 53 (zsp 0 (sL s)) (z0.1 38 (zsp 0 (sL s)) &&& z0.1 9 (gL g 0 - 26))) := fun i j a b q hq => by
      by_cases eij : i = 0 ∧ j = sL s
      · obtain ⟨rfl, rfl⟩ := eij
        rw [zm_s, hb1 q hq]
        exact ⟨fun f => ⟨rfl, rfl, f⟩, fun f => f.2.2⟩
      · have := zsp_lt j (by omega) i (by omega) a
        rw [zm_k _ _ _ _ (fun f => eij (zsp_inj j (by omega) i (by omega) a (sL s) (by omega) 0 (by omega) (Nat.zero_le _) f)), h53 _ this, b_z]
        exact ⟨fun f => (by cases f), fun f => absurd ⟨f.1, f.2.1⟩ eij⟩
    have hl2 : (zzwI z0 53 (zsp 0 (sL s)) (z0.1 38 (zsp 0 (sL s)) &&& z0.1 9 (gL g 0 - 26))).1 2 2 = nI (sL s) := by
      rw [zm_c _ _ _ (by omega), c_len hz0]
    rw [hl2]
    generalize zzwI z0 53 (zsp 0 (sL s)) (z0.1 38 (zsp 0 (sL s)) &&& z0.1 9 (gL g 0 - 26)) = z1 at hf1 hP0 ⊢
    have hdone : ∀ P : Nat → Nat → Nat → Prop, (∀ q i j, P q i j → zPi g s q i j) → (∀ q, gL g q = gL g 0 → zM true g s q 0 (sL s) → P q 0 (sL s)) → (∀ r m n q i j, m ≤ n → n ≤ sL s → P r m n → zmk2 g s r m n q i j → P q i j) → ∀ y, cPc P (sL s) y → foOk g s y := fun P p1 p2 p3 y hy i j a b q hq => by
      rw [hy i j a b q hq]
      exact ⟨p1 q i j, zPi_co p2 p3⟩
    refine zl_dn (fun l (y : zzM) => ([nJ l], [], y)) (fun l y => zfr [53, 54, 55] z0 y ∧ ∃ P : Nat → Nat → Nat → Prop, cPc P (sL s) y ∧ (∀ q i j, P q i j → zPi g s q i j) ∧ (∀ q, gL g q = gL g 0 → zM true g s q 0 (sL s) → P q 0 (sL s)) ∧ ∀ r m n q i j, m + l ≤ n → n ≤ sL s → P r m n → zmk2 g s r m n q i j → P q i j) 0 (sL s + 1) z1 (by omega) (by omega) (by rw [nJ_s]) ⟨zf_mono hf1 rfl, _, hP0, fun q i j f => ?_, fun q a b => ⟨rfl, rfl, a, b⟩, fun r m n q i j a b => by omega⟩ ?_ ?_
    · obtain ⟨rfl, rfl, a, b⟩ := f
      exact zPi_0 a b
    · rintro L y ga - hL ⟨i1, P, i2, i3, i4, i5⟩ hgo
      unfold L97_b
      simp only [zI0, zI1, zI2, zI3, zI4, zI5, zI6, zI7, zI8, zJ0, zJ1, zJ2, zMM]
      rw [nJ_s, if_neg (nI_pos (by omega))]
      refine zl_up (fun m (y : zzM) => ([nI L, nI m], [], y)) (fun m y => zfr [53, 54, 55] z0 y ∧ ∃ P : Nat → Nat → Nat → Prop, cPc P (sL s) y ∧ (∀ q i j, P q i j → zPi g s q i j) ∧ (∀ q, gL g q = gL g 0 → zM true g s q 0 (sL s) → P q 0 (sL s)) ∧ ∀ r m' n q i j, (m' + (L + 1) ≤ n ∨ (n = m' + L ∧ m' < m)) → n ≤ sL s → P r m' n → zmk2 g s r m' n q i j → P q i j) 0 (sL s - L + 1) y (by omega) (by omega) rfl ⟨i1, P, i2, i3, i4, fun r m' n q i j a => i5 r m' n q i j (by omega)⟩ ?_ ?_
      · rintro m y gb - hm ⟨j1, P, j2, j3, j4, j5⟩ hgo2
        have hfy := zf_trans hf0 (zf_mono (L' := [36, 37, 38, 39, 52, 53, 54, 55]) j1 rfl)
        have hy := zc2_fr h hfy rfl
        have hcy := cCf_fr hc0 j1 rfl
        unfold L97_a
        simp only [zI0, zI1, zI2, zI3, zI4, zI5, zI6, zI7, zI8, zJ0, zJ1, zJ2, zMM]
        rw [c_len hy, zq_add, if_neg (by rw [zq_lt (by omega) (by omega)]; omega)]
        obtain ⟨o1, f1, f2, P', f3, f4, f5, f6, f7⟩ := s_spread hy hg hcy hsl d (show m ≤ m + L by omega) (show m + L ≤ sL s by omega) j2 j3
        rw [f1, Option.bind_some, zq_add]
        refine hgo2 o1.2 ⟨zf_trans j1 f2, P', f3, f4, fun q a b => f5 _ _ _ (j4 q a b), fun r m' n q i j a b c f => ?_⟩
        by_cases emn : m' = m ∧ n = m + L
        · obtain ⟨rfl, rfl⟩ := emn
          exact f7 r q i j c f
        · have hPr : P r m' n := by
            rcases f6 r m' n c with k | k
            · exact k
            · omega
          exact f5 _ _ _ (j5 r m' n q i j (by omega) b hPr f)
      · rintro y gb ⟨j1, P, j2, j3, j4, j5⟩
        have hfy := zf_trans hf0 (zf_mono (L' := [36, 37, 38, 39, 52, 53, 54, 55]) j1 rfl)
        have hy := zc2_fr h hfy rfl
        unfold L97_a
        simp only [zI0, zI1, zI2, zI3, zI4, zI5, zI6, zI7, zI8, zJ0, zJ1, zJ2, zMM]
        rw [c_len hy, zq_add, if_pos (by rw [zq_lt (by omega) (by omega)]; omega), nJ_e]
        exact hgo y ⟨j1, P, j2, j3, j4, fun r m' n q i j a b => j5 r m' n q i j (by omega) b⟩
    · rintro y ga ⟨i1, P, i2, i3, i4, i5⟩
      unfold L97_b
      simp only [zI0, zI1, zI2, zI3, zI4, zI5, zI6, zI7, zI8, zJ0, zJ1, zJ2, zMM]
      rw [if_pos (by decide)]
      simp only [zk_0, zk_1, if_true]
      have hf4 : zfr [52, 53, 54, 55] z0 (zzwI (zzwI y 52 2 (nI 1)) 52 3 (nI 0)) := zf_twI _ _ (zf_twI _ _ (zf_mono i1 rfl) rfl) rfl
      refine zw_some ⟨zf_trans hf0 (zf_mono hf4 rfl), cCf_h (cCf_fr hc0 hf4 rfl), hdone P i3 i4 (fun r m n q i j a => i5 r m n q i j (by omega)) _ (fun i j a b q hq => ?_), ?_, fun p a b => ?_, .inl ⟨zm_s _ _ _ _, cCf_fr hc0 hf4 rfl⟩⟩
      · rw [zm_c _ _ _ (by omega), zm_c _ _ _ (by omega)]
        exact i2 i j a b q hq
      · rw [zm_k _ _ _ _ (by omega), zm_s]
        decide
      · rw [zm_k _ _ _ _ b, zm_k _ _ _ _ a, zf_i i1 rfl]
        exact h52 p
  · rw [if_neg e]
    exact zw_some ⟨zf_refl _ _, hc, hst.resolve_left e, e, fun _ _ _ => rfl, .inr ⟨e, rfl⟩⟩
theorem c_forest {g : zG} {s : zSn} {μ : zzM} (K : zOk g s) (c : cI g s μ) (hn : 0 < gN g) (d : Nat) : zw (zzf zzP zN (d + 6) 97 [.ref 52] μ) fun o => zfr cQl μ o.2 ∧ cI g s o.2 ∧ foOk g s o.2 ∧ cCf true 36 37 38 39 g s o.2 ∧ ¬ o.2.1 52 2 = 0 ∧ (o.2.1 52 3 = 0 ∨ cTl g s (fun _ => True) o.2) := by
  obtain ⟨o, a1, a2, a3, a4, a5, a6, a7⟩ := s_forFind2 c.h K.hg K.hs hn c.A d (c.O.imp id fun q => q.1)
  rcases a7 with ⟨b1, b2⟩ | ⟨b1, b2⟩
  · have b1' : o.2.1 52 3 = 0 := b1
    exact ⟨o, a1, zf_mono a2 rfl, cI_up c a2 rfl (.inl rfl) (.inl rfl) (.inl rfl) (.inr a3) (.inl rfl) (.inl rfl) (.inl rfl) (.inr (.inr ⟨a4, b2, .inl b1'⟩)) (.inl rfl), a4, b2, a5, .inl b1'⟩
  · obtain ⟨q1, q2, q3⟩ := c.O.resolve_left b1
    rw [b2] at a4 a5
    exact ⟨o, a1, by rw [b2]; exact zf_refl _ _, by rw [b2]; exact c, by rw [b2]; exact a4, by rw [b2]; exact q2, by rw [b2]; exact a5, by rw [b2]; exact q3⟩
theorem cI_40 {g : zG} {s : zSn} {μ : zzM} {y : zzM} (c : cI g s μ) (hf : zfr [40] μ y) : cI g s y := cI_up c hf rfl (.inl rfl) (.inl rfl) (.inl rfl) (.inl rfl) (.inl rfl) (.inl rfl) (.inl rfl) (.inl rfl) (.inl rfl)
/-- a question of a rule and a part: both guards alike -/
theorem zQ_rs {g : zG} {s : zSn} {μ : zzM} (K : zOk g s) (c : cI g s μ) (m : mI g s μ) (a1 a2 a3 : Int32) {y y' : Nat} {fc fm : zzM → Option zzR} (wc : ∀ μ, zzf zzP zN 13 y [.ref 0, .int a1, .int a2, .int a3] μ = ((zzf zzP zN 12 129 [.ref 0, .int a1] μ).bind fun o1 => if o1.1.1 = 0 then some (((-(nI 1)), 0, 0), o1.2) else (zzf zzP zN 12 132 [.ref 0, .int a2, .int a3] o1.2).bind fun o2 => if o2.1.1 = 0 then some (((-(nI 1)), 0, 0), o2.2) else fc o2.2)) (wm : ∀ μ, zzf zzP zN 13 y' [.ref 105, .int a1, .int a2, .int a3] μ = ((zzf zzP zN 12 176 [.ref 105, .int a1] μ).bind fun o1 => if o1.1.1 = 0 then some (((-(nI 1)), 0, 0), o1.2) else (zzf zzP zN 12 263 [.ref 105, .int a2, .int a3] o1.2).bind fun o2 => if o2.1.1 = 0 then some (((-(nI 1)), 0, 0), o2.2) else fm o2.2))
    (hv : ∀ r p q, r < gN g → p ≤ q → q ≤ sL s → a1 = nI r → a2 = nI p → a3 = nI q → ∃ v, zw (fc μ) (fun o => zfr cQl μ o.2 ∧ cI g s o.2 ∧ o.1.1 = v) ∧ ∀ z, mI g s z → zw (fm z) fun o => mQ z o.2 ∧ mI g s o.2 ∧ o.1.1 = v) : zQ g s y y' [.ref 0, .int a1, .int a2, .int a3] [.ref 105, .int a1, .int a2, .int a3] μ := by
  have hsl := K.hs.1
  by_cases e : ∃ r, r < gN g ∧ a1 = nI r
  · by_cases e2 : ∃ m n, m ≤ n ∧ n ≤ sL s ∧ a2 = nI m ∧ a3 = nI n
    · obtain ⟨r, r1, r2⟩ := id e
      obtain ⟨p, q, p1, p2, p3, p4⟩ := id e2
      obtain ⟨v, v1, v2⟩ := hv r p q r1 p1 p2 r2 p3 p4
      refine zQ_v v m ?_ fun z hz => ?_
      · unfold cA
        rw [wc, show zzf zzP zN 12 129 [.ref 0, .int a1] μ = _ from c_isRule c.h K.hg 11 a1, Option.bind_some, zdT e, if_neg (show ¬ zB true = 0 by decide), show zzf zzP zN 12 132 [.ref 0, .int a2, .int a3] μ = _ from c_isSpan c.h hsl 11 a2 a3, Option.bind_some, zdT e2, if_neg (show ¬ zB true = 0 by decide)]
        exact v1
      · unfold mA
        rw [wm, show zzf zzP zN 12 176 [.ref 105, .int a1] z = _ from d_isRule hz.h K.hg 10 a1, Option.bind_some, zdT e, if_neg (show ¬ zB true = 0 by decide), show zzf zzP zN 12 263 [.ref 105, .int a2, .int a3] z = _ from d_isSpan hz.h hsl 11 a2 a3, Option.bind_some, zdT e2, if_neg (show ¬ zB true = 0 by decide)]
        exact v2 z hz
    · refine zQ_v (-(nI 1)) m (cA_s c (a := 0) (b := 0) ?_ rfl) fun z hz => mA_s hz (a := 0) (b := 0) ?_ rfl
      · rw [wc, show zzf zzP zN 12 129 [.ref 0, .int a1] μ = _ from c_isRule c.h K.hg 11 a1, Option.bind_some, zdT e, if_neg (show ¬ zB true = 0 by decide), show zzf zzP zN 12 132 [.ref 0, .int a2, .int a3] μ = _ from c_isSpan c.h hsl 11 a2 a3, Option.bind_some, zdF e2, if_pos (show zB false = 0 by decide)]
      · rw [wm, show zzf zzP zN 12 176 [.ref 105, .int a1] z = _ from d_isRule hz.h K.hg 10 a1, Option.bind_some, zdT e, if_neg (show ¬ zB true = 0 by decide), show zzf zzP zN 12 263 [.ref 105, .int a2, .int a3] z = _ from d_isSpan hz.h hsl 11 a2 a3, Option.bind_some, zdF e2, if_pos (show zB false = 0 by decide)]
  · refine zQ_v (-(nI 1)) m (cA_s c (a := 0) (b := 0) ?_ rfl) fun z hz => mA_s hz (a := 0) (b := 0) ?_ rfl
    · rw [wc, show zzf zzP zN 12 129 [.ref 0, .int a1] μ = _ from c_isRule c.h K.hg 11 a1, Option.bind_some, zdF e, if_pos (show zB false = 0 by decide)]
    · rw [wm, show zzf zzP zN 12 176 [.ref 105, .int a1] z = _ from d_isRule hz.h K.hg 10 a1, Option.bind_some, zdF e, if_pos (show zB false = 0 by decide)]
theorem q_ways {g : zG} {s : zSn} {μ : zzM} (K : zOk g s) (c : cI g s μ) (m : mI g s μ) (a1 a2 a3 : Int32) : zQ g s 162 291 [.ref 0, .int a1, .int a2, .int a3] [.ref 105, .int a1, .int a2, .int a3] μ := by
  refine zQ_rs K c m a1 a2 a3 (fc := fun z => (zzf zzP zN 12 58 [.ref 36] z).bind fun o3 => (zzf zzP zN 12 66 [.ref 36, .int a1, .int a2, .int a3] o3.2).bind fun o4 => some ((o4.1.1, 0, 0), o4.2)) (fm := fun z => (zzf zzP zN 12 261 [.ref 105, .int (nI 1)] z).bind fun o3 => (zzf zzP zN 12 290 [.ref 105, .int a1, .int a2, .int a3] o3.2).bind fun o4 => some ((o4.1.1, 0, 0), o4.2)) (fun μ => w_pf_ways zN 12 a1 a2 a3 μ) (fun μ => w_m_ways zN 12 a1 a2 a3 μ) fun r p q h1 h2 h3 e1 e2 e3 => ⟨nI (zWays g s r p q), ?_, fun z hz => ?_⟩
  · obtain ⟨o, o1, o2, o3, o4⟩ := c_allow K c 7
    have o1 : zzf zzP zN 12 58 [.ref 36] μ = some o := o1
    obtain ⟨u, u1, u2, u3⟩ := s_ways o3.h K.hg o4 K.hs.1 9 h1 h2 h3
    have u1 : zzf zzP zN 12 66 [.ref 36, .int (nI r), .int (nI p), .int (nI q)] o.2 = some u := u1
    rw [o1, Option.bind_some, e1, e2, e3, u1, Option.bind_some]
    exact zw_some ⟨zf_trans o2 (zf_mono u2 rfl), cI_40 o3 u2, u3⟩
  · obtain ⟨t, t1, t2, t3, t4⟩ := d_made K hz 4 true
    have t1 : zzf zzP zN 12 261 [.ref 105, .int (nI 1)] z = some t := t1
    obtain ⟨u, u1, u2, u3⟩ := m_ways t3.h K.hg K.hs t4 7 h1 h2 h3
    have u1 : zzf zzP zN 12 290 [.ref 105, .int (nI r), .int (nI p), .int (nI q)] t.2 = some u := u1
    rw [t1, Option.bind_some, e1, e2, e3, u1, Option.bind_some]
    exact zw_some ⟨mQ_t t2 ⟨zf_mono u2 rfl, by rw [zf_i u2 rfl], by rw [zf_i u2 rfl]⟩, mI_fr t3 u2 (by rw [zf_i u2 rfl]) (by rw [zf_i u2 rfl]) rfl rfl, u3⟩
theorem d_forest {g : zG} {s : zSn} {μ : zzM} (K : zOk g s) (m : mI g s μ) (hn : 0 < gN g) (d : Nat) : zw (zzf zzP zN (d + 9) 288 [.ref 105] μ) fun o => mQ μ o.2 ∧ mI g s o.2 ∧ fmOk g s o.2 := by
  obtain ⟨o, a1, a2, a3, a4, a5, a6, a7⟩ := m_laysForest m.h K.hg K.hs hn d (mI_o m (i := 2) (by omega)) (mI_o m (i := 5) (by omega))
  refine ⟨o, a1, ⟨zf_mono a2 rfl, a3 16 (by omega), a3 39 (by omega)⟩, mI_gen (N := fun i => i = 2 ∨ i = 5) m (zm2_fr m.h a2 rfl) a4 (.inl ⟨a3 35 (by omega), zf_l a2 rfl, zf_i a2 rfl⟩) (.inl a7) (.inr a5) (.inl (zf_i a2 rfl)) (.inl ⟨zf_i a2 rfl, zf_l a2 rfl⟩) (.inr a6) (.inl (zf_i a2 rfl)) (g_n K.hg) K.hs.1 (fun i _ q => ?_), a6⟩
  rcases q with rfl | rfl
  · exact a5
  · exact ⟨a5, a6⟩
theorem q_piece {g : zG} {s : zSn} {μ : zzM} (K : zOk g s) (c : cI g s μ) (m : mI g s μ) (a1 a2 a3 : Int32) : zQ g s 161 289 [.ref 0, .int a1, .int a2, .int a3] [.ref 105, .int a1, .int a2, .int a3] μ := by
  have hsl := K.hs.1
  have hgn := g_n K.hg
  refine zQ_rs K c m a1 a2 a3 (fc := fun z => (zzf zzP zN 12 97 [.ref 52] z).bind fun o3 => (zzf zzP zN 12 135 [.int a2, .int a3] o3.2).bind fun o4 => (zzri o4.2 53 91 o4.1.1).bind fun x5 => some ((((x5 >>> (a1 &&& 31)) &&& (nI 1)), 0, 0), o4.2)) (fm := fun z => (zzf zzP zN 12 288 [.ref 105] z).bind fun o3 => (zzf zzP zN 12 252 [.int a1, .int a2, .int a3] o3.2).bind fun o4 => (zzri o4.2 143 2028 o4.1.1).bind fun x5 => if x5 = 0 then some (((nI 0), 0, 0), o4.2) else some (((nI 1), 0, 0), o4.2)) (fun μ => w_pf_piece zN 12 a1 a2 a3 μ) (fun μ => w_m_piece zN 12 a1 a2 a3 μ) fun r p q h1 h2 h3 e1 e2 e3 => ⟨if zdc (zPi g s r p q) then nI 1 else 0, ?_, fun z hz => ?_⟩
  · obtain ⟨o, o1, o2, o3, o4, -⟩ := c_forest K c (by omega) 6
    have o1 : zzf zzP zN 12 97 [.ref 52] μ = some o := o1
    have hsp := zsp_lt q (by omega) p (by omega) h2
    rw [o1, Option.bind_some, e1, e2, e3, show zzf zzP zN 12 135 [.int (nI p), .int (nI q)] o.2 = _ from s_zsp 11 h2 (by omega) o.2, Option.bind_some]
    show zw ((zzri o.2 53 91 (nI (zsp p q))).bind _) _
    rw [zr_i _ _ hsp (by omega), Option.bind_some, b_bit1 _ (by omega)]
    refine zw_some ⟨o2, o3, ?_⟩
    have := o4 p q h2 h3 r (by omega)
    by_cases e : zPi g s r p q
    · rw [zdT e, this.2 e]
    · rw [zdF e, show bt (o.2.1 53 (zsp p q)) r = false from Bool.eq_false_iff.2 fun f => e (this.1 f)]
  · obtain ⟨t, t1, t2, t3, t4⟩ := d_forest K hz (by omega) 3
    have t1 : zzf zzP zN 12 288 [.ref 105] z = some t := t1
    rw [t1, Option.bind_some, e1, e2, e3, show zzf zzP zN 12 252 [.int (nI r), .int (nI p), .int (nI q)] t.2 = _ from m_spot 11 r p q t.2, Option.bind_some, zr_i _ _ (by omega) (by omega), Option.bind_some]
    have := t4.2 r p q h1 h2 h3
    unfold mPc at this
    by_cases e : t.2.1 143 (169 * r + 13 * p + q) = 0
    · rw [if_pos e]
      exact zw_some ⟨t2, t3, by rw [zdF fun f => this.2 f e]; rfl⟩
    · rw [if_neg e]
      exact zw_some ⟨t2, t3, by rw [zdT (this.1 e)]; rfl⟩
theorem d_count {g : zG} {s : zSn} {μ : zzM} (K : zOk g s) (m : mI g s μ) (hn : 0 < gN g) (d : Nat) : zw (zzf zzP zN (d + 10) 294 [.ref 105] μ) fun o => mQ μ o.2 ∧ mI g s o.2 ∧ o.2.1 105 54 = nI (zPn g s) ∧ mTl g s (fun _ => True) o.2 := by
  obtain ⟨o, a1, a2, a3, a4, a5, a6, a7, a8, a9⟩ := m_countsForest m.h K.hg K.hs hn d (mI_o m (i := 2) (by omega)) (mI_o m (i := 5) (by omega))
  refine ⟨o, a1, ⟨zf_mono a2 rfl, a3 16 (by omega) (by omega) (by omega) (by omega) (by omega), a3 39 (by omega) (by omega) (by omega) (by omega) (by omega)⟩, mI_gen (N := fun i => i = 2 ∨ i = 5) m (zm2_fr m.h a2 rfl) a4 (.inl ⟨a3 35 (by omega) (by omega) (by omega) (by omega) (by omega), zf_l a2 rfl, zf_i a2 rfl⟩) (.inl a7) (.inr a5) (.inl (zf_i a2 rfl)) (.inl ⟨zf_i a2 rfl, zf_l a2 rfl⟩) (.inr a6) (.inl (zf_i a2 rfl)) (g_n K.hg) K.hs.1 (fun i _ q => ?_), a8, a9⟩
  rcases q with rfl | rfl
  · exact a5
  · exact ⟨a5, a6⟩
theorem q_forest {g : zG} {s : zSn} {μ : zzM} (K : zOk g s) (c : cI g s μ) (m : mI g s μ) (a1 : Int32) : zQ g s 163 295 [.ref 0, .int a1] [.ref 105, .int a1] μ := by
  have hsl := K.hs.1
  have hgn := g_n K.hg
  have hm3 : ∀ z : zzM, zzf zzP zN 12 173 [.long (Int32.toInt64 a1), .long (lN 0), .long (lN 3)] z = some ((zB (zdc (∃ k, k < 4 ∧ a1 = nI k)), 0, 0), z) := fun z => by
    rw [show lN 3 = (nI 4 - nI 1).toInt64 by decide]
    exact m_inN 11 a1 (by omega) z
  by_cases hn : gN g = 0
  · refine zQ_v (-(nI 1)) m (cA_s c (a := 0) (b := 0) ?_ rfl) fun z hz => mA_s hz (a := 0) (b := 0) ?_ rfl
    · rw [show (13 : Nat) = 12 + 1 from rfl, w_pf_forest, show zzf zzP zN 12 128 [.ref 0] μ = _ from c_noG c.h K.hg 11, Option.bind_some, zdT hn, if_neg (show ¬ zB true = 0 by decide)]
    · rw [show (13 : Nat) = 12 + 1 from rfl, w_m_forest, show zzf zzP zN 12 175 [.ref 105] z = _ from d_isG hz.h K.hg 11, Option.bind_some, zdF (by omega), if_pos (show zB false = 0 by decide)]
  · have hn' : 0 < gN g := by omega
    by_cases e : ∃ k, k < 4 ∧ a1 = nI k
    · obtain ⟨k, k1, k2⟩ := id e
      obtain ⟨o, o1, o2, o3, o4, o5, o6, o7⟩ := c_forest K c hn' 6
      have o1 : zzf zzP zN 12 97 [.ref 52] μ = some o := o1
      have hm : ∀ z, mI g s z → ∃ p : zzR, zzf zzP zN 12 294 [.ref 105] z = some p ∧ mQ z p.2 ∧ mI g s p.2 ∧ p.2.1 105 54 = nI (zPn g s) ∧ mTl g s (fun _ => True) p.2 := fun z hz => d_count K hz hn' 2
      by_cases k0 : k = 0
      · refine zQ_v (nI (zPn g s)) m ?_ fun z hz => ?_
        · obtain ⟨u, u1, u2, u3⟩ := s_manyPieces o3.h K.hg hsl o4 10
          have u1 : zzf zzP zN 12 96 [.ref 52] o.2 = some u := u1
          refine ⟨((u.1.1, 0, 0), u.2), ?_, by simp only; rw [u2]; exact o2, by simp only; rw [u2]; exact o3, u3⟩
          rw [show (13 : Nat) = 12 + 1 from rfl, w_pf_forest, show zzf zzP zN 12 128 [.ref 0] μ = _ from c_noG c.h K.hg 11, Option.bind_some, zdF hn, if_pos (show zB false = 0 by decide), k2, k0, if_neg (by decide), if_pos (by decide), o1, Option.bind_some, if_pos (by decide), u1, Option.bind_some]
        · obtain ⟨p, p1, p2, p3, p4, p5⟩ := hm z hz
          refine ⟨((nI (zPn g s), 0, 0), p.2), ?_, p2, p3, rfl⟩
          rw [show (13 : Nat) = 12 + 1 from rfl, w_m_forest, show zzf zzP zN 12 175 [.ref 105] z = _ from d_isG hz.h K.hg 11, Option.bind_some, zdT hn', if_neg (show ¬ zB true = 0 by decide), hm3, Option.bind_some, zdT e, if_neg (show ¬ zB true = 0 by decide), p1, Option.bind_some, k2, k0, if_pos (by decide), p4]
      · obtain ⟨u, u1, u2, u3, u4, u5⟩ := s_tally o3.h K.hg o5 hsl o4 6 o7
        have u1 : zzf zzP zN 12 102 [.ref 52] o.2 = some u := u1
        have hu5 : ¬ u.2.1 52 2 = 0 := by rw [u3 2 (by omega) (by omega) (by omega) (by omega)]; exact o6
        have hcu : cI g s u.2 := cI_up o3 u2 rfl (.inl rfl) (.inl rfl) (.inl rfl) (.inl rfl) (.inl rfl) (.inl rfl) (.inl rfl) (.inr (.inr ⟨by
          unfold foOk cPc at o4 ⊢
          rw [zf_i u2 rfl]
          exact o4, cCf_fr o5 u2 rfl, .inr u4⟩)) (.inl rfl)
        obtain ⟨n, a, t1, t2, t3⟩ := u4
        refine zQ_v (if k = 1 then nI n else if k = 2 then nI a else u.2.1 52 7) m ⟨((if k = 1 then nI n else if k = 2 then nI a else u.2.1 52 7, 0, 0), u.2), ?_, zf_trans o2 (zf_mono u2 rfl), hcu, rfl⟩ fun z hz => ?_
        · rw [show (13 : Nat) = 12 + 1 from rfl, w_pf_forest, show zzf zzP zN 12 128 [.ref 0] μ = _ from c_noG c.h K.hg 11, Option.bind_some, zdF hn, if_pos (show zB false = 0 by decide), k2, if_neg (nI_pos (by omega)), if_pos (by rw [zq_le (by omega) (by omega)]; omega), o1, Option.bind_some, zif_cg (Iff.of_eq (zq_e0 (by omega))), if_neg k0, u1, Option.bind_some]
          simp (disch := omega) only [zq_eq]
          by_cases k1' : k = 1
          · rw [if_pos k1', if_pos k1', t2]
          · rw [if_neg k1', if_neg k1']
            by_cases k2' : k = 2
            · rw [if_pos k2', if_pos k2', t3]
            · rw [if_neg k2', if_neg k2']
        · obtain ⟨p, p1, p2, p3, p4, n', a', p5, p6, p7⟩ := hm z hz
          obtain ⟨z1, z2, z3⟩ := zT_un t1 p5
          refine ⟨((if k = 1 then nI n else if k = 2 then nI a else u.2.1 52 7, 0, 0), p.2), ?_, p2, p3, rfl⟩
          rw [show (13 : Nat) = 12 + 1 from rfl, w_m_forest, show zzf zzP zN 12 175 [.ref 105] z = _ from d_isG hz.h K.hg 11, Option.bind_some, zdT hn', if_neg (show ¬ zB true = 0 by decide), hm3, Option.bind_some, zdT e, if_neg (show ¬ zB true = 0 by decide), p1, Option.bind_some, k2, zif_cg (Iff.of_eq (zq_e0 (by omega))), if_neg k0]
          simp (disch := omega) only [zq_eq]
          by_cases k1' : k = 1
          · rw [if_pos k1', if_pos k1', p6, z1]
          · rw [if_neg k1', if_neg k1']
            by_cases k2' : k = 2
            · rw [if_pos k2', if_pos k2', p7, z2]
            · rw [if_neg k2', if_neg k2', z3]
    · refine zQ_v (-(nI 1)) m (cA_s c (a := 0) (b := 0) ?_ rfl) fun z hz => mA_s hz (a := 0) (b := 0) ?_ rfl
      · rw [show (13 : Nat) = 12 + 1 from rfl, w_pf_forest, show zzf zzP zN 12 128 [.ref 0] μ = _ from c_noG c.h K.hg 11, Option.bind_some, zdF hn, if_pos (show zB false = 0 by decide)]
        by_cases q : a1 < 0
        · rw [if_pos q]
        · rw [if_neg q, if_neg]
          intro f
          obtain ⟨k, k1, k2⟩ := (i_inle (N := 3) (by omega)).1 ⟨by rwa [i_nlt] at q, f⟩
          exact e ⟨k, by omega, k2⟩
      · rw [show (13 : Nat) = 12 + 1 from rfl, w_m_forest, show zzf zzP zN 12 175 [.ref 105] z = _ from d_isG hz.h K.hg 11, Option.bind_some, zdT hn', if_neg (show ¬ zB true = 0 by decide), hm3, Option.bind_some, zdF e, if_pos (show zB false = 0 by decide)]
