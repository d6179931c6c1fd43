/-! QUERIES: the smallest tree, mend, what is spoken -/
theorem d_small {g : zG} {s : zSn} {μ : zzM} (K : zOk g s) (m : mI g s μ) (hn : 0 < gN g) (d : Nat) : zw (zzf zzP zN (d + 10) 302 [.ref 105] μ) fun o => mQ μ o.2 ∧ mI g s o.2 ∧ smOk g s o.2 ∧ ((o.1.1 = -(nI 2) ∧ ∀ q u, gL g q = gL g 0 → ¬ zLt g s q 0 (sL s) u) ∨ ∃ q v, zFq g s (fun q => gL g q = gL g 0) 0 (sL s) q ∧ zLt g s q 0 (sL s) v ∧ o.1.1 = nI v) := by
  obtain ⟨o, a1, a2, a3, a4, a5, a6, a7, a8⟩ := m_smallest m.h K.hg K.hs hn d (mI_o m (i := 2) (by omega)) (mI_o m (i := 6) (by omega))
  refine ⟨o, a1, ⟨zf_mono a2 rfl, a3 16 (by omega), a3 39 (by omega)⟩, mI_gen (N := fun i => i = 2 ∨ i = 6) m (zm2_fr m.h a2 rfl) a4 (.inl ⟨a3 35 (by omega), zf_l a2 rfl, zf_i a2 rfl⟩) (.inl a7) (.inr a5) (.inl (zf_i a2 rfl)) (.inl ⟨zf_i a2 rfl, zf_l a2 rfl⟩) (.inl (zf_i a2 rfl)) (.inr a6) (g_n K.hg) K.hs.1 (fun i _ q => ?_), a6, a8⟩
  rcases q with rfl | rfl
  · exact a5
  · exact ⟨a5, a6⟩
theorem c_sizes {g : zG} {s : zSn} {μ : zzM} (K : zOk g s) (c : cI g s μ) (hn : 0 < gN g) (d : Nat) : zw (zzf zzP zN (d + 6) 86 [.ref 48] μ) fun o => zfr cQl μ o.2 ∧ cI g s o.2 ∧ cCf true 36 37 38 39 g s o.2 ∧ ∃ f, cSz g s f (fun _ j => j ≤ sL s) o.2 ∧ zFt g s 1152921504606846976 f 0 (sL s) := by
  obtain ⟨k, k1, k2⟩ := c.Z
  obtain ⟨o, a1, a2, a3, a4, a5⟩ := s_sfill c.h K.hg K.hs c.A d k2 k1
  obtain ⟨-, f, f1, f2⟩ := id a4
  exact ⟨o, a1, zf_mono a2 rfl, cI_up c a2 rfl (.inl rfl) (.inl rfl) (.inl rfl) (.inr (cCf_h a3)) (.inl rfl) (.inl rfl) (.inr ⟨_, Nat.le_refl _, a4⟩) (.inr (cO_A c (zf_i a2 rfl) (zf_i a2 rfl) a3)) (.inl rfl), a3, f, cSz_D f1 (fun i j _ q => by omega), fun q i j _ h1 h2 => f2 q i j h1 (by omega)⟩
theorem q_smallest {g : zG} {s : zSn} {μ : zzM} (K : zOk g s) (c : cI g s μ) (m : mI g s μ) : zQ g s 164 302 [.ref 0] [.ref 105] μ := by
  have hsl := K.hs.1
  by_cases hn : gN g = 0
  · refine zQ_v (-(nI 1)) m (cA_s c (a := 0) (b := 0) ?_ rfl) fun z hz => mA_s hz (a := 0) (b := 0) ?_ rfl
    · rw [show (13 : Nat) = 12 + 1 from rfl, w_pf_smallest, show zzf zzP zN 12 128 [.ref 0] μ = _ from c_noG c.h K.hg 11, Option.bind_some, zdT hn, if_neg (show ¬ zB true = 0 by decide)]
    · rw [show (13 : Nat) = 12 + 1 from rfl, u_m_smallest, show zzf zzP zN 12 175 [.ref 105] z = _ from d_isG hz.h K.hg 11, Option.bind_some, zdF (by omega), if_pos (show zB false = 0 by decide)]
  · have hn' : 0 < gN g := by omega
    let A : Int32 → Prop := fun x => (x = -(nI 2) ∧ ∀ q u, gL g q = gL g 0 → ¬ zLt g s q 0 (sL s) u) ∨ ∃ q v, zFq g s (fun q => gL g q = gL g 0) 0 (sL s) q ∧ zLt g s q 0 (sL s) v ∧ x = nI v
    refine zQ_of (A := A) (A' := A) m ?_ (fun z hz => ?_) fun x x' h1 h2 => ?_
    · obtain ⟨o, o1, o2, o3, o4, f, o5, o6⟩ := c_sizes K c hn' 6
      have o1 : zzf zzP zN 12 86 [.ref 48] μ = some o := o1
      obtain ⟨u, u1, u2, u3⟩ := s_wholeSize o3.h K.hg hsl 9 hn' o5 o6
      have u1 : zzf zzP zN 12 85 [.ref 48] o.2 = some u := u1
      unfold cA
      rw [show (13 : Nat) = 12 + 1 from rfl, w_pf_smallest, show zzf zzP zN 12 128 [.ref 0] μ = _ from c_noG c.h K.hg 11, Option.bind_some, zdF hn, if_pos (show zB false = 0 by decide), o1, Option.bind_some, u1, Option.bind_some, u2]
      rcases u3 with ⟨v1, v2⟩ | ⟨q, v, v1, v2, v3⟩
      · rw [v1, zif_cg ((lg_cmp_lt _ _).trans (pk_lLT (by omega) (by omega))), if_neg (by omega)]
        exact zw_some ⟨o2, o3, .inl ⟨rfl, v2⟩⟩
      · have hb := zLt_b K.hg hsl v2
        rw [v3, zif_cg ((lg_cmp_lt _ _).trans (pk_lLT (by omega) (by omega))), if_pos (by omega), lN_i]
        exact zw_some ⟨o2, o3, .inr ⟨q, v, v1, v2, rfl⟩⟩
    · obtain ⟨p, p1, p2, p3, p4, p5⟩ := d_small K hz hn' 3
      exact ⟨p, p1, p2, p3, p5⟩
    · rcases h1 with ⟨q1, q2⟩ | ⟨q, v, q1, q2, q3⟩ <;> rcases h2 with ⟨p1, p2⟩ | ⟨k, u, p1, p2, p3⟩
      · rw [q1, p1]
      · exact absurd p2 (q2 k u p1.1)
      · exact absurd q2 (p2 q v q1.1)
      · have := zFq_un q1 p1
        rw [this] at q2
        rw [q3, p3, zLt_un q2 p2]
theorem q_tree {g : zG} {s : zSn} {μ : zzM} (K : zOk g s) (c : cI g s μ) (m : mI g s μ) (a1 a2 : Int32) : zQ g s 165 305 [.ref 0, .int a1, .int a2] [.ref 105, .int a1, .int a2] μ := by
  have hsl := K.hs.1
  have hgn := g_n K.hg
  have hm2 : ∀ z : zzM, zzf zzP zN 12 173 [.long (Int32.toInt64 a2), .long (lN 0), .long (lN 2)] z = some ((zB (zdc (∃ k, k < 3 ∧ a2 = nI k)), 0, 0), z) := fun z => by
    rw [show lN 2 = (nI 3 - nI 1).toInt64 by decide]
    exact m_inN 11 a2 (by omega) z
  have hmk : ∀ (z : zzM) (x : Int32), x = -(nI 1) ∨ x = -(nI 2) → zzf zzP zN 12 173 [.long (Int32.toInt64 a1), .long (lN 0), .long (Int32.toInt64 (x - nI 1))] z = some ((zB false, 0, 0), z) := fun z x hx => by
    rw [show (12 : Nat) = 11 + 1 from rfl, m_in, decide_eq_false fun q => ?_]
    have h0 := q.1
    have h1 := q.2
    rw [w_32] at h1
    rw [w_0, w_32] at h0
    rw [Int32.le_iff_toInt_le] at h0 h1
    have e0 : (0 : Int32).toInt = 0 := by decide
    rcases hx with rfl | rfl
    · have : (-(nI 1) - nI 1).toInt = -2 := by decide
      omega
    · have : (-(nI 2) - nI 1).toInt = -3 := by decide
      omega
  by_cases hn : gN g = 0
  · refine zQ_v (-(nI 1)) m (cA_s c (a := 0) (b := 0) ?_ rfl) fun z hz => mA_s hz (a := 0) (b := 0) ?_ rfl
    · rw [show (13 : Nat) = 12 + 1 from rfl, w_pf_tree, show zzf zzP zN 12 128 [.ref 0] μ = _ from c_noG c.h K.hg 11, Option.bind_some, zdT hn, if_neg (show ¬ zB true = 0 by decide)]
    · have hsm : zzf zzP zN 12 302 [.ref 105] z = some ((-(nI 1), 0, 0), z) := by
        rw [show (12 : Nat) = 11 + 1 from rfl, u_m_smallest, show zzf zzP zN 11 175 [.ref 105] z = _ from d_isG hz.h K.hg 10, Option.bind_some, zdF (by omega), if_pos (show zB false = 0 by decide)]
      rw [show (13 : Nat) = 12 + 1 from rfl, w_m_tree, hsm, Option.bind_some, hmk z _ (.inl rfl), Option.bind_some, if_pos (show zB false = 0 by decide)]
  · have hn' : 0 < gN g := by omega
    -- what the reference does
    have hR : ∀ z, mI g s z → ∃ p : zzR, zzf zzP zN 12 302 [.ref 105] z = some p ∧ mQ z p.2 ∧ mI g s p.2 ∧ smOk g s p.2 ∧ ((p.1.1 = -(nI 2) ∧ ∀ q u, gL g q = gL g 0 → ¬ zLt g s q 0 (sL s) u) ∨ ∃ q v, zFq g s (fun q => gL g q = gL g 0) 0 (sL s) q ∧ zLt g s q 0 (sL s) v ∧ p.1.1 = nI v) := fun z hz => d_small K hz hn' 2
    -- the reference refuses
    have hno : (¬ ∃ k j, k < 1157627905 ∧ a1 = nI k ∧ j < 3 ∧ a2 = nI j ∧ ∃ q v, zFq g s (fun q => gL g q = gL g 0) 0 (sL s) q ∧ zLt g s q 0 (sL s) v ∧ k < v) → ∀ z, mI g s z → mA g s 13 305 [.ref 105, .int a1, .int a2] z (· = -(nI 1)) := by
      intro hno z hz
      obtain ⟨p, p1, p2, p3, p4, p5⟩ := hR z hz
      refine ⟨((-(nI 1), 0, 0), p.2), ?_, p2, p3, rfl⟩
      rw [show (13 : Nat) = 12 + 1 from rfl, w_m_tree, p1, Option.bind_some]
      rcases p5 with ⟨p5, p6⟩ | ⟨q, v, p5, p6, p7⟩
      · rw [p5, hmk p.2 _ (.inr rfl), Option.bind_some, if_pos (show zB false = 0 by decide)]
      · have hb := zLt_b K.hg hsl p6
        rw [p7, show zzf zzP zN 12 173 [.long (Int32.toInt64 a1), .long (lN 0), .long (Int32.toInt64 (nI v - nI 1))] p.2 = _ from by
          have hd : decide (lN 0 ≤ a1.toInt64 ∧ a1.toInt64 ≤ (nI v - nI 1).toInt64) = zdc (∃ k, k < v ∧ a1 = nI k) := by
            unfold zdc
            refine decide_eq_decide.2 ?_
            rw [w_0, w_32, w_32, nJ_e]
            constructor
            · rintro ⟨h1, h2⟩
              rcases zq_cases a1 with f | ⟨k, hk, rfl⟩
              · exact absurd h1 (by rw [i_nle]; exact f)
              · refine ⟨k, ?_, rfl⟩
                cases v with
                | zero => exact absurd h2 (nJ_nle (Nat.zero_le _) hk)
                | succ v =>
                  rw [nJ_s, zq_le hk (by omega)] at h2
                  omega
            · rintro ⟨k, h1, rfl⟩
              refine ⟨by rw [zq_0le (by omega)]; trivial, ?_⟩
              cases v with
              | zero => omega
              | succ v =>
                rw [nJ_s, zq_le (by omega) (by omega)]
                omega
          show zzf zzP zN (11 + 1) 173 [.long (Int32.toInt64 a1), .long (lN 0), .long (Int32.toInt64 (nI v - nI 1))] p.2 = some ((zB (zdc (∃ k, k < v ∧ a1 = nI k)), 0, 0), p.2)
          rw [m_in, hd], Option.bind_some]
        by_cases e : ∃ k, k < v ∧ a1 = nI k
        · rw [zdT e, if_neg (show ¬ zB true = 0 by decide), hm2, Option.bind_some]
          by_cases e2 : ∃ j, j < 3 ∧ a2 = nI j
          · obtain ⟨k, k1, k2⟩ := e
            obtain ⟨j, j1, j2⟩ := e2
            exact absurd ⟨k, j, by omega, k2, j1, j2, q, v, p5, p6, k1⟩ hno
          · rw [zdF e2, if_pos (show zB false = 0 by decide)]
        · rw [zdF e, if_pos (show zB false = 0 by decide)]
    by_cases hyes : ∃ k j, k < 1157627905 ∧ a1 = nI k ∧ j < 3 ∧ a2 = nI j ∧ ∃ q v, zFq g s (fun q => gL g q = gL g 0) 0 (sL s) q ∧ zLt g s q 0 (sL s) v ∧ k < v
    · obtain ⟨k, j, y1, y2, y3, y4, q, v, y5, y6, y7⟩ := hyes
      have hb := zLt_b K.hg hsl y6
      have hq : q < gN g := zon_lt (zSi_on y6.1)
      obtain ⟨o, o1, o2, o3, o4, f, o5, o6⟩ := c_sizes K c hn' 6
      have o1 : zzf zzP zN 12 86 [.ref 48] μ = some o := o1
      obtain ⟨u, u1, u2, u3⟩ := s_wholeSize o3.h K.hg hsl 9 hn' o5 o6
      have u1 : zzf zzP zN 12 85 [.ref 48] o.2 = some u := u1
      have hu : u.1.2.1 = lN v := by
        rcases u3 with ⟨v1, v2⟩ | ⟨q', v', v1, v2, v3⟩
        · exact absurd y6 (v2 q v y5.1)
        · have := zFq_un v1 y5
          rw [this] at v2
          rw [v3, zLt_un v2 y6]
      obtain ⟨w, w1, w2, w3, t, r', m', n', w4, w5, w6, w7⟩ := s_seek o3.h K.hg o4 hsl 7 hn' o5 o6 y5 y6 y7
      have w1 : zzf zzP zN 12 93 [.ref 48, .long (lN k)] o.2 = some w := w1
      have hcw : cI g s w.2 := cI_up o3 w2 rfl (.inl rfl) (.inl rfl) (.inl rfl) (.inl rfl) (.inl rfl) (.inl rfl) (.inr (by
        obtain ⟨x, x1, x2, f', x3, x4⟩ := o3.Z
        refine ⟨x, x1, (w3 2 (by omega) (by omega) (by omega)).trans x2, f', ?_, x4⟩
        unfold cSz at x3 ⊢
        rw [zf_l w2 rfl, zf_l w2 rfl]
        exact x3)) (.inl rfl) (.inl rfl)
      refine zQ_v (if j = 0 then nI r' else if j = 1 then nI m' else nI n') m ⟨((if j = 0 then nI r' else if j = 1 then nI m' else nI n', 0, 0), w.2), ?_, zf_trans o2 (zf_mono w2 rfl), hcw, rfl⟩ fun z hz => ?_
      · rw [show (13 : Nat) = 12 + 1 from rfl, w_pf_tree, show zzf zzP zN 12 128 [.ref 0] μ = _ from c_noG c.h K.hg 11, Option.bind_some, zdF hn, if_pos (show zB false = 0 by decide), y2, if_neg (nI_pos (by omega)), y4, if_neg (nI_pos (by omega)), if_pos (by rw [zq_le (by omega) (by omega)]; omega), o1, Option.bind_some, u1, Option.bind_some, u2, hu, zif_cg ((lg_cmp_ge _ _).trans (pk_lLE (by omega) (by omega))), if_neg (by omega), nI_l (by omega), zif_cg ((lg_cmp_lt _ _).trans (pk_lLT (by omega) (by omega))), if_pos y7, w1, Option.bind_some, w5, w6, w7]
        simp (disch := omega) only [zq_e0, zq_eq]
        by_cases j0 : j = 0
        · rw [if_pos j0, if_pos j0]
        · rw [if_neg j0, if_neg j0]
          by_cases j1 : j = 1
          · rw [if_pos j1, if_pos j1]
          · rw [if_neg j1, if_neg j1]
      · obtain ⟨p, p1, p2, p3, ⟨f2, p4, p4'⟩, p5⟩ := hR z hz
        have hp7 : p.1.1 = nI v := by
          rcases p5 with ⟨v1, v2⟩ | ⟨q', v', v1, v2, v3⟩
          · exact absurd y6 (v2 q v y5.1)
          · have := zFq_un v1 y5
            rw [this] at v2
            rw [v3, zLt_un v2 y6]
        have hFt : zFt g s 2000000000 f2 0 (sL s) := fun q i j _ h1 h2 => p4' q i j h1 h2
        obtain ⟨l, l1, l2, l3⟩ := m_firstRule p3.h K.hg K.hs hn' 10 p4 hFt
        have l1 : zzf zzP zN 12 301 [.ref 105] p.2 = some l := l1
        have hl : l.1.1 = nI q := by
          rcases l3 with ⟨v1, v2⟩ | ⟨q', v1, v2, v3⟩
          · exact absurd y6 (v2 q v y5.1)
          · rw [v2, zFq_un v3 y5]
        have hin1 : zzf zzP zN 12 173 [.long (Int32.toInt64 (nI k)), .long (lN 0), .long (Int32.toInt64 (nI v - nI 1))] p.2 = some ((zB true, 0, 0), p.2) := by
          rw [show (12 : Nat) = 11 + 1 from rfl, m_in, decide_eq_true]
          rw [w_0, w_32, w_32, zq_sub (by omega), zq_0le (by omega), zq_le (by omega) (by omega)]
          exact ⟨trivial, by omega⟩
        have hf4 : zfr [105] p.2 (zzwI (zzwI (zzwI (zzwI p.2 105 60 (nI q)) 105 61 (nI 0)) 105 62 (nI (sL s))) 105 63 (nI k)) := zf_twI _ _ (zf_twI _ _ (zf_twI _ _ (zf_wI _ _ rfl) rfl) rfl) rfl
        have h105 : ∀ x, x ≠ 60 → x ≠ 61 → x ≠ 62 → x ≠ 63 → (zzwI (zzwI (zzwI (zzwI p.2 105 60 (nI q)) 105 61 (nI 0)) 105 62 (nI (sL s))) 105 63 (nI k)).1 105 x = p.2.1 105 x := fun x x0 x1 x2 x3 => (zm_k _ _ _ _ x3).trans ((zm_k _ _ _ _ x2).trans ((zm_k _ _ _ _ x1).trans (zm_k _ _ _ _ x0)))
        have h2p := zm2_fr p3.h hf4 rfl
        obtain ⟨W, b1, b2, b3, t', r2, m2, n2, b4, b5⟩ := m_walk h2p K.hg K.hs 5 (mSz_fr p4 hf4 rfl) hFt hq (Nat.zero_le _) (Nat.le_refl _) y6 y7 ((zm_k _ _ _ _ (by omega)).trans ((zm_k _ _ _ _ (by omega)).trans ((zm_k _ _ _ _ (by omega)).trans (zm_s _ _ _ _)))) ((zm_k _ _ _ _ (by omega)).trans ((zm_k _ _ _ _ (by omega)).trans (zm_s _ _ _ _))) ((zm_k _ _ _ _ (by omega)).trans (zm_s _ _ _ _)) (zm_s _ _ _ _) (nI j)
        obtain ⟨g1, g2, g3⟩ := zGo_un w4 b4
        have hfW : zfr [105, 147] p.2 W.2 := zf_trans (zf_mono hf4 rfl) b2
        have hkW : ∀ x, x ≠ 60 → x ≠ 61 → x ≠ 62 → x ≠ 63 → W.2.1 105 x = p.2.1 105 x := fun x x0 x1 x2 x3 => (b3 x x0 x1 x2 x3).trans (h105 x x0 x1 x2 x3)
        refine ⟨W, ?_, mQ_t p2 ⟨zf_mono hfW rfl, hkW 16 (by omega) (by omega) (by omega) (by omega), hkW 39 (by omega) (by omega) (by omega) (by omega)⟩, mI_fr p3 hfW (hkW 35 (by omega) (by omega) (by omega) (by omega)) (hkW 36 (by omega) (by omega) (by omega) (by omega)) rfl rfl, ?_⟩
        · rw [show (13 : Nat) = 12 + 1 from rfl, w_m_tree, p1, Option.bind_some, hp7, y2, hin1, Option.bind_some, if_neg (show ¬ zB true = 0 by decide), hm2, Option.bind_some, zdT ⟨j, y3, y4⟩, if_neg (show ¬ zB true = 0 by decide), l1, Option.bind_some, l2, hl, zr_i _ _ (by omega) (by omega), zm_c _ _ _ (by omega), zm_c _ _ _ (by omega), d_len p3.h, Option.bind_some, y4]
          exact b1
        · rw [b5, g1, g2, g3]
          simp (disch := omega) only [zq_e0, zq_eq]
    · refine zQ_v (-(nI 1)) m ?_ (hno hyes)
      unfold cA
      rw [show (13 : Nat) = 12 + 1 from rfl, w_pf_tree, show zzf zzP zN 12 128 [.ref 0] μ = _ from c_noG c.h K.hg 11, Option.bind_some, zdF hn, if_pos (show zB false = 0 by decide)]
      by_cases q1 : a1 < 0
      · rw [if_pos q1]
        exact zw_some ⟨zf_refl _ _, c, rfl⟩
      · rw [if_neg q1]
        by_cases q2 : a2 < 0
        · rw [if_pos q2]
          exact zw_some ⟨zf_refl _ _, c, rfl⟩
        · rw [if_neg q2]
          by_cases q3 : a2 ≤ nI 2
          · rw [if_pos q3]
            obtain ⟨o, o1, o2, o3, o4, f, o5, o6⟩ := c_sizes K c hn' 6
            have o1 : zzf zzP zN 12 86 [.ref 48] μ = some o := o1
            obtain ⟨u, u1, u2, u3⟩ := s_wholeSize o3.h K.hg hsl 9 hn' o5 o6
            have u1 : zzf zzP zN 12 85 [.ref 48] o.2 = some u := u1
            rw [o1, Option.bind_some, u1, Option.bind_some, u2]
            obtain ⟨k, k1, rfl⟩ := (zq_cases a1).resolve_left q1
            obtain ⟨j, j1, rfl⟩ := (i_inle (N := 2) (by omega)).1 ⟨by rwa [i_nlt] at q2, q3⟩
            rcases u3 with ⟨v1, v2⟩ | ⟨q, v, v1, v2, v3⟩
            · rw [v1, zif_cg ((lg_cmp_ge _ _).trans (pk_lLE (by omega) (by omega))), if_pos (by omega)]
              exact zw_some ⟨o2, o3, rfl⟩
            · have hb := zLt_b K.hg hsl v2
              rw [v3, zif_cg ((lg_cmp_ge _ _).trans (pk_lLE (by omega) (by omega))), if_neg (by omega), nI_l (by omega), zif_cg ((lg_cmp_lt _ _).trans (pk_lLT (by omega) (by omega))), if_neg (fun f => hyes ⟨k, j, by omega, rfl, by omega, rfl, q, v, v1, v2, f⟩)]
              exact zw_some ⟨o2, o3, rfl⟩
          · rw [if_neg q3]
            exact zw_some ⟨zf_refl _ _, c, rfl⟩
theorem q_mend {g : zG} {s : zSn} {μ : zzM} (K : zOk g s) (c : cI g s μ) (m : mI g s μ) : zQ g s 167 309 [.ref 0] [.ref 105] μ := by
  by_cases hn : gN g = 0
  · refine zQ_v (-(nI 1)) m (cA_s c (a := 0) (b := 0) ?_ rfl) fun z hz => mA_s hz (a := 0) (b := 0) ?_ rfl
    · rw [show (13 : Nat) = 12 + 1 from rfl, w_pf_mend, show zzf zzP zN 12 128 [.ref 0] μ = _ from c_noG c.h K.hg 11, Option.bind_some, zdT hn, if_neg (show ¬ zB true = 0 by decide)]
    · rw [show (13 : Nat) = 12 + 1 from rfl, w_m_mend, show zzf zzP zN 12 175 [.ref 105] z = _ from d_isG hz.h K.hg 11, Option.bind_some, zdF (by omega), if_pos (show zB false = 0 by decide)]
  · have hn' : 0 < gN g := by omega
    obtain ⟨k, k1, k2⟩ := c.M
    refine zQ_of (A := fun v => ∃ x, zmn 268435456 (zMe g s (gL g 0 - 26) 0 (sL s)) x ∧ v = if x < 268435456 then nI x else -(nI 2)) (A' := fun v => ∃ x, zmn 2000000000 (zMe g s (gL g 0 - 26) 0 (sL s)) x ∧ v = if x < 2000000000 then nI x else -(nI 2)) m ?_ (fun z hz => ?_) fun v v' ⟨x, x1, x2⟩ ⟨y, y1, y2⟩ => by rw [x2, y2]; exact zmend_eq K.hg K.hs x1 y1
    · obtain ⟨o, a1, a2, a3, a4, a5⟩ := s_mend c.h K.hg K.hs hn' 6 k2 k1
      exact ⟨o, a1, zf_mono a2 rfl, cI_up c a2 rfl (.inl rfl) (.inl rfl) (.inl rfl) (.inl rfl) (.inl rfl) (.inl rfl) (.inl rfl) (.inl rfl) (.inr ⟨_, Nat.le_refl _, a3⟩), a5⟩
    · obtain ⟨o, a1, a2, a3⟩ := m_mend hz.h K.hg K.hs hn' 7
      exact ⟨o, a1, ⟨zf_mono a2 rfl, by rw [zf_i a2 rfl], by rw [zf_i a2 rfl]⟩, mI_fr hz a2 (by rw [zf_i a2 rfl]) (by rw [zf_i a2 rfl]) rfl rfl, a3⟩
theorem mSf_f {μ y : zzM} (h : mSf μ y) (h6 : y.1 106 6 = μ.1 106 6) : zfr [105, 150] μ y := fun c hc => by
  refine ⟨?_, by rw [h.2.2.2]⟩
  by_cases e : c = 106
  · rw [e]
    funext p
    by_cases ep : p = 6
    · rw [ep]
      exact h6
    · exact h.2.1 p ep
  · exact (h.1 c (by
      rw [List.elem_eq_mem] at hc ⊢
      simp only [List.mem_cons, List.not_mem_nil, or_false, decide_eq_false_iff_not, not_or] at hc ⊢
      exact ⟨hc.1, e, hc.2⟩)).1
/-- what is spoken: x is told by both sides -/
theorem q_spoken {g : zG} {s : zSn} {μ : zzM} (K : zOk g s) (c : cI g s μ) (m : mI g s μ) {x : Nat} (hx : x < 2147483648) (h9 : μ.1 2 9 = nI x) (h6 : μ.1 106 6 = nI x) (a1 a2 : Int32) : zQ g s 169 317 [.ref 0, .int a1, .int a2] [.ref 105, .int a1, .int a2] μ := by
  by_cases hn : gN g = 0
  · refine zQ_v (-(nI 3)) m (cA_s c (a := 0) (b := 0) ?_ rfl) fun z hz => mA_s hz (a := 0) (b := 0) ?_ rfl
    · rw [show (13 : Nat) = 12 + 1 from rfl, w_pf_spoken, show zzf zzP zN 12 128 [.ref 0] μ = _ from c_noG c.h K.hg 11, Option.bind_some, zdT hn, if_neg (show ¬ zB true = 0 by decide)]
    · rw [show (13 : Nat) = 12 + 1 from rfl, w_m_spoken, show zzf zzP zN 12 175 [.ref 105] z = _ from d_isG hz.h K.hg 11, Option.bind_some, zdF (by omega), if_pos (show zB false = 0 by decide)]
  · have hn' : 0 < gN g := by omega
    obtain ⟨o, o1, o2, o3, o4⟩ := s_spoken c.h K.hg hn' 8 hx h9 a1 a2
    have hco : cI g s o.2 := cI_up c o2 rfl (.inl rfl) (.inl rfl) (.inl rfl) (.inl rfl) (.inl rfl) (.inl rfl) (.inl rfl) (.inl rfl) (.inl rfl)
    have hfo := zf_mono (L' := cQl) o2 rfl
    have hmo := mI_c m hfo
    have h6o : o.2.1 106 6 = nI x := by rw [zf_i hfo rfl]; exact h6
    obtain ⟨p, p1, p2, p3, p4⟩ := m_spoken hmo.h K.hg hn' 8 hx h6o a1 a2
    have hf := mSf_f p2 (p3.trans h6o.symm)
    exact ⟨o, p, o1, p1, o4.trans p4.symm, hfo, ⟨zf_mono hf rfl, p2.2.2.1 16 (by omega), p2.2.2.1 39 (by omega)⟩, cI_m hco (zf_mono hf rfl), mI_fr hmo hf (p2.2.2.1 35 (by omega)) (p2.2.2.1 36 (by omega)) rfl rfl⟩
