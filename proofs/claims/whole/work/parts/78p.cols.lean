/-! THE CHART of the class, column by column, object 31; what is asked of it -/
theorem s_fill_31 (d : Nat) {g : zG} {s : zSn} {μ : zzM} (h : zc2 g s μ) (hg : zwg g) (hs : zws g s) (hc : cCh false 31 32 33 34 g s μ) : zw (zzf zzP zN (d + 5) 58 [.ref 31] μ) fun o => zfr [31, 32, 33, 34] μ o.2 ∧ cCf false 31 32 33 34 g s o.2 ∧ ∀ p, p ≠ 2 → o.2.1 31 p = μ.1 31 p := by
  have hgn := g_n hg
  have hl := hs.1
  obtain ⟨c, hc1, hc2, hK, hE, hF, hk⟩ := hc
  rw [w_chart_fill_31]
  unfold J58_31_a
  have key : ∀ y : zzM, zfr [31, 32, 33, 34] μ y → (∀ p, p ≠ 2 → y.1 31 p = μ.1 31 p) → cEl 34 y → cFi false 32 g s y → chk false 33 34 g s (fun _ j => j < c) y → zw (zzl (L58_31_b zN (d + 4)) zN ([nI c], [], y)) fun o => zfr [31, 32, 33, 34] μ o.2 ∧ cCf false 31 32 33 34 g s o.2 ∧ ∀ p, p ≠ 2 → o.2.1 31 p = μ.1 31 p := by
    intro y0 hy1 hy2 hy3 hy4 hy5
    refine zl_up (fun n (y : zzM) => ([nI n], [], y)) (fun n y => zfr [31, 32, 33, 34] μ y ∧ (∀ p, p ≠ 2 → y.1 31 p = μ.1 31 p) ∧ cEl 34 y ∧ cFi false 32 g s y ∧ chk false 33 34 g s (fun _ j => j < n) y) c (sL s + 1) y0 hc1 (by omega) rfl ⟨hy1, hy2, hy3, hy4, hy5⟩ ?_ ?_
    · rintro n y g' - hn ⟨h1, h2, h3, h4, h5⟩ hgo
      have hy := zc2_fr h h1 rfl
      unfold L58_31_b
      simp only [zI0, zI1, zI2, zI3, zI4, zI5, zI6, zI7, zI8, zJ0, zJ1, zJ2, zMM]
      rw [c_len hy, if_neg (by rw [zq_lt (by omega) (by omega)]; omega)]
      refine zl_dn (fun m (y : zzM) => ([nI n, nJ m], [], y)) (fun m y => zfr [31, 32, 33, 34] μ y ∧ (∀ p, p ≠ 2 → y.1 31 p = μ.1 31 p) ∧ cEl 34 y ∧ cFi false 32 g s y ∧ chk false 33 34 g s (fun i j => j < n ∨ (j = n ∧ m ≤ i)) y) 0 (n + 1) y (by omega) (by omega) (by rw [nJ_s]) ⟨h1, h2, h3, h4, fun i j a b e => h5 i j (by simp only at a; omega) b e⟩ ?_ ?_
      · rintro m y g'' - hm ⟨h1, h2, h3, h4, h5⟩ hgo2
        have hy := zc2_fr h h1 rfl
        unfold L58_31_a
        simp only [zI0, zI1, zI2, zI3, zI4, zI5, zI6, zI7, zI8, zJ0, zJ1, zJ2, zMM]
        rw [nJ_s, if_neg (nI_pos (by omega))]
        obtain ⟨o, e1, e2, e3⟩ := s_placeSmalls_31 (d + 2) hy hg hs (show m ≤ n by omega) (show n ≤ sL s by omega)
        rw [e1, Option.bind_some]
        have ho := zc2_fr hy e2 rfl
        have hEo : cEl 34 o.2 := fun x i j a b e => by
          rw [(e3 x a i b j (by omega)).2 fun q => by omega]
          exact h3 x i j a b e
        have hFo : cFi false 32 g s o.2 := fun r k a b => by rw [zf_i e2 rfl]; exact h4 r k a b
        have hsm : ∀ r k, r < gN g → k < gZ g r → (bt (o.2.1 34 ((r * 4 + k) * 13 + m)) n = true ↔ n = m + 1 ∧ sX s m = gS g r k) := by
          intro r k a b
          have hz := g_z hg a
          have e1' : (r * 4 + k) / 4 = r := by omega
          have e2' : (r * 4 + k) % 4 = k := by omega
          have f4 := (e3 (r * 4 + k) (by omega) m (by omega) n (by omega)).1 ⟨rfl, rfl, by unfold cdone; rw [e1', e2']; exact ⟨a, b, .inl a⟩⟩
          rw [e1', e2'] at f4
          rw [f4, decide_eq_true_eq]
        have hold : ∀ i j, i ≤ j → j ≤ 12 → ¬ (i = m ∧ j = n) → ∀ r k, r < gN g → k < gZ g r → bt (o.2.1 34 ((r * 4 + k) * 13 + i)) j = bt (y.1 34 ((r * 4 + k) * 13 + i)) j := by
          intro i j a b e r k a' b'
          have hz := g_z hg a'
          exact (e3 (r * 4 + k) (by omega) i (by omega) j (by omega)).2 fun q => e ⟨q.1, q.2.1⟩
        obtain ⟨o', f1, f2, f3, f4, f5, f6⟩ := s_settle_31 (d + 1) ho hg hFo hEo (show m ≤ n by omega) (show n ≤ 12 by omega) hsm (fun e => hs.2.1 m (by omega)) (fun i j a b e f r k a' b' => by
          rw [hold i j b (by omega) f r k a' b']
          exact (h5 i j (by omega) b (by omega)).2 r k a' b')
        rw [f1, Option.bind_some, nJ_e]
        have hx := zsp_inj
        refine hgo2 o'.2 ⟨zf_trans h1 (zf_trans (zf_mono e2 rfl) (zf_mono f2 rfl)), fun p hp => ?_, fun x i j a b e => ?_, fun r k a b => ?_, fun i j a b e => ?_⟩
        · rw [zf_i f2 rfl, zf_i e2 rfl]
          exact h2 p hp
        · rw [f5 x i j a b (by omega) (by omega)]
          exact hEo x i j a b e
        · rw [zf_i f2 rfl]
          exact hFo r k a b
        · by_cases eij : i = m ∧ j = n
          · obtain ⟨rfl, rfl⟩ := eij
            exact ⟨f4, f6⟩
          · have hd : j < n ∨ (j = n ∧ m + 1 ≤ i) := by simp only at a; omega
            obtain ⟨q1, q2⟩ := h5 i j hd b e
            refine ⟨fun r hr => ?_, fun r k a' b' => ?_⟩
            · rw [f3 _ (fun q => eij (zsp_inj j (by omega) i (by omega) b n (by omega) m (by omega) (by omega) q)), zf_i e2 rfl]
              exact q1 r hr
            · have hz := g_z hg a'
              rw [f5 (r * 4 + k) i j (by omega) (by omega) (by omega) eij, hold i j b e eij r k a' b']
              exact q2 r k a' b'
      · rintro y g'' ⟨h1, h2, h3, h4, h5⟩
        unfold L58_31_a
        simp only [zI0, zI1, zI2, zI3, zI4, zI5, zI6, zI7, zI8, zJ0, zJ1, zJ2, zMM]
        rw [if_pos (by decide), zq_add]
        exact hgo y ⟨h1, h2, h3, h4, fun i j a b e => h5 i j (by simp only at a; omega) b e⟩
    · rintro y g' ⟨h1, h2, h3, h4, h5⟩
      have hy := zc2_fr h h1 rfl
      unfold L58_31_b
      simp only [zI0, zI1, zI2, zI3, zI4, zI5, zI6, zI7, zI8, zJ0, zJ1, zJ2, zMM]
      rw [c_len hy, if_pos (by rw [zq_lt (by omega) (by omega)]; omega), zq_add]
      refine zw_some ⟨zf_twI _ _ h1 rfl, ⟨?_, ?_, ?_, ?_, ?_⟩, fun p hp => ?_⟩
      · exact zm_s _ _ _ _
      · show (zzwI y 31 2 _).1 31 1 = _
        rw [zm_k _ _ _ _ (by omega), h2 1 (by omega)]
        exact hK
      · intro x i j a b e
        show bt ((zzwI y 31 2 _).1 34 _) j = _
        rw [zm_c _ _ _ (by omega)]
        exact h3 x i j a b e
      · intro r k a b
        show ∀ q, q < 32 → bt ((zzwI y 31 2 _).1 32 _) q = _
        rw [zm_c _ _ _ (by omega)]
        exact h4 r k a b
      · intro i j a b e
        show (∀ r, r < 32 → (bt ((zzwI y 31 2 _).1 33 _) r = true ↔ _)) ∧ ∀ r k, r < gN g → k < gZ g r → (bt ((zzwI y 31 2 _).1 34 _) j = true ↔ _)
        rw [zm_c _ _ _ (by omega), zm_c _ _ _ (by omega)]
        exact h5 i j (by simp only at a ⊢; omega) b e
      · show (zzwI y 31 2 _).1 31 p = _
        rw [zm_k _ _ _ _ hp]
        exact h2 p hp
  rw [hc2]
  simp (disch := omega) only [zq_e0]
  by_cases e : c = 0
  · rw [if_pos e]
    obtain ⟨o, e1, e2, e3⟩ := s_findFit_31 d h hg hK
    rw [e1, Option.bind_some, zf_i e2 rfl, hc2]
    refine key o.2 (zf_mono e2 rfl) (fun p _ => by rw [zf_i e2 rfl]) (fun x i j => by rw [zf_i e2 rfl]; exact hE x i j) e3 (fun i j a => ?_)
    simp only at a
    omega
  · rw [if_neg e]
    exact key μ (zf_refl _ _) (fun p _ => rfl) hE (hF e) hk
theorem s_rulesAt_31 (d : Nat) {m n : Nat} (hm : m ≤ n) (hn : n ≤ 12) (μ : zzM) : zzf zzP zN (d + 2) 52 [.ref 31, .int (nI m), .int (nI n)] μ = some ((μ.1 33 (zsp m n), 0, 0), μ) := by
  have hsp := zsp_lt n (by omega) m (by omega) hm
  rw [u_chart_rulesAt_31, s_zsp _ hm hn, Option.bind_some, zr_i _ _ hsp (by omega), Option.bind_some]
