/-! a step of the descent of the reference (its row w_m_goesBelow stands in a part of its own) -/
theorem m_goesBelow {g : zG} {s : zSn} {μ : zzM} (h : zm2 g s μ) (hg : zwg g) (hs : zws g s) (d : Nat) {f : Nat → Nat → Nat → Nat} (hZ : mSz g s f μ) {r m n l v : Nat} (hr : r < gN g) (hm : m ≤ n) (hn : n ≤ sL s) (hF : zFt g s 2000000000 f m n) (hv : zLt g s r m n v) (hl : l + 1 < v) (e0 : μ.1 105 60 = nI r) (e1 : μ.1 105 61 = nI m) (e2 : μ.1 105 62 = nI n) (e3 : μ.1 105 63 = nI (l + 1)) : zw (zzf zzP zN (d + 7) 303 [.ref 105] μ) fun o => zfr [105, 147] μ o.2 ∧ (∀ p, p ≠ 60 → p ≠ 61 → p ≠ 62 → p ≠ 63 → o.2.1 105 p = μ.1 105 p) ∧ ∃ q i j l', zDw g s r n (gZ g r) 0 m l q i j l' ∧ o.2.1 105 60 = nI q ∧ o.2.1 105 61 = nI i ∧ o.2.1 105 62 = nI j ∧ o.2.1 105 63 = nI l' := by
  have hgn := g_n hg
  have hsl := hs.1
  have hz := g_z hg hr
  have hvb := zLt_b hg (by omega) hv
  rw [w_m_goesBelow, e0, e1, e2]
  obtain ⟨o1, a1, a2, a3⟩ := m_laysSizes h hg hs d hZ hr hm hn
  rw [a1, Option.bind_some]
  have c63 : o1.2.1 105 63 = nI (l + 1) := by rw [zf_i a2 rfl]; exact e3
  rw [c63, zq_sub (show 1 ≤ l + 1 by omega), show l + 1 - 1 = l by omega]
  have hR0 : zRm g s r n 0 m (v - 1) := by
    obtain ⟨-, w, w1, w2⟩ := zSi_out hv.1
    refine ⟨by rw [Nat.sub_zero, show v - 1 = w by omega]; exact w1, fun p hp => ?_⟩
    rw [Nat.sub_zero] at hp
    have := hv.2 _ (zSi_in (zSi_on hv.1) hp)
    omega
  have hf1 : zfr [105, 147] μ (zzwI o1.2 105 63 (nI l)) := zf_twI _ _ (zf_mono a2 rfl) rfl
  have hk1 : ∀ p, p ≠ 60 → p ≠ 61 → p ≠ 62 → p ≠ 63 → (zzwI o1.2 105 63 (nI l)).1 105 p = μ.1 105 p := fun p _ _ _ h63 => by rw [zm_k _ _ _ _ h63, zf_i a2 rfl]
  have hrs : ∀ y, zfr [105] o1.2 y → ∀ k i, k ≤ gZ g r → m ≤ i → i ≤ n → mRs g s f r n k i y := fun y hy k i a b c => by
    obtain ⟨x, x1, x2⟩ := a3 k i a b c
    exact ⟨x, by rw [zf_i hy rfl]; exact x1, x2⟩
  let Fin : zzM → Prop := fun y => zfr [105, 147] μ y ∧ (∀ p, p ≠ 60 → p ≠ 61 → p ≠ 62 → p ≠ 63 → y.1 105 p = μ.1 105 p) ∧ ∃ q i j l', zDw g s r n (gZ g r) 0 m l q i j l' ∧ y.1 105 60 = nI q ∧ y.1 105 61 = nI i ∧ y.1 105 62 = nI j ∧ y.1 105 63 = nI l'
  refine zl_up (fun k (a : Bool × Nat × Nat × zzM) => ([nI r, nI n, nI a.2.1, zB a.1, nI k], [], a.2.2.2)) (fun k a => (a.1 = true ∧ Fin a.2.2.2) ∨ (a.1 = false ∧ zfr [105] o1.2 a.2.2.2 ∧ zfr [105, 147] μ a.2.2.2 ∧ (∀ p, p ≠ 60 → p ≠ 61 → p ≠ 62 → p ≠ 63 → a.2.2.2.1 105 p = μ.1 105 p) ∧ a.2.2.2.1 105 63 = nI a.2.2.1 ∧ m ≤ a.2.1 ∧ a.2.1 ≤ n ∧ ∃ R, zRm g s r n k a.2.1 R ∧ a.2.2.1 < R ∧ R < v ∧ ∀ q i j l', zDw g s r n (gZ g r - k) k a.2.1 a.2.2.1 q i j l' → zDw g s r n (gZ g r) 0 m l q i j l')) 0 (gZ g r) (false, m, l, zzwI o1.2 105 63 (nI l)) (by omega) (by omega) rfl (.inr ⟨rfl, zf_wI _ _ rfl, hf1, hk1, zm_s _ _ _ _, Nat.le_refl _, hm, v - 1, hR0, by simp only; omega, by omega, fun q i j l' e => e⟩) ?_ ?_
  · rintro k ⟨b, i, l1, y⟩ ga - hk hJ hgo
    simp only at hJ
    have hzy : zm2 g s y := by
      rcases hJ with ⟨-, hy, -⟩ | ⟨-, -, hy, -⟩
      · exact zm2_fr h hy rfl
      · exact zm2_fr h hy rfl
    unfold L303_a
    simp only [zI0, zI1, zI2, zI3, zI4, zI5, zI6, zI7, zI8, zJ0, zJ1, zJ2, zMM]
    rw [zr_i _ _ (by omega) (by omega), d_z hzy hr, Option.bind_some, if_neg (by rw [zq_le (by omega) (by omega)]; omega)]
    simp only [zB_0]
    rcases hJ with ⟨rfl, hy⟩ | ⟨rfl, b0, b1, b2, b3, b4, b5, R, b6, b7, b8, b9⟩
    · rw [if_neg (by decide)]
      exact zw_some hy
    · rw [if_pos rfl]
      have hZy := mSz_fr hZ b1 rfl
      obtain ⟨o, f1, f2, e, f3, f4⟩ := m_endOf hzy hg hs d hZy hr hk b4 b5 hn hF (hrs y b0 k i (by omega) b4 b5) (fun j q1 q2 => hrs y b0 (k + 1) j (by omega) (by omega) q2) b6 (by omega)
      have hie := f4.1
      have hen := f4.2.1
      rw [f1, Option.bind_some, f2, f3, m_capAt hzy hg (d + 4) hr hk, Option.bind_some]
      simp only [zB_0]
      obtain ⟨a, b, g1, g2, g3⟩ := f4.2.2.1
      have hdd : gZ g r - k = gZ g r - (k + 1) + 1 := by omega
      -- a part that is passed
      have pass : ∀ x, a ≤ l1 → zw (J303_c zN (d + 6) ga (nI r) (nI n) (nI i) (zB false) (nI k) (nI e) x (nI a) y) fun o => Fin o.2 := by
        intro x ha
        unfold J303_c
        rw [b3, if_pos (by rw [zq_le (by omega) (by omega)]; omega)]
        unfold J303_b
        rw [if_pos (by decide), b3]
        unfold J303_a
        rw [if_pos (by decide), zq_add, zq_sub ha]
        refine hgo (false, e, l1 - a, zzwI y 105 63 (nI (l1 - a))) (.inr ⟨rfl, zf_twI _ _ b0 rfl, zf_twI _ _ b1 rfl, fun p p0 p1 p2 p3 => (zm_k _ _ _ _ p3).trans (b2 p p0 p1 p2 p3), zm_s _ _ _ _, by simp only; omega, hen, b, g2, by simp only; omega, by omega, fun q i' j' l' q1 => b9 q i' j' l' ?_⟩)
        rw [hdd]
        exact ⟨R, e, a, b6, f4, g1, .inr ⟨ha, q1⟩⟩
      by_cases e26 : 26 ≤ gS g r k
      · rw [decide_eq_true e26, if_neg (by decide)]
        obtain ⟨ol, l2, l3, l4⟩ := m_leastBelow hzy hg hs (d + 2) hZy hr hk hie (show e ≤ sL s by omega)
        rw [l2, Option.bind_some, l3]
        rcases zFs_q hg (by omega) (by omega) hF b4 hie hen (S := fun q => zbl true g s r k q = true) (fun q hq hfq => Iff.rfl) l4 with ⟨_, q2⟩ | ⟨q, q1, q2, q3⟩
        · exfalso
          rcases g1.1 with ⟨z, -⟩ | ⟨-, q, z1, z2⟩
          · omega
          · obtain ⟨u, -, u2⟩ := zLt_ex z2
            exact q2 q u z1 u2
        · obtain ⟨u1, u, u2, u3⟩ := id q3
          have hua : u = a := by
            have h1 := g1.2 u (.inr ⟨e26, q, u1, u2.1⟩)
            rcases g1.1 with ⟨z, -⟩ | ⟨-, q', z1, z2⟩
            · omega
            · obtain ⟨w, w1, w2⟩ := zLt_ex z2
              have := (u3 q' w z1 w2).1
              omega
          have hfq := (zFt_lt hg (by omega) (by omega) hF b4 hie hen).1 u2
          unfold J303_d
          rw [q2, if_neg (by rw [zq_em (by omega)]; exact id), m_spot, Option.bind_some, zr_i _ _ (by omega) (by omega), (hZy q i e q1 hie (by omega)).1, Option.bind_some, hfq.1, hua]
          by_cases ha : a ≤ l1
          · exact pass _ ha
          · unfold J303_c
            rw [b3, if_neg (by rw [zq_le (by omega) (by omega)]; omega)]
            unfold J303_b
            rw [if_neg (by decide), b3]
            unfold J303_a
            rw [if_neg (by decide), zq_add, zq_sub (Nat.zero_le _), Nat.sub_zero]
            refine hgo (true, e, l1, zzwI (zzwI (zzwI (zzwI y 105 63 (nI l1)) 105 60 (nI q)) 105 61 (nI i)) 105 62 (nI e)) (.inl ⟨rfl, zf_twI _ _ (zf_twI _ _ (zf_twI _ _ (zf_twI _ _ b1 rfl) rfl) rfl) rfl, fun p p0 p1 p2 p3 => (zm_k _ _ _ _ p2).trans ((zm_k _ _ _ _ p1).trans ((zm_k _ _ _ _ p0).trans ((zm_k _ _ _ _ p3).trans (b2 p p0 p1 p2 p3)))), q, i, e, l1, b9 q i e l1 ?_, (zm_k _ _ _ _ (by omega)).trans ((zm_k _ _ _ _ (by omega)).trans (zm_s _ _ _ _)), (zm_k _ _ _ _ (by omega)).trans (zm_s _ _ _ _), zm_s _ _ _ _, (zm_k _ _ _ _ (by omega)).trans ((zm_k _ _ _ _ (by omega)).trans ((zm_k _ _ _ _ (by omega)).trans (zm_s _ _ _ _)))⟩)
            rw [hdd]
            exact ⟨R, e, a, b6, f4, g1, .inl ⟨by omega, q3, rfl, rfl, rfl⟩⟩
      · rw [decide_eq_false e26, if_pos rfl]
        have ha0 : a = 0 := by
          rcases g1.1 with ⟨-, -, -, z⟩ | ⟨z, -⟩
          · exact z
          · omega
        unfold J303_d
        rw [if_pos rfl]
        have := pass (-(nI 1)) (by omega)
        rw [ha0] at this
        exact this
  · rintro ⟨b, i, l1, y⟩ ga hJ
    simp only at hJ
    rcases hJ with ⟨rfl, hy⟩ | ⟨rfl, b0, b1, b2, b3, b4, b5, R, b6, b7, b8, b9⟩
    · unfold L303_a
      simp only [zI0, zI1, zI2, zI3, zI4, zI5, zI6, zI7, zI8, zJ0, zJ1, zJ2, zMM]
      rw [zr_i _ _ (by omega) (by omega), d_z (zm2_fr h hy.1 rfl) hr, Option.bind_some, if_pos (by rw [zq_le (by omega) (by omega)]; omega)]
      exact zw_some hy
    · have hR := b6.1
      rw [Nat.sub_self] at hR
      have : R = 0 := hR.2
      omega
