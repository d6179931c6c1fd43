/-! the sizes behind each point of a rule, of the reference -/
def mRs (g : zG) (s : zSn) (f : Nat → Nat → Nat → Nat) (r n k i : Nat) (μ : zzM) : Prop := ∃ x, μ.1 147 (13 * k + i) = nI x ∧ zmn 2000000000 (zSR (zSP g s (zTf 2000000000 f) r) n (gZ g r - k) k i) x
theorem m_laysSizes {g : zG} {s : zSn} {μ : zzM} (h : zm2 g s μ) (hg : zwg g) (hs : zws g s) (d : Nat) {f : Nat → Nat → Nat → Nat} (hZ : mSz g s f μ) {r m n : Nat} (hr : r < gN g) (hm : m ≤ n) (hn : n ≤ sL s) : zw (zzf zzP zN (d + 6) 298 [.ref 105, .int (nI r), .int (nI m), .int (nI n)] μ) fun o => zfr [147] μ o.2 ∧ ∀ k i, k ≤ gZ g r → m ≤ i → i ≤ n → mRs g s f r n k i o.2 := by
  have hgn := g_n hg
  have hsl := hs.1
  have hz := g_z hg hr
  rw [w_m_laysSizes, zr_i _ _ (by omega) (by omega), d_z h hr, Option.bind_some]
  refine zl_dn (fun k (y : zzM) => ([nI r, nI m, nI n, nJ k], [], y)) (fun k y => zfr [147] μ y ∧ ∀ k' i, k ≤ k' → k' ≤ gZ g r → m ≤ i → i ≤ n → mRs g s f r n k' i y) 0 (gZ g r + 1) μ (by omega) (by omega) (by rw [nJ_s]) ⟨zf_refl _ _, fun k' i a b => absurd a (by omega)⟩ ?_ ?_
  · rintro k y ga - hk ⟨i1, i2⟩ hgo
    unfold L298_c
    simp only [zI0, zI1, zI2, zI3, zI4, zI5, zI6, zI7, zI8, zJ0, zJ1, zJ2, zMM]
    rw [nJ_s, if_neg (nI_pos (by omega))]
    refine zl_up (fun i (y : zzM) => ([nI r, nI m, nI n, nI k, nI i], [], y)) (fun i y => zfr [147] μ y ∧ (∀ k' i, k + 1 ≤ k' → k' ≤ gZ g r → m ≤ i → i ≤ n → mRs g s f r n k' i y) ∧ ∀ i', m ≤ i' → i' < i → mRs g s f r n k i' y) m (n + 1) y (by omega) (by omega) rfl ⟨i1, i2, fun i' a b => absurd a (by omega)⟩ ?_ ?_
    · rintro i z gb hi hin ⟨j1, j2, j3⟩ hgo2
      have hzz := zm2_fr h j1 rfl
      have hZz := mSz_fr hZ j1 rfl
      -- the cell written
      have wr : ∀ gc x j, zmn 2000000000 (zSR (zSP g s (zTf 2000000000 f) r) n (gZ g r - k) k i) x → zw (J298_a zN (d + 5) ga gb gc (nI r) (nI m) (nI n) (nI k) (nI i) (nI x) (nI j) z) fun o => zfr [147] μ o.2 ∧ ∀ k i, k ≤ gZ g r → m ≤ i → i ≤ n → mRs g s f r n k i o.2 := by
        intro gc x j hx
        unfold J298_a
        rw [zq_mul, zq_add, zs_i _ _ _ (by omega) (by omega), Option.bind_some, zq_add]
        refine hgo2 _ ⟨zf_twI _ _ j1 rfl, fun k' i' a b c e => ?_, fun i' a b => ?_⟩
        · obtain ⟨x', b1, b2⟩ := j2 k' i' a b c e
          exact ⟨x', by rw [zm_k _ _ _ _ (by omega)]; exact b1, b2⟩
        · by_cases e : i' = i
          · rw [e]
            exact ⟨x, zm_s _ _ _ _, hx⟩
          · obtain ⟨x', b1, b2⟩ := j3 i' a (by omega)
            exact ⟨x', by rw [zm_k _ _ _ _ (by omega)]; exact b1, b2⟩
      unfold L298_b
      simp only [zI0, zI1, zI2, zI3, zI4, zI5, zI6, zI7, zI8, zJ0, zJ1, zJ2, zMM]
      rw [if_neg (by rw [zq_lt (by omega) (by omega)]; omega), zr_i _ _ (by omega) (by omega), d_z hzz hr, Option.bind_some]
      simp (disch := omega) only [zq_eq]
      by_cases ek : k = gZ g r
      · rw [if_pos ek]
        have hend : ∀ x, zmn 2000000000 (zSR (zSP g s (zTf 2000000000 f) r) n 0 k i) x → zw (J298_c zN (d + 5) ga gb (nI r) (nI m) (nI n) (nI k) (nI i) (nI x) z) fun o => zfr [147] μ o.2 ∧ ∀ k i, k ≤ gZ g r → m ≤ i → i ≤ n → mRs g s f r n k i o.2 := by
          intro x hx
          unfold J298_c
          refine zl_up (fun j (y : zzM) => ([nI r, nI m, nI n, nI k, nI i, nI x, nI j], [], z)) (fun j y => True) i (i + 1) z (by omega) (by omega) rfl trivial ?_ ?_
          · rintro j _ gc a b - -
            unfold L298_a
            simp only [zI0, zI1, zI2, zI3, zI4, zI5, zI6, zI7, zI8, zJ0, zJ1, zJ2, zMM]
            rw [if_neg (by rw [zq_lt (by omega) (by omega)]; omega), zr_i _ _ (by omega) (by omega), d_z hzz hr, Option.bind_some, if_pos (by rw [zq_le (by omega) (by omega)]; omega)]
            refine wr gc x j ?_
            rw [ek, Nat.sub_self]
            rw [ek] at hx
            exact hx
          · rintro _ gc -
            unfold L298_a
            simp only [zI0, zI1, zI2, zI3, zI4, zI5, zI6, zI7, zI8, zJ0, zJ1, zJ2, zMM]
            have fin := wr gc x (i + 1) (by
              rw [ek, Nat.sub_self]
              rw [ek] at hx
              exact hx)
            by_cases e : n < i + 1
            · rw [if_pos (by rw [zq_lt (by omega) (by omega)]; omega)]
              exact fin
            · rw [if_neg (by rw [zq_lt (by omega) (by omega)]; omega), zr_i _ _ (by omega) (by omega), d_z hzz hr, Option.bind_some, if_pos (by rw [zq_le (by omega) (by omega)]; omega)]
              exact fin
        by_cases ei : i = n
        · rw [if_pos ei]
          exact hend 0 (zmn_0 ⟨ei, rfl⟩)
        · rw [if_neg ei]
          unfold J298_d
          exact hend 2000000000 (zmn_C fun p q => absurd q.1 ei)
      · rw [if_neg ek]
        unfold J298_d J298_c
        let A : Nat → Nat → Prop := fun J v => ∃ j p w, i ≤ j ∧ j < J ∧ j ≤ n ∧ zSP g s (zTf 2000000000 f) r k i j p ∧ zSR (zSP g s (zTf 2000000000 f) r) n (gZ g r - (k + 1)) (k + 1) j w ∧ v = p + w
        refine zl_up (fun j (x : Nat) => ([nI r, nI m, nI n, nI k, nI i, nI x, nI j], [], z)) (fun j x => zmn 2000000000 (A j) x) i (n + 1) 2000000000 (by omega) (by omega) rfl (zmn_C fun p ⟨j, _, _, a, b, _⟩ => absurd a (by omega)) ?_ ?_
        · rintro j x gc hij hj hx hgo3
          obtain ⟨y2, y3, y4⟩ := j2 (k + 1) j (Nat.le_refl _) (by omega) (by omega) (by omega)
          have hx1 := hx.1
          have hy1 := y4.1
          obtain ⟨o, o1, o2, p, o3, o4⟩ := m_sizeBelow hzz hg hs d hZz hr (show k < gZ g r by omega) hij (show j ≤ sL s by omega)
          have hp1 := o4.1
          have key := zmn_s (A' := A (j + 1)) hx o4 y4 (fun v ⟨j', p', w, a1, a2, a3⟩ => ⟨j', p', w, a1, by omega, a3⟩) (fun a b ha hb => ⟨j, a, b, hij, by omega, by omega, ha, hb, rfl⟩) (by
            rintro v ⟨j', p', w, a1, a2, a3, a4, a5, a6⟩
            by_cases ej : j' = j
            · rw [ej] at a4 a5
              exact .inr ⟨p', w, a4, a5, a6⟩
            · exact .inl ⟨j', p', w, a1, by omega, a3, a4, a5, a6⟩)
          unfold L298_a
          simp only [zI0, zI1, zI2, zI3, zI4, zI5, zI6, zI7, zI8, zJ0, zJ1, zJ2, zMM]
          rw [if_neg (by rw [zq_lt (by omega) (by omega)]; omega), zr_i _ _ (by omega) (by omega), d_z hzz hr, Option.bind_some, if_neg (by rw [zq_le (by omega) (by omega)]; omega)]
          simp only [zq_add, zq_mul]
          rw [zr_i _ _ (by omega) (by omega), y3, Option.bind_some]
          by_cases ey : 2000000000 ≤ y2
          · rw [if_pos (by rw [zq_le (by omega) (by omega)]; omega)]
            unfold J298_b
            rw [if_pos (by rw [zq_le (by omega) (by omega)]; omega), zq_add]
            rw [if_pos (by omega)] at key
            exact hgo3 x key
          · rw [if_neg (by rw [zq_le (by omega) (by omega)]; omega), o1, Option.bind_some, o2, o3, m_joinN _ hp1 hy1, Option.bind_some]
            unfold J298_b
            rw [zq_add]
            by_cases es : x ≤ y2 + p
            · rw [if_pos es] at key
              rw [if_pos (by
                rw [zq_le (by omega) (by split <;> omega)]
                split <;> omega)]
              exact hgo3 x key
            · rw [if_neg es] at key
              rw [if_pos (show p + y2 < 2000000000 by omega), if_neg (by rw [zq_le (by omega) (by omega)]; omega), Nat.add_comm p y2]
              exact hgo3 _ key
        · rintro x gc hx
          unfold L298_a
          simp only [zI0, zI1, zI2, zI3, zI4, zI5, zI6, zI7, zI8, zJ0, zJ1, zJ2, zMM]
          rw [if_pos (by rw [zq_lt (by omega) (by omega)]; omega)]
          refine wr gc x (n + 1) ?_
          rw [show gZ g r - k = gZ g r - (k + 1) + 1 by omega]
          exact zmn_cg (fun v => ⟨fun ⟨j, p, w, a1, a2, a3, a4, a5, a6⟩ => ⟨j, p, w, a1, a3, a4, a5, a6⟩, fun ⟨j, p, w, a1, a3, a4, a5, a6⟩ => ⟨j, p, w, a1, by omega, a3, a4, a5, a6⟩⟩) hx
    · rintro z gb ⟨j1, j2, j3⟩
      unfold L298_b
      simp only [zI0, zI1, zI2, zI3, zI4, zI5, zI6, zI7, zI8, zJ0, zJ1, zJ2, zMM]
      rw [if_pos (by rw [zq_lt (by omega) (by omega)]; omega), nJ_e]
      refine hgo z ⟨j1, fun k' i a b c e => ?_⟩
      by_cases ek : k' = k
      · rw [ek]
        exact j3 i c (by omega)
      · exact j2 k' i (by omega) b c e
  · rintro y ga ⟨i1, i2⟩
    unfold L298_c
    simp only [zI0, zI1, zI2, zI3, zI4, zI5, zI6, zI7, zI8, zJ0, zJ1, zJ2, zMM]
    rw [if_pos (show nJ 0 < 0 by decide)]
    exact zw_some ⟨i1, fun k i a b c => i2 k i (Nat.zero_le _) a b c⟩
