/-! the sizes of the reference made less, length by length -/
theorem zMi_o {g : zG} {s : zSn} {C : Nat} {f : Nat → Nat → Nat → Nat} {m n : Nat} (h : zMi g s C f m n) {r m0 n0 v : Nat} (ho : ¬ (m ≤ m0 ∧ n0 ≤ n)) (hmn : m ≤ n) : zMi g s C (zu3 f r m0 n0 v) m n := by
  refine ⟨fun q i j a b c e => ?_, fun q => ?_⟩
  · rw [zu3_o f fun x => by omega]
    exact h.1 q i j a b c e
  · rw [zu3_o f fun x => by omega]
    exact h.2 q
theorem mSz_u {g : zG} {s : zSn} {f : Nat → Nat → Nat → Nat} {y : zzM} (hsl : sL s ≤ 12) (h : mSz g s f y) {r m n v : Nat} (hm : m ≤ n) (hn : n ≤ sL s) (hv : v ≤ 2000000000) : mSz g s (zu3 f r m n v) (zzwI y 146 (169 * r + 13 * m + n) (nI v)) := fun q i j a b c => by
  by_cases e : q = r ∧ i = m ∧ j = n
  · obtain ⟨rfl, rfl, rfl⟩ := e
    rw [zu3_s, zm_s]
    exact ⟨rfl, hv⟩
  · rw [zu3_o f e, zm_k _ _ _ _ (by omega)]
    exact h q i j a b c
theorem zu3_id {f : Nat → Nat → Nat → Nat} {r m n : Nat} : zu3 f r m n (f r m n) = f := by
  funext q i j
  by_cases e : q = r ∧ i = m ∧ j = n
  · obtain ⟨rfl, rfl, rfl⟩ := e
    rw [zu3_s]
  · rw [zu3_o f e]
theorem m_shrinks {g : zG} {s : zSn} {μ : zzM} (h : zm2 g s μ) (hg : zwg g) (hs : zws g s) (hk1 : mMk true g s μ) (d : Nat) {f : Nat → Nat → Nat → Nat} (hZ : mSz g s f μ) {l : Nat} (hl : l ≤ sL s) (hM : ∀ m, m + l ≤ sL s → zMi g s 2000000000 f m (m + l)) : zw (zzf zzP zN (d + 7) 299 [.ref 105, .int (nI l)] μ) fun o => zfr [146, 147] μ o.2 ∧ ∃ b f', o.1.1 = zB b ∧ mSz g s f' o.2 ∧ (∀ q i j, ¬ j = i + l → f' q i j = f q i j) ∧ (∀ q i j, f' q i j ≤ f q i j) ∧ (∀ m, m + l ≤ sL s → zMi g s 2000000000 f' m (m + l)) ∧ (b = true → ∃ q m, q < gN g ∧ m + l ≤ sL s ∧ f' q m (m + l) < f q m (m + l)) ∧ (b = false → ∀ m, m + l ≤ sL s → ∀ q, zmn 2000000000 (zSi g s q m (m + l)) (f' q m (m + l))) := by
  have hgn := g_n hg
  have hsl := hs.1
  rw [w_m_shrinks]
  let I : Nat → Nat → Bool × (Nat → Nat → Nat → Nat) × zzM → Prop := fun m r a => zfr [146, 147] μ a.2.2 ∧ mSz g s a.2.1 a.2.2 ∧ (∀ q i j, ¬ j = i + l → a.2.1 q i j = f q i j) ∧ (∀ q i j, a.2.1 q i j ≤ f q i j) ∧ (∀ m, m + l ≤ sL s → zMi g s 2000000000 a.2.1 m (m + l)) ∧ (a.1 = true → ∃ q m, q < gN g ∧ m + l ≤ sL s ∧ a.2.1 q m (m + l) < f q m (m + l)) ∧ (a.1 = false → a.2.1 = f ∧ ∀ m' r', (m' < m ∨ (m' = m ∧ r' < r)) → m' + l ≤ sL s → r' < gN g → zM true g s r' m' (m' + l) → ∃ w, zmn 2000000000 (zSR (zSP g s (zTf 2000000000 f) r') (m' + l) (gZ g r') 0 m') w ∧ f r' m' (m' + l) ≤ w + 1)
  refine zl_up (fun m (a : Bool × (Nat → Nat → Nat → Nat) × zzM) => ([nI l, zB a.1, nI m], [], a.2.2)) (fun m a => I m 0 a) 0 (sL s - l + 1) (false, f, μ) (by omega) (by omega) rfl ⟨zf_refl _ _, hZ, fun _ _ _ _ => rfl, fun _ _ _ => Nat.le_refl _, hM, fun q => (by cases q), fun _ => ⟨rfl, fun m' r' q => absurd q (by omega)⟩⟩ ?_ ?_
  · rintro m ⟨b, f1, y⟩ ga - hm hI hgo
    unfold L299_b
    simp only [zI0, zI1, zI2, zI3, zI4, zI5, zI6, zI7, zI8, zJ0, zJ1, zJ2, zMM]
    rw [zr_i _ _ (by omega) (by omega), d_len (zm2_fr h hI.1 rfl), Option.bind_some, zq_add, if_neg (by rw [zq_lt (by omega) (by omega)]; omega)]
    refine zl_up (fun r (a : Bool × (Nat → Nat → Nat → Nat) × zzM) => ([nI l, zB a.1, nI m, nI r], [], a.2.2)) (fun r a => I m r a) 0 (gN g) (b, f1, y) (by omega) (by omega) rfl hI ?_ ?_
    · rintro r ⟨b, f1, y⟩ gb - hr ⟨i1, i2, i3, i4, i5, i6, i7⟩ hgo2
      simp only at i1 i2 i3 i4 i5 i6 i7
      have hy := zm2_fr h i1 rfl
      have hky := mMk_fr hk1 i1 rfl
      have hmn : m + l ≤ sL s := by omega
      obtain ⟨z1, z2⟩ := i2 r m (m + l) hr (by omega) hmn
      unfold L299_a
      simp only [zI0, zI1, zI2, zI3, zI4, zI5, zI6, zI7, zI8, zJ0, zJ1, zJ2, zMM]
      rw [zr_i _ _ (by omega) (by omega), d_n hy, Option.bind_some, if_neg (by rw [zq_le (by omega) (by omega)]; omega)]
      simp only [zq_add]
      rw [m_spot, Option.bind_some, zq_add, zr_i _ _ (by omega) (by omega), Option.bind_some]
      have hkq := hky r m (m + l) hr (by omega) hmn
      unfold mMd at hkq
      rw [show 2028 * zbn true + (169 * r + 13 * m + (m + l)) = 2028 + (169 * r + 13 * m + (m + l)) from rfl] at hkq
      by_cases em : y.1 134 (2028 + (169 * r + 13 * m + (m + l))) = 0
      · rw [if_pos em]
        refine hgo2 (b, f1, y) ⟨i1, i2, i3, i4, i5, i6, fun q => ⟨(i7 q).1, fun m' r' a b c e => ?_⟩⟩
        by_cases er : m' = m ∧ r' = r
        · obtain ⟨rfl, rfl⟩ := er
          exact absurd em (hkq.2 e)
        · exact (i7 q).2 m' r' (by omega) b c e
      · rw [if_neg em]
        have hMr := hkq.1 em
        have hon := zM_on hMr
        obtain ⟨o, a1, a2, a3⟩ := m_laysSizes hy hg hs d i2 hr (show m ≤ m + l by omega) hmn
        obtain ⟨w, w1, w2⟩ := a3 0 m (Nat.zero_le _) (Nat.le_refl _) (by omega)
        rw [Nat.sub_zero] at w2
        rw [show 13 * 0 + m = m by omega] at w1
        have hw := w2.1
        rw [a1, Option.bind_some, zr_i _ _ (by omega) (by omega), w1, Option.bind_some, m_joinN _ (by omega) hw, Option.bind_some]
        have hfo := zf_trans i1 (zf_mono (L' := [146, 147]) a2 rfl)
        have hzo := mSz_fr i2 a2 rfl
        have z1o : o.2.1 146 (169 * r + 13 * m + (m + l)) = nI (f1 r m (m + l)) := by rw [zf_i a2 rfl]; exact z1
        have hnew : (if 1 + w < 2000000000 then 1 + w else 2000000000) ≤ 2000000000 := by split <;> omega
        -- not less
        have keep : f1 r m (m + l) ≤ (if 1 + w < 2000000000 then 1 + w else 2000000000) → zw (J299_b zN (d + 6) ga gb (nI l) (zB b) (nI m) (nI r) (nI (169 * r + 13 * m + (m + l))) (nI (if 1 + w < 2000000000 then 1 + w else 2000000000)) (zB b) o.2) fun o => zfr [146, 147] μ o.2 ∧ ∃ b f', o.1.1 = zB b ∧ mSz g s f' o.2 ∧ (∀ q i j, ¬ j = i + l → f' q i j = f q i j) ∧ (∀ q i j, f' q i j ≤ f q i j) ∧ (∀ m, m + l ≤ sL s → zMi g s 2000000000 f' m (m + l)) ∧ (b = true → ∃ q m, q < gN g ∧ m + l ≤ sL s ∧ f' q m (m + l) < f q m (m + l)) ∧ (b = false → ∀ m, m + l ≤ sL s → ∀ q, zmn 2000000000 (zSi g s q m (m + l)) (f' q m (m + l))) := by
          intro hle
          unfold J299_b
          rw [zr_i _ _ (by omega) (by omega), z1o, Option.bind_some, if_pos (by rw [zq_le (by omega) (by omega)]; omega), Option.bind_some]
          unfold J299_a
          rw [zs_i _ _ _ (by omega) (by omega), Option.bind_some, zm_id z1o, zq_add]
          refine hgo2 (b, f1, o.2) ⟨hfo, hzo, i3, i4, i5, i6, fun q => ⟨(i7 q).1, fun m' r' a b' c e => ?_⟩⟩
          by_cases er : m' = m ∧ r' = r
          · obtain ⟨rfl, rfl⟩ := er
            have e1 := (i7 q).1
            rw [e1] at w2 hle
            refine ⟨w, w2, ?_⟩
            revert hle
            split <;> omega
          · exact (i7 q).2 m' r' (by omega) b' c e
        -- less
        have less : ¬ f1 r m (m + l) ≤ (if 1 + w < 2000000000 then 1 + w else 2000000000) → zw (J299_b zN (d + 6) ga gb (nI l) (zB b) (nI m) (nI r) (nI (169 * r + 13 * m + (m + l))) (nI (if 1 + w < 2000000000 then 1 + w else 2000000000)) (nI 1) o.2) fun o => zfr [146, 147] μ o.2 ∧ ∃ b f', o.1.1 = zB b ∧ mSz g s f' o.2 ∧ (∀ q i j, ¬ j = i + l → f' q i j = f q i j) ∧ (∀ q i j, f' q i j ≤ f q i j) ∧ (∀ m, m + l ≤ sL s → zMi g s 2000000000 f' m (m + l)) ∧ (b = true → ∃ q m, q < gN g ∧ m + l ≤ sL s ∧ f' q m (m + l) < f q m (m + l)) ∧ (b = false → ∀ m, m + l ≤ sL s → ∀ q, zmn 2000000000 (zSi g s q m (m + l)) (f' q m (m + l))) := by
          intro hgt
          have hwM : 1 + w < 2000000000 := by
            apply Nat.lt_of_not_le
            intro q
            rw [if_neg (by omega)] at hgt
            omega
          rw [if_pos hwM] at hgt ⊢
          unfold J299_b
          rw [zr_i _ _ (by omega) (by omega), z1o, Option.bind_some, if_neg (by rw [zq_le (by omega) (by omega)]; omega)]
          unfold J299_a
          rw [zs_i _ _ _ (by omega) (by omega), Option.bind_some, zq_add, Nat.add_comm 1 w]
          have hif := i4 r m (m + l)
          refine hgo2 (true, zu3 f1 r m (m + l) (w + 1), _) ⟨zf_twI _ _ hfo rfl, mSz_u hsl hzo (by omega) hmn (by omega), fun q i j e => (zu3_o f1 fun x => e (by omega)).trans (i3 q i j e), fun q i j => ?_, fun m' hm' => ?_, fun _ => ⟨r, m, hr, hmn, ?_⟩, fun q => (by cases q)⟩
          · by_cases e : q = r ∧ i = m ∧ j = m + l
            · obtain ⟨rfl, rfl, rfl⟩ := e
              simp only [zu3_s]
              omega
            · simp only
              rw [zu3_o f1 e]
              exact i4 q i j
          · by_cases e : m' = m
            · rw [e]
              exact zMi_u (i5 m hmn) hon w2 (by omega)
            · exact zMi_o (i5 m' hm') (by omega) (by omega)
          · simp only [zu3_s]
            omega
        simp only [zB_0]
        cases b with
        | false =>
          rw [if_pos rfl, zr_i _ _ (by omega) (by omega), z1o, Option.bind_some]
          by_cases e : f1 r m (m + l) ≤ (if 1 + w < 2000000000 then 1 + w else 2000000000)
          · rw [if_pos (by rw [zq_le (by omega) (by omega)]; omega)]
            exact keep e
          · rw [if_neg (by rw [zq_le (by omega) (by omega)]; omega)]
            exact less e
        | true =>
          rw [if_neg (by decide)]
          by_cases e : f1 r m (m + l) ≤ (if 1 + w < 2000000000 then 1 + w else 2000000000)
          · exact keep e
          · exact less e
    · rintro ⟨b, f1, y⟩ gb ⟨i1, i2, i3, i4, i5, i6, i7⟩
      simp only at i1 i2 i3 i4 i5 i6 i7
      unfold L299_a
      simp only [zI0, zI1, zI2, zI3, zI4, zI5, zI6, zI7, zI8, zJ0, zJ1, zJ2, zMM]
      rw [zr_i _ _ (by omega) (by omega), d_n (zm2_fr h i1 rfl), Option.bind_some, if_pos (by rw [zq_le (by omega) (by omega)]; omega), zq_add]
      exact hgo (b, f1, y) ⟨i1, i2, i3, i4, i5, i6, fun q => ⟨(i7 q).1, fun m' r' a b' c e => (i7 q).2 m' r' (by omega) b' c e⟩⟩
  · rintro ⟨b, f1, y⟩ ga ⟨i1, i2, i3, i4, i5, i6, i7⟩
    simp only at i1 i2 i3 i4 i5 i6 i7
    unfold L299_b
    simp only [zI0, zI1, zI2, zI3, zI4, zI5, zI6, zI7, zI8, zJ0, zJ1, zJ2, zMM]
    rw [zr_i _ _ (by omega) (by omega), d_len (zm2_fr h i1 rfl), Option.bind_some, zq_add, if_pos (by rw [zq_lt (by omega) (by omega)]; omega)]
    simp only [zB_ok, if_true]
    refine zw_some ⟨i1, b, f1, rfl, i2, i3, i4, i5, i6, fun q m hm => ?_⟩
    obtain ⟨e1, e2⟩ := i7 q
    have h5 := i5 m hm
    rw [e1] at h5 ⊢
    exact zPr_fin hg h5 (zPr_fix hg (by omega) (by omega) h5 (fun r hr hMr => e2 m r (by omega) hm hr hMr) 12)
