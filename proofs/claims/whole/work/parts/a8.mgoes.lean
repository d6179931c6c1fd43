/-! THE FOREST of the reference: goesThrough, laysForest -/
def mGn (μ : zzM) (q i j : Nat) : Prop := ¬ μ.1 144 (169 * q + 13 * i + j) = 0
/-- pieces so far, those gone through -/
def mFo (g : zG) (s : zSn) (μ : zzM) : Prop := mPl g s 143 μ ∧ (∀ q i j, q < gN g → i ≤ j → j ≤ sL s → mPc μ q i j → zPi g s q i j) ∧ ∀ r m n, r < gN g → m ≤ n → n ≤ sL s → mGn μ r m n → ∀ q i j, zmk2 g s r m n q i j → mPc μ q i j
theorem m_goes {g : zG} {s : zSn} {μ : zzM} (h : zm2 g s μ) (hg : zwg g) (hs : zws g s) (hk1 : mMk true g s μ) (d : Nat) (hF : mFo g s μ) : zw (zzf zzP zN (d + 7) 287 [.ref 105] μ) fun o => ∃ t, o.1.1 = zB t ∧ zfr [135, 136, 143, 144] μ o.2 ∧ mFo g s o.2 ∧ (∀ q i j, q < gN g → i ≤ j → j ≤ sL s → mPc μ q i j → mPc o.2 q i j) ∧ (∀ p, ¬ μ.1 144 p = 0 → ¬ o.2.1 144 p = 0) ∧ (t = true → ∃ p, p < 2028 ∧ μ.1 144 p = 0 ∧ ¬ o.2.1 144 p = 0) ∧ (t = false → o.2 = μ ∧ ∀ r m n, r < gN g → m ≤ n → n ≤ sL s → mPc μ r m n → mGn μ r m n) := by
  have hgn := g_n hg
  have hsl := hs.1
  rw [w_m_goesThrough]
  let JJ : Nat → Nat → Nat → Bool → zzM → Prop := fun r m n t y => zfr [135, 136, 143, 144] μ y ∧ mFo g s y ∧ (∀ q i j, q < gN g → i ≤ j → j ≤ sL s → mPc μ q i j → mPc y q i j) ∧ (∀ p, ¬ μ.1 144 p = 0 → ¬ y.1 144 p = 0) ∧ (t = true → ∃ p, p < 2028 ∧ μ.1 144 p = 0 ∧ ¬ y.1 144 p = 0) ∧ (t = false → y = μ ∧ ∀ r' m' n', r' < gN g → m' ≤ n' → n' ≤ sL s → (r' < r ∨ (r' = r ∧ (m' < m ∨ (m' = m ∧ n' < n)))) → mPc μ r' m' n' → mGn μ r' m' n')
  have JJcg : ∀ r m n r2 m2 n2 t y, (∀ r' m' n', r' < gN g → m' ≤ n' → n' ≤ sL s → (r' < r2 ∨ (r' = r2 ∧ (m' < m2 ∨ (m' = m2 ∧ n' < n2)))) → (r' < r ∨ (r' = r ∧ (m' < m ∨ (m' = m ∧ n' < n))))) → JJ r m n t y → JJ r2 m2 n2 t y := fun r m n r2 m2 n2 t y hd hj => ⟨hj.1, hj.2.1, hj.2.2.1, hj.2.2.2.1, hj.2.2.2.2.1, fun e => ⟨(hj.2.2.2.2.2 e).1, fun r' m' n' a b c f => (hj.2.2.2.2.2 e).2 r' m' n' a b c (hd r' m' n' a b c f)⟩⟩
  refine zl_up (fun r (a : Bool × zzM) => ([zB a.1, nI r], [], a.2)) (fun r a => JJ r 0 0 a.1 a.2) 0 (gN g) (false, μ) (by omega) (by omega) rfl ⟨zf_refl _ _, hF, fun _ _ _ _ _ _ e => e, fun _ e => e, fun e => (by cases e), fun _ => ⟨rfl, fun r' m' n' a b c f => by omega⟩⟩ ?_ ?_
  · rintro r ⟨t, y⟩ ga - hr hJ hgo
    simp only at hJ
    have hy := zm2_fr h hJ.1 rfl
    unfold L287_c
    simp only [zI0, zI1, zI2, zI3, zI4, zI5, zI6, zI7, zI8, zJ0, zJ1, zJ2, zMM]
    rw [zr_i _ _ (by omega) (by omega), d_n hy, Option.bind_some, if_neg (by rw [zq_le (by omega) (by omega)]; omega)]
    refine zl_up (fun m (a : Bool × zzM) => ([zB a.1, nI r, nI m], [], a.2)) (fun m a => JJ r m 0 a.1 a.2) 0 (sL s + 1) (t, y) (by omega) (by omega) rfl hJ ?_ ?_
    · rintro m ⟨t, y⟩ gb - hm hJ hgo2
      simp only at hJ
      have hy := zm2_fr h hJ.1 rfl
      unfold L287_b
      simp only [zI0, zI1, zI2, zI3, zI4, zI5, zI6, zI7, zI8, zJ0, zJ1, zJ2, zMM]
      rw [zr_i _ _ (by omega) (by omega), d_len hy, Option.bind_some, if_neg (by rw [zq_lt (by omega) (by omega)]; omega)]
      refine zl_up (fun n (a : Bool × zzM) => ([zB a.1, nI r, nI m, nI n], [], a.2)) (fun n a => JJ r m n a.1 a.2) m (sL s + 1) (t, y) (by omega) (by omega) rfl (JJcg _ _ _ _ _ _ _ _ (fun r' m' n' a b c f => by omega) hJ) ?_ ?_
      · rintro n ⟨t, y⟩ gc hmn hn hJ hgo3
        simp only at hJ
        obtain ⟨a1, a2, a3, a4, a5, a6⟩ := id hJ
        have hy := zm2_fr h a1 rfl
        have hky := mMk_fr hk1 a1 rfl
        unfold L287_a
        simp only [zI0, zI1, zI2, zI3, zI4, zI5, zI6, zI7, zI8, zJ0, zJ1, zJ2, zMM]
        rw [zr_i _ _ (by omega) (by omega), d_len hy, Option.bind_some, if_neg (by rw [zq_lt (by omega) (by omega)]; omega), m_spot, Option.bind_some, zr_i _ _ (by omega) (by omega), Option.bind_some]
        simp only [zq_add, zk_1, if_true]
        have skip : (mPc y r m n → mGn y r m n) → zw (gc ([zB t, nI r, nI m, nI (n + 1)], [], y)) fun o => ∃ t, o.1.1 = zB t ∧ zfr [135, 136, 143, 144] μ o.2 ∧ mFo g s o.2 ∧ (∀ q i j, q < gN g → i ≤ j → j ≤ sL s → mPc μ q i j → mPc o.2 q i j) ∧ (∀ p, ¬ μ.1 144 p = 0 → ¬ o.2.1 144 p = 0) ∧ (t = true → ∃ p, p < 2028 ∧ μ.1 144 p = 0 ∧ ¬ o.2.1 144 p = 0) ∧ (t = false → o.2 = μ ∧ ∀ r m n, r < gN g → m ≤ n → n ≤ sL s → mPc μ r m n → mGn μ r m n) := fun e => hgo3 (t, y) ⟨a1, a2, a3, a4, a5, fun f => ⟨(a6 f).1, fun r' m' n' k1 k2 k3 k4 k5 => by
          by_cases ee : r' = r ∧ m' = m ∧ n' = n
          · obtain ⟨rfl, rfl, rfl⟩ := ee
            rw [(a6 f).1] at e
            exact e k5
          · exact (a6 f).2 r' m' n' k1 k2 k3 (by omega) k5⟩⟩
        by_cases e1 : y.1 143 (169 * r + 13 * m + n) = 0
        · rw [if_pos e1]
          exact skip fun f => absurd e1 f
        · rw [if_neg e1, zr_i _ _ (by omega) (by omega), Option.bind_some]
          by_cases e2 : y.1 144 (169 * r + 13 * m + n) = 0
          · rw [if_pos e2, zs_i _ _ _ (by omega) (by omega), Option.bind_some]
            have hf5 : zfr [144] y (zzwI y 144 (169 * r + 13 * m + n) (nI 1)) := zf_wI _ _ rfl
            have hpl5 : mPl g s 143 (zzwI y 144 (169 * r + 13 * m + n) (nI 1)) := fun p hp f => a2.1 p hp (by rw [zm_c _ _ _ (by omega)] at f; exact f)
            obtain ⟨o, f1, f2, f3, f4⟩ := m_marksFrom (zm2_fr hy hf5 rfl) hg hs (mMk_fr hky hf5 rfl) d hr hmn (show n ≤ sL s by omega) hpl5
            rw [f1, Option.bind_some]
            have hpc : ∀ q i j, mPc (zzwI y 144 (169 * r + 13 * m + n) (nI 1)) q i j ↔ mPc y q i j := fun q i j => by unfold mPc; rw [zm_c _ _ _ (by omega)]
            have h144 : ∀ p, p ≠ 169 * r + 13 * m + n → o.2.1 144 p = y.1 144 p := fun p hp => by rw [zf_i f2 rfl, zm_k _ _ _ _ hp]
            have hne : ¬ o.2.1 144 (169 * r + 13 * m + n) = 0 := by
              rw [zf_i f2 rfl, zm_s]
              decide
            refine hgo3 (true, o.2) ⟨zf_trans a1 (zf_trans (zf_mono hf5 rfl) (zf_mono f2 rfl)), ⟨f3, fun q i j k1 k2 k3 k4 => ?_, fun r' m' n' k1 k2 k3 k4 q i j k5 => ?_⟩, fun q i j k1 k2 k3 k4 => (f4 q i j k1 k2 k3).2 (.inl ((hpc q i j).2 (a3 q i j k1 k2 k3 k4))), fun p hp => ?_, fun _ => ⟨169 * r + 13 * m + n, by omega, Classical.byContradiction fun f => a4 _ f e2, hne⟩, fun f => (by cases f)⟩
            · rcases (f4 q i j k1 k2 k3).1 k4 with k4 | k4
              · exact a2.2.1 q i j k1 k2 k3 ((hpc q i j).1 k4)
              · exact zPi_s (a2.2.1 r m n hr hmn (by omega) e1) k4
            · have hin := zmk2_in k5
              have hq : q < gN g := by obtain ⟨k, d, -, -, -, -, l, -⟩ := k5; exact zM_lt l
              by_cases ee : r' = r ∧ m' = m ∧ n' = n
              · obtain ⟨rfl, rfl, rfl⟩ := ee
                exact (f4 q i j hq (by omega) (by omega)).2 (.inr k5)
              · have : mGn y r' m' n' := by
                  unfold mGn at k4 ⊢
                  rw [h144 _ fun f => ee (zspot_inj (show m' < 13 by omega) (show n' < 13 by omega) (show m < 13 by omega) (show n < 13 by omega) f)] at k4
                  exact k4
                exact (f4 q i j hq (by omega) (by omega)).2 (.inl ((hpc q i j).2 (a2.2.2 r' m' n' k1 k2 k3 this q i j k5)))
            · show ¬ o.2.1 144 p = 0
              by_cases ep : p = 169 * r + 13 * m + n
              · rw [ep]; exact hne
              · rw [h144 p ep]; exact a4 p hp
          · rw [if_neg e2]
            exact skip fun _ => e2
      · rintro ⟨t, y⟩ gc hJ
        simp only at hJ
        have hy := zm2_fr h hJ.1 rfl
        unfold L287_a
        simp only [zI0, zI1, zI2, zI3, zI4, zI5, zI6, zI7, zI8, zJ0, zJ1, zJ2, zMM]
        rw [zr_i _ _ (by omega) (by omega), d_len hy, Option.bind_some, if_pos (by rw [zq_lt (by omega) (by omega)]; omega), zq_add]
        exact hgo2 (t, y) (JJcg _ _ _ _ _ _ _ _ (fun r' m' n' a b c f => by omega) hJ)
    · rintro ⟨t, y⟩ gb hJ
      simp only at hJ
      have hy := zm2_fr h hJ.1 rfl
      unfold L287_b
      simp only [zI0, zI1, zI2, zI3, zI4, zI5, zI6, zI7, zI8, zJ0, zJ1, zJ2, zMM]
      rw [zr_i _ _ (by omega) (by omega), d_len hy, Option.bind_some, if_pos (by rw [zq_lt (by omega) (by omega)]; omega), zq_add]
      exact hgo (t, y) (JJcg _ _ _ _ _ _ _ _ (fun r' m' n' a b c f => by omega) hJ)
  · rintro ⟨t, y⟩ ga hJ
    simp only at hJ
    have hy := zm2_fr h hJ.1 rfl
    unfold L287_c
    simp only [zI0, zI1, zI2, zI3, zI4, zI5, zI6, zI7, zI8, zJ0, zJ1, zJ2, zMM]
    rw [zr_i _ _ (by omega) (by omega), d_n hy, Option.bind_some, if_pos (by rw [zq_le (by omega) (by omega)]; omega)]
    simp only [zB_ok, if_true]
    obtain ⟨a1, a2, a3, a4, a5, a6⟩ := hJ
    exact zw_some ⟨t, rfl, a1, a2, a3, a4, a5, fun f => ⟨(a6 f).1, fun r m n k1 k2 k3 => (a6 f).2 r m n k1 k2 k3 (by omega)⟩⟩
def fmOk (g : zG) (s : zSn) (μ : zzM) : Prop := mPl g s 143 μ ∧ ∀ q i j, q < gN g → i ≤ j → j ≤ sL s → (mPc μ q i j ↔ zPi g s q i j)
theorem b_and32 (x : Int32) : ((x &&& nI 32) = 0) = (bt x 5 = false) := by
  have hb : ∀ j, j < 32 → bt (nI 32) j = decide (j = 5) := by decide +kernel
  rw [b_and0]
  refine propext ⟨fun h => ?_, fun h j hj q => ?_⟩
  · have := h 5 (by omega)
    rw [hb 5 (by omega)] at this
    cases e : bt x 5 with
    | false => rfl
    | true => exact absurd ⟨e, decide_eq_true rfl⟩ this
  · rw [hb j hj, decide_eq_true_eq] at q
    rw [q.2, h] at q
    cases q.1
theorem m_laysForest {g : zG} {s : zSn} {μ : zzM} (h : zm2 g s μ) (hg : zwg g) (hs : zws g s) (hn0 : 0 < gN g) (d : Nat) (hl2 : bt (μ.1 105 36) 2 = false ∨ mMk true g s μ) (hl5 : bt (μ.1 105 36) 5 = false ∨ (mMk true g s μ ∧ fmOk g s μ)) : zw (zzf zzP zN (d + 9) 288 [.ref 105] μ) fun o => zfr [105, 134, 135, 136, 143, 144] μ o.2 ∧ (∀ p, p ≠ 36 → o.2.1 105 p = μ.1 105 p) ∧ (∀ i, i < 32 → bt (o.2.1 105 36) i = true → bt (μ.1 105 36) i = true ∨ i = 2 ∨ i = 5) ∧ mMk true g s o.2 ∧ fmOk g s o.2 ∧ ∀ p, p < 2028 → o.2.1 134 p = μ.1 134 p := by
  have hsl := hs.1
  have hgn := g_n hg
  rw [w_m_laysForest]
  by_cases e : (μ.1 105 36 &&& nI 32) = 0
  · rw [if_pos e]
    obtain ⟨o2, b1, b2, b3, b4, b5, b6⟩ := m_laysMade h hg hs d true hl2
    have b1 : zzf zzP zN (d + 8) 261 [.ref 105, .int (nI 1)] μ = some o2 := b1
    rw [b1, Option.bind_some]
    have h2 := zm2_fr h b2 rfl
    have hf2 : zfr [105, 134, 135, 136, 143, 144] μ o2.2 := zf_mono b2 rfl
    have hp2 : ∀ p, p < 2028 → o2.2.1 134 p = μ.1 134 p := fun p hp => b6 p (by show ¬ (2028 * 1 ≤ p ∧ p < 2028 * 1 + 2028); omega)
    have h36 : ∀ i, i < 32 → bt (o2.2.1 105 36) i = true → bt (μ.1 105 36) i = true ∨ i = 2 ∨ i = 5 := fun i hi q => by
      rw [b4, b_or] at q
      have hb2 : bt (nI (2 * 2 ^ zbn true)) i = decide (i = 2) := (by decide +kernel : ∀ i, i < 32 → bt (nI (2 * 2 ^ zbn true)) i = decide (i = 2)) i hi
      rw [hb2] at q
      simp only [Bool.or_eq_true, decide_eq_true_eq] at q
      rcases q with q | q
      · exact .inl q
      · exact .inr (.inl q)
    generalize o2.2 = z0 at b3 b5 h2 hf2 hp2 h36 ⊢
    refine zl_up (fun i (y : zzM) => ([nI i], [], y)) (fun i y => zfr [143, 144] z0 y ∧ ∀ p, p < i → y.1 143 p = nI 0 ∧ y.1 144 p = nI 0) 0 2028 z0 (by omega) (by omega) rfl ⟨zf_refl _ _, fun p a => absurd a (by omega)⟩ ?_ ?_
    · rintro i y ga - hi ⟨i1, i2⟩ hgo
      unfold L288_c
      simp only [zI0, zI1, zI2, zI3, zI4, zI5, zI6, zI7, zI8, zJ0, zJ1, zJ2, zMM]
      rw [if_neg (by rw [zq_le (by omega) (by omega)]; omega)]
      simp only [zk_0, if_true]
      rw [zs_i _ _ _ hi (by omega), Option.bind_some, zs_i _ _ _ hi (by omega), Option.bind_some, zq_add]
      refine hgo _ ⟨zf_twI _ _ (zf_twI _ _ i1 rfl) rfl, fun p hp => ?_⟩
      rw [zm_c _ _ _ (by omega), zm_if, zm_if]
      by_cases ep : p = i
      · rw [if_pos ep, if_pos ep]
        exact ⟨rfl, rfl⟩
      · rw [if_neg ep, if_neg ep, zm_c _ _ _ (by omega)]
        exact i2 p (by omega)
    · rintro y ga ⟨i1, i2⟩
      unfold L288_c
      simp only [zI0, zI1, zI2, zI3, zI4, zI5, zI6, zI7, zI8, zJ0, zJ1, zJ2, zMM]
      rw [if_pos (by rw [zq_le (by omega) (by omega)]; omega)]
      have h00 : nI 0 = 0 := rfl
      refine zl_up (fun q (y : zzM) => ([nI q], [], y)) (fun q z => zfr [143, 144] z0 z ∧ (∀ p, p < 2028 → z.1 144 p = nI 0) ∧ (∀ p, p < 2028 → (∀ q', q' < q → p ≠ 169 * q' + 13 * 0 + sL s) → z.1 143 p = nI 0) ∧ ∀ q', q' < q → (mPc z q' 0 (sL s) ↔ gL g q' = gL g 0 ∧ zM true g s q' 0 (sL s))) 0 (gN g) y (by omega) (by omega) rfl ⟨i1, fun p hp => (i2 p hp).2, fun p hp _ => (i2 p hp).1, fun q' a => absurd a (by omega)⟩ ?_ ?_
      · rintro q z gb - hq ⟨j1, j2, j3, j4⟩ hgo
        have hz := zm2_fr h2 j1 rfl
        have hkz := mMk_fr b5 j1 rfl
        have hlq := g_l hg hq
        have hl0 := g_l hg hn0
        unfold L288_b
        simp only [zI0, zI1, zI2, zI3, zI4, zI5, zI6, zI7, zI8, zJ0, zJ1, zJ2, zMM]
        rw [zr_i _ _ (by omega) (by omega), d_n hz, Option.bind_some, if_neg (by rw [zq_le (by omega) (by omega)]; omega), zr_i _ _ (by omega) (by omega), d_len hz, Option.bind_some, m_spot, Option.bind_some, zr_i _ _ (by omega) (by omega), d_l hz hq, Option.bind_some, zr_i _ _ (by omega) (by omega), d_start hz hn0, Option.bind_some]
        simp (disch := omega) only [zq_eq, zq_add]
        have fin : ∀ b : Bool, (b = true ↔ gL g q = gL g 0 ∧ zM true g s q 0 (sL s)) → zw (J288_a zN (d + 8) ga gb (nI q) (zB b) (nI (169 * q + 13 * 0 + sL s)) z) fun o => zfr [105, 134, 135, 136, 143, 144] μ o.2 ∧ (∀ p, p ≠ 36 → o.2.1 105 p = μ.1 105 p) ∧ (∀ i, i < 32 → bt (o.2.1 105 36) i = true → bt (μ.1 105 36) i = true ∨ i = 2 ∨ i = 5) ∧ mMk true g s o.2 ∧ fmOk g s o.2 ∧ ∀ p, p < 2028 → o.2.1 134 p = μ.1 134 p := by
          intro b hb
          unfold J288_a
          simp only [zB_ok, if_true]
          rw [zs_i _ _ _ (by omega) (by omega), Option.bind_some, zq_add]
          refine hgo _ ⟨zf_twI _ _ j1 rfl, fun p hp => ?_, fun p hp f => ?_, fun q' a => ?_⟩
          · rw [zm_c _ _ _ (by omega)]
            exact j2 p hp
          · rw [zm_k _ _ _ _ (f q (by omega))]
            exact j3 p hp fun q' a => f q' (by omega)
          · by_cases eq : q' = q
            · rw [eq]
              unfold mPc
              rw [zm_s, zB_0, ← hb]
              cases b <;> simp
            · unfold mPc
              rw [zm_k _ _ _ _ (by omega)]
              exact j4 q' (by omega)
        have hkq := hkz q 0 (sL s) hq (Nat.zero_le _) (Nat.le_refl _)
        unfold mMd at hkq
        rw [show 2028 * zbn true + (169 * q + 13 * 0 + sL s) = 2028 + (169 * q + 13 * 0 + sL s) from rfl] at hkq
        by_cases e1 : gL g q = gL g 0
        · rw [if_pos e1, zr_i _ _ (by omega) (by omega), Option.bind_some]
          by_cases e2 : z.1 134 (2028 + (169 * q + 13 * 0 + sL s)) = 0
          · rw [if_pos e2]
            exact fin false ⟨fun f => (by cases f), fun f => absurd e2 (hkq.2 f.2)⟩
          · rw [if_neg e2]
            exact fin true ⟨fun _ => ⟨e1, hkq.1 e2⟩, fun _ => rfl⟩
        · rw [if_neg e1]
          exact fin false ⟨fun f => (by cases f), fun f => absurd f.1 e1⟩
      · rintro z gb ⟨j1, j2, j3, j4⟩
        have hz := zm2_fr h2 j1 rfl
        unfold L288_b
        simp only [zI0, zI1, zI2, zI3, zI4, zI5, zI6, zI7, zI8, zJ0, zJ1, zJ2, zMM]
        rw [zr_i _ _ (by omega) (by omega), d_n hz, Option.bind_some, if_pos (by rw [zq_le (by omega) (by omega)]; omega)]
        have hpz : ∀ q i j, q < gN g → i ≤ j → j ≤ sL s → (mPc z q i j ↔ i = 0 ∧ j = sL s ∧ gL g q = gL g 0 ∧ zM true g s q i j) := fun q i j a b c => by
          by_cases eij : i = 0 ∧ j = sL s
          · obtain ⟨rfl, rfl⟩ := eij
            rw [j4 q a]
            exact ⟨fun f => ⟨rfl, rfl, f⟩, fun f => f.2.2⟩
          · refine ⟨fun f => absurd (j3 _ (by omega) fun q' hq' f' => eij ?_) f, fun f => absurd ⟨f.1, f.2.1⟩ eij⟩
            have := zspot_inj (show i < 13 by omega) (show j < 13 by omega) (show 0 < 13 by omega) (show sL s < 13 by omega) f'
            exact this.2
        have hF0 : mFo g s z := by
          refine ⟨fun p hp f => ?_, fun q i j a b c f => ?_, fun r m n a b c f => ?_⟩
          · apply Classical.byContradiction
            intro f'
            refine f (j3 p hp fun q' hq' ep => f' ⟨q', 0, sL s, hq', Nat.zero_le _, Nat.le_refl _, ep⟩)
          · obtain ⟨rfl, rfl, k1, k2⟩ := (hpz q i j a b c).1 f
            exact zPi_0 k1 k2
          · unfold mGn at f
            exact absurd (j2 _ (by omega)) f
        refine zl_ms (fun (x : Bool × zzM) => ([zB x.1], [], x.2)) (fun M x => zfr [135, 136, 143, 144] z0 x.2 ∧ mFo g s x.2 ∧ (∀ q, q < gN g → gL g q = gL g 0 → zM true g s q 0 (sL s) → mPc x.2 q 0 (sL s)) ∧ M + zcnt (fun p => decide (¬ x.2.1 144 p = 0)) 2028 = 2028 + zbn x.1 ∧ (x.1 = false → ∀ r m n, r < gN g → m ≤ n → n ≤ sL s → mPc x.2 r m n → mGn x.2 r m n)) (2029 - zcnt (fun p => decide (¬ z.1 144 p = 0)) 2028) (true, z) (by omega) rfl ⟨zf_mono j1 rfl, hF0, fun q a b c => (hpz q 0 (sL s) a (Nat.zero_le _) (Nat.le_refl _)).2 ⟨rfl, rfl, b, c⟩, by have := zcnt_le (fun p => decide (¬ z.1 144 p = 0)) 2028; show _ = 2028 + 1; simp only; omega, fun q => (by cases q)⟩ ?_
        rintro M ⟨t, x⟩ gc ⟨k1, k2, k3, k4, k5⟩ hgo2
        simp only at k1 k2 k3 k4 k5
        have hx := zm2_fr h2 k1 rfl
        unfold L288_a
        simp only [zI0, zI1, zI2, zI3, zI4, zI5, zI6, zI7, zI8, zJ0, zJ1, zJ2, zMM]
        simp only [zB_0]
        cases t with
        | false =>
          rw [if_pos rfl]
          have hf3 : zfr [105, 135, 136, 143, 144] z0 (zzwI x 105 36 (x.1 105 36 ||| nI 32)) := zf_twI _ _ (zf_mono k1 rfl) rfl
          have hpc : ∀ q i j, mPc (zzwI x 105 36 (x.1 105 36 ||| nI 32)) q i j ↔ mPc x q i j := fun q i j => by unfold mPc; rw [zm_c _ _ _ (by omega)]
          refine zw_some ⟨zf_trans hf2 (zf_mono hf3 rfl), fun p q => ?_, fun i hi q => ?_, mMk_fr b5 hf3 rfl, ⟨fun p hp f => k2.1 p hp (by rw [zm_c _ _ _ (by omega)] at f; exact f), fun q i j a b c => ?_⟩, fun p hp => ?_⟩
          · rw [zm_k _ _ _ _ q, zf_i k1 rfl]
            exact b3 p q
          · rw [zm_s, zf_i k1 rfl, b_or, (by decide +kernel : ∀ i, i < 32 → bt (nI 32) i = decide (i = 5)) i hi, Bool.or_eq_true, decide_eq_true_eq] at q
            rcases q with q | q
            · exact h36 i hi q
            · exact .inr (.inr q)
          · rw [hpc]
            refine ⟨k2.2.1 q i j a b c, fun f => ?_⟩
            exact (zPi_co (A := fun q i j => q < gN g ∧ mPc x q i j) (fun r l1 l2 => ⟨zM_lt l2, k3 r (zM_lt l2) l1 l2⟩) (fun r m n q i j l1 l2 l3 l4 => ⟨by obtain ⟨k, d, -, -, -, -, l, -⟩ := l4; exact zM_lt l, k2.2.2 r m n l3.1 l1 l2 (k5 rfl r m n l3.1 l1 l2 l3.2) q i j l4⟩) f).2
          · rw [zm_c _ _ _ (by omega), zf_i k1 rfl]
            exact hp2 p hp
        | true =>
          rw [if_neg (by decide)]
          obtain ⟨o, e1, t', e2, e3, e4, e5, e6, e7, e8⟩ := m_goes hx hg hs (mMk_fr b5 k1 rfl) (d + 1) k2
          rw [e1, Option.bind_some, e2]
          have hmono : zcnt (fun p => decide (¬ x.1 144 p = 0)) 2028 ≤ zcnt (fun p => decide (¬ o.2.1 144 p = 0)) 2028 := zcnt_mono fun p _ => by
            rw [decide_eq_true_eq, decide_eq_true_eq]
            exact e6 _
          have hle := zcnt_le (fun p => decide (¬ o.2.1 144 p = 0)) 2028
          have k4 : M + zcnt (fun p => decide (¬ x.1 144 p = 0)) 2028 = 2028 + 1 := k4
          have hM : 2028 + zbn t' - zcnt (fun p => decide (¬ o.2.1 144 p = 0)) 2028 < M := by
            cases t' with
            | false =>
              show 2028 + 0 - _ < M
              omega
            | true =>
              have hlt := zcnt_lt (n := 2028) (p := fun p => decide (¬ x.1 144 p = 0)) (q := fun p => decide (¬ o.2.1 144 p = 0)) (fun p _ => by
                rw [decide_eq_true_eq, decide_eq_true_eq]
                exact e6 _) (by
                obtain ⟨p, a, c, f⟩ := e7 rfl
                exact ⟨p, a, decide_eq_false (fun q => q c), decide_eq_true f⟩)
              show 2028 + 1 - _ < M
              omega
          refine hgo2 _ (t', o.2) hM ⟨zf_trans k1 e3, e4, fun q a b c => e5 q 0 (sL s) a (Nat.zero_le _) (Nat.le_refl _) (k3 q a b c), ?_, fun q => ?_⟩
          · have hzt := zbn_le t'
            show 2028 + zbn t' - _ + _ = _
            simp only
            omega
          · obtain ⟨l1, l2⟩ := e8 q
            show ∀ r m n, r < gN g → m ≤ n → n ≤ sL s → mPc o.2 r m n → mGn o.2 r m n
            rw [l1]
            exact l2
  · rw [if_neg e]
    rw [b_and32] at e
    obtain ⟨q1, q2⟩ := hl5.resolve_left e
    exact zw_some ⟨zf_refl _ _, fun _ _ => rfl, fun i _ q => .inl q, q1, q2, fun _ _ => rfl⟩
