/-! THE CHART of the class, object 31 -/
theorem s_may_31 (d : Nat) {g : zG} {s : zSn} {μ : zzM} (hg : zwg g) (hF : cFi false 32 g s μ) {r k q : Nat} (hr : r < gN g) (hk : k < gZ g r) (hq : q < 32) : zzf zzP zN (d + 1) 54 [.ref 31, .int (nI r), .int (nI k), .int (nI q)] μ = some ((zB (zbl false g s r k q), 0, 0), μ) := by
  have hn := g_n hg
  have hz := g_z hg hr
  rw [u_chart_mayBeBelow_31, zq_mul, zq_add, zr_i _ _ (by omega) (by omega), Option.bind_some]
  simp only [zk_0, zk_1, if_true]
  simp (disch := omega) only [b_bit]
  rw [hF r k hr hk q hq]
  cases zbl false g s r k q <;> rfl
theorem s_behind_31 (d : Nat) {r k n : Nat} (B : Int32) (hr : r < 12) (hk : k < 4) (hn : n ≤ 12) (μ : zzM) : zw (zzf zzP zN (d + 1) 65 [.ref 31, .int (nI r), .int (nI k), .int B, .int (nI n)] μ) fun o => o.2 = μ ∧ ∀ j, j < 32 → (bt o.1.1 j = true ↔ j ≤ n ∧ ∃ i, i ≤ n ∧ bt B i = true ∧ bt (μ.1 34 ((r * 4 + k) * 13 + i)) j = true) := by
  rw [u_chart_endsBehind_31]
  simp only [zq_mul, zq_add]
  refine zl_up (fun i (x : Int32) => ([B, nI n, x, nI ((r * 4 + k) * 13), nI i], [], μ)) (fun i x => ∀ j, j < 32 → (bt x j = true ↔ ∃ i', i' < i ∧ bt B i' = true ∧ bt (μ.1 34 ((r * 4 + k) * 13 + i')) j = true)) 0 (n + 1) (nI 0) (by omega) (by omega) rfl ?_ ?_ ?_
  · intro j hj
    rw [b_z]
    exact ⟨fun q => (by cases q), fun ⟨i', q, _⟩ => absurd q (by omega)⟩
  · rintro i x g' - hi hI hgo
    simp only [zI0, zI1, zI2, zI3, zI4, zI5, zI6, zI7, zI8, zJ0, zJ1, zJ2, zMM]
    rw [if_neg (by rw [zq_lt (by omega) (by omega)]; omega)]
    simp (disch := omega) only [zq_add, b_bit]
    cases e : bt B i with
    | false =>
      rw [if_pos rfl]
      refine hgo x fun j hj => ?_
      rw [hI j hj]
      exact ⟨fun ⟨i', a, b⟩ => ⟨i', (by omega), b⟩, fun ⟨i', a, b, c⟩ => ⟨i', by
        by_cases e' : i' = i
        · rw [e', e] at b; cases b
        · omega, b, c⟩⟩
    | true =>
      rw [if_neg (by decide), zr_i _ _ (by omega) (by omega), Option.bind_some]
      refine hgo _ fun j hj => ?_
      rw [b_or, Bool.or_eq_true, hI j hj]
      constructor
      · rintro (⟨i', a, b⟩ | q)
        · exact ⟨i', (by omega), b⟩
        · exact ⟨i, (by omega), e, q⟩
      · rintro ⟨i', a, b, c⟩
        by_cases e' : i' = i
        · rw [e'] at c; exact .inr c
        · exact .inl ⟨i', (by omega), b, c⟩
  · rintro x g' hI
    simp only [zI0, zI1, zI2, zI3, zI4, zI5, zI6, zI7, zI8, zJ0, zJ1, zJ2, zMM]
    rw [if_pos (by rw [zq_lt (by omega) (by omega)]; omega)]
    refine zw_some ⟨rfl, fun j hj => ?_⟩
    rw [b_and, b_low2 n (by omega) j hj, Bool.and_eq_true, hI j hj, decide_eq_true_eq]
    exact ⟨fun ⟨⟨i', a, b⟩, q⟩ => ⟨q, i', (by omega), b⟩, fun ⟨q, i', a, b⟩ => ⟨⟨i', (by omega), b⟩, q⟩⟩
/-- the bits as ways -/
theorem s_reaches_31 (d : Nat) {g : zG} {s : zSn} {μ : zzM} (h : zc2 g s μ) (hg : zwg g) (hE : cEl 34 μ) {r m n : Nat} (hr : r < gN g) (hm : m ≤ n) (hn : n ≤ 12) : zw (zzf zzP zN (d + 2) 64 [.ref 31, .int (nI r), .int (nI m), .int (nI n)] μ) fun o => o.2 = μ ∧ ∃ b, o.1.1 = zB b ∧ (b = true ↔ zPa (fun k i j => bt (μ.1 34 ((r * 4 + k) * 13 + i)) j = true) (gZ g r) m n) := by
  have hgn := g_n hg
  have hz := g_z hg hr
  rw [u_chart_reaches_31]
  refine zl_up (fun k (x : Int32) => ([nI r, nI n, x, nI k], [], μ)) (fun k x => ∀ j, j < 32 → (bt x j = true ↔ j ≤ n ∧ zPa (fun k i j => bt (μ.1 34 ((r * 4 + k) * 13 + i)) j = true) k m j)) 0 (gZ g r) _ (by omega) (by omega) rfl ?_ ?_ ?_
  · intro j hj
    rw [b_sh1 (by omega) hj, decide_eq_true_eq]
    show j = m ↔ j ≤ n ∧ j = m
    omega
  · rintro k x g' - hk hI hgo
    simp only [zI0, zI1, zI2, zI3, zI4, zI5, zI6, zI7, zI8, zJ0, zJ1, zJ2, zMM]
    rw [zr_i _ _ (by omega) (by omega), c_z h hr, Option.bind_some, if_neg (by rw [zq_le (by omega) (by omega)]; omega)]
    simp only [zk_0, zk_1, if_true]
    simp (disch := omega) only [zq_add, b_bit]
    by_cases e : x = 0
    · rw [if_pos e]
      have hno : ¬ zPa (fun k i j => bt (μ.1 34 ((r * 4 + k) * 13 + i)) j = true) (gZ g r) m n := by
        intro q
        obtain ⟨j, h1, h2, -⟩ := zPa_cut (show k ≤ gZ g r by omega) q
        have := (hI j (by omega)).2 ⟨h1, h2⟩
        rw [e, b_0] at this
        cases this
      rw [e, b_0, if_pos rfl]
      exact zw_some ⟨rfl, false, rfl, fun q => (by cases q), fun q => absurd q hno⟩
    · rw [if_neg e]
      obtain ⟨o, e1, e2, e3⟩ := s_behind_31 d (r := r) (k := k) (n := n) x (by omega) (by omega) hn μ
      rw [e1, Option.bind_some, e2]
      refine hgo _ fun j hj => ?_
      rw [e3 j hj]
      constructor
      · rintro ⟨a, i, b, c, f⟩
        obtain ⟨c1, c2⟩ := (hI i (by omega)).1 c
        refine ⟨a, i, zPa_le c2, ?_, c2, f⟩
        apply Nat.le_of_not_lt
        intro q
        have := hE (r * 4 + k) i j (by omega) (by omega) q
        rw [f] at this
        cases this
      · rintro ⟨a, i, b, c, f, f'⟩
        exact ⟨a, i, (by omega), (hI i (by omega)).2 ⟨(by omega), f⟩, f'⟩
  · rintro x g' hI
    simp only [zI0, zI1, zI2, zI3, zI4, zI5, zI6, zI7, zI8, zJ0, zJ1, zJ2, zMM]
    rw [zr_i _ _ (by omega) (by omega), c_z h hr, Option.bind_some, if_pos (by rw [zq_le (by omega) (by omega)]; omega)]
    simp only [zk_0, zk_1, if_true]
    simp (disch := omega) only [b_bit]
    have hIn := hI n (by omega)
    cases e : bt x n with
    | false =>
      rw [if_pos rfl]
      refine zw_some ⟨rfl, false, rfl, fun q => (by cases q), fun q => ?_⟩
      rw [e] at hIn
      exact hIn.2 ⟨Nat.le_refl _, q⟩
    | true =>
      rw [if_neg (by decide)]
      exact zw_some ⟨rfl, true, rfl, fun _ => (hIn.1 e).2, fun _ => rfl⟩
/-- a write of one bit of the ends of every place -/
theorem s_placeSmalls_31 (d : Nat) {g : zG} {s : zSn} {μ : zzM} (h : zc2 g s μ) (hg : zwg g) (hs : zws g s) {m n : Nat} (hm : m ≤ n) (hn : n ≤ sL s) : zw (zzf zzP zN (d + 2) 61 [.ref 31, .int (nI m), .int (nI n)] μ) fun o => zfr [34] μ o.2 ∧ cEw 34 g m n (fun r k => decide (n = m + 1 ∧ sX s m = gS g r k)) (gN g) 0 μ o.2 := by
  have hgn := g_n hg
  have hl := hs.1
  rw [u_chart_placeSmalls_31]
  refine zl_up (fun r (y : zzM) => ([nI m, nI n, nI r], [], y)) (fun r y => zfr [34] μ y ∧ cEw 34 g m n (fun r k => decide (n = m + 1 ∧ sX s m = gS g r k)) r 0 μ y) 0 (gN g) μ (by omega) (by omega) rfl ⟨zf_refl _ _, cEw_0 _ _ _ _ _ _⟩ ?_ ?_
  · rintro r y g' - hr ⟨hf, hw⟩ hgo
    have hz := g_z hg hr
    have hy := zc2_fr h hf rfl
    simp only [zI0, zI1, zI2, zI3, zI4, zI5, zI6, zI7, zI8, zJ0, zJ1, zJ2, zMM]
    rw [c_n hy, if_neg (by rw [zq_le (by omega) (by omega)]; omega)]
    refine zl_up (fun k (y : zzM) => ([nI m, nI n, nI r, nI k], [], y)) (fun k y => zfr [34] μ y ∧ cEw 34 g m n (fun r k => decide (n = m + 1 ∧ sX s m = gS g r k)) r k μ y) 0 (gZ g r) y (by omega) (by omega) rfl ⟨hf, hw⟩ ?_ ?_
    · rintro k y g'' - hk ⟨hf, hw⟩ hgo2
      have hy := zc2_fr h hf rfl
      simp only [zI0, zI1, zI2, zI3, zI4, zI5, zI6, zI7, zI8, zJ0, zJ1, zJ2, zMM]
      rw [zr_i _ _ (by omega) (by omega), c_z hy hr, Option.bind_some, if_neg (by rw [zq_le (by omega) (by omega)]; omega)]
      simp only [zq_mul, zq_add]
      rw [zr_i _ _ (by omega) (by omega), Option.bind_some, zs_i _ _ _ (by omega) (by omega), Option.bind_some]
      simp (disch := omega) only [zq_eq]
      have hsy := g_s hg hr hk
      by_cases e : n = m + 1
      · rw [if_pos e, zr_i _ _ (by omega) (by omega), Option.bind_some, zm_c _ _ _ (by omega), c_x hy (by omega), s_symAt (zc2_fr hy (zf_wI (L := [34]) _ _ rfl) rfl) hg _ hr hk, Option.bind_some]
        have hx := hs.2.1 m (by omega)
        simp (disch := omega) only [zq_eq]
        by_cases e2 : sX s m = gS g r k
        · rw [if_pos e2, zr_i _ _ (by omega) (by omega), Option.bind_some, zs_i _ _ _ (by omega) (by omega), Option.bind_some]
          refine hgo2 _ ⟨zf_twI _ _ (zf_twI _ _ hf rfl) rfl, cEw_s hw hk (by omega) (by omega) (by omega) (fun p hp => by rw [zm_k _ _ _ _ hp, zm_k _ _ _ _ hp]) fun j hj => ?_⟩
          rw [zm_s, zm_s, b_or, b_and, b_not hj, b_sh1 (by omega) hj]
          by_cases ej : j = n
          · rw [if_pos ej]
            simp [e, e2, ej]
          · rw [if_neg ej]
            simp [ej]
        · rw [if_neg e2]
          refine hgo2 _ ⟨zf_twI _ _ hf rfl, cEw_s hw hk (by omega) (by omega) (by omega) (fun p hp => by rw [zm_k _ _ _ _ hp]) fun j hj => ?_⟩
          rw [zm_s, b_and, b_not hj, b_sh1 (by omega) hj]
          by_cases ej : j = n
          · rw [if_pos ej]
            simp [e2, ej]
          · rw [if_neg ej]
            simp [ej]
      · rw [if_neg e]
        refine hgo2 _ ⟨zf_twI _ _ hf rfl, cEw_s hw hk (by omega) (by omega) (by omega) (fun p hp => by rw [zm_k _ _ _ _ hp]) fun j hj => ?_⟩
        rw [zm_s, b_and, b_not hj, b_sh1 (by omega) hj]
        by_cases ej : j = n
        · rw [if_pos ej]
          simp [e, ej]
        · rw [if_neg ej]
          simp [ej]
    · rintro y g'' ⟨hf, hw⟩
      have hy := zc2_fr h hf rfl
      simp only [zI0, zI1, zI2, zI3, zI4, zI5, zI6, zI7, zI8, zJ0, zJ1, zJ2, zMM]
      rw [zr_i _ _ (by omega) (by omega), c_z hy hr, Option.bind_some, if_pos (by rw [zq_le (by omega) (by omega)]; omega), zq_add]
      exact hgo y ⟨hf, cEw_r hw⟩
  · rintro y g' ⟨hf, hw⟩
    have hy := zc2_fr h hf rfl
    simp only [zI0, zI1, zI2, zI3, zI4, zI5, zI6, zI7, zI8, zJ0, zJ1, zJ2, zMM]
    rw [c_n hy, if_pos (by rw [zq_le (by omega) (by omega)]; omega)]
    exact zw_some ⟨hf, hw⟩
theorem s_placeRule_31 (d : Nat) {g : zG} {s : zSn} {μ : zzM} (h : zc2 g s μ) (hg : zwg g) (hF : cFi false 32 g s μ) {q m n : Nat} (hq : q < 12) (hm : m ≤ n) (hn : n ≤ 12) : zw (zzf zzP zN (d + 2) 63 [.ref 31, .int (nI q), .int (nI m), .int (nI n)] μ) fun o => zfr [34] μ o.2 ∧ cEo 34 g m n (fun r k => zbl false g s r k q) (gN g) 0 μ o.2 := by
  have hgn := g_n hg
  rw [u_chart_placeRule_31]
  refine zl_up (fun r (y : zzM) => ([nI q, nI m, nI n, nI r], [], y)) (fun r y => zfr [34] μ y ∧ cEo 34 g m n (fun r k => zbl false g s r k q) r 0 μ y) 0 (gN g) μ (by omega) (by omega) rfl ⟨zf_refl _ _, cEo_0 _ _ _ _ _ _⟩ ?_ ?_
  · rintro r y g' - hr ⟨hf, hw⟩ hgo
    have hz := g_z hg hr
    have hy := zc2_fr h hf rfl
    simp only [zI0, zI1, zI2, zI3, zI4, zI5, zI6, zI7, zI8, zJ0, zJ1, zJ2, zMM]
    rw [c_n hy, if_neg (by rw [zq_le (by omega) (by omega)]; omega)]
    refine zl_up (fun k (y : zzM) => ([nI q, nI m, nI n, nI r, nI k], [], y)) (fun k y => zfr [34] μ y ∧ cEo 34 g m n (fun r k => zbl false g s r k q) r k μ y) 0 (gZ g r) y (by omega) (by omega) rfl ⟨hf, hw⟩ ?_ ?_
    · rintro k y g'' - hk ⟨hf, hw⟩ hgo2
      have hy := zc2_fr h hf rfl
      have hFy : cFi false 32 g s y := fun r k a b => by rw [zf_i hf rfl]; exact hF r k a b
      simp only [zI0, zI1, zI2, zI3, zI4, zI5, zI6, zI7, zI8, zJ0, zJ1, zJ2, zMM]
      rw [zr_i _ _ (by omega) (by omega), c_z hy hr, Option.bind_some, if_neg (by rw [zq_le (by omega) (by omega)]; omega), s_may_31 d hg hFy hr hk (by omega), Option.bind_some]
      simp only [zq_mul, zq_add, zB_0]
      cases e : zbl false g s r k q with
      | false =>
        rw [if_pos rfl]
        refine hgo2 _ ⟨hf, cEo_s hw hk (by omega) (by omega) (by omega) (fun p hp => rfl) fun j hj => ?_⟩
        simp [e]
      | true =>
        rw [if_neg (by decide), zr_i _ _ (by omega) (by omega), Option.bind_some, zs_i _ _ _ (by omega) (by omega), Option.bind_some]
        refine hgo2 _ ⟨zf_twI _ _ hf rfl, cEo_s hw hk (by omega) (by omega) (by omega) (fun p hp => by rw [zm_k _ _ _ _ hp]) fun j hj => ?_⟩
        rw [zm_s, b_or, b_sh1 (by omega) hj]
        simp [e]
    · rintro y g'' ⟨hf, hw⟩
      have hy := zc2_fr h hf rfl
      simp only [zI0, zI1, zI2, zI3, zI4, zI5, zI6, zI7, zI8, zJ0, zJ1, zJ2, zMM]
      rw [zr_i _ _ (by omega) (by omega), c_z hy hr, Option.bind_some, if_pos (by rw [zq_le (by omega) (by omega)]; omega), zq_add]
      exact hgo y ⟨hf, cEo_r hw⟩
  · rintro y g' ⟨hf, hw⟩
    have hy := zc2_fr h hf rfl
    simp only [zI0, zI1, zI2, zI3, zI4, zI5, zI6, zI7, zI8, zJ0, zJ1, zJ2, zMM]
    rw [c_n hy, if_pos (by rw [zq_le (by omega) (by omega)]; omega)]
    exact zw_some ⟨hf, hw⟩
