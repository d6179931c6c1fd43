/-! THE PAST of the reference: rows laid, taken back -/
theorem m_movesS (d : Nat) {μ : zzM} {p : Nat} (h41 : μ.1 105 41 = nI 0) (h40 : μ.1 105 40 = nI p) (hp : p < 480) (a : Int32) : zzf zzP zN (d + 1) 237 [.ref 105, .int a] μ = some ((a, 0, 0), zzwI (zzwI μ 132 p a) 105 40 (nI (p + 1))) := by
  rw [w_m_moves, h41, if_pos (by decide)]
  unfold J237_a
  rw [h40, zs_i _ _ _ hp (by omega), Option.bind_some, zm_c _ _ _ (by omega), h40, zq_add]
theorem m_movesT (d : Nat) {μ : zzM} {p : Nat} (h41 : μ.1 105 41 = nI 1) (h40 : μ.1 105 40 = nI p) (hp : p < 480) (a : Int32) : zzf zzP zN (d + 1) 237 [.ref 105, .int a] μ = some ((μ.1 132 p, 0, 0), zzwI μ 105 40 (nI (p + 1))) := by
  rw [w_m_moves, h41, if_neg (by decide), h40, zr_i _ _ hp (by omega), Option.bind_some]
  unfold J237_a
  rw [h40, zs_i _ _ _ hp (by omega), Option.bind_some, zm_id rfl, h40, zq_add]
/-- what is laid in a row: length, struck, bans, filters; letters; bans -/
def mRaw (μ : zzM) (j : Nat) : Int32 := if j < 4 then μ.1 106 (2 + j) else if j < 16 then μ.1 112 (j - 4) else μ.1 113 (j - 16)
/-- so many are laid -/
def mLd (μ : zzM) (b n : Nat) (y : zzM) : Prop := zfr [105, 132] μ y ∧ (∀ p, p ≠ 40 → p ≠ 41 → y.1 105 p = μ.1 105 p) ∧ y.1 105 40 = nI (b + n) ∧ y.1 105 41 = nI 0 ∧ (∀ j, j < n → y.1 132 (b + j) = mRaw μ j) ∧ ∀ q, (q < b ∨ b + 24 ≤ q) → y.1 132 q = μ.1 132 q
theorem mLd_s {μ y : zzM} {b n : Nat} (h : mLd μ b n y) (hn : n < 24) (hb : b + 24 ≤ 480) (d : Nat) : zzf zzP zN (d + 1) 237 [.ref 105, .int (mRaw μ n)] y = some ((mRaw μ n, 0, 0), zzwI (zzwI y 132 (b + n) (mRaw μ n)) 105 40 (nI (b + n + 1))) ∧ mLd μ b (n + 1) (zzwI (zzwI y 132 (b + n) (mRaw μ n)) 105 40 (nI (b + n + 1))) := by
  obtain ⟨h1, h2, h3, h4, h5, h6⟩ := h
  refine ⟨m_movesS d h4 h3 (by omega) _, zf_twI _ _ (zf_twI _ _ h1 rfl) rfl, fun p a c => ?_, zm_s _ _ _ _, ?_, fun j hj => ?_, fun q hq => ?_⟩
  · rw [zm_k _ _ _ _ a, zm_c _ _ _ (by omega)]
    exact h2 p a c
  · rw [zm_k _ _ _ _ (by omega), zm_c _ _ _ (by omega)]
    exact h4
  · rw [zm_c _ _ _ (by omega), zm_if]
    by_cases e : j = n
    · rw [if_pos (by rw [e]), e]
    · rw [if_neg (by omega)]
      exact h5 j (by omega)
  · rw [zm_c _ _ _ (by omega), zm_k _ _ _ _ (by omega)]
    exact h6 q hq
theorem m_lays (d k : Nat) (hk : k < 20) (μ : zzM) : zw (zzf zzP zN (d + 3) 239 [.ref 105, .int (nI k), .int (nI 0)] μ) fun o => mLd μ (24 * k) 24 o.2 := by
  rw [w_m_movesAll, if_pos (by decide), zq_mul]
  have h0 : mLd μ (24 * k) 0 (zzwI (zzwI μ 105 40 (nI (24 * k))) 105 41 (nI 0)) := ⟨zf_twI _ _ (zf_wI _ _ rfl) rfl, fun p a b => (zm_k _ _ _ _ b).trans (zm_k _ _ _ _ a), (zm_k _ _ _ _ (by omega)).trans (zm_s _ _ _ _), zm_s _ _ _ _, fun j hj => absurd hj (by omega), fun q _ => by rw [zm_c _ _ _ (by omega), zm_c _ _ _ (by omega)]⟩
  refine zl_up (fun i (y : zzM) => ([nI i], [], y)) (fun i y => mLd μ (24 * k) (i - 2) y) 2 6 _ (by omega) (by omega) rfl h0 ?_ ?_
  · rintro i y ga hi1 hi2 hJ hgo
    obtain ⟨s1, s2⟩ := mLd_s hJ (show i - 2 < 24 by omega) (by omega) (d + 1)
    have hr : y.1 106 i = mRaw μ (i - 2) := by
      unfold mRaw
      rw [if_pos (by omega), zf_i hJ.1 rfl, show 2 + (i - 2) = i by omega]
    unfold L239_a
    simp only [zI0, zI1, zI2, zI3, zI4, zI5, zI6, zI7, zI8, zJ0, zJ1, zJ2, zMM]
    rw [if_neg (by rw [zq_lt (by omega) (by omega)]; omega), zr_i _ _ (by omega) (by omega), hr, Option.bind_some, s1, Option.bind_some, zs_i _ _ _ (by omega) (by omega), Option.bind_some, zm_id, zq_add]
    · rw [show i - 2 + 1 = i + 1 - 2 by omega] at s2
      exact hgo _ s2
    · rw [zm_c _ _ _ (by omega), zm_c _ _ _ (by omega)]
      exact hr
  · rintro y ga hJ
    unfold L239_a
    simp only [zI0, zI1, zI2, zI3, zI4, zI5, zI6, zI7, zI8, zJ0, zJ1, zJ2, zMM]
    rw [if_pos (by decide)]
    have r1 : zw (zzf zzP zN (d + 2) 238 [.ref 105, .ref 112] y) fun o => mLd μ (24 * k) 16 o.2 := by
      rw [w_m_movesRow_105_112]
      refine zl_up (fun i (y : zzM) => ([nI i], [], y)) (fun i y => mLd μ (24 * k) (4 + i) y) 0 12 _ (by omega) (by omega) rfl hJ ?_ ?_
      · rintro i y ga hi1 hi2 hJ hgo
        obtain ⟨s1, s2⟩ := mLd_s hJ (show 4 + i < 24 by omega) (by omega) d
        have hr : y.1 112 i = mRaw μ (4 + i) := by
          unfold mRaw
          rw [if_neg (by omega), if_pos (by omega), zf_i hJ.1 rfl, show 4 + i - 4 = i by omega]
        unfold L238_105_112_a
        simp only [zI0, zI1, zI2, zI3, zI4, zI5, zI6, zI7, zI8, zJ0, zJ1, zJ2, zMM]
        rw [if_neg (by rw [zq_le (by omega) (by omega)]; omega), zr_i _ _ (by omega) (by omega), hr, Option.bind_some, s1, Option.bind_some, zs_i _ _ _ (by omega) (by omega), Option.bind_some, zm_id, zq_add]
        · exact hgo _ s2
        · rw [zm_c _ _ _ (by omega), zm_c _ _ _ (by omega)]
          exact hr
      · rintro y ga hJ
        unfold L238_105_112_a
        simp only [zI0, zI1, zI2, zI3, zI4, zI5, zI6, zI7, zI8, zJ0, zJ1, zJ2, zMM]
        rw [if_pos (by decide)]
        exact zw_some hJ
    obtain ⟨o3, a1, a2⟩ := r1
    rw [a1, Option.bind_some]
    have r2 : zw (zzf zzP zN (d + 2) 238 [.ref 105, .ref 113] o3.2) fun o => mLd μ (24 * k) 24 o.2 := by
      rw [w_m_movesRow_105_113]
      refine zl_up (fun i (y : zzM) => ([nI i], [], y)) (fun i y => mLd μ (24 * k) (16 + i) y) 0 8 _ (by omega) (by omega) rfl a2 ?_ ?_
      · rintro i y ga hi1 hi2 hJ hgo
        obtain ⟨s1, s2⟩ := mLd_s hJ (show 16 + i < 24 by omega) (by omega) d
        have hr : y.1 113 i = mRaw μ (16 + i) := by
          unfold mRaw
          rw [if_neg (by omega), if_neg (by omega), zf_i hJ.1 rfl, show 16 + i - 16 = i by omega]
        unfold L238_105_113_a
        simp only [zI0, zI1, zI2, zI3, zI4, zI5, zI6, zI7, zI8, zJ0, zJ1, zJ2, zMM]
        rw [if_neg (by rw [zq_le (by omega) (by omega)]; omega), zr_i _ _ (by omega) (by omega), hr, Option.bind_some, s1, Option.bind_some, zs_i _ _ _ (by omega) (by omega), Option.bind_some, zm_id, zq_add]
        · exact hgo _ s2
        · rw [zm_c _ _ _ (by omega), zm_c _ _ _ (by omega)]
          exact hr
      · rintro y ga hJ
        unfold L238_105_113_a
        simp only [zI0, zI1, zI2, zI3, zI4, zI5, zI6, zI7, zI8, zJ0, zJ1, zJ2, zMM]
        rw [if_pos (by decide)]
        exact zw_some hJ
    obtain ⟨o4, b1, b2⟩ := r2
    rw [b1, Option.bind_some]
    exact zw_some b2
/-- an act is kept: rows move up if there are 20 -/
theorem m_keepsAct (d : Nat) {μ : zzM} {m : Nat} (hm : m ≤ 20) (h39 : μ.1 105 39 = nI m) : zw (zzf zzP zN (d + 4) 240 [.ref 105] μ) fun o => zfr [105, 132] μ o.2 ∧ (∀ p, p ≠ 36 → p ≠ 39 → p ≠ 40 → p ≠ 41 → o.2.1 105 p = μ.1 105 p) ∧ o.2.1 105 36 = (μ.1 105 36 &&& nI 1) ∧ (if m = 20 then o.2.1 105 39 = nI 20 ∧ (∀ q, q < 456 → o.2.1 132 q = μ.1 132 (q + 24)) ∧ ∀ j, j < 24 → o.2.1 132 (456 + j) = mRaw μ j else o.2.1 105 39 = nI (m + 1) ∧ (∀ q, q < 24 * m → o.2.1 132 q = μ.1 132 q) ∧ ∀ j, j < 24 → o.2.1 132 (24 * m + j) = mRaw μ j) := by
  rw [w_m_keepsAct, h39, zif_cg (Iff.of_eq (zq_eq (by omega) (by omega)))]
  by_cases e : m = 20
  · rw [if_pos e]
    refine zl_up (fun i (y : zzM) => ([nI i], [], y)) (fun i y => zfr [132] μ y ∧ (∀ q, q < i - 24 → y.1 132 q = μ.1 132 (q + 24)) ∧ ∀ q, i - 24 ≤ q → y.1 132 q = μ.1 132 q) 24 480 μ (by omega) (by omega) rfl ⟨zf_refl _ _, fun q hq => absurd hq (by omega), fun _ _ => rfl⟩ ?_ ?_
    · rintro i y ga hi1 hi2 ⟨j1, j2, j3⟩ hgo
      unfold L240_a
      simp only [zI0, zI1, zI2, zI3, zI4, zI5, zI6, zI7, zI8, zJ0, zJ1, zJ2, zMM]
      rw [if_neg (by rw [zq_le (by omega) (by omega)]; omega), zr_i _ _ (by omega) (by omega), j3 i (by omega), Option.bind_some, zq_sub hi1, zs_i _ _ _ (by omega) (by omega), Option.bind_some, zq_add]
      refine hgo _ ⟨zf_twI _ _ j1 rfl, fun q hq => ?_, fun q hq => ?_⟩
      · rw [zm_if]
        by_cases eq : q = i - 24
        · rw [if_pos eq, eq, show i - 24 + 24 = i by omega]
        · rw [if_neg eq]
          exact j2 q (by omega)
      · rw [zm_k _ _ _ _ (by omega)]
        exact j3 q (by omega)
    · rintro y ga ⟨j1, j2, j3⟩
      unfold L240_a
      simp only [zI0, zI1, zI2, zI3, zI4, zI5, zI6, zI7, zI8, zJ0, zJ1, zJ2, zMM]
      rw [if_pos (by decide), zf_i j1 rfl, h39, e, zq_sub (by omega)]
      unfold J240_b
      rw [zm_s]
      have hf0 : zfr [105, 132] μ (zzwI y 105 39 (nI (20 - 1))) := zf_twI _ _ (zf_mono j1 rfl) rfl
      obtain ⟨o, a1, a2, a3, a4, a5, a6, a7⟩ := m_lays d 19 (by omega) (zzwI y 105 39 (nI (20 - 1)))
      have a1 : zzf zzP zN (d + 3) 239 [.ref 105, .int (nI (20 - 1)), .int (nI 0)] (zzwI y 105 39 (nI (20 - 1))) = some o := a1
      have hraw : ∀ j, mRaw (zzwI y 105 39 (nI (20 - 1))) j = mRaw μ j := fun j => by
        unfold mRaw
        rw [zf_i hf0 rfl, zf_i hf0 rfl, zf_i hf0 rfl]
      rw [a1, Option.bind_some, u_m_isNew, Option.bind_some, a3 39 (by omega) (by omega), zm_s, zq_add]
      refine zw_some ⟨zf_twI _ _ (zf_twI _ _ (zf_trans hf0 a2) rfl) rfl, fun p p1 p2 p3 p4 => ?_, ?_, ?_⟩
      · rw [zm_k _ _ _ _ p1, zm_k _ _ _ _ p2, a3 p p3 p4, zm_k _ _ _ _ p2, zf_i j1 rfl]
      · rw [zm_s, zm_k _ _ _ _ (by omega), a3 36 (by omega) (by omega), zm_k _ _ _ _ (by omega), zf_i j1 rfl]
      · rw [if_pos rfl]
        refine ⟨(zm_k _ _ _ _ (by omega)).trans (zm_s _ _ _ _), fun q hq => ?_, fun j hj => ?_⟩
        · rw [zm_c _ _ _ (by omega), zm_c _ _ _ (by omega), a7 q (.inl (by omega)), zm_c _ _ _ (by omega)]
          exact j2 q (by omega)
        · rw [zm_c _ _ _ (by omega), zm_c _ _ _ (by omega), ← hraw j]
          exact a6 j hj
  · rw [if_neg e]
    obtain ⟨o, a1, a2, a3, a4, a5, a6, a7⟩ := m_lays d m (by omega) μ
    unfold J240_a
    rw [h39, a1, Option.bind_some, u_m_isNew, Option.bind_some, a3 39 (by omega) (by omega), h39, zq_add]
    refine zw_some ⟨zf_twI _ _ (zf_twI _ _ a2 rfl) rfl, fun p p1 p2 p3 p4 => ?_, ?_, ?_⟩
    · rw [zm_k _ _ _ _ p1, zm_k _ _ _ _ p2, a3 p p3 p4]
    · rw [zm_s, zm_k _ _ _ _ (by omega), a3 36 (by omega) (by omega)]
    · rw [if_neg e]
      refine ⟨(zm_k _ _ _ _ (by omega)).trans (zm_s _ _ _ _), fun q hq => ?_, fun j hj => ?_⟩
      · rw [zm_c _ _ _ (by omega), zm_c _ _ _ (by omega)]
        exact a7 q (.inl hq)
      · rw [zm_c _ _ _ (by omega), zm_c _ _ _ (by omega)]
        exact a6 j hj
