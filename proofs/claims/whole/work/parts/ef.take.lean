/-! THE PAST taken back; rows that tell a snapshot; what the class remembers -/
def mTk (μ : zzM) (b n : Nat) (y : zzM) : Prop := zfr [105, 106, 112, 113] μ y ∧ (∀ p, p ≠ 40 → p ≠ 41 → y.1 105 p = μ.1 105 p) ∧ y.1 105 40 = nI (b + n) ∧ y.1 105 41 = nI 1 ∧ (∀ j, j < n → mRaw y j = μ.1 132 (b + j)) ∧ ∀ p, (p < 2 ∨ 5 < p) → y.1 106 p = μ.1 106 p
theorem mTk_m {μ y : zzM} {b n : Nat} (h : mTk μ b n y) (hn : n < 24) (hb : b + 24 ≤ 480) (d : Nat) (a : Int32) : zzf zzP zN (d + 1) 237 [.ref 105, .int a] y = some ((μ.1 132 (b + n), 0, 0), zzwI y 105 40 (nI (b + n + 1))) := by
  rw [m_movesT d h.2.2.2.1 h.2.2.1 (by omega), zf_i h.1 rfl]
/-- one more is taken, into its place -/
theorem mTk_s {μ y : zzM} {b n : Nat} (h : mTk μ b n y) (hn : n < 24) {c k : Nat} (hc : (n < 4 ∧ c = 106 ∧ k = 2 + n) ∨ (4 ≤ n ∧ n < 16 ∧ c = 112 ∧ k = n - 4) ∨ (16 ≤ n ∧ c = 113 ∧ k = n - 16)) : mTk μ b (n + 1) (zzwI (zzwI y 105 40 (nI (b + n + 1))) c k (μ.1 132 (b + n))) := by
  obtain ⟨h1, h2, h3, h4, h5, h6⟩ := h
  have hc105 : c ≠ 105 := by omega
  refine ⟨zf_twI _ _ (zf_twI _ _ h1 rfl) (by rcases hc with ⟨_, rfl, _⟩ | ⟨_, _, rfl, _⟩ | ⟨_, rfl, _⟩ <;> rfl), fun p p1 p2 => ?_, ?_, ?_, fun j hj => ?_, fun p hp => ?_⟩
  · rw [zm_c _ _ _ (fun q => hc105 q.symm), zm_k _ _ _ _ p1]
    exact h2 p p1 p2
  · rw [zm_c _ _ _ (fun q => hc105 q.symm), zm_s]
    rfl
  · rw [zm_c _ _ _ (fun q => hc105 q.symm), zm_k _ _ _ _ (by omega)]
    exact h4
  · have hbase : ∀ j', mRaw (zzwI y 105 40 (nI (b + n + 1))) j' = mRaw y j' := fun j' => by
      unfold mRaw
      rw [zm_c _ _ _ (by omega), zm_c _ _ _ (by omega), zm_c _ _ _ (by omega)]
    generalize zzwI y 105 40 (nI (b + n + 1)) = y' at hbase
    rcases hc with ⟨q1, rfl, rfl⟩ | ⟨q1, q2, rfl, rfl⟩ | ⟨q1, rfl, rfl⟩
    · unfold mRaw
      rw [if_pos (by omega), zm_if]
      by_cases e : j = n
      · rw [if_pos (by omega), e]
      · rw [if_neg (by omega)]
        have := h5 j (by omega)
        rw [← hbase j] at this
        unfold mRaw at this
        rw [if_pos (by omega)] at this
        exact this
    · by_cases e : j = n
      · unfold mRaw
        rw [e, if_neg (by omega), if_pos q2, zm_s]
      · have := h5 j (by omega)
        rw [← hbase j] at this
        rw [← this]
        unfold mRaw
        rw [zm_c _ _ _ (show (106 : Nat) ≠ 112 by omega), zm_c _ _ _ (show (113 : Nat) ≠ 112 by omega)]
        by_cases e4 : j < 4
        · rw [if_pos e4, if_pos e4]
        · rw [if_neg e4, if_neg e4, if_pos (by omega), if_pos (by omega), zm_k _ _ _ _ (by omega)]
    · by_cases e : j = n
      · unfold mRaw
        rw [e, if_neg (by omega), if_neg (by omega), zm_s]
      · have := h5 j (by omega)
        rw [← hbase j] at this
        rw [← this]
        unfold mRaw
        rw [zm_c _ _ _ (show (106 : Nat) ≠ 113 by omega), zm_c _ _ _ (show (112 : Nat) ≠ 113 by omega)]
        by_cases e4 : j < 4
        · rw [if_pos e4, if_pos e4]
        · rw [if_neg e4, if_neg e4]
          by_cases e16 : j < 16
          · rw [if_pos e16, if_pos e16]
          · rw [if_neg e16, if_neg e16, zm_k _ _ _ _ (by omega)]
  · by_cases e : c = 106
    · rw [e, zm_k _ _ _ _ (by omega), zm_c _ _ _ (by omega)]
      exact h6 p hp
    · rw [zm_c _ _ _ (fun q => e q.symm), zm_c _ _ _ (by omega)]
      exact h6 p hp
theorem m_takes (d k : Nat) (hk : k < 20) (μ : zzM) : zw (zzf zzP zN (d + 3) 239 [.ref 105, .int (nI k), .int (nI 1)] μ) fun o => mTk μ (24 * k) 24 o.2 := by
  rw [w_m_movesAll, if_pos (by decide), zq_mul]
  have h0 : mTk μ (24 * k) 0 (zzwI (zzwI μ 105 40 (nI (24 * k))) 105 41 (nI 1)) := ⟨zf_twI _ _ (zf_wI _ _ rfl) rfl, fun p a b => (zm_k _ _ _ _ b).trans (zm_k _ _ _ _ a), (zm_k _ _ _ _ (by omega)).trans (zm_s _ _ _ _), zm_s _ _ _ _, fun j hj => absurd hj (by omega), fun p _ => by rw [zm_c _ _ _ (by omega), zm_c _ _ _ (by omega)]⟩
  refine zl_up (fun i (y : zzM) => ([nI i], [], y)) (fun i y => mTk μ (24 * k) (i - 2) y) 2 6 _ (by omega) (by omega) rfl h0 ?_ ?_
  · rintro i y ga hi1 hi2 hJ hgo
    have s1 := mTk_m hJ (show i - 2 < 24 by omega) (by omega) (d + 1) (y.1 106 i)
    have s2 := mTk_s hJ (show i - 2 < 24 by omega) (c := 106) (k := i) (.inl ⟨by omega, rfl, by omega⟩)
    unfold L239_a
    simp only [zI0, zI1, zI2, zI3, zI4, zI5, zI6, zI7, zI8, zJ0, zJ1, zJ2, zMM]
    rw [if_neg (by rw [zq_lt (by omega) (by omega)]; omega), zr_i _ _ (by omega) (by omega), Option.bind_some, s1, Option.bind_some, zs_i _ _ _ (by omega) (by omega), Option.bind_some, zq_add]
    rw [show i - 2 + 1 = i + 1 - 2 by omega] at s2
    exact hgo _ s2
  · rintro y ga hJ
    unfold L239_a
    simp only [zI0, zI1, zI2, zI3, zI4, zI5, zI6, zI7, zI8, zJ0, zJ1, zJ2, zMM]
    rw [if_pos (by decide)]
    have r1 : zw (zzf zzP zN (d + 2) 238 [.ref 105, .ref 112] y) fun o => mTk μ (24 * k) 16 o.2 := by
      rw [w_m_movesRow_105_112]
      refine zl_up (fun i (y : zzM) => ([nI i], [], y)) (fun i y => mTk μ (24 * k) (4 + i) y) 0 12 _ (by omega) (by omega) rfl hJ ?_ ?_
      · rintro i y ga hi1 hi2 hJ hgo
        have s1 := mTk_m hJ (show 4 + i < 24 by omega) (by omega) d (y.1 112 i)
        have s2 := mTk_s hJ (show 4 + i < 24 by omega) (c := 112) (k := i) (.inr (.inl ⟨by omega, by omega, rfl, by omega⟩))
        unfold L238_105_112_a
        simp only [zI0, zI1, zI2, zI3, zI4, zI5, zI6, zI7, zI8, zJ0, zJ1, zJ2, zMM]
        rw [if_neg (by rw [zq_le (by omega) (by omega)]; omega), zr_i _ _ (by omega) (by omega), Option.bind_some, s1, Option.bind_some, zs_i _ _ _ (by omega) (by omega), Option.bind_some, zq_add]
        exact hgo _ s2
      · rintro y ga hJ
        unfold L238_105_112_a
        simp only [zI0, zI1, zI2, zI3, zI4, zI5, zI6, zI7, zI8, zJ0, zJ1, zJ2, zMM]
        rw [if_pos (by decide)]
        exact zw_some hJ
    obtain ⟨o3, a1, a2⟩ := r1
    rw [a1, Option.bind_some]
    have r2 : zw (zzf zzP zN (d + 2) 238 [.ref 105, .ref 113] o3.2) fun o => mTk μ (24 * k) 24 o.2 := by
      rw [w_m_movesRow_105_113]
      refine zl_up (fun i (y : zzM) => ([nI i], [], y)) (fun i y => mTk μ (24 * k) (16 + i) y) 0 8 _ (by omega) (by omega) rfl a2 ?_ ?_
      · rintro i y ga hi1 hi2 hJ hgo
        have s1 := mTk_m hJ (show 16 + i < 24 by omega) (by omega) d (y.1 113 i)
        have s2 := mTk_s hJ (show 16 + i < 24 by omega) (c := 113) (k := i) (.inr (.inr ⟨by omega, rfl, by omega⟩))
        unfold L238_105_113_a
        simp only [zI0, zI1, zI2, zI3, zI4, zI5, zI6, zI7, zI8, zJ0, zJ1, zJ2, zMM]
        rw [if_neg (by rw [zq_le (by omega) (by omega)]; omega), zr_i _ _ (by omega) (by omega), Option.bind_some, s1, Option.bind_some, zs_i _ _ _ (by omega) (by omega), Option.bind_some, zq_add]
        exact hgo _ s2
      · rintro y ga hJ
        unfold L238_105_113_a
        simp only [zI0, zI1, zI2, zI3, zI4, zI5, zI6, zI7, zI8, zJ0, zJ1, zJ2, zMM]
        rw [if_pos (by decide)]
        exact zw_some hJ
    obtain ⟨o4, b1, b2⟩ := r2
    rw [b1, Option.bind_some]
    exact zw_some b2
/-- a row of a cell tells a snapshot -/
def mRow (c b : Nat) (s : zSn) (μ : zzM) : Prop := μ.1 c b = nI (sL s) ∧ μ.1 c (b + 1) = sT s ∧ μ.1 c (b + 2) = nI (sB s).length ∧ μ.1 c (b + 3) = sF s ∧ (∀ k, k < sL s → μ.1 c (b + 4 + k) = nI (sX s k)) ∧ ∀ k (_ : k < (sB s).length), μ.1 c (b + 16 + k) = nI ((sB s)[k])
theorem mRow_of {g : zG} {s : zSn} {μ : zzM} (h : zm2 g s μ) (hs : zws g s) {y : zzM} {c b : Nat} (hr : ∀ j, j < 24 → y.1 c (b + j) = mRaw μ j) : mRow c b s y := by
  have hsl := hs.1
  have hbl := hs.2.2.2.2.1
  have r : ∀ j, j < 4 → y.1 c (b + j) = μ.1 106 (2 + j) := fun j hj => by
    rw [hr j (by omega)]
    exact if_pos hj
  refine ⟨(r 0 (by omega)).trans (d_len h), (r 1 (by omega)).trans (d_st h), (r 2 (by omega)).trans (d_bn h), (r 3 (by omega)).trans (d_f h), fun k hk => ?_, fun k hk => ?_⟩
  · have := hr (4 + k) (by omega)
    rw [← Nat.add_assoc] at this
    rw [this]
    unfold mRaw
    rw [if_neg (by omega), if_pos (by omega), show 4 + k - 4 = k by omega]
    exact d_x h hk
  · have := hr (16 + k) (by omega)
    rw [← Nat.add_assoc] at this
    rw [this]
    unfold mRaw
    rw [if_neg (by omega), if_neg (by omega), show 16 + k - 16 = k by omega]
    exact d_b h hk
/-- taken back, the reference stands as the row tells -/
theorem zm2_tk {g : zG} {s : zSn} {μ : zzM} {s' : zSn} (h : zm2 g s μ) (hs : zws g s') {y : zzM} {b : Nat} (hk : mTk μ b 24 y) (hr : mRow 132 b s' μ) : zm2 g s' y := by
  obtain ⟨h1, h2, h3, h4, h5, h6⟩ := hk
  obtain ⟨r1, r2, r3, r4, r5, r6⟩ := hr
  have hsl := hs.1
  have hbl := hs.2.2.2.2.1
  have q : ∀ j, j < 4 → y.1 106 (2 + j) = μ.1 132 (b + j) := fun j hj => by
    have := h5 j (by omega)
    unfold mRaw at this
    rw [if_pos hj] at this
    exact this
  refine ⟨?_, (q 0 (by omega)).trans r1, fun k hk => ?_, (q 1 (by omega)).trans r2, (q 3 (by omega)).trans r4, (q 2 (by omega)).trans r3, fun k hk => ?_⟩
  · have := h.1
    unfold zmG at this ⊢
    rw [h6 0 (by omega), h6 1 (by omega), zf_i h1 rfl, zf_i h1 rfl, zf_i h1 rfl, zf_i h1 rfl, zf_i h1 rfl]
    exact this
  · have := h5 (4 + k) (by omega)
    unfold mRaw at this
    rw [if_neg (by omega), if_pos (by omega), show 4 + k - 4 = k by omega, ← Nat.add_assoc] at this
    rw [this]
    exact r5 k hk
  · have := h5 (16 + k) (by omega)
    unfold mRaw at this
    rw [if_neg (by omega), if_neg (by omega), show 16 + k - 16 = k by omega, ← Nat.add_assoc] at this
    rw [this]
    exact r6 k hk
/-- what the class remembers -/
theorem s_remember (d : Nat) {μ : zzM} {m : Nat} (hm : m ≤ 20) (h8 : μ.1 2 8 = nI m) (a1 a2 : Int32) : zw (zzf zzP zN (d + 2) 24 [.ref 2, .int a1, .int a2] μ) fun o => zfr [2, 12] μ o.2 ∧ (∀ p, p ≠ 8 → o.2.1 2 p = μ.1 2 p) ∧ (if m = 20 then o.2.1 2 8 = nI 20 ∧ (∀ q, q < 19 → o.2.1 12 q = μ.1 12 (q + 1)) ∧ o.2.1 12 19 = ((a2 <<< (nI 3 &&& 31)) ||| a1) else o.2.1 2 8 = nI (m + 1) ∧ (∀ q, q < m → o.2.1 12 q = μ.1 12 q) ∧ o.2.1 12 m = ((a2 <<< (nI 3 &&& 31)) ||| a1)) := by
  rw [u_set_remember, h8, zif_cg (Iff.of_eq (zq_eq (by omega) (by omega)))]
  by_cases e : m = 20
  · rw [if_pos e]
    have hc : zzf zzP zN (d + 1) 0 [.ref 12, .int (nI 1), .ref 12, .int (nI 0), .int (nI 19)] μ = some ((0, 0, 0), zblk μ 12 0 (0 + 19) (fun k => μ.1 12 (1 + (k - 0)))) := s_acopy d μ (ta := []) (tb := []) rfl rfl (by omega) (by omega) (by omega) (by omega)
    rw [hc, Option.bind_some]
    dsimp only
    rw [zb_c _ _ _ _ (by omega), h8, e, zq_sub (by omega), zs_i _ _ _ (by omega) (by omega), Option.bind_some, zm_c _ _ _ (by omega), zm_s, zq_add]
    refine zw_some ⟨fun c hc => ?_, fun p hp => ?_, ?_⟩
    · have c2 : c ≠ 2 := fun q => by rw [q] at hc; cases hc
      have c12 : c ≠ 12 := fun q => by rw [q] at hc; cases hc
      exact ⟨by rw [zm_c _ _ _ c2, zm_c _ _ _ c12, zm_c _ _ _ c2, zb_c _ _ _ _ c12], rfl⟩
    · rw [zm_k _ _ _ _ hp, zm_c _ _ _ (by omega), zm_k _ _ _ _ hp, zb_c _ _ _ _ (by omega)]
    · rw [if_pos rfl]
      refine ⟨zm_s _ _ _ _, fun q hq => ?_, ?_⟩
      · rw [zm_c _ _ _ (by omega), zm_k _ _ _ _ (by omega), zm_c _ _ _ (by omega), zb_i _ _ _ (by omega) (by omega)]
        rw [show 1 + (q - 0) = q + 1 by omega]
      · rw [zm_c _ _ _ (by omega), zm_s]
  · rw [if_neg e, zs_i _ _ _ (by omega) (by omega), Option.bind_some, zm_c _ _ _ (by omega), h8, zq_add]
    refine zw_some ⟨zf_twI _ _ (zf_wI _ _ rfl) rfl, fun p hp => by rw [zm_k _ _ _ _ hp, zm_c _ _ _ (by omega)], ?_⟩
    rw [if_neg e]
    exact ⟨zm_s _ _ _ _, fun q hq => by rw [zm_c _ _ _ (by omega), zm_k _ _ _ _ (by omega)], by rw [zm_c _ _ _ (by omega), zm_s]⟩
