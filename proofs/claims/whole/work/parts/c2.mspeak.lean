/-! SPEAKING of the reference -/
theorem zm2_x {g : zG} {s : zSn} {μ : zzM} (h : zm2 g s μ) {y : zzM} (h6 : ∀ p, p ≠ 6 → y.1 106 p = μ.1 106 p) (hc : ∀ c, 107 ≤ c → c ≤ 113 → y.1 c = μ.1 c) : zm2 g s y := by
  unfold zm2 zmG at h ⊢
  rw [h6 0 (by omega), h6 1 (by omega), h6 2 (by omega), h6 3 (by omega), h6 4 (by omega), h6 5 (by omega), hc 107 (by omega) (by omega), hc 108 (by omega) (by omega), hc 109 (by omega) (by omega), hc 110 (by omega) (by omega), hc 111 (by omega) (by omega), hc 112 (by omega) (by omega), hc 113 (by omega) (by omega)]
  exact h
/-- the reference's memory while it speaks -/
def mSf (μ y : zzM) : Prop := zfr [105, 106, 150] μ y ∧ (∀ p, p ≠ 6 → y.1 106 p = μ.1 106 p) ∧ (∀ p, p ≠ 67 → y.1 105 p = μ.1 105 p) ∧ y.2 = μ.2
theorem mSf_0 (μ : zzM) : mSf μ μ := ⟨zf_refl _ _, fun _ _ => rfl, fun _ _ => rfl, rfl⟩
theorem mSf_t {μ y z : zzM} (h : mSf μ y) (h' : mSf y z) : mSf μ z := ⟨zf_trans h.1 h'.1, fun p hp => (h'.2.1 p hp).trans (h.2.1 p hp), fun p hp => (h'.2.2.1 p hp).trans (h.2.2.1 p hp), h'.2.2.2.trans h.2.2.2⟩
theorem mSf_2 {g : zG} {s : zSn} {μ : zzM} (h : zm2 g s μ) {y : zzM} (hf : mSf μ y) : zm2 g s y := zm2_x h hf.2.1 fun c h1 h2 => zf_i hf.1 (by
  have e : ∀ c, c < 114 → 107 ≤ c → List.elem c [105, 106, 150] = false := by decide
  exact e c (by omega) h1)
theorem mSf_150 {μ y : zzM} (k : Nat) (v : Int32) (h : mSf μ y) : mSf μ (zzwI y 150 k v) := mSf_t h ⟨zf_wI _ _ rfl, fun p _ => by rw [zm_c _ _ _ (by omega)], fun p _ => by rw [zm_c _ _ _ (by omega)], rfl⟩
theorem mSf_67 {μ y : zzM} (v : Int32) (h : mSf μ y) : mSf μ (zzwI y 105 67 v) := mSf_t h ⟨zf_wI _ _ rfl, fun p _ => by rw [zm_c _ _ _ (by omega)], fun p hp => zm_k _ _ _ _ hp, rfl⟩
theorem mSf_6 {μ y : zzM} (v : Int32) (h : mSf μ y) : mSf μ (zzwI y 106 6 v) := mSf_t h ⟨zf_wI _ _ rfl, fun p hp => zm_k _ _ _ _ hp, fun p _ => by rw [zm_c _ _ _ (by omega)], rfl⟩
def mRo (n : Nat) (f : Nat → Nat) (μ : zzM) : Prop := μ.1 105 67 = nI n ∧ ∀ k, k < n → μ.1 150 k = nI (f k)
theorem m_capitalAt (d : Nat) {μ : zzM} {n : Nat} {f : Nat → Nat} (hn : n ≤ 24) (hf : ∀ k, k < n → f k < 52) (h : mRo n f μ) : zzf zzP zN (d + 2) 314 [.ref 105] μ = some ((if zfcp f 0 n = n then -(nI 1) else nI (zfcp f 0 n), 0, 0), μ) := by
  refine zw_eq ?_
  rw [w_m_capitalAt]
  refine zl_up (fun i (_ : Unit) => ([nI i], [], μ)) (fun i _ => zfcp f i (n - i) = zfcp f 0 n) 0 n () (by omega) (by omega) rfl rfl ?_ ?_
  · rintro i - ga - hi hJ hgo
    have hfi := hf i hi
    unfold L314_a
    simp only [zI0, zI1, zI2, zI3, zI4, zI5, zI6, zI7, zI8, zJ0, zJ1, zJ2, zMM]
    rw [h.1, if_neg (by rw [zq_le (by omega) (by omega)]; omega), zr_i _ _ (by omega) (by omega), h.2 i hi, Option.bind_some, m_isCapital, Option.bind_some]
    simp only [zB_0]
    rw [show n - i = n - (i + 1) + 1 by omega, zfcp_s] at hJ
    by_cases e : 26 ≤ f i
    · rw [if_pos e] at hJ
      rw [if_neg (by rw [decide_eq_false_iff_not, zq_le (by omega) (by omega)]; omega), ← hJ, if_neg (by omega)]
      exact zw_some ⟨rfl, rfl⟩
    · rw [if_neg e] at hJ
      rw [if_pos (by rw [decide_eq_false_iff_not, zq_le (by omega) (by omega)]; exact e), zq_add]
      exact hgo () hJ
  · rintro - ga hJ
    unfold L314_a
    simp only [zI0, zI1, zI2, zI3, zI4, zI5, zI6, zI7, zI8, zJ0, zJ1, zJ2, zMM]
    rw [h.1, if_pos (by rw [zq_le (by omega) (by omega)]; omega)]
    rw [Nat.sub_self] at hJ
    have hJ : n = zfcp f 0 n := hJ
    rw [if_pos hJ.symm]
    exact zw_some ⟨rfl, rfl⟩
theorem m_draws (d : Nat) {μ : zzM} {x k : Nat} (hx : x < 2147483648) (hk : 0 < k) (hk2 : k < 2147483648) (h : μ.1 106 6 = nI x) : zzf zzP zN (d + 1) 311 [.ref 105, .int (nI k)] μ = some ((nI (zdr x / 65536 % k), 0, 0), zzwI μ 106 6 (nI (zdr x))) := by
  have hz := zdr_lt x
  rw [w_m_draws, zr_i _ _ (by omega) (by omega), h, Option.bind_some, if_neg (by decide), nI_l (by omega), lN_mul, lN_add, pk_lRem (by omega) (by omega) (by omega), lN_i, ← zdr_e, zs_i _ _ _ (by omega) (by omega), Option.bind_some, zr_i _ _ (by omega) (by omega), zm_s, Option.bind_some, if_neg (by decide), zif_cg (Iff.of_eq (zq_e0 hk2)), if_neg (by omega), pk_div (by omega) (by omega) (by omega), pk_rem (by omega) hk (by omega)]
theorem zrl_s (p : Nat → Bool) (n : Nat) : zcnt p (n + 1) = zcnt p n + (if p n then 1 else 0) := rfl
theorem m_rulesOf {g : zG} {s : zSn} {μ : zzM} (h : zm2 g s μ) (hg : zwg g) (d : Nat) {c : Nat} (hc : c < 52) : zzf zzP zN (d + 3) 312 [.ref 105, .int (nI c)] μ = some ((nI (zmru g s c), 0, 0), μ) := by
  have hgn := g_n hg
  refine zw_eq ?_
  rw [w_m_rulesOf]
  refine zl_up (fun q (_ : Unit) => ([nI c, nI (zcnt (zrl g s c) q), nI q], [], μ)) (fun q _ => True) 0 (gN g) () (by omega) (by omega) rfl trivial ?_ ?_
  · rintro q - ga - hq - hgo
    obtain ⟨hl1, hl2⟩ := g_l hg hq
    have hgo := hgo () trivial
    rw [zrl_s] at hgo
    unfold L312_a
    simp only [zI0, zI1, zI2, zI3, zI4, zI5, zI6, zI7, zI8, zJ0, zJ1, zJ2, zMM]
    have ho : zzf zzP zN (d + 2) 177 [.ref 105, .int (nI q)] μ = some ((zB (zon g s q), 0, 0), μ) := d_on h hg d hq
    rw [zr_i _ _ (by omega) (by omega), d_n h, Option.bind_some, if_neg (by rw [zq_le (by omega) (by omega)]; omega), ho, Option.bind_some]
    simp only [zB_0, zq_add]
    unfold zrl at hgo ⊢
    cases eo : zon g s q with
    | false =>
      rw [if_pos rfl]
      rw [eo, Bool.false_and, if_neg (by decide)] at hgo
      exact hgo
    | true =>
      rw [if_neg (by decide), zr_i _ _ (by omega) (by omega), d_l h hq, Option.bind_some]
      simp (disch := omega) only [zq_eq]
      rw [eo, Bool.true_and] at hgo
      by_cases el : gL g q = c
      · rw [if_pos el]
        rw [decide_eq_true el, if_pos rfl] at hgo
        exact hgo
      · rw [if_neg el]
        rw [decide_eq_false el, if_neg (by decide)] at hgo
        exact hgo
  · rintro - ga -
    unfold L312_a
    simp only [zI0, zI1, zI2, zI3, zI4, zI5, zI6, zI7, zI8, zJ0, zJ1, zJ2, zMM]
    rw [zr_i _ _ (by omega) (by omega), d_n h, Option.bind_some, if_pos (by rw [zq_le (by omega) (by omega)]; omega)]
    exact zw_some ⟨rfl, rfl⟩
theorem m_ruleOf {g : zG} {s : zSn} {μ : zzM} (h : zm2 g s μ) (hg : zwg g) (d : Nat) {c K : Nat} (hc : c < 52) (hK : K < zmru g s c) : zzf zzP zN (d + 3) 313 [.ref 105, .int (nI c), .int (nI K)] μ = some ((nI (zpick (zrl g s c) K (gN g)), 0, 0), μ) := by
  have hgn := g_n hg
  obtain ⟨q0, q1, q2, q3, q4⟩ := zpick_in hK
  have hmb : zmru g s c ≤ 12 := Nat.le_trans (zcnt_le _ _) hgn
  rw [q4]
  refine zw_eq ?_
  rw [w_m_ruleOf]
  refine zl_up (fun q (_ : Unit) => ([nI c, nI (K - zcnt (zrl g s c) q), nI q], [], μ)) (fun q _ => q ≤ q0 ∧ zcnt (zrl g s c) q ≤ K) 0 (gN g) () (by omega) (by omega) rfl ⟨Nat.zero_le _, Nat.zero_le _⟩ ?_ ?_
  · rintro q - ga - hq ⟨hJ, hle⟩ hgo
    obtain ⟨hl1, hl2⟩ := g_l hg hq
    unfold L313_a
    simp only [zI0, zI1, zI2, zI3, zI4, zI5, zI6, zI7, zI8, zJ0, zJ1, zJ2, zMM]
    have ho : zzf zzP zN (d + 2) 177 [.ref 105, .int (nI q)] μ = some ((zB (zon g s q), 0, 0), μ) := d_on h hg d hq
    rw [zr_i _ _ (by omega) (by omega), d_n h, Option.bind_some, if_neg (by rw [zq_le (by omega) (by omega)]; omega), ho, Option.bind_some]
    simp only [zB_0, zq_add]
    have no : zrl g s c q = false → zw (ga ([nI c, nI (K - zcnt (zrl g s c) q), nI (q + 1)], [], μ)) fun r => r.1 = (nI q0, 0, 0) ∧ r.2 = μ := by
      intro e
      have hz : zcnt (zrl g s c) (q + 1) = zcnt (zrl g s c) q := by
        rw [zrl_s, e]
        rfl
      have hiq : q + 1 ≤ q0 := by
        apply Nat.lt_of_le_of_ne hJ
        intro f
        rw [f, q2] at e
        cases e
      have := hgo () ⟨hiq, by omega⟩
      rw [hz] at this
      exact this
    cases eo : zon g s q with
    | false =>
      rw [if_pos rfl]
      exact no (by unfold zrl; rw [eo, Bool.false_and])
    | true =>
      rw [if_neg (by decide), zr_i _ _ (by omega) (by omega), d_l h hq, Option.bind_some]
      simp (disch := omega) only [zq_eq]
      by_cases el : gL g q = c
      · have e : zrl g s c q = true := by unfold zrl; rw [eo, Bool.true_and, decide_eq_true el]
        rw [if_pos el]
        by_cases ei : q = q0
        · rw [ei, q3, Nat.sub_self, if_pos (by decide)]
          exact zw_some ⟨rfl, rfl⟩
        · have h1 := zcnt_up e (show q < q0 by omega)
          have hz : zcnt (zrl g s c) (q + 1) = zcnt (zrl g s c) q + 1 := by
            rw [zrl_s, e]
            rfl
          rw [if_neg (by rw [zq_e0 (by omega)]; omega), zq_sub (show 1 ≤ K - zcnt (zrl g s c) q by omega)]
          have := hgo () ⟨by omega, by omega⟩
          rw [hz, show K - (zcnt (zrl g s c) q + 1) = K - zcnt (zrl g s c) q - 1 by omega] at this
          exact this
      · rw [if_neg el]
        exact no (by unfold zrl; rw [eo, Bool.true_and, decide_eq_false el])
  · rintro - ga ⟨hJ, -⟩
    omega
theorem m_replaces {g : zG} {s : zSn} {μ : zzM} (h : zm2 g s μ) (hg : zwg g) (d : Nat) {n a r : Nat} {f : Nat → Nat} (hn : n ≤ 24) (ha : a < n) (hr : r < gN g) (hR : mRo n f μ) : zw (zzf zzP zN (d + 1) 315 [.ref 105, .int (nI a), .int (nI r)] μ) fun o => mSf μ o.2 ∧ o.2.1 106 6 = μ.1 106 6 ∧ mRo (n - 1 + gZ g r) (zrpl g f a r) o.2 := by
  have hgn := g_n hg
  have hz := g_z hg hr
  rw [w_m_replaces, zr_i _ _ (by omega) (by omega), d_z h hr, Option.bind_some, hR.1]
  -- the right side is written
  have fin : ∀ ga b4 by_ (y : zzM), mSf μ y → y.1 106 6 = μ.1 106 6 → y.1 105 67 = nI n → nI n + by_ = nI (n - 1 + gZ g r) → (∀ j, j < a → y.1 150 j = nI (f j)) → (∀ j, a + gZ g r ≤ j → j < n - 1 + gZ g r → y.1 150 j = nI (f (j + 1 - gZ g r))) → zw (J315_a zN d ga (nI a) (nI r) by_ b4 y) fun o => mSf μ o.2 ∧ o.2.1 106 6 = μ.1 106 6 ∧ mRo (n - 1 + gZ g r) (zrpl g f a r) o.2 := by
    intro ga b4 by_ y e1 e2 e3 e4 e5 e6
    unfold J315_a
    refine zl_up (fun k (y : zzM) => ([nI a, nI r, by_, nI k], [], y)) (fun k y => mSf μ y ∧ y.1 106 6 = μ.1 106 6 ∧ y.1 105 67 = nI n ∧ (∀ j, j < a → y.1 150 j = nI (f j)) ∧ (∀ j, j < k → y.1 150 (a + j) = nI (gS g r j)) ∧ ∀ j, a + gZ g r ≤ j → j < n - 1 + gZ g r → y.1 150 j = nI (f (j + 1 - gZ g r))) 0 (gZ g r) y (by omega) (by omega) rfl ⟨e1, e2, e3, e5, fun j hj => absurd hj (by omega), e6⟩ ?_ ?_
    · rintro k y gb - hk ⟨i1, i2, i3, i4, i5, i6⟩ hgo
      have hy := mSf_2 h i1
      unfold L315_a
      simp only [zI0, zI1, zI2, zI3, zI4, zI5, zI6, zI7, zI8, zJ0, zJ1, zJ2, zMM]
      rw [zr_i _ _ (by omega) (by omega), d_z hy hr, Option.bind_some, if_neg (by rw [zq_le (by omega) (by omega)]; omega), zq_mul, zq_add, zr_i _ _ (by omega) (by omega), d_s hy hr hk, Option.bind_some, zq_add, zs_i _ _ _ (by omega) (by omega), Option.bind_some, zq_add]
      refine hgo _ ⟨mSf_150 _ _ i1, by rw [zm_c _ _ _ (by omega)]; exact i2, by rw [zm_c _ _ _ (by omega)]; exact i3, fun j hj => (zm_k _ _ _ _ (by omega)).trans (i4 j hj), fun j hj => ?_, fun j j1 j2 => (zm_k _ _ _ _ (by omega)).trans (i6 j j1 j2)⟩
      by_cases ej : j = k
      · rw [ej]
        exact zm_s _ _ _ _
      · exact (zm_k _ _ _ _ (by omega)).trans (i5 j (by omega))
    · rintro y gb ⟨i1, i2, i3, i4, i5, i6⟩
      unfold L315_a
      simp only [zI0, zI1, zI2, zI3, zI4, zI5, zI6, zI7, zI8, zJ0, zJ1, zJ2, zMM]
      rw [zr_i _ _ (by omega) (by omega), d_z (mSf_2 h i1) hr, Option.bind_some, if_pos (by rw [zq_le (by omega) (by omega)]; omega), i3, e4]
      refine zw_some ⟨mSf_67 _ i1, by rw [zm_c _ _ _ (by omega)]; exact i2, zm_s _ _ _ _, fun k hk => ?_⟩
      rw [zm_c _ _ _ (by omega)]
      unfold zrpl
      by_cases e1 : k < a
      · rw [if_pos e1]
        exact i4 k e1
      · rw [if_neg e1]
        by_cases e2 : k < a + gZ g r
        · rw [if_pos e2]
          have := i5 (k - a) (by omega)
          rwa [show a + (k - a) = k by omega] at this
        · rw [if_neg e2]
          exact i6 k (by omega) hk
  by_cases ez : gZ g r = 0
  · rw [show nI (gZ g r) - nI 1 = nI 0 - nI 1 by rw [ez], if_neg (by decide)]
    refine zl_up (fun k (y : zzM) => ([nI a, nI r, nI 0 - nI 1, nI k], [], y)) (fun k y => mSf μ y ∧ y.1 106 6 = μ.1 106 6 ∧ y.1 105 67 = nI n ∧ (∀ j, j < a → y.1 150 j = nI (f j)) ∧ (∀ j, a ≤ j → j < k → y.1 150 j = nI (f (j + 1))) ∧ ∀ j, k ≤ j → j < n → y.1 150 j = nI (f j)) a (n - 1) μ (by omega) (by omega) rfl ⟨mSf_0 _, rfl, hR.1, fun j hj => hR.2 j (by omega), fun j j1 j2 => absurd j1 (by omega), fun j j1 j2 => hR.2 j j2⟩ ?_ ?_
    · rintro k y ga hk1 hk2 ⟨i1, i2, i3, i4, i5, i6⟩ hgo
      unfold L315_c
      simp only [zI0, zI1, zI2, zI3, zI4, zI5, zI6, zI7, zI8, zJ0, zJ1, zJ2, zMM]
      rw [i3, zq_add, if_neg (by rw [zq_le (by omega) (by omega)]; omega), zr_i _ _ (by omega) (by omega), i6 (k + 1) (by omega) (by omega), Option.bind_some, zs_i _ _ _ (by omega) (by omega), Option.bind_some]
      refine hgo _ ⟨mSf_150 _ _ i1, by rw [zm_c _ _ _ (by omega)]; exact i2, by rw [zm_c _ _ _ (by omega)]; exact i3, fun j hj => (zm_k _ _ _ _ (by omega)).trans (i4 j hj), fun j j1 j2 => ?_, fun j j1 j2 => (zm_k _ _ _ _ (by omega)).trans (i6 j (by omega) j2)⟩
      by_cases ej : j = k
      · rw [ej]
        exact zm_s _ _ _ _
      · exact (zm_k _ _ _ _ ej).trans (i5 j j1 (by omega))
    · rintro y ga ⟨i1, i2, i3, i4, i5, i6⟩
      unfold L315_c
      simp only [zI0, zI1, zI2, zI3, zI4, zI5, zI6, zI7, zI8, zJ0, zJ1, zJ2, zMM]
      rw [i3, zq_add, if_pos (by rw [zq_le (by omega) (by omega)]; omega)]
      refine fin ga _ _ y i1 i2 i3 ?_ i4 fun j j1 j2 => ?_
      · rw [ez, nJ_e, nJ_0, show n - 1 + 0 = n - 1 by omega, ← zq_sub (show 1 ≤ n by omega)]
        exact (Int32.sub_eq_add_neg _ _).symm
      · rw [ez] at j1 j2 ⊢
        rw [i5 j (by omega) (by omega), show j + 1 - 0 = j + 1 by omega]
  · rw [zq_sub (show 1 ≤ gZ g r by omega), if_pos (by rw [zq_0le (by omega)]; trivial), nJ_e]
    refine zl_dn (fun k (y : zzM) => ([nI a, nI r, nI (gZ g r - 1), nJ k], [], y)) (fun k y => mSf μ y ∧ y.1 106 6 = μ.1 106 6 ∧ y.1 105 67 = nI n ∧ (∀ j, j < k → y.1 150 j = nI (f j)) ∧ ∀ j, k ≤ j → j < n → y.1 150 (j + (gZ g r - 1)) = nI (f j)) (a + 1) n μ (by omega) (by omega) rfl ⟨mSf_0 _, rfl, hR.1, fun j hj => hR.2 j (by omega), fun j j1 j2 => absurd j1 (by omega)⟩ ?_ ?_
    · rintro k y ga hk1 hk2 ⟨i1, i2, i3, i4, i5⟩ hgo
      unfold L315_b
      simp only [zI0, zI1, zI2, zI3, zI4, zI5, zI6, zI7, zI8, zJ0, zJ1, zJ2, zMM]
      rw [nJ_s, if_neg (by rw [zq_le (by omega) (by omega)]; omega), zr_i _ _ (by omega) (by omega), i4 k (by omega), Option.bind_some, zq_add, zs_i _ _ _ (by omega) (by omega), Option.bind_some, nJ_e]
      refine hgo _ ⟨mSf_150 _ _ i1, by rw [zm_c _ _ _ (by omega)]; exact i2, by rw [zm_c _ _ _ (by omega)]; exact i3, fun j hj => (zm_k _ _ _ _ (by omega)).trans (i4 j (by omega)), fun j j1 j2 => ?_⟩
      by_cases ej : j = k
      · rw [ej]
        exact zm_s _ _ _ _
      · exact (zm_k _ _ _ _ (by omega)).trans (i5 j (by omega) j2)
    · rintro y ga ⟨i1, i2, i3, i4, i5⟩
      unfold L315_b
      simp only [zI0, zI1, zI2, zI3, zI4, zI5, zI6, zI7, zI8, zJ0, zJ1, zJ2, zMM]
      rw [nJ_s, if_pos (by rw [zq_le (by omega) (by omega)]; omega)]
      refine fin ga _ _ y i1 i2 i3 ?_ (fun j hj => i4 j (by omega)) fun j j1 j2 => ?_
      · rw [zq_add, show n + (gZ g r - 1) = n - 1 + gZ g r by omega]
      · have := i5 (j + 1 - gZ g r) (by omega) (by omega)
        rwa [show j + 1 - gZ g r + (gZ g r - 1) = j by omega] at this
def mspR (R : Bool × Nat × (Nat → Nat) × Nat) (x : Int32) (μ : zzM) : Prop := x = zB R.1 ∧ μ.1 106 6 = nI R.2.2.2 ∧ (R.1 = true → R.2.1 ≤ 24 ∧ (∀ k, k < R.2.1 → R.2.2.1 k < 52) ∧ mRo R.2.1 R.2.2.1 μ)
theorem m_speaks {g : zG} {s : zSn} {μ : zzM} (h : zm2 g s μ) (hg : zwg g) (hn : 0 < gN g) (d : Nat) {x : Nat} (hx : x < 2147483648) (h3 : μ.1 106 6 = nI x) : zw (zzf zzP zN (d + 4) 316 [.ref 105] μ) fun o => mSf μ o.2 ∧ mspR (zspk g s 30 1 (fun _ => gL g 0) x) o.1.1 o.2 := by
  have hgn := g_n hg
  obtain ⟨hl1, hl2⟩ := g_l hg hn
  rw [w_m_speaks, zr_i _ _ (by omega) (by omega), d_start h hn, Option.bind_some, zs_i _ _ _ (by omega) (by omega), Option.bind_some]
  have hR0 : mRo 1 (fun _ => gL g 0) (zzwI (zzwI μ 150 0 (nI (gL g 0))) 105 67 (nI 1)) := ⟨zm_s _ _ _ _, fun k hk => by
    obtain rfl : k = 0 := by omega
    rw [zm_c _ _ _ (by omega), zm_s]⟩
  have hfc : zzf zzP zN (d + 3) 314 [.ref 105] (zzwI (zzwI μ 150 0 (nI (gL g 0))) 105 67 (nI 1)) = _ := m_capitalAt (d + 1) (n := 1) (f := fun _ => gL g 0) (by omega) (fun _ _ => hl2) hR0
  rw [hfc, Option.bind_some]
  refine zl_up (fun i (a : Nat × (Nat → Nat) × Nat × zzM) => ([nI i, (if zfcp a.2.1 0 a.1 = a.1 then -(nI 1) else nI (zfcp a.2.1 0 a.1))], [], a.2.2.2)) (fun i a => mSf μ a.2.2.2 ∧ a.1 ≤ 24 ∧ (∀ k, k < a.1 → a.2.1 k < 52) ∧ mRo a.1 a.2.1 a.2.2.2 ∧ a.2.2.1 < 2147483648 ∧ a.2.2.2.1 106 6 = nI a.2.2.1 ∧ zspk g s (30 - i) a.1 a.2.1 a.2.2.1 = zspk g s 30 1 (fun _ => gL g 0) x) 0 30 (1, (fun _ => gL g 0), x, zzwI (zzwI μ 150 0 (nI (gL g 0))) 105 67 (nI 1)) (by omega) (by omega) rfl ⟨mSf_67 _ (mSf_150 _ _ (mSf_0 _)), (show 1 ≤ 24 by decide), fun k _ => hl2, hR0, hx, ?_, rfl⟩ ?_ ?_
  · simp only
    rw [zm_c _ _ _ (by omega), zm_c _ _ _ (by omega)]
    exact h3
  · rintro i ⟨n, f, x1, y⟩ ga - hi ⟨i1, i3, i4, i5, i6, i7, i8⟩ hgo
    simp only at i1 i3 i4 i5 i6 i7 i8
    have hy := mSf_2 h i1
    unfold L316_a
    simp only [zI0, zI1, zI2, zI3, zI4, zI5, zI6, zI7, zI8, zJ0, zJ1, zJ2, zMM]
    have hza := zfcp_le f 0 n
    rw [show 30 - i = 30 - (i + 1) + 1 by omega, zspk_s] at i8
    by_cases e : zfcp f 0 n = n
    · rw [if_pos e] at i8
      simp only [if_pos e, if_true]
      rw [if_pos (by decide)]
      refine zw_some ⟨i1, ?_⟩
      rw [← i8]
      exact ⟨rfl, i7, fun _ => ⟨i3, i4, i5⟩⟩
    · rw [if_neg e] at i8
      simp only [if_neg e]
      have ha : zfcp f 0 n < n := by omega
      have ha26 := zfcp_26 f 0 n (by omega)
      have ha52 := i4 _ ha
      have hmb : zmru g s (f (zfcp f 0 n)) ≤ 12 := Nat.le_trans (zcnt_le _ _) hgn
      rw [zif_cg (Iff.of_eq (zq_em (by omega))), if_neg (fun q => q), zr_i _ _ (by omega) (by omega), i5.2 _ ha, Option.bind_some, m_rulesOf hy hg d ha52, Option.bind_some]
      by_cases em : zmru g s (f (zfcp f 0 n)) = 0
      · rw [if_pos em] at i8
        rw [zif_cg (Iff.of_eq (zq_e0 (by omega))), if_pos em, if_pos (by decide)]
        refine zw_some ⟨i1, ?_⟩
        rw [← i8]
        exact ⟨rfl, i7, fun q => (by cases q)⟩
      · rw [if_neg em] at i8
        rw [zif_cg (Iff.of_eq (zq_e0 (by omega))), if_neg em, zif_cg (Iff.of_eq (zq_eq (by omega) (by omega))), if_neg (by omega), zr_i _ _ (by omega) (by omega), i5.2 _ ha, Option.bind_some]
        have hd : zzf zzP zN (d + 3) 311 [.ref 105, .int (nI (zmru g s (f (zfcp f 0 n))))] y = _ := m_draws (d + 2) i6 (by omega) (by omega) i7
        rw [hd, Option.bind_some]
        have hK : zdr x1 / 65536 % zmru g s (f (zfcp f 0 n)) < zmru g s (f (zfcp f 0 n)) := Nat.mod_lt _ (by omega)
        have hsf := mSf_6 (nI (zdr x1)) (mSf_0 y)
        have hy2 := mSf_2 hy hsf
        obtain ⟨q, q1, q2, q3, q4⟩ := zpick_in hK
        rw [m_ruleOf hy2 hg d ha52 hK, Option.bind_some]
        rw [q4] at i8 ⊢
        obtain ⟨o2, b1, b2, b3, b4⟩ := m_replaces hy2 hg (d + 2) (n := n) (f := f) (a := zfcp f 0 n) i3 ha q1 ⟨by rw [zm_c _ _ _ (by omega)]; exact i5.1, fun k hk => by rw [zm_c _ _ _ (by omega)]; exact i5.2 k hk⟩
        rw [b1, Option.bind_some, b4.1]
        have hso := mSf_t (mSf_t i1 hsf) b2
        have hzq := g_z hg q1
        have hx6 : o2.2.1 106 6 = nI (zdr x1) := by rw [b3]; exact zm_s _ _ _ _
        by_cases el : 24 < n - 1 + gZ g q
        · rw [if_pos el] at i8
          rw [if_neg (by rw [zq_le (by omega) (by omega)]; omega), if_pos (by decide)]
          refine zw_some ⟨hso, ?_⟩
          rw [← i8]
          exact ⟨rfl, hx6, fun q => (by cases q)⟩
        · rw [if_neg el] at i8
          have hf' := zrpl_52 hg q1 ha i4
          have hc2 : zzf zzP zN (d + 3) 314 [.ref 105] o2.2 = _ := m_capitalAt (d + 1) (by omega) hf' b4
          rw [if_pos (by rw [zq_le (by omega) (by omega)]; omega), hc2, Option.bind_some, zq_add]
          exact hgo (n - 1 + gZ g q, zrpl g f (zfcp f 0 n) q, zdr x1, o2.2) ⟨hso, by simp only; omega, hf', b4, zdr_lt x1, hx6, i8⟩
  · rintro ⟨n, f, x1, y⟩ ga ⟨i1, i3, i4, i5, i6, i7, i8⟩
    simp only at i1 i3 i4 i5 i6 i7 i8
    have hy := mSf_2 h i1
    unfold L316_a
    simp only [zI0, zI1, zI2, zI3, zI4, zI5, zI6, zI7, zI8, zJ0, zJ1, zJ2, zMM]
    have hza := zfcp_le f 0 n
    rw [show 30 - 30 = 0 from rfl, zspk_0] at i8
    by_cases e : zfcp f 0 n = n
    · rw [decide_eq_true e] at i8
      simp only [if_pos e, if_true]
      rw [if_pos (by decide)]
      refine zw_some ⟨i1, ?_⟩
      rw [← i8]
      exact ⟨rfl, i7, fun _ => ⟨i3, i4, i5⟩⟩
    · rw [decide_eq_false e] at i8
      simp only [if_neg e]
      have ha : zfcp f 0 n < n := by omega
      have ha52 := i4 _ ha
      have hmb : zmru g s (f (zfcp f 0 n)) ≤ 12 := Nat.le_trans (zcnt_le _ _) hgn
      have fin : zw (some ((nI 0, (0 : Int64), (0 : Nat)), y)) fun o => mSf μ o.2 ∧ mspR (zspk g s 30 1 (fun _ => gL g 0) x) o.1.1 o.2 := by
        refine zw_some ⟨i1, ?_⟩
        rw [← i8]
        exact ⟨rfl, i7, fun q => (by cases q)⟩
      rw [zif_cg (Iff.of_eq (zq_em (by omega))), if_neg (fun q => q), zr_i _ _ (by omega) (by omega), i5.2 _ ha, Option.bind_some, m_rulesOf hy hg d ha52, Option.bind_some]
      by_cases em : zmru g s (f (zfcp f 0 n)) = 0
      · rw [zif_cg (Iff.of_eq (zq_e0 (by omega))), if_pos em, if_pos (by decide)]
        exact fin
      · rw [zif_cg (Iff.of_eq (zq_e0 (by omega))), if_neg em, if_pos trivial, if_pos (by decide)]
        exact fin
/-! the answers -/
def zspA (R : Bool × Nat × (Nat → Nat) × Nat) (w : Int32) : Int32 := if R.1 = false then -(nI 2) else if w = -(nI 1) then nI R.2.1 else if nI R.2.1 ≤ w then -(nI 1) else nI (R.2.2.1 w.toNatClampNeg)
theorem s_spoken {g : zG} {s : zSn} {μ : zzM} (h : zc2 g s μ) (hg : zwg g) (hn : 0 < gN g) (d : Nat) {x : Nat} (hx : x < 2147483648) (h9 : μ.1 2 9 = nI x) (a1 a2 : Int32) : zw (zzf zzP zN (d + 5) 169 [.ref 0, .int a1, .int a2] μ) fun o => zfr [59, 60] μ o.2 ∧ (∀ p, p ≠ 2 → o.2.1 59 p = μ.1 59 p) ∧ o.1.1 = if (nI 1 ≤ a1 ∧ a1 ≤ nI 10) ∧ -(nI 1) ≤ a2 ∧ a2 < nI 24 then zspA (zspT g s x a1.toNatClampNeg) a2 else -(nI 3) := by
  have hgn := g_n hg
  rw [w_pf_spoken]
  have h1 : zzf zzP zN (d + 4) 128 [.ref 0] μ = some ((nI 0, 0, 0), μ) := by
    rw [s_noG, c_n h, decide_eq_false (by rw [zq_e0 (by omega)]; omega)]
    rfl
  rw [h1, Option.bind_some, if_pos (show (nI 0 : Int32) = 0 by decide)]
  have no : ¬ ((nI 1 ≤ a1 ∧ a1 ≤ nI 10) ∧ -(nI 1) ≤ a2 ∧ a2 < nI 24) → zw (some ((-(nI 3), (0 : Int64), (0 : Nat)), μ)) fun o => zfr [59, 60] μ o.2 ∧ (∀ p, p ≠ 2 → o.2.1 59 p = μ.1 59 p) ∧ o.1.1 = if (nI 1 ≤ a1 ∧ a1 ≤ nI 10) ∧ -(nI 1) ≤ a2 ∧ a2 < nI 24 then zspA (zspT g s x a1.toNatClampNeg) a2 else -(nI 3) := fun q => zw_some ⟨zf_refl _ _, fun _ _ => rfl, by rw [if_neg q]⟩
  by_cases e1 : a1 < nI 1
  · rw [if_pos e1]
    exact no fun q => absurd q.1.1 (by rw [i_nle]; exact e1)
  · rw [if_neg e1]
    by_cases e2 : nI 10 < a1
    · rw [if_pos e2]
      exact no fun q => absurd q.1.2 (by rw [i_nle]; exact e2)
    · rw [if_neg e2]
      by_cases e3 : a2 < -(nI 1)
      · rw [if_pos e3]
        exact no fun q => absurd q.2.1 (by rw [i_nle]; exact e3)
      · rw [if_neg e3]
        by_cases e4 : a2 < nI 24
        · rw [if_pos e4]
          rw [i_nlt] at e1 e2 e3
          obtain ⟨t, ht, rfl⟩ : ∃ t, t ≤ 10 ∧ a1 = nI t := nI_of2 (M := nI 10) (n := 10) (by decide) (fun q => by
            have : nI 1 < 0 := by
              rw [Int32.lt_iff_toInt_lt] at q ⊢
              rw [Int32.le_iff_toInt_le] at e1
              omega
            exact absurd this (by decide)) e2
          obtain ⟨o, b1, b2, b3, b4⟩ := s_speakTimes h hg hn d ht hx h9
          rw [b1, Option.bind_some, b4.1]
          simp only [zB_0]
          have hgd : (nI 1 ≤ nI t ∧ nI t ≤ nI 10) ∧ -(nI 1) ≤ a2 ∧ a2 < nI 24 := ⟨⟨e1, e2⟩, e3, e4⟩
          simp only [if_pos hgd]
          rw [show (nI t).toNatClampNeg = t from nI_clamp (by omega)]
          obtain ⟨-, b5, b6⟩ := b4
          generalize zspT g s x t = R at b5 b6
          unfold zspA
          cases eR : R.1 with
          | false =>
            rw [if_pos rfl]
            exact zw_some ⟨b2, b3, by rw [if_pos rfl]⟩
          | true =>
            obtain ⟨c1, c2, c3⟩ := b6 eR
            rw [if_neg (show ¬ (true = false) by decide), if_neg (show ¬ (true = false) by decide)]
            by_cases e5 : a2 = -(nI 1)
            · rw [if_pos e5]
              exact zw_some ⟨b2, b3, by rw [if_pos e5, c3.1]⟩
            · rw [if_neg e5, c3.1]
              by_cases e6 : nI R.2.1 ≤ a2
              · rw [if_pos e6]
                exact zw_some ⟨b2, b3, by rw [if_neg e5, if_pos e6]⟩
              · rw [if_neg e6]
                rw [i_nle] at e6
                obtain ⟨k, hk, rfl⟩ : ∃ k, k < 2147483648 ∧ a2 = nI k := by
                  rcases zq_cases a2 with q | q
                  · exfalso
                    apply e5
                    apply Int32.toInt_inj.mp
                    rw [Int32.lt_iff_toInt_lt] at q
                    rw [Int32.le_iff_toInt_le] at e3
                    have h1 : (-(nI 1)).toInt = -1 := by decide
                    have h2 : (0 : Int32).toInt = 0 := by decide
                    omega
                  · exact q
                rw [zq_lt (by omega) (by omega)] at e6
                rw [zr_i _ _ (by omega) (by omega), c3.2 k e6, Option.bind_some]
                refine zw_some ⟨b2, b3, ?_⟩
                rw [if_neg e5, if_neg (by rw [zq_le (by omega) (by omega)]; omega), nI_clamp (by omega)]
        · rw [if_neg e4]
          exact no fun q => e4 q.2.2
theorem m_spoken {g : zG} {s : zSn} {μ : zzM} (h : zm2 g s μ) (hg : zwg g) (hn : 0 < gN g) (d : Nat) {x : Nat} (hx : x < 2147483648) (h6 : μ.1 106 6 = nI x) (a1 a2 : Int32) : zw (zzf zzP zN (d + 5) 317 [.ref 105, .int a1, .int a2] μ) fun o => mSf μ o.2 ∧ o.2.1 106 6 = nI x ∧ o.1.1 = if (nI 1 ≤ a1 ∧ a1 ≤ nI 10) ∧ -(nI 1) ≤ a2 ∧ a2 < nI 24 then zspA (zspT g s x a1.toNatClampNeg) a2 else -(nI 3) := by
  have hgn := g_n hg
  rw [w_m_spoken]
  have h1 : zzf zzP zN (d + 4) 175 [.ref 105] μ = some ((nI 1, 0, 0), μ) := by
    rw [m_isGrammar, d_n h, show decide (0 < nI (gN g)) = true from decide_eq_true (by rw [zq_0lt (by omega)]; exact hn)]
    rfl
  rw [h1, Option.bind_some, if_neg (show ¬ (nI 1 : Int32) = 0 by decide)]
  have no : ¬ ((nI 1 ≤ a1 ∧ a1 ≤ nI 10) ∧ -(nI 1) ≤ a2 ∧ a2 < nI 24) → zw (some ((-(nI 3), (0 : Int64), (0 : Nat)), μ)) fun o => mSf μ o.2 ∧ o.2.1 106 6 = nI x ∧ o.1.1 = if (nI 1 ≤ a1 ∧ a1 ≤ nI 10) ∧ -(nI 1) ≤ a2 ∧ a2 < nI 24 then zspA (zspT g s x a1.toNatClampNeg) a2 else -(nI 3) := fun q => zw_some ⟨mSf_0 _, h6, by rw [if_neg q]⟩
  have g1 : (lN 1 ≤ a1.toInt64 ∧ a1.toInt64 ≤ lN 10) ↔ (nI 1 ≤ a1 ∧ a1 ≤ nI 10) := by
    rw [show lN 1 = (nI 1).toInt64 by decide, show lN 10 = (nI 10).toInt64 by decide, w_32, w_32]
  have g2 : (-(lN 1) ≤ a2.toInt64 ∧ a2.toInt64 ≤ lN 23) ↔ (-(nI 1) ≤ a2 ∧ a2 < nI 24) := by
    rw [show -(lN 1) = (-(nI 1)).toInt64 by decide, show lN 23 = (nI 23).toInt64 by decide, w_32, w_32, Int32.lt_iff_toInt_lt, Int32.le_iff_toInt_le (y := nI 23)]
    have h1 : (nI 23).toInt = 23 := by decide
    have h2 : (nI 24).toInt = 24 := by decide
    rw [h1, h2]
    exact and_congr Iff.rfl (by omega)
  rw [m_in, Option.bind_some]
  simp only [zB_0, decide_eq_false_iff_not]
  by_cases e1 : nI 1 ≤ a1 ∧ a1 ≤ nI 10
  · rw [if_neg (fun q => q (g1.2 e1)), m_in, Option.bind_some]
    simp only [zB_0, decide_eq_false_iff_not]
    by_cases e2 : -(nI 1) ≤ a2 ∧ a2 < nI 24
    · rw [if_neg (fun q => q (g2.2 e2)), zr_i _ _ (by omega) (by omega), h6, Option.bind_some]
      obtain ⟨t, ht, rfl⟩ : ∃ t, t ≤ 10 ∧ a1 = nI t := nI_of2 (M := nI 10) (n := 10) (by decide) (fun q => by
        have e1 := e1.1
        have : nI 1 < 0 := by
          rw [Int32.lt_iff_toInt_lt] at q ⊢
          rw [Int32.le_iff_toInt_le] at e1
          omega
        exact absurd this (by decide)) e1.2
      simp only [if_pos (show (nI 1 ≤ nI t ∧ nI t ≤ nI 10) ∧ -(nI 1) ≤ a2 ∧ a2 < nI 24 from ⟨e1, e2⟩)]
      rw [show (nI t).toNatClampNeg = t from nI_clamp (by omega)]
      refine zl_up (fun i (a : Int32 × zzM) => ([nI t, a2, nI x, a.1, nI i], [], a.2)) (fun i a => mSf μ a.2 ∧ mspR (zspT g s x i) a.1 a.2) 0 t (zB false, μ) (by omega) (by omega) rfl ⟨mSf_0 _, rfl, h6, fun q => (by cases q)⟩ ?_ ?_
      · rintro i ⟨b, y⟩ ga - hi ⟨i1, i3⟩ hgo
        simp only at i1 i3
        unfold L317_a
        simp only [zI0, zI1, zI2, zI3, zI4, zI5, zI6, zI7, zI8, zJ0, zJ1, zJ2, zMM]
        rw [if_neg (by rw [zq_le (by omega) (by omega)]; omega)]
        obtain ⟨o, b1, b2, b4⟩ := m_speaks (mSf_2 h i1) hg hn d (zspT_x hx i) i3.2.1
        rw [b1, Option.bind_some, zq_add]
        exact hgo (o.1.1, o.2) ⟨mSf_t i1 b2, b4⟩
      · rintro ⟨b, y⟩ ga ⟨i1, i3⟩
        simp only at i1 i3
        unfold L317_a
        simp only [zI0, zI1, zI2, zI3, zI4, zI5, zI6, zI7, zI8, zJ0, zJ1, zJ2, zMM]
        rw [if_pos (by rw [zq_le (by omega) (by omega)]; omega), zs_i _ _ _ (by omega) (by omega), Option.bind_some, i3.1]
        simp only [zB_0]
        obtain ⟨-, b5, b6⟩ := i3
        generalize zspT g s x t = R at b5 b6
        have hz6 := mSf_6 (nI x) i1
        have h66 : (zzwI y 106 6 (nI x)).1 106 6 = nI x := zm_s _ _ _ _
        unfold zspA
        cases eR : R.1 with
        | false =>
          rw [if_pos rfl]
          exact zw_some ⟨hz6, h66, by rw [if_pos rfl]⟩
        | true =>
          obtain ⟨c1, c2, c3⟩ := b6 eR
          have h67 : (zzwI y 106 6 (nI x)).1 105 67 = nI R.2.1 := by rw [zm_c _ _ _ (by omega)]; exact c3.1
          rw [if_neg (show ¬ (true = false) by decide), if_neg (show ¬ (true = false) by decide), h67]
          by_cases e5 : a2 = -(nI 1)
          · rw [if_pos e5]
            exact zw_some ⟨hz6, h66, by rw [if_pos e5]⟩
          · rw [if_neg e5]
            by_cases e6 : nI R.2.1 ≤ a2
            · rw [if_pos e6]
              exact zw_some ⟨hz6, h66, by rw [if_neg e5, if_pos e6]⟩
            · rw [if_neg e6]
              rw [i_nle] at e6
              obtain ⟨k, hk, rfl⟩ : ∃ k, k < 2147483648 ∧ a2 = nI k := by
                rcases zq_cases a2 with q | q
                · exfalso
                  apply e5
                  apply Int32.toInt_inj.mp
                  have e3 := e2.1
                  rw [Int32.lt_iff_toInt_lt] at q
                  rw [Int32.le_iff_toInt_le] at e3
                  have h1 : (-(nI 1)).toInt = -1 := by decide
                  have h2 : (0 : Int32).toInt = 0 := by decide
                  omega
                · exact q
              rw [zq_lt (by omega) (by omega)] at e6
              rw [zr_i _ _ (by omega) (by omega), zm_c _ _ _ (by omega), c3.2 k e6, Option.bind_some]
              refine zw_some ⟨hz6, h66, ?_⟩
              rw [if_neg e5, if_neg (by rw [zq_le (by omega) (by omega)]; omega), nI_clamp (by omega)]
    · rw [if_pos (fun q => e2 (g2.1 q))]
      exact no fun q => e2 q.2
  · rw [if_pos (fun q => e1 (g1.1 q))]
    exact no fun q => e1 q.1
