/-! IMAGES answered alike -/
theorem w_k {n : Nat} (h : n < 2147483648) : lN n = (nI n).toInt64 := (nI_l (by omega)).symm
theorem i_03 (x : Int32) : (0 ≤ x ∧ x ≤ nI 3) ↔ ∃ q, q < 4 ∧ x = nI q := by
  rw [i_inle (by omega)]
  exact ⟨fun ⟨q, h1, h2⟩ => ⟨q, by omega, h2⟩, fun ⟨q, h1, h2⟩ => ⟨q, by omega, h2⟩⟩
theorem el_no {L : List Nat} {c : Nat} (h : ¬ c ∈ L) : L.elem c = false := by
  rw [Bool.eq_false_iff]
  exact fun q => h (List.mem_of_elem_eq_true q)
theorem zImC_mk {D : Nat} {ν r : zzM} (h : zcps D 2 ν r) : zImC D ν (zzwI r D 10 (nI 1)) := by
  obtain ⟨⟨a1, a2, a3, a4, a5, a6, a7⟩, b1, b2, b3, b4, b5, b6, b7, b8, b9, _⟩ := h
  refine ⟨⟨fun k hk => ?_, fun k hk => ?_, fun k hk => ?_, fun k hk => ?_, fun k hk => ?_, fun k hk => ?_, fun k hk => ?_⟩, fun k hk => ?_, fun k hk => ?_, fun k hk => ?_, ?_, ?_, ?_, ?_, ?_, ?_⟩
  · rw [zm_c _ _ _ (by omega)]; exact a1 k hk
  · rw [zm_c _ _ _ (by omega)]; exact a2 k hk
  · rw [zm_c _ _ _ (by omega)]; exact a3 k hk
  · rw [zm_c _ _ _ (by omega)]; exact a4 k hk
  · rw [zm_c _ _ _ (by omega)]; exact a5 k hk
  · rw [zm_c _ _ _ (by omega)]; exact a6 k hk
  · rw [zm_c _ _ _ (by omega)]; exact a7 k hk
  · rw [zm_c _ _ _ (by omega)]; exact b1 k hk
  · rw [zm_c _ _ _ (by omega)]; exact b2 k hk
  · rw [zm_c _ _ _ (by omega)]; exact b3 k hk
  · rw [zm_k _ _ _ _ (by omega)]; exact b4
  · rw [zm_k _ _ _ _ (by omega)]; exact b5
  · rw [zm_k _ _ _ _ (by omega)]; exact b6
  · rw [zm_k _ _ _ _ (by omega)]; exact b7
  · rw [zm_k _ _ _ _ (by omega)]; exact b8
  · rw [zm_k _ _ _ _ (by omega)]; exact b9
/-- what an image of the class leaves -/
def zIC (q : Nat) (μ : zzM) (r : zzR) : Prop := r.1.1 = μ.1 2 2 ∧ zImC (61 + 11 * q) μ r.2 ∧ ¬ r.2.1 (61 + 11 * q) 10 = 0 ∧ ∀ c, (c < 61 + 11 * q ∨ 72 + 11 * q ≤ c) → r.2.1 c = μ.1 c ∧ r.2.2 c = μ.2 c
theorem zIC_mk {q : Nat} {L : List Nat} {μ : zzM} {r : zzR} {b : Int64} {c0 : Nat} (h1 : zcps (61 + 11 * q) 2 μ r.2) (h2 : zfr L μ r.2) (hL : ∀ c, (c < 61 + 11 * q ∨ 72 + 11 * q ≤ c) → ¬ c ∈ L) : zIC q μ ((r.2.1 2 2, b, c0), zzwI r.2 (61 + 11 * q) 10 (nI 1)) := by
  refine ⟨?_, zImC_mk h1, ?_, fun c hc => ?_⟩
  · show r.2.1 2 2 = _
    rw [zf_i h2 (el_no (hL 2 (.inl (by omega))))]
  · show ¬ (zzwI r.2 (61 + 11 * q) 10 (nI 1)).1 (61 + 11 * q) 10 = 0
    rw [zm_s]
    decide
  · have := h2 c (el_no (hL c hc))
    exact ⟨(zm_c _ _ _ (by omega)).trans this.1, this.2⟩
theorem s_image (d : Nat) {q : Nat} (hq : q < 4) (μ : zzM) : zw (zzf zzP zN (d + 4) 171 [.ref 0, .int (nI q)] μ) (zIC q μ) := by
  rw [u_pf_image, if_neg (by rw [zq_lt0 (by omega)]; exact id), if_pos (by rw [zq_lt (by omega) (by omega)]; exact hq)]
  match q, hq with
  | 0, _ =>
    rw [if_pos rfl]
    refine zw_bind (s_scopy_61_2 d μ) ?_
    rintro r ⟨h1, h2⟩
    rw [if_pos rfl, if_pos (by decide)]
    exact zw_some (zIC_mk (q := 0) h1 h2 fun c hc q => by
      simp only [List.mem_cons, List.not_mem_nil, or_false] at q
      omega)
  | 1, _ =>
    rw [if_neg (by decide), if_pos rfl]
    refine zw_bind (s_scopy_72_2 d μ) ?_
    rintro r ⟨h1, h2⟩
    rw [if_neg (by decide), if_pos rfl, if_pos (by decide)]
    exact zw_some (zIC_mk (q := 1) h1 h2 fun c hc q => by
      simp only [List.mem_cons, List.not_mem_nil, or_false] at q
      omega)
  | 2, _ =>
    rw [if_neg (by decide), if_neg (by decide), if_pos rfl]
    refine zw_bind (s_scopy_83_2 d μ) ?_
    rintro r ⟨h1, h2⟩
    rw [if_neg (by decide), if_neg (by decide), if_pos rfl, if_pos (by decide)]
    exact zw_some (zIC_mk (q := 2) h1 h2 fun c hc q => by
      simp only [List.mem_cons, List.not_mem_nil, or_false] at q
      omega)
  | 3, _ =>
    rw [if_neg (by decide), if_neg (by decide), if_neg (by decide), if_pos rfl]
    refine zw_bind (s_scopy_94_2 d μ) ?_
    rintro r ⟨h1, h2⟩
    rw [if_neg (by decide), if_neg (by decide), if_neg (by decide), if_pos rfl, if_pos (by decide)]
    exact zw_some (zIC_mk (q := 3) h1 h2 fun c hc q => by
      simp only [List.mem_cons, List.not_mem_nil, or_false] at q
      omega)
theorem s_imageN (d : Nat) {x : Int32} (h : ¬ (0 ≤ x ∧ x ≤ nI 3)) (μ : zzM) : zzf zzP zN (d + 1) 171 [.ref 0, .int x] μ = some ((-(nI 1), 0, 0), μ) := by
  rw [u_pf_image]
  by_cases h0 : x < 0
  · rw [if_pos h0]
  · rw [if_neg h0, if_neg ?_]
    intro h1
    refine h ⟨by rw [← i_nlt]; exact h0, ?_⟩
    rw [Int32.lt_iff_toInt_lt] at h1
    rw [Int32.le_iff_toInt_le]
    have e3 : (nI 3).toInt = 3 := by decide +kernel
    have e4 : (nI 4).toInt = 4 := by decide +kernel
    omega
theorem m_imageN (d : Nat) {x : Int32} (h : ¬ (0 ≤ x ∧ x ≤ nI 3)) (μ : zzM) : zzf zzP zN (d + 2) 321 [.ref 105, .int x] μ = some ((-(nI 1), 0, 0), μ) := by
  rw [u_m_image, m_in, Option.bind_some]
  simp only [w_0, w_k (show 3 < 2147483648 by omega), w_32, h, decide_false, zB_0, if_true]
theorem m_image (d : Nat) {q : Nat} (hq : q < 4) (μ : zzM) : zw (zzf zzP zN (d + 3) 321 [.ref 105, .int (nI q)] μ) fun r => r.1.1 = μ.1 106 2 ∧ zfr [105, 133, 151, 152] μ r.2 ∧ (∀ k, k ≠ 70 → k ≠ 71 → r.2.1 105 k = μ.1 105 k) ∧ zImM q μ r.2 ∧ ¬ r.2.1 152 q = 0 ∧ (∀ k, k ≠ q → r.2.1 152 k = μ.1 152 k) ∧ ∀ k, k < 640 * q ∨ 640 * q + 604 ≤ k → r.2.1 151 k = μ.1 151 k := by
  have h3 : (0 ≤ nI q ∧ nI q ≤ nI 3) = True := by rw [zq_0le (by omega), zq_le (by omega) (by omega), true_and]; exact eq_true (by omega)
  rw [u_m_image, m_in, Option.bind_some]
  simp only [w_0, w_k (show 3 < 2147483648 by omega), w_32, h3, decide_true, zB_0, Bool.true_eq_false, if_false, zk_1, if_true]
  rw [zs_i _ _ _ hq (by omega), Option.bind_some]
  obtain ⟨r, a1, a2, a3, a4, a5⟩ := m_carriesS d hq (μ := zzwI μ 152 q (nI 1))
  have z : ∀ c, c ≠ 152 → (zzwI μ 152 q (nI 1)).1 c = μ.1 c := fun c hc => zm_c _ _ _ hc
  rw [z 105 (by omega), z 106 (by omega), z 107 (by omega), z 108 (by omega), z 109 (by omega), z 110 (by omega), z 111 (by omega), z 112 (by omega), z 113 (by omega), z 132 (by omega)] at a5
  rw [a1, Option.bind_some, zr_i _ _ (by omega) (by omega), Option.bind_some]
  refine zw_some ⟨?_, zf_trans (zf_wI _ _ rfl) (zf_mono a2 rfl), fun k k1 k2 => ?_, a5, ?_, fun k hk => ?_, fun k hk => ?_⟩
  · show r.2.1 106 2 = _
    rw [zf_i a2 rfl, z 106 (by omega)]
  · rw [a3 k k1 k2, z 105 (by omega)]
  · show ¬ r.2.1 152 q = 0
    rw [zf_i a2 rfl, zm_s]
    decide
  · show r.2.1 152 k = _
    rw [zf_i a2 rfl, zm_k _ _ _ _ hk]
  · rw [a4 k hk, z 151 (by omega)]
theorem zc2_cp {g : zG} {s : zSn} {ν y : zzM} (h : zc2 g s ν) (hg : zwg g) (hl : sL s ≤ 12) (hc : zImC 2 ν y) : zc2 g s y := by
  obtain ⟨c0, c1, c2, c3, c4, c5, c6, c7, c8, c9⟩ := hc
  obtain ⟨h0, h1, h2, h3, h4, h5, h6⟩ := h
  exact ⟨zcG_cp (D := 3) (S := 3) h0 hg c0, c4.trans h1, fun k hk => (c1 k (by omega)).trans (h2 k hk), c5.trans h3, c7.trans h4, c6.trans h5, fun p hp q hq => by
    have e : y.1 11 p = ν.1 11 p := c2 p hp
    rw [e]
    exact h6 p hp q hq⟩
theorem zImC_tr {D : Nat} {ν μ y : zzM} (h : zImC D ν μ) (h' : zcps 2 D μ y) : zImC 2 ν y := by
  obtain ⟨⟨a1, a2, a3, a4, a5, a6, a7⟩, b1, b2, b3, b4, b5, b6, b7, b8, b9⟩ := h
  obtain ⟨⟨x1, x2, x3, x4, x5, x6, x7⟩, y1, y2, y3, y4, y5, y6, y7, y8, y9, _⟩ := h'
  exact ⟨⟨fun k hk => (x1 k hk).trans (a1 k hk), fun k hk => (x2 k hk).trans (a2 k hk), fun k hk => (x3 k hk).trans (a3 k hk), fun k hk => (x4 k hk).trans (a4 k hk), fun k hk => (x5 k hk).trans (a5 k hk), fun k hk => (x6 k hk).trans (a6 k hk), fun k hk => (x7 k hk).trans (a7 k hk)⟩, fun k hk => (y1 k hk).trans (b1 k hk), fun k hk => (y2 k hk).trans (b2 k hk), fun k hk => (y3 k hk).trans (b3 k hk), y4.trans b4, y5.trans b5, y6.trans b6, y7.trans b7, y8.trans b8, y9.trans b9⟩
theorem q_image {μ : zzM} (h : zIv μ) (a : Int32) : zA 171 321 [.ref 0, .int a] [.ref 105, .int a] μ := by
  obtain ⟨⟨g, s, S, m, b1, b2, b3, b4, b5⟩, hx, ht, hi⟩ := id h
  by_cases ha : 0 ≤ a ∧ a ≤ nI 3
  · obtain ⟨q, hq, rfl⟩ := (i_03 a).1 ha
    obtain ⟨r1, e1, c1, c2, c3, c4⟩ := s_image 9 hq μ
    obtain ⟨r2, e2, d1, d2, d3, d4, d5, d6, d7⟩ := m_image 10 hq r1.2
    have f1 : zfr zil μ r1.2 := fun c hc => c4 c (by
      apply Decidable.byContradiction
      intro z
      have : c ∈ zil := zil_in c (by omega) (by omega)
      rw [List.elem_eq_true_of_mem this] at hc
      cases hc)
    have hf : zfr (105 :: 133 :: zil) μ r2.2 := zf_trans (zf_mono f1 rfl) (zf_mono d2 rfl)
    have h5 : ∀ p, p ≠ 70 → p ≠ 71 → r2.2.1 105 p = μ.1 105 p := fun p p1 p2 => by rw [d3 p p1 p2, zf_i f1 rfl]
    have d4' : zImM q μ r2.2 := by
      unfold zImM at d4 ⊢
      rw [zf_i f1 (c := 105) rfl, zf_i f1 (c := 106) rfl, zf_i f1 (c := 107) rfl, zf_i f1 (c := 108) rfl, zf_i f1 (c := 109) rfl, zf_i f1 (c := 110) rfl, zf_i f1 (c := 111) rfl, zf_i f1 (c := 112) rfl, zf_i f1 (c := 113) rfl, zf_i f1 (c := 132) rfl] at d4
      exact d4
    have hcl : ∀ c, 61 ≤ c → c < 105 → r2.2.1 c = r1.2.1 c := fun c h1 h2 => zf_i d2 (el_no fun z => by
      simp only [List.mem_cons, List.not_mem_nil, or_false] at z
      omega)
    refine ⟨r1, r2, e1, e2, ?_, ⟨g, s, S, m, b1, cI_2 b2 (zc2_fr b2.h hf rfl) hf rfl, mI_2 b3 (zm2_fr b3.h hf rfl) hf (h5 35 (by omega) (by omega)) (h5 36 (by omega) (by omega)) rfl, cP_fr b4 hf rfl, mP_fr b5 hf (h5 39 (by omega) (by omega)) rfl⟩, ?_, zTp_fr ht hf (h5 16 (by omega) (by omega)) rfl, fun q' hq' => ?_⟩
    · rw [c1, d1, zf_i f1 rfl, c_len b2.h, d_len b3.h]
    · exact zXx_cg hx (by rw [zf_i hf rfl]) (by rw [zf_i hf rfl])
    · by_cases eq : q' = q
      · subst eq
        refine .inr ⟨by rw [hcl _ (by omega) (by omega)]; exact c3, d5, μ, g, s, S, m, ⟨b1, b2.h, b3.h, b4, b5, hx⟩, zImC_fr c2 fun c h1 h2 => hcl c (by omega) (by omega), d4'⟩
      · exact zIm_cg (hi q' hq') (fun c h1 h2 => by rw [hcl c (by omega) (by omega)]; exact (c4 c (by omega)).1) (by rw [d6 q' eq, (c4 152 (.inr (by omega))).1]) fun k h1 h2 => by rw [d7 k (by omega), (c4 151 (.inr (by omega))).1]
  · exact ⟨_, _, s_imageN 12 ha μ, m_imageN 11 ha μ, rfl, h⟩
/-! BACK answered alike -/
theorem s_backT (d : Nat) {q : Nat} (hq : q < 4) (μ : zzM) (hm : ¬ μ.1 (61 + 11 * q) 10 = 0) : ∃ o : zzR, zcps 2 (61 + 11 * q) μ o.2 ∧ zfr [2, 3, 4, 5, 6, 7, 8, 9, 10, 11, 12] μ o.2 ∧ zzf zzP zN (d + 4) 172 [.ref 0, .int (nI q)] μ = (zzf zzP zN (d + 3) 123 [.ref 0] (zzwI o.2 26 0 (nI 0))).bind fun o2 => some (((o2.2.1 2 2), 0, 0), o2.2) := by
  rw [u_pf_back, if_neg (by rw [zq_lt0 (by omega)]; exact id), if_neg (by rw [zq_le (by omega) (by omega)]; omega)]
  match q, hq with
  | 0, _ =>
    obtain ⟨o, a1, a2, a3⟩ := s_scopy_2_61 d μ
    have hm : ¬ μ.1 61 10 = 0 := hm
    refine ⟨o, a2, a3, ?_⟩
    rw [if_pos rfl, if_neg hm, if_pos rfl, a1, Option.bind_some, if_pos (by decide)]
  | 1, _ =>
    obtain ⟨o, a1, a2, a3⟩ := s_scopy_2_72 d μ
    have hm : ¬ μ.1 72 10 = 0 := hm
    refine ⟨o, a2, a3, ?_⟩
    rw [if_neg (by decide), if_pos rfl, if_neg hm, if_neg (by decide), if_pos rfl, a1, Option.bind_some, if_pos (by decide)]
  | 2, _ =>
    obtain ⟨o, a1, a2, a3⟩ := s_scopy_2_83 d μ
    have hm : ¬ μ.1 83 10 = 0 := hm
    refine ⟨o, a2, a3, ?_⟩
    rw [if_neg (by decide), if_neg (by decide), if_pos rfl, if_neg hm, if_neg (by decide), if_neg (by decide), if_pos rfl, a1, Option.bind_some, if_pos (by decide)]
  | 3, _ =>
    obtain ⟨o, a1, a2, a3⟩ := s_scopy_2_94 d μ
    have hm : ¬ μ.1 94 10 = 0 := hm
    refine ⟨o, a2, a3, ?_⟩
    rw [if_neg (by decide), if_neg (by decide), if_neg (by decide), if_pos rfl, if_neg hm, if_neg (by decide), if_neg (by decide), if_neg (by decide), if_pos rfl, a1, Option.bind_some, if_pos (by decide)]
theorem s_back0 (d : Nat) {q : Nat} (hq : q < 4) (μ : zzM) (hm : μ.1 (61 + 11 * q) 10 = 0) : zzf zzP zN (d + 4) 172 [.ref 0, .int (nI q)] μ = some ((-(nI 1), 0, 0), μ) := by
  rw [u_pf_back, if_neg (by rw [zq_lt0 (by omega)]; exact id), if_neg (by rw [zq_le (by omega) (by omega)]; omega)]
  match q, hq with
  | 0, _ =>
    have hm : μ.1 61 10 = 0 := hm
    rw [if_pos rfl, if_pos hm]
  | 1, _ =>
    have hm : μ.1 72 10 = 0 := hm
    rw [if_neg (by decide), if_pos rfl, if_pos hm]
  | 2, _ =>
    have hm : μ.1 83 10 = 0 := hm
    rw [if_neg (by decide), if_neg (by decide), if_pos rfl, if_pos hm]
  | 3, _ =>
    have hm : μ.1 94 10 = 0 := hm
    rw [if_neg (by decide), if_neg (by decide), if_neg (by decide), if_pos rfl, if_pos hm]
theorem s_backN (d : Nat) {x : Int32} (h : ¬ (0 ≤ x ∧ x ≤ nI 3)) (μ : zzM) : zzf zzP zN (d + 1) 172 [.ref 0, .int x] μ = some ((-(nI 1), 0, 0), μ) := by
  rw [u_pf_back]
  by_cases h0 : x < 0
  · rw [if_pos h0]
  · rw [if_neg h0, if_pos ?_]
    apply Decidable.byContradiction
    intro h1
    refine h ⟨by rw [← i_nlt]; exact h0, ?_⟩
    rw [Int32.le_iff_toInt_le] at h1 ⊢
    have e3 : (nI 3).toInt = 3 := by decide +kernel
    have e4 : (nI 4).toInt = 4 := by decide +kernel
    omega
theorem cP_cp {s : zSn} {S : Nat → zSn} {m : Nat} {ν y : zzM} (h : cP s S m ν) (h8 : y.1 2 8 = ν.1 2 8) (h12 : ∀ k, k < 20 → y.1 12 k = ν.1 12 k) : cP s S m y := ⟨h.1, h.2.1, h8.trans h.2.2.1, fun k hk => by
  have := h.1
  rw [h12 k (by omega)]
  exact h.2.2.2 k hk⟩
theorem mP_cp {g : zG} {S : Nat → zSn} {m : Nat} {ν y : zzM} (hm : m ≤ 20) (hP : zPo g S m) (h : mP S m ν) (h39 : y.1 105 39 = ν.1 105 39) (h132 : ∀ k, k < 480 → y.1 132 k = ν.1 132 k) : mP S m y := ⟨h39.trans h.1, fun k hk => mRow_cg (hP k (by omega)).hs.1 (hP k (by omega)).hs.2.2.2.2.1 (h.2 k hk) fun j hj => h132 _ (by omega)⟩
theorem q_back {μ : zzM} (h : zIv μ) (a : Int32) : zA 172 322 [.ref 0, .int a] [.ref 105, .int a] μ := by
  obtain ⟨⟨g, s, S, m, b1, b2, b3, b4, b5⟩, hx, ht, hi⟩ := id h
  by_cases ha : 0 ≤ a ∧ a ≤ nI 3
  · obtain ⟨q, hq, rfl⟩ := (i_03 a).1 ha
    have h3 : (0 ≤ nI q ∧ nI q ≤ nI 3) = True := eq_true ha
    rcases hi q hq with ⟨i1, i2⟩ | ⟨i1, i2, ν, g', s', S', m', ⟨n1, n2, n3, n4, n5, n6⟩, i3, i4⟩
    · refine ⟨_, _, s_back0 9 hq μ i1, (show zzf zzP zN 13 322 [.ref 105, .int (nI q)] μ = some ((-(nI 1), 0, 0), μ) from ?_), rfl, h⟩
      rw [show (13 : Nat) = 11 + 1 + 1 from rfl, u_m_back, m_in, Option.bind_some]
      simp only [w_0, w_k (show 3 < 2147483648 by omega), w_32, h3, decide_true, zB_0, Bool.true_eq_false, if_false]
      rw [zr_i _ _ hq (by omega), Option.bind_some, if_pos i2]
    · have K' : zOk g' s' := n4.2.1 ▸ n1 m' (Nat.le_refl _)
      obtain ⟨o, a1, a2, a3⟩   := s_backT 9 hq μ i1
      have hC : zImC 2 ν o.2 := zImC_tr i3 a1
      have hC' : zImC 2 ν (zzwI o.2 26 0 (nI 0)) := zImC_fr hC fun c h1 h2 => zm_c _ _ _ (by omega)
      have hf0 : zfr [2, 3, 4, 5, 6, 7, 8, 9, 10, 11, 12, 26] μ (zzwI o.2 26 0 (nI 0)) := zf_twI _ _ (zf_mono a2 rfl) rfl
      have hz : zc2 g' s' (zzwI o.2 26 0 (nI 0)) := zc2_cp n2 K'.hg K'.hs.1 hC'
      obtain ⟨o2, t1, t2, t3⟩ := s_rulesChanged b2 (fun C hC => by
        simp only [List.mem_cons, List.not_mem_nil, or_false] at hC
        rcases hC with rfl | rfl | rfl | rfl <;> exact zf_i hf0 rfl) hz (.inl (by rw [zm_s]; rfl)) 10
      have t1 : zzf zzP zN 12 123 [.ref 0] (zzwI o.2 26 0 (nI 0)) = some o2 := t1
      have a3 : zzf zzP zN 13 172 [.ref 0, .int (nI q)] μ = _ := a3
      rw [t1, Option.bind_some] at a3
      have f1 : zfr [2, 3, 4, 5, 6, 7, 8, 9, 10, 11, 12, 21, 26, 31, 36, 41, 45, 48, 52, 56] μ o2.2 := zf_trans (zf_mono hf0 rfl) (zf_mono t2 rfl)
      have hCo : zImC 2 ν o2.2 := by
        obtain ⟨c0, c1, c2, c3, c4, c5, c6, c7, c8, c9⟩ := hC'
        unfold zImC zcpg at *
        rw [zf_i t2 (c := 2) rfl, zf_i t2 (c := 2 + 1) rfl, zf_i t2 (c := 2 + 1 + 1) rfl, zf_i t2 (c := 2 + 1 + 2) rfl, zf_i t2 (c := 2 + 1 + 3) rfl, zf_i t2 (c := 2 + 1 + 4) rfl, zf_i t2 (c := 2 + 1 + 5) rfl, zf_i t2 (c := 2 + 1 + 6) rfl, zf_i t2 (c := 2 + 8) rfl, zf_i t2 (c := 2 + 9) rfl, zf_i t2 (c := 2 + 10) rfl]
        exact ⟨c0, c1, c2, c3, c4, c5, c6, c7, c8, c9⟩
      obtain ⟨r, e1, e2, e3, e4, e5, e6, e7, e8, e9, e10, e11, e12, e13⟩ := m_carriesL 10 hq (μ := o2.2)
      have k151 : o2.2.1 151 = μ.1 151 := zf_i f1 rfl
      rw [k151] at e4 e5 e6 e7 e8 e9 e10 e11 e12 e13
      obtain ⟨j0, j1, j2, j3, j4, j5, j6, j7, j8, j9⟩ := i4
      have er : zzf zzP zN 13 322 [.ref 105, .int (nI q)] o2.2 = some (((zzwI r.2 105 36 (nI 0)).1 106 2, 0, 0), zzwI r.2 105 36 (nI 0)) := by
        rw [show (13 : Nat) = 11 + 1 + 1 from rfl, u_m_back, m_in, Option.bind_some]
        simp only [w_0, w_k (show 3 < 2147483648 by omega), w_32, h3, decide_true, zB_0, Bool.true_eq_false, if_false]
        rw [zr_i _ _ hq (by omega), Option.bind_some, if_neg (by rw [zf_i f1 rfl]; exact i2), show zzf zzP zN 12 320 [.ref 105, .int (nI q), .int (nI 1)] o2.2 = some r from e1, Option.bind_some, zr_i _ _ (by omega) (by omega), Option.bind_some]
      have hf2 : zfr [105, 106, 107, 108, 109, 110, 111, 112, 113, 132, 133] o2.2 (zzwI r.2 105 36 (nI 0)) := zf_twI _ _ e2 rfl
      have hf : zfr [2, 3, 4, 5, 6, 7, 8, 9, 10, 11, 12, 21, 26, 31, 36, 41, 45, 48, 52, 56, 105, 106, 107, 108, 109, 110, 111, 112, 113, 132, 133] μ (zzwI r.2 105 36 (nI 0)) := zf_trans (zf_mono f1 rfl) (zf_mono hf2 rfl)
      have cp : zmcp ν (zzwI r.2 105 36 (nI 0)) := by
        refine ⟨fun k hk _ => ?_, fun k hk => ?_, fun k hk => ?_, fun k hk => ?_, fun k hk => ?_, fun k hk => ?_, fun k hk => ?_, fun k hk => ?_⟩
        · rw [zm_c _ _ _ (by omega), e5 k hk]; exact j1 k hk
        · rw [zm_c _ _ _ (by omega), e6 k hk]; exact j2 k hk
        · rw [zm_c _ _ _ (by omega), e7 k hk]; exact j3 k hk
        · rw [zm_c _ _ _ (by omega), e8 k hk]; exact j4 k hk
        · rw [zm_c _ _ _ (by omega), e9 k hk]; exact j5 k hk
        · rw [zm_c _ _ _ (by omega), e10 k hk]; exact j6 k hk
        · rw [zm_c _ _ _ (by omega), e11 k hk]; exact j7 k hk
        · rw [zm_c _ _ _ (by omega), e12 k hk]; exact j8 k hk
      have hm2 : zm2 g' s' (zzwI r.2 105 36 (nI 0)) := zm2_cp n3 K'.hg K'.hs.1 K'.hs.2.2.2.2.1 cp
      have h105 : ∀ p, p ≠ 70 → p ≠ 71 → p ≠ 39 → p ≠ 36 → (zzwI r.2 105 36 (nI 0)).1 105 p = μ.1 105 p := fun p p1 p2 p3 p4 => by rw [zm_k _ _ _ _ p4, e3 p p1 p2 p3, zf_i f1 rfl]
      refine ⟨_, _, a3, er, ?_, ⟨g', s', S', m', n1, cI_2 t3 (zc2_fr t3.h hf2 rfl) hf2 rfl, ⟨hm2, fun i hi e => ?_⟩, cP_fr (cP_cp n4 hCo.2.2.2.2.2.2.2.2.1 hCo.2.2.2.1) hf2 rfl, mP_cp n4.1 n1 n5 ?_ fun k hk => ?_⟩, ?_, zTp_fr ht hf (h105 16 (by omega) (by omega) (by omega) (by omega)) rfl, fun q' hq' => zIm_fr hq' (hi q' hq') hf rfl⟩
      · show o2.2.1 2 2 = (zzwI r.2 105 36 (nI 0)).1 106 2
        rw [c_len t3.h, d_len hm2]
      · rw [show (zzwI r.2 105 36 (nI 0)).1 105 36 = nI 0 from zm_s _ _ _ _, bt_0 i hi] at e
        cases e
      · show (zzwI r.2 105 36 (nI 0)).1 105 39 = _
        rw [zm_k _ _ _ _ (by omega), e4]
        exact j0
      · show (zzwI r.2 105 36 (nI 0)).1 132 k = _
        rw [zm_c _ _ _ (by omega), e13 k hk]
        exact j9 k hk
      · exact zXx_cg n6 (by rw [zf_i hf2 rfl]; exact hCo.2.2.2.2.2.2.2.2.2) (by rw [zm_c _ _ _ (by omega), e5 6 (by omega)]; exact j1 6 (by omega))
  · refine ⟨_, _, s_backN 12 ha μ, (show zzf zzP zN 13 322 [.ref 105, .int a] μ = some ((-(nI 1), 0, 0), μ) from ?_), rfl, h⟩
    rw [show (13 : Nat) = 11 + 1 + 1 from rfl, u_m_back, m_in, Option.bind_some]
    simp only [w_0, w_k (show 3 < 2147483648 by omega), w_32, ha, decide_false, zB_0, if_true]
