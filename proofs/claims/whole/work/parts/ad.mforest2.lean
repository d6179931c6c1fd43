/-! the reference's forest counted whole -/
theorem zPn_m {g : zG} {s : zSn} (hg : zwg g) (hsl : sL s ≤ 12) {μ : zzM} (hF : fmOk g s μ) : zcnt (fun p => zdc (¬ μ.1 143 p = 0)) 2028 = zPn g s := by
  have hgn := g_n hg
  have key : ∀ q i j, q < 12 → i < 13 → j < 13 → zdc (¬ μ.1 143 (169 * q + (13 * i + j)) = 0) = zdc (zPi g s q i j) := by
    intro q i j hq hi hj
    apply zdc_cg
    rw [← Nat.add_assoc]
    constructor
    · intro f
      obtain ⟨q', i', j', a, b, c, e⟩ := hF.1 (169 * q + 13 * i + j) (by omega) f
      obtain rfl : q' = q := by omega
      obtain rfl : i' = i := by omega
      obtain rfl : j' = j := by omega
      exact (hF.2 q' i' j' a b c).1 f
    · intro f
      have := zPi_rg f
      exact (hF.2 q i j this.1 this.2.1 this.2.2).2 f
  rw [zcnt_su, show (2028 : Nat) = 169 * 12 from rfl, zsuM_blk]
  unfold zPn
  have h1 : ∀ q, q < 12 → zsuM (fun i => if zdc (¬ μ.1 143 (169 * q + i) = 0) then 1 else 0) 169 = zsuM (fun i => zsuM (fun j => if zdc (zPi g s q i j) then 1 else 0) 13) 13 := by
    intro q hq
    rw [show (169 : Nat) = 13 * 13 from rfl, zsuM_blk]
    exact zsuM_cg fun i hi => zsuM_cg fun j hj => by rw [show 13 * 13 * q = 169 * q from rfl, key q i j hq hi hj]
  rw [zsuM_cg h1]
  rw [zsuM_sw (fun i q => zsuM (fun j => if zdc (zPi g s q i j) then 1 else 0) 13) 13 12]
  refine zsuM_cg fun i hi => ?_
  rw [zsuM_sw (fun j q => if zdc (zPi g s q i j) then 1 else 0) 13 12]
  exact zsuM_cg fun j hj => (zcnt_su _ _).symm
theorem m_countsForest {g : zG} {s : zSn} {μ : zzM} (h : zm2 g s μ) (hg : zwg g) (hs : zws g s) (hn0 : 0 < gN g) (d : Nat) (hl2 : bt (μ.1 105 36) 2 = false ∨ mMk true g s μ) (hl5 : bt (μ.1 105 36) 5 = false ∨ (mMk true g s μ ∧ fmOk g s μ)) : zw (zzf zzP zN (d + 10) 294 [.ref 105] μ) fun o => zfr [105, 134, 135, 136, 143, 144, 145] μ o.2 ∧ (∀ p, p ≠ 36 → p ≠ 54 → p ≠ 55 → p ≠ 56 → p ≠ 57 → o.2.1 105 p = μ.1 105 p) ∧ (∀ i, i < 32 → bt (o.2.1 105 36) i = true → bt (μ.1 105 36) i = true ∨ i = 2 ∨ i = 5) ∧ mMk true g s o.2 ∧ fmOk g s o.2 ∧ (∀ p, p < 2028 → o.2.1 134 p = μ.1 134 p) ∧ o.2.1 105 54 = nI (zPn g s) ∧ mTl g s (fun _ => True) o.2 := by
  have hsl := hs.1
  have hgn := g_n hg
  rw [w_m_countsForest]
  obtain ⟨o1, a1, a2, a3, a4, a5, a6, a7⟩ := m_laysForest h hg hs hn0 d hl2 hl5
  rw [a1, Option.bind_some]
  generalize o1.2 = z0 at a2 a3 a4 a5 a6 a7
  have hz0 := zm2_fr h a2 rfl
  let fr : zzM → Prop := fun z => zfr [105, 145] z0 z ∧ ∀ p, p ≠ 54 → p ≠ 55 → p ≠ 56 → p ≠ 57 → z.1 105 p = z0.1 105 p
  have hFz : ∀ z, zfr [105, 145] z0 z → fmOk g s z := fun z hz => by
    have e : z.1 143 = z0.1 143 := zf_i hz rfl
    refine ⟨fun p hp f => a6.1 p hp (by rw [← e]; exact f), fun q i j a b c => ?_⟩
    unfold mPc
    rw [e]
    exact a6.2 q i j a b c
  refine zl_up (fun p (z : zzM) => ([nI p], [], z)) (fun p z => fr z ∧ z.1 105 54 = nI (zcnt (fun p => zdc (¬ z0.1 143 p = 0)) p) ∧ mTl g s (fun _ => False) z) 0 2028 (zzwI (zzwI (zzwI (zzwI z0 105 54 (nI 0)) 105 55 (nI 0)) 105 56 (nI 0)) 105 57 (-(nI 2))) (by omega) (by omega) rfl ⟨⟨zf_twI _ _ (zf_twI _ _ (zf_twI _ _ (zf_wI _ _ rfl) rfl) rfl) rfl, fun k e1 e2 e3 e4 => by rw [zm_k _ _ _ _ e4, zm_k _ _ _ _ e3, zm_k _ _ _ _ e2, zm_k _ _ _ _ e1]⟩, ?_, 0, 0, ?_, ?_, ?_⟩ ?_ ?_
  · rw [zm_k _ _ _ _ (by omega), zm_k _ _ _ _ (by omega), zm_k _ _ _ _ (by omega), zm_s]
    rfl
  · rw [zm_s]
    exact zT_0 g s
  · rw [zm_k _ _ _ _ (by omega), zm_k _ _ _ _ (by omega), zm_s]
  · rw [zm_k _ _ _ _ (by omega), zm_s]
  · rintro p z ga - hp ⟨⟨i1, i1'⟩, i2, i3⟩ hgo
    have hle := zcnt_le (fun p => zdc (¬ z0.1 143 p = 0)) p
    unfold L294_d
    simp only [zI0, zI1, zI2, zI3, zI4, zI5, zI6, zI7, zI8, zJ0, zJ1, zJ2, zMM]
    rw [if_neg (by rw [zq_le (by omega) (by omega)]; omega), zr_i _ _ hp (by omega), Option.bind_some, i2]
    have e143 : z.1 143 p = z0.1 143 p := by rw [zf_i i1 rfl]
    have fin : ∀ b : Bool, b = zdc (¬ z0.1 143 p = 0) → zw (J294_a zN (d + 9) ga (nI p) (zB b) (nI (zcnt (fun p => zdc (¬ z0.1 143 p = 0)) p)) z) fun o => zfr [105, 134, 135, 136, 143, 144, 145] μ o.2 ∧ (∀ p, p ≠ 36 → p ≠ 54 → p ≠ 55 → p ≠ 56 → p ≠ 57 → o.2.1 105 p = μ.1 105 p) ∧ (∀ i, i < 32 → bt (o.2.1 105 36) i = true → bt (μ.1 105 36) i = true ∨ i = 2 ∨ i = 5) ∧ mMk true g s o.2 ∧ fmOk g s o.2 ∧ (∀ p, p < 2028 → o.2.1 134 p = μ.1 134 p) ∧ o.2.1 105 54 = nI (zPn g s) ∧ mTl g s (fun _ => True) o.2 := by
      intro b hb
      unfold J294_a
      rw [zq_add]
      refine hgo _ ⟨⟨zf_twI _ _ i1 rfl, fun k e1 e2 e3 e4 => by rw [zm_k _ _ _ _ e1]; exact i1' k e1 e2 e3 e4⟩, ?_, mTl_e i3 (fun k hk => zm_k _ _ _ _ (by omega)) fun _ _ _ => Iff.rfl⟩
      rw [zm_s]
      show nI _ + zB b = nI (zcnt _ p + if zdc (¬ z0.1 143 p = 0) then 1 else 0)
      rw [← hb]
      cases b
      · exact zq_add _ 0
      · exact zq_add _ 1
    by_cases e : z.1 143 p = 0
    · rw [if_pos e]
      exact fin false (zdc_f.2 fun f => f (by rw [← e143]; exact e)).symm
    · rw [if_neg e]
      exact fin true (zdc_t.2 (by rw [← e143]; exact e)).symm
  · rintro z ga ⟨⟨i1, i1'⟩, i2, i3⟩
    unfold L294_d
    simp only [zI0, zI1, zI2, zI3, zI4, zI5, zI6, zI7, zI8, zJ0, zJ1, zJ2, zMM]
    rw [if_pos (by rw [zq_le (by omega) (by omega)]; omega)]
    rw [zPn_m hg hsl a6] at i2
    refine zl_up (fun c (z : zzM) => ([nI (26 + c)], [], z)) (fun c z => fr z ∧ z.1 105 54 = nI (zPn g s) ∧ mTl g s (fun p => p / 169 < c) z) 0 26 z (by omega) (by omega) rfl ⟨⟨i1, i1'⟩, i2, mTl_e i3 (fun _ _ => rfl) fun p _ _ => ⟨fun f => f.elim, fun f => absurd f (by omega)⟩⟩ ?_ ?_
    · rintro c y gb - hc ⟨⟨j1, j1'⟩, j2, j3⟩ hgo
      unfold L294_c
      simp only [zI0, zI1, zI2, zI3, zI4, zI5, zI6, zI7, zI8, zJ0, zJ1, zJ2, zMM]
      rw [if_neg (by rw [zq_le (by omega) (by omega)]; omega)]
      refine zl_up (fun i (z : zzM) => ([nI (26 + c), nI i], [], z)) (fun i z => fr z ∧ z.1 105 54 = nI (zPn g s) ∧ mTl g s (fun p => p / 169 < c ∨ (p / 169 = c ∧ p % 169 / 13 < i)) z) 0 (sL s + 1) y (by omega) (by omega) rfl ⟨⟨j1, j1'⟩, j2, mTl_e j3 (fun _ _ => rfl) fun p _ _ => by omega⟩ ?_ ?_
      · rintro i x gc - hi ⟨⟨k1, k1'⟩, k2, k3⟩ hgo2
        have hx := zm2_fr hz0 k1 rfl
        unfold L294_b
        simp only [zI0, zI1, zI2, zI3, zI4, zI5, zI6, zI7, zI8, zJ0, zJ1, zJ2, zMM]
        rw [zr_i _ _ (by omega) (by omega), d_len hx, Option.bind_some, if_neg (by rw [zq_lt (by omega) (by omega)]; omega)]
        obtain ⟨ol, l1, l2, b, l3, l4⟩ := m_isLeft hx hg (d + 8) (nI (26 + c))
        rw [l1, Option.bind_some, l3, l2, zq_add]
        cases b with
        | false =>
          rw [if_pos (by decide)]
          refine hgo x ⟨⟨k1, k1'⟩, k2, mTl_e k3 (fun _ _ => rfl) fun p _ hN => ?_⟩
          have hne : p / 169 ≠ c := fun e => by
            obtain ⟨q, q1, q2, -⟩ := hN
            rw [e] at q2
            have := l4.2 ⟨q, q1, by rw [q2]⟩
            cases this
          omega
        | true =>
          rw [if_neg (by decide)]
          refine zl_up (fun j (z : zzM) => ([nI (26 + c), nI i, nI j], [], z)) (fun j z => fr z ∧ z.1 105 54 = nI (zPn g s) ∧ mTl g s (fun p => p / 169 < c ∨ (p / 169 = c ∧ p % 169 / 13 < i) ∨ (p / 169 = c ∧ p % 169 / 13 = i ∧ p % 13 < j)) z) i (sL s + 1) x (by omega) (by omega) rfl ⟨⟨k1, k1'⟩, k2, mTl_e k3 (fun _ _ => rfl) fun p _ hN => ?_⟩ ?_ ?_
          · have := zNp_at hN
            omega
          · rintro j w gd hij hj ⟨⟨m1, m1'⟩, m2, m3⟩ hgo3
            have hw := zm2_fr hz0 m1 rfl
            unfold L294_a
            simp only [zI0, zI1, zI2, zI3, zI4, zI5, zI6, zI7, zI8, zJ0, zJ1, zJ2, zMM]
            rw [zr_i _ _ (by omega) (by omega), d_len hw, Option.bind_some, if_neg (by rw [zq_lt (by omega) (by omega)]; omega)]
            obtain ⟨on, n1, n2, n3, n4⟩ := m_countsNode hw hg hs (mMk_fr a5 m1 rfl) (hFz w m1) (d + 2) hij (by omega) hc (show ¬ ((169 * c + 13 * i + j) / 169 < c ∨ ((169 * c + 13 * i + j) / 169 = c ∧ (169 * c + 13 * i + j) % 169 / 13 < i) ∨ ((169 * c + 13 * i + j) / 169 = c ∧ (169 * c + 13 * i + j) % 169 / 13 = i ∧ (169 * c + 13 * i + j) % 13 < j)) by omega) m3
            rw [n1, Option.bind_some, zq_add]
            refine hgo3 on.2 ⟨⟨zf_trans m1 n2, fun k e1 e2 e3 e4 => (n3 k e2 e3 e4).trans (m1' k e1 e2 e3 e4)⟩, (n3 54 (by omega) (by omega) (by omega)).trans m2, mTl_e n4 (fun _ _ => rfl) fun p hp _ => ?_⟩
            show ((p / 169 < c ∨ (p / 169 = c ∧ p % 169 / 13 < i) ∨ (p / 169 = c ∧ p % 169 / 13 = i ∧ p % 13 < j)) ∨ p = 169 * c + 13 * i + j) ↔ (p / 169 < c ∨ (p / 169 = c ∧ p % 169 / 13 < i) ∨ (p / 169 = c ∧ p % 169 / 13 = i ∧ p % 13 < j + 1))
            omega
          · rintro w gd ⟨⟨m1, m1'⟩, m2, m3⟩
            have hw := zm2_fr hz0 m1 rfl
            unfold L294_a
            simp only [zI0, zI1, zI2, zI3, zI4, zI5, zI6, zI7, zI8, zJ0, zJ1, zJ2, zMM]
            rw [zr_i _ _ (by omega) (by omega), d_len hw, Option.bind_some, if_pos (by rw [zq_lt (by omega) (by omega)]; omega), zq_add]
            refine hgo2 w ⟨⟨m1, m1'⟩, m2, mTl_e m3 (fun _ _ => rfl) fun p _ hN => ?_⟩
            have := zNp_at hN
            show (p / 169 < c ∨ (p / 169 = c ∧ p % 169 / 13 < i) ∨ (p / 169 = c ∧ p % 169 / 13 = i ∧ p % 13 < sL s + 1)) ↔ (p / 169 < c ∨ (p / 169 = c ∧ p % 169 / 13 < i + 1))
            omega
      · rintro x gc ⟨⟨k1, k1'⟩, k2, k3⟩
        have hx := zm2_fr hz0 k1 rfl
        unfold L294_b
        simp only [zI0, zI1, zI2, zI3, zI4, zI5, zI6, zI7, zI8, zJ0, zJ1, zJ2, zMM]
        rw [zr_i _ _ (by omega) (by omega), d_len hx, Option.bind_some, if_pos (by rw [zq_lt (by omega) (by omega)]; omega), zq_add]
        refine hgo x ⟨⟨k1, k1'⟩, k2, mTl_e k3 (fun _ _ => rfl) fun p _ hN => ?_⟩
        have := zNp_at hN
        show (p / 169 < c ∨ (p / 169 = c ∧ p % 169 / 13 < sL s + 1)) ↔ p / 169 < c + 1
        omega
    · rintro y gb ⟨⟨j1, j1'⟩, j2, j3⟩
      unfold L294_c
      simp only [zI0, zI1, zI2, zI3, zI4, zI5, zI6, zI7, zI8, zJ0, zJ1, zJ2, zMM]
      rw [if_pos (by rw [zq_le (by omega) (by omega)]; omega)]
      refine zw_some ⟨zf_trans (zf_mono a2 rfl) (zf_mono j1 rfl), fun k e1 e2 e3 e4 e5 => (j1' k e2 e3 e4 e5).trans (a3 k e1), fun i hi e => a4 i hi (by rw [← j1' 36 (by omega) (by omega) (by omega) (by omega)]; exact e), mMk_fr a5 j1 rfl, hFz y j1, fun p hp => by rw [zf_i j1 rfl]; exact a7 p hp, j2, mTl_e j3 (fun _ _ => rfl) fun p hp _ => ⟨fun _ => trivial, fun _ => by omega⟩⟩
