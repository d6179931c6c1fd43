/-! laysMade of the reference: makesOne, makesOf, the rounds -/
theorem zspot_inj {q i j q' i' j' : Nat} (hi : i < 13) (hj : j < 13) (hi' : i' < 13) (hj' : j' < 13) (h : 169 * q + 13 * i + j = 169 * q' + 13 * i' + j') : q = q' ∧ i = i' ∧ j = j' := by
  have h1 : 13 * (13 * q + i) + j = 13 * (13 * q' + i') + j' := by omega
  have h2 : 13 * q + i = 13 * q' + i' := by omega
  omega
theorem m_makesOne {g : zG} {s : zSn} {μ : zzM} (h : zm2 g s μ) (hg : zwg g) (hs : zws g s) (d : Nat) (b : Bool) {r m n : Nat} (hr : r < gN g) (hm : m ≤ n) (hn : n ≤ sL s) : zw (zzf zzP zN (d + 6) 259 [.ref 105, .int (zB b), .int (nI r), .int (nI m), .int (nI n)] μ) fun o => zfr [134, 135] μ o.2 ∧ (∀ p, p ≠ 2028 * zbn b + (169 * r + 13 * m + n) → o.2.1 134 p = μ.1 134 p) ∧ ∃ t, o.1.1 = zB t ∧ (t = true → zon g s r = true ∧ zPa (zCB b g s (mMd b μ) r) (gZ g r) m n ∧ ¬ mMd b μ r m n ∧ mMd b o.2 r m n) ∧ (t = false → (∀ p, o.2.1 134 p = 0 ↔ μ.1 134 p = 0) ∧ (zon g s r = true → zPa (zCB b g s (mMd b μ) r) (gZ g r) m n → mMd b μ r m n)) := by
  have hgn := g_n hg
  have hz := g_z hg hr
  have hl := hs.1
  have hb := zbn_le b
  rw [u_m_makesOne, m_spot, Option.bind_some]
  have e0 : nI 2028 * zB b + nI (169 * r + 13 * m + n) = nI (2028 * zbn b + (169 * r + 13 * m + n)) := by rw [zB_n, zq_mul, zq_add]
  simp only [e0]
  rw [zr_i _ _ (by omega) (by omega), Option.bind_some]
  simp only [zk_0, zk_1, if_true]
  by_cases e : μ.1 134 (2028 * zbn b + (169 * r + 13 * m + n)) = 0
  · rw [if_pos e, d_on h hg (d := d + 3) hr, Option.bind_some]
    simp only [zB_0]
    cases hon : zon g s r with
    | false =>
      rw [if_pos rfl]
      exact zw_some ⟨zf_refl _ _, fun _ _ => rfl, false, rfl, fun q => (by cases q), fun _ => ⟨fun _ => Iff.rfl, fun q => (by cases q)⟩⟩
    | true =>
      rw [if_neg (by decide)]
      obtain ⟨o, e1, e2, e3⟩ := m_ahead h hg hs d b hr hm hn
      rw [e1, Option.bind_some, zr_i _ _ (by omega) (by omega), zf_i e2 rfl, d_z h hr, Option.bind_some, zq_mul, zq_add, zr_i _ _ (by omega) (by omega), Option.bind_some]
      obtain ⟨t, f1, f2⟩ := e3 (gZ g r) n (Nat.le_refl _) hm (Nat.le_refl _)
      rw [f1]
      simp only [zB_ok, if_true]
      rw [zs_i _ _ _ (by omega) (by omega), Option.bind_some, zr_i _ _ (by omega) (by omega), Option.bind_some, zm_s]
      simp only [zB_ok, if_true]
      refine zw_some ⟨zf_twI _ _ (zf_mono e2 rfl) rfl, fun p hp => ?_, t, rfl, fun q => ⟨trivial, f2.1 q, fun q => q e, ?_⟩, fun q => ⟨fun p => ?_, fun _ q' => ?_⟩⟩
      · rw [zm_k _ _ _ _ hp, zf_i e2 rfl]
      · show ¬ (zzwI o.2 134 _ _).1 134 _ = 0
        rw [zm_s, q]
        decide
      · by_cases ep : p = 2028 * zbn b + (169 * r + 13 * m + n)
        · subst ep
          rw [zm_s, e, q]
          decide
        · rw [zm_k _ _ _ _ ep, zf_i e2 rfl]
      · have := f2.2 q'
        rw [q] at this
        cases this
  · rw [if_neg e]
    exact zw_some ⟨zf_refl _ _, fun _ _ => rfl, false, rfl, fun q => (by cases q), fun _ => ⟨fun _ => Iff.rfl, fun _ _ => e⟩⟩
/-- how far the reference is with parts of one length -/
def mLay (b : Bool) (g : zG) (s : zSn) (L : Nat) (μ y : zzM) (t : Bool) : Prop := zfr [134, 135] μ y ∧ (∀ p, ¬ (2028 * zbn b ≤ p ∧ p < 2028 * zbn b + 2028) → y.1 134 p = μ.1 134 p) ∧ (∀ q i j, q < 12 → i < 13 → j < 13 → ¬ j = i + L → (mMd b y q i j ↔ mMd b μ q i j)) ∧ (∀ q i j, q < gN g → i ≤ j → j ≤ sL s → mMd b y q i j → zM b g s q i j) ∧ (∀ p, ¬ μ.1 134 p = 0 → ¬ y.1 134 p = 0) ∧ (t = true → ∃ p, p < 2028 ∧ μ.1 134 (2028 * zbn b + p) = 0 ∧ ¬ y.1 134 (2028 * zbn b + p) = 0) ∧ (t = false → ∀ p, y.1 134 p = 0 ↔ μ.1 134 p = 0)
theorem zCB_cg {b : Bool} {g : zG} {s : zSn} {M M' : Nat → Nat → Nat → Prop} {r K m n : Nat} (h : ∀ q i j, m ≤ i → i ≤ j → j ≤ n → q < gN g → (M q i j → M' q i j)) : zPa (zCB b g s M r) K m n → zPa (zCB b g s M' r) K m n := zPa_mo fun k i j a c e f => fun q => by
  rcases q with q | ⟨q1, q, q2, q3⟩
  · exact .inl q
  · exact .inr ⟨q1, q, q2, h q i j c e f (zon_lt (zbl_on q2)) q3⟩
theorem m_makesOf {g : zG} {s : zSn} {μ : zzM} (h : zm2 g s μ) (hg : zwg g) (hs : zws g s) (d : Nat) (b : Bool) {L : Nat} (hL : L ≤ sL s) (hso : ∀ q i j, q < gN g → i ≤ j → j ≤ sL s → mMd b μ q i j → zM b g s q i j) : zw (zzf zzP zN (d + 7) 260 [.ref 105, .int (zB b), .int (nI L)] μ) fun o => ∃ t, o.1.1 = zB t ∧ mLay b g s L μ o.2 t ∧ (t = false → ∀ m r, m + L ≤ sL s → zon g s r = true → zPa (zCB b g s (mMd b o.2) r) (gZ g r) m (m + L) → mMd b o.2 r m (m + L)) := by
  have hgn := g_n hg
  have hl := hs.1
  have hb := zbn_le b
  rw [w_m_makesOf]
  refine zl_up (fun m (x : Bool × zzM) => ([zB b, nI L, zB x.1, nI m], [], x.2)) (fun m x => mLay b g s L μ x.2 x.1 ∧ (x.1 = false → ∀ m' r, m' < m → zon g s r = true → zPa (zCB b g s (mMd b x.2) r) (gZ g r) m' (m' + L) → mMd b x.2 r m' (m' + L))) 0 (sL s - L + 1) (false, μ) (by omega) (by omega) rfl ⟨⟨zf_refl _ _, fun _ _ => rfl, fun _ _ _ _ _ _ _ => Iff.rfl, hso, fun _ e => e, fun e => (by cases e), fun _ _ => Iff.rfl⟩, fun _ m' r e => absurd e (by omega)⟩ ?_ ?_
  · rintro m ⟨t, y⟩ ga - hm ⟨hI, hcl⟩ hgo
    simp only at hI hcl
    have hy := zm2_fr h hI.1 rfl
    unfold L260_b
    simp only [zI0, zI1, zI2, zI3, zI4, zI5, zI6, zI7, zI8, zJ0, zJ1, zJ2, zMM]
    rw [zr_i _ _ (by omega) (by omega), d_len hy, Option.bind_some, zq_add, if_neg (by rw [zq_lt (by omega) (by omega)]; omega)]
    refine zl_up (fun r (x : Bool × zzM) => ([zB b, nI L, zB x.1, nI m, nI r], [], x.2)) (fun r x => mLay b g s L μ x.2 x.1 ∧ (x.1 = false → ∀ m' r', (m' < m ∨ (m' = m ∧ r' < r)) → zon g s r' = true → zPa (zCB b g s (mMd b x.2) r') (gZ g r') m' (m' + L) → mMd b x.2 r' m' (m' + L))) 0 (gN g) (t, y) (by omega) (by omega) rfl ⟨hI, fun e m' r' a => hcl e m' r' (by omega)⟩ ?_ ?_
    · rintro r ⟨t, y⟩ gb - hr ⟨hI, hcl⟩ hgo2
      simp only at hI hcl
      have hy := zm2_fr h hI.1 rfl
      unfold L260_a
      simp only [zI0, zI1, zI2, zI3, zI4, zI5, zI6, zI7, zI8, zJ0, zJ1, zJ2, zMM]
      rw [zr_i _ _ (by omega) (by omega), d_n hy, Option.bind_some, if_neg (by rw [zq_le (by omega) (by omega)]; omega), zq_add]
      obtain ⟨o, e1, e2, e3, t', e4, e5, e6⟩ := m_makesOne hy hg hs d b hr (show m ≤ m + L by omega) (show m + L ≤ sL s by omega)
      rw [e1, Option.bind_some, e4]
      simp only [zB_0, zq_add]
      obtain ⟨i1, i2, i3, i4, i5, i6, i7⟩ := hI
      cases t' with
      | true =>
        rw [if_neg (by decide)]
        obtain ⟨f1, f2, f3, f4⟩ := e5 rfl
        refine hgo2 (true, o.2) ⟨⟨zf_trans i1 e2, fun p hp => ?_, fun q i j a c e f => ?_, fun q i j a c e f => ?_, fun p hp => ?_, fun _ => ?_, fun e => (by cases e)⟩, fun e => (by cases e)⟩
        · show o.2.1 134 p = _
          rw [e3 p (by omega)]
          exact i2 p hp
        · unfold mMd
          show ¬ o.2.1 134 _ = 0 ↔ _
          rw [e3 _ (fun hp => by
            have := zspot_inj c e (show m < 13 by omega) (show m + L < 13 by omega) (show 169 * q + 13 * i + j = 169 * r + 13 * m + (m + L) by omega)
            omega)]
          exact i3 q i j a c e f
        · by_cases eq : q = r ∧ i = m ∧ j = m + L
          · obtain ⟨rfl, rfl, rfl⟩ := eq
            exact zM_in f1 (zCB_cg (fun q' i' j' a' c' e' g' f' => i4 q' i' j' g' c' (by omega) f') f2)
          · refine i4 q i j a c e ?_
            unfold mMd at f ⊢
            have f : ¬ o.2.1 134 _ = 0 := f
            rw [e3 _ (fun hp => by
              have := zspot_inj (show i < 13 by omega) (show j < 13 by omega) (show m < 13 by omega) (show m + L < 13 by omega) (show 169 * q + 13 * i + j = 169 * r + 13 * m + (m + L) by omega)
              exact eq this)] at f
            exact f
        · have := i5 p hp
          show ¬ o.2.1 134 p = 0
          by_cases ep : p = 2028 * zbn b + (169 * r + 13 * m + (m + L))
          · subst ep; exact f4
          · rw [e3 p ep]; exact this
        · refine ⟨169 * r + 13 * m + (m + L), (by omega), ?_, f4⟩
          apply Classical.byContradiction
          intro q
          exact f3 (i5 _ q)
      | false =>
        obtain ⟨f1, f2⟩ := e6 rfl
        have hmd : ∀ q i j, mMd b o.2 q i j ↔ mMd b y q i j := fun q i j => by unfold mMd; rw [f1]
        have hmd' : mMd b o.2 = mMd b y := by funext q i j; exact propext (hmd q i j)
        have hnew : mLay b g s L μ o.2 t ∧ (t = false → ∀ m' r', (m' < m ∨ (m' = m ∧ r' < r + 1)) → zon g s r' = true → zPa (zCB b g s (mMd b o.2) r') (gZ g r') m' (m' + L) → mMd b o.2 r' m' (m' + L)) := by
          rw [hmd']
          refine ⟨⟨zf_trans i1 e2, fun p hp => ?_, fun q i j a c e f => ?_, fun q i j a c e f => ?_, fun p hp => ?_, fun e => ?_, fun e p => ?_⟩, fun e m' r' a c f => ?_⟩
          · rw [e3 p (by omega)]
            exact i2 p hp
          · rw [hmd]
            exact i3 q i j a c e f
          · rw [hmd] at f
            exact i4 q i j a c e f
          · rw [f1]
            exact i5 p hp
          · obtain ⟨p, a, c, f⟩ := i6 e
            exact ⟨p, a, c, by rw [f1]; exact f⟩
          · rw [f1]
            exact i7 e p
          · by_cases em : m' = m ∧ r' = r
            · obtain ⟨rfl, rfl⟩ := em
              exact f2 c f
            · exact hcl e m' r' (by omega) c f
        rw [if_pos rfl]
        cases t with
        | false =>
          rw [if_pos rfl]
          exact hgo2 (false, o.2) hnew
        | true =>
          rw [if_neg (by decide)]
          exact hgo2 (true, o.2) hnew
    · rintro ⟨t, y⟩ gb ⟨hI, hcl⟩
      simp only at hI hcl
      have hy := zm2_fr h hI.1 rfl
      unfold L260_a
      simp only [zI0, zI1, zI2, zI3, zI4, zI5, zI6, zI7, zI8, zJ0, zJ1, zJ2, zMM]
      rw [zr_i _ _ (by omega) (by omega), d_n hy, Option.bind_some, if_pos (by rw [zq_le (by omega) (by omega)]; omega), zq_add]
      exact hgo (t, y) ⟨hI, fun e m' r' a c => hcl e m' r' (by have := zon_lt c; omega) c⟩
  · rintro ⟨t, y⟩ ga ⟨hI, hcl⟩
    simp only at hI hcl
    have hy := zm2_fr h hI.1 rfl
    unfold L260_b
    simp only [zI0, zI1, zI2, zI3, zI4, zI5, zI6, zI7, zI8, zJ0, zJ1, zJ2, zMM]
    rw [zr_i _ _ (by omega) (by omega), d_len hy, Option.bind_some, zq_add, if_pos (by rw [zq_lt (by omega) (by omega)]; omega)]
    simp only [zB_ok, if_true]
    exact zw_some ⟨t, rfl, hI, fun e m' r' a => hcl e m' r' (by omega)⟩
/-- what is laid of one kind -/
def mMk (b : Bool) (g : zG) (s : zSn) (μ : zzM) : Prop := ∀ q i j, q < gN g → i ≤ j → j ≤ sL s → (mMd b μ q i j ↔ zM b g s q i j)
theorem m_laysMade {g : zG} {s : zSn} {μ : zzM} (h : zm2 g s μ) (hg : zwg g) (hs : zws g s) (d : Nat) (b : Bool) (hl : bt (μ.1 105 36) (1 + zbn b) = false ∨ mMk b g s μ) : zw (zzf zzP zN (d + 8) 261 [.ref 105, .int (zB b)] μ) fun o => zfr [105, 134, 135] μ o.2 ∧ (∀ p, p ≠ 36 → o.2.1 105 p = μ.1 105 p) ∧ o.2.1 105 36 = (μ.1 105 36 ||| nI (2 * 2 ^ zbn b)) ∧ mMk b g s o.2 ∧ ∀ p, ¬ (2028 * zbn b ≤ p ∧ p < 2028 * zbn b + 2028) → o.2.1 134 p = μ.1 134 p := by
  have hgn := g_n hg
  have hsl := hs.1
  have hb := zbn_le b
  have e2 : nI (2 * 2 ^ zbn b) = nI (2 ^ (1 + zbn b)) := by rw [Nat.add_comm, Nat.pow_succ, Nat.mul_comm]
  have main : zw (J261_a zN (d + 7) (zB b) (nI (2 * 2 ^ zbn b)) μ) fun o => zfr [105, 134, 135] μ o.2 ∧ (∀ p, p ≠ 36 → o.2.1 105 p = μ.1 105 p) ∧ o.2.1 105 36 = (μ.1 105 36 ||| nI (2 * 2 ^ zbn b)) ∧ mMk b g s o.2 ∧ ∀ p, ¬ (2028 * zbn b ≤ p ∧ p < 2028 * zbn b + 2028) → o.2.1 134 p = μ.1 134 p := by
    unfold J261_a
    by_cases e : (μ.1 105 36 &&& nI (2 * 2 ^ zbn b)) = 0
    · rw [if_pos e]
      refine zl_up (fun p (y : zzM) => ([zB b, nI (2 * 2 ^ zbn b), nI p], [], y)) (fun p y => zfr [134] μ y ∧ (∀ p', p' < p → y.1 134 (2028 * zbn b + p') = 0) ∧ ∀ p', ¬ (2028 * zbn b ≤ p' ∧ p' < 2028 * zbn b + 2028) → y.1 134 p' = μ.1 134 p') 0 2028 μ (by omega) (by omega) rfl ⟨zf_refl _ _, fun p' a => absurd a (by omega), fun _ _ => rfl⟩ ?_ ?_
      · rintro p y ga - hp ⟨h1, h2, h3⟩ hgo
        unfold L261_c
        simp only [zI0, zI1, zI2, zI3, zI4, zI5, zI6, zI7, zI8, zJ0, zJ1, zJ2, zMM]
        rw [if_neg (by rw [zq_le (by omega) (by omega)]; omega)]
        simp only [zk_0, if_true]
        rw [zB_n, zq_mul, zq_add, zs_i _ _ _ (by omega) (by omega), Option.bind_some, zq_add, ← zB_n]
        refine hgo _ ⟨zf_twI _ _ h1 rfl, fun p' a => ?_, fun p' a => ?_⟩
        · by_cases ep : p' = p
          · rw [ep, zm_s]
            decide
          · rw [zm_k _ _ _ _ (by omega)]
            exact h2 p' (by omega)
        · rw [zm_k _ _ _ _ (by omega)]
          exact h3 p' a
      · rintro y ga ⟨h1, h2, h3⟩
        unfold L261_c
        simp only [zI0, zI1, zI2, zI3, zI4, zI5, zI6, zI7, zI8, zJ0, zJ1, zJ2, zMM]
        rw [if_pos (by rw [zq_le (by omega) (by omega)]; omega)]
        have hno : ∀ q i j, q < 12 → i < 13 → j < 13 → ¬ mMd b y q i j := fun q i j a c e f => f (h2 (169 * q + 13 * i + j) (by omega))
        refine zl_up (fun L (z : zzM) => ([zB b, nI (2 * 2 ^ zbn b), nI L], [], z)) (fun L z => zfr [134, 135] μ z ∧ (∀ q i j, q < gN g → i ≤ j → j ≤ sL s → mMd b z q i j → zM b g s q i j) ∧ (∀ q i j, q < gN g → i ≤ j → j ≤ sL s → j < i + L → zM b g s q i j → mMd b z q i j) ∧ ∀ p', ¬ (2028 * zbn b ≤ p' ∧ p' < 2028 * zbn b + 2028) → z.1 134 p' = μ.1 134 p') 0 (sL s + 1) y (by omega) (by omega) rfl ⟨zf_mono h1 rfl, fun q i j a c e f => absurd f (hno q i j (by omega) (by omega) (by omega)), fun q i j a c e f => absurd f (by omega), h3⟩ ?_ ?_
        · rintro L z gb - hL ⟨i1, i2, i3, i4⟩ hgo
          have hz := zm2_fr h i1 rfl
          unfold L261_b
          simp only [zI0, zI1, zI2, zI3, zI4, zI5, zI6, zI7, zI8, zJ0, zJ1, zJ2, zMM]
          rw [zr_i _ _ (by omega) (by omega), d_len hz, Option.bind_some, if_neg (by rw [zq_lt (by omega) (by omega)]; omega)]
          refine zl_ms (fun (x : Bool × zzM) => ([zB b, nI (2 * 2 ^ zbn b), nI L, zB x.1], [], x.2)) (fun M x => zfr [134, 135] μ x.2 ∧ (∀ q i j, q < gN g → i ≤ j → j ≤ sL s → mMd b x.2 q i j → zM b g s q i j) ∧ (∀ q i j, q < gN g → i ≤ j → j ≤ sL s → j < i + L → zM b g s q i j → mMd b x.2 q i j) ∧ (∀ p', ¬ (2028 * zbn b ≤ p' ∧ p' < 2028 * zbn b + 2028) → x.2.1 134 p' = μ.1 134 p') ∧ M + zcnt (fun p => decide (¬ x.2.1 134 (2028 * zbn b + p) = 0)) 2028 = 2028 + zbn x.1 ∧ (x.1 = false → ∀ m r, m + L ≤ sL s → zon g s r = true → zPa (zCB b g s (mMd b x.2) r) (gZ g r) m (m + L) → mMd b x.2 r m (m + L))) (2029 - zcnt (fun p => decide (¬ z.1 134 (2028 * zbn b + p) = 0)) 2028) (true, z) (by omega) rfl ⟨i1, i2, i3, i4, by have := zcnt_le (fun p => decide (¬ z.1 134 (2028 * zbn b + p) = 0)) 2028; show _ = 2028 + 1; simp only; omega, fun e => (by cases e)⟩ ?_
          rintro M ⟨t, x⟩ gc ⟨j1, j2, j3, j4, j5, j6⟩ hgo2
          simp only at j1 j2 j3 j4 j5 j6
          have hx := zm2_fr h j1 rfl
          unfold L261_a
          simp only [zI0, zI1, zI2, zI3, zI4, zI5, zI6, zI7, zI8, zJ0, zJ1, zJ2, zMM]
          simp only [zB_0]
          cases t with
          | false =>
            rw [if_pos rfl, zq_add]
            refine hgo x ⟨j1, j2, fun q i j a c e f k => ?_, j4⟩
            by_cases ej : j < i + L
            · exact j3 q i j a c e ej k
            · have ej : j = i + L := by omega
              subst ej
              refine zX_co (X := fun q => mMd b x q i (i + L)) (fun r hr hp => j6 rfl i r e hr (zCB_cg (fun q' i' j' a' c' e' g' f' => ?_) hp)) k
              unfold zMX at f'
              by_cases eij : i' = i ∧ j' = i + L
              · rw [if_pos eij] at f'
                rw [eij.1, eij.2]
                exact f'
              · rw [if_neg eij] at f'
                exact j3 q' i' j' g' c' (by omega) (by omega) f'
          | true =>
            rw [if_neg (by decide)]
            obtain ⟨o, e1, t', e2, ⟨l1, l2, l3, l4, l5, l6, l7⟩, e3⟩ := m_makesOf hx hg hs d b (show L ≤ sL s by omega) j2
            rw [e1, Option.bind_some, e2]
            have hmono : zcnt (fun p => decide (¬ x.1 134 (2028 * zbn b + p) = 0)) 2028 ≤ zcnt (fun p => decide (¬ o.2.1 134 (2028 * zbn b + p) = 0)) 2028 := zcnt_mono fun p _ => by
              rw [decide_eq_true_eq, decide_eq_true_eq]
              exact l5 _
            have hle := zcnt_le (fun p => decide (¬ o.2.1 134 (2028 * zbn b + p) = 0)) 2028
            have j5 : M + zcnt (fun p => decide (¬ x.1 134 (2028 * zbn b + p) = 0)) 2028 = 2028 + 1 := j5
            have hM : 2028 + zbn t' - zcnt (fun p => decide (¬ o.2.1 134 (2028 * zbn b + p) = 0)) 2028 < M := by
              cases t' with
              | false =>
                show 2028 + 0 - _ < M
                omega
              | true =>
                have hlt := zcnt_lt (n := 2028) (p := fun p => decide (¬ x.1 134 (2028 * zbn b + p) = 0)) (q := fun p => decide (¬ o.2.1 134 (2028 * zbn b + p) = 0)) (fun p _ => by
                  rw [decide_eq_true_eq, decide_eq_true_eq]
                  exact l5 _) (by
                  obtain ⟨p, a, c, f⟩ := l6 rfl
                  exact ⟨p, a, decide_eq_false (fun q => q c), decide_eq_true f⟩)
                show 2028 + 1 - _ < M
                omega
            refine hgo2 (2028 + zbn t' - zcnt (fun p => decide (¬ o.2.1 134 (2028 * zbn b + p) = 0)) 2028) (t', o.2) hM ⟨zf_trans j1 l1, l4, fun q i j a c e f k => ?_, fun p' a => ?_, ?_, e3⟩
            · exact (l3 q i j (by omega) (by omega) (by omega) (by omega)).2 (j3 q i j a c e f k)
            · show o.2.1 134 p' = _
              rw [l2 p' a]
              exact j4 p' a
            · have hzt := zbn_le t'
              show 2028 + zbn t' - _ + _ = _
              simp only
              omega
        · rintro z gb ⟨i1, i2, i3, i4⟩
          have hz := zm2_fr h i1 rfl
          unfold L261_b
          simp only [zI0, zI1, zI2, zI3, zI4, zI5, zI6, zI7, zI8, zJ0, zJ1, zJ2, zMM]
          rw [zr_i _ _ (by omega) (by omega), d_len hz, Option.bind_some, if_pos (by rw [zq_lt (by omega) (by omega)]; omega)]
          refine zw_some ⟨zf_twI _ _ (zf_mono i1 rfl) rfl, fun p hp => ?_, ?_, fun q i j a c e => ⟨fun f => ?_, fun f => ?_⟩, fun p' a => ?_⟩
          · rw [zm_k _ _ _ _ hp, zf_i i1 rfl]
          · rw [zm_s, zf_i i1 rfl]
          · refine i2 q i j a c e ?_
            unfold mMd at f ⊢
            rw [zm_c _ _ _ (by omega)] at f
            exact f
          · unfold mMd
            rw [zm_c _ _ _ (by omega)]
            exact i3 q i j a c e (by omega) f
          · rw [zm_c _ _ _ (by omega)]
            exact i4 p' a
    · rw [if_neg e]
      have hbt : bt (μ.1 105 36) (1 + zbn b) = true := by
        rw [e2, b_andp _ _ (by omega)] at e
        cases q : bt (μ.1 105 36) (1 + zbn b) with
        | true => rfl
        | false => exact absurd q e
      refine zw_some ⟨zf_refl _ _, fun _ _ => rfl, ?_, hl.resolve_left (by rw [hbt]; exact fun q => by cases q), fun _ _ => rfl⟩
      refine b_ext fun i hi => ?_
      rw [b_or, e2, b_n _ (by omega) i hi]
      by_cases ei : i = 1 + zbn b
      · rw [ei, hbt]
        rfl
      · simp [ei]
  rw [w_m_laysMade]
  simp only [zB_0]
  cases b with
  | false =>
    rw [if_pos rfl]
    exact main
  | true =>
    rw [if_neg (by decide)]
    exact main
/-- a letter is, or derives, a part -/
def zMo (g : zG) (s : zSn) (x m n : Nat) : Prop := (x < 26 ∧ n = m + 1 ∧ sX s m = x) ∨ (26 ≤ x ∧ zDv g s x m n)
theorem m_isMadeOf {g : zG} {s : zSn} {μ : zzM} (h : zm2 g s μ) (hg : zwg g) (hs : zws g s) (hk : mMk false g s μ) (d : Nat) {x m n : Nat} (hx : x < 52) (hm : m ≤ n) (hn : n ≤ sL s) : zw (zzf zzP zN (d + 2) 262 [.ref 105, .int (nI x), .int (nI m), .int (nI n)] μ) fun o => o.2 = μ ∧ ∃ t, o.1.1 = zB t ∧ (t = true ↔ zMo g s x m n) := by
  have hgn := g_n hg
  have hl := hs.1
  rw [u_m_isMadeOf, m_isCapital, Option.bind_some]
  simp only [zk_0, zk_1, if_true, zB_0, zq_add]
  simp (disch := omega) only [zq_le, zq_eq]
  by_cases hc : 26 ≤ x
  · rw [if_neg (by simp [hc])]
    refine zl_up (fun q (_ : Unit) => ([nI x, nI m, nI n, nI q], [], μ)) (fun q _ => ∀ q', q' < q → ¬ (gL g q' = x ∧ zM false g s q' m n)) 0 (gN g) () (by omega) (by omega) rfl (fun q' e => absurd e (by omega)) ?_ ?_
    · rintro q - g' - hq hI hgo
      have hlq := g_l hg hq
      simp only [zI0, zI1, zI2, zI3, zI4, zI5, zI6, zI7, zI8, zJ0, zJ1, zJ2, zMM]
      rw [zr_i _ _ (by omega) (by omega), d_n h, Option.bind_some, if_neg (by rw [zq_le (by omega) (by omega)]; omega), zr_i _ _ (by omega) (by omega), d_l h hq, Option.bind_some]
      simp (disch := omega) only [zq_eq]
      by_cases e : gL g q = x
      · rw [if_pos e, m_spot, Option.bind_some, zr_i _ _ (by omega) (by omega), Option.bind_some]
        simp only [zq_add]
        have hkq := hk q m n hq hm hn
        unfold mMd at hkq
        rw [show 2028 * zbn false + (169 * q + 13 * m + n) = 169 * q + 13 * m + n by show 2028 * 0 + _ = _; omega] at hkq
        by_cases e2 : μ.1 134 (169 * q + 13 * m + n) = 0
        · rw [if_pos e2]
          refine hgo () fun q' a => ?_
          by_cases eq : q' = q
          · rw [eq]; exact fun c => hkq.2 c.2 e2
          · exact hI q' (by omega)
        · rw [if_neg e2]
          exact zw_some ⟨rfl, true, rfl, fun _ => .inr ⟨hc, q, e, hkq.1 e2⟩, fun _ => rfl⟩
      · rw [if_neg e]
        simp only [zq_add]
        refine hgo () fun q' a => ?_
        by_cases eq : q' = q
        · rw [eq]; exact fun c => e c.1
        · exact hI q' (by omega)
    · rintro - g' hI
      simp only [zI0, zI1, zI2, zI3, zI4, zI5, zI6, zI7, zI8, zJ0, zJ1, zJ2, zMM]
      rw [zr_i _ _ (by omega) (by omega), d_n h, Option.bind_some, if_pos (by rw [zq_le (by omega) (by omega)]; omega)]
      refine zw_some ⟨rfl, false, rfl, fun q => (by cases q), ?_⟩
      rintro (⟨a, -⟩ | ⟨a, q, e, f⟩)
      · omega
      · exact absurd ⟨e, f⟩ (hI q (zM_lt f))
  · rw [if_pos (by simp [hc])]
    by_cases e : n = m + 1
    · have hx1 := hs.2.1 m (by omega)
      rw [if_pos e, zr_i _ _ (by omega) (by omega), d_x h (by omega), Option.bind_some]
      simp (disch := omega) only [zq_eq]
      by_cases e2 : sX s m = x
      · rw [if_pos e2]
        exact zw_some ⟨rfl, true, rfl, fun _ => .inl ⟨(by omega), e, e2⟩, fun _ => rfl⟩
      · rw [if_neg e2]
        refine zw_some ⟨rfl, false, rfl, fun q => (by cases q), ?_⟩
        rintro (⟨a, b, c⟩ | ⟨a, -⟩)
        · exact absurd c e2
        · omega
    · rw [if_neg e]
      refine zw_some ⟨rfl, false, rfl, fun q => (by cases q), ?_⟩
      rintro (⟨a, b, c⟩ | ⟨a, -⟩)
      · exact absurd b e
      · omega
