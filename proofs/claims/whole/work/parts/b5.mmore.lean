/-! MEND of the reference: rounds, and the answer -/
theorem zi169 {q i j r m n : Nat} (hj : j < 13) (hi : i < 13) (hm : m < 13) (hn : n < 13) (h : 169 * q + 13 * i + j = 169 * r + 13 * m + n) : q = r ∧ i = m ∧ j = n := by
  have e1 : q = r := by
    have h1 : (169 * q + (13 * i + j)) / 169 = q := by omega
    have h2 : (169 * r + (13 * m + n)) / 169 = r := by omega
    rw [← h1, ← h2, show 169 * q + (13 * i + j) = 169 * r + (13 * m + n) by omega]
  subst e1
  omega
def zRx (g : zG) (s : zSn) (r m n v : Nat) : Prop := zon g s r = true ∧ zRc g s (zMe g s) r m n v
def zvl (x : Int32) : Nat := x.toNatClampNeg
theorem zvl_n {n : Nat} (h : n < 2147483648) : zvl (nI n) = n := nI_clamp (by omega)
/-- the table of costs: sound, and right for parts shorter than l -/
def mCo (g : zG) (s : zSn) (l : Nat) (μ : zzM) : Prop := ∀ q i j, q < gN g → i ≤ j → j ≤ sL s → ∃ x, μ.1 148 (169 * q + 13 * i + j) = nI x ∧ x ≤ 2000000000 ∧ (x < 2000000000 → zRx g s q i j x) ∧ (j < i + l → ∀ p, zRx g s q i j p → x ≤ p)
theorem mCo_fr {g : zG} {s : zSn} {l : Nat} {μ y : zzM} {L : List Nat} (h : mCo g s l μ) (hf : zfr L μ y) (hl : L.elem 148 = false) : mCo g s l y := fun q i j a b c => by
  rw [zf_i hf hl]
  exact h q i j a b c
theorem mCo_cm {g : zG} {s : zSn} {l : Nat} {μ : zzM} (h : mCo g s l μ) {m : Nat} (hm : m + l ≤ sL s) : zCm g s 2000000000 (zTq g s μ) m (m + l) := by
  refine ⟨fun a i j p b1 b2 b3 ⟨q, c1, c2, c3, c4⟩ => ?_, fun a i j p b1 b2 b3 b4 b5 b6 => ?_⟩
  · obtain ⟨x, x1, x2, x3, -⟩ := h q i j (zon_lt c1) b2 (by omega)
    rw [x1, zq_eq (by omega) (by omega)] at c3
    rw [← c3]
    exact zMe_in c1 c2 (x3 (by omega)).2
  · obtain ⟨r, c1, c2, c3⟩ := zMe_out b6
    obtain ⟨x, x1, x2, -, x4⟩ := h r i j (zon_lt c1) b2 (by omega)
    have := x4 (by omega) p ⟨c1, c3⟩
    exact ⟨x, this, r, c1, c2, x1, by omega⟩
theorem zRx_E {g : zG} {s : zSn} {r m n v : Nat} (h : zRc g s (zMe g s) r m n v) : ∃ k, zRc g s (zEt g s m n (zXh g s m n k)) r m n v := by
  obtain ⟨k, e⟩ := zRc_h h
  exact ⟨k, zRc_mo (fun _ _ _ _ _ _ _ x => zEt_h (fun _ _ y => zXh_co y) x) e⟩
theorem m_mendsMore {g : zG} {s : zSn} {μ : zzM} (h : zm2 g s μ) (hg : zwg g) (hs : zws g s) (d : Nat) {l : Nat} (hl : l ≤ sL s) (hM : mCo g s l μ) : zw (zzf zzP zN (d + 5) 308 [.ref 105, .int (nI l)] μ) fun o => zfr [148, 149] μ o.2 ∧ ∃ b, o.1.1 = zB b ∧ mCo g s l o.2 ∧ (∀ p, zvl (o.2.1 148 p) ≤ zvl (μ.1 148 p)) ∧ (b = true → ∃ p, p < 2028 ∧ zvl (o.2.1 148 p) < zvl (μ.1 148 p)) ∧ (b = false → mCo g s (l + 1) o.2) := by
  have hgn := g_n hg
  have hsl := hs.1
  rw [w_m_mendsMore]
  let I : Nat → Nat → Bool × zzM → Prop := fun m r a => zfr [148, 149] μ a.2 ∧ mCo g s l a.2 ∧ (∀ p, zvl (a.2.1 148 p) ≤ zvl (μ.1 148 p)) ∧ (a.1 = true → ∃ p, p < 2028 ∧ zvl (a.2.1 148 p) < zvl (μ.1 148 p)) ∧ (a.1 = false → ∀ m' r', (m' < m ∨ (m' = m ∧ r' < r)) → m' + l ≤ sL s → zon g s r' = true → ∃ x v, zmn 2000000000 (zRc g s (zTq g s a.2) r' m' (m' + l)) x ∧ a.2.1 148 (169 * r' + 13 * m' + (m' + l)) = nI v ∧ v ≤ x)
  refine zl_up (fun m (a : Bool × zzM) => ([nI l, zB a.1, nI m], [], a.2)) (fun m a => I m 0 a) 0 (sL s - l + 1) (false, μ) (by omega) (by omega) rfl ⟨zf_refl _ _, hM, fun _ => Nat.le_refl _, fun q => (by cases q), fun _ m' r' q => absurd q (by omega)⟩ ?_ ?_
  · rintro m ⟨b, y⟩ ga - hm hI hgo
    unfold L308_b
    simp only [zI0, zI1, zI2, zI3, zI4, zI5, zI6, zI7, zI8, zJ0, zJ1, zJ2, zMM]
    rw [zr_i _ _ (by omega) (by omega), d_len (zm2_fr h hI.1 rfl), Option.bind_some, zq_add, if_neg (by rw [zq_lt (by omega) (by omega)]; omega)]
    refine zl_up (fun r (a : Bool × zzM) => ([nI l, zB a.1, nI m, nI r], [], a.2)) (fun r a => I m r a) 0 (gN g) (b, y) (by omega) (by omega) rfl hI ?_ ?_
    · rintro r ⟨b, y⟩ gb - hr ⟨i1, i2, i3, i4, i5⟩ hgo2
      simp only at i1 i2 i3 i4 i5
      have hy := zm2_fr h i1 rfl
      have hmn : m + l ≤ sL s := by omega
      obtain ⟨w, w1, w2, w3, w4⟩ := i2 r m (m + l) hr (by omega) hmn
      unfold L308_a
      simp only [zI0, zI1, zI2, zI3, zI4, zI5, zI6, zI7, zI8, zJ0, zJ1, zJ2, zMM]
      have ho : zzf zzP zN (d + 4) 177 [.ref 105, .int (nI r)] y = some ((zB (zon g s r), 0, 0), y) := d_on hy hg (d + 2) hr
      rw [zr_i _ _ (by omega) (by omega), d_n hy, Option.bind_some, if_neg (by rw [zq_le (by omega) (by omega)]; omega)]
      simp only [zq_add]
      rw [m_spot, Option.bind_some, ho, Option.bind_some]
      simp only [zB_0]
      -- what is found is w or x
      have fin : ∀ x z, zfr [149] y z → x ≤ 2000000000 → (zon g s r = true → zmn 2000000000 (zRc g s (zTq g s y) r m (m + l)) x) → (zon g s r = false → x = 2000000000) → zw (J308_c zN (d + 4) ga gb (nI l) (zB b) (nI m) (nI r) (nI (169 * r + 13 * m + (m + l))) (nI x) z) fun o => zfr [148, 149] μ o.2 ∧ ∃ b, o.1.1 = zB b ∧ mCo g s l o.2 ∧ (∀ p, zvl (o.2.1 148 p) ≤ zvl (μ.1 148 p)) ∧ (b = true → ∃ p, p < 2028 ∧ zvl (o.2.1 148 p) < zvl (μ.1 148 p)) ∧ (b = false → mCo g s (l + 1) o.2) := by
        intro x z hf hx hon hoff
        have hz148 : z.1 148 = y.1 148 := zf_i hf rfl
        have w1z : z.1 148 (169 * r + 13 * m + (m + l)) = nI w := by rw [hz148]; exact w1
        have hTz : zTq g s z = zTq g s y := zTq_fr hf rfl
        have hfz := zf_trans i1 (zf_mono (L' := [148, 149]) hf rfl)
        have keep : w ≤ x → zw (J308_b zN (d + 4) ga gb (nI l) (zB b) (nI m) (nI r) (nI (169 * r + 13 * m + (m + l))) (nI x) (zB b) z) fun o => zfr [148, 149] μ o.2 ∧ ∃ b, o.1.1 = zB b ∧ mCo g s l o.2 ∧ (∀ p, zvl (o.2.1 148 p) ≤ zvl (μ.1 148 p)) ∧ (b = true → ∃ p, p < 2028 ∧ zvl (o.2.1 148 p) < zvl (μ.1 148 p)) ∧ (b = false → mCo g s (l + 1) o.2) := by
          intro hle
          unfold J308_b
          rw [zr_i _ _ (by omega) (by omega), w1z, Option.bind_some, if_pos (by rw [zq_le (by omega) (by omega)]; omega), Option.bind_some]
          unfold J308_a
          rw [zs_i _ _ _ (by omega) (by omega), Option.bind_some, zm_id w1z, zq_add]
          refine hgo2 (b, z) ⟨hfz, mCo_fr i2 hf rfl, fun p => by simp only; rw [hz148]; exact i3 p, fun q => by simp only; rw [hz148]; exact i4 q, fun q m' r' a b c => ?_⟩
          simp only
          rw [hTz, hz148]
          by_cases er : m' = m ∧ r' = r
          · obtain ⟨rfl, rfl⟩ := er
            exact ⟨x, w, hon c, w1, hle⟩
          · exact i5 q m' r' (by omega) b c
        have less : ¬ w ≤ x → zw (J308_b zN (d + 4) ga gb (nI l) (zB b) (nI m) (nI r) (nI (169 * r + 13 * m + (m + l))) (nI x) (nI 1) z) fun o => zfr [148, 149] μ o.2 ∧ ∃ b, o.1.1 = zB b ∧ mCo g s l o.2 ∧ (∀ p, zvl (o.2.1 148 p) ≤ zvl (μ.1 148 p)) ∧ (b = true → ∃ p, p < 2028 ∧ zvl (o.2.1 148 p) < zvl (μ.1 148 p)) ∧ (b = false → mCo g s (l + 1) o.2) := by
          intro hgt
          unfold J308_b
          rw [zr_i _ _ (by omega) (by omega), w1z, Option.bind_some, if_neg (by rw [zq_le (by omega) (by omega)]; omega)]
          unfold J308_a
          rw [zs_i _ _ _ (by omega) (by omega), Option.bind_some, zq_add]
          have hc : zon g s r = true := by
            cases q : zon g s r with
            | true => rfl
            | false =>
              have := hoff q
              omega
          have hsnd : zRx g s r m (m + l) x := ⟨hc, zCm_so (mCo_cm i2 hmn) (hon hc) (by omega)⟩
          have hwl : ∀ p, zvl ((zzwI z 148 (169 * r + 13 * m + (m + l)) (nI x)).1 148 p) ≤ zvl (y.1 148 p) := fun p => by
            rw [zm_if]
            by_cases e : p = 169 * r + 13 * m + (m + l)
            · rw [if_pos e, e, w1, zvl_n (by omega), zvl_n (by omega)]
              omega
            · rw [if_neg e, hz148]
              exact Nat.le_refl _
          refine hgo2 (true, zzwI z 148 (169 * r + 13 * m + (m + l)) (nI x)) ⟨zf_twI _ _ hfz rfl, fun q i j a b c => ?_, fun p => Nat.le_trans (hwl p) (i3 p), fun _ => ⟨169 * r + 13 * m + (m + l), by omega, ?_⟩, fun q => (by cases q)⟩
          · simp only
            by_cases e : q = r ∧ i = m ∧ j = m + l
            · obtain ⟨rfl, rfl, rfl⟩ := e
              exact ⟨x, zm_s _ _ _ _, hx, fun _ => hsnd, fun f => absurd f (by omega)⟩
            · obtain ⟨u, u1, u2⟩ := i2 q i j a b c
              refine ⟨u, (zm_k _ _ _ _ (fun e' => e (zi169 (by omega) (by omega) (by omega) (by omega) e'))).trans ?_, u2⟩
              rw [hz148]
              exact u1
          · have := i3 (169 * r + 13 * m + (m + l))
            rw [w1, zvl_n (by omega)] at this
            simp only
            rw [zm_s, zvl_n (by omega)]
            omega
        unfold J308_c
        simp only [zB_0]
        cases b with
        | false =>
          rw [if_pos rfl, zr_i _ _ (by omega) (by omega), w1z, Option.bind_some]
          by_cases e : w ≤ x
          · rw [if_pos (by rw [zq_le (by omega) (by omega)]; omega)]
            exact keep e
          · rw [if_neg (by rw [zq_le (by omega) (by omega)]; omega)]
            exact less e
        | true =>
          rw [if_neg (by decide)]
          by_cases e : w ≤ x
          · exact keep e
          · exact less e
      cases eo : zon g s r with
      | false =>
        rw [if_pos rfl]
        exact fin 2000000000 y (zf_refl _ _) (Nat.le_refl _) (fun q => by rw [eo] at q; cases q) fun _ => rfl
      | true =>
        rw [if_neg (by decide)]
        obtain ⟨o, a1, a2, x, a3, a4⟩ := m_mendsBy hy hg hs d hr (show m ≤ m + l by omega) hmn (fun q i j a b c => by
          obtain ⟨u, u1, u2, -⟩ := i2 q i j a b c
          exact ⟨u, u1, u2⟩)
        rw [a1, Option.bind_some, a3]
        exact fin x o.2 a2 a4.1 (fun _ => a4) fun q => by rw [eo] at q; cases q
    · rintro ⟨b, y⟩ gb ⟨i1, i2, i3, i4, i5⟩
      simp only at i1 i2 i3 i4 i5
      unfold L308_a
      simp only [zI0, zI1, zI2, zI3, zI4, zI5, zI6, zI7, zI8, zJ0, zJ1, zJ2, zMM]
      rw [zr_i _ _ (by omega) (by omega), d_n (zm2_fr h i1 rfl), Option.bind_some, if_pos (by rw [zq_le (by omega) (by omega)]; omega), zq_add]
      refine hgo (b, y) ⟨i1, i2, i3, i4, fun q m' r' a b c => i5 q m' r' ?_ b c⟩
      have := zon_lt c
      omega
  · rintro ⟨b, y⟩ ga ⟨i1, i2, i3, i4, i5⟩
    simp only at i1 i2 i3 i4 i5
    unfold L308_b
    simp only [zI0, zI1, zI2, zI3, zI4, zI5, zI6, zI7, zI8, zJ0, zJ1, zJ2, zMM]
    rw [zr_i _ _ (by omega) (by omega), d_len (zm2_fr h i1 rfl), Option.bind_some, zq_add, if_pos (by rw [zq_lt (by omega) (by omega)]; omega)]
    simp only [zB_ok, if_true]
    refine zw_some ⟨i1, b, rfl, i2, i3, i4, fun q r i j a1 a2 a3 => ?_⟩
    obtain ⟨x, x1, x2, x3, x4⟩ := i2 r i j a1 a2 a3
    refine ⟨x, x1, x2, x3, fun e p hp => ?_⟩
    by_cases ej : j < i + l
    · exact x4 ej p hp
    · obtain rfl : j = i + l := by omega
      have hcm := mCo_cm i2 a3
      have hall := zCr_fix hcm fun r' c b1 b2 => by
        obtain ⟨u, v, u1, u2, u3⟩ := i5 q i r' (by omega) a3 b1
        have hu := u1.1
        exact ⟨u, u1, fun p' f1 f2 => ⟨v, by omega, r', b1, b2, u2, by omega⟩⟩
      obtain ⟨u, v, u1, u2, u3⟩ := i5 q i r (by omega) a3 hp.1
      have hu := u1.1
      obtain ⟨k, ek⟩ := zRx_E hp.2
      have := zCm_co hcm (hall k) u1 ek
      rw [x1, zq_eq (by omega) (by omega)] at u2
      omega
theorem m_mend {g : zG} {s : zSn} {μ : zzM} (h : zm2 g s μ) (hg : zwg g) (hs : zws g s) (hn : 0 < gN g) (d : Nat) : zw (zzf zzP zN (d + 6) 309 [.ref 105] μ) fun o => zfr [148, 149] μ o.2 ∧ ∃ x, zmn 2000000000 (zMe g s (gL g 0 - 26) 0 (sL s)) x ∧ o.1.1 = if x < 2000000000 then nI x else -(nI 2) := by
  have hgn := g_n hg
  have hsl := hs.1
  obtain ⟨hl1, hl2⟩ := g_l hg hn
  rw [w_m_mend]
  have h1 : zzf zzP zN (d + 5) 175 [.ref 105] μ = some ((nI 1, 0, 0), μ) := by
    rw [m_isGrammar, d_n h, show decide (0 < nI (gN g)) = true from decide_eq_true (by rw [zq_0lt (by omega)]; exact hn)]
    rfl
  rw [h1, Option.bind_some, if_neg (show ¬ (nI 1 : Int32) = 0 by decide)]
  refine zl_up (fun i (y : zzM) => ([nI i], [], y)) (fun i y => zfr [148, 149] μ y ∧ ∀ p, p < i → y.1 148 p = nI 2000000000) 0 2028 μ (by omega) (by omega) rfl ⟨zf_refl _ _, fun p a => absurd a (by omega)⟩ ?_ ?_
  · rintro i y ga - hi ⟨i1, i2⟩ hgo
    unfold L309_d
    simp only [zI0, zI1, zI2, zI3, zI4, zI5, zI6, zI7, zI8, zJ0, zJ1, zJ2, zMM]
    rw [if_neg (by rw [zq_le (by omega) (by omega)]; omega), zs_i _ _ _ hi (by omega), Option.bind_some, zq_add]
    refine hgo _ ⟨zf_twI _ _ i1 rfl, fun p hp => ?_⟩
    rw [zm_if]
    by_cases ep : p = i
    · rw [if_pos ep]
    · rw [if_neg ep]
      exact i2 p (by omega)
  · rintro y ga ⟨i1, i2⟩
    unfold L309_d
    simp only [zI0, zI1, zI2, zI3, zI4, zI5, zI6, zI7, zI8, zJ0, zJ1, zJ2, zMM]
    rw [if_pos (by rw [zq_le (by omega) (by omega)]; omega)]
    refine zl_up (fun l (y : zzM) => ([nI l], [], y)) (fun l y => zfr [148, 149] μ y ∧ mCo g s l y ∧ ∀ p, zvl (y.1 148 p) ≤ zvl (nI 2000000000) ∨ 2028 ≤ p) 0 (sL s + 1) y (by omega) (by omega) rfl ⟨i1, fun q i j a b c => ⟨2000000000, i2 _ (by omega), Nat.le_refl _, fun f => absurd f (Nat.lt_irrefl _), fun f => absurd f (by omega)⟩, fun p => by
      by_cases e : p < 2028
      · rw [i2 p e]
        exact .inl (Nat.le_refl _)
      · exact .inr (by omega)⟩ ?_ ?_
    · rintro l y gb - hl ⟨j1, j2, j3⟩ hgo
      unfold L309_c
      simp only [zI0, zI1, zI2, zI3, zI4, zI5, zI6, zI7, zI8, zJ0, zJ1, zJ2, zMM]
      rw [zr_i _ _ (by omega) (by omega), d_len (zm2_fr h j1 rfl), Option.bind_some, if_neg (by rw [zq_lt (by omega) (by omega)]; omega)]
      have htot : zsuM (fun p => zvl (y.1 148 p)) 2028 ≤ 2028 * 2000000000 := zsuM_mul fun p hp => by
        rcases j3 p with q | q
        · rwa [zvl_n (by omega)] at q
        · omega
      refine zl_ms (fun a : Bool × zzM => ([nI l, zB a.1], [], a.2)) (fun t a => zfr [148, 149] μ a.2 ∧ mCo g s l a.2 ∧ (∀ p, zvl (a.2.1 148 p) ≤ zvl (nI 2000000000) ∨ 2028 ≤ p) ∧ t = 2 * zsuM (fun p => zvl (a.2.1 148 p)) 2028 + (if a.1 = true then 1 else 0) ∧ (a.1 = false → mCo g s (l + 1) a.2)) (2 * zsuM (fun p => zvl (y.1 148 p)) 2028 + 1) (true, y) (by omega) rfl ⟨j1, j2, j3, rfl, fun q => (by cases q)⟩ ?_
      rintro t ⟨b, z⟩ gc ⟨k1, k2, k3, ht, k4⟩ hgo2
      simp only at k1 k2 k3 ht k4
      unfold L309_b
      simp only [zI0, zI1, zI2, zI3, zI4, zI5, zI6, zI7, zI8, zJ0, zJ1, zJ2, zMM]
      simp only [zB_0]
      cases b with
      | false =>
        rw [if_pos rfl, zq_add]
        exact hgo z ⟨k1, k4 rfl, k3⟩
      | true =>
        rw [if_neg (by decide)]
        obtain ⟨o, a1, a2, b', a3, a4, a5, a6, a7⟩ := m_mendsMore (zm2_fr h k1 rfl) hg hs d (show l ≤ sL s by omega) k2
        rw [a1, Option.bind_some, a3]
        refine hgo2 (2 * zsuM (fun p => zvl (o.2.1 148 p)) 2028 + (if b' = true then 1 else 0)) (b', o.2) ?_ ⟨zf_trans k1 a2, a4, fun p => ?_, rfl, a7⟩
        · rw [if_pos rfl] at ht
          cases b' with
          | true =>
            obtain ⟨p, c1, c2⟩ := a6 rfl
            have := zsuM_lt (f := fun p => zvl (o.2.1 148 p)) (g := fun p => zvl (z.1 148 p)) (n := 2028) (fun p _ => a5 p) ⟨p, c1, c2⟩
            rw [if_pos rfl]
            omega
          | false =>
            have := zsuM_le (f := fun p => zvl (o.2.1 148 p)) (g := fun p => zvl (z.1 148 p)) (n := 2028) fun p _ => a5 p
            rw [if_neg (by decide)]
            omega
        · rcases k3 p with q | q
          · exact .inl (Nat.le_trans (a5 p) q)
          · exact .inr q
    · rintro y gb ⟨j1, j2, j3⟩
      have hy := zm2_fr h j1 rfl
      unfold L309_c
      simp only [zI0, zI1, zI2, zI3, zI4, zI5, zI6, zI7, zI8, zJ0, zJ1, zJ2, zMM]
      rw [zr_i _ _ (by omega) (by omega), d_len hy, Option.bind_some, if_pos (by rw [zq_lt (by omega) (by omega)]; omega)]
      let A : Nat → Nat → Prop := fun Q p => ∃ q, q < Q ∧ gL g q = gL g 0 ∧ zRx g s q 0 (sL s) p
      refine zl_up (fun q (x : Nat) => ([nI x, nI q], [], y)) (fun q x => zmn 2000000000 (A q) x) 0 (gN g) 2000000000 (by omega) (by omega) rfl (zmn_C fun p ⟨q, b, _⟩ => absurd b (by omega)) ?_ ?_
      · rintro q x gc - hq hx hgo
        have hx1 := hx.1
        obtain ⟨hq1, hq2⟩ := g_l hg hq
        unfold L309_a
        simp only [zI0, zI1, zI2, zI3, zI4, zI5, zI6, zI7, zI8, zJ0, zJ1, zJ2, zMM]
        have ho : zzf zzP zN (d + 5) 177 [.ref 105, .int (nI q)] y = some ((zB (zon g s q), 0, 0), y) := d_on hy hg (d + 3) hq
        rw [zr_i _ _ (by omega) (by omega), d_n hy, Option.bind_some, if_neg (by rw [zq_le (by omega) (by omega)]; omega), ho, Option.bind_some]
        simp only [zB_0]
        have keep : (¬ (zon g s q = true ∧ gL g q = gL g 0)) → zw (J309_b zN (d + 5) ga gb gc (nI x) (nI q) y) fun o => zfr [148, 149] μ o.2 ∧ ∃ x, zmn 2000000000 (zMe g s (gL g 0 - 26) 0 (sL s)) x ∧ o.1.1 = if x < 2000000000 then nI x else -(nI 2) := by
          intro hno
          unfold J309_b J309_a
          rw [if_pos (by rw [zq_le (by omega) (by omega)]; omega), zq_add]
          refine hgo x (zmn_cg (fun p => ⟨fun ⟨q', b1, b2⟩ => ⟨q', by omega, b2⟩, fun ⟨q', b1, b2, b3⟩ => ⟨q', ?_, b2, b3⟩⟩) hx)
          apply Nat.lt_of_not_le
          intro f
          obtain rfl : q' = q := by omega
          exact hno ⟨b3.1, b2⟩
        cases eo : zon g s q with
        | false =>
          rw [if_pos rfl]
          exact keep fun f => by rw [eo] at f; cases f.1
        | true =>
          rw [if_neg (by decide), zr_i _ _ (by omega) (by omega), d_l hy hq, Option.bind_some, zr_i _ _ (by omega) (by omega), d_start hy hn, Option.bind_some]
          simp (disch := omega) only [zq_eq]
          by_cases el : gL g q = gL g 0
          · obtain ⟨w, w1, w2, w3, w4⟩ := j2 q 0 (sL s) hq (Nat.zero_le _) (Nat.le_refl _)
            have hs0 : zzf zzP zN (d + 5) 252 [.int (nI q), .int (nI 0), .int (nI (sL s))] y = some ((nI (169 * q + 13 * 0 + sL s), 0, 0), y) := m_spot (d + 4) q 0 (sL s) y
            rw [if_pos el, zr_i _ _ (by omega) (by omega), d_len hy, Option.bind_some, hs0, Option.bind_some, zr_i _ _ (by omega) (by omega), w1, Option.bind_some]
            unfold J309_a
            have hB : zmn 2000000000 (zRx g s q 0 (sL s)) w := ⟨w2, w3, w4 (by omega)⟩
            have hnn := zmn_or (A' := A (q + 1)) hx hB fun p => ⟨fun ⟨q', b1, b2, b3⟩ => by
              by_cases eq : q' = q
              · rw [eq] at b3
                exact .inr b3
              · exact .inl ⟨q', by omega, b2, b3⟩, fun f => f.elim (fun ⟨q', b1, b2⟩ => ⟨q', by omega, b2⟩) fun b4 => ⟨q, by omega, el, b4⟩⟩
            by_cases ex : x ≤ w
            · rw [if_pos (by rw [zq_le (by omega) (by omega)]; omega), zq_add]
              rw [if_pos ex] at hnn
              exact hgo x hnn
            · rw [if_neg (by rw [zq_le (by omega) (by omega)]; omega), zq_add]
              rw [if_neg ex] at hnn
              exact hgo w hnn
          · rw [if_neg el]
            exact keep fun f => el f.2
      · rintro x gc hx
        have hx1 := hx.1
        unfold L309_a
        simp only [zI0, zI1, zI2, zI3, zI4, zI5, zI6, zI7, zI8, zJ0, zJ1, zJ2, zMM]
        rw [zr_i _ _ (by omega) (by omega), d_n hy, Option.bind_some, if_pos (by rw [zq_le (by omega) (by omega)]; omega)]
        have hfin : zmn 2000000000 (zMe g s (gL g 0 - 26) 0 (sL s)) x := zmn_cg (fun p => ⟨fun ⟨q, b1, b2, b3⟩ => zMe_in b3.1 (by omega) b3.2, fun f => by
          obtain ⟨q, b1, b2, b3⟩ := zMe_out f
          exact ⟨q, zon_lt b1, by omega, b1, b3⟩⟩) hx
        by_cases e : x < 2000000000
        · rw [if_pos (by rw [zq_lt (by omega) (by omega)]; omega)]
          exact zw_some ⟨j1, x, hfin, by rw [if_pos e]⟩
        · rw [if_neg (by rw [zq_lt (by omega) (by omega)]; omega)]
          exact zw_some ⟨j1, x, hfin, by rw [if_neg e]⟩
/-- both answer alike -/
theorem zmend_eq {g : zG} {s : zSn} (hg : zwg g) (hs : zws g s) {c x y : Nat} (hx : zmn 268435456 (zMe g s c 0 (sL s)) x) (hy : zmn 2000000000 (zMe g s c 0 (sL s)) y) : (if x < 268435456 then nI x else -(nI 2)) = if y < 2000000000 then nI y else -(nI 2) := by
  rcases zmn_2 (by omega) (by omega) hx hy (fun v hv => zMe_b hg (Nat.zero_le _) hs.1 hv) with ⟨a, b, c⟩ | ⟨a, b⟩
  · rw [if_pos a, if_pos b, c]
  · rw [if_neg (by omega), if_neg (by omega)]
