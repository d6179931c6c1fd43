/-! TREES of the reference: what is endless below, ways with an endless part, numbers below, sums over ways, what is below over the same part -/
def mEn (μ : zzM) (q i j : Nat) : Prop := ¬ μ.1 138 (169 * q + 13 * i + j) = 0
theorem mMk_w {g : zG} {s : zSn} {μ : zzM} (hk : mMk true g s μ) {r k i j : Nat} (hi : i ≤ j) (hj : j ≤ sL s) : zCB true g s (mMd true μ) r k i j ↔ zw1 g s r k i j := ⟨zCB_mo' fun q hq e => (hk q i j hq hi hj).1 e, zCB_mo' fun q hq e => (hk q i j hq hi hj).2 e⟩
theorem m_endBelow {g : zG} {s : zSn} {μ : zzM} (h : zm2 g s μ) (hg : zwg g) (hs : zws g s) (d : Nat) {r k i j : Nat} (hr : r < gN g) (hk : k < gZ g r) (hi : i ≤ j) (hj : j ≤ sL s) : zw (zzf zzP zN (d + 4) 276 [.ref 105, .int (nI r), .int (nI k), .int (nI i), .int (nI j)] μ) fun o => o.2 = μ ∧ ∃ t, o.1.1 = zB t ∧ (t = true ↔ ∃ q, zbl true g s r k q = true ∧ mEn μ q i j) := by
  have hgn := g_n hg
  have hsl := hs.1
  rw [w_m_isEndlessBelow]
  refine zl_up (fun q (_ : Unit) => ([nI r, nI k, nI i, nI j, nI q], [], μ)) (fun q _ => ∀ q', q' < q → ¬ (zbl true g s r k q' = true ∧ mEn μ q' i j)) 0 (gN g) () (by omega) (by omega) rfl (fun q' e => absurd e (by omega)) ?_ ?_
  · rintro q - ga - hq hI hgo
    unfold L276_a
    simp only [zI0, zI1, zI2, zI3, zI4, zI5, zI6, zI7, zI8, zJ0, zJ1, zJ2, zMM]
    rw [zr_i _ _ (by omega) (by omega), d_n h, Option.bind_some, if_neg (by rw [zq_le (by omega) (by omega)]; omega), m_spot, Option.bind_some, zr_i _ _ (by omega) (by omega), Option.bind_some]
    simp only [zk_0, zk_1, if_true, zq_add]
    have no : ¬ (zbl true g s r k q = true ∧ mEn μ q i j) → ∀ q', q' < q + 1 → ¬ (zbl true g s r k q' = true ∧ mEn μ q' i j) := fun e q' a => by
      by_cases eq : q' = q
      · rw [eq]; exact e
      · exact hI q' (by omega)
    by_cases e : μ.1 138 (169 * q + 13 * i + j) = 0
    · rw [if_pos e]
      exact hgo () (no fun f => f.2 e)
    · rw [if_neg e, m_capAt h hg _ hr hk, Option.bind_some]
      simp only [zB_0]
      by_cases hc : 26 ≤ gS g r k
      · have hb := m_isBelow h hg hs d true hr hk hq
        have hb : zzf zzP zN (d + 3) 253 [.ref 105, .int (nI 1), .int (nI r), .int (nI k), .int (nI q)] μ = _ := hb
        rw [if_neg (by simp [hc]), hb, Option.bind_some]
        simp only [zB_0]
        cases hbl : zbl true g s r k q with
        | false =>
          rw [if_pos rfl]
          exact hgo () (no fun f => by rw [hbl] at f; cases f.1)
        | true =>
          rw [if_neg (by decide)]
          exact zw_some ⟨rfl, true, rfl, fun _ => ⟨q, hbl, e⟩, fun _ => rfl⟩
      · rw [if_pos (by simp [hc])]
        exact hgo () (no fun f => hc (zbl_cap hg f.1))
  · rintro - ga hI
    unfold L276_a
    simp only [zI0, zI1, zI2, zI3, zI4, zI5, zI6, zI7, zI8, zJ0, zJ1, zJ2, zMM]
    rw [zr_i _ _ (by omega) (by omega), d_n h, Option.bind_some, if_pos (by rw [zq_le (by omega) (by omega)]; omega)]
    simp only [zk_0, if_true]
    refine zw_some ⟨rfl, false, rfl, fun e => (by cases e), fun ⟨q, a, b⟩ => absurd ⟨a, b⟩ (hI q (zon_lt (zbl_on a)))⟩
theorem m_hasEnd {g : zG} {s : zSn} {μ : zzM} (h : zm2 g s μ) (hg : zwg g) (hs : zws g s) (hk : mMk true g s μ) (d : Nat) {r m n : Nat} (hr : r < gN g) (hm : m ≤ n) (hn : n ≤ sL s) : zw (zzf zzP zN (d + 6) 277 [.ref 105, .int (nI r), .int (nI m), .int (nI n)] μ) fun o => zfr [135, 141] μ o.2 ∧ ∃ t, o.1.1 = zB t ∧ (t = true ↔ zPx (zw1 g s r) (fun k i j => ∃ q, zbl true g s r k q = true ∧ mEn μ q i j) m (gZ g r) n) := by
  have hgn := g_n hg
  have hz := g_z hg hr
  have hsl := hs.1
  rw [w_m_hasEndless]
  obtain ⟨o, e1, e2, e3⟩ := m_ahead h hg hs d true hr hm hn
  have e1 : zzf zzP zN (d + 5) 257 [.ref 105, .int (nI 1), .int (nI r), .int (nI m), .int (nI n)] μ = some o := e1
  rw [e1, Option.bind_some]
  have hA : ∀ k j, k ≤ gZ g r → m ≤ j → j ≤ n → ∃ t, o.2.1 135 (13 * k + j) = zB t ∧ (t = true ↔ zPa (zw1 g s r) k m j) := fun k j a b c => by
    obtain ⟨t, f1, f2⟩ := e3 k j a b c
    exact ⟨t, f1, f2.trans ⟨zPa_mo fun k' i' j' _ a' b' c' f => (mMk_w hk b' (by omega)).1 f, zPa_mo fun k' i' j' _ a' b' c' f => (mMk_w hk b' (by omega)).2 f⟩⟩
  generalize hx : (fun k i j => ∃ q, zbl true g s r k q = true ∧ mEn μ q i j) = X
  generalize hw : zw1 g s r = w at hA ⊢
  refine zl_up (fun j (y : zzM) => ([nI r, nI m, nI n, nI j], [], y)) (fun j y => zfr [141] o.2 y ∧ ∀ j', m ≤ j' → j' < j → y.1 141 j' = nI 0) m (n + 1) o.2 (by omega) (by omega) rfl ⟨zf_refl _ _, fun j' a b => absurd b (by omega)⟩ ?_ ?_
  · rintro j y ga hj hjn ⟨i1, i2⟩ hgo
    unfold L277_d
    simp only [zI0, zI1, zI2, zI3, zI4, zI5, zI6, zI7, zI8, zJ0, zJ1, zJ2, zMM]
    rw [if_neg (by rw [zq_lt (by omega) (by omega)]; omega)]
    simp only [zk_0, if_true]
    rw [zs_i _ _ _ (by omega) (by omega), Option.bind_some, zq_add]
    refine hgo _ ⟨zf_twI _ _ i1 rfl, fun j' a b => ?_⟩
    rw [zm_if]
    split
    · rfl
    · exact i2 j' a (by omega)
  · rintro y ga ⟨i1, i2⟩
    unfold L277_d
    simp only [zI0, zI1, zI2, zI3, zI4, zI5, zI6, zI7, zI8, zJ0, zJ1, zJ2, zMM]
    rw [if_pos (by rw [zq_lt (by omega) (by omega)]; omega)]
    refine zl_up (fun k (y : zzM) => ([nI r, nI m, nI n, nI k], [], y)) (fun k y => zfr [141] o.2 y ∧ ∀ k' j, k' < k → m ≤ j → j ≤ n → ∃ t, y.1 141 (13 * k' + j) = zB t ∧ (t = true ↔ zPx w X m k' j)) 1 (gZ g r + 1) y (by omega) (by omega) rfl ⟨i1, fun k' j a b c => ?_⟩ ?_ ?_
    · have : k' = 0 := by omega
      subst this
      refine ⟨false, ?_, fun e => (by cases e), fun e => e.elim⟩
      rw [show 13 * 0 + j = j by omega]
      exact i2 j b (by omega)
    · rintro k y gb hk1 hkz ⟨hf, hI⟩ hgo
      have hy := zm2_fr h (zf_trans (zf_mono (L' := [135, 141]) e2 rfl) (zf_mono hf rfl)) rfl
      unfold L277_c
      simp only [zI0, zI1, zI2, zI3, zI4, zI5, zI6, zI7, zI8, zJ0, zJ1, zJ2, zMM]
      rw [zr_i _ _ (by omega) (by omega), d_z hy hr, Option.bind_some, if_neg (by rw [zq_lt (by omega) (by omega)]; omega)]
      obtain ⟨k1, rfl⟩ : ∃ k1, k = k1 + 1 := ⟨k - 1, by omega⟩
      refine zl_up (fun j (y : zzM) => ([nI r, nI m, nI n, nI (k1 + 1), nI j], [], y)) (fun j y => zfr [141] o.2 y ∧ ∀ k' j', (k' < k1 + 1 ∨ (k' = k1 + 1 ∧ j' < j)) → m ≤ j' → j' ≤ n → ∃ t, y.1 141 (13 * k' + j') = zB t ∧ (t = true ↔ zPx w X m k' j')) m (n + 1) y (by omega) (by omega) rfl ⟨hf, fun k' j a c e => hI k' j (by omega) c e⟩ ?_ ?_
      · rintro j y gc hj hjn ⟨hf, hI⟩ hgo2
        have hfm : zfr [135, 141] μ y := zf_trans (zf_mono e2 rfl) (zf_mono hf rfl)
        have hy := zm2_fr h hfm rfl
        have hky := mMk_fr hk hfm rfl
        have hey : ∀ q i j, mEn y q i j ↔ mEn μ q i j := fun q i j => by unfold mEn; rw [zf_i hfm rfl]
        have fin : ∀ gd i x, (x = true ↔ zPx w X m (k1 + 1) j) → zw (J277_a zN (d + 5) ga gb gc gd (nI r) (nI m) (nI n) (nI (k1 + 1)) (nI j) (zB x) (nI i) y) fun o => zfr [135, 141] μ o.2 ∧ ∃ t, o.1.1 = zB t ∧ (t = true ↔ zPx w X m (gZ g r) n) := by
          intro gd i x hx
          unfold J277_a
          simp only [zB_ok, if_true, zq_mul, zq_add]
          rw [zs_i _ _ _ (by omega) (by omega), Option.bind_some]
          refine hgo2 _ ⟨zf_twI _ _ hf rfl, fun k' j' a c e => ?_⟩
          by_cases ek : k' = k1 + 1 ∧ j' = j
          · obtain ⟨rfl, rfl⟩ := ek
            exact ⟨x, zm_s _ _ _ _, hx⟩
          · rw [zm_k _ _ _ _ (by omega)]
            exact hI k' j' (by omega) c e
        unfold L277_b
        simp only [zI0, zI1, zI2, zI3, zI4, zI5, zI6, zI7, zI8, zJ0, zJ1, zJ2, zMM]
        rw [if_neg (by rw [zq_lt (by omega) (by omega)]; omega)]
        refine zl_up (fun i (x : Bool) => ([nI r, nI m, nI n, nI (k1 + 1), nI j, zB x, nI i], [], y)) (fun i x => (x = true → zPx w X m (k1 + 1) j) ∧ (x = false → ∀ i', m ≤ i' → i' < i → ¬ ((zPx w X m k1 i' ∧ w k1 i' j) ∨ (zPa w k1 m i' ∧ X k1 i' j)))) m (j + 1) false (by omega) (by omega) rfl ⟨fun e => (by cases e), fun _ i' a b => absurd b (by omega)⟩ ?_ ?_
        · rintro i x gd hi hij ⟨h1, h2⟩ hgo3
          unfold L277_a
          simp only [zI0, zI1, zI2, zI3, zI4, zI5, zI6, zI7, zI8, zJ0, zJ1, zJ2, zMM]
          rw [if_neg (by rw [zq_lt (by omega) (by omega)]; omega)]
          simp only [zB_0, zq_sub (show 1 ≤ k1 + 1 by omega), Nat.add_sub_cancel, zq_mul, zq_add]
          cases x with
          | true =>
            rw [if_neg (by decide)]
            exact fin gd i true ⟨h1, fun _ => rfl⟩
          | false =>
            have h4 := h2 rfl
            have nx : ∀ t : Bool, (t = true ↔ (zPx w X m k1 i ∧ w k1 i j) ∨ (zPa w k1 m i ∧ X k1 i j)) → zw (gd ([nI r, nI m, nI n, nI (k1 + 1), nI j, zB t, nI (i + 1)], [], y)) fun o => zfr [135, 141] μ o.2 ∧ ∃ t, o.1.1 = zB t ∧ (t = true ↔ zPx w X m (gZ g r) n) := by
              intro t ht
              cases t with
              | true => exact hgo3 true ⟨fun _ => ⟨i, hi, by omega, ht.1 rfl⟩, fun e => (by cases e)⟩
              | false =>
                refine hgo3 false ⟨fun e => (by cases e), fun _ i' a b => ?_⟩
                by_cases ei : i' = i
                · rw [ei]
                  exact fun q => by have := ht.2 q; cases this
                · exact h4 i' a (by omega)
            have second : ¬ (zPx w X m k1 i ∧ w k1 i j) → zw (J277_b zN (d + 5) ga gb gc gd (nI r) (nI m) (nI n) (nI (k1 + 1)) (nI j) (zB false) (nI i) y) fun o => zfr [135, 141] μ o.2 ∧ ∃ t, o.1.1 = zB t ∧ (t = true ↔ zPx w X m (gZ g r) n) := by
              intro hn1
              unfold J277_b
              simp only [zq_sub (show 1 ≤ k1 + 1 by omega), Nat.add_sub_cancel, zq_mul, zq_add]
              obtain ⟨t, f1, f2⟩ := hA k1 i (by omega) hi (by omega)
              rw [zr_i _ _ (by omega) (by omega), Option.bind_some, zf_i hf rfl, f1]
              simp only [zB_0]
              cases t with
              | false =>
                rw [if_pos rfl]
                exact nx false ⟨fun e => (by cases e), fun e => e.elim (fun e => absurd e hn1) (fun e => by have := f2.2 e.1; cases this)⟩
              | true =>
                rw [if_neg (by decide)]
                obtain ⟨o1, g1, g2, t', g3, g4⟩ := m_endBelow hy hg hs (d + 1) hr (show k1 < gZ g r by omega) (show i ≤ j by omega) (show j ≤ sL s by omega)
                rw [g1, Option.bind_some, g2, g3]
                simp only [zB_0]
                have g5 : t' = true ↔ X k1 i j := by
                  rw [g4, ← hx]
                  exact ⟨fun ⟨q, a, b⟩ => ⟨q, a, (hey q i j).1 b⟩, fun ⟨q, a, b⟩ => ⟨q, a, (hey q i j).2 b⟩⟩
                cases t' with
                | false =>
                  rw [if_pos rfl]
                  exact nx false ⟨fun e => (by cases e), fun e => e.elim (fun e => absurd e hn1) (fun e => by have := g5.2 e.2; cases this)⟩
                | true =>
                  rw [if_neg (by decide)]
                  exact nx true ⟨fun _ => .inr ⟨f2.1 rfl, g5.1 rfl⟩, fun _ => rfl⟩
            rw [if_pos rfl, zr_i _ _ (by omega) (by omega), Option.bind_some]
            obtain ⟨t, f1, f2⟩ := hI k1 i (by omega) hi (by omega)
            rw [f1]
            simp only [zB_0]
            cases t with
            | false =>
              rw [if_pos rfl]
              exact second fun e => by have := f2.2 e.1; cases this
            | true =>
              rw [if_neg (by decide)]
              obtain ⟨o1, g1, g2, t', g3, g4⟩ := m_canBe hy hg hs (d + 1) true hr (show k1 < gZ g r by omega) (show i ≤ j by omega) (show j ≤ sL s by omega)
              have g1 : zzf zzP zN (d + 5) 256 [.ref 105, .int (nI 1), .int (nI r), .int (nI k1), .int (nI i), .int (nI j)] y = some o1 := g1
              rw [g1, Option.bind_some, g2, g3]
              rw [mMk_w hky (by omega) (by omega), hw] at g4
              simp only [zB_0]
              cases t' with
              | false =>
                rw [if_pos rfl]
                exact second fun e => by have := g4.2 e.2; cases this
              | true =>
                rw [if_neg (by decide)]
                exact nx true ⟨fun _ => .inl ⟨f2.1 rfl, g4.1 rfl⟩, fun _ => rfl⟩
        · rintro x gd ⟨h1, h2⟩
          unfold L277_a
          simp only [zI0, zI1, zI2, zI3, zI4, zI5, zI6, zI7, zI8, zJ0, zJ1, zJ2, zMM]
          rw [if_pos (by rw [zq_lt (by omega) (by omega)]; omega)]
          refine fin gd (j + 1) x ⟨h1, fun q => ?_⟩
          cases x with
          | true => rfl
          | false =>
            obtain ⟨i, q1, q2, q3⟩ := q
            exact absurd q3 (h2 rfl i q1 (by omega))
      · rintro y gc ⟨hf, hI⟩
        unfold L277_b
        simp only [zI0, zI1, zI2, zI3, zI4, zI5, zI6, zI7, zI8, zJ0, zJ1, zJ2, zMM]
        rw [if_pos (by rw [zq_lt (by omega) (by omega)]; omega), zq_add]
        exact hgo y ⟨hf, fun k' j a c e => hI k' j (by omega) c e⟩
    · rintro y gb ⟨hf, hI⟩
      have hfm : zfr [135, 141] μ y := zf_trans (zf_mono e2 rfl) (zf_mono hf rfl)
      have hy := zm2_fr h hfm rfl
      unfold L277_c
      simp only [zI0, zI1, zI2, zI3, zI4, zI5, zI6, zI7, zI8, zJ0, zJ1, zJ2, zMM]
      rw [zr_i _ _ (by omega) (by omega), d_z hy hr, Option.bind_some, if_pos (by rw [zq_lt (by omega) (by omega)]; omega), Option.bind_some]
      simp only [zq_mul, zq_add]
      obtain ⟨t, f1, f2⟩ := hI (gZ g r) n (by omega) hm (Nat.le_refl _)
      rw [zr_i _ _ (by omega) (by omega), Option.bind_some, f1]
      simp only [zB_ok, if_true]
      exact zw_some ⟨hfm, t, rfl, f2⟩
/-- the numbers that the reference holds -/
def mNu (g : zG) (s : zSn) (vf : Nat → Nat → Nat → Nat) (μ : zzM) : Prop := ∀ q i j, q < gN g → i ≤ j → j ≤ sL s → μ.2 139 (169 * q + 13 * i + j) = lN (vf q i j) ∧ vf q i j ≤ 2147483648
theorem m_treesBelow {g : zG} {s : zSn} {μ : zzM} (h : zm2 g s μ) (hg : zwg g) (hs : zws g s) {vf : Nat → Nat → Nat → Nat} (hv : mNu g s vf μ) (d : Nat) {r k i j : Nat} (hr : r < gN g) (hk : k < gZ g r) (hi : i ≤ j) (hj : j ≤ sL s) : zw (zzf zzP zN (d + 4) 279 [.ref 105, .int (nI r), .int (nI k), .int (nI i), .int (nI j)] μ) fun o => o.2 = μ ∧ o.1.2.1 = lN (zwn g s vf r k i j) := by
  have hgn := g_n hg
  have hsl := hs.1
  rw [w_m_treesBelow, m_capAt h hg _ hr hk, Option.bind_some]
  simp only [zB_0]
  by_cases hc : 26 ≤ gS g r k
  · rw [if_neg (by simp [hc])]
    have hsum : ∀ q, q ≤ gN g → zsuM (fun q => if zbl true g s r k q then vf q i j else 0) q ≤ q * 2147483648 := fun q hq => zsuM_mul fun q' hq' => by
      split
      · exact (hv q' i j (by omega) hi hj).2
      · exact Nat.zero_le _
    refine zl_up (fun q (a : Nat) => ([nI r, nI k, nI i, nI j, nI q], [lN a], μ)) (fun q a => a = zsuM (fun q => if zbl true g s r k q then vf q i j else 0) q) 0 (gN g) 0 (by omega) (by omega) rfl rfl ?_ ?_
    · rintro q a ga - hq rfl hgo
      unfold L279_a
      simp only [zI0, zI1, zI2, zI3, zI4, zI5, zI6, zI7, zI8, zJ0, zJ1, zJ2, zMM]
      have hb := m_isBelow h hg hs d true hr hk hq
      have hb : zzf zzP zN (d + 3) 253 [.ref 105, .int (nI 1), .int (nI r), .int (nI k), .int (nI q)] μ = _ := hb
      rw [zr_i _ _ (by omega) (by omega), d_n h, Option.bind_some, if_neg (by rw [zq_le (by omega) (by omega)]; omega), hb, Option.bind_some]
      simp only [zB_0, lN_add, zq_add]
      have step : zw (ga ([nI r, nI k, nI i, nI j, nI (q + 1)], [lN (zsuM (fun q => if zbl true g s r k q then vf q i j else 0) (q + 1))], μ)) fun o => o.2 = μ ∧ o.1.2.1 = lN (zwn g s vf r k i j) := hgo _ rfl
      have est : zsuM (fun q => if zbl true g s r k q then vf q i j else 0) (q + 1) = zsuM (fun q => if zbl true g s r k q then vf q i j else 0) q + (if zbl true g s r k q then vf q i j else 0) := rfl
      rw [est] at step
      cases hbl : zbl true g s r k q with
      | false =>
        rw [if_pos rfl]
        rw [hbl] at step
        exact step
      | true =>
        rw [if_neg (by decide), m_spot, Option.bind_some, zr_l _ _ (by omega) (by omega), Option.bind_some, (hv q i j hq hi hj).1, lN_add]
        rw [hbl] at step
        exact step
    · rintro a ga rfl
      unfold L279_a
      simp only [zI0, zI1, zI2, zI3, zI4, zI5, zI6, zI7, zI8, zJ0, zJ1, zJ2, zMM]
      rw [zr_i _ _ (by omega) (by omega), d_n h, Option.bind_some, if_pos (by rw [zq_le (by omega) (by omega)]; omega)]
      have h1 := hsum (gN g) (Nat.le_refl _)
      have h2 : gN g * 2147483648 ≤ 12 * 2147483648 := Nat.mul_le_mul_right _ hgn
      rw [zif_cg ((lg_cmp_le _ _).trans (pk_lLE (by omega) (by omega)))]
      unfold zwn
      rw [if_neg (show ¬ gS g r k < 26 by omega)]
      by_cases e : zsuM (fun q => if zbl true g s r k q then vf q i j else 0) (gN g) ≤ 2147483648
      · rw [if_pos e]
        exact zw_some ⟨rfl, by rw [Nat.min_eq_left (show _ ≤ zTm from e)]⟩
      · rw [if_neg e]
        exact zw_some ⟨rfl, by rw [Nat.min_eq_right (show zTm ≤ _ from by unfold zTm; omega)]; rfl⟩
  · rw [if_pos (by simp [hc]), m_small h hg hs _ hr hk hi hj, Option.bind_some]
    simp only [zB_0]
    unfold zwn
    rw [if_pos (show gS g r k < 26 by omega)]
    by_cases e : j = i + 1 ∧ sX s i = gS g r k
    · rw [if_neg (by simp [e]), if_pos e]
      exact zw_some ⟨rfl, rfl⟩
    · rw [if_pos (by simp [e]), if_neg e]
      exact zw_some ⟨rfl, rfl⟩
theorem zmin_sum {f : Nat → Nat} : ∀ n, min (zsuM (fun i => min (f i) zTm) n) zTm = min (zsuM f n) zTm
  | 0 => rfl
  | n + 1 => by
    have ih := zmin_sum (f := f) n
    show min (zsuM (fun i => min (f i) zTm) n + min (f n) zTm) zTm = min (zsuM f n + f n) zTm
    unfold zTm at ih ⊢
    omega
theorem zmin_mul (a b : Nat) (hb : b ≤ zTm) : min (min a zTm * b) zTm = min (a * b) zTm := by
  by_cases h0 : b = 0
  · subst h0
    rfl
  · by_cases h1 : a = 0
    · subst h1
      rw [Nat.zero_min]
    · have := zmul_min h1 h0
      rw [Nat.min_eq_left hb] at this
      exact this
theorem zwn_le (g : zG) (s : zSn) (vn : Nat → Nat → Nat → Nat) (r k i j : Nat) : zwn g s vn r k i j ≤ zTm := by
  unfold zwn zTm
  split
  · split <;> omega
  · omega
theorem m_countsOf {g : zG} {s : zSn} {μ : zzM} (h : zm2 g s μ) (hg : zwg g) (hs : zws g s) {vf : Nat → Nat → Nat → Nat} (hv : mNu g s vf μ) (d : Nat) {r m n : Nat} (hr : r < gN g) (hm : m ≤ n) (hn : n ≤ sL s) : zw (zzf zzP zN (d + 5) 280 [.ref 105, .int (nI r), .int (nI m), .int (nI n)] μ) fun o => zfr [140] μ o.2 ∧ o.1.2.1 = lN (min (zNs (zwn g s vf r) m (gZ g r) n) zTm) := by
  have hgn := g_n hg
  have hz := g_z hg hr
  have hsl := hs.1
  have hT : zTm = 2147483648 := rfl
  rw [w_m_countsOf]
  generalize hW : zwn g s vf r = W
  have hWle : ∀ k i j, W k i j ≤ zTm := fun k i j => by rw [← hW]; exact zwn_le _ _ _ _ _ _ _
  refine zl_up (fun j (y : zzM) => ([nI r, nI m, nI n, nI j], [], y)) (fun j y => zfr [140] μ y ∧ ∀ j', m ≤ j' → j' < j → y.2 140 j' = lN (min (zNs W m 0 j') zTm)) m (n + 1) μ (by omega) (by omega) rfl ⟨zf_refl _ _, fun j' a b => absurd b (by omega)⟩ ?_ ?_
  · rintro j y ga hj hjn ⟨i1, i2⟩ hgo
    unfold L280_d
    simp only [zI0, zI1, zI2, zI3, zI4, zI5, zI6, zI7, zI8, zJ0, zJ1, zJ2, zMM]
    rw [if_neg (by rw [zq_lt (by omega) (by omega)]; omega)]
    simp (disch := omega) only [zq_eq]
    have fin : ∀ v : Nat, v = zNs W m 0 j → v ≤ 1 → zw (J280_c zN (d + 4) ga (nI r) (nI m) (nI n) (nI j) (lN v) (nI j) y) fun o => zfr [140] μ o.2 ∧ o.1.2.1 = lN (min (zNs W m (gZ g r) n) zTm) := by
      intro v hv1 hv2
      unfold J280_c
      rw [zs_l _ _ _ (by omega) (by omega), Option.bind_some, zq_add]
      refine hgo _ ⟨zf_twL _ _ i1 rfl, fun j' a b => ?_⟩
      by_cases e : j' = j
      · rw [e, zn_s, ← hv1, Nat.min_eq_left (by omega)]
      · rw [zn_k _ _ _ _ e]
        exact i2 j' a (by omega)
    by_cases e : j = m
    · rw [if_pos e]
      exact fin 1 (by unfold zNs; rw [if_pos e]) (Nat.le_refl _)
    · rw [if_neg e]
      exact fin 0 (by unfold zNs; rw [if_neg e]) (by omega)
  · rintro y ga ⟨i1, i2⟩
    unfold L280_d
    simp only [zI0, zI1, zI2, zI3, zI4, zI5, zI6, zI7, zI8, zJ0, zJ1, zJ2, zMM]
    rw [if_pos (by rw [zq_lt (by omega) (by omega)]; omega)]
    refine zl_up (fun k (y : zzM) => ([nI r, nI m, nI n, nI k], [], y)) (fun k y => zfr [140] μ y ∧ ∀ k' j, k' < k → m ≤ j → j ≤ n → y.2 140 (13 * k' + j) = lN (min (zNs W m k' j) zTm)) 1 (gZ g r + 1) y (by omega) (by omega) rfl ⟨i1, fun k' j a b c => ?_⟩ ?_ ?_
    · have : k' = 0 := by omega
      subst this
      rw [show 13 * 0 + j = j by omega]
      exact i2 j b (by omega)
    · rintro k y gb hk1 hkz ⟨hf, hI⟩ hgo
      have hy := zm2_fr h hf rfl
      unfold L280_c
      simp only [zI0, zI1, zI2, zI3, zI4, zI5, zI6, zI7, zI8, zJ0, zJ1, zJ2, zMM]
      rw [zr_i _ _ (by omega) (by omega), d_z hy hr, Option.bind_some, if_neg (by rw [zq_lt (by omega) (by omega)]; omega)]
      obtain ⟨k1, rfl⟩ : ∃ k1, k = k1 + 1 := ⟨k - 1, by omega⟩
      refine zl_up (fun j (y : zzM) => ([nI r, nI m, nI n, nI (k1 + 1), nI j], [], y)) (fun j y => zfr [140] μ y ∧ ∀ k' j', (k' < k1 + 1 ∨ (k' = k1 + 1 ∧ j' < j)) → m ≤ j' → j' ≤ n → y.2 140 (13 * k' + j') = lN (min (zNs W m k' j') zTm)) m (n + 1) y (by omega) (by omega) rfl ⟨hf, fun k' j a c e => hI k' j (by omega) c e⟩ ?_ ?_
      · rintro j y gc hj hjn ⟨hf, hI⟩ hgo2
        have hy := zm2_fr h hf rfl
        have hvy : mNu g s vf y := fun q i j a b c => by rw [zf_l hf rfl]; exact hv q i j a b c
        have fin : ∀ gd i (v : Nat) c6, v = min (zNs W m (k1 + 1) j) zTm → zw (J280_a zN (d + 4) ga gb gc gd (nI r) (nI m) (nI n) (nI (k1 + 1)) (nI j) c6 (nI i) (lN v) (nI (13 * (k1 + 1) + j)) y) fun o => zfr [140] μ o.2 ∧ o.1.2.1 = lN (min (zNs W m (gZ g r) n) zTm) := by
          intro gd i v c6 hv1
          unfold J280_a
          rw [zs_l _ _ _ (by omega) (by omega), Option.bind_some, zq_add]
          refine hgo2 _ ⟨zf_twL _ _ hf rfl, fun k' j' a c e => ?_⟩
          by_cases ek : k' = k1 + 1 ∧ j' = j
          · obtain ⟨rfl, rfl⟩ := ek
            rw [zn_s, hv1]
          · rw [zn_k _ _ _ _ (by omega)]
            exact hI k' j' (by omega) c e
        unfold L280_b
        simp only [zI0, zI1, zI2, zI3, zI4, zI5, zI6, zI7, zI8, zJ0, zJ1, zJ2, zMM]
        rw [if_neg (by rw [zq_lt (by omega) (by omega)]; omega)]
        let F : Nat → Nat := fun i => if m ≤ i then min (zNs W m k1 i) zTm * W k1 i j else 0
        have hF : ∀ i, i ≤ 13 → zsuM (fun i => min (F i) zTm) i ≤ i * 2147483648 := fun i _ => zsuM_mul fun i' _ => Nat.min_le_right _ _
        have hlast : min (zsuM (fun i => min (F i) zTm) (j + 1)) zTm = min (zNs W m (k1 + 1) j) zTm := by
          have e1 := zmin_sum (f := fun i => if m ≤ i then zNs W m k1 i * W k1 i j else 0) (j + 1)
          have e2 : zsuM (fun i => min (F i) zTm) (j + 1) = zsuM (fun i => min (if m ≤ i then zNs W m k1 i * W k1 i j else 0) zTm) (j + 1) := zsuM_cg fun i _ => by
            show min (if m ≤ i then min (zNs W m k1 i) zTm * W k1 i j else 0) zTm = _
            by_cases e : m ≤ i
            · rw [if_pos e, if_pos e, zmin_mul _ _ (hWle _ _ _)]
            · rw [if_neg e, if_neg e]
          rw [e2, e1]
          rfl
        refine zl_up (fun i (a : Nat) => ([nI r, nI m, nI n, nI (k1 + 1), nI j, nI i], [lN a], y)) (fun i a => a = zsuM (fun i => min (F i) zTm) i) m (j + 1) 0 (by omega) (by omega) rfl (zsuM_0 fun i hi => by show min (if m ≤ i then _ else 0) zTm = 0; rw [if_neg (by omega)]; rfl).symm ?_ ?_
        · rintro i a gd hi hij rfl hgo3
          unfold L280_a
          simp only [zI0, zI1, zI2, zI3, zI4, zI5, zI6, zI7, zI8, zJ0, zJ1, zJ2, zMM]
          rw [if_neg (by rw [zq_lt (by omega) (by omega)]; omega)]
          simp only [zq_sub (show 1 ≤ k1 + 1 by omega), Nat.add_sub_cancel, zq_mul, zq_add]
          have nx : ∀ v : Nat, v = F i → v ≤ 2147483648 * 2147483648 → zw (J280_b zN (d + 4) ga gb gc gd (nI r) (nI m) (nI n) (nI (k1 + 1)) (nI j) (lN (zsuM (fun i => min (F i) zTm) i)) (nI i) (lN v) y) fun o => zfr [140] μ o.2 ∧ o.1.2.1 = lN (min (zNs W m (gZ g r) n) zTm) := by
            intro v hv1 hv2
            unfold J280_b
            rw [zif_cg ((lg_cmp_le _ _).trans (pk_lLE (by omega) (by omega))), lN_add, lN_add, zq_add]
            have est : zsuM (fun i => min (F i) zTm) (i + 1) = zsuM (fun i => min (F i) zTm) i + min v zTm := by rw [hv1]; rfl
            have step := hgo3 _ est.symm
            by_cases e : v ≤ 2147483648
            · rw [if_pos e]
              rw [Nat.min_eq_left (show v ≤ zTm from e)] at step
              exact step
            · rw [if_neg e]
              rw [Nat.min_eq_right (show zTm ≤ v by omega)] at step
              exact step
          have hIi := hI k1 i (by omega) hi (by omega)
          have hmn := zmin_le (zNs W m k1 i)
          rw [zr_l _ _ (by omega) (by omega), Option.bind_some, hIi, Option.bind_some, zif_cg ((lg_cmp_eq _ _).trans (pk_lEQ (by omega) (by omega)))]
          by_cases e : min (zNs W m k1 i) zTm = 0
          · rw [if_pos e]
            refine nx 0 ?_ (Nat.zero_le _)
            show 0 = if m ≤ i then min (zNs W m k1 i) zTm * W k1 i j else 0
            rw [if_pos hi, e, Nat.zero_mul]
          · rw [if_neg e]
            obtain ⟨o1, g1, g2, g3⟩ := m_treesBelow hy hg hs hvy d hr (show k1 < gZ g r by omega) (show i ≤ j by omega) (show j ≤ sL s by omega)
            rw [g1, Option.bind_some, g2, g3, lN_mul, hW]
            refine nx _ ?_ (Nat.mul_le_mul hmn (by have := hWle k1 i j; omega))
            show _ = if m ≤ i then min (zNs W m k1 i) zTm * W k1 i j else 0
            rw [if_pos hi]
        · rintro a gd rfl
          unfold L280_a
          simp only [zI0, zI1, zI2, zI3, zI4, zI5, zI6, zI7, zI8, zJ0, zJ1, zJ2, zMM]
          have hb := hF (j + 1) (by omega)
          have hb2 : (j + 1) * 2147483648 ≤ 13 * 2147483648 := Nat.mul_le_mul_right _ (by omega)
          rw [if_pos (by rw [zq_lt (by omega) (by omega)]; omega), zif_cg ((lg_cmp_le _ _).trans (pk_lLE (by omega) (by omega)))]
          simp only [zq_mul, zq_add]
          by_cases e : zsuM (fun i => min (F i) zTm) (j + 1) ≤ 2147483648
          · rw [if_pos e]
            exact fin gd (j + 1) _ _ (by rw [← hlast, Nat.min_eq_left (show _ ≤ zTm from e)])
          · rw [if_neg e]
            exact fin gd (j + 1) 2147483648 _ (by rw [← hlast, Nat.min_eq_right (show zTm ≤ _ by omega), hT])
      · rintro y gc ⟨hf, hI⟩
        unfold L280_b
        simp only [zI0, zI1, zI2, zI3, zI4, zI5, zI6, zI7, zI8, zJ0, zJ1, zJ2, zMM]
        rw [if_pos (by rw [zq_lt (by omega) (by omega)]; omega), zq_add]
        exact hgo y ⟨hf, fun k' j a c e => hI k' j (by omega) c e⟩
    · rintro y gb ⟨hf, hI⟩
      have hy := zm2_fr h hf rfl
      unfold L280_c
      simp only [zI0, zI1, zI2, zI3, zI4, zI5, zI6, zI7, zI8, zJ0, zJ1, zJ2, zMM]
      rw [zr_i _ _ (by omega) (by omega), d_z hy hr, Option.bind_some, if_pos (by rw [zq_lt (by omega) (by omega)]; omega), Option.bind_some]
      simp only [zq_mul, zq_add]
      rw [zr_l _ _ (by omega) (by omega), Option.bind_some]
      exact zw_some ⟨hf, hI (gZ g r) n (by omega) hm (Nat.le_refl _)⟩
