/-! THE FOREST of the reference -/
theorem m_behind {g : zG} {s : zSn} {μ : zzM} (h : zm2 g s μ) (hg : zwg g) (hs : zws g s) (hk1 : mMk true g s μ) (d : Nat) {r m n : Nat} (hr : r < gN g) (hm : m ≤ n) (hn : n ≤ sL s) : zw (zzf zzP zN (d + 5) 258 [.ref 105, .int (nI r), .int (nI m), .int (nI n)] μ) fun o => zfr [136] μ o.2 ∧ ∀ k i, k ≤ gZ g r → m ≤ i → i ≤ n → ∃ t, o.2.1 136 (13 * k + i) = zB t ∧ (t = true ↔ zPb (zw1 g s r) n (gZ g r - k) k i) := by
  have hgn := g_n hg
  have hz := g_z hg hr
  have hsl := hs.1
  rw [w_m_laysBehind, zr_i _ _ (by omega) (by omega), d_z h hr, Option.bind_some]
  generalize hw : zw1 g s r = w
  refine zl_dn (fun k (y : zzM) => ([nI r, nI m, nI n, nJ k], [], y)) (fun k y => zfr [136] μ y ∧ ∀ k' i, k ≤ k' → k' ≤ gZ g r → m ≤ i → i ≤ n → ∃ t, y.1 136 (13 * k' + i) = zB t ∧ (t = true ↔ zPb w n (gZ g r - k') k' i)) 0 (gZ g r + 1) μ (by omega) (by omega) (by rw [nJ_s]) ⟨zf_refl _ _, fun k' i a b => by omega⟩ ?_ ?_
  · rintro k y ga - hk ⟨hf, hI⟩ hgo
    unfold L258_c
    simp only [zI0, zI1, zI2, zI3, zI4, zI5, zI6, zI7, zI8, zJ0, zJ1, zJ2, zMM]
    rw [nJ_s, if_neg (nI_pos (by omega))]
    refine zl_up (fun i (y : zzM) => ([nI r, nI m, nI n, nI k, nI i], [], y)) (fun i y => zfr [136] μ y ∧ ∀ k' i', (k + 1 ≤ k' ∨ (k' = k ∧ i' < i)) → k' ≤ gZ g r → m ≤ i' → i' ≤ n → ∃ t, y.1 136 (13 * k' + i') = zB t ∧ (t = true ↔ zPb w n (gZ g r - k') k' i')) m (n + 1) y (by omega) (by omega) rfl ⟨hf, fun k' i' a b c e => hI k' i' (by omega) b c e⟩ ?_ ?_
    · rintro i y gb hi hin ⟨hf, hI⟩ hgo2
      have hy := zm2_fr h hf rfl
      have hky := mMk_fr hk1 hf rfl
      have fin : ∀ gc j x, (x = true ↔ zPb w n (gZ g r - k) k i) → zw (J258_a zN (d + 4) ga gb gc (nI r) (nI m) (nI n) (nI k) (nI i) (zB x) (nI j) y) fun o => zfr [136] μ o.2 ∧ ∀ k i, k ≤ gZ g r → m ≤ i → i ≤ n → ∃ t, o.2.1 136 (13 * k + i) = zB t ∧ (t = true ↔ zPb w n (gZ g r - k) k i) := by
        intro gc j x hx
        unfold J258_a
        simp only [zB_ok, if_true, zq_mul, zq_add]
        rw [zs_i _ _ _ (by omega) (by omega), Option.bind_some]
        refine hgo2 _ ⟨zf_twI _ _ hf rfl, fun k' i' a b c e => ?_⟩
        by_cases ek : k' = k ∧ i' = i
        · obtain ⟨rfl, rfl⟩ := ek
          exact ⟨x, zm_s _ _ _ _, hx⟩
        · rw [zm_k _ _ _ _ (by omega)]
          exact hI k' i' (by omega) b c e
      have inner : ∀ x0 : Bool, (x0 = true ↔ k = gZ g r ∧ i = n) → zw (J258_b zN (d + 4) ga gb (nI r) (nI m) (nI n) (nI k) (nI i) (zB x0) y) fun o => zfr [136] μ o.2 ∧ ∀ k i, k ≤ gZ g r → m ≤ i → i ≤ n → ∃ t, o.2.1 136 (13 * k + i) = zB t ∧ (t = true ↔ zPb w n (gZ g r - k) k i) := by
        intro x0 hx0
        unfold J258_b
        refine zl_up (fun j (x : Bool) => ([nI r, nI m, nI n, nI k, nI i, zB x, nI j], [], y)) (fun j x => (x = true → zPb w n (gZ g r - k) k i) ∧ (x = false → ¬ (k = gZ g r ∧ i = n) ∧ ∀ j', i ≤ j' → j' < j → k < gZ g r → ¬ (w k i j' ∧ zPb w n (gZ g r - (k + 1)) (k + 1) j'))) i (n + 1) x0 (by omega) (by omega) rfl ⟨fun e => (by obtain ⟨a, b⟩ := hx0.1 e; rw [a, Nat.sub_self]; exact b), fun e => ⟨fun q => (by rw [hx0.2 q] at e; cases e), fun j' a b => absurd b (by omega)⟩⟩ ?_ ?_
        · rintro j x gc hj hjn ⟨h1, h2⟩ hgo3
          unfold L258_a
          simp only [zI0, zI1, zI2, zI3, zI4, zI5, zI6, zI7, zI8, zJ0, zJ1, zJ2, zMM]
          rw [if_neg (by rw [zq_lt (by omega) (by omega)]; omega), zr_i _ _ (by omega) (by omega), d_z hy hr, Option.bind_some]
          simp (disch := omega) only [zq_le]
          by_cases ek : gZ g r ≤ k
          · rw [if_pos ek]
            refine fin gc j x ⟨h1, fun q => ?_⟩
            cases x with
            | true => rfl
            | false =>
              have e1 : k = gZ g r := by omega
              rw [e1, Nat.sub_self] at q
              exact absurd ⟨e1, q⟩ (h2 rfl).1
          · rw [if_neg ek]
            simp only [zB_0, zq_mul, zq_add]
            cases x with
            | true =>
              rw [if_neg (by decide)]
              exact fin gc j true ⟨h1, fun _ => rfl⟩
            | false =>
              obtain ⟨h3, h4⟩ := h2 rfl
              have nx : ∀ t : Bool, (t = true ↔ w k i j ∧ zPb w n (gZ g r - (k + 1)) (k + 1) j) → zw (gc ([nI r, nI m, nI n, nI k, nI i, zB t, nI (j + 1)], [], y)) fun o => zfr [136] μ o.2 ∧ ∀ k i, k ≤ gZ g r → m ≤ i → i ≤ n → ∃ t, o.2.1 136 (13 * k + i) = zB t ∧ (t = true ↔ zPb w n (gZ g r - k) k i) := by
                intro t ht
                cases t with
                | true =>
                  refine hgo3 true ⟨fun _ => ?_, fun e => (by cases e)⟩
                  rw [show gZ g r - k = (gZ g r - (k + 1)) + 1 by omega]
                  exact ⟨j, hj, by omega, ht.1 rfl⟩
                | false =>
                  refine hgo3 false ⟨fun e => (by cases e), fun _ => ⟨h3, fun j' a b c => ?_⟩⟩
                  by_cases ej : j' = j
                  · rw [ej]
                    exact fun q => by have := ht.2 q; cases this
                  · exact h4 j' a (by omega) c
              rw [if_pos rfl]
              obtain ⟨o1, g1, g2, t', g3, g4⟩ := m_canBe hy hg hs d true hr (show k < gZ g r by omega) (show i ≤ j by omega) (show j ≤ sL s by omega)
              have g1 : zzf zzP zN (d + 4) 256 [.ref 105, .int (nI 1), .int (nI r), .int (nI k), .int (nI i), .int (nI j)] y = some o1 := g1
              rw [g1, Option.bind_some, g2, g3]
              rw [mMk_w hky (by omega) (by omega), hw] at g4
              simp only [zB_0]
              cases t' with
              | false =>
                rw [if_pos rfl]
                exact nx false ⟨fun e => (by cases e), fun e => by have := g4.2 e.1; cases this⟩
              | true =>
                rw [if_neg (by decide), zr_i _ _ (by omega) (by omega), Option.bind_some]
                obtain ⟨t, f1, f2⟩ := hI (k + 1) j (by omega) (by omega) (by omega) (by omega)
                rw [f1]
                simp only [zB_0]
                cases t with
                | false =>
                  rw [if_pos rfl]
                  exact nx false ⟨fun e => (by cases e), fun e => by have := f2.2 e.2; cases this⟩
                | true =>
                  rw [if_neg (by decide)]
                  exact nx true ⟨fun _ => ⟨g4.1 rfl, f2.1 rfl⟩, fun _ => rfl⟩
        · rintro x gc ⟨h1, h2⟩
          unfold L258_a
          simp only [zI0, zI1, zI2, zI3, zI4, zI5, zI6, zI7, zI8, zJ0, zJ1, zJ2, zMM]
          rw [if_pos (by rw [zq_lt (by omega) (by omega)]; omega)]
          refine fin gc (n + 1) x ⟨h1, fun q => ?_⟩
          cases x with
          | true => rfl
          | false =>
            obtain ⟨h3, h4⟩ := h2 rfl
            by_cases ek : k = gZ g r
            · rw [ek, Nat.sub_self] at q
              exact absurd ⟨ek, q⟩ h3
            · rw [show gZ g r - k = (gZ g r - (k + 1)) + 1 by omega] at q
              obtain ⟨j, q1, q2, q3, q4⟩ := q
              exact absurd ⟨q3, q4⟩ (h4 j q1 (by omega) (by omega))
      unfold L258_b
      simp only [zI0, zI1, zI2, zI3, zI4, zI5, zI6, zI7, zI8, zJ0, zJ1, zJ2, zMM]
      rw [if_neg (by rw [zq_lt (by omega) (by omega)]; omega), zr_i _ _ (by omega) (by omega), d_z hy hr, Option.bind_some]
      simp (disch := omega) only [zq_eq]
      by_cases ek : k = gZ g r
      · rw [if_pos ek]
        by_cases ei : i = n
        · rw [if_pos ei]
          exact inner true ⟨fun _ => ⟨ek, ei⟩, fun _ => rfl⟩
        · rw [if_neg ei]
          exact inner false ⟨fun e => (by cases e), fun e => absurd e.2 ei⟩
      · rw [if_neg ek]
        exact inner false ⟨fun e => (by cases e), fun e => absurd e.1 ek⟩
    · rintro y gb ⟨hf, hI⟩
      unfold L258_b
      simp only [zI0, zI1, zI2, zI3, zI4, zI5, zI6, zI7, zI8, zJ0, zJ1, zJ2, zMM]
      rw [if_pos (by rw [zq_lt (by omega) (by omega)]; omega), nJ_e]
      exact hgo y ⟨hf, fun k' i a b c e => hI k' i (by omega) b c e⟩
  · rintro y ga ⟨hf, hI⟩
    unfold L258_c
    simp only [zI0, zI1, zI2, zI3, zI4, zI5, zI6, zI7, zI8, zJ0, zJ1, zJ2, zMM]
    rw [if_pos (by decide)]
    exact zw_some ⟨hf, fun k i a b c => hI k i (Nat.zero_le _) a b c⟩
def mPc (μ : zzM) (q i j : Nat) : Prop := ¬ μ.1 143 (169 * q + 13 * i + j) = 0
/-- only places of parts are marked -/
def mPl (g : zG) (s : zSn) (c : Nat) (μ : zzM) : Prop := ∀ p, p < 2028 → ¬ μ.1 c p = 0 → ∃ q i j, q < gN g ∧ i ≤ j ∧ j ≤ sL s ∧ p = 169 * q + 13 * i + j
theorem m_marksBelow {g : zG} {s : zSn} {μ : zzM} (h : zm2 g s μ) (hg : zwg g) (hs : zws g s) (hk1 : mMk true g s μ) (d : Nat) {r k i j : Nat} (hr : r < gN g) (hk : k < gZ g r) (hi : i ≤ j) (hj : j ≤ sL s) : zw (zzf zzP zN (d + 4) 285 [.ref 105, .int (nI r), .int (nI k), .int (nI i), .int (nI j)] μ) fun o => zfr [143] μ o.2 ∧ (∃ t, o.1.1 = zB t) ∧ (∀ p, (∀ q, q < gN g → p ≠ 169 * q + 13 * i + j) → o.2.1 143 p = μ.1 143 p) ∧ ∀ q, q < gN g → (mPc o.2 q i j ↔ mPc μ q i j ∨ (zbl true g s r k q = true ∧ zM true g s q i j)) := by
  have hgn := g_n hg
  have hsl := hs.1
  rw [w_m_marksBelow]
  refine zl_up (fun q (a : Bool × zzM) => ([nI r, nI k, nI i, nI j, zB a.1, nI q], [], a.2)) (fun q a => zfr [143] μ a.2 ∧ (∀ p, (∀ q', q' < q → p ≠ 169 * q' + 13 * i + j) → a.2.1 143 p = μ.1 143 p) ∧ ∀ q', q' < q → (mPc a.2 q' i j ↔ mPc μ q' i j ∨ (zbl true g s r k q' = true ∧ zM true g s q' i j))) 0 (gN g) (false, μ) (by omega) (by omega) rfl ⟨zf_refl _ _, fun _ _ => rfl, fun q' e => absurd e (by omega)⟩ ?_ ?_
  · rintro q ⟨t, y⟩ ga - hq ⟨i1, i2, i3⟩ hgo
    simp only at i1 i2 i3
    have hy := zm2_fr h i1 rfl
    have hky := mMk_fr hk1 i1 rfl
    unfold L285_a
    simp only [zI0, zI1, zI2, zI3, zI4, zI5, zI6, zI7, zI8, zJ0, zJ1, zJ2, zMM]
    rw [zr_i _ _ (by omega) (by omega), d_n hy, Option.bind_some, if_neg (by rw [zq_le (by omega) (by omega)]; omega), m_spot, Option.bind_some, zq_add, zr_i _ _ (by omega) (by omega), Option.bind_some]
    simp only [zq_add, zk_1, if_true]
    have hkq := hky q i j hq hi hj
    unfold mMd at hkq
    rw [show 2028 * zbn true + (169 * q + 13 * i + j) = 2028 + (169 * q + 13 * i + j) from rfl] at hkq
    have hyq : y.1 143 (169 * q + 13 * i + j) = μ.1 143 (169 * q + 13 * i + j) := i2 _ fun q' hq' => by omega
    have skip : (zbl true g s r k q = true ∧ zM true g s q i j → mPc μ q i j) → zfr [143] μ y ∧ (∀ p, (∀ q', q' < q + 1 → p ≠ 169 * q' + 13 * i + j) → y.1 143 p = μ.1 143 p) ∧ ∀ q', q' < q + 1 → (mPc y q' i j ↔ mPc μ q' i j ∨ (zbl true g s r k q' = true ∧ zM true g s q' i j)) := fun e => ⟨i1, fun p hp => i2 p fun q' a => hp q' (by omega), fun q' a => by
      by_cases eq : q' = q
      · rw [eq]
        unfold mPc
        rw [hyq]
        exact ⟨.inl, fun f => f.elim id e⟩
      · exact i3 q' (by omega)⟩
    by_cases e : y.1 134 (2028 + (169 * q + 13 * i + j)) = 0
    · rw [if_pos e]
      exact hgo (t, y) (skip fun f => absurd e (hkq.2 f.2))
    · rw [if_neg e, zr_i _ _ (by omega) (by omega), Option.bind_some]
      by_cases e1 : y.1 143 (169 * q + 13 * i + j) = 0
      · have hbl0 := m_isBelow hy hg hs d true hr hk hq
        have hbl0 : zzf zzP zN (d + 3) 253 [.ref 105, .int (nI 1), .int (nI r), .int (nI k), .int (nI q)] y = _ := hbl0
        rw [if_pos e1, hbl0, Option.bind_some]
        simp only [zB_0]
        cases hbl : zbl true g s r k q with
        | false =>
          rw [if_pos rfl]
          exact hgo (t, y) (skip fun f => by rw [hbl] at f; cases f.1)
        | true =>
          rw [if_neg (by decide), zs_i _ _ _ (by omega) (by omega), Option.bind_some]
          refine hgo (true, zzwI y 143 (169 * q + 13 * i + j) (nI 1)) ⟨zf_twI _ _ i1 rfl, fun p hp => ?_, fun q' a => ?_⟩
          · show (zzwI y 143 _ _).1 143 p = _
            rw [zm_k _ _ _ _ (hp q (by omega))]
            exact i2 p fun q' a => hp q' (by omega)
          · by_cases eq : q' = q
            · rw [eq]
              refine ⟨fun _ => .inr ⟨hbl, hkq.1 e⟩, fun _ => ?_⟩
              show ¬ (zzwI y 143 (169 * q + 13 * i + j) (nI 1)).1 143 (169 * q + 13 * i + j) = 0
              rw [zm_s]
              decide
            · have : mPc (zzwI y 143 (169 * q + 13 * i + j) (nI 1)) q' i j ↔ mPc y q' i j := by
                unfold mPc
                rw [zm_k _ _ _ _ (by omega)]
              show mPc (zzwI y 143 (169 * q + 13 * i + j) (nI 1)) q' i j ↔ _
              rw [this]
              exact i3 q' (by omega)
      · rw [if_neg e1]
        exact hgo (t, y) (skip fun _ => by unfold mPc; rw [← hyq]; exact e1)
  · rintro ⟨t, y⟩ ga ⟨i1, i2, i3⟩
    simp only at i1 i2 i3
    have hy := zm2_fr h i1 rfl
    unfold L285_a
    simp only [zI0, zI1, zI2, zI3, zI4, zI5, zI6, zI7, zI8, zJ0, zJ1, zJ2, zMM]
    rw [zr_i _ _ (by omega) (by omega), d_n hy, Option.bind_some, if_pos (by rw [zq_le (by omega) (by omega)]; omega)]
    simp only [zB_ok, if_true]
    exact zw_some ⟨i1, ⟨t, rfl⟩, i2, i3⟩
theorem m_marksFrom {g : zG} {s : zSn} {μ : zzM} (h : zm2 g s μ) (hg : zwg g) (hs : zws g s) (hk1 : mMk true g s μ) (d : Nat) {r m n : Nat} (hr : r < gN g) (hm : m ≤ n) (hn : n ≤ sL s) (hpl : mPl g s 143 μ) : zw (zzf zzP zN (d + 6) 286 [.ref 105, .int (nI r), .int (nI m), .int (nI n)] μ) fun o => zfr [135, 136, 143] μ o.2 ∧ mPl g s 143 o.2 ∧ ∀ q i j, q < gN g → i ≤ j → j ≤ sL s → (mPc o.2 q i j ↔ mPc μ q i j ∨ zmk2 g s r m n q i j) := by
  have hgn := g_n hg
  have hz := g_z hg hr
  have hsl := hs.1
  rw [w_m_marksFrom]
  obtain ⟨o1, e1, e2, e3⟩ := m_ahead h hg hs d true hr hm hn
  have e1 : zzf zzP zN (d + 5) 257 [.ref 105, .int (nI 1), .int (nI r), .int (nI m), .int (nI n)] μ = some o1 := e1
  rw [e1, Option.bind_some]
  have h1 := zm2_fr h e2 rfl
  have hk2 := mMk_fr hk1 e2 rfl
  obtain ⟨o2, f1, f2, f3⟩ := m_behind h1 hg hs hk2 d hr hm hn
  rw [f1, Option.bind_some]
  have hf0 : zfr [135, 136, 143] μ o2.2 := zf_trans (zf_mono e2 rfl) (zf_mono f2 rfl)
  have hA : ∀ k j, k ≤ gZ g r → m ≤ j → j ≤ n → ∃ t, o2.2.1 135 (13 * k + j) = zB t ∧ (t = true ↔ zPa (zw1 g s r) k m j) := fun k j a b c => by
    obtain ⟨t, g1, g2⟩ := e3 k j a b c
    exact ⟨t, by rw [zf_i f2 rfl]; exact g1, g2.trans ⟨zPa_mo fun k' i' j' _ a' b' c' f => (mMk_w hk1 b' (by omega)).1 f, zPa_mo fun k' i' j' _ a' b' c' f => (mMk_w hk1 b' (by omega)).2 f⟩⟩
  have h143 : o2.2.1 143 = μ.1 143 := by rw [zf_i f2 rfl, zf_i e2 rfl]
  -- what is marked: places up to (k, i, j)
  let Dn : Nat → Nat → Nat → (Nat → Nat → Nat → Prop) := fun k i j => fun k' i' j' => k' < k ∨ (k' = k ∧ (i' < i ∨ (i' = i ∧ j' < j)))
  let JJ : Nat → Nat → Nat → zzM → Prop := fun k i j y => zfr [143] o2.2 y ∧ mPl g s 143 y ∧ ∀ q i' j', q < gN g → i' ≤ j' → j' ≤ sL s → (mPc y q i' j' ↔ mPc μ q i' j' ∨ ∃ k' d, Dn k i j k' i' j' ∧ k' + 1 + d = gZ g r ∧ zPa (zw1 g s r) k' m i' ∧ zbl true g s r k' q = true ∧ zM true g s q i' j' ∧ zPb (zw1 g s r) n d (k' + 1) j')
  have JJcg : ∀ k i j k2 i2 j2 y, (∀ k' i' j' d, m ≤ i' → i' ≤ j' → j' ≤ n → k' + 1 + d = gZ g r → (Dn k i j k' i' j' ↔ Dn k2 i2 j2 k' i' j')) → JJ k i j y → JJ k2 i2 j2 y := fun k i j k2 i2 j2 y hd hj => ⟨hj.1, hj.2.1, fun q i' j' a b c => (hj.2.2 q i' j' a b c).trans (or_congr Iff.rfl ⟨fun ⟨k', d, g0, g1, g2, g3, g4, g5⟩ => ⟨k', d, (hd k' i' j' d (zPa_le g2) b (zPb_le g5) g1).1 g0, g1, g2, g3, g4, g5⟩, fun ⟨k', d, g0, g1, g2, g3, g4, g5⟩ => ⟨k', d, (hd k' i' j' d (zPa_le g2) b (zPb_le g5) g1).2 g0, g1, g2, g3, g4, g5⟩⟩)⟩
  refine zl_up (fun k (a : Bool × zzM) => ([nI r, nI m, nI n, zB a.1, nI k], [], a.2)) (fun k a => JJ k 0 0 a.2) 0 (gZ g r) (false, o2.2) (by omega) (by omega) rfl ⟨zf_refl _ _, ?_, fun q i' j' a b c => ?_⟩ ?_ ?_
  · intro p hp e
    show ∃ q i j, _
    have e : ¬ o2.2.1 143 p = 0 := e
    rw [h143] at e
    exact hpl p hp e
  · have : mPc o2.2 q i' j' ↔ mPc μ q i' j' := by unfold mPc; rw [h143]
    show mPc o2.2 q i' j' ↔ _
    rw [this]
    refine ⟨.inl, fun f => f.resolve_right fun ⟨k', d, g0, _⟩ => ?_⟩
    have g0 : k' < 0 ∨ (k' = 0 ∧ (i' < 0 ∨ (i' = 0 ∧ j' < 0))) := g0
    omega
  · rintro k ⟨t, y⟩ ga - hk hJ hgo
    simp only at hJ
    have hy := zm2_fr h (zf_trans hf0 (zf_mono (L' := [135, 136, 143]) hJ.1 rfl)) rfl
    unfold L286_c
    simp only [zI0, zI1, zI2, zI3, zI4, zI5, zI6, zI7, zI8, zJ0, zJ1, zJ2, zMM]
    rw [zr_i _ _ (by omega) (by omega), d_z hy hr, Option.bind_some, if_neg (by rw [zq_le (by omega) (by omega)]; omega)]
    refine zl_up (fun i (a : Bool × zzM) => ([nI r, nI m, nI n, zB a.1, nI k, nI i], [], a.2)) (fun i a => JJ k i 0 a.2) m (n + 1) (t, y) (by omega) (by omega) rfl (JJcg _ _ _ _ _ _ _ (fun k' i' j' d a b c e => by show (_ ∨ _) ↔ (_ ∨ _); omega) hJ) ?_ ?_
    · rintro i ⟨t, y⟩ gb hi hin hJ hgo2
      simp only at hJ
      unfold L286_b
      simp only [zI0, zI1, zI2, zI3, zI4, zI5, zI6, zI7, zI8, zJ0, zJ1, zJ2, zMM]
      rw [if_neg (by rw [zq_lt (by omega) (by omega)]; omega)]
      refine zl_up (fun j (a : Bool × zzM) => ([nI r, nI m, nI n, zB a.1, nI k, nI i, nI j], [], a.2)) (fun j a => JJ k i j a.2) i (n + 1) (t, y) (by omega) (by omega) rfl (JJcg _ _ _ _ _ _ _ (fun k' i' j' d a b c e => by show (_ ∨ _) ↔ (_ ∨ _); omega) hJ) ?_ ?_
      · rintro j ⟨t, y⟩ gc hj hjn hJ hgo3
        simp only at hJ
        have hfy := zf_trans hf0 (zf_mono (L' := [135, 136, 143]) hJ.1 rfl)
        have hy := zm2_fr h hfy rfl
        have hky := mMk_fr hk1 hfy rfl
        unfold L286_a
        simp only [zI0, zI1, zI2, zI3, zI4, zI5, zI6, zI7, zI8, zJ0, zJ1, zJ2, zMM]
        rw [if_neg (by rw [zq_lt (by omega) (by omega)]; omega), m_capAt hy hg _ hr hk, Option.bind_some]
        simp only [zB_0, zq_mul, zq_add]
        have skip : ∀ t', (¬ (26 ≤ gS g r k ∧ zPa (zw1 g s r) k m i ∧ zPb (zw1 g s r) n (gZ g r - (k + 1)) (k + 1) j)) → zw (gc ([nI r, nI m, nI n, zB t', nI k, nI i, nI (j + 1)], [], y)) fun o => zfr [135, 136, 143] μ o.2 ∧ mPl g s 143 o.2 ∧ ∀ q i j, q < gN g → i ≤ j → j ≤ sL s → (mPc o.2 q i j ↔ mPc μ q i j ∨ zmk2 g s r m n q i j) := by
          intro t' hno
          refine hgo3 (t', y) ⟨hJ.1, hJ.2.1, fun q i' j' a b c => ?_⟩
          rw [hJ.2.2 q i' j' a b c]
          refine or_congr Iff.rfl ⟨fun ⟨k', d, g0, g1⟩ => ⟨k', d, ?_, g1⟩, fun ⟨k', d, g0, g1, g2, g3, g4, g5⟩ => ⟨k', d, ?_, g1, g2, g3, g4, g5⟩⟩
          · have g0 : k' < k ∨ (k' = k ∧ (i' < i ∨ (i' = i ∧ j' < j))) := g0
            show k' < k ∨ (k' = k ∧ (i' < i ∨ (i' = i ∧ j' < j + 1)))
            omega
          · have g0 : k' < k ∨ (k' = k ∧ (i' < i ∨ (i' = i ∧ j' < j + 1))) := g0
            show k' < k ∨ (k' = k ∧ (i' < i ∨ (i' = i ∧ j' < j)))
            by_cases ee : k' = k ∧ i' = i ∧ j' = j
            · obtain ⟨rfl, rfl, rfl⟩ := ee
              have : d = gZ g r - (k' + 1) := by omega
              subst this
              exact absurd ⟨zbl_cap hg g3, g2, g5⟩ hno
            · omega
        have ja : ∀ t1 : Bool, ∀ y1 : zzM, (∀ t', zw (gc ([nI r, nI m, nI n, zB t', nI k, nI i, nI (j + 1)], [], y1)) fun o => zfr [135, 136, 143] μ o.2 ∧ mPl g s 143 o.2 ∧ ∀ q i j, q < gN g → i ≤ j → j ≤ sL s → (mPc o.2 q i j ↔ mPc μ q i j ∨ zmk2 g s r m n q i j)) → zw (J286_a zN (d + 5) ga gb gc (nI r) (nI m) (nI n) (zB t1) (nI k) (nI i) (nI j) y1) fun o => zfr [135, 136, 143] μ o.2 ∧ mPl g s 143 o.2 ∧ ∀ q i j, q < gN g → i ≤ j → j ≤ sL s → (mPc o.2 q i j ↔ mPc μ q i j ∨ zmk2 g s r m n q i j) := by
          intro t1 y1 hgc
          unfold J286_a
          simp only [zB_0, zq_add]
          cases t1 with
          | false => rw [if_pos rfl]; exact hgc false
          | true => rw [if_neg (by decide)]; exact hgc true
        have no : (¬ (26 ≤ gS g r k ∧ zPa (zw1 g s r) k m i ∧ zPb (zw1 g s r) n (gZ g r - (k + 1)) (k + 1) j)) → zw (J286_b zN (d + 5) ga gb gc (nI r) (nI m) (nI n) (zB t) (nI k) (nI i) (nI j) (nI 0) y) fun o => zfr [135, 136, 143] μ o.2 ∧ mPl g s 143 o.2 ∧ ∀ q i j, q < gN g → i ≤ j → j ≤ sL s → (mPc o.2 q i j ↔ mPc μ q i j ∨ zmk2 g s r m n q i j) := by
          intro hno
          unfold J286_b
          rw [if_pos (by decide)]
          exact ja t y fun t' => skip t' hno
        by_cases hc : 26 ≤ gS g r k
        · rw [if_neg (by simp [hc])]
          obtain ⟨ta, g1, g2⟩ := hA k i (by omega) hi (by omega)
          rw [zr_i _ _ (by omega) (by omega), Option.bind_some, zf_i hJ.1 rfl, g1]
          simp only [zB_0]
          cases ta with
          | false =>
            rw [if_pos rfl]
            exact no fun f => by have := g2.2 f.2.1; cases this
          | true =>
            rw [if_neg (by decide)]
            obtain ⟨tb, g3, g4⟩ := f3 (k + 1) j (by omega) (by omega) (by omega)
            rw [zr_i _ _ (by omega) (by omega), Option.bind_some, zf_i hJ.1 rfl, g3]
            simp only [zB_0]
            cases tb with
            | false =>
              rw [if_pos rfl]
              exact no fun f => by have := g4.2 f.2.2; cases this
            | true =>
              rw [if_neg (by decide)]
              have hpa := g2.1 rfl
              have hpb := g4.1 rfl
              unfold J286_b
              rw [if_neg (by decide)]
              obtain ⟨o3, l1, l2, ⟨t3, l3⟩, l4, l5⟩ := m_marksBelow hy hg hs hky (d + 1) hr hk (show i ≤ j by omega) (show j ≤ sL s by omega)
              rw [l1, Option.bind_some, l3]
              simp only [zB_0, zq_add]
              have hnew : ∀ t', zw (gc ([nI r, nI m, nI n, zB t', nI k, nI i, nI (j + 1)], [], o3.2)) fun o => zfr [135, 136, 143] μ o.2 ∧ mPl g s 143 o.2 ∧ ∀ q i j, q < gN g → i ≤ j → j ≤ sL s → (mPc o.2 q i j ↔ mPc μ q i j ∨ zmk2 g s r m n q i j) := by
                intro t'
                refine hgo3 (t', o3.2) ⟨zf_trans hJ.1 l2, fun p hp e => ?_, fun q i' j' a b c => ?_⟩
                · have e : ¬ o3.2.1 143 p = 0 := e
                  by_cases ep : ∃ q, q < gN g ∧ p = 169 * q + 13 * i + j
                  · obtain ⟨q, a, b⟩ := ep
                    exact ⟨q, i, j, a, by omega, by omega, b⟩
                  · rw [l4 p fun q hq f => ep ⟨q, hq, f⟩] at e
                    exact hJ.2.1 p hp e
                · by_cases eij : i' = i ∧ j' = j
                  · obtain ⟨rfl, rfl⟩ := eij
                    show mPc o3.2 q i' j' ↔ _
                    rw [l5 q a, hJ.2.2 q i' j' a b c]
                    constructor
                    · rintro ((f | ⟨k', d, g0, g6⟩) | f)
                      · exact .inl f
                      · refine .inr ⟨k', d, ?_, g6⟩
                        have g0 : k' < k ∨ (k' = k ∧ (i' < i' ∨ (i' = i' ∧ j' < j'))) := g0
                        show k' < k ∨ (k' = k ∧ (i' < i' ∨ (i' = i' ∧ j' < j' + 1)))
                        omega
                      · refine .inr ⟨k, gZ g r - (k + 1), ?_, by omega, hpa, f.1, f.2, hpb⟩
                        show k < k ∨ (k = k ∧ (i' < i' ∨ (i' = i' ∧ j' < j' + 1)))
                        omega
                    · rintro (f | ⟨k', d, g0, g6, g7, g8, g9, g10⟩)
                      · exact .inl (.inl f)
                      · by_cases ek : k' = k
                        · subst ek
                          exact .inr ⟨g8, g9⟩
                        · refine .inl (.inr ⟨k', d, ?_, g6, g7, g8, g9, g10⟩)
                          have g0 : k' < k ∨ (k' = k ∧ (i' < i' ∨ (i' = i' ∧ j' < j' + 1))) := g0
                          show k' < k ∨ (k' = k ∧ (i' < i' ∨ (i' = i' ∧ j' < j')))
                          omega
                  · have : mPc o3.2 q i' j' ↔ mPc y q i' j' := by
                      unfold mPc
                      rw [l4 _ fun q' hq' f => eij (by
                        have := zspot_inj (show i' < 13 by omega) (show j' < 13 by omega) (show i < 13 by omega) (show j < 13 by omega) f
                        exact this.2)]
                    show mPc o3.2 q i' j' ↔ _
                    rw [this, hJ.2.2 q i' j' a b c]
                    refine or_congr Iff.rfl ⟨fun ⟨k', d, g0, g6⟩ => ⟨k', d, ?_, g6⟩, fun ⟨k', d, g0, g6⟩ => ⟨k', d, ?_, g6⟩⟩
                    · have g0 : k' < k ∨ (k' = k ∧ (i' < i ∨ (i' = i ∧ j' < j))) := g0
                      show k' < k ∨ (k' = k ∧ (i' < i ∨ (i' = i ∧ j' < j + 1)))
                      omega
                    · have g0 : k' < k ∨ (k' = k ∧ (i' < i ∨ (i' = i ∧ j' < j + 1))) := g0
                      show k' < k ∨ (k' = k ∧ (i' < i ∨ (i' = i ∧ j' < j)))
                      omega
              cases t3 with
              | false =>
                rw [if_pos rfl]
                exact ja t o3.2 hnew
              | true =>
                rw [if_neg (by decide)]
                exact hnew true
        · rw [if_pos (by simp [hc])]
          exact no fun f => hc f.1
      · rintro ⟨t, y⟩ gc hJ
        simp only at hJ
        unfold L286_a
        simp only [zI0, zI1, zI2, zI3, zI4, zI5, zI6, zI7, zI8, zJ0, zJ1, zJ2, zMM]
        rw [if_pos (by rw [zq_lt (by omega) (by omega)]; omega), zq_add]
        exact hgo2 (t, y) (JJcg _ _ _ _ _ _ _ (fun k' i' j' d a b c e => by show (_ ∨ _) ↔ (_ ∨ _); omega) hJ)
    · rintro ⟨t, y⟩ gb hJ
      simp only at hJ
      unfold L286_b
      simp only [zI0, zI1, zI2, zI3, zI4, zI5, zI6, zI7, zI8, zJ0, zJ1, zJ2, zMM]
      rw [if_pos (by rw [zq_lt (by omega) (by omega)]; omega), zq_add]
      exact hgo (t, y) (JJcg _ _ _ _ _ _ _ (fun k' i' j' d a b c e => by show (_ ∨ _) ↔ (_ ∨ _); omega) hJ)
  · rintro ⟨t, y⟩ ga hJ
    simp only at hJ
    have hy := zm2_fr h (zf_trans hf0 (zf_mono (L' := [135, 136, 143]) hJ.1 rfl)) rfl
    unfold L286_c
    simp only [zI0, zI1, zI2, zI3, zI4, zI5, zI6, zI7, zI8, zJ0, zJ1, zJ2, zMM]
    rw [zr_i _ _ (by omega) (by omega), d_z hy hr, Option.bind_some, if_pos (by rw [zq_le (by omega) (by omega)]; omega)]
    simp only [zB_ok, if_true]
    refine zw_some ⟨zf_trans hf0 (zf_mono hJ.1 rfl), hJ.2.1, fun q i j a b c => ?_⟩
    rw [hJ.2.2 q i j a b c]
    refine or_congr Iff.rfl ⟨fun ⟨k', d, g0, g1, g2, g3, g4, g5⟩ => ⟨k', d, g1, g2, b, g3, g4, g5⟩, fun ⟨k', d, g1, g2, g6, g3, g4, g5⟩ => ⟨k', d, ?_, g1, g2, g3, g4, g5⟩⟩
    show k' < gZ g r ∨ _
    omega
