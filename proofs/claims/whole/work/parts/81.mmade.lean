/-! WHAT RULES MAKE: the reference's laysMade -/
def zbn (b : Bool) : Nat := bif b then 1 else 0
theorem zB_n (b : Bool) : zB b = nI (zbn b) := by cases b <;> rfl
theorem zbn_le (b : Bool) : zbn b ≤ 1 := by cases b <;> decide
def mMd (b : Bool) (μ : zzM) (q i j : Nat) : Prop := ¬ μ.1 134 (2028 * zbn b + (169 * q + 13 * i + j)) = 0
theorem m_capAt {g : zG} {s : zSn} {μ : zzM} (h : zm2 g s μ) (hg : zwg g) (d : Nat) {r k : Nat} (hr : r < gN g) (hk : k < gZ g r) : zzf zzP zN (d + 2) 255 [.ref 105, .int (nI r), .int (nI k)] μ = some ((zB (decide (26 ≤ gS g r k)), 0, 0), μ) := by
  have hsy := g_s hg hr hk
  rw [u_m_isCapitalAt, d_symAt h hg hr hk, Option.bind_some, m_isCapital, Option.bind_some]
  simp only [zB_ok, if_true]
  simp (disch := omega) only [zq_le]
theorem m_smallAt {g : zG} {s : zSn} {μ : zzM} (h : zm2 g s μ) (hg : zwg g) (hs : zws g s) (d : Nat) {r k i j : Nat} (hr : r < gN g) (hk : k < gZ g r) (hj : j ≤ sL s) : zzf zzP zN (d + 1) 254 [.ref 105, .int (nI r), .int (nI k), .int (nI i), .int (nI j)] μ = some ((zB (decide (j = i + 1 ∧ sX s i = gS g r k)), 0, 0), μ) ∨ ¬ i < 2147483648 := by
  have hsy := g_s hg hr hk
  have hl := hs.1
  by_cases hi : i < 2147483647
  · refine .inl ?_
    rw [u_m_isSmallAt]
    simp only [zk_0, zk_1, if_true, zq_add]
    simp (disch := omega) only [zq_eq]
    by_cases e : j = i + 1
    · have hx := hs.2.1 i (by omega)
      rw [if_pos e, zr_i _ _ (by omega) (by omega), Option.bind_some, d_x h (by omega), d_symAt h hg hr hk, Option.bind_some]
      simp (disch := omega) only [zq_eq]
      by_cases e2 : sX s i = gS g r k
      · rw [if_pos e2, decide_eq_true ⟨e, e2⟩]
        rfl
      · rw [if_neg e2, decide_eq_false (fun q => e2 q.2)]
        rfl
    · rw [if_neg e, decide_eq_false (fun q => e q.1)]
      rfl
  · by_cases hi2 : i = 2147483647
    · subst hi2
      refine .inl ?_
      rw [u_m_isSmallAt]
      simp only [zk_0, zk_1, if_true, zq_add]
      rw [decide_eq_false (by omega), if_neg (by
        intro q
        have := nI_toInt (n := j) (by omega)
        rw [q] at this
        have e : (nI (2147483647 + 1)).toInt = -2147483648 := by decide +kernel
        rw [e] at this
        omega)]
      rfl
    · exact .inr (by omega)
theorem m_small {g : zG} {s : zSn} {μ : zzM} (h : zm2 g s μ) (hg : zwg g) (hs : zws g s) (d : Nat) {r k i j : Nat} (hr : r < gN g) (hk : k < gZ g r) (hi : i ≤ j) (hj : j ≤ sL s) : zzf zzP zN (d + 1) 254 [.ref 105, .int (nI r), .int (nI k), .int (nI i), .int (nI j)] μ = some ((zB (decide (j = i + 1 ∧ sX s i = gS g r k)), 0, 0), μ) := (m_smallAt h hg hs d hr hk hj).resolve_right (by have := hs.1; omega)
theorem m_spot (d : Nat) (r m n : Nat) (μ : zzM) : zzf zzP zN (d + 1) 252 [.int (nI r), .int (nI m), .int (nI n)] μ = some ((nI (169 * r + 13 * m + n), 0, 0), μ) := by
  rw [u_m_spot]
  simp only [zq_mul, zq_add]
theorem m_canBe {g : zG} {s : zSn} {μ : zzM} (h : zm2 g s μ) (hg : zwg g) (hs : zws g s) (d : Nat) (b : Bool) {r k i j : Nat} (hr : r < gN g) (hk : k < gZ g r) (hi : i ≤ j) (hj : j ≤ sL s) : zw (zzf zzP zN (d + 4) 256 [.ref 105, .int (zB b), .int (nI r), .int (nI k), .int (nI i), .int (nI j)] μ) fun o => o.2 = μ ∧ ∃ t, o.1.1 = zB t ∧ (t = true ↔ zCB b g s (mMd b μ) r k i j) := by
  have hgn := g_n hg
  have hl := hs.1
  have hb := zbn_le b
  rw [u_m_canBe, m_capAt h hg _ hr hk, Option.bind_some]
  simp only [zB_0]
  by_cases hc : 26 ≤ gS g r k
  · rw [if_neg (by simp [hc])]
    refine zl_up (fun q (_ : Unit) => ([zB b, nI r, nI k, nI i, nI j, nI q], [], μ)) (fun q _ => ∀ q', q' < q → ¬ (zbl b g s r k q' = true ∧ mMd b μ q' i j)) 0 (gN g) () (by omega) (by omega) rfl (fun q' e => absurd e (by omega)) ?_ ?_
    · rintro q - g' - hq hI hgo
      simp only [zI0, zI1, zI2, zI3, zI4, zI5, zI6, zI7, zI8, zJ0, zJ1, zJ2, zMM]
      rw [zr_i _ _ (by omega) (by omega), d_n h, Option.bind_some, if_neg (by rw [zq_le (by omega) (by omega)]; omega), m_spot, Option.bind_some, zB_n, zq_mul, zq_add, zr_i _ _ (by omega) (by omega), Option.bind_some, ← zB_n]
      simp only [zk_0, zk_1, if_true, zq_add]
      by_cases e : μ.1 134 (2028 * zbn b + (169 * q + 13 * i + j)) = 0
      · rw [if_pos e]
        refine hgo () fun q' a => ?_
        by_cases eq : q' = q
        · rw [eq]; exact fun c => c.2 e
        · exact hI q' (by omega)
      · rw [if_neg e, m_isBelow h hg hs d b hr hk hq, Option.bind_some]
        simp only [zB_0]
        cases eb : zbl b g s r k q with
        | false =>
          rw [if_pos rfl]
          refine hgo () fun q' a => ?_
          by_cases eq : q' = q
          · rw [eq, eb]; exact fun c => by cases c.1
          · exact hI q' (by omega)
        | true =>
          rw [if_neg (by decide)]
          exact zw_some ⟨rfl, true, rfl, fun _ => .inr ⟨hc, q, eb, e⟩, fun _ => rfl⟩
    · rintro - g' hI
      simp only [zI0, zI1, zI2, zI3, zI4, zI5, zI6, zI7, zI8, zJ0, zJ1, zJ2, zMM]
      rw [zr_i _ _ (by omega) (by omega), d_n h, Option.bind_some, if_pos (by rw [zq_le (by omega) (by omega)]; omega)]
      simp only [zk_0, zk_1, if_true]
      refine zw_some ⟨rfl, false, rfl, fun q => (by cases q), ?_⟩
      rintro (⟨a, -⟩ | ⟨a, q, e, f⟩)
      · omega
      · exact absurd ⟨e, f⟩ (hI q (zon_lt (zbl_on e)))
  · rw [if_pos (by simp [hc]), m_small h hg hs _ hr hk hi hj, Option.bind_some]
    simp only [zB_ok, if_true]
    refine zw_some ⟨rfl, _, rfl, ?_⟩
    rw [decide_eq_true_eq]
    constructor
    · rintro ⟨a, e⟩
      exact .inl ⟨(by omega), a, e⟩
    · rintro (⟨a, e⟩ | ⟨a, e⟩)
      · exact e
      · omega
theorem m_ahead {g : zG} {s : zSn} {μ : zzM} (h : zm2 g s μ) (hg : zwg g) (hs : zws g s) (d : Nat) (b : Bool) {r m n : Nat} (hr : r < gN g) (hm : m ≤ n) (hn : n ≤ sL s) : zw (zzf zzP zN (d + 5) 257 [.ref 105, .int (zB b), .int (nI r), .int (nI m), .int (nI n)] μ) fun o => zfr [135] μ o.2 ∧ ∀ k j, k ≤ gZ g r → m ≤ j → j ≤ n → ∃ t, o.2.1 135 (13 * k + j) = zB t ∧ (t = true ↔ zPa (zCB b g s (mMd b μ) r) k m j) := by
  have hgn := g_n hg
  have hz := g_z hg hr
  have hl := hs.1
  rw [w_m_laysAhead]
  generalize hw : zCB b g s (mMd b μ) r = w
  refine zl_up (fun k (y : zzM) => ([zB b, nI r, nI m, nI n, nI k], [], y)) (fun k y => zfr [135] μ y ∧ ∀ k' j, k' < k → m ≤ j → j ≤ n → ∃ t, y.1 135 (13 * k' + j) = zB t ∧ (t = true ↔ zPa w k' m j)) 0 (gZ g r + 1) μ (by omega) (by omega) rfl ⟨zf_refl _ _, fun k' j a => absurd a (by omega)⟩ ?_ ?_
  · rintro k y ga - hk ⟨hf, hI⟩ hgo
    have hy := zm2_fr h hf rfl
    unfold L257_c
    simp only [zI0, zI1, zI2, zI3, zI4, zI5, zI6, zI7, zI8, zJ0, zJ1, zJ2, zMM]
    rw [zr_i _ _ (by omega) (by omega), d_z hy hr, Option.bind_some, if_neg (by rw [zq_lt (by omega) (by omega)]; omega)]
    refine zl_up (fun j (y : zzM) => ([zB b, nI r, nI m, nI n, nI k, nI j], [], y)) (fun j y => zfr [135] μ y ∧ ∀ k' j', (k' < k ∨ (k' = k ∧ j' < j)) → m ≤ j' → j' ≤ n → ∃ t, y.1 135 (13 * k' + j') = zB t ∧ (t = true ↔ zPa w k' m j')) m (n + 1) y (by omega) (by omega) rfl ⟨hf, fun k' j a c e => hI k' j (by omega) c e⟩ ?_ ?_
    · rintro j y gb hj hjn ⟨hf, hI⟩ hgo2
      have hy := zm2_fr h hf rfl
      have hmd : mMd b y = mMd b μ := by funext q i j; unfold mMd; rw [zf_i hf rfl]
      have fin : ∀ gc i x, (x = true ↔ zPa w k m j) → zw (J257_a zN (d + 4) ga gb gc (zB b) (nI r) (nI m) (nI n) (nI k) (nI j) (zB x) (nI i) y) fun o => zfr [135] μ o.2 ∧ ∀ k j, k ≤ gZ g r → m ≤ j → j ≤ n → ∃ t, o.2.1 135 (13 * k + j) = zB t ∧ (t = true ↔ zPa w k m j) := by
        intro gc i x hx
        unfold J257_a
        simp only [zB_ok, if_true, zq_mul, zq_add]
        rw [zs_i _ _ _ (by omega) (by omega), Option.bind_some]
        refine hgo2 _ ⟨zf_twI _ _ hf rfl, fun k' j' a c e => ?_⟩
        by_cases ek : k' = k ∧ j' = j
        · obtain ⟨rfl, rfl⟩ := ek
          exact ⟨x, zm_s _ _ _ _, hx⟩
        · rw [zm_k _ _ _ _ (by omega)]
          exact hI k' j' (by omega) c e
      have inner : ∀ x0 : Bool, (x0 = true ↔ k = 0 ∧ j = m) → zw (J257_b zN (d + 4) ga gb (zB b) (nI r) (nI m) (nI n) (nI k) (nI j) (zB x0) y) fun o => zfr [135] μ o.2 ∧ ∀ k j, k ≤ gZ g r → m ≤ j → j ≤ n → ∃ t, o.2.1 135 (13 * k + j) = zB t ∧ (t = true ↔ zPa w k m j) := by
        intro x0 hx0
        unfold J257_b
        refine zl_up (fun i (x : Bool) => ([zB b, nI r, nI m, nI n, nI k, nI j, zB x, nI i], [], y)) (fun i x => (x = true → zPa w k m j) ∧ (x = false → ¬ (k = 0 ∧ j = m) ∧ ∀ k' i', k = k' + 1 → m ≤ i' → i' < i → ¬ (zPa w k' m i' ∧ w k' i' j))) m (j + 1) x0 (by omega) (by omega) rfl ⟨fun e => (by obtain ⟨rfl, rfl⟩ := hx0.1 e; exact rfl), fun e => ⟨fun q => (by rw [hx0.2 q] at e; cases e), fun k' i' _ a c => absurd c (by omega)⟩⟩ ?_ ?_
        · rintro i x gc hi hij ⟨h1, h2⟩ hgo3
          unfold L257_a
          simp only [zI0, zI1, zI2, zI3, zI4, zI5, zI6, zI7, zI8, zJ0, zJ1, zJ2, zMM]
          rw [if_neg (by rw [zq_lt (by omega) (by omega)]; omega)]
          simp (disch := omega) only [zq_le0]
          by_cases ek : k = 0
          · rw [if_pos ek]
            refine fin gc i x ⟨h1, fun q => ?_⟩
            cases x with
            | true => rfl
            | false =>
              subst ek
              exact absurd ⟨rfl, q⟩ (h2 rfl).1
          · obtain ⟨k1, rfl⟩ : ∃ k1, k = k1 + 1 := ⟨k - 1, by omega⟩
            rw [if_neg ek]
            simp only [zB_0, zq_sub (show 1 ≤ k1 + 1 by omega), Nat.add_sub_cancel, zq_mul, zq_add]
            cases x with
            | true =>
              rw [if_neg (by decide)]
              exact fin gc i true ⟨h1, fun _ => rfl⟩
            | false =>
              obtain ⟨h3, h4⟩ := h2 rfl
              rw [if_pos rfl, zr_i _ _ (by omega) (by omega), Option.bind_some]
              obtain ⟨t, e1, e2⟩ := hI k1 i (by omega) hi (by omega)
              rw [e1]
              simp only [zB_0]
              cases t with
              | false =>
                rw [if_pos rfl]
                refine hgo3 false ⟨fun e => (by cases e), fun _ => ⟨h3, fun k' i' a c e q => ?_⟩⟩
                have : k' = k1 := by omega
                subst this
                by_cases ei : i' = i
                · rw [ei] at q
                  have := e2.2 q.1
                  cases this
                · exact h4 k' i' rfl c (by omega) q
              | true =>
                rw [if_neg (by decide)]
                obtain ⟨o, f1, f2, t, f3, f4⟩ := m_canBe hy hg hs d b hr (show k1 < gZ g r by omega) (show i ≤ j by omega) (show j ≤ sL s by omega)
                rw [f1, Option.bind_some, f2, f3]
                rw [hmd, hw] at f4
                simp only [zB_0]
                cases t with
                | false =>
                  rw [if_pos rfl]
                  refine hgo3 false ⟨fun e => (by cases e), fun _ => ⟨h3, fun k' i' a c e q => ?_⟩⟩
                  have : k' = k1 := by omega
                  subst this
                  by_cases ei : i' = i
                  · rw [ei] at q
                    have := f4.2 q.2
                    cases this
                  · exact h4 k' i' rfl c (by omega) q
                | true =>
                  rw [if_neg (by decide)]
                  refine hgo3 true ⟨fun _ => ⟨i, hi, by omega, e2.1 rfl, f4.1 rfl⟩, fun e => (by cases e)⟩
        · rintro x gc ⟨h1, h2⟩
          unfold L257_a
          simp only [zI0, zI1, zI2, zI3, zI4, zI5, zI6, zI7, zI8, zJ0, zJ1, zJ2, zMM]
          rw [if_pos (by rw [zq_lt (by omega) (by omega)]; omega)]
          refine fin gc (j + 1) x ⟨h1, fun q => ?_⟩
          cases x with
          | true => rfl
          | false =>
            obtain ⟨h3, h4⟩ := h2 rfl
            cases k with
            | zero => exact absurd ⟨rfl, q⟩ h3
            | succ k1 =>
              obtain ⟨i, q1, q2, q3, q4⟩ := q
              exact absurd ⟨q3, q4⟩ (h4 k1 i rfl q1 (by omega))
      unfold L257_b
      simp only [zI0, zI1, zI2, zI3, zI4, zI5, zI6, zI7, zI8, zJ0, zJ1, zJ2, zMM]
      rw [if_neg (by rw [zq_lt (by omega) (by omega)]; omega)]
      simp (disch := omega) only [zq_e0, zq_eq]
      by_cases ek : k = 0
      · rw [if_pos ek]
        by_cases ej : j = m
        · rw [if_pos ej]
          exact inner true ⟨fun _ => ⟨ek, ej⟩, fun _ => rfl⟩
        · rw [if_neg ej]
          exact inner false ⟨fun e => (by cases e), fun e => absurd e.2 ej⟩
      · rw [if_neg ek]
        exact inner false ⟨fun e => (by cases e), fun e => absurd e.1 ek⟩
    · rintro y gb ⟨hf, hI⟩
      unfold L257_b
      simp only [zI0, zI1, zI2, zI3, zI4, zI5, zI6, zI7, zI8, zJ0, zJ1, zJ2, zMM]
      rw [if_pos (by rw [zq_lt (by omega) (by omega)]; omega), zq_add]
      exact hgo y ⟨hf, fun k' j a c e => hI k' j (by omega) c e⟩
  · rintro y ga ⟨hf, hI⟩
    have hy := zm2_fr h hf rfl
    unfold L257_c
    simp only [zI0, zI1, zI2, zI3, zI4, zI5, zI6, zI7, zI8, zJ0, zJ1, zJ2, zMM]
    rw [zr_i _ _ (by omega) (by omega), d_z hy hr, Option.bind_some, if_pos (by rw [zq_lt (by omega) (by omega)]; omega)]
    exact zw_some ⟨hf, fun k j a c e => hI k j (by omega) c e⟩
