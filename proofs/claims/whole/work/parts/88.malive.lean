/-! STATES THAT ARE ALIVE: the reference's laysAlive -/
def mGr (g : zG) (s : zSn) (w : zWs) (n : Nat) (μ y : zzM) (t : Bool) : Prop := zfr [137] μ y ∧ (∀ p, ¬ μ.1 137 p = 0 → ¬ y.1 137 p = 0) ∧ (∀ n' k, n' < 13 → k < 90 → n' ≠ n → (¬ y.1 137 (90 * n' + k) = 0 ↔ ¬ μ.1 137 (90 * n' + k) = 0)) ∧ (∀ n' k, n' ≤ sL s → k < 90 → ¬ y.1 137 (90 * n' + k) = 0 → zAl g s w n' k) ∧ (t = true → ∃ p, p < 1170 ∧ μ.1 137 p = 0 ∧ ¬ y.1 137 p = 0) ∧ (t = false → ∀ p, y.1 137 p = 0 ↔ μ.1 137 p = 0)
theorem mGr_r {g : zG} {s : zSn} {w : zWs} {n : Nat} {μ : zzM} (h : ∀ n' k, n' ≤ sL s → k < 90 → ¬ μ.1 137 (90 * n' + k) = 0 → zAl g s w n' k) : mGr g s w n μ μ false := ⟨zf_refl _ _, fun _ q => q, fun _ _ _ _ _ => Iff.rfl, h, fun q => (by cases q), fun _ _ => Iff.rfl⟩
theorem mGr_t {g : zG} {s : zSn} {w : zWs} {n : Nat} {μ y z : zzM} {t t' : Bool} (h : mGr g s w n μ y t) (h' : mGr g s w n y z t') : mGr g s w n μ z (t || t') := by
  obtain ⟨a1, a2, a3, a4, a5, a6⟩ := h
  obtain ⟨b1, b2, b3, b4, b5, b6⟩ := h'
  refine ⟨zf_trans a1 b1, fun p q => b2 p (a2 p q), fun n' k e f f' => (b3 n' k e f f').trans (a3 n' k e f f'), b4, fun q => ?_, fun q => ?_⟩
  · cases t with
    | true =>
      obtain ⟨p, e1, e2, e3⟩ := a5 rfl
      exact ⟨p, e1, e2, b2 p e3⟩
    | false =>
      obtain ⟨p, e1, e2, e3⟩ := b5 (by simpa using q)
      exact ⟨p, e1, (a6 rfl p).1 e2, e3⟩
  · cases t with
    | true => cases q
    | false => exact fun p => (b6 (by simpa using q) p).trans (a6 rfl p)
/-- the cells that the reference's rounds read -/
def mSt (w : zWs) (μ : zzM) : Prop := μ.1 105 35 = nI w.1 ∧ ∀ k c, k < w.1 → c < 52 → μ.1 131 (52 * k + c) = zgv (w.2.2 k c)
theorem mSt_fr {w : zWs} {μ μ' : zzM} {L : List Nat} (h : mSt w μ) (hf : zfr L μ μ') (hl : [105, 131].all (fun c => !L.elem c) = true) : mSt w μ' := by
  have hn : ∀ c, c ∈ [105, 131] → L.elem c = false := fun c hc => by have := List.all_eq_true.1 hl c hc; simpa using this
  unfold mSt at h ⊢
  rw [zf_i hf (hn 105 (by simp)), zf_i hf (hn 131 (by simp))]
  exact h
theorem mMk_fr {b : Bool} {g : zG} {s : zSn} {μ : zzM} {μ' : zzM} {L : List Nat} (h : mMk b g s μ) (hf : zfr L μ μ') (hl : L.elem 134 = false) : mMk b g s μ' := by
  unfold mMk mMd at h ⊢
  rw [zf_i hf hl]
  exact h
theorem m_wakesFrom {g : zG} {s : zSn} {μ : zzM} (h : zm2 g s μ) (hg : zwg g) (hs : zws g s) (hk : mMk false g s μ) {w : zWs} (hw : zwt w) (hS : mSt w μ) (d : Nat) {m k n : Nat} (hm : m ≤ n) (hn : n ≤ sL s) (hkw : k < w.1) (hal : zAl g s w m k) (hso : ∀ n' k, n' ≤ sL s → k < 90 → ¬ μ.1 137 (90 * n' + k) = 0 → zAl g s w n' k) : zw (zzf zzP zN (d + 3) 266 [.ref 105, .int (nI m), .int (nI k), .int (nI n)] μ) fun o => ∃ t, o.1.1 = zB t ∧ mGr g s w n μ o.2 t ∧ ∀ x t', x < 52 → zEd g s w m k x n t' → ¬ o.2.1 137 (90 * n + t') = 0 := by
  have hsl := hs.1
  have hw9 := hw.2.1
  rw [w_m_wakesFrom]
  refine zl_up (fun x (z : Bool × zzM) => ([nI m, nI k, nI n, zB z.1, nI x], [], z.2)) (fun x z => mGr g s w n μ z.2 z.1 ∧ ∀ x' t', x' < x → zEd g s w m k x' n t' → ¬ z.2.1 137 (90 * n + t') = 0) 0 52 (false, μ) (by omega) (by omega) rfl ⟨mGr_r hso, fun x' t' q => absurd q (by omega)⟩ ?_ ?_
  · rintro x ⟨t, y⟩ ga - hx ⟨hG, hC⟩ hgo
    simp only at hG hC
    have hSy := mSt_fr hS hG.1 rfl
    have hy := zm2_fr h hG.1 rfl
    have hky := mMk_fr hk hG.1 rfl
    unfold L266_a
    simp only [zI0, zI1, zI2, zI3, zI4, zI5, zI6, zI7, zI8, zJ0, zJ1, zJ2, zMM]
    simp only [zq_mul, zq_add]
    rw [if_neg (by rw [zq_le (by omega) (by omega)]; omega), zr_i _ _ (by omega) (by omega), Option.bind_some, hSy.2 k x hkw hx]
    cases ht : w.2.2 k x with
    | none =>
      rw [if_pos (show zgv none = -(nI 1) from rfl)]
      refine hgo (t, y) ⟨hG, fun x' t' a b => ?_⟩
      by_cases e : x' = x
      · subst e
        have := b.2.1
        rw [ht] at this
        cases this
      · exact hC x' t' (by omega) b
    | some t1 =>
      have ht1 := hw.2.2 _ _ _ ht
      rw [if_neg (show ¬ zgv (some t1) = -(nI 1) by show ¬ nI t1 = _; rw [zq_em (by omega)]; exact id)]
      show zw ((zzri y 137 1170 (nI (90 * n) + nI t1)).bind _) _
      rw [zq_add, zr_i _ _ (by omega) (by omega), Option.bind_some]
      by_cases e0 : y.1 137 (90 * n + t1) = 0
      · rw [if_pos e0]
        obtain ⟨o, e1, e2, b, e3, e4⟩ := m_isMadeOf hy hg hs hky d hx hm hn
        rw [e1, Option.bind_some, e2, e3]
        simp only [zB_0, zk_1, if_true]
        cases b with
        | false =>
          rw [if_pos rfl]
          refine hgo (t, y) ⟨hG, fun x' t' a b => ?_⟩
          by_cases e : x' = x
          · subst e
            have := e4.2 b.2.2
            cases this
          · exact hC x' t' (by omega) b
        | true =>
          rw [if_neg (by decide)]
          show zw ((zzsi y 137 1170 (nI (90 * n) + nI t1) (nI 1)).bind _) _
          rw [zq_add, zs_i _ _ _ (by omega) (by omega), Option.bind_some]
          have hne : ¬ (zzwI y 137 (90 * n + t1) (nI 1)).1 137 (90 * n + t1) = 0 := by
            rw [zm_s]
            decide
          have hed : zEd g s w m k x n t1 := ⟨hm, ht, e4.1 rfl⟩
          have hG' : mGr g s w n y (zzwI y 137 (90 * n + t1) (nI 1)) true := by
            refine ⟨zf_wI _ _ rfl, fun p q => ?_, fun n' k' a b c => ?_, fun n' k' a b q => ?_, fun _ => ⟨90 * n + t1, by omega, e0, hne⟩, fun q => (by cases q)⟩
            · by_cases e : p = 90 * n + t1
              · rw [e]; exact hne
              · rw [zm_k _ _ _ _ e]; exact q
            · rw [zm_k _ _ _ _ (by omega)]
            · by_cases e : 90 * n' + k' = 90 * n + t1
              · have e5 : n' = n := by omega
                have e6 : k' = t1 := by omega
                rw [e5, e6]
                exact zAl_s hkw hx hal hed
              · rw [zm_k _ _ _ _ e] at q
                exact hG.2.2.2.1 n' k' a b q
          have hG2 := mGr_t hG hG'
          rw [Bool.or_true] at hG2
          refine hgo (true, _) ⟨hG2, fun x' t' a b => ?_⟩
          by_cases e : x' = x
          · subst e
            rw [zEd_un b hed]
            exact hne
          · exact hG'.2.1 _ (hC x' t' (by omega) b)
      · rw [if_neg e0]
        refine hgo (t, y) ⟨hG, fun x' t' a b => ?_⟩
        by_cases e : x' = x
        · subst e
          have := b.2.1
          rw [ht] at this
          cases this
          exact e0
        · exact hC x' t' (by omega) b
  · rintro ⟨t, y⟩ ga ⟨hG, hC⟩
    simp only at hG hC
    unfold L266_a
    simp only [zI0, zI1, zI2, zI3, zI4, zI5, zI6, zI7, zI8, zJ0, zJ1, zJ2, zMM]
    rw [if_pos (by rw [zq_le (by omega) (by omega)]; omega)]
    simp only [zB_ok, if_true]
    exact zw_some ⟨t, rfl, hG, hC⟩
theorem m_wakes {g : zG} {s : zSn} {μ : zzM} (h : zm2 g s μ) (hg : zwg g) (hs : zws g s) (hk : mMk false g s μ) {w : zWs} (hw : zwt w) (hS : mSt w μ) (d : Nat) {n : Nat} (hn : n ≤ sL s) (hso : ∀ n' k, n' ≤ sL s → k < 90 → ¬ μ.1 137 (90 * n' + k) = 0 → zAl g s w n' k) : zw (zzf zzP zN (d + 4) 267 [.ref 105, .int (nI n)] μ) fun o => ∃ t, o.1.1 = zB t ∧ mGr g s w n μ o.2 t ∧ (t = false → ∀ m k x t', m ≤ n → k < w.1 → x < 52 → ¬ μ.1 137 (90 * m + k) = 0 → zEd g s w m k x n t' → ¬ μ.1 137 (90 * n + t') = 0) := by
  have hsl := hs.1
  have hw9 := hw.2.1
  rw [w_m_wakes]
  refine zl_up (fun m (z : Bool × zzM) => ([nI n, zB z.1, nI m], [], z.2)) (fun m z => mGr g s w n μ z.2 z.1 ∧ (z.1 = false → ∀ m' k x t', m' < m → k < w.1 → x < 52 → ¬ μ.1 137 (90 * m' + k) = 0 → zEd g s w m' k x n t' → ¬ μ.1 137 (90 * n + t') = 0)) 0 (n + 1) (false, μ) (by omega) (by omega) rfl ⟨mGr_r hso, fun _ m' k x t' q => absurd q (by omega)⟩ ?_ ?_
  · rintro m ⟨t, y⟩ ga - hm ⟨hG, hC⟩ hgo
    simp only at hG hC
    unfold L267_b
    simp only [zI0, zI1, zI2, zI3, zI4, zI5, zI6, zI7, zI8, zJ0, zJ1, zJ2, zMM]
    rw [if_neg (by rw [zq_lt (by omega) (by omega)]; omega)]
    refine zl_up (fun k (z : Bool × zzM) => ([nI n, zB z.1, nI m, nI k], [], z.2)) (fun k z => mGr g s w n μ z.2 z.1 ∧ (z.1 = false → ∀ m' k' x t', (m' < m ∨ (m' = m ∧ k' < k)) → k' < w.1 → x < 52 → ¬ μ.1 137 (90 * m' + k') = 0 → zEd g s w m' k' x n t' → ¬ μ.1 137 (90 * n + t') = 0)) 0 w.1 (t, y) (by omega) (by omega) rfl ⟨hG, fun q m' k' x t' a => hC q m' k' x t' (by omega)⟩ ?_ ?_
    · rintro k ⟨t, y⟩ gb - hkw ⟨hG, hC⟩ hgo2
      simp only at hG hC
      have hSy := mSt_fr hS hG.1 rfl
      have hy := zm2_fr h hG.1 rfl
      have hky := mMk_fr hk hG.1 rfl
      unfold L267_a
      simp only [zI0, zI1, zI2, zI3, zI4, zI5, zI6, zI7, zI8, zJ0, zJ1, zJ2, zMM]
      simp only [zq_mul, zq_add]
      rw [hSy.1, if_neg (by rw [zq_le (by omega) (by omega)]; omega), zr_i _ _ (by omega) (by omega), Option.bind_some]
      by_cases e0 : y.1 137 (90 * m + k) = 0
      · rw [if_pos e0]
        refine hgo2 (t, y) ⟨hG, fun q m' k' x t' a b c f f' => ?_⟩
        by_cases e : m' = m ∧ k' = k
        · obtain ⟨rfl, rfl⟩ := e
          exact absurd e0 (hG.2.1 _ f)
        · exact hC q m' k' x t' (by omega) b c f f'
      · rw [if_neg e0]
        have hal := hG.2.2.2.1 m k (by omega) (by omega) e0
        obtain ⟨o, e1, t', e2, e3, e4⟩ := m_wakesFrom hy hg hs hky hw hSy d (show m ≤ n by omega) hn hkw hal hG.2.2.2.1
        rw [e1, Option.bind_some, e2]
        simp only [zB_0]
        have hG2 := mGr_t hG e3
        have fin : zw (gb ([nI n, zB (t || t'), nI m, nI (k + 1)], [], o.2)) fun o => ∃ t, o.1.1 = zB t ∧ mGr g s w n μ o.2 t ∧ (t = false → ∀ m k x t', m ≤ n → k < w.1 → x < 52 → ¬ μ.1 137 (90 * m + k) = 0 → zEd g s w m k x n t' → ¬ μ.1 137 (90 * n + t') = 0) := by
          refine hgo2 (t || t', o.2) ⟨hG2, fun q m' k' x t1 a b c f f' => ?_⟩
          have q : (t || t') = false := q
          rw [Bool.or_eq_false_iff] at q
          by_cases e : m' = m ∧ k' = k
          · obtain ⟨rfl, rfl⟩ := e
            have := e4 x t1 c f'
            intro q'
            exact this ((e3.2.2.2.2.2 q.2 _).2 ((hG.2.2.2.2.2 q.1 _).2 q'))
          · exact hC q.1 m' k' x t1 (by omega) b c f f'
        cases t' with
        | false =>
          rw [if_pos rfl]
          cases t with
          | false => rw [if_pos rfl]; exact fin
          | true => rw [if_neg (by decide)]; exact fin
        | true =>
          rw [if_neg (by decide)]
          rw [Bool.or_true] at fin
          exact fin
    · rintro ⟨t, y⟩ gb ⟨hG, hC⟩
      simp only at hG hC
      have hSy := mSt_fr hS hG.1 rfl
      unfold L267_a
      simp only [zI0, zI1, zI2, zI3, zI4, zI5, zI6, zI7, zI8, zJ0, zJ1, zJ2, zMM]
      rw [hSy.1, if_pos (by rw [zq_le (by omega) (by omega)]; omega), zq_add]
      exact hgo (t, y) ⟨hG, fun q m' k' x t' a b => hC q m' k' x t' (by omega) b⟩
  · rintro ⟨t, y⟩ ga ⟨hG, hC⟩
    simp only at hG hC
    unfold L267_b
    simp only [zI0, zI1, zI2, zI3, zI4, zI5, zI6, zI7, zI8, zJ0, zJ1, zJ2, zMM]
    rw [if_pos (by rw [zq_lt (by omega) (by omega)]; omega)]
    simp only [zB_ok, if_true]
    exact zw_some ⟨t, rfl, hG, fun q m k x t' a => hC q m k x t' (by omega)⟩
