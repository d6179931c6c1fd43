/-! laysStates when laid, laysAlive, links and expected of the reference -/
theorem b_or1 (x : Int32) : ∀ i, i < 32 → (bt (x ||| nI 1) i = true ↔ bt x i = true ∨ i = 0) := fun i hi => by
  rw [b_or, Bool.or_eq_true, b_one, decide_eq_true_eq]
theorem m_states {g : zG} {s : zSn} {μ : zzM} (h : zm2 g s μ) (hg : zwg g) (hn0 : 0 < gN g) {w : zWs} (hw : zLay g s = some w) (d : Nat) (hl : bt (μ.1 105 36) 0 = false ∨ zmSt w μ) : zw (zzf zzP zN (d + 7) 228 [.ref 105] μ) fun o => o.1.1 = zB true ∧ zfr [105, 130, 131] μ o.2 ∧ (∀ i, i ≠ 35 → i ≠ 36 → o.2.1 105 i = μ.1 105 i) ∧ zmSt w o.2 ∧ o.2.1 105 36 = μ.1 105 36 ||| nI 1 := by
  by_cases e : (μ.1 105 36 &&& nI 1) = 0
  · obtain ⟨o, e1, e2, e3, e4⟩ := m_laysStates h hg hn0 d e
    refine ⟨o, e1, ?_⟩
    rcases e4 with ⟨q, -⟩ | ⟨w', q1, q2, q3, q4⟩
    · rw [hw] at q; cases q
    · rw [hw] at q1
      cases q1
      exact ⟨q2, e2, e3, q3, q4⟩
  · rw [u_m_laysStates, if_neg e]
    simp only [zk_1, if_true]
    rw [b_and1] at e
    refine zw_some ⟨rfl, zf_refl _ _, fun _ _ _ => rfl, hl.resolve_left e, b_ext fun i hi => ?_⟩
    rw [b_or, b_one]
    by_cases ei : i = 0
    · subst ei
      cases q : bt (μ.1 105 36) 0 with
      | true => rfl
      | false => exact absurd q e
    · simp [ei]
theorem zmSt_m {w : zWs} {μ : zzM} (h : zmSt w μ) : mSt w μ := ⟨h.1.1, h.2⟩
theorem zmSt_fr {w : zWs} {μ μ' : zzM} {L : List Nat} (h : zmSt w μ) (hf : zfr L μ μ') (h35 : μ'.1 105 35 = μ.1 105 35) (hl : [130, 131].all (fun c => !L.elem c) = true) : zmSt w μ' := by
  have hn : ∀ c, c ∈ [130, 131] → L.elem c = false := fun c hc => by have := List.all_eq_true.1 hl c hc; simpa using this
  unfold zmSt zmS at h ⊢
  rw [h35, zf_l hf (hn 130 (by simp)), zf_i hf (hn 131 (by simp))]
  exact h
def alOk (g : zG) (s : zSn) (w : zWs) (μ : zzM) : Prop := ∀ n k, n ≤ sL s → k < w.1 → (¬ μ.1 137 (90 * n + k) = 0 ↔ zAl g s w n k)
theorem b_and8 (x : Int32) : ((x &&& nI 8) = 0) = (bt x 3 = false) := by
  have hb : ∀ j, j < 32 → bt (nI 8) j = decide (j = 3) := by decide +kernel
  rw [b_and0]
  refine propext ⟨fun h => ?_, fun h j hj q => ?_⟩
  · have := h 3 (by omega)
    rw [hb 3 (by omega)] at this
    cases e : bt x 3 with
    | false => rfl
    | true => exact absurd ⟨e, decide_eq_true rfl⟩ this
  · rw [hb j hj, decide_eq_true_eq] at q
    rw [q.2, h] at q
    cases q.1
theorem m_laysAlive {g : zG} {s : zSn} {μ : zzM} (h : zm2 g s μ) (hg : zwg g) (hs : zws g s) (hn0 : 0 < gN g) {w : zWs} (hw : zLay g s = some w) (d : Nat) (hl0 : bt (μ.1 105 36) 0 = false ∨ zmSt w μ) (hl1 : bt (μ.1 105 36) 1 = false ∨ mMk false g s μ) (hl3 : bt (μ.1 105 36) 3 = false ∨ (zmSt w μ ∧ mMk false g s μ ∧ alOk g s w μ)) : zw (zzf zzP zN (d + 9) 268 [.ref 105] μ) fun o => zfr [105, 130, 131, 134, 135, 137] μ o.2 ∧ (∀ p, p ≠ 35 → p ≠ 36 → o.2.1 105 p = μ.1 105 p) ∧ (∀ i, i < 32 → bt (o.2.1 105 36) i = true → bt (μ.1 105 36) i = true ∨ i = 0 ∨ i = 1 ∨ i = 3) ∧ zmSt w o.2 ∧ mMk false g s o.2 ∧ alOk g s w o.2 ∧ ∀ p, 2028 ≤ p → o.2.1 134 p = μ.1 134 p := by
  have hsl := hs.1
  have hwt := zLay_wt hw
  have hw9 := hwt.2.1
  rw [w_m_laysAlive]
  by_cases e : (μ.1 105 36 &&& nI 8) = 0
  · rw [if_pos e]
    obtain ⟨o1, a1, a2, a3, a4, a5, a6⟩ := m_states h hg hn0 hw (d + 1) hl0
    rw [a1, Option.bind_some]
    have h1 := zm2_fr h a3 rfl
    have hm1 : bt (o1.2.1 105 36) (1 + zbn false) = false ∨ mMk false g s o1.2 := by
      rcases hl1 with q | q
      · left
        rw [a6, b_or, b_one]
        show (bt (μ.1 105 36) 1 || _) = false
        rw [q]
        rfl
      · exact .inr (mMk_fr q a3 rfl)
    obtain ⟨o2, b1, b2, b3, b4, b5, b6⟩ := m_laysMade h1 hg hs d false hm1
    have b1 : zzf zzP zN (d + 8) 261 [.ref 105, .int (nI 0)] o1.2 = some o2 := b1
    rw [b1, Option.bind_some]
    have h2 := zm2_fr h1 b2 rfl
    have hS2 : zmSt w o2.2 := zmSt_fr a5 b2 (b3 35 (by omega)) rfl
    have hf2 : zfr [105, 130, 131, 134, 135, 137] μ o2.2 := zf_trans (zf_mono a3 rfl) (zf_mono b2 rfl)
    have hp2 : ∀ p, 2028 ≤ p → o2.2.1 134 p = μ.1 134 p := fun p hp => by
      rw [b6 p (by show ¬ (2028 * 0 ≤ p ∧ p < 2028 * 0 + 2028); omega), zf_i a3 rfl]
    have h105 : ∀ p, p ≠ 35 → p ≠ 36 → o2.2.1 105 p = μ.1 105 p := fun p q q' => (b3 p q').trans (a4 p q q')
    have h36 : ∀ i, i < 32 → bt (o2.2.1 105 36) i = true → bt (μ.1 105 36) i = true ∨ i = 0 ∨ i = 1 ∨ i = 3 := fun i hi q => by
      rw [b4, a6, b_or, b_or, b_one] at q
      have hb2 : bt (nI (2 * 2 ^ zbn false)) i = decide (i = 1) := (by decide +kernel : ∀ i, i < 32 → bt (nI (2 * 2 ^ zbn false)) i = decide (i = 1)) i hi
      rw [hb2] at q
      simp only [Bool.or_eq_true, decide_eq_true_eq] at q
      rcases q with (q | q) | q
      · exact .inl q
      · exact .inr (.inl q)
      · exact .inr (.inr (.inl q))
    generalize o2.2 = z0 at b5 h2 hS2 hf2 hp2 h105 h36 ⊢
    refine zl_up (fun i (y : zzM) => ([nI i], [], y)) (fun i y => zfr [137] z0 y ∧ ∀ p, p < i → (y.1 137 p = 0 ↔ ¬ p = 0)) 0 1170 z0 (by omega) (by omega) rfl ⟨zf_refl _ _, fun p a => absurd a (by omega)⟩ ?_ ?_
    · rintro i y ga - hi ⟨i1, i2⟩ hgo
      unfold L268_c
      simp only [zI0, zI1, zI2, zI3, zI4, zI5, zI6, zI7, zI8, zJ0, zJ1, zJ2, zMM]
      rw [if_neg (by rw [zq_le (by omega) (by omega)]; omega)]
      simp (disch := omega) only [zq_e0]
      have fin : ∀ b : Bool, (b = true ↔ i = 0) → zw (J268_a zN (d + 8) ga (nI i) (zB b) (nI i) y) fun o => zfr [105, 130, 131, 134, 135, 137] μ o.2 ∧ (∀ p, p ≠ 35 → p ≠ 36 → o.2.1 105 p = μ.1 105 p) ∧ (∀ i, i < 32 → bt (o.2.1 105 36) i = true → bt (μ.1 105 36) i = true ∨ i = 0 ∨ i = 1 ∨ i = 3) ∧ zmSt w o.2 ∧ mMk false g s o.2 ∧ alOk g s w o.2 ∧ ∀ p, 2028 ≤ p → o.2.1 134 p = μ.1 134 p := by
        intro b hb
        unfold J268_a
        simp only [zB_ok, if_true]
        rw [zs_i _ _ _ hi (by omega), Option.bind_some, zq_add]
        refine hgo _ ⟨zf_twI _ _ i1 rfl, fun p hp => ?_⟩
        by_cases ep : p = i
        · subst ep
          rw [zm_s, zB_0]
          cases b with
          | true => simp [hb.1 rfl]
          | false =>
            have : ¬ p = 0 := fun q => by have := hb.2 q; cases this
            simp [this]
        · rw [zm_k _ _ _ _ ep]
          exact i2 p (by omega)
      by_cases e0 : i = 0
      · rw [if_pos e0]
        exact fin true ⟨fun _ => e0, fun _ => rfl⟩
      · rw [if_neg e0]
        exact fin false ⟨fun q => (by cases q), fun q => absurd q e0⟩
    · rintro y ga ⟨i1, i2⟩
      unfold L268_c
      simp only [zI0, zI1, zI2, zI3, zI4, zI5, zI6, zI7, zI8, zJ0, zJ1, zJ2, zMM]
      rw [if_pos (by rw [zq_le (by omega) (by omega)]; omega)]
      have hnz : ∀ n k, n < 13 → k < 90 → (¬ y.1 137 (90 * n + k) = 0 ↔ n = 0 ∧ k = 0) := fun n k a b => by
        rw [i2 _ (by omega), Classical.not_not]
        omega
      refine zl_up (fun n (y : zzM) => ([nI n], [], y)) (fun n z => zfr [137] z0 z ∧ ¬ z.1 137 0 = 0 ∧ (∀ n' k, n' ≤ sL s → k < 90 → ¬ z.1 137 (90 * n' + k) = 0 → zAl g s w n' k) ∧ ∀ n' k, n' < n → n' ≤ sL s → zAl g s w n' k → ¬ z.1 137 (90 * n' + k) = 0) 0 (sL s + 1) y (by omega) (by omega) rfl ⟨i1, (hnz 0 0 (by omega) (by omega)).2 ⟨rfl, rfl⟩, fun n' k a b q => ?_, fun n' k a => absurd a (by omega)⟩ ?_ ?_
      · obtain ⟨rfl, rfl⟩ := (hnz n' k (by omega) b).1 q
        exact zAl_0 g s w
      · rintro n z gb - hn ⟨j1, j2, j3, j4⟩ hgo
        have hz := zm2_fr h2 j1 rfl
        unfold L268_b
        simp only [zI0, zI1, zI2, zI3, zI4, zI5, zI6, zI7, zI8, zJ0, zJ1, zJ2, zMM]
        rw [zr_i _ _ (by omega) (by omega), d_len hz, Option.bind_some, if_neg (by rw [zq_lt (by omega) (by omega)]; omega)]
        refine zl_ms (fun (x : Bool × zzM) => ([nI n, zB x.1], [], x.2)) (fun M x => zfr [137] z0 x.2 ∧ ¬ x.2.1 137 0 = 0 ∧ (∀ n' k, n' ≤ sL s → k < 90 → ¬ x.2.1 137 (90 * n' + k) = 0 → zAl g s w n' k) ∧ (∀ n' k, n' < n → n' ≤ sL s → zAl g s w n' k → ¬ x.2.1 137 (90 * n' + k) = 0) ∧ M + zcnt (fun p => decide (¬ x.2.1 137 p = 0)) 1170 = 1170 + zbn x.1 ∧ (x.1 = false → ∀ m k x' t', m ≤ n → k < w.1 → x' < 52 → ¬ x.2.1 137 (90 * m + k) = 0 → zEd g s w m k x' n t' → ¬ x.2.1 137 (90 * n + t') = 0)) (1171 - zcnt (fun p => decide (¬ z.1 137 p = 0)) 1170) (true, z) (by omega) rfl ⟨j1, j2, j3, j4, by have := zcnt_le (fun p => decide (¬ z.1 137 p = 0)) 1170; show _ = 1170 + 1; simp only; omega, fun q => (by cases q)⟩ ?_
        rintro M ⟨t, x⟩ gc ⟨k1, k2, k3, k4, k5, k6⟩ hgo2
        simp only at k1 k2 k3 k4 k5 k6
        have hx := zm2_fr h2 k1 rfl
        unfold L268_a
        simp only [zI0, zI1, zI2, zI3, zI4, zI5, zI6, zI7, zI8, zJ0, zJ1, zJ2, zMM]
        simp only [zB_0]
        cases t with
        | false =>
          rw [if_pos rfl, zq_add]
          refine hgo x ⟨k1, k2, k3, fun n' k a b q => ?_⟩
          by_cases en : n' < n
          · exact k4 n' k en b q
          · have en : n' = n := by omega
            subst en
            refine zAl_co (N := n') (A := fun n'' k => n'' ≤ n' → ¬ x.1 137 (90 * n'' + k) = 0) (fun _ => k2) (fun m k x' n'' t' hn'' hk hx' hA he => fun _ => ?_) (Nat.le_refl _) q (Nat.le_refl _)
            have hmn := he.1
            have hAm := hA (by omega)
            by_cases e2 : n'' = n'
            · subst e2
              exact k6 rfl m k x' t' hmn hk hx' hAm he
            · exact k4 n'' t' (by omega) (by omega) (zAl_s hk hx' (k3 m k (by omega) (by omega) hAm) he)
        | true =>
          rw [if_neg (by decide)]
          obtain ⟨o, e1, t', e2, e3, e4⟩ := m_wakes hx hg hs (mMk_fr b5 k1 rfl) hwt (mSt_fr (zmSt_m hS2) k1 rfl) (d + 4) (show n ≤ sL s by omega) k3
          rw [e1, Option.bind_some, e2]
          obtain ⟨l1, l2, l3, l4, l5, l6⟩ := e3
          have hmono : zcnt (fun p => decide (¬ x.1 137 p = 0)) 1170 ≤ zcnt (fun p => decide (¬ o.2.1 137 p = 0)) 1170 := zcnt_mono fun p _ => by
            rw [decide_eq_true_eq, decide_eq_true_eq]
            exact l2 _
          have hle := zcnt_le (fun p => decide (¬ o.2.1 137 p = 0)) 1170
          have k5 : M + zcnt (fun p => decide (¬ x.1 137 p = 0)) 1170 = 1170 + 1 := k5
          have hM : 1170 + zbn t' - zcnt (fun p => decide (¬ o.2.1 137 p = 0)) 1170 < M := by
            cases t' with
            | false =>
              show 1170 + 0 - _ < M
              omega
            | true =>
              have hlt := zcnt_lt (n := 1170) (p := fun p => decide (¬ x.1 137 p = 0)) (q := fun p => decide (¬ o.2.1 137 p = 0)) (fun p _ => by
                rw [decide_eq_true_eq, decide_eq_true_eq]
                exact l2 _) (by
                obtain ⟨p, a, c, f⟩ := l5 rfl
                exact ⟨p, a, decide_eq_false (fun q => q c), decide_eq_true f⟩)
              show 1170 + 1 - _ < M
              omega
          refine hgo2 (1170 + zbn t' - zcnt (fun p => decide (¬ o.2.1 137 p = 0)) 1170) (t', o.2) hM ⟨zf_trans k1 l1, l2 0 k2, l4, fun n' k a b q => ?_, ?_, fun q m k x' t1 a b c f f' => ?_⟩
          · have hk := zAl_lt hwt q
            exact (l3 n' k (by omega) (by omega) (by omega)).2 (k4 n' k a b q)
          · have hzt := zbn_le t'
            show 1170 + zbn t' - _ + _ = _
            simp only
            omega
          · have q : t' = false := q
            have f : ¬ o.2.1 137 (90 * m + k) = 0 := f
            show ¬ o.2.1 137 (90 * n + t1) = 0
            rw [l6 q] at f ⊢
            exact e4 q m k x' t1 a b c f f'
      · rintro z gb ⟨j1, j2, j3, j4⟩
        have hz := zm2_fr h2 j1 rfl
        unfold L268_b
        simp only [zI0, zI1, zI2, zI3, zI4, zI5, zI6, zI7, zI8, zJ0, zJ1, zJ2, zMM]
        rw [zr_i _ _ (by omega) (by omega), d_len hz, Option.bind_some, if_pos (by rw [zq_lt (by omega) (by omega)]; omega)]
        have hfz : zfr [105, 130, 131, 134, 135, 137] μ (zzwI z 105 36 (z.1 105 36 ||| nI 8)) := zf_twI _ _ (zf_trans hf2 (zf_mono j1 rfl)) rfl
        have hf3 : zfr [105, 137] z0 (zzwI z 105 36 (z.1 105 36 ||| nI 8)) := zf_twI _ _ (zf_mono j1 rfl) rfl
        refine zw_some ⟨hfz, fun p q q' => ?_, fun i hi q => ?_, ?_, mMk_fr b5 hf3 rfl, fun n k a b => ⟨fun q => ?_, fun q => ?_⟩, fun p hp => ?_⟩
        · rw [zm_k _ _ _ _ q', zf_i j1 rfl]
          exact h105 p q q'
        · rw [zm_s, zf_i j1 rfl, b_or, (by decide +kernel : ∀ i, i < 32 → bt (nI 8) i = decide (i = 3)) i hi, Bool.or_eq_true, decide_eq_true_eq] at q
          rcases q with q | q
          · exact h36 i hi q
          · exact .inr (.inr (.inr q))
        · exact zmSt_fr hS2 hf3 (by rw [zm_k _ _ _ _ (by omega), zf_i j1 rfl]) rfl
        · rw [zm_c _ _ _ (by omega)] at q
          exact j3 n k a (by omega) q
        · rw [zm_c _ _ _ (by omega)]
          exact j4 n k (by omega) a q
        · rw [zm_c _ _ _ (by omega), zf_i j1 rfl]
          exact hp2 p hp
  · rw [if_neg e]
    rw [b_and8] at e
    obtain ⟨q1, q2, q3⟩ := hl3.resolve_left e
    exact zw_some ⟨zf_refl _ _, fun _ _ _ => rfl, fun i _ q => .inl q, q1, q2, q3, fun _ _ => rfl⟩
