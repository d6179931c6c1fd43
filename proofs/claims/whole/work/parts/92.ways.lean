/-! WAYS: how many rows of places there are through a right side; the class's howManyWays -/
noncomputable def zWy (w : Nat → Nat → Nat → Prop) (m : Nat) : Nat → Nat → Nat
  | 0, j => if j = m then 1 else 0
  | k + 1, j => zsuM (fun i => if zdc (m ≤ i ∧ w k i j) then zWy w m k i else 0) (j + 1)
theorem zWy_cg {w w' : Nat → Nat → Nat → Prop} {m : Nat} : ∀ {k j : Nat}, (∀ k' i' j', k' < k → m ≤ i' → i' ≤ j' → j' ≤ j → (w k' i' j' ↔ w' k' i' j')) → zWy w m k j = zWy w' m k j
  | 0, _, _ => rfl
  | k + 1, j, h => zsuM_cg fun i hi => by
    by_cases e : m ≤ i
    · have e1 : (m ≤ i ∧ w k i j) ↔ (m ≤ i ∧ w' k i j) := and_congr Iff.rfl (h k i j (by omega) e (by omega) (Nat.le_refl _))
      rw [zdc_cg e1, zWy_cg (k := k) (j := i) fun k' i' j' a b c f => h k' i' j' (by omega) b c (by omega)]
    · rw [zdc_f.2 fun q => e q.1, zdc_f.2 fun q => e q.1]
      rfl
theorem zsuM_mul {f : Nat → Nat} {B : Nat} : ∀ {n : Nat}, (∀ i, i < n → f i ≤ B) → zsuM f n ≤ n * B
  | 0, _ => Nat.zero_le _
  | n + 1, h => by
    have h1 := zsuM_mul (n := n) fun i hi => h i (by omega)
    have h2 := h n (by omega)
    unfold zsuM
    rw [Nat.add_mul]
    omega
theorem zWy_le {w : Nat → Nat → Nat → Prop} {m : Nat} : ∀ {k j : Nat}, j ≤ 12 → zWy w m k j ≤ 13 ^ k
  | 0, j, _ => by
    unfold zWy
    split <;> omega
  | k + 1, j, hj => by
    refine Nat.le_trans (zsuM_mul (B := 13 ^ k) fun i hi => ?_) ?_
    · split
      · exact zWy_le (by omega)
      · exact Nat.zero_le _
    · rw [Nat.pow_succ, Nat.mul_comm]
      exact Nat.mul_le_mul_left _ (by omega)
theorem zWy_b {w : Nat → Nat → Nat → Prop} {m k j : Nat} (hk : k ≤ 4) (hj : j ≤ 12) : zWy w m k j ≤ 28561 := Nat.le_trans (zWy_le hj) (Nat.pow_le_pow_right (by omega) hk)
theorem b_shr0 {x : Int32} {j : Nat} (hj : j < 32) : ((x >>> (nI j &&& 31)) = 0) ↔ ∀ i, j ≤ i → i < 32 → bt x i = false := by
  constructor
  · intro h i h1 h2
    have := b_sshr j hj x (i := i - j) (by omega)
    rw [h, b_0, if_pos (by omega), show j + (i - j) = i by omega] at this
    exact this.symm
  · intro h
    refine b_ext fun i hi => ?_
    rw [b_sshr j hj x hi, b_0]
    split
    · exact h _ (by omega) (by omega)
    · exact h 31 (by omega) (by omega)
theorem zWy_lt {w : Nat → Nat → Nat → Prop} {m : Nat} : ∀ {k j : Nat}, j < m → zWy w m k j = 0
  | 0, j, h => if_neg (by omega)
  | k + 1, j, h => zsuM_0 fun i hi => by rw [zdc_f.2 fun q => by omega]; rfl
/-- begins from t on -/
noncomputable def zF (u : Nat → Nat → Prop) (R : Nat → Nat) (t j : Nat) : Nat := zsuM (fun i' => if zdc (t ≤ i' ∧ u i' j) then R i' else 0) (j + 1)
theorem zF_0 {u : Nat → Nat → Prop} {R : Nat → Nat} {t j : Nat} (h : j < t) : zF u R t j = 0 := zsuM_0 fun i' hi' => by rw [zdc_f.2 fun q => by omega]; rfl
theorem zF_s {u : Nat → Nat → Prop} {R : Nat → Nat} {i j : Nat} (h : i ≤ j) : zF u R i j = zF u R (i + 1) j + (if zdc (u i j) then R i else 0) := by
  refine zsuM_1 (c := i) (by omega) ?_ fun k _ hk => ?_
  · rw [show zdc (i + 1 ≤ i ∧ u i j) = false from zdc_f.2 (fun q => by omega), zdc_cg (p := i ≤ i ∧ u i j) (q := u i j) ⟨fun q => q.2, fun q => ⟨Nat.le_refl _, q⟩⟩]
    simp
  · rw [zdc_cg (p := i ≤ k ∧ u k j) (q := i + 1 ≤ k ∧ u k j) ⟨fun q => ⟨by omega, q.2⟩, fun q => ⟨by omega, q.2⟩⟩]
theorem zF_b {u : Nat → Nat → Prop} {R : Nat → Nat} {t j B : Nat} (hj : j ≤ 12) (hR : ∀ i, i ≤ j → R i ≤ B) : zF u R t j ≤ 13 * B := by
  refine Nat.le_trans (zsuM_mul (B := B) fun i hi => ?_) (Nat.mul_le_mul_right _ (by omega))
  split
  · exact hR i (by omega)
  · exact Nat.zero_le _
theorem s_goOnWith {g : zG} {s : zSn} {μ : zzM} (hg : zwg g) (hc : cCf true 36 37 38 39 g s μ) (hsl : sL s ≤ 12) (d : Nat) {r k i n : Nat} (hr : r < gN g) (hk : k < gZ g r) (hi : i ≤ n) (hn : n ≤ sL s) {R : Nat → Nat} (hR : ∀ j, j ≤ n → μ.1 40 j = nI (R j)) (hb : ∀ j, j ≤ n → R j < 2147483648) : zw (zzf zzP zN (d + 2) 67 [.ref 36, .int (nI r), .int (nI k), .int (nI i), .int (nI n)] μ) fun o => zfr [40] μ o.2 ∧ ∀ j, j ≤ n → o.2.1 40 j = nI ((if j = i then 0 else R j) + (if zdc (i ≤ j ∧ zCB true g s (zM true g s) r k i j) then R i else 0)) := by
  rw [u_chart_goOnWith, zr_i _ _ (by omega) (by omega), Option.bind_some, zs_i _ _ _ (by omega) (by omega), Option.bind_some, hR i hi]
  have main : ∀ (B : Int32) (z : zzM), zfr [40] μ z → (∀ j, j ≤ n → z.1 40 j = nI (if j = i then 0 else R j)) → (∀ j, j < 32 → (bt B j = true → i ≤ j ∧ j ≤ n)) → (∀ j, j ≤ n → (if bt B j then R i else 0) = (if zdc (i ≤ j ∧ zCB true g s (zM true g s) r k i j) then R i else 0)) → zw (zzl (fun v4 g5 => if (zi0 v4) < (zi3 v4) then some ((0, 0, 0), (zm v4)) else if ((zi2 v4) >>> ((zi3 v4) &&& 31)) = 0 then some ((0, 0, 0), (zm v4)) else if (((zi2 v4) >>> ((zi3 v4) &&& 31)) &&& (nI 1)) = 0 then g5 ([(zi0 v4), (zi1 v4), (zi2 v4), ((zi3 v4) + nI 1)], [], (zm v4)) else (zzri (zm v4) 40 13 (zi3 v4)).bind fun x6 => (zzsi (zm v4) 40 13 (zi3 v4) (x6 + (zi1 v4))).bind fun m7 => g5 ([(zi0 v4), (zi1 v4), (zi2 v4), ((zi3 v4) + nI 1)], [], m7)) zN ([nI n, nI (R i), B, nI i], [], z)) fun o => zfr [40] μ o.2 ∧ ∀ j, j ≤ n → o.2.1 40 j = nI ((if j = i then 0 else R j) + (if zdc (i ≤ j ∧ zCB true g s (zM true g s) r k i j) then R i else 0)) := by
    intro B z hf hz hB hB2
    refine zl_up (fun j (y : zzM) => ([nI n, nI (R i), B, nI j], [], y)) (fun j y => zfr [40] μ y ∧ ∀ j', j' ≤ n → y.1 40 j' = nI ((if j' = i then 0 else R j') + (if j' < j ∧ bt B j' = true then R i else 0))) i (n + 1) z (by omega) (by omega) rfl ⟨hf, fun j' hj' => ?_⟩ ?_ ?_
    · rw [hz j' hj', if_neg (c := j' < i ∧ bt B j' = true) (fun q => by have := hB j' (by omega) q.2; omega), Nat.add_zero]
    · rintro j y ga hj hjn ⟨i1, i2⟩ hgo
      simp only [zI0, zI1, zI2, zI3, zI4, zI5, zI6, zI7, zI8, zJ0, zJ1, zJ2, zMM]
      rw [if_neg (by rw [zq_lt (by omega) (by omega)]; omega)]
      simp (disch := omega) only [b_bit, zq_add]
      by_cases e : (B >>> (nI j &&& 31)) = 0
      · rw [if_pos e]
        rw [b_shr0 (by omega)] at e
        refine zw_some ⟨i1, fun j' hj' => ?_⟩
        rw [i2 j' hj', ← hB2 j' hj']
        congr 2
        by_cases e1 : j' < j
        · simp only [e1, true_and]
        · rw [if_neg (c := j' < j ∧ bt B j' = true) (fun q => e1 q.1), e j' (by omega) (by omega)]
          rfl
      · rw [if_neg e]
        have step : ∀ y', zfr [40] μ y' → (∀ j', j' ≤ n → j' ≠ j → y'.1 40 j' = y.1 40 j') → y'.1 40 j = nI ((if j = i then 0 else R j) + (if bt B j = true then R i else 0)) → zfr [40] μ y' ∧ ∀ j', j' ≤ n → y'.1 40 j' = nI ((if j' = i then 0 else R j') + (if j' < j + 1 ∧ bt B j' = true then R i else 0)) := fun y' f1 f2 f3 => ⟨f1, fun j' hj' => by
          by_cases e1 : j' = j
          · subst e1
            rw [f3]
            simp
          · rw [f2 j' hj' e1, i2 j' hj']
            have : (j' < j + 1) = (j' < j) := propext (by omega)
            simp only [this]⟩
        have hyj : y.1 40 j = nI (if j = i then 0 else R j) := by
          rw [i2 j (by omega), if_neg (c := j < j ∧ bt B j = true) (fun q => by omega), Nat.add_zero]
        cases hbj : bt B j with
        | false =>
          rw [if_pos rfl]
          refine hgo y (step y i1 (fun _ _ _ => rfl) ?_)
          rw [hyj, hbj]
          simp
        | true =>
          rw [if_neg (by decide), zr_i _ _ (by omega) (by omega), Option.bind_some, zs_i _ _ _ (by omega) (by omega), Option.bind_some, hyj, zq_add]
          refine hgo _ (step _ (zf_twI _ _ i1 rfl) (fun j' _ h' => zm_k _ _ _ _ h') ?_)
          rw [zm_s, hbj]
          simp
    · rintro y ga ⟨i1, i2⟩
      simp only [zI0, zI1, zI2, zI3, zI4, zI5, zI6, zI7, zI8, zJ0, zJ1, zJ2, zMM]
      rw [if_pos (by rw [zq_lt (by omega) (by omega)]; omega)]
      refine zw_some ⟨i1, fun j' hj' => ?_⟩
      rw [i2 j' hj', ← hB2 j' hj']
      have : (j' < n + 1) = True := eq_true (by omega)
      simp only [this, true_and]
  have hz1 : ∀ j, j ≤ n → (zzwI μ 40 i (nI 0)).1 40 j = nI (if j = i then 0 else R j) := fun j hj => by
    rw [zm_if]
    by_cases e : j = i
    · rw [if_pos e, if_pos e]
    · rw [if_neg e, if_neg e]
      exact hR j hj
  have hbi := hb i hi
  simp (disch := omega) only [zq_e0]
  by_cases e0 : R i = 0
  · rw [if_pos e0]
    refine main (nI 0) _ (zf_wI _ _ rfl) hz1 (fun j _ q => by rw [b_z] at q; cases q) (fun j hj => ?_)
    rw [e0]
    simp
  · rw [if_neg e0]
    have hc' := cCf_fr hc (zf_wI (L := [40]) (μ := μ) (c := 40) i (nI 0) rfl) rfl
    obtain ⟨o, e1, e2, e3⟩ := s_endsOf hg hc' hsl d hr hk hi hn
    rw [e1, Option.bind_some, e2]
    refine main o.1.1 _ (zf_wI _ _ rfl) hz1 (fun j hj q => ⟨((e3 j hj).1 q).1, ((e3 j hj).1 q).2.1⟩) (fun j hj => ?_)
    have h3 := e3 j (by omega)
    by_cases q : i ≤ j ∧ zCB true g s (zM true g s) r k i j
    · rw [zdc_t.2 q, h3.2 ⟨q.1, hj, q.2⟩]
    · rw [zdc_f.2 q]
      cases hbj : bt o.1.1 j with
      | false => rfl
      | true => exact absurd ⟨(h3.1 hbj).1, (h3.1 hbj).2.2⟩ q
noncomputable def zWays (g : zG) (s : zSn) (r m n : Nat) : Nat := if zon g s r then zWy (zCB true g s (zM true g s) r) m (gZ g r) n else 0
theorem s_ways {g : zG} {s : zSn} {μ : zzM} (h : zc2 g s μ) (hg : zwg g) (hc : cCf true 36 37 38 39 g s μ) (hsl : sL s ≤ 12) (d : Nat) {r m n : Nat} (hr : r < gN g) (hm : m ≤ n) (hn : n ≤ sL s) : zw (zzf zzP zN (d + 3) 66 [.ref 36, .int (nI r), .int (nI m), .int (nI n)] μ) fun o => zfr [40] μ o.2 ∧ o.1.1 = nI (zWays g s r m n) := by
  have hgn := g_n hg
  have hz := g_z hg hr
  rw [u_chart_howManyWays, s_isTold h hg _ (by omega), Option.bind_some]
  simp only [zB_0]
  unfold zWays
  cases hon : zon g s r with
  | false =>
    rw [if_pos rfl]
    exact zw_some ⟨zf_refl _ _, rfl⟩
  | true =>
    rw [if_neg (by decide), s_fill_40, Option.bind_some, zs_i _ _ _ (by omega) (by omega), Option.bind_some, if_pos rfl]
    generalize hw : zCB true g s (zM true g s) r = w
    refine zl_up (fun k (y : zzM) => ([nI r, nI m, nI n, nI k], [], y)) (fun k y => zfr [40] μ y ∧ ∀ j, j ≤ n → y.1 40 j = nI (zWy w m k j)) 0 (gZ g r) _ (by omega) (by omega) rfl ⟨zf_twI _ _ (zf_b _ _ _ rfl) rfl, fun j hj => ?_⟩ ?_ ?_
    · rw [zm_if]
      show _ = nI (if j = m then 1 else 0)
      by_cases e : j = m
      · rw [if_pos e, if_pos e]
      · rw [if_neg e, if_neg e, zb_i _ _ _ (Nat.zero_le _) (by omega)]
    · rintro k y ga - hk ⟨i1, i2⟩ hgo
      have hy := zc2_fr h i1 rfl
      simp only [zI0, zI1, zI2, zI3, zI4, zI5, zI6, zI7, zI8, zJ0, zJ1, zJ2, zMM]
      rw [zr_i _ _ (by omega) (by omega), c_z hy hr, Option.bind_some, if_neg (by rw [zq_le (by omega) (by omega)]; omega)]
      refine zl_dn (fun i (y : zzM) => ([nI r, nI m, nI n, nI k, nJ i], [], y)) (fun i y => zfr [40] μ y ∧ ∀ j, j ≤ n → y.1 40 j = nI ((if j < i then zWy w m k j else 0) + zF (w k) (zWy w m k) i j)) m (n + 1) y (by omega) (by omega) (by rw [nJ_s]) ⟨i1, fun j hj => ?_⟩ ?_ ?_
      · rw [i2 j hj, if_pos (by omega), zF_0 (by omega)]
        rfl
      · rintro i y gb hi hin ⟨j1, j2⟩ hgo2
        have hcy := cCf_fr hc j1 rfl
        simp only [zI0, zI1, zI2, zI3, zI4, zI5, zI6, zI7, zI8, zJ0, zJ1, zJ2, zMM]
        rw [nJ_s, if_neg (by rw [zq_lt (by omega) (by omega)]; omega)]
        have hold : ∀ j, j ≤ n → zWy w m k j ≤ 28561 := fun j hj => zWy_b (by omega) (by omega)
        obtain ⟨o, e1, e2, e3⟩ := s_goOnWith hg hcy hsl d hr hk (show i ≤ n by omega) hn j2 (fun j hj => by
          have h1 := hold j hj
          have h2 := zF_b (u := w k) (R := zWy w m k) (t := i + 1) (j := j) (B := 28561) (by omega) fun i hi => hold i (by omega)
          split <;> omega)
        rw [e1, Option.bind_some, nJ_e]
        refine hgo2 o.2 ⟨zf_trans j1 e2, fun j hj => ?_⟩
        rw [e3 j hj, hw]
        congr 1
        rw [if_pos (show i < i + 1 by omega), zF_0 (show i < i + 1 by omega)]
        simp only [Nat.add_zero]
        rcases Nat.lt_trichotomy j i with e | e | e
        · rw [if_neg (show ¬ j = i by omega), if_pos (show j < i + 1 by omega), if_pos e, zF_0 (show j < i + 1 by omega), zF_0 e, zdc_f.2 fun q => by omega]
          simp
        · subst e
          rw [if_pos rfl, if_neg (Nat.lt_irrefl _), zF_s (Nat.le_refl _), zF_0 (Nat.lt_succ_self _), zdc_cg (p := j ≤ j ∧ w k j j) (q := w k j j) ⟨fun q => q.2, fun q => ⟨Nat.le_refl _, q⟩⟩]
          omega
        · rw [if_neg (show ¬ j = i by omega), if_neg (show ¬ j < i + 1 by omega), if_neg (show ¬ j < i by omega), zF_s (show i ≤ j by omega), zdc_cg (p := i ≤ j ∧ w k i j) (q := w k i j) ⟨fun q => q.2, fun q => ⟨by omega, q⟩⟩]
          omega
      · rintro y gb ⟨j1, j2⟩
        simp only [zI0, zI1, zI2, zI3, zI4, zI5, zI6, zI7, zI8, zJ0, zJ1, zJ2, zMM]
        rw [if_pos (nJ_lt (Nat.le_refl _) (by omega)), zq_add]
        refine hgo y ⟨j1, fun j hj => ?_⟩
        rw [j2 j hj]
        congr 1
        show _ = zF (w k) (zWy w m k) m j
        by_cases e : j < m
        · rw [if_pos e, zWy_lt e, Nat.zero_add]
        · rw [if_neg e, Nat.zero_add]
    · rintro y ga ⟨i1, i2⟩
      have hy := zc2_fr h i1 rfl
      simp only [zI0, zI1, zI2, zI3, zI4, zI5, zI6, zI7, zI8, zJ0, zJ1, zJ2, zMM]
      rw [zr_i _ _ (by omega) (by omega), c_z hy hr, Option.bind_some, if_pos (by rw [zq_le (by omega) (by omega)]; omega), zr_i _ _ (by omega) (by omega), Option.bind_some, i2 n (Nat.le_refl _)]
      exact zw_some ⟨i1, rfl⟩
theorem zCB_mo' {b : Bool} {g : zG} {s : zSn} {M M' : Nat → Nat → Nat → Prop} {r k i j : Nat} (h : ∀ q, q < gN g → M q i j → M' q i j) : zCB b g s M r k i j → zCB b g s M' r k i j
  | .inl q => .inl q
  | .inr ⟨a, q, c, e⟩ => .inr ⟨a, q, c, h q (zon_lt (zbl_on c)) e⟩
theorem m_ways {g : zG} {s : zSn} {μ : zzM} (h : zm2 g s μ) (hg : zwg g) (hs : zws g s) (hk : mMk true g s μ) (d : Nat) {r m n : Nat} (hr : r < gN g) (hm : m ≤ n) (hn : n ≤ sL s) : zw (zzf zzP zN (d + 5) 290 [.ref 105, .int (nI r), .int (nI m), .int (nI n)] μ) fun o => zfr [145] μ o.2 ∧ o.1.1 = nI (zWays g s r m n) := by
  have hgn := g_n hg
  have hz := g_z hg hr
  have hsl := hs.1
  rw [w_m_waysOf, d_on h hg (d := d + 2) hr, Option.bind_some]
  simp only [zB_0]
  unfold zWays
  cases hon : zon g s r with
  | false =>
    rw [if_pos rfl]
    exact zw_some ⟨zf_refl _ _, rfl⟩
  | true =>
    rw [if_neg (by decide), if_pos rfl]
    generalize hw : zCB true g s (zM true g s) r = w
    refine zl_up (fun k (y : zzM) => ([nI r, nI m, nI n, nI k], [], y)) (fun k y => zfr [145] μ y ∧ ∀ k' j, k' < k → m ≤ j → j ≤ n → y.1 145 (13 * k' + j) = nI (zWy w m k' j)) 0 (gZ g r + 1) μ (by omega) (by omega) rfl ⟨zf_refl _ _, fun k' j a => absurd a (by omega)⟩ ?_ ?_
    · rintro k y ga - hkz ⟨hf, hI⟩ hgo
      have hy := zm2_fr h hf rfl
      unfold L290_c
      simp only [zI0, zI1, zI2, zI3, zI4, zI5, zI6, zI7, zI8, zJ0, zJ1, zJ2, zMM]
      rw [zr_i _ _ (by omega) (by omega), d_z hy hr, Option.bind_some, if_neg (by rw [zq_lt (by omega) (by omega)]; omega)]
      refine zl_up (fun j (y : zzM) => ([nI r, nI m, nI n, nI k, nI j], [], y)) (fun j y => zfr [145] μ y ∧ ∀ k' j', (k' < k ∨ (k' = k ∧ j' < j)) → m ≤ j' → j' ≤ n → y.1 145 (13 * k' + j') = nI (zWy w m k' j')) m (n + 1) y (by omega) (by omega) rfl ⟨hf, fun k' j a c e => hI k' j (by omega) c e⟩ ?_ ?_
      · rintro j y gb hj hjn ⟨hf, hI⟩ hgo2
        have hy := zm2_fr h hf rfl
        have hky := mMk_fr hk hf rfl
        have fin : ∀ gc i x, x = zWy w m k j → zw (J290_a zN (d + 4) ga gb gc (nI r) (nI m) (nI n) (nI k) (nI j) (nI x) (nI i) y) fun o => zfr [145] μ o.2 ∧ o.1.1 = nI (zWy w m (gZ g r) n) := by
          intro gc i x hx
          unfold J290_a
          simp only [zq_mul, zq_add]
          rw [zs_i _ _ _ (by omega) (by omega), Option.bind_some]
          refine hgo2 _ ⟨zf_twI _ _ hf rfl, fun k' j' a c e => ?_⟩
          by_cases ek : k' = k ∧ j' = j
          · obtain ⟨rfl, rfl⟩ := ek
            rw [zm_s, hx]
          · rw [zm_k _ _ _ _ (by omega)]
            exact hI k' j' (by omega) c e
        have inner : ∀ x0 : Nat, (k = 0 → x0 = zWy w m 0 j) → (¬ k = 0 → x0 = 0) → zw (J290_b zN (d + 4) ga gb (nI r) (nI m) (nI n) (nI k) (nI j) (nI x0) y) fun o => zfr [145] μ o.2 ∧ o.1.1 = nI (zWy w m (gZ g r) n) := by
          intro x0 h0 h1
          unfold J290_b
          refine zl_up (fun i (x : Nat) => ([nI r, nI m, nI n, nI k, nI j, nI x, nI i], [], y)) (fun i x => (k = 0 → x = zWy w m 0 j) ∧ ∀ k', k = k' + 1 → x = zsuM (fun i => if zdc (m ≤ i ∧ w k' i j) then zWy w m k' i else 0) i) m (j + 1) x0 (by omega) (by omega) rfl ⟨h0, fun k' e => ?_⟩ ?_ ?_
          · rw [h1 (by omega), zsuM_0 fun i hi => by rw [zdc_f.2 fun q => by omega]; rfl]
          · rintro i x gc hi hij ⟨g1, g2⟩ hgo3
            unfold L290_a
            simp only [zI0, zI1, zI2, zI3, zI4, zI5, zI6, zI7, zI8, zJ0, zJ1, zJ2, zMM]
            rw [if_neg (by rw [zq_lt (by omega) (by omega)]; omega)]
            simp (disch := omega) only [zq_le0]
            by_cases ek : k = 0
            · rw [if_pos ek]
              exact fin gc i x (by rw [ek]; exact g1 ek)
            · obtain ⟨k1, rfl⟩ : ∃ k1, k = k1 + 1 := ⟨k - 1, by omega⟩
              rw [if_neg ek]
              simp only [zq_sub (show 1 ≤ k1 + 1 by omega), Nat.add_sub_cancel, zq_mul, zq_add]
              have hIi := hI k1 i (by omega) hi (by omega)
              have hb := zWy_b (w := w) (m := m) (k := k1) (j := i) (by omega) (by omega)
              rw [zr_i _ _ (by omega) (by omega), Option.bind_some, hIi]
              simp (disch := omega) only [zq_le0]
              have nx : ∀ v, v = (if zdc (m ≤ i ∧ w k1 i j) then zWy w m k1 i else 0) → zw (gc ([nI r, nI m, nI n, nI (k1 + 1), nI j, nI (x + v), nI (i + 1)], [], y)) fun o => zfr [145] μ o.2 ∧ o.1.1 = nI (zWy w m (gZ g r) n) := fun v hv => hgo3 _ ⟨fun e => absurd e ek, fun k' e => by
                have : k' = k1 := by omega
                subst this
                rw [g2 k' rfl, hv]
                rfl⟩
              by_cases e0 : zWy w m k1 i = 0
              · rw [if_pos e0]
                exact nx 0 (by rw [e0]; simp)
              · rw [if_neg e0]
                obtain ⟨o, f1, f2, t, f3, f4⟩ := m_canBe hy hg hs d true hr (show k1 < gZ g r by omega) (show i ≤ j by omega) (show j ≤ sL s by omega)
                have f1 : zzf zzP zN (d + 4) 256 [.ref 105, .int (nI 1), .int (nI r), .int (nI k1), .int (nI i), .int (nI j)] y = some o := f1
                rw [f1, Option.bind_some, f2, f3]
                have f5 : t = true ↔ w k1 i j := by
                  rw [f4, ← hw]
                  exact ⟨zCB_mo' fun q hq e => (hky q i j hq (by omega) (by omega)).1 e, zCB_mo' fun q hq e => (hky q i j hq (by omega) (by omega)).2 e⟩
                simp only [zB_0]
                cases t with
                | false =>
                  rw [if_pos rfl]
                  exact nx 0 (by rw [zdc_f.2 fun q => by have := f5.2 q.2; cases this]; rfl)
                | true =>
                  rw [if_neg (by decide), zr_i _ _ (by omega) (by omega), Option.bind_some, hIi, zq_add]
                  exact nx _ (by rw [zdc_t.2 ⟨hi, f5.1 rfl⟩]; rfl)
          · rintro x gc ⟨g1, g2⟩
            unfold L290_a
            simp only [zI0, zI1, zI2, zI3, zI4, zI5, zI6, zI7, zI8, zJ0, zJ1, zJ2, zMM]
            rw [if_pos (by rw [zq_lt (by omega) (by omega)]; omega)]
            refine fin gc (j + 1) x ?_
            cases k with
            | zero => exact g1 rfl
            | succ k1 => exact g2 k1 rfl
        unfold L290_b
        simp only [zI0, zI1, zI2, zI3, zI4, zI5, zI6, zI7, zI8, zJ0, zJ1, zJ2, zMM]
        rw [if_neg (by rw [zq_lt (by omega) (by omega)]; omega)]
        simp (disch := omega) only [zq_e0, zq_eq]
        by_cases ek : k = 0
        · rw [if_pos ek]
          by_cases ej : j = m
          · rw [if_pos ej]
            exact inner 1 (fun _ => by unfold zWy; rw [if_pos ej]) fun q => absurd ek q
          · rw [if_neg ej]
            exact inner 0 (fun _ => by unfold zWy; rw [if_neg ej]) fun q => absurd ek q
        · rw [if_neg ek]
          exact inner 0 (fun q => absurd q ek) fun _ => rfl
      · rintro y gb ⟨hf, hI⟩
        unfold L290_b
        simp only [zI0, zI1, zI2, zI3, zI4, zI5, zI6, zI7, zI8, zJ0, zJ1, zJ2, zMM]
        rw [if_pos (by rw [zq_lt (by omega) (by omega)]; omega), zq_add]
        exact hgo y ⟨hf, fun k' j a c e => hI k' j (by omega) c e⟩
    · rintro y ga ⟨hf, hI⟩
      have hy := zm2_fr h hf rfl
      unfold L290_c
      simp only [zI0, zI1, zI2, zI3, zI4, zI5, zI6, zI7, zI8, zJ0, zJ1, zJ2, zMM]
      rw [zr_i _ _ (by omega) (by omega), d_z hy hr, Option.bind_some, if_pos (by rw [zq_lt (by omega) (by omega)]; omega), Option.bind_some]
      simp only [zq_mul, zq_add]
      rw [zr_i _ _ (by omega) (by omega), Option.bind_some, hI (gZ g r) n (by omega) hm (Nat.le_refl _)]
      exact zw_some ⟨hf, rfl⟩
