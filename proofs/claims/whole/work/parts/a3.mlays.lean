/-! TREES of the reference: endsNot, countsAll, laysTreesOf, laysTrees -/
def mXb (g : zG) (s : zSn) (μ : zzM) (r k i j : Nat) : Prop := ∃ q, zbl true g s r k q = true ∧ mEn μ q i j
theorem mEn_cg {μ y : zzM} {q i j : Nat} (h : y.1 138 (169 * q + 13 * i + j) = μ.1 138 (169 * q + 13 * i + j)) : mEn y q i j ↔ mEn μ q i j := by
  unfold mEn
  rw [h]
/-- one part's marks, as far as set -/
def mMa (g : zG) (s : zSn) (m n : Nat) (μ y : zzM) : Prop := zfr [135, 138, 141] μ y ∧ (∀ p, (∀ q, q < gN g → p ≠ 169 * q + 13 * m + n) → y.1 138 p = μ.1 138 p) ∧ (∀ q, q < gN g → mEn μ q m n → mEn y q m n) ∧ ∀ q, q < gN g → mEn y q m n → zEn g s q m n
theorem m_endsNot {g : zG} {s : zSn} {μ : zzM} (h : zm2 g s μ) (hg : zwg g) (hs : zws g s) (hk1 : mMk true g s μ) (d : Nat) {m n : Nat} (hm : m ≤ n) (hn : n ≤ sL s) (hsub : ∀ q i j, q < gN g → m ≤ i → i ≤ j → j ≤ n → ¬ (i = m ∧ j = n) → (mEn μ q i j ↔ zEn g s q i j)) (hso : ∀ q, q < gN g → mEn μ q m n → zEn g s q m n) : zw (zzf zzP zN (d + 7) 278 [.ref 105, .int (nI m), .int (nI n)] μ) fun o => ∃ t, o.1.1 = zB t ∧ mMa g s m n μ o.2 ∧ (t = true → ∃ q, q < gN g ∧ ¬ mEn μ q m n ∧ mEn o.2 q m n) ∧ (t = false → (∀ q, q < gN g → (mEn o.2 q m n ↔ mEn μ q m n)) ∧ ∀ q, q < gN g → zM true g s q m n → zPx (zw1 g s q) (mXb g s μ q) m (gZ g q) n → mEn μ q m n) := by
  have hgn := g_n hg
  have hsl := hs.1
  have hpx : ∀ y, mMa g s m n μ y → ∀ q, zPx (zw1 g s q) (mXb g s y q) m (gZ g q) n → zM true g s q m n → zEn g s q m n := by
    intro y hy q e hq
    refine zEn_in hq (zPx_mo (fun k i j _ a b c => ⟨id, fun ⟨q', f1, f2⟩ => ⟨q', f1, ?_⟩⟩) e)
    have hq' := zon_lt (zbl_on f1)
    by_cases e1 : i = m ∧ j = n
    · obtain ⟨rfl, rfl⟩ := e1
      exact hy.2.2.2 q' hq' f2
    · refine (hsub q' i j hq' a b c e1).1 ((mEn_cg (hy.2.1 _ fun q1 hq1 f => ?_)).1 f2)
      have := zspot_inj (show i < 13 by omega) (show j < 13 by omega) (show m < 13 by omega) (show n < 13 by omega) f
      omega
  rw [w_m_endsNot]
  refine zl_up (fun r (a : Bool × zzM) => ([nI m, nI n, zB a.1, nI r], [], a.2)) (fun r a => mMa g s m n μ a.2 ∧ (a.1 = true → ∃ q, q < gN g ∧ ¬ mEn μ q m n ∧ mEn a.2 q m n) ∧ (a.1 = false → (∀ q, q < gN g → (mEn a.2 q m n ↔ mEn μ q m n)) ∧ ∀ q, q < r → zM true g s q m n → zPx (zw1 g s q) (mXb g s μ q) m (gZ g q) n → mEn μ q m n)) 0 (gN g) (false, μ) (by omega) (by omega) rfl ⟨⟨zf_refl _ _, fun _ _ => rfl, fun _ _ e => e, hso⟩, fun e => (by cases e), fun _ => ⟨fun _ _ => Iff.rfl, fun q e => absurd e (by omega)⟩⟩ ?_ ?_
  · rintro r ⟨t, y⟩ ga - hr ⟨hM, h1, h2⟩ hgo
    simp only at hM h1 h2
    have hy := zm2_fr h hM.1 rfl
    have hky := mMk_fr hk1 hM.1 rfl
    unfold L278_a
    simp only [zI0, zI1, zI2, zI3, zI4, zI5, zI6, zI7, zI8, zJ0, zJ1, zJ2, zMM]
    rw [zr_i _ _ (by omega) (by omega), d_n hy, Option.bind_some, if_neg (by rw [zq_le (by omega) (by omega)]; omega), m_spot, Option.bind_some, zq_add, zr_i _ _ (by omega) (by omega), Option.bind_some]
    simp only [zq_add]
    have hkq := hky r m n hr hm hn
    unfold mMd at hkq
    rw [show 2028 * zbn true + (169 * r + 13 * m + n) = 2028 + (169 * r + 13 * m + n) from rfl] at hkq
    have skip : ∀ y' : zzM, mMa g s m n μ y' → (∀ q, q < gN g → (mEn y' q m n ↔ mEn y q m n)) → (t = false → zM true g s r m n → zPx (zw1 g s r) (mXb g s μ r) m (gZ g r) n → mEn μ r m n) → mMa g s m n μ y' ∧ (t = true → ∃ q, q < gN g ∧ ¬ mEn μ q m n ∧ mEn y' q m n) ∧ (t = false → (∀ q, q < gN g → (mEn y' q m n ↔ mEn μ q m n)) ∧ ∀ q, q < r + 1 → zM true g s q m n → zPx (zw1 g s q) (mXb g s μ q) m (gZ g q) n → mEn μ q m n) := fun y' f0 f1 f2 => ⟨f0, fun e => by
      obtain ⟨q, a, b, c⟩ := h1 e
      exact ⟨q, a, b, (f1 q a).2 c⟩, fun e => ⟨fun q hq => (f1 q hq).trans ((h2 e).1 q hq), fun q a b c => by
      by_cases eq : q = r
      · rw [eq] at b c ⊢
        exact f2 e b c
      · exact (h2 e).2 q (by omega) b c⟩⟩
    by_cases e : y.1 134 (2028 + (169 * r + 13 * m + n)) = 0
    · rw [if_pos e]
      exact hgo (t, y) (skip y hM (fun _ _ => Iff.rfl) fun _ f => absurd e (hkq.2 f))
    · rw [if_neg e, zr_i _ _ (by omega) (by omega), Option.bind_some]
      by_cases e1 : y.1 138 (169 * r + 13 * m + n) = 0
      · rw [if_pos e1]
        obtain ⟨o, f1, f2, b, f3, f4⟩ := m_hasEnd hy hg hs hky d hr hm hn
        rw [f1, Option.bind_some, f3]
        simp only [zB_0, zk_1, if_true]
        have hMo : mMa g s m n μ o.2 := ⟨zf_trans hM.1 (zf_mono f2 rfl), fun p hp => by rw [zf_i f2 rfl]; exact hM.2.1 p hp, fun q hq f => (mEn_cg (by rw [zf_i f2 rfl])).2 (hM.2.2.1 q hq f), fun q hq f => hM.2.2.2 q hq ((mEn_cg (by rw [zf_i f2 rfl])).1 f)⟩
        cases b with
        | false =>
          rw [if_pos rfl]
          refine hgo (t, o.2) (skip o.2 hMo (fun q _ => mEn_cg (by rw [zf_i f2 rfl])) fun e2 a b => ?_)
          exfalso
          have hpp : zPx (zw1 g s r) (mXb g s y r) m (gZ g r) n := by
            refine zPx_mo (fun k i j _ a b c => ⟨id, fun ⟨q', g1, g2⟩ => ⟨q', g1, ?_⟩⟩) b
            have hq' := zon_lt (zbl_on g1)
            by_cases eij : i = m ∧ j = n
            · obtain ⟨rfl, rfl⟩ := eij
              exact ((h2 e2).1 q' hq').2 g2
            · refine (mEn_cg (hM.2.1 _ fun q1 hq1 f => ?_)).2 g2
              have := zspot_inj (show i < 13 by omega) (show j < 13 by omega) (show m < 13 by omega) (show n < 13 by omega) f
              omega
          have := f4.2 hpp
          cases this
        | true =>
          rw [if_neg (by decide), zs_i _ _ _ (by omega) (by omega), Option.bind_some]
          have hne : mEn (zzwI o.2 138 (169 * r + 13 * m + n) (nI 1)) r m n := by
            unfold mEn
            rw [zm_s]
            decide
          have hoth : ∀ q, q ≠ r → (mEn (zzwI o.2 138 (169 * r + 13 * m + n) (nI 1)) q m n ↔ mEn o.2 q m n) := fun q hq => mEn_cg (by rw [zm_k _ _ _ _ (by omega)])
          refine hgo (true, _) ⟨⟨zf_twI _ _ hMo.1 rfl, fun p hp => ?_, fun q hq f => ?_, fun q hq f => ?_⟩, fun _ => ⟨r, hr, fun f => hM.2.2.1 r hr f e1, hne⟩, fun f => (by cases f)⟩
          · show (zzwI o.2 138 _ _).1 138 p = _
            rw [zm_k _ _ _ _ (hp r hr)]
            exact hMo.2.1 p hp
          · by_cases eq : q = r
            · rw [eq]; exact hne
            · exact (hoth q eq).2 (hMo.2.2.1 q hq f)
          · by_cases eq : q = r
            · rw [eq]
              exact hpx y hM r (f4.1 rfl) (hkq.1 e)
            · exact hMo.2.2.2 q hq ((hoth q eq).1 f)
      · rw [if_neg e1]
        exact hgo (t, y) (skip y hM (fun _ _ => Iff.rfl) fun e2 _ _ => ((h2 e2).1 r hr).1 e1)
  · rintro ⟨t, y⟩ ga ⟨hM, h1, h2⟩
    simp only at hM h1 h2
    have hy := zm2_fr h hM.1 rfl
    unfold L278_a
    simp only [zI0, zI1, zI2, zI3, zI4, zI5, zI6, zI7, zI8, zJ0, zJ1, zJ2, zMM]
    rw [zr_i _ _ (by omega) (by omega), d_n hy, Option.bind_some, if_pos (by rw [zq_le (by omega) (by omega)]; omega)]
    simp only [zB_ok, if_true]
    exact zw_some ⟨t, rfl, hM, h1, h2⟩
/-- one solution at most, at one part -/
theorem zEq_un1 {g : zG} {s : zSn} (hg : zwg g) {vn vn' : Nat → Nat → Nat → Nat} {m n : Nat} (hs : ∀ i j, m ≤ i → i ≤ j → j ≤ n → zSu g s vn i j ∧ zSu g s vn' i j) (h1 : ∀ q i j, q < gN g → m ≤ i → i ≤ j → j ≤ n → ¬ (i = m ∧ j = n) → vn q i j = vn' q i j) (h : zEq g s vn m n) (h' : zEq g s vn' m n) : ∀ r, r < gN g → vn r m n = vn' r m n := by
  have key : ∀ D r, r < gN g → zDs g s m n r = D → zM true g s r m n ∧ ¬ zEn g s r m n → vn r m n = vn' r m n := by
    intro D
    induction D using Nat.strongRecOn with
    | _ D ihD =>
      intro r hr hD hme
      rw [(h r hr).1 hme, (h' r hr).1 hme]
      rw [zNs_dep hg hme.1 hs h1 (fun q hq => ?_)]
      have hqe : ¬ zEn g s q m n := fun q' => hme.2 (zEn_sm hg hq q')
      have hqm : zM true g s q m n := by obtain ⟨-, k, -, -, h3, -⟩ := hq; exact h3
      exact ihD (zDs g s m n q) (by rw [← hD]; exact zDs_lt hg hq fun q' => hqe (zEn_ring hqm q')) q (zSm_lt hq).2 rfl ⟨hqm, hqe⟩
  intro r hr
  by_cases hme : zM true g s r m n ∧ ¬ zEn g s r m n
  · exact key _ r hr rfl hme
  · rw [(h r hr).2 hme, (h' r hr).2 hme]
/-- a round of numbers: V before, V' behind; how far they agree with the solution -/
def mPr (g : zG) (s : zSn) (vn : Nat → Nat → Nat → Nat) (m n D : Nat) (V : Nat → Nat) : Prop := ∀ q, q < gN g → (zM true g s q m n ∧ ¬ zEn g s q m n → zDs g s m n q < D → V q = vn q m n) ∧ (¬ (zM true g s q m n ∧ ¬ zEn g s q m n) → V q = 0)
set_option maxHeartbeats 1000000 in
theorem m_countsAll {g : zG} {s : zSn} {μ : zzM} (h : zm2 g s μ) (hg : zwg g) (hs : zws g s) (hk1 : mMk true g s μ) (d : Nat) {m n : Nat} (hm : m ≤ n) (hn : n ≤ sL s) (hE : ∀ q, q < gN g → (mEn μ q m n ↔ zEn g s q m n)) {vn vf : Nat → Nat → Nat → Nat} {V : Nat → Nat} (hv : mNu g s (zAtV m n vf V) μ) (hQ : ∀ i j, m ≤ i → i ≤ j → j ≤ n → zEq g s vn i j) (hvf : ∀ q i j, q < gN g → m ≤ i → i ≤ j → j ≤ n → ¬ (i = m ∧ j = n) → vf q i j = vn q i j) {D : Nat} (hP : mPr g s vn m n D V) : zw (zzf zzP zN (d + 6) 281 [.ref 105, .int (nI m), .int (nI n)] μ) fun o => ∃ t V', o.1.1 = zB t ∧ zfr [139, 140] μ o.2 ∧ mNu g s (zAtV m n vf V') o.2 ∧ mPr g s vn m n (D + 1) V' ∧ (t = false → zEq g s (zAtV m n vf V') m n) ∧ (t = true → D ≤ 12) := by
  have hgn := g_n hg
  have hsl := hs.1
  have hsu : ∀ W : Nat → Nat, mPr g s vn m n D W → ∀ i j, m ≤ i → i ≤ j → j ≤ n → zSu g s (zAtV m n vf W) i j ∧ zSu g s vn i j := fun W hW i j a b c => by
    refine ⟨fun q hq f => ?_, zEq_su (hQ i j a b c)⟩
    by_cases e : i = m ∧ j = n
    · obtain ⟨rfl, rfl⟩ := e
      rw [zAtV_s] at f
      exact Classical.byContradiction fun e => f ((hW q hq).2 fun e' => e e'.1)
    · rw [zAtV_o e, hvf q i j hq a b c e] at f
      exact zEq_su (hQ i j a b c) q hq f
  -- what is counted for a rule, from numbers that agree so far
  have hval : ∀ W : Nat → Nat, mPr g s vn m n D W → ∀ r, r < gN g → zM true g s r m n ∧ ¬ zEn g s r m n → zDs g s m n r < D + 1 → min (zNs (zwn g s (zAtV m n vf W) r) m (gZ g r) n) zTm = vn r m n := by
    intro W hW r hr hme hD
    rw [(hQ m n (Nat.le_refl _) hm (Nat.le_refl _) r hr).1 hme]
    rw [zNs_dep hg hme.1 (hsu W hW) (fun q i j hq a b c e => by rw [zAtV_o e]; exact hvf q i j hq a b c e) (fun q hq => ?_)]
    rw [zAtV_s]
    have hqe : ¬ zEn g s q m n := fun q' => hme.2 (zEn_sm hg hq q')
    have hqm : zM true g s q m n := by obtain ⟨-, k, -, -, h3, -⟩ := hq; exact h3
    have := zDs_lt hg hq fun q' => hqe (zEn_ring hqm q')
    exact (hW q (zSm_lt hq).2).1 ⟨hqm, hqe⟩ (by omega)
  rw [w_m_countsAll]
  refine zl_up (fun r (a : Bool × (Nat → Nat) × zzM) => ([nI m, nI n, zB a.1, nI r], [], a.2.2)) (fun r a => zfr [139, 140] μ a.2.2 ∧ mNu g s (zAtV m n vf a.2.1) a.2.2 ∧ mPr g s vn m n D a.2.1 ∧ (∀ q, q < r → zM true g s q m n ∧ ¬ zEn g s q m n → zDs g s m n q < D + 1 → a.2.1 q = vn q m n) ∧ (a.1 = false → a.2.1 = V ∧ ∀ q, q < r → zM true g s q m n ∧ ¬ zEn g s q m n → V q = min (zNs (zwn g s (zAtV m n vf V) q) m (gZ g q) n) zTm) ∧ (a.1 = true → D ≤ 12)) 0 (gN g) (false, V, μ) (by omega) (by omega) rfl ⟨zf_refl _ _, hv, hP, fun q e => absurd e (by omega), fun _ => ⟨rfl, fun q e => absurd e (by omega)⟩, fun e => (by cases e)⟩ ?_ ?_
  · rintro r ⟨t, W, y⟩ ga - hr ⟨i1, i2, i3, i4, i5, i6⟩ hgo
    simp only at i1 i2 i3 i4 i5 i6
    have hy := zm2_fr h i1 rfl
    have hky := mMk_fr hk1 i1 rfl
    unfold L281_a
    simp only [zI0, zI1, zI2, zI3, zI4, zI5, zI6, zI7, zI8, zJ0, zJ1, zJ2, zMM]
    rw [zr_i _ _ (by omega) (by omega), d_n hy, Option.bind_some, if_neg (by rw [zq_le (by omega) (by omega)]; omega), m_spot, Option.bind_some, zq_add, zr_i _ _ (by omega) (by omega), Option.bind_some]
    have hkq := hky r m n hr hm hn
    unfold mMd at hkq
    rw [show 2028 * zbn true + (169 * r + 13 * m + n) = 2028 + (169 * r + 13 * m + n) from rfl] at hkq
    have hcur := i2 r m n hr hm hn
    rw [zAtV_s] at hcur
    have fin : ∀ (v : Nat) (y' : zzM), zfr [140] y y' → (zM true g s r m n ∧ ¬ zEn g s r m n → v = min (zNs (zwn g s (zAtV m n vf W) r) m (gZ g r) n) zTm) → (¬ (zM true g s r m n ∧ ¬ zEn g s r m n) → v = 0) → zw (J281_b zN (d + 5) ga (nI m) (nI n) (zB t) (nI r) (nI (169 * r + 13 * m + n)) (lN v) y') fun o => ∃ t V', o.1.1 = zB t ∧ zfr [139, 140] μ o.2 ∧ mNu g s (zAtV m n vf V') o.2 ∧ mPr g s vn m n (D + 1) V' ∧ (t = false → zEq g s (zAtV m n vf V') m n) ∧ (t = true → D ≤ 12) := by
      intro v y' hf hv1 hv2
      have hvle : v ≤ 2147483648 := by
        by_cases e : zM true g s r m n ∧ ¬ zEn g s r m n
        · rw [hv1 e]; exact zmin_le _
        · rw [hv2 e]; omega
      have hcur' : y'.2 139 (169 * r + 13 * m + n) = lN (W r) := by rw [zf_l hf rfl]; exact hcur.1
      have last : ∀ t' : Bool, (t' = false → t = false ∧ v = W r) → (t' = true → D ≤ 12) → zw (J281_a zN (d + 5) ga (nI m) (nI n) (zB t) (nI r) (nI (169 * r + 13 * m + n)) (lN v) (zB t') y') fun o => ∃ t V', o.1.1 = zB t ∧ zfr [139, 140] μ o.2 ∧ mNu g s (zAtV m n vf V') o.2 ∧ mPr g s vn m n (D + 1) V' ∧ (t = false → zEq g s (zAtV m n vf V') m n) ∧ (t = true → D ≤ 12) := by
        intro t' ht1 ht2
        unfold J281_a
        rw [zs_l _ _ _ (by omega) (by omega), Option.bind_some, zq_add]
        have hvr : ∀ q, zM true g s r m n ∧ ¬ zEn g s r m n → zDs g s m n r < D + 1 → q = r → v = vn q m n := fun q e e' eq => by
          rw [hv1 e, hval W i3 r hr e e', eq]
        refine hgo (t', (fun q => if q = r then v else W q), _) ⟨zf_twL _ _ (zf_trans i1 (zf_mono hf rfl)) rfl, fun q i j hq hij hj => ?_, fun q hq => ⟨fun e e' => ?_, fun e => ?_⟩, fun q hq e e' => ?_, fun e => ?_, ht2⟩
        · show (zzwL y' 139 _ _).2 139 _ = lN (zAtV m n vf (fun q => if q = r then v else W q) q i j) ∧ zAtV m n vf (fun q => if q = r then v else W q) q i j ≤ 2147483648
          have old := i2 q i j hq hij hj
          by_cases eij : i = m ∧ j = n
          · obtain ⟨rfl, rfl⟩ := eij
            rw [zAtV_s]
            rw [zAtV_s] at old
            by_cases eq : q = r
            · rw [if_pos eq, eq, zn_s]
              exact ⟨rfl, hvle⟩
            · rw [if_neg eq, zn_k _ _ _ _ (by omega), zf_l hf rfl]
              exact old
          · rw [zAtV_o eij]
            rw [zAtV_o eij] at old
            rw [zn_k _ _ _ _ (fun f => eij (by
              have := zspot_inj (show i < 13 by omega) (show j < 13 by omega) (show m < 13 by omega) (show n < 13 by omega) f
              exact this.2)), zf_l hf rfl]
            exact old
        · show (if q = r then v else W q) = vn q m n
          by_cases eq : q = r
          · rw [if_pos eq]
            exact hvr q (by rw [← eq]; exact e) (by rw [← eq]; omega) eq
          · rw [if_neg eq]
            exact (i3 q hq).1 e e'
        · show (if q = r then v else W q) = 0
          by_cases eq : q = r
          · rw [if_pos eq]
            exact hv2 (by rw [← eq]; exact e)
          · rw [if_neg eq]
            exact (i3 q hq).2 e
        · show (if q = r then v else W q) = vn q m n
          by_cases eq : q = r
          · rw [if_pos eq]
            exact hvr q (by rw [← eq]; exact e) (by rw [← eq]; exact e') eq
          · rw [if_neg eq]
            exact i4 q (by omega) e e'
        · obtain ⟨e1, e2⟩ := ht1 e
          obtain ⟨e3, e4⟩ := i5 e1
          have e5 : (fun q => if q = r then v else W q) = V := by
            funext q
            by_cases eq : q = r
            · rw [if_pos eq, e2, e3, eq]
            · rw [if_neg eq, e3]
          refine ⟨e5, fun q hq f => ?_⟩
          by_cases eq : q = r
          · rw [eq] at f ⊢
            have := hv1 f
            rw [e2, e3] at this
            exact this
          · exact e4 q (by omega) f
      unfold J281_b
      simp only [zB_0]
      cases ht : t with
      | true =>
        rw [if_neg (by decide)]
        rw [ht] at last i6
        exact last true (fun e => (by cases e)) (fun _ => i6 rfl)
      | false =>
        rw [if_pos rfl, zr_l _ _ (by omega) (by omega), Option.bind_some, hcur', zif_cg ((lg_cmp_eq _ _).trans (pk_lEQ (by omega) (by have := hcur.2; omega)))]
        rw [ht] at last
        by_cases e : v = W r
        · rw [if_pos e]
          exact last false (fun _ => ⟨rfl, e⟩) (fun e => (by cases e))
        · rw [if_neg e]
          refine last true (fun e => (by cases e)) (fun _ => ?_)
          apply Nat.le_of_not_lt
          intro hD
          apply e
          by_cases f : zM true g s r m n ∧ ¬ zEn g s r m n
          · have hz := zDs_le g s m n r
            rw [hv1 f, hval W i3 r hr f (by omega), (i3 r hr).1 f (by omega)]
          · rw [hv2 f, (i3 r hr).2 f]
    by_cases e : y.1 134 (2028 + (169 * r + 13 * m + n)) = 0
    · rw [if_pos e]
      exact fin 0 y (zf_refl _ _) (fun f => absurd e (hkq.2 f.1)) fun _ => rfl
    · rw [if_neg e, zr_i _ _ (by omega) (by omega), Option.bind_some]
      have hEr : mEn y r m n ↔ zEn g s r m n := (mEn_cg (by rw [zf_i i1 rfl])).trans (hE r hr)
      by_cases e1 : y.1 138 (169 * r + 13 * m + n) = 0
      · rw [if_pos e1]
        have hnE : ¬ zEn g s r m n := fun f => hEr.2 f e1
        obtain ⟨o, f1, f2, f3⟩ := m_countsOf hy hg hs i2 d hr hm hn
        rw [f1, Option.bind_some, f3]
        exact fin _ o.2 f2 (fun _ => rfl) fun f => absurd ⟨hkq.1 e, hnE⟩ f
      · rw [if_neg e1]
        exact fin 0 y (zf_refl _ _) (fun f => absurd (hEr.1 e1) f.2) fun _ => rfl
  · rintro ⟨t, W, y⟩ ga ⟨i1, i2, i3, i4, i5, i6⟩
    simp only at i1 i2 i3 i4 i5 i6
    have hy := zm2_fr h i1 rfl
    unfold L281_a
    simp only [zI0, zI1, zI2, zI3, zI4, zI5, zI6, zI7, zI8, zJ0, zJ1, zJ2, zMM]
    rw [zr_i _ _ (by omega) (by omega), d_n hy, Option.bind_some, if_pos (by rw [zq_le (by omega) (by omega)]; omega)]
    simp only [zB_ok, if_true]
    refine zw_some ⟨t, W, rfl, i1, i2, fun q hq => ⟨fun e e' => i4 q hq e e', (i3 q hq).2⟩, fun e => ?_, i6⟩
    obtain ⟨rfl, e2⟩ := i5 e
    intro q hq
    rw [zAtV_s]
    exact ⟨e2 q hq, (i3 q hq).2⟩
/-- what the reference holds of trees, of parts so far -/
noncomputable def zdV (Dn : Nat → Nat → Prop) (vn : Nat → Nat → Nat → Nat) (q i j : Nat) : Nat := if zdc (Dn i j) then vn q i j else 0
theorem zdV_t {Dn : Nat → Nat → Prop} {vn : Nat → Nat → Nat → Nat} {q i j : Nat} (h : Dn i j) : zdV Dn vn q i j = vn q i j := by
  unfold zdV
  rw [zdc_t.2 h]
  rfl
theorem zdV_f {Dn : Nat → Nat → Prop} {vn : Nat → Nat → Nat → Nat} {q i j : Nat} (h : ¬ Dn i j) : zdV Dn vn q i j = 0 := by
  unfold zdV
  rw [zdc_f.2 h]
  rfl
theorem zdV_cg {Dn Dn' : Nat → Nat → Prop} {vn : Nat → Nat → Nat → Nat} {q i j : Nat} (h : Dn i j ↔ Dn' i j) : zdV Dn vn q i j = zdV Dn' vn q i j := by
  unfold zdV
  rw [zdc_cg h]
def mTs (g : zG) (s : zSn) (vn : Nat → Nat → Nat → Nat) (Dn : Nat → Nat → Prop) (μ : zzM) : Prop := (∀ q i j, q < gN g → i ≤ j → j ≤ sL s → (mEn μ q i j ↔ Dn i j ∧ zEn g s q i j)) ∧ mNu g s (zdV Dn vn) μ
theorem zEq_le {g : zG} {s : zSn} {vn : Nat → Nat → Nat → Nat} {i j : Nat} (h : zEq g s vn i j) {q : Nat} (hq : q < gN g) : vn q i j ≤ 2147483648 := by
  by_cases e : zM true g s q i j ∧ ¬ zEn g s q i j
  · rw [(h q hq).1 e]; exact zmin_le _
  · rw [(h q hq).2 e]; omega
set_option maxHeartbeats 1000000 in
theorem m_treesOf {g : zG} {s : zSn} {μ : zzM} (h : zm2 g s μ) (hg : zwg g) (hs : zws g s) (hk1 : mMk true g s μ) (d : Nat) {vn : Nat → Nat → Nat → Nat} (hQ : ∀ i j, i ≤ j → j ≤ sL s → zEq g s vn i j) {m n : Nat} (hm : m ≤ n) (hn : n ≤ sL s) {Dn : Nat → Nat → Prop} (hD : ∀ i j, m ≤ i → i ≤ j → j ≤ n → ¬ (i = m ∧ j = n) → Dn i j) (hDn : ¬ Dn m n) (hT : mTs g s vn Dn μ) : zw (zzf zzP zN (d + 8) 282 [.ref 105, .int (nI m), .int (nI n)] μ) fun o => zfr [135, 138, 139, 140, 141, 142] μ o.2 ∧ mTs g s vn (fun i j => Dn i j ∨ (i = m ∧ j = n)) o.2 := by
  have hgn := g_n hg
  have hsl := hs.1
  have hspot : ∀ q i j, i ≤ j → j ≤ sL s → ¬ (i = m ∧ j = n) → ∀ q', q' < gN g → 169 * q + 13 * i + j ≠ 169 * q' + 13 * m + n := fun q i j a b c q' hq' e => by
    have := zspot_inj (show i < 13 by omega) (show j < 13 by omega) (show m < 13 by omega) (show n < 13 by omega) e
    omega
  rw [w_m_laysTreesOf]
  obtain ⟨o, e1, e2, e3, e4⟩ := m_rings h hg hs hk1 (d + 1) hm hn
  rw [e1, Option.bind_some]
  have hsub0 : ∀ y : zzM, (∀ p, (∀ q, q < gN g → p ≠ 169 * q + 13 * m + n) → y.1 138 p = μ.1 138 p) → ∀ q i j, q < gN g → i ≤ j → j ≤ sL s → ¬ (i = m ∧ j = n) → (mEn y q i j ↔ Dn i j ∧ zEn g s q i j) := fun y hy q i j hq a b c => (mEn_cg (hy _ (hspot q i j a b c))).trans (hT.1 q i j hq a b)
  refine zl_ms (fun (a : Bool × zzM) => ([nI m, nI n, zB a.1], [], a.2)) (fun M a => zfr [135, 138, 141, 142] μ a.2 ∧ (∀ p, (∀ q, q < gN g → p ≠ 169 * q + 13 * m + n) → a.2.1 138 p = μ.1 138 p) ∧ (∀ q, q < gN g → mEn a.2 q m n → zEn g s q m n) ∧ (∀ q, q < gN g → zTr (zSm g s m n) q q → mEn a.2 q m n) ∧ M + zcnt (fun q => zdc (mEn a.2 q m n)) (gN g) = 12 + zbn a.1 ∧ (a.1 = false → ∀ q, q < gN g → zM true g s q m n → zPx (zw1 g s q) (mXb g s a.2 q) m (gZ g q) n → mEn a.2 q m n)) (13 - zcnt (fun q => zdc (mEn o.2 q m n)) (gN g)) (true, o.2) (by omega) rfl ⟨zf_mono e2 rfl, e3, fun q hq f => zEn_ring (by
      have f := (e4 q hq).1 f
      have hm1 : ∀ b, zTr (zSm g s m n) q b → zM true g s q m n := fun b f => zlfp_le (P := fun _ => zM true g s q m n) (fun c f => f.elim (fun f => f.1) (fun ⟨_, f, _⟩ => f)) f
      exact hm1 q f) ((e4 q hq).1 f), fun q hq f => (e4 q hq).2 f, by have := zcnt_le (fun q => zdc (mEn o.2 q m n)) (gN g); show _ = 12 + 1; simp only; omega, fun e => (by cases e)⟩ ?_
  rintro M ⟨t, y⟩ ga ⟨i1, i2, i3, i4, i5, i6⟩ hgo
  simp only at i1 i2 i3 i4 i5 i6
  have hy := zm2_fr h i1 rfl
  have hky := mMk_fr hk1 i1 rfl
  unfold L282_b
  simp only [zI0, zI1, zI2, zI3, zI4, zI5, zI6, zI7, zI8, zJ0, zJ1, zJ2, zMM]
  simp only [zB_0]
  cases t with
  | true =>
    rw [if_neg (by decide)]
    obtain ⟨o1, f1, t', f2, f3, f4, f5⟩ := m_endsNot hy hg hs hky d hm hn (fun q i j hq a b c e => (hsub0 y i2 q i j hq b (by omega) e).trans ⟨fun f => f.2, fun f => ⟨hD i j a b c e, f⟩⟩) i3
    rw [f1, Option.bind_some, f2]
    obtain ⟨l1, l2, l3, l4⟩ := f3
    have hmono : zcnt (fun q => zdc (mEn y q m n)) (gN g) ≤ zcnt (fun q => zdc (mEn o1.2 q m n)) (gN g) := zcnt_mono fun q hq e => zdc_t.2 (l3 q hq (zdc_t.1 e))
    have hle := zcnt_le (fun q => zdc (mEn o1.2 q m n)) (gN g)
    have i5 : M + zcnt (fun q => zdc (mEn y q m n)) (gN g) = 12 + 1 := i5
    have hM : 12 + zbn t' - zcnt (fun q => zdc (mEn o1.2 q m n)) (gN g) < M := by
      cases t' with
      | false =>
        show 12 + 0 - _ < M
        omega
      | true =>
        have hlt := zcnt_lt (n := gN g) (p := fun q => zdc (mEn y q m n)) (q := fun q => zdc (mEn o1.2 q m n)) (fun q hq e => zdc_t.2 (l3 q hq (zdc_t.1 e))) (by
          obtain ⟨q, a, c, f⟩ := f4 rfl
          exact ⟨q, a, zdc_f.2 c, zdc_t.2 f⟩)
        show 12 + 1 - _ < M
        omega
    refine hgo _ (t', o1.2) hM ⟨zf_trans i1 (zf_mono l1 rfl), fun p hp => (l2 p hp).trans (i2 p hp), l4, fun q hq f => l3 q hq (i4 q hq f), ?_, fun e q hq a b => ?_⟩
    · have := zbn_le t'
      show 12 + zbn t' - _ + _ = _
      simp only
      omega
    · have e : t' = false := e
      obtain ⟨g1, g2⟩ := f5 e
      refine (g1 q hq).2 (g2 q hq a (zPx_mo (fun k i j _ a b c => ⟨id, fun ⟨q', k1, k2⟩ => ⟨q', k1, ?_⟩⟩) b))
      have hq' := zon_lt (zbl_on k1)
      by_cases eij : i = m ∧ j = n
      · obtain ⟨rfl, rfl⟩ := eij
        exact (g1 q' hq').1 k2
      · exact (mEn_cg (l2 _ (hspot q' i j b (by omega) eij))).1 k2
  | false =>
    rw [if_pos rfl]
    have hcl := i6 rfl
    have hE2 : ∀ hh q, q < gN g → zEh g s hh q m n → mEn y q m n := by
      intro hh
      induction hh with
      | zero => intro q _ e; exact e.elim
      | succ hh ih =>
        intro q hq e
        obtain ⟨hqm, e⟩ := e
        rcases e with e | e
        · exact i4 q hq e
        · refine hcl q hq hqm (zPx_mo (fun k i j _ a b c => ⟨id, fun ⟨q', k1, k2⟩ => ⟨q', k1, ?_⟩⟩) e)
          have hq' := zon_lt (zbl_on k1)
          by_cases eij : i = m ∧ j = n
          · rw [eij.1, eij.2] at k2 ⊢
            exact ih q' hq' k2
          · exact (hsub0 y i2 q' i j hq' b (by omega) eij).2 ⟨hD i j a b c eij, ⟨hh, k2⟩⟩
    have hE : ∀ q, q < gN g → (mEn y q m n ↔ zEn g s q m n) := fun q hq => ⟨i3 q hq, fun ⟨hh, e⟩ => hE2 hh q hq e⟩
    let vf : Nat → Nat → Nat → Nat := zdV Dn vn
    have hvf : ∀ q i j, q < gN g → m ≤ i → i ≤ j → j ≤ n → ¬ (i = m ∧ j = n) → vf q i j = vn q i j := fun q i j hq a b c e => zdV_t (hD i j a b c e)
    have hnu : ∀ z : zzM, z.2 139 = μ.2 139 → mNu g s (zAtV m n vf fun _ => 0) z := fun z hz q i j hq a b => by
      rw [hz]
      have := hT.2 q i j hq a b
      by_cases eij : i = m ∧ j = n
      · obtain ⟨rfl, rfl⟩ := eij
        rw [zdV_f hDn] at this
        rw [zAtV_s]
        exact this
      · rw [zAtV_o eij]
        exact this
    refine zl_ms (fun (a : Bool × zzM) => ([nI m, nI n, zB a.1], [], a.2)) (fun M a => zfr [139, 140] y a.2 ∧ ∃ V D, mNu g s (zAtV m n vf V) a.2 ∧ (mPr g s vn m n D V ∨ (D = 0 ∧ ∀ q, V q = 0)) ∧ M + D = 20 ∧ (a.1 = true → D ≤ 13) ∧ (a.1 = false → zEq g s (zAtV m n vf V) m n)) 20 (true, y) (by omega) rfl ⟨zf_refl _ _, fun _ => 0, 0, hnu y (zf_l i1 rfl), .inr ⟨rfl, fun _ => rfl⟩, rfl, fun _ => by omega, fun e => (by cases e)⟩ ?_
    rintro M ⟨t, z⟩ gb ⟨j1, V, D, j2, j3, j4, j5, j6⟩ hgo2
    simp only at j1 j2 j3 j4 j5 j6
    have hz := zm2_fr hy j1 rfl
    have hkz := mMk_fr hky j1 rfl
    unfold L282_a
    simp only [zI0, zI1, zI2, zI3, zI4, zI5, zI6, zI7, zI8, zJ0, zJ1, zJ2, zMM]
    simp only [zB_0]
    have hP : mPr g s vn m n D V := by
      rcases j3 with j3 | ⟨rfl, j3⟩
      · exact j3
      · exact fun q hq => ⟨fun _ e => absurd e (Nat.not_lt_zero _), fun _ => j3 q⟩
    cases t with
    | true =>
      rw [if_neg (by decide)]
      obtain ⟨o1, f1, t', V', f2, f3, f4, f5, f6, f7⟩ := m_countsAll hz hg hs hkz (d + 1) hm hn (fun q hq => (mEn_cg (by rw [zf_i j1 rfl])).trans (hE q hq)) j2 (fun i j a b c => hQ i j b (by omega)) hvf hP
      rw [f1, Option.bind_some, f2]
      have hD13 := j5 rfl
      exact hgo2 (M - 1) (t', o1.2) (by omega) ⟨zf_trans j1 f3, V', D + 1, f4, .inl f5, by show M - 1 + (D + 1) = 20; omega, fun e => by have := f7 e; omega, f6⟩
    | false =>
      rw [if_pos rfl]
      have hzq := j6 rfl
      have hVv : ∀ q, q < gN g → V q = vn q m n := fun q hq => by
        have := zEq_un1 hg (vn := zAtV m n vf V) (vn' := vn) (fun i j a b c => ⟨fun q' hq' f => ?_, zEq_su (hQ i j b (by omega))⟩) (fun q' i j hq' a b c e => by rw [zAtV_o e]; exact hvf q' i j hq' a b c e) hzq (hQ m n hm hn) q hq
        · rw [zAtV_s] at this
          exact this
        · by_cases eij : i = m ∧ j = n
          · obtain ⟨rfl, rfl⟩ := eij
            exact zEq_su hzq q' hq' f
          · rw [zAtV_o eij, hvf q' i j hq' a b c eij] at f
            exact zEq_su (hQ i j b (by omega)) q' hq' f
      refine zw_some ⟨zf_trans (zf_mono i1 rfl) (zf_mono j1 rfl), fun q i j hq a b => ?_, fun q i j hq a b => ?_⟩
      · have e0 : mEn z q i j ↔ mEn y q i j := mEn_cg (by rw [zf_i j1 rfl])
        rw [e0]
        by_cases eij : i = m ∧ j = n
        · obtain ⟨rfl, rfl⟩ := eij
          rw [hE q hq]
          exact ⟨fun f => ⟨.inr ⟨rfl, rfl⟩, f⟩, fun f => f.2⟩
        · rw [hsub0 y i2 q i j hq a b eij]
          exact ⟨fun f => ⟨.inl f.1, f.2⟩, fun f => ⟨f.1.resolve_right eij, f.2⟩⟩
      · have := j2 q i j hq a b
        by_cases eij : i = m ∧ j = n
        · obtain ⟨rfl, rfl⟩ := eij
          rw [zAtV_s, hVv q hq] at this
          rw [zdV_t (Dn := fun i1 j1 => Dn i1 j1 ∨ (i1 = i ∧ j1 = j)) (.inr ⟨rfl, rfl⟩)]
          exact this
        · rw [zAtV_o eij] at this
          rw [zdV_cg (Dn := fun i j => Dn i j ∨ (i = m ∧ j = n)) (Dn' := Dn) ⟨fun f => f.resolve_right eij, .inl⟩]
          exact this
def trOk (g : zG) (s : zSn) (μ : zzM) : Prop := (∀ q i j, q < gN g → i ≤ j → j ≤ sL s → (mEn μ q i j ↔ zEn g s q i j)) ∧ ∃ vn, (∀ i j, i ≤ j → j ≤ sL s → zEq g s vn i j) ∧ mNu g s vn μ
theorem b_and16 (x : Int32) : ((x &&& nI 16) = 0) = (bt x 4 = false) := by
  have hb : ∀ j, j < 32 → bt (nI 16) j = decide (j = 4) := by decide +kernel
  rw [b_and0]
  refine propext ⟨fun h => ?_, fun h j hj q => ?_⟩
  · have := h 4 (by omega)
    rw [hb 4 (by omega)] at this
    cases e : bt x 4 with
    | false => rfl
    | true => exact absurd ⟨e, decide_eq_true rfl⟩ this
  · rw [hb j hj, decide_eq_true_eq] at q
    rw [q.2, h] at q
    cases q.1
theorem m_laysTrees {g : zG} {s : zSn} {μ : zzM} (h : zm2 g s μ) (hg : zwg g) (hs : zws g s) (d : Nat) {vn : Nat → Nat → Nat → Nat} (hQ : ∀ i j, i ≤ j → j ≤ sL s → zEq g s vn i j) (hl2 : bt (μ.1 105 36) 2 = false ∨ mMk true g s μ) (hl4 : bt (μ.1 105 36) 4 = false ∨ (mMk true g s μ ∧ trOk g s μ)) : zw (zzf zzP zN (d + 9) 283 [.ref 105] μ) fun o => zfr [105, 134, 135, 138, 139, 140, 141, 142] μ o.2 ∧ (∀ p, p ≠ 36 → o.2.1 105 p = μ.1 105 p) ∧ (∀ i, i < 32 → bt (o.2.1 105 36) i = true → bt (μ.1 105 36) i = true ∨ i = 2 ∨ i = 4) ∧ mMk true g s o.2 ∧ trOk g s o.2 ∧ ∀ p, p < 2028 → o.2.1 134 p = μ.1 134 p := by
  have hsl := hs.1
  have hgn := g_n hg
  rw [w_m_laysTrees]
  by_cases e : (μ.1 105 36 &&& nI 16) = 0
  · rw [if_pos e]
    obtain ⟨o2, b1, b2, b3, b4, b5, b6⟩ := m_laysMade h hg hs d true hl2
    have b1 : zzf zzP zN (d + 8) 261 [.ref 105, .int (nI 1)] μ = some o2 := b1
    rw [b1, Option.bind_some]
    have h2 := zm2_fr h b2 rfl
    have hf2 : zfr [105, 134, 135, 138, 139, 140, 141, 142] μ o2.2 := zf_mono b2 rfl
    have hp2 : ∀ p, p < 2028 → o2.2.1 134 p = μ.1 134 p := fun p hp => b6 p (by show ¬ (2028 * 1 ≤ p ∧ p < 2028 * 1 + 2028); omega)
    have h36 : ∀ i, i < 32 → bt (o2.2.1 105 36) i = true → bt (μ.1 105 36) i = true ∨ i = 2 ∨ i = 4 := fun i hi q => by
      rw [b4, b_or] at q
      have hb2 : bt (nI (2 * 2 ^ zbn true)) i = decide (i = 2) := (by decide +kernel : ∀ i, i < 32 → bt (nI (2 * 2 ^ zbn true)) i = decide (i = 2)) i hi
      rw [hb2] at q
      simp only [Bool.or_eq_true, decide_eq_true_eq] at q
      rcases q with q | q
      · exact .inl q
      · exact .inr (.inl q)
    generalize o2.2 = z0 at b3 b5 h2 hf2 hp2 h36 ⊢
    refine zl_up (fun i (y : zzM) => ([nI i], [], y)) (fun i y => zfr [138, 139] z0 y ∧ ∀ p, p < i → y.1 138 p = nI 0 ∧ y.2 139 p = lN 0) 0 2028 z0 (by omega) (by omega) rfl ⟨zf_refl _ _, fun p a => absurd a (by omega)⟩ ?_ ?_
    · rintro i y ga - hi ⟨i1, i2⟩ hgo
      unfold L283_c
      simp only [zI0, zI1, zI2, zI3, zI4, zI5, zI6, zI7, zI8, zJ0, zJ1, zJ2, zMM]
      rw [if_neg (by rw [zq_le (by omega) (by omega)]; omega)]
      simp only [zk_0, if_true]
      rw [zs_i _ _ _ hi (by omega), Option.bind_some, zs_l _ _ _ hi (by omega), Option.bind_some, zq_add]
      refine hgo _ ⟨zf_twL _ _ (zf_twI _ _ i1 rfl) rfl, fun p hp => ?_⟩
      by_cases ep : p = i
      · rw [ep]
        exact ⟨by rw [zn_1, zm_s], by rw [zn_s]⟩
      · rw [zn_1, zm_k _ _ _ _ ep, zn_k _ _ _ _ ep]
        exact i2 p (by omega)
    · rintro y ga ⟨i1, i2⟩
      unfold L283_c
      simp only [zI0, zI1, zI2, zI3, zI4, zI5, zI6, zI7, zI8, zJ0, zJ1, zJ2, zMM]
      rw [if_pos (by rw [zq_le (by omega) (by omega)]; omega)]
      have hT0 : mTs g s vn (fun i j => j < i + 0) y := ⟨fun q i j hq a b => by
        unfold mEn
        rw [(i2 _ (by omega)).1]
        exact ⟨fun f => absurd (by decide) f, fun f => by have := f.1; omega⟩, fun q i j hq a b => by
        rw [(i2 _ (by omega)).2, zdV_f (Dn := fun i j => j < i + 0) (show ¬ j < i + 0 by omega)]
        exact ⟨rfl, by omega⟩⟩
      refine zl_up (fun L (y : zzM) => ([nI L], [], y)) (fun L z => zfr [135, 138, 139, 140, 141, 142] z0 z ∧ mTs g s vn (fun i j => j < i + L) z) 0 (sL s + 1) y (by omega) (by omega) rfl ⟨zf_mono i1 rfl, hT0⟩ ?_ ?_
      · rintro L z gb - hL ⟨j1, j2⟩ hgo
        have hz := zm2_fr h2 j1 rfl
        unfold L283_b
        simp only [zI0, zI1, zI2, zI3, zI4, zI5, zI6, zI7, zI8, zJ0, zJ1, zJ2, zMM]
        rw [zr_i _ _ (by omega) (by omega), d_len hz, Option.bind_some, if_neg (by rw [zq_lt (by omega) (by omega)]; omega)]
        refine zl_up (fun m (y : zzM) => ([nI L, nI m], [], y)) (fun m z => zfr [135, 138, 139, 140, 141, 142] z0 z ∧ mTs g s vn (fun i j => j < i + L ∨ (j = i + L ∧ i < m)) z) 0 (sL s - L + 1) z (by omega) (by omega) rfl ⟨j1, ?_⟩ ?_ ?_
        · have : (fun i j => j < i + L) = (fun i j => j < i + L ∨ (j = i + L ∧ i < 0)) := by
            funext i j
            exact propext ⟨.inl, fun f => f.resolve_right fun f => absurd f.2 (Nat.not_lt_zero _)⟩
          rw [← this]
          exact j2
        · rintro m z gc - hm ⟨k1, k2⟩ hgo2
          have hz := zm2_fr h2 k1 rfl
          unfold L283_a
          simp only [zI0, zI1, zI2, zI3, zI4, zI5, zI6, zI7, zI8, zJ0, zJ1, zJ2, zMM]
          rw [zr_i _ _ (by omega) (by omega), d_len hz, Option.bind_some, zq_add, if_neg (by rw [zq_lt (by omega) (by omega)]; omega)]
          obtain ⟨o1, f1, f2, f3⟩ := m_treesOf hz hg hs (mMk_fr b5 k1 rfl) d hQ (show m ≤ m + L by omega) (show m + L ≤ sL s by omega) (Dn := fun i j => j < i + L ∨ (j = i + L ∧ i < m)) (fun i j a b c e => by omega) (by omega) k2
          rw [f1, Option.bind_some, zq_add]
          refine hgo2 o1.2 ⟨zf_trans k1 f2, ?_⟩
          have : (fun i j => (j < i + L ∨ (j = i + L ∧ i < m)) ∨ (i = m ∧ j = m + L)) = (fun i j => j < i + L ∨ (j = i + L ∧ i < m + 1)) := by
            funext i j
            exact propext (by omega)
          rw [← this]
          exact f3
        · rintro z gc ⟨k1, k2⟩
          have hz := zm2_fr h2 k1 rfl
          unfold L283_a
          simp only [zI0, zI1, zI2, zI3, zI4, zI5, zI6, zI7, zI8, zJ0, zJ1, zJ2, zMM]
          rw [zr_i _ _ (by omega) (by omega), d_len hz, Option.bind_some, zq_add, if_pos (by rw [zq_lt (by omega) (by omega)]; omega), zq_add]
          refine hgo z ⟨k1, fun q i j hq a b => ?_, fun q i j hq a b => ?_⟩
          · rw [k2.1 q i j hq a b]
            exact and_congr (by omega) Iff.rfl
          · have := k2.2 q i j hq a b
            rw [zdV_cg (Dn := fun i j => j < i + L ∨ (j = i + L ∧ i < sL s - L + 1)) (Dn' := fun i j => j < i + (L + 1)) (by omega)] at this
            exact this
      · rintro z gb ⟨j1, j2⟩
        have hz := zm2_fr h2 j1 rfl
        unfold L283_b
        simp only [zI0, zI1, zI2, zI3, zI4, zI5, zI6, zI7, zI8, zJ0, zJ1, zJ2, zMM]
        rw [zr_i _ _ (by omega) (by omega), d_len hz, Option.bind_some, if_pos (by rw [zq_lt (by omega) (by omega)]; omega)]
        have hf3 : zfr [105, 135, 138, 139, 140, 141, 142] z0 (zzwI z 105 36 (z.1 105 36 ||| nI 16)) := zf_twI _ _ (zf_mono j1 rfl) rfl
        refine zw_some ⟨zf_trans hf2 (zf_mono hf3 rfl), fun p q => ?_, fun i hi q => ?_, mMk_fr b5 hf3 rfl, ⟨fun q i j hq a b => ?_, vn, hQ, fun q i j hq a b => ?_⟩, fun p hp => ?_⟩
        · rw [zm_k _ _ _ _ q, zf_i j1 rfl]
          exact b3 p q
        · rw [zm_s, zf_i j1 rfl, b_or, (by decide +kernel : ∀ i, i < 32 → bt (nI 16) i = decide (i = 4)) i hi, Bool.or_eq_true, decide_eq_true_eq] at q
          rcases q with q | q
          · exact h36 i hi q
          · exact .inr (.inr q)
        · rw [mEn_cg (show (zzwI z 105 36 (z.1 105 36 ||| nI 16)).1 138 (169 * q + 13 * i + j) = z.1 138 (169 * q + 13 * i + j) by rw [zm_c _ _ _ (by omega)]), j2.1 q i j hq a b]
          exact ⟨fun f => f.2, fun f => ⟨by omega, f⟩⟩
        · have := j2.2 q i j hq a b
          rw [zdV_t (Dn := fun i j => j < i + (sL s + 1)) (show j < i + (sL s + 1) by omega)] at this
          exact this
        · rw [zm_c _ _ _ (by omega), zf_i j1 rfl]
          exact hp2 p hp
  · rw [if_neg e]
    rw [b_and16] at e
    obtain ⟨q1, q2⟩ := hl4.resolve_left e
    exact zw_some ⟨zf_refl _ _, fun _ _ => rfl, fun i _ q => .inl q, q1, q2, fun _ _ => rfl⟩
