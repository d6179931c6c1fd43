/-! THE PAST of both: what acts the class remembers, what rows the reference keeps -/
/-- the bit of a rule or a filter -/
def zbi (r : Nat) : Int32 := nI 1 <<< (nI r &&& 31)
/-- an act, as the class writes it, leads from one snapshot to another -/
def zAct (a : Int32) (s s' : zSn) : Prop :=
  (a = nI 0 ∧ sL s' = sL s + 1 ∧ zTx (sL s) s s') ∨
  (∃ c, c < 26 ∧ a = nI (8 * c + 1) ∧ sL s = sL s' + 1 ∧ sX s (sL s') = c ∧ zTx (sL s') s s') ∨
  (∃ p c, c < 26 ∧ p < sL s ∧ a = nI (8 * (32 * p + c) + 2) ∧ sL s = sL s' ∧ sX s p = c ∧ (∀ k, k ≠ p → sX s k = sX s' k) ∧ zTx p s s') ∨
  (∃ r, r < 12 ∧ a = nI (8 * r + 3) ∧ sL s = sL s' ∧ (∀ k, sX s k = sX s' k) ∧ sT s = sT s' ^^^ zbi r ∧ sB s = sB s' ∧ sF s = sF s') ∨
  (∃ p q, p < 48 ∧ q < 12 ∧ a = nI (8 * (16 * p + q) + 4) ∧ sL s = sL s' ∧ (∀ k, sX s k = sX s' k) ∧ sT s = sT s' ∧ sF s = sF s' ∧ (∀ x, x ≠ 12 * p + q → (x ∈ sB s ↔ x ∈ sB s')) ∧ ((12 * p + q ∈ sB s ∧ ¬ 12 * p + q ∈ sB s' ∧ (sB s).length = (sB s').length + 1) ∨ (¬ 12 * p + q ∈ sB s ∧ 12 * p + q ∈ sB s' ∧ (sB s).length + 1 = (sB s').length))) ∨
  (∃ f, f < 3 ∧ a = nI (8 * f + 5) ∧ sL s = sL s' ∧ (∀ k, sX s k = sX s' k) ∧ sT s = sT s' ∧ sB s = sB s' ∧ sF s = sF s' ^^^ zbi f)
/-- snapshots of the past, the oldest first, the last one now; one more -/
def zNx (S : Nat → zSn) (m : Nat) (s' : zSn) : Nat → zSn := if m = 20 then fun k => if k < 20 then S (k + 1) else s' else fun k => if k ≤ m then S k else s'
def zNm (m : Nat) : Nat := if m = 20 then 20 else m + 1
theorem zNm_le {m : Nat} (h : m ≤ 20) : zNm m ≤ 20 := by
  unfold zNm
  split <;> omega
theorem zNx_l (S : Nat → zSn) (m : Nat) (s' : zSn) : zNx S m s' (zNm m) = s' := by
  unfold zNx zNm
  by_cases e : m = 20
  · rw [if_pos e, if_pos e]
    exact if_neg (by omega)
  · rw [if_neg e, if_neg e]
    exact if_neg (by omega)
theorem zNx_20 (S : Nat → zSn) (s' : zSn) {k : Nat} (hk : k < 20) : zNx S 20 s' k = S (k + 1) := by
  unfold zNx
  rw [if_pos rfl]
  exact if_pos hk
theorem zNx_m (S : Nat → zSn) (s' : zSn) {m k : Nat} (hm : ¬ m = 20) (hk : k ≤ m) : zNx S m s' k = S k := by
  unfold zNx
  rw [if_neg hm]
  exact if_pos hk
def cP (s : zSn) (S : Nat → zSn) (m : Nat) (μ : zzM) : Prop := m ≤ 20 ∧ S m = s ∧ μ.1 2 8 = nI m ∧ ∀ k, k < m → zAct (μ.1 12 k) (S k) (S (k + 1))
def mP (S : Nat → zSn) (m : Nat) (μ : zzM) : Prop := μ.1 105 39 = nI m ∧ ∀ k, k < m → mRow 132 (24 * k) (S k) μ
def zPo (g : zG) (S : Nat → zSn) (m : Nat) : Prop := ∀ k, k ≤ m → zOk g (S k)
theorem zPo_nx {g : zG} {S : Nat → zSn} {m : Nat} {s' : zSn} (h : zPo g S m) (hs : zOk g s') : zPo g (zNx S m s') (zNm m) := by
  intro k hk
  by_cases el : k = zNm m
  · rw [el, zNx_l]
    exact hs
  · by_cases e : m = 20
    · subst e
      have hk : k ≤ 20 := hk
      have el : ¬ k = 20 := el
      rw [zNx_20 S s' (by omega)]
      exact h _ (by omega)
    · have hz : zNm m = m + 1 := if_neg e
      rw [zNx_m S s' e (by omega)]
      exact h _ (by omega)
/-- what the class has remembered -/
theorem cP_re {s s' : zSn} {S : Nat → zSn} {m : Nat} {μ o y : zzM} {a : Int32} (h : cP s S m μ) (hr : if m = 20 then o.1 2 8 = nI 20 ∧ (∀ q, q < 19 → o.1 12 q = μ.1 12 (q + 1)) ∧ o.1 12 19 = a else o.1 2 8 = nI (m + 1) ∧ (∀ q, q < m → o.1 12 q = μ.1 12 q) ∧ o.1 12 m = a) (ha : zAct a s s') (h2 : y.1 2 8 = o.1 2 8) (h12 : y.1 12 = o.1 12) : cP s' (zNx S m s') (zNm m) y := by
  obtain ⟨h1, h3, h4, h5⟩ := h
  refine ⟨zNm_le h1, zNx_l S m s', ?_, fun k hk => ?_⟩
  · rw [h2]
    unfold zNm
    by_cases e : m = 20
    · rw [if_pos e] at hr ⊢
      exact hr.1
    · rw [if_neg e] at hr ⊢
      exact hr.1
  · rw [h12]
    by_cases e : m = 20
    · subst e
      rw [if_pos rfl] at hr
      have hk : k < 20 := hk
      rw [zNx_20 S s' hk]
      by_cases e1 : k = 19
      · have q : zNx S 20 s' (k + 1) = s' := by
          rw [e1]
          exact zNx_l S 20 s'
        rw [q, e1, h3, hr.2.2]
        exact ha
      · rw [zNx_20 S s' (by omega), hr.2.1 k (by omega)]
        exact h5 (k + 1) (by omega)
    · rw [if_neg e] at hr
      have hz : zNm m = m + 1 := if_neg e
      rw [hz] at hk
      rw [zNx_m S s' e (by omega)]
      by_cases e1 : k = m
      · have q : zNx S m s' (k + 1) = s' := by
          rw [e1, ← hz]
          exact zNx_l S m s'
        rw [q, e1, h3, hr.2.2]
        exact ha
      · rw [zNx_m S s' e (by omega), hr.2.1 k (by omega)]
        exact h5 k (by omega)
theorem mRow_cg {c b c' b' : Nat} {s : zSn} {μ y : zzM} (hs : sL s ≤ 12) (hb : (sB s).length ≤ 8) (h : mRow c b s μ) (hr : ∀ j, j < 24 → y.1 c' (b' + j) = μ.1 c (b + j)) : mRow c' b' s y := by
  obtain ⟨r1, r2, r3, r4, r5, r6⟩ := h
  refine ⟨(hr 0 (by omega)).trans r1, (hr 1 (by omega)).trans r2, (hr 2 (by omega)).trans r3, (hr 3 (by omega)).trans r4, fun k hk => ?_, fun k hk => ?_⟩
  · have := hr (4 + k) (by omega)
    rw [← Nat.add_assoc, ← Nat.add_assoc] at this
    rw [this]
    exact r5 k hk
  · have := hr (16 + k) (by omega)
    rw [← Nat.add_assoc, ← Nat.add_assoc] at this
    rw [this]
    exact r6 k hk
/-- what the reference has kept -/
theorem mP_ke {g : zG} {s : zSn} {μ : zzM} {s' : zSn} {S : Nat → zSn} {m : Nat} {o y : zzM} (h : mP S m μ) (hm : m ≤ 20) (hS : S m = s) (hP : zPo g S m) (h2 : zm2 g s μ) (hr : if m = 20 then o.1 105 39 = nI 20 ∧ (∀ q, q < 456 → o.1 132 q = μ.1 132 (q + 24)) ∧ ∀ j, j < 24 → o.1 132 (456 + j) = mRaw μ j else o.1 105 39 = nI (m + 1) ∧ (∀ q, q < 24 * m → o.1 132 q = μ.1 132 q) ∧ ∀ j, j < 24 → o.1 132 (24 * m + j) = mRaw μ j) (h39 : y.1 105 39 = o.1 105 39) (h132 : y.1 132 = o.1 132) : mP (zNx S m s') (zNm m) y := by
  have hws : ∀ k, k ≤ m → zws g (S k) := fun k hk => (hP k hk).hs
  have hs : zws g s := hS ▸ hws m (Nat.le_refl _)
  refine ⟨?_, fun k hk => ?_⟩
  · rw [h39]
    unfold zNm
    by_cases e : m = 20
    · rw [if_pos e] at hr ⊢
      exact hr.1
    · rw [if_neg e] at hr ⊢
      exact hr.1
  · by_cases e : m = 20
    · subst e
      rw [if_pos rfl] at hr
      have hk : k < 20 := hk
      rw [zNx_20 S s' hk]
      by_cases e1 : k = 19
      · rw [e1, hS]
        refine mRow_of h2 hs fun j hj => ?_
        rw [h132]
        exact hr.2.2 j hj
      · have hw := hws (k + 1) (by omega)
        refine mRow_cg hw.1 hw.2.2.2.2.1 (h.2 (k + 1) (by omega)) fun j hj => ?_
        rw [h132, hr.2.1 _ (by omega), show 24 * k + j + 24 = 24 * (k + 1) + j by omega]
    · rw [if_neg e] at hr
      have hz : zNm m = m + 1 := if_neg e
      rw [hz] at hk
      rw [zNx_m S s' e (by omega)]
      by_cases e1 : k = m
      · rw [e1, hS]
        refine mRow_of h2 hs fun j hj => ?_
        rw [h132]
        exact hr.2.2 j hj
      · have hw := hws k (by omega)
        refine mRow_cg hw.1 hw.2.2.2.2.1 (h.2 k (by omega)) fun j hj => ?_
        rw [h132, hr.2.1 _ (by omega)]
/-- neither is touched by queries -/
theorem cP_fr {s : zSn} {S : Nat → zSn} {m : Nat} {μ y : zzM} {L : List Nat} (h : cP s S m μ) (hf : zfr L μ y) (hl : zdj [2, 12] L) : cP s S m y := by
  unfold cP at h ⊢
  rw [zf_i hf (zdj_i hl (c := 2) (by simp)), zf_i hf (zdj_i hl (c := 12) (by simp))]
  exact h
theorem mP_fr {S : Nat → zSn} {m : Nat} {μ y : zzM} {L : List Nat} (h : mP S m μ) (hf : zfr L μ y) (h39 : y.1 105 39 = μ.1 105 39) (hl : zdj [132] L) : mP S m y := by
  unfold mP mRow at h ⊢
  rw [h39, zf_i hf (zdj_i hl (c := 132) (by simp))]
  exact h
