/-! TREES, the pure picture: ways behind, ways with an endless part, sums over ways; what is without end; the equation of the numbers -/
def zPb (w : Nat → Nat → Nat → Prop) (n : Nat) : Nat → Nat → Nat → Prop
  | 0, _, j => j = n
  | d + 1, k, j => ∃ i, j ≤ i ∧ i ≤ n ∧ w k j i ∧ zPb w n d (k + 1) i
theorem zPb_le {w : Nat → Nat → Nat → Prop} {n : Nat} : ∀ {d k j : Nat}, zPb w n d k j → j ≤ n
  | 0, _, _, h => Nat.le_of_eq h
  | d + 1, k, j, ⟨i, h1, h2, _, _⟩ => by omega
theorem zPb_mo {w w' : Nat → Nat → Nat → Prop} {n : Nat} : ∀ {d k j : Nat}, (∀ k' i' j', k ≤ k' → k' < k + d → j ≤ i' → i' ≤ j' → j' ≤ n → w k' i' j' → w' k' i' j') → zPb w n d k j → zPb w' n d k j
  | 0, _, _, _, h => h
  | d + 1, k, j, hw, ⟨i, h1, h2, h3, h4⟩ => ⟨i, h1, h2, hw k j i (Nat.le_refl _) (by omega) (Nat.le_refl _) h1 h2 h3, zPb_mo (fun k' i' j' a b c e f => hw k' i' j' (by omega) (by omega) (by omega) e f) h4⟩
theorem zPa_join {w : Nat → Nat → Nat → Prop} {m n : Nat} : ∀ {d k j : Nat}, zPa w k m j → zPb w n d k j → zPa w (k + d) m n
  | 0, k, j, h, q => by
    have q : j = n := q
    rw [← q]
    exact h
  | d + 1, k, j, h, ⟨i, h1, h2, h3, h4⟩ => by
    have := zPa_join (k := k + 1) (j := i) ⟨j, zPa_le h, h1, h, h3⟩ h4
    rw [show k + 1 + d = k + (d + 1) by omega] at this
    exact this
theorem zPa_mm {w : Nat → Nat → Nat → Prop} {m : Nat} : ∀ {k : Nat}, zPa w k m m → ∀ i, i < k → w i m m
  | 0, _, i, h => absurd h (Nat.not_lt_zero _)
  | k + 1, ⟨j, h1, h2, h3, h4⟩, i, h => by
    have e : j = m := by omega
    subst e
    by_cases ei : i = k
    · rw [ei]; exact h4
    · exact zPa_mm h3 i (by omega)
theorem zPb_nn {w : Nat → Nat → Nat → Prop} {n : Nat} : ∀ {d k : Nat}, zPb w n d k n → ∀ i, k ≤ i → i < k + d → w i n n
  | 0, k, _, i, h, h' => by omega
  | d + 1, k, ⟨j, h1, h2, h3, h4⟩, i, h, h' => by
    have e : j = n := by omega
    subst e
    by_cases ei : i = k
    · rw [ei]; exact h3
    · exact zPb_nn h4 i (by omega) (by omega)
/-- a way with a part of another kind in it -/
def zPx (w x : Nat → Nat → Nat → Prop) (m : Nat) : Nat → Nat → Prop
  | 0, _ => False
  | k + 1, j => ∃ i, m ≤ i ∧ i ≤ j ∧ ((zPx w x m k i ∧ w k i j) ∨ (zPa w k m i ∧ x k i j))
theorem zPx_out {w x : Nat → Nat → Nat → Prop} {m n : Nat} : ∀ {d k j : Nat}, zPx w x m k j → zPb w n d k j → ∃ k' d' i j', k' + 1 + d' = k + d ∧ zPa w k' m i ∧ i ≤ j' ∧ j' ≤ n ∧ x k' i j' ∧ zPb w n d' (k' + 1) j' := by
  intro d k
  induction k generalizing d with
  | zero => intro j h; exact h.elim
  | succ k ih =>
    rintro j ⟨i, h1, h2, h | h⟩ hb
    · obtain ⟨k', d', i', j', a, b⟩ := ih (d := d + 1) h.1 ⟨j, h2, zPb_le hb, h.2, hb⟩
      exact ⟨k', d', i', j', by omega, b⟩
    · exact ⟨k, d, i, j, by omega, h.1, h2, zPb_le hb, h.2, hb⟩
theorem zPx_go {w x : Nat → Nat → Nat → Prop} {m n : Nat} : ∀ {d k j : Nat}, zPx w x m k j → m ≤ j → zPb w n d k j → zPx w x m (k + d) n
  | 0, k, j, h, _, q => by
    have q : j = n := q
    rw [← q]
    exact h
  | d + 1, k, j, h, hm, ⟨i, h1, h2, h3, h4⟩ => by
    have := zPx_go (k := k + 1) (j := i) ⟨j, hm, h1, .inl ⟨h, h3⟩⟩ (by omega) h4
    rw [show k + 1 + d = k + (d + 1) by omega] at this
    exact this
theorem zPx_in {w x : Nat → Nat → Nat → Prop} {m n k d i j : Nat} (h : zPa w k m i) (hij : i ≤ j) (hx : x k i j) (hb : zPb w n d (k + 1) j) : zPx w x m (k + 1 + d) n := zPx_go (k := k + 1) ⟨i, zPa_le h, hij, .inr ⟨h, hx⟩⟩ (by have := zPa_le h; omega) hb
theorem zPx_mo {w w' x x' : Nat → Nat → Nat → Prop} {m : Nat} : ∀ {k j : Nat}, (∀ k' i' j', k' < k → m ≤ i' → i' ≤ j' → j' ≤ j → (w k' i' j' → w' k' i' j') ∧ (x k' i' j' → x' k' i' j')) → zPx w x m k j → zPx w' x' m k j
  | 0, _, _, h => h
  | k + 1, j, hw, ⟨i, h1, h2, h⟩ => ⟨i, h1, h2, h.imp (fun q => ⟨zPx_mo (fun k' i' j' a b c e => hw k' i' j' (by omega) b c (by omega)) q.1, (hw k i j (by omega) h1 h2 (Nat.le_refl _)).1 q.2⟩) (fun q => ⟨zPa_mo (fun k' i' j' a b c e f => (hw k' i' j' (by omega) b c (by omega)).1 f) q.1, (hw k i j (by omega) h1 h2 (Nat.le_refl _)).2 q.2⟩)⟩
/-- sums over ways -/
noncomputable def zNs (wt : Nat → Nat → Nat → Nat) (m : Nat) : Nat → Nat → Nat
  | 0, j => if j = m then 1 else 0
  | k + 1, j => zsuM (fun i => if m ≤ i then zNs wt m k i * wt k i j else 0) (j + 1)
theorem zsuM_ne {f : Nat → Nat} : ∀ {n : Nat}, zsuM f n ≠ 0 → ∃ i, i < n ∧ f i ≠ 0
  | 0, h => absurd rfl h
  | n + 1, h => by
    unfold zsuM at h
    by_cases e : f n = 0
    · obtain ⟨i, h1, h2⟩ := zsuM_ne (f := f) (n := n) (by omega)
      exact ⟨i, by omega, h2⟩
    · exact ⟨n, by omega, e⟩
theorem zNs_pa {wt : Nat → Nat → Nat → Nat} {m : Nat} : ∀ {k j : Nat}, zNs wt m k j ≠ 0 → zPa (fun k i j => wt k i j ≠ 0) k m j
  | 0, j, h => by
    unfold zNs at h
    by_cases e : j = m
    · exact e
    · rw [if_neg e] at h
      exact absurd rfl h
  | k + 1, j, h => by
    obtain ⟨i, h1, h2⟩ := zsuM_ne h
    by_cases e : m ≤ i
    · rw [if_pos e] at h2
      have h3 : zNs wt m k i ≠ 0 := fun q => h2 (by rw [q, Nat.zero_mul])
      have h4 : wt k i j ≠ 0 := fun q => h2 (by rw [q, Nat.mul_zero])
      exact ⟨i, e, by omega, zNs_pa h3, h4⟩
    · rw [if_neg e] at h2
      exact absurd rfl h2
theorem zNs_ne {wt : Nat → Nat → Nat → Nat} {m : Nat} : ∀ {k j : Nat}, zPa (fun k i j => wt k i j ≠ 0) k m j → zNs wt m k j ≠ 0
  | 0, j, h => by
    have h : j = m := h
    unfold zNs
    rw [if_pos h]
    omega
  | k + 1, j, ⟨i, h1, h2, h3, h4⟩ => by
    have h5 := zNs_ne h3
    have h6 : zNs wt m k i * wt k i j ≠ 0 := Nat.mul_ne_zero h5 h4
    have h7 := zsuM_at (f := fun i => if m ≤ i then zNs wt m k i * wt k i j else 0) (n := j + 1) (k := i) (by omega)
    rw [if_pos h1] at h7
    show zsuM _ (j + 1) ≠ 0
    omega
/-- only parts that a whole way can have count -/
theorem zNs_cg {w : Nat → Nat → Nat → Prop} {wt wt' : Nat → Nat → Nat → Nat} {m n : Nat} (hw : ∀ k i j, i ≤ j → j ≤ n → wt k i j ≠ 0 → w k i j) (hw' : ∀ k i j, i ≤ j → j ≤ n → wt' k i j ≠ 0 → w k i j) : ∀ {d k j : Nat}, (∀ k' d' i j, k' + 1 + d' = k + d → zPa w k' m i → i ≤ j → j ≤ n → zPb w n d' (k' + 1) j → wt k' i j = wt' k' i j) → zPb w n d k j → zNs wt m k j = zNs wt' m k j := by
  intro d k
  induction k generalizing d with
  | zero => intro j _ _; rfl
  | succ k ih =>
    intro j H hb
    have hjn := zPb_le hb
    refine zsuM_cg fun i hi => ?_
    by_cases e : m ≤ i
    · rw [if_pos e, if_pos e]
      by_cases hwij : w k i j
      · have h1 := ih (d := d + 1) (j := i) (fun k' d' i j a => H k' d' i j (by omega)) ⟨j, by omega, hjn, hwij, hb⟩
        rw [h1]
        by_cases e0 : zNs wt' m k i = 0
        · rw [e0, Nat.zero_mul, Nat.zero_mul]
        · have hpa : zPa w k m i := zPa_mo (fun k' i' j' _ a b c f => hw' k' i' j' b (by omega) f) (zNs_pa e0)
          rw [H k d i j (by omega) hpa (by omega) hjn hb]
      · have h1 : wt k i j = 0 := Classical.byContradiction fun q => hwij (hw k i j (by omega) hjn q)
        have h2 : wt' k i j = 0 := Classical.byContradiction fun q => hwij (hw' k i j (by omega) hjn q)
        rw [h1, h2, Nat.mul_zero, Nat.mul_zero]
    · rw [if_neg e, if_neg e]
-- what is without end
abbrev zw1 (g : zG) (s : zSn) (r : Nat) : Nat → Nat → Nat → Prop := zCB true g s (zM true g s) r
/-- q below r over the same part, all other places empty -/
def zSm (g : zG) (s : zSn) (m n r q : Nat) : Prop := zM true g s r m n ∧ ∃ k, k < gZ g r ∧ zbl true g s r k q = true ∧ zM true g s q m n ∧ ∀ i, i < gZ g r → i ≠ k → zw1 g s r i (if i < k then m else n) (if i < k then m else n)
def zEh (g : zG) (s : zSn) : Nat → Nat → Nat → Nat → Prop
  | 0, _, _, _ => False
  | h + 1, r, m, n => zM true g s r m n ∧ (zTr (zSm g s m n) r r ∨ zPx (zw1 g s r) (fun k i j => ∃ q, zbl true g s r k q = true ∧ zEh g s h q i j) m (gZ g r) n)
def zEn (g : zG) (s : zSn) (r m n : Nat) : Prop := ∃ h, zEh g s h r m n
theorem zEn_M {g : zG} {s : zSn} {r m n : Nat} (h : zEn g s r m n) : zM true g s r m n := by
  obtain ⟨h, q⟩ := h
  cases h with
  | zero => exact q.elim
  | succ h => exact q.1
theorem zEn_ring {g : zG} {s : zSn} {r m n : Nat} (h : zM true g s r m n) (h' : zTr (zSm g s m n) r r) : zEn g s r m n := ⟨1, h, .inl h'⟩
theorem zEx_cap {g : zG} {s : zSn} (hg : zwg g) {r k q i j : Nat} (h : zbl true g s r k q = true) (h' : zM true g s q i j) : zw1 g s r k i j := .inr ⟨zbl_cap hg h, q, h, h'⟩
theorem zPb_self {w : Nat → Nat → Nat → Prop} {n j : Nat} (h : j = n) (k : Nat) : zPb w n 0 k j := h
theorem zEn_in {g : zG} {s : zSn} {r m n : Nat} (h : zM true g s r m n) (h' : zPx (zw1 g s r) (fun k i j => ∃ q, zbl true g s r k q = true ∧ zEn g s q i j) m (gZ g r) n) : zEn g s r m n := by
  obtain ⟨k, d, i, j, a, b, c, f, ⟨q, q1, hh, q2⟩, e⟩ := zPx_out h' (zPb_self rfl (gZ g r))
  refine ⟨hh + 1, h, .inr ?_⟩
  have := zPx_in (x := fun k i j => ∃ q, zbl true g s r k q = true ∧ zEh g s hh q i j) b c ⟨q, q1, q2⟩ e
  rw [show k + 1 + d = gZ g r by omega] at this
  exact this
theorem zEn_sm {g : zG} {s : zSn} (hg : zwg g) {r q m n : Nat} (h : zSm g s m n r q) (hq : zEn g s q m n) : zEn g s r m n := by
  obtain ⟨h1, k, hk, h2, h3, h4⟩ := h
  refine zEn_in h1 ?_
  have hmn := zM_le h3
  have ha : ∀ k', k' ≤ k → zPa (zw1 g s r) k' m m := by
    intro k'
    induction k' with
    | zero => intro _; rfl
    | succ k' ih =>
      intro hk'
      have := h4 k' (by omega) (by omega)
      rw [if_pos (by omega)] at this
      exact ⟨m, Nat.le_refl _, Nat.le_refl _, ih (by omega), this⟩
  have hb : ∀ d k', k < k' → k' + d = gZ g r → zPb (zw1 g s r) n d k' n := by
    intro d
    induction d with
    | zero => intro k' _ _; rfl
    | succ d ih =>
      intro k' a b
      have := h4 k' (by omega) (by omega)
      rw [if_neg (by omega)] at this
      exact ⟨n, Nat.le_refl _, Nat.le_refl _, this, ih (k' + 1) (by omega) (by omega)⟩
  have := zPx_in (x := fun k i j => ∃ q, zbl true g s r k q = true ∧ zEn g s q i j) (ha k (Nat.le_refl _)) hmn ⟨q, h2, hq⟩ (hb (gZ g r - (k + 1)) (k + 1) (by omega) (by omega))
  rw [show k + 1 + (gZ g r - (k + 1)) = gZ g r by omega] at this
  exact this
/-- a part of a whole way over the same part of the text -/
theorem zSm_way {g : zG} {s : zSn} {r q m n k d : Nat} (hr : zM true g s r m n) (hk : k + 1 + d = gZ g r) (ha : zPa (zw1 g s r) k m m) (hb : zPb (zw1 g s r) n d (k + 1) n) (h : zbl true g s r k q = true) (hq : zM true g s q m n) : zSm g s m n r q := by
  refine ⟨hr, k, by omega, h, hq, fun i hi hik => ?_⟩
  by_cases e : i < k
  · rw [if_pos e]
    exact zPa_mm ha i e
  · rw [if_neg e]
    exact zPb_nn hb i (by omega) (by omega)
theorem zSm_lt {g : zG} {s : zSn} {m n r q : Nat} (h : zSm g s m n r q) : r < gN g ∧ q < gN g := ⟨zM_lt h.1, by obtain ⟨-, k, -, -, h3, -⟩ := h; exact zM_lt h3⟩
/-- how many come below -/
noncomputable def zDs (g : zG) (s : zSn) (m n r : Nat) : Nat := zcnt (fun q => zdc (zTr (zSm g s m n) r q)) 12
theorem zTr_lt {R : Nat → Nat → Prop} {N : Nat} (hR : ∀ a b, R a b → b < N) {a b : Nat} (h : zTr R a b) : b < N := zlfp_le (P := fun b => b < N) (fun b q => q.elim (fun q => hR _ _ q) (fun ⟨_, _, q⟩ => hR _ _ q)) h
theorem zDs_lt {g : zG} {s : zSn} (hg : zwg g) {m n r q : Nat} (h : zSm g s m n r q) (hq : ¬ zTr (zSm g s m n) q q) : zDs g s m n q < zDs g s m n r := by
  have hgn := g_n hg
  refine zcnt_lt (fun i _ e => zdc_t.2 (zTr_t (zTr_1 h) (zdc_t.1 e))) ⟨q, ?_, zdc_f.2 hq, zdc_t.2 (zTr_1 h)⟩
  have := (zSm_lt h).2
  omega
theorem zDs_le (g : zG) (s : zSn) (m n r : Nat) : zDs g s m n r ≤ 12 := zcnt_le _ _
-- the numbers
def zTm : Nat := 2147483648
noncomputable def zwn (g : zG) (s : zSn) (vn : Nat → Nat → Nat → Nat) (r k i j : Nat) : Nat := if gS g r k < 26 then (if j = i + 1 ∧ sX s i = gS g r k then 1 else 0) else min (zsuM (fun q => if zbl true g s r k q then vn q i j else 0) (gN g)) zTm
/-- what the numbers of trees of a part keep to -/
def zEq (g : zG) (s : zSn) (vn : Nat → Nat → Nat → Nat) (m n : Nat) : Prop := ∀ r, r < gN g → (zM true g s r m n ∧ ¬ zEn g s r m n → vn r m n = min (zNs (zwn g s vn r) m (gZ g r) n) zTm) ∧ (¬ (zM true g s r m n ∧ ¬ zEn g s r m n) → vn r m n = 0)
/-- nothing but what is made and ends has a number -/
def zSu (g : zG) (s : zSn) (vn : Nat → Nat → Nat → Nat) (m n : Nat) : Prop := ∀ r, r < gN g → vn r m n ≠ 0 → zM true g s r m n
theorem zwn_w {g : zG} {s : zSn} (hg : zwg g) {vn : Nat → Nat → Nat → Nat} {r k i j : Nat} (h : zSu g s vn i j) (hne : zwn g s vn r k i j ≠ 0) : zw1 g s r k i j := by
  unfold zwn at hne
  by_cases e : gS g r k < 26
  · rw [if_pos e] at hne
    by_cases e1 : j = i + 1 ∧ sX s i = gS g r k
    · exact .inl ⟨e, e1.1, e1.2⟩
    · rw [if_neg e1] at hne
      exact absurd rfl hne
  · rw [if_neg e] at hne
    have h1 : zsuM (fun q => if zbl true g s r k q then vn q i j else 0) (gN g) ≠ 0 := fun q => hne (by rw [q]; exact Nat.zero_min _)
    obtain ⟨q, h2, h3⟩ := zsuM_ne h1
    cases hb : zbl true g s r k q with
    | false =>
      rw [hb] at h3
      exact absurd rfl h3
    | true =>
      rw [hb, if_pos rfl] at h3
      exact zEx_cap hg hb (h q h2 h3)
theorem zwn_cg {g : zG} {s : zSn} {vn vn' : Nat → Nat → Nat → Nat} {r k i j : Nat} (h : ∀ q, q < gN g → zbl true g s r k q = true → vn q i j = vn' q i j) : zwn g s vn r k i j = zwn g s vn' r k i j := by
  unfold zwn
  have : zsuM (fun q => if zbl true g s r k q then vn q i j else 0) (gN g) = zsuM (fun q => if zbl true g s r k q then vn' q i j else 0) (gN g) := zsuM_cg fun q hq => by
    cases hb : zbl true g s r k q with
    | false => rfl
    | true => exact h q hq hb
  rw [this]
/-- the number of a rule hangs on those of what is below it in whole ways -/
theorem zNs_dep {g : zG} {s : zSn} (hg : zwg g) {vn vn' : Nat → Nat → Nat → Nat} {r m n : Nat} (hr : zM true g s r m n) (hs : ∀ i j, m ≤ i → i ≤ j → j ≤ n → zSu g s vn i j ∧ zSu g s vn' i j) (h1 : ∀ q i j, q < gN g → m ≤ i → i ≤ j → j ≤ n → ¬ (i = m ∧ j = n) → vn q i j = vn' q i j) (h2 : ∀ q, zSm g s m n r q → vn q m n = vn' q m n) : zNs (zwn g s vn r) m (gZ g r) n = zNs (zwn g s vn' r) m (gZ g r) n := by
  have hsu : ∀ (v : Nat → Nat → Nat → Nat), (∀ i j, m ≤ i → i ≤ j → j ≤ n → zSu g s v i j) → ∀ k i j, i ≤ j → j ≤ n → (if m ≤ i then zwn g s v r k i j else 0) ≠ 0 → zw1 g s r k i j := fun v hv k i j a b c => by
    by_cases e : m ≤ i
    · rw [if_pos e] at c
      exact zwn_w hg (hv i j e a b) c
    · rw [if_neg e] at c
      exact absurd rfl c
  have hcut : ∀ (v : Nat → Nat → Nat → Nat) k j, zNs (zwn g s v r) m k j = zNs (fun k i j => if m ≤ i then zwn g s v r k i j else 0) m k j := by
    intro v k
    induction k with
    | zero => intro j; rfl
    | succ k ih =>
      intro j
      refine zsuM_cg fun i _ => ?_
      by_cases e : m ≤ i
      · rw [if_pos e, if_pos e, ih i]
        show _ = _ * (if m ≤ i then zwn g s v r k i j else 0)
        rw [if_pos e]
      · rw [if_neg e, if_neg e]
  rw [hcut, hcut]
  refine zNs_cg (w := zw1 g s r) (n := n) (hsu vn fun i j a b c => (hs i j a b c).1) (hsu vn' fun i j a b c => (hs i j a b c).2) (d := 0) (fun k d i j hk ha hij hjn hb => ?_) rfl
  have hmi := zPa_le ha
  rw [if_pos hmi, if_pos hmi]
  refine zwn_cg fun q hq hbl => ?_
  by_cases e : i = m ∧ j = n
  · obtain ⟨rfl, rfl⟩ := e
    by_cases hqm : zM true g s q i j
    · exact h2 q (zSm_way hr (by omega) ha hb hbl hqm)
    · have a1 : vn q i j = 0 := Classical.byContradiction fun q' => hqm ((hs i j (Nat.le_refl _) hij (Nat.le_refl _)).1 q hq q')
      have a2 : vn' q i j = 0 := Classical.byContradiction fun q' => hqm ((hs i j (Nat.le_refl _) hij (Nat.le_refl _)).2 q hq q')
      rw [a1, a2]
  · exact h1 q i j hq hmi hij hjn e
theorem zEq_su {g : zG} {s : zSn} {vn : Nat → Nat → Nat → Nat} {m n : Nat} (h : zEq g s vn m n) : zSu g s vn m n := fun r hr q => Classical.byContradiction fun q' => q ((h r hr).2 fun e => q' e.1)
/-- there is one solution at most -/
theorem zEq_un {g : zG} {s : zSn} (hg : zwg g) {vn vn' : Nat → Nat → Nat → Nat} {L : Nat} (h : ∀ i j, i ≤ j → j ≤ L → zEq g s vn i j) (h' : ∀ i j, i ≤ j → j ≤ L → zEq g s vn' i j) : ∀ l m n, n = m + l → n ≤ L → ∀ r, r < gN g → vn r m n = vn' r m n := by
  intro l
  induction l using Nat.strongRecOn with
  | _ l ihl =>
    intro m n hml hnL
    have key : ∀ D r, r < gN g → zDs g s m n r = D → zM true g s r m n ∧ ¬ zEn g s r m n → vn r m n = vn' r m n := by
      intro D
      induction D using Nat.strongRecOn with
      | _ D ihD =>
        intro r hr hD hme
        rw [(h m n (by omega) hnL r hr).1 hme, (h' m n (by omega) hnL r hr).1 hme]
        rw [zNs_dep hg hme.1 (fun i j a b c => ⟨zEq_su (h i j b (by omega)), zEq_su (h' i j b (by omega))⟩) (fun q i j hq a b c e => ihl (j - i) (by omega) i j (by omega) (by omega) q hq) (fun q hq => ?_)]
        have hqe : ¬ zEn g s q m n := fun q' => hme.2 (zEn_sm hg hq q')
        have hqm : zM true g s q m n := by obtain ⟨-, k, -, -, h3, -⟩ := hq; exact h3
        exact ihD (zDs g s m n q) (by rw [← hD]; exact zDs_lt hg hq fun q' => hqe (zEn_ring hqm q')) q (zSm_lt hq).2 rfl ⟨hqm, hqe⟩
    intro r hr
    by_cases hme : zM true g s r m n ∧ ¬ zEn g s r m n
    · exact key _ r hr rfl hme
    · rw [(h m n (by omega) hnL r hr).2 hme, (h' m n (by omega) hnL r hr).2 hme]
