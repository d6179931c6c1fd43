/-! what the class's charts hold; one bit of the ends of every place written -/
theorem zPa_cut {w : Nat → Nat → Nat → Prop} : ∀ {K k m n : Nat}, k ≤ K → zPa w K m n → ∃ j, j ≤ n ∧ zPa w k m j ∧ True
  | 0, k, m, n, h, q => by
    have : k = 0 := by omega
    subst this
    exact ⟨n, Nat.le_refl _, q, trivial⟩
  | K + 1, k, m, n, h, q => by
    by_cases e : k = K + 1
    · subst e
      exact ⟨n, Nat.le_refl _, q, trivial⟩
    · obtain ⟨i, h1, h2, h3, h4⟩ := q
      obtain ⟨j, h5, h6, -⟩ := zPa_cut (show k ≤ K by omega) h3
      exact ⟨j, by omega, h6, trivial⟩
theorem b_low2 : ∀ n, n < 13 → ∀ j, j < 32 → bt ((nI 2 <<< (nI n &&& 31)) - nI 1) j = decide (j ≤ n) := by decide +kernel
def zsp (i j : Nat) : Nat := j * (j + 1) / 2 + i
theorem zsp_lt : ∀ j, j < 13 → ∀ i, i < 13 → i ≤ j → zsp i j < 91 := by decide +kernel
def zspt (j i j' i' : Nat) : Bool := !(decide (i ≤ j) && (decide (i' ≤ j') && decide (zsp i j = zsp i' j'))) || (decide (i = i') && decide (j = j'))
theorem zsp_inj0 : ∀ j, j < 13 → ∀ i, i < 13 → ∀ j', j' < 13 → ∀ i', i' < 13 → zspt j i j' i' = true := by decide +kernel
theorem zsp_inj : ∀ j, j < 13 → ∀ i, i < 13 → i ≤ j → ∀ j', j' < 13 → ∀ i', i' < 13 → i' ≤ j' → zsp i j = zsp i' j' → i = i' ∧ j = j' := by
  intro j hj i hi h j' hj' i' hi' h' e
  have := zsp_inj0 j hj i hi j' hj' i' hi'
  unfold zspt at this
  simpa [h, h', e] using this
/-- which rules may be below which, as bits -/
def cFi (b : Bool) (FI : Nat) (g : zG) (s : zSn) (μ : zzM) : Prop := ∀ r k, r < gN g → k < gZ g r → ∀ q, q < 32 → bt (μ.1 FI (r * 4 + k)) q = zbl b g s r k q
/-- no place ends ahead of its begin -/
def cEl (EN : Nat) (μ : zzM) : Prop := ∀ x i j, x < 48 → i < 13 → j < i → bt (μ.1 EN (x * 13 + i)) j = false
def cdone (g : zG) (r0 k0 x : Nat) : Prop := x / 4 < gN g ∧ x % 4 < gZ g (x / 4) ∧ (x / 4 < r0 ∨ (x / 4 = r0 ∧ x % 4 < k0))
/-- bit n of the ends of places up to (r0, k0) that begin at m is f -/
def cEw (EN : Nat) (g : zG) (m n : Nat) (f : Nat → Nat → Bool) (r0 k0 : Nat) (μ y : zzM) : Prop := ∀ x, x < 48 → ∀ i, i < 13 → ∀ j, j < 32 → ((i = m ∧ j = n ∧ cdone g r0 k0 x → bt (y.1 EN (x * 13 + i)) j = f (x / 4) (x % 4)) ∧ (¬ (i = m ∧ j = n ∧ cdone g r0 k0 x) → bt (y.1 EN (x * 13 + i)) j = bt (μ.1 EN (x * 13 + i)) j))
def cEo (EN : Nat) (g : zG) (m n : Nat) (f : Nat → Nat → Bool) (r0 k0 : Nat) (μ y : zzM) : Prop := ∀ x, x < 48 → ∀ i, i < 13 → ∀ j, j < 32 → ((i = m ∧ j = n ∧ cdone g r0 k0 x → bt (y.1 EN (x * 13 + i)) j = (bt (μ.1 EN (x * 13 + i)) j || f (x / 4) (x % 4))) ∧ (¬ (i = m ∧ j = n ∧ cdone g r0 k0 x) → bt (y.1 EN (x * 13 + i)) j = bt (μ.1 EN (x * 13 + i)) j))
theorem cEw_0 (EN : Nat) (g : zG) (m n : Nat) (f : Nat → Nat → Bool) (μ : zzM) : cEw EN g m n f 0 0 μ μ := fun x hx i hi j hj => ⟨fun q => absurd q.2.2.2.2 (by omega), fun _ => rfl⟩
theorem cEo_0 (EN : Nat) (g : zG) (m n : Nat) (f : Nat → Nat → Bool) (μ : zzM) : cEo EN g m n f 0 0 μ μ := fun x hx i hi j hj => ⟨fun q => absurd q.2.2.2.2 (by omega), fun _ => rfl⟩
theorem cdone_r {g : zG} {r x : Nat} : cdone g (r + 1) 0 x ↔ cdone g r (gZ g r) x := by
  unfold cdone
  constructor
  · rintro ⟨a, b, c⟩
    refine ⟨a, b, ?_⟩
    rcases c with c | c
    · by_cases e : x / 4 = r
      · exact .inr ⟨e, by rw [e] at b; exact b⟩
      · exact .inl (by omega)
    · omega
  · rintro ⟨a, b, c⟩
    exact ⟨a, b, by omega⟩
theorem cEw_r {EN : Nat} {g : zG} {m n : Nat} {f : Nat → Nat → Bool} {r : Nat} {μ y : zzM} (h : cEw EN g m n f r (gZ g r) μ y) : cEw EN g m n f (r + 1) 0 μ y := fun x hx i hi j hj => by
  rw [cdone_r]
  exact h x hx i hi j hj
theorem cEo_r {EN : Nat} {g : zG} {m n : Nat} {f : Nat → Nat → Bool} {r : Nat} {μ y : zzM} (h : cEo EN g m n f r (gZ g r) μ y) : cEo EN g m n f (r + 1) 0 μ y := fun x hx i hi j hj => by
  rw [cdone_r]
  exact h x hx i hi j hj
theorem cdone_s {g : zG} {r k x : Nat} (hr : r < gN g) (hk : k < gZ g r) (hk4 : k < 4) (hx : ¬ x = r * 4 + k) : cdone g r (k + 1) x ↔ cdone g r k x := by
  unfold cdone
  constructor
  · rintro ⟨a, b, c⟩
    exact ⟨a, b, by omega⟩
  · rintro ⟨a, b, c⟩
    exact ⟨a, b, by omega⟩
theorem cdone_n {g : zG} {r k : Nat} (hk4 : k < 4) : ¬ cdone g r k (r * 4 + k) := by
  unfold cdone
  omega
theorem cdone_y {g : zG} {r k : Nat} (hr : r < gN g) (hk : k < gZ g r) (hk4 : k < 4) : cdone g r (k + 1) (r * 4 + k) := by
  have e1 : (r * 4 + k) / 4 = r := by omega
  have e2 : (r * 4 + k) % 4 = k := by omega
  unfold cdone
  rw [e1, e2]
  exact ⟨hr, hk, .inr ⟨rfl, by omega⟩⟩
theorem cEw_s {EN : Nat} {g : zG} {m n : Nat} {f : Nat → Nat → Bool} {r k : Nat} {μ y y' : zzM} (h : cEw EN g m n f r k μ y) (hk : k < gZ g r) (hr : r < gN g) (hk4 : k < 4) (hm : m < 13) (h1 : ∀ p, p ≠ (r * 4 + k) * 13 + m → y'.1 EN p = y.1 EN p) (h2 : ∀ j, j < 32 → bt (y'.1 EN ((r * 4 + k) * 13 + m)) j = if j = n then f r k else bt (y.1 EN ((r * 4 + k) * 13 + m)) j) : cEw EN g m n f r (k + 1) μ y' := by
  have e1 : (r * 4 + k) / 4 = r := by omega
  have e2 : (r * 4 + k) % 4 = k := by omega
  intro x hx i hi j hj
  have h0 := h x hx i hi j hj
  by_cases ex : x = r * 4 + k
  · subst ex
    by_cases ei : i = m
    · subst ei
      rw [h2 j hj, e1, e2]
      refine ⟨fun q => by rw [if_pos q.2.1], fun q => ?_⟩
      have hjn : ¬ j = n := fun e => q ⟨rfl, e, cdone_y hr hk hk4⟩
      rw [if_neg hjn]
      exact h0.2 fun q => hjn q.2.1
    · rw [h1 _ (by omega)]
      exact ⟨fun q => absurd q.1 ei, fun _ => h0.2 fun q => ei q.1⟩
  · rw [h1 _ (by omega), cdone_s hr hk hk4 ex]
    exact h0
theorem cEo_s {EN : Nat} {g : zG} {m n : Nat} {f : Nat → Nat → Bool} {r k : Nat} {μ y y' : zzM} (h : cEo EN g m n f r k μ y) (hk : k < gZ g r) (hr : r < gN g) (hk4 : k < 4) (hm : m < 13) (h1 : ∀ p, p ≠ (r * 4 + k) * 13 + m → y'.1 EN p = y.1 EN p) (h2 : ∀ j, j < 32 → bt (y'.1 EN ((r * 4 + k) * 13 + m)) j = (bt (y.1 EN ((r * 4 + k) * 13 + m)) j || (decide (j = n) && f r k))) : cEo EN g m n f r (k + 1) μ y' := by
  have e1 : (r * 4 + k) / 4 = r := by omega
  have e2 : (r * 4 + k) % 4 = k := by omega
  intro x hx i hi j hj
  have h0 := h x hx i hi j hj
  by_cases ex : x = r * 4 + k
  · subst ex
    have h3 := fun q : i = m ∧ j = n ∧ cdone g r k (r * 4 + k) => cdone_n hk4 q.2.2
    by_cases ei : i = m
    · subst ei
      rw [h2 j hj, e1, e2, h0.2 h3]
      refine ⟨fun q => by rw [decide_eq_true q.2.1, Bool.true_and], fun q => ?_⟩
      have hjn : ¬ j = n := fun e => q ⟨rfl, e, cdone_y hr hk hk4⟩
      rw [decide_eq_false hjn, Bool.false_and, Bool.or_false]
    · rw [h1 _ (by omega)]
      exact ⟨fun q => absurd q.1 ei, fun _ => h0.2 fun q => ei q.1⟩
  · rw [h1 _ (by omega), cdone_s hr hk hk4 ex]
    exact h0
