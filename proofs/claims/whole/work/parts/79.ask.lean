/-! what is asked of the charts of the class: rows of a capital, ends, rules below -/
theorem c_ro {b : Bool} {C FI RO EN : Nat} {g : zG} {s : zSn} {μ : zzM} (h : cCf b C FI RO EN g s μ) {i j r : Nat} (hi : i ≤ j) (hj : j ≤ sL s) (hl : sL s ≤ 12) (hr : r < 32) : bt (μ.1 RO (zsp i j)) r = true ↔ zM b g s r i j := (h.2.2.2.2 i j hj hi (by omega)).1 r hr
theorem c_en {b : Bool} {C FI RO EN : Nat} {g : zG} {s : zSn} {μ : zzM} (h : cCf b C FI RO EN g s μ) {i j r k : Nat} (hi : i ≤ j) (hj : j ≤ sL s) (hl : sL s ≤ 12) (hr : r < gN g) (hk : k < gZ g r) : bt (μ.1 EN ((r * 4 + k) * 13 + i)) j = true ↔ zCB b g s (zM b g s) r k i j := (h.2.2.2.2 i j hj hi (by omega)).2 r k hr hk
/-- a capital derives a part -/
def zDv (g : zG) (s : zSn) (x m n : Nat) : Prop := ∃ q, gL g q = x ∧ zM false g s q m n
theorem s_hasRow {g : zG} {s : zSn} {μ : zzM} (h : zc2 g s μ) (hg : zwg g) (hc : cCf false 31 32 33 34 g s μ) (hl : sL s ≤ 12) (d : Nat) {x m n : Nat} (hx : 26 ≤ x) (hx2 : x < 52) (hm : m ≤ n) (hn : n ≤ sL s) : zw (zzf zzP zN (d + 3) 53 [.ref 31, .int (nI x), .int (nI m), .int (nI n)] μ) fun o => o.2 = μ ∧ ∃ b, o.1.1 = zB b ∧ (b = true ↔ zDv g s x m n) := by
  have hgn := g_n hg
  rw [u_chart_hasRow, s_rulesAt_31 _ hm (by omega), Option.bind_some, zq_sub hx, zr_i _ _ (by omega) (by omega), Option.bind_some]
  simp only [zk_0, zk_1, if_true]
  have key : ((μ.1 33 (zsp m n) &&& μ.1 9 (x - 26)) = 0) ↔ ¬ zDv g s x m n := by
    rw [b_and0]
    constructor
    · rintro q ⟨r, h1, h2⟩
      have h3 := zM_lt h2
      exact q r (by omega) ⟨(c_ro hc hm hn hl (by omega)).2 h2, by rw [c_u h (by omega) (by omega), decide_eq_true_eq]; exact ⟨h3, by omega⟩⟩
    · rintro q r hr ⟨h1, h2⟩
      rw [c_u h (by omega) (by omega), decide_eq_true_eq] at h2
      exact q ⟨r, by omega, (c_ro hc hm hn hl (by omega)).1 h1⟩
  by_cases e : (μ.1 33 (zsp m n) &&& μ.1 9 (x - 26)) = 0
  · rw [if_pos e]
    exact zw_some ⟨rfl, false, rfl, fun q => (by cases q), fun q => absurd q (key.1 e)⟩
  · rw [if_neg e]
    refine zw_some ⟨rfl, true, rfl, fun _ => ?_, fun _ => rfl⟩
    apply Classical.byContradiction
    intro q
    exact e (key.2 q)
theorem s_endsOf {g : zG} {s : zSn} {μ : zzM} (hg : zwg g) (hc : cCf true 36 37 38 39 g s μ) (hl : sL s ≤ 12) (d : Nat) {r k i n : Nat} (hr : r < gN g) (hk : k < gZ g r) (hi : i ≤ n) (hn : n ≤ sL s) : zw (zzf zzP zN (d + 1) 56 [.ref 36, .int (nI r), .int (nI k), .int (nI i), .int (nI n)] μ) fun o => o.2 = μ ∧ ∀ j, j < 32 → (bt o.1.1 j = true ↔ i ≤ j ∧ j ≤ n ∧ zCB true g s (zM true g s) r k i j) := by
  have hgn := g_n hg
  have hz := g_z hg hr
  rw [u_chart_endsOf]
  simp only [zq_mul, zq_add]
  rw [zr_i _ _ (by omega) (by omega), Option.bind_some]
  refine zw_some ⟨rfl, fun j hj => ?_⟩
  rw [b_and, b_low2 n (by omega) j hj, Bool.and_eq_true, decide_eq_true_eq]
  constructor
  · rintro ⟨a, b⟩
    have h1 : i ≤ j := by
      apply Nat.le_of_not_lt
      intro q
      rw [hc.2.2.1 (r * 4 + k) i j (by omega) (by omega) q] at a
      cases a
    exact ⟨h1, b, (c_en hc h1 (by omega) hl hr hk).1 a⟩
  · rintro ⟨a, b, c⟩
    exact ⟨(c_en hc a (by omega) hl hr hk).2 c, b⟩
theorem s_fits {g : zG} {s : zSn} {μ : zzM} (hg : zwg g) (hc : cCf true 36 37 38 39 g s μ) (hl : sL s ≤ 12) (d : Nat) {r k i j : Nat} (hr : r < gN g) (hk : k < gZ g r) (hi : i ≤ j) (hn : j ≤ sL s) : zw (zzf zzP zN (d + 1) 57 [.ref 36, .int (nI r), .int (nI k), .int (nI i), .int (nI j)] μ) fun o => o.2 = μ ∧ ∃ b, o.1.1 = zB b ∧ (b = true ↔ zCB true g s (zM true g s) r k i j) := by
  have hgn := g_n hg
  have hz := g_z hg hr
  rw [u_chart_fits]
  simp only [zq_mul, zq_add, zk_0, zk_1, if_true]
  rw [zr_i _ _ (by omega) (by omega), Option.bind_some]
  simp (disch := omega) only [b_bit]
  have := c_en hc hi hn hl hr hk
  cases e : bt (μ.1 39 ((r * 4 + k) * 13 + i)) j with
  | false =>
    rw [if_pos rfl]
    rw [e] at this
    exact zw_some ⟨rfl, false, rfl, this⟩
  | true =>
    rw [if_neg (by decide)]
    rw [e] at this
    exact zw_some ⟨rfl, true, rfl, this⟩
theorem s_below {g : zG} {s : zSn} {μ : zzM} (hg : zwg g) (hc : cCf true 36 37 38 39 g s μ) (hl : sL s ≤ 12) (d : Nat) {r k i j : Nat} (hr : r < gN g) (hk : k < gZ g r) (hi : i ≤ j) (hn : j ≤ sL s) : zw (zzf zzP zN (d + 2) 55 [.ref 36, .int (nI r), .int (nI k), .int (nI i), .int (nI j)] μ) fun o => o.2 = μ ∧ ∀ q, q < 32 → (bt o.1.1 q = true ↔ zM true g s q i j ∧ zbl true g s r k q = true) := by
  have hgn := g_n hg
  have hz := g_z hg hr
  have hsp := zsp_lt j (by omega) i (by omega) hi
  rw [u_chart_rulesBelow, s_zsp _ hi (by omega), Option.bind_some, zr_i _ _ hsp (by omega), Option.bind_some, zq_mul, zq_add, zr_i _ _ (by omega) (by omega), Option.bind_some]
  refine zw_some ⟨rfl, fun q hq => ?_⟩
  rw [b_and, Bool.and_eq_true, c_ro hc hi hn hl hq, hc.2.2.2.1 r k hr hk q hq]
