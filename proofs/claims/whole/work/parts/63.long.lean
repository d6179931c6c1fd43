/-! LONGS by their bits -/
def bl (x : Int64) (i : Nat) : Bool := x.toBitVec.getLsbD i
theorem l_ext {x y : Int64} (h : ∀ i, i < 64 → bl x i = bl y i) : x = y := Int64.toBitVec_inj.mp (BitVec.eq_of_getLsbD_eq (fun i hi => h i hi))
theorem l_or (x y : Int64) (i : Nat) : bl (x ||| y) i = (bl x i || bl y i) := by unfold bl; rw [Int64.toBitVec_or, BitVec.getLsbD_or]
theorem l_and (x y : Int64) (i : Nat) : bl (x &&& y) i = (bl x i && bl y i) := by unfold bl; rw [Int64.toBitVec_and, BitVec.getLsbD_and]
theorem l_0 (i : Nat) : bl 0 i = false := BitVec.getLsbD_zero
theorem l_z (i : Nat) : bl (lN 0) i = false := l_0 i
theorem l_big {x : Int64} {i : Nat} (h : 64 ≤ i) : bl x i = false := BitVec.getLsbD_of_ge _ _ h
theorem l_s : ∀ n, n < 64 → (((nI n).toInt64 &&& 63).toBitVec.smod 64).toNat = n := by decide +kernel
theorem l_shl {n : Nat} (hn : n < 64) (x : Int64) {i : Nat} (hi : i < 64) : bl (x <<< ((nI n).toInt64 &&& 63)) i = (decide (n ≤ i) && bl x (i - n)) := by
  unfold bl
  rw [Int64.toBitVec_shiftLeft]
  show (x.toBitVec <<< (((nI n).toInt64 &&& 63).toBitVec.smod 64).toNat).getLsbD i = _
  rw [l_s n hn, BitVec.getLsbD_shiftLeft]
  rcases Nat.lt_or_ge i n with h | h
  · simp [h, Nat.not_le.mpr h]
  · simp [hi, h, Nat.not_lt.mpr h]
theorem l_one (i : Nat) : bl (lN 1) i = decide (i = 0) := by
  rcases Nat.lt_or_ge i 64 with h | h
  · exact (by decide +kernel : ∀ i, i < 64 → bl (lN 1) i = decide (i = 0)) i h
  · rw [l_big h, decide_eq_false (by omega)]
theorem l_sh1 {n i : Nat} (hn : n < 64) (hi : i < 64) : bl (lN 1 <<< ((nI n).toInt64 &&& 63)) i = decide (i = n) := by
  rw [l_shl hn _ hi, l_one, ← Bool.decide_and]
  exact decide_eq_decide.2 (by omega)
theorem l_sshr {n : Nat} (hn : n < 64) (x : Int64) {i : Nat} (hi : i < 64) : bl (x >>> ((nI n).toInt64 &&& 63)) i = if n + i < 64 then bl x (n + i) else bl x 63 := by
  unfold bl
  rw [Int64.toBitVec_shiftRight]
  show (x.toBitVec.sshiftRight (((nI n).toInt64 &&& 63).toBitVec.smod 64).toNat).getLsbD i = _
  rw [l_s n hn, BitVec.getLsbD_sshiftRight, BitVec.msb_eq_getLsbD_last]
  simp [hi]
theorem l_bit (x : Int64) {n : Nat} (hn : n < 64) : ((x >>> ((nI n).toInt64 &&& 63)) &&& lN 1) = if bl x n then lN 1 else lN 0 := by
  refine l_ext fun i hi => ?_
  rw [l_and, l_one, l_sshr hn x hi]
  by_cases h0 : i = 0
  · subst h0
    rw [if_pos (by omega)]
    cases h : bl x n <;> simp [l_z, l_one, h]
  · cases h : bl x n <;> simp [h0, l_z, l_one]
theorem l_and0 (x y : Int64) : (x &&& y) = lN 0 ↔ ∀ j, j < 64 → ¬ (bl x j = true ∧ bl y j = true) := by
  constructor
  · rintro h j _ ⟨h1, h2⟩
    have := l_and x y j
    rw [h, l_z, h1, h2] at this
    cases this
  · intro h
    refine l_ext fun i hi => ?_
    rw [l_and, l_z]
    have := h i hi
    cases h1 : bl x i <;> cases h2 : bl y i <;> simp_all
theorem l_eq0 (x : Int64) : x = lN 0 ↔ ∀ j, j < 64 → bl x j = false := by
  constructor
  · intro h j _
    rw [h, l_z]
  · intro h
    exact l_ext fun i hi => by rw [h i hi, l_z]
theorem l_cmp (x y : Int64) : (lg_cmp x y = 0) = (x = y) := propext (lg_cmp_eq x y)
/-- the points of the rules in a long: rule r, point n at bit 5 r + n -/
def zpt (x : Int64) (r n : Nat) : Bool := bl x (5 * r + n)
theorem m_point (d : Nat) {r n : Nat} (hr : r < 12) (hn : n < 5) (μ : zzM) : zzf zzP zN (d + 1) 221 [.int (nI r), .int (nI n)] μ = some ((0, lN 1 <<< ((nI (5 * r + n)).toInt64 &&& 63), 0), μ) := by
  rw [u_m_point, zq_mul, zq_add]
theorem m_isPoint (d : Nat) (x : Int64) {r n : Nat} (hr : r < 12) (hn : n < 5) (μ : zzM) : zzf zzP zN (d + 1) 222 [.long x, .int (nI r), .int (nI n)] μ = some ((zB (zpt x r n), 0, 0), μ) := by
  rw [u_m_isPoint, zq_mul, zq_add, l_bit _ (by omega)]
  simp only [zk_0, zk_1, if_true, l_cmp]
  unfold zpt
  cases bl x (5 * r + n) with
  | true => rw [if_pos rfl, if_pos rfl]; rfl
  | false =>
    rfl
