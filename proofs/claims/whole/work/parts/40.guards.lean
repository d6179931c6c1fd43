/-! SMALL METHODS of both sides as equations: guards -/
def zB (b : Bool) : Int32 := bif b then nI 1 else nI 0
theorem zB_0 (b : Bool) : (zB b = 0) = (b = false) := by cases b <;> decide
theorem zB_ok (b : Bool) : (zB b = 0 ∨ zB b = 1) = True := by cases b <;> decide
theorem zB_t : zB true = nI 1 := rfl
theorem zB_f : zB false = nI 0 := rfl
theorem zk_0 : (nI 0 = 0 ∨ nI 0 = 1) = True := by decide
theorem zk_1 : (nI 1 = 0 ∨ nI 1 = 1) = True := by decide
theorem zk_00 : (nI 0 = 0) = True := by decide
theorem zk_10 : (nI 1 = 0) = False := by decide
theorem w_32 {a b : Int32} : a.toInt64 ≤ b.toInt64 ↔ a ≤ b := by
  rw [Int64.le_iff_toInt_le, Int32.le_iff_toInt_le, Int32.toInt_toInt64, Int32.toInt_toInt64]
theorem w_0 : lN 0 = (0 : Int32).toInt64 := by decide
theorem i_nlt {a b : Int32} : (¬ a < b) = (b ≤ a) := by
  rw [Int32.lt_iff_toInt_lt, Int32.le_iff_toInt_le]
  exact propext (by omega)
theorem i_nle {a b : Int32} : (¬ a ≤ b) = (b < a) := by
  rw [Int32.lt_iff_toInt_lt, Int32.le_iff_toInt_le]
  exact propext (by omega)
theorem s_noG (d : Nat) (μ : zzM) : zzf zzP zN (d + 1) 128 [.ref 0] μ = some ((zB (decide (μ.1 3 0 = 0)), 0, 0), μ) := by
  rw [u_pf_noGrammar]
  by_cases h : μ.1 3 0 = 0 <;> simp only [h, zk_0, zk_1, if_true, if_false] <;> rfl
theorem s_isRule (d : Nat) (a : Int32) (μ : zzM) : zzf zzP zN (d + 1) 129 [.ref 0, .int a] μ = some ((zB (decide (0 ≤ a ∧ a < μ.1 3 0)), 0, 0), μ) := by
  rw [u_pf_isRule]
  simp only [zk_0, zk_1, if_true]
  by_cases h : a < 0
  · rw [if_pos h, decide_eq_false (fun q => absurd q.1 (by rw [i_nle]; exact h))]
    rfl
  · rw [if_neg h]
    by_cases h2 : μ.1 3 0 ≤ a
    · rw [if_pos h2, decide_eq_false (fun q => absurd h2 (by rw [i_nle]; exact q.2))]
      rfl
    · rw [if_neg h2, decide_eq_true ⟨by rw [← i_nlt]; exact h, by rw [← i_nle]; exact h2⟩]
      rfl
theorem s_isSmall (d : Nat) (a : Int32) (μ : zzM) : zzf zzP zN (d + 1) 134 [.int a] μ = some ((zB (decide (0 ≤ a ∧ a < nI 26)), 0, 0), μ) := by
  rw [u_pf_isSmall]
  simp only [zk_0, zk_1, if_true]
  by_cases h : a < 0
  · rw [if_pos h, decide_eq_false (fun q => absurd q.1 (by rw [i_nle]; exact h))]
    rfl
  · rw [if_neg h]
    by_cases h2 : nI 26 ≤ a
    · rw [if_pos h2, decide_eq_false (fun q => absurd h2 (by rw [i_nle]; exact q.2))]
      rfl
    · rw [if_neg h2, decide_eq_true ⟨by rw [← i_nlt]; exact h, by rw [← i_nle]; exact h2⟩]
      rfl
theorem s_isLeft (d : Nat) (a : Int32) (μ : zzM) : zzf zzP zN (d + 1) 131 [.ref 0, .int a] μ = some ((zB (decide (nI 26 ≤ a ∧ a < nI 52 ∧ ¬ (((μ.1 3 1) >>> ((a - nI 26) &&& 31)) &&& nI 1) = 0)), 0, 0), μ) := by
  rw [u_pf_isLeft]
  simp only [zk_0, zk_1, if_true]
  by_cases h : a < nI 26
  · rw [if_pos h, decide_eq_false (fun q => absurd q.1 (by rw [i_nle]; exact h))]
    rfl
  · rw [if_neg h]
    by_cases h2 : nI 52 ≤ a
    · rw [if_pos h2, decide_eq_false (fun q => absurd h2 (by rw [i_nle]; exact q.2.1))]
      rfl
    · rw [if_neg h2]
      by_cases h3 : (((μ.1 3 1) >>> ((a - nI 26) &&& 31)) &&& nI 1) = 0
      · rw [if_pos h3, decide_eq_false (fun q => q.2.2 h3)]
        rfl
      · rw [if_neg h3, decide_eq_true ⟨by rw [← i_nlt]; exact h, by rw [← i_nle]; exact h2, h3⟩]
        rfl
theorem s_isSpan (d : Nat) (a b : Int32) (μ : zzM) : zzf zzP zN (d + 1) 132 [.ref 0, .int a, .int b] μ = some ((zB (decide (0 ≤ a ∧ a ≤ b ∧ b ≤ μ.1 2 2)), 0, 0), μ) := by
  rw [u_pf_isSpan]
  simp only [zk_0, zk_1, if_true]
  by_cases h : a < 0
  · rw [if_pos h, decide_eq_false (fun q => absurd q.1 (by rw [i_nle]; exact h))]
    rfl
  · rw [if_neg h]
    by_cases h2 : b < a
    · rw [if_pos h2, decide_eq_false (fun q => absurd q.2.1 (by rw [i_nle]; exact h2))]
      rfl
    · rw [if_neg h2]
      by_cases h3 : μ.1 2 2 < b
      · rw [if_pos h3, decide_eq_false (fun q => absurd q.2.2 (by rw [i_nle]; exact h3))]
        rfl
      · rw [if_neg h3, decide_eq_true ⟨by rw [← i_nlt]; exact h, by rw [← i_nlt]; exact h2, by rw [← i_nlt]; exact h3⟩]
        rfl
theorem s_isLevel (d : Nat) (a : Int32) (μ : zzM) : zzf zzP zN (d + 2) 133 [.ref 0, .int a] μ = some ((zB (decide (¬ μ.1 3 0 = 0 ∧ 0 ≤ a ∧ a ≤ μ.1 2 2)), 0, 0), μ) := by
  rw [u_pf_isLevel, s_noG]
  simp only [zk_0, zk_1, if_true, Option.bind_some, zB_0]
  by_cases h0 : μ.1 3 0 = 0
  · rw [if_neg (by simp [h0]), decide_eq_false (fun q => q.1 h0)]
    rfl
  · rw [if_pos (by simp [h0])]
    by_cases h : a < 0
    · rw [if_pos h, decide_eq_false (fun q => absurd q.2.1 (by rw [i_nle]; exact h))]
      rfl
    · rw [if_neg h]
      by_cases h3 : μ.1 2 2 < a
      · rw [if_pos h3, decide_eq_false (fun q => absurd q.2.2 (by rw [i_nle]; exact h3))]
        rfl
      · rw [if_neg h3, decide_eq_true ⟨h0, by rw [← i_nlt]; exact h, by rw [← i_nlt]; exact h3⟩]
        rfl
-- the reference's
theorem m_in (d : Nat) (a b c : Int64) (μ : zzM) : zzf zzP zN (d + 1) 173 [.long a, .long b, .long c] μ = some ((zB (decide (b ≤ a ∧ a ≤ c)), 0, 0), μ) := by
  rw [u_m_in]
  simp only [zk_0, zk_1, if_true, lg_cmp_lt, lg_cmp_gt]
  by_cases h : a < b
  · rw [if_pos h, decide_eq_false (fun q => absurd q.1 (by rw [Int64.le_iff_toInt_le]; rw [Int64.lt_iff_toInt_lt] at h; omega))]
    rfl
  · rw [if_neg h]
    by_cases h2 : c < a
    · rw [if_pos h2, decide_eq_false (fun q => absurd q.2 (by rw [Int64.le_iff_toInt_le]; rw [Int64.lt_iff_toInt_lt] at h2; omega))]
      rfl
    · rw [if_neg h2, decide_eq_true ⟨by rw [Int64.le_iff_toInt_le]; rw [Int64.lt_iff_toInt_lt] at h; omega, by rw [Int64.le_iff_toInt_le]; rw [Int64.lt_iff_toInt_lt] at h2; omega⟩]
      rfl
theorem m_has (d : Nat) (a b : Int32) (μ : zzM) : zzf zzP zN (d + 1) 174 [.int a, .int b] μ = some ((zB (decide (((a >>> (b &&& 31)) &&& nI 1) = nI 1)), 0, 0), μ) := by
  rw [u_m_has]
  by_cases h : ((a >>> (b &&& 31)) &&& nI 1) = nI 1 <;> simp only [h, zk_0, zk_1, if_true, if_false] <;> rfl
theorem m_isGrammar (d : Nat) (μ : zzM) : zzf zzP zN (d + 1) 175 [.ref 105] μ = some ((zB (decide (0 < μ.1 106 0)), 0, 0), μ) := by
  rw [u_m_isGrammar, zr_i μ 106 (by omega) (by omega)]
  simp only [zk_0, zk_1, if_true, Option.bind_some]
  by_cases h : μ.1 106 0 ≤ 0
  · rw [if_pos h, decide_eq_false (by rw [i_nlt]; exact h)]
    rfl
  · rw [if_neg h, decide_eq_true (by rw [← i_nle]; exact h)]
    rfl
theorem m_isRule (d : Nat) (a : Int32) (μ : zzM) : zzf zzP zN (d + 2) 176 [.ref 105, .int a] μ = some ((zB (decide (0 ≤ a ∧ a ≤ μ.1 106 0 - nI 1)), 0, 0), μ) := by
  rw [u_m_isRule, zr_i μ 106 (by omega) (by omega), Option.bind_some, m_in, Option.bind_some]
  simp only [zB_ok, if_true, w_0, w_32]
theorem m_isOn (d : Nat) (a : Int32) (μ : zzM) : zzf zzP zN (d + 2) 177 [.ref 105, .int a] μ = some ((zB (decide (¬ ((μ.1 106 3 >>> (a &&& 31)) &&& nI 1) = nI 1)), 0, 0), μ) := by
  rw [u_m_isOn, zr_i μ 106 (by omega) (by omega), Option.bind_some, m_has, Option.bind_some]
  simp only [zB_0, zk_0, zk_1, if_true]
  by_cases h : ((μ.1 106 3 >>> (a &&& 31)) &&& nI 1) = nI 1 <;> simp [h] <;> rfl
theorem m_isCapital (d : Nat) (a : Int32) (μ : zzM) : zzf zzP zN (d + 1) 178 [.int a] μ = some ((zB (decide (nI 26 ≤ a)), 0, 0), μ) := by
  rw [u_m_isCapital]
  by_cases h : a < nI 26
  · have h2 : ¬ nI 26 ≤ a := by rw [i_nle]; exact h
    simp only [h, h2, zk_0, zk_1, if_true, decide_false] <;> rfl
  · have h2 : nI 26 ≤ a := by rw [← i_nlt]; exact h
    simp only [h, h2, zk_0, zk_1, if_true, if_false, decide_true] <;> rfl
theorem m_isPart (d : Nat) (a b : Int32) (μ : zzM) : zzf zzP zN (d + 1) 263 [.ref 105, .int a, .int b] μ = some ((zB (decide (0 ≤ a ∧ a ≤ b ∧ b ≤ μ.1 106 2)), 0, 0), μ) := by
  rw [u_m_isPart, zr_i μ 106 (by omega) (by omega)]
  simp only [zk_0, zk_1, if_true, Option.bind_some]
  by_cases h : a < 0
  · rw [if_pos h, decide_eq_false (fun q => absurd q.1 (by rw [i_nle]; exact h))]
    rfl
  · rw [if_neg h]
    by_cases h2 : b < a
    · rw [if_pos h2, decide_eq_false (fun q => absurd q.2.1 (by rw [i_nle]; exact h2))]
      rfl
    · rw [if_neg h2]
      by_cases h3 : μ.1 106 2 < b
      · rw [if_pos h3, decide_eq_false (fun q => absurd q.2.2 (by rw [i_nle]; exact h3))]
        rfl
      · rw [if_neg h3, decide_eq_true ⟨by rw [← i_nlt]; exact h, by rw [← i_nlt]; exact h2, by rw [← i_nlt]; exact h3⟩]
        rfl
theorem m_isLevel (d : Nat) (a : Int32) (μ : zzM) : zzf zzP zN (d + 2) 269 [.ref 105, .int a] μ = some ((zB (decide (0 < μ.1 106 0 ∧ 0 ≤ a ∧ a ≤ μ.1 106 2)), 0, 0), μ) := by
  rw [u_m_isLevel, m_isGrammar]
  simp only [zk_0, zk_1, if_true, Option.bind_some, zB_0]
  by_cases h0 : 0 < μ.1 106 0
  · rw [if_neg (by simp [h0]), zr_i μ 106 (by omega) (by omega), Option.bind_some, m_in, Option.bind_some]
    simp only [zB_0, w_0, w_32, h0, true_and]
    by_cases h : 0 ≤ a ∧ a ≤ μ.1 106 2 <;> simp only [h, decide_true, decide_false, if_true, if_false] <;> rfl
  · rw [if_pos (by simp [h0]), decide_eq_false (fun q => h0 q.1)]
    rfl
