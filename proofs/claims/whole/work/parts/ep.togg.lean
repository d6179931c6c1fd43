/-! A BAN is turned in the class -/
theorem s_toggle {g : zG} {s : zSn} {μ : zzM} {p q : Nat} {B : List Nat} (h : zc2 g s μ) (hp : p < 48) (hq : q < 12) (hne : ∀ x, x ≠ 12 * p + q → (x ∈ B ↔ x ∈ sB s)) (hc : (12 * p + q ∈ B ∧ ¬ 12 * p + q ∈ sB s ∧ B.length = (sB s).length + 1) ∨ (¬ 12 * p + q ∈ B ∧ 12 * p + q ∈ sB s ∧ B.length + 1 = (sB s).length)) (d : Nat) : zw (zzf zzP zN (d + 2) 28 [.ref 2, .int (nI p), .int (nI q)] μ) fun o => zfr [2, 11] μ o.2 ∧ (∀ k, k ≠ 5 → o.2.1 2 k = μ.1 2 k) ∧ o.2.1 2 5 = nI B.length ∧ ∀ p', p' < 48 → ∀ q', q' < 12 → bt (o.2.1 11 p') q' = decide (12 * p' + q' ∈ B) := by
  have hb := c_b h hp hq
  have hfin : ∀ v : Int32, v = nI B.length → zfr [2, 11] μ (zzwI (zzwI μ 2 5 v) 11 p (μ.1 11 p ^^^ (nI 1 <<< (nI q &&& 31)))) ∧ (∀ k, k ≠ 5 → (zzwI (zzwI μ 2 5 v) 11 p (μ.1 11 p ^^^ (nI 1 <<< (nI q &&& 31)))).1 2 k = μ.1 2 k) ∧ (zzwI (zzwI μ 2 5 v) 11 p (μ.1 11 p ^^^ (nI 1 <<< (nI q &&& 31)))).1 2 5 = nI B.length ∧ ∀ p', p' < 48 → ∀ q', q' < 12 → bt ((zzwI (zzwI μ 2 5 v) 11 p (μ.1 11 p ^^^ (nI 1 <<< (nI q &&& 31)))).1 11 p') q' = decide (12 * p' + q' ∈ B) := by
    intro v hv
    refine ⟨zf_twI _ _ (zf_wI _ _ rfl) rfl, fun k hk => ?_, ?_, fun p' hp' q' hq' => ?_⟩
    · rw [zm_c _ _ _ (by omega), zm_k _ _ _ _ hk]
    · rw [zm_c _ _ _ (by omega), zm_s]
      exact hv
    · rw [zm_if]
      by_cases e : p' = p
      · rw [if_pos e, b_xor, b_sh1 (by omega) (by omega), c_b h hp hq']
        subst e
        by_cases e2 : q' = q
        · subst e2
          rcases hc with ⟨c1, c2, _⟩ | ⟨c1, c2, _⟩
          · rw [decide_eq_false c2, decide_eq_true c1, decide_eq_true rfl]
            rfl
          · rw [decide_eq_true c2, decide_eq_false c1, decide_eq_true rfl]
            rfl
        · rw [decide_eq_false e2, Bool.xor_false]
          exact decide_eq_decide.2 (hne _ (by omega)).symm
      · rw [if_neg e, zm_c _ _ _ (by omega), c_b h hp' hq']
        exact decide_eq_decide.2 (hne _ (by omega)).symm
  have hi : zzf zzP zN (d + 1) 27 [.ref 2, .int (nI p), .int (nI q)] μ = some ((zB (decide (12 * p + q ∈ sB s)), 0, 0), μ) := by
    rw [u_set_isBan, zr_i _ _ hp (by omega), Option.bind_some, zif_cg (Iff.of_eq (b_bit _ (show q < 32 by omega))), hb]
    by_cases e : 12 * p + q ∈ sB s
    · rw [decide_eq_true e, if_neg (by decide), if_pos (by decide)]
      rfl
    · rw [decide_eq_false e, if_pos rfl, if_pos (by decide)]
      rfl
  rw [u_set_toggleBan, if_neg (by rw [zq_lt0 (by omega)]; exact id), zif_cg (Iff.of_eq (zq_le (by omega) (by omega))), if_neg (by omega), hi, Option.bind_some]
  dsimp only
  rcases hc with ⟨c1, c2, c3⟩ | ⟨c1, c2, c3⟩
  · rw [decide_eq_false c2, if_pos (show zB false = 0 by decide), zr_i _ _ hp (by omega), Option.bind_some, zm_c _ _ _ (by omega), zs_i _ _ _ hp (by omega), Option.bind_some]
    exact zw_some (hfin _ (by rw [c_bn h, zq_add, c3]))
  · rw [decide_eq_true c2, if_neg (show ¬ zB true = 0 by decide), zr_i _ _ hp (by omega), Option.bind_some, zm_c _ _ _ (by omega), zs_i _ _ _ hp (by omega), Option.bind_some]
    exact zw_some (hfin _ (by rw [c_bn h, ← Int32.sub_eq_add_neg, zq_sub (by omega), ← c3, Nat.add_sub_cancel]))
