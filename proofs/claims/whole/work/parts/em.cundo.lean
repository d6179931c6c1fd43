/-! UNDO of the class: read, drop, change, filter, strike -/
theorem cP_un {s : zSn} {S : Nat → zSn} {m : Nat} {μ y : zzM} (h : cP s S m μ) (h8 : y.1 2 8 = nI (m - 1)) (h12 : y.1 12 = μ.1 12) : cP (S (m - 1)) S (m - 1) y := by
  have := h.1
  refine ⟨by omega, rfl, h8, fun k hk => ?_⟩
  rw [h12]
  exact h.2.2.2 k (by omega)
theorem i_u1 : ∀ c, c < 26 → (nI (8 * c + 1) &&& nI 7) = nI 1 ∧ (nI (8 * c + 1) >>> (nI 3 &&& 31)) = nI c := by decide +kernel
theorem i_u2 : ∀ p, p < 12 → ∀ c, c < 26 → (nI (8 * (32 * p + c) + 2) &&& nI 7) = nI 2 ∧ ((nI (8 * (32 * p + c) + 2) >>> (nI 3 &&& 31)) >>> (nI 5 &&& 31)) = nI p ∧ ((nI (8 * (32 * p + c) + 2) >>> (nI 3 &&& 31)) &&& nI 31) = nI c := by decide +kernel
theorem i_u3 : ∀ r, r < 12 → (nI (8 * r + 3) &&& nI 7) = nI 3 ∧ (nI (8 * r + 3) >>> (nI 3 &&& 31)) = nI r := by decide +kernel
theorem i_u5 : ∀ f, f < 3 → (nI (8 * f + 5) &&& nI 7) = nI 5 ∧ (nI (8 * f + 5) >>> (nI 3 &&& 31)) = nI f := by decide +kernel
theorem zTx_sy {N : Nat} {s s' : zSn} (h : zTx N s s') : zTx N s' s := ⟨h.1.symm, h.2.1.symm, h.2.2.1.symm, fun k hk => (h.2.2.2 k hk).symm⟩
/-- the text was changed back -/
theorem c_untext {g : zG} {s : zSn} {μ : zzM} {S : Nat → zSn} {m N : Nat} {y : zzM} (K : zOk g s) (hK : zOk g (S (m - 1))) (I : cI g s μ) (P : cP s S m μ) (hf : zfr [2, 10] μ y) (h2 : ∀ p, p ≠ 2 → p ≠ 8 → y.1 2 p = μ.1 2 p) (h8 : y.1 2 8 = nI (m - 1)) (hl : y.1 2 2 = nI (sL (S (m - 1)))) (hx : ∀ k, k < sL (S (m - 1)) → y.1 10 k = nI (sX (S (m - 1)) k)) (ht : zTx N (S (m - 1)) s) (hN : N ≤ sL (S (m - 1))) (d : Nat) : zw ((zzf zzP zN (d + 2) 125 [.ref 0, .int (nI N)] y).bind fun o3 => some (((o3.2.1 2 8), 0, 0), o3.2)) fun o => zfr cAl μ o.2 ∧ o.2.1 2 9 = μ.1 2 9 ∧ o.2.1 2 10 = μ.1 2 10 ∧ cI g (S (m - 1)) o.2 ∧ cP (S (m - 1)) S (m - 1) o.2 ∧ o.1.1 = nI (m - 1) := by
  have hz : zc2 g (S (m - 1)) y := by
    refine zc2_to I.h (zf_mono hf rfl) hl hx ((h2 3 (by omega) (by omega)).trans ((c_st I.h).trans ht.1.symm)) ((h2 6 (by omega) (by omega)).trans ((c_f I.h).trans ht.2.2.1.symm)) ((h2 5 (by omega) (by omega)).trans ((c_bn I.h).trans (by rw [ht.2.1]))) fun p hp q hq => ?_
    rw [zf_i hf rfl, ht.2.1]
    exact c_b I.h hp hq
  obtain ⟨o5, t1, t2, t3⟩ := s_textChanged I (zf_mono hf rfl) hz (zTx_sy ht) hN K.hs.1 hK.hs.1 d
  rw [t1, Option.bind_some]
  refine zw_some ⟨zf_trans (zf_mono hf rfl) (zf_mono t2 rfl), ?_, ?_, t3, cP_un P ?_ ?_, ?_⟩
  · rw [zf_i t2 rfl]
    exact h2 9 (by omega) (by omega)
  · rw [zf_i t2 rfl]
    exact h2 10 (by omega) (by omega)
  · rw [zf_i t2 rfl]
    exact h8
  · rw [zf_i t2 rfl, zf_i hf rfl]
  · show o5.2.1 2 8 = _
    rw [zf_i t2 rfl]
    exact h8
/-- filters were changed back -/
theorem c_unfilt {g : zG} {s : zSn} {μ : zzM} {S : Nat → zSn} {m : Nat} {y : zzM} (I : cI g s μ) (P : cP s S m μ) (hf : zfr [2, 11] μ y) (h2 : ∀ p, p ≠ 5 → p ≠ 6 → p ≠ 8 → y.1 2 p = μ.1 2 p) (h8 : y.1 2 8 = nI (m - 1)) (h6 : y.1 2 6 = sF (S (m - 1))) (h5 : y.1 2 5 = nI (sB (S (m - 1))).length) (hb : ∀ p, p < 48 → ∀ q, q < 12 → bt (y.1 11 p) q = decide (12 * p + q ∈ sB (S (m - 1)))) (hL : sL (S (m - 1)) = sL s) (hX : ∀ k, sX (S (m - 1)) k = sX s k) (hT : sT (S (m - 1)) = sT s) (d : Nat) : zw ((zzf zzP zN (d + 1) 124 [.ref 0] y).bind fun o3 => some (((o3.2.1 2 8), 0, 0), o3.2)) fun o => zfr cAl μ o.2 ∧ o.2.1 2 9 = μ.1 2 9 ∧ o.2.1 2 10 = μ.1 2 10 ∧ cI g (S (m - 1)) o.2 ∧ cP (S (m - 1)) S (m - 1) o.2 ∧ o.1.1 = nI (m - 1) := by
  have hz : zc2 g (S (m - 1)) y := by
    refine zc2_to I.h (zf_mono hf rfl) ((h2 2 (by omega) (by omega) (by omega)).trans (by rw [hL]; exact c_len I.h)) (fun k hk => ?_) ((h2 3 (by omega) (by omega) (by omega)).trans (by rw [hT]; exact c_st I.h)) h6 h5 hb
    rw [zf_i hf rfl, hX]
    exact c_x I.h (by omega)
  obtain ⟨o5, t1, t2, t3⟩ := s_filtersChanged I (zf_mono hf rfl) hz hT.symm (fun k => (hX k).symm) hL.symm d
  rw [t1, Option.bind_some]
  refine zw_some ⟨zf_trans (zf_mono hf rfl) (zf_mono t2 rfl), ?_, ?_, t3, cP_un P ?_ ?_, ?_⟩
  · rw [zf_i t2 rfl]
    exact h2 9 (by omega) (by omega) (by omega)
  · rw [zf_i t2 rfl]
    exact h2 10 (by omega) (by omega) (by omega)
  · rw [zf_i t2 rfl]
    exact h8
  · rw [zf_i t2 rfl, zf_i hf rfl]
  · show o5.2.1 2 8 = _
    rw [zf_i t2 rfl]
    exact h8
