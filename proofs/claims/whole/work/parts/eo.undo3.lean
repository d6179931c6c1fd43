/-! UNDO of the class: a rule that was struck or told again -/
theorem c_undo_s {g : zG} {s : zSn} {μ : zzM} {S : Nat → zSn} {m r : Nat} (I : cI g s μ) (P : cP s S m μ) (h0 : 0 < m) (d : Nat) (hr : r < 12) (a1 : μ.1 12 (m - 1) = nI (8 * r + 3)) (a2 : sL (S (m - 1)) = sL s) (a3 : ∀ k, sX (S (m - 1)) k = sX s k) (a4 : sT (S (m - 1)) = sT s ^^^ zbi r) (a5 : sB (S (m - 1)) = sB s) (a6 : sF (S (m - 1)) = sF s) : cX g (S (m - 1)) S (m - 1) (d + 3) 154 [.ref 0] μ (nI (m - 1)) := by
  have hm := P.1
  obtain ⟨u1, u2⟩ := i_u3 r hr
  unfold cX
  rw [u_pf_undo, P.2.2.1, zif_cg (Iff.of_eq (zq_e0 (by omega))), if_neg (by omega), zq_sub h0, zr_i _ _ (show m - 1 < 20 by omega) (by omega), Option.bind_some, zm_c _ _ _ (by omega)]
  rw [a1, u1, if_neg (show ¬ nI 3 = nI 0 by decide), if_neg (show ¬ nI 3 = nI 1 by decide), if_neg (show ¬ nI 3 = nI 2 by decide), if_pos rfl, if_pos (by decide), u2, c_st I.h]
  have hf : zfr [2, 26] μ (zzwI (zzwI (zzwI μ 2 8 (nI (m - 1))) 2 3 (sT s ^^^ (nI 1 <<< (nI r &&& 31)))) 26 0 (nI 0)) := zf_twI _ _ (zf_twI _ _ (zf_wI _ _ rfl) rfl) rfl
  have h2 : ∀ q, q ≠ 3 → q ≠ 8 → (zzwI (zzwI (zzwI μ 2 8 (nI (m - 1))) 2 3 (sT s ^^^ (nI 1 <<< (nI r &&& 31)))) 26 0 (nI 0)).1 2 q = μ.1 2 q := fun q q1 q2 => by
    rw [zm_c _ _ _ (by omega), zm_k _ _ _ _ q1, zm_k _ _ _ _ q2]
  have h8 : (zzwI (zzwI (zzwI μ 2 8 (nI (m - 1))) 2 3 (sT s ^^^ (nI 1 <<< (nI r &&& 31)))) 26 0 (nI 0)).1 2 8 = nI (m - 1) := by
    rw [zm_c _ _ _ (by omega), zm_k _ _ _ _ (by omega), zm_s]
  have h3 : (zzwI (zzwI (zzwI μ 2 8 (nI (m - 1))) 2 3 (sT s ^^^ (nI 1 <<< (nI r &&& 31)))) 26 0 (nI 0)).1 2 3 = sT (S (m - 1)) := by
    rw [zm_c _ _ _ (by omega), zm_s, a4]
    rfl
  have h26 : (zzwI (zzwI (zzwI μ 2 8 (nI (m - 1))) 2 3 (sT s ^^^ (nI 1 <<< (nI r &&& 31)))) 26 0 (nI 0)).1 26 0 = 0 := by
    rw [zm_s]
    rfl
  generalize zzwI (zzwI (zzwI μ 2 8 (nI (m - 1))) 2 3 (sT s ^^^ (nI 1 <<< (nI r &&& 31)))) 26 0 (nI 0) = y at hf h2 h8 h3 h26 ⊢
  have hz : zc2 g (S (m - 1)) y := by
    refine ⟨?_, (h2 2 (by omega) (by omega)).trans (by rw [a2]; exact c_len I.h), fun k hk => ?_, h3, (h2 6 (by omega) (by omega)).trans (by rw [a6]; exact c_f I.h), (h2 5 (by omega) (by omega)).trans (by rw [a5]; exact c_bn I.h), fun p hp q hq => ?_⟩
    · have := I.h.1
      unfold zcG at this ⊢
      rw [zf_i hf rfl, zf_i hf rfl, zf_i hf rfl, zf_i hf rfl, zf_i hf rfl, zf_i hf rfl, zf_i hf rfl]
      exact this
    · rw [zf_i hf rfl, a3]
      exact c_x I.h (by omega)
    · rw [zf_i hf rfl, a5]
      exact c_b I.h hp hq
  obtain ⟨o5, t1, t2, t3⟩ := s_rulesChanged I (fun C hC => by
    simp only [List.mem_cons, List.not_mem_nil, or_false] at hC
    rcases hC with rfl | rfl | rfl | rfl <;> exact zf_i hf rfl) hz (.inl h26) d
  rw [t1, Option.bind_some]
  refine zw_some ⟨zf_trans (zf_mono hf rfl) (zf_mono t2 rfl), ?_, ?_, t3, cP_un P ?_ ?_, ?_⟩
  · rw [zf_i t2 rfl]
    exact h2 9 (by omega) (by omega)
  · rw [zf_i t2 rfl]
    exact h2 10 (by omega) (by omega)
  · rw [zf_i t2 rfl]
    exact h8
  · rw [zf_i t2 rfl, zf_i hf rfl]
  · show o5.2.1 2 8 = _
    rw [zf_i t2 rfl]
    exact h8
