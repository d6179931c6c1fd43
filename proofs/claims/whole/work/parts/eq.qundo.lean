/-! UNDO answered alike -/
theorem i_u4 : ∀ p, p < 48 → ∀ q, q < 12 → (nI (8 * (16 * p + q) + 4) &&& nI 7) = nI 4 ∧ ((nI (8 * (16 * p + q) + 4) >>> (nI 3 &&& 31)) >>> (nI 4 &&& 31)) = nI p ∧ ((nI (8 * (16 * p + q) + 4) >>> (nI 3 &&& 31)) &&& nI 15) = nI q := by decide +kernel
theorem c_undo_b {g : zG} {s : zSn} {μ : zzM} {S : Nat → zSn} {m p q : Nat} (I : cI g s μ) (P : cP s S m μ) (h0 : 0 < m) (d : Nat) (hp : p < 48) (hq : q < 12) (a1 : μ.1 12 (m - 1) = nI (8 * (16 * p + q) + 4)) (a2 : sL (S (m - 1)) = sL s) (a3 : ∀ k, sX (S (m - 1)) k = sX s k) (a4 : sT (S (m - 1)) = sT s) (a6 : sF (S (m - 1)) = sF s) (hne : ∀ x, x ≠ 12 * p + q → (x ∈ sB (S (m - 1)) ↔ x ∈ sB s)) (hc : (12 * p + q ∈ sB (S (m - 1)) ∧ ¬ 12 * p + q ∈ sB s ∧ (sB (S (m - 1))).length = (sB s).length + 1) ∨ (¬ 12 * p + q ∈ sB (S (m - 1)) ∧ 12 * p + q ∈ sB s ∧ (sB (S (m - 1))).length + 1 = (sB s).length)) : cX g (S (m - 1)) S (m - 1) (d + 3) 154 [.ref 0] μ (nI (m - 1)) := by
  have hm := P.1
  obtain ⟨u1, u2, u3⟩ := i_u4 p hp q hq
  unfold cX
  rw [u_pf_undo, P.2.2.1, zif_cg (Iff.of_eq (zq_e0 (by omega))), if_neg (by omega), zq_sub h0, zr_i _ _ (show m - 1 < 20 by omega) (by omega), Option.bind_some, zm_c _ _ _ (by omega)]
  rw [a1, u1, if_neg (show ¬ nI 4 = nI 0 by decide), if_neg (show ¬ nI 4 = nI 1 by decide), if_neg (show ¬ nI 4 = nI 2 by decide), if_neg (show ¬ nI 4 = nI 3 by decide), if_pos rfl, u2, u3]
  have hz : zc2 g s (zzwI μ 2 8 (nI (m - 1))) := by
    refine zc2_to I.h (zf_wI _ _ rfl) ?_ (fun k hk => ?_) ?_ ?_ ?_ (fun p hp q hq => ?_)
    · rw [zm_k _ _ _ _ (by omega)]
      exact c_len I.h
    · rw [zm_c _ _ _ (by omega)]
      exact c_x I.h hk
    · rw [zm_k _ _ _ _ (by omega)]
      exact c_st I.h
    · rw [zm_k _ _ _ _ (by omega)]
      exact c_f I.h
    · rw [zm_k _ _ _ _ (by omega)]
      exact c_bn I.h
    · rw [zm_c _ _ _ (by omega)]
      exact c_b I.h hp hq
  obtain ⟨o, t1, t2, t3, t4, t5⟩ := s_toggle hz hp hq hne hc d
  rw [t1, Option.bind_some]
  refine c_unfilt I P (zf_trans (zf_wI _ _ rfl) t2) (fun k k1 k2 k3 => ?_) ?_ ?_ t4 t5 a2 a3 a4 (d + 1)
  · rw [t3 k k1, zm_k _ _ _ _ k3]
  · rw [t3 8 (by omega), zm_s]
  · rw [t3 6 (by omega), zm_k _ _ _ _ (by omega), a6]
    exact c_f I.h
theorem q_undo {g : zG} {s : zSn} {μ : zzM} {S : Nat → zSn} {m : Nat} (C : cI g s μ) (I : mI g s μ) (c : cP s S m μ) (p : mP S m μ) (h' : zPo g S m) : zX g 154 241 [.ref 0] [.ref 105] μ := by
  have K : zOk g s := c.2.1 ▸ h' m (Nat.le_refl _)
  have hm := c.1
  by_cases h0 : 0 < m
  · have hK := h' (m - 1) (by omega)
    have ha := c.2.2.2 (m - 1) (by omega)
    rw [show m - 1 + 1 = m by omega, c.2.1] at ha
    refine zX_of (s' := S (m - 1)) (S' := S) (m' := m - 1) (nI (m - 1)) I p (fun k hk => h' k (by omega)) ?_ fun z z1 z2 => d_undo z1 z2 hm h' h0 9
    rcases ha with ha | ha | ha | ⟨r, hr, a1, a2, a3, a4, a5, a6⟩ | ⟨x, q, hx, hq, a1, a2, a3, a4, a5, a6, a7⟩ | ⟨f, hf, a1, a2, a3, a4, a5, a6⟩
    · exact c_undo_t K hK C c h0 10 (.inl ha)
    · exact c_undo_t K hK C c h0 10 (.inr (.inl ha))
    · exact c_undo_t K hK C c h0 10 (.inr (.inr ha))
    · exact c_undo_s C c h0 10 hr a1 a2 a3 a4 a5 a6
    · exact c_undo_b C c h0 10 hx hq a1 a2 a3 a4 a5 a6 a7
    · exact c_undo_f C c h0 10 hf a1 a2 a3 a4 a5 a6
  · refine zX_no (-(nI 2)) C I c p h' ?_ ?_
    · rw [show (13 : Nat) = 12 + 1 from rfl, u_pf_undo, c.2.2.1, zif_cg (Iff.of_eq (zq_e0 (by omega))), if_pos (by omega)]
    · rw [show (13 : Nat) = 12 + 1 from rfl, u_m_undo, p.1, zif_cg (Iff.of_eq (zq_e0 (by omega))), if_pos (by omega)]
