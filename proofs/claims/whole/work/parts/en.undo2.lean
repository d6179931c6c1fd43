/-! UNDO of the class by the kinds of acts: texts, filters -/
theorem c_undo_t {g : zG} {s : zSn} {μ : zzM} {S : Nat → zSn} {m : Nat} (K : zOk g s) (hK : zOk g (S (m - 1))) (I : cI g s μ) (P : cP s S m μ) (h0 : 0 < m) (d : Nat)
    (ha : (μ.1 12 (m - 1) = nI 0 ∧ sL s = sL (S (m - 1)) + 1 ∧ zTx (sL (S (m - 1))) (S (m - 1)) s) ∨
      (∃ c, c < 26 ∧ μ.1 12 (m - 1) = nI (8 * c + 1) ∧ sL (S (m - 1)) = sL s + 1 ∧ sX (S (m - 1)) (sL s) = c ∧ zTx (sL s) (S (m - 1)) s) ∨
      (∃ p c, c < 26 ∧ p < sL (S (m - 1)) ∧ μ.1 12 (m - 1) = nI (8 * (32 * p + c) + 2) ∧ sL (S (m - 1)) = sL s ∧ sX (S (m - 1)) p = c ∧ (∀ k, k ≠ p → sX (S (m - 1)) k = sX s k) ∧ zTx p (S (m - 1)) s)) : cX g (S (m - 1)) S (m - 1) (d + 3) 154 [.ref 0] μ (nI (m - 1)) := by
  have hm := P.1
  have hsl := K.hs.1
  have hsl' := hK.hs.1
  unfold cX
  rw [u_pf_undo, P.2.2.1, zif_cg (Iff.of_eq (zq_e0 (by omega))), if_neg (by omega), zq_sub h0, zr_i _ _ (show m - 1 < 20 by omega) (by omega), Option.bind_some, zm_c _ _ _ (by omega)]
  rcases ha with ⟨a1, a2, a3⟩ | ⟨c, hc, a1, a2, a3, a4⟩ | ⟨p, c, hc, hp, a1, a2, a3, a4, a5⟩
  · rw [a1, if_pos (show (nI 0 &&& nI 7) = nI 0 by decide), u_set_pop, zm_k _ _ _ _ (by omega), c_len I.h, zif_cg (Iff.of_eq (zq_e0 (by omega))), if_neg (by omega), zq_sub (by omega), zr_i _ _ (show sL s - 1 < 12 by omega) (by omega), Option.bind_some, Option.bind_some]
    dsimp only
    rw [zm_s, show sL s - 1 = sL (S (m - 1)) by omega]
    refine c_untext K hK I P (zf_twI _ _ (zf_wI _ _ rfl) rfl) (fun q q1 q2 => ?_) ?_ (zm_s _ _ _ _) (fun k hk => ?_) a3 (Nat.le_refl _) d
    · rw [zm_k _ _ _ _ q1, zm_k _ _ _ _ q2]
    · rw [zm_k _ _ _ _ (by omega), zm_s]
    · rw [zm_c _ _ _ (by omega), zm_c _ _ _ (by omega), a3.2.2.2 k hk]
      exact c_x I.h (by omega)
  · obtain ⟨u1, u2⟩ := i_u1 c hc
    rw [a1, u1, if_neg (show ¬ nI 1 = nI 0 by decide), if_pos rfl, u2, u_set_push, zm_k _ _ _ _ (by omega), c_len I.h, zif_cg (Iff.of_eq (zq_le (by omega) (by omega))), if_neg (by omega), zs_i _ _ _ (show sL s < 12 by omega) (by omega), Option.bind_some, Option.bind_some]
    dsimp only
    rw [zm_s, zm_c _ _ _ (show (2 : Nat) ≠ 10 by omega), zm_k _ _ _ _ (show (2 : Nat) ≠ 8 by omega), c_len I.h, zq_add, zq_sub (by omega), Nat.add_sub_cancel]
    refine c_untext K hK I P (zf_twI _ _ (zf_twI _ _ (zf_wI _ _ rfl) rfl) rfl) (fun q q1 q2 => ?_) ?_ ?_ (fun k hk => ?_) a4 (by omega) d
    · rw [zm_k _ _ _ _ q1, zm_c _ _ _ (by omega), zm_k _ _ _ _ q2]
    · rw [zm_k _ _ _ _ (by omega), zm_c _ _ _ (by omega), zm_s]
    · rw [zm_s, a2]
    · rw [zm_c _ _ _ (by omega), zm_if]
      by_cases e : k = sL s
      · rw [if_pos e, e, a3]
      · rw [if_neg e, zm_c _ _ _ (by omega), a4.2.2.2 k (by omega)]
        exact c_x I.h (by omega)
  · obtain ⟨u1, u2, u3⟩ := i_u2 p (by omega) c hc
    rw [a1, u1, if_neg (show ¬ nI 2 = nI 0 by decide), if_neg (show ¬ nI 2 = nI 1 by decide), if_pos rfl, u2, u3, s_put (d + 1) (nI c) ((zm_k _ _ _ _ (show (2 : Nat) ≠ 8 by omega)).trans (c_len I.h)) (show p < sL s by omega) hsl, Option.bind_some]
    dsimp only
    refine c_untext K hK I P (zf_twI _ _ (zf_wI _ _ rfl) rfl) (fun q q1 q2 => ?_) ?_ ?_ (fun k hk => ?_) a5 (by omega) d
    · rw [zm_c _ _ _ (by omega), zm_k _ _ _ _ q2]
    · rw [zm_c _ _ _ (by omega), zm_s]
    · rw [zm_c _ _ _ (by omega), zm_k _ _ _ _ (by omega), a2]
      exact c_len I.h
    · rw [zm_if]
      by_cases e : k = p
      · rw [if_pos e, e, a3]
      · rw [if_neg e, zm_c _ _ _ (by omega), a4 k e]
        exact c_x I.h (by omega)
theorem c_undo_f {g : zG} {s : zSn} {μ : zzM} {S : Nat → zSn} {m f : Nat} (I : cI g s μ) (P : cP s S m μ) (h0 : 0 < m) (d : Nat) (hf : f < 3) (a1 : μ.1 12 (m - 1) = nI (8 * f + 5)) (a2 : sL (S (m - 1)) = sL s) (a3 : ∀ k, sX (S (m - 1)) k = sX s k) (a4 : sT (S (m - 1)) = sT s) (a5 : sB (S (m - 1)) = sB s) (a6 : sF (S (m - 1)) = sF s ^^^ zbi f) : cX g (S (m - 1)) S (m - 1) (d + 3) 154 [.ref 0] μ (nI (m - 1)) := by
  have hm := P.1
  obtain ⟨u1, u2⟩ := i_u5 f hf
  unfold cX
  rw [u_pf_undo, P.2.2.1, zif_cg (Iff.of_eq (zq_e0 (by omega))), if_neg (by omega), zq_sub h0, zr_i _ _ (show m - 1 < 20 by omega) (by omega), Option.bind_some, zm_c _ _ _ (by omega)]
  rw [a1, u1, if_neg (show ¬ nI 5 = nI 0 by decide), if_neg (show ¬ nI 5 = nI 1 by decide), if_neg (show ¬ nI 5 = nI 2 by decide), if_neg (show ¬ nI 5 = nI 3 by decide), if_neg (show ¬ nI 5 = nI 4 by decide), u2, c_f I.h]
  refine c_unfilt I P (zf_twI _ _ (zf_wI _ _ rfl) rfl) (fun q q1 q2 q3 => ?_) ?_ ?_ ?_ (fun p hp q hq => ?_) a2 a3 a4 (d + 1)
  · rw [zm_k _ _ _ _ q2, zm_k _ _ _ _ q3]
  · rw [zm_k _ _ _ _ (by omega), zm_s]
  · rw [zm_s, a6]
    rfl
  · rw [zm_k _ _ _ _ (by omega), zm_k _ _ _ _ (by omega), a5]
    exact c_bn I.h
  · rw [zm_c _ _ _ (by omega), zm_c _ _ _ (by omega), a5]
    exact c_b I.h hp hq
