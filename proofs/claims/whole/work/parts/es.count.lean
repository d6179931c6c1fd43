/-! COUNT answered alike -/
theorem q_count {g : zG} {s : zSn} {μ : zzM} {S : Nat → zSn} {m : Nat} (C : cI g s μ) (I : mI g s μ) (c : cP s S m μ) (p : mP S m μ) (h' : zPo g S m) (hx : μ.1 2 9 = μ.1 106 6) (ht : μ.1 0 1 = μ.1 105 16) (a : Int32) : zX g 170 318 [.ref 0, .int a] [.ref 105, .int a] μ := by
  have K : zOk g s := c.2.1 ▸ h' m (Nat.le_refl _)
  have key : ∃ v, zzf zzP zN 13 170 [.ref 0, .int a] μ = some ((v, 0, 0), μ) ∧ zzf zzP zN 13 318 [.ref 105, .int a] μ = some ((v, 0, 0), μ) := by
    rw [show (13 : Nat) = 12 + 1 from rfl, u_pf_count, u_m_count]
    by_cases e0 : a = nI 0
    · rw [if_pos e0, if_pos e0, zr_i _ _ (by omega) (by omega), Option.bind_some, c_n C.h, d_n I.h]
      exact ⟨_, rfl, rfl⟩
    rw [if_neg e0, if_neg e0]
    by_cases e1 : a = nI 1
    · rw [if_pos e1, if_pos e1, zr_i _ _ (by omega) (by omega), Option.bind_some, show zzf zzP zN 12 128 [.ref 0] μ = _ from c_noG C.h K.hg 11, Option.bind_some, I.h.1.2.1]
      by_cases hn : gN g = 0
      · rw [zdT hn, if_neg (show ¬ zB true = 0 by decide), if_pos hn]
        exact ⟨_, rfl, rfl⟩
      · rw [zdF hn, if_pos (show zB false = 0 by decide), if_neg hn]
        dsimp only
        rw [zr_i _ _ (by omega) (by omega), Option.bind_some, c_l C.h (by omega)]
        exact ⟨_, rfl, rfl⟩
    rw [if_neg e1, if_neg e1]
    by_cases e2 : a = nI 2
    · rw [if_pos e2, if_pos e2, zr_i _ _ (by omega) (by omega), Option.bind_some, c_len C.h, d_len I.h]
      exact ⟨_, rfl, rfl⟩
    rw [if_neg e2, if_neg e2]
    by_cases e3 : a = nI 3
    · rw [if_pos e3, if_pos e3, zr_i _ _ (by omega) (by omega), Option.bind_some, c_st C.h, d_st I.h]
      exact ⟨_, rfl, rfl⟩
    rw [if_neg e3, if_neg e3]
    by_cases e4 : a = nI 4
    · rw [if_pos e4, if_pos e4, zr_i _ _ (by omega) (by omega), Option.bind_some, c_bn C.h, d_bn I.h]
      exact ⟨_, rfl, rfl⟩
    rw [if_neg e4, if_neg e4]
    by_cases e5 : a = nI 5
    · rw [if_pos e5, if_pos e5, zr_i _ _ (by omega) (by omega), Option.bind_some, c_f C.h, d_f I.h]
      exact ⟨_, rfl, rfl⟩
    rw [if_neg e5, if_neg e5]
    by_cases e6 : a = nI 6
    · rw [if_pos e6, if_pos e6, c.2.2.1, p.1]
      exact ⟨_, rfl, rfl⟩
    rw [if_neg e6, if_neg e6]
    by_cases e7 : a = nI 7
    · rw [if_pos e7, if_pos e7, zr_i _ _ (by omega) (by omega), Option.bind_some, hx]
      exact ⟨_, rfl, rfl⟩
    rw [if_neg e7, if_neg e7]
    by_cases e8 : a = nI 8
    · rw [if_pos e8, if_pos e8, ht]
      exact ⟨_, rfl, rfl⟩
    rw [if_neg e8, if_neg e8]
    exact ⟨_, rfl, rfl⟩
  obtain ⟨v, h1, h2⟩ := key
  exact zX_no v C I c p h' h1 h2
