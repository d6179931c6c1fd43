/-! ACTS answered alike: read, drop, change, filter -/
/-- class and reference answer alike, and what stands behind stands for some snapshot and past -/
def zX (g : zG) (y y' : Nat) (as as' : List Value) (μ : zzM) : Prop := ∃ o1 o2, zzf zzP zN 13 y as μ = some o1 ∧ zzf zzP zN 13 y' as' o1.2 = some o2 ∧ o1.1.1 = o2.1.1 ∧ zfr (cAl ++ mAl) μ o2.2 ∧ o2.2.1 2 9 = μ.1 2 9 ∧ o2.2.1 2 10 = μ.1 2 10 ∧ o2.2.1 105 16 = μ.1 105 16 ∧ o2.2.1 106 6 = μ.1 106 6 ∧ ∃ s S m, zPo g S m ∧ cI g s o2.2 ∧ mI g s o2.2 ∧ cP s S m o2.2 ∧ mP S m o2.2
theorem cI_a {g : zG} {s : zSn} {μ : zzM} {y : zzM} (c : cI g s μ) (hf : zfr mAl μ y) : cI g s y := cI_up c hf rfl (.inl rfl) (.inl rfl) (.inl rfl) (.inl rfl) (.inl rfl) (.inl rfl) (.inl rfl) (.inl rfl) (.inl rfl)
theorem mI_a {g : zG} {s : zSn} {μ : zzM} {y : zzM} (m : mI g s μ) (hf : zfr cAl μ y) : mI g s y := mI_fr m hf (by rw [zf_i hf rfl]) (by rw [zf_i hf rfl]) rfl rfl
theorem zX_of {g : zG} {s : zSn} {μ : zzM} {S : Nat → zSn} {m : Nat} {s' : zSn} {S' : Nat → zSn} {m' : Nat} {y y' : Nat} {as as' : List Value} (v : Int32) (hI : mI g s μ) (hP : mP S m μ) (h' : zPo g S' m') (h1 : cX g s' S' m' 13 y as μ v) (h2 : ∀ z, mI g s z → mP S m z → mX g s' S' m' 13 y' as' z v) : zX g y y' as as' μ := by
  obtain ⟨o1, a1, a2, a3, a4, a5, a6, a7⟩ := h1
  obtain ⟨o2, b1, b2, b3, b4, b5, b6, b7⟩ := h2 o1.2 (mI_a hI a2) (mP_fr hP a2 (by rw [zf_i a2 rfl]) rfl)
  refine ⟨o1, o2, a1, b1, a7.trans b7.symm, zf_trans (zf_mono a2 rfl) (zf_mono b2 rfl), ?_, ?_, ?_, ?_, s', S', m', h', cI_a a5 b2, b5, cP_fr a6 b2 rfl, b6⟩
  · rw [zf_i b2 rfl]
    exact a3
  · rw [zf_i b2 rfl]
    exact a4
  · rw [b3, zf_i a2 rfl]
  · rw [b4, zf_i a2 rfl]
/-- refused on both sides: nothing is touched -/
theorem zX_no {g : zG} {s : zSn} {μ : zzM} {S : Nat → zSn} {m : Nat} {y y' : Nat} {as as' : List Value} (v : Int32) (C : cI g s μ) (I : mI g s μ) (c : cP s S m μ) (p : mP S m μ) (h' : zPo g S m) (h1 : zzf zzP zN 13 y as μ = some ((v, 0, 0), μ)) (h2 : zzf zzP zN 13 y' as' μ = some ((v, 0, 0), μ)) : zX g y y' as as' μ := ⟨_, _, h1, h2, rfl, zf_refl _ _, rfl, rfl, rfl, rfl, s, S, m, h', C, I, c, p⟩
theorem q_read {g : zG} {s : zSn} {μ : zzM} {S : Nat → zSn} {m : Nat} (C : cI g s μ) (I : mI g s μ) (c : cP s S m μ) (p : mP S m μ) (h' : zPo g S m) (a : Int32) : zX g 148 242 [.ref 0, .int a] [.ref 105, .int a] μ := by
  have K : zOk g s := c.2.1 ▸ h' m (Nat.le_refl _)
  have hsl := K.hs.1
  by_cases hn : 0 < gN g
  · by_cases hc : ∃ k, k < 26 ∧ a = nI k
    · obtain ⟨k, hk, rfl⟩ := hc
      by_cases hl : sL s < 12
      · exact zX_of _ I p (zPo_nx h' (zRd_ok K hk hl)) (c_read K C c hn hk hl 10) fun z z1 z2 => d_read K z1 z2 c.1 c.2.1 h' hn hk hl 8
      · refine zX_no (-(nI 1)) C I c p h' ?_ ?_
        · rw [show (13 : Nat) = 12 + 1 from rfl, u_pf_read, show (12 : Nat) = 11 + 1 from rfl, c_noG C.h K.hg, Option.bind_some, zdF (by omega), if_pos (show zB false = 0 by decide), s_isSmall, Option.bind_some, decide_eq_true ((i_in (by omega)).2 ⟨k, hk, rfl⟩), if_neg (show ¬ zB true = 0 by decide)]
          dsimp only
          rw [c_len C.h, zif_cg (Iff.of_eq (zq_lt (by omega) (by omega))), if_neg hl]
        · rw [show (13 : Nat) = 12 + 1 from rfl, u_m_read, show zzf zzP zN 12 175 [.ref 105] μ = _ from d_isG I.h K.hg 11, Option.bind_some, zdT hn, if_neg (show ¬ zB true = 0 by decide), show lN 25 = (nI 26 - nI 1).toInt64 by decide, show zzf zzP zN 12 173 [.long (Int32.toInt64 (nI k)), .long (lN 0), .long (Int32.toInt64 (nI 26 - nI 1))] μ = _ from m_inN 11 _ (by omega) _, Option.bind_some, zdT ⟨k, hk, rfl⟩, if_neg (show ¬ zB true = 0 by decide), zr_i _ _ (by omega) (by omega), Option.bind_some]
          dsimp only
          rw [d_len I.h, zif_cg (Iff.of_eq (zq_eq (by omega) (by omega))), if_pos (by omega)]
    · refine zX_no (-(nI 1)) C I c p h' ?_ ?_
      · rw [show (13 : Nat) = 12 + 1 from rfl, u_pf_read, show zzf zzP zN 12 128 [.ref 0] μ = _ from c_noG C.h K.hg 11, Option.bind_some, zdF (by omega), if_pos (show zB false = 0 by decide), show zzf zzP zN 12 134 [.int a] μ = _ from s_isSmall 11 a μ, Option.bind_some, decide_eq_false (fun q => hc ((i_in (by omega)).1 q)), if_pos (show zB false = 0 by decide)]
      · rw [show (13 : Nat) = 12 + 1 from rfl, u_m_read, show zzf zzP zN 12 175 [.ref 105] μ = _ from d_isG I.h K.hg 11, Option.bind_some, zdT hn, if_neg (show ¬ zB true = 0 by decide), show lN 25 = (nI 26 - nI 1).toInt64 by decide, show zzf zzP zN 12 173 [.long (Int32.toInt64 a), .long (lN 0), .long (Int32.toInt64 (nI 26 - nI 1))] μ = _ from m_inN 11 _ (by omega) _, Option.bind_some, zdF hc, if_pos (show zB false = 0 by decide)]
  · refine zX_no (-(nI 1)) C I c p h' ?_ ?_
    · rw [show (13 : Nat) = 12 + 1 from rfl, u_pf_read, show zzf zzP zN 12 128 [.ref 0] μ = _ from c_noG C.h K.hg 11, Option.bind_some, zdT (by omega), if_neg (show ¬ zB true = 0 by decide)]
    · rw [show (13 : Nat) = 12 + 1 from rfl, u_m_read, show zzf zzP zN 12 175 [.ref 105] μ = _ from d_isG I.h K.hg 11, Option.bind_some, zdF hn, if_pos (show zB false = 0 by decide)]
theorem q_drop {g : zG} {s : zSn} {μ : zzM} {S : Nat → zSn} {m : Nat} (C : cI g s μ) (I : mI g s μ) (c : cP s S m μ) (p : mP S m μ) (h' : zPo g S m) : zX g 149 243 [.ref 0] [.ref 105] μ := by
  have K : zOk g s := c.2.1 ▸ h' m (Nat.le_refl _)
  have hsl := K.hs.1
  by_cases hl : 0 < sL s
  · exact zX_of _ I p (zPo_nx h' (zDp_ok K)) (c_drop K C c hl 10) fun z z1 z2 => d_drop K z1 z2 c.1 c.2.1 h' hl 8
  · refine zX_no (-(nI 1)) C I c p h' ?_ ?_
    · rw [show (13 : Nat) = 12 + 1 from rfl, u_pf_drop, c_len C.h, zif_cg (Iff.of_eq (zq_e0 (by omega))), if_pos (by omega)]
    · rw [show (13 : Nat) = 12 + 1 from rfl, u_m_drop, zr_i _ _ (by omega) (by omega), Option.bind_some, d_len I.h, zif_cg (Iff.of_eq (zq_e0 (by omega))), if_pos (by omega)]
theorem q_filter {g : zG} {s : zSn} {μ : zzM} {S : Nat → zSn} {m : Nat} (C : cI g s μ) (I : mI g s μ) (c : cP s S m μ) (p : mP S m μ) (h' : zPo g S m) (a : Int32) : zX g 153 248 [.ref 0, .int a] [.ref 105, .int a] μ := by
  have K : zOk g s := c.2.1 ▸ h' m (Nat.le_refl _)
  by_cases hn : 0 < gN g
  · by_cases hc : ∃ k, k < 3 ∧ a = nI k
    · obtain ⟨k, hk, rfl⟩ := hc
      exact zX_of _ I p (zPo_nx h' (zSwF_ok K hk)) (c_filter K C c hn hk 10) fun z z1 z2 => d_filter K z1 z2 c.1 c.2.1 h' hn hk 8
    · refine zX_no (-(nI 1)) C I c p h' ?_ ?_
      · rw [show (13 : Nat) = 12 + 1 from rfl, u_pf_filter, show zzf zzP zN 12 128 [.ref 0] μ = _ from c_noG C.h K.hg 11, Option.bind_some, zdF (by omega), if_pos (show zB false = 0 by decide)]
        by_cases h0 : a < 0
        · rw [if_pos h0]
        · rw [if_neg h0, if_neg fun q => hc ((i_in (by omega)).1 ⟨Decidable.byContradiction fun e => h0 (by rw [i_nle] at e; exact e), q⟩)]
      · rw [show (13 : Nat) = 12 + 1 from rfl, u_m_filter, show zzf zzP zN 12 175 [.ref 105] μ = _ from d_isG I.h K.hg 11, Option.bind_some, zdT hn, if_neg (show ¬ zB true = 0 by decide), show lN 2 = (nI 3 - nI 1).toInt64 by decide, show zzf zzP zN 12 173 [.long (Int32.toInt64 a), .long (lN 0), .long (Int32.toInt64 (nI 3 - nI 1))] μ = _ from m_inN 11 _ (by omega) _, Option.bind_some, zdF hc, if_pos (show zB false = 0 by decide)]
  · refine zX_no (-(nI 1)) C I c p h' ?_ ?_
    · rw [show (13 : Nat) = 12 + 1 from rfl, u_pf_filter, show zzf zzP zN 12 128 [.ref 0] μ = _ from c_noG C.h K.hg 11, Option.bind_some, zdT (by omega), if_neg (show ¬ zB true = 0 by decide)]
    · rw [show (13 : Nat) = 12 + 1 from rfl, u_m_filter, show zzf zzP zN 12 175 [.ref 105] μ = _ from d_isG I.h K.hg 11, Option.bind_some, zdF hn, if_pos (show zB false = 0 by decide)]
theorem q_change {g : zG} {s : zSn} {μ : zzM} {S : Nat → zSn} {m : Nat} (C : cI g s μ) (I : mI g s μ) (c : cP s S m μ) (p : mP S m μ) (h' : zPo g S m) (a b : Int32) : zX g 150 244 [.ref 0, .int a, .int b] [.ref 105, .int a, .int b] μ := by
  have K : zOk g s := c.2.1 ▸ h' m (Nat.le_refl _)
  have hsl := K.hs.1
  have m1 : zzf zzP zN 12 173 [.long (Int32.toInt64 a), .long (lN 0), .long (Int32.toInt64 (nI (sL s) - nI 1))] μ = _ := m_inN 11 a (by omega) μ
  have m2 : zzf zzP zN 12 173 [.long (Int32.toInt64 b), .long (lN 0), .long (Int32.toInt64 (nI 26 - nI 1))] μ = _ := m_inN 11 b (by omega) μ
  by_cases ha : ∃ k, k < sL s ∧ a = nI k
  · have n0 : ¬ a < 0 := by
      obtain ⟨k, hk, rfl⟩ := ha
      rw [zq_lt0 (by omega)]
      exact id
    have n1 : ¬ nI (sL s) ≤ a := by
      obtain ⟨k, hk, rfl⟩ := ha
      rw [zq_le (by omega) (by omega)]
      omega
    by_cases hb : ∃ k, k < 26 ∧ b = nI k
    · rw [zdT ha] at m1
      rw [zdT hb] at m2
      obtain ⟨k, hk, rfl⟩ := ha
      have hb' := hb
      obtain ⟨j, hj, rfl⟩ := hb
      have hx := K.hs.2.1 k hk
      by_cases hne : sX s k = j
      · refine zX_no (-(nI 1)) C I c p h' ?_ ?_
        · rw [show (13 : Nat) = 12 + 1 from rfl, u_pf_change, if_neg n0, c_len C.h, if_neg n1, show zzf zzP zN 12 134 [.int (nI j)] μ = _ from s_isSmall 11 _ μ, Option.bind_some, decide_eq_true ((i_in (by omega)).2 hb'), if_neg (show ¬ zB true = 0 by decide)]
          dsimp only
          rw [zr_i _ _ (show k < 12 by omega) (by omega), Option.bind_some, c_x C.h hk, if_pos (by rw [hne])]
        · rw [show (13 : Nat) = 12 + 1 from rfl, u_m_change, zr_i _ _ (by omega) (by omega), Option.bind_some, d_len I.h, m1, Option.bind_some, if_neg (show ¬ zB true = 0 by decide), show lN 25 = (nI 26 - nI 1).toInt64 by decide, m2, Option.bind_some, if_neg (show ¬ zB true = 0 by decide), zr_i _ _ (show k < 12 by omega) (by omega), Option.bind_some]
          dsimp only
          rw [d_x I.h hk, if_pos (by rw [hne])]
      · exact zX_of _ I p (zPo_nx h' (zCg_ok K hj)) (c_change K C c hk hj hne 10) fun z z1 z2 => d_change K z1 z2 c.1 c.2.1 h' hk hj hne 8
    · rw [zdT ha] at m1
      rw [zdF hb] at m2
      refine zX_no (-(nI 1)) C I c p h' ?_ ?_
      · rw [show (13 : Nat) = 12 + 1 from rfl, u_pf_change, if_neg n0, c_len C.h, if_neg n1, show zzf zzP zN 12 134 [.int b] μ = _ from s_isSmall 11 _ μ, Option.bind_some, decide_eq_false (fun q => hb ((i_in (by omega)).1 q)), if_pos (show zB false = 0 by decide)]
      · rw [show (13 : Nat) = 12 + 1 from rfl, u_m_change, zr_i _ _ (by omega) (by omega), Option.bind_some, d_len I.h, m1, Option.bind_some, if_neg (show ¬ zB true = 0 by decide), show lN 25 = (nI 26 - nI 1).toInt64 by decide, m2, Option.bind_some, if_pos (show zB false = 0 by decide)]
  · rw [zdF ha] at m1
    refine zX_no (-(nI 1)) C I c p h' ?_ ?_
    · rw [show (13 : Nat) = 12 + 1 from rfl, u_pf_change]
      by_cases h0 : a < 0
      · rw [if_pos h0]
      · rw [if_neg h0, c_len C.h, if_pos]
        refine Decidable.byContradiction fun e => ha ((i_in (by omega)).1 ⟨Decidable.byContradiction fun e => h0 (by rw [i_nle] at e; exact e), ?_⟩)
        rcases zq_cases a with q | ⟨n, hn, rfl⟩
        · exact absurd q h0
        · rw [zq_le (by omega) hn] at e
          rw [zq_lt hn (by omega)]
          omega
    · rw [show (13 : Nat) = 12 + 1 from rfl, u_m_change, zr_i _ _ (by omega) (by omega), Option.bind_some, d_len I.h, m1, Option.bind_some, if_pos (show zB false = 0 by decide)]
