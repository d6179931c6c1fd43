/-! ACTS: what an act leaves on each side; read -/
abbrev cAl : List Nat := 2 :: 10 :: 11 :: 12 :: cQl
abbrev mAl : List Nat := 106 :: 112 :: 113 :: 132 :: mQl
def cX (g : zG) (s' : zSn) (S' : Nat → zSn) (m' : Nat) (d y : Nat) (as : List Value) (μ : zzM) (v : Int32) : Prop := zw (zzf zzP zN d y as μ) fun o => zfr cAl μ o.2 ∧ o.2.1 2 9 = μ.1 2 9 ∧ o.2.1 2 10 = μ.1 2 10 ∧ cI g s' o.2 ∧ cP s' S' m' o.2 ∧ o.1.1 = v
def mX (g : zG) (s' : zSn) (S' : Nat → zSn) (m' : Nat) (d y : Nat) (as : List Value) (μ : zzM) (v : Int32) : Prop := zw (zzf zzP zN d y as μ) fun o => zfr mAl μ o.2 ∧ o.2.1 105 16 = μ.1 105 16 ∧ o.2.1 106 6 = μ.1 106 6 ∧ mI g s' o.2 ∧ mP S' m' o.2 ∧ o.1.1 = v
/-- the class's cells tell another snapshot -/
theorem zc2_to {g : zG} {s : zSn} {μ : zzM} {s' : zSn} {y : zzM} (h : zc2 g s μ) (hf : zfr [2, 10, 11, 12] μ y) (h2 : y.1 2 2 = nI (sL s')) (hx : ∀ k, k < sL s' → y.1 10 k = nI (sX s' k)) (h3 : y.1 2 3 = sT s') (h6 : y.1 2 6 = sF s') (h5 : y.1 2 5 = nI (sB s').length) (hb : ∀ p, p < 48 → ∀ q, q < 12 → bt (y.1 11 p) q = decide (12 * p + q ∈ sB s')) : zc2 g s' y := by
  refine ⟨?_, h2, hx, h3, h6, h5, hb⟩
  have := h.1
  unfold zcG at this ⊢
  rw [zf_i hf rfl, zf_i hf rfl, zf_i hf rfl, zf_i hf rfl, zf_i hf rfl, zf_i hf rfl, zf_i hf rfl]
  exact this
theorem zm2_to {g : zG} {s : zSn} {μ : zzM} {s' : zSn} {y : zzM} {L : List Nat} (h : zm2 g s μ) (hf : zfr L μ y) (hl : zdj [107, 108, 109, 110, 111] L) (h0 : y.1 106 0 = μ.1 106 0) (h1 : y.1 106 1 = μ.1 106 1) (h2 : y.1 106 2 = nI (sL s')) (hx : ∀ k, k < sL s' → y.1 112 k = nI (sX s' k)) (h3 : y.1 106 3 = sT s') (h6 : y.1 106 5 = sF s') (h5 : y.1 106 4 = nI (sB s').length) (hb : ∀ k (h : k < (sB s').length), y.1 113 k = nI ((sB s')[k])) : zm2 g s' y := by
  refine ⟨?_, h2, hx, h3, h6, h5, hb⟩
  have := h.1
  unfold zmG at this ⊢
  rw [h0, h1, zf_i hf (zdj_i hl (c := 107) (by simp)), zf_i hf (zdj_i hl (c := 108) (by simp)), zf_i hf (zdj_i hl (c := 109) (by simp)), zf_i hf (zdj_i hl (c := 110) (by simp)), zf_i hf (zdj_i hl (c := 111) (by simp))]
  exact this
/-- after an act that struck nothing the states stand, and no more -/
theorem mI_to {g : zG} {s : zSn} {μ : zzM} {s' : zSn} {y : zzM} {L : List Nat} (m : mI g s μ) (h : zm2 g s' y) (hT : sT s = sT s') (hf : zfr L μ y) (hl : zdj [130, 131] L) (h35 : y.1 105 35 = μ.1 105 35) (h36 : y.1 105 36 = (μ.1 105 36 &&& nI 1)) : mI g s' y := by
  refine ⟨h, fun i hi e => ?_⟩
  rw [h36, b_and, Bool.and_eq_true, show bt (nI 1) i = decide (i = 0) from (show ∀ i, i < 7 → bt (nI 1) i = decide (i = 0) by decide) i hi, decide_eq_true_eq] at e
  obtain ⟨e1, rfl⟩ := e
  obtain ⟨w, q1, q2⟩ := m.b 0 hi e1
  refine ⟨w, by rw [← zLay_t hT]; exact q1, ?_⟩
  unfold zmSt zmS at q2 ⊢
  rw [h35, zf_l hf (zdj_i hl (c := 130) (by simp)), zf_i hf (zdj_i hl (c := 131) (by simp))]
  exact q2
/-- one letter more -/
def zRd (s : zSn) (c : Nat) : zSn := (sL s + 1, (fun k => if k = sL s then c else sX s k), sT s, sB s, sF s)
theorem zRd_tx (s : zSn) (c : Nat) : zTx (sL s) s (zRd s c) := ⟨rfl, rfl, rfl, fun k hk => (if_neg (show ¬ k = sL s by omega)).symm⟩
theorem zRd_ok {g : zG} {s : zSn} {c : Nat} (K : zOk g s) (hc : c < 26) (hl : sL s < 12) : zOk g (zRd s c) := by
  obtain ⟨h1, ⟨a1, a2, a3, a4, a5, a6, a7⟩, h3⟩ := K
  refine ⟨h1, ⟨by show sL s + 1 ≤ 12; omega, fun k hk => ?_, a3, a4, a5, a6, a7⟩, fun hn => ?_⟩
  · show (if k = sL s then c else sX s k) < 26
    have hk : k < sL s + 1 := hk
    by_cases e : k = sL s
    · rw [if_pos e]
      exact hc
    · rw [if_neg e]
      exact a2 k (by omega)
  · obtain ⟨w, hw⟩ := h3 hn
    exact ⟨w, (zLay_t (s := zRd s c) (s' := s) rfl).trans hw⟩
theorem c_read {g : zG} {s : zSn} {μ : zzM} {S : Nat → zSn} {m c : Nat} (K : zOk g s) (I : cI g s μ) (P : cP s S m μ) (hn : 0 < gN g) (hc : c < 26) (hl : sL s < 12) (d : Nat) : cX g (zRd s c) (zNx S m (zRd s c)) (zNm m) (d + 3) 148 [.ref 0, .int (nI c)] μ (nI (sL s + 1)) := by
  unfold cX
  rw [u_pf_read, c_noG I.h K.hg, Option.bind_some, zdF (by omega), if_pos (show zB false = 0 by decide), s_isSmall, Option.bind_some, decide_eq_true ((i_in (by omega)).2 ⟨c, hc, rfl⟩), if_neg (show ¬ zB true = 0 by decide)]
  dsimp only
  rw [c_len I.h, zif_cg (Iff.of_eq (zq_lt (by omega) (by omega))), if_pos hl]
  obtain ⟨o3, r1, r2, r3, r4⟩ := s_remember d P.1 P.2.2.1 (nI 0) (nI 0)
  rw [r1, Option.bind_some, u_set_push, r3 2 (by omega), c_len I.h, zif_cg (Iff.of_eq (zq_le (by omega) (by omega))), if_neg (by omega), zs_i _ _ _ hl (by omega), Option.bind_some, Option.bind_some]
  dsimp only
  rw [zm_s, zm_c _ _ _ (show (2 : Nat) ≠ 10 by omega), r3 2 (by omega), c_len I.h, zq_add, zq_sub (by omega), Nat.add_sub_cancel]
  have hf : zfr [2, 10, 12] μ (zzwI (zzwI o3.2 10 (sL s) (nI c)) 2 2 (nI (sL s + 1))) := zf_twI _ _ (zf_twI _ _ (zf_mono r2 rfl) rfl) rfl
  have h2 : ∀ p, p ≠ 2 → p ≠ 8 → (zzwI (zzwI o3.2 10 (sL s) (nI c)) 2 2 (nI (sL s + 1))).1 2 p = μ.1 2 p := fun p p1 p2 => by
    rw [zm_k _ _ _ _ p1, zm_c _ _ _ (by omega), r3 p p2]
  have h8 : (zzwI (zzwI o3.2 10 (sL s) (nI c)) 2 2 (nI (sL s + 1))).1 2 8 = o3.2.1 2 8 := by
    rw [zm_k _ _ _ _ (by omega), zm_c _ _ _ (by omega)]
  have h12 : (zzwI (zzwI o3.2 10 (sL s) (nI c)) 2 2 (nI (sL s + 1))).1 12 = o3.2.1 12 := by
    funext p
    rw [zm_c _ _ _ (by omega), zm_c _ _ _ (by omega)]
  have hz : zc2 g (zRd s c) (zzwI (zzwI o3.2 10 (sL s) (nI c)) 2 2 (nI (sL s + 1))) := by
    refine zc2_to I.h (zf_mono hf rfl) (zm_s _ _ _ _) (fun k hk => ?_) ((h2 3 (by omega) (by omega)).trans (show μ.1 2 3 = sT s from c_st I.h)) ((h2 6 (by omega) (by omega)).trans (show μ.1 2 6 = sF s from c_f I.h)) ((h2 5 (by omega) (by omega)).trans (show μ.1 2 5 = nI (sB s).length from c_bn I.h)) fun p hp q hq => ?_
    · have hk : k < sL s + 1 := hk
      rw [zm_c _ _ _ (by omega), zm_if]
      show _ = nI (if k = sL s then c else sX s k)
      by_cases e : k = sL s
      · rw [if_pos e, if_pos e]
      · rw [if_neg e, if_neg e, zf_i r2 rfl]
        exact c_x I.h (by omega)
    · rw [zf_i hf rfl]
      exact c_b I.h hp hq
  obtain ⟨o5, t1, t2, t3⟩ := s_textChanged I hf hz (zRd_tx s c) (by show sL s ≤ sL s + 1; omega) (by omega) (by show sL s + 1 ≤ 12; omega) d
  rw [t1, Option.bind_some]
  refine zw_some ⟨zf_trans (zf_mono hf rfl) (zf_mono t2 rfl), ?_, ?_, t3, cP_re P r4 (.inl ⟨by decide, rfl, zRd_tx s c⟩) ?_ ?_, ?_⟩
  · rw [zf_i t2 rfl]
    exact h2 9 (by omega) (by omega)
  · rw [zf_i t2 rfl]
    exact h2 10 (by omega) (by omega)
  · rw [zf_i t2 rfl]
    exact h8
  · rw [zf_i t2 rfl]
    exact h12
  · show o5.2.1 2 2 = _
    rw [zf_i t2 rfl]
    exact zm_s _ _ _ _
theorem d_read {g : zG} {s : zSn} {μ : zzM} {S : Nat → zSn} {m c : Nat} (K : zOk g s) (I : mI g s μ) (P : mP S m μ) (hm : m ≤ 20) (hS : S m = s) (hP : zPo g S m) (hn : 0 < gN g) (hc : c < 26) (hl : sL s < 12) (d : Nat) : mX g (zRd s c) (zNx S m (zRd s c)) (zNm m) (d + 5) 242 [.ref 105, .int (nI c)] μ (nI (sL s + 1)) := by
  unfold mX
  rw [u_m_read, d_isG I.h K.hg, Option.bind_some, zdT hn, if_neg (show ¬ zB true = 0 by decide), show lN 25 = (nI 26 - nI 1).toInt64 by decide, m_inN _ _ (by omega), Option.bind_some, zdT ⟨c, hc, rfl⟩, if_neg (show ¬ zB true = 0 by decide), zr_i _ _ (by omega) (by omega), Option.bind_some]
  dsimp only
  rw [d_len I.h, zif_cg (Iff.of_eq (zq_eq (by omega) (by omega))), if_neg (by omega)]
  obtain ⟨o, a1, a2, a3, a4, a5⟩ := m_keepsAct d hm P.1
  have hz : ∀ k, o.2.1 106 k = μ.1 106 k := fun k => by rw [zf_i a2 rfl]
  rw [a1, Option.bind_some, zr_i _ _ (by omega) (by omega), Option.bind_some, hz, d_len I.h, zs_i _ _ _ hl (by omega), Option.bind_some, zr_i _ _ (by omega) (by omega), Option.bind_some, zm_c _ _ _ (by omega), hz, d_len I.h, zq_add, zs_i _ _ _ (by omega) (by omega), Option.bind_some, zr_i _ _ (by omega) (by omega), Option.bind_some, zm_s]
  have hf : zfr [105, 106, 112, 132] μ (zzwI (zzwI o.2 112 (sL s) (nI c)) 106 2 (nI (sL s + 1))) := zf_twI _ _ (zf_twI _ _ (zf_mono a2 rfl) rfl) rfl
  have h105 : ∀ p, (zzwI (zzwI o.2 112 (sL s) (nI c)) 106 2 (nI (sL s + 1))).1 105 p = o.2.1 105 p := fun p => by
    rw [zm_c _ _ _ (by omega), zm_c _ _ _ (by omega)]
  have h106 : ∀ p, p ≠ 2 → (zzwI (zzwI o.2 112 (sL s) (nI c)) 106 2 (nI (sL s + 1))).1 106 p = μ.1 106 p := fun p hp => by
    rw [zm_k _ _ _ _ hp, zm_c _ _ _ (by omega), hz]
  have h132 : (zzwI (zzwI o.2 112 (sL s) (nI c)) 106 2 (nI (sL s + 1))).1 132 = o.2.1 132 := by
    funext p
    rw [zm_c _ _ _ (by omega), zm_c _ _ _ (by omega)]
  have h2 : zm2 g (zRd s c) (zzwI (zzwI o.2 112 (sL s) (nI c)) 106 2 (nI (sL s + 1))) := by
    refine zm2_to I.h hf rfl (h106 0 (by omega)) (h106 1 (by omega)) (zm_s _ _ _ _) (fun k hk => ?_) ((h106 3 (by omega)).trans (show μ.1 106 3 = sT s from d_st I.h)) ((h106 5 (by omega)).trans (show μ.1 106 5 = sF s from d_f I.h)) ((h106 4 (by omega)).trans (show μ.1 106 4 = nI (sB s).length from d_bn I.h)) fun k hk => ?_
    · have hk : k < sL s + 1 := hk
      rw [zm_c _ _ _ (by omega), zm_if]
      show _ = nI (if k = sL s then c else sX s k)
      by_cases e : k = sL s
      · rw [if_pos e, if_pos e]
      · rw [if_neg e, if_neg e, zf_i a2 rfl]
        exact d_x I.h (by omega)
    · rw [zf_i hf rfl]
      exact d_b I.h hk
  refine zw_some ⟨zf_mono hf rfl, ?_, h106 6 (by omega), mI_to I h2 rfl hf rfl ?_ ?_, mP_ke P hm hS hP I.h a5 (h105 39) h132, rfl⟩
  · show (zzwI (zzwI o.2 112 (sL s) (nI c)) 106 2 (nI (sL s + 1))).1 105 16 = _
    rw [h105, a3 16 (by omega) (by omega) (by omega) (by omega)]
  · rw [h105, a3 35 (by omega) (by omega) (by omega) (by omega)]
  · rw [h105, a4]
