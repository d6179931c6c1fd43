/-! ACTS: drop, change -/
/-- one letter less -/
def zDp (s : zSn) : zSn := (sL s - 1, sX s, sT s, sB s, sF s)
theorem zDp_tx (s : zSn) (N : Nat) : zTx N s (zDp s) := ⟨rfl, rfl, rfl, fun _ _ => rfl⟩
theorem zDp_ok {g : zG} {s : zSn} (K : zOk g s) : zOk g (zDp s) := by
  obtain ⟨h1, ⟨a1, a2, a3, a4, a5, a6, a7⟩, h3⟩ := K
  refine ⟨h1, ⟨by show sL s - 1 ≤ 12; omega, fun k hk => ?_, a3, a4, a5, a6, a7⟩, fun hn => ?_⟩
  · have hk : k < sL s - 1 := hk
    exact a2 k (by omega)
  · obtain ⟨w, hw⟩ := h3 hn
    exact ⟨w, (zLay_t (s := zDp s) (s' := s) rfl).trans hw⟩
theorem i_act : ∀ c, c < 26 → ((nI c <<< (nI 3 &&& 31)) ||| nI 1) = nI (8 * c + 1) := by decide +kernel
theorem c_drop {g : zG} {s : zSn} {μ : zzM} {S : Nat → zSn} {m : Nat} (K : zOk g s) (I : cI g s μ) (P : cP s S m μ) (hl : 0 < sL s) (d : Nat) : cX g (zDp s) (zNx S m (zDp s)) (zNm m) (d + 3) 149 [.ref 0] μ (nI (sX s (sL s - 1))) := by
  have hsl := K.hs.1
  have hx := K.hs.2.1 (sL s - 1) (by omega)
  unfold cX
  rw [u_pf_drop, c_len I.h, zif_cg (Iff.of_eq (zq_e0 (by omega))), if_neg (by omega), u_set_pop, c_len I.h, zif_cg (Iff.of_eq (zq_e0 (by omega))), if_neg (by omega), zq_sub hl, zr_i _ _ (show sL s - 1 < 12 by omega) (by omega), Option.bind_some, Option.bind_some]
  dsimp only
  rw [zm_c _ _ _ (by omega), c_x I.h (show sL s - 1 < sL s by omega)]
  have P' : cP s S m (zzwI μ 2 2 (nI (sL s - 1))) := ⟨P.1, P.2.1, (zm_k _ _ _ _ (show (8 : Nat) ≠ 2 by omega)).trans P.2.2.1, fun k hk => by rw [zm_c _ _ _ (by omega)]; exact P.2.2.2 k hk⟩
  obtain ⟨o3, r1, r2, r3, r4⟩ := s_remember d P.1 P'.2.2.1 (nI 1) (nI (sX s (sL s - 1)))
  rw [r1, Option.bind_some, r3 2 (by omega), zm_s]
  have hf : zfr [2, 10, 12] μ o3.2 := zf_trans (zf_wI _ _ rfl) (zf_mono r2 rfl)
  have h2 : ∀ p, p ≠ 2 → p ≠ 8 → o3.2.1 2 p = μ.1 2 p := fun p p1 p2 => by
    rw [r3 p p2, zm_k _ _ _ _ p1]
  have h10 : ∀ k, o3.2.1 10 k = μ.1 10 k := fun k => by
    rw [zf_i r2 rfl, zm_c _ _ _ (by omega)]
  have hz : zc2 g (zDp s) o3.2 := by
    refine zc2_to I.h (zf_mono hf rfl) ((r3 2 (by omega)).trans (zm_s _ _ _ _)) (fun k hk => ?_) ((h2 3 (by omega) (by omega)).trans (show μ.1 2 3 = sT s from c_st I.h)) ((h2 6 (by omega) (by omega)).trans (show μ.1 2 6 = sF s from c_f I.h)) ((h2 5 (by omega) (by omega)).trans (show μ.1 2 5 = nI (sB s).length from c_bn I.h)) fun p hp q hq => ?_
    · have hk : k < sL s - 1 := hk
      rw [h10]
      exact c_x I.h (by omega)
    · rw [zf_i hf rfl]
      exact c_b I.h hp hq
  obtain ⟨o5, t1, t2, t3⟩ := s_textChanged (N := sL s - 1) I hf hz (zDp_tx s _) (Nat.le_refl _) (by omega) (by show sL s - 1 ≤ 12; omega) d
  rw [t1, Option.bind_some]
  refine zw_some ⟨zf_trans (zf_mono hf rfl) (zf_mono t2 rfl), ?_, ?_, t3, cP_re P' r4 (.inr (.inl ⟨_, hx, i_act _ hx, by show sL s = sL s - 1 + 1; omega, rfl, zDp_tx s _⟩)) ?_ ?_, rfl⟩
  · rw [zf_i t2 rfl]
    exact h2 9 (by omega) (by omega)
  · rw [zf_i t2 rfl]
    exact h2 10 (by omega) (by omega)
  · rw [zf_i t2 rfl]
  · rw [zf_i t2 rfl]
theorem d_drop {g : zG} {s : zSn} {μ : zzM} {S : Nat → zSn} {m : Nat} (K : zOk g s) (I : mI g s μ) (P : mP S m μ) (hm : m ≤ 20) (hS : S m = s) (hP : zPo g S m) (hl : 0 < sL s) (d : Nat) : mX g (zDp s) (zNx S m (zDp s)) (zNm m) (d + 5) 243 [.ref 105] μ (nI (sX s (sL s - 1))) := by
  have hsl := K.hs.1
  unfold mX
  rw [u_m_drop, zr_i _ _ (by omega) (by omega), Option.bind_some, d_len I.h, zif_cg (Iff.of_eq (zq_e0 (by omega))), if_neg (by omega)]
  obtain ⟨o, a1, a2, a3, a4, a5⟩ := m_keepsAct d hm P.1
  have hz : ∀ k, o.2.1 106 k = μ.1 106 k := fun k => by rw [zf_i a2 rfl]
  rw [a1, Option.bind_some, zr_i _ _ (by omega) (by omega), Option.bind_some, hz, d_len I.h, zq_sub hl, zs_i _ _ _ (by omega) (by omega), Option.bind_some, zr_i _ _ (by omega) (by omega), Option.bind_some, zm_s, zr_i _ _ (show sL s - 1 < 12 by omega) (by omega), Option.bind_some, zm_c _ _ _ (by omega), zf_i a2 rfl, d_x I.h (show sL s - 1 < sL s by omega)]
  have hf : zfr [105, 106, 112, 132] μ (zzwI o.2 106 2 (nI (sL s - 1))) := zf_twI _ _ (zf_mono a2 rfl) rfl
  have h105 : ∀ p, (zzwI o.2 106 2 (nI (sL s - 1))).1 105 p = o.2.1 105 p := fun p => by rw [zm_c _ _ _ (show (105 : Nat) ≠ 106 by omega)]
  have h106 : ∀ p, p ≠ 2 → (zzwI o.2 106 2 (nI (sL s - 1))).1 106 p = μ.1 106 p := fun p hp => by
    rw [zm_k _ _ _ _ hp, hz]
  have h132 : (zzwI o.2 106 2 (nI (sL s - 1))).1 132 = o.2.1 132 := by
    funext p
    rw [zm_c _ _ _ (by omega)]
  have h2 : zm2 g (zDp s) (zzwI o.2 106 2 (nI (sL s - 1))) := by
    refine zm2_to I.h hf rfl (h106 0 (by omega)) (h106 1 (by omega)) (zm_s _ _ _ _) (fun k hk => ?_) ((h106 3 (by omega)).trans (show μ.1 106 3 = sT s from d_st I.h)) ((h106 5 (by omega)).trans (show μ.1 106 5 = sF s from d_f I.h)) ((h106 4 (by omega)).trans (show μ.1 106 4 = nI (sB s).length from d_bn I.h)) fun k hk => ?_
    · have hk : k < sL s - 1 := hk
      rw [zm_c _ _ _ (by omega), zf_i a2 rfl]
      exact d_x I.h (by omega)
    · rw [zf_i hf rfl]
      exact d_b I.h hk
  refine zw_some ⟨zf_mono hf rfl, ?_, h106 6 (by omega), mI_to I h2 rfl hf rfl ?_ ?_, mP_ke P hm hS hP I.h a5 (h105 39) h132, rfl⟩
  · show (zzwI o.2 106 2 (nI (sL s - 1))).1 105 16 = _
    rw [h105, a3 16 (by omega) (by omega) (by omega) (by omega)]
  · rw [h105, a3 35 (by omega) (by omega) (by omega) (by omega)]
  · rw [h105, a4]
/-- one letter another -/
def zCg (s : zSn) (p c : Nat) : zSn := (sL s, (fun k => if k = p then c else sX s k), sT s, sB s, sF s)
theorem zCg_x (s : zSn) (p c : Nat) {k : Nat} (h : k ≠ p) : sX s k = sX (zCg s p c) k := (if_neg h).symm
theorem zCg_tx (s : zSn) (p c : Nat) : zTx p s (zCg s p c) := ⟨rfl, rfl, rfl, fun k hk => zCg_x s p c (by omega)⟩
theorem zCg_ok {g : zG} {s : zSn} {p c : Nat} (K : zOk g s) (hc : c < 26) : zOk g (zCg s p c) := by
  obtain ⟨h1, ⟨a1, a2, a3, a4, a5, a6, a7⟩, h3⟩ := K
  refine ⟨h1, ⟨a1, fun k hk => ?_, a3, a4, a5, a6, a7⟩, fun hn => ?_⟩
  · have hk : k < sL s := hk
    show (if k = p then c else sX s k) < 26
    by_cases e : k = p
    · rw [if_pos e]
      exact hc
    · rw [if_neg e]
      exact a2 k hk
  · obtain ⟨w, hw⟩ := h3 hn
    exact ⟨w, (zLay_t (s := zCg s p c) (s' := s) rfl).trans hw⟩
theorem i_actc : ∀ p, p < 12 → ∀ c, c < 26 → ((((nI p <<< (nI 5 &&& 31)) ||| nI c) <<< (nI 3 &&& 31)) ||| nI 2) = nI (8 * (32 * p + c) + 2) := by decide +kernel
theorem s_put {n p : Nat} {μ : zzM} (d : Nat) (x : Int32) (hl : μ.1 2 2 = nI n) (hp : p < n) (hn : n ≤ 12) : zzf zzP zN (d + 1) 323 [.ref 2, .int (nI p), .int x] μ = some ((0, 0, 0), zzwI μ 10 p x) := by
  rw [u_set_put, if_neg (by rw [zq_lt0 (by omega)]; exact id), hl, zif_cg (Iff.of_eq (zq_le (by omega) (by omega))), if_neg (by omega), zs_i _ _ _ (show p < 12 by omega) (by omega), Option.bind_some]
theorem c_change {g : zG} {s : zSn} {μ : zzM} {S : Nat → zSn} {m p c : Nat} (K : zOk g s) (I : cI g s μ) (P : cP s S m μ) (hp : p < sL s) (hc : c < 26) (hne : sX s p ≠ c) (d : Nat) : cX g (zCg s p c) (zNx S m (zCg s p c)) (zNm m) (d + 3) 150 [.ref 0, .int (nI p), .int (nI c)] μ (nI (sX s p)) := by
  have hsl := K.hs.1
  have hx := K.hs.2.1 p hp
  unfold cX
  rw [u_pf_change, if_neg (by rw [zq_lt0 (by omega)]; exact id), c_len I.h, zif_cg (Iff.of_eq (zq_le (by omega) (by omega))), if_neg (by omega), s_isSmall, Option.bind_some, decide_eq_true ((i_in (by omega)).2 ⟨c, hc, rfl⟩), if_neg (show ¬ zB true = 0 by decide)]
  dsimp only
  rw [zr_i _ _ (show p < 12 by omega) (by omega), Option.bind_some, Option.bind_some, c_x I.h hp, zif_cg (Iff.of_eq (zq_eq (by omega) (by omega))), if_neg hne]
  obtain ⟨o3, r1, r2, r3, r4⟩ := s_remember d P.1 P.2.2.1 (nI 2) ((nI p <<< (nI 5 &&& 31)) ||| nI (sX s p))
  rw [r1, Option.bind_some, s_put (d + 1) (nI c) ((r3 2 (by omega)).trans (c_len I.h)) hp hsl, Option.bind_some]
  dsimp only
  have hf : zfr [2, 10, 12] μ (zzwI o3.2 10 p (nI c)) := zf_twI _ _ (zf_mono r2 rfl) rfl
  have h2 : ∀ q, q ≠ 8 → (zzwI o3.2 10 p (nI c)).1 2 q = μ.1 2 q := fun q p2 => by
    rw [zm_c _ _ _ (by omega), r3 q p2]
  have h12 : (zzwI o3.2 10 p (nI c)).1 12 = o3.2.1 12 := by
    funext q
    rw [zm_c _ _ _ (by omega)]
  have hz : zc2 g (zCg s p c) (zzwI o3.2 10 p (nI c)) := by
    refine zc2_to I.h (zf_mono hf rfl) ((h2 2 (by omega)).trans (show μ.1 2 2 = nI (sL s) from c_len I.h)) (fun k hk => ?_) ((h2 3 (by omega)).trans (show μ.1 2 3 = sT s from c_st I.h)) ((h2 6 (by omega)).trans (show μ.1 2 6 = sF s from c_f I.h)) ((h2 5 (by omega)).trans (show μ.1 2 5 = nI (sB s).length from c_bn I.h)) fun p hp q hq => ?_
    · have hk : k < sL s := hk
      rw [zm_if]
      show _ = nI (if k = p then c else sX s k)
      by_cases e : k = p
      · rw [if_pos e, if_pos e]
      · rw [if_neg e, if_neg e, zf_i r2 rfl]
        exact c_x I.h hk
    · rw [zf_i hf rfl]
      exact c_b I.h hp hq
  obtain ⟨o5, t1, t2, t3⟩ := s_textChanged (N := p) I hf hz (zCg_tx s p c) (by show p ≤ sL s; omega) (by omega) (by show sL s ≤ 12; omega) d
  rw [t1, Option.bind_some]
  refine zw_some ⟨zf_trans (zf_mono hf rfl) (zf_mono t2 rfl), ?_, ?_, t3, cP_re P r4 (.inr (.inr (.inl ⟨p, _, hx, hp, i_actc _ (by omega) _ hx, rfl, rfl, fun k hk => zCg_x s p c hk, zCg_tx s p c⟩))) ?_ ?_, rfl⟩
  · rw [zf_i t2 rfl]
    exact h2 9 (by omega)
  · rw [zf_i t2 rfl]
    exact h2 10 (by omega)
  · rw [zf_i t2 rfl]
    rw [zm_c _ _ _ (show (2 : Nat) ≠ 10 by omega)]
  · rw [zf_i t2 rfl]
    exact h12
theorem d_change {g : zG} {s : zSn} {μ : zzM} {S : Nat → zSn} {m p c : Nat} (K : zOk g s) (I : mI g s μ) (P : mP S m μ) (hm : m ≤ 20) (hS : S m = s) (hP : zPo g S m) (hp : p < sL s) (hc : c < 26) (hne : sX s p ≠ c) (d : Nat) : mX g (zCg s p c) (zNx S m (zCg s p c)) (zNm m) (d + 5) 244 [.ref 105, .int (nI p), .int (nI c)] μ (nI (sX s p)) := by
  have hsl := K.hs.1
  have hx := K.hs.2.1 p hp
  unfold mX
  rw [u_m_change, zr_i _ _ (by omega) (by omega), Option.bind_some, d_len I.h, m_inN _ _ (by omega), Option.bind_some, zdT ⟨p, hp, rfl⟩, if_neg (show ¬ zB true = 0 by decide), show lN 25 = (nI 26 - nI 1).toInt64 by decide, m_inN _ _ (by omega), Option.bind_some, zdT ⟨c, hc, rfl⟩, if_neg (show ¬ zB true = 0 by decide), zr_i _ _ (show p < 12 by omega) (by omega), Option.bind_some]
  dsimp only
  rw [d_x I.h hp, zif_cg (Iff.of_eq (zq_eq (by omega) (by omega))), if_neg hne]
  obtain ⟨o, a1, a2, a3, a4, a5⟩ := m_keepsAct d hm P.1
  rw [a1, Option.bind_some, zr_i _ _ (show p < 12 by omega) (by omega), Option.bind_some, zs_i _ _ _ (show p < 12 by omega) (by omega), Option.bind_some, zf_i a2 rfl, d_x I.h hp]
  have hf : zfr [105, 112, 132] μ (zzwI o.2 112 p (nI c)) := zf_twI _ _ (zf_mono a2 rfl) rfl
  have h105 : ∀ q, (zzwI o.2 112 p (nI c)).1 105 q = o.2.1 105 q := fun q => by rw [zm_c _ _ _ (show (105 : Nat) ≠ 112 by omega)]
  have h106 : ∀ q, (zzwI o.2 112 p (nI c)).1 106 q = μ.1 106 q := fun q => by
    rw [zf_i hf rfl]
  have h132 : (zzwI o.2 112 p (nI c)).1 132 = o.2.1 132 := by
    funext q
    rw [zm_c _ _ _ (by omega)]
  have h2 : zm2 g (zCg s p c) (zzwI o.2 112 p (nI c)) := by
    refine zm2_to I.h hf rfl (h106 0) (h106 1) ((h106 2).trans (show μ.1 106 2 = nI (sL s) from d_len I.h)) (fun k hk => ?_) ((h106 3).trans (show μ.1 106 3 = sT s from d_st I.h)) ((h106 5).trans (show μ.1 106 5 = sF s from d_f I.h)) ((h106 4).trans (show μ.1 106 4 = nI (sB s).length from d_bn I.h)) fun k hk => ?_
    · have hk : k < sL s := hk
      rw [zm_if]
      show _ = nI (if k = p then c else sX s k)
      by_cases e : k = p
      · rw [if_pos e, if_pos e]
      · rw [if_neg e, if_neg e, zf_i a2 rfl]
        exact d_x I.h hk
    · rw [zf_i hf rfl]
      exact d_b I.h hk
  refine zw_some ⟨zf_mono hf rfl, ?_, h106 6, mI_to I h2 rfl hf rfl ?_ ?_, mP_ke P hm hS hP I.h a5 (h105 39) h132, rfl⟩
  · show (zzwI o.2 112 p (nI c)).1 105 16 = _
    rw [h105, a3 16 (by omega) (by omega) (by omega) (by omega)]
  · rw [h105, a3 35 (by omega) (by omega) (by omega) (by omega)]
  · rw [h105, a4]
