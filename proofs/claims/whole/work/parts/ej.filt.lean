/-! ACTS: filter -/
def zSwF (s : zSn) (f : Nat) : zSn := (sL s, sX s, sT s, sB s, sF s ^^^ zbi f)
theorem zbi_8 : ∀ a, a < 8 → ∀ k, k < 3 → (nI a ^^^ (nI 1 <<< (nI k &&& 31))) = nI (a ^^^ 2 ^ k) ∧ a ^^^ 2 ^ k < 8 := by decide +kernel
theorem zbi_x (x : Int32) (r : Nat) : x ^^^ zbi r ^^^ zbi r = x := by
  rw [Int32.xor_assoc, Int32.xor_self, Int32.xor_zero]
theorem zSwF_ok {g : zG} {s : zSn} {f : Nat} (K : zOk g s) (hf : f < 3) : zOk g (zSwF s f) := by
  obtain ⟨h1, ⟨a1, a2, a3, ⟨k, a4, a4'⟩, a5, a6, a7⟩, h3⟩ := K
  refine ⟨h1, ⟨a1, a2, a3, ⟨k ^^^ 2 ^ f, (zbi_8 k a4 f hf).2, ?_⟩, a5, a6, a7⟩, fun hn => ?_⟩
  · show sF s ^^^ zbi f = _
    rw [a4']
    exact (zbi_8 k a4 f hf).1
  · obtain ⟨w, hw⟩ := h3 hn
    exact ⟨w, (zLay_t (s := zSwF s f) (s' := s) rfl).trans hw⟩
theorem i_actf : ∀ f, f < 3 → ((nI f <<< (nI 3 &&& 31)) ||| nI 5) = nI (8 * f + 5) := by decide +kernel
theorem c_filter {g : zG} {s : zSn} {μ : zzM} {S : Nat → zSn} {m f : Nat} (K : zOk g s) (I : cI g s μ) (P : cP s S m μ) (hn : 0 < gN g) (hf3 : f < 3) (d : Nat) : cX g (zSwF s f) (zNx S m (zSwF s f)) (zNm m) (d + 3) 153 [.ref 0, .int (nI f)] μ (sF s ^^^ zbi f) := by
  unfold cX
  rw [u_pf_filter, c_noG I.h K.hg, Option.bind_some, zdF (by omega), if_pos (show zB false = 0 by decide), if_neg (by rw [zq_lt0 (by omega)]; exact id), zif_cg (Iff.of_eq (zq_lt (by omega) (by omega))), if_pos hf3]
  dsimp only
  obtain ⟨o3, r1, r2, r3, r4⟩ := s_remember d P.1 P.2.2.1 (nI 5) (nI f)
  rw [r1, Option.bind_some, r3 6 (by omega), c_f I.h]
  have hf : zfr [2, 11, 12] μ (zzwI o3.2 2 6 (sF s ^^^ (nI 1 <<< (nI f &&& 31)))) := zf_twI _ _ (zf_mono r2 rfl) rfl
  have h2 : ∀ q, q ≠ 6 → q ≠ 8 → (zzwI o3.2 2 6 (sF s ^^^ (nI 1 <<< (nI f &&& 31)))).1 2 q = μ.1 2 q := fun q p1 p2 => by
    rw [zm_k _ _ _ _ p1, r3 q p2]
  have h8 : (zzwI o3.2 2 6 (sF s ^^^ (nI 1 <<< (nI f &&& 31)))).1 2 8 = o3.2.1 2 8 := by
    rw [zm_k _ _ _ _ (by omega)]
  have h12 : (zzwI o3.2 2 6 (sF s ^^^ (nI 1 <<< (nI f &&& 31)))).1 12 = o3.2.1 12 := by
    funext q
    rw [zm_c _ _ _ (by omega)]
  have hz : zc2 g (zSwF s f) (zzwI o3.2 2 6 (sF s ^^^ (nI 1 <<< (nI f &&& 31)))) := by
    refine zc2_to I.h (zf_mono hf rfl) ((h2 2 (by omega) (by omega)).trans (show μ.1 2 2 = nI (sL s) from c_len I.h)) (fun k hk => ?_) ((h2 3 (by omega) (by omega)).trans (show μ.1 2 3 = sT s from c_st I.h)) (zm_s _ _ _ _) ((h2 5 (by omega) (by omega)).trans (show μ.1 2 5 = nI (sB s).length from c_bn I.h)) fun p hp q hq => ?_
    · have hk : k < sL s := hk
      rw [zf_i hf rfl]
      exact c_x I.h hk
    · rw [zm_c _ _ _ (by omega), zf_i r2 rfl]
      exact c_b I.h hp hq
  obtain ⟨o5, t1, t2, t3⟩ := s_filtersChanged I hf hz rfl (fun _ => rfl) rfl (d + 1)
  rw [t1, Option.bind_some]
  refine zw_some ⟨zf_trans (zf_mono hf rfl) (zf_mono t2 rfl), ?_, ?_, t3, cP_re P r4 (.inr (.inr (.inr (.inr (.inr ⟨f, hf3, i_actf f hf3, rfl, fun _ => rfl, rfl, rfl, (zbi_x _ _).symm⟩))))) ?_ ?_, ?_⟩
  · rw [zf_i t2 rfl]
    exact h2 9 (by omega) (by omega)
  · rw [zf_i t2 rfl]
    exact h2 10 (by omega) (by omega)
  · rw [zf_i t2 rfl]
    exact h8
  · rw [zf_i t2 rfl]
    exact h12
  · show o5.2.1 2 6 = _
    rw [zf_i t2 rfl]
    exact zm_s _ _ _ _
theorem d_filter {g : zG} {s : zSn} {μ : zzM} {S : Nat → zSn} {m f : Nat} (K : zOk g s) (I : mI g s μ) (P : mP S m μ) (hm : m ≤ 20) (hS : S m = s) (hP : zPo g S m) (hn : 0 < gN g) (hf3 : f < 3) (d : Nat) : mX g (zSwF s f) (zNx S m (zSwF s f)) (zNm m) (d + 5) 248 [.ref 105, .int (nI f)] μ (sF s ^^^ zbi f) := by
  unfold mX
  rw [u_m_filter, d_isG I.h K.hg, Option.bind_some, zdT hn, if_neg (show ¬ zB true = 0 by decide), show lN 2 = (nI 3 - nI 1).toInt64 by decide, m_inN _ _ (by omega), Option.bind_some, zdT ⟨f, hf3, rfl⟩, if_neg (show ¬ zB true = 0 by decide)]
  dsimp only
  obtain ⟨o, a1, a2, a3, a4, a5⟩ := m_keepsAct d hm P.1
  have hz : ∀ k, o.2.1 106 k = μ.1 106 k := fun k => by rw [zf_i a2 rfl]
  rw [a1, Option.bind_some, zr_i _ _ (by omega) (by omega), Option.bind_some, hz, d_f I.h, zs_i _ _ _ (by omega) (by omega), Option.bind_some, zr_i _ _ (by omega) (by omega), Option.bind_some, zm_s]
  have hf : zfr [105, 106, 132] μ (zzwI o.2 106 5 (sF s ^^^ (nI 1 <<< (nI f &&& 31)))) := zf_twI _ _ (zf_mono a2 rfl) rfl
  have h105 : ∀ p, (zzwI o.2 106 5 (sF s ^^^ (nI 1 <<< (nI f &&& 31)))).1 105 p = o.2.1 105 p := fun p => by
    rw [zm_c _ _ _ (by omega)]
  have h106 : ∀ p, p ≠ 5 → (zzwI o.2 106 5 (sF s ^^^ (nI 1 <<< (nI f &&& 31)))).1 106 p = μ.1 106 p := fun p hp => by
    rw [zm_k _ _ _ _ hp, hz]
  have h132 : (zzwI o.2 106 5 (sF s ^^^ (nI 1 <<< (nI f &&& 31)))).1 132 = o.2.1 132 := by
    funext p
    rw [zm_c _ _ _ (by omega)]
  have h2 : zm2 g (zSwF s f) (zzwI o.2 106 5 (sF s ^^^ (nI 1 <<< (nI f &&& 31)))) := by
    refine zm2_to I.h hf rfl (h106 0 (by omega)) (h106 1 (by omega)) ((h106 2 (by omega)).trans (show μ.1 106 2 = nI (sL s) from d_len I.h)) (fun k hk => ?_) ((h106 3 (by omega)).trans (show μ.1 106 3 = sT s from d_st I.h)) (zm_s _ _ _ _) ((h106 4 (by omega)).trans (show μ.1 106 4 = nI (sB s).length from d_bn I.h)) fun k hk => ?_
    · have hk : k < sL s := hk
      rw [zf_i hf rfl]
      exact d_x I.h hk
    · rw [zf_i hf rfl]
      exact d_b I.h hk
  refine zw_some ⟨zf_mono hf rfl, ?_, h106 6 (by omega), mI_to I h2 rfl hf rfl ?_ ?_, mP_ke P hm hS hP I.h a5 (h105 39) h132, rfl⟩
  · show (zzwI o.2 106 5 (sF s ^^^ (nI 1 <<< (nI f &&& 31)))).1 105 16 = _
    rw [h105, a3 16 (by omega) (by omega) (by omega) (by omega)]
  · rw [h105, a3 35 (by omega) (by omega) (by omega) (by omega)]
  · rw [h105, a4]
