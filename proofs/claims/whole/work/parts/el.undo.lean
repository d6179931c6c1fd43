/-! UNDO -/
theorem bt_0 (i : Nat) (hi : i < 7) : bt (nI 0) i = false := (show ∀ i, i < 7 → bt (nI 0) i = false by decide) i hi
theorem d_undo {g : zG} {s : zSn} {μ : zzM} {S : Nat → zSn} {m : Nat} (I : mI g s μ) (P : mP S m μ) (hm : m ≤ 20) (hP : zPo g S m) (h0 : 0 < m) (d : Nat) : mX g (S (m - 1)) S (m - 1) (d + 4) 241 [.ref 105] μ (nI (m - 1)) := by
  unfold mX
  rw [u_m_undo, P.1, zif_cg (Iff.of_eq (zq_e0 (by omega))), if_neg (by omega), zq_sub h0]
  obtain ⟨o, a1, a2⟩ := m_takes d (m - 1) (by omega) (zzwI μ 105 39 (nI (m - 1)))
  rw [a1, Option.bind_some]
  have hK := hP (m - 1) (by omega)
  have hr : mRow 132 (24 * (m - 1)) (S (m - 1)) (zzwI μ 105 39 (nI (m - 1))) := mRow_cg hK.hs.1 hK.hs.2.2.2.2.1 (P.2 (m - 1) (by omega)) fun j _ => by rw [zm_c _ _ _ (by omega)]
  have hz : zm2 g (S (m - 1)) o.2 := zm2_tk (zm2_fr I.h (zf_wI (L := [105]) _ _ rfl) rfl) hK.hs a2 hr
  obtain ⟨b1, b2, b3, b4, b5, b6⟩ := a2
  have e39 : o.2.1 105 39 = nI (m - 1) := by rw [b2 39 (by omega) (by omega), zm_s]
  have hf : zfr mAl μ (zzwI o.2 105 36 (nI 0)) := zf_twI _ _ (zf_trans (zf_wI _ _ rfl) (zf_mono b1 rfl)) rfl
  refine zw_some ⟨hf, ?_, ?_, ⟨zm2_fr hz (zf_wI (L := [105]) _ _ rfl) rfl, fun i hi e => ?_⟩, ⟨?_, fun k hk => ?_⟩, e39⟩
  · show (zzwI o.2 105 36 (nI 0)).1 105 16 = _
    rw [zm_k _ _ _ _ (by omega), b2 16 (by omega) (by omega), zm_k _ _ _ _ (by omega)]
  · show (zzwI o.2 105 36 (nI 0)).1 106 6 = _
    rw [zm_c _ _ _ (by omega), b6 6 (by omega), zm_c _ _ _ (by omega)]
  · rw [show (zzwI o.2 105 36 (nI 0)).1 105 36 = nI 0 from zm_s _ _ _ _, bt_0 i hi] at e
    cases e
  · show (zzwI o.2 105 36 (nI 0)).1 105 39 = _
    rw [zm_k _ _ _ _ (by omega)]
    exact e39
  · have hw := hP k (by omega)
    refine mRow_cg hw.hs.1 hw.hs.2.2.2.2.1 (P.2 k (by omega)) fun j _ => ?_
    show (zzwI o.2 105 36 (nI 0)).1 132 _ = _
    rw [zm_c _ _ _ (by omega), zf_i b1 rfl, zm_c _ _ _ (by omega)]
