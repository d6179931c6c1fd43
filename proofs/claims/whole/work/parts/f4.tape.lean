/-! SEED, FEED, END answered alike -/
theorem cP_8 {s : zSn} {S : Nat → zSn} {m : Nat} {μ y : zzM} (h : cP s S m μ) (h8 : y.1 2 8 = μ.1 2 8) (h12 : y.1 12 = μ.1 12) : cP s S m y := ⟨h.1, h.2.1, h8.trans h.2.2.1, fun k hk => by rw [h12]; exact h.2.2.2 k hk⟩
theorem mI_2 {g : zG} {s : zSn} {μ : zzM} {y : zzM} {L : List Nat} (m : mI g s μ) (h : zm2 g s y) (hf : zfr L μ y) (h35 : y.1 105 35 = μ.1 105 35) (h36 : y.1 105 36 = μ.1 105 36) (hl : zdj [130, 131, 134, 137, 138, 139, 143, 146] L) : mI g s y := mI_up (N := fun _ => False) m h (fun i _ e => .inl (by rw [← h36]; exact e)) fun i _ e => e.elim (mB_fr hf h35 hl i) False.elim
theorem q_seed {μ : zzM} (h : zIv μ) (a : Int32) : zA 168 310 [.ref 0, .int a] [.ref 105, .int a] μ := by
  obtain ⟨⟨g, s, S, m, b1, b2, b3, b4, b5⟩, hx, ht, hi⟩ := id h
  by_cases ha : 0 ≤ a
  · obtain ⟨x, hx31, ea⟩ : ∃ x, x < 2147483648 ∧ a = nI x := by
      rcases zq_cases a with q | q
      · exact absurd ha (by rw [i_nle]; exact q)
      · exact q
    have e1 : zzf zzP zN 13 168 [.ref 0, .int a] μ = some ((μ.1 2 9, 0, 0), zzwI μ 2 9 a) := by rw [show (13 : Nat) = 12 + 1 from rfl, w_pf_seed, if_pos ha]
    have e2 : ∀ z : zzM, zzf zzP zN 13 310 [.ref 105, .int a] z = some ((z.1 106 6, 0, 0), zzwI z 106 6 a) := fun z => by rw [show (13 : Nat) = 12 + 1 from rfl, w_m_seed, if_pos ha, zr_i _ _ (by omega) (by omega), Option.bind_some, zs_i _ _ _ (by omega) (by omega), Option.bind_some]
    have hf : zfr [2, 106] μ (zzwI (zzwI μ 2 9 a) 106 6 a) := zf_twI _ _ (zf_wI _ _ rfl) rfl
    have h2 : ∀ p, p ≠ 9 → (zzwI μ 2 9 a).1 2 p = μ.1 2 p := fun p hp => zm_k _ _ _ _ hp
    have h2' : ∀ p, p ≠ 9 → (zzwI (zzwI μ 2 9 a) 106 6 a).1 2 p = μ.1 2 p := fun p hp => by rw [zm_c _ _ _ (by omega), h2 p hp]
    have h6 : ∀ p, p ≠ 6 → (zzwI (zzwI μ 2 9 a) 106 6 a).1 106 p = μ.1 106 p := fun p hp => by rw [zm_k _ _ _ _ hp, zm_c _ _ _ (by omega)]
    have hc : zc2 g s (zzwI μ 2 9 a) := zc2_to b2.h (zf_wI (L := [2, 10, 11, 12]) _ _ rfl) ((h2 2 (by omega)).trans (c_len b2.h)) (fun k hk => by rw [zm_c _ _ _ (by omega)]; exact c_x b2.h hk) ((h2 3 (by omega)).trans (c_st b2.h)) ((h2 6 (by omega)).trans (c_f b2.h)) ((h2 5 (by omega)).trans (c_bn b2.h)) fun p hp q hq => by rw [zm_c _ _ _ (by omega)]; exact c_b b2.h hp hq
    have hm : zm2 g s (zzwI (zzwI μ 2 9 a) 106 6 a) := zm2_to b3.h hf rfl (h6 0 (by omega)) (h6 1 (by omega)) ((h6 2 (by omega)).trans (d_len b3.h)) (fun k hk => by rw [zf_i hf rfl]; exact d_x b3.h hk) ((h6 3 (by omega)).trans (d_st b3.h)) ((h6 5 (by omega)).trans (d_f b3.h)) ((h6 4 (by omega)).trans (d_bn b3.h)) fun k hk => by rw [zf_i hf rfl]; exact d_b b3.h hk
    refine ⟨_, _, e1, e2 _, ?_, ⟨g, s, S, m, b1, cI_2 b2 (zc2_fr hc (zf_wI (L := [106]) _ _ rfl) rfl) hf rfl, mI_2 b3 hm hf (by rw [zf_i hf rfl]) (by rw [zf_i hf rfl]) rfl, cP_8 b4 (h2' 8 (by omega)) (zf_i hf rfl), mP_fr b5 hf (by rw [zf_i hf rfl]) rfl⟩, ?_, zTp_fr ht hf (by rw [zf_i hf rfl]) rfl, fun q hq => zIm_fr hq (hi q hq) hf rfl⟩
    · show μ.1 2 9 = (zzwI μ 2 9 a).1 106 6
      obtain ⟨x0, _, y1, y2⟩ := hx
      rw [zm_c _ _ _ (by omega), y1, y2]
    · refine ⟨x, hx31, ?_, ?_⟩
      · show (zzwI (zzwI μ 2 9 a) 106 6 a).1 2 9 = _
        rw [zm_c _ _ _ (by omega), zm_s]
        exact ea
      · show (zzwI (zzwI μ 2 9 a) 106 6 a).1 106 6 = _
        rw [zm_s]
        exact ea
  · refine ⟨_, _, (show zzf zzP zN 13 168 [.ref 0, .int a] μ = some ((-(nI 1), 0, 0), μ) by rw [show (13 : Nat) = 12 + 1 from rfl, w_pf_seed, if_neg ha]), (show zzf zzP zN 13 310 [.ref 105, .int a] μ = some ((-(nI 1), 0, 0), μ) by rw [show (13 : Nat) = 12 + 1 from rfl, w_m_seed, if_neg ha]), rfl, h⟩
/-- only tapes were touched -/
theorem zIv_tp {μ y : zzM} (h : zIv μ) (hf : zfr [0, 1, 105, 120] μ y) (h5 : ∀ p, p ≠ 16 → y.1 105 p = μ.1 105 p) (ht : zTp y) : zIv y := by
  obtain ⟨⟨g, s, S, m, b1, b2, b3, b4, b5⟩, hx, -, hi⟩ := h
  exact ⟨⟨g, s, S, m, b1, cI_2 b2 (zc2_fr b2.h hf rfl) hf rfl, mI_2 b3 (zm2_fr b3.h hf rfl) hf (h5 35 (by omega)) (h5 36 (by omega)) rfl, cP_fr b4 hf rfl, mP_fr b5 hf (h5 39 (by omega)) rfl⟩, zXx_cg hx (by rw [zf_i hf rfl]) (by rw [zf_i hf rfl]), ht, fun q hq => zIm_fr hq (hi q hq) hf rfl⟩
/-! bytes -/
theorem b_s8 (z : Int32) {i : Nat} (hi : i < 32) : bt (Int8.toInt32 (Int32.toInt8 z)) i = if i < 8 then bt z i else bt z 7 := by
  unfold bt
  rw [Int8.toBitVec_toInt32, Int32.toBitVec_toInt8, BitVec.getLsbD_signExtend, BitVec.msb_eq_getLsbD_last, BitVec.getLsbD_signExtend, BitVec.getLsbD_signExtend]
  by_cases h : i < 8
  · simp [hi, h]
  · simp [hi, h]
theorem i_byte {x : Int32} (h : ∀ i, i < 32 → 8 ≤ i → bt x i = false) : ∃ c, c < 256 ∧ x = nI c := by
  refine ⟨x.toBitVec.toNat % 256, Nat.mod_lt _ (by omega), b_ext fun i hi => ?_⟩
  rw [b_nat _ hi, show (256 : Nat) = 2 ^ 8 from rfl, Nat.testBit_mod_two_pow, BitVec.testBit_toNat]
  by_cases e : i < 8
  · rw [decide_eq_true e, Bool.true_and]
    rfl
  · rw [h i hi (by omega), decide_eq_false e, Bool.false_and]
theorem zsh_n : ∀ j, j < 4 → zsh j = nI (24 - 8 * j) := by decide +kernel
theorem b_255 : ∀ i, i < 32 → bt (nI 255) i = decide (i < 8) := by decide +kernel
theorem b_32 : ∀ i, i < 32 → bt (nI 32) i = decide (i = 5) := by decide +kernel
theorem zby_b (a : Int32) {j i : Nat} (hj : j < 4) (hi : i < 32) : bt (zby a j) i = (bt a (24 - 8 * j + i) && decide (i < 8)) := by
  unfold zby
  rw [zsh_n j hj, b_and, b_ushr _ (by omega), b_255 i hi]
theorem zbm_b (a : Int32) {j i : Nat} (hj : j < 4) (hi : i < 32) : bt (zbm a j) i = if i < 8 then bt a (24 - 8 * j + i) else bt a (24 - 8 * j + 7) := by
  unfold zbm
  rw [Int8.toInt8_toInt32, zsh_n j hj, b_s8 _ hi]
  by_cases h : i < 8
  · rw [if_pos h, if_pos h, b_sshr _ (by omega) _ hi, if_pos (by omega)]
  · rw [if_neg h, if_neg h, b_sshr _ (by omega) _ (by omega), if_pos (by omega)]
theorem zby_n (a : Int32) {j : Nat} (hj : j < 4) : ∃ c, c < 256 ∧ zby a j = nI c ∧ (zbm a j &&& nI 255) = nI c ∧ (zbm a j = nI 32 ↔ c = 32) := by
  obtain ⟨c, hc, e⟩ := i_byte (x := zby a j) fun i hi h8 => by rw [zby_b a hj hi, decide_eq_false (by omega), Bool.and_false]
  have hm : (zbm a j &&& nI 255) = zby a j := b_ext fun i hi => by
    rw [b_and, b_255 i hi, zby_b a hj hi, zbm_b a hj hi]
    by_cases h : i < 8
    · rw [if_pos h]
    · rw [decide_eq_false h, Bool.and_false, Bool.and_false]
  refine ⟨c, hc, e, hm.trans e, fun h => ?_, fun h => ?_⟩
  · rw [h] at hm
    rw [e, show (nI 32 &&& nI 255) = nI 32 by decide, zq_eq (by omega) (by omega)] at hm
    exact hm.symm
  · rw [h] at e
    have hb : ∀ i, i < 8 → bt a (24 - 8 * j + i) = decide (i = 5) := fun i hi => by
      have := zby_b a hj (show i < 32 by omega)
      rw [e, b_32 i (by omega), decide_eq_true hi, Bool.and_true] at this
      exact this.symm
    refine b_ext fun i hi => ?_
    rw [zbm_b a hj hi, b_32 i hi]
    by_cases h8 : i < 8
    · rw [if_pos h8, hb i h8]
    · rw [if_neg h8, hb 7 (by omega)]
      exact decide_eq_decide.2 (by omega)
noncomputable def zbyn (a : Int32) (j : Nat) : Nat := if h : j < 4 then Classical.choose (zby_n a h) else 0
theorem zbyn_s (a : Int32) {j : Nat} (hj : j < 4) : zbyn a j < 256 ∧ zby a j = nI (zbyn a j) ∧ (zbm a j &&& nI 255) = nI (zbyn a j) ∧ (zbm a j = nI 32 ↔ zbyn a j = 32) := by
  unfold zbyn
  rw [dif_pos hj]
  exact Classical.choose_spec (zby_n a hj)
theorem q_feed {μ : zzM} (h : zIv μ) (a b c d e : Int32) : zA 118 181 [.ref 0, .int a, .int b, .int c, .int d, .int e] [.ref 105, .int a, .int b, .int c, .int d, .int e] μ := by
  obtain ⟨bb, n, t1, t2, t3⟩ := h.2.2.1
  have hn := t3.1
  have e1 := s_feed 11 a b c d e t1 hn
  by_cases hh : n + 20 ≤ 400
  · rw [if_pos hh] at e1
    have hf1 : zfr [0, 1, 105, 120] μ (zzwI (zblk μ 1 n (n + 20) (fun k => zby (z5 a b c d e ((k - n) / 4)) ((k - n) % 4))) 0 1 (nI (n + 20))) := zf_twI _ _ (zf_b _ _ _ rfl) rfl
    have f105 : ∀ p, (zzwI (zblk μ 1 n (n + 20) (fun k => zby (z5 a b c d e ((k - n) / 4)) ((k - n) % 4))) 0 1 (nI (n + 20))).1 105 p = μ.1 105 p := fun p => by rw [zm_c _ _ _ (by omega), zb_c _ _ _ _ (by omega)]
    have f120 : ∀ p, (zzwI (zblk μ 1 n (n + 20) (fun k => zby (z5 a b c d e ((k - n) / 4)) ((k - n) % 4))) 0 1 (nI (n + 20))).1 120 p = μ.1 120 p := fun p => by rw [zm_c _ _ _ (by omega), zb_c _ _ _ _ (by omega)]
    have f0 : (zzwI (zblk μ 1 n (n + 20) (fun k => zby (z5 a b c d e ((k - n) / 4)) ((k - n) % 4))) 0 1 (nI (n + 20))).1 0 1 = nI (n + 20) := zm_s _ _ _ _
    have f1 : ∀ k, (zzwI (zblk μ 1 n (n + 20) (fun k => zby (z5 a b c d e ((k - n) / 4)) ((k - n) % 4))) 0 1 (nI (n + 20))).1 1 k = (zblk μ 1 n (n + 20) (fun k => zby (z5 a b c d e ((k - n) / 4)) ((k - n) % 4))).1 1 k := fun k => by rw [zm_c _ _ _ (by omega)]
    generalize zzwI (zblk μ 1 n (n + 20) (fun k => zby (z5 a b c d e ((k - n) / 4)) ((k - n) % 4))) 0 1 (nI (n + 20)) = y at e1 hf1 f105 f120 f0 f1
    have e2 := m_feed 11 a b c d e ((f105 16).trans t3.2.1) hn
    rw [if_pos hh] at e2
    have hf2 : zfr [0, 1, 105, 120] μ (zzwI (zblk y 120 n (n + 20) (fun k => zbm (z5 a b c d e ((k - n) / 4)) ((k - n) % 4))) 105 16 (nI (n + 20))) := zf_twI _ _ (zf_trans hf1 (zf_b _ _ _ rfl)) rfl
    refine ⟨_, _, e1, e2, rfl, zIv_tp h hf2 (fun p hp => ?_) ⟨fun k => if k < n then bb k else zbyn (z5 a b c d e ((k - n) / 4)) ((k - n) % 4), n + 20, ?_, fun i hi => ?_, by omega, ?_, fun i hi => ?_⟩⟩
    · show (zzwI (zblk y 120 n (n + 20) (fun k => zbm (z5 a b c d e ((k - n) / 4)) ((k - n) % 4))) 105 16 (nI (n + 20))).1 105 p = _
      rw [zm_k _ _ _ _ hp, zb_c _ _ _ _ (by omega)]
      exact f105 p
    · show (zzwI (zblk y 120 n (n + 20) (fun k => zbm (z5 a b c d e ((k - n) / 4)) ((k - n) % 4))) 105 16 (nI (n + 20))).1 0 1 = _
      rw [zm_c _ _ _ (by omega), zb_c _ _ _ _ (by omega)]
      exact f0
    · show (zzwI (zblk y 120 n (n + 20) (fun k => zbm (z5 a b c d e ((k - n) / 4)) ((k - n) % 4))) 105 16 (nI (n + 20))).1 1 i = nI (if i < n then bb i else zbyn (z5 a b c d e ((i - n) / 4)) ((i - n) % 4))
      rw [zm_c _ _ _ (by omega), zb_c _ _ _ _ (by omega), f1]
      by_cases hin : i < n
      · rw [if_pos hin, zb_o _ _ _ _ (.inl hin)]
        exact t2 i hin
      · rw [if_neg hin, zb_i _ _ _ (by omega) hi]
        exact (zbyn_s _ (Nat.mod_lt _ (by omega))).2.1
    · exact zm_s _ _ _ _
    · show (if i < n then bb i else zbyn (z5 a b c d e ((i - n) / 4)) ((i - n) % 4)) < 256 ∧ ((zzwI (zblk y 120 n (n + 20) (fun k => zbm (z5 a b c d e ((k - n) / 4)) ((k - n) % 4))) 105 16 (nI (n + 20))).1 120 i &&& nI 255) = nI (if i < n then bb i else zbyn (z5 a b c d e ((i - n) / 4)) ((i - n) % 4)) ∧ (((zzwI (zblk y 120 n (n + 20) (fun k => zbm (z5 a b c d e ((k - n) / 4)) ((k - n) % 4))) 105 16 (nI (n + 20))).1 120 i = nI 32) ↔ (if i < n then bb i else zbyn (z5 a b c d e ((i - n) / 4)) ((i - n) % 4)) = 32)
      rw [zm_c _ _ _ (by omega)]
      by_cases hin : i < n
      · rw [if_pos hin, zb_o _ _ _ _ (.inl hin), f120]
        exact t3.2.2 i hin
      · rw [if_neg hin, zb_i _ _ _ (by omega) hi]
        obtain ⟨z1, z2, z3, z4⟩ := zbyn_s (z5 a b c d e ((i - n) / 4)) (j := (i - n) % 4) (Nat.mod_lt _ (by omega))
        exact ⟨z1, z3, z4⟩
  · rw [if_neg hh] at e1
    have e2 := m_feed 11 a b c d e t3.2.1 hn
    rw [if_neg hh] at e2
    exact ⟨_, _, e1, e2, rfl, h⟩
theorem q_end {μ : zzM} (h : zIv μ) (a : Int32) : zA 120 183 [.ref 0, .int a] [.ref 105, .int a] μ := by
  obtain ⟨bb, n, t1, t2, t3⟩ := h.2.2.1
  have hn := t3.1
  have e1 := s_end 12 a μ
  rw [t1] at e1
  by_cases hh : 0 ≤ a ∧ a ≤ nI n
  · rw [if_pos hh] at e1
    obtain ⟨r, hr, rfl⟩ := (i_inle (by omega)).1 hh
    have e2 := m_end 12 (nI r) (zzwI μ 0 1 (nI r))
    rw [zm_c _ _ _ (by omega), t3.2.1, if_pos hh] at e2
    have hf : zfr [0, 1, 105, 120] μ (zzwI (zzwI μ 0 1 (nI r)) 105 16 (nI r)) := zf_twI _ _ (zf_wI _ _ rfl) rfl
    refine ⟨_, _, e1, e2, rfl, zIv_tp h hf (fun p hp => ?_) ⟨bb, r, ?_, fun i hi => ?_, by omega, zm_s _ _ _ _, fun i hi => ?_⟩⟩
    · show (zzwI (zzwI μ 0 1 (nI r)) 105 16 (nI r)).1 105 p = _
      rw [zm_k _ _ _ _ hp, zm_c _ _ _ (by omega)]
    · show (zzwI (zzwI μ 0 1 (nI r)) 105 16 (nI r)).1 0 1 = _
      rw [zm_c _ _ _ (by omega), zm_s]
    · show (zzwI (zzwI μ 0 1 (nI r)) 105 16 (nI r)).1 1 i = _
      rw [zm_c _ _ _ (by omega), zm_c _ _ _ (by omega)]
      exact t2 i (by omega)
    · show bb i < 256 ∧ ((zzwI (zzwI μ 0 1 (nI r)) 105 16 (nI r)).1 120 i &&& nI 255) = nI (bb i) ∧ (((zzwI (zzwI μ 0 1 (nI r)) 105 16 (nI r)).1 120 i = nI 32) ↔ bb i = 32)
      rw [zm_c _ _ _ (by omega), zm_c _ _ _ (by omega)]
      exact t3.2.2 i (by omega)
  · rw [if_neg hh] at e1
    have e2 := m_end 12 a μ
    rw [t3.2.1, if_neg hh] at e2
    exact ⟨_, _, e1, e2, rfl, h⟩
