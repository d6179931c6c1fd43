/-! IMAGES of the reference: all rows carried -/
def zCfw (y z : zzM) (c n t : Nat) : Prop := zfr [105, 151] y z ∧ (∀ p, p ≠ 70 → z.1 105 p = y.1 105 p) ∧ (∀ k, k < n → z.1 151 (t + k) = y.1 c k) ∧ ∀ j, j < t ∨ t + n ≤ j → z.1 151 j = y.1 151 j
theorem zCfw_mk (y : zzM) (c n t : Nat) (v : Int32) : zCfw y (zzwI (zblk y 151 t (t + n) (fun k => y.1 c (k - t))) 105 70 v) c n t := by
  refine ⟨zf_twI _ _ (zf_b _ _ _ rfl) rfl, fun p hp => ?_, fun k hk => ?_, fun j hj => ?_⟩
  · rw [zm_k _ _ _ _ hp, zb_c _ _ _ _ (by omega)]
  · rw [zm_c _ _ _ (by omega), zb_i _ _ _ (by omega) (by omega), Nat.add_sub_cancel_left]
  · rw [zm_c _ _ _ (by omega), zb_o _ _ _ _ hj]
def zCbk (y z : zzM) (c n t : Nat) : Prop := zfr [105, c] y z ∧ (∀ p, p ≠ 70 → z.1 105 p = y.1 105 p) ∧ ∀ k, k < n → z.1 c k = y.1 151 (t + k)
theorem zCbk_mk (y : zzM) {c : Nat} (n t : Nat) (v : Int32) (hc : c ≠ 105) : zCbk y (zzwI (zblk y c 0 n (fun k => y.1 151 (t + k))) 105 70 v) c n t := by
  refine ⟨zf_twI _ _ (zf_b _ _ _ (by simp)) rfl, fun p hp => ?_, fun k hk => ?_⟩
  · rw [zm_k _ _ _ _ hp, zb_c _ _ _ _ (fun q => hc q.symm)]
  · rw [zm_c _ _ _ hc, zb_i _ _ _ (by omega) hk]
set_option maxHeartbeats 2000000 in
theorem m_carriesS (d : Nat) {μ : zzM} {q : Nat} (hq : q < 4) : zw (zzf zzP zN (d + 2) 320 [.ref 105, .int (nI q), .int (nI 0)] μ) fun r => zfr [105, 133, 151] μ r.2 ∧ (∀ k, k ≠ 70 → k ≠ 71 → r.2.1 105 k = μ.1 105 k) ∧ (∀ k, k < 640 * q ∨ 640 * q + 604 ≤ k → r.2.1 151 k = μ.1 151 k) ∧ r.2.1 151 (640 * q + 123) = μ.1 105 39 ∧ (∀ k, k < 7 → r.2.1 151 (640 * q + 0 + k) = μ.1 106 k) ∧ (∀ k, k < 12 → r.2.1 151 (640 * q + 7 + k) = μ.1 107 k) ∧ (∀ k, k < 12 → r.2.1 151 (640 * q + 19 + k) = μ.1 108 k) ∧ (∀ k, k < 48 → r.2.1 151 (640 * q + 31 + k) = μ.1 109 k) ∧ (∀ k, k < 12 → r.2.1 151 (640 * q + 79 + k) = μ.1 110 k) ∧ (∀ k, k < 12 → r.2.1 151 (640 * q + 91 + k) = μ.1 111 k) ∧ (∀ k, k < 12 → r.2.1 151 (640 * q + 103 + k) = μ.1 112 k) ∧ (∀ k, k < 8 → r.2.1 151 (640 * q + 115 + k) = μ.1 113 k) ∧ (∀ k, k < 480 → r.2.1 151 (640 * q + 124 + k) = μ.1 132 k) := by
  rw [u_m_carriesAll, if_pos (by decide), zq_mul]
  have T0 : (zzwI (zzwI μ 105 70 (nI (640 * q))) 105 71 (nI 0)).1 105 70 = nI (640 * q + 0) := by simp (disch := omega) only [zm_k, zm_s, Nat.add_zero]
  have B0 : (zzwI (zzwI μ 105 70 (nI (640 * q))) 105 71 (nI 0)).1 105 71 = 0 := by rw [zm_s]; decide
  generalize hM0 : zzwI (zzwI μ 105 70 (nI (640 * q))) 105 71 (nI 0) = M0 at T0 B0 ⊢
  rw [m_carryS_106 _ T0 B0 (by omega), Option.bind_some]
  have T1 : (zzwI (zblk M0 151 (640 * q + 0) (640 * q + 0 + 7) (fun k => M0.1 106 (k - (640 * q + 0)))) 105 70 (nI (640 * q + 0 + 7))).1 105 70 = nI (640 * q + 7) := zm_s _ _ _ _
  have B1 :  (zzwI (zblk M0 151 (640 * q + 0) (640 * q + 0 + 7) (fun k => M0.1 106 (k - (640 * q + 0)))) 105 70 (nI (640 * q + 0 + 7))).1 105 71 = 0 := by rw [zm_k _ _ _ _ (by omega), zb_c _ _ _ _ (by omega)]; exact B0
  generalize hM1 : zzwI (zblk M0 151 (640 * q + 0) (640 * q + 0 + 7) (fun k => M0.1 106 (k - (640 * q + 0)))) 105 70 (nI (640 * q + 0 + 7)) = M1 at T1 B1 ⊢
  rw [m_carryS_107 _ T1 B1 (by omega), Option.bind_some]
  have T2 : (zzwI (zblk M1 151 (640 * q + 7) (640 * q + 7 + 12) (fun k => M1.1 107 (k - (640 * q + 7)))) 105 70 (nI (640 * q + 7 + 12))).1 105 70 = nI (640 * q + 19) := zm_s _ _ _ _
  have B2 :  (zzwI (zblk M1 151 (640 * q + 7) (640 * q + 7 + 12) (fun k => M1.1 107 (k - (640 * q + 7)))) 105 70 (nI (640 * q + 7 + 12))).1 105 71 = 0 := by rw [zm_k _ _ _ _ (by omega), zb_c _ _ _ _ (by omega)]; exact B1
  generalize hM2 : zzwI (zblk M1 151 (640 * q + 7) (640 * q + 7 + 12) (fun k => M1.1 107 (k - (640 * q + 7)))) 105 70 (nI (640 * q + 7 + 12)) = M2 at T2 B2 ⊢
  rw [m_carryS_108 _ T2 B2 (by omega), Option.bind_some]
  have T3 : (zzwI (zblk M2 151 (640 * q + 19) (640 * q + 19 + 12) (fun k => M2.1 108 (k - (640 * q + 19)))) 105 70 (nI (640 * q + 19 + 12))).1 105 70 = nI (640 * q + 31) := zm_s _ _ _ _
  have B3 :  (zzwI (zblk M2 151 (640 * q + 19) (640 * q + 19 + 12) (fun k => M2.1 108 (k - (640 * q + 19)))) 105 70 (nI (640 * q + 19 + 12))).1 105 71 = 0 := by rw [zm_k _ _ _ _ (by omega), zb_c _ _ _ _ (by omega)]; exact B2
  generalize hM3 : zzwI (zblk M2 151 (640 * q + 19) (640 * q + 19 + 12) (fun k => M2.1 108 (k - (640 * q + 19)))) 105 70 (nI (640 * q + 19 + 12)) = M3 at T3 B3 ⊢
  rw [m_carryS_109 _ T3 B3 (by omega), Option.bind_some]
  have T4 : (zzwI (zblk M3 151 (640 * q + 31) (640 * q + 31 + 48) (fun k => M3.1 109 (k - (640 * q + 31)))) 105 70 (nI (640 * q + 31 + 48))).1 105 70 = nI (640 * q + 79) := zm_s _ _ _ _
  have B4 :  (zzwI (zblk M3 151 (640 * q + 31) (640 * q + 31 + 48) (fun k => M3.1 109 (k - (640 * q + 31)))) 105 70 (nI (640 * q + 31 + 48))).1 105 71 = 0 := by rw [zm_k _ _ _ _ (by omega), zb_c _ _ _ _ (by omega)]; exact B3
  generalize hM4 : zzwI (zblk M3 151 (640 * q + 31) (640 * q + 31 + 48) (fun k => M3.1 109 (k - (640 * q + 31)))) 105 70 (nI (640 * q + 31 + 48)) = M4 at T4 B4 ⊢
  rw [m_carryS_110 _ T4 B4 (by omega), Option.bind_some]
  have T5 : (zzwI (zblk M4 151 (640 * q + 79) (640 * q + 79 + 12) (fun k => M4.1 110 (k - (640 * q + 79)))) 105 70 (nI (640 * q + 79 + 12))).1 105 70 = nI (640 * q + 91) := zm_s _ _ _ _
  have B5 :  (zzwI (zblk M4 151 (640 * q + 79) (640 * q + 79 + 12) (fun k => M4.1 110 (k - (640 * q + 79)))) 105 70 (nI (640 * q + 79 + 12))).1 105 71 = 0 := by rw [zm_k _ _ _ _ (by omega), zb_c _ _ _ _ (by omega)]; exact B4
  generalize hM5 : zzwI (zblk M4 151 (640 * q + 79) (640 * q + 79 + 12) (fun k => M4.1 110 (k - (640 * q + 79)))) 105 70 (nI (640 * q + 79 + 12)) = M5 at T5 B5 ⊢
  rw [m_carryS_111 _ T5 B5 (by omega), Option.bind_some]
  have T6 : (zzwI (zblk M5 151 (640 * q + 91) (640 * q + 91 + 12) (fun k => M5.1 111 (k - (640 * q + 91)))) 105 70 (nI (640 * q + 91 + 12))).1 105 70 = nI (640 * q + 103) := zm_s _ _ _ _
  have B6 :  (zzwI (zblk M5 151 (640 * q + 91) (640 * q + 91 + 12) (fun k => M5.1 111 (k - (640 * q + 91)))) 105 70 (nI (640 * q + 91 + 12))).1 105 71 = 0 := by rw [zm_k _ _ _ _ (by omega), zb_c _ _ _ _ (by omega)]; exact B5
  generalize hM6 : zzwI (zblk M5 151 (640 * q + 91) (640 * q + 91 + 12) (fun k => M5.1 111 (k - (640 * q + 91)))) 105 70 (nI (640 * q + 91 + 12)) = M6 at T6 B6 ⊢
  rw [m_carryS_112 _ T6 B6 (by omega), Option.bind_some]
  have T7 : (zzwI (zblk M6 151 (640 * q + 103) (640 * q + 103 + 12) (fun k => M6.1 112 (k - (640 * q + 103)))) 105 70 (nI (640 * q + 103 + 12))).1 105 70 = nI (640 * q + 115) := zm_s _ _ _ _
  have B7 :  (zzwI (zblk M6 151 (640 * q + 103) (640 * q + 103 + 12) (fun k => M6.1 112 (k - (640 * q + 103)))) 105 70 (nI (640 * q + 103 + 12))).1 105 71 = 0 := by rw [zm_k _ _ _ _ (by omega), zb_c _ _ _ _ (by omega)]; exact B6
  generalize hM7 : zzwI (zblk M6 151 (640 * q + 103) (640 * q + 103 + 12) (fun k => M6.1 112 (k - (640 * q + 103)))) 105 70 (nI (640 * q + 103 + 12)) = M7 at T7 B7 ⊢
  rw [m_carryS_113 _ T7 B7 (by omega), Option.bind_some]
  have T8 : (zzwI (zblk M7 151 (640 * q + 115) (640 * q + 115 + 8) (fun k => M7.1 113 (k - (640 * q + 115)))) 105 70 (nI (640 * q + 115 + 8))).1 105 70 = nI (640 * q + 123) := zm_s _ _ _ _
  have B8 :  (zzwI (zblk M7 151 (640 * q + 115) (640 * q + 115 + 8) (fun k => M7.1 113 (k - (640 * q + 115)))) 105 70 (nI (640 * q + 115 + 8))).1 105 71 = 0 := by rw [zm_k _ _ _ _ (by omega), zb_c _ _ _ _ (by omega)]; exact B7
  generalize hM8 : zzwI (zblk M7 151 (640 * q + 115) (640 * q + 115 + 8) (fun k => M7.1 113 (k - (640 * q + 115)))) 105 70 (nI (640 * q + 115 + 8)) = M8 at T8 B8 ⊢
  have T8' : (zzwI M8 133 0 (M8.1 105 39)).1 105 70 = nI (640 * q + 123) := by rw [zm_c _ _ _ (by omega)]; exact T8
  have B8' :  (zzwI M8 133 0 (M8.1 105 39)).1 105 71 = 0 := by rw [zm_c _ _ _ (by omega)]; exact B8
  rw [zs_i M8 133 (M8.1 105 39) (show 0 < 1 by omega) (by omega), Option.bind_some]
  generalize hN8 : zzwI M8 133 0 (M8.1 105 39) = N8 at T8' B8' ⊢
  rw [m_carryS_133 _ T8' B8' (by omega), Option.bind_some]
  have T9 : (zzwI (zblk N8 151 (640 * q + 123) (640 * q + 123 + 1) (fun k => N8.1 133 (k - (640 * q + 123)))) 105 70 (nI (640 * q + 123 + 1))).1 105 70 = nI (640 * q + 124) := zm_s _ _ _ _
  have B9 :  (zzwI (zblk N8 151 (640 * q + 123) (640 * q + 123 + 1) (fun k => N8.1 133 (k - (640 * q + 123)))) 105 70 (nI (640 * q + 123 + 1))).1 105 71 = 0 := by rw [zm_k _ _ _ _ (by omega), zb_c _ _ _ _ (by omega)]; exact B8'
  generalize hM9 : zzwI (zblk N8 151 (640 * q + 123) (640 * q + 123 + 1) (fun k => N8.1 133 (k - (640 * q + 123)))) 105 70 (nI (640 * q + 123 + 1)) = M9 at T9 B9 ⊢
  rw [zr_i M9 133 (show 0 < 1 by omega) (by omega), Option.bind_some]
  have T9' : (zzwI M9 105 39 (M9.1 133 0)).1 105 70 = nI (640 * q + 124) := by rw [zm_k _ _ _ _ (by omega)]; exact T9
  have B9' :  (zzwI M9 105 39 (M9.1 133 0)).1 105 71 = 0 := by rw [zm_k _ _ _ _ (by omega)]; exact B9
  generalize hN9 : zzwI M9 105 39 (M9.1 133 0) = N9 at T9' B9' ⊢
  rw [m_carryS_132 _ T9' B9' (by omega), Option.bind_some]
  have f0 : zfr [105, 133, 151] μ M0 := by rw [← hM0]; exact zf_twI _ _ (zf_wI _ _ rfl) rfl
  have a0 : ∀ p, p ≠ 70 → p ≠ 71 → M0.1 105 p = μ.1 105 p := fun p p1 p2 => by rw [← hM0, zm_k _ _ _ _ p2, zm_k _ _ _ _ p1]
  have w0 : M0.1 151 = μ.1 151 := by rw [← hM0, zm_c _ _ _ (by omega), zm_c _ _ _ (by omega)]
  have s0 : zCfw M0 M1 106 7 (640 * q + 0) := by rw [← hM1]; exact zCfw_mk _ _ _ _ _
  have f1 : zfr [105, 133, 151] μ M1 := zf_trans f0 (zf_mono s0.1 rfl)
  have a1 : ∀ p, p ≠ 70 → p ≠ 71 → M1.1 105 p = μ.1 105 p := fun p p1 p2 => (s0.2.1 p p1).trans (a0 p p1 p2)
  have s1 : zCfw M1 M2 107 12 (640 * q + 7) := by rw [← hM2]; exact zCfw_mk _ _ _ _ _
  have f2 : zfr [105, 133, 151] μ M2 := zf_trans f1 (zf_mono s1.1 rfl)
  have a2 : ∀ p, p ≠ 70 → p ≠ 71 → M2.1 105 p = μ.1 105 p := fun p p1 p2 => (s1.2.1 p p1).trans (a1 p p1 p2)
  have s2 : zCfw M2 M3 108 12 (640 * q + 19) := by rw [← hM3]; exact zCfw_mk _ _ _ _ _
  have f3 : zfr [105, 133, 151] μ M3 := zf_trans f2 (zf_mono s2.1 rfl)
  have a3 : ∀ p, p ≠ 70 → p ≠ 71 → M3.1 105 p = μ.1 105 p := fun p p1 p2 => (s2.2.1 p p1).trans (a2 p p1 p2)
  have s3 : zCfw M3 M4 109 48 (640 * q + 31) := by rw [← hM4]; exact zCfw_mk _ _ _ _ _
  have f4 : zfr [105, 133, 151] μ M4 := zf_trans f3 (zf_mono s3.1 rfl)
  have a4 : ∀ p, p ≠ 70 → p ≠ 71 → M4.1 105 p = μ.1 105 p := fun p p1 p2 => (s3.2.1 p p1).trans (a3 p p1 p2)
  have s4 : zCfw M4 M5 110 12 (640 * q + 79) := by rw [← hM5]; exact zCfw_mk _ _ _ _ _
  have f5 : zfr [105, 133, 151] μ M5 := zf_trans f4 (zf_mono s4.1 rfl)
  have a5 : ∀ p, p ≠ 70 → p ≠ 71 → M5.1 105 p = μ.1 105 p := fun p p1 p2 => (s4.2.1 p p1).trans (a4 p p1 p2)
  have s5 : zCfw M5 M6 111 12 (640 * q + 91) := by rw [← hM6]; exact zCfw_mk _ _ _ _ _
  have f6 : zfr [105, 133, 151] μ M6 := zf_trans f5 (zf_mono s5.1 rfl)
  have a6 : ∀ p, p ≠ 70 → p ≠ 71 → M6.1 105 p = μ.1 105 p := fun p p1 p2 => (s5.2.1 p p1).trans (a5 p p1 p2)
  have s6 : zCfw M6 M7 112 12 (640 * q + 103) := by rw [← hM7]; exact zCfw_mk _ _ _ _ _
  have f7 : zfr [105, 133, 151] μ M7 := zf_trans f6 (zf_mono s6.1 rfl)
  have a7 : ∀ p, p ≠ 70 → p ≠ 71 → M7.1 105 p = μ.1 105 p := fun p p1 p2 => (s6.2.1 p p1).trans (a6 p p1 p2)
  have s7 : zCfw M7 M8 113 8 (640 * q + 115) := by rw [← hM8]; exact zCfw_mk _ _ _ _ _
  have f8 : zfr [105, 133, 151] μ M8 := zf_trans f7 (zf_mono s7.1 rfl)
  have a8 : ∀ p, p ≠ 70 → p ≠ 71 → M8.1 105 p = μ.1 105 p := fun p p1 p2 => (s7.2.1 p p1).trans (a7 p p1 p2)
  have n8 : N8.1 133 0 = μ.1 105 39 := by rw [← hN8, zm_s]; exact a8 39 (by omega) (by omega)
  have n8c : ∀ c, c ≠ 133 → N8.1 c = M8.1 c := fun c h => by rw [← hN8, zm_c _ _ _ h]
  have s8 : zCfw N8 M9 133 1 (640 * q + 123) := by rw [← hM9]; exact zCfw_mk _ _ _ _ _
  have fN8 : zfr [105, 133, 151] μ N8 := zf_trans f8 (by rw [← hN8]; exact zf_wI _ _ rfl)
  have f9 : zfr [105, 133, 151] μ M9 := zf_trans fN8 (zf_mono s8.1 rfl)
  have a9 : ∀ p, p ≠ 70 → p ≠ 71 → M9.1 105 p = μ.1 105 p := fun p p1 p2 => (s8.2.1 p p1).trans (by rw [n8c 105 (by omega)]; exact a8 p p1 p2)
  have m9 : M9.1 133 0 = μ.1 105 39 := by rw [zf_i s8.1 rfl]; exact n8
  have fN9 : zfr [105, 133, 151] μ N9 := zf_trans f9 (by rw [← hN9]; exact zf_wI _ _ rfl)
  have aN : ∀ p, p ≠ 70 → p ≠ 71 → N9.1 105 p = μ.1 105 p := fun p p1 p2 => by
    rw [← hN9, zm_if]
    by_cases e : p = 39
    · rw [if_pos e, e]; exact m9
    · rw [if_neg e]; exact a9 p p1 p2
  have n9c : N9.1 151 = M9.1 151 := by rw [← hN9, zm_c _ _ _ (by omega)]
  have s9 := zCfw_mk N9 132 480 (640 * q + 124) (nI (640 * q + 124 + 480))
  refine zw_some ?_
  dsimp only
  generalize zzwI (zblk N9 151 (640 * q + 124) (640 * q + 124 + 480) (fun k => N9.1 132 (k - (640 * q + 124)))) 105 70 (nI (640 * q + 124 + 480)) = R at s9 ⊢
  have v9 : ∀ j, j < 640 * q + 124 → R.1 151 j = M9.1 151 j := fun j hj => by rw [← n9c]; exact s9.2.2.2 j (.inl hj)
  have v8 : ∀ j, j < 640 * q + 123 → R.1 151 j = M8.1 151 j := fun j hj => by rw [v9 j (by omega), s8.2.2.2 j (.inl hj), n8c 151 (by omega)]
  have v7 : ∀ j, j < 640 * q + 115 → R.1 151 j = M7.1 151 j := fun j hj => by rw [v8 j (by omega), s7.2.2.2 j (.inl hj)]
  have v6 : ∀ j, j < 640 * q + 103 → R.1 151 j = M6.1 151 j := fun j hj => by rw [v7 j (by omega), s6.2.2.2 j (.inl hj)]
  have v5 : ∀ j, j < 640 * q + 91 → R.1 151 j = M5.1 151 j := fun j hj => by rw [v6 j (by omega), s5.2.2.2 j (.inl hj)]
  have v4 : ∀ j, j < 640 * q + 79 → R.1 151 j = M4.1 151 j := fun j hj => by rw [v5 j (by omega), s4.2.2.2 j (.inl hj)]
  have v3 : ∀ j, j < 640 * q + 31 → R.1 151 j = M3.1 151 j := fun j hj => by rw [v4 j (by omega), s3.2.2.2 j (.inl hj)]
  have v2 : ∀ j, j < 640 * q + 19 → R.1 151 j = M2.1 151 j := fun j hj => by rw [v3 j (by omega), s2.2.2.2 j (.inl hj)]
  have v1 : ∀ j, j < 640 * q + 7 → R.1 151 j = M1.1 151 j := fun j hj => by rw [v2 j (by omega), s1.2.2.2 j (.inl hj)]
  refine ⟨zf_trans fN9 (zf_mono s9.1 rfl), fun k h1 h2 => (s9.2.1 k h1).trans (aN k h1 h2), fun k hk => ?_, ?_, fun k hk => ?_, fun k hk => ?_, fun k hk => ?_, fun k hk => ?_, fun k hk => ?_, fun k hk => ?_, fun k hk => ?_, fun k hk => ?_, fun k hk => ?_⟩
  · rw [s9.2.2.2 k (by omega), n9c, s8.2.2.2 k (by omega), n8c 151 (by omega), s7.2.2.2 k (by omega), s6.2.2.2 k (by omega), s5.2.2.2 k (by omega), s4.2.2.2 k (by omega), s3.2.2.2 k (by omega), s2.2.2.2 k (by omega), s1.2.2.2 k (by omega), s0.2.2.2 k (by omega), w0]
  · rw [v9 _ (by omega)]
    exact (s8.2.2.1 0 (by omega)).trans n8
  · rw [v1 _ (by omega), s0.2.2.1 k hk, zf_i f0 rfl]
  · rw [v2 _ (by omega), s1.2.2.1 k hk, zf_i f1 rfl]
  · rw [v3 _ (by omega), s2.2.2.1 k hk, zf_i f2 rfl]
  · rw [v4 _ (by omega), s3.2.2.1 k hk, zf_i f3 rfl]
  · rw [v5 _ (by omega), s4.2.2.1 k hk, zf_i f4 rfl]
  · rw [v6 _ (by omega), s5.2.2.1 k hk, zf_i f5 rfl]
  · rw [v7 _ (by omega), s6.2.2.1 k hk, zf_i f6 rfl]
  · rw [v8 _ (by omega), s7.2.2.1 k hk, zf_i f7 rfl]
  · rw [s9.2.2.1 k hk, zf_i fN9 rfl]
set_option maxHeartbeats 2000000 in
theorem m_carriesL (d : Nat) {μ : zzM} {q : Nat} (hq : q < 4) : zw (zzf zzP zN (d + 2) 320 [.ref 105, .int (nI q), .int (nI 1)] μ) fun r => zfr [105, 106, 107, 108, 109, 110, 111, 112, 113, 132, 133] μ r.2 ∧ (∀ k, k ≠ 70 → k ≠ 71 → k ≠ 39 → r.2.1 105 k = μ.1 105 k) ∧ r.2.1 105 39 = μ.1 151 (640 * q + 123) ∧ (∀ k, k < 7 → r.2.1 106 k = μ.1 151 (640 * q + 0 + k)) ∧ (∀ k, k < 12 → r.2.1 107 k = μ.1 151 (640 * q + 7 + k)) ∧ (∀ k, k < 12 → r.2.1 108 k = μ.1 151 (640 * q + 19 + k)) ∧ (∀ k, k < 48 → r.2.1 109 k = μ.1 151 (640 * q + 31 + k)) ∧ (∀ k, k < 12 → r.2.1 110 k = μ.1 151 (640 * q + 79 + k)) ∧ (∀ k, k < 12 → r.2.1 111 k = μ.1 151 (640 * q + 91 + k)) ∧ (∀ k, k < 12 → r.2.1 112 k = μ.1 151 (640 * q + 103 + k)) ∧ (∀ k, k < 8 → r.2.1 113 k = μ.1 151 (640 * q + 115 + k)) ∧ (∀ k, k < 480 → r.2.1 132 k = μ.1 151 (640 * q + 124 + k)) := by
  rw [u_m_carriesAll, if_pos (by decide), zq_mul]
  have T0 : (zzwI (zzwI μ 105 70 (nI (640 * q))) 105 71 (nI 1)).1 105 70 = nI (640 * q + 0) := by simp (disch := omega) only [zm_k, zm_s, Nat.add_zero]
  have B0 : ¬ (zzwI (zzwI μ 105 70 (nI (640 * q))) 105 71 (nI 1)).1 105 71 = 0 := by rw [zm_s]; decide
  generalize hM0 : zzwI (zzwI μ 105 70 (nI (640 * q))) 105 71 (nI 1) = M0 at T0 B0 ⊢
  rw [m_carryL_106 _ T0 B0 (by omega), Option.bind_some]
  have T1 : (zzwI (zblk M0 106 0 7 (fun k => M0.1 151 (640 * q + 0 + k))) 105 70 (nI (640 * q + 0 + 7))).1 105 70 = nI (640 * q + 7) := zm_s _ _ _ _
  have B1 : ¬ (zzwI (zblk M0 106 0 7 (fun k => M0.1 151 (640 * q + 0 + k))) 105 70 (nI (640 * q + 0 + 7))).1 105 71 = 0 := by rw [zm_k _ _ _ _ (by omega), zb_c _ _ _ _ (by omega)]; exact B0
  generalize hM1 : zzwI (zblk M0 106 0 7 (fun k => M0.1 151 (640 * q + 0 + k))) 105 70 (nI (640 * q + 0 + 7)) = M1 at T1 B1 ⊢
  rw [m_carryL_107 _ T1 B1 (by omega), Option.bind_some]
  have T2 : (zzwI (zblk M1 107 0 12 (fun k => M1.1 151 (640 * q + 7 + k))) 105 70 (nI (640 * q + 7 + 12))).1 105 70 = nI (640 * q + 19) := zm_s _ _ _ _
  have B2 : ¬ (zzwI (zblk M1 107 0 12 (fun k => M1.1 151 (640 * q + 7 + k))) 105 70 (nI (640 * q + 7 + 12))).1 105 71 = 0 := by rw [zm_k _ _ _ _ (by omega), zb_c _ _ _ _ (by omega)]; exact B1
  generalize hM2 : zzwI (zblk M1 107 0 12 (fun k => M1.1 151 (640 * q + 7 + k))) 105 70 (nI (640 * q + 7 + 12)) = M2 at T2 B2 ⊢
  rw [m_carryL_108 _ T2 B2 (by omega), Option.bind_some]
  have T3 : (zzwI (zblk M2 108 0 12 (fun k => M2.1 151 (640 * q + 19 + k))) 105 70 (nI (640 * q + 19 + 12))).1 105 70 = nI (640 * q + 31) := zm_s _ _ _ _
  have B3 : ¬ (zzwI (zblk M2 108 0 12 (fun k => M2.1 151 (640 * q + 19 + k))) 105 70 (nI (640 * q + 19 + 12))).1 105 71 = 0 := by rw [zm_k _ _ _ _ (by omega), zb_c _ _ _ _ (by omega)]; exact B2
  generalize hM3 : zzwI (zblk M2 108 0 12 (fun k => M2.1 151 (640 * q + 19 + k))) 105 70 (nI (640 * q + 19 + 12)) = M3 at T3 B3 ⊢
  rw [m_carryL_109 _ T3 B3 (by omega), Option.bind_some]
  have T4 : (zzwI (zblk M3 109 0 48 (fun k => M3.1 151 (640 * q + 31 + k))) 105 70 (nI (640 * q + 31 + 48))).1 105 70 = nI (640 * q + 79) := zm_s _ _ _ _
  have B4 : ¬ (zzwI (zblk M3 109 0 48 (fun k => M3.1 151 (640 * q + 31 + k))) 105 70 (nI (640 * q + 31 + 48))).1 105 71 = 0 := by rw [zm_k _ _ _ _ (by omega), zb_c _ _ _ _ (by omega)]; exact B3
  generalize hM4 : zzwI (zblk M3 109 0 48 (fun k => M3.1 151 (640 * q + 31 + k))) 105 70 (nI (640 * q + 31 + 48)) = M4 at T4 B4 ⊢
  rw [m_carryL_110 _ T4 B4 (by omega), Option.bind_some]
  have T5 : (zzwI (zblk M4 110 0 12 (fun k => M4.1 151 (640 * q + 79 + k))) 105 70 (nI (640 * q + 79 + 12))).1 105 70 = nI (640 * q + 91) := zm_s _ _ _ _
  have B5 : ¬ (zzwI (zblk M4 110 0 12 (fun k => M4.1 151 (640 * q + 79 + k))) 105 70 (nI (640 * q + 79 + 12))).1 105 71 = 0 := by rw [zm_k _ _ _ _ (by omega), zb_c _ _ _ _ (by omega)]; exact B4
  generalize hM5 : zzwI (zblk M4 110 0 12 (fun k => M4.1 151 (640 * q + 79 + k))) 105 70 (nI (640 * q + 79 + 12)) = M5 at T5 B5 ⊢
  rw [m_carryL_111 _ T5 B5 (by omega), Option.bind_some]
  have T6 : (zzwI (zblk M5 111 0 12 (fun k => M5.1 151 (640 * q + 91 + k))) 105 70 (nI (640 * q + 91 + 12))).1 105 70 = nI (640 * q + 103) := zm_s _ _ _ _
  have B6 : ¬ (zzwI (zblk M5 111 0 12 (fun k => M5.1 151 (640 * q + 91 + k))) 105 70 (nI (640 * q + 91 + 12))).1 105 71 = 0 := by rw [zm_k _ _ _ _ (by omega), zb_c _ _ _ _ (by omega)]; exact B5
  generalize hM6 : zzwI (zblk M5 111 0 12 (fun k => M5.1 151 (640 * q + 91 + k))) 105 70 (nI (640 * q + 91 + 12)) = M6 at T6 B6 ⊢
  rw [m_carryL_112 _ T6 B6 (by omega), Option.bind_some]
  have T7 : (zzwI (zblk M6 112 0 12 (fun k => M6.1 151 (640 * q + 103 + k))) 105 70 (nI (640 * q + 103 + 12))).1 105 70 = nI (640 * q + 115) := zm_s _ _ _ _
  have B7 : ¬ (zzwI (zblk M6 112 0 12 (fun k => M6.1 151 (640 * q + 103 + k))) 105 70 (nI (640 * q + 103 + 12))).1 105 71 = 0 := by rw [zm_k _ _ _ _ (by omega), zb_c _ _ _ _ (by omega)]; exact B6
  generalize hM7 : zzwI (zblk M6 112 0 12 (fun k => M6.1 151 (640 * q + 103 + k))) 105 70 (nI (640 * q + 103 + 12)) = M7 at T7 B7 ⊢
  rw [m_carryL_113 _ T7 B7 (by omega), Option.bind_some]
  have T8 : (zzwI (zblk M7 113 0 8 (fun k => M7.1 151 (640 * q + 115 + k))) 105 70 (nI (640 * q + 115 + 8))).1 105 70 = nI (640 * q + 123) := zm_s _ _ _ _
  have B8 : ¬ (zzwI (zblk M7 113 0 8 (fun k => M7.1 151 (640 * q + 115 + k))) 105 70 (nI (640 * q + 115 + 8))).1 105 71 = 0 := by rw [zm_k _ _ _ _ (by omega), zb_c _ _ _ _ (by omega)]; exact B7
  generalize hM8 : zzwI (zblk M7 113 0 8 (fun k => M7.1 151 (640 * q + 115 + k))) 105 70 (nI (640 * q + 115 + 8)) = M8 at T8 B8 ⊢
  have T8' : (zzwI M8 133 0 (M8.1 105 39)).1 105 70 = nI (640 * q + 123) := by rw [zm_c _ _ _ (by omega)]; exact T8
  have B8' : ¬ (zzwI M8 133 0 (M8.1 105 39)).1 105 71 = 0 := by rw [zm_c _ _ _ (by omega)]; exact B8
  rw [zs_i M8 133 (M8.1 105 39) (show 0 < 1 by omega) (by omega), Option.bind_some]
  generalize hN8 : zzwI M8 133 0 (M8.1 105 39) = N8 at T8' B8' ⊢
  rw [m_carryL_133 _ T8' B8' (by omega), Option.bind_some]
  have T9 : (zzwI (zblk N8 133 0 1 (fun k => N8.1 151 (640 * q + 123 + k))) 105 70 (nI (640 * q + 123 + 1))).1 105 70 = nI (640 * q + 124) := zm_s _ _ _ _
  have B9 : ¬ (zzwI (zblk N8 133 0 1 (fun k => N8.1 151 (640 * q + 123 + k))) 105 70 (nI (640 * q + 123 + 1))).1 105 71 = 0 := by rw [zm_k _ _ _ _ (by omega), zb_c _ _ _ _ (by omega)]; exact B8'
  generalize hM9 : zzwI (zblk N8 133 0 1 (fun k => N8.1 151 (640 * q + 123 + k))) 105 70 (nI (640 * q + 123 + 1)) = M9 at T9 B9 ⊢
  rw [zr_i M9 133 (show 0 < 1 by omega) (by omega), Option.bind_some]
  have T9' : (zzwI M9 105 39 (M9.1 133 0)).1 105 70 = nI (640 * q + 124) := by rw [zm_k _ _ _ _ (by omega)]; exact T9
  have B9' : ¬ (zzwI M9 105 39 (M9.1 133 0)).1 105 71 = 0 := by rw [zm_k _ _ _ _ (by omega)]; exact B9
  generalize hN9 : zzwI M9 105 39 (M9.1 133 0) = N9 at T9' B9' ⊢
  rw [m_carryL_132 _ T9' B9' (by omega), Option.bind_some]
  have f0 : zfr [105, 106, 107, 108, 109, 110, 111, 112, 113, 132, 133] μ M0 := by rw [← hM0]; exact zf_twI _ _ (zf_wI _ _ rfl) rfl
  have a0 : ∀ p, p ≠ 70 → p ≠ 71 → M0.1 105 p = μ.1 105 p := fun p p1 p2 => by rw [← hM0, zm_k _ _ _ _ p2, zm_k _ _ _ _ p1]
  have s0 : zCbk M0 M1 106 7 (640 * q + 0) := by rw [← hM1]; exact zCbk_mk _ _ _ _ (by omega)
  have f1 : zfr [105, 106, 107, 108, 109, 110, 111, 112, 113, 132, 133] μ M1 := zf_trans f0 (zf_mono s0.1 rfl)
  have a1 : ∀ p, p ≠ 70 → p ≠ 71 → M1.1 105 p = μ.1 105 p := fun p p1 p2 => (s0.2.1 p p1).trans (a0 p p1 p2)
  have s1 : zCbk M1 M2 107 12 (640 * q + 7) := by rw [← hM2]; exact zCbk_mk _ _ _ _ (by omega)
  have f2 : zfr [105, 106, 107, 108, 109, 110, 111, 112, 113, 132, 133] μ M2 := zf_trans f1 (zf_mono s1.1 rfl)
  have a2 : ∀ p, p ≠ 70 → p ≠ 71 → M2.1 105 p = μ.1 105 p := fun p p1 p2 => (s1.2.1 p p1).trans (a1 p p1 p2)
  have s2 : zCbk M2 M3 108 12 (640 * q + 19) := by rw [← hM3]; exact zCbk_mk _ _ _ _ (by omega)
  have f3 : zfr [105, 106, 107, 108, 109, 110, 111, 112, 113, 132, 133] μ M3 := zf_trans f2 (zf_mono s2.1 rfl)
  have a3 : ∀ p, p ≠ 70 → p ≠ 71 → M3.1 105 p = μ.1 105 p := fun p p1 p2 => (s2.2.1 p p1).trans (a2 p p1 p2)
  have s3 : zCbk M3 M4 109 48 (640 * q + 31) := by rw [← hM4]; exact zCbk_mk _ _ _ _ (by omega)
  have f4 : zfr [105, 106, 107, 108, 109, 110, 111, 112, 113, 132, 133] μ M4 := zf_trans f3 (zf_mono s3.1 rfl)
  have a4 : ∀ p, p ≠ 70 → p ≠ 71 → M4.1 105 p = μ.1 105 p := fun p p1 p2 => (s3.2.1 p p1).trans (a3 p p1 p2)
  have s4 : zCbk M4 M5 110 12 (640 * q + 79) := by rw [← hM5]; exact zCbk_mk _ _ _ _ (by omega)
  have f5 : zfr [105, 106, 107, 108, 109, 110, 111, 112, 113, 132, 133] μ M5 := zf_trans f4 (zf_mono s4.1 rfl)
  have a5 : ∀ p, p ≠ 70 → p ≠ 71 → M5.1 105 p = μ.1 105 p := fun p p1 p2 => (s4.2.1 p p1).trans (a4 p p1 p2)
  have s5 : zCbk M5 M6 111 12 (640 * q + 91) := by rw [← hM6]; exact zCbk_mk _ _ _ _ (by omega)
  have f6 : zfr [105, 106, 107, 108, 109, 110, 111, 112, 113, 132, 133] μ M6 := zf_trans f5 (zf_mono s5.1 rfl)
  have a6 : ∀ p, p ≠ 70 → p ≠ 71 → M6.1 105 p = μ.1 105 p := fun p p1 p2 => (s5.2.1 p p1).trans (a5 p p1 p2)
  have s6 : zCbk M6 M7 112 12 (640 * q + 103) := by rw [← hM7]; exact zCbk_mk _ _ _ _ (by omega)
  have f7 : zfr [105, 106, 107, 108, 109, 110, 111, 112, 113, 132, 133] μ M7 := zf_trans f6 (zf_mono s6.1 rfl)
  have a7 : ∀ p, p ≠ 70 → p ≠ 71 → M7.1 105 p = μ.1 105 p := fun p p1 p2 => (s6.2.1 p p1).trans (a6 p p1 p2)
  have s7 : zCbk M7 M8 113 8 (640 * q + 115) := by rw [← hM8]; exact zCbk_mk _ _ _ _ (by omega)
  have f8 : zfr [105, 106, 107, 108, 109, 110, 111, 112, 113, 132, 133] μ M8 := zf_trans f7 (zf_mono s7.1 rfl)
  have a8 : ∀ p, p ≠ 70 → p ≠ 71 → M8.1 105 p = μ.1 105 p := fun p p1 p2 => (s7.2.1 p p1).trans (a7 p p1 p2)
  have gN8 : zfr [133] M8 N8 := by rw [← hN8]; exact zf_wI _ _ rfl
  have s8 : zCbk N8 M9 133 1 (640 * q + 123) := by rw [← hM9]; exact zCbk_mk _ _ _ _ (by omega)
  have fN8 : zfr [105, 106, 107, 108, 109, 110, 111, 112, 113, 132, 133] μ N8 := zf_trans f8 (zf_mono gN8 rfl)
  have f9 : zfr [105, 106, 107, 108, 109, 110, 111, 112, 113, 132, 133] μ M9 := zf_trans fN8 (zf_mono s8.1 rfl)
  have a9 : ∀ p, p ≠ 70 → p ≠ 71 → M9.1 105 p = μ.1 105 p := fun p p1 p2 => (s8.2.1 p p1).trans (by rw [zf_i gN8 rfl]; exact a8 p p1 p2)
  have m9 : M9.1 133 0 = μ.1 151 (640 * q + 123) := by
    have := s8.2.2 0 (by omega)
    rw [zf_i fN8 rfl] at this
    exact this
  have gN9 : zfr [105] M9 N9 := by rw [← hN9]; exact zf_wI _ _ rfl
  have fN9 : zfr [105, 106, 107, 108, 109, 110, 111, 112, 113, 132, 133] μ N9 := zf_trans f9 (zf_mono gN9 rfl)
  have aN : ∀ p, p ≠ 70 → p ≠ 71 → p ≠ 39 → N9.1 105 p = μ.1 105 p := fun p p1 p2 p3 => by
    rw [← hN9, zm_k _ _ _ _ p3]
    exact a9 p p1 p2
  have aN39 : N9.1 105 39 = μ.1 151 (640 * q + 123) := by rw [← hN9, zm_s]; exact m9
  have s9 := zCbk_mk N9 (c := 132) 480 (640 * q + 124) (nI (640 * q + 124 + 480)) (by omega)
  refine zw_some ?_
  dsimp only
  generalize zzwI (zblk N9 132 0 480 (fun k => N9.1 151 (640 * q + 124 + k))) 105 70 (nI (640 * q + 124 + 480)) = R at s9 ⊢
  have g8 : zfr [105, 132, 133] M8 R := zf_trans (zf_mono gN8 rfl) (zf_trans (zf_mono s8.1 rfl) (zf_trans (zf_mono gN9 rfl) (zf_mono s9.1 rfl)))
  have g7 : zfr [105, 132, 133, 113] M7 R := zf_trans (zf_mono s7.1 rfl) (zf_mono g8 rfl)
  have g6 : zfr [105, 132, 133, 113, 112] M6 R := zf_trans (zf_mono s6.1 rfl) (zf_mono g7 rfl)
  have g5 : zfr [105, 132, 133, 113, 112, 111] M5 R := zf_trans (zf_mono s5.1 rfl) (zf_mono g6 rfl)
  have g4 : zfr [105, 132, 133, 113, 112, 111, 110] M4 R := zf_trans (zf_mono s4.1 rfl) (zf_mono g5 rfl)
  have g3 : zfr [105, 132, 133, 113, 112, 111, 110, 109] M3 R := zf_trans (zf_mono s3.1 rfl) (zf_mono g4 rfl)
  have g2 : zfr [105, 132, 133, 113, 112, 111, 110, 109, 108] M2 R := zf_trans (zf_mono s2.1 rfl) (zf_mono g3 rfl)
  have g1 : zfr [105, 132, 133, 113, 112, 111, 110, 109, 108, 107] M1 R := zf_trans (zf_mono s1.1 rfl) (zf_mono g2 rfl)
  refine ⟨zf_trans fN9 (zf_mono s9.1 rfl), fun k h1 h2 h3 => (s9.2.1 k h1).trans (aN k h1 h2 h3), (s9.2.1 39 (by omega)).trans aN39, fun k hk => ?_, fun k hk => ?_, fun k hk => ?_, fun k hk => ?_, fun k hk => ?_, fun k hk => ?_, fun k hk => ?_, fun k hk => ?_, fun k hk => ?_⟩
  · rw [zf_i g1 rfl, s0.2.2 k hk, zf_i f0 rfl]
  · rw [zf_i g2 rfl, s1.2.2 k hk, zf_i f1 rfl]
  · rw [zf_i g3 rfl, s2.2.2 k hk, zf_i f2 rfl]
  · rw [zf_i g4 rfl, s3.2.2 k hk, zf_i f3 rfl]
  · rw [zf_i g5 rfl, s4.2.2 k hk, zf_i f4 rfl]
  · rw [zf_i g6 rfl, s5.2.2 k hk, zf_i f5 rfl]
  · rw [zf_i g7 rfl, s6.2.2 k hk, zf_i f6 rfl]
  · rw [zf_i g8 rfl, s7.2.2 k hk, zf_i f7 rfl]
  · rw [s9.2.2 k hk, zf_i fN9 rfl]
