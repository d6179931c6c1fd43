theorem carry_s (μ : zzM) {c n t : Nat} (hc : c ≠ 105) (hc2 : c ≠ 151) (ht : μ.1 105 70 = nI t) (hb : μ.1 105 71 = 0) (hn : t + n ≤ 2560) : zzl (fun v1 g2 => if (nI n) ≤ (zi0 v1) then some ((0, 0, 0), (zm v1)) else if ((zm v1).1 105 71) = 0 then (zzri (zm v1) c n (zi0 v1)).bind fun x3 => (zzsi (zm v1) 151 2560 ((zm v1).1 105 70) x3).bind fun m4 => g2 ([((zi0 v1) + nI 1)], [], (zzwI m4 105 70 ((m4.1 105 70) + (nI 1)))) else (zzri (zm v1) 151 2560 ((zm v1).1 105 70)).bind fun x5 => (zzsi (zm v1) c n (zi0 v1) x5).bind fun m6 => g2 ([((zi0 v1) + nI 1)], [], (zzwI m6 105 70 ((m6.1 105 70) + (nI 1))))) zN ([(nI 0)], [], μ) = some ((0, 0, 0), zzwI (zblk μ 151 t (t + n) (fun k => μ.1 c (k - t))) 105 70 (nI (t + n))) := by
  apply zw_eq
  refine zl_up (fun i (x : zzM) => ([nI i], [], x)) (fun i x => x = zzwI (zblk μ 151 t (t + i) (fun k => μ.1 c (k - t))) 105 70 (nI (t + i))) 0 n μ (by omega) (by omega) rfl ?_ ?_ ?_
  · rw [Nat.add_zero, zb_e, zm_id ht]
  · rintro i x g - hi rfl hg
    let A := zblk μ 151 t (t + i) (fun k => μ.1 c (k - t))
    show zw (if nI n ≤ nI i then _ else if (zzwI A 105 70 (nI (t + i))).1 105 71 = 0 then (zzri (zzwI A 105 70 (nI (t + i))) c n (nI i)).bind fun x3 => (zzsi (zzwI A 105 70 (nI (t + i))) 151 2560 ((zzwI A 105 70 (nI (t + i))).1 105 70) x3).bind fun m4 => g ([nI i + nI 1], [], (zzwI m4 105 70 ((m4.1 105 70) + (nI 1)))) else _) _
    have hA : A.1 105 = μ.1 105 := zb_c _ _ _ _ (by omega)
    rw [if_neg (by rw [zq_le (by omega) (by omega)]; omega), zm_k _ _ _ _ (by omega), hA, if_pos hb, zr_i _ _ hi (by omega), Option.bind_some, zm_s, zm_c _ _ _ hc, zs_i _ _ _ (by omega) (by omega), Option.bind_some, zm_c _ _ _ (by omega), zm_s, zq_add, zq_add]
    refine hg _ ?_
    rw [zm_ov (by omega)]
    have e0 : A.1 c i = (fun k => μ.1 c (k - t)) (t + i) := by
      show A.1 c i = μ.1 c (t + i - t)
      rw [Nat.add_sub_cancel_left]
      exact congrFun (zb_c _ _ _ _ hc2) i
    rw [e0, zb_s μ 151 (fun k => μ.1 c (k - t)) (show t ≤ t + i by omega)]
    rfl
  · rintro x g rfl
    show zw (if nI n ≤ nI n then _ else _) _
    rw [if_pos (by rw [zq_le (by omega) (by omega)]; omega)]
    exact zw_some ⟨rfl, rfl⟩
theorem carry_l (μ : zzM) {c n t : Nat} (hc : c ≠ 105) (hc2 : c ≠ 151) (ht : μ.1 105 70 = nI t) (hb : ¬ μ.1 105 71 = 0) (hn : t + n ≤ 2560) : zzl (fun v1 g2 => if (nI n) ≤ (zi0 v1) then some ((0, 0, 0), (zm v1)) else if ((zm v1).1 105 71) = 0 then (zzri (zm v1) c n (zi0 v1)).bind fun x3 => (zzsi (zm v1) 151 2560 ((zm v1).1 105 70) x3).bind fun m4 => g2 ([((zi0 v1) + nI 1)], [], (zzwI m4 105 70 ((m4.1 105 70) + (nI 1)))) else (zzri (zm v1) 151 2560 ((zm v1).1 105 70)).bind fun x5 => (zzsi (zm v1) c n (zi0 v1) x5).bind fun m6 => g2 ([((zi0 v1) + nI 1)], [], (zzwI m6 105 70 ((m6.1 105 70) + (nI 1))))) zN ([(nI 0)], [], μ) = some ((0, 0, 0), zzwI (zblk μ c 0 n (fun k => μ.1 151 (t + k))) 105 70 (nI (t + n))) := by
  apply zw_eq
  refine zl_up (fun i (x : zzM) => ([nI i], [], x)) (fun i x => x = zzwI (zblk μ c 0 i (fun k => μ.1 151 (t + k))) 105 70 (nI (t + i))) 0 n μ (by omega) (by omega) rfl ?_ ?_ ?_
  · rw [Nat.add_zero, zb_e, zm_id ht]
  · rintro i x g - hi rfl hg
    let A := zblk μ c 0 i (fun k => μ.1 151 (t + k))
    show zw (if nI n ≤ nI i then _ else if (zzwI A 105 70 (nI (t + i))).1 105 71 = 0 then _ else (zzri (zzwI A 105 70 (nI (t + i))) 151 2560 ((zzwI A 105 70 (nI (t + i))).1 105 70)).bind fun x3 => (zzsi (zzwI A 105 70 (nI (t + i))) c n (nI i) x3).bind fun m4 => g ([nI i + nI 1], [], (zzwI m4 105 70 ((m4.1 105 70) + (nI 1))))) _
    have hA : A.1 105 = μ.1 105 := zb_c _ _ _ _ (Ne.symm hc)
    rw [if_neg (by rw [zq_le (by omega) (by omega)]; omega), zm_k _ _ _ _ (by omega), hA, if_neg hb, zm_s, zr_i _ _ (by omega) (by omega), Option.bind_some, zm_c _ _ _ (by omega), zs_i _ _ _ hi (by omega), Option.bind_some, zm_c _ _ _ (Ne.symm hc), zm_s, zq_add, zq_add]
    refine hg _ ?_
    rw [zm_ov (Ne.symm hc)]
    have e0 : A.1 151 (t + i) = (fun k => μ.1 151 (t + k)) i := congrFun (zb_c _ _ _ _ (Ne.symm hc2)) _
    rw [e0, zb_s μ c (fun k => μ.1 151 (t + k)) (show 0 ≤ i by omega)]
    rfl
  · rintro x g rfl
    show zw (if nI n ≤ nI n then _ else _) _
    rw [if_pos (by rw [zq_le (by omega) (by omega)]; omega)]
    exact zw_some ⟨rfl, rfl⟩
theorem m_carryS_106 (d : Nat) {μ : zzM} {t : Nat} (ht : μ.1 105 70 = nI t) (hb : μ.1 105 71 = 0) (hn : t + 7 ≤ 2560) : zzf zzP zN (d + 1) 319 [.ref 105, .ref 106] μ = some ((0, 0, 0), zzwI (zblk μ 151 t (t + 7) (fun k => μ.1 106 (k - t))) 105 70 (nI (t + 7))) := (u_m_carryRow_105_106 zN d μ).trans (carry_s μ (by omega) (by omega) ht hb hn)
theorem m_carryL_106 (d : Nat) {μ : zzM} {t : Nat} (ht : μ.1 105 70 = nI t) (hb : ¬ μ.1 105 71 = 0) (hn : t + 7 ≤ 2560) : zzf zzP zN (d + 1) 319 [.ref 105, .ref 106] μ = some ((0, 0, 0), zzwI (zblk μ 106 0 7 (fun k => μ.1 151 (t + k))) 105 70 (nI (t + 7))) := (u_m_carryRow_105_106 zN d μ).trans (carry_l μ (by omega) (by omega) ht hb hn)
theorem m_carryS_107 (d : Nat) {μ : zzM} {t : Nat} (ht : μ.1 105 70 = nI t) (hb : μ.1 105 71 = 0) (hn : t + 12 ≤ 2560) : zzf zzP zN (d + 1) 319 [.ref 105, .ref 107] μ = some ((0, 0, 0), zzwI (zblk μ 151 t (t + 12) (fun k => μ.1 107 (k - t))) 105 70 (nI (t + 12))) := (u_m_carryRow_105_107 zN d μ).trans (carry_s μ (by omega) (by omega) ht hb hn)
theorem m_carryL_107 (d : Nat) {μ : zzM} {t : Nat} (ht : μ.1 105 70 = nI t) (hb : ¬ μ.1 105 71 = 0) (hn : t + 12 ≤ 2560) : zzf zzP zN (d + 1) 319 [.ref 105, .ref 107] μ = some ((0, 0, 0), zzwI (zblk μ 107 0 12 (fun k => μ.1 151 (t + k))) 105 70 (nI (t + 12))) := (u_m_carryRow_105_107 zN d μ).trans (carry_l μ (by omega) (by omega) ht hb hn)
theorem m_carryS_108 (d : Nat) {μ : zzM} {t : Nat} (ht : μ.1 105 70 = nI t) (hb : μ.1 105 71 = 0) (hn : t + 12 ≤ 2560) : zzf zzP zN (d + 1) 319 [.ref 105, .ref 108] μ = some ((0, 0, 0), zzwI (zblk μ 151 t (t + 12) (fun k => μ.1 108 (k - t))) 105 70 (nI (t + 12))) := (u_m_carryRow_105_108 zN d μ).trans (carry_s μ (by omega) (by omega) ht hb hn)
theorem m_carryL_108 (d : Nat) {μ : zzM} {t : Nat} (ht : μ.1 105 70 = nI t) (hb : ¬ μ.1 105 71 = 0) (hn : t + 12 ≤ 2560) : zzf zzP zN (d + 1) 319 [.ref 105, .ref 108] μ = some ((0, 0, 0), zzwI (zblk μ 108 0 12 (fun k => μ.1 151 (t + k))) 105 70 (nI (t + 12))) := (u_m_carryRow_105_108 zN d μ).trans (carry_l μ (by omega) (by omega) ht hb hn)
theorem m_carryS_109 (d : Nat) {μ : zzM} {t : Nat} (ht : μ.1 105 70 = nI t) (hb : μ.1 105 71 = 0) (hn : t + 48 ≤ 2560) : zzf zzP zN (d + 1) 319 [.ref 105, .ref 109] μ = some ((0, 0, 0), zzwI (zblk μ 151 t (t + 48) (fun k => μ.1 109 (k - t))) 105 70 (nI (t + 48))) := (u_m_carryRow_105_109 zN d μ).trans (carry_s μ (by omega) (by omega) ht hb hn)
theorem m_carryL_109 (d : Nat) {μ : zzM} {t : Nat} (ht : μ.1 105 70 = nI t) (hb : ¬ μ.1 105 71 = 0) (hn : t + 48 ≤ 2560) : zzf zzP zN (d + 1) 319 [.ref 105, .ref 109] μ = some ((0, 0, 0), zzwI (zblk μ 109 0 48 (fun k => μ.1 151 (t + k))) 105 70 (nI (t + 48))) := (u_m_carryRow_105_109 zN d μ).trans (carry_l μ (by omega) (by omega) ht hb hn)
theorem m_carryS_110 (d : Nat) {μ : zzM} {t : Nat} (ht : μ.1 105 70 = nI t) (hb : μ.1 105 71 = 0) (hn : t + 12 ≤ 2560) : zzf zzP zN (d + 1) 319 [.ref 105, .ref 110] μ = some ((0, 0, 0), zzwI (zblk μ 151 t (t + 12) (fun k => μ.1 110 (k - t))) 105 70 (nI (t + 12))) := (u_m_carryRow_105_110 zN d μ).trans (carry_s μ (by omega) (by omega) ht hb hn)
theorem m_carryL_110 (d : Nat) {μ : zzM} {t : Nat} (ht : μ.1 105 70 = nI t) (hb : ¬ μ.1 105 71 = 0) (hn : t + 12 ≤ 2560) : zzf zzP zN (d + 1) 319 [.ref 105, .ref 110] μ = some ((0, 0, 0), zzwI (zblk μ 110 0 12 (fun k => μ.1 151 (t + k))) 105 70 (nI (t + 12))) := (u_m_carryRow_105_110 zN d μ).trans (carry_l μ (by omega) (by omega) ht hb hn)
theorem m_carryS_111 (d : Nat) {μ : zzM} {t : Nat} (ht : μ.1 105 70 = nI t) (hb : μ.1 105 71 = 0) (hn : t + 12 ≤ 2560) : zzf zzP zN (d + 1) 319 [.ref 105, .ref 111] μ = some ((0, 0, 0), zzwI (zblk μ 151 t (t + 12) (fun k => μ.1 111 (k - t))) 105 70 (nI (t + 12))) := (u_m_carryRow_105_111 zN d μ).trans (carry_s μ (by omega) (by omega) ht hb hn)
theorem m_carryL_111 (d : Nat) {μ : zzM} {t : Nat} (ht : μ.1 105 70 = nI t) (hb : ¬ μ.1 105 71 = 0) (hn : t + 12 ≤ 2560) : zzf zzP zN (d + 1) 319 [.ref 105, .ref 111] μ = some ((0, 0, 0), zzwI (zblk μ 111 0 12 (fun k => μ.1 151 (t + k))) 105 70 (nI (t + 12))) := (u_m_carryRow_105_111 zN d μ).trans (carry_l μ (by omega) (by omega) ht hb hn)
theorem m_carryS_112 (d : Nat) {μ : zzM} {t : Nat} (ht : μ.1 105 70 = nI t) (hb : μ.1 105 71 = 0) (hn : t + 12 ≤ 2560) : zzf zzP zN (d + 1) 319 [.ref 105, .ref 112] μ = some ((0, 0, 0), zzwI (zblk μ 151 t (t + 12) (fun k => μ.1 112 (k - t))) 105 70 (nI (t + 12))) := (u_m_carryRow_105_112 zN d μ).trans (carry_s μ (by omega) (by omega) ht hb hn)
theorem m_carryL_112 (d : Nat) {μ : zzM} {t : Nat} (ht : μ.1 105 70 = nI t) (hb : ¬ μ.1 105 71 = 0) (hn : t + 12 ≤ 2560) : zzf zzP zN (d + 1) 319 [.ref 105, .ref 112] μ = some ((0, 0, 0), zzwI (zblk μ 112 0 12 (fun k => μ.1 151 (t + k))) 105 70 (nI (t + 12))) := (u_m_carryRow_105_112 zN d μ).trans (carry_l μ (by omega) (by omega) ht hb hn)
theorem m_carryS_113 (d : Nat) {μ : zzM} {t : Nat} (ht : μ.1 105 70 = nI t) (hb : μ.1 105 71 = 0) (hn : t + 8 ≤ 2560) : zzf zzP zN (d + 1) 319 [.ref 105, .ref 113] μ = some ((0, 0, 0), zzwI (zblk μ 151 t (t + 8) (fun k => μ.1 113 (k - t))) 105 70 (nI (t + 8))) := (u_m_carryRow_105_113 zN d μ).trans (carry_s μ (by omega) (by omega) ht hb hn)
theorem m_carryL_113 (d : Nat) {μ : zzM} {t : Nat} (ht : μ.1 105 70 = nI t) (hb : ¬ μ.1 105 71 = 0) (hn : t + 8 ≤ 2560) : zzf zzP zN (d + 1) 319 [.ref 105, .ref 113] μ = some ((0, 0, 0), zzwI (zblk μ 113 0 8 (fun k => μ.1 151 (t + k))) 105 70 (nI (t + 8))) := (u_m_carryRow_105_113 zN d μ).trans (carry_l μ (by omega) (by omega) ht hb hn)
theorem m_carryS_133 (d : Nat) {μ : zzM} {t : Nat} (ht : μ.1 105 70 = nI t) (hb : μ.1 105 71 = 0) (hn : t + 1 ≤ 2560) : zzf zzP zN (d + 1) 319 [.ref 105, .ref 133] μ = some ((0, 0, 0), zzwI (zblk μ 151 t (t + 1) (fun k => μ.1 133 (k - t))) 105 70 (nI (t + 1))) := (u_m_carryRow_105_133 zN d μ).trans (carry_s μ (by omega) (by omega) ht hb hn)
theorem m_carryL_133 (d : Nat) {μ : zzM} {t : Nat} (ht : μ.1 105 70 = nI t) (hb : ¬ μ.1 105 71 = 0) (hn : t + 1 ≤ 2560) : zzf zzP zN (d + 1) 319 [.ref 105, .ref 133] μ = some ((0, 0, 0), zzwI (zblk μ 133 0 1 (fun k => μ.1 151 (t + k))) 105 70 (nI (t + 1))) := (u_m_carryRow_105_133 zN d μ).trans (carry_l μ (by omega) (by omega) ht hb hn)
theorem m_carryS_132 (d : Nat) {μ : zzM} {t : Nat} (ht : μ.1 105 70 = nI t) (hb : μ.1 105 71 = 0) (hn : t + 480 ≤ 2560) : zzf zzP zN (d + 1) 319 [.ref 105, .ref 132] μ = some ((0, 0, 0), zzwI (zblk μ 151 t (t + 480) (fun k => μ.1 132 (k - t))) 105 70 (nI (t + 480))) := (u_m_carryRow_105_132 zN d μ).trans (carry_s μ (by omega) (by omega) ht hb hn)
theorem m_carryL_132 (d : Nat) {μ : zzM} {t : Nat} (ht : μ.1 105 70 = nI t) (hb : ¬ μ.1 105 71 = 0) (hn : t + 480 ≤ 2560) : zzf zzP zN (d + 1) 319 [.ref 105, .ref 132] μ = some ((0, 0, 0), zzwI (zblk μ 132 0 480 (fun k => μ.1 151 (t + k))) 105 70 (nI (t + 480))) := (u_m_carryRow_105_132 zN d μ).trans (carry_l μ (by omega) (by omega) ht hb hn)
