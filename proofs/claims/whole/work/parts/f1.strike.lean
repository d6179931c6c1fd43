/-! ACTS: strike -/
def zSk (s : zSn) (r : Nat) : zSn := (sL s, sX s, sT s ^^^ zbi r, sB s, sF s)
theorem zbi_b {r j : Nat} (hr : r < 32) (hj : j < 32) : bt (zbi r) j = decide (j = r) := b_sh1 hr hj
theorem zSk_ok {g : zG} {s : zSn} {r : Nat} {w : zWs} (K : zOk g s) (hr : r < gN g) (hw : zLay g (zSk s r) = some w) : zOk g (zSk s r) := by
  have hgn := g_n K.hg
  obtain ⟨h1, ⟨a1, a2, a3, a4, a5, a6, a7⟩, h3⟩ := K
  refine ⟨h1, ⟨a1, a2, fun j hj e => ?_, a4, a5, a6, a7⟩, fun _ => ⟨w, hw⟩⟩
  have e : bt (sT s ^^^ zbi r) j = true := e
  rw [b_xor, zbi_b (by omega) hj] at e
  by_cases q : j = r
  · omega
  · rw [decide_eq_false q, Bool.xor_false] at e
    exact a3 j hj e
theorem i_acts : ∀ r, r < 12 → ((nI r <<< (nI 3 &&& 31)) ||| nI 3) = nI (8 * r + 3) := by decide +kernel
theorem c_strike {g : zG} {s : zSn} {μ : zzM} {S : Nat → zSn} {m r : Nat} (K : zOk g s) (I : cI g s μ) (P : cP s S m μ) (hr : r < gN g) (d : Nat) : (zLay g (zSk s r) = none → cX g s S m (d + 4) 151 [.ref 0, .int (nI r)] μ (-(nI 2))) ∧ ∀ w, zLay g (zSk s r) = some w → cX g (zSk s r) (zNx S m (zSk s r)) (zNm m) (d + 4) 151 [.ref 0, .int (nI r)] μ (nI w.1) := by
  have hgn := g_n K.hg
  obtain ⟨o2, f1, f2, f3⟩ := s_find_3 (s := zSk s r) I.h.1 K.hg (by omega) d
  have f1 : zzf zzP zN (d + 3) 47 [.ref 26, .ref 3, .int (sT s ^^^ (nI 1 <<< (nI r &&& 31)))] μ = some o2 := f1
  have hrow : zzf zzP zN (d + 4) 151 [.ref 0, .int (nI r)] μ = if o2.1.1 = 0 then some (((-(nI 2)), 0, 0), o2.2) else (zzf zzP zN (d + 3) 24 [.ref 2, .int (nI 3), .int (nI r)] o2.2).bind fun o3 => (zzf zzP zN (d + 3) 123 [.ref 0] (zzwI o3.2 2 3 (sT s ^^^ (nI 1 <<< (nI r &&& 31))))).bind fun o4 => some (((o4.2.1 26 1), 0, 0), o4.2) := by
    rw [u_pf_strike, c_isRule I.h K.hg, Option.bind_some, zdT ⟨r, hr, rfl⟩, if_neg (show ¬ zB true = 0 by decide)]
    dsimp only
    rw [c_st I.h, f1, Option.bind_some]
  refine ⟨fun hn => ?_, fun w hw => ?_⟩
  · rcases f3 with ⟨_, e1, e2⟩ | ⟨w, e0, _⟩
    · unfold cX
      rw [hrow, e1, if_pos (show zB false = 0 by decide)]
      refine zw_some ⟨zf_mono f2 rfl, ?_, ?_, cI_up I f2 rfl (.inl rfl) (.inr (.inl ?_)) (.inl rfl) (.inl rfl) (.inl rfl) (.inl rfl) (.inl rfl) (.inl rfl) (.inl rfl), cP_fr P f2 rfl, rfl⟩
      · show o2.2.1 2 9 = _
        rw [zf_i f2 rfl]
      · show o2.2.1 2 10 = _
        rw [zf_i f2 rfl]
      · exact e2
    · rw [hn] at e0
      cases e0
  · rcases f3 with ⟨e0, _⟩ | ⟨w', e0, e1, e2, e3⟩
    · rw [hw] at e0
      cases e0
    · obtain rfl : w = w' := by
        rw [hw] at e0
        exact Option.some.inj e0
      have P2 : cP s S m o2.2 := cP_fr P f2 rfl
      obtain ⟨o3, r1, r2, r3, r4⟩ := s_remember (d + 1) P2.1 P2.2.2.1 (nI 3) (nI r)
      unfold cX
      rw [hrow, e1, if_neg (show ¬ zB true = 0 by decide), r1, Option.bind_some]
      have hf0 : zfr [2, 12] o2.2 (zzwI o3.2 2 3 (sT s ^^^ (nI 1 <<< (nI r &&& 31)))) := zf_twI _ _ r2 rfl
      have h2 : ∀ p, p ≠ 3 → p ≠ 8 → (zzwI o3.2 2 3 (sT s ^^^ (nI 1 <<< (nI r &&& 31)))).1 2 p = μ.1 2 p := fun p p1 p2 => by rw [zm_k _ _ _ _ p1, r3 p p2, zf_i f2 rfl]
      have h3 : (zzwI o3.2 2 3 (sT s ^^^ (nI 1 <<< (nI r &&& 31)))).1 2 3 = sT (zSk s r) := zm_s _ _ _ _
      have h8 : (zzwI o3.2 2 3 (sT s ^^^ (nI 1 <<< (nI r &&& 31)))).1 2 8 = o3.2.1 2 8 := zm_k _ _ _ _ (by omega)
      have h12 : (zzwI o3.2 2 3 (sT s ^^^ (nI 1 <<< (nI r &&& 31)))).1 12 = o3.2.1 12 := zm_c _ _ _ (by omega)
      generalize zzwI o3.2 2 3 (sT s ^^^ (nI 1 <<< (nI r &&& 31))) = y at hf0 h2 h3 h8 h12 ⊢
      have hS : zcSt w y := zcSt_fr e2 hf0 rfl
      have hf : zfr [2, 12, 26, 27, 28, 29, 30] μ y := zf_trans (zf_mono f2 rfl) (zf_mono hf0 rfl)
      have hz : zc2 g (zSk s r) y := by
        refine ⟨?_, (h2 2 (by omega) (by omega)).trans (show μ.1 2 2 = nI (sL s) from c_len I.h), fun k hk => ?_, h3, (h2 6 (by omega) (by omega)).trans (show μ.1 2 6 = sF s from c_f I.h), (h2 5 (by omega) (by omega)).trans (show μ.1 2 5 = nI (sB s).length from c_bn I.h), fun p hp q hq => ?_⟩
        · have := I.h.1
          unfold zcG at this ⊢
          rw [zf_i hf rfl, zf_i hf rfl, zf_i hf rfl, zf_i hf rfl, zf_i hf rfl, zf_i hf rfl, zf_i hf rfl]
          exact this
        · rw [zf_i hf rfl]
          exact c_x I.h hk
        · rw [zf_i hf rfl]
          exact c_b I.h hp hq
      obtain ⟨o5, t1, t2, t3⟩ := s_rulesChanged I (fun C hC => by
        simp only [List.mem_cons, List.not_mem_nil, or_false] at hC
        rcases hC with rfl | rfl | rfl | rfl <;> exact zf_i hf rfl) hz (.inr ⟨by rw [zf_i hf0 rfl]; exact e3, w, hw, hS⟩) (d + 1)
      rw [t1, Option.bind_some]
      refine zw_some ⟨zf_trans (zf_mono hf rfl) (zf_mono t2 rfl), ?_, ?_, t3, cP_re P2 r4 (.inr (.inr (.inr (.inl ⟨r, by omega, i_acts r (by omega), rfl, fun _ => rfl, (zbi_x _ _).symm, rfl, rfl⟩)))) ?_ ?_, ?_⟩
      · rw [zf_i t2 rfl]
        exact h2 9 (by omega) (by omega)
      · rw [zf_i t2 rfl]
        exact h2 10 (by omega) (by omega)
      · rw [zf_i t2 rfl]
        exact h8
      · rw [zf_i t2 rfl]
        exact h12
      · show o5.2.1 26 1 = _
        rw [zf_i t2 rfl]
        exact hS.1.1
theorem zm2_st {g : zG} {s : zSn} {μ : zzM} {y : zzM} {t : Int32} {L : List Nat} (h : zm2 g s μ) (hf : zfr L μ y) (hl : zdj [107, 108, 109, 110, 111, 112, 113] L) (h6 : ∀ p, p ≠ 3 → y.1 106 p = μ.1 106 p) (h3 : y.1 106 3 = t) : zm2 g (sL s, sX s, t, sB s, sF s) y := by
  refine ⟨?_, (h6 2 (by omega)).trans (show μ.1 106 2 = nI (sL s) from d_len h), fun k hk => ?_, h3, (h6 5 (by omega)).trans (show μ.1 106 5 = sF s from d_f h), (h6 4 (by omega)).trans (show μ.1 106 4 = nI (sB s).length from d_bn h), fun k hk => ?_⟩
  · have := h.1
    unfold zmG at this ⊢
    rw [h6 0 (by omega), h6 1 (by omega), zf_i hf (zdj_i hl (c := 107) (by simp)), zf_i hf (zdj_i hl (c := 108) (by simp)), zf_i hf (zdj_i hl (c := 109) (by simp)), zf_i hf (zdj_i hl (c := 110) (by simp)), zf_i hf (zdj_i hl (c := 111) (by simp))]
    exact this
  · rw [zf_i hf (zdj_i hl (c := 112) (by simp))]
    exact d_x h hk
  · rw [zf_i hf (zdj_i hl (c := 113) (by simp))]
    exact d_b h hk
theorem d_strike {g : zG} {s : zSn} {μ : zzM} {S : Nat → zSn} {m r : Nat} (K : zOk g s) (I : mI g s μ) (P : mP S m μ) (hm : m ≤ 20) (hS : S m = s) (hP : zPo g S m) (hr : r < gN g) (d : Nat) : (zLay g (zSk s r) = none → mX g s S m (d + 8) 245 [.ref 105, .int (nI r)] μ (-(nI 2))) ∧ ∀ w, zLay g (zSk s r) = some w → mX g (zSk s r) (zNx S m (zSk s r)) (zNm m) (d + 8) 245 [.ref 105, .int (nI r)] μ (nI w.1) := by
  have hgn := g_n K.hg
  have hx : sT s ^^^ (nI 1 <<< (nI r &&& 31)) ^^^ (nI 1 <<< (nI r &&& 31)) = sT s := zbi_x _ _
  have z3 : zm2 g (zSk s r) (zzwI (zzwI μ 106 3 (sT s ^^^ (nI 1 <<< (nI r &&& 31)))) 105 36 (nI 0)) := zm2_st (L := [105, 106]) I.h (zf_twI _ _ (zf_wI _ _ rfl) rfl) rfl (fun p hp => by rw [zm_c _ _ _ (by omega), zm_k _ _ _ _ hp]) (by rw [zm_c _ _ _ (by omega), zm_s]; rfl)
  obtain ⟨o4, a1, a2, a3, a4⟩ := m_laysStates z3 K.hg (by omega) d (by rw [zm_s]; decide)
  have e3 : o4.2.1 106 3 = sT s ^^^ (nI 1 <<< (nI r &&& 31)) := by rw [zf_i a2 rfl, zm_c _ _ _ (by omega), zm_s]
  have hrow : zzf zzP zN (d + 8) 245 [.ref 105, .int (nI r)] μ = if o4.1.1 = 0 then some (((-(nI 2)), 0, 0), (zzwI (zzwI o4.2 106 3 (sT s)) 105 36 (nI 0))) else (zzf zzP zN (d + 7) 240 [.ref 105] (zzwI (zzwI o4.2 106 3 (sT s)) 105 36 (nI 0))).bind fun o7 => (zzri o7.2 106 7 (nI 3)).bind fun x8 => (zzsi o7.2 106 7 (nI 3) (x8 ^^^ ((nI 1) <<< (nI r &&& 31)))).bind fun m9 => (zzf zzP zN (d + 7) 228 [.ref 105] m9).bind fun o10 => some (((o10.2.1 105 35), 0, 0), o10.2) := by
    rw [u_m_strike, d_isRule I.h K.hg, Option.bind_some, zdT ⟨r, hr, rfl⟩, if_neg (show ¬ zB true = 0 by decide), zr_i _ _ (by omega) (by omega), Option.bind_some]
    dsimp only
    rw [d_st I.h, zs_i _ _ _ (by omega) (by omega), Option.bind_some, a1, Option.bind_some, zr_i _ _ (by omega) (by omega), Option.bind_some, e3, zs_i _ _ _ (by omega) (by omega), Option.bind_some, hx]
  have hf : zfr [105, 106, 130, 131] μ (zzwI (zzwI o4.2 106 3 (sT s)) 105 36 (nI 0)) := zf_twI _ _ (zf_twI _ _ (zf_trans (zf_twI _ _ (zf_wI _ _ rfl) rfl) (zf_mono a2 rfl)) rfl) rfl
  have h106 : ∀ p, (zzwI (zzwI o4.2 106 3 (sT s)) 105 36 (nI 0)).1 106 p = μ.1 106 p := fun p => by
    rw [zm_c _ _ _ (by omega), zm_if]
    by_cases ep : p = 3
    · rw [if_pos ep, ep]
      exact (d_st I.h).symm
    · rw [if_neg ep, zf_i a2 rfl, zm_c _ _ _ (by omega), zm_k _ _ _ _ ep]
  have h105 : ∀ p, p ≠ 35 → p ≠ 36 → (zzwI (zzwI o4.2 106 3 (sT s)) 105 36 (nI 0)).1 105 p = μ.1 105 p := fun p p1 p2 => by
    rw [zm_k _ _ _ _ p2, zm_c _ _ _ (by omega), a3 p p1 p2, zm_k _ _ _ _ p2, zm_c _ _ _ (by omega)]
  have h36 : (zzwI (zzwI o4.2 106 3 (sT s)) 105 36 (nI 0)).1 105 36 = nI 0 := zm_s _ _ _ _
  generalize zzwI (zzwI o4.2 106 3 (sT s)) 105 36 (nI 0) = y at hrow hf h106 h105 h36
  have h2y : zm2 g s y := zm2_st (t := sT s) I.h hf rfl (fun p _ => h106 p) ((h106 3).trans (d_st I.h))
  have hPy : mP S m y := mP_fr P hf (h105 39 (by omega) (by omega)) rfl
  refine ⟨fun hn => ?_, fun w hw => ?_⟩
  · rcases a4 with ⟨_, b1, _⟩ | ⟨w, b0, _⟩
    · unfold mX
      rw [hrow, b1, if_pos (show zB false = 0 by decide)]
      exact zw_some ⟨zf_mono hf rfl, h105 16 (by omega) (by omega), h106 6, ⟨h2y, fun i hi e => by
        rw [h36, bt_0 i hi] at e
        cases e⟩, hPy, rfl⟩
    · rw [hn] at b0
      cases b0
  · rcases a4 with ⟨b0, _⟩ | ⟨w', b0, b1, _⟩
    · rw [hw] at b0
      cases b0
    · obtain ⟨o7, c1, c2, c3, c4, c5⟩ := m_keepsAct (d + 3) hm hPy.1
      have e7 : o7.2.1 106 3 = sT s := by rw [zf_i c2 rfl]; exact d_st h2y
      have z9 : zm2 g (zSk s r) (zzwI o7.2 106 3 (sT s ^^^ (nI 1 <<< (nI r &&& 31)))) := zm2_st (L := [105, 106, 132]) h2y (zf_twI _ _ (zf_mono c2 rfl) rfl) rfl (fun p hp => by rw [zm_k _ _ _ _ hp, zf_i c2 rfl]) (zm_s _ _ _ _)
      have h9 : (zzwI o7.2 106 3 (sT s ^^^ (nI 1 <<< (nI r &&& 31)))).1 105 36 = (nI 0 &&& nI 1) := by rw [zm_c _ _ _ (by omega), c4, h36]
      obtain ⟨o10, f1, f2, f3, f4⟩ := m_laysStates z9 K.hg (by omega) d (by rw [h9]; decide)
      unfold mX
      rw [hrow, b1, if_neg (show ¬ zB true = 0 by decide), c1, Option.bind_some, zr_i _ _ (by omega) (by omega), Option.bind_some, e7, zs_i _ _ _ (by omega) (by omega), Option.bind_some, f1, Option.bind_some]
      rcases f4 with ⟨g0, _⟩ | ⟨w2, g0, _, g2, g3⟩
      · rw [hw] at g0
        cases g0
      · obtain rfl : w = w2 := by
          rw [hw] at g0
          exact Option.some.inj g0
        have k105 : ∀ p, p ≠ 35 → p ≠ 36 → o10.2.1 105 p = o7.2.1 105 p := fun p p1 p2 => by rw [f3 p p1 p2, zm_c _ _ _ (by omega)]
        refine zw_some ⟨zf_trans (zf_mono hf rfl) (zf_trans (zf_mono c2 rfl) (zf_trans (zf_wI _ _ rfl) (zf_mono f2 rfl))), ?_, ?_, ⟨zm2_fr z9 f2 rfl, fun i hi e => ?_⟩, mP_ke hPy hm hS hP h2y c5 (k105 39 (by omega) (by omega)) ?_, g2.1.1⟩
        · show o10.2.1 105 16 = _
          rw [k105 16 (by omega) (by omega), c3 16 (by omega) (by omega) (by omega) (by omega)]
          exact h105 16 (by omega) (by omega)
        · show o10.2.1 106 6 = _
          rw [zf_i f2 rfl, zm_k _ _ _ _ (by omega), zf_i c2 rfl]
          exact h106 6
        · have e : bt (o10.2.1 105 36) i = true := e
          rw [g3, h9] at e
          have : i = 0 := (show ∀ i, i < 7 → bt (nI 0 &&& nI 1 ||| nI 1) i = true → i = 0 by decide) i hi e
          subst this
          exact ⟨w, hw, g2⟩
        · rw [zf_i f2 rfl, zm_c _ _ _ (by omega)]
theorem q_strike {g : zG} {s : zSn} {μ : zzM} {S : Nat → zSn} {m : Nat} (C : cI g s μ) (I : mI g s μ) (c : cP s S m μ) (p : mP S m μ) (h' : zPo g S m) (a : Int32) : zX g 151 245 [.ref 0, .int a] [.ref 105, .int a] μ := by
  have K : zOk g s := c.2.1 ▸ h' m (Nat.le_refl _)
  by_cases ha : ∃ r, r < gN g ∧ a = nI r
  · obtain ⟨r, hr, rfl⟩ := ha
    cases hw : zLay g (zSk s r) with
    | none => exact zX_of _ I p h' ((c_strike K C c hr 9).1 hw) fun z z1 z2 => (d_strike K z1 z2 c.1 c.2.1 h' hr 5).1 hw
    | some w => exact zX_of _ I p (zPo_nx h' (zSk_ok K hr hw)) ((c_strike K C c hr 9).2 w hw) fun z z1 z2 => (d_strike K z1 z2 c.1 c.2.1 h' hr 5).2 w hw
  · have c1 : zzf zzP zN 12 129 [.ref 0, .int a] μ = _ := c_isRule C.h K.hg 11 a
    have m1 : zzf zzP zN 12 176 [.ref 105, .int a] μ = _ := d_isRule I.h K.hg 10 a
    rw [zdF ha] at c1 m1
    refine zX_no (-(nI 1)) C I c p h' ?_ ?_
    · rw [show (13 : Nat) = 12 + 1 from rfl, u_pf_strike, c1, Option.bind_some, if_pos (show zB false = 0 by decide)]
    · rw [show (13 : Nat) = 12 + 1 from rfl, u_m_strike, m1, Option.bind_some, if_pos (show zB false = 0 by decide)]
