/-! QUERIES: states -/
theorem cI_S {g : zG} {s : zSn} {μ : zzM} {y : zzM} (c : cI g s μ) (hf : zfr [26, 27, 28, 29, 30] μ y) {w : zWs} (hw : zLay g s = some w) (h : zcSt w y) (h1 : y.1 26 0 = nI 1) : cI g s y := cI_up c hf rfl (.inl rfl) (.inr (.inr ⟨h1, w, hw, h⟩)) (.inl rfl) (.inl rfl) (.inl rfl) (.inl rfl) (.inl rfl) (.inl rfl) (.inl rfl)
theorem c_states {g : zG} {s : zSn} {μ : zzM} (K : zOk g s) (c : cI g s μ) (hn : 0 < gN g) (d : Nat) : zw (zzf zzP zN (d + 4) 127 [.ref 0] μ) fun o => o.1.2.2 = 26 ∧ zfr [26, 27, 28, 29, 30] μ o.2 ∧ cI g s o.2 ∧ ∃ w, zLay g s = some w ∧ zcSt w o.2 ∧ o.2.1 26 0 = nI 1 := by
  rw [w_pf_foundStates]
  by_cases e : μ.1 26 0 = 0
  · rw [if_pos e, c_st c.h]
    obtain ⟨o, a1, a2, a3⟩ := s_find_3 (s := s) c.h.1 K.hg hn d
    rw [a1, Option.bind_some]
    unfold J127_a
    rcases a3 with ⟨b1, -⟩ | ⟨w, b1, b2, b3, b4⟩
    · obtain ⟨w, hw⟩ := K.hw hn
      rw [hw] at b1
      cases b1
    · exact zw_some ⟨rfl, a2, cI_S c a2 b1 b3 b4, w, b1, b3, b4⟩
  · rw [if_neg e]
    unfold J127_a
    rcases c.S with q | ⟨q, w, q1, q2⟩
    · exact absurd q e
    · exact zw_some ⟨rfl, zf_refl _ _, c, w, q1, q2, q⟩
/-- the class: whether a number is a state -/
theorem c_isState {g : zG} {s : zSn} {μ : zzM} (K : zOk g s) (c : cI g s μ) (d : Nat) (a : Int32) : zw (zzf zzP zN (d + 5) 130 [.ref 0, .int a] μ) fun o => zfr [26, 27, 28, 29, 30] μ o.2 ∧ cI g s o.2 ∧ ((o.1.1 = zB false ∧ ¬ (0 < gN g ∧ ∃ w k, zLay g s = some w ∧ k < w.1 ∧ a = nI k)) ∨ (o.1.1 = zB true ∧ 0 < gN g ∧ ∃ w k, zLay g s = some w ∧ k < w.1 ∧ a = nI k ∧ zcSt w o.2 ∧ o.2.1 26 0 = nI 1)) := by
  rw [w_pf_isState, show zzf zzP zN (d + 4) 128 [.ref 0] μ = _ from c_noG c.h K.hg (d + 3), Option.bind_some]
  simp only [zB_0]
  by_cases hn : gN g = 0
  · rw [zdT hn, if_neg (by decide), if_pos (by decide)]
    exact zw_some ⟨zf_refl _ _, c, .inl ⟨rfl, fun q => by omega⟩⟩
  · have hn' : 0 < gN g := by omega
    rw [zdF hn, if_pos rfl]
    by_cases e : a < 0
    · rw [if_pos e, if_pos (by decide)]
      refine zw_some ⟨zf_refl _ _, c, .inl ⟨rfl, ?_⟩⟩
      rintro ⟨-, w, k, q1, q2, rfl⟩
      have := (zLay_wt q1).2.1
      exact nI_pos (by omega) e
    · rw [if_neg e]
      obtain ⟨o, a1, a2, a3, a4, w, a5, a6, a7⟩ := c_states K c hn' d
      have hwt := zLay_wt a5
      have hw90 := hwt.2.1
      rw [a1, Option.bind_some, if_pos a2, a6.1.1]
      obtain ⟨n, hN, rfl⟩ : ∃ n, n < 2147483648 ∧ a = nI n := (zq_cases a).resolve_left e
      by_cases e2 : w.1 ≤ n
      · rw [if_pos (by rw [zq_le (by omega) (by omega)]; omega), if_pos (by decide)]
        refine zw_some ⟨a3, a4, .inl ⟨rfl, ?_⟩⟩
        rintro ⟨-, w', k, q1, q2, q3⟩
        rw [a5] at q1
        cases q1
        rw [zq_eq hN (by omega)] at q3
        omega
      · rw [if_neg (by rw [zq_le (by omega) (by omega)]; omega), if_pos (by decide)]
        exact zw_some ⟨a3, a4, .inr ⟨rfl, hn', w, n, a5, by omega, rfl, a6, a7⟩⟩
theorem m_inN (d : Nat) (a : Int32) {N : Nat} (hN : N < 1073741824) (μ : zzM) : zzf zzP zN (d + 1) 173 [.long (Int32.toInt64 a), .long (lN 0), .long (Int32.toInt64 (nI N - nI 1))] μ = some ((zB (zdc (∃ k, k < N ∧ a = nI k)), 0, 0), μ) := by
  have hd : decide (lN 0 ≤ a.toInt64 ∧ a.toInt64 ≤ (nI N - nI 1).toInt64) = zdc (∃ k, k < N ∧ a = nI k) := by
    unfold zdc
    refine decide_eq_decide.2 ?_
    rw [w_0, w_32, w_32]
    exact i_in1 hN
  rw [m_in, hd]
/-- the reference's states -/
theorem d_states {g : zG} {s : zSn} {μ : zzM} (K : zOk g s) (m : mI g s μ) (hn : 0 < gN g) (d : Nat) : zw (zzf zzP zN (d + 7) 228 [.ref 105] μ) fun o => zfr [105, 130, 131] μ o.2 ∧ (∀ i, i ≠ 35 → i ≠ 36 → o.2.1 105 i = μ.1 105 i) ∧ mI g s o.2 ∧ o.1.1 = zB true ∧ ∃ w, zLay g s = some w ∧ zmSt w o.2 := by
  by_cases e : (μ.1 105 36 &&& nI 1) = 0
  · obtain ⟨o, a1, a2, a3, a4⟩ := m_laysStates m.h K.hg hn d e
    rcases a4 with ⟨b1, -⟩ | ⟨w, b1, b2, b3, b4⟩
    · obtain ⟨w, hw⟩ := K.hw hn
      rw [hw] at b1
      cases b1
    · refine ⟨o, a1, a2, a3, mI_up (N := fun i => i = 0) m (zm2_fr m.h a2 rfl) (fun i hi q => ?_) (fun i hi q => ?_), b2, w, b1, b3⟩
      · rw [b4, b_or, Bool.or_eq_true] at q
        refine q.imp id fun q => ?_
        have hb : ∀ j, j < 32 → bt (nI 1) j = decide (j = 0) := by decide +kernel
        rw [hb i hi, decide_eq_true_eq] at q
        exact q
      · have e134 : o.2.1 134 = μ.1 134 := zf_i a2 rfl
        have hM : ∀ b, mMk b g s μ → mMk b g s o.2 := fun b h => by
          unfold mMk mMd at h ⊢
          rw [e134]
          exact h
        match i with
        | 0 => exact ⟨w, b1, b3⟩
        | 1 => exact q.elim (hM false) fun q => by cases q
        | 2 => exact q.elim (hM true) fun q => by cases q
        | 3 =>
          refine q.elim (fun ⟨w', c1, c2, c3, c4⟩ => ⟨w, b1, b3, hM false c3, ?_⟩) fun q => by cases q
          rw [b1] at c1
          cases c1
          unfold alOk at c4 ⊢
          rw [zf_i a2 rfl]
          exact c4
        | 4 =>
          refine q.elim (fun ⟨c1, c2⟩ => ⟨hM true c1, ?_⟩) fun q => by cases q
          unfold trOk mEn mNu at c2 ⊢
          rw [zf_i a2 rfl, zf_l a2 rfl]
          exact c2
        | 5 =>
          refine q.elim (fun ⟨c1, c2⟩ => ⟨hM true c1, ?_⟩) fun q => by cases q
          unfold fmOk mPl mPc at c2 ⊢
          rw [zf_i a2 rfl]
          exact c2
        | 6 =>
          refine q.elim (fun ⟨c1, c2⟩ => ⟨hM true c1, ?_⟩) fun q => by cases q
          unfold smOk mSz at c2 ⊢
          rw [zf_i a2 rfl]
          exact c2
        | _ + 7 => trivial
  · have hb : bt (μ.1 105 36) 0 = true := by
      rw [b_and1] at e
      exact (Bool.not_eq_false _).mp e
    obtain ⟨w, w1, w2⟩ := m.b 0 (by omega) hb
    refine ⟨((nI 1, 0, 0), μ), ?_, zf_refl _ _, fun _ _ _ => rfl, m, rfl, w, w1, w2⟩
    rw [u_m_laysStates, if_neg e, if_pos (by decide)]
theorem mQ_st {μ y : zzM} (hf : zfr [105, 130, 131] μ y) (h : ∀ i, i ≠ 35 → i ≠ 36 → y.1 105 i = μ.1 105 i) : mQ μ y := ⟨zf_mono hf rfl, h 16 (by omega) (by omega), h 39 (by omega) (by omega)⟩
theorem d_isState {g : zG} {s : zSn} {μ : zzM} (K : zOk g s) (m : mI g s μ) (d : Nat) (a : Int32) : zw (zzf zzP zN (d + 8) 229 [.ref 105, .int a] μ) fun o => mQ μ o.2 ∧ mI g s o.2 ∧ ((o.1.1 = zB false ∧ ¬ (0 < gN g ∧ ∃ w k, zLay g s = some w ∧ k < w.1 ∧ a = nI k)) ∨ (o.1.1 = zB true ∧ 0 < gN g ∧ ∃ w k, zLay g s = some w ∧ k < w.1 ∧ a = nI k ∧ zmSt w o.2)) := by
  rw [w_m_isState, show zzf zzP zN (d + 7) 175 [.ref 105] μ = _ from d_isG m.h K.hg (d + 6), Option.bind_some]
  simp only [zB_0]
  by_cases hn : 0 < gN g
  · rw [zdT hn, if_neg (by decide)]
    obtain ⟨o, a1, a2, a3, a4, a5, w, a6, a7⟩ := d_states K m hn d
    have hwt := zLay_wt a6
    have hw90 := hwt.2.1
    rw [a1, Option.bind_some, a5, if_neg (show ¬ zB true = 0 by decide), a7.1.1]
    have hin : zzf zzP zN (d + 7) 173 [.long (Int32.toInt64 a), .long (lN 0), .long (Int32.toInt64 (nI w.1 - nI 1))] o.2 = some ((zB (zdc (∃ k, k < w.1 ∧ a = nI k)), 0, 0), o.2) := by
      exact m_inN (d + 6) a (by omega) o.2
    rw [hin, Option.bind_some]
    simp only [zB_0]
    by_cases e : ∃ k, k < w.1 ∧ a = nI k
    · rw [zdT e, if_neg (by decide), if_pos (by decide)]
      obtain ⟨k, e1, e2⟩ := e
      exact zw_some ⟨mQ_st a2 a3, a4, .inr ⟨rfl, hn, w, k, a6, e1, e2, a7⟩⟩
    · rw [zdF e, if_pos rfl, if_pos (by decide)]
      refine zw_some ⟨mQ_st a2 a3, a4, .inl ⟨rfl, ?_⟩⟩
      rintro ⟨-, w', k, q1, q2, q3⟩
      rw [a6] at q1
      cases q1
      exact e ⟨k, q2, q3⟩
  · rw [zdF hn, if_pos rfl, if_pos (by decide)]
    exact zw_some ⟨mQ_0 _, m, .inl ⟨rfl, fun q => hn q.1⟩⟩
theorem q_states {g : zG} {s : zSn} {μ : zzM} (K : zOk g s) (c : cI g s μ) (m : mI g s μ) : zQ g s 142 230 [.ref 0] [.ref 105] μ := by
  by_cases hn : gN g = 0
  · refine zQ_v (-(nI 1)) m (cA_s c (a := 0) (b := 0) ?_ rfl) fun z hz => mA_s hz (a := 0) (b := 0) ?_ rfl
    · rw [show (13 : Nat) = 12 + 1 from rfl, w_pf_states, show zzf zzP zN 12 128 [.ref 0] μ = _ from c_noG c.h K.hg 11, Option.bind_some, zdT hn, if_neg (show ¬ zB true = 0 by decide)]
    · rw [show (13 : Nat) = 12 + 1 from rfl, w_m_states, show zzf zzP zN 12 175 [.ref 105] z = _ from d_isG hz.h K.hg 11, Option.bind_some, zdF (by omega), if_pos (show zB false = 0 by decide)]
  · have hn' : 0 < gN g := by omega
    obtain ⟨o, a1, a2, a3, a4, w, a5, a6, a7⟩ := c_states K c hn' 8
    have a1 : zzf zzP zN 12 127 [.ref 0] μ = some o := a1
    refine zQ_v (nI w.1) m ⟨((nI w.1, 0, 0), o.2), ?_, zf_mono a3 rfl, a4, rfl⟩ fun z hz => ?_
    · rw [show (13 : Nat) = 12 + 1 from rfl, w_pf_states, show zzf zzP zN 12 128 [.ref 0] μ = _ from c_noG c.h K.hg 11, Option.bind_some, zdF hn, if_pos (show zB false = 0 by decide), a1, Option.bind_some, if_pos a2, a6.1.1]
    · obtain ⟨p, b1, b2, b3, b4, b5, w', b6, b7⟩ := d_states K hz hn' 5
      have b1 : zzf zzP zN 12 228 [.ref 105] z = some p := b1
      rw [a5] at b6
      cases b6
      refine ⟨((nI w.1, 0, 0), p.2), ?_, mQ_st b2 b3, b4, rfl⟩
      rw [show (13 : Nat) = 12 + 1 from rfl, w_m_states, show zzf zzP zN 12 175 [.ref 105] z = _ from d_isG hz.h K.hg 11, Option.bind_some, zdT hn', if_neg (show ¬ zB true = 0 by decide), b1, Option.bind_some, b5, if_neg (show ¬ zB true = 0 by decide), b7.1.1]
/-- a question of a state: both guards alike -/
theorem zQ_st {g : zG} {s : zSn} {μ : zzM} (K : zOk g s) (c : cI g s μ) (m : mI g s μ) (a : Int32) {y y' : Nat} {as as' : List Value} (hc0 : ∀ o : zzR, zzf zzP zN 12 130 [.ref 0, .int a] μ = some o → o.1.1 = zB false → zzf zzP zN 13 y as μ = some ((-(nI 1), 0, 0), o.2)) (hm0 : ∀ z (o : zzR), zzf zzP zN 12 229 [.ref 105, .int a] z = some o → o.1.1 = zB false → zzf zzP zN 13 y' as' z = some ((-(nI 1), 0, 0), o.2)) {A A' : Nat → zWs → Int32 → Prop} (hA : ∀ k w x x', A k w x → A' k w x' → x = x')
    (hc1 : ∀ (o : zzR) w k, zzf zzP zN 12 130 [.ref 0, .int a] μ = some o → o.1.1 = zB true → 0 < gN g → zLay g s = some w → k < w.1 → a = nI k → zfr cQl μ o.2 → cI g s o.2 → zcSt w o.2 → o.2.1 26 0 = nI 1 → cA g s 13 y as μ (A k w)) (hm1 : ∀ z (o : zzR) w k, zzf zzP zN 12 229 [.ref 105, .int a] z = some o → o.1.1 = zB true → 0 < gN g → zLay g s = some w → k < w.1 → a = nI k → mI g s z → mQ z o.2 → mI g s o.2 → zmSt w o.2 → mA g s 13 y' as' z (A' k w)) : zQ g s y y' as as' μ := by
  obtain ⟨o, o1, o2, o3, o4⟩ := c_isState K c 7 a
  have o1 : zzf zzP zN 12 130 [.ref 0, .int a] μ = some o := o1
  have o2' := zf_mono (L' := cQl) o2 rfl
  rcases o4 with ⟨o5, o6⟩ | ⟨o5, o6, w, k, o7, o8, o9, o10, o11⟩
  · refine zQ_v (-(nI 1)) m ⟨_, hc0 o o1 o5, o2', o3, rfl⟩ fun z hz => ?_
    obtain ⟨p, p1, p2, p3, p4⟩ := d_isState K hz 4 a
    have p1 : zzf zzP zN 12 229 [.ref 105, .int a] z = some p := p1
    rcases p4 with ⟨p5, -⟩ | ⟨p5, p6, w, k, p7, p8, p9, -⟩
    · exact ⟨_, hm0 z p p1 p5, p2, p3, rfl⟩
    · exact absurd ⟨p6, w, k, p7, p8, p9⟩ o6
  · refine zQ_of m (hc1 o w k o1 o5 o6 o7 o8 o9 o2' o3 o10 o11) (fun z hz => ?_) (hA k w)
    obtain ⟨p, p1, p2, p3, p4⟩ := d_isState K hz 4 a
    have p1 : zzf zzP zN 12 229 [.ref 105, .int a] z = some p := p1
    rcases p4 with ⟨-, p6⟩ | ⟨p5, p6, w', k', p7, p8, p9, p10⟩
    · exact absurd ⟨o6, w, k, o7, o8, o9⟩ p6
    · rw [o7] at p7
      cases p7
      have hwt := (zLay_wt o7).2.1
      rw [o9, zq_eq (by omega) (by omega)] at p9
      rw [← p9] at p8
      exact hm1 z p w k p1 p5 p6 o7 p8 o9 hz p2 p3 p10
theorem c_states2 {g : zG} {s : zSn} {μ : zzM} (K : zOk g s) (c : cI g s μ) {w : zWs} (h0 : μ.1 26 0 = nI 1) (d : Nat) : zzf zzP zN (d + 1) 127 [.ref 0] μ = some ((0, 0, 26), μ) := by
  rw [w_pf_foundStates, h0, if_neg (by decide)]
  rfl
theorem q_goes {g : zG} {s : zSn} {μ : zzM} (K : zOk g s) (c : cI g s μ) (m : mI g s μ) (a1 a2 : Int32) : zQ g s 143 231 [.ref 0, .int a1, .int a2] [.ref 105, .int a1, .int a2] μ := by
  refine zQ_st K c m a1 (A := fun k w x => x = if zdc (∃ q, q < 52 ∧ a2 = nI q) then zgc (w.2.2 k (zvl a2)) else -(nI 1)) (A' := fun k w x => x = if zdc (∃ q, q < 52 ∧ a2 = nI q) then zgc (w.2.2 k (zvl a2)) else -(nI 1)) (fun o e1 e2 => ?_) (fun z o e1 e2 => ?_) (fun k w x x' e e' => e.trans e'.symm) (fun o w k e1 e2 e3 e4 e5 e6 e7 e8 e9 e10 => ?_) (fun z o w k e1 e2 e3 e4 e5 e6 e7 e8 e9 e10 => ?_)
  · rw [show (13 : Nat) = 12 + 1 from rfl, w_pf_goes, e1, Option.bind_some, e2, if_pos (by decide)]
  · rw [show (13 : Nat) = 12 + 1 from rfl, w_m_goes, e1, Option.bind_some, e2, if_pos (by decide)]
  · have hwt := (zLay_wt e4).2.1
    refine ⟨((if zdc (∃ q, q < 52 ∧ a2 = nI q) then zgc (w.2.2 k (zvl a2)) else -(nI 1), 0, 0), o.2), ?_, e7, e8, rfl⟩
    rw [show (13 : Nat) = 12 + 1 from rfl, w_pf_goes, e1, Option.bind_some, e2, if_neg (by decide)]
    by_cases q : ∃ q, q < 52 ∧ a2 = nI q
    · rw [zdT q, if_pos rfl]
      obtain ⟨x, x1, rfl⟩ := q
      rw [if_neg (nI_pos (by omega)), if_pos (by rw [zq_lt (by omega) (by omega)]; omega), c_states2 (w := w) K e8 e10 11, Option.bind_some, if_pos rfl, e6, s_target 11 (by omega) x1, Option.bind_some, e9.2.2 k x e5 x1, zvl_n (by omega)]
    · rw [zdF q, if_neg (show ¬ (false = true) by decide)]
      by_cases q1 : a2 < 0
      · rw [if_pos q1]
      · rw [if_neg q1, if_neg (fun f => q ((i_in (by omega)).1 ⟨by rwa [i_nlt] at q1, f⟩))]
  · have hwt := (zLay_wt e4).2.1
    refine ⟨((if zdc (∃ q, q < 52 ∧ a2 = nI q) then zgc (w.2.2 k (zvl a2)) else -(nI 1), 0, 0), o.2), ?_, e8, e9, rfl⟩
    have hin : zzf zzP zN 12 173 [.long (Int32.toInt64 a2), .long (lN 0), .long (lN 51)] o.2 = some ((zB (zdc (∃ q, q < 52 ∧ a2 = nI q)), 0, 0), o.2) := by
      rw [show lN 51 = (nI 52 - nI 1).toInt64 by decide]
      exact m_inN 11 a2 (by omega) o.2
    rw [show (13 : Nat) = 12 + 1 from rfl, w_m_goes, e1, Option.bind_some, e2, if_neg (by decide), hin, Option.bind_some]
    by_cases q : ∃ q, q < 52 ∧ a2 = nI q
    · rw [zdT q, if_neg (show ¬ zB true = 0 by decide), if_pos rfl]
      obtain ⟨x, x1, rfl⟩ := q
      rw [e6]
      simp only [zq_mul, zq_add]
      rw [zr_i _ _ (by omega) (by omega), e10.2 k x e5 x1, Option.bind_some, zvl_n (by omega)]
      cases et : w.2.2 k x with
      | none => rfl
      | some t =>
        have := (zLay_wt e4).2.2 k x t et
        show (if nI t = -(nI 1) then _ else _) = _
        rw [zif_cg (Iff.of_eq (zq_em (by omega))), if_neg (fun q => q)]
        rfl
    · rw [zdF q, if_pos (show zB false = 0 by decide), if_neg (show ¬ (false = true) by decide)]
theorem b_l32 (x : Int64) {i : Nat} (hi : i < 32) : bt (Int64.toInt32 x) i = bl x i := by
  unfold bt bl
  rw [show (Int64.toInt32 x).toBitVec = x.toBitVec.signExtend 32 from rfl, BitVec.getLsbD_signExtend, decide_eq_true hi, if_pos (by omega), Bool.true_and]
theorem b_31 : ∀ i, i < 32 → bt (nI 31) i = decide (i < 5) := by decide +kernel
theorem l_31 {i : Nat} (hi : i < 64) : bl (lN 31) i = decide (i < 5) := by
  rw [l_nat _ hi, show (31 : Nat) = 2 ^ 5 - 1 from rfl, Nat.testBit_two_pow_sub_one]
/-- the points of a rule -/
theorem s_pointsOf (d : Nat) {w : zWs} {μ : zzM} (hS : zcSt w μ) {k r : Nat} (hk : k < w.1) (hr : r < 12) : zw (zzf zzP zN (d + 1) 45 [.ref 26, .int (nI k), .int (nI r)] μ) fun o => o.2 = μ ∧ zBits (fun p => p < 5 ∧ bl (w.2.1 k) (5 * r + p) = true) o.1.1 := by
  have h90 := hS.2.1
  rw [w_states_pointsOf, zr_l _ _ (by omega) (by omega), hS.1.2 k hk, Option.bind_some, zq_mul]
  refine zw_some ⟨rfl, fun p hp => ?_⟩
  simp only
  rw [b_and, b_31 p hp, b_l32 _ hp, l_sshr (by omega) _ (by omega), Bool.and_eq_true, decide_eq_true_eq]
  by_cases h5 : p < 5
  · rw [if_pos (by omega), Nat.mul_comm r 5]
    exact and_comm
  · exact ⟨fun q => absurd q.2 h5, fun q => absurd q.1 h5⟩
theorem q_points {g : zG} {s : zSn} {μ : zzM} (K : zOk g s) (c : cI g s μ) (m : mI g s μ) (a1 a2 : Int32) : zQ g s 144 232 [.ref 0, .int a1, .int a2] [.ref 105, .int a1, .int a2] μ := by
  have hgn := g_n K.hg
  refine zQ_st K c m a1 (A := fun k w x => (∃ r, r < gN g ∧ a2 = nI r ∧ zBits (fun p => p < 5 ∧ bl (w.2.1 k) (5 * r + p) = true) x) ∨ ((¬ ∃ r, r < gN g ∧ a2 = nI r) ∧ x = -(nI 1))) (A' := fun k w x => (∃ r, r < gN g ∧ a2 = nI r ∧ zBits (fun p => p < 5 ∧ bl (w.2.1 k) (5 * r + p) = true) x) ∨ ((¬ ∃ r, r < gN g ∧ a2 = nI r) ∧ x = -(nI 1))) (fun o e1 e2 => ?_) (fun z o e1 e2 => ?_) (fun k w x x' e e' => ?_) (fun o w k e1 e2 e3 e4 e5 e6 e7 e8 e9 e10 => ?_) (fun z o w k e1 e2 e3 e4 e5 e6 e7 e8 e9 e10 => ?_)
  · rw [show (13 : Nat) = 12 + 1 from rfl, w_pf_points, e1, Option.bind_some, e2, if_pos (by decide)]
  · rw [show (13 : Nat) = 12 + 1 from rfl, w_m_points, e1, Option.bind_some, e2, if_pos (by decide)]
  · rcases e with ⟨r, r1, r2, r3⟩ | ⟨r1, r2⟩
    · rcases e' with ⟨r', r1', r2', r3'⟩ | ⟨r1', -⟩
      · rw [r2, zq_eq (by omega) (by omega)] at r2'
        rw [← r2'] at r3'
        exact zBits_un r3 r3'
      · exact absurd ⟨r, r1, r2⟩ r1'
    · rcases e' with ⟨r', r1', r2', r3'⟩ | ⟨-, r2'⟩
      · exact absurd ⟨r', r1', r2'⟩ r1
      · rw [r2, r2']
  · have hwt := (zLay_wt e4).2.1
    by_cases q : ∃ r, r < gN g ∧ a2 = nI r
    · obtain ⟨r, r1, r2⟩ := id q
      obtain ⟨p, p1, p2, p3⟩ := s_pointsOf 11 e9 e5 (show r < 12 by omega)
      have p1 : zzf zzP zN 12 45 [.ref 26, .int (nI k), .int (nI r)] o.2 = some p := p1
      refine ⟨((p.1.1, 0, 0), p.2), ?_, by simp only; rw [p2]; exact e7, by simp only; rw [p2]; exact e8, .inl ⟨r, r1, r2, p3⟩⟩
      rw [show (13 : Nat) = 12 + 1 from rfl, w_pf_points, e1, Option.bind_some, e2, if_neg (by decide), show zzf zzP zN 12 129 [.ref 0, .int a2] o.2 = _ from c_isRule e8.h K.hg 11 a2, Option.bind_some, zdT q, if_neg (show ¬ zB true = 0 by decide), c_states2 (w := w) K e8 e10 11, Option.bind_some, if_pos rfl, e6, r2, p1, Option.bind_some]
    · refine ⟨((-(nI 1), 0, 0), o.2), ?_, e7, e8, .inr ⟨q, rfl⟩⟩
      rw [show (13 : Nat) = 12 + 1 from rfl, w_pf_points, e1, Option.bind_some, e2, if_neg (by decide), show zzf zzP zN 12 129 [.ref 0, .int a2] o.2 = _ from c_isRule e8.h K.hg 11 a2, Option.bind_some, zdF q, if_pos (show zB false = 0 by decide)]
  · have hwt := (zLay_wt e4).2.1
    by_cases q : ∃ r, r < gN g ∧ a2 = nI r
    · obtain ⟨r, r1, r2⟩ := id q
      refine ⟨((Int64.toInt32 ((w.2.1 k >>> (Int32.toInt64 (nI (5 * r)) &&& 63)) &&& lN 31), 0, 0), o.2), ?_, e8, e9, .inl ⟨r, r1, r2, fun p hp => ?_⟩⟩
      · rw [show (13 : Nat) = 12 + 1 from rfl, w_m_points, e1, Option.bind_some, e2, if_neg (by decide), show zzf zzP zN 12 176 [.ref 105, .int a2] o.2 = _ from d_isRule e9.h K.hg 10 a2, Option.bind_some, zdT q, if_neg (show ¬ zB true = 0 by decide), e6, r2, zr_l _ _ (by omega) (by omega), e10.1.2 k e5, Option.bind_some, zq_mul]
      · simp only
        rw [b_l32 _ hp, l_and, l_31 (by omega), l_sshr (by omega) _ (by omega), Bool.and_eq_true, decide_eq_true_eq]
        by_cases h5 : p < 5
        · rw [if_pos (by omega)]
          exact and_comm
        · exact ⟨fun q => absurd q.2 h5, fun q => absurd q.1 h5⟩
    · refine ⟨((-(nI 1), 0, 0), o.2), ?_, e8, e9, .inr ⟨q, rfl⟩⟩
      rw [show (13 : Nat) = 12 + 1 from rfl, w_m_points, e1, Option.bind_some, e2, if_neg (by decide), show zzf zzP zN 12 176 [.ref 105, .int a2] o.2 = _ from d_isRule e9.h K.hg 10 a2, Option.bind_some, zdF q, if_pos (show zB false = 0 by decide)]
