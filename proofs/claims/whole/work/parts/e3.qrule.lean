/-! QUERIES: rules and facts -/
/-- class and reference answer alike, and all stands behind -/
def zQ (g : zG) (s : zSn) (y y' : Nat) (as as' : List Value) (μ : zzM) : Prop := ∃ o1 o2, zzf zzP zN 13 y as μ = some o1 ∧ zzf zzP zN 13 y' as' o1.2 = some o2 ∧ o1.1.1 = o2.1.1 ∧ zfr cQl μ o1.2 ∧ mQ o1.2 o2.2 ∧ cI g s o2.2 ∧ mI g s o2.2
theorem zQ_of {g : zG} {s : zSn} {μ : zzM} {y y' : Nat} {as as' : List Value} {A A' : Int32 → Prop} (m : mI g s μ) (h1 : cA g s 13 y as μ A) (h2 : ∀ z, mI g s z → mA g s 13 y' as' z A') (hA : ∀ x x', A x → A' x' → x = x') : zQ g s y y' as as' μ := by
  obtain ⟨o1, a1, a2, a3, a4⟩ := h1
  obtain ⟨o2, b1, b2, b3, b4⟩ := h2 o1.2 (mI_c m a2)
  exact ⟨o1, o2, a1, b1, hA _ _ a4 b4, a2, b2, cI_m a3 b2.1, b3⟩
theorem zQ_v {g : zG} {s : zSn} {μ : zzM} {y y' : Nat} {as as' : List Value} (v : Int32) (m : mI g s μ) (h1 : cA g s 13 y as μ (· = v)) (h2 : ∀ z, mI g s z → mA g s 13 y' as' z (· = v)) : zQ g s y y' as as' μ := zQ_of m h1 h2 fun x x' e e' => e.trans e'.symm
theorem cA_s {g : zG} {s : zSn} {μ : zzM} {d y : Nat} {as : List Value} {A : Int32 → Prop} (c : cI g s μ) {x : Int32} {a : Int64} {b : Nat} (h : zzf zzP zN d y as μ = some ((x, a, b), μ)) (hA : A x) : cA g s d y as μ A := ⟨_, h, zf_refl _ _, c, hA⟩
theorem mA_s {g : zG} {s : zSn} {μ : zzM} {d y : Nat} {as : List Value} {A : Int32 → Prop} (m : mI g s μ) {x : Int32} {a : Int64} {b : Nat} (h : zzf zzP zN d y as μ = some ((x, a, b), μ)) (hA : A x) : mA g s d y as μ A := ⟨_, h, mQ_0 _, m, hA⟩
theorem i_in {a : Int32} {N : Nat} (hN : N < 1073741824) : (0 ≤ a ∧ a < nI N) ↔ ∃ r, r < N ∧ a = nI r := by
  constructor
  · rintro ⟨h1, h2⟩
    rcases zq_cases a with q | ⟨n, hn, rfl⟩
    · exact absurd h1 (by rw [i_nle]; exact q)
    · rw [zq_lt hn (by omega)] at h2
      exact ⟨n, h2, rfl⟩
  · rintro ⟨r, hr, rfl⟩
    exact ⟨by rw [zq_0le (by omega)]; trivial, by rw [zq_lt (by omega) (by omega)]; exact hr⟩
theorem i_in1 {a : Int32} {N : Nat} (hN : N < 1073741824) : (0 ≤ a ∧ a ≤ nI N - nI 1) ↔ ∃ r, r < N ∧ a = nI r := by
  rw [← i_in hN, nJ_e]
  refine and_congr Iff.rfl ?_
  cases N with
  | zero =>
    rw [nJ_0, Int32.le_iff_toInt_le, Int32.lt_iff_toInt_lt, show (-(nI 1)).toInt = -1 by decide, show (nI 0).toInt = 0 by decide]
    omega
  | succ n =>
    rw [nJ_s, Int32.le_iff_toInt_le, Int32.lt_iff_toInt_lt, nI_toInt (by omega), nI_toInt (by omega)]
    omega
theorem i_inle {a : Int32} {N : Nat} (hN : N < 1073741824) : (0 ≤ a ∧ a ≤ nI N) ↔ ∃ r, r ≤ N ∧ a = nI r := by
  constructor
  · rintro ⟨h1, h2⟩
    rcases zq_cases a with q | ⟨n, hn, rfl⟩
    · exact absurd h1 (by rw [i_nle]; exact q)
    · rw [zq_le hn (by omega)] at h2
      exact ⟨n, h2, rfl⟩
  · rintro ⟨r, hr, rfl⟩
    exact ⟨by rw [zq_0le (by omega)]; trivial, by rw [zq_le (by omega) (by omega)]; exact hr⟩
-- guards by what they mean
theorem c_isRule {g : zG} {s : zSn} {μ : zzM} (h : zc2 g s μ) (hg : zwg g) (d : Nat) (a : Int32) : zzf zzP zN (d + 1) 129 [.ref 0, .int a] μ = some ((zB (zdc (∃ r, r < gN g ∧ a = nI r)), 0, 0), μ) := by
  have := g_n hg
  rw [s_isRule, c_n h]
  congr 4
  unfold zdc
  exact decide_eq_decide.2 (i_in (by omega))
theorem d_isRule {g : zG} {s : zSn} {μ : zzM} (h : zm2 g s μ) (hg : zwg g) (d : Nat) (a : Int32) : zzf zzP zN (d + 2) 176 [.ref 105, .int a] μ = some ((zB (zdc (∃ r, r < gN g ∧ a = nI r)), 0, 0), μ) := by
  have := g_n hg
  rw [m_isRule, d_n h]
  congr 4
  unfold zdc
  exact decide_eq_decide.2 (i_in1 (by omega))
theorem zdT {p : Prop} (h : p) : zdc p = true := @decide_eq_true p (Classical.propDecidable p) h
theorem zdF {p : Prop} (h : ¬ p) : zdc p = false := @decide_eq_false p (Classical.propDecidable p) h
theorem c_noG {g : zG} {s : zSn} {μ : zzM} (h : zc2 g s μ) (hg : zwg g) (d : Nat) : zzf zzP zN (d + 1) 128 [.ref 0] μ = some ((zB (zdc (gN g = 0)), 0, 0), μ) := by
  have := g_n hg
  rw [s_noG, c_n h]
  congr 4
  unfold zdc
  exact decide_eq_decide.2 (Iff.of_eq (zq_e0 (by omega)))
theorem d_isG {g : zG} {s : zSn} {μ : zzM} (h : zm2 g s μ) (hg : zwg g) (d : Nat) : zzf zzP zN (d + 1) 175 [.ref 105] μ = some ((zB (zdc (0 < gN g)), 0, 0), μ) := by
  have := g_n hg
  rw [m_isGrammar, d_n h]
  congr 4
  unfold zdc
  exact decide_eq_decide.2 (Iff.of_eq (zq_0lt (by omega)))
theorem q_rule {g : zG} {s : zSn} {μ : zzM} (K : zOk g s) (c : cI g s μ) (m : mI g s μ) (a1 a2 : Int32) : zQ g s 136 199 [.ref 0, .int a1, .int a2] [.ref 105, .int a1, .int a2] μ := by
  have hgn := g_n K.hg
  by_cases e : ∃ r, r < gN g ∧ a1 = nI r
  · have hc1 : zzf zzP zN 12 129 [.ref 0, .int a1] μ = some ((zB true, 0, 0), μ) := by rw [← zdT e]; exact c_isRule c.h K.hg 11 a1
    have hm1 : ∀ z, mI g s z → zzf zzP zN 12 176 [.ref 105, .int a1] z = some ((zB true, 0, 0), z) := fun z hz => by rw [← zdT e]; exact d_isRule hz.h K.hg 10 a1
    obtain ⟨r, hr, rfl⟩ := e
    have hw : ∀ v, (∀ z : zzM, zm2 g s z → (if a2 = nI 0 then (zzri z 107 12 (nI r)).bind fun x2 => some ((x2, (0 : Int64), (0 : Nat)), z) else if a2 = nI 1 then (zzri z 108 12 (nI r)).bind fun x3 => some ((x3, 0, 0), z) else if a2 = nI 2 then (zzri z 110 12 (nI r)).bind fun x4 => some ((x4, 0, 0), z) else if a2 = nI 3 then (zzri z 111 12 (nI r)).bind fun x5 => some ((x5, 0, 0), z) else if a2 = nI 4 then (zzf zzP zN 12 177 [.ref 105, .int (nI r)] z).bind fun o6 => if o6.1.1 = 0 then some (((nI 1), 0, 0), o6.2) else some (((nI 0), 0, 0), o6.2) else some (((-(nI 1)), 0, 0), z)) = some ((v, 0, 0), z)) → (if a2 = nI 0 then (zzri μ 4 12 (nI r)).bind fun x2 => some ((x2, (0 : Int64), (0 : Nat)), μ) else if a2 = nI 1 then (zzri μ 5 12 (nI r)).bind fun x3 => some ((x3, 0, 0), μ) else if a2 = nI 2 then (zzri μ 6 12 (nI r)).bind fun x4 => some ((x4, 0, 0), μ) else if a2 = nI 3 then (zzri μ 7 12 (nI r)).bind fun x5 => some ((x5, 0, 0), μ) else if a2 = nI 4 then some (((((μ.1 2 3) >>> (nI r &&& 31)) &&& (nI 1)), 0, 0), μ) else some (((-(nI 1)), 0, 0), μ)) = some ((v, 0, 0), μ) → zQ g s 136 199 [.ref 0, .int (nI r), .int a2] [.ref 105, .int (nI r), .int a2] μ := by
      intro v hm hc
      refine zQ_v v m (cA_s c (a := 0) (b := 0) ?_ rfl) fun z hz => mA_s hz (a := 0) (b := 0) ?_ rfl
      · rw [show (13 : Nat) = 12 + 1 from rfl, w_pf_rule, hc1, Option.bind_some, if_neg (show ¬ zB true = 0 by decide)]
        exact hc
      · rw [show (13 : Nat) = 12 + 1 from rfl, w_m_rule, hm1 z hz, Option.bind_some, if_neg (show ¬ zB true = 0 by decide)]
        exact hm z hz.h
    by_cases e0 : a2 = nI 0
    · refine hw (nI (gL g r)) (fun z hz => ?_) ?_
      · rw [if_pos e0, zr_i _ _ (by omega) (by omega), d_l hz hr, Option.bind_some]
      · rw [if_pos e0, zr_i _ _ (by omega) (by omega), c_l c.h hr, Option.bind_some]
    · by_cases e1 : a2 = nI 1
      · refine hw (nI (gZ g r)) (fun z hz => ?_) ?_
        · rw [if_neg e0, if_pos e1, zr_i _ _ (by omega) (by omega), d_z hz hr, Option.bind_some]
        · rw [if_neg e0, if_pos e1, zr_i _ _ (by omega) (by omega), c_z c.h hr, Option.bind_some]
      · by_cases e2 : a2 = nI 2
        · refine hw (nI (gR g r)) (fun z hz => ?_) ?_
          · rw [if_neg e0, if_neg e1, if_pos e2, zr_i _ _ (by omega) (by omega), d_rk hz hr, Option.bind_some]
          · rw [if_neg e0, if_neg e1, if_pos e2, zr_i _ _ (by omega) (by omega), c_rk c.h hr, Option.bind_some]
        · by_cases e3 : a2 = nI 3
          · refine hw (nI (gD g r)) (fun z hz => ?_) ?_
            · rw [if_neg e0, if_neg e1, if_neg e2, if_pos e3, zr_i _ _ (by omega) (by omega), d_sd hz hr, Option.bind_some]
            · rw [if_neg e0, if_neg e1, if_neg e2, if_pos e3, zr_i _ _ (by omega) (by omega), c_sd c.h hr, Option.bind_some]
          · by_cases e4 : a2 = nI 4
            · refine hw (if bt (sT s) r then nI 1 else 0) (fun z hz => ?_) ?_
              · rw [if_neg e0, if_neg e1, if_neg e2, if_neg e3, if_pos e4, d_on hz K.hg 10 hr, Option.bind_some]
                unfold zon
                rw [decide_eq_true hr, Bool.true_and]
                cases bt (sT s) r <;> rfl
              · rw [if_neg e0, if_neg e1, if_neg e2, if_neg e3, if_pos e4, c_st c.h, b_bit1 _ (by omega)]
            · refine hw (-(nI 1)) (fun z hz => ?_) ?_
              · rw [if_neg e0, if_neg e1, if_neg e2, if_neg e3, if_neg e4]
              · rw [if_neg e0, if_neg e1, if_neg e2, if_neg e3, if_neg e4]
  · refine zQ_v (-(nI 1)) m (cA_s c (a := 0) (b := 0) ?_ rfl) fun z hz => mA_s hz (a := 0) (b := 0) ?_ rfl
    · rw [show (13 : Nat) = 12 + 1 from rfl, w_pf_rule, show zzf zzP zN 12 129 [.ref 0, .int a1] μ = _ from c_isRule c.h K.hg 11 a1, Option.bind_some, zdF e, if_pos (show zB false = 0 by decide)]
    · rw [show (13 : Nat) = 12 + 1 from rfl, w_m_rule, show zzf zzP zN 12 176 [.ref 105, .int a1] z = _ from d_isRule hz.h K.hg 10 a1, Option.bind_some, zdF e, if_pos (show zB false = 0 by decide)]
theorem q_symbol {g : zG} {s : zSn} {μ : zzM} (K : zOk g s) (c : cI g s μ) (m : mI g s μ) (a1 a2 : Int32) : zQ g s 137 200 [.ref 0, .int a1, .int a2] [.ref 105, .int a1, .int a2] μ := by
  have hgn := g_n K.hg
  by_cases e : ∃ r, r < gN g ∧ a1 = nI r
  · have hc1 : zzf zzP zN 12 129 [.ref 0, .int a1] μ = some ((zB true, 0, 0), μ) := by rw [← zdT e]; exact c_isRule c.h K.hg 11 a1
    have hm1 : ∀ z, mI g s z → zzf zzP zN 12 176 [.ref 105, .int a1] z = some ((zB true, 0, 0), z) := fun z hz => by rw [← zdT e]; exact d_isRule hz.h K.hg 10 a1
    obtain ⟨r, hr, rfl⟩ := e
    have hz4 := g_z K.hg hr
    have hin : ∀ z : zzM, zzf zzP zN 12 173 [.long (Int32.toInt64 a2), .long (lN 0), .long (Int32.toInt64 (nI (gZ g r) - nI 1))] z = some ((zB (zdc (∃ k, k < gZ g r ∧ a2 = nI k)), 0, 0), z) := fun z => by
      rw [show (12 : Nat) = 11 + 1 from rfl, m_in]
      congr 4
      unfold zdc
      refine decide_eq_decide.2 ?_
      rw [w_0, w_32, w_32]
      exact i_in1 (by omega)
    by_cases e2 : ∃ k, k < gZ g r ∧ a2 = nI k
    · have hin' : ∀ z : zzM, zzf zzP zN 12 173 [.long (Int32.toInt64 a2), .long (lN 0), .long (Int32.toInt64 (nI (gZ g r) - nI 1))] z = some ((zB true, 0, 0), z) := fun z => by rw [hin z, zdT e2]
      obtain ⟨k, hk, rfl⟩ := e2
      refine zQ_v (nI (gS g r k)) m (cA_s c (a := 0) (b := 0) ?_ rfl) fun z hz => mA_s hz (a := 0) (b := 0) ?_ rfl
      · rw [show (13 : Nat) = 12 + 1 from rfl, w_pf_symbol, hc1, Option.bind_some, if_neg (show ¬ zB true = 0 by decide), if_neg (nI_pos (by omega)), zr_i _ _ (by omega) (by omega), c_z c.h hr, Option.bind_some, if_pos (by rw [zq_lt (by omega) (by omega)]; omega), s_symAt c.h K.hg 11 hr hk, Option.bind_some]
      · rw [show (13 : Nat) = 12 + 1 from rfl, w_m_symbol, hm1 z hz, Option.bind_some, if_neg (show ¬ zB true = 0 by decide), zr_i _ _ (by omega) (by omega), d_z hz.h hr, Option.bind_some, hin', Option.bind_some, if_neg (show ¬ zB true = 0 by decide)]
        simp only [zq_mul, zq_add]
        rw [zr_i _ _ (by omega) (by omega), d_s hz.h hr hk, Option.bind_some]
    · refine zQ_v (-(nI 1)) m (cA_s c (a := 0) (b := 0) ?_ rfl) fun z hz => mA_s hz (a := 0) (b := 0) ?_ rfl
      · rw [show (13 : Nat) = 12 + 1 from rfl, w_pf_symbol, hc1, Option.bind_some, if_neg (show ¬ zB true = 0 by decide)]
        by_cases q : a2 < 0
        · rw [if_pos q]
        · rw [if_neg q, zr_i _ _ (by omega) (by omega), c_z c.h hr, Option.bind_some, if_neg (fun f => e2 ((i_in (by omega)).1 ⟨by rwa [i_nlt] at q, f⟩))]
      · rw [show (13 : Nat) = 12 + 1 from rfl, w_m_symbol, hm1 z hz, Option.bind_some, if_neg (show ¬ zB true = 0 by decide), zr_i _ _ (by omega) (by omega), d_z hz.h hr, Option.bind_some, hin, Option.bind_some, zdF e2, if_pos (show zB false = 0 by decide)]
  · refine zQ_v (-(nI 1)) m (cA_s c (a := 0) (b := 0) ?_ rfl) fun z hz => mA_s hz (a := 0) (b := 0) ?_ rfl
    · rw [show (13 : Nat) = 12 + 1 from rfl, w_pf_symbol, show zzf zzP zN 12 129 [.ref 0, .int a1] μ = _ from c_isRule c.h K.hg 11 a1, Option.bind_some, zdF e, if_pos (show zB false = 0 by decide)]
    · rw [show (13 : Nat) = 12 + 1 from rfl, w_m_symbol, show zzf zzP zN 12 176 [.ref 105, .int a1] z = _ from d_isRule hz.h K.hg 10 a1, Option.bind_some, zdF e, if_pos (show zB false = 0 by decide)]
