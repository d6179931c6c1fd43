/-! STATES of the reference -/
def zgv (o : Option Nat) : Int32 := match o with
  | none => -(nI 1)
  | some j => nI j
/-- the reference's cells tell the states so far *-/
def zmS (w : zWs) (μ : zzM) : Prop := μ.1 105 35 = nI w.1 ∧ ∀ j, j < w.1 → μ.2 130 j = w.2.1 j
theorem zfnd_lt {f : Nat → Int64} {x : Int64} : ∀ {n j : Nat}, zfnd f x n = some j → j < n
  | 0, _, h => by cases h
  | n + 1, j, h => by
    unfold zfnd at h
    cases h1 : zfnd f x n with
    | some i =>
      rw [h1] at h
      cases h
      have := zfnd_lt h1
      omega
    | none =>
      rw [h1] at h
      simp only at h
      split at h
      · cases h; omega
      · cases h
theorem zgo1_le {g : zG} {s : zSn} {w w' : zWs} {k c : Nat} (h : zgo1 g s w k c = some w') (hw : w.1 ≤ 90) : w.1 ≤ w'.1 ∧ w'.1 ≤ 90 := by
  unfold zgo1 at h
  split at h
  · cases h; exact ⟨Nat.le_refl _, hw⟩
  · split at h
    · cases h; exact ⟨Nat.le_refl _, hw⟩
    · split at h
      · cases h
      · cases h
        simp only
        omega
theorem m_laysGo {g : zG} {s : zSn} {μ : zzM} (h : zm2 g s μ) (hg : zwg g) (d : Nat) {w : zWs} (hw : zmS w μ) (hw9 : w.1 ≤ 90) {k c : Nat} (hk : k < w.1) (hc : c < 52) : zw (zzf zzP zN (d + 6) 227 [.ref 105, .int (nI k), .int (nI c)] μ) fun o => zfr [105, 130, 131] μ o.2 ∧ (∀ i, i ≠ 35 → o.2.1 105 i = μ.1 105 i) ∧ ((zgo1 g s w k c = none ∧ o.1.1 = zB false) ∨ ∃ w', zgo1 g s w k c = some w' ∧ o.1.1 = zB true ∧ zmS w' o.2 ∧ (∀ i, i ≠ 52 * k + c → o.2.1 131 i = μ.1 131 i) ∧ o.2.1 131 (52 * k + c) = zgv (w'.2.2 k c)) := by
  rw [u_m_laysGo, zr_l _ _ (by omega) (by omega), Option.bind_some, hw.2 k hk, m_moved h hg _ _ hc, Option.bind_some, zq_mul, zq_add, zs_i _ _ _ (by omega) (by omega), Option.bind_some]
  simp only [l_cmp]
  have gu : ∀ v, zgoU w.2.2 k c v k c = v := fun v => if_pos ⟨rfl, rfl⟩
  by_cases hx : zmv g s (w.2.1 k) c = lN 0
  · rw [if_pos hx, if_pos (by decide)]
    have e1 : zgo1 g s w k c = some (w.1, w.2.1, zgoU w.2.2 k c none) := by
      unfold zgo1
      rw [if_pos hx]
    refine zw_some ⟨zf_wI _ _ rfl, fun i hi => by rw [zm_c _ _ _ (by omega)], .inr ⟨_, e1, rfl, ⟨by rw [zm_c _ _ _ (by omega)]; exact hw.1, fun j hj => hw.2 j hj⟩, fun i hi => zm_k _ _ _ _ hi, ?_⟩⟩
    rw [zm_s]
    show _ = zgv (zgoU w.2.2 k c none k c)
    rw [gu]
    rfl
  · rw [if_neg hx, m_numberOf (μ := zzwI μ 131 (52 * k + c) (-(nI 1))) _ _ hw9 (by rw [zm_c _ _ _ (by omega)]; exact hw.1) w.2.1 (fun j hj => hw.2 j hj), Option.bind_some]
    cases hf : zfnd w.2.1 (zmv g s (w.2.1 k) c) w.1 with
    | some j =>
      have hj := zfnd_lt hf
      have e1 : zgo1 g s w k c = some (w.1, w.2.1, zgoU w.2.2 k c (some j)) := by
        unfold zgo1
        rw [if_neg hx, hf]
      simp only
      rw [if_neg (by rw [zq_em (by omega)]; exact id), zs_i _ _ _ (by omega) (by omega), Option.bind_some, if_pos (by decide)]
      refine zw_some ⟨zf_twI _ _ (zf_wI _ _ rfl) rfl, fun i hi => by rw [zm_c _ _ _ (by omega), zm_c _ _ _ (by omega)], .inr ⟨_, e1, rfl, ⟨by rw [zm_c _ _ _ (by omega), zm_c _ _ _ (by omega)]; exact hw.1, fun j hj => hw.2 j hj⟩, fun i hi => by rw [zm_k _ _ _ _ hi, zm_k _ _ _ _ hi], ?_⟩⟩
      rw [zm_s]
      show _ = zgv (zgoU w.2.2 k c (some j) k c)
      rw [gu]
      rfl
    | none =>
      simp only
      rw [if_pos trivial, zm_c _ _ _ (by omega), hw.1]
      by_cases h90 : w.1 = 90
      · rw [if_pos (by rw [h90]), if_pos (by decide)]
        have e1 : zgo1 g s w k c = none := by
          unfold zgo1
          rw [if_neg hx, hf]
          simp only
          rw [if_pos h90]
        exact zw_some ⟨zf_wI _ _ rfl, fun i hi => by rw [zm_c _ _ _ (by omega)], .inl ⟨e1, rfl⟩⟩
      · have e1 : zgo1 g s w k c = some (w.1 + 1, zup1 w.2.1 w.1 (zmv g s (w.2.1 k) c), zgoU w.2.2 k c (some w.1)) := by
          unfold zgo1
          rw [if_neg hx, hf]
          simp only
          rw [if_neg h90]
        rw [if_neg (by rw [zq_eq (by omega) (by omega)]; exact h90), zs_l _ _ _ (by omega) (by omega), Option.bind_some, zn_1, zm_c _ _ _ (by omega), hw.1, zq_add, zs_i _ _ _ (by omega) (by omega), Option.bind_some, if_pos (by decide)]
        refine zw_some ⟨zf_twI _ _ (zf_twI _ _ (zf_twL _ _ (zf_wI _ _ rfl) rfl) rfl) rfl, fun i hi => ?_, .inr ⟨_, e1, rfl, ⟨?_, fun j hj => ?_⟩, fun i hi => ?_, ?_⟩⟩
        · rw [zm_c _ _ _ (by omega), zm_k _ _ _ _ hi, zn_1, zm_c _ _ _ (by omega)]
        · rw [zm_c _ _ _ (by omega), zm_s]
        · rw [zm_2, zm_2, zn_if]
          show _ = zup1 w.2.1 w.1 (zmv g s (w.2.1 k) c) j
          unfold zup1
          by_cases ej : j = w.1
          · rw [if_pos ej, if_pos ej]
          · rw [if_neg ej, if_neg ej, zm_2]
            simp only at hj
            exact hw.2 j (by omega)
        · rw [zm_k _ _ _ _ hi, zm_c _ _ _ (by omega), zn_1, zm_k _ _ _ _ hi]
        · rw [zm_s]
          show _ = zgv (zgoU w.2.2 k c (some w.1) k c)
          rw [gu]
          rfl
theorem zgo1_keep {g : zG} {s : zSn} {w w' : zWs} {k c : Nat} (h : zgo1 g s w k c = some w') : (∀ k' c', ¬ (k' = k ∧ c' = c) → w'.2.2 k' c' = w.2.2 k' c') := by
  intro k' c' hne
  unfold zgo1 at h
  split at h
  · cases h; exact if_neg hne
  · split at h
    · cases h; exact if_neg hne
    · split at h
      · cases h
      · cases h; exact if_neg hne
/-- all that the reference lays of the states -/
def zmSt (w : zWs) (μ : zzM) : Prop := zmS w μ ∧ ∀ k c, k < w.1 → c < 52 → μ.1 131 (52 * k + c) = zgv (w.2.2 k c)
theorem zgoK_st {g : zG} {s : zSn} {w : zWs} {k : Nat} (h : zgoK g s k = some w) (hw : w.1 ≤ k) : ∀ j, zgoK g s (k + j) = some w
  | 0 => h
  | j + 1 => by
    show (zgoK g s (k + j)).bind _ = _
    rw [zgoK_st h hw j, Option.bind_some]
    exact if_neg (show ¬ k + j < w.1 by omega)
theorem zgoK_none {g : zG} {s : zSn} {k : Nat} (h : zgoK g s k = none) : ∀ j, zgoK g s (k + j) = none
  | 0 => h
  | j + 1 => by
    show (zgoK g s (k + j)).bind _ = _
    rw [zgoK_none h j]
    rfl
theorem zgoS_none {g : zG} {s : zSn} {w : zWs} {k i : Nat} (h : zgoS g s w k i = none) : ∀ j, zgoS g s w k (i + j) = none
  | 0 => h
  | j + 1 => by
    show (zgoS g s w k (i + j)).bind _ = _
    rw [zgoS_none h j]
    rfl
theorem m_laysStates {g : zG} {s : zSn} {μ : zzM} (h : zm2 g s μ) (hg : zwg g) (hn0 : 0 < gN g) (d : Nat) (hl : (μ.1 105 36 &&& nI 1) = 0) : zw (zzf zzP zN (d + 7) 228 [.ref 105] μ) fun o => zfr [105, 130, 131] μ o.2 ∧ (∀ i, i ≠ 35 → i ≠ 36 → o.2.1 105 i = μ.1 105 i) ∧ ((zLay g s = none ∧ o.1.1 = zB false ∧ o.2.1 105 36 = μ.1 105 36) ∨ ∃ w, zLay g s = some w ∧ o.1.1 = zB true ∧ zmSt w o.2 ∧ o.2.1 105 36 = μ.1 105 36 ||| nI 1) := by
  have hl0 := g_l hg hn0
  rw [u_m_laysStates, if_pos hl, zr_i _ _ (by omega) (by omega), d_start h hn0, Option.bind_some]
  refine zw_bind (m_begun h hg (d + 3) (c := gL g 0) (by omega)) ?_
  rintro ⟨⟨w0, w1, w2⟩, μ'⟩ ⟨e1, e2⟩
  simp only at e1 e2 ⊢
  have e1 := e1.symm
  subst e1
  refine zw_bind (m_closed h hg (d + 2) w1) ?_
  rintro ⟨⟨v0, v1, v2⟩, μ'⟩ ⟨e3, e4⟩
  simp only at e3 e4 ⊢
  have e3 := e3.symm
  subst e3
  have hv : v1 = zst0 g s := by
    refine zmk_eq fun i hi => ?_
    rw [e4 i hi, zcl_cg fun i => ?_]
    constructor
    · rintro ⟨q1, q2⟩; exact (e2 i q1).1 q2
    · rintro ⟨q, q1, q2, q3⟩
      have := g_n hg
      have := zon_lt q1
      exact ⟨by omega, (e2 i (by omega)).2 ⟨q, q1, q2, q3⟩⟩
  subst hv
  rw [zs_l _ _ _ (by omega) (by omega), Option.bind_some]
  refine zl_ms (fun x : Nat × zWs × zzM => ([nI x.1], [], x.2.2)) (fun m x => m + x.1 = 90 ∧ x.1 ≤ x.2.1.1 ∧ x.2.1.1 ≤ 90 ∧ zgoK g s x.1 = some x.2.1 ∧ zfr [105, 130, 131] μ x.2.2 ∧ (∀ i, i ≠ 35 → x.2.2.1 105 i = μ.1 105 i) ∧ zmS x.2.1 x.2.2 ∧ ∀ k c, k < x.1 → c < 52 → x.2.2.1 131 (52 * k + c) = zgv (x.2.1.2.2 k c)) 90 (0, (1, fun _ => zst0 g s, fun _ _ => none), _) (by omega) rfl ⟨rfl, by simp only; omega, by simp only; omega, rfl, zf_twI _ _ (zf_wL _ _ rfl) rfl, fun i hi => ?_, ⟨?_, fun j hj => ?_⟩, fun k c hk => absurd hk (by simp only; omega)⟩ ?_
  · show (zzwI _ _ _ _).1 105 i = _
    rw [zm_k _ _ _ _ hi]
    rfl
  · show (zzwI _ _ _ _).1 105 35 = _
    rw [zm_s]
  · show (zzwI _ _ _ _).2 130 j = _
    simp only at hj
    rw [zm_2, show j = 0 by omega, zn_s]
  · rintro m ⟨k, w, ν⟩ gg ⟨hm, hkw, hw9, hK, hf, hi5, hS, hG⟩ hgo
    simp only at hm hkw hw9 hK hf hi5 hS hG
    have h1 := zm2_fr h hf rfl
    simp only [zI0, zI1, zI2, zI3, zI4, zI5, zI6, zI7, zI8, zJ0, zJ1, zJ2, zMM]
    rw [hS.1]
    by_cases hke : w.1 ≤ k
    · rw [if_pos (by rw [zq_le (by omega) (by omega)]; exact hke), if_pos (by decide)]
      have hLay : zLay g s = some w := by
        have := zgoK_st hK hke (90 - k)
        rwa [show k + (90 - k) = 90 by omega] at this
      refine zw_some ⟨zf_twI _ _ hf rfl, fun i q1 q2 => by rw [zm_k _ _ _ _ q2]; exact hi5 i q1, .inr ⟨w, hLay, rfl, ⟨⟨?_, fun j hj => hS.2 j hj⟩, fun k' c hk' hc => ?_⟩, ?_⟩⟩
      · rw [zm_k _ _ _ _ (by omega)]; exact hS.1
      · rw [zm_c _ _ _ (by omega)]; exact hG k' c (by omega) hc
      · rw [zm_s, hi5 36 (by omega)]
    · rw [if_neg (by rw [zq_le (by omega) (by omega)]; exact hke)]
      refine zl_up (fun i (x : zWs × zzM) => ([nI k, nI i], [], x.2)) (fun i x => zgoS g s w k i = some x.1 ∧ w.1 ≤ x.1.1 ∧ x.1.1 ≤ 90 ∧ zfr [105, 130, 131] μ x.2 ∧ (∀ i, i ≠ 35 → x.2.1 105 i = μ.1 105 i) ∧ zmS x.1 x.2 ∧ (∀ k' c, k' < k → c < 52 → x.2.1 131 (52 * k' + c) = zgv (x.1.2.2 k' c)) ∧ (∀ j, j < i → x.2.1 131 (52 * k + (j + 26) % 52) = zgv (x.1.2.2 k ((j + 26) % 52)))) 0 52 (w, ν) (by omega) (by omega) rfl ⟨rfl, Nat.le_refl _, hw9, hf, hi5, hS, hG, fun j hj => absurd hj (by omega)⟩ ?_ ?_
      · rintro i ⟨x, y⟩ g' - hi ⟨a1, a2, a3, a4, a5, a6, a7, a8⟩ hgo2
        simp only at a1 a2 a3 a4 a5 a6 a7 a8
        have h2 := zm2_fr h a4 rfl
        simp only [zI0, zI1, zI2, zI3, zI4, zI5, zI6, zI7, zI8, zJ0, zJ1, zJ2, zMM]
        rw [if_neg (by rw [zq_le (by omega) (by omega)]; omega), if_neg (by decide), zq_add i 26, pk_rem (by omega) (by omega) (by omega), zq_add i 1]
        have hc : (i + 26) % 52 < 52 := Nat.mod_lt _ (by omega)
        refine zw_bind (m_laysGo h2 hg d a6 a3 (k := k) (c := (i + 26) % 52) (by omega) hc) ?_
        rintro ⟨⟨o1, o2, o3⟩, z⟩ ⟨b1, b2, b3⟩
        simp only at b1 b2 b3 ⊢
        have eS : zgoS g s w k (i + 1) = zgo1 g s x k ((i + 26) % 52) := by
          show (zgoS g s w k i).bind _ = _
          rw [a1]
          rfl
        rcases b3 with ⟨b3, b4⟩ | ⟨x', b3, b4, b5, b6, b7⟩
        · subst b4
          rw [if_pos (by decide), if_pos (by decide)]
          refine zw_some ⟨zf_trans a4 b1, fun i q1 _ => by rw [b2 i q1]; exact a5 i q1, .inl ⟨?_, rfl, by rw [b2 36 (by omega)]; exact a5 36 (by omega)⟩⟩
          have h5 : zgoS g s w k 52 = none := by
            have := zgoS_none (i := i + 1) (eS.trans b3) (52 - (i + 1))
            rwa [show i + 1 + (52 - (i + 1)) = 52 by omega] at this
          have h6 : zgoK g s (k + 1) = none := by
            show (zgoK g s k).bind _ = _
            rw [hK, Option.bind_some, if_pos (by omega), h5]
          have := zgoK_none h6 (90 - (k + 1))
          rwa [show k + 1 + (90 - (k + 1)) = 90 by omega] at this
        · subst b4
          rw [if_neg (by decide)]
          have hle := zgo1_le b3 a3
          refine hgo2 (x', z) ⟨eS.trans b3, by simp only; omega, hle.2, zf_trans a4 b1, fun i q1 => by rw [b2 i q1]; exact a5 i q1, b5, fun k' c q1 q2 => ?_, fun j hj => ?_⟩
          · simp only
            rw [b6 _ (by omega), zgo1_keep b3 k' c (by omega)]
            exact a7 k' c q1 q2
          · simp only
            by_cases ej : j = i
            · rw [ej]; exact b7
            · have hne : (j + 26) % 52 ≠ (i + 26) % 52 := by omega
              rw [b6 _ (by omega), zgo1_keep b3 k _ (fun q => hne q.2)]
              exact a8 j (by omega)
      · rintro ⟨x, y⟩ g' ⟨a1, a2, a3, a4, a5, a6, a7, a8⟩
        simp only at a1 a2 a3 a4 a5 a6 a7 a8
        simp only [zI0, zI1, zI2, zI3, zI4, zI5, zI6, zI7, zI8, zJ0, zJ1, zJ2, zMM]
        rw [if_pos (by decide), zq_add]
        have hK1 : zgoK g s (k + 1) = some x := by
          show (zgoK g s k).bind _ = _
          rw [hK, Option.bind_some, if_pos (by omega), a1]
        refine hgo (m - 1) (k + 1, x, y) (by omega) ⟨by simp only; omega, by simp only; omega, a3, hK1, a4, a5, a6, fun k' c q1 q2 => ?_⟩
        simp only at q1 ⊢
        by_cases e : k' = k
        · subst e
          by_cases hc : 26 ≤ c
          · have := a8 (c - 26) (by omega)
            rwa [show (c - 26 + 26) % 52 = c by omega] at this
          · have := a8 (c + 26) (by omega)
            rwa [show (c + 26 + 26) % 52 = c by omega] at this
        · exact a7 k' c (by omega) q2
