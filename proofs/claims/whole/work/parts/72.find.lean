/-! STATES of the class: find -/
/-- all that the class holds of the states -/
def zcSt (w : zWs) (μ : zzM) : Prop := zcS w μ ∧ w.1 ≤ 90 ∧ ∀ k c, k < w.1 → c < 52 → μ.1 28 (k * 52 + c) = zgc (w.2.2 k c)
theorem s_find_3 {g : zG} {s : zSn} {μ : zzM} (h : zcG 3 4 5 6 7 8 9 g μ) (hg : zwg g) (hn0 : 0 < gN g) (d : Nat) : zw (zzf zzP zN (d + 3) 47 [.ref 26, .ref 3, .int (sT s)] μ) fun o => zfr [26, 27, 28, 29, 30] μ o.2 ∧ ((zLay g s = none ∧ o.1.1 = zB false ∧ o.2.1 26 0 = nI 0) ∨ ∃ w, zLay g s = some w ∧ o.1.1 = zB true ∧ zcSt w o.2 ∧ o.2.1 26 0 = nI 1) := by
  have hl0 := g_l hg hn0
  rw [u_states_find_26_3, if_pos (by decide)]
  have h0 : zcG 3 4 5 6 7 8 9 g (zzwI μ 26 0 (nI 0)) := zcG_fr (L := [26]) h (zf_wI _ _ rfl) rfl
  refine zw_bind (s_findPoints_3 (s := s) h0 hg d) ?_
  rintro ⟨o1, ν⟩ ⟨p1, p2, p3⟩
  simp only at p1 p2 p3 ⊢
  have h1 := zcG_fr h0 p1 rfl
  have i26 : ν.1 26 = (zzwI μ 26 0 (nI 0)).1 26 := zf_i p1 rfl
  have f1 : zfr [26, 27, 28, 29, 30] μ ν := zf_trans (zf_wI _ _ rfl) (zf_mono p1 rfl)
  have hst : ν.2 30 (gL g 0 - 26) = zst0 g s := by
    refine zmk_eq fun i hi => ?_
    rw [p3 _ (by omega) i hi, zP_cl hg, zcl_cg fun i => ?_]
    unfold zbg
    rw [show 26 + (gL g 0 - 26) = gL g 0 by omega]
  rw [zr_i _ _ (by omega) (by omega), h1.2.2.1 0 hn0, Option.bind_some, zq_sub hl0.1, zr_l _ _ (by omega) (by omega), Option.bind_some, zs_l _ _ _ (by omega) (by omega), Option.bind_some, hst]
  refine zl_ms (fun x : Nat × zWs × zzM => ([nI x.1], [], x.2.2)) (fun m x => m + x.1 = 90 ∧ x.1 ≤ x.2.1.1 ∧ x.2.1.1 ≤ 90 ∧ zgoK g s x.1 = some x.2.1 ∧ zfr [26, 27, 28] ν x.2.2 ∧ x.2.2.1 26 0 = nI 0 ∧ zcS x.2.1 x.2.2 ∧ zokW g s x.2.1 ∧ ∀ k c, k < x.1 → c < 52 → x.2.2.1 28 (k * 52 + c) = zgc (x.2.1.2.2 k c)) 90 (0, (1, fun _ => zst0 g s, fun _ _ => none), _) (by omega) rfl ⟨rfl, by simp only; omega, by simp only; omega, rfl, zf_twI _ _ (zf_wL _ _ rfl) rfl, ?_, ⟨?_, fun j hj => ?_⟩, fun j hj => ?_, fun k c hk => absurd hk (by simp only; omega)⟩ ?_
  · show (zzwI (zzwL ν 27 0 _) 26 1 _).1 26 0 = _
    rw [zm_k _ _ _ _ (by omega), zn_1, i26, zm_s]
  · show (zzwI (zzwL ν 27 0 _) 26 1 _).1 26 1 = _
    rw [zm_s]
  · show (zzwI (zzwL ν 27 0 _) 26 1 _).2 27 j = _
    simp only at hj
    rw [zm_2, show j = 0 by omega, zn_s]
  · refine zok_mk (zok_cl ?_)
    rintro i ⟨q, t1, -, t3⟩
    exact ⟨q, 0, t1, by omega, by omega⟩
  · rintro m ⟨k, w, y⟩ gg ⟨hm, hkw, hw9, hK, hf, h26, hS, hO, hG⟩ hgo
    simp only at hm hkw hw9 hK hf h26 hS hO hG
    have hA : ∀ x, x < 52 → ∀ i, i < 64 → (bl (y.2 29 x) i = true ↔ zah g s x i) := by rw [zf_l hf rfl]; exact p2
    have hB : ∀ c, c < 26 → ∀ i, i < 64 → (bl (y.2 30 c) i = true ↔ zlfp (zfP g s i) c) := by rw [zf_l hf rfl]; exact p3
    simp only [zI0, zI1, zI2, zI3, zI4, zI5, zI6, zI7, zI8, zJ0, zJ1, zJ2, zMM]
    rw [hS.1]
    by_cases hke : w.1 ≤ k
    · rw [if_pos (by rw [zq_le (by omega) (by omega)]; exact hke), if_pos (by decide), if_pos (by decide)]
      have hLay : zLay g s = some w := by
        have := zgoK_st hK hke (90 - k)
        rwa [show k + (90 - k) = 90 by omega] at this
      refine zw_some ⟨zf_twI _ _ (zf_trans f1 (zf_mono hf rfl)) rfl, .inr ⟨w, hLay, rfl, ⟨⟨?_, fun j hj => hS.2 j hj⟩, hw9, fun k' c hk' hc => ?_⟩, ?_⟩⟩
      · rw [zm_k _ _ _ _ (by omega)]; exact hS.1
      · rw [zm_c _ _ _ (by omega)]; exact hG k' c (by omega) hc
      · rw [zm_s]
    · rw [if_neg (by rw [zq_le (by omega) (by omega)]; exact hke), if_neg (by rw [zq_le (by omega) (by omega)]; omega)]
      have hK1 : zgoK g s (k + 1) = zgoS g s w k 52 := by
        show (zgoK g s k).bind _ = _
        rw [hK, Option.bind_some, if_pos (by omega)]
      have fail : zgoS g s w k 52 = none → zLay g s = none := by
        intro q
        have := zgoK_none (hK1.trans q) (90 - (k + 1))
        rwa [show k + 1 + (90 - (k + 1)) = 90 by omega] at this
      refine zw_bind (s_goOn hg d hA hB (w0 := w) (w := w) (k := k) (j0 := 0) (lo := 26) (.inl ⟨rfl, rfl⟩) rfl (by omega) hw9 hS hO (fun k' c hc q => hG k' c (q.elim id fun ⟨_, j, hj, _⟩ => absurd hj (by omega)) hc)) ?_
      rintro ⟨⟨o2, o3, o4⟩, z⟩ ⟨b1, b2, b3⟩
      simp only at b1 b2 b3 ⊢
      rcases b3 with ⟨b3, b4⟩ | ⟨w1, b3, b4, b5, b6, b7, b8, b9⟩
      · subst b3
        rw [if_pos (by decide), if_pos (by decide)]
        refine zw_some ⟨zf_trans f1 (zf_trans (zf_mono hf rfl) (zf_mono b1 rfl)), .inl ⟨fail ?_, rfl, by rw [b2 0 (by omega)]; exact h26⟩⟩
        exact zgoS_none b4 26
      · subst b3
        rw [if_neg (by decide)]
        have hA2 : ∀ x, x < 52 → ∀ i, i < 64 → (bl (z.2 29 x) i = true ↔ zah g s x i) := by rw [zf_l b1 rfl]; exact hA
        have hB2 : ∀ c, c < 26 → ∀ i, i < 64 → (bl (z.2 30 c) i = true ↔ zlfp (zfP g s i) c) := by rw [zf_l b1 rfl]; exact hB
        refine zw_bind (s_goOn hg d hA2 hB2 (w0 := w) (w := w1) (k := k) (j0 := 26) (lo := 0) (.inr ⟨rfl, rfl⟩) b4 (by omega) b6 b7 b8 b9) ?_
        rintro ⟨⟨o5, o6, o7⟩, v⟩ ⟨c1, c2, c3⟩
        simp only at c1 c2 c3 ⊢
        rcases c3 with ⟨c3, c4⟩ | ⟨w2, c3, c4, c5, c6, c7, c8, c9⟩
        · subst c3
          rw [if_pos (by decide), if_pos (by decide)]
          exact zw_some ⟨zf_trans f1 (zf_trans (zf_mono hf rfl) (zf_trans (zf_mono b1 rfl) (zf_mono c1 rfl))), .inl ⟨fail c4, rfl, by rw [c2 0 (by omega), b2 0 (by omega)]; exact h26⟩⟩
        · subst c3
          rw [if_neg (by decide), zq_add]
          refine hgo (m - 1) (k + 1, w2, v) (by omega) ⟨by simp only; omega, by simp only; omega, c6, hK1.trans c4, zf_trans hf (zf_trans b1 c1), by rw [c2 0 (by omega), b2 0 (by omega)]; exact h26, c7, c8, fun k' c q1 q2 => c9 k' c q2 ?_⟩
          simp only at q1
          by_cases e : k' = k
          · refine .inr ⟨e, ?_⟩
            by_cases hc : 26 ≤ c
            · exact ⟨c - 26, by omega, by omega⟩
            · exact ⟨c + 26, by omega, by omega⟩
          · exact .inl (by omega)
theorem s_find_14 {g : zG} {s : zSn} {μ : zzM} (h : zcG 14 15 16 17 18 19 20 g μ) (hg : zwg g) (hn0 : 0 < gN g) (d : Nat) : zw (zzf zzP zN (d + 3) 47 [.ref 26, .ref 14, .int (sT s)] μ) fun o => zfr [26, 27, 28, 29, 30] μ o.2 ∧ ((zLay g s = none ∧ o.1.1 = zB false ∧ o.2.1 26 0 = nI 0) ∨ ∃ w, zLay g s = some w ∧ o.1.1 = zB true ∧ zcSt w o.2 ∧ o.2.1 26 0 = nI 1) := by
  have hl0 := g_l hg hn0
  rw [u_states_find_26_14, if_pos (by decide)]
  have h0 : zcG 14 15 16 17 18 19 20 g (zzwI μ 26 0 (nI 0)) := zcG_fr (L := [26]) h (zf_wI _ _ rfl) rfl
  refine zw_bind (s_findPoints_14 (s := s) h0 hg d) ?_
  rintro ⟨o1, ν⟩ ⟨p1, p2, p3⟩
  simp only at p1 p2 p3 ⊢
  have h1 := zcG_fr h0 p1 rfl
  have i26 : ν.1 26 = (zzwI μ 26 0 (nI 0)).1 26 := zf_i p1 rfl
  have f1 : zfr [26, 27, 28, 29, 30] μ ν := zf_trans (zf_wI _ _ rfl) (zf_mono p1 rfl)
  have hst : ν.2 30 (gL g 0 - 26) = zst0 g s := by
    refine zmk_eq fun i hi => ?_
    rw [p3 _ (by omega) i hi, zP_cl hg, zcl_cg fun i => ?_]
    unfold zbg
    rw [show 26 + (gL g 0 - 26) = gL g 0 by omega]
  rw [zr_i _ _ (by omega) (by omega), h1.2.2.1 0 hn0, Option.bind_some, zq_sub hl0.1, zr_l _ _ (by omega) (by omega), Option.bind_some, zs_l _ _ _ (by omega) (by omega), Option.bind_some, hst]
  refine zl_ms (fun x : Nat × zWs × zzM => ([nI x.1], [], x.2.2)) (fun m x => m + x.1 = 90 ∧ x.1 ≤ x.2.1.1 ∧ x.2.1.1 ≤ 90 ∧ zgoK g s x.1 = some x.2.1 ∧ zfr [26, 27, 28] ν x.2.2 ∧ x.2.2.1 26 0 = nI 0 ∧ zcS x.2.1 x.2.2 ∧ zokW g s x.2.1 ∧ ∀ k c, k < x.1 → c < 52 → x.2.2.1 28 (k * 52 + c) = zgc (x.2.1.2.2 k c)) 90 (0, (1, fun _ => zst0 g s, fun _ _ => none), _) (by omega) rfl ⟨rfl, by simp only; omega, by simp only; omega, rfl, zf_twI _ _ (zf_wL _ _ rfl) rfl, ?_, ⟨?_, fun j hj => ?_⟩, fun j hj => ?_, fun k c hk => absurd hk (by simp only; omega)⟩ ?_
  · show (zzwI (zzwL ν 27 0 _) 26 1 _).1 26 0 = _
    rw [zm_k _ _ _ _ (by omega), zn_1, i26, zm_s]
  · show (zzwI (zzwL ν 27 0 _) 26 1 _).1 26 1 = _
    rw [zm_s]
  · show (zzwI (zzwL ν 27 0 _) 26 1 _).2 27 j = _
    simp only at hj
    rw [zm_2, show j = 0 by omega, zn_s]
  · refine zok_mk (zok_cl ?_)
    rintro i ⟨q, t1, -, t3⟩
    exact ⟨q, 0, t1, by omega, by omega⟩
  · rintro m ⟨k, w, y⟩ gg ⟨hm, hkw, hw9, hK, hf, h26, hS, hO, hG⟩ hgo
    simp only at hm hkw hw9 hK hf h26 hS hO hG
    have hA : ∀ x, x < 52 → ∀ i, i < 64 → (bl (y.2 29 x) i = true ↔ zah g s x i) := by rw [zf_l hf rfl]; exact p2
    have hB : ∀ c, c < 26 → ∀ i, i < 64 → (bl (y.2 30 c) i = true ↔ zlfp (zfP g s i) c) := by rw [zf_l hf rfl]; exact p3
    simp only [zI0, zI1, zI2, zI3, zI4, zI5, zI6, zI7, zI8, zJ0, zJ1, zJ2, zMM]
    rw [hS.1]
    by_cases hke : w.1 ≤ k
    · rw [if_pos (by rw [zq_le (by omega) (by omega)]; exact hke), if_pos (by decide), if_pos (by decide)]
      have hLay : zLay g s = some w := by
        have := zgoK_st hK hke (90 - k)
        rwa [show k + (90 - k) = 90 by omega] at this
      refine zw_some ⟨zf_twI _ _ (zf_trans f1 (zf_mono hf rfl)) rfl, .inr ⟨w, hLay, rfl, ⟨⟨?_, fun j hj => hS.2 j hj⟩, hw9, fun k' c hk' hc => ?_⟩, ?_⟩⟩
      · rw [zm_k _ _ _ _ (by omega)]; exact hS.1
      · rw [zm_c _ _ _ (by omega)]; exact hG k' c (by omega) hc
      · rw [zm_s]
    · rw [if_neg (by rw [zq_le (by omega) (by omega)]; exact hke), if_neg (by rw [zq_le (by omega) (by omega)]; omega)]
      have hK1 : zgoK g s (k + 1) = zgoS g s w k 52 := by
        show (zgoK g s k).bind _ = _
        rw [hK, Option.bind_some, if_pos (by omega)]
      have fail : zgoS g s w k 52 = none → zLay g s = none := by
        intro q
        have := zgoK_none (hK1.trans q) (90 - (k + 1))
        rwa [show k + 1 + (90 - (k + 1)) = 90 by omega] at this
      refine zw_bind (s_goOn hg d hA hB (w0 := w) (w := w) (k := k) (j0 := 0) (lo := 26) (.inl ⟨rfl, rfl⟩) rfl (by omega) hw9 hS hO (fun k' c hc q => hG k' c (q.elim id fun ⟨_, j, hj, _⟩ => absurd hj (by omega)) hc)) ?_
      rintro ⟨⟨o2, o3, o4⟩, z⟩ ⟨b1, b2, b3⟩
      simp only at b1 b2 b3 ⊢
      rcases b3 with ⟨b3, b4⟩ | ⟨w1, b3, b4, b5, b6, b7, b8, b9⟩
      · subst b3
        rw [if_pos (by decide), if_pos (by decide)]
        refine zw_some ⟨zf_trans f1 (zf_trans (zf_mono hf rfl) (zf_mono b1 rfl)), .inl ⟨fail ?_, rfl, by rw [b2 0 (by omega)]; exact h26⟩⟩
        exact zgoS_none b4 26
      · subst b3
        rw [if_neg (by decide)]
        have hA2 : ∀ x, x < 52 → ∀ i, i < 64 → (bl (z.2 29 x) i = true ↔ zah g s x i) := by rw [zf_l b1 rfl]; exact hA
        have hB2 : ∀ c, c < 26 → ∀ i, i < 64 → (bl (z.2 30 c) i = true ↔ zlfp (zfP g s i) c) := by rw [zf_l b1 rfl]; exact hB
        refine zw_bind (s_goOn hg d hA2 hB2 (w0 := w) (w := w1) (k := k) (j0 := 26) (lo := 0) (.inr ⟨rfl, rfl⟩) b4 (by omega) b6 b7 b8 b9) ?_
        rintro ⟨⟨o5, o6, o7⟩, v⟩ ⟨c1, c2, c3⟩
        simp only at c1 c2 c3 ⊢
        rcases c3 with ⟨c3, c4⟩ | ⟨w2, c3, c4, c5, c6, c7, c8, c9⟩
        · subst c3
          rw [if_pos (by decide), if_pos (by decide)]
          exact zw_some ⟨zf_trans f1 (zf_trans (zf_mono hf rfl) (zf_trans (zf_mono b1 rfl) (zf_mono c1 rfl))), .inl ⟨fail c4, rfl, by rw [c2 0 (by omega), b2 0 (by omega)]; exact h26⟩⟩
        · subst c3
          rw [if_neg (by decide), zq_add]
          refine hgo (m - 1) (k + 1, w2, v) (by omega) ⟨by simp only; omega, by simp only; omega, c6, hK1.trans c4, zf_trans hf (zf_trans b1 c1), by rw [c2 0 (by omega), b2 0 (by omega)]; exact h26, c7, c8, fun k' c q1 q2 => c9 k' c q2 ?_⟩
          simp only at q1
          by_cases e : k' = k
          · refine .inr ⟨e, ?_⟩
            by_cases hc : 26 ≤ c
            · exact ⟨c - 26, by omega, by omega⟩
            · exact ⟨c + 26, by omega, by omega⟩
          · exact .inl (by omega)
