/-! STATES of the class: goOn -/
def zgc (o : Option Nat) : Int32 := match o with
  | none => -(nI 2)
  | some j => nI j
def zcS (w : zWs) (μ : zzM) : Prop := μ.1 26 1 = nI w.1 ∧ ∀ j, j < w.1 → μ.2 27 j = w.2.1 j
def zokW (g : zG) (s : zSn) (w : zWs) : Prop := ∀ j, j < w.1 → zok g s fun i => i < 64 ∧ bl (w.2.1 j) i = true
theorem zokW_1 {g : zG} {s : zSn} (hg : zwg g) {w w' : zWs} {k c : Nat} (hk : k < w.1) (hw : zokW g s w) (h : zgo1 g s w k c = some w') : zokW g s w' := by
  unfold zgo1 at h
  split at h
  · cases h; exact hw
  · split at h
    · cases h; exact hw
    · split at h
      · cases h
      · cases h
        intro j hj
        show zok g s fun i => i < 64 ∧ bl (zup1 w.2.1 w.1 (zmv g s (w.2.1 k) c) j) i = true
        unfold zup1
        by_cases e : j = w.1
        · rw [if_pos e]
          exact zok_mk (zok_cl (zok_bh hg (hw k hk) c))
        · rw [if_neg e]
          simp only at hj
          exact hw j (by omega)
theorem s_goOn {g : zG} {s : zSn} (hg : zwg g) (d : Nat) {μ : zzM} (hA : ∀ x, x < 52 → ∀ i, i < 64 → (bl (μ.2 29 x) i = true ↔ zah g s x i)) (hB : ∀ c, c < 26 → ∀ i, i < 64 → (bl (μ.2 30 c) i = true ↔ zlfp (zfP g s i) c)) {w0 w : zWs} {k j0 lo : Nat} (hj0 : (j0 = 0 ∧ lo = 26) ∨ (j0 = 26 ∧ lo = 0)) (hK : zgoS g s w0 k j0 = some w) (hk : k < w.1) (hw9 : w.1 ≤ 90) (hS : zcS w μ) (hO : zokW g s w) (hG : ∀ k' c, c < 52 → (k' < k ∨ (k' = k ∧ ∃ j, j < j0 ∧ c = (j + 26) % 52)) → μ.1 28 (k' * 52 + c) = zgc (w.2.2 k' c)) :
    zw (zzf zzP zN (d + 2) 50 [.ref 26, .int (nI k), .int (nI lo), .int (nI (lo + 26))] μ) fun o => zfr [26, 27, 28] μ o.2 ∧ (∀ i, i ≠ 1 → o.2.1 26 i = μ.1 26 i) ∧ ((o.1.1 = zB false ∧ zgoS g s w0 k (j0 + 26) = none) ∨ ∃ w', o.1.1 = zB true ∧ zgoS g s w0 k (j0 + 26) = some w' ∧ w.1 ≤ w'.1 ∧ w'.1 ≤ 90 ∧ zcS w' o.2 ∧ zokW g s w' ∧ (∀ k' c, c < 52 → (k' < k ∨ (k' = k ∧ ∃ j, j < j0 + 26 ∧ c = (j + 26) % 52)) → o.2.1 28 (k' * 52 + c) = zgc (w'.2.2 k' c))) := by
  rw [u_states_goOn]
  refine zl_up (fun t (x : zWs × zzM) => ([nI k, nI (lo + 26), nI (lo + t)], [], x.2)) (fun t x => zgoS g s w0 k (j0 + t) = some x.1 ∧ w.1 ≤ x.1.1 ∧ x.1.1 ≤ 90 ∧ zfr [26, 27, 28] μ x.2 ∧ (∀ i, i ≠ 1 → x.2.1 26 i = μ.1 26 i) ∧ zcS x.1 x.2 ∧ zokW g s x.1 ∧ (∀ k' c, c < 52 → (k' < k ∨ (k' = k ∧ ∃ j, j < j0 + t ∧ c = (j + 26) % 52)) → x.2.1 28 (k' * 52 + c) = zgc (x.1.2.2 k' c))) 0 26 (w, μ) (by omega) (by omega) rfl ⟨hK, Nat.le_refl _, hw9, zf_refl _ _, fun _ _ => rfl, hS, hO, hG⟩ ?_ ?_
  · rintro t ⟨x, y⟩ g' - ht ⟨a1, a2, a3, a4, a5, a6, a7, a8⟩ hgo
    simp only at a1 a2 a3 a4 a5 a6 a7 a8
    have hc : lo + t < 52 := by omega
    have hcc : (j0 + t + 26) % 52 = lo + t := by omega
    have hA2 : ∀ x, x < 52 → ∀ i, i < 64 → (bl (y.2 29 x) i = true ↔ zah g s x i) := by rw [zf_l a4 rfl]; exact hA
    have hB2 : ∀ c, c < 26 → ∀ i, i < 64 → (bl (y.2 30 c) i = true ↔ zlfp (zfP g s i) c) := by rw [zf_l a4 rfl]; exact hB
    have hkx : k < x.1 := by omega
    obtain ⟨m1, m2⟩ := s_move hg d (a7 k hkx) (c := lo + t) hc hA2 hB2
    have eS : zgoS g s w0 k (j0 + (t + 1)) = zgo1 g s x k (lo + t) := by
      show (zgoS g s w0 k (j0 + t)).bind _ = _
      rw [a1, Option.bind_some]
      show zgo1 g s x k ((j0 + t + 26) % 52) = _
      rw [hcc]
    have gu : ∀ v, zgoU x.2.2 k (lo + t) v k (lo + t) = v := fun v => if_pos ⟨rfl, rfl⟩
    -- what is told of the rows behind a step
    have rows : ∀ (x' : zWs) (z : zzM), zgo1 g s x k (lo + t) = some x' → (∀ i, i ≠ k * 52 + (lo + t) → z.1 28 i = y.1 28 i) → z.1 28 (k * 52 + (lo + t)) = zgc (x'.2.2 k (lo + t)) → ∀ k' c, c < 52 → (k' < k ∨ (k' = k ∧ ∃ j, j < j0 + (t + 1) ∧ c = (j + 26) % 52)) → z.1 28 (k' * 52 + c) = zgc (x'.2.2 k' c) := by
      intro x' z h1 h2 h3 k' c hc2 h4
      by_cases e : k' = k ∧ c = lo + t
      · rw [e.1, e.2]; exact h3
      · rw [h2 _ (by omega), zgo1_keep h1 k' c e]
        refine a8 k' c hc2 (h4.imp id fun q => ⟨q.1, ?_⟩)
        obtain ⟨q1, j, q2, q3⟩ := q
        refine ⟨j, ?_, q3⟩
        apply Nat.lt_of_not_le
        intro hle
        have ej : j = j0 + t := by omega
        rw [ej, hcc] at q3
        exact e ⟨q1, q3⟩
    simp only [zI0, zI1, zI2, zI3, zI4, zI5, zI6, zI7, zI8, zJ0, zJ1, zJ2, zMM]
    rw [if_neg (by rw [zq_le (by omega) (by omega)]; omega), zr_l _ _ (by omega) (by omega), Option.bind_some, zr_l _ _ hc (by omega), Option.bind_some, a6.2 k hkx, zq_mul, zq_add, zq_add]
    simp only [l_cmp]
    by_cases hx : zmv g s (x.2.1 k) (lo + t) = lN 0
    · rw [if_pos (m1.2 hx), zs_i _ _ _ (by omega) (by omega), Option.bind_some]
      have e1 : zgo1 g s x k (lo + t) = some (x.1, x.2.1, zgoU x.2.2 k (lo + t) none) := by
        unfold zgo1
        rw [if_pos hx]
      refine hgo ((x.1, x.2.1, zgoU x.2.2 k (lo + t) none), _) ⟨eS.trans e1, a2, a3, zf_twI _ _ a4 rfl, fun i hi => ?_, ⟨?_, fun j hj => a6.2 j hj⟩, a7, rows _ _ e1 (fun i hi => zm_k _ _ _ _ hi) ?_⟩
      · show (zzwI y 28 _ _).1 26 i = _
        rw [zm_c _ _ _ (by omega)]; exact a5 i hi
      · show (zzwI y 28 _ _).1 26 1 = _
        rw [zm_c _ _ _ (by omega)]; exact a6.1
      · show (zzwI y 28 _ _).1 28 _ = zgc (zgoU x.2.2 k (lo + t) none k (lo + t))
        rw [zm_s, gu]
        rfl
    · rw [if_neg (fun q => hx (m1.1 q)), m2 hx, Option.bind_some, s_numberOf _ _ a3 a6.1 x.2.1 a6.2]
      cases hf : zfnd x.2.1 (zmv g s (x.2.1 k) (lo + t)) x.1 with
      | some j =>
        have hj := zfnd_lt hf
        simp only
        rw [Option.bind_some, if_neg (by rw [zq_em (by omega)]; exact id), zs_i _ _ _ (by omega) (by omega), Option.bind_some]
        have e1 : zgo1 g s x k (lo + t) = some (x.1, x.2.1, zgoU x.2.2 k (lo + t) (some j)) := by
          unfold zgo1
          rw [if_neg hx, hf]
        refine hgo ((x.1, x.2.1, zgoU x.2.2 k (lo + t) (some j)), _) ⟨eS.trans e1, a2, a3, zf_twI _ _ a4 rfl, fun i hi => ?_, ⟨?_, fun j hj => a6.2 j hj⟩, a7, rows _ _ e1 (fun i hi => zm_k _ _ _ _ hi) ?_⟩
        · show (zzwI y 28 _ _).1 26 i = _
          rw [zm_c _ _ _ (by omega)]; exact a5 i hi
        · show (zzwI y 28 _ _).1 26 1 = _
          rw [zm_c _ _ _ (by omega)]; exact a6.1
        · show (zzwI y 28 _ _).1 28 _ = zgc (zgoU x.2.2 k (lo + t) (some j) k (lo + t))
          rw [zm_s, gu]
          rfl
      | none =>
        simp only
        by_cases h90 : x.1 = 90
        · rw [if_pos h90, Option.bind_some, if_pos rfl, if_pos (by decide)]
          have e1 : zgo1 g s x k (lo + t) = none := by
            unfold zgo1
            rw [if_neg hx, hf]
            simp only
            rw [if_pos h90]
          refine zw_some ⟨a4, a5, .inl ⟨rfl, ?_⟩⟩
          have := zgoS_none (eS.trans e1) (26 - (t + 1))
          rwa [show j0 + (t + 1) + (26 - (t + 1)) = j0 + 26 by omega] at this
        · rw [if_neg h90, Option.bind_some, if_neg (by rw [zq_em (by omega)]; exact id), zs_i _ _ _ (by omega) (by omega), Option.bind_some]
          have e1 : zgo1 g s x k (lo + t) = some (x.1 + 1, zup1 x.2.1 x.1 (zmv g s (x.2.1 k) (lo + t)), zgoU x.2.2 k (lo + t) (some x.1)) := by
            unfold zgo1
            rw [if_neg hx, hf]
            simp only
            rw [if_neg h90]
          have hO2 := zokW_1 hg hkx a7 e1
          refine hgo ((x.1 + 1, zup1 x.2.1 x.1 (zmv g s (x.2.1 k) (lo + t)), zgoU x.2.2 k (lo + t) (some x.1)), _) ⟨eS.trans e1, by simp only; omega, by simp only; omega, zf_twI _ _ (zf_twI _ _ (zf_twL _ _ a4 rfl) rfl) rfl, fun i hi => ?_, ⟨?_, fun j hj => ?_⟩, hO2, rows _ _ e1 (fun i hi => ?_) ?_⟩
          · show (zzwI (zzwI (zzwL y 27 x.1 _) 26 1 _) 28 _ _).1 26 i = _
            rw [zm_c _ _ _ (by omega), zm_k _ _ _ _ hi, zn_1]; exact a5 i hi
          · show (zzwI (zzwI (zzwL y 27 x.1 _) 26 1 _) 28 _ _).1 26 1 = _
            rw [zm_c _ _ _ (by omega), zm_s]
          · show (zzwI (zzwI (zzwL y 27 x.1 _) 26 1 _) 28 _ _).2 27 j = zup1 x.2.1 x.1 (zmv g s (x.2.1 k) (lo + t)) j
            rw [zm_2, zm_2, zn_if]
            unfold zup1
            by_cases ej : j = x.1
            · rw [if_pos ej, if_pos ej]
            · rw [if_neg ej, if_neg ej]
              simp only at hj
              exact a6.2 j (by omega)
          · show (zzwI (zzwI (zzwL y 27 x.1 _) 26 1 _) 28 _ _).1 28 i = _
            rw [zm_k _ _ _ _ hi, zm_c _ _ _ (by omega), zn_1]
          · show (zzwI (zzwI (zzwL y 27 x.1 _) 26 1 _) 28 _ _).1 28 _ = zgc (zgoU x.2.2 k (lo + t) (some x.1) k (lo + t))
            rw [zm_s, gu]
            rfl
  · rintro ⟨x, y⟩ g' ⟨a1, a2, a3, a4, a5, a6, a7, a8⟩
    simp only at a1 a2 a3 a4 a5 a6 a7 a8
    simp only [zI0, zI1, zI2, zI3, zI4, zI5, zI6, zI7, zI8, zJ0, zJ1, zJ2, zMM]
    rw [if_pos (by rw [zq_le (by omega) (by omega)]; omega), if_pos (by decide)]
    exact zw_some ⟨a4, a5, .inr ⟨x, rfl, a1, a2, a3, a6, a7, a8⟩⟩
