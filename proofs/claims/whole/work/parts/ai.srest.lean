/-! the rest of a right side, and a size made less -/
theorem cPt_fr {g : zG} {s : zSn} {f : Nat → Nat → Nat → Nat} {m n : Nat} {μ y : zzM} {L : List Nat} (h : cPt g s f m n μ) (hf : zfr L μ y) (hl : L.elem 50 = false) : cPt g s f m n y := fun r k i j a b c e q => by
  rw [zf_l hf hl]
  exact h r k i j a b c e q
def cRs (g : zG) (s : zSn) (f : Nat → Nat → Nat → Nat) (r n k i : Nat) (μ : zzM) : Prop := ∃ x, μ.2 51 (k * 13 + i) = lN x ∧ zmn 1152921504606846976 (zSR (zSP g s (zTf 1152921504606846976 f) r) n (gZ g r - k) k i) x
theorem s_findRest {g : zG} {s : zSn} {μ : zzM} (h : zc2 g s μ) (hg : zwg g) (hc : cCf true 36 37 38 39 g s μ) (hsl : sL s ≤ 12) (d : Nat) {f : Nat → Nat → Nat → Nat} {r m n : Nat} (hr : r < gN g) (hm : m ≤ n) (hn : n ≤ sL s) (hP : cPt g s f m n μ) (hS : zSo g s 1152921504606846976 f m n) : zw (zzf zzP zN (d + 3) 91 [.ref 48, .int (nI r), .int (nI m), .int (nI n)] μ) fun o => zfr [51] μ o.2 ∧ ∀ k i, k ≤ gZ g r → m ≤ i → i ≤ n → (k = 0 → i = m) → cRs g s f r n k i o.2 := by
  have hgn := g_n hg
  have hz := g_z hg hr
  rw [w_sizes_findRest, zr_i _ _ (by omega) (by omega), c_z h hr, Option.bind_some]
  refine zl_up (fun i (y : zzM) => ([nI r, nI m, nI n, nI (gZ g r), nI i], [], y)) (fun i y => zfr [51] μ y ∧ ∀ i', m ≤ i' → i' < i → cRs g s f r n (gZ g r) i' y) m (n + 1) μ (by omega) (by omega) rfl ⟨zf_refl _ _, fun i' a b => absurd a (by omega)⟩ ?_ ?_
  · rintro i y ga hi hin ⟨i1, i2⟩ hgo
    unfold L91_c
    simp only [zI0, zI1, zI2, zI3, zI4, zI5, zI6, zI7, zI8, zJ0, zJ1, zJ2, zMM]
    rw [if_neg (by rw [zq_lt (by omega) (by omega)]; omega)]
    simp (disch := omega) only [zq_eq, zq_mul, zq_add]
    have fin : ∀ x, zmn 1152921504606846976 (zSR (zSP g s (zTf 1152921504606846976 f) r) n 0 (gZ g r) i) x → zw (J91_b zN (d + 2) ga (nI r) (nI m) (nI n) (nI (gZ g r)) (nI i) (lN x) (nI (gZ g r * 13 + i)) y) fun o => zfr [51] μ o.2 ∧ ∀ k i, k ≤ gZ g r → m ≤ i → i ≤ n → (k = 0 → i = m) → cRs g s f r n k i o.2 := by
      intro x hx
      unfold J91_b
      rw [zs_l _ _ _ (by omega) (by omega), Option.bind_some, zq_add]
      refine hgo _ ⟨zf_twL _ _ i1 rfl, fun i' a b => ?_⟩
      by_cases e : i' = i
      · rw [e]
        refine ⟨x, by rw [zn_s], ?_⟩
        rw [Nat.sub_self]
        exact hx
      · obtain ⟨x', b1, b2⟩ := i2 i' a (by omega)
        exact ⟨x', by rw [zn_k _ _ _ _ (by omega)]; exact b1, b2⟩
    by_cases e : i = n
    · rw [if_pos e]
      exact fin 0 (zmn_0 ⟨e, rfl⟩)
    · rw [if_neg e]
      exact fin 1152921504606846976 (zmn_C fun p q => absurd q.1 e)
  · rintro y ga ⟨i1, i2⟩
    unfold L91_c
    simp only [zI0, zI1, zI2, zI3, zI4, zI5, zI6, zI7, zI8, zJ0, zJ1, zJ2, zMM]
    rw [if_pos (by rw [zq_lt (by omega) (by omega)]; omega), nJ_e]
    refine zl_dn (fun k (y : zzM) => ([nI r, nI m, nI n, nJ k], [], y)) (fun k y => zfr [51] μ y ∧ ∀ k' i, k ≤ k' → k' ≤ gZ g r → m ≤ i → i ≤ n → (k' = 0 → i = m) → cRs g s f r n k' i y) 0 (gZ g r) y (by omega) (by omega) rfl ⟨i1, fun k' i a b c e _ => by
      obtain rfl : k' = gZ g r := by omega
      exact i2 i c (by omega)⟩ ?_ ?_
    · rintro k z gb - hk ⟨j1, j2⟩ hgo
      unfold L91_b
      simp only [zI0, zI1, zI2, zI3, zI4, zI5, zI6, zI7, zI8, zJ0, zJ1, zJ2, zMM]
      rw [nJ_s, if_neg (nI_pos (by omega))]
      have fin : ∀ l, l ≤ n → m ≤ l → (k = 0 → l = m) → (k ≠ 0 → l = n) → zw (J91_a zN (d + 2) ga gb (nI r) (nI m) (nI n) (nI k) (nI l) z) fun o => zfr [51] μ o.2 ∧ ∀ k i, k ≤ gZ g r → m ≤ i → i ≤ n → (k = 0 → i = m) → cRs g s f r n k i o.2 := by
        intro l hl hml hl0 hl1
        unfold J91_a
        refine zl_up (fun i (y : zzM) => ([nI r, nI m, nI n, nI k, nI l, nI i], [], y)) (fun i y => zfr [51] μ y ∧ (∀ k' i, k + 1 ≤ k' → k' ≤ gZ g r → m ≤ i → i ≤ n → (k' = 0 → i = m) → cRs g s f r n k' i y) ∧ ∀ i', m ≤ i' → i' < i → cRs g s f r n k i' y) m (l + 1) z (by omega) (by omega) rfl ⟨j1, j2, fun i' a b => absurd a (by omega)⟩ ?_ ?_
        · rintro i x gc hi hil ⟨k1, k2, k3⟩ hgo2
          unfold L91_a
          simp only [zI0, zI1, zI2, zI3, zI4, zI5, zI6, zI7, zI8, zJ0, zJ1, zJ2, zMM]
          rw [if_neg (by rw [zq_lt (by omega) (by omega)]; omega)]
          obtain ⟨o, o1, o2, v, o3, o4⟩ := s_restFrom hg (cCf_fr hc k1 rfl) hsl d (e := gZ g r - (k + 1)) hr hk hi (by omega) hn (cPt_fr hP k1 rfl) hS (fun j a b => k2 (k + 1) j (Nat.le_refl _) (by omega) (by omega) b (fun q => by omega))
          rw [o1, Option.bind_some, o2, o3]
          simp only [zq_mul, zq_add]
          rw [zs_l _ _ _ (by omega) (by omega), Option.bind_some]
          refine hgo2 _ ⟨zf_twL _ _ k1 rfl, fun k' i' a b c e q => ?_, fun i' a b => ?_⟩
          · obtain ⟨x', b1, b2⟩ := k2 k' i' a b c e q
            exact ⟨x', by rw [zn_k _ _ _ _ (by omega)]; exact b1, b2⟩
          · by_cases e : i' = i
            · rw [e]
              refine ⟨v, by rw [zn_s], ?_⟩
              rw [show gZ g r - k = gZ g r - (k + 1) + 1 by omega]
              exact o4
            · obtain ⟨x', b1, b2⟩ := k3 i' a (by omega)
              exact ⟨x', by rw [zn_k _ _ _ _ (by omega)]; exact b1, b2⟩
        · rintro x gc ⟨k1, k2, k3⟩
          unfold L91_a
          simp only [zI0, zI1, zI2, zI3, zI4, zI5, zI6, zI7, zI8, zJ0, zJ1, zJ2, zMM]
          rw [if_pos (by rw [zq_lt (by omega) (by omega)]; omega), nJ_e]
          refine hgo x ⟨k1, fun k' i a b c e q => ?_⟩
          by_cases ek : k' = k
          · rw [ek] at q ⊢
            refine k3 i c ?_
            by_cases e0 : k = 0
            · have := q e0
              have := hl0 e0
              omega
            · have := hl1 e0
              omega
          · exact k2 k' i (by omega) b c e q
      simp (disch := omega) only [zq_e0]
      by_cases e0 : k = 0
      · rw [if_pos e0]
        exact fin m hm (Nat.le_refl _) (fun _ => rfl) fun q => absurd e0 q
      · rw [if_neg e0]
        exact fin n (Nat.le_refl _) hm (fun q => absurd q e0) fun _ => rfl
    · rintro z gb ⟨j1, j2⟩
      unfold L91_b
      simp only [zI0, zI1, zI2, zI3, zI4, zI5, zI6, zI7, zI8, zJ0, zJ1, zJ2, zMM]
      rw [if_pos (show nJ 0 < 0 by decide)]
      exact zw_some ⟨j1, fun k i a b c e => j2 k i (Nat.zero_le _) a b c e⟩
