/-! a size made less; the sizes of a part settled -/
def zu3 (f : Nat → Nat → Nat → Nat) (r m n v q i j : Nat) : Nat := if q = r ∧ i = m ∧ j = n then v else f q i j
theorem zu3_s (f : Nat → Nat → Nat → Nat) (r m n v : Nat) : zu3 f r m n v r m n = v := if_pos ⟨rfl, rfl, rfl⟩
theorem zu3_o (f : Nat → Nat → Nat → Nat) {r m n v q i j : Nat} (h : ¬ (q = r ∧ i = m ∧ j = n)) : zu3 f r m n v q i j = f q i j := if_neg h
def cSz (g : zG) (s : zSn) (f : Nat → Nat → Nat → Nat) (D : Nat → Nat → Prop) (μ : zzM) : Prop := ∀ i j, i ≤ j → j ≤ 12 → D i j → (∀ q, q < gN g → μ.2 49 (q * 91 + zsp i j) = lN (f q i j) ∧ f q i j ≤ 1152921504606846976) ∧ ∀ r k, r < gN g → k < gZ g r → ∃ x, μ.2 50 ((r * 4 + k) * 91 + zsp i j) = lN x ∧ zmn 1152921504606846976 (zSP g s (zTf 1152921504606846976 f) r k i j) x
theorem cSz_pt {g : zG} {s : zSn} {f : Nat → Nat → Nat → Nat} {D : Nat → Nat → Prop} {μ : zzM} (h : cSz g s f D μ) {m n : Nat} (hn : n ≤ 12) (hD : ∀ i j, m ≤ i → i ≤ j → j ≤ n → D i j) : cPt g s f m n μ := fun r k i j a b c e q => (h i j e (by omega) (hD i j c e q)).2 r k a b
theorem zSP_u {g : zG} {s : zSn} {C : Nat} {f : Nat → Nat → Nat → Nat} {r m n v r' k i j p : Nat} (h : zbl true g s r' k r = false ∨ ¬ (i = m ∧ j = n)) : zSP g s (zTf C (zu3 f r m n v)) r' k i j p ↔ zSP g s (zTf C f) r' k i j p := by
  constructor
  · rintro (e | ⟨a, q, b, c, e⟩)
    · exact .inl e
    · have hne : ¬ (q = r ∧ i = m ∧ j = n) := fun x => h.elim (fun y => by rw [x.1, y] at b; cases b) fun y => y x.2
      rw [zu3_o f hne] at c
      exact .inr ⟨a, q, b, c, e⟩
  · rintro (e | ⟨a, q, b, c, e⟩)
    · exact .inl e
    · have hne : ¬ (q = r ∧ i = m ∧ j = n) := fun x => h.elim (fun y => by rw [x.1, y] at b; cases b) fun y => y x.2
      exact .inr ⟨a, q, b, by rw [zu3_o f hne]; exact c, e⟩
theorem zbl_26 {b : Bool} {g : zG} {s : zSn} (hg : zwg g) {r k q : Nat} (h : zbl b g s r k q = true) : 26 ≤ gS g r k := by
  have hq := zb_lt h
  unfold zbl at h
  simp only [Bool.and_eq_true, decide_eq_true_eq] at h
  rw [← h.2.1]
  exact (g_l hg hq).1
/-- the least of a place when one of its rules has less -/
theorem zSP_t {g : zG} {s : zSn} (hg : zwg g) {C : Nat} {f : Nat → Nat → Nat → Nat} {r m n v r' k x : Nat} (hv : v < f r m n) (hC : v < C) (hb : zbl true g s r' k r = true) (hx : zmn C (zSP g s (zTf C f) r' k m n) x) : zmn C (zSP g s (zTf C (zu3 f r m n v)) r' k m n) (if x ≤ v then x else v) := by
  have h26 := zbl_26 hg hb
  have hlow : ∀ p, zSP g s (zTf C (zu3 f r m n v)) r' k m n p → p = v ∨ x ≤ p := by
    rintro p (e | ⟨a, q, b, c, e⟩)
    · omega
    · by_cases eq : q = r
      · rw [eq, zu3_s] at c
        exact .inl c.symm
      · rw [zu3_o f fun y => eq y.1] at c
        exact .inr (hx.2.2 p (.inr ⟨a, q, b, c, e⟩))
  by_cases e : x ≤ v
  · rw [if_pos e]
    refine ⟨hx.1, fun y => ?_, fun p hp => ?_⟩
    · rcases hx.2.1 y with z | ⟨a, q, b, c, z⟩
      · exact .inl z
      · refine .inr ⟨a, q, b, ?_, z⟩
        by_cases eq : q = r
        · rw [eq] at c
          omega
        · rw [zu3_o f fun y => eq y.1]
          exact c
    · rcases hlow p hp with z | z <;> omega
  · rw [if_neg e]
    refine ⟨by omega, fun _ => .inr ⟨h26, r, hb, zu3_s _ _ _ _ _, hC⟩, fun p hp => ?_⟩
    rcases hlow p hp with z | z <;> omega
theorem s_shrink {g : zG} {s : zSn} {μ : zzM} (h : zc2 g s μ) (hg : zwg g) (hc : cCf true 36 37 38 39 g s μ) (hsl : sL s ≤ 12) (d : Nat) {f : Nat → Nat → Nat → Nat} {D : Nat → Nat → Prop} {r m n : Nat} (hr : r < gN g) (hm : m ≤ n) (hn : n ≤ sL s) (hD : ∀ i j, m ≤ i → i ≤ j → j ≤ n → D i j) (hZ : cSz g s f D μ) (hS : zSo g s 1152921504606846976 f m n) : zw (zzf zzP zN (d + 4) 89 [.ref 48, .int (nI r), .int (nI m), .int (nI n)] μ) fun o => zfr [49, 50, 51] μ o.2 ∧ ∃ w, zmn 1152921504606846976 (zSR (zSP g s (zTf 1152921504606846976 f) r) n (gZ g r) 0 m) w ∧ ((w + 1 < f r m n ∧ o.1.1 = zB true ∧ cSz g s (zu3 f r m n (w + 1)) D o.2) ∨ (f r m n ≤ w + 1 ∧ o.1.1 = zB false ∧ cSz g s f D o.2)) := by
  have hgn := g_n hg
  have hsp := zsp_lt n (by omega) m (by omega) hm
  rw [w_sizes_shrink]
  obtain ⟨o1, a1, a2, a3⟩ := s_findRest h hg hc hsl d hr hm hn (cSz_pt hZ (by omega) hD) hS
  obtain ⟨w, w1, w2⟩ := a3 0 m (Nat.zero_le _) (Nat.le_refl _) hm (fun _ => rfl)
  rw [Nat.sub_zero] at w2
  have hw := w2.1
  have e51 : o1.2.2 51 m = lN w := by rw [← w1, show 0 * 13 + m = m by omega]
  rw [a1, Option.bind_some, zr_l _ _ (by omega) (by omega), e51, Option.bind_some, s_zsp _ hm (by omega), Option.bind_some]
  obtain ⟨l1, l2⟩ := (hZ m n hm (by omega) (hD m n (Nat.le_refl _) hm (Nat.le_refl _))).1 r hr
  show zw ((zzrl o1.2 49 1092 (nI r * nI 91 + nI (zsp m n))).bind _) _
  rw [zq_mul, zq_add, zr_l _ _ (by omega) (by omega), zf_l a2 rfl, l1, Option.bind_some, lN_add]
  show zw (if lg_cmp (lN (w + 1)) (lN (f r m n)) < 0 then (zzsl o1.2 49 1092 (nI (r * 91 + zsp m n)) (lN (w + 1))).bind fun m5 => zzl (L89_b zN (d + 3)) zN ([nI r, nI (zsp m n), nI 0], [lN (w + 1)], m5) else if nI 0 = 0 ∨ nI 0 = 1 then some ((nI 0, 0, 0), o1.2) else none) _
  rw [zif_cg ((lg_cmp_lt _ _).trans (pk_lLT (by omega) (by omega)))]
  have hf1 : zfr [49, 50, 51] μ o1.2 := zf_mono a2 rfl
  have hz1 : ∀ i j, i ≤ j → j ≤ 12 → D i j → (∀ q, q < gN g → o1.2.2 49 (q * 91 + zsp i j) = lN (f q i j) ∧ f q i j ≤ 1152921504606846976) ∧ ∀ r k, r < gN g → k < gZ g r → ∃ x, o1.2.2 50 ((r * 4 + k) * 91 + zsp i j) = lN x ∧ zmn 1152921504606846976 (zSP g s (zTf 1152921504606846976 f) r k i j) x := fun i j a b c => by
    rw [zf_l a2 rfl, zf_l a2 rfl]
    exact hZ i j a b c
  by_cases e : w + 1 < f r m n
  · rw [if_pos e, zs_l _ _ _ (by omega) (by omega), Option.bind_some]
    -- the places above
    let K : Nat → Nat → zzM → Prop := fun r0 k0 y => zfr [49, 50, 51] μ y ∧ (∀ i j, i ≤ j → j ≤ 12 → D i j → ∀ q, q < gN g → y.2 49 (q * 91 + zsp i j) = lN (zu3 f r m n (w + 1) q i j) ∧ zu3 f r m n (w + 1) q i j ≤ 1152921504606846976) ∧ ∀ i j, i ≤ j → j ≤ 12 → D i j → ∀ r' k, r' < gN g → k < gZ g r' → ∃ x, y.2 50 ((r' * 4 + k) * 91 + zsp i j) = lN x ∧ ((r' < r0 ∨ (r' = r0 ∧ k < k0)) → zmn 1152921504606846976 (zSP g s (zTf 1152921504606846976 (zu3 f r m n (w + 1))) r' k i j) x) ∧ (¬ (r' < r0 ∨ (r' = r0 ∧ k < k0)) → zmn 1152921504606846976 (zSP g s (zTf 1152921504606846976 f) r' k i j) x)
    refine zl_up (fun r0 (y : zzM) => ([nI r, nI (zsp m n), nI r0], [lN (w + 1)], y)) (fun r0 y => K r0 0 y) 0 (gN g) _ (by omega) (by omega) rfl ⟨zf_twL _ _ hf1 rfl, fun i j a b c q hq => ?_, fun i j a b c r' k hr' hk => ?_⟩ ?_ ?_
    · by_cases eq : q = r ∧ i = m ∧ j = n
      · obtain ⟨rfl, rfl, rfl⟩ := eq
        rw [zu3_s, zn_s]
        exact ⟨rfl, by omega⟩
      · rw [zu3_o f eq, zn_k _ _ _ _ fun e' => ?_]
        · exact (hz1 i j a b c).1 q hq
        · have h1 := zsp_lt j (by omega) i (by omega) a
          have h2 := zq91 h1 hsp e'
          exact eq ⟨h2.1, zsp_inj j (by omega) i (by omega) a n (by omega) m (by omega) (by omega) h2.2⟩
    · obtain ⟨x, x1, x2⟩ := (hz1 i j a b c).2 r' k hr' hk
      exact ⟨x, by rw [zn_c _ _ _ (by omega)]; exact x1, fun y => absurd y (by omega), fun _ => x2⟩
    · rintro r0 y ga - hr0 hK hgo
      have hz0 := g_z hg hr0
      unfold L89_b
      simp only [zI0, zI1, zI2, zI3, zI4, zI5, zI6, zI7, zI8, zJ0, zJ1, zJ2, zMM]
      rw [c_n (zc2_fr h hK.1 rfl), if_neg (by rw [zq_le (by omega) (by omega)]; omega)]
      refine zl_up (fun k0 (y : zzM) => ([nI r, nI (zsp m n), nI r0, nI k0], [lN (w + 1)], y)) (fun k0 y => K r0 k0 y) 0 (gZ g r0) y (by omega) (by omega) rfl hK ?_ ?_
      · rintro k0 y gb - hk0 hK hgo2
        obtain ⟨k1, k2, k3⟩ := id hK
        have hcy := cCf_fr hc k1 rfl
        obtain ⟨x, x1, x2, x3⟩ := k3 m n hm (by omega) (hD m n (Nat.le_refl _) hm (Nat.le_refl _)) r0 k0 hr0 hk0
        have x3 := x3 (by omega)
        have hxC := x3.1
        unfold L89_a
        simp only [zI0, zI1, zI2, zI3, zI4, zI5, zI6, zI7, zI8, zJ0, zJ1, zJ2, zMM]
        rw [zr_i _ _ (by omega) (by omega), c_z (zc2_fr h k1 rfl) hr0, Option.bind_some, if_neg (by rw [zq_le (by omega) (by omega)]; omega)]
        simp only [zq_mul, zq_add]
        rw [zr_l _ _ (by omega) (by omega), x1, Option.bind_some, zif_cg ((lg_cmp_ge _ _).trans (pk_lLE (by omega) (by omega)))]
        -- all but this place are as they were
        have fin : ∀ y' x', zfr [49, 50, 51] μ y' → y'.2 49 = y.2 49 → (∀ p, p ≠ (r0 * 4 + k0) * 91 + zsp m n → y'.2 50 p = y.2 50 p) → y'.2 50 ((r0 * 4 + k0) * 91 + zsp m n) = lN x' → zmn 1152921504606846976 (zSP g s (zTf 1152921504606846976 (zu3 f r m n (w + 1))) r0 k0 m n) x' → K r0 (k0 + 1) y' := by
          intro y' x' g1 g2 g3 g4 g5
          refine ⟨g1, fun i j a b c q hq => by rw [g2]; exact k2 i j a b c q hq, fun i j a b c r' k hr' hk => ?_⟩
          have hz' := g_z hg hr'
          by_cases es : (r' = r0 ∧ k = k0) ∧ i = m ∧ j = n
          · obtain ⟨⟨rfl, rfl⟩, rfl, rfl⟩ := es
            exact ⟨x', g4, fun _ => g5, fun q => absurd (.inr ⟨rfl, Nat.lt_succ_self _⟩) q⟩
          · obtain ⟨u, u1, u2, u3⟩ := k3 i j a b c r' k hr' hk
            have h1 := zsp_lt j (by omega) i (by omega) a
            have hpn : (r' * 4 + k) * 91 + zsp i j ≠ (r0 * 4 + k0) * 91 + zsp m n := fun e' => by
              have h2 := zq91 h1 hsp e'
              have h3 := zsp_inj j (by omega) i (by omega) a n (by omega) m (by omega) (by omega) h2.2
              exact es ⟨by omega, h3⟩
            refine ⟨u, by rw [g3 _ hpn]; exact u1, fun q => ?_, fun q => u3 (by omega)⟩
            · by_cases ek : r' = r0 ∧ k = k0
              · refine zmn_cg (fun p => ?_) (u3 (by omega))
                exact (zSP_u (.inr fun q => es ⟨ek, q⟩)).symm
              · exact u2 (by omega)
        by_cases ex : x ≤ w + 1
        · rw [if_pos ex]
          refine hgo2 y (fin y x k1 rfl (fun _ _ => rfl) x1 ?_)
          cases hb : zbl true g s r0 k0 r with
          | true =>
            have := zSP_t hg e (by omega) hb x3
            rw [if_pos ex] at this
            exact this
          | false => exact zmn_cg (fun p => (zSP_u (.inl hb)).symm) x3
        · rw [if_neg ex, s_may_36 _ hg hcy.2.2.2.1 hr0 hk0 (by omega), Option.bind_some]
          simp only [zB_0]
          cases hb : zbl true g s r0 k0 r with
          | true =>
            rw [if_neg (by decide), zs_l _ _ _ (by omega) (by omega), Option.bind_some]
            have := zSP_t hg e (by omega) hb x3
            rw [if_neg ex] at this
            exact hgo2 _ (fin _ (w + 1) (zf_twL _ _ k1 rfl) (zn_c _ _ _ (by omega)) (fun p hp => zn_k _ _ _ _ hp) (zn_s _ _ _ _) this)
          | false =>
            rw [if_pos rfl]
            exact hgo2 y (fin y x k1 rfl (fun _ _ => rfl) x1 (zmn_cg (fun p => (zSP_u (.inl hb)).symm) x3))
      · rintro y gb hK
        obtain ⟨k1, k2, k3⟩ := id hK
        unfold L89_a
        simp only [zI0, zI1, zI2, zI3, zI4, zI5, zI6, zI7, zI8, zJ0, zJ1, zJ2, zMM]
        rw [zr_i _ _ (by omega) (by omega), c_z (zc2_fr h k1 rfl) hr0, Option.bind_some, if_pos (by rw [zq_le (by omega) (by omega)]; omega), zq_add]
        refine hgo y ⟨k1, k2, fun i j a b c r' k hr' hk => ?_⟩
        obtain ⟨u, u1, u2, u3⟩ := k3 i j a b c r' k hr' hk
        refine ⟨u, u1, fun q => u2 ?_, fun q => u3 (by omega)⟩
        by_cases er : r' = r0
        · rw [er] at hk
          exact .inr ⟨er, hk⟩
        · exact .inl (by omega)
    · rintro y ga ⟨k1, k2, k3⟩
      unfold L89_b
      simp only [zI0, zI1, zI2, zI3, zI4, zI5, zI6, zI7, zI8, zJ0, zJ1, zJ2, zMM]
      rw [c_n (zc2_fr h k1 rfl), if_pos (by rw [zq_le (by omega) (by omega)]; omega)]
      simp only [zk_1, if_true]
      refine zw_some ⟨k1, w, w2, .inl ⟨e, rfl, fun i j a b c => ⟨fun q hq => k2 i j a b c q hq, fun r' k hr' hk => ?_⟩⟩⟩
      obtain ⟨u, u1, u2, -⟩ := k3 i j a b c r' k hr' hk
      exact ⟨u, u1, u2 (by omega)⟩
  · rw [if_neg e]
    simp only [zk_0, if_true]
    exact zw_some ⟨hf1, w, w2, .inr ⟨by omega, rfl, hz1⟩⟩
