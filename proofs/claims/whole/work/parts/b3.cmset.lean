/-! MEND of the class: a part of the text settled; column by column -/
theorem zMe_26 {g : zG} {s : zSn} (hg : zwg g) {a m n v : Nat} (h : zMe g s a m n v) : a < 26 := by
  obtain ⟨r, h1, h2, -⟩ := zMe_out h
  have := (g_l hg (zon_lt h1)).2
  omega
theorem zXh_up {g : zG} {s : zSn} {m n h h' c v : Nat} (e : zXh g s m n h c v) (hh : h ≤ h') : zXh g s m n h' c v := by
  induction hh with
  | refl => exact e
  | step _ ih => exact zXh_mo ih
theorem zCr_fix {g : zG} {s : zSn} {C : Nat} {T : Nat → Nat → Nat → Nat → Prop} {m n : Nat} (hm : zCm g s C T m n) (hf : ∀ r a, zon g s r = true → gL g r = 26 + a → ∃ x, zmn C (zRc g s T r m n) x ∧ ∀ p, p < C → x ≤ p → ∃ p', p' ≤ p ∧ T a m n p') : ∀ h, zCr g s C T m n h
  | 0 => fun a p _ e => False.elim e
  | h + 1 => fun a p hp ⟨r, h1, h2, h3⟩ => by
    obtain ⟨x, x1, x2⟩ := hf r a h1 h2
    exact x2 p hp (zCm_co hm (zCr_fix hm hf h) x1 h3)
theorem s_msettle {g : zG} {s : zSn} {μ : zzM} (h : zc2 g s μ) (hg : zwg g) (hs : zws g s) (d : Nat) {m n : Nat} (hm : m ≤ n) (hn : n ≤ sL s) (hQ : ∀ a i j, a < 26 → m ≤ i → i ≤ j → j ≤ n → ¬ (i = m ∧ j = n) → ∃ x, μ.1 57 (a * 91 + zsp i j) = nI x ∧ zmn 268435456 (zMe g s a i j) x) : zw (zzf zzP zN (d + 5) 107 [.ref 56, .int (nI m), .int (nI n)] μ) fun o => zfr [57, 58] μ o.2 ∧ (∀ a i j, a < 26 → i ≤ j → j ≤ 12 → ¬ (i = m ∧ j = n) → o.2.1 57 (a * 91 + zsp i j) = μ.1 57 (a * 91 + zsp i j)) ∧ ∀ a, a < 26 → ∃ x, o.2.1 57 (a * 91 + zsp m n) = nI x ∧ zmn 268435456 (zMe g s a m n) x := by
  have hsl := hs.1
  have hgn := g_n hg
  have hsp := zsp_lt n (by omega) m (by omega) hm
  rw [w_mend_settle, s_zsp _ hm (by omega), Option.bind_some]
  show zw (zzl (L107_c zN (d + 4)) zN ([nI m, nI n, nI (zsp m n), nI 0], [], μ)) _
  let O : zzM → Prop := fun y => ∀ a i j, a < 26 → i ≤ j → j ≤ 12 → ¬ (i = m ∧ j = n) → y.1 57 (a * 91 + zsp i j) = μ.1 57 (a * 91 + zsp i j)
  let I : zzM → Prop := fun y => zfr [57, 58] μ y ∧ O y ∧ (∀ a, a < 26 → ∃ x, y.1 57 (a * 91 + zsp m n) = nI x ∧ x ≤ 268435456) ∧ ∀ a p, zTc y a m n p → zMe g s a m n p
  have hpn : ∀ a c i j, i ≤ j → j ≤ 12 → ¬ (i = m ∧ j = n) → a * 91 + zsp i j ≠ c * 91 + zsp m n := fun a c i j b1 b2 b3 e => b3 (zsp_inj j (by omega) i (by omega) b1 n (by omega) m (by omega) hm (zq91 (zsp_lt j (by omega) i (by omega) b1) hsp e).2)
  have hcm : ∀ y, I y → zCm g s 268435456 (zTc y) m n := by
    rintro y ⟨-, i2, -, i4⟩
    refine ⟨fun a i j p b1 b2 b3 b4 => ?_, fun a i j p b1 b2 b3 b4 b5 b6 => ?_⟩
    · by_cases e : i = m ∧ j = n
      · rw [e.1, e.2] at b4 ⊢
        exact i4 a p b4
      · obtain ⟨c1, c2, c3⟩ := b4
        obtain ⟨x, x1, x2⟩ := hQ a i j c1 b1 b2 b3 e
        have hx := x2.1
        rw [i2 a i j c1 b2 (by omega) e, x1, zq_eq (by omega) (by omega)] at c2
        rw [← c2]
        exact x2.2.1 (by omega)
    · have ha := zMe_26 hg b6
      obtain ⟨x, x1, x2⟩ := hQ a i j ha b1 b2 b3 b4
      have hx := x2.2.2 p b6
      exact ⟨x, hx, ha, by rw [i2 a i j ha b2 (by omega) b4]; exact x1, by omega⟩
  have hTn : ∀ y, I y → ∀ i j, m ≤ i → i ≤ j → j ≤ n → ∀ a, a < 26 → ∃ x, y.1 57 (a * 91 + zsp i j) = nI x ∧ x ≤ 268435456 := by
    rintro y ⟨-, i2, i3, -⟩ i j b1 b2 b3 a ha
    by_cases e : i = m ∧ j = n
    · rw [e.1, e.2]
      exact i3 a ha
    · obtain ⟨x, x1, x2⟩ := hQ a i j ha b1 b2 b3 e
      exact ⟨x, by rw [i2 a i j ha b2 (by omega) e]; exact x1, x2.1⟩
  have hend : ∀ y, I y → zCr g s 268435456 (zTc y) m n 26 → zfr [57, 58] μ y ∧ O y ∧ ∀ a, a < 26 → ∃ x, y.1 57 (a * 91 + zsp m n) = nI x ∧ zmn 268435456 (zMe g s a m n) x := by
    rintro y ⟨i1, i2, i3, i4⟩ hcr
    refine ⟨i1, i2, fun a ha => ?_⟩
    obtain ⟨x, x1, x2⟩ := i3 a ha
    refine ⟨x, x1, x2, fun q => i4 a x ⟨ha, x1, q⟩, fun p hp => ?_⟩
    by_cases q : p < 268435456
    · obtain ⟨v, v1, v2⟩ := zXh_all hg hp
      obtain ⟨p', p1, -, p2, p3⟩ := hcr a v (by omega) v2
      rw [x1, zq_eq (by omega) (by omega)] at p2
      omega
    · omega
  refine zl_up (fun c (y : zzM) => ([nI m, nI n, nI (zsp m n), nI c], [], y)) (fun c y => zfr [57, 58] μ y ∧ O y ∧ ∀ a, a < c → y.1 57 (a * 91 + zsp m n) = nI 268435456) 0 26 μ (by omega) (by omega) rfl ⟨zf_refl _ _, fun _ _ _ _ _ _ _ => rfl, fun a q => absurd q (by omega)⟩ ?_ ?_
  · rintro c y ga - hc ⟨i1, i2, i3⟩ hgo
    unfold L107_c
    simp only [zI0, zI1, zI2, zI3, zI4, zI5, zI6, zI7, zI8, zJ0, zJ1, zJ2, zMM]
    rw [if_neg (by rw [zq_le (by omega) (by omega)]; omega), zq_mul, zq_add, zs_i _ _ _ (by omega) (by omega), Option.bind_some, zq_add]
    refine hgo _ ⟨zf_twI _ _ i1 rfl, fun a i j b1 b2 b3 b4 => ?_, fun a ha => ?_⟩
    · rw [zm_k _ _ _ _ (hpn a c i j b2 b3 b4)]
      exact i2 a i j b1 b2 b3 b4
    · by_cases e : a = c
      · rw [e, zm_s]
      · rw [zm_k _ _ _ _ (by omega)]
        exact i3 a (by omega)
  · rintro y ga ⟨i1, i2, i3⟩
    unfold L107_c
    simp only [zI0, zI1, zI2, zI3, zI4, zI5, zI6, zI7, zI8, zJ0, zJ1, zJ2, zMM]
    rw [if_pos (by rw [zq_le (by omega) (by omega)]; omega)]
    have hI0 : I y := ⟨i1, i2, fun a ha => ⟨_, i3 a ha, Nat.le_refl _⟩, fun a p ⟨b1, b2, b3⟩ => by
      rw [i3 a b1, zq_eq (by omega) (by omega)] at b2
      omega⟩
    refine zl_up (fun i (a : Bool × zzM) => ([nI m, nI n, nI (zsp m n), zB a.1, nI i], [], a.2)) (fun i a => I a.2 ∧ (a.1 = true → zCr g s 268435456 (zTc a.2) m n i) ∧ (a.1 = false → ∀ h, zCr g s 268435456 (zTc a.2) m n h)) 0 1000 (true, y) (by omega) (by omega) rfl ⟨hI0, fun _ _ _ _ e => False.elim e, fun q => (by cases q)⟩ ?_ ?_
    · rintro i ⟨b, y⟩ gb - hi ⟨hI, h1, h2⟩ hgo
      simp only at hI h1 h2
      unfold L107_b
      simp only [zI0, zI1, zI2, zI3, zI4, zI5, zI6, zI7, zI8, zJ0, zJ1, zJ2, zMM]
      rw [if_neg (by rw [zq_le (by omega) (by omega)]; omega)]
      simp only [zB_0]
      cases b with
      | false =>
        rw [if_pos rfl]
        exact zw_some (hend y hI (h2 rfl 26))
      | true =>
        rw [if_neg (by decide)]
        have hcr := h1 rfl
        refine zl_up (fun r (a : Bool × zzM) => ([nI m, nI n, nI (zsp m n), zB a.1, nI i, nI r], [], a.2)) (fun r a => I a.2 ∧ zCr g s 268435456 (zTc a.2) m n i ∧ (∀ r', r' < r → zon g s r' = true → ∀ c v, gL g r' = 26 + c → v < 268435456 → zRc g s (zEt g s m n (zXh g s m n i)) r' m n v → ∃ p', p' ≤ v ∧ zTc a.2 c m n p') ∧ (a.1 = false → ∀ r', r' < r → zon g s r' = true → ∀ c, gL g r' = 26 + c → ∃ x, zmn 268435456 (zRc g s (zTc a.2) r' m n) x ∧ ∀ p, p < 268435456 → x ≤ p → ∃ p', p' ≤ p ∧ zTc a.2 c m n p')) 0 (gN g) (false, y) (by omega) (by omega) rfl ⟨hI, hcr, fun r' q => absurd q (by omega), fun _ r' q => absurd q (by omega)⟩ ?_ ?_
        · rintro r ⟨b, z⟩ gc - hr ⟨hI2, j1, j2, j3⟩ hgo2
          simp only at hI2 j1 j2 j3
          obtain ⟨k1, k2, k3, k4⟩ := id hI2
          have hz := zc2_fr h k1 rfl
          obtain ⟨hl1, hl2⟩ := g_l hg hr
          unfold L107_a
          simp only [zI0, zI1, zI2, zI3, zI4, zI5, zI6, zI7, zI8, zJ0, zJ1, zJ2, zMM]
          have ht : zzf zzP zN (d + 4) 23 [.ref 2, .int (nI r)] z = some ((zB (zon g s r), 0, 0), z) := s_isTold hz hg (d + 2) (by omega)
          rw [c_n hz, if_neg (by rw [zq_le (by omega) (by omega)]; omega), ht, Option.bind_some]
          simp only [zB_0, zq_add]
          cases eo : zon g s r with
          | false =>
            rw [if_pos rfl]
            refine hgo2 (b, z) ⟨hI2, j1, fun r' a1 a2 => ?_, fun q r' a1 a2 => ?_⟩
            · by_cases er : r' = r
              · rw [er, eo] at a2
                cases a2
              · exact j2 r' (by omega) a2
            · by_cases er : r' = r
              · rw [er, eo] at a2
                cases a2
              · exact j3 q r' (by omega) a2
          | true =>
            rw [if_neg (by decide), zr_i _ _ (by omega) (by omega), c_l hz hr, Option.bind_some]
            obtain ⟨o, a1, a2, x, a3, a4⟩ := s_costOf hz hg hs d hr hm hn (hTn z hI2)
            have hx := a4.1
            obtain ⟨c, hc⟩ : ∃ c, gL g r = 26 + c := ⟨gL g r - 26, by omega⟩
            obtain ⟨w, w1, w2⟩ := k3 c (by omega)
            have w1o : o.2.1 57 (c * 91 + zsp m n) = nI w := by rw [zf_i a2 rfl]; exact w1
            have hTo := zTc_fr a2 rfl
            have hfo := zf_trans k1 (zf_mono (L' := [57, 58]) a2 rfl)
            have hIo : I o.2 := ⟨hfo, fun a i j b1 b2 b3 b4 => by rw [zf_i a2 rfl]; exact k2 a i j b1 b2 b3 b4, fun a ha => by rw [zf_i a2 rfl]; exact k3 a ha, by rw [hTo]; exact k4⟩
            have hcz := hcm z hI2
            rw [a1, Option.bind_some, a3, hc, zq_sub (by omega), show 26 + c - 26 = c by omega]
            simp only [zq_mul, zq_add]
            rw [zr_i _ _ (by omega) (by omega), w1o, Option.bind_some]
            by_cases e : w ≤ x
            · rw [if_pos (by rw [zq_le (by omega) (by omega)]; omega)]
              unfold J107_a
              rw [zr_i _ _ (by omega) (by omega), w1o, Option.bind_some, s_min _ (by omega) (by omega), Option.bind_some, zs_i _ _ _ (by omega) (by omega), Option.bind_some, show (if x ≤ w then x else w) = w by split <;> omega, zm_id w1o, zB_or0, zq_add]
              have hwT : ∀ p, p < 268435456 → x ≤ p → ∃ p', p' ≤ p ∧ zTc z c m n p' := fun p hp hxp => ⟨w, by omega, by omega, w1, by omega⟩
              refine hgo2 (b, o.2) ⟨hIo, by simp only [hTo]; exact j1, fun r' b1 b2 c' v b3 b4 b5 => ?_, fun q r' b1 b2 c' b3 => ?_⟩
              · simp only [hTo]
                by_cases er : r' = r
                · rw [er] at b3 b5
                  obtain rfl : c' = c := by omega
                  exact hwT v b4 (zCm_co hcz j1 a4 b5)
                · exact j2 r' (by omega) b2 c' v b3 b4 b5
              · simp only [hTo]
                by_cases er : r' = r
                · rw [er] at b3 ⊢
                  obtain rfl : c' = c := by omega
                  exact ⟨x, a4, hwT⟩
                · exact j3 q r' (by omega) b2 c' b3
            · rw [if_neg (by rw [zq_le (by omega) (by omega)]; omega)]
              unfold J107_a
              rw [zr_i _ _ (by omega) (by omega), w1o, Option.bind_some, s_min _ (by omega) (by omega), Option.bind_some, zs_i _ _ _ (by omega) (by omega), Option.bind_some, show (if x ≤ w then x else w) = x by split <;> omega, zB_or1, zq_add]
              have hTx : zTc (zzwI o.2 57 (c * 91 + zsp m n) (nI x)) c m n x := ⟨by omega, zm_s _ _ _ _, by omega⟩
              have hTa : ∀ a p, a ≠ c → zTc z a m n p → zTc (zzwI o.2 57 (c * 91 + zsp m n) (nI x)) a m n p := fun a p ha ⟨b1, b2, b3⟩ => ⟨b1, by rw [zm_k _ _ _ _ (by omega), zf_i a2 rfl]; exact b2, b3⟩
              have hTl : ∀ a p, zTc z a m n p → ∃ p', p' ≤ p ∧ zTc (zzwI o.2 57 (c * 91 + zsp m n) (nI x)) a m n p' := fun a p hT => by
                by_cases ea : a = c
                · rw [ea] at hT ⊢
                  obtain ⟨-, b2, b3⟩ := hT
                  rw [w1, zq_eq (by omega) (by omega)] at b2
                  exact ⟨x, by omega, hTx⟩
                · exact ⟨p, Nat.le_refl _, hTa a p ea hT⟩
              refine hgo2 (true, zzwI o.2 57 (c * 91 + zsp m n) (nI x)) ⟨⟨zf_twI _ _ hfo rfl, fun a i j b1 b2 b3 b4 => ?_, fun a ha => ?_, fun a p hp => ?_⟩, fun a p hp he => ?_, fun r' b1 b2 c' v b3 b4 b5 => ?_, fun q => (by cases q)⟩
              · simp only
                rw [zm_k _ _ _ _ (hpn a c i j b2 b3 b4), zf_i a2 rfl]
                exact k2 a i j b1 b2 b3 b4
              · simp only
                by_cases ea : a = c
                · rw [ea]
                  exact ⟨x, zm_s _ _ _ _, hx⟩
                · obtain ⟨u, u1, u2⟩ := k3 a ha
                  exact ⟨u, by rw [zm_k _ _ _ _ (by omega), zf_i a2 rfl]; exact u1, u2⟩
              · simp only at hp
                by_cases ea : a = c
                · rw [ea] at hp ⊢
                  obtain ⟨-, b2, b3⟩ := hp
                  rw [zm_s, zq_eq (by omega) (by omega)] at b2
                  rw [← b2]
                  exact zMe_in eo hc (zCm_so hcz a4 (by omega))
                · obtain ⟨b1, b2, b3⟩ := hp
                  rw [zm_k _ _ _ _ (by omega), zf_i a2 rfl] at b2
                  exact k4 a p ⟨b1, b2, b3⟩
              · obtain ⟨p', b1, b2⟩ := j1 a p hp he
                obtain ⟨p2, b3, b4⟩ := hTl a p' b2
                exact ⟨p2, by omega, b4⟩
              · by_cases er : r' = r
                · rw [er] at b3 b5
                  obtain rfl : c' = c := by omega
                  exact ⟨x, zCm_co hcz j1 a4 b5, hTx⟩
                · obtain ⟨p', c1, c2⟩ := j2 r' (by omega) b2 c' v b3 b4 b5
                  obtain ⟨p2, c3, c4⟩ := hTl c' p' c2
                  exact ⟨p2, by omega, c4⟩
        · rintro ⟨b, z⟩ gc ⟨hI2, j1, j2, j3⟩
          simp only at hI2 j1 j2 j3
          unfold L107_a
          simp only [zI0, zI1, zI2, zI3, zI4, zI5, zI6, zI7, zI8, zJ0, zJ1, zJ2, zMM]
          rw [c_n (zc2_fr h hI2.1 rfl), if_pos (by rw [zq_le (by omega) (by omega)]; omega), zq_add]
          refine hgo (b, z) ⟨hI2, fun _ a p hp ⟨r, b1, b2, b3⟩ => j2 r (zon_lt b1) b1 a p b2 hp b3, fun q => ?_⟩
          exact zCr_fix (hcm z hI2) fun r a b1 b2 => j3 q r (zon_lt b1) b1 a b2
    · rintro ⟨b, y⟩ gb ⟨hI, h1, h2⟩
      simp only at hI h1 h2
      unfold L107_b
      simp only [zI0, zI1, zI2, zI3, zI4, zI5, zI6, zI7, zI8, zJ0, zJ1, zJ2, zMM]
      rw [if_pos (by rw [zq_le (by omega) (by omega)]; omega)]
      refine zw_some (hend y hI ?_)
      cases b with
      | false => exact h2 rfl 26
      | true => exact fun a p hp e => h1 rfl a p hp (zXh_up e (by omega))
/-- what the class holds of costs -/
def cMd (g : zG) (s : zSn) (c : Nat) (μ : zzM) : Prop := μ.1 56 1 = nI c ∧ ∀ a i j, a < 26 → i ≤ j → j < c → ∃ x, μ.1 57 (a * 91 + zsp i j) = nI x ∧ zmn 268435456 (zMe g s a i j) x
theorem s_mfill {g : zG} {s : zSn} {μ : zzM} (h : zc2 g s μ) (hg : zwg g) (hs : zws g s) (d : Nat) {c : Nat} (hc : cMd g s c μ) (hcl : c ≤ sL s + 1) : zw (zzf zzP zN (d + 6) 105 [.ref 56] μ) fun o => zfr [56, 57, 58] μ o.2 ∧ cMd g s (sL s + 1) o.2 ∧ ∀ p, p ≠ 1 → o.2.1 56 p = μ.1 56 p := by
  have hsl := hs.1
  rw [w_mend_fill, hc.1]
  let T : zzM → Nat → Nat → Prop := fun y i j => ∀ a, a < 26 → ∃ x, y.1 57 (a * 91 + zsp i j) = nI x ∧ zmn 268435456 (zMe g s a i j) x
  refine zl_up (fun n (y : zzM) => ([nI n], [], y)) (fun n y => zfr [57, 58] μ y ∧ ∀ i j, i ≤ j → j < n → T y i j) c (sL s + 1) μ hcl (by omega) rfl ⟨zf_refl _ _, fun i j a b e f => hc.2 e i j f a b⟩ ?_ ?_
  · rintro n y ga - hn ⟨i1, i2⟩ hgo
    unfold L105_b
    simp only [zI0, zI1, zI2, zI3, zI4, zI5, zI6, zI7, zI8, zJ0, zJ1, zJ2, zMM]
    rw [c_len (zc2_fr h i1 rfl), if_neg (by rw [zq_lt (by omega) (by omega)]; omega)]
    refine zl_dn (fun m (y : zzM) => ([nI n, nJ m], [], y)) (fun m y => zfr [57, 58] μ y ∧ ∀ i j, i ≤ j → (j < n ∨ (j = n ∧ m ≤ i)) → T y i j) 0 (n + 1) y (by omega) (by omega) (by rw [nJ_s]) ⟨i1, fun i j a b => i2 i j a (by omega)⟩ ?_ ?_
    · rintro m y gb - hm ⟨j1, j2⟩ hgo2
      unfold L105_a
      simp only [zI0, zI1, zI2, zI3, zI4, zI5, zI6, zI7, zI8, zJ0, zJ1, zJ2, zMM]
      rw [nJ_s, if_neg (nI_pos (by omega))]
      obtain ⟨o, a1, a2, a3, a4⟩ := s_msettle (zc2_fr h j1 rfl) hg hs d (m := m) (n := n) (by omega) (by omega) (fun a i j b1 b2 b3 b4 b5 => j2 i j b3 (by omega) a b1)
      rw [a1, Option.bind_some, nJ_e]
      refine hgo2 o.2 ⟨zf_trans j1 a2, fun i j b1 b2 => ?_⟩
      by_cases e : i = m ∧ j = n
      · rw [e.1, e.2]
        exact a4
      · intro a ha
        rw [a3 a i j ha b1 (by omega) e]
        exact j2 i j b1 (by omega) a ha
    · rintro y gb ⟨j1, j2⟩
      unfold L105_a
      simp only [zI0, zI1, zI2, zI3, zI4, zI5, zI6, zI7, zI8, zJ0, zJ1, zJ2, zMM]
      rw [if_pos (show nJ 0 < 0 by decide), zq_add]
      exact hgo y ⟨j1, fun i j a b => j2 i j a (by omega)⟩
  · rintro y ga ⟨i1, i2⟩
    unfold L105_b
    simp only [zI0, zI1, zI2, zI3, zI4, zI5, zI6, zI7, zI8, zJ0, zJ1, zJ2, zMM]
    rw [c_len (zc2_fr h i1 rfl), if_pos (by rw [zq_lt (by omega) (by omega)]; omega), zq_add]
    refine zw_some ⟨zf_twI _ _ (zf_mono i1 rfl) rfl, ⟨zm_s _ _ _ _, fun a i j b1 b2 b3 => ?_⟩, fun p hp => ?_⟩
    · rw [zm_c _ _ _ (by omega)]
      exact i2 i j b2 b3 a b1
    · rw [zm_k _ _ _ _ hp, zf_i i1 rfl]
/-- mend of the class -/
theorem s_mend {g : zG} {s : zSn} {μ : zzM} (h : zc2 g s μ) (hg : zwg g) (hs : zws g s) (hn : 0 < gN g) (d : Nat) {c : Nat} (hc : cMd g s c μ) (hcl : c ≤ sL s + 1) : zw (zzf zzP zN (d + 7) 167 [.ref 0] μ) fun o => zfr [56, 57, 58] μ o.2 ∧ cMd g s (sL s + 1) o.2 ∧ (∀ p, p ≠ 1 → o.2.1 56 p = μ.1 56 p) ∧ ∃ x, zmn 268435456 (zMe g s (gL g 0 - 26) 0 (sL s)) x ∧ o.1.1 = if x < 268435456 then nI x else -(nI 2) := by
  have hsl := hs.1
  have hgn := g_n hg
  obtain ⟨hl1, hl2⟩ := g_l hg hn
  have hsp := zsp_lt (sL s) (by omega) 0 (by omega) (Nat.zero_le _)
  rw [w_pf_mend]
  have h1 : zzf zzP zN (d + 6) 128 [.ref 0] μ = some ((nI 0, 0, 0), μ) := by
    rw [s_noG, c_n h, decide_eq_false (by rw [zq_e0 (by omega)]; omega)]
    rfl
  rw [h1, Option.bind_some, if_pos (show (nI 0 : Int32) = 0 by decide)]
  obtain ⟨o, a1, a2, a3, a4⟩ := s_mfill h hg hs d hc hcl
  rw [a1, Option.bind_some]
  have ho := zc2_fr h a2 rfl
  obtain ⟨x, x1, x2⟩ := a3.2 (gL g 0 - 26) 0 (sL s) (by omega) (by omega) (by omega)
  have hx := x2.1
  have h2 : zzf zzP zN (d + 6) 106 [.ref 56] o.2 = some ((nI x, 0, 0), o.2) := by
    rw [w_mend_wholeCost, zr_i _ _ (by omega) (by omega), c_l ho hn, Option.bind_some, c_len ho]
    rw [show (nI 0 : Int32) = nI 0 from rfl, s_zsp _ (Nat.zero_le _) (by omega), Option.bind_some, zq_sub hl1]
    simp only [zq_mul, zq_add]
    rw [zr_i _ _ (by omega) (by omega), x1, Option.bind_some]
  rw [h2, Option.bind_some]
  by_cases e : x < 268435456
  · rw [if_pos (by rw [zq_lt (by omega) (by omega)]; omega)]
    exact zw_some ⟨a2, a3, a4, x, x2, by rw [if_pos e]⟩
  · rw [if_neg (by rw [zq_lt (by omega) (by omega)]; omega)]
    exact zw_some ⟨a2, a3, a4, x, x2, by rw [if_neg e]⟩
