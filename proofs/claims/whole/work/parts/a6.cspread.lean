/-! THE FOREST of the class: markBelow, spread, find -/
theorem s_markBelow {g : zG} {s : zSn} {μ : zzM} (h : zc2 g s μ) (hg : zwg g) (hc : cCf true 36 37 38 39 g s μ) (hsl : sL s ≤ 12) (d : Nat) {r m n : Nat} (hr : r < gN g) (hm : m ≤ n) (hn : n ≤ sL s) {P : Nat → Nat → Nat → Prop} (hP : cPc P (sL s) μ) : zw (zzf zzP zN (d + 4) 99 [.ref 52, .int (nI r), .int (nI m), .int (nI n)] μ) fun o => zfr [53, 54, 55] μ o.2 ∧ cPc (fun q i j => P q i j ∨ zmk2 g s r m n q i j) (sL s) o.2 := by
  have hgn := g_n hg
  have hz := g_z hg hr
  rw [w_forest_markBelow, zr_i _ _ (by omega) (by omega), c_z h hr, Option.bind_some]
  obtain ⟨o, e1, e2, e3⟩ := s_hopeful h hg hc hsl (d + 1) hr hm hn
  rw [e1, Option.bind_some, zs_i _ _ _ (by omega) (by omega), Option.bind_some]
  refine zl_up (fun k (y : zzM) => ([nI r, nI m, nI n, nI (gZ g r), nI k], [], y)) (fun k y => zfr [53, 54, 55] μ y ∧ (∀ k', k' ≤ gZ g r → y.1 55 k' = o.2.1 55 k') ∧ (∀ i, i < 32 → (bt (y.1 54 k) i = true ↔ i ≤ n ∧ zPa (zw1 g s r) k m i)) ∧ cPc (fun q i j => P q i j ∨ ∃ k' d, k' < k ∧ k' + 1 + d = gZ g r ∧ zPa (zw1 g s r) k' m i ∧ i ≤ j ∧ zbl true g s r k' q = true ∧ zM true g s q i j ∧ zPb (zw1 g s r) n d (k' + 1) j) (sL s) y) 0 (gZ g r) _ (by omega) (by omega) rfl ⟨zf_twI _ _ (zf_mono e2 rfl) rfl, fun k' _ => by rw [zm_c _ _ _ (by omega)], fun i hi => ?_, fun i j a b q hq => ?_⟩ ?_ ?_
  · rw [zm_s, b_sh1 (by omega) hi, decide_eq_true_eq]
    show i = m ↔ i ≤ n ∧ i = m
    omega
  · rw [zm_c _ _ _ (by omega), zf_i e2 rfl, hP i j a b q hq]
    exact ⟨.inl, fun f => f.resolve_right fun ⟨k', _, f, _⟩ => absurd f (Nat.not_lt_zero _)⟩
  · rintro k y ga - hk ⟨i1, i2, i3, i4⟩ hgo
    have hy := zc2_fr h i1 rfl
    have hcy := cCf_fr hc i1 rfl
    have hsy := g_s hg hr hk
    unfold L99_a
    simp only [zI0, zI1, zI2, zI3, zI4, zI5, zI6, zI7, zI8, zJ0, zJ1, zJ2, zMM]
    rw [if_neg (by rw [zq_le (by omega) (by omega)]; omega), zr_i _ _ (by omega) (by omega), Option.bind_some]
    obtain ⟨o1, f1, f2, f3⟩ := s_behind_36 (d + 2) (r := r) (k := k) (n := n) (y.1 54 k) (by omega) (by omega) (by omega) y
    rw [f1, Option.bind_some, f2, zq_add, zs_i _ _ _ (by omega) (by omega), Option.bind_some]
    have hf3 : zfr [54] y (zzwI y 54 (k + 1) o1.1.1) := zf_wI _ _ rfl
    have hz1 := zc2_fr hy hf3 rfl
    have hcz := cCf_fr hcy hf3 rfl
    have hA1 : ∀ i, i < 32 → (bt (o1.1.1) i = true ↔ i ≤ n ∧ zPa (zw1 g s r) (k + 1) m i) := fun i hi => by
      rw [f3 i hi]
      constructor
      · rintro ⟨a, i', b, c, e⟩
        obtain ⟨c1, c2⟩ := (i3 i' (by omega)).1 c
        have hle : i' ≤ i := by
          apply Nat.le_of_not_lt
          intro q
          rw [hcy.2.2.1 (r * 4 + k) i' i (by omega) (by omega) q] at e
          cases e
        exact ⟨a, i', zPa_le c2, hle, c2, (c_en hcy hle (by omega) hsl hr hk).1 e⟩
      · rintro ⟨a, i', b, c, e, e'⟩
        exact ⟨a, i', by omega, (i3 i' (by omega)).2 ⟨by omega, e⟩, (c_en hcy c (by omega) hsl hr hk).2 e'⟩
    rw [s_symAt hz1 hg _ hr hk, Option.bind_some]
    simp (disch := omega) only [zq_lt, zq_add]
    have hold : ∀ z : zzM, z.1 53 = y.1 53 → cPc (fun q i j => P q i j ∨ ∃ k' d, k' < k ∧ k' + 1 + d = gZ g r ∧ zPa (zw1 g s r) k' m i ∧ i ≤ j ∧ zbl true g s r k' q = true ∧ zM true g s q i j ∧ zPb (zw1 g s r) n d (k' + 1) j) (sL s) z := fun z hz i j a b q hq => by rw [hz]; exact i4 i j a b q hq
    by_cases e : gS g r k < 26
    · rw [if_pos e]
      refine hgo _ ⟨zf_trans i1 (zf_mono hf3 rfl), fun k' a => by rw [zm_c _ _ _ (by omega)]; exact i2 k' a, fun i hi => by rw [zm_s]; exact hA1 i hi, fun i j a b q hq => ?_⟩
      rw [zm_c _ _ _ (by omega), i4 i j a b q hq]
      refine or_congr Iff.rfl ⟨fun ⟨k', d, f, f'⟩ => ⟨k', d, by omega, f'⟩, fun ⟨k', d, f, f1, f2, f3, f4, f5⟩ => ⟨k', d, ?_, f1, f2, f3, f4, f5⟩⟩
      by_cases ek : k' = k
      · rw [ek] at f4
        have := zbl_cap hg f4
        omega
      · omega
    · rw [if_neg e]
      obtain ⟨o2, g1, g2, g3⟩ := s_markPart hg hcz hsl d hr hk hm hn (fun i hi => by rw [zm_k _ _ _ _ (by omega)]; exact i3 i hi) (fun i hi => by rw [zm_c _ _ _ (by omega), i2 (k + 1) (by omega)]; exact e3 (k + 1) (by omega) i hi) (hold (zzwI y 54 (k + 1) o1.1.1) (by rw [zm_c _ _ _ (by omega)]))
      rw [g1, Option.bind_some]
      refine hgo o2.2 ⟨zf_trans i1 (zf_trans (zf_mono hf3 rfl) (zf_mono g2 rfl)), fun k' a => by rw [zf_i g2 rfl, zm_c _ _ _ (by omega)]; exact i2 k' a, fun i hi => by rw [zf_i g2 rfl, zm_s]; exact hA1 i hi, fun i j a b q hq => ?_⟩
      rw [g3 i j a b q hq]
      constructor
      · rintro ((f | ⟨k', d, f, f'⟩) | f)
        · exact .inl f
        · exact .inr ⟨k', d, by omega, f'⟩
        · exact .inr ⟨k, gZ g r - (k + 1), by omega, by omega, f⟩
      · rintro (f | ⟨k', d, f, f1, f'⟩)
        · exact .inl (.inl f)
        · by_cases ek : k' = k
          · subst ek
            have : d = gZ g r - (k' + 1) := by omega
            subst this
            exact .inr f'
          · exact .inl (.inr ⟨k', d, by omega, f1, f'⟩)
  · rintro y ga ⟨i1, i2, i3, i4⟩
    unfold L99_a
    simp only [zI0, zI1, zI2, zI3, zI4, zI5, zI6, zI7, zI8, zJ0, zJ1, zJ2, zMM]
    rw [if_pos (by rw [zq_le (by omega) (by omega)]; omega)]
    refine zw_some ⟨i1, fun i j a b q hq => ?_⟩
    rw [i4 i j a b q hq]
    exact or_congr Iff.rfl ⟨fun ⟨k', d, _, f⟩ => ⟨k', d, f⟩, fun ⟨k', d, f⟩ => ⟨k', d, by omega, f⟩⟩
/-- what is known of pieces when those from m to n are gone through -/
theorem s_spread {g : zG} {s : zSn} {μ : zzM} (h : zc2 g s μ) (hg : zwg g) (hc : cCf true 36 37 38 39 g s μ) (hsl : sL s ≤ 12) (d : Nat) {m n : Nat} (hm : m ≤ n) (hn : n ≤ sL s) {P : Nat → Nat → Nat → Prop} (hP : cPc P (sL s) μ) (hPi : ∀ q i j, P q i j → zPi g s q i j) : zw (zzf zzP zN (d + 5) 98 [.ref 52, .int (nI m), .int (nI n)] μ) fun o => zfr [53, 54, 55] μ o.2 ∧ ∃ P' : Nat → Nat → Nat → Prop, cPc P' (sL s) o.2 ∧ (∀ q i j, P' q i j → zPi g s q i j) ∧ (∀ q i j, P q i j → P' q i j) ∧ (∀ q i j, P' q i j → P q i j ∨ (m ≤ i ∧ j ≤ n)) ∧ ∀ r q i j, P' r m n → zmk2 g s r m n q i j → P' q i j := by
  have hgn := g_n hg
  have hsp := zsp_lt n (by omega) m (by omega) hm
  rw [w_forest_spread]
  let SI : Int32 → zzM → (Nat → Nat → Nat → Prop) → Prop := fun x z P' => zfr [53, 54, 55] μ z ∧ cPc P' (sL s) z ∧ (∀ q i j, P' q i j → zPi g s q i j) ∧ (∀ q i j, P q i j → P' q i j) ∧ (∀ q i j, P' q i j → P q i j ∨ (m ≤ i ∧ j ≤ n)) ∧ (∀ r, r < 32 → bt x r = true → r < gN g ∧ ∀ q i j, zmk2 g s r m n q i j → P' q i j)
  let cl : Int32 → (Nat → Nat → Nat → Prop) → Prop := fun x P' => ∀ r, P' r m n → bt x r = true
  have hlt : ∀ P' : Nat → Nat → Nat → Prop, (∀ q i j, P' q i j → zPi g s q i j) → ∀ r, P' r m n → r < gN g := fun P' hq r hr => zM_lt (zPi_M (hq _ _ _ hr))
  have hend : ∀ x z P', SI x z P' → cl x P' → zfr [53, 54, 55] μ z ∧ ∃ P' : Nat → Nat → Nat → Prop, cPc P' (sL s) z ∧ (∀ q i j, P' q i j → zPi g s q i j) ∧ (∀ q i j, P q i j → P' q i j) ∧ (∀ q i j, P' q i j → P q i j ∨ (m ≤ i ∧ j ≤ n)) ∧ ∀ r q i j, P' r m n → zmk2 g s r m n q i j → P' q i j := by
    rintro x z P' ⟨a1, a2, a3, a4, a5, a6⟩ hcl
    exact ⟨a1, P', a2, a3, a4, a5, fun r q i j hr e => (a6 r (by have := hlt P' a3 r hr; omega) (hcl r hr)).2 q i j e⟩
  refine zl_up (fun i (a : Int32 × Int32 × (Nat → Nat → Nat → Prop) × zzM) => ([nI m, nI n, a.1, a.2.1, nI i], [], a.2.2.2)) (fun i a => SI a.1 a.2.2.2 a.2.2.1 ∧ ((a.2.1 = a.1 ∧ cl a.1 a.2.2.1) ∨ (¬ a.2.1 = a.1 ∧ i ≤ zcnt (bt a.1) 12))) 0 13 (nI 0, -(nI 1), P, μ) (by omega) (by omega) rfl ⟨⟨zf_refl _ _, hP, hPi, fun _ _ _ e => e, fun _ _ _ e => .inl e, fun r _ e => by rw [b_z] at e; cases e⟩, .inr ⟨by show ¬ -(nI 1) = nI 0; decide, Nat.zero_le _⟩⟩ ?_ ?_
  · rintro i ⟨x, bf, P', z⟩ ga - hi ⟨hS, hcl⟩ hgo
    simp only at hS hcl
    unfold L98_b
    simp only [zI0, zI1, zI2, zI3, zI4, zI5, zI6, zI7, zI8, zJ0, zJ1, zJ2, zMM]
    rw [if_neg (by rw [zq_lt (by omega) (by omega)]; omega)]
    by_cases e : bf = x
    · rw [if_pos e]
      rcases hcl with ⟨-, hcl⟩ | ⟨hcl, -⟩
      · exact zw_some (hend x z P' hS hcl)
      · exact absurd e hcl
    · rw [if_neg e]
      have hci : i ≤ zcnt (bt x) 12 := by
        rcases hcl with ⟨hcl, -⟩ | ⟨-, hcl⟩
        · exact absurd hcl e
        · exact hcl
      refine zl_up (fun r (a : Int32 × (Nat → Nat → Nat → Prop) × zzM) => ([nI m, nI n, a.1, x, nI i, nI r], [], a.2.2)) (fun r a => SI a.1 a.2.2 a.2.1 ∧ (∀ q, q < 32 → bt x q = true → bt a.1 q = true) ∧ (x = a.1 → ∀ r', r' < r → a.2.1 r' m n → bt a.1 r' = true)) 0 (gN g) (x, P', z) (by omega) (by omega) rfl ⟨hS, fun q _ e => e, fun _ r' e => absurd e (by omega)⟩ ?_ ?_
      · rintro r ⟨x1, P1, z1⟩ gb - hr ⟨hS1, hmo, hcl1⟩ hgo2
        simp only at hS1 hmo hcl1
        obtain ⟨a1, a2, a3, a4, a5, a6⟩ := id hS1
        have hz1 := zc2_fr h a1 rfl
        have hcz := cCf_fr hc a1 rfl
        unfold L98_a
        simp only [zI0, zI1, zI2, zI3, zI4, zI5, zI6, zI7, zI8, zJ0, zJ1, zJ2, zMM]
        rw [c_n hz1, if_neg (by rw [zq_le (by omega) (by omega)]; omega), s_zsp _ hm (by omega), Option.bind_some, zr_i _ _ hsp (by omega), Option.bind_some]
        simp (disch := omega) only [b_bit, zq_add]
        rw [b_and, b_not (by omega)]
        have hPr := a2 m n hm hn r (by omega)
        cases hb1 : bt (z1.1 53 (zsp m n)) r with
        | false =>
          rw [Bool.false_and, if_pos rfl]
          refine hgo2 (x1, P1, z1) ⟨hS1, hmo, fun e r' a b => ?_⟩
          by_cases er : r' = r
          · rw [er] at b
            have b : P1 r m n := b
            rw [hPr.2 b] at hb1; cases hb1
          · exact hcl1 e r' (by omega) b
        | true =>
          rw [Bool.true_and]
          cases hb2 : bt x1 r with
          | true =>
            rw [if_pos (by decide)]
            refine hgo2 (x1, P1, z1) ⟨hS1, hmo, fun e r' a b => ?_⟩
            by_cases er : r' = r
            · rw [er]; exact hb2
            · exact hcl1 e r' (by omega) b
          | false =>
            rw [if_neg (by decide)]
            obtain ⟨o, f1, f2, f3⟩ := s_markBelow hz1 hg hcz hsl d hr hm hn a2
            rw [f1, Option.bind_some]
            have hbit : ∀ q, q < 32 → (bt (x1 ||| nI 1 <<< (nI r &&& 31)) q = true ↔ bt x1 q = true ∨ q = r) := fun q hq => by
              rw [b_or, b_sh1 (by omega) hq, Bool.or_eq_true, decide_eq_true_eq]
            refine hgo2 (x1 ||| nI 1 <<< (nI r &&& 31), (fun q i j => P1 q i j ∨ zmk2 g s r m n q i j), o.2) ⟨⟨zf_trans a1 f2, f3, fun q i j e => ?_, fun q i j e => .inl (a4 q i j e), fun q i j e => ?_, fun r' hr' e => ?_⟩, fun q hq e => (hbit q hq).2 (.inl (hmo q hq e)), fun e => ?_⟩
            · rcases e with e | e
              · exact a3 q i j e
              · exact zPi_s (a3 r m n (hPr.1 hb1)) e
            · rcases e with e | e
              · exact a5 q i j e
              · have := zmk2_in e
                exact .inr ⟨by omega, by omega⟩
            · rcases (hbit r' hr').1 e with e | e
              · obtain ⟨g1, g2⟩ := a6 r' hr' e
                exact ⟨g1, fun q i j f => .inl (g2 q i j f)⟩
              · rw [e]
                exact ⟨hr, fun q i j f => .inr f⟩
            · exfalso
              have h5 := (hbit r (by omega)).2 (.inr rfl)
              have e : x = x1 ||| nI 1 <<< (nI r &&& 31) := e
              rw [← e] at h5
              rw [hmo r (by omega) h5] at hb2
              cases hb2
      · rintro ⟨x1, P1, z1⟩ gb ⟨hS1, hmo, hcl1⟩
        simp only at hS1 hmo hcl1
        have hz1 := zc2_fr h hS1.1 rfl
        unfold L98_a
        simp only [zI0, zI1, zI2, zI3, zI4, zI5, zI6, zI7, zI8, zJ0, zJ1, zJ2, zMM]
        rw [c_n hz1, if_pos (by rw [zq_le (by omega) (by omega)]; omega), zq_add]
        refine hgo (x1, x, P1, z1) ⟨hS1, ?_⟩
        by_cases e2 : x = x1
        · exact .inl ⟨e2, fun r hr => hcl1 e2 r (hlt P1 hS1.2.2.1 r hr) hr⟩
        · refine .inr ⟨e2, ?_⟩
          have := zcnt_bits (n := 12) (by omega) hmo (fun c hc q => by have := (hS1.2.2.2.2.2 c hc q).1; omega) e2
          show i + 1 ≤ zcnt (bt x1) 12
          omega
  · rintro ⟨x, bf, P', z⟩ ga ⟨hS, hcl⟩
    simp only at hS hcl
    unfold L98_b
    simp only [zI0, zI1, zI2, zI3, zI4, zI5, zI6, zI7, zI8, zJ0, zJ1, zJ2, zMM]
    rw [if_pos (by rw [zq_lt (by omega) (by omega)]; omega)]
    rcases hcl with ⟨-, hcl⟩ | ⟨-, hcl⟩
    · exact zw_some (hend x z P' hS hcl)
    · have := zcnt_le (bt x) 12
      omega
def foOk (g : zG) (s : zSn) (μ : zzM) : Prop := cPc (zPi g s) (sL s) μ
theorem s_forFind {g : zG} {s : zSn} {μ : zzM} (h : zc2 g s μ) (hg : zwg g) (hs : zws g s) (hn0 : 0 < gN g) (hc : cCh true 36 37 38 39 g s μ) (d : Nat) (hst : μ.1 52 2 = 0 ∨ foOk g s μ) : zw (zzf zzP zN (d + 6) 97 [.ref 52] μ) fun o => zfr [36, 37, 38, 39, 52, 53, 54, 55] μ o.2 ∧ cCh true 36 37 38 39 g s o.2 ∧ foOk g s o.2 ∧ ¬ o.2.1 52 2 = 0 ∧ (∀ p, p ≠ 2 → p ≠ 3 → o.2.1 52 p = μ.1 52 p) ∧ (o.2.1 52 3 = nI 0 ∨ (¬ μ.1 52 2 = 0 ∧ o.2 = μ)) := by
  have hsl := hs.1
  have hgn := g_n hg
  have hl0 := g_l hg hn0
  rw [w_forest_find]
  by_cases e : μ.1 52 2 = 0
  · rw [if_pos e]
    obtain ⟨o, e1, e2, e3, e4⟩ := s_fill_36 d h hg hs hc
    rw [e1, Option.bind_some, s_fill_53, Option.bind_some]
    have hf0 : zfr [36, 37, 38, 39, 52, 53, 54, 55] μ (zblk o.2 53 0 91 fun _ => nI 0) := zf_trans (zf_mono e2 rfl) (zf_b _ _ _ rfl)
    have hc0 : cCf true 36 37 38 39 g s (zblk o.2 53 0 91 fun _ => nI 0) := cCf_fr e3 (zf_b (L := [53]) _ _ _ rfl) rfl
    have h53 : ∀ p, p < 91 → (zblk o.2 53 0 91 fun _ => nI 0).1 53 p = nI 0 := fun p hp => zb_i _ _ _ (Nat.zero_le _) hp
    have h52 : ∀ p, (zblk o.2 53 0 91 fun _ => nI 0).1 52 p = μ.1 52 p := fun p => by rw [zb_c _ _ _ _ (by omega), zf_i e2 rfl]
    generalize zblk o.2 53 0 91 (fun _ => nI 0) = z0 at hf0 hc0 h53 h52 ⊢
    have hz0 := zc2_fr h hf0 rfl
    have hsp := zsp_lt (sL s) (by omega) 0 (by omega) (Nat.zero_le _)
    have es := s_zsp (d + 4) (m := 0) (n := sL s) (Nat.zero_le _) (by omega) z0
    have er := s_rulesAt_36 (d + 3) (m := 0) (n := sL s) (Nat.zero_le _) (by omega) z0
    rw [zr_i _ _ (by omega) (by omega), c_l hz0 hn0, Option.bind_some, c_len hz0, es, Option.bind_some, c_len hz0, er, Option.bind_some, zq_sub hl0.1, zr_i _ _ (by omega) (by omega), Option.bind_some, zs_i _ _ _ hsp (by omega), Option.bind_some]
    have hf1 : zfr [53] z0 (zzwI z0 53 (zsp 0 (sL s)) (z0.1 38 (zsp 0 (sL s)) &&& z0.1 9 (gL g 0 - 26))) := zf_wI _ _ rfl
    have hb1 : ∀ q, q < 32 → (bt (z0.1 38 (zsp 0 (sL s)) &&& z0.1 9 (gL g 0 - 26)) q = true ↔ gL g q = gL g 0 ∧ zM true g s q 0 (sL s)) := fun q hq => by
      rw [b_and, Bool.and_eq_true, c_ro hc0 (Nat.zero_le _) (Nat.le_refl _) hsl hq, c_u hz0 (by omega) hq, decide_eq_true_eq]
      constructor
      · rintro ⟨a, b, c⟩
        exact ⟨by omega, a⟩
      · rintro ⟨a, b⟩
        exact ⟨b, zM_lt b, by omega⟩
    have hP0 : cPc (fun q i j => i = 0 ∧ j = sL s ∧ gL g q = gL g 0 ∧ zM true g s q i j) (sL s) (zzwI z0 53 (zsp 0 (sL s)) (z0.1 38 (zsp 0 (sL s)) &&& z0.1 9 (gL g 0 - 26))) := fun i j a b q hq => by
      by_cases eij : i = 0 ∧ j = sL s
      · obtain ⟨rfl, rfl⟩ := eij
        rw [zm_s, hb1 q hq]
        exact ⟨fun f => ⟨rfl, rfl, f⟩, fun f => f.2.2⟩
      · have := zsp_lt j (by omega) i (by omega) a
        rw [zm_k _ _ _ _ (fun f => eij (zsp_inj j (by omega) i (by omega) a (sL s) (by omega) 0 (by omega) (Nat.zero_le _) f)), h53 _ this, b_z]
        exact ⟨fun f => (by cases f), fun f => absurd ⟨f.1, f.2.1⟩ eij⟩
    have hl2 : (zzwI z0 53 (zsp 0 (sL s)) (z0.1 38 (zsp 0 (sL s)) &&& z0.1 9 (gL g 0 - 26))).1 2 2 = nI (sL s) := by
      rw [zm_c _ _ _ (by omega), c_len hz0]
    rw [hl2]
    generalize zzwI z0 53 (zsp 0 (sL s)) (z0.1 38 (zsp 0 (sL s)) &&& z0.1 9 (gL g 0 - 26)) = z1 at hf1 hP0 ⊢
    have hdone : ∀ P : Nat → Nat → Nat → Prop, (∀ q i j, P q i j → zPi g s q i j) → (∀ q, gL g q = gL g 0 → zM true g s q 0 (sL s) → P q 0 (sL s)) → (∀ r m n q i j, m ≤ n → n ≤ sL s → P r m n → zmk2 g s r m n q i j → P q i j) → ∀ y, cPc P (sL s) y → foOk g s y := fun P p1 p2 p3 y hy i j a b q hq => by
      rw [hy i j a b q hq]
      exact ⟨p1 q i j, zPi_co p2 p3⟩
    refine zl_dn (fun l (y : zzM) => ([nJ l], [], y)) (fun l y => zfr [53, 54, 55] z0 y ∧ ∃ P : Nat → Nat → Nat → Prop, cPc P (sL s) y ∧ (∀ q i j, P q i j → zPi g s q i j) ∧ (∀ q, gL g q = gL g 0 → zM true g s q 0 (sL s) → P q 0 (sL s)) ∧ ∀ r m n q i j, m + l ≤ n → n ≤ sL s → P r m n → zmk2 g s r m n q i j → P q i j) 0 (sL s + 1) z1 (by omega) (by omega) (by rw [nJ_s]) ⟨zf_mono hf1 rfl, _, hP0, fun q i j f => ?_, fun q a b => ⟨rfl, rfl, a, b⟩, fun r m n q i j a b => by omega⟩ ?_ ?_
    · obtain ⟨rfl, rfl, a, b⟩ := f
      exact zPi_0 a b
    · rintro L y ga - hL ⟨i1, P, i2, i3, i4, i5⟩ hgo
      unfold L97_b
      simp only [zI0, zI1, zI2, zI3, zI4, zI5, zI6, zI7, zI8, zJ0, zJ1, zJ2, zMM]
      rw [nJ_s, if_neg (nI_pos (by omega))]
      refine zl_up (fun m (y : zzM) => ([nI L, nI m], [], y)) (fun m y => zfr [53, 54, 55] z0 y ∧ ∃ P : Nat → Nat → Nat → Prop, cPc P (sL s) y ∧ (∀ q i j, P q i j → zPi g s q i j) ∧ (∀ q, gL g q = gL g 0 → zM true g s q 0 (sL s) → P q 0 (sL s)) ∧ ∀ r m' n q i j, (m' + (L + 1) ≤ n ∨ (n = m' + L ∧ m' < m)) → n ≤ sL s → P r m' n → zmk2 g s r m' n q i j → P q i j) 0 (sL s - L + 1) y (by omega) (by omega) rfl ⟨i1, P, i2, i3, i4, fun r m' n q i j a => i5 r m' n q i j (by omega)⟩ ?_ ?_
      · rintro m y gb - hm ⟨j1, P, j2, j3, j4, j5⟩ hgo2
        have hfy := zf_trans hf0 (zf_mono (L' := [36, 37, 38, 39, 52, 53, 54, 55]) j1 rfl)
        have hy := zc2_fr h hfy rfl
        have hcy := cCf_fr hc0 j1 rfl
        unfold L97_a
        simp only [zI0, zI1, zI2, zI3, zI4, zI5, zI6, zI7, zI8, zJ0, zJ1, zJ2, zMM]
        rw [c_len hy, zq_add, if_neg (by rw [zq_lt (by omega) (by omega)]; omega)]
        obtain ⟨o1, f1, f2, P', f3, f4, f5, f6, f7⟩ := s_spread hy hg hcy hsl d (show m ≤ m + L by omega) (show m + L ≤ sL s by omega) j2 j3
        rw [f1, Option.bind_some, zq_add]
        refine hgo2 o1.2 ⟨zf_trans j1 f2, P', f3, f4, fun q a b => f5 _ _ _ (j4 q a b), fun r m' n q i j a b c f => ?_⟩
        by_cases emn : m' = m ∧ n = m + L
        · obtain ⟨rfl, rfl⟩ := emn
          exact f7 r q i j c f
        · have hPr : P r m' n := by
            rcases f6 r m' n c with k | k
            · exact k
            · omega
          exact f5 _ _ _ (j5 r m' n q i j (by omega) b hPr f)
      · rintro y gb ⟨j1, P, j2, j3, j4, j5⟩
        have hfy := zf_trans hf0 (zf_mono (L' := [36, 37, 38, 39, 52, 53, 54, 55]) j1 rfl)
        have hy := zc2_fr h hfy rfl
        unfold L97_a
        simp only [zI0, zI1, zI2, zI3, zI4, zI5, zI6, zI7, zI8, zJ0, zJ1, zJ2, zMM]
        rw [c_len hy, zq_add, if_pos (by rw [zq_lt (by omega) (by omega)]; omega), nJ_e]
        exact hgo y ⟨j1, P, j2, j3, j4, fun r m' n q i j a b => j5 r m' n q i j (by omega) b⟩
    · rintro y ga ⟨i1, P, i2, i3, i4, i5⟩
      unfold L97_b
      simp only [zI0, zI1, zI2, zI3, zI4, zI5, zI6, zI7, zI8, zJ0, zJ1, zJ2, zMM]
      rw [if_pos (by decide)]
      simp only [zk_0, zk_1, if_true]
      have hf4 : zfr [52, 53, 54, 55] z0 (zzwI (zzwI y 52 2 (nI 1)) 52 3 (nI 0)) := zf_twI _ _ (zf_twI _ _ (zf_mono i1 rfl) rfl) rfl
      refine zw_some ⟨zf_trans hf0 (zf_mono hf4 rfl), cCf_h (cCf_fr hc0 hf4 rfl), hdone P i3 i4 (fun r m n q i j a => i5 r m n q i j (by omega)) _ (fun i j a b q hq => ?_), ?_, fun p a b => ?_, .inl (zm_s _ _ _ _)⟩
      · rw [zm_c _ _ _ (by omega), zm_c _ _ _ (by omega)]
        exact i2 i j a b q hq
      · rw [zm_k _ _ _ _ (by omega), zm_s]
        decide
      · rw [zm_k _ _ _ _ b, zm_k _ _ _ _ a, zf_i i1 rfl]
        exact h52 p
  · rw [if_neg e]
    exact zw_some ⟨zf_refl _ _, hc, hst.resolve_left e, e, fun _ _ _ => rfl, .inr ⟨e, rfl⟩⟩
