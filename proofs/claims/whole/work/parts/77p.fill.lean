/-! THE CHART of the class is filled, object 31 -/
theorem s_fitBelow_31 (d : Nat) {g : zG} {s : zSn} {μ : zzM} (h : zc2 g s μ) (hg : zwg g) {K : Bool} (hK : μ.1 31 1 = zB K) {r k : Nat} (hr : r < gN g) (hk : k < gZ g r) : zw (zzf zzP zN (d + 3) 60 [.ref 31, .int (nI r), .int (nI k)] μ) fun o => o.2 = μ ∧ ∀ q, q < 32 → bt o.1.1 q = zbl K g s r k q := by
  have hn := g_n hg
  have hsy := g_s hg hr hk
  rw [u_chart_fittingBelow_31, s_symAt h hg _ hr hk, Option.bind_some]
  simp (disch := omega) only [zq_le]
  by_cases h26 : 26 ≤ gS g r k
  · rw [if_pos h26, zq_sub h26, zr_i _ _ (by omega) (by omega), Option.bind_some, s_told h, Option.bind_some]
    refine zl_up (fun i (x : Int32) => ([nI r, nI k, x, nI i], [], μ)) (fun i x => ∀ q, q < 32 → bt x q = (zon g s q && (decide (gL g q = gS g r k) && !(K && (decide (q < i) && zfb g s r k q))))) 0 (gN g) _ (by omega) (by omega) rfl ?_ ?_ ?_
    · intro q hq
      rw [b_and, zTo_b hg hq, c_u h (by omega) hq, show 26 + (gS g r k - 26) = gS g r k by omega]
      unfold zon
      by_cases h1 : q < gN g <;> by_cases h2 : gL g q = gS g r k <;> simp [h1, h2]
    · rintro i x g' - hi hI hgo
      simp only [zI0, zI1, zI2, zI3, zI4, zI5, zI6, zI7, zI8, zJ0, zJ1, zJ2, zMM]
      rw [c_n h, if_neg (by rw [zq_le (by omega) (by omega)]; omega), hK]
      simp only [zB_0, zq_add]
      cases K with
      | false =>
        rw [if_pos rfl]
        refine zw_some ⟨rfl, fun q hq => ?_⟩
        rw [hI q hq]
        rfl
      | true =>
        rw [if_neg (by decide), s_isForb h hg d hr hk hi, Option.bind_some]
        simp only [zB_0]
        cases e : zfb g s r k i with
        | false =>
          rw [if_pos rfl]
          refine hgo x fun q hq => ?_
          rw [hI q hq]
          by_cases eq : q = i
          · subst eq; simp [e]
          · have : (q < i) = (q < i + 1) := propext (by omega)
            simp only [this]
        | true =>
          rw [if_neg (by decide)]
          refine hgo _ fun q hq => ?_
          rw [b_and, b_not hq, b_sh1 (by omega) hq, hI q hq]
          by_cases eq : q = i
          · subst eq; simp [e]
          · have : (q < i) = (q < i + 1) := propext (by omega)
            simp only [this]
            simp [eq]
    · rintro x g' hI
      simp only [zI0, zI1, zI2, zI3, zI4, zI5, zI6, zI7, zI8, zJ0, zJ1, zJ2, zMM]
      rw [c_n h, if_pos (by rw [zq_le (by omega) (by omega)]; omega)]
      refine zw_some ⟨rfl, fun q hq => ?_⟩
      rw [hI q hq]
      unfold zbl zon
      by_cases h1 : q < gN g <;> simp [h1]
  · rw [if_neg h26]
    refine zw_some ⟨rfl, fun q hq => ?_⟩
    rw [b_z]
    cases e : zbl K g s r k q with
    | false => rfl
    | true =>
      have := zbl_cap hg e
      omega
theorem s_findFit_31 (d : Nat) {g : zG} {s : zSn} {μ : zzM} (h : zc2 g s μ) (hg : zwg g) (hK : μ.1 31 1 = zB false) : zw (zzf zzP zN (d + 4) 59 [.ref 31] μ) fun o => zfr [32] μ o.2 ∧ cFi false 32 g s o.2 := by
  have hn := g_n hg
  rw [u_chart_findFitting_31]
  refine zl_up (fun r (y : zzM) => ([nI r], [], y)) (fun r y => zfr [32] μ y ∧ ∀ r' k', r' < r → k' < gZ g r' → ∀ q, q < 32 → bt (y.1 32 (r' * 4 + k')) q = zbl false g s r' k' q) 0 (gN g) μ (by omega) (by omega) rfl ⟨zf_refl _ _, fun r' k' q => absurd q (by omega)⟩ ?_ ?_
  · rintro r y g' - hr ⟨hf, hI⟩ hgo
    have hy := zc2_fr h hf rfl
    have hz := g_z hg hr
    simp only [zI0, zI1, zI2, zI3, zI4, zI5, zI6, zI7, zI8, zJ0, zJ1, zJ2, zMM]
    rw [c_n hy, if_neg (by rw [zq_le (by omega) (by omega)]; omega)]
    refine zl_up (fun k (y : zzM) => ([nI r, nI k], [], y)) (fun k y => zfr [32] μ y ∧ ∀ r' k', (r' < r ∨ (r' = r ∧ k' < k)) → k' < gZ g r' → ∀ q, q < 32 → bt (y.1 32 (r' * 4 + k')) q = zbl false g s r' k' q) 0 (gZ g r) y (by omega) (by omega) rfl ⟨hf, fun r' k' a b => hI r' k' (by omega) b⟩ ?_ ?_
    · rintro k y g'' - hk ⟨hf, hI⟩ hgo2
      have hy := zc2_fr h hf rfl
      have hKy : y.1 31 1 = zB false := by rw [zf_i hf rfl]; exact hK
      simp only [zI0, zI1, zI2, zI3, zI4, zI5, zI6, zI7, zI8, zJ0, zJ1, zJ2, zMM]
      rw [zr_i _ _ (by omega) (by omega), c_z hy hr, Option.bind_some, if_neg (by rw [zq_le (by omega) (by omega)]; omega)]
      obtain ⟨o, e1, e2, e3⟩ := s_fitBelow_31 d hy hg hKy hr hk
      rw [e1, Option.bind_some, e2]
      simp only [zq_mul, zq_add]
      rw [zs_i _ _ _ (by omega) (by omega), Option.bind_some]
      refine hgo2 _ ⟨zf_twI _ _ hf rfl, fun r' k' a b q hq => ?_⟩
      by_cases e : r' = r ∧ k' = k
      · obtain ⟨rfl, rfl⟩ := e
        rw [zm_s]
        exact e3 q hq
      · have : k' < 4 := by
          have := g_z hg (show r' < gN g by omega)
          omega
        rw [zm_k _ _ _ _ (by omega)]
        exact hI r' k' (by omega) b q hq
    · rintro y g'' ⟨hf, hI⟩
      have hy := zc2_fr h hf rfl
      simp only [zI0, zI1, zI2, zI3, zI4, zI5, zI6, zI7, zI8, zJ0, zJ1, zJ2, zMM]
      rw [zr_i _ _ (by omega) (by omega), c_z hy hr, Option.bind_some, if_pos (by rw [zq_le (by omega) (by omega)]; omega), zq_add]
      refine hgo y ⟨hf, fun r' k' a b => hI r' k' ?_ b⟩
      by_cases e : r' = r
      · subst e; exact .inr ⟨rfl, b⟩
      · exact .inl (by omega)
  · rintro y g' ⟨hf, hI⟩
    have hy := zc2_fr h hf rfl
    simp only [zI0, zI1, zI2, zI3, zI4, zI5, zI6, zI7, zI8, zJ0, zJ1, zJ2, zMM]
    rw [c_n hy, if_pos (by rw [zq_le (by omega) (by omega)]; omega)]
    exact zw_some ⟨hf, hI⟩
theorem s_settle_31 (d : Nat) {g : zG} {s : zSn} {μ : zzM} (h : zc2 g s μ) (hg : zwg g) (hF : cFi false 32 g s μ) (hE : cEl 34 μ) {m n : Nat} (hm : m ≤ n) (hn : n ≤ 12)
    (hsm : ∀ r k, r < gN g → k < gZ g r → (bt (μ.1 34 ((r * 4 + k) * 13 + m)) n = true ↔ n = m + 1 ∧ sX s m = gS g r k)) (hx26 : n = m + 1 → sX s m < 26)
    (hsub : ∀ i j, m ≤ i → i ≤ j → j ≤ n → ¬ (i = m ∧ j = n) → ∀ r k, r < gN g → k < gZ g r → (bt (μ.1 34 ((r * 4 + k) * 13 + i)) j = true ↔ zCB false g s (zM false g s) r k i j)) :
    zw (zzf zzP zN (d + 3) 62 [.ref 31, .int (nI m), .int (nI n)] μ) fun o => zfr [33, 34] μ o.2 ∧ (∀ p, p ≠ zsp m n → o.2.1 33 p = μ.1 33 p) ∧ (∀ r, r < 32 → (bt (o.2.1 33 (zsp m n)) r = true ↔ zM false g s r m n)) ∧ (∀ x i j, x < 48 → i < 13 → j < 32 → ¬ (i = m ∧ j = n) → bt (o.2.1 34 (x * 13 + i)) j = bt (μ.1 34 (x * 13 + i)) j) ∧ ∀ r k, r < gN g → k < gZ g r → (bt (o.2.1 34 ((r * 4 + k) * 13 + m)) n = true ↔ zCB false g s (zM false g s) r k m n) := by
  have hgn := g_n hg
  have hsp := zsp_lt n (by omega) m (by omega) hm
  rw [u_chart_settle_31, s_span _ (by omega) (by omega), Option.bind_some]
  have esp : n * (n + 1) / 2 + m = zsp m n := rfl
  rw [esp, zs_i _ _ _ hsp (by omega), Option.bind_some]
  generalize zsp m n = p0 at hsp ⊢
  have h0 : zc2 g s (zzwI μ 33 p0 (nI 0)) := zc2_fr h (zf_wI (L := [33]) _ _ rfl) rfl
  rw [s_told h0, Option.bind_some]
  let SI : zzM → Prop := fun y => zfr [33, 34] μ y ∧ (∀ p, p ≠ p0 → y.1 33 p = μ.1 33 p) ∧ (∀ r, r < 32 → bt (y.1 33 p0) r = true → zM false g s r m n) ∧ (∀ x i j, x < 48 → i < 13 → j < 32 → ¬ (i = m ∧ j = n) → bt (y.1 34 (x * 13 + i)) j = bt (μ.1 34 (x * 13 + i)) j) ∧ ∀ r k, r < gN g → k < gZ g r → (bt (y.1 34 ((r * 4 + k) * 13 + m)) n = true ↔ zCB false g s (fun q _ _ => q < 32 ∧ bt (y.1 33 p0) q = true) r k m n)
  let X : zzM → Nat → Prop := fun y q => q < 32 ∧ bt (y.1 33 p0) q = true
  have hcb : ∀ y, SI y → ∀ r, r < gN g → ∀ k i j, k < gZ g r → m ≤ i → i ≤ j → j ≤ n → (bt (y.1 34 ((r * 4 + k) * 13 + i)) j = true ↔ zCB false g s (zMX false g s (X y) m n) r k i j) := by
    intro y hy r hr k i j hk h1 h2 h3
    have hz := g_z hg hr
    by_cases e : i = m ∧ j = n
    · obtain ⟨rfl, rfl⟩ := e
      rw [hy.2.2.2.2 r k hr hk]
      exact ⟨zCB_mo fun q e => by unfold zMX; rw [if_pos ⟨rfl, rfl⟩]; exact e, zCB_mo fun q e => by unfold zMX at e; rw [if_pos ⟨rfl, rfl⟩] at e; exact e⟩
    · rw [hy.2.2.2.1 (r * 4 + k) i j (by omega) (by omega) (by omega) e, hsub i j h1 h2 h3 e r k hr hk]
      exact ⟨zCB_mo fun q e' => by unfold zMX; rw [if_neg e]; exact e', zCB_mo fun q e' => by unfold zMX at e'; rw [if_neg e] at e'; exact e'⟩
  have hso : ∀ y, SI y → ∀ q, X y q → zM false g s q m n := fun y hy q hq => hy.2.2.1 q hq.1 hq.2
  have hpa : ∀ y, SI y → ∀ r, r < gN g → (zPa (fun k i j => bt (y.1 34 ((r * 4 + k) * 13 + i)) j = true) (gZ g r) m n ↔ zPa (zCB false g s (zMX false g s (X y) m n) r) (gZ g r) m n) := fun y hy r hr => ⟨zPa_mo fun k i j a b c e f => (hcb y hy r hr k i j a b c e).1 f, zPa_mo fun k i j a b c e f => (hcb y hy r hr k i j a b c e).2 f⟩
  have hel : ∀ y, SI y → cEl 34 y := fun y hy x i j h1 h2 h3 => by
    rw [hy.2.2.2.1 x i j h1 h2 (by omega) (by omega)]
    exact hE x i j h1 h2 h3
  let cl : zzM → Prop := fun y => ∀ r, zon g s r = true → zPa (zCB false g s (zMX false g s (X y) m n) r) (gZ g r) m n → X y r
  have hend : ∀ y, SI y → cl y → zfr [33, 34] μ y ∧ (∀ p, p ≠ p0 → y.1 33 p = μ.1 33 p) ∧ (∀ r, r < 32 → (bt (y.1 33 p0) r = true ↔ zM false g s r m n)) ∧ (∀ x i j, x < 48 → i < 13 → j < 32 → ¬ (i = m ∧ j = n) → bt (y.1 34 (x * 13 + i)) j = bt (μ.1 34 (x * 13 + i)) j) ∧ ∀ r k, r < gN g → k < gZ g r → (bt (y.1 34 ((r * 4 + k) * 13 + m)) n = true ↔ zCB false g s (zM false g s) r k m n) := by
    intro y hy hc
    have hb : ∀ r, r < 32 → (bt (y.1 33 p0) r = true ↔ zM false g s r m n) := fun r hr => ⟨hy.2.2.1 r hr, fun q => (zX_co hc q).2⟩
    refine ⟨hy.1, hy.2.1, hb, hy.2.2.2.1, fun r k hr hk => ?_⟩
    rw [hy.2.2.2.2 r k hr hk]
    exact ⟨zCB_mo fun q e => (hb q e.1).1 e.2, zCB_mo fun q e => ⟨by have := zM_lt e; omega, (hb q (by have := zM_lt e; omega)).2 e⟩⟩
  have h00 : SI (zzwI μ 33 p0 (nI 0)) := by
    refine ⟨zf_wI _ _ rfl, fun p hp => zm_k _ _ _ _ hp, fun r hr q => ?_, fun x i j _ _ _ _ => by rw [zm_c _ _ _ (by omega)], fun r k hr hk => ?_⟩
    · rw [zm_s, b_z] at q
      cases q
    · have hsy := g_s hg hr hk
      rw [zm_c _ _ _ (by omega), hsm r k hr hk]
      constructor
      · rintro ⟨a, b⟩
        have := hx26 a
        exact .inl ⟨(by omega), a, b⟩
      · rintro (⟨a, b, c⟩ | ⟨a, q, b, c, e⟩)
        · exact ⟨b, c⟩
        · rw [zm_s, b_z] at e
          cases e
  refine zl_up (fun i (x : Int32 × zzM) => ([nI m, nI n, nI p0, zTo g s, x.1, nI i], [], x.2)) (fun i x => SI x.2 ∧ ((x.1 = x.2.1 33 p0 ∧ cl x.2) ∨ (¬ x.1 = x.2.1 33 p0 ∧ i ≤ zcnt (bt (x.2.1 33 p0)) 12))) 0 13 (-(nI 1), zzwI μ 33 p0 (nI 0)) (by omega) (by omega) rfl ⟨h00, .inr ⟨by show ¬ -(nI 1) = (zzwI μ 33 p0 (nI 0)).1 33 p0; rw [zm_s]; decide, Nat.zero_le _⟩⟩ ?_ ?_
  · rintro i ⟨bf, y⟩ g' - hi ⟨hy, hc⟩ hgo
    simp only at hy hc
    simp only [zI0, zI1, zI2, zI3, zI4, zI5, zI6, zI7, zI8, zJ0, zJ1, zJ2, zMM]
    rw [if_neg (by rw [zq_lt (by omega) (by omega)]; omega), zr_i _ _ hsp (by omega), Option.bind_some]
    by_cases e : bf = y.1 33 p0
    · rw [if_pos e]
      rcases hc with ⟨-, hc⟩ | ⟨hc, -⟩
      · exact zw_some (hend y hy hc)
      · exact absurd e hc
    · rw [if_neg e, Option.bind_some]
      have hci : i ≤ zcnt (bt (y.1 33 p0)) 12 := by
        rcases hc with ⟨hc, -⟩ | ⟨-, hc⟩
        · exact absurd hc e
        · exact hc
      refine zl_up (fun r (z : zzM) => ([nI m, nI n, nI p0, zTo g s, y.1 33 p0, nI i, nI r], [], z)) (fun r z => SI z ∧ (∀ q, q < 32 → bt (y.1 33 p0) q = true → bt (z.1 33 p0) q = true) ∧ (y.1 33 p0 = z.1 33 p0 → ∀ r', r' < r → zon g s r' = true → zPa (zCB false g s (zMX false g s (X z) m n) r') (gZ g r') m n → X z r')) 0 (gN g) y (by omega) (by omega) rfl ⟨hy, fun q _ e => e, fun _ r' q => absurd q (by omega)⟩ ?_ ?_
      · rintro r z g'' - hr ⟨hz, hmo, hcl⟩ hgo2
        have hzc := zc2_fr h hz.1 rfl
        simp only [zI0, zI1, zI2, zI3, zI4, zI5, zI6, zI7, zI8, zJ0, zJ1, zJ2, zMM]
        rw [c_n hzc, if_neg (by rw [zq_le (by omega) (by omega)]; omega), zr_i _ _ hsp (by omega), Option.bind_some]
        simp (disch := omega) only [zq_add, b_bit]
        rw [b_and, b_not (by omega), zTo_b hg (by omega)]
        cases hon : zon g s r with
        | false =>
          rw [Bool.false_and, if_pos rfl]
          refine hgo2 z ⟨hz, hmo, fun e r' a b => ?_⟩
          by_cases er : r' = r
          · rw [er, hon] at b; cases b
          · exact hcl e r' (by omega) b
        | true =>
          rw [Bool.true_and]
          cases hbr : bt (z.1 33 p0) r with
          | true =>
            rw [if_pos (by decide)]
            refine hgo2 z ⟨hz, hmo, fun e r' a b => ?_⟩
            by_cases er : r' = r
            · rw [er]; exact fun _ => ⟨(by omega), hbr⟩
            · exact hcl e r' (by omega) b
          | false =>
            rw [if_neg (by decide)]
            obtain ⟨o, e1, e2, b, e3, e4⟩ := s_reaches_31 d hzc hg (hel z hz) hr hm hn
            rw [e1, Option.bind_some, e2, e3]
            simp only [zB_0]
            rw [hpa z hz r hr] at e4
            cases b with
            | false =>
              rw [if_pos rfl]
              refine hgo2 z ⟨hz, hmo, fun e r' a b c => ?_⟩
              by_cases er : r' = r
              · subst er
                have := e4.2 c
                cases this
              · exact hcl e r' (by omega) b c
            | true =>
              have hmk : zM false g s r m n := zX_so (hso z hz) hon (e4.1 rfl)
              rw [if_neg (by decide), zr_i _ _ hsp (by omega), Option.bind_some, zs_i _ _ _ hsp (by omega), Option.bind_some]
              have hFz : cFi false 32 g s (zzwI z 33 p0 (z.1 33 p0 ||| nI 1 <<< (nI r &&& 31))) := fun r k a b => by rw [zm_c _ _ _ (by omega), zf_i hz.1 rfl]; exact hF r k a b
              obtain ⟨o', f1, f2, f3⟩ := s_placeRule_31 d (zc2_fr hzc (zf_wI (L := [33]) p0 (z.1 33 p0 ||| nI 1 <<< (nI r &&& 31)) rfl) rfl) hg hFz (q := r) (m := m) (n := n) (by omega) hm hn
              rw [f1, Option.bind_some]
              have hro : o'.2.1 33 = (zzwI z 33 p0 (z.1 33 p0 ||| nI 1 <<< (nI r &&& 31))).1 33 := zf_i f2 rfl
              have hbit : ∀ q, q < 32 → (bt (o'.2.1 33 p0) q = true ↔ bt (z.1 33 p0) q = true ∨ q = r) := fun q hq => by
                rw [hro, zm_s, b_or, b_sh1 (by omega) hq, Bool.or_eq_true, decide_eq_true_eq]
              refine hgo2 o'.2 ⟨⟨zf_trans hz.1 (zf_trans (zf_wI _ _ rfl) (zf_mono f2 rfl)), fun p hp => ?_, fun q hq e => ?_, fun x i' j a b c e => ?_, fun r' k a b => ?_⟩, fun q hq e => (hbit q hq).2 (.inl (hmo q hq e)), fun e => ?_⟩
              · rw [hro, zm_k _ _ _ _ hp]
                exact hz.2.1 p hp
              · rcases (hbit q hq).1 e with e | e
                · exact hz.2.2.1 q hq e
                · rw [e]; exact hmk
              · rw [(f3 x a i' b j c).2 fun q => e ⟨q.1, q.2.1⟩, zm_c _ _ _ (by omega)]
                exact hz.2.2.2.1 x i' j a b c e
              · have hzr := g_z hg a
                have e1' : (r' * 4 + k) / 4 = r' := by omega
                have e2' : (r' * 4 + k) % 4 = k := by omega
                have f4 := (f3 (r' * 4 + k) (by omega) m (by omega) n (by omega)).1 ⟨rfl, rfl, by unfold cdone; rw [e1', e2']; exact ⟨a, b, .inl a⟩⟩
                rw [e1', e2', zm_c _ _ _ (by omega)] at f4
                rw [f4, Bool.or_eq_true, hz.2.2.2.2 r' k a b]
                constructor
                · rintro (e | e)
                  · exact zCB_mo (fun q e => ⟨e.1, (hbit q e.1).2 (.inl e.2)⟩) e
                  · exact .inr ⟨zbl_cap hg e, r, e, (by omega), (hbit r (by omega)).2 (.inr rfl)⟩
                · rintro (e | ⟨e, q, f, hq, f'⟩)
                  · exact .inl (.inl e)
                  · rcases (hbit q hq).1 f' with f' | f'
                    · exact .inl (.inr ⟨e, q, f, hq, f'⟩)
                    · rw [f'] at f; exact .inr f
              · exfalso
                have h5 := (hbit r (by omega)).2 (.inr rfl)
                rw [← e] at h5
                rw [hmo r (by omega) h5] at hbr
                cases hbr
      · rintro z g'' ⟨hz, hmo, hcl⟩
        have hzc := zc2_fr h hz.1 rfl
        simp only [zI0, zI1, zI2, zI3, zI4, zI5, zI6, zI7, zI8, zJ0, zJ1, zJ2, zMM]
        rw [c_n hzc, if_pos (by rw [zq_le (by omega) (by omega)]; omega), zq_add]
        refine hgo (y.1 33 p0, z) ⟨hz, ?_⟩
        by_cases e : y.1 33 p0 = z.1 33 p0
        · exact .inl ⟨e, fun r a b => hcl e r (zon_lt a) a b⟩
        · refine .inr ⟨e, ?_⟩
          have := zcnt_bits (n := 12) (by omega) hmo (fun c hc q => by have := zM_lt (hz.2.2.1 c hc q); omega) e
          show i + 1 ≤ zcnt (bt (z.1 33 p0)) 12
          omega
  · rintro ⟨bf, y⟩ g' ⟨hy, hc⟩
    simp only at hy hc
    simp only [zI0, zI1, zI2, zI3, zI4, zI5, zI6, zI7, zI8, zJ0, zJ1, zJ2, zMM]
    rw [if_pos (by rw [zq_lt (by omega) (by omega)]; omega)]
    rcases hc with ⟨-, hc⟩ | ⟨-, hc⟩
    · exact zw_some (hend y hy hc)
    · have := zcnt_le (bt (y.1 33 p0)) 12
      omega
