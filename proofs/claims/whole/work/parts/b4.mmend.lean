/-! MEND of the reference: what a place, a right side costs -/
theorem zmn_or {C : Nat} {A B A' : Nat → Prop} {x y : Nat} (hA : zmn C A x) (hB : zmn C B y) (h : ∀ v, A' v ↔ A v ∨ B v) : zmn C A' (if x ≤ y then x else y) := by
  have hx := hA.1
  have hy := hB.1
  by_cases e : x ≤ y
  · rw [if_pos e]
    refine ⟨hx, fun q => (h x).2 (.inl (hA.2.1 q)), fun v hv => ?_⟩
    rcases (h v).1 hv with q | q
    · exact hA.2.2 v q
    · have := hB.2.2 v q
      omega
  · rw [if_neg e]
    refine ⟨hy, fun q => (h y).2 (.inr (hB.2.1 q)), fun v hv => ?_⟩
    rcases (h v).1 hv with q | q
    · have := hA.2.2 v q
      omega
    · exact hB.2.2 v q
def zTq (g : zG) (s : zSn) (μ : zzM) (a i j p : Nat) : Prop := ∃ q, zon g s q = true ∧ gL g q = 26 + a ∧ μ.1 148 (169 * q + 13 * i + j) = nI p ∧ p < 2000000000
theorem zTq_fr {g : zG} {s : zSn} {L : List Nat} {μ y : zzM} (hf : zfr L μ y) (hl : L.elem 148 = false) : zTq g s y = zTq g s μ := by
  unfold zTq
  rw [zf_i hf hl]
theorem m_mendsTo {g : zG} {s : zSn} {μ : zzM} (h : zm2 g s μ) (hg : zwg g) (hs : zws g s) (d : Nat) {r k i j : Nat} (hr : r < gN g) (hk : k < gZ g r) (hi : i ≤ j) (hj : j ≤ sL s) (hT : ∀ q, q < gN g → ∃ x, μ.1 148 (169 * q + 13 * i + j) = nI x ∧ x ≤ 2000000000) : zw (zzf zzP zN (d + 3) 306 [.ref 105, .int (nI r), .int (nI k), .int (nI i), .int (nI j)] μ) fun o => o.2 = μ ∧ ∃ p, o.1.1 = nI p ∧ zmn 2000000000 (zMP g s (zTq g s μ) r k i j) p := by
  have hsl := hs.1
  have hgn := g_n hg
  have hz := g_z hg hr
  have hgs := g_s hg hr hk
  rw [w_m_mendsTo]
  simp only [zq_mul, zq_add]
  rw [zr_i _ _ (by omega) (by omega), d_s h hr hk, Option.bind_some, m_isCapital, Option.bind_some]
  simp only [zB_0]
  by_cases e : 26 ≤ gS g r k
  · rw [if_neg (by rw [decide_eq_false_iff_not, zq_le (by omega) (by omega)]; omega)]
    let A : Nat → Nat → Prop := fun Q p => ∃ q, q < Q ∧ zon g s q = true ∧ gL g q = gS g r k ∧ μ.1 148 (169 * q + 13 * i + j) = nI p ∧ p < 2000000000
    refine zl_up (fun q (x : Nat) => ([nI i, nI j, nI (gS g r k), nI x, nI q], [], μ)) (fun q x => zmn 2000000000 (A q) x) 0 (gN g) 2000000000 (by omega) (by omega) rfl (zmn_C fun p ⟨q, b, _⟩ => absurd b (by omega)) ?_ ?_
    · rintro q x ga - hq hx hgo
      have hx1 := hx.1
      obtain ⟨hl1, hl2⟩ := g_l hg hq
      unfold L306_a
      simp only [zI0, zI1, zI2, zI3, zI4, zI5, zI6, zI7, zI8, zJ0, zJ1, zJ2, zMM]
      have ho : zzf zzP zN (d + 2) 177 [.ref 105, .int (nI q)] μ = some ((zB (zon g s q), 0, 0), μ) := d_on h hg d hq
      rw [zr_i _ _ (by omega) (by omega), d_n h, Option.bind_some, if_neg (by rw [zq_le (by omega) (by omega)]; omega), ho, Option.bind_some]
      simp only [zB_0]
      have keep : (¬ (zon g s q = true ∧ gL g q = gS g r k)) → zw (J306_b zN (d + 2) ga (nI i) (nI j) (nI (gS g r k)) (nI x) (nI q) μ) fun o => o.2 = μ ∧ ∃ p, o.1.1 = nI p ∧ zmn 2000000000 (zMP g s (zTq g s μ) r k i j) p := by
        intro hno
        unfold J306_b J306_a
        rw [if_pos (by rw [zq_le (by omega) (by omega)]; omega), zq_add]
        refine hgo x (zmn_cg (fun p => ⟨fun ⟨q', b1, b2⟩ => ⟨q', by omega, b2⟩, fun ⟨q', b1, b2, b3, b4⟩ => ⟨q', ?_, b2, b3, b4⟩⟩) hx)
        apply Nat.lt_of_not_le
        intro f
        obtain rfl : q' = q := by omega
        exact hno ⟨b2, b3⟩
      cases eo : zon g s q with
      | false =>
        rw [if_pos rfl]
        exact keep fun f => by rw [eo] at f; cases f.1
      | true =>
        rw [if_neg (by decide), zr_i _ _ (by omega) (by omega), d_l h hq, Option.bind_some]
        simp (disch := omega) only [zq_eq]
        by_cases el : gL g q = gS g r k
        · obtain ⟨y, y1, y2⟩ := hT q hq
          rw [if_pos el, m_spot, Option.bind_some, zr_i _ _ (by omega) (by omega), y1, Option.bind_some]
          unfold J306_a
          have hB : zmn 2000000000 (fun p => μ.1 148 (169 * q + 13 * i + j) = nI p ∧ p < 2000000000) y := ⟨y2, fun f => ⟨y1, f⟩, fun p ⟨b1, b2⟩ => by
            rw [y1, zq_eq (by omega) (by omega)] at b1
            omega⟩
          have hn := zmn_or (A' := A (q + 1)) hx hB fun p => ⟨fun ⟨q', b1, b2, b3, b4⟩ => by
            by_cases eq : q' = q
            · rw [eq] at b4
              exact .inr b4
            · exact .inl ⟨q', by omega, b2, b3, b4⟩, fun f => f.elim (fun ⟨q', b1, b2⟩ => ⟨q', by omega, b2⟩) fun b4 => ⟨q, by omega, eo, el, b4⟩⟩
          by_cases ex : x ≤ y
          · rw [if_pos (by rw [zq_le (by omega) (by omega)]; omega), zq_add]
            rw [if_pos ex] at hn
            exact hgo x hn
          · rw [if_neg (by rw [zq_le (by omega) (by omega)]; omega), zq_add]
            rw [if_neg ex] at hn
            exact hgo y hn
        · rw [if_neg el]
          exact keep fun f => el f.2
    · rintro x ga hx
      unfold L306_a
      simp only [zI0, zI1, zI2, zI3, zI4, zI5, zI6, zI7, zI8, zJ0, zJ1, zJ2, zMM]
      rw [zr_i _ _ (by omega) (by omega), d_n h, Option.bind_some, if_pos (by rw [zq_le (by omega) (by omega)]; omega)]
      refine zw_some ⟨rfl, x, rfl, zmn_cg (fun p => ⟨fun ⟨q, b1, b2, b3, b4⟩ => .inr ⟨e, q, b2, by omega, b4⟩, fun f => ?_⟩) hx⟩
      rcases f with ⟨f, -⟩ | ⟨-, q, b2, b3, b4⟩
      · omega
      · exact ⟨q, zon_lt b2, b2, by omega, b4⟩
  · rw [if_pos (by rw [decide_eq_false_iff_not, zq_le (by omega) (by omega)]; exact e)]
    have fin : ∀ p, zQs s (gS g r k) i j p → p ≤ 13 → zw (some ((nI p, (0 : Int64), (0 : Nat)), μ)) fun o => o.2 = μ ∧ ∃ p, o.1.1 = nI p ∧ zmn 2000000000 (zMP g s (zTq g s μ) r k i j) p := fun p hp hb => zw_some ⟨rfl, p, rfl, by omega, fun _ => .inl ⟨by omega, hp⟩, fun p' f => by
      rcases f with ⟨-, f⟩ | ⟨f, -⟩
      · exact Nat.le_of_eq (zQs_un hp f)
      · omega⟩
    refine zl_up (fun x (b : Bool) => ([nI i, nI j, nI (gS g r k), zB b, nI x], [], μ)) (fun x b => b = true ↔ ∃ y, i ≤ y ∧ y < x ∧ sX s y = gS g r k) i j false hi (by omega) rfl ⟨fun q => (by cases q), fun ⟨y, b1, b2, _⟩ => absurd b1 (by omega)⟩ ?_ ?_
    · rintro x b ga hx1 hx2 hJ hgo
      have hxs := hs.2.1 x (by omega)
      unfold L306_b
      simp only [zI0, zI1, zI2, zI3, zI4, zI5, zI6, zI7, zI8, zJ0, zJ1, zJ2, zMM]
      rw [if_neg (by rw [zq_le (by omega) (by omega)]; omega)]
      simp only [zB_0]
      cases b with
      | false =>
        rw [if_pos rfl, zr_i _ _ (by omega) (by omega), d_x h (by omega), Option.bind_some]
        simp (disch := omega) only [zq_eq, zq_add]
        by_cases ex : sX s x = gS g r k
        · rw [if_pos ex]
          exact hgo true ⟨fun _ => ⟨x, hx1, by omega, ex⟩, fun _ => rfl⟩
        · rw [if_neg ex]
          refine hgo false ⟨fun q => (by cases q), fun ⟨y, b1, b2, b3⟩ => hJ.2 ⟨y, b1, ?_, b3⟩⟩
          apply Nat.lt_of_not_le
          intro f
          obtain rfl : y = x := by omega
          exact ex b3
      | true =>
        obtain ⟨y, b1, b2, b3⟩ := hJ.1 rfl
        rw [if_neg (by decide), zq_add]
        exact hgo true ⟨fun _ => ⟨y, b1, by omega, b3⟩, fun _ => rfl⟩
    · rintro b ga hJ
      unfold L306_b
      simp only [zI0, zI1, zI2, zI3, zI4, zI5, zI6, zI7, zI8, zJ0, zJ1, zJ2, zMM]
      rw [if_pos (by rw [zq_le (by omega) (by omega)]; omega)]
      simp (disch := omega) only [zq_eq, zB_0]
      by_cases ej : j = i
      · rw [if_pos ej]
        exact fin 1 (.inl ⟨ej.symm, rfl⟩) (by omega)
      · rw [if_neg ej]
        cases b with
        | false =>
          rw [if_pos rfl, zq_sub hi]
          exact fin _ (.inr (.inr ⟨by omega, fun y b1 b2 b3 => (by have := hJ.2 ⟨y, b1, b2, b3⟩; cases this), rfl⟩)) (by omega)
        | true =>
          rw [if_neg (by decide), zq_sub hi, zq_sub (by omega)]
          exact fin _ (.inr (.inl ⟨by omega, hJ.1 rfl, rfl⟩)) (by omega)
theorem m_mendsBy {g : zG} {s : zSn} {μ : zzM} (h : zm2 g s μ) (hg : zwg g) (hs : zws g s) (d : Nat) {r m n : Nat} (hr : r < gN g) (hm : m ≤ n) (hn : n ≤ sL s) (hT : ∀ q i j, q < gN g → i ≤ j → j ≤ sL s → ∃ x, μ.1 148 (169 * q + 13 * i + j) = nI x ∧ x ≤ 2000000000) : zw (zzf zzP zN (d + 4) 307 [.ref 105, .int (nI r), .int (nI m), .int (nI n)] μ) fun o => zfr [149] μ o.2 ∧ ∃ p, o.1.1 = nI p ∧ zmn 2000000000 (zRc g s (zTq g s μ) r m n) p := by
  have hsl := hs.1
  have hgn := g_n hg
  have hz := g_z hg hr
  rw [w_m_mendsBy, zr_i _ _ (by omega) (by omega), d_z h hr, Option.bind_some]
  simp (disch := omega) only [zq_e0]
  by_cases ez : gZ g r = 0
  · rw [if_pos ez, zq_sub hm]
    refine zw_some ⟨zf_refl _ _, _, rfl, by omega, fun _ => .inl ⟨ez, rfl⟩, fun p hp => ?_⟩
    rcases hp with ⟨-, q⟩ | ⟨q, -⟩ <;> omega
  · rw [if_neg ez]
    let R : Nat → Nat → zzM → Prop := fun k j y => ∃ v, y.1 149 (13 * k + j) = nI v ∧ zmn 2000000000 (zPR (zMP g s (zTq g s μ) r) m k j) v
    refine zl_up (fun k (y : zzM) => ([nI r, nI m, nI n, nI k], [], y)) (fun k y => zfr [149] μ y ∧ ∀ k' j, k' < k → m ≤ j → j ≤ n → R k' j y) 0 (gZ g r + 1) μ (by omega) (by omega) rfl ⟨zf_refl _ _, fun k' j a => absurd a (by omega)⟩ ?_ ?_
    · rintro k y ga - hk ⟨i1, i2⟩ hgo
      unfold L307_c
      simp only [zI0, zI1, zI2, zI3, zI4, zI5, zI6, zI7, zI8, zJ0, zJ1, zJ2, zMM]
      rw [zr_i _ _ (by omega) (by omega), d_z (zm2_fr h i1 rfl) hr, Option.bind_some, if_neg (by rw [zq_lt (by omega) (by omega)]; omega)]
      refine zl_up (fun j (y : zzM) => ([nI r, nI m, nI n, nI k, nI j], [], y)) (fun j y => zfr [149] μ y ∧ (∀ k' j', k' < k → m ≤ j' → j' ≤ n → R k' j' y) ∧ ∀ j', m ≤ j' → j' < j → R k j' y) m (n + 1) y (by omega) (by omega) rfl ⟨i1, i2, fun j' a b => absurd a (by omega)⟩ ?_ ?_
      · rintro j z gb hj1 hj2 ⟨j1, j2, j3⟩ hgo2
        have hzz := zm2_fr h j1 rfl
        have hTz : zTq g s z = zTq g s μ := zTq_fr j1 rfl
        -- the end of the inner loop
        have fin : ∀ x gc b7, zmn 2000000000 (zPR (zMP g s (zTq g s μ) r) m k j) x → zw (J307_a zN (d + 3) ga gb gc (nI r) (nI m) (nI n) (nI k) (nI j) (nI x) b7 z) fun o => zfr [149] μ o.2 ∧ ∃ p, o.1.1 = nI p ∧ zmn 2000000000 (zRc g s (zTq g s μ) r m n) p := by
          intro x gc b7 hx
          unfold J307_a
          simp only [zq_mul, zq_add]
          rw [zs_i _ _ _ (by omega) (by omega), Option.bind_some]
          refine hgo2 _ ⟨zf_twI _ _ j1 rfl, fun k' j' a b c => ?_, fun j' a b => ?_⟩
          · obtain ⟨v, v1, v2⟩ := j2 k' j' a b c
            exact ⟨v, (zm_k _ _ _ _ (by omega)).trans v1, v2⟩
          · by_cases e : j' = j
            · rw [e]
              exact ⟨x, zm_s _ _ _ _, hx⟩
            · obtain ⟨v, v1, v2⟩ := j3 j' a (by omega)
              exact ⟨v, (zm_k _ _ _ _ (by omega)).trans v1, v2⟩
        unfold L307_b
        simp only [zI0, zI1, zI2, zI3, zI4, zI5, zI6, zI7, zI8, zJ0, zJ1, zJ2, zMM]
        rw [if_neg (by rw [zq_lt (by omega) (by omega)]; omega)]
        simp (disch := omega) only [zq_e0]
        by_cases ek : k = 0
        · -- the first row: 0 at m, else none
          rw [if_pos ek]
          have fin0 : ∀ x, zmn 2000000000 (zPR (zMP g s (zTq g s μ) r) m k j) x → zw (J307_c zN (d + 3) ga gb (nI r) (nI m) (nI n) (nI k) (nI j) (nI x) z) fun o => zfr [149] μ o.2 ∧ ∃ p, o.1.1 = nI p ∧ zmn 2000000000 (zRc g s (zTq g s μ) r m n) p := by
            intro x hx
            unfold J307_c
            refine zl_up (fun i (_ : Unit) => ([nI r, nI m, nI n, nI k, nI j, nI x, nI i], [], z)) (fun i _ => i = m) m (m + 1) () (by omega) (by omega) rfl rfl ?_ ?_
            · rintro i - gc - hi ei hgo3
              unfold L307_a
              simp only [zI0, zI1, zI2, zI3, zI4, zI5, zI6, zI7, zI8, zJ0, zJ1, zJ2, zMM]
              rw [if_neg (by rw [zq_lt (by omega) (by omega)]; omega), if_pos (by rw [zq_le0 (by omega)]; exact ek)]
              exact fin x gc _ hx
            · rintro - gc e
              exact absurd e (by omega)
          simp (disch := omega) only [zq_eq]
          by_cases ej : j = m
          · rw [if_pos ej]
            refine fin0 0 (zmn_0 ?_)
            rw [ek]
            exact ⟨ej, rfl⟩
          · rw [if_neg ej]
            unfold J307_d
            refine fin0 2000000000 (zmn_C fun p hp => ?_)
            rw [ek] at hp
            exact absurd hp.1 ej
        · rw [if_neg ek]
          obtain ⟨k, rfl⟩ : ∃ k0, k = k0 + 1 := ⟨k - 1, by omega⟩
          unfold J307_d J307_c
          let A : Nat → Nat → Prop := fun J v => ∃ i p w, m ≤ i ∧ i < J ∧ i ≤ j ∧ zPR (zMP g s (zTq g s μ) r) m k i w ∧ zMP g s (zTq g s μ) r k i j p ∧ v = w + p
          refine zl_up (fun i (x : Nat) => ([nI r, nI m, nI n, nI (k + 1), nI j, nI x, nI i], [], z)) (fun i x => zmn 2000000000 (A i) x) m (j + 1) 2000000000 (by omega) (by omega) rfl (zmn_C fun p ⟨i, _, _, a, b, _⟩ => absurd a (by omega)) ?_ ?_
          · rintro i x gc hi1 hi2 hx hgo3
            obtain ⟨y', y1, y2⟩ := j2 k i (by omega) hi1 (by omega)
            have hx1 := hx.1
            have hy1 := y2.1
            unfold L307_a
            simp only [zI0, zI1, zI2, zI3, zI4, zI5, zI6, zI7, zI8, zJ0, zJ1, zJ2, zMM]
            rw [if_neg (by rw [zq_lt (by omega) (by omega)]; omega), if_neg (by rw [zq_le0 (by omega)]; omega), zq_sub (show 1 ≤ k + 1 by omega), show k + 1 - 1 = k by omega]
            simp only [zq_mul, zq_add]
            rw [zr_i _ _ (by omega) (by omega), y1, Option.bind_some]
            obtain ⟨o, a1, a2, p, a3, a4⟩ := m_mendsTo hzz hg hs d hr (show k < gZ g r by omega) (show i ≤ j by omega) (show j ≤ sL s by omega) (fun q hq => by rw [zf_i j1 rfl]; exact hT q i j hq (by omega) (by omega))
            rw [hTz] at a4
            have hp1 := a4.1
            have hnn : zmn 2000000000 (A (i + 1)) (if x ≤ p + y' then x else p + y') := by
              refine zmn_s hx y2 a4 ?_ ?_ ?_
              · rintro v ⟨i', p', w, b1, b2, b3⟩
                exact ⟨i', p', w, b1, by omega, b3⟩
              · intro w p' b1 b2
                exact ⟨i, p', w, hi1, by omega, by omega, b1, b2, rfl⟩
              · rintro v ⟨i', p', w, b1, b2, b3, b4, b5, b6⟩
                by_cases ei : i' = i
                · rw [ei] at b4 b5
                  exact .inr ⟨w, p', b4, b5, b6⟩
                · exact .inl ⟨i', p', w, b1, by omega, b3, b4, b5, b6⟩
            have step : ∀ t, t ≤ 2000000000 → (t < 2000000000 → t = y' + p) → (¬ t < 2000000000 → 2000000000 ≤ y' + p) → zw (J307_b zN (d + 3) ga gb gc (nI r) (nI m) (nI n) (nI (k + 1)) (nI j) (nI x) (nI i) (nI t) z) fun o => zfr [149] μ o.2 ∧ ∃ p, o.1.1 = nI p ∧ zmn 2000000000 (zRc g s (zTq g s μ) r m n) p := by
              intro t t1 t2 t3
              unfold J307_b
              by_cases ex : x ≤ t
              · rw [if_pos (by rw [zq_le (by omega) (by omega)]; omega), zq_add]
                rw [if_pos (by omega)] at hnn
                exact hgo3 x hnn
              · rw [if_neg (by rw [zq_le (by omega) (by omega)]; omega), zq_add]
                rw [if_neg (by omega), show p + y' = t by omega] at hnn
                exact hgo3 t hnn
            by_cases ey : 2000000000 ≤ y'
            · rw [if_pos (by rw [zq_le (by omega) (by omega)]; omega)]
              exact step 2000000000 (Nat.le_refl _) (fun f => absurd f (Nat.lt_irrefl _)) (fun _ => by omega)
            · rw [if_neg (by rw [zq_le (by omega) (by omega)]; omega), a1, Option.bind_some, a2, a3, m_joinN _ hy1 hp1, Option.bind_some]
              by_cases es : y' + p < 2000000000
              · rw [if_pos es]
                exact step _ (by omega) (fun _ => rfl) (fun f => absurd es f)
              · rw [if_neg es]
                exact step 2000000000 (Nat.le_refl _) (fun f => absurd f (Nat.lt_irrefl _)) (fun _ => by omega)
          · rintro x gc hx
            unfold L307_a
            simp only [zI0, zI1, zI2, zI3, zI4, zI5, zI6, zI7, zI8, zJ0, zJ1, zJ2, zMM]
            rw [if_pos (by rw [zq_lt (by omega) (by omega)]; omega)]
            exact fin x gc _ (zmn_cg (fun v => ⟨fun ⟨i, p, w, a1, a2, a3, a4, a5, a6⟩ => ⟨i, p, w, a1, a3, a4, a5, a6⟩, fun ⟨i, p, w, a1, a3, a4, a5, a6⟩ => ⟨i, p, w, a1, by omega, a3, a4, a5, a6⟩⟩) hx)
      · rintro z gb ⟨j1, j2, j3⟩
        unfold L307_b
        simp only [zI0, zI1, zI2, zI3, zI4, zI5, zI6, zI7, zI8, zJ0, zJ1, zJ2, zMM]
        rw [if_pos (by rw [zq_lt (by omega) (by omega)]; omega), zq_add]
        refine hgo z ⟨j1, fun k' j a b c => ?_⟩
        by_cases e : k' = k
        · rw [e]
          exact j3 j b (by omega)
        · exact j2 k' j (by omega) b c
    · rintro y ga ⟨i1, i2⟩
      obtain ⟨v, v1, v2⟩ := i2 (gZ g r) n (by omega) hm (Nat.le_refl _)
      have hv := v2.1
      unfold L307_c
      simp only [zI0, zI1, zI2, zI3, zI4, zI5, zI6, zI7, zI8, zJ0, zJ1, zJ2, zMM]
      rw [zr_i _ _ (by omega) (by omega), d_z (zm2_fr h i1 rfl) hr, Option.bind_some, if_pos (by rw [zq_lt (by omega) (by omega)]; omega), Option.bind_some]
      simp only [zq_mul, zq_add]
      rw [zr_i _ _ (by omega) (by omega), v1, Option.bind_some]
      refine zw_some ⟨i1, v, rfl, v2.1, fun q => .inr ⟨by omega, v2.2.1 q⟩, fun p hp => ?_⟩
      rcases hp with ⟨q, -⟩ | ⟨-, q⟩
      · exact absurd q ez
      · exact v2.2.2 p q
