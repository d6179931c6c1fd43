/-! TREES of the reference: rings -/
theorem zWa_n {R : Nat → Nat → Prop} {N : Nat} (hR : ∀ a b, R a b → b < N) {a b : Nat} : zWa R N a b ↔ zTr R a b := by
  refine ⟨zWa_so, fun h => ?_⟩
  have : b < N ∧ zWa R N a b := by
    refine zlfp_le (P := fun b => b < N ∧ zWa R N a b) ?_ h
    rintro c (h1 | ⟨m, h1, h2⟩)
    · exact ⟨hR _ _ h1, zWa_R h1 N⟩
    · exact ⟨hR _ _ h2, zWa_tr h1.1 h1.2 (zWa_R h2 N)⟩
  exact this.2
theorem m_same {g : zG} {s : zSn} {μ : zzM} (h : zm2 g s μ) (hg : zwg g) (hs : zws g s) (hk1 : mMk true g s μ) (d : Nat) {r m n : Nat} (hr : r < gN g) (hm : m ≤ n) (hn : n ≤ sL s) : zw (zzf zzP zN (d + 5) 274 [.ref 105, .int (nI r), .int (nI m), .int (nI n)] μ) fun o => o.2 = μ ∧ ∀ q, q < 32 → (bt o.1.1 q = true ↔ ∃ k, k < gZ g r ∧ zbl true g s r k q = true ∧ zM true g s q m n ∧ ∀ i, i < gZ g r → i ≠ k → zw1 g s r i (if i < k then m else n) (if i < k then m else n)) := by
  have hgn := g_n hg
  have hz := g_z hg hr
  have hsl := hs.1
  rw [w_m_sameBelow]
  refine zl_up (fun k (x : Int32) => ([nI r, nI m, nI n, x, nI k], [], μ)) (fun k x => ∀ q, q < 32 → (bt x q = true ↔ ∃ k', k' < k ∧ zbl true g s r k' q = true ∧ zM true g s q m n ∧ ∀ i, i < gZ g r → i ≠ k' → zw1 g s r i (if i < k' then m else n) (if i < k' then m else n))) 0 (gZ g r) (nI 0) (by omega) (by omega) rfl (fun q hq => by rw [b_z]; exact ⟨fun e => (by cases e), fun ⟨k', e, _⟩ => absurd e (by omega)⟩) ?_ ?_
  · rintro k x ga - hk hI hgo
    have hsy := g_s hg hr hk
    unfold L274_c
    simp only [zI0, zI1, zI2, zI3, zI4, zI5, zI6, zI7, zI8, zJ0, zJ1, zJ2, zMM]
    rw [zr_i _ _ (by omega) (by omega), d_z h hr, Option.bind_some, if_neg (by rw [zq_le (by omega) (by omega)]; omega), m_capAt h hg _ hr hk, Option.bind_some]
    have fin : ∀ gb b i, (b = true ↔ 26 ≤ gS g r k ∧ ∀ i, i < gZ g r → i ≠ k → zw1 g s r i (if i < k then m else n) (if i < k then m else n)) → zw (J274_a zN (d + 4) ga gb (nI r) (nI m) (nI n) x (nI k) (zB b) (nI i) μ) fun o => o.2 = μ ∧ ∀ q, q < 32 → (bt o.1.1 q = true ↔ ∃ k, k < gZ g r ∧ zbl true g s r k q = true ∧ zM true g s q m n ∧ ∀ i, i < gZ g r → i ≠ k → zw1 g s r i (if i < k then m else n) (if i < k then m else n)) := by
      intro gb b i hb
      unfold J274_a
      refine zl_up (fun q (x' : Int32) => ([nI r, nI m, nI n, x', nI k, zB b, nI q], [], μ)) (fun q x' => ∀ q', q' < 32 → (bt x' q' = true ↔ bt x q' = true ∨ (q' < q ∧ b = true ∧ zbl true g s r k q' = true ∧ zM true g s q' m n))) 0 (gN g) x (by omega) (by omega) rfl (fun q' _ => ⟨.inl, fun e => e.resolve_right fun e => absurd e.1 (by omega)⟩) ?_ ?_
      · rintro q x' gc - hq hI2 hgo2
        unfold L274_a
        simp only [zI0, zI1, zI2, zI3, zI4, zI5, zI6, zI7, zI8, zJ0, zJ1, zJ2, zMM]
        rw [zr_i _ _ (by omega) (by omega), d_n h, Option.bind_some, if_neg (by rw [zq_le (by omega) (by omega)]; omega)]
        simp only [zB_0, zq_add, b_or0]
        cases b with
        | false =>
          rw [if_pos rfl]
          refine hgo x' fun q' hq' => ?_
          rw [hI2 q' hq', hI q' hq']
          constructor
          · rintro (⟨k', a, c⟩ | ⟨_, e, _⟩)
            · exact ⟨k', by omega, c⟩
            · cases e
          · rintro ⟨k', a, c, f, f'⟩
            by_cases ek : k' = k
            · subst ek
              have := hb.2 ⟨zbl_cap hg c, f'⟩
              cases this
            · exact .inl ⟨k', by omega, c, f, f'⟩
        | true =>
          rw [if_neg (by decide), m_spot, Option.bind_some, zq_add, zr_i _ _ (by omega) (by omega), Option.bind_some]
          have hkq := hk1 q m n hq hm hn
          unfold mMd at hkq
          rw [show 2028 * zbn true + (169 * q + 13 * m + n) = 2028 + (169 * q + 13 * m + n) from rfl] at hkq
          by_cases e : μ.1 134 (2028 + (169 * q + 13 * m + n)) = 0
          · rw [if_pos e]
            refine hgo2 x' fun q' hq' => ?_
            rw [hI2 q' hq']
            refine or_congr Iff.rfl ⟨fun f => ⟨by omega, f.2⟩, fun f => ⟨?_, f.2⟩⟩
            by_cases eq : q' = q
            · rw [eq] at f
              exact absurd e (hkq.2 f.2.2.2)
            · omega
          · have hbl0 := m_isBelow h hg hs (d + 1) true hr hk hq
            have hbl0 : zzf zzP zN (d + 4) 253 [.ref 105, .int (nI 1), .int (nI r), .int (nI k), .int (nI q)] μ = _ := hbl0
            rw [if_neg e, hbl0, Option.bind_some]
            simp only [zB_0]
            cases hbl : zbl true g s r k q with
            | false =>
              rw [if_pos rfl]
              refine hgo2 x' fun q' hq' => ?_
              rw [hI2 q' hq']
              refine or_congr Iff.rfl ⟨fun f => ⟨by omega, f.2⟩, fun f => ⟨?_, f.2⟩⟩
              by_cases eq : q' = q
              · rw [eq, hbl] at f
                cases f.2.2.1
              · omega
            | true =>
              rw [if_neg (by decide)]
              refine hgo2 _ fun q' hq' => ?_
              rw [b_or, b_sh1 (by omega) hq', Bool.or_eq_true, decide_eq_true_eq, hI2 q' hq']
              constructor
              · rintro ((f | f) | rfl)
                · exact .inl f
                · exact .inr ⟨by omega, f.2⟩
                · exact .inr ⟨by omega, rfl, hbl, hkq.1 e⟩
              · rintro (f | f)
                · exact .inl (.inl f)
                · by_cases eq : q' = q
                  · exact .inr eq
                  · exact .inl (.inr ⟨by omega, f.2⟩)
      · rintro x' gc hI2
        unfold L274_a
        simp only [zI0, zI1, zI2, zI3, zI4, zI5, zI6, zI7, zI8, zJ0, zJ1, zJ2, zMM]
        rw [zr_i _ _ (by omega) (by omega), d_n h, Option.bind_some, if_pos (by rw [zq_le (by omega) (by omega)]; omega), zq_add]
        refine hgo x' fun q' hq' => ?_
        rw [hI2 q' hq', hI q' hq']
        constructor
        · rintro (⟨k', a, c⟩ | ⟨a, e, f, f'⟩)
          · exact ⟨k', by omega, c⟩
          · exact ⟨k, by omega, f, f', (hb.1 e).2⟩
        · rintro ⟨k', a, c, f, f'⟩
          by_cases ek : k' = k
          · subst ek
            exact .inr ⟨zM_lt f, hb.2 ⟨zbl_cap hg c, f'⟩, c, f⟩
          · exact .inl ⟨k', by omega, c, f, f'⟩
    refine zl_up (fun i (b : Bool) => ([nI r, nI m, nI n, x, nI k, zB b, nI i], [], μ)) (fun i b => (b = true → 26 ≤ gS g r k ∧ ∀ i', i' < i → i' ≠ k → zw1 g s r i' (if i' < k then m else n) (if i' < k then m else n)) ∧ (b = false → ¬ (26 ≤ gS g r k ∧ ∀ i, i < gZ g r → i ≠ k → zw1 g s r i (if i < k then m else n) (if i < k then m else n)))) 0 (gZ g r) (decide (26 ≤ gS g r k)) (by omega) (by omega) rfl ⟨fun e => ⟨by simpa using e, fun i' a => absurd a (by omega)⟩, fun e f => by simp [f.1] at e⟩ ?_ ?_
    · rintro i b gb - hi ⟨h1, h2⟩ hgo2
      unfold L274_b
      simp only [zI0, zI1, zI2, zI3, zI4, zI5, zI6, zI7, zI8, zJ0, zJ1, zJ2, zMM]
      rw [zr_i _ _ (by omega) (by omega), d_z h hr, Option.bind_some, if_neg (by rw [zq_le (by omega) (by omega)]; omega)]
      simp only [zB_0]
      cases b with
      | false =>
        rw [if_pos rfl]
        exact fin gb false i ⟨fun e => (by cases e), fun e => absurd e (h2 rfl)⟩
      | true =>
        rw [if_neg (by decide)]
        have step : ∀ a, a = (if i < k then m else n) → zw (J274_b zN (d + 4) ga gb (nI r) (nI m) (nI n) x (nI k) (zB true) (nI i) (nI a) μ) fun o => o.2 = μ ∧ ∀ q, q < 32 → (bt o.1.1 q = true ↔ ∃ k, k < gZ g r ∧ zbl true g s r k q = true ∧ zM true g s q m n ∧ ∀ i, i < gZ g r → i ≠ k → zw1 g s r i (if i < k then m else n) (if i < k then m else n)) := by
          intro a ha
          unfold J274_b
          simp (disch := omega) only [zq_eq, zq_add]
          by_cases e : i = k
          · rw [if_pos e]
            refine hgo2 true ⟨fun _ => ⟨(h1 rfl).1, fun i' a b => (h1 rfl).2 i' (by omega) b⟩, fun e => (by cases e)⟩
          · rw [if_neg e]
            have han : a ≤ sL s := by rw [ha]; split <;> omega
            obtain ⟨o, e1, e2, b, e3, e4⟩ := m_canBe h hg hs d true hr hi (Nat.le_refl a) han
            have e1 : zzf zzP zN (d + 4) 256 [.ref 105, .int (nI 1), .int (nI r), .int (nI i), .int (nI a), .int (nI a)] μ = some o := e1
            rw [e1, Option.bind_some, e2, e3]
            rw [mMk_w hk1 (Nat.le_refl _) han] at e4
            simp only [zB_0]
            cases b with
            | false =>
              rw [if_pos rfl]
              refine hgo2 false ⟨fun e => (by cases e), fun _ q => ?_⟩
              have := q.2 i hi e
              rw [← ha] at this
              have := e4.2 this
              cases this
            | true =>
              rw [if_neg (by decide)]
              refine hgo2 true ⟨fun _ => ⟨(h1 rfl).1, fun i' a' b' => ?_⟩, fun e => (by cases e)⟩
              by_cases ei : i' = i
              · rw [ei, ← ha]
                exact e4.1 rfl
              · exact (h1 rfl).2 i' (by omega) b'
        simp (disch := omega) only [zq_le]
        by_cases e : k ≤ i
        · rw [if_pos e]
          exact step n (by rw [if_neg (by omega)])
        · rw [if_neg e]
          exact step m (by rw [if_pos (by omega)])
    · rintro b gb ⟨h1, h2⟩
      unfold L274_b
      simp only [zI0, zI1, zI2, zI3, zI4, zI5, zI6, zI7, zI8, zJ0, zJ1, zJ2, zMM]
      rw [zr_i _ _ (by omega) (by omega), d_z h hr, Option.bind_some, if_pos (by rw [zq_le (by omega) (by omega)]; omega)]
      refine fin gb b (gZ g r) ⟨h1, fun e => ?_⟩
      cases b with
      | true => rfl
      | false => exact absurd e (h2 rfl)
  · rintro x ga hI
    unfold L274_c
    simp only [zI0, zI1, zI2, zI3, zI4, zI5, zI6, zI7, zI8, zJ0, zJ1, zJ2, zMM]
    rw [zr_i _ _ (by omega) (by omega), d_z h hr, Option.bind_some, if_pos (by rw [zq_le (by omega) (by omega)]; omega)]
    exact zw_some ⟨rfl, hI⟩
theorem m_rings {g : zG} {s : zSn} {μ : zzM} (h : zm2 g s μ) (hg : zwg g) (hs : zws g s) (hk1 : mMk true g s μ) (d : Nat) {m n : Nat} (hm : m ≤ n) (hn : n ≤ sL s) : zw (zzf zzP zN (d + 6) 275 [.ref 105, .int (nI m), .int (nI n)] μ) fun o => zfr [138, 142] μ o.2 ∧ (∀ p, (∀ q, q < gN g → p ≠ 169 * q + 13 * m + n) → o.2.1 138 p = μ.1 138 p) ∧ ∀ q, q < gN g → (mEn o.2 q m n ↔ zTr (zSm g s m n) q q) := by
  have hgn := g_n hg
  have hsl := hs.1
  rw [w_m_laysRings]
  refine zl_up (fun r (y : zzM) => ([nI m, nI n, nI r], [], y)) (fun r y => zfr [142] μ y ∧ ∀ r', r' < r → ∀ q, q < 32 → (bt (y.1 142 r') q = true ↔ zSm g s m n r' q)) 0 (gN g) μ (by omega) (by omega) rfl ⟨zf_refl _ _, fun r' e => absurd e (by omega)⟩ ?_ ?_
  · rintro r y ga - hr ⟨i1, i2⟩ hgo
    have hy := zm2_fr h i1 rfl
    have hky := mMk_fr hk1 i1 rfl
    unfold L275_d
    simp only [zI0, zI1, zI2, zI3, zI4, zI5, zI6, zI7, zI8, zJ0, zJ1, zJ2, zMM]
    rw [zr_i _ _ (by omega) (by omega), d_n hy, Option.bind_some, if_neg (by rw [zq_le (by omega) (by omega)]; omega), m_spot, Option.bind_some, zq_add, zr_i _ _ (by omega) (by omega), Option.bind_some]
    have fin : ∀ x : Int32, (∀ q, q < 32 → (bt x q = true ↔ zSm g s m n r q)) → zw (J275_b zN (d + 5) ga (nI m) (nI n) (nI r) x (nI r) y) fun o => zfr [138, 142] μ o.2 ∧ (∀ p, (∀ q, q < gN g → p ≠ 169 * q + 13 * m + n) → o.2.1 138 p = μ.1 138 p) ∧ ∀ q, q < gN g → (mEn o.2 q m n ↔ zTr (zSm g s m n) q q) := by
      intro x hx
      unfold J275_b
      rw [zs_i _ _ _ (by omega) (by omega), Option.bind_some, zq_add]
      refine hgo _ ⟨zf_twI _ _ i1 rfl, fun r' a q hq => ?_⟩
      by_cases e : r' = r
      · rw [e, zm_s]
        exact hx q hq
      · rw [zm_k _ _ _ _ e]
        exact i2 r' (by omega) q hq
    have hkq := hky r m n hr hm hn
    unfold mMd at hkq
    rw [show 2028 * zbn true + (169 * r + 13 * m + n) = 2028 + (169 * r + 13 * m + n) from rfl] at hkq
    by_cases e : y.1 134 (2028 + (169 * r + 13 * m + n)) = 0
    · rw [if_pos e]
      refine fin (nI 0) fun q hq => ?_
      rw [b_z]
      exact ⟨fun f => (by cases f), fun f => absurd e (hkq.2 f.1)⟩
    · rw [if_neg e]
      obtain ⟨o, e1, e2, e3⟩ := m_same hy hg hs hky d hr hm hn
      rw [e1, Option.bind_some, e2]
      refine fin o.1.1 fun q hq => ?_
      rw [e3 q hq]
      exact ⟨fun ⟨k, f⟩ => ⟨hkq.1 e, k, f⟩, fun ⟨_, k, f⟩ => ⟨k, f⟩⟩
  · rintro y ga ⟨i1, i2⟩
    have hy := zm2_fr h i1 rfl
    unfold L275_d
    simp only [zI0, zI1, zI2, zI3, zI4, zI5, zI6, zI7, zI8, zJ0, zJ1, zJ2, zMM]
    rw [zr_i _ _ (by omega) (by omega), d_n hy, Option.bind_some, if_pos (by rw [zq_le (by omega) (by omega)]; omega)]
    refine zl_up (fun i (z : zzM) => ([nI m, nI n, nI i], [], z)) (fun i z => zfr [142] μ z ∧ ∀ r', r' < gN g → ∀ q, q < 32 → (bt (z.1 142 r') q = true ↔ zWa (zSm g s m n) i r' q)) 0 (gN g) y (by omega) (by omega) rfl ⟨i1, i2⟩ ?_ ?_
    · rintro i z gb - hi ⟨a1, a2⟩ hgo
      have hz := zm2_fr h a1 rfl
      unfold L275_c
      simp only [zI0, zI1, zI2, zI3, zI4, zI5, zI6, zI7, zI8, zJ0, zJ1, zJ2, zMM]
      rw [zr_i _ _ (by omega) (by omega), d_n hz, Option.bind_some, if_neg (by rw [zq_le (by omega) (by omega)]; omega)]
      refine zl_up (fun c (z' : zzM) => ([nI m, nI n, nI i, nI c], [], z')) (fun c z' => zfr [142] μ z' ∧ z'.1 142 i = z.1 142 i ∧ (∀ e, e < gN g → c ≤ e → z'.1 142 e = z.1 142 e) ∧ ∀ e, e < gN g → e < c → ∀ q, q < 32 → (bt (z'.1 142 e) q = true ↔ zWa (zSm g s m n) (i + 1) e q)) 0 (gN g) z (by omega) (by omega) rfl ⟨a1, rfl, fun _ _ _ => rfl, fun e _ f => absurd f (by omega)⟩ ?_ ?_
      · rintro c z' gc - hc ⟨b1, b2, b3, b4⟩ hgo2
        have hz' := zm2_fr h b1 rfl
        unfold L275_b
        simp only [zI0, zI1, zI2, zI3, zI4, zI5, zI6, zI7, zI8, zJ0, zJ1, zJ2, zMM]
        rw [zr_i _ _ (by omega) (by omega), d_n hz', Option.bind_some, if_neg (by rw [zq_le (by omega) (by omega)]; omega), zr_i _ _ (by omega) (by omega), Option.bind_some, Option.bind_some, b3 c hc (by omega), m_hasn _ _ (by omega), Option.bind_some]
        simp only [zB_0]
        have hcm := a2 c hc i (by omega)
        have fin : ∀ x : Int32, (∀ q, q < 32 → (bt (z.1 142 c ||| x) q = true ↔ zWa (zSm g s m n) (i + 1) c q)) → (c = i → z.1 142 c ||| x = z.1 142 i) → zw (J275_a zN (d + 5) ga gb gc (nI m) (nI n) (nI i) (nI c) x (z.1 142 c) (nI c) z') fun o => zfr [138, 142] μ o.2 ∧ (∀ p, (∀ q, q < gN g → p ≠ 169 * q + 13 * m + n) → o.2.1 138 p = μ.1 138 p) ∧ ∀ q, q < gN g → (mEn o.2 q m n ↔ zTr (zSm g s m n) q q) := by
          intro x hx hx2
          unfold J275_a
          rw [zs_i _ _ _ (by omega) (by omega), Option.bind_some, zq_add]
          refine hgo2 _ ⟨zf_twI _ _ b1 rfl, ?_, fun e he hce => ?_, fun e he hec q hq => ?_⟩
          · rw [zm_if]
            by_cases em : i = c
            · rw [if_pos em]
              exact hx2 em.symm
            · rw [if_neg em]; exact b2
          · rw [zm_k _ _ _ _ (by omega)]
            exact b3 e he (by omega)
          · by_cases ee : e = c
            · rw [ee, zm_s]
              exact hx q hq
            · rw [zm_k _ _ _ _ ee]
              exact b4 e he (by omega) q hq
        cases hb : bt (z.1 142 c) i with
        | false =>
          rw [if_pos rfl]
          refine fin (nI 0) (fun q hq => ?_) (fun e => by rw [b_or0, e])
          rw [b_or0, a2 c hc q hq]
          constructor
          · exact .inl
          · rintro (f | ⟨f, -⟩)
            · exact f
            · rw [hcm.2 f] at hb; cases hb
        | true =>
          rw [if_neg (by decide), zr_i _ _ (by omega) (by omega), Option.bind_some, b2]
          refine fin (z.1 142 i) (fun q hq => ?_) (fun e => by rw [e]; exact b_ext fun i _ => by rw [b_or, Bool.or_self])
          rw [b_or, Bool.or_eq_true, a2 c hc q hq, a2 i hi q hq]
          constructor
          · rintro (f | f)
            · exact .inl f
            · exact .inr ⟨hcm.1 hb, f⟩
          · rintro (f | f)
            · exact .inl f
            · exact .inr f.2
      · rintro z' gc ⟨b1, b2, b3, b4⟩
        have hz' := zm2_fr h b1 rfl
        unfold L275_b
        simp only [zI0, zI1, zI2, zI3, zI4, zI5, zI6, zI7, zI8, zJ0, zJ1, zJ2, zMM]
        rw [zr_i _ _ (by omega) (by omega), d_n hz', Option.bind_some, if_pos (by rw [zq_le (by omega) (by omega)]; omega), zq_add]
        exact hgo z' ⟨b1, fun r' hr' => b4 r' hr' hr'⟩
    · rintro z gb ⟨a1, a2⟩
      have hz := zm2_fr h a1 rfl
      unfold L275_c
      simp only [zI0, zI1, zI2, zI3, zI4, zI5, zI6, zI7, zI8, zJ0, zJ1, zJ2, zMM]
      rw [zr_i _ _ (by omega) (by omega), d_n hz, Option.bind_some, if_pos (by rw [zq_le (by omega) (by omega)]; omega)]
      have hWT : ∀ r q, zWa (zSm g s m n) (gN g) r q ↔ zTr (zSm g s m n) r q := fun r q => zWa_n fun a b e => (zSm_lt e).2
      refine zl_up (fun r (z' : zzM) => ([nI m, nI n, nI r], [], z')) (fun r z' => zfr [138, 142] μ z' ∧ (∀ r', r' < gN g → z'.1 142 r' = z.1 142 r') ∧ (∀ p, (∀ q, q < gN g → p ≠ 169 * q + 13 * m + n) → z'.1 138 p = μ.1 138 p) ∧ ∀ q, q < r → (mEn z' q m n ↔ zTr (zSm g s m n) q q)) 0 (gN g) z (by omega) (by omega) rfl ⟨zf_mono a1 rfl, fun _ _ => rfl, fun p _ => by rw [zf_i a1 rfl], fun q e => absurd e (by omega)⟩ ?_ ?_
      · rintro r z' gc - hr ⟨b1, b2, b3, b4⟩ hgo2
        have hz' := zm2_fr h b1 rfl
        unfold L275_a
        simp only [zI0, zI1, zI2, zI3, zI4, zI5, zI6, zI7, zI8, zJ0, zJ1, zJ2, zMM]
        rw [zr_i _ _ (by omega) (by omega), d_n hz', Option.bind_some, if_neg (by rw [zq_le (by omega) (by omega)]; omega), m_spot, Option.bind_some, zr_i _ _ (by omega) (by omega), Option.bind_some, b2 r hr, m_hasn _ _ (by omega), Option.bind_some]
        simp only [zB_ok, if_true]
        rw [zs_i _ _ _ (by omega) (by omega), Option.bind_some, zq_add]
        refine hgo2 _ ⟨zf_twI _ _ b1 rfl, fun r' hr' => ?_, fun p hp => ?_, fun q hq => ?_⟩
        · rw [zm_c _ _ _ (by omega)]
          exact b2 r' hr'
        · rw [zm_k _ _ _ _ (hp r hr)]
          exact b3 p hp
        · by_cases e : q = r
          · subst e
            unfold mEn
            rw [zm_s, zB_0, ← hWT, ← a2 q hr q (by omega)]
            cases bt (z.1 142 q) q <;> simp
          · unfold mEn
            rw [zm_k _ _ _ _ (by omega)]
            exact b4 q (by omega)
      · rintro z' gc ⟨b1, b2, b3, b4⟩
        have hz' := zm2_fr h b1 rfl
        unfold L275_a
        simp only [zI0, zI1, zI2, zI3, zI4, zI5, zI6, zI7, zI8, zJ0, zJ1, zJ2, zMM]
        rw [zr_i _ _ (by omega) (by omega), d_n hz', Option.bind_some, if_pos (by rw [zq_le (by omega) (by omega)]; omega)]
        exact zw_some ⟨b1, b3, b4⟩
