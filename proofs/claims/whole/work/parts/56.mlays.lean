/-! FACTS of the reference: laysFacts -/
theorem m_areCaps {g : zG} {s : zSn} {μ : zzM} (h : zm2 g s μ) (hg : zwg g) (d : Nat) (e : Int32) {r : Nat} (hr : r < gN g) : zw (zzf zzP zN (d + 3) 203 [.ref 105, .int e, .int (nI r)] μ) fun o => o.2 = μ ∧ ∃ b, o.1.1 = zB b ∧ (b = true ↔ ∀ k, k < gZ g r → 26 ≤ gS g r k → bt e (gS g r k - 26) = true) := by
  have hn := g_n hg
  have hz := g_z hg hr
  rw [u_m_areCapitalsIn]
  refine zl_up (fun k (_ : Unit) => ([e, nI r, nI k], [], μ)) (fun k _ => ∀ j, j < k → 26 ≤ gS g r j → bt e (gS g r j - 26) = true) 0 (gZ g r) () (by omega) (by omega) rfl (fun j h2 => absurd h2 (by omega)) ?_ ?_
  · rintro k - g' - hk hJ hgo
    have hs := g_s hg hr hk
    simp only [zI0, zI1, zI2, zI3, zI4, zI5, zI6, zI7, zI8, zJ0, zJ1, zJ2, zMM]
    rw [zr_i _ _ (by omega) (by omega), d_z h hr, Option.bind_some, if_neg (by rw [zq_le (by omega) (by omega)]; omega), d_symAt h hg hr hk, Option.bind_some, m_isCapital, Option.bind_some, zq_add k 1]
    simp only [zB_0]
    have e26 : (nI 26 ≤ nI (gS g r k)) = (26 ≤ gS g r k) := zq_le (by omega) (by omega)
    by_cases hc : 26 ≤ gS g r k
    · rw [if_neg (by rw [decide_eq_true (by rw [e26]; exact hc)]; decide), m_bitOf _ hs, Option.bind_some]
      simp only [zbo_and hs]
      have ez : zam e (gS g r k) = bt e (gS g r k - 26) := by
        unfold zam
        rw [decide_eq_true hc, Bool.true_and]
      rw [ez]
      cases hv : bt e (gS g r k - 26) with
      | false =>
        rw [if_pos rfl, if_pos (by decide)]
        refine zw_some ⟨rfl, false, rfl, ?_⟩
        constructor
        · intro q; cases q
        · intro q
          rw [q k hk hc] at hv
          cases hv
      | true =>
        rw [if_neg (by decide)]
        refine hgo () fun j h2 h3 => ?_
        by_cases ej : j = k
        · rw [ej]; exact hv
        · exact hJ j (by omega) h3
    · rw [if_pos (decide_eq_false (by rw [e26]; exact hc))]
      refine hgo () fun j h2 h3 => ?_
      by_cases ej : j = k
      · rw [ej] at h3; exact absurd h3 hc
      · exact hJ j (by omega) h3
  · rintro - g' hJ
    simp only [zI0, zI1, zI2, zI3, zI4, zI5, zI6, zI7, zI8, zJ0, zJ1, zJ2, zMM]
    rw [zr_i _ _ (by omega) (by omega), d_z h hr, Option.bind_some, if_pos (by rw [zq_le (by omega) (by omega)]; omega), if_pos (by decide)]
    exact zw_some ⟨rfl, true, rfl, fun _ => hJ, fun _ => rfl⟩
/-- a set has grown by a round of steps F -/
def zgro (F : (Nat → Prop) → Nat → Prop) (a x : Int32) : Prop := (∀ c, c < 32 → bt a c = true → bt x c = true) ∧ (∀ c, c < 26 → F (fun c => c < 26 ∧ bt a c = true) c → bt x c = true) ∧ (∀ P : Nat → Prop, (∀ c, F P c → P c) → (∀ c, c < 32 → bt a c = true → P c) → ∀ c, c < 32 → bt x c = true → P c)
theorem b_or0 (x : Int32) : x ||| nI 0 = x := b_ext fun i _ => by rw [b_or, b_z, Bool.or_false]
theorem b_orzbo {x : Int32} {y c : Nat} (hy : y < 52) (hc : c < 32) : bt (x ||| zbo y) c = true ↔ bt x c = true ∨ (26 ≤ y ∧ c = y - 26) := by
  rw [b_or, Bool.or_eq_true, zbo_b hy hc]
theorem m_growsEmpty {g : zG} {s : zSn} {μ : zzM} (h : zm2 g s μ) (hg : zwg g) (d : Nat) (a : Int32) : zw (zzf zzP zN (d + 4) 204 [.ref 105, .int a] μ) fun o => o.2 = μ ∧ zgro (zfE g s) a o.1.1 := by
  have hn := g_n hg
  rw [u_m_growsEmpty]
  refine zl_up (fun r (x : Int32) => ([x, nI r], [], μ)) (fun r x => (∀ c, c < 32 → bt a c = true → bt x c = true) ∧ (∀ q, q < r → zon g s q = true → (∀ k, k < gZ g q → zam a (gS g q k) = true) → bt x (gL g q - 26) = true) ∧ (∀ P : Nat → Prop, (∀ c, zfE g s P c → P c) → (∀ c, c < 32 → bt a c = true → P c) → ∀ c, c < 32 → bt x c = true → P c)) 0 (gN g) a (by omega) (by omega) rfl ⟨fun c _ q => q, fun q hq => absurd hq (by omega), fun P _ hq c hc hb => hq c hc hb⟩ ?_ ?_
  · rintro r x g' - hr ⟨a1, a2, a3⟩ hgo
    have hl := g_l hg hr
    simp only [zI0, zI1, zI2, zI3, zI4, zI5, zI6, zI7, zI8, zJ0, zJ1, zJ2, zMM]
    rw [zr_i _ _ (by omega) (by omega), d_n h, Option.bind_some, if_neg (by rw [zq_le (by omega) (by omega)]; omega), d_on h hg _ hr, Option.bind_some, b_or0, zq_add r 1]
    simp only [zB_0]
    have skip : (zon g s r = true → (∀ k, k < gZ g r → zam a (gS g r k) = true) → bt x (gL g r - 26) = true) → zw (g' ([x, nI (r + 1)], [], μ)) fun o => o.2 = μ ∧ zgro (zfE g s) a o.1.1 := fun hk => hgo x ⟨a1, fun q hq => by
      by_cases e : q = r
      · rw [e]; exact hk
      · exact a2 q (by omega), a3⟩
    cases hon : zon g s r with
    | false =>
      rw [if_pos rfl]
      exact skip fun q => by rw [hon] at q; cases q
    | true =>
      rw [if_neg (by decide), zr_i _ _ (by omega) (by omega), d_z h hr, Option.bind_some]
      refine zw_bind (m_areIn h hg (d + 0) x (lo := 0) (hi := gZ g r) (-(nI 1)) hr (by omega) (Nat.le_refl _)) ?_
      rintro ⟨⟨w, w2, w3⟩, y'⟩ ⟨e1, b, e2, e3⟩
      simp only at e1 e2 ⊢
      have e1 := e1.symm
      subst e1
      subst e2
      simp only [zB_0]
      have hz := g_z hg hr
      have e4 : b = true ↔ ∀ k, k < gZ g r → zam x (gS g r k) = true := by
        rw [e3]
        constructor
        · intro q k hk
          exact q k (by omega) hk fun q2 => by
            have := zq_em (a := k) (by omega)
            rw [q2] at this
            exact cast this rfl
        · intro q k _ hk _
          exact q k hk
      cases b with
      | false =>
        rw [if_pos rfl]
        refine skip fun _ hall => ?_
        have : false = true := e4.2 fun k hk => by
          have h5 := hall k hk
          unfold zam at h5 ⊢
          rw [Bool.and_eq_true, decide_eq_true_eq] at h5
          have h6 := g_s hg hr hk
          rw [decide_eq_true h5.1, a1 _ (by omega) h5.2]
          rfl
        cases this
      | true =>
        rw [if_neg (by decide), zr_i _ _ (by omega) (by omega), d_l h hr, Option.bind_some, m_bitOf _ hl.2, Option.bind_some]
        refine hgo _ ⟨fun c hc q => (b_orzbo hl.2 hc).2 (.inl (a1 c hc q)), fun q hq h1 h2 => ?_, fun P hP hq c hc hb => ?_⟩
        · have hlq := g_l hg (show q < gN g by omega)
          refine (b_orzbo hl.2 (by omega)).2 ?_
          by_cases e : q = r
          · rw [e]; exact .inr ⟨hl.1, rfl⟩
          · exact .inl (a2 q (by omega) h1 h2)
        · rcases (b_orzbo hl.2 hc).1 hb with q | ⟨-, q⟩
          · exact a3 P hP hq c hc q
          · refine hP c ⟨r, hon, by omega, fun k hk => ?_⟩
            have h5 := e4.1 rfl k hk
            have h6 := g_s hg hr hk
            unfold zam at h5
            rw [Bool.and_eq_true, decide_eq_true_eq] at h5
            exact ⟨h5.1, a3 P hP hq _ (by omega) h5.2⟩
  · rintro x g' ⟨a1, a2, a3⟩
    simp only [zI0, zI1, zI2, zI3, zI4, zI5, zI6, zI7, zI8, zJ0, zJ1, zJ2, zMM]
    rw [zr_i _ _ (by omega) (by omega), d_n h, Option.bind_some, if_pos (by rw [zq_le (by omega) (by omega)]; omega)]
    refine zw_some ⟨rfl, a1, ?_, a3⟩
    rintro c hc ⟨r, h1, h2, h3⟩
    have h4 := a2 r (zon_lt h1) h1 fun k hk => by
      unfold zam
      rw [decide_eq_true (h3 k hk).1, (h3 k hk).2.2]
      rfl
    rwa [h2, Nat.add_sub_cancel_left] at h4
theorem m_growsEnding {g : zG} {s : zSn} {μ : zzM} (h : zm2 g s μ) (hg : zwg g) (d : Nat) (a : Int32) : zw (zzf zzP zN (d + 4) 205 [.ref 105, .int a] μ) fun o => o.2 = μ ∧ zgro (zfN g s) a o.1.1 := by
  have hn := g_n hg
  rw [u_m_growsEnding]
  refine zl_up (fun r (x : Int32) => ([x, nI r], [], μ)) (fun r x => (∀ c, c < 32 → bt a c = true → bt x c = true) ∧ (∀ q, q < r → zon g s q = true → (∀ k, k < gZ g q → 26 ≤ gS g q k → bt a (gS g q k - 26) = true) → bt x (gL g q - 26) = true) ∧ (∀ P : Nat → Prop, (∀ c, zfN g s P c → P c) → (∀ c, c < 32 → bt a c = true → P c) → ∀ c, c < 32 → bt x c = true → P c)) 0 (gN g) a (by omega) (by omega) rfl ⟨fun c _ q => q, fun q hq => absurd hq (by omega), fun P _ hq c hc hb => hq c hc hb⟩ ?_ ?_
  · rintro r x g' - hr ⟨a1, a2, a3⟩ hgo
    have hl := g_l hg hr
    simp only [zI0, zI1, zI2, zI3, zI4, zI5, zI6, zI7, zI8, zJ0, zJ1, zJ2, zMM]
    rw [zr_i _ _ (by omega) (by omega), d_n h, Option.bind_some, if_neg (by rw [zq_le (by omega) (by omega)]; omega), d_on h hg _ hr, Option.bind_some, b_or0, zq_add r 1]
    simp only [zB_0]
    have skip : (zon g s r = true → (∀ k, k < gZ g r → 26 ≤ gS g r k → bt a (gS g r k - 26) = true) → bt x (gL g r - 26) = true) → zw (g' ([x, nI (r + 1)], [], μ)) fun o => o.2 = μ ∧ zgro (zfN g s) a o.1.1 := fun hk => hgo x ⟨a1, fun q hq => by
      by_cases e : q = r
      · rw [e]; exact hk
      · exact a2 q (by omega), a3⟩
    cases hon : zon g s r with
    | false =>
      rw [if_pos rfl]
      exact skip fun q => by rw [hon] at q; cases q
    | true =>
      rw [if_neg (by decide)]
      refine zw_bind (m_areCaps h hg (d + 0) x hr) ?_
      rintro ⟨⟨w, w2, w3⟩, y'⟩ ⟨e1, b, e2, e3⟩
      simp only at e1 e2 ⊢
      have e1 := e1.symm
      subst e1
      subst e2
      simp only [zB_0]
      cases b with
      | false =>
        rw [if_pos rfl]
        refine skip fun _ hall => ?_
        have : false = true := e3.2 fun k hk hc => a1 _ (by have := g_s hg hr hk; omega) (hall k hk hc)
        cases this
      | true =>
        rw [if_neg (by decide), zr_i _ _ (by omega) (by omega), d_l h hr, Option.bind_some, m_bitOf _ hl.2, Option.bind_some]
        refine hgo _ ⟨fun c hc q => (b_orzbo hl.2 hc).2 (.inl (a1 c hc q)), fun q hq h1 h2 => ?_, fun P hP hq c hc hb => ?_⟩
        · have hlq := g_l hg (show q < gN g by omega)
          refine (b_orzbo hl.2 (by omega)).2 ?_
          by_cases e : q = r
          · rw [e]; exact .inr ⟨hl.1, rfl⟩
          · exact .inl (a2 q (by omega) h1 h2)
        · rcases (b_orzbo hl.2 hc).1 hb with q | ⟨-, q⟩
          · exact a3 P hP hq c hc q
          · refine hP c ⟨r, hon, by omega, fun k hk h26 => ?_⟩
            have h6 := g_s hg hr hk
            exact a3 P hP hq _ (by omega) (e3.1 rfl k hk h26)
  · rintro x g' ⟨a1, a2, a3⟩
    simp only [zI0, zI1, zI2, zI3, zI4, zI5, zI6, zI7, zI8, zJ0, zJ1, zJ2, zMM]
    rw [zr_i _ _ (by omega) (by omega), d_n h, Option.bind_some, if_pos (by rw [zq_le (by omega) (by omega)]; omega)]
    refine zw_some ⟨rfl, a1, ?_, a3⟩
    rintro c hc ⟨r, h1, h2, h3⟩
    have h4 := a2 r (zon_lt h1) h1 fun k hk h26 => (h3 k hk h26).2
    rwa [h2, Nat.add_sub_cancel_left] at h4
theorem m_growsReached {g : zG} {s : zSn} {μ : zzM} (h : zm2 g s μ) (hg : zwg g) (hn0 : 0 < gN g) (d : Nat) (a : Int32) (ha : bt a (gL g 0 - 26) = true) : zw (zzf zzP zN (d + 3) 206 [.ref 105, .int a] μ) fun o => o.2 = μ ∧ zgro (zfR g s) a o.1.1 := by
  have hn := g_n hg
  have hl0 := g_l hg hn0
  rw [u_m_growsReached]
  refine zl_up (fun r (x : Int32) => ([x, nI r], [], μ)) (fun r x => (∀ c, c < 32 → bt a c = true → bt x c = true) ∧ (∀ q, q < r → zon g s q = true → bt a (gL g q - 26) = true → ∀ k, k < gZ g q → 26 ≤ gS g q k → bt x (gS g q k - 26) = true) ∧ (∀ P : Nat → Prop, (∀ c, zfR g s P c → P c) → (∀ c, c < 32 → bt a c = true → P c) → ∀ c, c < 32 → bt x c = true → P c)) 0 (gN g) a (by omega) (by omega) rfl ⟨fun c _ q => q, fun q hq => absurd hq (by omega), fun P _ hq c hc hb => hq c hc hb⟩ ?_ ?_
  · rintro r x g' - hr ⟨a1, a2, a3⟩ hgo
    have hl := g_l hg hr
    have hz := g_z hg hr
    simp only [zI0, zI1, zI2, zI3, zI4, zI5, zI6, zI7, zI8, zJ0, zJ1, zJ2, zMM]
    rw [zr_i _ _ (by omega) (by omega), d_n h, Option.bind_some, if_neg (by rw [zq_le (by omega) (by omega)]; omega)]
    refine zl_up (fun k (y : Int32) => ([y, nI r, nI k], [], μ)) (fun k y => (∀ c, c < 32 → bt x c = true → bt y c = true) ∧ (∀ j, j < k → j < gZ g r → 26 ≤ gS g r j → bt y (gS g r j - 26) = true) ∧ (0 < k → zon g s r = true ∧ bt x (gL g r - 26) = true) ∧ (k = 0 → y = x) ∧ (∀ P : Nat → Prop, (∀ c, zfR g s P c → P c) → (∀ c, c < 32 → bt a c = true → P c) → ∀ c, c < 32 → bt y c = true → P c)) 0 (gZ g r) x (by omega) (by omega) rfl ⟨fun c _ q => q, fun j hj => absurd hj (by omega), fun q => absurd q (by omega), fun _ => rfl, a3⟩ ?_ ?_
    · rintro k y g'' - hk ⟨b1, b2, b3, b4, b5⟩ hgo2
      have hs := g_s hg hr hk
      have skip : ¬ (zon g s r = true ∧ bt y (gL g r - 26) = true) → zw (g' ([y, nI (r + 1)], [], μ)) fun o => o.2 = μ ∧ zgro (zfR g s) a o.1.1 := by
        intro hno
        have hk0 : k = 0 := by
          apply Classical.byContradiction
          intro q
          have := b3 (by omega)
          exact hno ⟨this.1, b1 _ (by omega) this.2⟩
        rw [b4 hk0] at hno ⊢
        refine hgo x ⟨a1, fun q hq h1 h2 => ?_, a3⟩
        by_cases e : q = r
        · rw [e] at h1 h2
          exact absurd ⟨h1, a1 _ (by omega) h2⟩ hno
        · exact a2 q (by omega) h1 h2
      simp only [zI0, zI1, zI2, zI3, zI4, zI5, zI6, zI7, zI8, zJ0, zJ1, zJ2, zMM]
      rw [zr_i _ _ (by omega) (by omega), d_z h hr, Option.bind_some, if_neg (by rw [zq_le (by omega) (by omega)]; omega), d_on h hg _ hr, Option.bind_some, zq_add r 1]
      simp only [zB_0]
      cases hon : zon g s r with
      | false =>
        rw [if_pos rfl]
        exact skip fun q => by rw [hon] at q; cases q.1
      | true =>
        rw [if_neg (by decide), zr_i _ _ (by omega) (by omega), d_l h hr, Option.bind_some, m_bitOf _ hl.2, Option.bind_some]
        simp only [zbo_and hl.2]
        have ez : zam y (gL g r) = bt y (gL g r - 26) := by
          unfold zam
          rw [decide_eq_true hl.1, Bool.true_and]
        rw [ez]
        cases hv : bt y (gL g r - 26) with
        | false =>
          rw [if_pos rfl]
          exact skip fun q => by rw [hv] at q; cases q.2
        | true =>
          rw [if_neg (by decide), d_symAt h hg hr hk, Option.bind_some, m_bitOf _ hs, Option.bind_some, zq_add k 1]
          have hx : bt x (gL g r - 26) = true := by
            by_cases hk0 : k = 0
            · rw [← b4 hk0]; exact hv
            · exact (b3 (by omega)).2
          refine hgo2 _ ⟨fun c hc q => (b_orzbo hs hc).2 (.inl (b1 c hc q)), fun j hj h1 h2 => ?_, fun _ => ⟨hon, hx⟩, fun q => absurd q (by omega), fun P hP hq c hc hb => ?_⟩
          · have hs2 := g_s hg hr h1
            refine (b_orzbo hs (by omega)).2 ?_
            by_cases e : j = k
            · rw [e] at h2 ⊢; exact .inr ⟨h2, rfl⟩
            · exact .inl (b2 j (by omega) h1 h2)
          · rcases (b_orzbo hs hc).1 hb with q | ⟨q1, q2⟩
            · exact b5 P hP hq c hc q
            · exact hP c (.inr ⟨r, hon, a3 P hP hq _ (by omega) hx, k, hk, by omega⟩)
    · rintro y g'' ⟨b1, b2, b3, b4, b5⟩
      simp only [zI0, zI1, zI2, zI3, zI4, zI5, zI6, zI7, zI8, zJ0, zJ1, zJ2, zMM]
      rw [zr_i _ _ (by omega) (by omega), d_z h hr, Option.bind_some, if_pos (by rw [zq_le (by omega) (by omega)]; omega), zq_add r 1]
      refine hgo y ⟨fun c hc q => b1 c hc (a1 c hc q), fun q hq h1 h2 k h3 h4 => ?_, b5⟩
      by_cases e : q = r
      · rw [e] at h3 h4 ⊢; exact b2 k h3 h3 h4
      · have hs2 := g_s hg (show q < gN g by omega) h3
        exact b1 _ (by omega) (a2 q (by omega) h1 h2 k h3 h4)
  · rintro x g' ⟨a1, a2, a3⟩
    simp only [zI0, zI1, zI2, zI3, zI4, zI5, zI6, zI7, zI8, zJ0, zJ1, zJ2, zMM]
    rw [zr_i _ _ (by omega) (by omega), d_n h, Option.bind_some, if_pos (by rw [zq_le (by omega) (by omega)]; omega)]
    refine zw_some ⟨rfl, a1, ?_, a3⟩
    rintro c hc (h1 | ⟨r, h1, h2, k, h3, h4⟩)
    · have e : gL g 0 - 26 = c := by omega
      rw [e] at ha
      exact a1 c (by omega) ha
    · have h5 := a2 r (zon_lt h1) h1 h2.2 k h3 (by omega)
      rwa [h4, Nat.add_sub_cancel_left] at h5
