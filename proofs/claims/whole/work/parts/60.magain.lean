/-! LOOPS, RECURS of the reference -/
def zcon (g : zG) (s : zSn) (al : Bool) (r k : Nat) : Prop := (∀ j, j < k → zEc g s (gS g r j)) ∧ (al = true → ∀ j, k + 1 ≤ j → j < gZ g r → zEc g s (gS g r j))
theorem m_stepsOf {g : zG} {s : zSn} {μ : zzM} (h : zm2 g s μ) (hg : zwg g) (hE : zmE g s (μ.1 105 26)) (d : Nat) (a : Int32) (al : Bool) : zw (zzf zzP zN (d + 4) 209 [.ref 105, .int a, .int (zB al)] μ) fun o => o.2 = μ ∧ ∀ c, c < 32 → (bt o.1.1 c = true ↔ ∃ m, m < 26 ∧ bt a m = true ∧ zSt g s al m c) := by
  have hn := g_n hg
  rw [u_m_stepsOf]
  refine zl_up (fun r (x : Int32) => ([a, zB al, x, nI r], [], μ)) (fun r x => ∀ c, c < 32 → (bt x c = true ↔ ∃ q, q < r ∧ zon g s q = true ∧ bt a (gL g q - 26) = true ∧ ∃ k, k < gZ g q ∧ gS g q k = 26 + c ∧ zcon g s al q k)) 0 (gN g) _ (by omega) (by omega) rfl ?_ ?_ ?_
  · intro c hc
    rw [b_z]
    constructor
    · intro q; cases q
    · rintro ⟨q, hq, -⟩; omega
  · rintro r x g' - hr hJ hgo
    have hl := g_l hg hr
    have hz := g_z hg hr
    simp only [zI0, zI1, zI2, zI3, zI4, zI5, zI6, zI7, zI8, zJ0, zJ1, zJ2, zMM]
    rw [zr_i _ _ (by omega) (by omega), d_n h, Option.bind_some, if_neg (by rw [zq_le (by omega) (by omega)]; omega)]
    have fin : ∀ y : Int32, (∀ c, c < 32 → (bt y c = true ↔ bt x c = true ∨ (zon g s r = true ∧ bt a (gL g r - 26) = true ∧ ∃ j, j < gZ g r ∧ gS g r j = 26 + c ∧ zcon g s al r j))) → zw (g' ([a, zB al, y, nI (r + 1)], [], μ)) fun o => o.2 = μ ∧ ∀ c, c < 32 → (bt o.1.1 c = true ↔ ∃ m, m < 26 ∧ bt a m = true ∧ zSt g s al m c) := by
      intro y hy
      refine hgo y fun c hc => ?_
      rw [hy c hc, hJ c hc]
      constructor
      · rintro (⟨q, h1, h2⟩ | h1)
        · exact ⟨q, by omega, h2⟩
        · exact ⟨r, by omega, h1⟩
      · rintro ⟨q, h1, h2⟩
        by_cases e : q = r
        · subst e; exact .inr h2
        · exact .inl ⟨q, by omega, h2⟩
    refine zl_up (fun k (y : Int32) => ([a, zB al, y, nI r, nI k], [], μ)) (fun k y => ∀ c, c < 32 → (bt y c = true ↔ bt x c = true ∨ (zon g s r = true ∧ bt a (gL g r - 26) = true ∧ ∃ j, j < k ∧ gS g r j = 26 + c ∧ zcon g s al r j))) 0 (gZ g r) x (by omega) (by omega) rfl (fun c hc => ⟨.inl, fun q => q.elim id fun q => by obtain ⟨-, -, j, hj, -⟩ := q; omega⟩) ?_ ?_
    · rintro k y g'' - hk hK hgo2
      have hs := g_s hg hr hk
      have stop : ¬ (zon g s r = true ∧ bt a (gL g r - 26) = true) → ∀ c, c < 32 → (bt y c = true ↔ bt x c = true ∨ (zon g s r = true ∧ bt a (gL g r - 26) = true ∧ ∃ j, j < gZ g r ∧ gS g r j = 26 + c ∧ zcon g s al r j)) := by
        intro hno c hc
        rw [hK c hc]
        constructor
        · rintro (q | ⟨q1, q2, -⟩)
          · exact .inl q
          · exact absurd ⟨q1, q2⟩ hno
        · rintro (q | ⟨q1, q2, -⟩)
          · exact .inl q
          · exact absurd ⟨q1, q2⟩ hno
      simp only [zI0, zI1, zI2, zI3, zI4, zI5, zI6, zI7, zI8, zJ0, zJ1, zJ2, zMM]
      rw [zr_i _ _ (by omega) (by omega), d_z h hr, Option.bind_some, if_neg (by rw [zq_le (by omega) (by omega)]; omega), d_on h hg _ hr, Option.bind_some, zq_add r 1, zq_add k 1]
      simp only [zB_0]
      cases hon : zon g s r with
      | false =>
        rw [if_pos rfl]
        exact fin y (stop fun q => (by rw [hon] at q; cases q.1))
      | true =>
        rw [if_neg (by decide), zr_i _ _ (by omega) (by omega), d_l h hr, Option.bind_some, m_bitOf _ hl.2, Option.bind_some]
        simp only [zbo_and hl.2]
        have ez : zam a (gL g r) = bt a (gL g r - 26) := by
          unfold zam
          rw [decide_eq_true hl.1, Bool.true_and]
        rw [ez]
        cases hv : bt a (gL g r - 26) with
        | false =>
          rw [if_pos rfl]
          exact fin y (stop fun q => (by rw [hv] at q; cases q.2))
        | true =>
          rw [if_neg (by decide)]
          have no : ¬ zcon g s al r k → zw (g'' ([a, zB al, y, nI r, nI (k + 1)], [], μ)) fun o => o.2 = μ ∧ ∀ c, c < 32 → (bt o.1.1 c = true ↔ ∃ m, m < 26 ∧ bt a m = true ∧ zSt g s al m c) := by
            intro hno
            refine hgo2 y fun c hc => ?_
            rw [hK c hc]
            constructor
            · rintro (q | ⟨q1, q2, j, q3, q4⟩)
              · exact .inl q
              · exact .inr ⟨q1, q2, j, by omega, q4⟩
            · rintro (q | ⟨q1, q2, j, q3, q4, q5⟩)
              · exact .inl q
              · by_cases e : j = k
                · rw [e] at q5; exact absurd q5 hno
                · exact .inr ⟨q1, q2, j, by omega, q4, q5⟩
          have yes : zcon g s al r k → zw ((zzri μ 109 48 (nI 4 * nI r + nI k)).bind fun x11 => (zzf zzP zN (d + 3) 201 [.int x11] μ).bind fun o12 => g'' ([a, zB al, y ||| o12.1.1, nI r, nI (k + 1)], [], o12.2)) fun o => o.2 = μ ∧ ∀ c, c < 32 → (bt o.1.1 c = true ↔ ∃ m, m < 26 ∧ bt a m = true ∧ zSt g s al m c) := by
            intro hy
            rw [d_symAt h hg hr hk, Option.bind_some, m_bitOf _ hs, Option.bind_some]
            refine hgo2 _ fun c hc => ?_
            rw [b_orzbo hs hc, hK c hc]
            constructor
            · rintro ((q | ⟨q1, q2, j, q3, q4⟩) | ⟨q1, q2⟩)
              · exact .inl q
              · exact .inr ⟨q1, q2, j, by omega, q4⟩
              · exact .inr ⟨hon, hv, k, by omega, by omega, hy⟩
            · rintro (q | ⟨q1, q2, j, q3, q4, q5⟩)
              · exact .inl (.inl q)
              · by_cases e : j = k
                · rw [e] at q4; exact .inr ⟨by omega, by omega⟩
                · exact .inl (.inr ⟨q1, q2, j, by omega, q4, q5⟩)
          cases al with
          | false =>
            rw [if_pos rfl]
            refine zw_bind (m_areIn h hg (d + 0) (μ.1 105 26) (lo := 0) (hi := k) (nI k) hr (by omega) (by omega)) ?_
            rintro ⟨⟨w, w2, w3⟩, y'⟩ ⟨e3, b, e4, e5⟩
            simp only at e3 e4 ⊢
            subst e3
            subst e4
            simp only [zB_0]
            have e6 : b = true ↔ zcon g s false r k := by
              rw [e5]
              constructor
              · intro q
                refine ⟨fun j hj => (zmE_am hE (g_s hg hr (by omega))).1 (q j (by omega) hj fun q2 => ?_), fun q => by cases q⟩
                rw [zq_eq (by omega) (by omega)] at q2
                omega
              · intro q j _ hj _
                exact (zmE_am hE (g_s hg hr (by omega))).2 (q.1 j hj)
            cases b with
            | false =>
              rw [if_pos rfl, b_or0]
              exact no fun q => (by have := e6.2 q; cases this)
            | true =>
              rw [if_neg (by decide)]
              exact yes (e6.1 rfl)
          | true =>
            rw [if_neg (by decide), zr_i _ _ (by omega) (by omega), d_z h hr, Option.bind_some]
            refine zw_bind (m_areIn h hg (d + 0) (μ.1 105 26) (lo := 0) (hi := gZ g r) (nI k) hr (by omega) (Nat.le_refl _)) ?_
            rintro ⟨⟨w, w2, w3⟩, y'⟩ ⟨e3, b, e4, e5⟩
            simp only at e3 e4 ⊢
            subst e3
            subst e4
            simp only [zB_0]
            have e6 : b = true ↔ zcon g s true r k := by
              rw [e5]
              constructor
              · intro q
                refine ⟨fun j hj => (zmE_am hE (g_s hg hr (by omega))).1 (q j (by omega) (by omega) fun q2 => ?_), fun _ j h1 h2 => (zmE_am hE (g_s hg hr h2)).1 (q j (by omega) h2 fun q2 => ?_)⟩
                · rw [zq_eq (by omega) (by omega)] at q2
                  omega
                · rw [zq_eq (by omega) (by omega)] at q2
                  omega
              · intro q j _ hj hne
                refine (zmE_am hE (g_s hg hr hj)).2 ?_
                rcases Nat.lt_or_ge j k with h1 | h1
                · exact q.1 j h1
                · refine q.2 rfl j ?_ hj
                  apply Nat.lt_of_le_of_ne h1
                  intro e
                  exact hne (by rw [e])
            cases b with
            | false =>
              rw [if_pos rfl, b_or0]
              exact no fun q => (by have := e6.2 q; cases this)
            | true =>
              rw [if_neg (by decide)]
              exact yes (e6.1 rfl)
    · rintro y g'' hK
      simp only [zI0, zI1, zI2, zI3, zI4, zI5, zI6, zI7, zI8, zJ0, zJ1, zJ2, zMM]
      rw [zr_i _ _ (by omega) (by omega), d_z h hr, Option.bind_some, if_pos (by rw [zq_le (by omega) (by omega)]; omega), zq_add r 1]
      exact fin y hK
  · rintro x g' hJ
    simp only [zI0, zI1, zI2, zI3, zI4, zI5, zI6, zI7, zI8, zJ0, zJ1, zJ2, zMM]
    rw [zr_i _ _ (by omega) (by omega), d_n h, Option.bind_some, if_pos (by rw [zq_le (by omega) (by omega)]; omega)]
    refine zw_some ⟨rfl, fun c hc => ?_⟩
    rw [hJ c hc]
    constructor
    · rintro ⟨q, h1, h2, h3, k, h4, h5, h6⟩
      have hl := g_l hg h1
      exact ⟨gL g q - 26, by omega, h3, q, h2, by omega, k, h4, h5, h6⟩
    · rintro ⟨m, h1, h2, q, h3, h4, k, h5, h6, h7⟩
      refine ⟨q, zon_lt h3, h3, ?_, k, h5, h6, h7⟩
      rw [h4, Nat.add_sub_cancel_left]
      exact h2
theorem zSt_left {g : zG} {s : zSn} (hg : zwg g) {al : Bool} {a c : Nat} (h : zTr (zSt g s al) a c) : gleft g c = true := by
  refine zlfp_le (P := fun c => gleft g c = true) ?_ h
  have key : ∀ m c, zSt g s al m c → gleft g c = true := by
    rintro m c ⟨r, h1, -, k, h3, h4, -⟩
    have := zcap_left hg (zon_lt h1) h3 (by omega)
    rwa [h4, Nat.add_sub_cancel_left] at this
  rintro c (h1 | ⟨m, -, h1⟩)
  · exact key _ _ h1
  · exact key _ _ h1
theorem m_againBy {g : zG} {s : zSn} {μ : zzM} (h : zm2 g s μ) (hg : zwg g) (hE : zmE g s (μ.1 105 26)) (d : Nat) (al : Bool) : zw (zzf zzP zN (d + 5) 208 [.ref 105, .int (zB al)] μ) fun o => o.2 = μ ∧ ∀ c, c < 32 → (bt o.1.1 c = true ↔ zTr (zSt g s al) c c) := by
  have hlt : ∀ c, zTr (zSt g s al) c c → c < 26 := by
    intro c hc
    refine zlfp_le (P := fun b => b < 26) ?_ hc
    rintro b (q | ⟨m, -, q⟩)
    · exact (zSt_lt hg q).2
    · exact (zSt_lt hg q).2
  rw [u_m_againBy]
  refine zl_up (fun c (x : Int32) => ([zB al, x, nI c], [], μ)) (fun c x => ∀ e, e < 32 → (bt x e = true ↔ e < c ∧ zTr (zSt g s al) e e)) 0 26 _ (by omega) (by omega) rfl ?_ ?_ ?_
  · intro e he
    rw [b_z]
    constructor
    · intro q; cases q
    · rintro ⟨q, -⟩; omega
  · rintro c x g' - hc hJ hgo
    let F : (Nat → Prop) → Nat → Prop := fun P b => zSt g s al c b ∨ ∃ m, P m ∧ zSt g s al m b
    have hF : zmon F := zTr_mo (zSt g s al) c
    have hsup : ∀ P b, F P b → b < 26 := by
      rintro P b (q | ⟨m, -, q⟩)
      · exact (zSt_lt hg q).2
      · exact (zSt_lt hg q).2
    simp only [zI0, zI1, zI2, zI3, zI4, zI5, zI6, zI7, zI8, zJ0, zJ1, zJ2, zMM]
    rw [if_neg (by rw [zq_le (by omega) (by omega)]; omega)]
    refine zw_bind (m_stepsOf h hg hE d (nI 1 <<< (nI c &&& 31)) al) ?_
    rintro ⟨⟨w, w2, w3⟩, y'⟩ ⟨e1, e2⟩
    simp only at e1 e2 ⊢
    have e1 := e1.symm
    subst e1
    have hw : ∀ b, b < 32 → (bt w b = true ↔ zSt g s al c b) := by
      intro b hb
      rw [e2 b hb]
      constructor
      · rintro ⟨m, h1, h2, h3⟩
        rw [b_sh1 (by omega) (by omega), decide_eq_true_eq] at h2
        rw [h2] at h3
        exact h3
      · intro q
        exact ⟨c, hc, by rw [b_sh1 (by omega) (by omega), decide_eq_true_eq], q⟩
    refine zl_up (fun n (y : Int32) => ([zB al, x, nI c, y, nI n], [], μ)) (fun n y => zso26 F (n + 1) y ∧ ∀ b, b < 32 → zSt g s al c b → bt y b = true) 0 5 w (by omega) (by omega) rfl ⟨⟨fun b hb q => ?_, ?_⟩, fun b hb q => (hw b hb).2 q⟩ ?_ ?_
    · have := (hw b hb).1 q
      exact ⟨(zSt_lt hg this).2, zTr_1 this⟩
    · by_cases hex : ∃ b, b < 26 ∧ bt w b = true
      · right
        obtain ⟨b, h1, h2⟩ := hex
        have := zcnt_lt (p := fun _ => false) (q := bt w) (n := 26) (fun _ _ q => by cases q) ⟨b, h1, rfl, h2⟩
        omega
      · left
        rintro b hb (q | ⟨m, ⟨q1, q2⟩, -⟩)
        · exact (hw b (by omega)).2 q
        · exact absurd ⟨m, q1, q2⟩ hex
    · rintro n y g'' - hn5 ⟨a1, a2⟩ hgo2
      simp only [zI0, zI1, zI2, zI3, zI4, zI5, zI6, zI7, zI8, zJ0, zJ1, zJ2, zMM]
      rw [if_neg (by rw [zq_le (by omega) (by omega)]; omega)]
      refine zw_bind (m_stepsOf h hg hE d y al) ?_
      rintro ⟨⟨v, v2, v3⟩, y'⟩ ⟨e3, e4⟩
      simp only at e3 e4 ⊢
      have e3 := e3.symm
      subst e3
      rw [zq_add]
      refine hgo2 _ ⟨zso_step hF hsup a1 ⟨fun b hb q => by rw [b_or, q]; rfl, ?_, fun P hP hq b hb q => ?_⟩, fun b hb q => by rw [b_or, a2 b hb q]; rfl⟩
      · rintro b hb (q | ⟨m, ⟨q1, q2⟩, q3⟩)
        · rw [b_or, a2 b (by omega) q]; rfl
        · rw [b_or, (e4 b (by omega)).2 ⟨m, q1, q2, q3⟩, Bool.or_true]
      · rw [b_or, Bool.or_eq_true] at q
        rcases q with q | q
        · exact hq b hb q
        · obtain ⟨m, t1, t2, t3⟩ := (e4 b hb).1 q
          exact hP b (.inr ⟨m, hq m (by omega) t2, t3⟩)
    · rintro y g'' ⟨a1, a2⟩
      simp only [zI0, zI1, zI2, zI3, zI4, zI5, zI6, zI7, zI8, zJ0, zJ1, zJ2, zMM]
      rw [if_pos (by decide), m_has, Option.bind_some, b_bit1 _ (by omega), zq_add]
      simp only [zB_0]
      have hend := zso_end hsup hg (fun b q => zSt_left hg q) (by omega) a1
      have hcc := hend c (by omega)
      cases hv : bt y c with
      | false =>
        rw [if_pos (by decide), b_or0]
        refine hgo _ fun e he => ?_
        rw [hJ e he]
        constructor
        · rintro ⟨q1, q2⟩; exact ⟨by omega, q2⟩
        · rintro ⟨q1, q2⟩
          refine ⟨?_, q2⟩
          apply Nat.lt_of_le_of_ne (by omega)
          intro ee
          rw [ee] at q2
          rw [hcc.2 q2] at hv
          cases hv
      | true =>
        rw [if_neg (by decide)]
        refine hgo _ fun e he => ?_
        rw [b_or, b_sh1 (by omega) he, Bool.or_eq_true, decide_eq_true_eq, hJ e he]
        constructor
        · rintro (⟨q1, q2⟩ | q)
          · exact ⟨by omega, q2⟩
          · rw [q]; exact ⟨by omega, hcc.1 hv⟩
        · rintro ⟨q1, q2⟩
          by_cases ee : e = c
          · exact .inr ee
          · exact .inl ⟨by omega, q2⟩
  · rintro x g' hJ
    simp only [zI0, zI1, zI2, zI3, zI4, zI5, zI6, zI7, zI8, zJ0, zJ1, zJ2, zMM]
    rw [if_pos (by decide)]
    refine zw_some ⟨rfl, fun e he => ?_⟩
    rw [hJ e he]
    exact ⟨fun q => q.2, fun q => ⟨hlt e q, q⟩⟩
