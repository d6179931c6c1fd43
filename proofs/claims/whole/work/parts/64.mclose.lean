/-! CLOSED sets of points; the reference's begun, closed -/
/-- one step: what is in S, and the first points that points ahead of capitals bring along -/
def zfC (g : zG) (s : zSn) (S : Nat → Prop) (P : Nat → Prop) (i : Nat) : Prop := S i ∨ ∃ r n q, P (5 * r + n) ∧ r < gN g ∧ n < gZ g r ∧ 26 ≤ gS g r n ∧ zon g s q = true ∧ gL g q = gS g r n ∧ i = 5 * q
def zcl (g : zG) (s : zSn) (S : Nat → Prop) : Nat → Prop := zlfp (zfC g s S)
theorem zfC_mo (g : zG) (s : zSn) (S : Nat → Prop) : zmon (zfC g s S) := by
  rintro P Q h i (h1 | ⟨r, n, q, h1, h2⟩)
  · exact .inl h1
  · exact .inr ⟨r, n, q, h _ h1, h2⟩
theorem lcnt_lt {b x : Int64} (h1 : ∀ c, c < 64 → bl b c = true → bl x c = true) (hne : b ≠ x) : zcnt (bl b) 64 < zcnt (bl x) 64 := by
  refine zcnt_lt h1 ?_
  apply Classical.byContradiction
  intro hno
  refine hne (l_ext fun c hc => ?_)
  cases hb : bl b c with
  | true => exact (h1 c hc hb).symm
  | false =>
    cases hx : bl x c with
    | false => rfl
    | true => exact absurd ⟨c, hc, hb, hx⟩ hno
theorem l_or0 (x : Int64) : x ||| lN 0 = x := l_ext fun i _ => by rw [l_or, l_z, Bool.or_false]
theorem m_begun {g : zG} {s : zSn} {μ : zzM} (h : zm2 g s μ) (hg : zwg g) (d : Nat) {c : Nat} (hc : c < 2147483648) : zw (zzf zzP zN (d + 3) 223 [.ref 105, .int (nI c)] μ) fun o => o.2 = μ ∧ ∀ i, i < 64 → (bl o.1.2.1 i = true ↔ ∃ q, zon g s q = true ∧ gL g q = c ∧ i = 5 * q) := by
  have hn := g_n hg
  rw [u_m_begun]
  refine zl_up (fun r (x : Int64) => ([nI c, nI r], [x], μ)) (fun r x => ∀ i, i < 64 → (bl x i = true ↔ ∃ q, q < r ∧ zon g s q = true ∧ gL g q = c ∧ i = 5 * q)) 0 (gN g) _ (by omega) (by omega) rfl ?_ ?_ ?_
  · intro i hi
    rw [l_z]
    constructor
    · intro q; cases q
    · rintro ⟨q, hq, -⟩; omega
  · rintro r x g' - hr hJ hgo
    have hl := g_l hg hr
    simp only [zI0, zI1, zI2, zI3, zI4, zI5, zI6, zI7, zI8, zJ0, zJ1, zJ2, zMM]
    rw [zr_i _ _ (by omega) (by omega), d_n h, Option.bind_some, if_neg (by rw [zq_le (by omega) (by omega)]; omega), d_on h hg _ hr, Option.bind_some, l_or0, zq_add r 1]
    simp only [zB_0]
    have skip : ¬ (zon g s r = true ∧ gL g r = c) → zw (g' ([nI c, nI (r + 1)], [x], μ)) fun o => o.2 = μ ∧ ∀ i, i < 64 → (bl o.1.2.1 i = true ↔ ∃ q, zon g s q = true ∧ gL g q = c ∧ i = 5 * q) := by
      intro hno
      refine hgo x fun i hi => ?_
      rw [hJ i hi]
      constructor
      · rintro ⟨q, h1, h2⟩; exact ⟨q, by omega, h2⟩
      · rintro ⟨q, h1, h2, h3, h4⟩
        by_cases e : q = r
        · rw [e] at h2 h3; exact absurd ⟨h2, h3⟩ hno
        · exact ⟨q, by omega, h2, h3, h4⟩
    cases hon : zon g s r with
    | false =>
      rw [if_pos rfl]
      exact skip fun q => (by rw [hon] at q; cases q.1)
    | true =>
      rw [if_neg (by decide), zr_i _ _ (by omega) (by omega), d_l h hr, Option.bind_some]
      have ee : (nI (gL g r) = nI c) = (gL g r = c) := zq_eq (by omega) hc
      by_cases e : gL g r = c
      · rw [if_pos (by rw [ee]; exact e), m_point _ (by omega) (by omega), Option.bind_some]
        refine hgo _ fun i hi => ?_
        rw [l_or, l_sh1 (by omega) hi, Bool.or_eq_true, decide_eq_true_eq, hJ i hi]
        constructor
        · rintro (⟨q, h1, h2⟩ | h1)
          · exact ⟨q, by omega, h2⟩
          · exact ⟨r, by omega, hon, e, by omega⟩
        · rintro ⟨q, h1, h2, h3, h4⟩
          by_cases eq : q = r
          · exact .inr (by rw [eq] at h4; omega)
          · exact .inl ⟨q, by omega, h2, h3, h4⟩
      · rw [if_neg (by rw [ee]; exact e)]
        exact skip fun q => e q.2
  · rintro x g' hJ
    simp only [zI0, zI1, zI2, zI3, zI4, zI5, zI6, zI7, zI8, zJ0, zJ1, zJ2, zMM]
    rw [zr_i _ _ (by omega) (by omega), d_n h, Option.bind_some, if_pos (by rw [zq_le (by omega) (by omega)]; omega)]
    refine zw_some ⟨rfl, fun i hi => ?_⟩
    rw [hJ i hi]
    constructor
    · rintro ⟨q, -, h2⟩; exact ⟨q, h2⟩
    · rintro ⟨q, h2⟩; exact ⟨q, zon_lt h2.1, h2⟩
/-- what points in a set bring along -/
def zbr (g : zG) (s : zSn) (x : Int64) (r n i : Nat) : Prop := zpt x r n = true ∧ n < gZ g r ∧ 26 ≤ gS g r n ∧ ∃ q, zon g s q = true ∧ gL g q = gS g r n ∧ i = 5 * q
theorem m_closed {g : zG} {s : zSn} {μ : zzM} (h : zm2 g s μ) (hg : zwg g) (d : Nat) (a : Int64) : zw (zzf zzP zN (d + 4) 224 [.ref 105, .long a] μ) fun o => o.2 = μ ∧ ∀ i, i < 64 → (bl o.1.2.1 i = true ↔ zcl g s (fun i => i < 64 ∧ bl a i = true) i) := by
  have hn := g_n hg
  rw [u_m_closed]
  let F := zfC g s (fun i => i < 64 ∧ bl a i = true)
  have hF : zmon F := zfC_mo g s _
  refine zl_ms (fun x : Int64 × Int64 => ([], [x.1, x.2], μ)) (fun m x => m + zcnt (bl x.2) 64 = 64 ∧ (∀ i, i < 64 → bl a i = true → bl x.1 i = true) ∧ (∀ i, i < 64 → bl x.1 i = true → zlfp F i) ∧ (∀ i, i < 64 → bl x.2 i = true → bl x.1 i = true) ∧ (∀ r n i, r < gN g → i < 64 → zbr g s x.2 r n i → bl x.1 i = true)) (64 - zcnt (bl (lN 0)) 64) (a, lN 0) (by omega) rfl ⟨?_, fun i _ q => q, fun i hi q => zlfp_in hF (.inl ⟨hi, q⟩), fun i _ q => ?_, fun r n i _ _ q => ?_⟩ ?_
  · have := zcnt_le (bl (lN 0)) 64
    simp only
    omega
  · simp only at q
    rw [l_z] at q; cases q
  · have q := q.1
    unfold zpt at q
    rw [l_z] at q; cases q
  · rintro m ⟨x, w⟩ gg ⟨hm, a1, a2, a3, a4⟩ hgo
    simp only at hm a1 a2 a3 a4
    simp only [zI0, zI1, zI2, zI3, zI4, zI5, zI6, zI7, zI8, zJ0, zJ1, zJ2, zMM]
    simp only [l_cmp]
    by_cases hx : x = w
    · rw [if_pos hx]
      refine zw_some ⟨rfl, fun i hi => ⟨a2 i hi, fun q => ?_⟩⟩
      have : i < 64 ∧ bl x i = true := by
        refine zlfp_le (P := fun i => i < 64 ∧ bl x i = true) ?_ q
        rintro i (h1 | ⟨r, n, q, h1, h2, h3, h4, h5, h6, h7⟩)
        · exact ⟨h1.1, a1 i h1.1 h1.2⟩
        · have hq := zon_lt h5
          refine ⟨by omega, a4 r n i h2 (by omega) ⟨?_, h3, h4, q, h5, h6, h7⟩⟩
          rw [← hx]
          exact h1.2
      exact this.2
    · rw [if_neg hx]
      have hlt := lcnt_lt a3 (fun q => hx q.symm)
      have hle := zcnt_le (bl x) 64
      refine zl_up (fun r (y : Int64) => ([nI r], [y, x], μ)) (fun r y => (∀ i, i < 64 → bl x i = true → bl y i = true) ∧ (∀ i, i < 64 → bl y i = true → zlfp F i) ∧ (∀ q n i, q < r → i < 64 → zbr g s x q n i → bl y i = true)) 0 (gN g) x (by omega) (by omega) rfl ⟨fun i _ q => q, a2, fun q n i hq => absurd hq (by omega)⟩ ?_ ?_
      · rintro r y g' - hr ⟨b1, b2, b3⟩ hgo2
        have hz := g_z hg hr
        simp only [zI0, zI1, zI2, zI3, zI4, zI5, zI6, zI7, zI8, zJ0, zJ1, zJ2, zMM]
        rw [zr_i _ _ (by omega) (by omega), d_n h, Option.bind_some, if_neg (by rw [zq_le (by omega) (by omega)]; omega)]
        refine zl_up (fun n (z : Int64) => ([nI r, nI n], [z, x], μ)) (fun n z => (∀ i, i < 64 → bl y i = true → bl z i = true) ∧ (∀ i, i < 64 → bl z i = true → zlfp F i) ∧ (∀ j i, j < n → i < 64 → zbr g s x r j i → bl z i = true)) 0 (gZ g r) y (by omega) (by omega) rfl ⟨fun i _ q => q, b2, fun j i hj => absurd hj (by omega)⟩ ?_ ?_
        · rintro n z g'' - hn2 ⟨c1, c2, c3⟩ hgo3
          have hs := g_s hg hr hn2
          have skip : (∀ i, i < 64 → ¬ zbr g s x r n i) → zw (g'' ([nI r, nI (n + 1)], [z, x], μ)) fun o => o.2 = μ ∧ ∀ i, i < 64 → (bl o.1.2.1 i = true ↔ zcl g s (fun i => i < 64 ∧ bl a i = true) i) := fun hno => hgo3 z ⟨c1, c2, fun j i hj hi hb => by
            by_cases e : j = n
            · rw [e] at hb; exact absurd hb (hno i hi)
            · exact c3 j i (by omega) hi hb⟩
          simp only [zI0, zI1, zI2, zI3, zI4, zI5, zI6, zI7, zI8, zJ0, zJ1, zJ2, zMM]
          rw [zr_i _ _ (by omega) (by omega), d_z h hr, Option.bind_some, if_neg (by rw [zq_le (by omega) (by omega)]; omega), d_symAt h hg hr hn2, Option.bind_some, m_isPoint _ _ (by omega) (by omega), Option.bind_some, l_or0, zq_add n 1]
          simp only [zB_0]
          cases hp : zpt z r n with
          | false =>
            rw [if_pos rfl]
            refine skip fun i hi hb => ?_
            have h1 := c1 (5 * r + n) (by omega) (b1 (5 * r + n) (by omega) hb.1)
            have h2 : zpt z r n = true := h1
            rw [h2] at hp; cases hp
          | true =>
            rw [if_neg (by decide), m_isCapital, Option.bind_some]
            simp only [zB_0]
            have e26 : (nI 26 ≤ nI (gS g r n)) = (26 ≤ gS g r n) := zq_le (by omega) (by omega)
            by_cases hc : 26 ≤ gS g r n
            · rw [if_neg (by rw [decide_eq_true (by rw [e26]; exact hc)]; decide)]
              refine zw_bind (m_begun h hg (d + 0) (c := gS g r n) (by omega)) ?_
              rintro ⟨⟨w0, w1, w2⟩, μ'⟩ ⟨e1, e2⟩
              simp only at e1 e2 ⊢
              have e1 := e1.symm
              subst e1
              refine hgo3 _ ⟨fun i hi q => by rw [l_or, c1 i hi q]; rfl, fun i hi q => ?_, fun j i hj hi hb => ?_⟩
              · rw [l_or, Bool.or_eq_true] at q
                rcases q with q | q
                · exact c2 i hi q
                · obtain ⟨t, t1, t2, t3⟩ := (e2 i hi).1 q
                  exact zlfp_in hF (.inr ⟨r, n, t, c2 _ (by omega) hp, hr, hn2, hc, t1, t2, t3⟩)
              · rw [l_or, Bool.or_eq_true]
                by_cases e : j = n
                · rw [e] at hb
                  obtain ⟨-, -, -, t⟩ := hb
                  exact .inr ((e2 i hi).2 t)
                · exact .inl (c3 j i (by omega) hi hb)
            · rw [if_pos (decide_eq_false (by rw [e26]; exact hc))]
              exact skip fun i hi hb => hc hb.2.2.1
        · rintro z g'' ⟨c1, c2, c3⟩
          simp only [zI0, zI1, zI2, zI3, zI4, zI5, zI6, zI7, zI8, zJ0, zJ1, zJ2, zMM]
          rw [zr_i _ _ (by omega) (by omega), d_z h hr, Option.bind_some, if_pos (by rw [zq_le (by omega) (by omega)]; omega), zq_add]
          refine hgo2 z ⟨fun i hi q => c1 i hi (b1 i hi q), c2, fun q n i hq hi hb => ?_⟩
          by_cases e : q = r
          · rw [e] at hb; exact c3 n i hb.2.1 hi hb
          · exact c1 i hi (b3 q n i (by omega) hi hb)
      · rintro y g' ⟨b1, b2, b3⟩
        simp only [zI0, zI1, zI2, zI3, zI4, zI5, zI6, zI7, zI8, zJ0, zJ1, zJ2, zMM]
        rw [zr_i _ _ (by omega) (by omega), d_n h, Option.bind_some, if_pos (by rw [zq_le (by omega) (by omega)]; omega)]
        exact hgo (64 - zcnt (bl x) 64) (y, x) (by omega) ⟨by simp only; omega, fun i hi q => b1 i hi (a1 i hi q), b2, b1, fun r n i hr hi hb => b3 r n i hr hi hb⟩
