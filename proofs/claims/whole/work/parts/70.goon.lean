/-! STATES of the class: goOn is a step of the pure walk -/
/-- only points of rules that are told -/
def zok (g : zG) (s : zSn) (S : Nat → Prop) : Prop := ∀ i, S i → ∃ r n, zon g s r = true ∧ n ≤ gZ g r ∧ i = 5 * r + n
theorem zok_cl {g : zG} {s : zSn} {S : Nat → Prop} (h : zok g s S) : zok g s (zcl g s S) := by
  intro i hi
  refine zlfp_le (P := fun i => ∃ r n, zon g s r = true ∧ n ≤ gZ g r ∧ i = 5 * r + n) ?_ hi
  rintro i (h1 | ⟨r, n, q, -, -, -, -, h5, -, h7⟩)
  · exact h i h1
  · exact ⟨q, 0, h5, by omega, by omega⟩
theorem zcl_br {g : zG} {s : zSn} (hg : zwg g) {S : Nat → Prop} (hS : zok g s S) (i : Nat) : zcl g s S i ↔ S i ∨ ∃ c, c < 26 ∧ (∃ j, S j ∧ zah g s (26 + c) j) ∧ zlfp (zfP g s i) c := by
  constructor
  · intro h
    refine zlfp_le (P := fun i => S i ∨ ∃ c, c < 26 ∧ (∃ j, S j ∧ zah g s (26 + c) j) ∧ zlfp (zfP g s i) c) ?_ h
    rintro i (h1 | ⟨r, n, q, h1, h2, h3, h4, h5, h6, h7⟩)
    · exact .inl h1
    · have hz := g_z hg h2
      have hs := g_s hg h2 h3
      have hq := zon_lt h5
      rcases h1 with h1 | ⟨c, t1, ⟨j, t2, t3⟩, t4⟩
      · obtain ⟨r', n', u1, u2, u3⟩ := hS _ h1
        have hz' := g_z hg (zon_lt u1)
        have e : r' = r ∧ n' = n := by omega
        obtain ⟨e1, e2⟩ := e
        subst e1
        subst e2
        exact .inr ⟨gS g r' n' - 26, by omega, ⟨_, h1, r', n', u1, h3, by omega, rfl⟩, zlfp_in (zfP_mo g s i) (.inl ⟨q, h5, by omega, h7⟩)⟩
      · obtain ⟨r', u1, u2⟩ := zP_form t4
        have e : r' = r ∧ n = 0 := by omega
        obtain ⟨e1, e2⟩ := e
        subst e1
        subst e2
        have hl := g_l hg h2
        rw [Nat.add_zero] at t4
        refine .inr ⟨c, t1, ⟨j, t2, t3⟩, zP_tr hl.1 t4 ?_⟩
        exact zlfp_in (zfP_mo g s i) (.inr ⟨gS g r' 0 - 26, ⟨r', u1, by omega, h3, by omega⟩, zlfp_in (zfP_mo g s i) (.inl ⟨q, h5, by omega, h7⟩)⟩)
  · rintro (h1 | ⟨c, t1, ⟨j, t2, r, n, t3, t4, t5, t6⟩, t7⟩)
    · exact zlfp_in (zfC_mo g s S) (.inl h1)
    · refine zcl_sub ?_ ((zP_cl hg c i).1 t7)
      rintro i ⟨q, u1, u2, u3⟩
      refine zlfp_in (zfC_mo g s S) (.inr ⟨r, n, q, ?_, zon_lt t3, t4, by omega, u1, by omega, u3⟩)
      rw [← t6]
      exact zlfp_in (zfC_mo g s S) (.inl t2)
theorem zbh_eq {g : zG} {s : zSn} (hg : zwg g) {x : Int64} (hx : zok g s fun i => i < 64 ∧ bl x i = true) {c i : Nat} (hi : i < 64) : zbh g x c i ↔ 1 ≤ i ∧ bl x (i - 1) = true ∧ zah g s c (i - 1) := by
  constructor
  · rintro ⟨-, r, n, h1, h2, h3, h4, h5⟩
    have hz := g_z hg h1
    have h6 : bl x (5 * r + n) = true := h3
    obtain ⟨r', n', u1, u2, u3⟩ := hx (5 * r + n) ⟨by omega, h6⟩
    have hz' := g_z hg (zon_lt u1)
    have e : r' = r ∧ n' = n := by omega
    obtain ⟨e1, e2⟩ := e
    subst e1
    subst e2
    have e3 : i - 1 = 5 * r' + n' := by omega
    rw [e3]
    exact ⟨by omega, h6, r', n', u1, h2, h4, rfl⟩
  · rintro ⟨h1, h2, r, n, h3, h4, h5, h6⟩
    refine ⟨hi, r, n, zon_lt h3, h4, ?_, h5, by omega⟩
    show bl x (5 * r + n) = true
    rw [← h6]
    exact h2
theorem zok_bh {g : zG} {s : zSn} (hg : zwg g) {x : Int64} (hx : zok g s fun i => i < 64 ∧ bl x i = true) (c : Nat) : zok g s (zbh g x c) := by
  intro i hi
  have h64 := hi.1
  obtain ⟨h1, h2, r, n, h3, h4, h5, h6⟩ := (zbh_eq hg hx h64).1 hi
  exact ⟨r, n + 1, h3, by omega, by omega⟩
theorem zok_mk {g : zG} {s : zSn} {S : Nat → Prop} (h : zok g s S) : zok g s fun i => i < 64 ∧ bl (zmk S) i = true := fun i q => h i ((zmk_b S q.1).1 q.2)
/-- the class's move by a symbol is the walk's -/
theorem s_move {g : zG} {s : zSn} (hg : zwg g) (d : Nat) {x : Int64} (hx : zok g s fun i => i < 64 ∧ bl x i = true) {c : Nat} (hc : c < 52) {μ : zzM} (hA : ∀ x, x < 52 → ∀ i, i < 64 → (bl (μ.2 29 x) i = true ↔ zah g s x i)) (hB : ∀ c, c < 26 → ∀ i, i < 64 → (bl (μ.2 30 c) i = true ↔ zlfp (zfP g s i) c)) :
    (((x &&& μ.2 29 c) <<< ((nI 1).toInt64 &&& 63)) = lN 0 ↔ zmv g s x c = lN 0) ∧ (¬ zmv g s x c = lN 0 → zzf zzP zN (d + 1) 49 [.ref 26, .long ((x &&& μ.2 29 c) <<< ((nI 1).toInt64 &&& 63))] μ = some ((0, zmv g s x c, 0), μ)) := by
  have hb : ∀ i, i < 64 → (bl ((x &&& μ.2 29 c) <<< ((nI 1).toInt64 &&& 63)) i = true ↔ zbh g x c i) := by
    intro i hi
    rw [l_shl (by omega) _ hi, l_and, Bool.and_eq_true, Bool.and_eq_true, decide_eq_true_eq, hA c hc _ (by omega), zbh_eq hg hx hi]
  have h0 : ((x &&& μ.2 29 c) <<< ((nI 1).toInt64 &&& 63)) = lN 0 ↔ zmv g s x c = lN 0 := by
    constructor
    · intro q
      rw [l_eq0]
      intro i hi
      cases hv : bl (zmv g s x c) i with
      | false => rfl
      | true =>
        have h1 := (zmk_b _ hi).1 hv
        rcases (zcl_br hg (zok_bh hg hx c) i).1 h1 with t | ⟨c', -, ⟨j, t, -⟩, -⟩
        · have := (hb i hi).2 t
          rw [q, l_z] at this
          cases this
        · have := (hb j t.1).2 t
          rw [q, l_z] at this
          cases this
    · intro q
      rw [l_eq0]
      intro i hi
      cases hv : bl ((x &&& μ.2 29 c) <<< ((nI 1).toInt64 &&& 63)) i with
      | false => rfl
      | true =>
        have h1 : bl (zmv g s x c) i = true := (zmk_b _ hi).2 (zlfp_in (zfC_mo g s _) (.inl ((hb i hi).1 hv)))
        rw [q, l_z] at h1
        cases h1
  refine ⟨h0, fun _ => ?_⟩
  have key := s_closedR d ((x &&& μ.2 29 c) <<< ((nI 1).toInt64 &&& 63)) (A := zah g s) (B := fun c i => zlfp (zfP g s i) c) hA hB
  obtain ⟨⟨⟨o1, o2, o3⟩, ν⟩, k1, k2, k3⟩ := key
  simp only at k2 k3
  have e : o2 = zmv g s x c := by
    refine zmk_eq fun i hi => ?_
    rw [k3 i hi, hb i hi, zcl_br hg (zok_bh hg hx c) i]
    constructor
    · rintro (q | ⟨c', t1, ⟨j, t2, t3, t4⟩, t5⟩)
      · exact .inl q
      · exact .inr ⟨c', t1, ⟨j, (hb j t2).1 t3, t4⟩, t5⟩
    · rintro (q | ⟨c', t1, ⟨j, t2, t3⟩, t5⟩)
      · exact .inl q
      · exact .inr ⟨c', t1, ⟨j, t2.1, (hb j t2.1).2 t2, t3⟩, t5⟩
  have hz : zw (zzf zzP zN (d + 1) 49 [.ref 26, .long ((x &&& μ.2 29 c) <<< ((nI 1).toInt64 &&& 63))] μ) fun r => r.1.1 = 0 ∧ r.1.2.2 = 0 := by
    rw [u_states_closed]
    refine zl_up (fun c (y : Int64) => ([nI c], [(x &&& μ.2 29 _) <<< ((nI 1).toInt64 &&& 63), y], μ)) (fun _ _ => True) 0 26 _ (by omega) (by omega) rfl trivial ?_ ?_
    · rintro c y g' - hc2 - hgo
      simp only [zI0, zI1, zI2, zI3, zI4, zI5, zI6, zI7, zI8, zJ0, zJ1, zJ2, zMM]
      rw [if_neg (by rw [zq_le (by omega) (by omega)]; omega), zq_add 26 c, zr_l _ _ (by omega) (by omega), Option.bind_some, zq_add c 1, zr_l _ _ hc2 (by omega), Option.bind_some]
      split
      · exact hgo _ trivial
      · exact hgo _ trivial
    · rintro y g' -
      simp only [zI0, zI1, zI2, zI3, zI4, zI5, zI6, zI7, zI8, zJ0, zJ1, zJ2, zMM]
      rw [if_pos (by decide)]
      exact zw_some ⟨rfl, rfl⟩
  obtain ⟨r, z1, z2, z3⟩ := hz
  rw [k1] at z1
  cases z1
  simp only at z2 z3
  rw [k1, e, z2, z3, k2]
