/-! STATES: one pure walk; the reference's moved, numberOf, laysGo -/
theorem zmk_ex (P : Nat → Prop) : ∃ y : Int64, ∀ i, i < 64 → (bl y i = true ↔ P i) := by
  have key : ∀ n, n ≤ 64 → ∃ y : Int64, ∀ i, i < 64 → (bl y i = true ↔ i < n ∧ P i) := by
    intro n
    induction n with
    | zero =>
      intro _
      refine ⟨lN 0, fun i _ => ?_⟩
      rw [l_z]
      constructor
      · intro q; cases q
      · rintro ⟨q, -⟩; omega
    | succ n ih =>
      intro hn
      obtain ⟨y, hy⟩ := ih (by omega)
      by_cases hp : P n
      · refine ⟨y ||| (lN 1 <<< ((nI n).toInt64 &&& 63)), fun i hi => ?_⟩
        rw [l_or, l_sh1 (by omega) hi, Bool.or_eq_true, decide_eq_true_eq, hy i hi]
        constructor
        · rintro (⟨q1, q2⟩ | q)
          · exact ⟨by omega, q2⟩
          · rw [q]; exact ⟨by omega, hp⟩
        · rintro ⟨q1, q2⟩
          by_cases e : i = n
          · exact .inr e
          · exact .inl ⟨by omega, q2⟩
      · refine ⟨y, fun i hi => ?_⟩
        rw [hy i hi]
        constructor
        · rintro ⟨q1, q2⟩; exact ⟨by omega, q2⟩
        · rintro ⟨q1, q2⟩
          by_cases e : i = n
          · rw [e] at q2; exact absurd q2 hp
          · exact ⟨by omega, q2⟩
  obtain ⟨y, hy⟩ := key 64 (Nat.le_refl _)
  exact ⟨y, fun i hi => by rw [hy i hi]; exact ⟨fun q => q.2, fun q => ⟨hi, q⟩⟩⟩
/-- the long of a set of bits -/
noncomputable def zmk (P : Nat → Prop) : Int64 := Classical.choose (zmk_ex P)
theorem zmk_b (P : Nat → Prop) {i : Nat} (hi : i < 64) : bl (zmk P) i = true ↔ P i := Classical.choose_spec (zmk_ex P) i hi
theorem zmk_eq {P : Nat → Prop} {x : Int64} (h : ∀ i, i < 64 → (bl x i = true ↔ P i)) : x = zmk P := by
  refine l_ext fun i hi => ?_
  have h1 := h i hi
  have h2 := zmk_b P hi
  cases hx : bl x i with
  | true => exact (h2.2 (h1.1 hx)).symm
  | false =>
    cases hy : bl (zmk P) i with
    | false => rfl
    | true => rw [h1.2 (h2.1 hy)] at hx; cases hx
/-- points behind a symbol -/
def zbh (g : zG) (x : Int64) (c i : Nat) : Prop := i < 64 ∧ ∃ r n, r < gN g ∧ n < gZ g r ∧ zpt x r n = true ∧ gS g r n = c ∧ i = 5 * r + n + 1
noncomputable def zmv (g : zG) (s : zSn) (x : Int64) (c : Nat) : Int64 := zmk (zcl g s (zbh g x c))
/-- how many states, their sets, where they go -/
abbrev zWs : Type := Nat × (Nat → Int64) × (Nat → Nat → Option Nat)
noncomputable def zfnd (f : Nat → Int64) (x : Int64) : Nat → Option Nat
  | 0 => none
  | n + 1 => match zfnd f x n with
    | some j => some j
    | none => if f n = x then some n else none
def zgoU (f : Nat → Nat → Option Nat) (k c : Nat) (v : Option Nat) : Nat → Nat → Option Nat := fun k' c' => if k' = k ∧ c' = c then v else f k' c'
noncomputable def zgo1 (g : zG) (s : zSn) (w : zWs) (k c : Nat) : Option zWs :=
  if zmv g s (w.2.1 k) c = lN 0 then some (w.1, w.2.1, zgoU w.2.2 k c none)
  else match zfnd w.2.1 (zmv g s (w.2.1 k) c) w.1 with
    | some j => some (w.1, w.2.1, zgoU w.2.2 k c (some j))
    | none => if w.1 = 90 then none else some (w.1 + 1, zup1 w.2.1 w.1 (zmv g s (w.2.1 k) c), zgoU w.2.2 k c (some w.1))
noncomputable def zgoS (g : zG) (s : zSn) (w : zWs) (k : Nat) : Nat → Option zWs
  | 0 => some w
  | i + 1 => (zgoS g s w k i).bind fun w => zgo1 g s w k ((i + 26) % 52)
noncomputable def zst0 (g : zG) (s : zSn) : Int64 := zmk (zcl g s fun i => ∃ q, zon g s q = true ∧ gL g q = gL g 0 ∧ i = 5 * q)
noncomputable def zgoK (g : zG) (s : zSn) : Nat → Option zWs
  | 0 => some (1, fun _ => zst0 g s, fun _ _ => none)
  | k + 1 => (zgoK g s k).bind fun w => if k < w.1 then zgoS g s w k 52 else some w
/-- the states of a grammar, if they are not more than 90 -/
noncomputable def zLay (g : zG) (s : zSn) : Option zWs := zgoK g s 90
theorem zcl_cg {g : zG} {s : zSn} {S T : Nat → Prop} (h : ∀ i, S i ↔ T i) : zcl g s S = zcl g s T := by
  have : S = T := funext fun i => propext (h i)
  rw [this]
theorem m_moved {g : zG} {s : zSn} {μ : zzM} (h : zm2 g s μ) (hg : zwg g) (d : Nat) (a : Int64) {c : Nat} (hc : c < 52) : zzf zzP zN (d + 5) 225 [.ref 105, .long a, .int (nI c)] μ = some ((0, zmv g s a c, 0), μ) := by
  have hn := g_n hg
  apply zw_eq
  rw [u_m_moved]
  refine zl_up (fun r (x : Int64) => ([nI c, nI r], [a, x], μ)) (fun r x => ∀ i, i < 64 → (bl x i = true ↔ ∃ q n, q < r ∧ n < gZ g q ∧ zpt a q n = true ∧ gS g q n = c ∧ i = 5 * q + n + 1)) 0 (gN g) _ (by omega) (by omega) rfl ?_ ?_ ?_
  · intro i hi
    rw [l_z]
    constructor
    · intro q; cases q
    · rintro ⟨q, n, hq, -⟩; omega
  · rintro r x g' - hr hJ hgo
    have hz := g_z hg hr
    simp only [zI0, zI1, zI2, zI3, zI4, zI5, zI6, zI7, zI8, zJ0, zJ1, zJ2, zMM]
    rw [zr_i _ _ (by omega) (by omega), d_n h, Option.bind_some, if_neg (by rw [zq_le (by omega) (by omega)]; omega)]
    refine zl_up (fun n (y : Int64) => ([nI c, nI r, nI n], [a, y], μ)) (fun n y => ∀ i, i < 64 → (bl y i = true ↔ bl x i = true ∨ ∃ j, j < n ∧ zpt a r j = true ∧ gS g r j = c ∧ i = 5 * r + j + 1)) 0 (gZ g r) x (by omega) (by omega) rfl (fun i _ => ⟨.inl, fun q => q.elim id fun ⟨j, hj, _⟩ => by omega⟩) ?_ ?_
    · rintro n y g'' - hn2 hK hgo2
      have hs := g_s hg hr hn2
      have skip : ¬ (zpt a r n = true ∧ gS g r n = c) → zw (g'' ([nI c, nI r, nI (n + 1)], [a, y], μ)) fun r => r.1 = (0, zmv g s a c, 0) ∧ r.2 = μ := by
        intro hno
        refine hgo2 y fun i hi => ?_
        rw [hK i hi]
        constructor
        · rintro (q | ⟨j, q1, q2⟩)
          · exact .inl q
          · exact .inr ⟨j, by omega, q2⟩
        · rintro (q | ⟨j, q1, q2, q3, q4⟩)
          · exact .inl q
          · by_cases e : j = n
            · rw [e] at q2 q3; exact absurd ⟨q2, q3⟩ hno
            · exact .inr ⟨j, by omega, q2, q3, q4⟩
      simp only [zI0, zI1, zI2, zI3, zI4, zI5, zI6, zI7, zI8, zJ0, zJ1, zJ2, zMM]
      rw [zr_i _ _ (by omega) (by omega), d_z h hr, Option.bind_some, if_neg (by rw [zq_le (by omega) (by omega)]; omega), m_isPoint _ _ (by omega) (by omega), Option.bind_some, l_or0, zq_add n 1]
      simp only [zB_0]
      cases hp : zpt a r n with
      | false =>
        rw [if_pos rfl]
        exact skip fun q => (by rw [hp] at q; cases q.1)
      | true =>
        rw [if_neg (by decide), d_symAt h hg hr hn2, Option.bind_some]
        have ee : (nI (gS g r n) = nI c) = (gS g r n = c) := zq_eq (by omega) (by omega)
        by_cases e : gS g r n = c
        · rw [if_pos (by rw [ee]; exact e), m_point _ (by omega) (by omega), Option.bind_some]
          refine hgo2 _ fun i hi => ?_
          rw [l_or, l_sh1 (by omega) hi, Bool.or_eq_true, decide_eq_true_eq, hK i hi]
          constructor
          · rintro ((q | ⟨j, q1, q2⟩) | q)
            · exact .inl q
            · exact .inr ⟨j, by omega, q2⟩
            · exact .inr ⟨n, by omega, hp, e, by omega⟩
          · rintro (q | ⟨j, q1, q2, q3, q4⟩)
            · exact .inl (.inl q)
            · by_cases ej : j = n
              · exact .inr (by rw [ej] at q4; omega)
              · exact .inl (.inr ⟨j, by omega, q2, q3, q4⟩)
        · rw [if_neg (by rw [ee]; exact e)]
          exact skip fun q => e q.2
    · rintro y g'' hK
      simp only [zI0, zI1, zI2, zI3, zI4, zI5, zI6, zI7, zI8, zJ0, zJ1, zJ2, zMM]
      rw [zr_i _ _ (by omega) (by omega), d_z h hr, Option.bind_some, if_pos (by rw [zq_le (by omega) (by omega)]; omega), zq_add]
      refine hgo y fun i hi => ?_
      rw [hK i hi, hJ i hi]
      constructor
      · rintro (⟨q, n, q1, q2⟩ | ⟨j, q1, q2⟩)
        · exact ⟨q, n, by omega, q2⟩
        · exact ⟨r, j, by omega, q1, q2⟩
      · rintro ⟨q, n, q1, q2, q3⟩
        by_cases e : q = r
        · subst e; exact .inr ⟨n, q2, q3⟩
        · exact .inl ⟨q, n, by omega, q2, q3⟩
  · rintro x g' hJ
    simp only [zI0, zI1, zI2, zI3, zI4, zI5, zI6, zI7, zI8, zJ0, zJ1, zJ2, zMM]
    rw [zr_i _ _ (by omega) (by omega), d_n h, Option.bind_some, if_pos (by rw [zq_le (by omega) (by omega)]; omega)]
    refine zw_bind (m_closed h hg (d + 0) x) ?_
    rintro ⟨⟨w0, w1, w2⟩, μ'⟩ ⟨e1, e2⟩
    simp only at e1 e2 ⊢
    refine zw_some ⟨?_, e1⟩
    show ((0 : Int32), w1, 0) = _
    have : w1 = zmv g s a c := by
      refine zmk_eq fun i hi => ?_
      rw [e2 i hi, zcl_cg fun i => ?_]
      constructor
      · rintro ⟨q1, q2⟩
        obtain ⟨r, n, t1, t2, t3⟩ := (hJ i q1).1 q2
        exact ⟨q1, r, n, t1, t2, t3⟩
      · rintro ⟨q1, r, n, t1, t2, t3⟩
        exact ⟨q1, (hJ i q1).2 ⟨r, n, t1, t2, t3⟩⟩
    rw [this]
theorem m_numberOf (d : Nat) (x : Int64) {μ : zzM} {n : Nat} (hn : n ≤ 90) (hc : μ.1 105 35 = nI n) (f : Nat → Int64) (hf : ∀ j, j < n → μ.2 130 j = f j) : zzf zzP zN (d + 1) 226 [.ref 105, .long x] μ = some ((match zfnd f x n with
    | some j => nI j
    | none => -(nI 1), 0, 0), μ) := by
  apply zw_eq
  rw [u_m_numberOf]
  have hup : ∀ k j, zfnd f x k = some j → ∀ i, k ≤ i → zfnd f x i = some j := by
    intro k j hk i hi
    induction hi with
    | refl => exact hk
    | step _ ih => unfold zfnd; rw [ih]
  refine zl_up (fun k (_ : Unit) => ([nI k], [x], μ)) (fun k _ => zfnd f x k = none) 0 n () (by omega) (by omega) rfl rfl ?_ ?_
  · rintro k - g' - hk hJ hgo
    simp only [zI0, zI1, zI2, zI3, zI4, zI5, zI6, zI7, zI8, zJ0, zJ1, zJ2, zMM]
    rw [hc, if_neg (by rw [zq_le (by omega) (by omega)]; omega), zr_l _ _ (by omega) (by omega), Option.bind_some, hf k hk, zq_add]
    simp only [l_cmp]
    by_cases e : f k = x
    · rw [if_pos e]
      have h1 : zfnd f x (k + 1) = some k := by
        unfold zfnd
        rw [hJ]
        simp only [e, if_true]
      rw [hup (k + 1) k h1 n (by omega)]
      exact zw_some ⟨rfl, rfl⟩
    · rw [if_neg e]
      refine hgo () ?_
      unfold zfnd
      rw [hJ]
      simp only [e, if_false]
  · rintro - g' hJ
    simp only [zI0, zI1, zI2, zI3, zI4, zI5, zI6, zI7, zI8, zJ0, zJ1, zJ2, zMM]
    rw [hc, if_pos (by rw [zq_le (by omega) (by omega)]; omega), hJ]
    exact zw_some ⟨rfl, rfl⟩
