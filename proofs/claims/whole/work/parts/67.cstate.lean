/-! STATES of the class: closed, numberOf over the rows ahead (29), brought (30) -/
/-- points of rules that are told, ahead of a symbol -/
def zah (g : zG) (s : zSn) (x i : Nat) : Prop := ∃ r n, zon g s r = true ∧ n < gZ g r ∧ gS g r n = x ∧ i = 5 * r + n
theorem l_ne0 (x y : Int64) : ¬ (x &&& y) = lN 0 ↔ ∃ j, j < 64 ∧ bl x j = true ∧ bl y j = true := by
  rw [l_and0]
  constructor
  · intro h
    apply Classical.byContradiction
    intro hno
    exact h fun j hj q => hno ⟨j, hj, q.1, q.2⟩
  · rintro ⟨j, h1, h2, h3⟩ h
    exact h j h1 ⟨h2, h3⟩
theorem s_closedR (d : Nat) (a : Int64) {μ : zzM} {A B : Nat → Nat → Prop} (hA : ∀ x, x < 52 → ∀ i, i < 64 → (bl (μ.2 29 x) i = true ↔ A x i)) (hB : ∀ c, c < 26 → ∀ i, i < 64 → (bl (μ.2 30 c) i = true ↔ B c i)) : zw (zzf zzP zN (d + 1) 49 [.ref 26, .long a] μ) fun o => o.2 = μ ∧ ∀ i, i < 64 → (bl o.1.2.1 i = true ↔ bl a i = true ∨ ∃ c, c < 26 ∧ (∃ j, j < 64 ∧ bl a j = true ∧ A (26 + c) j) ∧ B c i) := by
  rw [u_states_closed]
  refine zl_up (fun c (x : Int64) => ([nI c], [a, x], μ)) (fun c x => ∀ i, i < 64 → (bl x i = true ↔ bl a i = true ∨ ∃ e, e < c ∧ (∃ j, j < 64 ∧ bl a j = true ∧ A (26 + e) j) ∧ B e i)) 0 26 a (by omega) (by omega) rfl (fun i _ => ⟨.inl, fun q => q.elim id fun ⟨e, he, _⟩ => by omega⟩) ?_ ?_
  · rintro c x g' - hc hJ hgo
    simp only [zI0, zI1, zI2, zI3, zI4, zI5, zI6, zI7, zI8, zJ0, zJ1, zJ2, zMM]
    rw [if_neg (by rw [zq_le (by omega) (by omega)]; omega), zq_add 26 c, zr_l _ _ (by omega) (by omega), Option.bind_some, zq_add c 1]
    simp only [l_cmp]
    by_cases hx : (a &&& μ.2 29 (26 + c)) = lN 0
    · rw [if_pos hx]
      refine hgo x fun i hi => ?_
      rw [hJ i hi]
      constructor
      · rintro (q | ⟨e, q1, q2⟩)
        · exact .inl q
        · exact .inr ⟨e, by omega, q2⟩
      · rintro (q | ⟨e, q1, ⟨j, q2, q3, q4⟩, q5⟩)
        · exact .inl q
        · by_cases ee : e = c
          · rw [ee] at q4
            exact absurd hx ((l_ne0 _ _).2 ⟨j, q2, q3, (hA _ (by omega) j q2).2 q4⟩)
          · exact .inr ⟨e, by omega, ⟨j, q2, q3, q4⟩, q5⟩
    · rw [if_neg hx, zr_l _ _ hc (by omega), Option.bind_some]
      obtain ⟨j, q2, q3, q4⟩ := (l_ne0 _ _).1 hx
      refine hgo _ fun i hi => ?_
      rw [l_or, Bool.or_eq_true, hJ i hi, hB c hc i hi]
      constructor
      · rintro ((q | ⟨e, q1, q5⟩) | q)
        · exact .inl q
        · exact .inr ⟨e, by omega, q5⟩
        · exact .inr ⟨c, by omega, ⟨j, q2, q3, (hA _ (by omega) j q2).1 q4⟩, q⟩
      · rintro (q | ⟨e, q1, q5, q6⟩)
        · exact .inl (.inl q)
        · by_cases ee : e = c
          · rw [ee] at q6; exact .inr q6
          · exact .inl (.inr ⟨e, by omega, q5, q6⟩)
  · rintro x g' hJ
    simp only [zI0, zI1, zI2, zI3, zI4, zI5, zI6, zI7, zI8, zJ0, zJ1, zJ2, zMM]
    rw [if_pos (by decide)]
    exact zw_some ⟨rfl, hJ⟩
theorem s_numberOf (d : Nat) (x : Int64) {μ : zzM} {n : Nat} (hn : n ≤ 90) (hc : μ.1 26 1 = nI n) (f : Nat → Int64) (hf : ∀ j, j < n → μ.2 27 j = f j) : zzf zzP zN (d + 1) 51 [.ref 26, .long x] μ = (match zfnd f x n with
    | some j => some ((nI j, 0, 0), μ)
    | none => if n = 90 then some ((-(nI 1), 0, 0), μ) else some ((nI n, 0, 0), zzwI (zzwL μ 27 n x) 26 1 (nI (n + 1)))) := by
  rw [u_states_numberOf]
  have hup : ∀ k j, zfnd f x k = some j → ∀ i, k ≤ i → zfnd f x i = some j := by
    intro k j hk i hi
    induction hi with
    | refl => exact hk
    | step _ ih => unfold zfnd; rw [ih]
  have key : zw (zzl (fun v1 g2 => if ((zm v1).1 26 1) ≤ (zi0 v1) then if ((zm v1).1 26 1) = (nI 90) then some (((-(nI 1)), 0, 0), (zm v1)) else (zzsl (zm v1) 27 90 ((zm v1).1 26 1) (zj0 v1)).bind fun m3 => some (((((m3.1 26 1) + (nI 1)) - (nI 1)), 0, 0), (zzwI m3 26 1 ((m3.1 26 1) + (nI 1)))) else (zzrl (zm v1) 27 90 (zi0 v1)).bind fun x4 => if (lg_cmp x4 (zj0 v1)) = 0 then some (((zi0 v1), 0, 0), (zm v1)) else g2 ([((zi0 v1) + nI 1)], [(zj0 v1)], (zm v1))) zN ([(nI 0)], [x], μ)) fun o => some o = (match zfnd f x n with
    | some j => some ((nI j, 0, 0), μ)
    | none => if n = 90 then some ((-(nI 1), 0, 0), μ) else some ((nI n, 0, 0), zzwI (zzwL μ 27 n x) 26 1 (nI (n + 1)))) := by
    refine zl_up (fun k (_ : Unit) => ([nI k], [x], μ)) (fun k _ => zfnd f x k = none) 0 n () (by omega) (by omega) rfl rfl ?_ ?_
    · rintro k - g' - hk hJ hgo
      simp only [zI0, zI1, zI2, zI3, zI4, zI5, zI6, zI7, zI8, zJ0, zJ1, zJ2, zMM]
      rw [hc, if_neg (by rw [zq_le (by omega) (by omega)]; omega), zr_l _ _ (by omega) (by omega), Option.bind_some, hf k hk, zq_add]
      simp only [l_cmp]
      by_cases e : f k = x
      · rw [if_pos e]
        have h1 : zfnd f x (k + 1) = some k := by
          unfold zfnd
          rw [hJ]
          simp only [e, if_true]
        rw [hup (k + 1) k h1 n (by omega)]
        exact zw_some rfl
      · rw [if_neg e]
        refine hgo () ?_
        unfold zfnd
        rw [hJ]
        simp only [e, if_false]
    · rintro - g' hJ
      simp only [zI0, zI1, zI2, zI3, zI4, zI5, zI6, zI7, zI8, zJ0, zJ1, zJ2, zMM]
      rw [hc, if_pos (by rw [zq_le (by omega) (by omega)]; omega), hJ]
      simp only
      by_cases h90 : n = 90
      · rw [if_pos (by rw [h90]), if_pos h90]
        exact zw_some rfl
      · rw [if_neg (by rw [zq_eq (by omega) (by omega)]; exact h90), if_neg h90, zs_l _ _ _ (by omega) (by omega), Option.bind_some, zn_1, hc, zq_add, zq_sub (by omega)]
        exact zw_some rfl
  obtain ⟨r, h1, h2⟩ := key
  exact h1.trans h2
theorem s_target (d : Nat) {k c : Nat} (hk : k < 90) (hc : c < 52) (μ : zzM) : zzf zzP zN (d + 1) 44 [.ref 26, .int (nI k), .int (nI c)] μ = some ((μ.1 28 (k * 52 + c), 0, 0), μ) := by
  rw [u_states_target, zq_mul, zq_add, zr_i _ _ (by omega) (by omega), Option.bind_some]
