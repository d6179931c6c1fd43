/-! what is asked of the levels of the class -/
theorem lv_al {g : zG} {s : zSn} {w : zWs} {μ : zzM} (h : lvOk g s w μ) (hw : zwt w) (hl : sL s ≤ 12) (d : Nat) {n k : Nat} (hn : n ≤ sL s) (hk : k < w.1) : zzf zzP zN (d + 1) 68 [.ref 41, .int (nI n), .int (nI k)] μ = some ((zB (zdc (zAl g s w n k)), 0, 0), μ) := by
  obtain ⟨⟨t, h1, h2⟩, -⟩ := h n k hn hk
  have hw9 := hw.2.1
  have e : t = zdc (zAl g s w n k) := by
    cases t with
    | true => exact (zdc_t.2 (h2.1 rfl)).symm
    | false => exact (zdc_f.2 fun q => by cases h2.2 q).symm
  rw [u_levels_isAlive, zq_mul, zq_add, zr_i _ _ (by omega) (by omega), Option.bind_some, h1, e]
  simp only [zB_ok, if_true]
theorem lv_lk {g : zG} {s : zSn} {w : zWs} {μ : zzM} (h : lvOk g s w μ) (hw : zwt w) (hl : sL s ≤ 12) (d : Nat) {n k : Nat} (hn : n ≤ sL s) (hk : k < w.1) : zzf zzP zN (d + 1) 69 [.ref 41, .int (nI n), .int (nI k)] μ = some ((nI (zLk g s w (zAl g s w) n k), 0, 0), μ) := by
  have hw9 := hw.2.1
  rw [u_levels_linksOf, zq_mul, zq_add, zr_i _ _ (by omega) (by omega), Option.bind_some, (h n k hn hk).2]
theorem s_manyAlive {g : zG} {s : zSn} {w : zWs} {μ : zzM} (h : lvOk g s w μ) (hw : zwt w) (hS : zcSt w μ) (hl : sL s ≤ 12) (d : Nat) {n : Nat} (hn : n ≤ sL s) : zw (zzf zzP zN (d + 2) 70 [.ref 41, .int (nI n)] μ) fun o => o.2 = μ ∧ o.1.1 = nI (zcnt (fun k => zdc (zAl g s w n k)) w.1) := by
  have hw9 := hw.2.1
  rw [w_levels_howManyAlive]
  refine zl_up (fun k (x : Nat) => ([nI n, nI x, nI k], [], μ)) (fun k x => x = zcnt (fun k => zdc (zAl g s w n k)) k) 0 w.1 0 (by omega) (by omega) rfl rfl ?_ ?_
  · rintro k x ga - hk rfl hgo
    unfold L70_a
    simp only [zI0, zI1, zI2, zI3, zI4, zI5, zI6, zI7, zI8, zJ0, zJ1, zJ2, zMM]
    rw [hS.1.1, if_neg (by rw [zq_le (by omega) (by omega)]; omega), lv_al h hw hl _ hn hk, Option.bind_some]
    simp only [zB_0, zq_add]
    cases e : zdc (zAl g s w n k) with
    | false =>
      rw [if_pos rfl]
      refine hgo _ ?_
      show _ = zcnt _ k + (if zdc (zAl g s w n k) then 1 else 0)
      rw [e]
      rfl
    | true =>
      rw [if_neg (by decide)]
      refine hgo _ ?_
      show _ = zcnt _ k + (if zdc (zAl g s w n k) then 1 else 0)
      rw [e]
      rfl
  · rintro x ga rfl
    unfold L70_a
    simp only [zI0, zI1, zI2, zI3, zI4, zI5, zI6, zI7, zI8, zJ0, zJ1, zJ2, zMM]
    rw [hS.1.1, if_pos (by rw [zq_le (by omega) (by omega)]; omega)]
    exact zw_some ⟨rfl, rfl⟩
theorem s_manyLinks {g : zG} {s : zSn} {w : zWs} {μ : zzM} (h : lvOk g s w μ) (hw : zwt w) (hS : zcSt w μ) (hl : sL s ≤ 12) (d : Nat) {n : Nat} (hn : n ≤ sL s) : zw (zzf zzP zN (d + 2) 71 [.ref 41, .int (nI n)] μ) fun o => o.2 = μ ∧ o.1.1 = nI (zsuM (fun k => zLk g s w (zAl g s w) n k) w.1) := by
  have hw9 := hw.2.1
  rw [w_levels_howManyLinks]
  refine zl_up (fun k (x : Nat) => ([nI n, nI x, nI k], [], μ)) (fun k x => x = zsuM (fun k => zLk g s w (zAl g s w) n k) k) 0 w.1 0 (by omega) (by omega) rfl rfl ?_ ?_
  · rintro k x ga - hk rfl hgo
    unfold L71_a
    simp only [zI0, zI1, zI2, zI3, zI4, zI5, zI6, zI7, zI8, zJ0, zJ1, zJ2, zMM]
    rw [hS.1.1, if_neg (by rw [zq_le (by omega) (by omega)]; omega), lv_lk h hw hl _ hn hk, Option.bind_some]
    simp only [zq_add]
    exact hgo _ rfl
  · rintro x ga rfl
    unfold L71_a
    simp only [zI0, zI1, zI2, zI3, zI4, zI5, zI6, zI7, zI8, zJ0, zJ1, zJ2, zMM]
    rw [hS.1.1, if_pos (by rw [zq_le (by omega) (by omega)]; omega)]
    exact zw_some ⟨rfl, rfl⟩
def zEx (g : zG) (s : zSn) (w : zWs) (n a : Nat) : Prop := a < 26 ∧ ∃ k, k < w.1 ∧ zAl g s w n k ∧ (w.2.2 k a).isSome = true
theorem s_expected {g : zG} {s : zSn} {w : zWs} {μ : zzM} (h : lvOk g s w μ) (hw : zwt w) (hS : zcSt w μ) (hl : sL s ≤ 12) (d : Nat) {n : Nat} (hn : n ≤ sL s) : zw (zzf zzP zN (d + 3) 72 [.ref 41, .int (nI n)] μ) fun o => o.2 = μ ∧ ∀ a, a < 32 → (bt o.1.1 a = true ↔ zEx g s w n a) := by
  have hw9 := hw.2.1
  rw [w_levels_expected]
  refine zl_up (fun k (x : Int32) => ([nI n, x, nI k], [], μ)) (fun k x => ∀ a, a < 32 → (bt x a = true ↔ a < 26 ∧ ∃ k', k' < k ∧ zAl g s w n k' ∧ (w.2.2 k' a).isSome = true)) 0 w.1 (nI 0) (by omega) (by omega) rfl (fun a ha => by rw [b_z]; exact ⟨fun q => (by cases q), fun ⟨_, k', q, _⟩ => absurd q (by omega)⟩) ?_ ?_
  · rintro k x ga - hk hI hgo
    unfold L72_a
    simp only [zI0, zI1, zI2, zI3, zI4, zI5, zI6, zI7, zI8, zJ0, zJ1, zJ2, zMM]
    rw [hS.1.1, if_neg (by rw [zq_le (by omega) (by omega)]; omega), lv_al h hw hl _ hn hk, Option.bind_some]
    simp only [zB_0, zq_add]
    cases e : zdc (zAl g s w n k) with
    | false =>
      rw [if_pos rfl]
      refine hgo _ fun a ha => ?_
      rw [hI a ha]
      refine and_congr Iff.rfl ⟨fun ⟨k', a, b⟩ => ⟨k', by omega, b⟩, fun ⟨k', a, b⟩ => ⟨k', ?_, b⟩⟩
      by_cases ek : k' = k
      · rw [ek] at b
        exact absurd b.1 (zdc_f.1 e)
      · omega
    | true =>
      rw [if_neg (by decide)]
      obtain ⟨o, e1, e2, e3⟩ := s_smalls d hw hS hk
      rw [e1, Option.bind_some, e2]
      refine hgo _ fun a ha => ?_
      rw [b_or, Bool.or_eq_true, hI a ha, e3 a ha]
      constructor
      · rintro (⟨a, k', b, c⟩ | ⟨a, b⟩)
        · exact ⟨a, k', by omega, c⟩
        · exact ⟨a, k, by omega, zdc_t.1 e, b⟩
      · rintro ⟨a, k', b, c, f⟩
        by_cases ek : k' = k
        · rw [ek] at f
          exact .inr ⟨a, f⟩
        · exact .inl ⟨a, k', by omega, c, f⟩
  · rintro x ga hI
    unfold L72_a
    simp only [zI0, zI1, zI2, zI3, zI4, zI5, zI6, zI7, zI8, zJ0, zJ1, zJ2, zMM]
    rw [hS.1.1, if_pos (by rw [zq_le (by omega) (by omega)]; omega)]
    exact zw_some ⟨rfl, hI⟩
