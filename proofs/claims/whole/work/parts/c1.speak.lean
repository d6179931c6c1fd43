/-! SPEAKING, pure; and of the class -/
theorem l_nat (n : Nat) {i : Nat} (hi : i < 64) : bl (lN n) i = n.testBit i := by
  unfold bl
  rw [show (lN n).toBitVec = BitVec.ofNat 64 n from rfl, BitVec.getLsbD_ofNat, decide_eq_true hi, Bool.true_and]
theorem l_mask31 (n : Nat) : lN n &&& lN 2147483647 = lN (n % 2147483648) := by
  refine l_ext fun i hi => ?_
  rw [l_and, l_nat n hi, l_nat _ hi, l_nat _ hi, show (2147483647 : Nat) = 2 ^ 31 - 1 from rfl, Nat.testBit_two_pow_sub_one, show (2147483648 : Nat) = 2 ^ 31 from rfl, Nat.testBit_mod_two_pow, Bool.and_comm]
theorem l_shr16 {a : Nat} (ha : a < 2147483648) : lN a >>> ((nI 16).toInt64 &&& 63) = lN (a / 65536) := by
  refine l_ext fun i hi => ?_
  rw [l_sshr (by omega) _ hi, l_nat _ hi, show (65536 : Nat) = 2 ^ 16 from rfl, Nat.testBit_div_two_pow]
  by_cases e : 16 + i < 64
  · rw [if_pos e, l_nat _ e, Nat.add_comm]
  · have h1 : ∀ k, 31 ≤ k → a.testBit k = false := fun k hk => Nat.testBit_lt_two_pow (Nat.lt_of_lt_of_le (show a < 2 ^ 31 by omega) (Nat.pow_le_pow_right (by omega) hk))
    rw [if_neg e, l_nat _ (by omega), h1 63 (by omega), h1 _ (by omega)]
theorem zdr_ex (x : Nat) : ∃ y, y = (x * 1103515245 + 12345) % 2147483648 := ⟨_, rfl⟩
noncomputable def zdr (x : Nat) : Nat := Classical.choose (zdr_ex x)
theorem zdr_e (x : Nat) : zdr x = (x * 1103515245 + 12345) % 2147483648 := Classical.choose_spec (zdr_ex x)
theorem zdr_lt (x : Nat) : zdr x < 2147483648 := by
  rw [zdr_e]
  exact Nat.mod_lt _ (by omega)
def zrl (g : zG) (s : zSn) (c q : Nat) : Bool := zon g s q && decide (gL g q = c)
def zmru (g : zG) (s : zSn) (c : Nat) : Nat := zcnt (zrl g s c) (gN g)
def zpick (p : Nat → Bool) (k : Nat) : Nat → Nat
  | 0 => 0
  | n + 1 => if p n = true ∧ zcnt p n = k then n else zpick p k n
theorem zcnt_up {p : Nat → Bool} {a : Nat} (ha : p a = true) : ∀ {b : Nat}, a < b → zcnt p a + 1 ≤ zcnt p b
  | 0, h => absurd h (by omega)
  | b + 1, h => by
    show zcnt p a + 1 ≤ zcnt p b + (if p b then 1 else 0)
    by_cases e : a = b
    · rw [← e, ha, if_pos rfl]
      exact Nat.le_refl _
    · have := zcnt_up ha (show a < b by omega)
      omega
theorem zpick_e {p : Nat → Bool} {k q : Nat} (hp : p q = true) (hk : zcnt p q = k) : ∀ {n : Nat}, q < n → zpick p k n = q
  | 0, h => absurd h (by omega)
  | n + 1, h => by
    unfold zpick
    by_cases e : p n = true ∧ zcnt p n = k
    · rw [if_pos e]
      by_cases en : q = n
      · exact en.symm
      · have := zcnt_up hp (show q < n by omega)
        omega
    · rw [if_neg e]
      by_cases en : q = n
      · rw [en] at hp hk
        exact absurd ⟨hp, hk⟩ e
      · exact zpick_e hp hk (by omega)
theorem zpick_in {p : Nat → Bool} {k : Nat} : ∀ {n : Nat}, k < zcnt p n → ∃ q, q < n ∧ p q = true ∧ zcnt p q = k ∧ zpick p k n = q
  | 0, h => absurd h (by show ¬ k < 0; omega)
  | n + 1, h => by
    have h : k < zcnt p n + (if p n then 1 else 0) := h
    by_cases e : k < zcnt p n
    · obtain ⟨q, h1, h2, h3, -⟩ := zpick_in e
      exact ⟨q, by omega, h2, h3, zpick_e h2 h3 (by omega)⟩
    · cases hp : p n with
      | true =>
        rw [hp, if_pos rfl] at h
        exact ⟨n, by omega, hp, by omega, zpick_e hp (by omega) (by omega)⟩
      | false =>
        rw [hp, if_neg (by decide)] at h
        omega
/-- the first capital from i on, of n symbols -/
def zfcp (f : Nat → Nat) : Nat → Nat → Nat
  | i, 0 => i
  | i, n + 1 => if 26 ≤ f i then i else zfcp f (i + 1) n
theorem zfcp_s (f : Nat → Nat) (i n : Nat) : zfcp f i (n + 1) = if 26 ≤ f i then i else zfcp f (i + 1) n := rfl
theorem zfcp_le (f : Nat → Nat) : ∀ (i n : Nat), i ≤ zfcp f i n ∧ zfcp f i n ≤ i + n
  | i, 0 => ⟨Nat.le_refl _, Nat.le_refl _⟩
  | i, n + 1 => by
    unfold zfcp
    have := zfcp_le f (i + 1) n
    split <;> omega
theorem zfcp_26 (f : Nat → Nat) : ∀ (i n : Nat), zfcp f i n < i + n → 26 ≤ f (zfcp f i n)
  | i, 0 => fun h => absurd h (by unfold zfcp; omega)
  | i, n + 1 => by
    unfold zfcp
    intro h
    by_cases e : 26 ≤ f i
    · rw [if_pos e]
      exact e
    · rw [if_neg e] at h ⊢
      exact zfcp_26 f (i + 1) n (by omega)
def zrpl (g : zG) (f : Nat → Nat) (a r k : Nat) : Nat := if k < a then f k else if k < a + gZ g r then gS g r (k - a) else f (k + 1 - gZ g r)
noncomputable def zspk (g : zG) (s : zSn) : Nat → Nat → (Nat → Nat) → Nat → Bool × Nat × (Nat → Nat) × Nat
  | 0, n, f, x => (decide (zfcp f 0 n = n), n, f, x)
  | t + 1, n, f, x => if zfcp f 0 n = n then (true, n, f, x) else if zmru g s (f (zfcp f 0 n)) = 0 then (false, n, f, x) else
    if 24 < n - 1 + gZ g (zpick (zrl g s (f (zfcp f 0 n))) (zdr x / 65536 % zmru g s (f (zfcp f 0 n))) (gN g)) then (false, n, f, zdr x) else
    zspk g s t (n - 1 + gZ g (zpick (zrl g s (f (zfcp f 0 n))) (zdr x / 65536 % zmru g s (f (zfcp f 0 n))) (gN g))) (zrpl g f (zfcp f 0 n) (zpick (zrl g s (f (zfcp f 0 n))) (zdr x / 65536 % zmru g s (f (zfcp f 0 n))) (gN g))) (zdr x)
theorem zspk_s (g : zG) (s : zSn) (t n : Nat) (f : Nat → Nat) (x : Nat) : zspk g s (t + 1) n f x = (if zfcp f 0 n = n then (true, n, f, x) else if zmru g s (f (zfcp f 0 n)) = 0 then (false, n, f, x) else
    if 24 < n - 1 + gZ g (zpick (zrl g s (f (zfcp f 0 n))) (zdr x / 65536 % zmru g s (f (zfcp f 0 n))) (gN g)) then (false, n, f, zdr x) else
    zspk g s t (n - 1 + gZ g (zpick (zrl g s (f (zfcp f 0 n))) (zdr x / 65536 % zmru g s (f (zfcp f 0 n))) (gN g))) (zrpl g f (zfcp f 0 n) (zpick (zrl g s (f (zfcp f 0 n))) (zdr x / 65536 % zmru g s (f (zfcp f 0 n))) (gN g))) (zdr x)) := rfl
theorem zspk_0 (g : zG) (s : zSn) (n : Nat) (f : Nat → Nat) (x : Nat) : zspk g s 0 n f x = (decide (zfcp f 0 n = n), n, f, x) := rfl
theorem zrpl_52 {g : zG} (hg : zwg g) {f : Nat → Nat} {n a r : Nat} (hr : r < gN g) (ha : a < n) (hf : ∀ k, k < n → f k < 52) : ∀ k, k < n - 1 + gZ g r → zrpl g f a r k < 52 := by
  intro k hk
  unfold zrpl
  by_cases e1 : k < a
  · rw [if_pos e1]
    exact hf k (by omega)
  · rw [if_neg e1]
    by_cases e2 : k < a + gZ g r
    · rw [if_pos e2]
      exact g_s hg hr (by omega)
    · rw [if_neg e2]
      exact hf _ (by omega)
/-- a row of the class -/
def cRo (n : Nat) (f : Nat → Nat) (μ : zzM) : Prop := μ.1 59 2 = nI n ∧ ∀ k, k < n → μ.1 60 k = nI (f k)
theorem s_firstCapital (d : Nat) {μ : zzM} {n : Nat} {f : Nat → Nat} (hn : n ≤ 24) (hf : ∀ k, k < n → f k < 52) (h : cRo n f μ) : zzf zzP zN (d + 1) 115 [.ref 59] μ = some ((if zfcp f 0 n = n then -(nI 1) else nI (zfcp f 0 n), 0, 0), μ) := by
  refine zw_eq ?_
  rw [w_speak_firstCapital]
  refine zl_up (fun i (_ : Unit) => ([nI i], [], μ)) (fun i _ => zfcp f i (n - i) = zfcp f 0 n) 0 n () (by omega) (by omega) rfl rfl ?_ ?_
  · rintro i - ga - hi hJ hgo
    have hfi := hf i hi
    unfold L115_a
    simp only [zI0, zI1, zI2, zI3, zI4, zI5, zI6, zI7, zI8, zJ0, zJ1, zJ2, zMM]
    rw [h.1, if_neg (by rw [zq_le (by omega) (by omega)]; omega), zr_i _ _ (by omega) (by omega), h.2 i hi, Option.bind_some]
    rw [show n - i = n - (i + 1) + 1 by omega, zfcp_s] at hJ
    by_cases e : 26 ≤ f i
    · rw [if_pos e] at hJ
      rw [if_neg (by rw [zq_lt (by omega) (by omega)]; omega), ← hJ, if_neg (by omega)]
      exact zw_some ⟨rfl, rfl⟩
    · rw [if_neg e] at hJ
      rw [if_pos (by rw [zq_lt (by omega) (by omega)]; omega), zq_add]
      exact hgo () hJ
  · rintro - ga hJ
    unfold L115_a
    simp only [zI0, zI1, zI2, zI3, zI4, zI5, zI6, zI7, zI8, zJ0, zJ1, zJ2, zMM]
    rw [h.1, if_pos (by rw [zq_le (by omega) (by omega)]; omega)]
    rw [Nat.sub_self] at hJ
    have hJ : n = zfcp f 0 n := hJ
    rw [if_pos hJ.symm]
    exact zw_some ⟨rfl, rfl⟩
theorem s_draw (d : Nat) {μ : zzM} {x : Nat} (hx : x < 2147483648) (h : μ.2 59 3 = lN x) : zzf zzP zN (d + 1) 113 [.ref 59] μ = some ((nI (zdr x / 65536), 0, 0), zzwL μ 59 3 (lN (zdr x))) := by
  rw [w_speak_draw, h, zn_s, lN_mul, lN_add, l_mask31, ← zdr_e, l_shr16 (zdr_lt x), lN_i]
theorem s_drawnRule {g : zG} {s : zSn} {μ : zzM} (h : zc2 g s μ) (hg : zwg g) (d : Nat) {c x : Nat} (hc1 : 26 ≤ c) (hc2 : c < 52) (hx : x < 2147483648) (h3 : μ.2 59 3 = lN x) : zw (zzf zzP zN (d + 2) 116 [.ref 59, .int (nI c)] μ) fun o => if zmru g s c = 0 then o.1.1 = -(nI 1) ∧ o.2 = μ else o.1.1 = nI (zpick (zrl g s c) (zdr x / 65536 % zmru g s c) (gN g)) ∧ o.2 = zzwL μ 59 3 (lN (zdr x)) := by
  have hgn := g_n hg
  rw [w_speak_drawnRule, zq_sub hc1, zr_i _ _ (by omega) (by omega), Option.bind_some]
  have ht : zzf zzP zN (d + 1) 22 [.ref 2] μ = some ((zTo g s, 0, 0), μ) := s_told h d
  rw [ht, Option.bind_some]
  have hb : ∀ i, i < 32 → bt (μ.1 9 (c - 26) &&& zTo g s) i = zrl g s c i := fun i hi => by
    rw [b_and, c_u h (by omega) hi, zTo_b hg hi]
    unfold zrl
    cases e : zon g s i with
    | false => rw [Bool.and_false, Bool.false_and]
    | true =>
      have := zon_lt e
      rw [Bool.and_true, Bool.true_and]
      exact decide_eq_decide.2 ⟨fun q => by omega, fun q => ⟨this, by omega⟩⟩
  show zw ((zzf zzP zN (d + 1) 3 [.int (μ.1 9 (c - 26) &&& zTo g s)] μ).bind _) _
  generalize μ.1 9 (c - 26) &&& zTo g s = X at hb
  have hlow : ∀ i, i < 32 → bt X i = true → i < 12 := fun i hi q => by
    rw [hb i hi] at q
    unfold zrl at q
    rw [Bool.and_eq_true] at q
    have := zon_lt q.1
    omega
  have hcn : zcnt (bt X) 12 = zmru g s c := by
    unfold zmru
    rw [zcnt_cg (p := bt X) (q := zrl g s c) fun i hi => hb i (by omega)]
    have : ∀ k, gN g + k ≤ 12 → zcnt (zrl g s c) (gN g + k) = zcnt (zrl g s c) (gN g) := by
      intro k
      induction k with
      | zero => intro _; rfl
      | succ k ih =>
        intro hk
        show zcnt (zrl g s c) (gN g + k) + (if zrl g s c (gN g + k) then 1 else 0) = _
        have hno : ¬ zrl g s c (gN g + k) = true := fun q => by
          unfold zrl at q
          rw [Bool.and_eq_true] at q
          have := zon_lt q.1
          omega
        rw [ih (by omega), if_neg hno]
        rfl
    have h2 := this (12 - gN g) (by omega)
    rwa [show gN g + (12 - gN g) = 12 by omega] at h2
  rw [s_bitCount d hlow, Option.bind_some, hcn]
  have hmb : zmru g s c ≤ 12 := Nat.le_trans (zcnt_le _ _) hgn
  simp (disch := omega) only [zq_e0]
  by_cases e0 : zmru g s c = 0
  · rw [if_pos e0]
    exact zw_some (by rw [if_pos e0]; exact ⟨rfl, rfl⟩)
  · rw [if_neg e0, s_draw d hx h3, Option.bind_some, if_neg e0]
    have hzl := zdr_lt x
    rw [pk_rem (by omega) (by omega) (by omega)]
    have hk : zdr x / 65536 % zmru g s c < zcnt (zrl g s c) (gN g) := Nat.mod_lt _ (by omega)
    obtain ⟨q, q1, q2, q3, q4⟩ := zpick_in hk
    rw [q4]
    have hkb : zdr x / 65536 % zmru g s c < 12 := Nat.lt_of_lt_of_le (Nat.mod_lt _ (by omega)) hmb
    generalize zdr x / 65536 % zmru g s c = K at q3 hkb
    have hy : zc2 g s (zzwL μ 59 3 (lN (zdr x))) := zc2_fr h (zf_wL (L := [59]) _ _ rfl) rfl
    generalize zzwL μ 59 3 (lN (zdr x)) = y at hy
    refine zl_up (fun i (_ : Unit) => ([X, nI (K - zcnt (zrl g s c) i), nI i], [], y)) (fun i _ => i ≤ q) 0 (gN g) () (by omega) (by omega) rfl (Nat.zero_le _) ?_ ?_
    · rintro i - ga - hi hJ hgo
      unfold L116_a
      simp only [zI0, zI1, zI2, zI3, zI4, zI5, zI6, zI7, zI8, zJ0, zJ1, zJ2, zMM]
      rw [c_n hy, if_neg (by rw [zq_le (by omega) (by omega)]; omega)]
      simp (disch := omega) only [b_bit, zq_add]
      rw [hb i (by omega)]
      have hle : zcnt (zrl g s c) i ≤ K := by
        by_cases e : i = q
        · rw [e, q3]
          exact Nat.le_refl _
        · rw [← q3]
          clear hgo
          have : ∀ a b, a ≤ b → zcnt (zrl g s c) a ≤ zcnt (zrl g s c) b := by
            intro a b hab
            induction hab with
            | refl => exact Nat.le_refl _
            | step _ ih => exact Nat.le_trans ih (Nat.le_add_right _ _)
          exact this i q hJ
      cases e : zrl g s c i with
      | false =>
        rw [if_pos rfl]
        have hz : zcnt (zrl g s c) (i + 1) = zcnt (zrl g s c) i := by
          show zcnt (zrl g s c) i + (if zrl g s c i then 1 else 0) = _
          rw [e]
          rfl
        have hiq : i + 1 ≤ q := by
          apply Nat.lt_of_le_of_ne hJ
          intro f
          rw [f, q2] at e
          cases e
        have := hgo () hiq
        rw [hz] at this
        exact this
      | true =>
        rw [if_neg (by decide)]
        by_cases ei : i = q
        · rw [ei, q3, Nat.sub_self, if_pos (by decide)]
          exact zw_some (by rw [if_neg e0]; exact ⟨rfl, rfl⟩)
        · have h1 := zcnt_up e (show i < q by omega)
          have hz : zcnt (zrl g s c) (i + 1) = zcnt (zrl g s c) i + 1 := by
            show zcnt (zrl g s c) i + (if zrl g s c i then 1 else 0) = _
            rw [e]
            rfl
          rw [if_neg (by rw [zq_e0 (by omega)]; omega), zq_sub (show 1 ≤ K - zcnt (zrl g s c) i by omega)]
          have := hgo () (by omega)
          rw [hz, show K - (zcnt (zrl g s c) i + 1) = K - zcnt (zrl g s c) i - 1 by omega] at this
          exact this
    · rintro - ga hJ
      omega
theorem s_replace {g : zG} {s : zSn} {μ : zzM} (h : zc2 g s μ) (hg : zwg g) (d : Nat) {n a r : Nat} {f : Nat → Nat} (hn : n ≤ 24) (ha : a < n) (hr : r < gN g) (hR : cRo n f μ) : zw (zzf zzP zN (d + 2) 117 [.ref 59, .int (nI a), .int (nI r)] μ) fun o => if 24 < n - 1 + gZ g r then o.1.1 = zB false ∧ o.2 = μ else o.1.1 = zB true ∧ zfr [59, 60] μ o.2 ∧ o.2.2 = μ.2 ∧ (∀ p, p ≠ 2 → o.2.1 59 p = μ.1 59 p) ∧ cRo (n - 1 + gZ g r) (zrpl g f a r) o.2 := by
  have hgn := g_n hg
  have hz := g_z hg hr
  rw [w_speak_replace, zr_i _ _ (by omega) (by omega), c_z h hr, Option.bind_some, hR.1]
  simp only [zq_add]
  rw [zq_sub (show 1 ≤ n by omega), zq_add]
  by_cases e : 24 < n - 1 + gZ g r
  · rw [if_neg (by rw [zq_le (by omega) (by omega)]; omega), if_pos (by decide)]
    exact zw_some (by rw [if_pos e]; exact ⟨rfl, rfl⟩)
  · rw [if_pos (by rw [zq_le (by omega) (by omega)]; omega), zq_sub (show a ≤ n by omega), zq_sub (show 1 ≤ n - a by omega)]
    have hc : zzf zzP zN (d + 1) 0 [.ref 60, .int (nI (a + 1)), .ref 60, .int (nI (a + gZ g r)), .int (nI (n - a - 1))] μ = some ((0, 0, 0), zblk μ 60 (a + gZ g r) (a + gZ g r + (n - a - 1)) (fun k => μ.1 60 (a + 1 + (k - (a + gZ g r))))) := s_acopy d μ (ta := []) (tb := []) rfl rfl (by omega) (by omega) (by omega) (by omega)
    rw [hc, Option.bind_some]
    have hf0 : zfr [59, 60] μ (zblk μ 60 (a + gZ g r) (a + gZ g r + (n - a - 1)) (fun k => μ.1 60 (a + 1 + (k - (a + gZ g r))))) := by
      intro c hc
      have hc' : c ≠ 60 := fun q => by rw [q] at hc; cases hc
      exact ⟨zb_c _ _ _ _ hc', rfl⟩
    refine zl_up (fun k (y : zzM) => ([nI a, nI r, nI (gZ g r), nI (n - 1 + gZ g r), nI k], [], y)) (fun k y => zfr [60] μ y ∧ y.2 = μ.2 ∧ (∀ j, j < a → y.1 60 j = nI (f j)) ∧ (∀ j, j < k → y.1 60 (a + j) = nI (gS g r j)) ∧ ∀ j, a + gZ g r ≤ j → j < n - 1 + gZ g r → y.1 60 j = nI (f (j + 1 - gZ g r))) 0 (gZ g r) _ (by omega) (by omega) rfl ⟨fun c hc => ?_, rfl, fun j hj => ?_, fun j hj => absurd hj (by omega), fun j j1 j2 => ?_⟩ ?_ ?_
    · have hc' : c ≠ 60 := fun q => by rw [q] at hc; cases hc
      exact ⟨zb_c _ _ _ _ hc', rfl⟩
    · rw [zb_o _ _ _ _ (.inl (by omega))]
      exact hR.2 j (by omega)
    · rw [zb_i _ _ _ j1 (by omega)]
      rw [show a + 1 + (j - (a + gZ g r)) = j + 1 - gZ g r by omega]
      exact hR.2 _ (by omega)
    · rintro k y ga - hk ⟨i1, i2, i3, i4, i5⟩ hgo
      unfold L117_a
      simp only [zI0, zI1, zI2, zI3, zI4, zI5, zI6, zI7, zI8, zJ0, zJ1, zJ2, zMM]
      rw [if_neg (by rw [zq_le (by omega) (by omega)]; omega), s_symAt (zc2_fr h i1 rfl) hg d hr hk, Option.bind_some, zq_add, zs_i _ _ _ (by omega) (by omega), Option.bind_some, zq_add]
      refine hgo _ ⟨zf_twI _ _ i1 rfl, i2, fun j hj => (zm_k _ _ _ _ (by omega)).trans (i3 j hj), fun j hj => ?_, fun j j1 j2 => (zm_k _ _ _ _ (by omega)).trans (i5 j j1 j2)⟩
      by_cases ej : j = k
      · rw [ej]
        exact zm_s _ _ _ _
      · exact (zm_k _ _ _ _ (by omega)).trans (i4 j (by omega))
    · rintro y ga ⟨i1, i2, i3, i4, i5⟩
      unfold L117_a
      simp only [zI0, zI1, zI2, zI3, zI4, zI5, zI6, zI7, zI8, zJ0, zJ1, zJ2, zMM]
      rw [if_pos (by rw [zq_le (by omega) (by omega)]; omega), if_pos (by decide)]
      refine zw_some ?_
      rw [if_neg e]
      refine ⟨rfl, zf_twI _ _ (zf_mono i1 rfl) rfl, i2, fun p hp => by rw [zm_k _ _ _ _ hp, zf_i i1 rfl], zm_s _ _ _ _, fun k hk => ?_⟩
      rw [zm_c _ _ _ (by omega)]
      unfold zrpl
      by_cases e1 : k < a
      · rw [if_pos e1]
        exact i3 k e1
      · rw [if_neg e1]
        by_cases e2 : k < a + gZ g r
        · rw [if_pos e2]
          have := i4 (k - a) (by omega)
          rwa [show a + (k - a) = k by omega] at this
        · rw [if_neg e2]
          exact i5 k (by omega) hk
/-- what is left of a sentence being spoken -/
def zspR (g : zG) (s : zSn) (R : Bool × Nat × (Nat → Nat) × Nat) (x : Int32) (μ : zzM) : Prop := x = zB R.1 ∧ μ.2 59 3 = lN R.2.2.2 ∧ (R.1 = true → R.2.1 ≤ 24 ∧ (∀ k, k < R.2.1 → R.2.2.1 k < 52) ∧ cRo R.2.1 R.2.2.1 μ)
theorem zspk_x {g : zG} {s : zSn} : ∀ {t n : Nat} {f : Nat → Nat} {x : Nat}, x < 2147483648 → (zspk g s t n f x).2.2.2 < 2147483648
  | 0, _, _, _, h => h
  | t + 1, n, f, x, h => by
    rw [zspk_s]
    split
    · exact h
    · split
      · exact h
      · split
        · exact zdr_lt x
        · exact zspk_x (zdr_lt x)
theorem s_speak {g : zG} {s : zSn} {μ : zzM} (h : zc2 g s μ) (hg : zwg g) (hn : 0 < gN g) (d : Nat) {x : Nat} (hx : x < 2147483648) (h3 : μ.2 59 3 = lN x) : zw (zzf zzP zN (d + 3) 114 [.ref 59] μ) fun o => zfr [59, 60] μ o.2 ∧ (∀ p, p ≠ 2 → o.2.1 59 p = μ.1 59 p) ∧ zspR g s (zspk g s 30 1 (fun _ => gL g 0) x) o.1.1 o.2 := by
  have hgn := g_n hg
  obtain ⟨hl1, hl2⟩ := g_l hg hn
  rw [w_speak_speak, zr_i _ _ (by omega) (by omega), c_l h hn, Option.bind_some, zs_i _ _ _ (by omega) (by omega), Option.bind_some]
  refine zl_up (fun i (a : Nat × (Nat → Nat) × Nat × zzM) => ([nI i], [], a.2.2.2)) (fun i a => zfr [59, 60] μ a.2.2.2 ∧ (∀ p, p ≠ 2 → a.2.2.2.1 59 p = μ.1 59 p) ∧ a.1 ≤ 24 ∧ (∀ k, k < a.1 → a.2.1 k < 52) ∧ cRo a.1 a.2.1 a.2.2.2 ∧ a.2.2.1 < 2147483648 ∧ a.2.2.2.2 59 3 = lN a.2.2.1 ∧ zspk g s (30 - i) a.1 a.2.1 a.2.2.1 = zspk g s 30 1 (fun _ => gL g 0) x) 0 30 (1, (fun _ => gL g 0), x, zzwI (zzwI μ 60 0 (nI (gL g 0))) 59 2 (nI 1)) (by omega) (by omega) rfl ⟨zf_twI _ _ (zf_wI _ _ rfl) rfl, fun p hp => (zm_k _ _ _ _ hp).trans (by rw [zm_c _ _ _ (by omega)]), (show 1 ≤ 24 by decide), fun k _ => hl2, ⟨zm_s _ _ _ _, fun k hk => ?_⟩, hx, h3, rfl⟩ ?_ ?_
  · simp only at hk ⊢
    obtain rfl : k = 0 := by omega
    rw [zm_c _ _ _ (by omega), zm_s]
  · rintro i ⟨n, f, x1, y⟩ ga - hi ⟨i1, i2, i3, i4, i5, i6, i7, i8⟩ hgo
    simp only at i1 i2 i3 i4 i5 i6 i7 i8
    have hy := zc2_fr h i1 rfl
    unfold L114_a
    simp only [zI0, zI1, zI2, zI3, zI4, zI5, zI6, zI7, zI8, zJ0, zJ1, zJ2, zMM]
    rw [if_neg (by rw [zq_le (by omega) (by omega)]; omega)]
    have hfc : zzf zzP zN (d + 2) 115 [.ref 59] y = _ := s_firstCapital (d + 1) i3 i4 i5
    rw [hfc, Option.bind_some]
    have hza := zfcp_le f 0 n
    rw [show 30 - i = 30 - (i + 1) + 1 by omega, zspk_s] at i8
    by_cases e : zfcp f 0 n = n
    · rw [if_pos e] at i8
      simp only [if_pos e, if_true]
      rw [if_pos (by decide)]
      refine zw_some ⟨i1, i2, ?_⟩
      rw [← i8]
      exact ⟨rfl, i7, fun _ => ⟨i3, i4, i5⟩⟩
    · rw [if_neg e] at i8
      simp only [if_neg e]
      have ha : zfcp f 0 n < n := by omega
      have ha26 := zfcp_26 f 0 n (by omega)
      have ha52 := i4 _ ha
      rw [zif_cg (Iff.of_eq (zq_em (by omega))), if_neg (fun q => q), zr_i _ _ (by omega) (by omega), i5.2 _ ha, Option.bind_some]
      obtain ⟨o, a1, a2⟩ := s_drawnRule hy hg d ha26 ha52 i6 i7
      rw [a1, Option.bind_some]
      by_cases em : zmru g s (f (zfcp f 0 n)) = 0
      · rw [if_pos em] at a2 i8
        rw [a2.1, a2.2, if_pos rfl, if_pos (by decide)]
        refine zw_some ⟨i1, i2, ?_⟩
        rw [← i8]
        exact ⟨rfl, i7, fun q => (by cases q)⟩
      · rw [if_neg em] at a2 i8
        obtain ⟨q, q1, q2, q3, q4⟩ := zpick_in (p := zrl g s (f (zfcp f 0 n))) (k := zdr x1 / 65536 % zmru g s (f (zfcp f 0 n))) (n := gN g) (Nat.mod_lt _ (Nat.pos_of_ne_zero em))
        rw [q4] at a2 i8
        rw [a2.1, a2.2, zif_cg (Iff.of_eq (zq_em (by omega))), if_neg (fun q => q)]
        have hfy : zfr [59, 60] y (zzwL y 59 3 (lN (zdr x1))) := zf_wL _ _ rfl
        obtain ⟨o2, b1, b2⟩ := s_replace (zc2_fr hy hfy rfl) hg d (n := n) (f := f) (a := zfcp f 0 n) i3 ha q1 i5
        rw [b1, Option.bind_some]
        by_cases el : 24 < n - 1 + gZ g q
        · rw [if_pos el] at b2 i8
          rw [b2.1, b2.2, if_pos (by decide), if_pos (by decide)]
          refine zw_some ⟨zf_trans i1 hfy, i2, ?_⟩
          rw [← i8]
          exact ⟨rfl, zn_s _ _ _ _, fun q => (by cases q)⟩
        · rw [if_neg el] at b2 i8
          rw [b2.1, if_neg (by decide), zq_add]
          refine hgo (n - 1 + gZ g q, zrpl g f (zfcp f 0 n) q, zdr x1, o2.2) ⟨zf_trans i1 (zf_trans hfy b2.2.1), fun p hp => (b2.2.2.2.1 p hp).trans (i2 p hp), by simp only; omega, zrpl_52 hg q1 ha i4, b2.2.2.2.2, zdr_lt x1, ?_, i8⟩
          simp only
          rw [b2.2.2.1]
          exact zn_s _ _ _ _
  · rintro ⟨n, f, x1, y⟩ ga ⟨i1, i2, i3, i4, i5, i6, i7, i8⟩
    simp only at i1 i2 i3 i4 i5 i6 i7 i8
    unfold L114_a
    simp only [zI0, zI1, zI2, zI3, zI4, zI5, zI6, zI7, zI8, zJ0, zJ1, zJ2, zMM]
    rw [if_pos (by rw [zq_le (by omega) (by omega)]; omega)]
    have hfc : zzf zzP zN (d + 2) 115 [.ref 59] y = _ := s_firstCapital (d + 1) i3 i4 i5
    rw [hfc, Option.bind_some]
    have hza := zfcp_le f 0 n
    rw [show 30 - 30 = 0 from rfl, zspk_0] at i8
    by_cases e : zfcp f 0 n = n
    · rw [decide_eq_true e] at i8
      simp only [if_pos e, if_true]
      rw [if_pos (by decide)]
      refine zw_some ⟨i1, i2, ?_⟩
      rw [← i8]
      exact ⟨rfl, i7, fun _ => ⟨i3, i4, i5⟩⟩
    · rw [decide_eq_false e] at i8
      simp only [if_neg e]
      rw [zif_cg (Iff.of_eq (zq_em (by omega))), if_neg (fun q => q), if_pos (by decide)]
      refine zw_some ⟨i1, i2, ?_⟩
      rw [← i8]
      exact ⟨rfl, i7, fun q => (by cases q)⟩
noncomputable def zspT (g : zG) (s : zSn) (x : Nat) : Nat → Bool × Nat × (Nat → Nat) × Nat
  | 0 => (false, 1, (fun _ => gL g 0), x)
  | t + 1 => zspk g s 30 1 (fun _ => gL g 0) (zspT g s x t).2.2.2
theorem zspT_x {g : zG} {s : zSn} {x : Nat} (h : x < 2147483648) : ∀ t, (zspT g s x t).2.2.2 < 2147483648
  | 0 => h
  | t + 1 => zspk_x (zspT_x h t)
theorem s_speakTimes {g : zG} {s : zSn} {μ : zzM} (h : zc2 g s μ) (hg : zwg g) (hn : 0 < gN g) (d : Nat) {t x : Nat} (ht : t ≤ 10) (hx : x < 2147483648) (h9 : μ.1 2 9 = nI x) : zw (zzf zzP zN (d + 4) 112 [.ref 59, .int (nI t)] μ) fun o => zfr [59, 60] μ o.2 ∧ (∀ p, p ≠ 2 → o.2.1 59 p = μ.1 59 p) ∧ zspR g s (zspT g s x t) o.1.1 o.2 := by
  rw [w_speak_speakTimes, h9, nI_l (by omega)]
  refine zl_up (fun i (a : Int32 × zzM) => ([nI t, a.1, nI i], [], a.2)) (fun i a => zfr [59, 60] μ a.2 ∧ (∀ p, p ≠ 2 → a.2.1 59 p = μ.1 59 p) ∧ zspR g s (zspT g s x i) a.1 a.2) 0 t (zB false, zzwL μ 59 3 (lN x)) (by omega) (by omega) rfl ⟨zf_wL _ _ rfl, fun _ _ => rfl, rfl, zn_s _ _ _ _, fun q => (by cases q)⟩ ?_ ?_
  · rintro i ⟨b, y⟩ ga - hi ⟨i1, i2, i3⟩ hgo
    simp only at i1 i2 i3
    unfold L112_a
    simp only [zI0, zI1, zI2, zI3, zI4, zI5, zI6, zI7, zI8, zJ0, zJ1, zJ2, zMM]
    rw [if_neg (by rw [zq_le (by omega) (by omega)]; omega)]
    obtain ⟨o, a1, a2, a3, a4⟩ := s_speak (zc2_fr h i1 rfl) hg hn d (zspT_x hx i) i3.2.1
    rw [a1, Option.bind_some, zq_add]
    exact hgo (o.1.1, o.2) ⟨zf_trans i1 a2, fun p hp => (a3 p hp).trans (i2 p hp), a4⟩
  · rintro ⟨b, y⟩ ga ⟨i1, i2, i3⟩
    simp only at i1 i2 i3
    unfold L112_a
    simp only [zI0, zI1, zI2, zI3, zI4, zI5, zI6, zI7, zI8, zJ0, zJ1, zJ2, zMM]
    rw [if_pos (by rw [zq_le (by omega) (by omega)]; omega), i3.1]
    simp only [zB_ok, if_true]
    exact zw_some ⟨i1, i2, rfl, i3.2⟩
