/-! THE FOREST: the pure picture; the class's markBelow -/
/-- below the piece r from m to n stands q from i to j -/
def zmk2 (g : zG) (s : zSn) (r m n q i j : Nat) : Prop := ∃ k d, k + 1 + d = gZ g r ∧ zPa (zw1 g s r) k m i ∧ i ≤ j ∧ zbl true g s r k q = true ∧ zM true g s q i j ∧ zPb (zw1 g s r) n d (k + 1) j
def zPh (g : zG) (s : zSn) : Nat → Nat → Nat → Nat → Prop
  | 0, r, m, n => m = 0 ∧ n = sL s ∧ gL g r = gL g 0 ∧ zM true g s r m n
  | h + 1, r, m, n => zPh g s h r m n ∨ ∃ r' m' n', zPh g s h r' m' n' ∧ zmk2 g s r' m' n' r m n
def zPi (g : zG) (s : zSn) (r m n : Nat) : Prop := ∃ h, zPh g s h r m n
theorem zPi_0 {g : zG} {s : zSn} {r : Nat} (h : gL g r = gL g 0) (h' : zM true g s r 0 (sL s)) : zPi g s r 0 (sL s) := ⟨0, rfl, rfl, h, h'⟩
theorem zPi_s {g : zG} {s : zSn} {r m n q i j : Nat} (h : zPi g s r m n) (h' : zmk2 g s r m n q i j) : zPi g s q i j := by
  obtain ⟨h, e⟩ := h
  exact ⟨h + 1, .inr ⟨r, m, n, e, h'⟩⟩
theorem zPi_M {g : zG} {s : zSn} {r m n : Nat} (h : zPi g s r m n) : zM true g s r m n := by
  obtain ⟨h, e⟩ := h
  induction h generalizing r m n with
  | zero => exact e.2.2.2
  | succ h ih =>
    rcases e with e | ⟨r', m', n', -, k, d, -, -, -, -, e, -⟩
    · exact ih e
    · exact e
theorem zmk2_in {g : zG} {s : zSn} {r m n q i j : Nat} (h : zmk2 g s r m n q i j) : m ≤ i ∧ i ≤ j ∧ j ≤ n := by
  obtain ⟨k, d, -, a, b, -, -, c⟩ := h
  exact ⟨zPa_le a, b, zPb_le c⟩
theorem zPi_le {g : zG} {s : zSn} {r m n : Nat} (h : zPi g s r m n) : n ≤ sL s := by
  obtain ⟨h, e⟩ := h
  induction h generalizing r m n with
  | zero => exact Nat.le_of_eq e.2.1
  | succ h ih =>
    rcases e with e | ⟨r', m', n', e, e'⟩
    · exact ih e
    · have := ih e
      have := zmk2_in e'
      omega
/-- a set that has the first pieces and is closed has all -/
theorem zPi_co {g : zG} {s : zSn} {A : Nat → Nat → Nat → Prop} (h0 : ∀ r, gL g r = gL g 0 → zM true g s r 0 (sL s) → A r 0 (sL s)) (hc : ∀ r m n q i j, m ≤ n → n ≤ sL s → A r m n → zmk2 g s r m n q i j → A q i j) {r m n : Nat} (h : zPi g s r m n) : A r m n := by
  obtain ⟨h, e⟩ := h
  induction h generalizing r m n with
  | zero =>
    obtain ⟨rfl, rfl, e1, e2⟩ := e
    exact h0 r e1 e2
  | succ h ih =>
    rcases e with e | ⟨r', m', n', e, e'⟩
    · exact ih e
    · have := zmk2_in e'
      exact hc r' m' n' r m n (by omega) (zPi_le ⟨h, e⟩) (ih e) e'
theorem s_hopeful {g : zG} {s : zSn} {μ : zzM} (h : zc2 g s μ) (hg : zwg g) (hc : cCf true 36 37 38 39 g s μ) (hsl : sL s ≤ 12) (d : Nat) {r m n : Nat} (hr : r < gN g) (hm : m ≤ n) (hn : n ≤ sL s) : zw (zzf zzP zN (d + 2) 100 [.ref 52, .int (nI r), .int (nI m), .int (nI n)] μ) fun o => zfr [55] μ o.2 ∧ ∀ k, k ≤ gZ g r → ∀ i, i < 32 → (bt (o.2.1 55 k) i = true ↔ m ≤ i ∧ zPb (zw1 g s r) n (gZ g r - k) k i) := by
  have hgn := g_n hg
  have hz := g_z hg hr
  rw [w_forest_findHopeful, zr_i _ _ (by omega) (by omega), c_z h hr, Option.bind_some, zs_i _ _ _ (by omega) (by omega), Option.bind_some, nJ_e]
  refine zl_dn (fun k (y : zzM) => ([nI r, nI m, nI n, nJ k], [], y)) (fun k y => zfr [55] μ y ∧ ∀ k', k ≤ k' → k' ≤ gZ g r → ∀ i, i < 32 → (bt (y.1 55 k') i = true ↔ m ≤ i ∧ zPb (zw1 g s r) n (gZ g r - k') k' i)) 0 (gZ g r) _ (by omega) (by omega) rfl ⟨zf_wI _ _ rfl, fun k' a b i hi => ?_⟩ ?_ ?_
  · have : k' = gZ g r := by omega
    subst this
    rw [zm_s, b_sh1 (by omega) hi, decide_eq_true_eq, Nat.sub_self]
    show i = n ↔ m ≤ i ∧ i = n
    omega
  · rintro k y ga - hk ⟨i1, i2⟩ hgo
    unfold L100_b
    simp only [zI0, zI1, zI2, zI3, zI4, zI5, zI6, zI7, zI8, zJ0, zJ1, zJ2, zMM]
    rw [nJ_s, if_neg (nI_pos (by omega)), zs_i _ _ _ (by omega) (by omega), Option.bind_some]
    refine zl_up (fun i (y : zzM) => ([nI r, nI m, nI n, nI k, nI i], [], y)) (fun i z => zfr [55] μ z ∧ (∀ k', k + 1 ≤ k' → k' ≤ gZ g r → z.1 55 k' = y.1 55 k') ∧ ∀ i', i' < 32 → (bt (z.1 55 k) i' = true ↔ m ≤ i' ∧ i' < i ∧ zPb (zw1 g s r) n (gZ g r - k) k i')) m (n + 1) _ (by omega) (by omega) rfl ⟨zf_twI _ _ i1 rfl, fun k' a b => zm_k _ _ _ _ (by omega), fun i' hi' => by rw [zm_s, b_z]; exact ⟨fun e => (by cases e), fun e => by omega⟩⟩ ?_ ?_
    · rintro i z gb hi hin ⟨j1, j2, j3⟩ hgo2
      have hcz := cCf_fr hc j1 rfl
      unfold L100_a
      simp only [zI0, zI1, zI2, zI3, zI4, zI5, zI6, zI7, zI8, zJ0, zJ1, zJ2, zMM]
      rw [if_neg (by rw [zq_lt (by omega) (by omega)]; omega)]
      obtain ⟨o, e1, e2, e3⟩ := s_endsOf hg hcz hsl d hr hk (show i ≤ n by omega) hn
      rw [e1, Option.bind_some, e2, zq_add, zr_i _ _ (by omega) (by omega), Option.bind_some, j2 (k + 1) (by omega) (by omega)]
      simp only [zq_add]
      have key : ¬ (o.1.1 &&& y.1 55 (k + 1)) = 0 ↔ zPb (zw1 g s r) n (gZ g r - k) k i := by
        rw [b_and0]
        have hd : gZ g r - k = (gZ g r - (k + 1)) + 1 := by omega
        rw [hd]
        constructor
        · intro e
          apply Classical.byContradiction
          intro f
          refine e fun j hj q => f ?_
          obtain ⟨a, b, c⟩ := (e3 j hj).1 q.1
          exact ⟨j, a, b, c, ((i2 (k + 1) (by omega) (by omega) j hj).1 q.2).2⟩
        · rintro ⟨j, a, b, c, f⟩ e
          exact e j (by omega) ⟨(e3 j (by omega)).2 ⟨a, b, c⟩, (i2 (k + 1) (by omega) (by omega) j (by omega)).2 ⟨by omega, f⟩⟩
      by_cases e : (o.1.1 &&& y.1 55 (k + 1)) = 0
      · rw [if_pos e]
        refine hgo2 z ⟨j1, j2, fun i' hi' => ?_⟩
        rw [j3 i' hi']
        refine and_congr Iff.rfl ⟨fun f => ⟨by omega, f.2⟩, fun f => ⟨?_, f.2⟩⟩
        by_cases ei : i' = i
        · rw [ei] at f
          exact absurd e (key.2 f.2)
        · omega
      · rw [if_neg e, zr_i _ _ (by omega) (by omega), Option.bind_some, zs_i _ _ _ (by omega) (by omega), Option.bind_some]
        refine hgo2 _ ⟨zf_twI _ _ j1 rfl, fun k' a b => ?_, fun i' hi' => ?_⟩
        · rw [zm_k _ _ _ _ (by omega)]
          exact j2 k' a b
        · rw [zm_s, b_or, b_sh1 (by omega) hi', Bool.or_eq_true, decide_eq_true_eq, j3 i' hi']
          constructor
          · rintro (f | rfl)
            · exact ⟨f.1, by omega, f.2.2⟩
            · exact ⟨hi, by omega, key.1 e⟩
          · rintro ⟨a, b, c⟩
            by_cases ei : i' = i
            · exact .inr ei
            · exact .inl ⟨a, by omega, c⟩
    · rintro z gb ⟨j1, j2, j3⟩
      unfold L100_a
      simp only [zI0, zI1, zI2, zI3, zI4, zI5, zI6, zI7, zI8, zJ0, zJ1, zJ2, zMM]
      rw [if_pos (by rw [zq_lt (by omega) (by omega)]; omega), nJ_e]
      refine hgo z ⟨j1, fun k' a b i hi => ?_⟩
      by_cases ek : k' = k
      · rw [ek, j3 i hi]
        refine ⟨fun f => ⟨f.1, f.2.2⟩, fun f => ⟨f.1, ?_, f.2⟩⟩
        have := zPb_le f.2
        omega
      · rw [j2 k' (by omega) b]
        exact i2 k' (by omega) b i hi
  · rintro y ga ⟨i1, i2⟩
    unfold L100_b
    simp only [zI0, zI1, zI2, zI3, zI4, zI5, zI6, zI7, zI8, zJ0, zJ1, zJ2, zMM]
    rw [if_pos (by decide)]
    exact zw_some ⟨i1, fun k a => i2 k (by omega) a⟩
/-- the pieces of the class -/
def cPc (P : Nat → Nat → Nat → Prop) (N : Nat) (μ : zzM) : Prop := ∀ i j, i ≤ j → j ≤ N → ∀ q, q < 32 → (bt (μ.1 53 (zsp i j)) q = true ↔ P q i j)
theorem s_markPart {g : zG} {s : zSn} {μ : zzM} (hg : zwg g) (hc : cCf true 36 37 38 39 g s μ) (hsl : sL s ≤ 12) (d : Nat) {r m n k : Nat} (hr : r < gN g) (hk : k < gZ g r) (hm : m ≤ n) (hn : n ≤ sL s) (hA : ∀ i, i < 32 → (bt (μ.1 54 k) i = true ↔ i ≤ n ∧ zPa (zw1 g s r) k m i)) (hB : ∀ i, i < 32 → (bt (μ.1 55 (k + 1)) i = true ↔ m ≤ i ∧ zPb (zw1 g s r) n (gZ g r - (k + 1)) (k + 1) i)) {P : Nat → Nat → Nat → Prop} (hP : cPc P (sL s) μ) : zw (zzf zzP zN (d + 3) 101 [.ref 52, .int (nI r), .int (nI k), .int (nI m), .int (nI n)] μ) fun o => zfr [53] μ o.2 ∧ cPc (fun q i j => P q i j ∨ (zPa (zw1 g s r) k m i ∧ i ≤ j ∧ zbl true g s r k q = true ∧ zM true g s q i j ∧ zPb (zw1 g s r) n (gZ g r - (k + 1)) (k + 1) j)) (sL s) o.2 := by
  have hgn := g_n hg
  have hz := g_z hg hr
  rw [w_forest_markPart]
  refine zl_up (fun i (y : zzM) => ([nI r, nI k, nI n, nI i], [], y)) (fun i y => zfr [53] μ y ∧ cPc (fun q i' j => P q i' j ∨ (i' < i ∧ zPa (zw1 g s r) k m i' ∧ i' ≤ j ∧ zbl true g s r k q = true ∧ zM true g s q i' j ∧ zPb (zw1 g s r) n (gZ g r - (k + 1)) (k + 1) j)) (sL s) y) m (n + 1) μ (by omega) (by omega) rfl ⟨zf_refl _ _, fun i' j a b q hq => ?_⟩ ?_ ?_
  · rw [hP i' j a b q hq]
    refine ⟨.inl, fun e => e.resolve_right fun e => ?_⟩
    have := zPa_le e.2.1
    omega
  · rintro i y ga hi hin ⟨i1, i2⟩ hgo
    have hcy := cCf_fr hc i1 rfl
    unfold L101_b
    simp only [zI0, zI1, zI2, zI3, zI4, zI5, zI6, zI7, zI8, zJ0, zJ1, zJ2, zMM]
    rw [if_neg (by rw [zq_lt (by omega) (by omega)]; omega), zr_i _ _ (by omega) (by omega), Option.bind_some, zf_i i1 rfl]
    simp (disch := omega) only [b_bit]
    have main : ∀ B : Int32, (∀ j, j < 32 → (bt B j = true ↔ j ≤ n ∧ zPa (zw1 g s r) k m i ∧ i ≤ j ∧ zw1 g s r k i j ∧ zPb (zw1 g s r) n (gZ g r - (k + 1)) (k + 1) j)) → zw (J101_a zN (d + 2) ga (nI r) (nI k) (nI n) (nI i) B y) fun o => zfr [53] μ o.2 ∧ cPc (fun q i j => P q i j ∨ (zPa (zw1 g s r) k m i ∧ i ≤ j ∧ zbl true g s r k q = true ∧ zM true g s q i j ∧ zPb (zw1 g s r) n (gZ g r - (k + 1)) (k + 1) j)) (sL s) o.2 := by
      intro B hBB
      unfold J101_a
      have hw : ∀ q j, zbl true g s r k q = true → zM true g s q i j → zw1 g s r k i j := fun q j a b => zEx_cap hg a b
      have hnext : ∀ z : zzM, zfr [53] μ z → ∀ j0, (∀ j, j0 ≤ j → j ≤ n → bt B j = false) → cPc (fun q i' j => P q i' j ∨ (i' < i ∧ zPa (zw1 g s r) k m i' ∧ i' ≤ j ∧ zbl true g s r k q = true ∧ zM true g s q i' j ∧ zPb (zw1 g s r) n (gZ g r - (k + 1)) (k + 1) j) ∨ (i' = i ∧ j < j0 ∧ bt B j = true ∧ zbl true g s r k q = true ∧ zM true g s q i' j)) (sL s) z → zw (ga ([nI r, nI k, nI n, nI (i + 1)], [], z)) fun o => zfr [53] μ o.2 ∧ cPc (fun q i j => P q i j ∨ (zPa (zw1 g s r) k m i ∧ i ≤ j ∧ zbl true g s r k q = true ∧ zM true g s q i j ∧ zPb (zw1 g s r) n (gZ g r - (k + 1)) (k + 1) j)) (sL s) o.2 := by
        intro z hz j0 hj0 hcz
        refine hgo z ⟨hz, fun i' j a b q hq => ?_⟩
        rw [hcz i' j a b q hq]
        refine or_congr Iff.rfl ⟨?_, ?_⟩
        · rintro (f | ⟨rfl, f1, f2, f3, f4⟩)
          · exact ⟨by omega, f.2⟩
          · obtain ⟨g1, g2, g3, g4, g5⟩ := (hBB j (by omega)).1 f2
            exact ⟨by omega, g2, g3, f3, f4, g5⟩
        · rintro ⟨f1, f2, f3, f4, f5, f6⟩
          by_cases ei : i' = i
          · subst ei
            have hjn := zPb_le f6
            have hb : bt B j = true := (hBB j (by omega)).2 ⟨hjn, f2, f3, hw q j f4 f5, f6⟩
            refine .inr ⟨rfl, ?_, hb, f4, f5⟩
            apply Nat.lt_of_not_le
            intro q'
            rw [hj0 j q' hjn] at hb
            cases hb
          · exact .inl ⟨by omega, f2, f3, f4, f5, f6⟩
      refine zl_up (fun j (y : zzM) => ([nI r, nI k, nI n, nI i, B, nI j], [], y)) (fun j z => zfr [53] μ z ∧ cPc (fun q i' j' => P q i' j' ∨ (i' < i ∧ zPa (zw1 g s r) k m i' ∧ i' ≤ j' ∧ zbl true g s r k q = true ∧ zM true g s q i' j' ∧ zPb (zw1 g s r) n (gZ g r - (k + 1)) (k + 1) j') ∨ (i' = i ∧ j' < j ∧ bt B j' = true ∧ zbl true g s r k q = true ∧ zM true g s q i' j')) (sL s) z) i (n + 1) y (by omega) (by omega) rfl ⟨i1, fun i' j a b q hq => ?_⟩ ?_ ?_
      · rw [i2 i' j a b q hq]
        exact or_congr Iff.rfl ⟨.inl, fun f => f.resolve_right fun f => by omega⟩
      · rintro j z gb hj hjn ⟨k1, k2⟩ hgo2
        have hcz := cCf_fr hc k1 rfl
        unfold L101_a
        simp only [zI0, zI1, zI2, zI3, zI4, zI5, zI6, zI7, zI8, zJ0, zJ1, zJ2, zMM]
        rw [if_neg (by rw [zq_lt (by omega) (by omega)]; omega)]
        simp (disch := omega) only [b_bit, zq_add]
        by_cases e : (B >>> (nI j &&& 31)) = 0
        · rw [if_pos e]
          rw [b_shr0 (by omega)] at e
          exact hnext z k1 j (fun j' a b => e j' a (by omega)) k2
        · rw [if_neg e]
          cases hb : bt B j with
          | false =>
            rw [if_pos rfl]
            refine hgo2 z ⟨k1, fun i' j' a b q hq => ?_⟩
            rw [k2 i' j' a b q hq]
            refine or_congr Iff.rfl (or_congr Iff.rfl ⟨fun f => ⟨f.1, by omega, f.2.2⟩, fun f => ⟨f.1, ?_, f.2.2⟩⟩)
            by_cases ej : j' = j
            · rw [ej, hb] at f
              cases f.2.2.1
            · omega
          | true =>
            have hsp := zsp_lt j (by omega) i (by omega) (by omega)
            rw [if_neg (by decide), s_zsp _ (by omega) (by omega), Option.bind_some, zr_i _ _ hsp (by omega), Option.bind_some]
            obtain ⟨o, e1, e2, e3⟩ := s_below hg hcz hsl d hr hk (show i ≤ j by omega) (show j ≤ sL s by omega)
            rw [e1, Option.bind_some, e2, zs_i _ _ _ hsp (by omega), Option.bind_some]
            refine hgo2 _ ⟨zf_twI _ _ k1 rfl, fun i' j' a b q hq => ?_⟩
            by_cases eij : i' = i ∧ j' = j
            · obtain ⟨rfl, rfl⟩ := eij
              rw [zm_s, b_or, Bool.or_eq_true, k2 i' j' a b q hq, e3 q hq]
              constructor
              · rintro ((f | f | f) | f)
                · exact .inl f
                · exact .inr (.inl f)
                · exact .inr (.inr ⟨rfl, by omega, f.2.2⟩)
                · exact .inr (.inr ⟨rfl, by omega, hb, f.2, f.1⟩)
              · rintro (f | f | f)
                · exact .inl (.inl f)
                · exact .inl (.inr (.inl f))
                · exact .inr ⟨f.2.2.2.2, f.2.2.2.1⟩
            · rw [zm_k _ _ _ _ fun e => eij (zsp_inj j' (by omega) i' (by omega) a j (by omega) i (by omega) (by omega) e), k2 i' j' a b q hq]
              exact or_congr Iff.rfl (or_congr Iff.rfl ⟨fun f => ⟨f.1, by omega, f.2.2⟩, fun f => ⟨f.1, by omega, f.2.2⟩⟩)
      · rintro z gb ⟨k1, k2⟩
        unfold L101_a
        simp only [zI0, zI1, zI2, zI3, zI4, zI5, zI6, zI7, zI8, zJ0, zJ1, zJ2, zMM]
        rw [if_pos (by rw [zq_lt (by omega) (by omega)]; omega), zq_add]
        exact hnext z k1 (n + 1) (fun j' a b => by omega) k2
    cases hb : bt (μ.1 54 k) i with
    | false =>
      rw [if_pos rfl]
      refine main (nI 0) fun j hj => ?_
      rw [b_z]
      refine ⟨fun f => (by cases f), fun f => ?_⟩
      rw [(hA i (by omega)).2 ⟨by omega, f.2.1⟩] at hb
      cases hb
    | true =>
      rw [if_neg (by decide)]
      have hpa := (hA i (by omega)).1 hb
      obtain ⟨o, e1, e2, e3⟩ := s_endsOf hg hcy hsl (d + 1) hr hk (show i ≤ n by omega) hn
      rw [e1, Option.bind_some, e2, zq_add, zr_i _ _ (by omega) (by omega), Option.bind_some, zf_i i1 rfl]
      refine main _ fun j hj => ?_
      rw [b_and, Bool.and_eq_true, e3 j hj, hB j hj]
      constructor
      · rintro ⟨⟨a, b, c⟩, f, f'⟩
        exact ⟨b, hpa.2, a, c, f'⟩
      · rintro ⟨a, b, c, f, f'⟩
        exact ⟨⟨c, a, f⟩, by omega, f'⟩
  · rintro y ga ⟨i1, i2⟩
    unfold L101_b
    simp only [zI0, zI1, zI2, zI3, zI4, zI5, zI6, zI7, zI8, zJ0, zJ1, zJ2, zMM]
    rw [if_pos (by rw [zq_lt (by omega) (by omega)]; omega)]
    refine zw_some ⟨i1, fun i' j a b q hq => ?_⟩
    rw [i2 i' j a b q hq]
    refine or_congr Iff.rfl ⟨fun f => f.2, fun f => ⟨?_, f⟩⟩
    have := zPb_le f.2.2.2.2
    omega
