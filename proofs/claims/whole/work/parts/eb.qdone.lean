/-! QUERIES: ends of rules, clashes -/
/-- the rule's end, right-nulled, is in a state -/
def zDo (g : zG) (s : zSn) (w : zWs) (k r : Nat) : Prop := r < gN g ∧ ∃ p, p ≤ gZ g r ∧ zpt (w.2.1 k) r p = true ∧ ∀ j, p ≤ j → j < gZ g r → 26 ≤ gS g r j ∧ zE g s (gS g r j - 26)
theorem zam_E {g : zG} {s : zSn} {e : Int32} (h : zmE g s e) (hg : zwg g) {r j : Nat} (hr : r < gN g) (hj : j < gZ g r) : zam e (gS g r j) = true ↔ 26 ≤ gS g r j ∧ zE g s (gS g r j - 26) := by
  have := g_s hg hr hj
  unfold zam
  rw [Bool.and_eq_true, decide_eq_true_eq]
  refine and_congr_right fun h26 => ?_
  rw [h _ (by omega)]
  exact ⟨fun q => q.2, fun q => ⟨by omega, q⟩⟩
theorem q_done {g : zG} {s : zSn} {μ : zzM} (K : zOk g s) (c : cI g s μ) (m : mI g s μ) (a1 : Int32) : zQ g s 145 233 [.ref 0, .int a1] [.ref 105, .int a1] μ := by
  have hgn := g_n K.hg
  refine zQ_st K c m a1 (A := fun k w x => zBits (zDo g s w k) x) (A' := fun k w x => zBits (zDo g s w k) x) (fun o e1 e2 => ?_) (fun z o e1 e2 => ?_) (fun k w x x' e e' => zBits_un e e') (fun o w k e1 e2 e3 e4 e5 e6 e7 e8 e9 e10 => ?_) (fun z o w k e1 e2 e3 e4 e5 e6 e7 e8 e9 e10 => ?_)
  · rw [show (13 : Nat) = 12 + 1 from rfl, w_pf_done, e1, Option.bind_some, e2, if_pos (by decide)]
  · rw [show (13 : Nat) = 12 + 1 from rfl, w_m_done, e1, Option.bind_some, e2, if_pos (by decide)]
  · have hwt := (zLay_wt e4).2.1
    obtain ⟨f, f1, f2, f3, f4⟩ := s_foundFacts e8.h K.hg e3 6 e8.F
    have f1 : zzf zzP zN 12 126 [.ref 0] o.2 = some f := f1
    obtain ⟨f4, f5⟩ := f4
    have hcf : cI g s f.2 := cI_F e8 f3 f4 f5
    have hSf : zcSt w f.2 := zcSt_fr e9 f3 rfl
    have hE := f4.1
    unfold cA
    rw [show (13 : Nat) = 12 + 1 from rfl, w_pf_done, e1, Option.bind_some, e2, if_neg (show ¬ zB true = 0 by decide), f1, Option.bind_some, if_pos f2, e6]
    refine zl_up (fun r (x : Int32) => ([nI k, f.2.1 21 2, x, nI r], [], f.2)) (fun r x => zBits (fun r' => r' < r ∧ zDo g s w k r') x) 0 (gN g) (nI 0) (by omega) (by omega) rfl (fun j hj => by rw [show (nI 0 : Int32) = 0 from rfl, b_0]; exact ⟨fun q => (by cases q), fun q => absurd q.1 (by omega)⟩) ?_ ?_
    · rintro r x ga - hr hx hgo
      have hz4 := g_z K.hg hr
      obtain ⟨p, p1, p2, p3⟩ := s_pointsOf 11 hSf e5 (show r < 12 by omega)
      have p1 : zzf zzP zN 12 45 [.ref 26, .int (nI k), .int (nI r)] f.2 = some p := p1
      obtain ⟨u, u1, u2, u3⟩ := s_nulled hcf.h K.hg 10 hr (f.2.1 21 2)
      have u1 : zzf zzP zN 12 8 [.ref 3, .int (nI r), .int (f.2.1 21 2)] f.2 = some u := u1
      have hiff : (p.1.1 &&& u.1.1) = 0 ↔ ¬ zDo g s w k r := by
        rw [b_and0]
        refine ⟨fun h ⟨_, q, q1, q2, q3⟩ => h q (by omega) ⟨(p3 q (by omega)).2 ⟨by omega, q2⟩, (u3 q (by omega)).2 ⟨q1, fun j a b => (zam_E hE K.hg hr b).2 (q3 j a b)⟩⟩, fun h j hj ⟨q1, q2⟩ => h ⟨hr, j, ((u3 j hj).1 q2).1, ((p3 j hj).1 q1).2, fun i a b => (zam_E hE K.hg hr b).1 (((u3 j hj).1 q2).2 i a b)⟩⟩
      unfold L145_a
      simp only [zI0, zI1, zI2, zI3, zI4, zI5, zI6, zI7, zI8, zJ0, zJ1, zJ2, zMM]
      rw [c_n hcf.h, if_neg (by rw [zq_le (by omega) (by omega)]; omega), p1, Option.bind_some, p2, u1, Option.bind_some, u2, zq_add]
      by_cases e : zDo g s w k r
      · rw [if_neg (fun q => hiff.1 q e)]
        refine hgo _ fun j hj => ?_
        rw [b_or, b_sh1 (by omega) hj, Bool.or_eq_true, decide_eq_true_eq, hx j hj]
        exact ⟨fun q => q.elim (fun q => ⟨by omega, q.2⟩) fun q => by rw [q]; exact ⟨by omega, e⟩, fun q => by
          by_cases ej : j = r
          · exact .inr ej
          · exact .inl ⟨by omega, q.2⟩⟩
      · rw [if_pos (hiff.2 e)]
        refine hgo _ fun j hj => (hx j hj).trans ⟨fun q => ⟨by omega, q.2⟩, fun q => ⟨?_, q.2⟩⟩
        apply Nat.lt_of_not_le
        intro f
        obtain rfl : j = r := by omega
        exact e q.2
    · rintro x ga hx
      unfold L145_a
      simp only [zI0, zI1, zI2, zI3, zI4, zI5, zI6, zI7, zI8, zJ0, zJ1, zJ2, zMM]
      rw [c_n hcf.h, if_pos (by rw [zq_le (by omega) (by omega)]; omega)]
      exact zw_some ⟨zf_trans e7 (zf_mono f3 rfl), hcf, fun j hj => (hx j hj).trans ⟨fun q => q.2, fun q => ⟨q.1, q⟩⟩⟩
  · have hwt := (zLay_wt e4).2.1
    obtain ⟨f, f1, f2, f3, f4⟩ := m_laysFacts e9.h K.hg e3 7
    have f1 : zzf zzP zN 12 207 [.ref 105] o.2 = some f := f1
    obtain ⟨q1, q2⟩ := mI_105 e9 f2 f4 rfl rfl rfl
    have hSf : zmSt w f.2 := zmSt_fr e10 f2 (f4 35 (by omega)) rfl
    have hE := f3.1
    unfold mA
    rw [show (13 : Nat) = 12 + 1 from rfl, w_m_done, e1, Option.bind_some, e2, if_neg (show ¬ zB true = 0 by decide), f1, Option.bind_some, e6]
    refine zl_up (fun r (x : Int32) => ([nI k, x, nI r], [], f.2)) (fun r x => zBits (fun r' => r' < r ∧ zDo g s w k r') x) 0 (gN g) (nI 0) (by omega) (by omega) rfl (fun j hj => by rw [show (nI 0 : Int32) = 0 from rfl, b_0]; exact ⟨fun q => (by cases q), fun q => absurd q.1 (by omega)⟩) ?_ ?_
    · rintro r x ga - hr hx hgo
      have hz4 := g_z K.hg hr
      unfold L233_b
      simp only [zI0, zI1, zI2, zI3, zI4, zI5, zI6, zI7, zI8, zJ0, zJ1, zJ2, zMM]
      rw [zr_i _ _ (by omega) (by omega), d_n q2.h, Option.bind_some, if_neg (by rw [zq_le (by omega) (by omega)]; omega)]
      let P : Nat → Prop := fun n => ∃ p, p < n ∧ zpt (w.2.1 k) r p = true ∧ ∀ j, p ≤ j → j < gZ g r → 26 ≤ gS g r j ∧ zE g s (gS g r j - 26)
      refine zl_up (fun p (x : Int32) => ([nI k, x, nI r, nI p], [], f.2)) (fun p x => zBits (fun r' => (r' < r ∧ zDo g s w k r') ∨ (r' = r ∧ P p)) x) 0 (gZ g r + 1) x (by omega) (by omega) rfl (fun j hj => (hx j hj).trans ⟨fun q => .inl q, fun q => q.elim id fun q => absurd q.2 fun ⟨p, a, _⟩ => by omega⟩) ?_ ?_
      · rintro p x gb - hp hx hgo2
        unfold L233_a
        simp only [zI0, zI1, zI2, zI3, zI4, zI5, zI6, zI7, zI8, zJ0, zJ1, zJ2, zMM]
        rw [zr_i _ _ (by omega) (by omega), d_z q2.h hr, Option.bind_some, if_neg (by rw [zq_lt (by omega) (by omega)]; omega), zr_l _ _ (by omega) (by omega), hSf.1.2 k e5, Option.bind_some, show zzf zzP zN 12 222 [.long (w.2.1 k), .int (nI r), .int (nI p)] f.2 = _ from m_isPoint 11 (w.2.1 k) (by omega) (by omega) f.2, Option.bind_some]
        simp only [zB_0]
        have no : (¬ (zpt (w.2.1 k) r p = true ∧ ∀ j, p ≤ j → j < gZ g r → 26 ≤ gS g r j ∧ zE g s (gS g r j - 26))) → zw (J233_a zN 12 ga gb (nI k) x (nI r) (nI p) (nI 0) f.2) fun o => mQ z o.2 ∧ mI g s o.2 ∧ zBits (zDo g s w k) o.1.1 := by
          intro hn
          unfold J233_a
          rw [if_pos (by decide), zq_add]
          refine hgo2 _ fun j hj => ?_
          rw [b_or, show (nI 0 : Int32) = 0 from rfl, b_0, Bool.or_false, hx j hj]
          refine or_congr Iff.rfl (and_congr_right fun _ => ⟨fun ⟨p', a, b⟩ => ⟨p', by omega, b⟩, fun ⟨p', a, b⟩ => ⟨p', ?_, b⟩⟩)
          apply Nat.lt_of_not_le
          intro f
          obtain rfl : p' = p := by omega
          exact hn b
        cases eb : zpt (w.2.1 k) r p with
        | false =>
          rw [if_pos rfl]
          exact no fun q => by rw [eb] at q; cases q.1
        | true =>
          obtain ⟨u, u1, u2, b, u3, u4⟩ := m_areIn q2.h K.hg 9 (f.2.1 105 26) (-(nI 1)) hr (show p ≤ gZ g r by omega) (Nat.le_refl _)
          have u1 : zzf zzP zN 12 202 [.ref 105, .int (f.2.1 105 26), .int (nI r), .int (nI p), .int (nI (gZ g r)), .int (-(nI 1))] f.2 = some u := u1
          have u5 : b = true ↔ ∀ j, p ≤ j → j < gZ g r → 26 ≤ gS g r j ∧ zE g s (gS g r j - 26) := u4.trans ⟨fun h j a c => (zam_E hE K.hg hr c).1 (h j a c (by rw [zq_em (by omega)]; exact id)), fun h j a c _ => (zam_E hE K.hg hr c).2 (h j a c)⟩
          rw [if_neg (by decide), zr_i _ _ (by omega) (by omega), d_z q2.h hr, Option.bind_some, u1, Option.bind_some, u2, u3]
          simp only [zB_0]
          cases b with
          | false =>
            rw [if_pos rfl]
            exact no fun q => by have := u5.2 q.2; cases this
          | true =>
            rw [if_neg (by decide)]
            unfold J233_a
            rw [if_neg (by decide), zq_add]
            refine hgo2 _ fun j hj => ?_
            rw [b_or, b_sh1 (by omega) hj, Bool.or_eq_true, decide_eq_true_eq, hx j hj]
            refine ⟨fun q => q.elim (fun q => q.imp id fun ⟨a, p', c, d⟩ => ⟨a, p', by omega, d⟩) fun q => .inr ⟨q, p, by omega, eb, u5.1 rfl⟩, fun q => q.elim (fun q => .inl (.inl q)) fun q => .inr q.1⟩
      · rintro x gb hx
        unfold L233_a
        simp only [zI0, zI1, zI2, zI3, zI4, zI5, zI6, zI7, zI8, zJ0, zJ1, zJ2, zMM]
        rw [zr_i _ _ (by omega) (by omega), d_z q2.h hr, Option.bind_some, if_pos (by rw [zq_lt (by omega) (by omega)]; omega), zq_add]
        refine hgo x fun j hj => (hx j hj).trans ⟨fun q => q.elim (fun q => ⟨by omega, q.2⟩) fun ⟨a, p, b, d⟩ => by rw [a]; exact ⟨by omega, hr, p, by omega, d⟩, fun ⟨a, b⟩ => ?_⟩
        by_cases ej : j = r
        · rw [ej] at b
          obtain ⟨_, p, c, d⟩ := b
          exact .inr ⟨ej, p, by omega, d⟩
        · exact .inl ⟨by omega, b⟩
    · rintro x ga hx
      unfold L233_b
      simp only [zI0, zI1, zI2, zI3, zI4, zI5, zI6, zI7, zI8, zJ0, zJ1, zJ2, zMM]
      rw [zr_i _ _ (by omega) (by omega), d_n q2.h, Option.bind_some, if_pos (by rw [zq_le (by omega) (by omega)]; omega)]
      exact zw_some ⟨mQ_t e8 q1, q2, fun j hj => (hx j hj).trans ⟨fun q => q.2, fun q => ⟨q.1, q⟩⟩⟩
/-! clashes -/
def zcm (g : zG) (w : zWs) (k r : Nat) : Bool := zpt (w.2.1 k) r (gZ g r)
def zFl (g : zG) (s : zSn) (r a : Nat) : Prop := a < 27 ∧ zFo g s a (gL g r - 26)
def zsf (w : zWs) (k a : Nat) : Prop := a < 26 ∧ (w.2.2 k a).isSome = true
def zCl (g : zG) (s : zSn) (w : zWs) (k : Nat) : Prop := (∃ a r, r < gN g ∧ zsf w k a ∧ zcm g w k r = true ∧ zFl g s r a) ∨ ∃ a r r', r < r' ∧ r' < gN g ∧ zcm g w k r = true ∧ zcm g w k r' = true ∧ zFl g s r a ∧ zFl g s r' a
theorem s_hasClash {g : zG} {s : zSn} {μ : zzM} (K : zOk g s) (h : zc2 g s μ) {w : zWs} (hw : zwt w) (hS : zcSt w μ) (hF : zmW g s (μ.1 23)) (d : Nat) {k : Nat} (hk : k < w.1) : zw (zzf zzP zN (d + 3) 147 [.ref 0, .int (nI k)] μ) fun o => o.2 = μ ∧ o.1.1 = zB (zdc (zCl g s w k)) := by
  have hgn := g_n K.hg
  have h90 := hw.2.1
  rw [w_pf_hasClash]
  obtain ⟨u, u1, u2, u3⟩ := s_smalls d hw hS hk
  rw [u1, Option.bind_some, u2]
  refine zl_up (fun r (x : Int32) => ([nI k, x, nI r], [], μ)) (fun r x => zBits (fun a => zsf w k a ∨ ∃ r', r' < r ∧ zcm g w k r' = true ∧ zFl g s r' a) x ∧ (∀ a r', r' < r → zsf w k a → zcm g w k r' = true → ¬ zFl g s r' a) ∧ ∀ a r1 r2, r1 < r2 → r2 < r → zcm g w k r1 = true → zcm g w k r2 = true → zFl g s r1 a → ¬ zFl g s r2 a) 0 (gN g) u.1.1 (by omega) (by omega) rfl ⟨fun a ha => (u3 a ha).trans ⟨fun q => .inl q, fun q => q.elim id fun ⟨r', q, _⟩ => by omega⟩, fun a r' q => absurd q (by omega), fun a r1 r2 _ q => absurd q (by omega)⟩ ?_ ?_
  · rintro r x ga - hr ⟨hx, hJ1, hJ2⟩ hgo
    have hz4 := g_z K.hg hr
    obtain ⟨hl1, hl2⟩ := g_l K.hg hr
    obtain ⟨p, p1, p2, p3⟩ := s_pointsOf (d + 1) hS hk (show r < 12 by omega)
    unfold L147_a
    simp only [zI0, zI1, zI2, zI3, zI4, zI5, zI6, zI7, zI8, zJ0, zJ1, zJ2, zMM]
    rw [c_n h, if_neg (by rw [zq_le (by omega) (by omega)]; omega), zr_i _ _ (by omega) (by omega), c_z h hr, Option.bind_some, p1, Option.bind_some, p2]
    have hiff : (p.1.1 &&& (nI 1 <<< (nI (gZ g r) &&& 31))) = 0 ↔ zcm g w k r = false := by
      rw [b_and0]
      constructor
      · intro q
        apply Bool.eq_false_iff.2
        intro q2
        exact q (gZ g r) (by omega) ⟨(p3 _ (by omega)).2 ⟨by omega, q2⟩, by rw [b_sh1 (by omega) (by omega), decide_eq_true rfl]⟩
      · intro q j hj ⟨q1, q2⟩
        rw [b_sh1 (by omega) hj, decide_eq_true_eq] at q2
        rw [q2] at q1
        have := ((p3 _ (by omega)).1 q1).2
        unfold zcm zpt at q
        rw [this] at q
        cases q
    rw [zif_cg hiff]
    cases ec : zcm g w k r with
    | false =>
      rw [if_pos rfl, zq_add]
      have ne : ∀ r', r' < r + 1 → zcm g w k r' = true → r' < r := fun r' a b => by
        apply Nat.lt_of_not_le
        intro f
        obtain rfl : r' = r := by omega
        rw [ec] at b
        cases b
      exact hgo x ⟨fun a ha => (hx a ha).trans (or_congr Iff.rfl ⟨fun ⟨r', q1, q2⟩ => ⟨r', by omega, q2⟩, fun ⟨r', q1, q2, q3⟩ => ⟨r', ne r' q1 q2, q2, q3⟩⟩), fun a r' q1 q2 q3 => hJ1 a r' (ne r' q1 q3) q2 q3, fun a r1 r2 q1 q2 q3 q4 => hJ2 a r1 r2 q1 (ne r2 q2 q4) q3 q4⟩
    | true =>
      rw [if_neg (by decide), zr_i _ _ (by omega) (by omega), c_l h hr, Option.bind_some, zq_sub hl1, zr_i _ _ (by omega) (by omega), Option.bind_some]
      have hfb : ∀ a, a < 32 → (bt (μ.1 23 (gL g r - 26)) a = true ↔ zFl g s r a) := fun a ha => hF _ (by omega) a ha
      by_cases e : (x &&& μ.1 23 (gL g r - 26)) = 0
      · rw [if_pos e, zq_add]
        rw [b_and0] at e
        have e' : ∀ a, (zsf w k a ∨ ∃ r', r' < r ∧ zcm g w k r' = true ∧ zFl g s r' a) → ¬ zFl g s r a := fun a q1 q2 => by
          have ha : a < 32 := by have := q2.1; omega
          exact e a ha ⟨(hx a ha).2 q1, (hfb a ha).2 q2⟩
        refine hgo _ ⟨fun a ha => ?_, fun a r' q1 q2 q3 => ?_, fun a r1 r2 q1 q2 q3 q4 q5 => ?_⟩
        · rw [b_or, Bool.or_eq_true, hx a ha, hfb a ha]
          exact ⟨fun q => q.elim (fun q => q.imp id fun ⟨r', q1, q2⟩ => ⟨r', by omega, q2⟩) fun q => .inr ⟨r, by omega, ec, q⟩, fun q => q.elim (fun q => .inl (.inl q)) fun ⟨r', q1, q2, q3⟩ => by
            by_cases er : r' = r
            · rw [er] at q3
              exact .inr q3
            · exact .inl (.inr ⟨r', by omega, q2, q3⟩)⟩
        · by_cases er : r' = r
          · rw [er]
            exact e' a (.inl q2)
          · exact hJ1 a r' (by omega) q2 q3
        · by_cases er : r2 = r
          · rw [er] at q1 ⊢
            exact e' a (.inr ⟨r1, q1, q3, q5⟩)
          · exact hJ2 a r1 r2 q1 (by omega) q3 q4 q5
      · rw [if_neg e, if_pos (by decide)]
        refine zw_some ⟨rfl, ?_⟩
        rw [zdT, zB_t]
        have : ∃ j, j < 32 ∧ bt x j = true ∧ bt (μ.1 23 (gL g r - 26)) j = true := by
          apply Classical.byContradiction
          intro f
          exact e ((b_and0 _ _).2 fun j hj q => f ⟨j, hj, q⟩)
        obtain ⟨a, ha, q1, q2⟩ := this
        rw [hx a ha] at q1
        rw [hfb a ha] at q2
        rcases q1 with q1 | ⟨r', q3, q4, q5⟩
        · exact .inl ⟨a, r, hr, q1, ec, q2⟩
        · exact .inr ⟨a, r', r, q3, hr, q4, ec, q5, q2⟩
  · rintro x ga ⟨hx, hJ1, hJ2⟩
    unfold L147_a
    simp only [zI0, zI1, zI2, zI3, zI4, zI5, zI6, zI7, zI8, zJ0, zJ1, zJ2, zMM]
    rw [c_n h, if_pos (by rw [zq_le (by omega) (by omega)]; omega), if_pos (by decide)]
    refine zw_some ⟨rfl, ?_⟩
    rw [zdF, zB_f]
    rintro (⟨a, r, q1, q2, q3, q4⟩ | ⟨a, r1, r2, q1, q2, q3, q4, q5, q6⟩)
    · exact hJ1 a r q1 q2 q3 q4
    · exact hJ2 a r1 r2 q1 q2 q3 q4 q5 q6
theorem zcnt_g1 {p : Nat → Bool} : ∀ {n : Nat}, 1 ≤ zcnt p n → ∃ i, i < n ∧ p i = true
  | 0, h => absurd h (by show ¬ 1 ≤ 0; omega)
  | n + 1, h => by
    cases e : p n with
    | true => exact ⟨n, by omega, e⟩
    | false =>
      have : 1 ≤ zcnt p n := by
        have h : 1 ≤ zcnt p n + (if p n then 1 else 0) := h
        rw [e, if_neg (by decide)] at h
        exact h
      obtain ⟨i, a, b⟩ := zcnt_g1 this
      exact ⟨i, by omega, b⟩
theorem zcnt_g2 {p : Nat → Bool} : ∀ {n : Nat}, 2 ≤ zcnt p n → ∃ i j, i < j ∧ j < n ∧ p i = true ∧ p j = true
  | 0, h => absurd h (by show ¬ 2 ≤ 0; omega)
  | n + 1, h => by
    have h : 2 ≤ zcnt p n + (if p n then 1 else 0) := h
    cases e : p n with
    | true =>
      rw [e, if_pos rfl] at h
      obtain ⟨i, a, b⟩ := zcnt_g1 (show 1 ≤ zcnt p n by omega)
      exact ⟨i, n, a, by omega, b, e⟩
    | false =>
      rw [e, if_neg (by decide)] at h
      obtain ⟨i, j, a, b, c⟩ := zcnt_g2 h
      exact ⟨i, j, a, by omega, c⟩
theorem m_doesClash {g : zG} {s : zSn} {μ : zzM} (K : zOk g s) (h : zm2 g s μ) {w : zWs} (hw : zwt w) (hS : zmSt w μ) (hF : zmW g s (μ.1 128)) (d : Nat) {k : Nat} (hk : k < w.1) : zw (zzf zzP zN (d + 2) 234 [.ref 105, .int (nI k)] μ) fun o => o.2 = μ ∧ o.1.1 = zB (zdc (zCl g s w k)) := by
  have hgn := g_n K.hg
  have h90 := hw.2.1
  rw [w_m_doesClash]
  let Q : Nat → Nat → Bool := fun a r => zcm g w k r && zdc (zFl g s r a)
  refine zl_up (fun a (_ : Unit) => ([nI k, nI a], [], μ)) (fun a _ => ∀ a', a' < a → (if zdc (zsf w k a') then 1 else 0) + zcnt (Q a') (gN g) ≤ 1) 0 27 () (by omega) (by omega) rfl (fun a' q => absurd q (by omega)) ?_ ?_
  · rintro a - ga - ha hJ hgo
    unfold L234_b
    simp only [zI0, zI1, zI2, zI3, zI4, zI5, zI6, zI7, zI8, zJ0, zJ1, zJ2, zMM]
    rw [if_neg (by rw [zq_lt (by omega) (by omega)]; omega)]
    have fin : ∀ n, n = (if zdc (zsf w k a) then 1 else 0) → zw (J234_a zN (d + 1) ga (nI k) (nI a) (nI n) μ) fun o => o.2 = μ ∧ o.1.1 = zB (zdc (zCl g s w k)) := by
      intro n hn
      have hn1 : n ≤ 1 := by
        rw [hn]
        split <;> omega
      unfold J234_a
      refine zl_up (fun r (_ : Unit) => ([nI k, nI a, nI (n + zcnt (Q a) r), nI r], [], μ)) (fun r _ => True) 0 (gN g) () (by omega) (by omega) rfl trivial ?_ ?_
      · rintro r - gb - hr - hgo2
        have hz4 := g_z K.hg hr
        obtain ⟨hl1, hl2⟩ := g_l K.hg hr
        have hgo2 := hgo2 () trivial
        rw [zrl_s] at hgo2
        unfold L234_a
        simp only [zI0, zI1, zI2, zI3, zI4, zI5, zI6, zI7, zI8, zJ0, zJ1, zJ2, zMM]
        rw [zr_i _ _ (by omega) (by omega), d_n h, Option.bind_some, if_neg (by rw [zq_le (by omega) (by omega)]; omega), zr_l _ _ (by omega) (by omega), hS.1.2 k hk, Option.bind_some, zr_i _ _ (by omega) (by omega), d_z h hr, Option.bind_some, m_isPoint d (w.2.1 k) (by omega) (by omega) μ, Option.bind_some]
        simp only [zB_0, zq_add]
        have hQ : Q a r = (zcm g w k r && zdc (zFl g s r a)) := rfl
        cases ec : zpt (w.2.1 k) r (gZ g r) with
        | false =>
          rw [if_pos rfl]
          rw [hQ, show zcm g w k r = false from ec, Bool.false_and, if_neg (by decide)] at hgo2
          exact hgo2
        | true =>
          rw [if_neg (by decide), zr_i _ _ (by omega) (by omega), d_l h hr, Option.bind_some, zq_sub hl1, zr_i _ _ (by omega) (by omega), Option.bind_some, m_has, Option.bind_some]
          simp only [zB_0]
          rw [hQ, show zcm g w k r = true from ec, Bool.true_and] at hgo2
          have hb := hF (gL g r - 26) (by omega) a (by omega)
          by_cases ef : zFl g s r a
          · rw [if_neg (by rw [decide_eq_false_iff_not, b_bit1 _ (by omega), hb.2 ef]; decide)]
            rw [zdT ef, if_pos rfl] at hgo2
            exact hgo2
          · rw [if_pos (by rw [decide_eq_false_iff_not, b_bit1 _ (by omega), show bt (μ.1 128 (gL g r - 26)) a = false from Bool.eq_false_iff.2 fun q => ef (hb.1 q)]; decide)]
            rw [zdF ef, if_neg (by decide)] at hgo2
            exact hgo2
      · rintro - gb -
        have hcb : zcnt (Q a) (gN g) ≤ gN g := zcnt_le _ _
        unfold L234_a
        simp only [zI0, zI1, zI2, zI3, zI4, zI5, zI6, zI7, zI8, zJ0, zJ1, zJ2, zMM]
        rw [zr_i _ _ (by omega) (by omega), d_n h, Option.bind_some, if_pos (by rw [zq_le (by omega) (by omega)]; omega)]
        by_cases e : n + zcnt (Q a) (gN g) ≤ 1
        · rw [if_pos (by rw [zq_le (by omega) (by omega)]; omega), zq_add]
          refine hgo () fun a' ha' => ?_
          by_cases ea : a' = a
          · rw [ea, ← hn]
            exact e
          · exact hJ a' (by omega)
        · rw [if_neg (by rw [zq_le (by omega) (by omega)]; omega), if_pos (by decide)]
          refine zw_some ⟨rfl, ?_⟩
          rw [zdT, zB_t]
          by_cases ez : zsf w k a
          · rw [zdT ez, if_pos rfl] at hn
            obtain ⟨r, r1, r2⟩ := zcnt_g1 (p := Q a) (n := gN g) (by omega)
            have r2 : (zcm g w k r && zdc (zFl g s r a)) = true := r2
            rw [Bool.and_eq_true] at r2
            exact .inl ⟨a, r, r1, ez, r2.1, zdc_t.1 r2.2⟩
          · rw [zdF ez, if_neg (by decide)] at hn
            obtain ⟨r, r', r1, r2, r3, r4⟩ := zcnt_g2 (p := Q a) (n := gN g) (by omega)
            have r3 : (zcm g w k r && zdc (zFl g s r a)) = true := r3
            have r4 : (zcm g w k r' && zdc (zFl g s r' a)) = true := r4
            rw [Bool.and_eq_true] at r3 r4
            exact .inr ⟨a, r, r', r1, r2, r3.1, r4.1, zdc_t.1 r3.2, zdc_t.1 r4.2⟩
    by_cases e26 : 26 ≤ a
    · rw [if_pos (by rw [zq_le (by omega) (by omega)]; omega)]
      exact fin 0 (by rw [zdF fun q => by have := q.1; omega]; rfl)
    · rw [if_neg (by rw [zq_le (by omega) (by omega)]; omega)]
      simp only [zq_mul, zq_add]
      rw [zr_i _ _ (by omega) (by omega), hS.2 k a hk (by omega), Option.bind_some]
      cases et : w.2.2 k a with
      | none =>
        show zw (if -(nI 1) = -(nI 1) then _ else _) _
        rw [if_pos rfl]
        exact fin 0 (by rw [zdF fun q => by have := q.2; rw [et] at this; cases this]; rfl)
      | some t =>
        have ht := hw.2.2 k a t et
        show zw (if nI t = -(nI 1) then _ else _) _
        rw [zif_cg (Iff.of_eq (zq_em (by omega))), if_neg (fun q => q)]
        exact fin 1 (by rw [zdT ⟨by omega, by rw [et]; rfl⟩]; rfl)
  · rintro - ga hJ
    unfold L234_b
    simp only [zI0, zI1, zI2, zI3, zI4, zI5, zI6, zI7, zI8, zJ0, zJ1, zJ2, zMM]
    rw [if_pos (by decide), if_pos (by decide)]
    refine zw_some ⟨rfl, ?_⟩
    rw [zdF, zB_f]
    rintro (⟨a, r, q1, q2, q3, q4⟩ | ⟨a, r1, r2, q1, q2, q3, q4, q5, q6⟩)
    · have := hJ a (by have := q2.1; omega)
      rw [zdT q2, if_pos rfl] at this
      have h2 := zcnt_up (p := Q a) (a := r) (b := gN g) (by show (zcm g w k r && zdc (zFl g s r a)) = true; rw [q3, zdT q4]; rfl) q1
      omega
    · have := hJ a (by have := q5.1; omega)
      have h2 := zcnt_up (p := Q a) (a := r1) (b := r2) (by show (zcm g w k r1 && zdc (zFl g s r1 a)) = true; rw [q3, zdT q5]; rfl) q1
      have h3 := zcnt_up (p := Q a) (a := r2) (b := gN g) (by show (zcm g w k r2 && zdc (zFl g s r2 a)) = true; rw [q4, zdT q6]; rfl) q2
      omega
theorem q_clashes {g : zG} {s : zSn} {μ : zzM} (K : zOk g s) (c : cI g s μ) (m : mI g s μ) : zQ g s 146 235 [.ref 0] [.ref 105] μ := by
  by_cases hn : gN g = 0
  · refine zQ_v (-(nI 1)) m (cA_s c (a := 0) (b := 0) ?_ rfl) fun z hz => mA_s hz (a := 0) (b := 0) ?_ rfl
    · rw [show (13 : Nat) = 12 + 1 from rfl, w_pf_clashes, show zzf zzP zN 12 128 [.ref 0] μ = _ from c_noG c.h K.hg 11, Option.bind_some, zdT hn, if_neg (show ¬ zB true = 0 by decide)]
    · rw [show (13 : Nat) = 12 + 1 from rfl, w_m_clashes, show zzf zzP zN 12 175 [.ref 105] z = _ from d_isG hz.h K.hg 11, Option.bind_some, zdF (by omega), if_pos (show zB false = 0 by decide)]
  · have hn' : 0 < gN g := by omega
    obtain ⟨w, hw⟩ := K.hw hn'
    have hwt := zLay_wt hw
    have h90 := hwt.2.1
    refine zQ_v (nI (zcnt (fun k => zdc (zCl g s w k)) w.1)) m ?_ fun z hz => ?_
    · obtain ⟨o, a1, a2, a3, a4, w', a5, a6, a7⟩ := c_states K c hn' 8
      have a1 : zzf zzP zN 12 127 [.ref 0] μ = some o := a1
      rw [hw] at a5
      cases a5
      obtain ⟨f, f1, f2, f3, f4, f5⟩ := s_foundFacts a4.h K.hg hn' 6 a4.F
      have f1 : zzf zzP zN 12 126 [.ref 0] o.2 = some f := f1
      have hcf : cI g s f.2 := cI_F a4 f3 f4 f5
      have hSf : zcSt w f.2 := zcSt_fr a6 f3 rfl
      unfold cA
      rw [show (13 : Nat) = 12 + 1 from rfl, w_pf_clashes, show zzf zzP zN 12 128 [.ref 0] μ = _ from c_noG c.h K.hg 11, Option.bind_some, zdF hn, if_pos (show zB false = 0 by decide), a1, Option.bind_some, if_pos a2, f1, Option.bind_some, if_pos f2]
      refine zl_up (fun k (_ : Unit) => ([nI (zcnt (fun k => zdc (zCl g s w k)) k), nI k], [], f.2)) (fun k _ => True) 0 w.1 () (by omega) (by omega) rfl trivial ?_ ?_
      · rintro k - ga - hk - hgo
        have hgo := hgo () trivial
        rw [zrl_s] at hgo
        obtain ⟨u, u1, u2, u3⟩ := s_hasClash K hcf.h hwt hSf f4.2.2.2.2.2.2.1 9 hk
        have u1 : zzf zzP zN 12 147 [.ref 0, .int (nI k)] f.2 = some u := u1
        unfold L146_a
        simp only [zI0, zI1, zI2, zI3, zI4, zI5, zI6, zI7, zI8, zJ0, zJ1, zJ2, zMM]
        rw [hSf.1.1, if_neg (by rw [zq_le (by omega) (by omega)]; omega), u1, Option.bind_some, u3, u2]
        simp only [zB_0, zq_add]
        cases e : zdc (zCl g s w k) with
        | false =>
          rw [if_pos rfl]
          rw [e, if_neg (by decide)] at hgo
          exact hgo
        | true =>
          rw [if_neg (by decide)]
          rw [e, if_pos rfl] at hgo
          exact hgo
      · rintro - ga -
        unfold L146_a
        simp only [zI0, zI1, zI2, zI3, zI4, zI5, zI6, zI7, zI8, zJ0, zJ1, zJ2, zMM]
        rw [hSf.1.1, if_pos (by rw [zq_le (by omega) (by omega)]; omega)]
        exact zw_some ⟨zf_trans (zf_mono a3 rfl) (zf_mono f3 rfl), hcf, rfl⟩
    · obtain ⟨p, b1, b2, b3, b4, b5, w', b6, b7⟩ := d_states K hz hn' 5
      have b1 : zzf zzP zN 12 228 [.ref 105] z = some p := b1
      rw [hw] at b6
      cases b6
      obtain ⟨f, f1, f2, f3, f4, f5, f6⟩ := m_laysFollow b4.h K.hg hn' 5
      have f1 : zzf zzP zN 12 215 [.ref 105] p.2 = some f := f1
      obtain ⟨q1, q2⟩ := mI_105 b4 f2 f6 rfl rfl rfl
      have hSf : zmSt w f.2 := zmSt_fr b7 f2 (f6 35 (by omega)) rfl
      unfold mA
      rw [show (13 : Nat) = 12 + 1 from rfl, w_m_clashes, show zzf zzP zN 12 175 [.ref 105] z = _ from d_isG hz.h K.hg 11, Option.bind_some, zdT hn', if_neg (show ¬ zB true = 0 by decide), b1, Option.bind_some, f1, Option.bind_some]
      refine zl_up (fun k (_ : Unit) => ([nI (zcnt (fun k => zdc (zCl g s w k)) k), nI k], [], f.2)) (fun k _ => True) 0 w.1 () (by omega) (by omega) rfl trivial ?_ ?_
      · rintro k - ga - hk - hgo
        have hgo := hgo () trivial
        rw [zrl_s] at hgo
        obtain ⟨u, u1, u2, u3⟩ := m_doesClash K q2.h hwt hSf f5 10 hk
        have u1 : zzf zzP zN 12 234 [.ref 105, .int (nI k)] f.2 = some u := u1
        unfold L235_a
        simp only [zI0, zI1, zI2, zI3, zI4, zI5, zI6, zI7, zI8, zJ0, zJ1, zJ2, zMM]
        rw [hSf.1.1, if_neg (by rw [zq_le (by omega) (by omega)]; omega), u1, Option.bind_some, u3, u2]
        simp only [zB_0, zq_add]
        cases e : zdc (zCl g s w k) with
        | false =>
          rw [if_pos rfl]
          rw [e, if_neg (by decide)] at hgo
          exact hgo
        | true =>
          rw [if_neg (by decide)]
          rw [e, if_pos rfl] at hgo
          exact hgo
      · rintro - ga -
        unfold L235_a
        simp only [zI0, zI1, zI2, zI3, zI4, zI5, zI6, zI7, zI8, zJ0, zJ1, zJ2, zMM]
        rw [hSf.1.1, if_pos (by rw [zq_le (by omega) (by omega)]; omega)]
        exact zw_some ⟨mQ_t (mQ_st b2 b3) q1, q2, rfl⟩
