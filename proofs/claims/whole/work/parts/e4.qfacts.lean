/-! QUERIES: facts -/
def zBits (P : Nat → Prop) (x : Int32) : Prop := ∀ c, c < 32 → (bt x c = true ↔ P c)
theorem zBits_un {P : Nat → Prop} {x y : Int32} (h : zBits P x) (h' : zBits P y) : x = y := b_ext fun i hi => by rw [Bool.eq_iff_iff, h i hi, h' i hi]
theorem c_isLeft {g : zG} {s : zSn} {μ : zzM} (h : zc2 g s μ) (hg : zwg g) (d : Nat) (a : Int32) : zzf zzP zN (d + 1) 131 [.ref 0, .int a] μ = some ((zB (zdc (∃ r, r < gN g ∧ a = nI (gL g r))), 0, 0), μ) := by
  rw [s_isLeft]
  congr 4
  unfold zdc
  refine decide_eq_decide.2 ⟨fun ⟨h1, h2, h3⟩ => ?_, fun ⟨r, hr, e⟩ => ?_⟩
  · rcases zq_cases a with q | ⟨n, hn, rfl⟩
    · exfalso
      rw [Int32.lt_iff_toInt_lt] at q
      rw [Int32.le_iff_toInt_le, show (nI 26).toInt = 26 by decide] at h1
      have h0 : (0 : Int32).toInt = 0 := by decide
      omega
    · rw [zq_le (by omega) hn] at h1
      rw [zq_lt hn (by omega)] at h2
      rw [zq_sub h1, b_bit _ (by omega), c_lf h (by omega)] at h3
      have h3 := of_decide_eq_true ((Bool.not_eq_false _).mp h3)
      obtain ⟨r, r1, r2⟩ := h3
      exact ⟨r, r1, by rw [r2, show 26 + (n - 26) = n by omega]⟩
  · obtain ⟨hl1, hl2⟩ := g_l hg hr
    rw [e, zq_le (by omega) (by omega), zq_lt (by omega) (by omega), zq_sub hl1, b_bit _ (by omega), c_lf h (by omega), decide_eq_true ⟨r, hr, by omega⟩]
    exact ⟨hl1, hl2, by decide⟩
theorem cI_F {g : zG} {s : zSn} {μ : zzM} {y : zzM} (c : cI g s μ) (hf : zfr [21, 22, 23, 24, 25] μ y) (h : zcF g s y) (h1 : y.1 21 1 = nI 1) : cI g s y := cI_up c hf rfl (.inr (.inr ⟨h1, h⟩)) (.inl rfl) (.inl rfl) (.inl rfl) (.inl rfl) (.inl rfl) (.inl rfl) (.inl rfl) (.inl rfl)
/-- the class's facts -/
theorem c_facts {g : zG} {s : zSn} {μ : zzM} (K : zOk g s) (c : cI g s μ) (hn : 0 < gN g) (d : Nat) : zw (zzf zzP zN (d + 6) 126 [.ref 0] μ) fun o => o.1.2.2 = 21 ∧ zfr cQl μ o.2 ∧ cI g s o.2 ∧ zcF g s o.2 := by
  obtain ⟨o, a1, a2, a3, a4, a5⟩ := s_foundFacts c.h K.hg hn d c.F
  exact ⟨o, a1, a2, zf_mono a3 rfl, cI_F c a3 a4 a5, a4⟩
theorem mI_105 {g : zG} {s : zSn} {μ : zzM} {y : zzM} {L : List Nat} (m : mI g s μ) (hf : zfr L μ y) (hk : ∀ k, (k < 26 ∨ 29 < k) → y.1 105 k = μ.1 105 k) (h0 : zdj [106, 107, 108, 109, 110, 111, 112, 113] L) (hl : zdj [130, 131, 134, 137, 138, 139, 143, 146] L) (hm : L.all (fun c => mQl.elem c) = true) : mQ μ y ∧ mI g s y := ⟨⟨zf_mono hf hm, hk 16 (by omega), hk 39 (by omega)⟩, mI_fr m hf (hk 35 (by omega)) (hk 36 (by omega)) h0 hl⟩
theorem q_facts {g : zG} {s : zSn} {μ : zzM} (K : zOk g s) (c : cI g s μ) (m : mI g s μ) (a1 : Int32) : zQ g s 138 210 [.ref 0, .int a1] [.ref 105, .int a1] μ := by
  have hgn := g_n K.hg
  by_cases hn : gN g = 0
  · refine zQ_v (-(nI 1)) m (cA_s c (a := 0) (b := 0) ?_ rfl) fun z hz => mA_s hz (a := 0) (b := 0) ?_ rfl
    · rw [show (13 : Nat) = 12 + 1 from rfl, w_pf_facts, show zzf zzP zN 12 128 [.ref 0] μ = _ from c_noG c.h K.hg 11, Option.bind_some, zdT hn, if_neg (show ¬ zB true = 0 by decide)]
    · rw [show (13 : Nat) = 12 + 1 from rfl, w_m_facts, show zzf zzP zN 12 175 [.ref 105] z = _ from d_isG hz.h K.hg 11, Option.bind_some, zdF (by omega), if_pos (show zB false = 0 by decide)]
  · have hn' : 0 < gN g := by omega
    obtain ⟨o, o1, o2, o3, o4, o5⟩ := c_facts K c hn' 6
    have o1 : zzf zzP zN 12 126 [.ref 0] μ = some o := o1
    have hc : ∀ x, (if a1 = nI 0 then some ((o.2.1 21 2, (0 : Int64), (0 : Nat)), o.2) else if a1 = nI 1 then some ((o.2.1 21 3, 0, 0), o.2) else if a1 = nI 2 then some ((o.2.1 21 4, 0, 0), o.2) else if a1 = nI 3 then some ((o.2.1 21 5, 0, 0), o.2) else if a1 = nI 4 then some ((o.2.1 21 6, 0, 0), o.2) else if a1 = nI 5 then some ((μ.1 3 1, 0, 0), μ) else some ((-(nI 1), 0, 0), μ)) = some x → zzf zzP zN 13 138 [.ref 0, .int a1] μ = some x := by
      intro x hx
      rw [show (13 : Nat) = 12 + 1 from rfl, w_pf_facts, show zzf zzP zN 12 128 [.ref 0] μ = _ from c_noG c.h K.hg 11, Option.bind_some, zdF hn, if_pos (show zB false = 0 by decide), o1]
      simp only [Option.bind_some, o2, if_true]
      exact hx
    have hm : ∀ z, mI g s z → ∃ p : zzR, zmFa g s p.2 ∧ mQ z p.2 ∧ mI g s p.2 ∧ ∀ x, (if a1 = nI 0 then some ((p.2.1 105 26, (0 : Int64), (0 : Nat)), p.2) else if a1 = nI 1 then some ((p.2.1 105 27, 0, 0), p.2) else if a1 = nI 2 then some ((p.2.1 105 28, 0, 0), p.2) else if a1 = nI 3 then (zzf zzP zN 12 208 [.ref 105, .int (nI 1)] p.2).bind fun o3 => some ((o3.1.1, 0, 0), o3.2) else if a1 = nI 4 then (zzf zzP zN 12 208 [.ref 105, .int (nI 0)] p.2).bind fun o4 => some ((o4.1.1, 0, 0), o4.2) else if a1 = nI 5 then some ((p.2.1 105 29, 0, 0), p.2) else some ((-(nI 1), 0, 0), p.2)) = some x → zzf zzP zN 13 210 [.ref 105, .int a1] z = some x := by
      intro z hz
      obtain ⟨p, b1, b2, b3, b4⟩ := m_laysFacts hz.h K.hg hn' 7
      have b1 : zzf zzP zN 12 207 [.ref 105] z = some p := b1
      obtain ⟨q1, q2⟩ := mI_105 hz b2 b4 rfl rfl rfl
      refine ⟨p, b3, q1, q2, fun x hx => ?_⟩
      rw [show (13 : Nat) = 12 + 1 from rfl, w_m_facts, show zzf zzP zN 12 175 [.ref 105] z = _ from d_isG hz.h K.hg 11, Option.bind_some, zdT hn', if_neg (show ¬ zB true = 0 by decide), b1, Option.bind_some]
      exact hx
    have bits : ∀ (P : Nat → Prop) (x : Int32), (∃ y, (y = o.2 ∨ y = μ) ∧ zzf zzP zN 13 138 [.ref 0, .int a1] μ = some ((x, 0, 0), y)) → zBits P x → (∀ z, mI g s z → mA g s 13 210 [.ref 105, .int a1] z (zBits P)) → zQ g s 138 210 [.ref 0, .int a1] [.ref 105, .int a1] μ := by
      rintro P x ⟨y, hy, e⟩ hx hmm
      refine zQ_of (A := zBits P) m ⟨_, e, ?_, ?_, hx⟩ hmm fun _ _ => zBits_un
      · rcases hy with rfl | rfl
        · exact o3
        · exact zf_refl _ _
      · rcases hy with rfl | rfl
        · exact o4
        · exact c
    obtain ⟨f1, f2, f3, f4, f5, -⟩ := id o5
    by_cases e0 : a1 = nI 0
    · refine bits _ _ ⟨o.2, .inl rfl, hc _ (by rw [if_pos e0])⟩ f1 fun z hz => ?_
      obtain ⟨p, p1, p2, p3, p4⟩ := hm z hz
      exact ⟨((p.2.1 105 26, 0, 0), p.2), p4 _ (by rw [if_pos e0]), p2, p3, p1.1⟩
    · by_cases e1 : a1 = nI 1
      · refine bits _ _ ⟨o.2, .inl rfl, hc _ (by rw [if_neg e0, if_pos e1])⟩ f2 fun z hz => ?_
        obtain ⟨p, p1, p2, p3, p4⟩ := hm z hz
        exact ⟨((p.2.1 105 27, 0, 0), p.2), p4 _ (by rw [if_neg e0, if_pos e1]), p2, p3, p1.2.1⟩
      · by_cases e2 : a1 = nI 2
        · refine bits _ _ ⟨o.2, .inl rfl, hc _ (by rw [if_neg e0, if_neg e1, if_pos e2])⟩ f3 fun z hz => ?_
          obtain ⟨p, p1, p2, p3, p4⟩ := hm z hz
          exact ⟨((p.2.1 105 28, 0, 0), p.2), p4 _ (by rw [if_neg e0, if_neg e1, if_pos e2]), p2, p3, p1.2.2.1⟩
        · by_cases e3 : a1 = nI 3
          · refine bits _ _ ⟨o.2, .inl rfl, hc _ (by rw [if_neg e0, if_neg e1, if_neg e2, if_pos e3])⟩ f4 fun z hz => ?_
            obtain ⟨p, p1, p2, p3, p4⟩ := hm z hz
            obtain ⟨q, q1, q2, q3⟩ := m_againBy p3.h K.hg p1.1 7 true
            have q1 : zzf zzP zN 12 208 [.ref 105, .int (nI 1)] p.2 = some q := q1
            refine ⟨((q.1.1, 0, 0), q.2), p4 _ (by rw [if_neg e0, if_neg e1, if_neg e2, if_pos e3, q1, Option.bind_some]), ?_, ?_, q3⟩
            · simp only
              rw [q2]
              exact p2
            · simp only
              rw [q2]
              exact p3
          · by_cases e4 : a1 = nI 4
            · refine bits _ _ ⟨o.2, .inl rfl, hc _ (by rw [if_neg e0, if_neg e1, if_neg e2, if_neg e3, if_pos e4])⟩ f5 fun z hz => ?_
              obtain ⟨p, p1, p2, p3, p4⟩ := hm z hz
              obtain ⟨q, q1, q2, q3⟩ := m_againBy p3.h K.hg p1.1 7 false
              have q1 : zzf zzP zN 12 208 [.ref 105, .int (nI 0)] p.2 = some q := q1
              refine ⟨((q.1.1, 0, 0), q.2), p4 _ (by rw [if_neg e0, if_neg e1, if_neg e2, if_neg e3, if_pos e4, q1, Option.bind_some]), ?_, ?_, q3⟩
              · simp only
                rw [q2]
                exact p2
              · simp only
                rw [q2]
                exact p3
            · by_cases e5 : a1 = nI 5
              · refine bits (fun j => ∃ r, r < gN g ∧ gL g r = 26 + j) _ ⟨μ, .inr rfl, hc _ (by rw [if_neg e0, if_neg e1, if_neg e2, if_neg e3, if_neg e4, if_pos e5])⟩ (fun j hj => by rw [c_lf c.h hj, decide_eq_true_eq]) fun z hz => ?_
                obtain ⟨p, p1, p2, p3, p4⟩ := hm z hz
                exact ⟨((p.2.1 105 29, 0, 0), p.2), p4 _ (by rw [if_neg e0, if_neg e1, if_neg e2, if_neg e3, if_neg e4, if_pos e5]), p2, p3, p1.2.2.2⟩
              · refine zQ_v (-(nI 1)) m (cA_s c (a := 0) (b := 0) (hc _ (by rw [if_neg e0, if_neg e1, if_neg e2, if_neg e3, if_neg e4, if_neg e5])) rfl) fun z hz => ?_
                obtain ⟨p, p1, p2, p3, p4⟩ := hm z hz
                exact ⟨((-(nI 1), 0, 0), p.2), p4 _ (by rw [if_neg e0, if_neg e1, if_neg e2, if_neg e3, if_neg e4, if_neg e5]), p2, p3, rfl⟩
theorem q_firsts {g : zG} {s : zSn} {μ : zzM} (K : zOk g s) (c : cI g s μ) (m : mI g s μ) (a1 : Int32) : zQ g s 139 216 [.ref 0, .int a1] [.ref 105, .int a1] μ := by
  by_cases e : ∃ r, r < gN g ∧ a1 = nI (gL g r)
  · have hc1 : zzf zzP zN 12 131 [.ref 0, .int a1] μ = some ((zB true, 0, 0), μ) := by rw [← zdT e]; exact c_isLeft c.h K.hg 11 a1
    obtain ⟨r, hr, rfl⟩ := id e
    obtain ⟨hl1, hl2⟩ := g_l K.hg hr
    obtain ⟨o, o1, o2, o3, o4, o5⟩ := c_facts K c (by omega) 6
    have o1 : zzf zzP zN 12 126 [.ref 0] μ = some o := o1
    refine zQ_of (A := zBits (fun a => a < 26 ∧ zFi g s a (gL g r - 26))) (A' := zBits (fun a => a < 26 ∧ zFi g s a (gL g r - 26))) m ⟨((o.2.1 22 (gL g r - 26), 0, 0), o.2), ?_, o3, o4, o5.2.2.2.2.2.1 _ (by omega)⟩ (fun z hz => ?_) fun _ _ => zBits_un
    · rw [show (13 : Nat) = 12 + 1 from rfl, w_pf_firsts, hc1, Option.bind_some, if_neg (show ¬ zB true = 0 by decide), o1, Option.bind_some, if_pos o2, zq_sub hl1, zr_i _ _ (by omega) (by omega), Option.bind_some]
    · obtain ⟨i, i1, i2, b, i3, i4⟩ := m_isLeft hz.h K.hg 11 (nI (gL g r))
      have i1 : zzf zzP zN 12 179 [.ref 105, .int (nI (gL g r))] z = some i := i1
      obtain ⟨p, b1, b2, b3, b4, b5⟩ := m_laysFirst hz.h K.hg (by omega) 6
      have b1 : zzf zzP zN 12 213 [.ref 105] z = some p := b1
      obtain ⟨q1, q2⟩ := mI_105 hz b2 b5 rfl rfl rfl
      refine ⟨((p.2.1 127 (gL g r - 26), 0, 0), p.2), ?_, q1, q2, b4 _ (by omega)⟩
      rw [show (13 : Nat) = 12 + 1 from rfl, w_m_firsts, i1, Option.bind_some, i2, i3, i4.2 e, if_neg (show ¬ zB true = 0 by decide), b1, Option.bind_some, zq_sub hl1, zr_i _ _ (by omega) (by omega), Option.bind_some]
  · refine zQ_v (-(nI 1)) m (cA_s c (a := 0) (b := 0) ?_ rfl) fun z hz => mA_s hz (a := 0) (b := 0) ?_ rfl
    · rw [show (13 : Nat) = 12 + 1 from rfl, w_pf_firsts, show zzf zzP zN 12 131 [.ref 0, .int a1] μ = _ from c_isLeft c.h K.hg 11 a1, Option.bind_some, zdF e, if_pos (show zB false = 0 by decide)]
    · obtain ⟨i, i1, i2, b, i3, i4⟩ := m_isLeft hz.h K.hg 11 a1
      have i1 : zzf zzP zN 12 179 [.ref 105, .int a1] z = some i := i1
      rw [show (13 : Nat) = 12 + 1 from rfl, w_m_firsts, i1, Option.bind_some, i2, i3, show b = false from Bool.eq_false_iff.2 fun q => e (i4.1 q), if_pos (show zB false = 0 by decide)]
theorem q_follows {g : zG} {s : zSn} {μ : zzM} (K : zOk g s) (c : cI g s μ) (m : mI g s μ) (a1 : Int32) : zQ g s 140 217 [.ref 0, .int a1] [.ref 105, .int a1] μ := by
  by_cases e : ∃ r, r < gN g ∧ a1 = nI (gL g r)
  · have hc1 : zzf zzP zN 12 131 [.ref 0, .int a1] μ = some ((zB true, 0, 0), μ) := by rw [← zdT e]; exact c_isLeft c.h K.hg 11 a1
    obtain ⟨r, hr, rfl⟩ := id e
    obtain ⟨hl1, hl2⟩ := g_l K.hg hr
    obtain ⟨o, o1, o2, o3, o4, o5⟩ := c_facts K c (by omega) 6
    have o1 : zzf zzP zN 12 126 [.ref 0] μ = some o := o1
    refine zQ_of (A := zBits (fun a => a < 27 ∧ zFo g s a (gL g r - 26))) (A' := zBits (fun a => a < 27 ∧ zFo g s a (gL g r - 26))) m ⟨((o.2.1 23 (gL g r - 26), 0, 0), o.2), ?_, o3, o4, o5.2.2.2.2.2.2.1 _ (by omega)⟩ (fun z hz => ?_) fun _ _ => zBits_un
    · rw [show (13 : Nat) = 12 + 1 from rfl, w_pf_follows, hc1, Option.bind_some, if_neg (show ¬ zB true = 0 by decide), o1, Option.bind_some, if_pos o2, zq_sub hl1, zr_i _ _ (by omega) (by omega), Option.bind_some]
    · obtain ⟨i, i1, i2, b, i3, i4⟩ := m_isLeft hz.h K.hg 11 (nI (gL g r))
      have i1 : zzf zzP zN 12 179 [.ref 105, .int (nI (gL g r))] z = some i := i1
      obtain ⟨p, b1, b2, b3, b4, b5, b6⟩ := m_laysFollow hz.h K.hg (by omega) 5
      have b1 : zzf zzP zN 12 215 [.ref 105] z = some p := b1
      obtain ⟨q1, q2⟩ := mI_105 hz b2 b6 rfl rfl rfl
      refine ⟨((p.2.1 128 (gL g r - 26), 0, 0), p.2), ?_, q1, q2, b5 _ (by omega)⟩
      rw [show (13 : Nat) = 12 + 1 from rfl, w_m_follows, i1, Option.bind_some, i2, i3, i4.2 e, if_neg (show ¬ zB true = 0 by decide), b1, Option.bind_some, zq_sub hl1, zr_i _ _ (by omega) (by omega), Option.bind_some]
  · refine zQ_v (-(nI 1)) m (cA_s c (a := 0) (b := 0) ?_ rfl) fun z hz => mA_s hz (a := 0) (b := 0) ?_ rfl
    · rw [show (13 : Nat) = 12 + 1 from rfl, w_pf_follows, show zzf zzP zN 12 131 [.ref 0, .int a1] μ = _ from c_isLeft c.h K.hg 11 a1, Option.bind_some, zdF e, if_pos (show zB false = 0 by decide)]
    · obtain ⟨i, i1, i2, b, i3, i4⟩ := m_isLeft hz.h K.hg 11 a1
      have i1 : zzf zzP zN 12 179 [.ref 105, .int a1] z = some i := i1
      rw [show (13 : Nat) = 12 + 1 from rfl, w_m_follows, i1, Option.bind_some, i2, i3, show b = false from Bool.eq_false_iff.2 fun q => e (i4.1 q), if_pos (show zB false = 0 by decide)]
theorem q_shortest {g : zG} {s : zSn} {μ : zzM} (K : zOk g s) (c : cI g s μ) (m : mI g s μ) (a1 : Int32) : zQ g s 141 220 [.ref 0, .int a1] [.ref 105, .int a1] μ := by
  by_cases e : ∃ r, r < gN g ∧ a1 = nI (gL g r)
  · have hc1 : zzf zzP zN 12 131 [.ref 0, .int a1] μ = some ((zB true, 0, 0), μ) := by rw [← zdT e]; exact c_isLeft c.h K.hg 11 a1
    obtain ⟨r, hr, rfl⟩ := id e
    obtain ⟨hl1, hl2⟩ := g_l K.hg hr
    obtain ⟨o, o1, o2, o3, o4, o5⟩ := c_facts K c (by omega) 6
    have o1 : zzf zzP zN 12 126 [.ref 0] μ = some o := o1
    refine zQ_of (A := fun x => (∀ v, zSh g s (gL g r - 26) v → x = nI v) ∧ ((¬ ∃ h v, zDn g s h (gL g r - 26) v) → x = -(nI 2))) (A' := fun x => (∀ v, zSh g s (gL g r - 26) v → x = nI v) ∧ ((¬ ∃ h v, zDn g s h (gL g r - 26) v) → x = -(nI 2))) m ⟨((o.2.1 24 (gL g r - 26), 0, 0), o.2), ?_, o3, o4, o5.2.2.2.2.2.2.2 _ (by omega)⟩ (fun z hz => ?_) fun x x' h1 h2 => ?_
    · rw [show (13 : Nat) = 12 + 1 from rfl, w_pf_shortest, hc1, Option.bind_some, if_neg (show ¬ zB true = 0 by decide), o1, Option.bind_some, if_pos o2, zq_sub hl1, zr_i _ _ (by omega) (by omega), Option.bind_some]
    · obtain ⟨p, b1, b2, b3⟩ := m_shortest hz.h K.hg 10 hr
      exact ⟨p, b1, ⟨zf_mono b2 rfl, by rw [zf_i b2 rfl], by rw [zf_i b2 rfl]⟩, mI_fr hz b2 (by rw [zf_i b2 rfl]) (by rw [zf_i b2 rfl]) rfl rfl, b3⟩
    · by_cases q : ∃ h v, zDn g s h (gL g r - 26) v
      · obtain ⟨h, v, q⟩ := q
        obtain ⟨u, u1, u2⟩ := zleast (P := fun v => ∃ h, zDn g s h (gL g r - 26) v) ⟨h, q⟩
        have hs : zSh g s (gL g r - 26) u := ⟨u1, fun h w e => u2 w ⟨h, e⟩⟩
        rw [h1.1 u hs, h2.1 u hs]
      · rw [h1.2 q, h2.2 q]
  · refine zQ_v (-(nI 1)) m (cA_s c (a := 0) (b := 0) ?_ rfl) fun z hz => mA_s hz (a := 0) (b := 0) ?_ rfl
    · rw [show (13 : Nat) = 12 + 1 from rfl, w_pf_shortest, show zzf zzP zN 12 131 [.ref 0, .int a1] μ = _ from c_isLeft c.h K.hg 11 a1, Option.bind_some, zdF e, if_pos (show zB false = 0 by decide)]
    · obtain ⟨i, i1, i2, b, i3, i4⟩ := m_isLeft hz.h K.hg 11 a1
      have i1 : zzf zzP zN 12 179 [.ref 105, .int a1] z = some i := i1
      rw [show (13 : Nat) = 12 + 1 from rfl, u_m_shortest, i1, Option.bind_some, i2, i3, show b = false from Bool.eq_false_iff.2 fun q => e (i4.1 q), if_pos (show zB false = 0 by decide)]
