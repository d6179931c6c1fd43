/-! QUERIES: charts, ways, the forest -/
theorem mI_gen {g : zG} {s : zSn} {μ : zzM} {y : zzM} (m : mI g s μ) (h2 : zm2 g s y) {N : Nat → Prop} (hb : ∀ i, i < 32 → bt (y.1 105 36) i = true → bt (μ.1 105 36) i = true ∨ N i)
    (st : (y.1 105 35 = μ.1 105 35 ∧ y.2 130 = μ.2 130 ∧ y.1 131 = μ.1 131) ∨ ∃ w, zLay g s = some w ∧ zmSt w y)
    (k0 : (∀ p, p < 2028 → y.1 134 p = μ.1 134 p) ∨ mMk false g s y) (k1 : (∀ p, 2028 ≤ p → y.1 134 p = μ.1 134 p) ∨ mMk true g s y)
    (al : y.1 137 = μ.1 137 ∨ ∃ w, zLay g s = some w ∧ alOk g s w y) (tr : (y.1 138 = μ.1 138 ∧ y.2 139 = μ.2 139) ∨ trOk g s y) (fm : y.1 143 = μ.1 143 ∨ fmOk g s y) (sm : y.1 146 = μ.1 146 ∨ smOk g s y)
    (hg : gN g ≤ 12) (hsl : sL s ≤ 12) (hN : ∀ i, i < 7 → N i → mB g s y i) : mI g s y := by
  have hS : (∃ w, zLay g s = some w ∧ zmSt w μ) → ∃ w, zLay g s = some w ∧ zmSt w y := fun ⟨w, a, b⟩ => st.elim (fun q => ⟨w, a, by
    unfold zmSt zmS at b ⊢
    rw [q.1, q.2.1, q.2.2]
    exact b⟩) id
  have hM0 : mMk false g s μ → mMk false g s y := fun h => k0.elim (fun q => by
    unfold mMk mMd at h ⊢
    intro a i j b c e
    rw [q _ (show 2028 * zbn false + (169 * a + 13 * i + j) < 2028 by show 2028 * 0 + (169 * a + 13 * i + j) < 2028; omega)]
    exact h a i j b c e) id
  have hM1 : mMk true g s μ → mMk true g s y := fun h => k1.elim (fun q => by
    unfold mMk mMd at h ⊢
    intro a i j b c e
    rw [q _ (show 2028 ≤ 2028 * zbn true + (169 * a + 13 * i + j) by show 2028 ≤ 2028 * 1 + (169 * a + 13 * i + j); omega)]
    exact h a i j b c e) id
  refine mI_up (N := N) m h2 hb fun i hi q => ?_
  rcases q with q | q
  · match i with
    | 0 => exact hS q
    | 1 => exact hM0 q
    | 2 => exact hM1 q
    | 3 =>
      obtain ⟨w, a, b, c, e⟩ := q
      obtain ⟨w', a', b'⟩ := hS ⟨w, a, b⟩
      rw [a] at a'
      cases a'
      refine ⟨w, a, b', hM0 c, ?_⟩
      rcases al with q | ⟨w2, q1, q2⟩
      · unfold alOk at e ⊢
        rw [q]
        exact e
      · rw [a] at q1
        cases q1
        exact q2
    | 4 => exact ⟨hM1 q.1, tr.elim (fun z => by
        have e := q.2
        unfold trOk mEn mNu at e ⊢
        rw [z.1, z.2]
        exact e) id⟩
    | 5 => exact ⟨hM1 q.1, fm.elim (fun z => by
        have e := q.2
        unfold fmOk mPl mPc at e ⊢
        rw [z]
        exact e) id⟩
    | 6 => exact ⟨hM1 q.1, sm.elim (fun z => by
        have e := q.2
        unfold smOk mSz at e ⊢
        rw [z]
        exact e) id⟩
    | _ + 7 => trivial
  · exact hN i hi q
theorem b_p2 : ∀ b : Bool, ∀ i, i < 32 → bt (nI (2 * 2 ^ zbn b)) i = decide (i = 1 + zbn b) := by decide +kernel
theorem d_made {g : zG} {s : zSn} {μ : zzM} (K : zOk g s) (m : mI g s μ) (d : Nat) (b : Bool) : zw (zzf zzP zN (d + 8) 261 [.ref 105, .int (zB b)] μ) fun o => mQ μ o.2 ∧ mI g s o.2 ∧ mMk b g s o.2 := by
  have hgn := g_n K.hg
  have hl : bt (μ.1 105 36) (1 + zbn b) = false ∨ mMk b g s μ := by
    cases b with
    | false => exact mI_o m (i := 1) (by omega)
    | true => exact mI_o m (i := 2) (by omega)
  obtain ⟨o, a1, a2, a3, a4, a5, a6⟩ := m_laysMade m.h K.hg K.hs d b hl
  refine ⟨o, a1, ⟨zf_mono a2 rfl, a3 16 (by omega), a3 39 (by omega)⟩, mI_gen (N := fun i => i = 1 + zbn b) m (zm2_fr m.h a2 rfl) (fun i hi q => ?_) (.inl ⟨a3 35 (by omega), zf_l a2 rfl, zf_i a2 rfl⟩) ?_ ?_ (.inl (zf_i a2 rfl)) (.inl ⟨zf_i a2 rfl, zf_l a2 rfl⟩) (.inl (zf_i a2 rfl)) (.inl (zf_i a2 rfl)) hgn K.hs.1 (fun i _ q => ?_), a5⟩
  · rw [a4, b_or, Bool.or_eq_true] at q
    refine q.imp id fun q => ?_
    rw [b_p2 b i hi, decide_eq_true_eq] at q
    exact q
  · cases b with
    | false => exact .inr a5
    | true => exact .inl fun p hp => a6 p (by show ¬ (2028 * 1 ≤ p ∧ p < 2028 * 1 + 2028); omega)
  · cases b with
    | false => exact .inl fun p hp => a6 p (by show ¬ (2028 * 0 ≤ p ∧ p < 2028 * 0 + 2028); omega)
    | true => exact .inr a5
  · rw [q]
    cases b with
    | false => exact a5
    | true => exact a5
-- guards
theorem c_isSpan {g : zG} {s : zSn} {μ : zzM} (h : zc2 g s μ) (hsl : sL s ≤ 12) (d : Nat) (a b : Int32) : zzf zzP zN (d + 1) 132 [.ref 0, .int a, .int b] μ = some ((zB (zdc (∃ m n, m ≤ n ∧ n ≤ sL s ∧ a = nI m ∧ b = nI n)), 0, 0), μ) := by
  have hd : decide (0 ≤ a ∧ a ≤ b ∧ b ≤ nI (sL s)) = zdc (∃ m n, m ≤ n ∧ n ≤ sL s ∧ a = nI m ∧ b = nI n) := by
    unfold zdc
    refine decide_eq_decide.2 ⟨fun ⟨h1, h2, h3⟩ => ?_, fun ⟨m, n, h1, h2, h3, h4⟩ => ?_⟩
    · rcases zq_cases a with q | ⟨m, hm, rfl⟩
      · exact absurd h1 (by rw [i_nle]; exact q)
      · rcases zq_cases b with q | ⟨n, hn, rfl⟩
        · exfalso
          rw [Int32.le_iff_toInt_le] at h1 h2
          rw [Int32.lt_iff_toInt_lt] at q
          omega
        · rw [zq_le hm hn] at h2
          rw [zq_le hn (by omega)] at h3
          exact ⟨m, n, h2, h3, rfl, rfl⟩
    · rw [h3, h4, zq_0le (by omega), zq_le (by omega) (by omega), zq_le (by omega) (by omega)]
      exact ⟨trivial, h1, h2⟩
  rw [s_isSpan, c_len h, hd]
theorem d_isSpan {g : zG} {s : zSn} {μ : zzM} (h : zm2 g s μ) (hsl : sL s ≤ 12) (d : Nat) (a b : Int32) : zzf zzP zN (d + 1) 263 [.ref 105, .int a, .int b] μ = some ((zB (zdc (∃ m n, m ≤ n ∧ n ≤ sL s ∧ a = nI m ∧ b = nI n)), 0, 0), μ) := by
  have hd : decide (0 ≤ a ∧ a ≤ b ∧ b ≤ nI (sL s)) = zdc (∃ m n, m ≤ n ∧ n ≤ sL s ∧ a = nI m ∧ b = nI n) := by
    unfold zdc
    refine decide_eq_decide.2 ⟨fun ⟨h1, h2, h3⟩ => ?_, fun ⟨m, n, h1, h2, h3, h4⟩ => ?_⟩
    · rcases zq_cases a with q | ⟨m, hm, rfl⟩
      · exact absurd h1 (by rw [i_nle]; exact q)
      · rcases zq_cases b with q | ⟨n, hn, rfl⟩
        · exfalso
          rw [Int32.le_iff_toInt_le] at h1 h2
          rw [Int32.lt_iff_toInt_lt] at q
          omega
        · rw [zq_le hm hn] at h2
          rw [zq_le hn (by omega)] at h3
          exact ⟨m, n, h2, h3, rfl, rfl⟩
    · rw [h3, h4, zq_0le (by omega), zq_le (by omega) (by omega), zq_le (by omega) (by omega)]
      exact ⟨trivial, h1, h2⟩
  rw [m_isPart, d_len h, hd]
theorem d_isLeft {g : zG} {s : zSn} {μ : zzM} (h : zm2 g s μ) (hg : zwg g) (d : Nat) (a : Int32) : ∃ x y, zzf zzP zN (d + 1) 179 [.ref 105, .int a] μ = some ((zB (zdc (∃ r, r < gN g ∧ a = nI (gL g r))), x, y), μ) := by
  obtain ⟨⟨⟨i1, i2, i3⟩, z⟩, a1, a2, b, a3, a4⟩ := m_isLeft h hg d a
  simp only at a2 a3
  refine ⟨i2, i3, ?_⟩
  rw [a1, a2, a3]
  by_cases e : ∃ r, r < gN g ∧ a = nI (gL g r)
  · rw [zdT e, a4.2 e]
  · rw [zdF e, show b = false from Bool.eq_false_iff.2 fun q => e (a4.1 q)]
theorem q_letter {g : zG} {s : zSn} {μ : zzM} (K : zOk g s) (c : cI g s μ) (m : mI g s μ) (a1 : Int32) : zQ g s 155 249 [.ref 0, .int a1] [.ref 105, .int a1] μ := by
  have hsl := K.hs.1
  by_cases e : ∃ k, k < sL s ∧ a1 = nI k
  · obtain ⟨k, k1, k2⟩ := id e
    refine zQ_v (nI (sX s k)) m (cA_s c (a := 0) (b := 0) ?_ rfl) fun z hz => mA_s hz (a := 0) (b := 0) ?_ rfl
    · rw [show (13 : Nat) = 12 + 1 from rfl, w_pf_letter, k2, if_neg (nI_pos (by omega)), c_len c.h, if_neg (by rw [zq_le (by omega) (by omega)]; omega), zr_i _ _ (by omega) (by omega), c_x c.h k1, Option.bind_some]
    · rw [show (13 : Nat) = 12 + 1 from rfl, w_m_letter, zr_i _ _ (by omega) (by omega), d_len hz.h, Option.bind_some, show zzf zzP zN 12 173 [.long (Int32.toInt64 a1), .long (lN 0), .long (Int32.toInt64 (nI (sL s) - nI 1))] z = _ from m_inN 11 a1 (by omega) z, Option.bind_some, zdT e, if_neg (show ¬ zB true = 0 by decide), k2, zr_i _ _ (by omega) (by omega), d_x hz.h k1, Option.bind_some]
  · refine zQ_v (-(nI 1)) m (cA_s c (a := 0) (b := 0) ?_ rfl) fun z hz => mA_s hz (a := 0) (b := 0) ?_ rfl
    · rw [show (13 : Nat) = 12 + 1 from rfl, w_pf_letter, c_len c.h]
      by_cases q : a1 < 0
      · rw [if_pos q]
      · rw [if_neg q, if_pos]
        rw [← i_nlt]
        exact fun f => e ((i_in (by omega)).1 ⟨by rwa [i_nlt] at q, f⟩)
    · rw [show (13 : Nat) = 12 + 1 from rfl, w_m_letter, zr_i _ _ (by omega) (by omega), d_len hz.h, Option.bind_some, show zzf zzP zN 12 173 [.long (Int32.toInt64 a1), .long (lN 0), .long (Int32.toInt64 (nI (sL s) - nI 1))] z = _ from m_inN 11 a1 (by omega) z, Option.bind_some, zdF e, if_pos (show zB false = 0 by decide)]
theorem cI_P {g : zG} {s : zSn} {μ : zzM} {y : zzM} (c : cI g s μ) (hf : zfr [31, 32, 33, 34] μ y) (h : cCh false 31 32 33 34 g s y) : cI g s y := cI_up c hf rfl (.inl rfl) (.inl rfl) (.inr h) (.inl rfl) (.inl rfl) (.inl rfl) (.inl rfl) (.inl rfl) (.inl rfl)
theorem cI_A {g : zG} {s : zSn} {μ : zzM} {y : zzM} (c : cI g s μ) (hf : zfr [36, 37, 38, 39, 40] μ y) (h : cCf true 36 37 38 39 g s y) : cI g s y := cI_up c hf rfl (.inl rfl) (.inl rfl) (.inl rfl) (.inr (cCf_h h)) (.inl rfl) (.inl rfl) (.inl rfl) (.inr (cO_A c (zf_i hf rfl) (zf_i hf rfl) h)) (.inl rfl)
theorem c_plain {g : zG} {s : zSn} {μ : zzM} (K : zOk g s) (c : cI g s μ) (d : Nat) : zw (zzf zzP zN (d + 5) 58 [.ref 31] μ) fun o => zfr cQl μ o.2 ∧ cI g s o.2 ∧ cCf false 31 32 33 34 g s o.2 := by
  obtain ⟨o, a1, a2, a3, a4⟩ := s_fill_31 d c.h K.hg K.hs c.P
  exact ⟨o, a1, zf_mono a2 rfl, cI_P c a2 (cCf_h a3), a3⟩
theorem c_allow {g : zG} {s : zSn} {μ : zzM} (K : zOk g s) (c : cI g s μ) (d : Nat) : zw (zzf zzP zN (d + 5) 58 [.ref 36] μ) fun o => zfr cQl μ o.2 ∧ cI g s o.2 ∧ cCf true 36 37 38 39 g s o.2 := by
  obtain ⟨o, a1, a2, a3, a4⟩ := s_fill_36 d c.h K.hg K.hs c.A
  exact ⟨o, a1, zf_mono a2 rfl, cI_A c (zf_mono a2 rfl) a3, a3⟩
theorem q_derives {g : zG} {s : zSn} {μ : zzM} (K : zOk g s) (c : cI g s μ) (m : mI g s μ) (a1 a2 a3 : Int32) : zQ g s 159 264 [.ref 0, .int a1, .int a2, .int a3] [.ref 105, .int a1, .int a2, .int a3] μ := by
  have hsl := K.hs.1
  have hgn := g_n K.hg
  by_cases e : ∃ r, r < gN g ∧ a1 = nI (gL g r)
  · by_cases e2 : ∃ m n, m ≤ n ∧ n ≤ sL s ∧ a2 = nI m ∧ a3 = nI n
    · obtain ⟨r, r1, r2⟩ := id e
      obtain ⟨p, q, p1, p2, p3, p4⟩ := id e2
      obtain ⟨hl1, hl2⟩ := g_l K.hg r1
      obtain ⟨o, o1, o2, o3, o4⟩ := c_plain K c 7
      have o1 : zzf zzP zN 12 58 [.ref 31] μ = some o := o1
      obtain ⟨o', b1, b2, b, b3, b4⟩ := s_hasRow o3.h K.hg o4 hsl 9 hl1 hl2 p1 p2
      have b1 : zzf zzP zN 12 53 [.ref 31, .int (nI (gL g r)), .int (nI p), .int (nI q)] o.2 = some o' := b1
      refine zQ_of (A := fun x => ∃ b, x = zB b ∧ (b = true ↔ zDv g s (gL g r) p q)) (A' := fun x => ∃ b, x = zB b ∧ (b = true ↔ zDv g s (gL g r) p q)) m ⟨((zB b, 0, 0), o'.2), ?_, by simp only; rw [b2]; exact o2, by simp only; rw [b2]; exact o3, b, rfl, b4⟩ (fun z hz => ?_) fun x x' ⟨b, h1, h2⟩ ⟨b', h1', h2'⟩ => ?_
      · rw [show (13 : Nat) = 12 + 1 from rfl, w_pf_derives, show zzf zzP zN 12 131 [.ref 0, .int a1] μ = _ from c_isLeft c.h K.hg 11 a1, Option.bind_some, zdT e, if_neg (show ¬ zB true = 0 by decide), show zzf zzP zN 12 132 [.ref 0, .int a2, .int a3] μ = _ from c_isSpan c.h hsl 11 a2 a3, Option.bind_some, zdT e2, if_neg (show ¬ zB true = 0 by decide), o1, Option.bind_some, r2, p3, p4, b1, Option.bind_some, b3]
        cases b <;> rfl
      · obtain ⟨x, y, hx⟩ := d_isLeft hz.h K.hg 11 a1
        have hx : zzf zzP zN 12 179 [.ref 105, .int a1] z = _ := hx
        obtain ⟨t, t1, t2, t3, t4⟩ := d_made K hz 4 false
        have t1 : zzf zzP zN 12 261 [.ref 105, .int (nI 0)] z = some t := t1
        obtain ⟨u, u1, u2, b', u3, u4⟩ := m_isMadeOf t3.h K.hg K.hs t4 10 hl2 p1 p2
        have u1 : zzf zzP zN 12 262 [.ref 105, .int (nI (gL g r)), .int (nI p), .int (nI q)] t.2 = some u := u1
        refine ⟨((zB b', 0, 0), u.2), ?_, by simp only; rw [u2]; exact t2, by simp only; rw [u2]; exact t3, b', rfl, u4.trans ⟨fun f => f.elim (fun f => absurd f.1 (by omega)) fun f => f.2, fun f => .inr ⟨hl1, f⟩⟩⟩
        rw [show (13 : Nat) = 12 + 1 from rfl, w_m_derives, hx, Option.bind_some, zdT e, if_neg (show ¬ zB true = 0 by decide), show zzf zzP zN 12 263 [.ref 105, .int a2, .int a3] z = _ from d_isSpan hz.h hsl 11 a2 a3, Option.bind_some, zdT e2, if_neg (show ¬ zB true = 0 by decide), t1, Option.bind_some, r2, p3, p4, u1, Option.bind_some, u3]
        cases b' <;> rfl
      · rw [h1, h1', show b = b' by rw [Bool.eq_iff_iff, h2, h2']]
    · refine zQ_v (-(nI 1)) m (cA_s c (a := 0) (b := 0) ?_ rfl) fun z hz => mA_s hz (a := 0) (b := 0) ?_ rfl
      · rw [show (13 : Nat) = 12 + 1 from rfl, w_pf_derives, show zzf zzP zN 12 131 [.ref 0, .int a1] μ = _ from c_isLeft c.h K.hg 11 a1, Option.bind_some, zdT e, if_neg (show ¬ zB true = 0 by decide), show zzf zzP zN 12 132 [.ref 0, .int a2, .int a3] μ = _ from c_isSpan c.h hsl 11 a2 a3, Option.bind_some, zdF e2, if_pos (show zB false = 0 by decide)]
      · obtain ⟨x, y, hx⟩ := d_isLeft hz.h K.hg 11 a1
        have hx : zzf zzP zN 12 179 [.ref 105, .int a1] z = _ := hx
        rw [show (13 : Nat) = 12 + 1 from rfl, w_m_derives, hx, Option.bind_some, zdT e, if_neg (show ¬ zB true = 0 by decide), show zzf zzP zN 12 263 [.ref 105, .int a2, .int a3] z = _ from d_isSpan hz.h hsl 11 a2 a3, Option.bind_some, zdF e2, if_pos (show zB false = 0 by decide)]
  · refine zQ_v (-(nI 1)) m (cA_s c (a := 0) (b := 0) ?_ rfl) fun z hz => mA_s hz (a := 0) (b := 0) ?_ rfl
    · rw [show (13 : Nat) = 12 + 1 from rfl, w_pf_derives, show zzf zzP zN 12 131 [.ref 0, .int a1] μ = _ from c_isLeft c.h K.hg 11 a1, Option.bind_some, zdF e, if_pos (show zB false = 0 by decide)]
    · obtain ⟨x, y, hx⟩ := d_isLeft hz.h K.hg 11 a1
      have hx : zzf zzP zN 12 179 [.ref 105, .int a1] z = _ := hx
      rw [show (13 : Nat) = 12 + 1 from rfl, w_m_derives, hx, Option.bind_some, zdF e, if_pos (show zB false = 0 by decide)]
theorem q_whole {g : zG} {s : zSn} {μ : zzM} (K : zOk g s) (c : cI g s μ) (m : mI g s μ) : zQ g s 166 265 [.ref 0] [.ref 105] μ := by
  have hsl := K.hs.1
  have hgn := g_n K.hg
  by_cases hn : gN g = 0
  · refine zQ_v (-(nI 1)) m (cA_s c (a := 0) (b := 0) ?_ rfl) fun z hz => mA_s hz (a := 0) (b := 0) ?_ rfl
    · rw [show (13 : Nat) = 12 + 1 from rfl, w_pf_whole, show zzf zzP zN 12 128 [.ref 0] μ = _ from c_noG c.h K.hg 11, Option.bind_some, zdT hn, if_neg (show ¬ zB true = 0 by decide)]
    · rw [show (13 : Nat) = 12 + 1 from rfl, w_m_whole, show zzf zzP zN 12 175 [.ref 105] z = _ from d_isG hz.h K.hg 11, Option.bind_some, zdF (by omega), if_pos (show zB false = 0 by decide)]
  · have hn' : 0 < gN g := by omega
    obtain ⟨hl1, hl2⟩ := g_l K.hg hn'
    let A : Int32 → Prop := fun x => (x = -(nI 2) ∧ ∀ n, n ≤ sL s → ¬ zDv g s (gL g 0) 0 n) ∨ ∃ n, n ≤ sL s ∧ x = nI n ∧ zDv g s (gL g 0) 0 n ∧ ∀ k, n < k → k ≤ sL s → ¬ zDv g s (gL g 0) 0 k
    refine zQ_of (A := A) (A' := A) m ?_ (fun z hz => ?_) fun x x' h1 h2 => ?_
    · obtain ⟨o, o1, o2, o3, o4⟩ := c_plain K c 7
      have o1 : zzf zzP zN 12 58 [.ref 31] μ = some o := o1
      unfold cA
      rw [show (13 : Nat) = 12 + 1 from rfl, w_pf_whole, show zzf zzP zN 12 128 [.ref 0] μ = _ from c_noG c.h K.hg 11, Option.bind_some, zdF hn, if_pos (show zB false = 0 by decide), o1, Option.bind_some, c_len o3.h]
      refine zl_dn (fun n (_ : Unit) => ([nJ n], [], o.2)) (fun n _ => ∀ k, n ≤ k → k ≤ sL s → ¬ zDv g s (gL g 0) 0 k) 0 (sL s + 1) () (by omega) (by omega) (by rw [nJ_s]) (fun k a b => absurd a (by omega)) ?_ ?_
      · rintro n - ga - hk hJ hgo
        unfold L166_a
        simp only [zI0, zI1, zI2, zI3, zI4, zI5, zI6, zI7, zI8, zJ0, zJ1, zJ2, zMM]
        obtain ⟨o', b1, b2, b, b3, b4⟩ := s_hasRow o3.h K.hg o4 hsl 9 hl1 hl2 (Nat.zero_le n) (show n ≤ sL s by omega)
        have b1 : zzf zzP zN 12 53 [.ref 31, .int (nI (gL g 0)), .int (nI 0), .int (nI n)] o.2 = some o' := b1
        rw [nJ_s, if_neg (nI_pos (by omega)), zr_i _ _ (by omega) (by omega), c_l o3.h hn', Option.bind_some, b1, Option.bind_some, b3, b2]
        simp only [zB_0]
        cases b with
        | false =>
          rw [if_pos rfl, nJ_e]
          refine hgo () fun k h1 h2 => ?_
          by_cases ek : k = n
          · rw [ek]
            exact fun f => by rw [← b4] at f; cases f
          · exact hJ k (by omega) h2
        | true =>
          rw [if_neg (by decide)]
          exact zw_some ⟨o2, o3, .inr ⟨n, by omega, rfl, b4.1 rfl, fun k h1 h2 => hJ k (by omega) h2⟩⟩
      · rintro - ga hJ
        unfold L166_a
        simp only [zI0, zI1, zI2, zI3, zI4, zI5, zI6, zI7, zI8, zJ0, zJ1, zJ2, zMM]
        rw [if_pos (show nJ 0 < 0 by decide)]
        exact zw_some ⟨o2, o3, .inl ⟨rfl, fun n h => hJ n (Nat.zero_le _) h⟩⟩
    · obtain ⟨t, t1, t2, t3, t4⟩ := d_made K hz 4 false
      have t1 : zzf zzP zN 12 261 [.ref 105, .int (nI 0)] z = some t := t1
      unfold mA
      rw [show (13 : Nat) = 12 + 1 from rfl, w_m_whole, show zzf zzP zN 12 175 [.ref 105] z = _ from d_isG hz.h K.hg 11, Option.bind_some, zdT hn', if_neg (show ¬ zB true = 0 by decide), t1, Option.bind_some, zr_i _ _ (by omega) (by omega), d_len t3.h, Option.bind_some]
      refine zl_dn (fun n (_ : Unit) => ([nJ n], [], t.2)) (fun n _ => ∀ k, n ≤ k → k ≤ sL s → ¬ zDv g s (gL g 0) 0 k) 0 (sL s + 1) () (by omega) (by omega) (by rw [nJ_s]) (fun k a b => absurd a (by omega)) ?_ ?_
      · rintro n - ga - hk hJ hgo
        unfold L265_a
        simp only [zI0, zI1, zI2, zI3, zI4, zI5, zI6, zI7, zI8, zJ0, zJ1, zJ2, zMM]
        obtain ⟨u, u1, u2, b, u3, u4⟩ := m_isMadeOf t3.h K.hg K.hs t4 10 hl2 (Nat.zero_le n) (show n ≤ sL s by omega)
        have u1 : zzf zzP zN 12 262 [.ref 105, .int (nI (gL g 0)), .int (nI 0), .int (nI n)] t.2 = some u := u1
        have u4 : b = true ↔ zDv g s (gL g 0) 0 n := u4.trans ⟨fun f => f.elim (fun f => absurd f.1 (by omega)) fun f => f.2, fun f => .inr ⟨hl1, f⟩⟩
        rw [nJ_s, if_neg (nI_pos (by omega)), zr_i _ _ (by omega) (by omega), d_start t3.h hn', Option.bind_some, u1, Option.bind_some, u3, u2]
        simp only [zB_0]
        cases b with
        | false =>
          rw [if_pos rfl, nJ_e]
          refine hgo () fun k h1 h2 => ?_
          by_cases ek : k = n
          · rw [ek]
            exact fun f => by rw [← u4] at f; cases f
          · exact hJ k (by omega) h2
        | true =>
          rw [if_neg (by decide)]
          exact zw_some ⟨t2, t3, .inr ⟨n, by omega, rfl, u4.1 rfl, fun k h1 h2 => hJ k (by omega) h2⟩⟩
      · rintro - ga hJ
        unfold L265_a
        simp only [zI0, zI1, zI2, zI3, zI4, zI5, zI6, zI7, zI8, zJ0, zJ1, zJ2, zMM]
        rw [if_pos (show nJ 0 < 0 by decide)]
        exact zw_some ⟨t2, t3, .inl ⟨rfl, fun n h => hJ n (Nat.zero_le _) h⟩⟩
    · rcases h1 with ⟨q1, q2⟩ | ⟨n, q1, q2, q3, q4⟩ <;> rcases h2 with ⟨p1, p2⟩ | ⟨k, p1, p2, p3, p4⟩
      · rw [q1, p1]
      · exact absurd p3 (q2 k p1)
      · exact absurd q3 (p2 n q1)
      · have : n = k := by
          rcases Nat.lt_trichotomy n k with f | f | f
          · exact absurd p3 (q4 k f p1)
          · exact f
          · exact absurd q3 (p4 n f q1)
        rw [q2, p2, this]
