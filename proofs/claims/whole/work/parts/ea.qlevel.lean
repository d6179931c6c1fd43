/-! QUERIES: levels -/
theorem c_isLevel {g : zG} {s : zSn} {μ : zzM} (h : zc2 g s μ) (hg : zwg g) (hsl : sL s ≤ 12) (d : Nat) (a : Int32) : zzf zzP zN (d + 2) 133 [.ref 0, .int a] μ = some ((zB (zdc (0 < gN g ∧ ∃ n, n ≤ sL s ∧ a = nI n)), 0, 0), μ) := by
  have hgn := g_n hg
  have hd : decide (¬ nI (gN g) = 0 ∧ 0 ≤ a ∧ a ≤ nI (sL s)) = zdc (0 < gN g ∧ ∃ n, n ≤ sL s ∧ a = nI n) := by
    unfold zdc
    refine decide_eq_decide.2 (and_congr ?_ (i_inle (by omega)))
    rw [zq_e0 (by omega)]
    omega
  rw [s_isLevel, c_n h, c_len h, hd]
theorem d_isLevel {g : zG} {s : zSn} {μ : zzM} (h : zm2 g s μ) (hg : zwg g) (hsl : sL s ≤ 12) (d : Nat) (a : Int32) : zzf zzP zN (d + 2) 269 [.ref 105, .int a] μ = some ((zB (zdc (0 < gN g ∧ ∃ n, n ≤ sL s ∧ a = nI n)), 0, 0), μ) := by
  have hgn := g_n hg
  have hd : decide (0 < nI (gN g) ∧ 0 ≤ a ∧ a ≤ nI (sL s)) = zdc (0 < gN g ∧ ∃ n, n ≤ sL s ∧ a = nI n) := by
    unfold zdc
    refine decide_eq_decide.2 (and_congr ?_ (i_inle (by omega)))
    rw [zq_0lt (by omega)]
  rw [m_isLevel, d_n h, d_len h, hd]
/-- the class's levels -/
theorem c_level {g : zG} {s : zSn} {μ : zzM} (K : zOk g s) (c : cI g s μ) (hn : 0 < gN g) {f : zzM → Option zzR} {Q : zzR → Prop} (hf : ∀ w y, zLay g s = some w → zfr cQl μ y → cI g s y → zcSt w y → lvOk g s w y → zw (f y) Q) : zw ((zzf zzP zN 12 127 [.ref 0] μ).bind fun o1 => if o1.1.2.2 = 26 then (zzf zzP zN 12 73 [.ref 41] o1.2).bind fun o2 => f o2.2 else none) Q := by
  obtain ⟨o, a1, a2, a3, a4, w, a5, a6, a7⟩ := c_states K c hn 8
  have a1 : zzf zzP zN 12 127 [.ref 0] μ = some o := a1
  rw [a1, Option.bind_some, if_pos a2]
  have hst : o.2.1 41 3 = 0 ∨ lvOk g s w o.2 := a4.L.imp id fun ⟨w', q1, q2⟩ => by
    rw [a5] at q1
    cases q1
    exact q2
  obtain ⟨p, b1, b2, b3, b4, b5⟩ := s_levFind a4.h K.hg K.hs a4.P (zLay_wt a5) a6 6 hst
  have b1 : zzf zzP zN 12 73 [.ref 41] o.2 = some p := b1
  rw [b1, Option.bind_some]
  exact hf w p.2 a5 (zf_trans (zf_mono a3 rfl) (zf_mono b2 rfl)) (cI_up a4 b2 rfl (.inl rfl) (.inl rfl) (.inr b3) (.inl rfl) (.inr (.inr ⟨w, a5, b4⟩)) (.inl rfl) (.inl rfl) (.inl rfl) (.inl rfl)) (zcSt_fr a6 b2 rfl) b4
/-- the reference's -/
theorem d_level {g : zG} {s : zSn} {μ : zzM} (K : zOk g s) (m : mI g s μ) (hn : 0 < gN g) (d : Nat) : zw (zzf zzP zN (d + 9) 268 [.ref 105] μ) fun o => mQ μ o.2 ∧ mI g s o.2 ∧ mMk false g s o.2 ∧ ∃ w, zLay g s = some w ∧ zmSt w o.2 ∧ alOk g s w o.2 := by
  obtain ⟨w, hw⟩ := K.hw hn
  obtain ⟨o, a1, a2, a3, a4, a5, a6, a7, a8⟩ := m_laysAlive m.h K.hg K.hs hn hw d ((mI_o m (i := 0) (by omega)).imp id fun ⟨w', q1, q2⟩ => by
    rw [hw] at q1
    cases q1
    exact q2) (mI_o m (i := 1) (by omega)) ((mI_o m (i := 3) (by omega)).imp id fun ⟨w', q1, q2, q3, q4⟩ => by
    rw [hw] at q1
    cases q1
    exact ⟨q2, q3, q4⟩)
  refine ⟨o, a1, ⟨zf_mono a2 rfl, a3 16 (by omega) (by omega), a3 39 (by omega) (by omega)⟩, mI_gen (N := fun i => i = 0 ∨ i = 1 ∨ i = 3) m (zm2_fr m.h a2 rfl) a4 (.inr ⟨w, hw, a5⟩) (.inr a6) (.inl a8) (.inr ⟨w, hw, a7⟩) (.inl ⟨zf_i a2 rfl, zf_l a2 rfl⟩) (.inl (zf_i a2 rfl)) (.inl (zf_i a2 rfl)) (g_n K.hg) K.hs.1 (fun i _ q => ?_), a6, w, hw, a5, a7⟩
  rcases q with rfl | rfl | rfl
  · exact ⟨w, hw, a5⟩
  · exact a6
  · exact ⟨w, hw, a5, a6, a7⟩
theorem q_expects {g : zG} {s : zSn} {μ : zzM} (K : zOk g s) (c : cI g s μ) (m : mI g s μ) (a1 : Int32) : zQ g s 158 273 [.ref 0, .int a1] [.ref 105, .int a1] μ := by
  have hsl := K.hs.1
  by_cases e : 0 < gN g ∧ ∃ n, n ≤ sL s ∧ a1 = nI n
  · obtain ⟨hn, n, n1, n2⟩ := id e
    obtain ⟨w0, hw0⟩ := K.hw hn
    refine zQ_of (A := zBits (zEx g s w0 n)) (A' := zBits (zEx g s w0 n)) m ?_ (fun z hz => ?_) fun _ _ => zBits_un
    · unfold cA
      rw [show (13 : Nat) = 12 + 1 from rfl, w_pf_expects, show zzf zzP zN 12 133 [.ref 0, .int a1] μ = _ from c_isLevel c.h K.hg hsl 10 a1, Option.bind_some, zdT e, if_neg (show ¬ zB true = 0 by decide)]
      refine c_level K c hn (f := fun y => (zzf zzP zN 12 72 [.ref 41, .int a1] y).bind fun o4 => some ((o4.1.1, 0, 0), o4.2)) fun w y q1 q2 q3 q4 q5 => ?_
      rw [hw0] at q1
      cases q1
      obtain ⟨u, u1, u2, u3⟩ := s_expected q5 (zLay_wt hw0) q4 hsl 9 n1
      have u1 : zzf zzP zN 12 72 [.ref 41, .int (nI n)] y = some u := u1
      rw [n2, u1, Option.bind_some]
      exact zw_some ⟨by simp only; rw [u2]; exact q2, by simp only; rw [u2]; exact q3, u3⟩
    · obtain ⟨t, t1, t2, t3, t4, w, t5, t6, t7⟩ := d_level K hz hn 3
      have t1 : zzf zzP zN 12 268 [.ref 105] z = some t := t1
      rw [hw0] at t5
      cases t5
      obtain ⟨u, u1, u2, u3⟩ := m_expected (zLay_wt hw0) (zmSt_m t6) t7 hsl 12 n1
      refine ⟨u, ?_, by rw [u2]; exact t2, by rw [u2]; exact t3, u3⟩
      rw [show (13 : Nat) = 12 + 1 from rfl, w_m_expects, show zzf zzP zN 12 269 [.ref 105, .int a1] z = _ from d_isLevel hz.h K.hg hsl 10 a1, Option.bind_some, zdT e, if_neg (show ¬ zB true = 0 by decide), t1, Option.bind_some, n2]
      exact u1
  · refine zQ_v (-(nI 1)) m (cA_s c (a := 0) (b := 0) ?_ rfl) fun z hz => mA_s hz (a := 0) (b := 0) ?_ rfl
    · rw [show (13 : Nat) = 12 + 1 from rfl, w_pf_expects, show zzf zzP zN 12 133 [.ref 0, .int a1] μ = _ from c_isLevel c.h K.hg hsl 10 a1, Option.bind_some, zdF e, if_pos (show zB false = 0 by decide)]
    · rw [show (13 : Nat) = 12 + 1 from rfl, w_m_expects, show zzf zzP zN 12 269 [.ref 105, .int a1] z = _ from d_isLevel hz.h K.hg hsl 10 a1, Option.bind_some, zdF e, if_pos (show zB false = 0 by decide)]
/-- a question of a level, of all states or of one -/
theorem zQ_lv {g : zG} {s : zSn} {μ : zzM} (K : zOk g s) (c : cI g s μ) (m : mI g s μ) (a1 a2 : Int32) {y y' : Nat} {Jc Jm : zzM → Option zzR} (wc : ∀ μ, zzf zzP zN 13 y [.ref 0, .int a1, .int a2] μ = ((zzf zzP zN 12 133 [.ref 0, .int a1] μ).bind fun o1 => if o1.1.1 = 0 then some (((-(nI 1)), 0, 0), o1.2) else if a2 = (-(nI 1)) then Jc o1.2 else (zzf zzP zN 12 130 [.ref 0, .int a2] o1.2).bind fun o2 => if o2.1.1 = 0 then some (((-(nI 1)), 0, 0), o2.2) else Jc o2.2)) (wm : ∀ μ, zzf zzP zN 13 y' [.ref 105, .int a1, .int a2] μ = ((zzf zzP zN 12 269 [.ref 105, .int a1] μ).bind fun o1 => if o1.1.1 = 0 then some (((-(nI 1)), 0, 0), o1.2) else if a2 = (-(nI 1)) then Jm o1.2 else (zzf zzP zN 12 229 [.ref 105, .int a2] o1.2).bind fun o2 => if o2.1.1 = 0 then some (((-(nI 1)), 0, 0), o2.2) else Jm o2.2))
    (hv : ∀ w n (T : Option Nat), zLay g s = some w → 0 < gN g → n ≤ sL s → a1 = nI n → a2 = zgv T → (∀ t, T = some t → t < w.1) → ∃ v, (∀ z, cI g s z → zw (Jc z) fun o => zfr cQl z o.2 ∧ cI g s o.2 ∧ o.1.1 = v) ∧ ∀ z, mI g s z → zw (Jm z) fun o => mQ z o.2 ∧ mI g s o.2 ∧ o.1.1 = v) : zQ g s y y' [.ref 0, .int a1, .int a2] [.ref 105, .int a1, .int a2] μ := by
  have hsl := K.hs.1
  by_cases e : 0 < gN g ∧ ∃ n, n ≤ sL s ∧ a1 = nI n
  · obtain ⟨hn, n, n1, n2⟩ := id e
    obtain ⟨w, hw⟩ := K.hw hn
    have hc1 : ∀ z, cI g s z → zzf zzP zN 12 133 [.ref 0, .int a1] z = some ((zB true, 0, 0), z) := fun z hz => by rw [← zdT e]; exact c_isLevel hz.h K.hg hsl 10 a1
    have hm1 : ∀ z, mI g s z → zzf zzP zN 12 269 [.ref 105, .int a1] z = some ((zB true, 0, 0), z) := fun z hz => by rw [← zdT e]; exact d_isLevel hz.h K.hg hsl 10 a1
    by_cases e2 : a2 = -(nI 1)
    · obtain ⟨v, v1, v2⟩ := hv w n none hw hn n1 n2 e2 (fun t q => by cases q)
      refine zQ_v v m ?_ fun z hz => ?_
      · unfold cA
        rw [wc, hc1 μ c, Option.bind_some, if_neg (show ¬ zB true = 0 by decide), if_pos e2]
        exact v1 μ c
      · unfold mA
        rw [wm, hm1 z hz, Option.bind_some, if_neg (show ¬ zB true = 0 by decide), if_pos e2]
        exact v2 z hz
    · by_cases e3 : ∃ t, t < w.1 ∧ a2 = nI t
      · obtain ⟨t, t1, t2⟩ := e3
        obtain ⟨v, v1, v2⟩ := hv w n (some t) hw hn n1 n2 t2 (fun t' q => by cases q; exact t1)
        refine zQ_v v m ?_ fun z hz => ?_
        · unfold cA
          obtain ⟨o, o1, o2, o3, o4⟩ := c_isState K c 7 a2
          have o1 : zzf zzP zN 12 130 [.ref 0, .int a2] μ = some o := o1
          rcases o4 with ⟨-, o6⟩ | ⟨o5, -⟩
          · exact absurd ⟨hn, w, t, hw, t1, t2⟩ o6
          · rw [wc, hc1 μ c, Option.bind_some, if_neg (show ¬ zB true = 0 by decide), if_neg e2, o1, Option.bind_some, o5, if_neg (show ¬ zB true = 0 by decide)]
            exact zw_mono (v1 o.2 o3) fun r ⟨q1, q2, q3⟩ => ⟨zf_trans (zf_mono o2 rfl) q1, q2, q3⟩
        · unfold mA
          obtain ⟨p, p1, p2, p3, p4⟩ := d_isState K hz 4 a2
          have p1 : zzf zzP zN 12 229 [.ref 105, .int a2] z = some p := p1
          rcases p4 with ⟨-, p6⟩ | ⟨p5, -⟩
          · exact absurd ⟨hn, w, t, hw, t1, t2⟩ p6
          · rw [wm, hm1 z hz, Option.bind_some, if_neg (show ¬ zB true = 0 by decide), if_neg e2, p1, Option.bind_some, p5, if_neg (show ¬ zB true = 0 by decide)]
            exact zw_mono (v2 p.2 p3) fun r ⟨q1, q2, q3⟩ => ⟨mQ_t p2 q1, q2, q3⟩
      · refine zQ_v (-(nI 1)) m ?_ fun z hz => ?_
        · unfold cA
          obtain ⟨o, o1, o2, o3, o4⟩ := c_isState K c 7 a2
          have o1 : zzf zzP zN 12 130 [.ref 0, .int a2] μ = some o := o1
          rcases o4 with ⟨o5, -⟩ | ⟨-, -, w', k, o7, o8, o9, -⟩
          · rw [wc, hc1 μ c, Option.bind_some, if_neg (show ¬ zB true = 0 by decide), if_neg e2, o1, Option.bind_some, o5, if_pos (show zB false = 0 by decide)]
            exact zw_some ⟨zf_mono o2 rfl, o3, rfl⟩
          · rw [hw] at o7
            cases o7
            exact absurd ⟨k, o8, o9⟩ e3
        · unfold mA
          obtain ⟨p, p1, p2, p3, p4⟩ := d_isState K hz 4 a2
          have p1 : zzf zzP zN 12 229 [.ref 105, .int a2] z = some p := p1
          rcases p4 with ⟨p5, -⟩ | ⟨-, -, w', k, p7, p8, p9, -⟩
          · rw [wm, hm1 z hz, Option.bind_some, if_neg (show ¬ zB true = 0 by decide), if_neg e2, p1, Option.bind_some, p5, if_pos (show zB false = 0 by decide)]
            exact zw_some ⟨p2, p3, rfl⟩
          · rw [hw] at p7
            cases p7
            exact absurd ⟨k, p8, p9⟩ e3
  · refine zQ_v (-(nI 1)) m (cA_s c (a := 0) (b := 0) ?_ rfl) fun z hz => mA_s hz (a := 0) (b := 0) ?_ rfl
    · rw [wc, show zzf zzP zN 12 133 [.ref 0, .int a1] μ = _ from c_isLevel c.h K.hg hsl 10 a1, Option.bind_some, zdF e, if_pos (show zB false = 0 by decide)]
    · rw [wm, show zzf zzP zN 12 269 [.ref 105, .int a1] z = _ from d_isLevel hz.h K.hg hsl 10 a1, Option.bind_some, zdF e, if_pos (show zB false = 0 by decide)]
theorem q_alive {g : zG} {s : zSn} {μ : zzM} (K : zOk g s) (c : cI g s μ) (m : mI g s μ) (a1 a2 : Int32) : zQ g s 156 270 [.ref 0, .int a1, .int a2] [.ref 105, .int a1, .int a2] μ := by
  have hsl := K.hs.1
  refine zQ_lv K c m a1 a2 (Jc := fun z => J156_a zN 12 a1 a2 z) (Jm := fun z => J270_a zN 12 a1 a2 z) (fun μ => w_pf_alive zN 12 a1 a2 μ) (fun μ => w_m_alive zN 12 a1 a2 μ) fun w n T hw hn n1 e1 e2 hT => ?_
  have hwt := zLay_wt hw
  have h90 := hwt.2.1
  cases T with
  | none =>
    have e2 : a2 = -(nI 1) := e2
    refine ⟨nI (zcnt (fun k => zdc (zAl g s w n k)) w.1), fun z hz => ?_, fun z hz => ?_⟩
    · unfold J156_a
      refine c_level K hz hn (f := fun y => if a2 = (-(nI 1)) then (zzf zzP zN 12 70 [.ref 41, .int a1] y).bind fun o4 => some ((o4.1.1, 0, 0), o4.2) else (zzf zzP zN 12 68 [.ref 41, .int a1, .int a2] y).bind fun o3 => if o3.1.1 = 0 then some (((nI 0), 0, 0), o3.2) else some (((nI 1), 0, 0), o3.2)) fun w' y q1 q2 q3 q4 q5 => ?_
      rw [hw] at q1
      cases q1
      obtain ⟨u, u1, u2, u3⟩ := s_manyAlive q5 hwt q4 hsl 10 n1
      have u1 : zzf zzP zN 12 70 [.ref 41, .int (nI n)] y = some u := u1
      rw [if_pos e2, e1, u1, Option.bind_some]
      exact zw_some ⟨by simp only; rw [u2]; exact q2, by simp only; rw [u2]; exact q3, u3⟩
    · obtain ⟨t, t1, t2, t3, t4, w', t5, t6, t7⟩ := d_level K hz hn 3
      have t1 : zzf zzP zN 12 268 [.ref 105] z = some t := t1
      rw [hw] at t5
      cases t5
      obtain ⟨u, u1, u2, u3⟩ := m_manyAlive hwt (zmSt_m t6) t7 hsl 12 n1
      unfold J270_a
      rw [t1, Option.bind_some, if_pos e2, e1]
      exact ⟨u, u1, by rw [u2]; exact t2, by rw [u2]; exact t3, u3⟩
  | some t0 =>
    have ht := hT t0 rfl
    have e2 : a2 = nI t0 := e2
    refine ⟨zB (zdc (zAl g s w n t0)), fun z hz => ?_, fun z hz => ?_⟩
    · unfold J156_a
      refine c_level K hz hn (f := fun y => if a2 = (-(nI 1)) then (zzf zzP zN 12 70 [.ref 41, .int a1] y).bind fun o4 => some ((o4.1.1, 0, 0), o4.2) else (zzf zzP zN 12 68 [.ref 41, .int a1, .int a2] y).bind fun o3 => if o3.1.1 = 0 then some (((nI 0), 0, 0), o3.2) else some (((nI 1), 0, 0), o3.2)) fun w' y q1 q2 q3 q4 q5 => ?_
      rw [hw] at q1
      cases q1
      rw [e2, zif_cg (Iff.of_eq (zq_em (by omega))), if_neg (fun q => q), e1, show zzf zzP zN 12 68 [.ref 41, .int (nI n), .int (nI t0)] y = _ from lv_al q5 hwt hsl 11 n1 ht, Option.bind_some]
      simp only [zB_0]
      cases zdc (zAl g s w n t0) with
      | false =>
        rw [if_pos rfl]
        exact zw_some ⟨q2, q3, rfl⟩
      | true =>
        rw [if_neg (by decide)]
        exact zw_some ⟨q2, q3, rfl⟩
    · obtain ⟨t, t1, t2, t3, t4, w', t5, t6, t7⟩ := d_level K hz hn 3
      have t1 : zzf zzP zN 12 268 [.ref 105] z = some t := t1
      rw [hw] at t5
      cases t5
      unfold J270_a
      rw [t1, Option.bind_some, e2, zif_cg (Iff.of_eq (zq_em (by omega))), if_neg (fun q => q), e1]
      simp only [zq_mul, zq_add]
      rw [zr_i _ _ (by omega) (by omega), Option.bind_some]
      have := t7 n t0 n1 ht
      by_cases q : t.2.1 137 (90 * n + t0) = 0
      · rw [if_pos q]
        exact zw_some ⟨t2, t3, by rw [zdF fun f => this.2 f q]; rfl⟩
      · rw [if_neg q]
        exact zw_some ⟨t2, t3, by rw [zdT (this.1 q)]; rfl⟩
theorem q_links {g : zG} {s : zSn} {μ : zzM} (K : zOk g s) (c : cI g s μ) (m : mI g s μ) (a1 a2 : Int32) : zQ g s 157 272 [.ref 0, .int a1, .int a2] [.ref 105, .int a1, .int a2] μ := by
  have hsl := K.hs.1
  refine zQ_lv K c m a1 a2 (Jc := fun z => J157_a zN 12 a1 a2 z) (Jm := fun z => J272_a zN 12 a1 a2 z) (fun μ => w_pf_links zN 12 a1 a2 μ) (fun μ => w_m_links zN 12 a1 a2 μ) fun w n T hw hn n1 e1 e2 hT => ?_
  have hwt := zLay_wt hw
  have h90 := hwt.2.1
  refine ⟨nI (zLs g s w T n), fun z hz => ?_, fun z hz => ?_⟩
  · unfold J157_a
    refine c_level K hz hn (f := fun y => if a2 = (-(nI 1)) then (zzf zzP zN 12 71 [.ref 41, .int a1] y).bind fun o4 => some ((o4.1.1, 0, 0), o4.2) else (zzf zzP zN 12 69 [.ref 41, .int a1, .int a2] y).bind fun o3 => some ((o3.1.1, 0, 0), o3.2)) fun w' y q1 q2 q3 q4 q5 => ?_
    rw [hw] at q1
    cases q1
    cases T with
    | none =>
      have e2 : a2 = -(nI 1) := e2
      obtain ⟨u, u1, u2, u3⟩ := s_manyLinks q5 hwt q4 hsl 10 n1
      have u1 : zzf zzP zN 12 71 [.ref 41, .int (nI n)] y = some u := u1
      rw [if_pos e2, e1, u1, Option.bind_some]
      exact zw_some ⟨by simp only; rw [u2]; exact q2, by simp only; rw [u2]; exact q3, by rw [zLs_none hwt]; exact u3⟩
    | some t0 =>
      have ht := hT t0 rfl
      have e2 : a2 = nI t0 := e2
      rw [e2, zif_cg (Iff.of_eq (zq_em (by omega))), if_neg (fun q => q), e1, show zzf zzP zN 12 69 [.ref 41, .int (nI n), .int (nI t0)] y = _ from lv_lk q5 hwt hsl 11 n1 ht, Option.bind_some]
      exact zw_some ⟨q2, q3, by rw [zLs_some]⟩
  · obtain ⟨t, t1, t2, t3, t4, w', t5, t6, t7⟩ := d_level K hz hn 3
    have t1 : zzf zzP zN 12 268 [.ref 105] z = some t := t1
    rw [hw] at t5
    cases t5
    obtain ⟨u, u1, u2, u3⟩ := m_linksAll t3.h K.hg K.hs t4 hwt (zmSt_m t6) t7 9 T (fun t0 q => by have := hT t0 q; omega) n1
    unfold J272_a
    rw [t1, Option.bind_some, e1, e2]
    exact ⟨u, u1, by rw [u2]; exact t2, by rw [u2]; exact t3, u3⟩
