/-! SHORT of the reference: the same walk as the class's -/
def zfv (o : Option Nat) : Int32 := match o with
  | none => nI 2000000000
  | some v => nI v
theorem zfv_n : zfv none = nI 2000000000 := rfl
theorem zfv_s (v : Nat) : zfv (some v) = nI v := rfl
theorem m_joined (d : Nat) {a b : Option Nat} (ha : ∀ v, a = some v → v ≤ 1000000000) (hb : ∀ v, b = some v → v ≤ 500000000) (μ : zzM) : zzf zzP zN (d + 1) 219 [.int (zfv a), .int (zfv b)] μ = some ((zfv (a.bind fun x => b.bind fun y => some (x + y)), 0, 0), μ) := by
  rw [u_m_joined]
  cases b with
  | none =>
    have e : nI 2000000000 - zfv none = nI 0 := by
      show nI 2000000000 - nI 2000000000 = _
      rw [zq_sub (Nat.le_refl _), Nat.sub_self]
    rw [e]
    cases a with
    | none =>
      rw [if_neg (show ¬ zfv none < nI 0 by rw [zfv_n, zq_lt (by omega) (by omega)]; omega)]
      rfl
    | some v =>
      have := ha v rfl
      rw [if_neg (show ¬ zfv (some v) < nI 0 by rw [zfv_s, zq_lt (by omega) (by omega)]; omega)]
      rfl
  | some w =>
    have hw := hb w rfl
    have e : nI 2000000000 - zfv (some w) = nI (2000000000 - w) := zq_sub (by omega)
    rw [e]
    cases a with
    | none =>
      rw [if_neg (show ¬ zfv none < nI (2000000000 - w) by rw [zfv_n, zq_lt (by omega) (by omega)]; omega)]
      rfl
    | some v =>
      have := ha v rfl
      rw [if_pos (show zfv (some v) < nI (2000000000 - w) by rw [zfv_s, zq_lt (by omega) (by omega)]; omega)]
      show some ((nI v + nI w, 0, 0), μ) = some ((nI (v + w), 0, 0), μ)
      rw [zq_add]
/-- the row of numbers in the reference's memory -/
def zmr (f : Nat → Option Nat) (μ : zzM) : Prop := ∀ c, c < 26 → μ.1 129 c = zfv (f c)
theorem m_fewestIn {g : zG} {s : zSn} {μ : zzM} (h : zm2 g s μ) (hg : zwg g) (d : Nat) {r : Nat} (hr : r < gN g) {f : Nat → Option Nat} (hf : zmr f μ) (hb : zsb 1024 f) : zw (zzf zzP zN (d + 2) 218 [.ref 105, .int (nI r)] μ) fun o => o.2 = μ ∧ o.1.1 = zfv (zps f (gS g r) (gZ g r)) := by
  have hn := g_n hg
  have hz := g_z hg hr
  rw [u_m_fewestIn]
  refine zl_up (fun k (_ : Unit) => ([nI r, zfv (zps f (gS g r) k), nI k], [], μ)) (fun _ _ => True) 0 (gZ g r) () (by omega) (by omega) rfl trivial ?_ ?_
  · rintro k - g' - hk - hgo
    have hs := g_s hg hr hk
    have hgo := hgo () trivial
    have hsum : ∀ v, zps f (gS g r) k = some v → v ≤ 1000000000 := fun v hv => by
      have h1 := zps_le hb (by omega) hv
      have h2 : k * 1024 ≤ 4 * 1024 := Nat.mul_le_mul_right _ (by omega)
      omega
    have es : zps f (gS g r) (k + 1) = (zps f (gS g r) k).bind fun a => (zpv f (gS g r k)).bind fun b => some (a + b) := rfl
    rw [es] at hgo
    simp only [zI0, zI1, zI2, zI3, zI4, zI5, zI6, zI7, zI8, zJ0, zJ1, zJ2, zMM]
    rw [zr_i _ _ (by omega) (by omega), d_z h hr, Option.bind_some, if_neg (by rw [zq_le (by omega) (by omega)]; omega), d_symAt h hg hr hk, Option.bind_some, m_isCapital, Option.bind_some, zq_add k 1]
    simp only [zB_0]
    have e26 : (nI 26 ≤ nI (gS g r k)) = (26 ≤ gS g r k) := zq_le (by omega) (by omega)
    by_cases hc : 26 ≤ gS g r k
    · have ev : zpv f (gS g r k) = f (gS g r k - 26) := if_neg (by omega)
      rw [ev] at hgo
      rw [if_neg (by rw [decide_eq_true (by rw [e26]; exact hc)]; decide), zq_sub hc, zr_i _ _ (by omega) (by omega), Option.bind_some, hf _ (by omega), m_joined _ hsum (fun v hv => by have := hb _ _ hv; omega), Option.bind_some]
      exact hgo
    · have ev : zpv f (gS g r k) = some 1 := if_pos (by omega)
      rw [ev] at hgo
      rw [if_pos (decide_eq_false (by rw [e26]; exact hc)), show nI 1 = zfv (some 1) from rfl, m_joined _ hsum (fun v hv => by cases hv; omega), Option.bind_some]
      exact hgo
  · rintro - g' -
    simp only [zI0, zI1, zI2, zI3, zI4, zI5, zI6, zI7, zI8, zJ0, zJ1, zJ2, zMM]
    rw [zr_i _ _ (by omega) (by omega), d_z h hr, Option.bind_some, if_pos (by rw [zq_le (by omega) (by omega)]; omega)]
    exact zw_some ⟨rfl, rfl⟩
theorem zmr_up {f : Nat → Option Nat} {μ : zzM} (h : zmr f μ) (c v : Nat) : zmr (zup1 f c (some v)) (zzwI μ 129 c (nI v)) := by
  intro c' hc'
  rw [zm_if]
  unfold zup1
  by_cases e : c' = c
  · rw [if_pos e, if_pos e]
    rfl
  · rw [if_neg e, if_neg e]
    exact h c' hc'
theorem m_isLeft {g : zG} {s : zSn} {μ : zzM} (h : zm2 g s μ) (hg : zwg g) (d : Nat) (a : Int32) : zw (zzf zzP zN (d + 1) 179 [.ref 105, .int a] μ) fun o => o.2 = μ ∧ ∃ b, o.1.1 = zB b ∧ (b = true ↔ ∃ r, r < gN g ∧ a = nI (gL g r)) := by
  have hn := g_n hg
  rw [u_m_isLeft]
  refine zl_up (fun r (_ : Unit) => ([a, nI r], [], μ)) (fun r _ => ∀ q, q < r → ¬ a = nI (gL g q)) 0 (gN g) () (by omega) (by omega) rfl (fun q hq => absurd hq (by omega)) ?_ ?_
  · rintro r - g' - hr hJ hgo
    simp only [zI0, zI1, zI2, zI3, zI4, zI5, zI6, zI7, zI8, zJ0, zJ1, zJ2, zMM]
    rw [zr_i _ _ (by omega) (by omega), d_n h, Option.bind_some, if_neg (by rw [zq_le (by omega) (by omega)]; omega), zr_i _ _ (by omega) (by omega), d_l h hr, Option.bind_some, zq_add]
    by_cases e : nI (gL g r) = a
    · rw [if_pos e, if_pos (by decide)]
      exact zw_some ⟨rfl, true, rfl, fun _ => ⟨r, hr, e.symm⟩, fun _ => rfl⟩
    · rw [if_neg e]
      refine hgo () fun q hq => ?_
      by_cases eq : q = r
      · rw [eq]; exact fun q => e q.symm
      · exact hJ q (by omega)
  · rintro - g' hJ
    simp only [zI0, zI1, zI2, zI3, zI4, zI5, zI6, zI7, zI8, zJ0, zJ1, zJ2, zMM]
    rw [zr_i _ _ (by omega) (by omega), d_n h, Option.bind_some, if_pos (by rw [zq_le (by omega) (by omega)]; omega), if_pos (by decide)]
    refine zw_some ⟨rfl, false, rfl, ?_⟩
    constructor
    · intro q; cases q
    · rintro ⟨r, h1, h2⟩
      exact absurd h2 (hJ r h1)
theorem zshF_st {g : zG} {s : zSn} {I : Nat} (hI : 0 < I) (hC : zshC g s I = false) : ∀ j, zshF g s (I + j) = zshF g s I ∧ zshC g s (I + j) = false
  | 0 => ⟨rfl, hC⟩
  | j + 1 => by
    obtain ⟨h1, h2⟩ := zshF_st hI hC j
    obtain ⟨i, rfl⟩ : ∃ i, I = i + 1 := ⟨I - 1, by omega⟩
    have h3 : zshF g s (i + 1) = zshF g s i := (zshR_un (show (zshR g s (zshF g s i) (gN g)).1 = false from hC)).1
    refine ⟨?_, ?_⟩
    · show (zshR g s (zshF g s (i + 1 + j)) (gN g)).2 = _
      rw [h1, h3]
      exact h3
    · show (zshR g s (zshF g s (i + 1 + j)) (gN g)).1 = false
      rw [h1, h3]
      exact hC
theorem m_shortest {g : zG} {s : zSn} {μ : zzM} (h : zm2 g s μ) (hg : zwg g) (d : Nat) {r0 : Nat} (hr0 : r0 < gN g) : zw (zzf zzP zN (d + 3) 220 [.ref 105, .int (nI (gL g r0))] μ) fun o => zfr [129] μ o.2 ∧ (∀ v, zSh g s (gL g r0 - 26) v → o.1.1 = nI v) ∧ ((¬ ∃ h v, zDn g s h (gL g r0 - 26) v) → o.1.1 = -(nI 2)) := by
  have hn := g_n hg
  have hl0 := g_l hg hr0
  rw [u_m_shortest]
  refine zw_bind (m_isLeft h hg (d + 1) _) ?_
  rintro ⟨⟨w, w2, w3⟩, ν⟩ ⟨e1, b, e2, e3⟩
  simp only at e1 e2 ⊢
  have e1 := e1.symm
  subst e1
  subst e2
  have hbt : b = true := e3.2 ⟨r0, hr0, rfl⟩
  subst hbt
  rw [if_neg (by decide)]
  refine zl_up (fun c (y : zzM) => ([nI (gL g r0), nI c], [], y)) (fun c y => zfr [129] μ y ∧ ∀ e, e < c → y.1 129 e = nI 2000000000) 0 26 μ (by omega) (by omega) rfl ⟨zf_refl _ _, fun e he => absurd he (by omega)⟩ ?_ ?_
  · rintro c y g' - hc ⟨a1, a2⟩ hgo
    simp only [zI0, zI1, zI2, zI3, zI4, zI5, zI6, zI7, zI8, zJ0, zJ1, zJ2, zMM]
    rw [if_neg (by rw [zq_le (by omega) (by omega)]; omega), zs_i _ _ _ hc (by omega), Option.bind_some, zq_add]
    refine hgo _ ⟨zf_twI _ _ a1 rfl, fun e he => ?_⟩
    rw [zm_if]
    by_cases ee : e = c
    · rw [if_pos ee]
    · rw [if_neg ee]; exact a2 e (by omega)
  · rintro y g' ⟨a1, a2⟩
    simp only [zI0, zI1, zI2, zI3, zI4, zI5, zI6, zI7, zI8, zJ0, zJ1, zJ2, zMM]
    rw [if_pos (by decide)]
    refine zl_up (fun n (z : zzM) => ([nI (gL g r0), nI n], [], z)) (fun n z => zfr [129] μ z ∧ zmr (zshF g s n) z) 0 13 y (by omega) (by omega) rfl ⟨a1, a2⟩ ?_ ?_
    · rintro n z g'' - hn13 ⟨b1, b2⟩ hgo
      simp only [zI0, zI1, zI2, zI3, zI4, zI5, zI6, zI7, zI8, zJ0, zJ1, zJ2, zMM]
      rw [if_neg (by rw [zq_lt (by omega) (by omega)]; omega)]
      refine zl_up (fun r (w : zzM) => ([nI (gL g r0), nI n, nI r], [], w)) (fun r w => zfr [129] μ w ∧ zmr (zshR g s (zshF g s n) r).2 w) 0 (gN g) z (by omega) (by omega) rfl ⟨b1, b2⟩ ?_ ?_
      · rintro r w g3 - hr ⟨c1, c2⟩ hgo2
        have h1 := zm2_fr h c1 rfl
        have hl := g_l hg hr
        have eR : zshR g s (zshF g s n) (r + 1) = if zon g s r then ((zshR g s (zshF g s n) r).1 || (zsh1 g (zshR g s (zshF g s n) r).2 r).1, (zsh1 g (zshR g s (zshF g s n) r).2 r).2) else zshR g s (zshF g s n) r := rfl
        have hbd := zsi_b hg (zsi_R (s := s) hg (zsi_F (s := s) hg n) (r := r) (by omega))
        generalize hfr : zshR g s (zshF g s n) r = fr at *
        simp only [zI0, zI1, zI2, zI3, zI4, zI5, zI6, zI7, zI8, zJ0, zJ1, zJ2, zMM]
        rw [zr_i _ _ (by omega) (by omega), d_n h1, Option.bind_some, if_neg (by rw [zq_le (by omega) (by omega)]; omega), zr_i _ _ (by omega) (by omega), d_l h1 hr, Option.bind_some, d_on h1 hg _ hr, Option.bind_some, zq_add r 1, zq_sub hl.1]
        simp only [zB_0]
        have hc26 := c2 (gL g r - 26) (by omega)
        have hle : fr.2 (gL g r - 26) = none ∨ ∃ v, fr.2 (gL g r - 26) = some v ∧ v ≤ 1024 := by
          cases hv : fr.2 (gL g r - 26) with
          | none => exact .inl rfl
          | some v => exact .inr ⟨v, rfl, hbd _ _ hv⟩
        cases hon : zon g s r with
        | false =>
          rw [if_pos rfl, zr_i _ _ (by omega) (by omega), Option.bind_some, if_pos (by
            rw [hc26]
            rcases hle with q | ⟨v, q, qv⟩
            · rw [q]; show nI 2000000000 ≤ nI 2000000000; rw [zq_le (by omega) (by omega)]; omega
            · rw [q]; show nI v ≤ nI 2000000000; rw [zq_le (by omega) (by omega)]; omega), Option.bind_some, zs_i _ _ _ (by omega) (by omega), Option.bind_some, zm_id rfl]
          refine hgo2 w ⟨c1, ?_⟩
          rw [eR, hon]
          exact c2
        | true =>
          rw [if_neg (by decide)]
          refine zw_bind (m_fewestIn h1 hg d hr c2 hbd) ?_
          rintro ⟨⟨x, x2, x3⟩, w'⟩ ⟨e4, e5⟩
          simp only at e4 e5 ⊢
          have e4 := e4.symm
          subst e4
          subst e5
          rw [zr_i _ _ (by omega) (by omega), Option.bind_some, hc26]
          have hgo3 : ∀ w2, zfr [129] μ w2 → zmr (zsh1 g fr.2 r).2 w2 → _ := fun w2 q1 q2 => hgo2 w2 ⟨q1, by rw [eR, hon]; exact q2⟩
          rcases zsh1_cases g fr.2 r with ⟨z1, z2⟩ | ⟨v, z1, z2, z3⟩
          · have hle2 : zfv (fr.2 (gL g r - 26)) ≤ zfv (zps fr.2 (gS g r) (gZ g r)) := by
              cases hp : zps fr.2 (gS g r) (gZ g r) with
              | none =>
                rcases hle with q | ⟨v, q, qv⟩
                · rw [q]; show nI 2000000000 ≤ nI 2000000000; rw [zq_le (by omega) (by omega)]; omega
                · rw [q]; show nI v ≤ nI 2000000000; rw [zq_le (by omega) (by omega)]; omega
              | some v =>
                obtain ⟨w2, q1, q2⟩ := z2 v hp
                have h3 := zps_le hbd (by omega) hp
                have hz := g_z hg hr
                have h4 : gZ g r * 1024 ≤ 4 * 1024 := Nat.mul_le_mul_right _ hz
                rw [q2]
                show nI w2 ≤ nI v
                rw [zq_le (by omega) (by omega)]
                exact q1
            rw [if_pos hle2, Option.bind_some, zs_i _ _ _ (by omega) (by omega), Option.bind_some, zm_id hc26]
            exact hgo3 w c1 (by rw [z1]; exact c2)
          · have h3 := zps_le hbd (by omega) z1
            have hz := g_z hg hr
            have h4 : gZ g r * 1024 ≤ 4 * 1024 := Nat.mul_le_mul_right _ hz
            rw [z1]
            have hlt : ¬ zfv (fr.2 (gL g r - 26)) ≤ zfv (some v) := by
              rcases hle with q | ⟨u, q, qv⟩
              · rw [q]; show ¬ nI 2000000000 ≤ nI v; rw [zq_le (by omega) (by omega)]; omega
              · rw [q]; show ¬ nI u ≤ nI v; rw [zq_le (by omega) (by omega)]; have := z2 u q; omega
            rw [if_neg hlt, zs_i _ _ _ (by omega) (by omega), Option.bind_some]
            exact hgo3 _ (zf_twI _ _ c1 rfl) (by rw [z3]; exact zmr_up c2 _ _)
      · rintro w g3 ⟨c1, c2⟩
        have h1 := zm2_fr h c1 rfl
        simp only [zI0, zI1, zI2, zI3, zI4, zI5, zI6, zI7, zI8, zJ0, zJ1, zJ2, zMM]
        rw [zr_i _ _ (by omega) (by omega), d_n h1, Option.bind_some, if_pos (by rw [zq_le (by omega) (by omega)]; omega), zq_add]
        exact hgo w ⟨c1, c2⟩
    · rintro z g'' ⟨b1, b2⟩
      obtain ⟨I, hI, hI6, hC, -⟩ := zsh_I (s := s) hg
      obtain ⟨x1, x2⟩ := zsh_ex hg hI hC
      have hst := (zshF_st (g := g) (s := s) hI hC (13 - I)).1
      rw [show I + (13 - I) = 13 by omega] at hst
      rw [hst] at b2
      have hbd := zsi_b hg (zsi_F (s := s) hg I)
      simp only [zI0, zI1, zI2, zI3, zI4, zI5, zI6, zI7, zI8, zJ0, zJ1, zJ2, zMM]
      rw [if_pos (by decide), zq_sub hl0.1, zr_i _ _ (by omega) (by omega), Option.bind_some, b2 _ (by omega)]
      cases hv : zshF g s I (gL g r0 - 26) with
      | none =>
        rw [if_neg (show ¬ zfv none < nI 2000000000 by rw [zfv_n, zq_lt (by omega) (by omega)]; omega)]
        refine zw_some ⟨b1, fun v hs => ?_, fun _ => rfl⟩
        obtain ⟨⟨hh, hd⟩, -⟩ := hs
        have := x2 _ hh v hd
        rw [hv] at this
        cases this
      | some v =>
        have h5 := hbd _ _ hv
        rw [if_pos (show zfv (some v) < nI 2000000000 by rw [zfv_s, zq_lt (by omega) (by omega)]; omega)]
        refine zw_some ⟨b1, fun w hs => ?_, fun hno => ?_⟩
        · have h6 := x1 _ _ hv
          obtain ⟨⟨h7, h8⟩, h9⟩ := hs
          obtain ⟨⟨h10, h11⟩, h12⟩ := h6
          have := h12 h7 w h8
          have := h9 h10 v h11
          show nI v = nI w
          rw [show v = w by omega]
        · obtain ⟨h10, h11⟩ := (x1 _ _ hv).1
          exact absurd ⟨h10, v, h11⟩ hno
