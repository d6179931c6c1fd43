/-! QUERIES: how many trees -/
theorem d_trees {g : zG} {s : zSn} {μ : zzM} (K : zOk g s) (m : mI g s μ) {vn : Nat → Nat → Nat → Nat} (hQ : ∀ i j, i ≤ j → j ≤ sL s → zEq g s vn i j) (d : Nat) : zw (zzf zzP zN (d + 9) 283 [.ref 105] μ) fun o => mQ μ o.2 ∧ mI g s o.2 ∧ trOk g s o.2 := by
  obtain ⟨o, a1, a2, a3, a4, a5, a6, a7⟩ := m_laysTrees m.h K.hg K.hs d hQ (mI_o m (i := 2) (by omega)) (mI_o m (i := 4) (by omega))
  refine ⟨o, a1, ⟨zf_mono a2 rfl, a3 16 (by omega), a3 39 (by omega)⟩, mI_gen (N := fun i => i = 2 ∨ i = 4) m (zm2_fr m.h a2 rfl) a4 (.inl ⟨a3 35 (by omega), zf_l a2 rfl, zf_i a2 rfl⟩) (.inl a7) (.inr a5) (.inl (zf_i a2 rfl)) (.inr a6) (.inl (zf_i a2 rfl)) (.inl (zf_i a2 rfl)) (g_n K.hg) K.hs.1 (fun i _ q => ?_), a6⟩
  rcases q with rfl | rfl
  · exact a5
  · exact ⟨a5, a6⟩
theorem zsuM_s (f : Nat → Nat) (n : Nat) : zsuM f (n + 1) = zsuM f n + f n := rfl
theorem q_trees {g : zG} {s : zSn} {μ : zzM} (K : zOk g s) (c : cI g s μ) (m : mI g s μ) (a1 a2 a3 : Int32) : zQ g s 160 284 [.ref 0, .int a1, .int a2, .int a3] [.ref 105, .int a1, .int a2, .int a3] μ := by
  have hsl := K.hs.1
  have hgn := g_n K.hg
  by_cases e : ∃ r, r < gN g ∧ a1 = nI (gL g r)
  · by_cases e2 : ∃ m n, m ≤ n ∧ n ≤ sL s ∧ a2 = nI m ∧ a3 = nI n
    · obtain ⟨r, r1, r2⟩ := id e
      obtain ⟨p, q, p1, p2, p3, p4⟩ := id e2
      obtain ⟨hl1, hl2⟩ := g_l K.hg r1
      obtain ⟨k, k1, k2⟩ := c.N
      obtain ⟨o, a1', a2', a3', a4'⟩ := s_cfill c.h K.hg K.hs c.A 4 k2 k1
      have o1 : zzf zzP zN 12 80 [.ref 45] μ = some o := a1'
      have hco : cI g s o.2 := cI_up c a2' rfl (.inl rfl) (.inl rfl) (.inl rfl) (.inr (cCf_h a3')) (.inl rfl) (.inr ⟨_, Nat.le_refl _, a4'⟩) (.inl rfl) (.inr (cO_A c (zf_i a2' rfl) (zf_i a2' rfl) a3')) (.inl rfl)
      obtain ⟨-, vn, v1, v2⟩ := id a4'
      have hQ : ∀ i j, i ≤ j → j ≤ sL s → zEq g s vn i j := fun i j h1 h2 => v2 i j h1 (by omega) (by omega)
      let E : Prop := ∃ x, x < gN g ∧ gL g x = gL g r ∧ zEn g s x p q
      let S : Nat → Nat := fun n => zsuM (fun x => if gL g x = gL g r then vn x p q else 0) n
      let A : Int32 → Prop := fun x => x = if zdc E then -(nI 3) else if S (gN g) < 2147483648 then nI (S (gN g)) else -(nI 2)
      refine zQ_of (A := A) (A' := A) m ?_ (fun z hz => ?_) fun x x' h1 h2 => h1.trans h2.symm
      · obtain ⟨u, u1, u2, u3⟩ := s_howMany hco.h K.hg 10 v1 (o.2.1 9 (gL g r - 26)) (i := p) (j := q) (show q < sL s + 1 by omega) p1 (by omega)
        have u1 : zzf zzP zN 12 79 [.ref 45, .int (o.2.1 9 (gL g r - 26)), .int (nI (zsp p q))] o.2 = some u := u1
        have hbq : ∀ x, x < gN g → bt (o.2.1 9 (gL g r - 26)) x = decide (gL g x = gL g r) := fun x hx => by
          rw [c_u hco.h (by omega) (by omega)]
          exact decide_eq_decide.2 ⟨fun f => by omega, fun f => ⟨hx, by omega⟩⟩
        have hS : zsuM (fun x => if bt (o.2.1 9 (gL g r - 26)) x then vn x p q else 0) (gN g) = S (gN g) := zsuM_cg fun x hx => by
          rw [hbq x hx]
          by_cases f : gL g x = gL g r
          · rw [decide_eq_true f, if_pos rfl, if_pos f]
          · rw [decide_eq_false f, if_neg (by decide), if_neg f]
        have hE : (∃ x, x < gN g ∧ bt (o.2.1 9 (gL g r - 26)) x = true ∧ zEn g s x p q) = E := propext ⟨fun ⟨x, f1, f2, f3⟩ => ⟨x, f1, by rw [hbq x f1, decide_eq_true_eq] at f2; exact f2, f3⟩, fun ⟨x, f1, f2, f3⟩ => ⟨x, f1, by rw [hbq x f1, decide_eq_true_eq]; exact f2, f3⟩⟩
        rw [hE, hS] at u3
        unfold cA
        rw [show (13 : Nat) = 12 + 1 from rfl, w_pf_trees, show zzf zzP zN 12 131 [.ref 0, .int a1] μ = _ from c_isLeft c.h K.hg 11 a1, Option.bind_some, zdT e, if_neg (show ¬ zB true = 0 by decide), show zzf zzP zN 12 132 [.ref 0, .int a2, .int a3] μ = _ from c_isSpan c.h hsl 11 a2 a3, Option.bind_some, zdT e2, if_neg (show ¬ zB true = 0 by decide), o1, Option.bind_some, r2, zq_sub hl1, zr_i _ _ (by omega) (by omega), Option.bind_some, p3, p4, show zzf zzP zN 12 135 [.int (nI p), .int (nI q)] o.2 = _ from s_zsp 11 p1 (by omega) o.2, Option.bind_some]
        show zw ((zzf zzP zN 12 79 [.ref 45, .int (o.2.1 9 (gL g r - 26)), .int (nI (zsp p q))] o.2).bind _) _
        rw [u1, Option.bind_some, u3, u2]
        have hfo := zf_mono (L' := cQl) a2' rfl
        unfold zen
        by_cases hE' : E
        · rw [zdT hE', if_pos rfl, zif_cg (lg_cmp_eq _ _), if_pos rfl]
          exact zw_some ⟨hfo, hco, by show _ = if zdc E then _ else _; rw [zdT hE', if_pos rfl]⟩
        · rw [zdF hE', if_neg (show ¬ (false = true) by decide)]
          have hz : zTm = 2147483648 := rfl
          rw [hz, zif_cg ((lg_cmp_eq _ _).trans (pk_lEQ (by omega) (by omega))), if_neg (by omega), zif_cg ((lg_cmp_lt _ _).trans (pk_lLT (by omega) (by omega)))]
          by_cases hS2 : S (gN g) < 2147483648
          · rw [show min (S (gN g)) 2147483648 = S (gN g) by omega, if_pos hS2, lN_i]
            exact zw_some ⟨hfo, hco, by show _ = if zdc E then _ else _; rw [zdF hE', if_neg (show ¬ (false = true) by decide), if_pos hS2]⟩
          · rw [if_neg (by omega)]
            exact zw_some ⟨hfo, hco, by show _ = if zdc E then _ else _; rw [zdF hE', if_neg (show ¬ (false = true) by decide), if_neg hS2]⟩
      · obtain ⟨x, y, hx⟩ := d_isLeft hz.h K.hg 11 a1
        have hx : zzf zzP zN 12 179 [.ref 105, .int a1] z = _ := hx
        obtain ⟨t, t1, t2, t3, t4, vm, t5, t6⟩ := d_trees K hz hQ 3
        have t1 : zzf zzP zN 12 283 [.ref 105] z = some t := t1
        have hvv : ∀ x, x < gN g → vm x p q = vn x p q := fun x hx => zEq_un K.hg t5 hQ (q - p) p q (by omega) p2 x hx
        unfold mA
        rw [show (13 : Nat) = 12 + 1 from rfl, w_m_trees, hx, Option.bind_some, zdT e, if_neg (show ¬ zB true = 0 by decide), show zzf zzP zN 12 263 [.ref 105, .int a2, .int a3] z = _ from d_isSpan hz.h hsl 11 a2 a3, Option.bind_some, zdT e2, if_neg (show ¬ zB true = 0 by decide), t1, Option.bind_some, r2, p3, p4]
        have hvb : ∀ x, x < gN g → vn x p q ≤ 2147483648 := fun x hx => zEq_le (hQ p q p1 p2) hx
        have hSb : ∀ n, n ≤ gN g → S n ≤ n * 2147483648 := fun n hn => zsuM_mul fun x hx => by
          by_cases f : gL g x = gL g r
          · rw [if_pos f]
            exact hvb x (by omega)
          · rw [if_neg f]
            exact Nat.zero_le _
        refine zl_up (fun n (_ : Unit) => ([nI (gL g r), nI p, nI q, nI n], [lN (S n)], t.2)) (fun n _ => ∀ x, x < n → gL g x = gL g r → ¬ zEn g s x p q) 0 (gN g) () (by omega) (by omega) rfl (fun x f => absurd f (by omega)) ?_ ?_
        · rintro n - ga - hn hJ hgo
          obtain ⟨hn1, hn2⟩ := g_l K.hg hn
          unfold L284_a
          simp only [zI0, zI1, zI2, zI3, zI4, zI5, zI6, zI7, zI8, zJ0, zJ1, zJ2, zMM]
          rw [zr_i _ _ (by omega) (by omega), d_n t3.h, Option.bind_some, if_neg (by rw [zq_le (by omega) (by omega)]; omega), show zzf zzP zN 12 177 [.ref 105, .int (nI n)] t.2 = _ from d_on t3.h K.hg 10 hn, Option.bind_some]
          simp only [zB_0]
          have skip : S (n + 1) = S n → (gL g n = gL g r → ¬ zEn g s n p q) → zw (J284_b zN 12 ga (nI (gL g r)) (nI p) (nI q) (lN (S n)) (nI n) (nI 0) t.2) fun o => mQ z o.2 ∧ mI g s o.2 ∧ A o.1.1 := by
            intro hs1 hs2
            unfold J284_b
            rw [if_pos (by decide)]
            unfold J284_a
            rw [if_pos (by decide), lN_add, Nat.add_zero, zq_add]
            have := hgo () fun x f1 f2 => by
              by_cases ex : x = n
              · rw [ex] at f2 ⊢
                exact hs2 f2
              · exact hJ x (by omega) f2
            rw [hs1] at this
            exact this
          have hz0 : zon g s n = false → vn n p q = 0 ∧ ¬ zEn g s n p q := fun f => by
            have hnM : ¬ zM true g s n p q := fun h => by rw [zM_on h] at f; cases f
            exact ⟨((hQ p q p1 p2) n hn).2 fun h => hnM h.1, fun h => hnM (zEn_M h)⟩
          cases eo : zon g s n with
          | false =>
            obtain ⟨z1, z2⟩ := hz0 eo
            rw [if_pos rfl]
            refine skip ?_ fun _ => z2
            show S n + (if gL g n = gL g r then vn n p q else 0) = S n
            rw [z1]
            split <;> omega
          | true =>
            rw [if_neg (by decide), zr_i _ _ (by omega) (by omega), d_l t3.h hn, Option.bind_some, zif_cg (Iff.of_eq (zq_eq (by omega) (by omega)))]
            by_cases el : gL g n = gL g r
            · rw [if_pos el]
              unfold J284_b
              rw [if_neg (by decide), show zzf zzP zN 12 252 [.int (nI n), .int (nI p), .int (nI q)] t.2 = _ from m_spot 11 n p q t.2, Option.bind_some, zr_i _ _ (by omega) (by omega), Option.bind_some]
              have h138 := t4 n p q hn p1 p2
              unfold mEn at h138
              by_cases ez : t.2.1 138 (169 * n + 13 * p + q) = 0
              · rw [if_pos ez]
                unfold J284_a
                have hnE : ¬ zEn g s n p q := fun f => h138.2 f ez
                rw [if_neg (by decide), show zzf zzP zN 12 252 [.int (nI n), .int (nI p), .int (nI q)] t.2 = _ from m_spot 11 n p q t.2, Option.bind_some, zr_l _ _ (by omega) (by omega), (t6 n p q hn p1 p2).1, Option.bind_some, lN_add, zq_add, hvv n hn]
                have := hgo () fun x f1 f2 => by
                  by_cases ex : x = n
                  · rw [ex]
                    exact hnE
                  · exact hJ x (by omega) f2
                rw [show S (n + 1) = S n + vn n p q by show S n + (if gL g n = gL g r then vn n p q else 0) = _; rw [if_pos el]] at this
                exact this
              · rw [if_neg ez]
                refine zw_some ⟨t2, t3, ?_⟩
                show _ = if zdc E then _ else _
                rw [zdT ⟨n, hn, el, h138.1 ez⟩, if_pos rfl]
            · rw [if_neg el]
              refine skip ?_ fun f => absurd f el
              show S n + (if gL g n = gL g r then vn n p q else 0) = S n
              rw [if_neg el]
              rfl
        · rintro - ga hJ
          have hb := hSb (gN g) (Nat.le_refl _)
          have hnE : ¬ E := fun ⟨x, f1, f2, f3⟩ => hJ x f1 f2 f3
          unfold L284_a
          simp only [zI0, zI1, zI2, zI3, zI4, zI5, zI6, zI7, zI8, zJ0, zJ1, zJ2, zMM]
          have hb2 : S (gN g) < 2 ^ 63 := by
            have : gN g * 2147483648 ≤ 12 * 2147483648 := Nat.mul_le_mul_right _ hgn
            omega
          rw [zr_i _ _ (by omega) (by omega), d_n t3.h, Option.bind_some, if_pos (by rw [zq_le (by omega) (by omega)]; omega), zif_cg ((lg_cmp_lt _ _).trans (pk_lLT hb2 (by omega)))]
          by_cases hS2 : S (gN g) < 2147483648
          · rw [if_pos hS2, lN_i]
            exact zw_some ⟨t2, t3, by show _ = if zdc E then _ else _; rw [zdF hnE, if_neg (show ¬ (false = true) by decide), if_pos hS2]⟩
          · rw [if_neg hS2]
            exact zw_some ⟨t2, t3, by show _ = if zdc E then _ else _; rw [zdF hnE, if_neg (show ¬ (false = true) by decide), if_neg hS2]⟩
    · refine zQ_v (-(nI 1)) m (cA_s c (a := 0) (b := 0) ?_ rfl) fun z hz => mA_s hz (a := 0) (b := 0) ?_ rfl
      · rw [show (13 : Nat) = 12 + 1 from rfl, w_pf_trees, show zzf zzP zN 12 131 [.ref 0, .int a1] μ = _ from c_isLeft c.h K.hg 11 a1, Option.bind_some, zdT e, if_neg (show ¬ zB true = 0 by decide), show zzf zzP zN 12 132 [.ref 0, .int a2, .int a3] μ = _ from c_isSpan c.h hsl 11 a2 a3, Option.bind_some, zdF e2, if_pos (show zB false = 0 by decide)]
      · obtain ⟨x, y, hx⟩ := d_isLeft hz.h K.hg 11 a1
        have hx : zzf zzP zN 12 179 [.ref 105, .int a1] z = _ := hx
        rw [show (13 : Nat) = 12 + 1 from rfl, w_m_trees, hx, Option.bind_some, zdT e, if_neg (show ¬ zB true = 0 by decide), show zzf zzP zN 12 263 [.ref 105, .int a2, .int a3] z = _ from d_isSpan hz.h hsl 11 a2 a3, Option.bind_some, zdF e2, if_pos (show zB false = 0 by decide)]
  · refine zQ_v (-(nI 1)) m (cA_s c (a := 0) (b := 0) ?_ rfl) fun z hz => mA_s hz (a := 0) (b := 0) ?_ rfl
    · rw [show (13 : Nat) = 12 + 1 from rfl, w_pf_trees, show zzf zzP zN 12 131 [.ref 0, .int a1] μ = _ from c_isLeft c.h K.hg 11 a1, Option.bind_some, zdF e, if_pos (show zB false = 0 by decide)]
    · obtain ⟨x, y, hx⟩ := d_isLeft hz.h K.hg 11 a1
      have hx : zzf zzP zN 12 179 [.ref 105, .int a1] z = _ := hx
      rw [show (13 : Nat) = 12 + 1 from rfl, w_m_trees, hx, Option.bind_some, zdF e, if_pos (show zB false = 0 by decide)]
