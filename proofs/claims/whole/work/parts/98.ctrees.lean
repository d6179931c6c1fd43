/-! TREES of the class: goOnWith, treesOf, wholeBelow -/
def zfl (P : Prop) (N : Nat) (X : Prop) (W : Nat) : Prop := (P ∧ (X ∨ W ≠ 0)) ∨ (X ∧ (P ∨ N ≠ 0))
theorem s_cgo {g : zG} {s : zSn} {μ : zzM} (h : zc2 g s μ) (hg : zwg g) (hc : cCf true 36 37 38 39 g s μ) (hsl : sL s ≤ 12) (d : Nat) {x : Nat → Nat → Nat → Prop} {v : Nat → Nat → Nat → Nat} {D : Nat → Nat → Prop} (hT : cTr g x v D μ) {r k i n : Nat} (hr : r < gN g) (hk : k < gZ g r) (hi : i ≤ n) (hn : n ≤ sL s) (hD : ∀ j, i ≤ j → j ≤ n → D i j ∧ zSu g s v i j) {P : Nat → Prop} {N : Nat → Nat} (hR : ∀ j, j ≤ n → μ.2 47 j = zen (P j) (N j)) : zw (zzf zzP zN (d + 4) 84 [.ref 45, .int (nI r), .int (nI k), .int (nI i), .int (nI n)] μ) fun o => zfr [47] μ o.2 ∧ ∀ j, j ≤ n → o.2.2 47 j = zen ((j ≠ i ∧ P j) ∨ (i ≤ j ∧ zw1 g s r k i j ∧ zfl (P i) (N i) (zxb g s x r k i j) (zwn g s v r k i j))) ((if j = i then 0 else N j) + (if zdc (i ≤ j ∧ zw1 g s r k i j) then N i * zwn g s v r k i j else 0)) := by
  have hgn := g_n hg
  have hz := g_z hg hr
  have hsy := g_s hg hr hk
  have fin : ∀ sm : Bool, (sm = true ↔ gS g r k < 26) → zw (J84_c zN (d + 3) (nI r) (nI k) (nI i) (nI n) (zB sm) μ) fun o => zfr [47] μ o.2 ∧ ∀ j, j ≤ n → o.2.2 47 j = zen ((j ≠ i ∧ P j) ∨ (i ≤ j ∧ zw1 g s r k i j ∧ zfl (P i) (N i) (zxb g s x r k i j) (zwn g s v r k i j))) ((if j = i then 0 else N j) + (if zdc (i ≤ j ∧ zw1 g s r k i j) then N i * zwn g s v r k i j else 0)) := by
    intro sm hsm
    unfold J84_c
    rw [zr_l _ _ (by omega) (by omega), Option.bind_some, zs_l _ _ _ (by omega) (by omega), Option.bind_some, hR i hi]
    have hz1 : ∀ j, j ≤ n → (zzwL μ 47 i (lN 0)).2 47 j = zen (j ≠ i ∧ P j) (if j = i then 0 else N j) := fun j hj => by
      rw [zn_if]
      by_cases e : j = i
      · rw [if_pos e, if_pos e, zen_f (fun q => q.1 e)]
        rfl
      · rw [if_neg e, if_neg e, hR j hj]
        exact zen_cg ⟨fun q => ⟨e, q⟩, fun q => q.2⟩ rfl
    have hfz : zfr [47] μ (zzwL μ 47 i (lN 0)) := zf_wL _ _ rfl
    generalize zzwL μ 47 i (lN 0) = z at hz1 hfz ⊢
    have main : ∀ B : Int32, (∀ j, j < 32 → (bt B j = true → i ≤ j ∧ j ≤ n ∧ zw1 g s r k i j)) → (∀ j, j ≤ n → bt B j = false → i ≤ j → zw1 g s r k i j → ¬ P i ∧ N i = 0) → zw (J84_b zN (d + 3) (nI r) (nI k) (nI i) (nI n) (zB sm) (zen (P i) (N i)) B z) fun o => zfr [47] μ o.2 ∧ ∀ j, j ≤ n → o.2.2 47 j = zen ((j ≠ i ∧ P j) ∨ (i ≤ j ∧ zw1 g s r k i j ∧ zfl (P i) (N i) (zxb g s x r k i j) (zwn g s v r k i j))) ((if j = i then 0 else N j) + (if zdc (i ≤ j ∧ zw1 g s r k i j) then N i * zwn g s v r k i j else 0)) := by
      intro B hB hB2
      unfold J84_b
      have hfinal : ∀ j, j ≤ n → zen ((j ≠ i ∧ P j) ∨ (bt B j = true ∧ zfl (P i) (N i) (zxb g s x r k i j) (zwn g s v r k i j))) ((if j = i then 0 else N j) + (if bt B j then N i * zwn g s v r k i j else 0)) = zen ((j ≠ i ∧ P j) ∨ (i ≤ j ∧ zw1 g s r k i j ∧ zfl (P i) (N i) (zxb g s x r k i j) (zwn g s v r k i j))) ((if j = i then 0 else N j) + (if zdc (i ≤ j ∧ zw1 g s r k i j) then N i * zwn g s v r k i j else 0)) := by
        intro j hj
        cases hbj : bt B j with
        | true =>
          obtain ⟨q1, q2, q3⟩ := hB j (by omega) hbj
          rw [zdc_t.2 ⟨q1, q3⟩]
          exact zen_cg (or_congr Iff.rfl ⟨fun q => ⟨q1, q3, q.2⟩, fun q => ⟨rfl, q.2.2⟩⟩) rfl
        | false =>
          by_cases q : i ≤ j ∧ zw1 g s r k i j
          · obtain ⟨p1, p2⟩ := hB2 j hj hbj q.1 q.2
            rw [zdc_t.2 q, p2, Nat.zero_mul]
            refine zen_cg (or_congr Iff.rfl ⟨fun e => (by cases e.1), fun e => ?_⟩) rfl
            rcases e.2.2 with e | e
            · exact absurd e.1 p1
            · exact e.2.elim (fun f => absurd f p1) (fun f => absurd rfl f)
          · rw [zdc_f.2 q]
            exact zen_cg (or_congr Iff.rfl ⟨fun e => (by cases e.1), fun e => absurd ⟨e.1, e.2.1⟩ q⟩) rfl
      refine zl_up (fun j (y : zzM) => ([nI r, nI k, nI i, nI n, zB sm, B, nI j], [zen (P i) (N i)], y)) (fun j y => zfr [47] μ y ∧ ∀ j', j' ≤ n → y.2 47 j' = zen ((j' ≠ i ∧ P j') ∨ ((j' < j ∧ bt B j' = true) ∧ zfl (P i) (N i) (zxb g s x r k i j') (zwn g s v r k i j'))) ((if j' = i then 0 else N j') + (if zdc (j' < j ∧ bt B j' = true) then N i * zwn g s v r k i j' else 0))) i (n + 1) z (by omega) (by omega) rfl ⟨hfz, fun j' hj' => ?_⟩ ?_ ?_
      · have hno : ¬ (j' < i ∧ bt B j' = true) := fun q => by have := hB j' (by omega) q.2; omega
        rw [hz1 j' hj', zdc_f.2 hno]
        exact zen_cg ⟨.inl, fun q => q.resolve_right fun q => hno q.1⟩ rfl
      · rintro j y ga hj hjn ⟨i1, i2⟩ hgo
        have hy := zc2_fr h i1 rfl
        have hcy := cCf_fr hc i1 rfl
        unfold L84_a
        simp only [zI0, zI1, zI2, zI3, zI4, zI5, zI6, zI7, zI8, zJ0, zJ1, zJ2, zMM]
        rw [if_neg (by rw [zq_lt (by omega) (by omega)]; omega)]
        simp (disch := omega) only [b_bit, zq_add, zB_0]
        by_cases e : (B >>> (nI j &&& 31)) = 0
        · rw [if_pos e]
          rw [b_shr0 (by omega)] at e
          refine zw_some ⟨i1, fun j' hj' => ?_⟩
          rw [i2 j' hj', ← hfinal j' hj']
          by_cases e1 : j' < j
          · cases hbj : bt B j' with
            | true =>
              rw [zdc_t.2 ⟨e1, rfl⟩]
              exact zen_cg (or_congr Iff.rfl (and_congr ⟨fun _ => rfl, fun _ => ⟨e1, rfl⟩⟩ Iff.rfl)) rfl
            | false =>
              rw [show zdc (j' < j ∧ false = true) = false from zdc_f.2 fun q => by cases q.2]
              exact zen_cg (or_congr Iff.rfl (and_congr ⟨fun q => (by cases q.2), fun q => (by cases q)⟩ Iff.rfl)) rfl
          · have hbj := e j' (by omega) (by omega)
            rw [hbj, show zdc (j' < j ∧ false = true) = false from zdc_f.2 fun q => by cases q.2]
            exact zen_cg (or_congr Iff.rfl (and_congr ⟨fun q => (by cases q.2), fun q => (by cases q)⟩ Iff.rfl)) rfl
        · rw [if_neg e]
          have hyj : y.2 47 j = zen (j ≠ i ∧ P j) (if j = i then 0 else N j) := by
            have hno : ¬ (j < j ∧ bt B j = true) := fun q => by omega
            rw [i2 j (by omega), zdc_f.2 hno]
            exact zen_cg ⟨fun q => q.resolve_right fun q => hno q.1, .inl⟩ rfl
          cases hbj : bt B j with
          | false =>
            rw [if_pos rfl]
            refine hgo y ⟨i1, fun j' hj' => ?_⟩
            rw [i2 j' hj']
            have : (j' < j ∧ bt B j' = true) ↔ (j' < j + 1 ∧ bt B j' = true) := ⟨fun q => ⟨by omega, q.2⟩, fun q => ⟨by
              by_cases e' : j' = j
              · rw [e', hbj] at q; cases q.2
              · omega, q.2⟩⟩
            rw [zdc_cg this]
            exact zen_cg (or_congr Iff.rfl (and_congr this Iff.rfl)) rfl
          | true =>
            rw [if_neg (by decide)]
            obtain ⟨q1, q2, q3⟩ := hB j (by omega) hbj
            have last : ∀ pt : Int64, pt = zen (zxb g s x r k i j) (zwn g s v r k i j) → zw (J84_a zN (d + 3) ga (nI r) (nI k) (nI i) (nI n) (zB sm) (zen (P i) (N i)) B (nI j) pt y) fun o => zfr [47] μ o.2 ∧ ∀ j, j ≤ n → o.2.2 47 j = zen ((j ≠ i ∧ P j) ∨ (i ≤ j ∧ zw1 g s r k i j ∧ zfl (P i) (N i) (zxb g s x r k i j) (zwn g s v r k i j))) ((if j = i then 0 else N j) + (if zdc (i ≤ j ∧ zw1 g s r k i j) then N i * zwn g s v r k i j else 0)) := by
              intro pt hpt
              unfold J84_a
              rw [zr_l _ _ (by omega) (by omega), Option.bind_some, hyj, hpt, s_prod, Option.bind_some, s_sum, Option.bind_some, zs_l _ _ _ (by omega) (by omega), Option.bind_some, zq_add]
              refine hgo _ ⟨zf_twL _ _ i1 rfl, fun j' hj' => ?_⟩
              by_cases e' : j' = j
              · subst e'
                rw [zn_s, zdc_t.2 (show j' < j' + 1 ∧ bt B j' = true from ⟨by omega, hbj⟩)]
                exact zen_cg (or_congr Iff.rfl ⟨fun q => ⟨⟨by omega, hbj⟩, q⟩, fun q => q.2⟩) rfl
              · rw [zn_k _ _ _ _ e', i2 j' hj']
                have : (j' < j ∧ bt B j' = true) ↔ (j' < j + 1 ∧ bt B j' = true) := ⟨fun q => ⟨by omega, q.2⟩, fun q => ⟨by omega, q.2⟩⟩
                rw [zdc_cg this]
                exact zen_cg (or_congr Iff.rfl (and_congr this Iff.rfl)) rfl
            cases sm with
            | false =>
              rw [if_pos rfl]
              have hcap : 26 ≤ gS g r k := by
                apply Nat.le_of_not_lt
                intro q
                have := hsm.2 q
                cases this
              have hTy : cTr g x v D y := fun q i j a b c e => by rw [zf_l i1 rfl]; exact hT q i j a b c e
              obtain ⟨o1, o3, g1, g2, g3, g4, g5⟩ := s_part hy hg hcy hsl d hTy hr hk (hD j q1 q2).1 (hD j q1 q2).2 q1 (by omega) hcap
              rw [g1, Option.bind_some, g2, s_zsp _ q1 (by omega), Option.bind_some, g3, Option.bind_some, g4]
              exact last _ g5
            | true =>
              rw [if_neg (by decide)]
              have hsml := hsm.1 rfl
              refine last (lN 1) ?_
              have hx : ¬ zxb g s x r k i j := fun ⟨q, q1, _⟩ => by have := zbl_cap hg q1; omega
              have hw1 : zwn g s v r k i j = 1 := by
                unfold zwn
                rw [if_pos hsml]
                rcases q3 with q3 | q3
                · rw [if_pos ⟨q3.2.1, q3.2.2⟩]
                · omega
              rw [zen_f hx, hw1]
              rfl
      · rintro y ga ⟨i1, i2⟩
        unfold L84_a
        simp only [zI0, zI1, zI2, zI3, zI4, zI5, zI6, zI7, zI8, zJ0, zJ1, zJ2, zMM]
        rw [if_pos (by rw [zq_lt (by omega) (by omega)]; omega)]
        refine zw_some ⟨i1, fun j' hj' => ?_⟩
        rw [i2 j' hj', ← hfinal j' hj']
        cases hbj : bt B j' with
        | true =>
          rw [zdc_t.2 (show j' < n + 1 ∧ true = true from ⟨by omega, rfl⟩)]
          exact zen_cg (or_congr Iff.rfl (and_congr ⟨fun _ => rfl, fun _ => ⟨by omega, rfl⟩⟩ Iff.rfl)) rfl
        | false =>
          rw [show zdc (j' < n + 1 ∧ false = true) = false from zdc_f.2 fun q => by cases q.2]
          exact zen_cg (or_congr Iff.rfl (and_congr ⟨fun q => (by cases q.2), fun q => (by cases q)⟩ Iff.rfl)) rfl
    by_cases e0 : lg_cmp (zen (P i) (N i)) (lN 0) = 0
    · rw [if_pos e0]
      rw [zen_0] at e0
      exact main (nI 0) (fun j _ q => by rw [b_z] at q; cases q) (fun j _ _ _ _ => e0)
    · rw [if_neg e0]
      have hcz := cCf_fr hc hfz rfl
      obtain ⟨o, e1, e2, e3⟩ := s_endsOf hg hcz hsl (d + 2) hr hk hi hn
      rw [e1, Option.bind_some, e2]
      refine main o.1.1 (fun j hj q => ?_) (fun j hj q q1 q2 => ?_)
      · obtain ⟨a, b, c⟩ := (e3 j hj).1 q
        exact ⟨a, b, c⟩
      · rw [(e3 j (by omega)).2 ⟨q1, hj, q2⟩] at q
        cases q
  rw [w_counts_goOnWith, s_symAt h hg _ hr hk, Option.bind_some]
  simp (disch := omega) only [zq_le]
  by_cases e : 26 ≤ gS g r k
  · rw [if_pos e]
    exact fin false ⟨fun q => (by cases q), fun q => by omega⟩
  · rw [if_neg e]
    exact fin true ⟨fun _ => by omega, fun _ => rfl⟩
/-- trees of a rule over a part, out of what is held -/
theorem s_treesOf {g : zG} {s : zSn} {μ : zzM} (h : zc2 g s μ) (hg : zwg g) (hc : cCf true 36 37 38 39 g s μ) (hsl : sL s ≤ 12) (d : Nat) {x : Nat → Nat → Nat → Prop} {v : Nat → Nat → Nat → Nat} {D : Nat → Nat → Prop} (hT : cTr g x v D μ) {r m n : Nat} (hr : r < gN g) (hm : m ≤ n) (hn : n ≤ sL s) (hD : ∀ i j, m ≤ i → i ≤ j → j ≤ n → D i j ∧ zSu g s v i j ∧ ∀ q, q < gN g → zM true g s q i j → x q i j ∨ v q i j ≠ 0) : zw (zzf zzP zN (d + 5) 83 [.ref 45, .int (nI r), .int (nI m), .int (nI n)] μ) fun o => zfr [47] μ o.2 ∧ o.1.2.1 = zen (zPx (zw1 g s r) (zxb g s x r) m (gZ g r) n) (zNs (zwn g s v r) m (gZ g r) n) := by
  have hgn := g_n hg
  have hz := g_z hg hr
  rw [w_counts_treesOf, s_fillL_47, Option.bind_some, zs_l _ _ _ (by omega) (by omega), Option.bind_some]
  have hpos : ∀ k i j, m ≤ i → i ≤ j → j ≤ n → zw1 g s r k i j → zxb g s x r k i j ∨ zwn g s v r k i j ≠ 0 := by
    intro k i j a b c e
    rcases e with e | ⟨e, q, e1, e2⟩
    · right
      unfold zwn
      rw [if_pos e.1, if_pos e.2]
      omega
    · have hq := zM_lt e2
      rcases (hD i j a b c).2.2 q hq e2 with f | f
      · exact .inl ⟨q, e1, e2, f⟩
      · right
        unfold zwn
        rw [if_neg (by omega)]
        have h1 := zsuM_at (f := fun q => if zbl true g s r k q then v q i j else 0) hq
        rw [e1, if_pos rfl] at h1
        unfold zTm
        omega
  have hxw : ∀ k i j, zxb g s x r k i j → zw1 g s r k i j := fun k i j ⟨q, a, b, _⟩ => zEx_cap hg a b
  have hpa : ∀ k j, j ≤ n → (zPa (zw1 g s r) k m j ↔ zPx (zw1 g s r) (zxb g s x r) m k j ∨ zNs (zwn g s v r) m k j ≠ 0) := fun k j hj => ⟨zPa_or fun k' i' j' _ b c e f => hpos k' i' j' b c (by omega) f, fun q => q.elim (zPx_pa fun k' i' j' _ b c e f => hxw k' i' j' f) (fun q => zPa_mo (fun k' i' j' _ b c e f => zwn_w hg (hD i' j' b c (by omega)).2.1 f) (zNs_pa q))⟩
  refine zl_up (fun k (y : zzM) => ([nI r, nI m, nI n, nI k], [], y)) (fun k y => zfr [47] μ y ∧ ∀ j, j ≤ n → y.2 47 j = zen (zPx (zw1 g s r) (zxb g s x r) m k j) (zNs (zwn g s v r) m k j)) 0 (gZ g r) _ (by omega) (by omega) rfl ⟨zf_twL _ _ (zf_bL _ _ _ rfl) rfl, fun j hj => ?_⟩ ?_ ?_
  · rw [zn_if, zen_f (fun q => q.elim)]
    show _ = lN (min (if j = m then 1 else 0) zTm)
    by_cases e : j = m
    · rw [if_pos e, if_pos e]
      rfl
    · rw [if_neg e, if_neg e, zc_i _ _ _ (Nat.zero_le _) (by omega)]
      rfl
  · rintro k y ga - hk ⟨i1, i2⟩ hgo
    have hy := zc2_fr h i1 rfl
    unfold L83_b
    simp only [zI0, zI1, zI2, zI3, zI4, zI5, zI6, zI7, zI8, zJ0, zJ1, zJ2, zMM]
    rw [zr_i _ _ (by omega) (by omega), c_z hy hr, Option.bind_some, if_neg (by rw [zq_le (by omega) (by omega)]; omega)]
    refine zl_dn (fun i (y : zzM) => ([nI r, nI m, nI n, nI k, nJ i], [], y)) (fun i y => zfr [47] μ y ∧ ∀ j, j ≤ n → y.2 47 j = zen ((j < i ∧ zPx (zw1 g s r) (zxb g s x r) m k j) ∨ ∃ i', i ≤ i' ∧ i' ≤ j ∧ ((zPx (zw1 g s r) (zxb g s x r) m k i' ∧ zw1 g s r k i' j) ∨ (zPa (zw1 g s r) k m i' ∧ zxb g s x r k i' j))) ((if j < i then zNs (zwn g s v r) m k j else 0) + zsuM (fun i' => if i ≤ i' then zNs (zwn g s v r) m k i' * zwn g s v r k i' j else 0) (j + 1))) m (n + 1) y (by omega) (by omega) (by rw [nJ_s]) ⟨i1, fun j hj => ?_⟩ ?_ ?_
    · rw [i2 j hj, if_pos (by omega), zsuM_0 fun i' hi' => if_neg (by omega)]
      exact zen_cg ⟨fun q => .inl ⟨by omega, q⟩, fun q => q.elim (fun q => q.2) (fun ⟨i', a, b, _⟩ => by omega)⟩ rfl
    · rintro i y gb hi hin ⟨j1, j2⟩ hgo2
      have hyy := zc2_fr h j1 rfl
      have hcy := cCf_fr hc j1 rfl
      have hTy : cTr g x v D y := fun q i j a b c e => by rw [zf_l j1 rfl]; exact hT q i j a b c e
      unfold L83_a
      simp only [zI0, zI1, zI2, zI3, zI4, zI5, zI6, zI7, zI8, zJ0, zJ1, zJ2, zMM]
      rw [nJ_s, if_neg (by rw [zq_lt (by omega) (by omega)]; omega)]
      obtain ⟨o, e1, e2, e3⟩ := s_cgo hyy hg hcy hsl d hTy hr hk (show i ≤ n by omega) hn (fun j a b => ⟨(hD i j hi a b).1, (hD i j hi a b).2.1⟩) j2
      rw [e1, Option.bind_some, nJ_e]
      refine hgo2 o.2 ⟨zf_trans j1 e2, fun j hj => ?_⟩
      rw [e3 j hj]
      have hPi : ((i < i + 1 ∧ zPx (zw1 g s r) (zxb g s x r) m k i) ∨ ∃ i', i + 1 ≤ i' ∧ i' ≤ i ∧ ((zPx (zw1 g s r) (zxb g s x r) m k i' ∧ zw1 g s r k i' i) ∨ (zPa (zw1 g s r) k m i' ∧ zxb g s x r k i' i))) ↔ zPx (zw1 g s r) (zxb g s x r) m k i := ⟨fun q => q.elim (fun q => q.2) (fun ⟨i', a, b, _⟩ => by omega), fun q => .inl ⟨by omega, q⟩⟩
      have hNi : ((if i < i + 1 then zNs (zwn g s v r) m k i else 0) + zsuM (fun i' => if i + 1 ≤ i' then zNs (zwn g s v r) m k i' * zwn g s v r k i' i else 0) (i + 1)) = zNs (zwn g s v r) m k i := by
        rw [if_pos (by omega), zsuM_0 fun i' hi' => if_neg (by omega)]
        rfl
      rw [hNi]
      have hflag : zw1 g s r k i j → i ≤ j → (zfl (zPx (zw1 g s r) (zxb g s x r) m k i) (zNs (zwn g s v r) m k i) (zxb g s x r k i j) (zwn g s v r k i j) ↔ (zPx (zw1 g s r) (zxb g s x r) m k i ∧ zw1 g s r k i j) ∨ (zPa (zw1 g s r) k m i ∧ zxb g s x r k i j)) := by
        intro a b
        unfold zfl
        rw [hpa k i (by omega)]
        constructor
        · rintro (q | q)
          · exact .inl ⟨q.1, a⟩
          · exact .inr ⟨q.2, q.1⟩
        · rintro (q | q)
          · exact .inl ⟨q.1, hpos k i j hi b hj a⟩
          · exact .inr ⟨q.2, q.1⟩
      refine zen_cg ?_ ?_
      · rw [hPi]
        rcases Nat.lt_trichotomy j i with e | e | e
        · constructor
          · rintro (⟨-, q | ⟨i', a, b, _⟩⟩ | ⟨q, _⟩)
            · exact .inl ⟨e, q.2⟩
            · omega
            · omega
          · rintro (⟨-, q⟩ | ⟨i', a, b, _⟩)
            · exact .inl ⟨by omega, .inl ⟨by omega, q⟩⟩
            · omega
        · subst e
          constructor
          · rintro (⟨q, -⟩ | ⟨a, b, c⟩)
            · exact absurd rfl q
            · exact .inr ⟨j, Nat.le_refl _, Nat.le_refl _, (hflag b a).1 c⟩
          · rintro (⟨q, -⟩ | ⟨i', a, b, c⟩)
            · omega
            · have : i' = j := by omega
              subst this
              have hw : zw1 g s r k i' i' := c.elim (fun q => q.2) (fun q => hxw _ _ _ q.2)
              exact .inr ⟨Nat.le_refl _, hw, (hflag hw (Nat.le_refl _)).2 c⟩
        · constructor
          · rintro (⟨-, q | ⟨i', a, b, c⟩⟩ | ⟨a, b, c⟩)
            · omega
            · exact .inr ⟨i', by omega, b, c⟩
            · exact .inr ⟨i, Nat.le_refl _, a, (hflag b a).1 c⟩
          · rintro (⟨q, -⟩ | ⟨i', a, b, c⟩)
            · omega
            · by_cases ei : i' = i
              · subst ei
                have hw : zw1 g s r k i' j := c.elim (fun q => q.2) (fun q => hxw _ _ _ q.2)
                exact .inr ⟨b, hw, (hflag hw b).2 c⟩
              · exact .inl ⟨by omega, .inr ⟨i', by omega, b, c⟩⟩
      · have hw0 : i ≤ j → ¬ zw1 g s r k i j → zwn g s v r k i j = 0 := fun a b => Classical.byContradiction fun q => b (zwn_w hg (hD i j hi a hj).2.1 q)
        have hlast : (if zdc (i ≤ j ∧ zw1 g s r k i j) then zNs (zwn g s v r) m k i * zwn g s v r k i j else 0) = if i ≤ j then zNs (zwn g s v r) m k i * zwn g s v r k i j else 0 := by
          by_cases a : i ≤ j
          · by_cases b : zw1 g s r k i j
            · rw [zdc_t.2 ⟨a, b⟩, if_pos a]
              rfl
            · rw [zdc_f.2 fun q => b q.2, if_pos a, hw0 a b]
              simp
          · rw [zdc_f.2 fun q => a q.1, if_neg a]
            rfl
        rw [hlast]
        rcases Nat.lt_trichotomy j i with e | e | e
        · rw [if_neg (show ¬ j = i by omega), if_pos (show j < i + 1 by omega), if_pos e, if_neg (show ¬ i ≤ j by omega), zsuM_0 fun i' hi' => if_neg (by omega), zsuM_0 fun i' hi' => if_neg (by omega)]
        · subst e
          rw [if_pos rfl, if_neg (Nat.lt_irrefl _), if_pos (Nat.le_refl _)]
          have := zsuM_1 (f := fun i' => if j + 1 ≤ i' then zNs (zwn g s v r) m k i' * zwn g s v r k i' j else 0) (f' := fun i' => if j ≤ i' then zNs (zwn g s v r) m k i' * zwn g s v r k i' j else 0) (c := j) (v := zNs (zwn g s v r) m k j * zwn g s v r k j j) (n := j + 1) (by omega) (by rw [if_pos (Nat.le_refl _), if_neg (by omega)]; omega) (fun k' _ hk' => zif_cg (by omega))
          rw [this, zsuM_0 fun i' hi' => if_neg (by omega)]
          omega
        · rw [if_neg (show ¬ j = i by omega), if_neg (show ¬ j < i + 1 by omega), if_neg (show ¬ j < i by omega), if_pos (show i ≤ j by omega)]
          have := zsuM_1 (f := fun i' => if i + 1 ≤ i' then zNs (zwn g s v r) m k i' * zwn g s v r k i' j else 0) (f' := fun i' => if i ≤ i' then zNs (zwn g s v r) m k i' * zwn g s v r k i' j else 0) (c := i) (v := zNs (zwn g s v r) m k i * zwn g s v r k i j) (n := j + 1) (by omega) (by rw [if_pos (Nat.le_refl _), if_neg (by omega)]; omega) (fun k' _ hk' => zif_cg (by omega))
          rw [this]
          omega
    · rintro y gb ⟨j1, j2⟩
      unfold L83_a
      simp only [zI0, zI1, zI2, zI3, zI4, zI5, zI6, zI7, zI8, zJ0, zJ1, zJ2, zMM]
      rw [if_pos (nJ_lt (Nat.le_refl _) (by omega)), zq_add]
      refine hgo y ⟨j1, fun j hj => ?_⟩
      rw [j2 j hj]
      have hlow : ∀ j, j < m → ¬ zPx (zw1 g s r) (zxb g s x r) m k j ∧ zNs (zwn g s v r) m k j = 0 := fun j hjm => by
        have hnp : ¬ zPa (zw1 g s r) k m j := fun q => by have := zPa_le q; omega
        by_cases e : j ≤ n
        · rw [hpa k j e] at hnp
          exact ⟨fun q => hnp (.inl q), Classical.byContradiction fun q => hnp (.inr q)⟩
        · omega
      refine zen_cg ?_ ?_
      · constructor
        · rintro (⟨a, b⟩ | ⟨i', a, b, c⟩)
          · exact absurd b (hlow j a).1
          · exact ⟨i', a, b, c⟩
        · rintro ⟨i', a, b, c⟩
          exact .inr ⟨i', a, b, c⟩
      · show _ = zsuM _ (j + 1)
        by_cases e : j < m
        · rw [if_pos e, (hlow j e).2, Nat.zero_add]
        · rw [if_neg e, Nat.zero_add]
  · rintro y ga ⟨i1, i2⟩
    have hy := zc2_fr h i1 rfl
    unfold L83_b
    simp only [zI0, zI1, zI2, zI3, zI4, zI5, zI6, zI7, zI8, zJ0, zJ1, zJ2, zMM]
    rw [zr_i _ _ (by omega) (by omega), c_z hy hr, Option.bind_some, if_pos (by rw [zq_le (by omega) (by omega)]; omega), zr_l _ _ (by omega) (by omega), Option.bind_some]
    exact zw_some ⟨i1, i2 n (Nat.le_refl _)⟩
