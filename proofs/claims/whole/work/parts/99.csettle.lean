/-! TREES of the class: wholeBelow, settle, fill -/
theorem s_whole {g : zG} {s : zSn} {μ : zzM} (h : zc2 g s μ) (hg : zwg g) (hc : cCf true 36 37 38 39 g s μ) (hsl : sL s ≤ 12) (d : Nat) {r m n : Nat} (hr : r < gN g) (hm : m ≤ n) (hn : n ≤ sL s) : zw (zzf zzP zN (d + 3) 82 [.ref 45, .int (nI r), .int (nI m), .int (nI n)] μ) fun o => o.2 = μ ∧ ∀ q, q < 32 → (bt o.1.1 q = true ↔ ∃ k, k < gZ g r ∧ zbl true g s r k q = true ∧ zM true g s q m n ∧ ∀ i, i < gZ g r → i ≠ k → zw1 g s r i (if i < k then m else n) (if i < k then m else n)) := by
  have hgn := g_n hg
  have hz := g_z hg hr
  rw [w_counts_wholeBelow, zr_i _ _ (by omega) (by omega), c_z h hr, Option.bind_some]
  refine zl_up (fun k (x : Int32) => ([nI r, nI m, nI n, x, nI (gZ g r), nI k], [], μ)) (fun k x => ∀ q, q < 32 → (bt x q = true ↔ ∃ k', k' < k ∧ zbl true g s r k' q = true ∧ zM true g s q m n ∧ ∀ i, i < gZ g r → i ≠ k' → zw1 g s r i (if i < k' then m else n) (if i < k' then m else n))) 0 (gZ g r) (nI 0) (by omega) (by omega) rfl (fun q hq => by rw [b_z]; exact ⟨fun e => (by cases e), fun ⟨k', e, _⟩ => absurd e (by omega)⟩) ?_ ?_
  · rintro k x ga - hk hI hgo
    have hsy := g_s hg hr hk
    unfold L82_b
    simp only [zI0, zI1, zI2, zI3, zI4, zI5, zI6, zI7, zI8, zJ0, zJ1, zJ2, zMM]
    rw [if_neg (by rw [zq_le (by omega) (by omega)]; omega)]
    have hno : ¬ (∀ i, i < gZ g r → i ≠ k → zw1 g s r i (if i < k then m else n) (if i < k then m else n)) ∨ gS g r k < 26 → ∀ q, q < 32 → (bt x q = true ↔ ∃ k', k' < k + 1 ∧ zbl true g s r k' q = true ∧ zM true g s q m n ∧ ∀ i, i < gZ g r → i ≠ k' → zw1 g s r i (if i < k' then m else n) (if i < k' then m else n)) := fun e q hq => by
      rw [hI q hq]
      refine ⟨fun ⟨k', a, b⟩ => ⟨k', by omega, b⟩, fun ⟨k', a, b, c, f⟩ => ⟨k', ?_, b, c, f⟩⟩
      by_cases ek : k' = k
      · subst ek
        rcases e with e | e
        · exact absurd f e
        · have := zbl_cap hg b
          omega
      · omega
    have fin : ∀ gb b i, (b = true ↔ ∀ i, i < gZ g r → i ≠ k → zw1 g s r i (if i < k then m else n) (if i < k then m else n)) → zw (J82_a zN (d + 2) ga gb (nI r) (nI m) (nI n) x (nI (gZ g r)) (nI k) (zB b) (nI i) μ) fun o => o.2 = μ ∧ ∀ q, q < 32 → (bt o.1.1 q = true ↔ ∃ k, k < gZ g r ∧ zbl true g s r k q = true ∧ zM true g s q m n ∧ ∀ i, i < gZ g r → i ≠ k → zw1 g s r i (if i < k then m else n) (if i < k then m else n)) := by
      intro gb b i hb
      unfold J82_a
      simp only [zB_0, zq_add]
      cases b with
      | false =>
        rw [if_pos rfl]
        exact hgo x (hno (.inl fun q => by have := hb.2 q; cases this))
      | true =>
        rw [if_neg (by decide), s_symAt h hg _ hr hk, Option.bind_some]
        simp (disch := omega) only [zq_lt]
        by_cases e : gS g r k < 26
        · rw [if_pos e]
          exact hgo x (hno (.inr e))
        · rw [if_neg e]
          obtain ⟨o, e1, e2, e3⟩ := s_below hg hc hsl d hr hk hm hn
          rw [e1, Option.bind_some, e2]
          refine hgo _ fun q hq => ?_
          rw [b_or, Bool.or_eq_true, hI q hq, e3 q hq]
          constructor
          · rintro (⟨k', a, c⟩ | ⟨a, c⟩)
            · exact ⟨k', by omega, c⟩
            · exact ⟨k, by omega, c, a, hb.1 rfl⟩
          · rintro ⟨k', a, c, f, f'⟩
            by_cases ek : k' = k
            · subst ek
              exact .inr ⟨f, c⟩
            · exact .inl ⟨k', by omega, c, f, f'⟩
    refine zl_up (fun i (b : Bool) => ([nI r, nI m, nI n, x, nI (gZ g r), nI k, zB b, nI i], [], μ)) (fun i b => (b = true → ∀ i', i' < i → i' ≠ k → zw1 g s r i' (if i' < k then m else n) (if i' < k then m else n)) ∧ (b = false → ¬ ∀ i, i < gZ g r → i ≠ k → zw1 g s r i (if i < k then m else n) (if i < k then m else n))) 0 (gZ g r) true (by omega) (by omega) rfl ⟨fun _ i' e => absurd e (by omega), fun e => (by cases e)⟩ ?_ ?_
    · rintro i b gb - hi ⟨h1, h2⟩ hgo2
      unfold L82_a
      simp only [zI0, zI1, zI2, zI3, zI4, zI5, zI6, zI7, zI8, zJ0, zJ1, zJ2, zMM]
      rw [if_neg (by rw [zq_le (by omega) (by omega)]; omega)]
      simp only [zB_0]
      cases b with
      | false =>
        rw [if_pos rfl]
        exact fin gb false i ⟨fun e => (by cases e), fun e => absurd e (h2 rfl)⟩
      | true =>
        rw [if_neg (by decide)]
        have step : ∀ a, a = (if i < k then m else n) → zw (J82_b zN (d + 2) ga gb (nI r) (nI m) (nI n) x (nI (gZ g r)) (nI k) (zB true) (nI i) (nI a) μ) fun o => o.2 = μ ∧ ∀ q, q < 32 → (bt o.1.1 q = true ↔ ∃ k, k < gZ g r ∧ zbl true g s r k q = true ∧ zM true g s q m n ∧ ∀ i, i < gZ g r → i ≠ k → zw1 g s r i (if i < k then m else n) (if i < k then m else n)) := by
          intro a ha
          unfold J82_b
          simp (disch := omega) only [zq_eq, zq_add]
          by_cases e : i = k
          · rw [if_pos e]
            refine hgo2 true ⟨fun _ i' a b => h1 rfl i' (by omega) b, fun e => (by cases e)⟩
          · rw [if_neg e]
            have han : a ≤ sL s := by rw [ha]; split <;> omega
            obtain ⟨o, e1, e2, b, e3, e4⟩ := s_fits hg hc hsl (d + 1) hr hi (Nat.le_refl a) han
            rw [e1, Option.bind_some, e2, e3]
            simp only [zB_0]
            cases b with
            | false =>
              rw [if_pos rfl]
              refine hgo2 false ⟨fun e => (by cases e), fun _ q => ?_⟩
              have := q i hi e
              rw [← ha] at this
              have := e4.2 this
              cases this
            | true =>
              rw [if_neg (by decide)]
              refine hgo2 true ⟨fun _ i' a' b' => ?_, fun e => (by cases e)⟩
              by_cases ei : i' = i
              · rw [ei, ← ha]
                exact e4.1 rfl
              · exact h1 rfl i' (by omega) b'
        simp (disch := omega) only [zq_le]
        by_cases e : k ≤ i
        · rw [if_pos e]
          exact step n (by rw [if_neg (by omega)])
        · rw [if_neg e]
          exact step m (by rw [if_pos (by omega)])
    · rintro b gb ⟨h1, h2⟩
      unfold L82_a
      simp only [zI0, zI1, zI2, zI3, zI4, zI5, zI6, zI7, zI8, zJ0, zJ1, zJ2, zMM]
      rw [if_pos (by rw [zq_le (by omega) (by omega)]; omega)]
      refine fin gb b (gZ g r) ⟨h1, fun e => ?_⟩
      cases b with
      | true => rfl
      | false => exact absurd e (h2 rfl)
  · rintro x ga hI
    unfold L82_b
    simp only [zI0, zI1, zI2, zI3, zI4, zI5, zI6, zI7, zI8, zJ0, zJ1, zJ2, zMM]
    rw [if_pos (by rw [zq_le (by omega) (by omega)]; omega)]
    exact zw_some ⟨rfl, hI⟩
/-- what is made has a number, or a mark -/
theorem zmark {g : zG} {s : zSn} (hg : zwg g) {x : Nat → Nat → Nat → Prop} {v : Nat → Nat → Nat → Nat} {r m n : Nat} (hD : ∀ i j, m ≤ i → i ≤ j → j ≤ n → ∀ q, q < gN g → zM true g s q i j → x q i j ∨ v q i j ≠ 0) (hr : zM true g s r m n) : zPx (zw1 g s r) (zxb g s x r) m (gZ g r) n ∨ zNs (zwn g s v r) m (gZ g r) n ≠ 0 := by
  refine zPa_or (fun k i j _ a b c e => ?_) (zM_out hr)
  rcases e with e | ⟨e, q, e1, e2⟩
  · right
    unfold zwn
    rw [if_pos e.1, if_pos e.2]
    omega
  · have hq := zM_lt e2
    rcases hD i j a b c q hq e2 with f | f
    · exact .inl ⟨q, e1, e2, f⟩
    · right
      unfold zwn
      rw [if_neg (by omega)]
      have h1 := zsuM_at (f := fun q => if zbl true g s r k q then v q i j else 0) hq
      rw [e1, if_pos rfl] at h1
      unfold zTm
      omega
theorem zEq_pos {g : zG} {s : zSn} (hg : zwg g) {vn : Nat → Nat → Nat → Nat} {M N : Nat} (h : ∀ i j, M ≤ i → i ≤ j → j ≤ N → zEq g s vn i j) : ∀ {hh q m n : Nat}, M ≤ m → n ≤ N → zMd true g s hh q m n → ¬ zEn g s q m n → vn q m n ≠ 0
  | 0, _, _, _, _, _, e, _ => e.elim
  | hh + 1, q, m, n, hM, hN, e, hne => by
    have hqm : zM true g s q m n := ⟨hh + 1, e⟩
    have hmn := zM_le hqm
    rw [(h m n hM hmn hN q (zM_lt hqm)).1 ⟨hqm, hne⟩]
    have hor := zPa_or (x := zxb g s (zEn g s) q) (wt := zwn g s vn q) (fun k i j _ a b c f => (by
      rcases f with f | ⟨f, q', f1, f2⟩
      · right
        unfold zwn
        rw [if_pos f.1, if_pos f.2]
        omega
      · by_cases f3 : zEn g s q' i j
        · exact .inl ⟨q', f1, ⟨hh, f2⟩, f3⟩
        · right
          have f4 := zEq_pos hg h (by omega) (by omega) f2 f3
          unfold zwn
          rw [if_neg (by omega)]
          have h1 := zsuM_at (f := fun q' => if zbl true g s q k q' then vn q' i j else 0) (zM_lt ⟨hh, f2⟩ : q' < gN g)
          rw [f1, if_pos rfl] at h1
          unfold zTm
          omega)) e.2
    have hnp : ¬ zPx (zCB true g s (zMd true g s hh) q) (zxb g s (zEn g s) q) m (gZ g q) n := fun f => hne (zEn_in hqm (zPx_mo (fun k i j _ a b c => ⟨zCB_mo fun q' f' => ⟨hh, f'⟩, fun ⟨q', f1, f2, f3⟩ => ⟨q', f1, f3⟩⟩) f))
    have := hor.resolve_left hnp
    unfold zTm
    omega
theorem zEq_cg {g : zG} {s : zSn} {vn vn' : Nat → Nat → Nat → Nat} {m n : Nat} (h : ∀ q i j, q < gN g → m ≤ i → i ≤ j → j ≤ n → vn q i j = vn' q i j) (hmn : m ≤ n) (he : zEq g s vn m n) : zEq g s vn' m n := by
  have hN : ∀ r k j, j ≤ n → zNs (zwn g s vn r) m k j = zNs (zwn g s vn' r) m k j := by
    intro r k
    induction k with
    | zero => intro j _; rfl
    | succ k ih =>
      intro j hj
      refine zsuM_cg fun i hi => ?_
      by_cases e : m ≤ i
      · rw [if_pos e, if_pos e, ih i (by omega), zwn_cg fun q hq _ => h q i j hq e (by omega) hj]
      · rw [if_neg e, if_neg e]
  intro r hr
  rw [← h r m n hr (Nat.le_refl _) hmn (Nat.le_refl _), ← hN r (gZ g r) n (Nat.le_refl _)]
  exact he r hr
theorem zq91 {q q' p p' : Nat} (hp : p < 91) (hp' : p' < 91) (h : q * 91 + p = q' * 91 + p') : q = q' ∧ p = p' := by omega
set_option maxHeartbeats 1000000 in
theorem s_csettle {g : zG} {s : zSn} {μ : zzM} (h : zc2 g s μ) (hg : zwg g) (hc : cCf true 36 37 38 39 g s μ) (hsl : sL s ≤ 12) (d : Nat) {vn : Nat → Nat → Nat → Nat} {m n : Nat} (hm : m ≤ n) (hn : n ≤ sL s) (hT : cTr g (zEn g s) vn (fun i j => m ≤ i ∧ j ≤ n ∧ ¬ (i = m ∧ j = n)) μ) (hQ : ∀ i j, m ≤ i → i ≤ j → j ≤ n → ¬ (i = m ∧ j = n) → zEq g s vn i j) : zw (zzf zzP zN (d + 6) 81 [.ref 45, .int (nI m), .int (nI n)] μ) fun o => zfr [46, 47] μ o.2 ∧ (∀ p, (∀ q, q < gN g → p ≠ q * 91 + zsp m n) → o.2.2 46 p = μ.2 46 p) ∧ ∃ V, (∀ q, q < gN g → o.2.2 46 (q * 91 + zsp m n) = zen (zEn g s q m n) (V q)) ∧ zEq g s (zAtV m n vn V) m n := by
  have hgn := g_n hg
  have hsp := zsp_lt n (by omega) m (by omega) hm
  have hsu : ∀ i j, m ≤ i → i ≤ j → j ≤ n → ¬ (i = m ∧ j = n) → zSu g s vn i j := fun i j a b c e => zEq_su (hQ i j a b c e)
  have hpsub : ∀ i j, m ≤ i → i ≤ j → j ≤ n → ¬ (i = m ∧ j = n) → ∀ q, q < gN g → zM true g s q i j → zEn g s q i j ∨ vn q i j ≠ 0 := by
    intro i j a b c e q hq hqm
    by_cases f : zEn g s q i j
    · exact .inl f
    · obtain ⟨hh, hqm⟩ := hqm
      exact .inr (zEq_pos hg (M := i) (N := j) (fun i' j' a' b' c' => hQ i' j' (by omega) b' (by omega) (by omega)) (Nat.le_refl _) (Nat.le_refl _) hqm f)
  rw [w_counts_settle, s_zsp _ hm (by omega), Option.bind_some, s_rulesAt_36 _ hm (by omega), Option.bind_some]
  have hx0 : ∀ q, bt (μ.1 38 (zsp m n)) q = true ↔ zM true g s q m n := fun q => by
    by_cases hq : q < 32
    · exact c_ro hc hm hn hsl hq
    · rw [b_big (by omega)]
      exact ⟨fun e => (by cases e), fun e => by have := zM_lt e; omega⟩
  generalize μ.1 38 (zsp m n) = x0 at hx0 ⊢
  have hidx : ∀ q q', q < gN g → q' < gN g → q ≠ q' → q * 91 + zsp m n ≠ q' * 91 + zsp m n := fun q q' _ _ e => by omega
  refine zl_up (fun r (y : zzM) => ([nI m, nI n, nI (zsp m n), x0, nI r], [], y)) (fun r y => zfr [46] μ y ∧ (∀ p, (∀ q, q < gN g → p ≠ q * 91 + zsp m n) → y.2 46 p = μ.2 46 p) ∧ ∀ q, q < r → y.2 46 (q * 91 + zsp m n) = zen (bt x0 q = true) 0) 0 (gN g) μ (by omega) (by omega) rfl ⟨zf_refl _ _, fun _ _ => rfl, fun q e => absurd e (by omega)⟩ ?_ ?_
  · rintro r y ga - hr ⟨i1, i2, i3⟩ hgo
    have hy := zc2_fr h i1 rfl
    unfold L81_c
    simp only [zI0, zI1, zI2, zI3, zI4, zI5, zI6, zI7, zI8, zJ0, zJ1, zJ2, zMM]
    rw [c_n hy, if_neg (by rw [zq_le (by omega) (by omega)]; omega)]
    simp (disch := omega) only [b_bit, zq_mul, zq_add]
    have fin : ∀ v : Int64, v = zen (bt x0 r = true) 0 → zw (J81_a zN (d + 5) ga (nI m) (nI n) (nI (zsp m n)) x0 (nI r) v (nI (r * 91 + zsp m n)) y) fun o => zfr [46, 47] μ o.2 ∧ (∀ p, (∀ q, q < gN g → p ≠ q * 91 + zsp m n) → o.2.2 46 p = μ.2 46 p) ∧ ∃ V, (∀ q, q < gN g → o.2.2 46 (q * 91 + zsp m n) = zen (zEn g s q m n) (V q)) ∧ zEq g s (zAtV m n vn V) m n := by
      intro v hv
      unfold J81_a
      rw [zs_l _ _ _ (by omega) (by omega), Option.bind_some, zq_add]
      refine hgo _ ⟨zf_twL _ _ i1 rfl, fun p hp => ?_, fun q hq => ?_⟩
      · rw [zn_k _ _ _ _ (hp r hr)]
        exact i2 p hp
      · by_cases e : q = r
        · rw [e, zn_s, hv]
        · rw [zn_k _ _ _ _ (by omega)]
          exact i3 q (by omega)
    cases hb : bt x0 r with
    | false =>
      rw [if_pos rfl]
      exact fin (lN 0) (by rw [hb, zen_f (by decide)]; rfl)
    | true =>
      rw [if_neg (by decide)]
      exact fin (lN 1099511627776) (by rw [hb, zen_t rfl])
  · rintro y ga ⟨i1, i2, i3⟩
    have hy := zc2_fr h i1 rfl
    unfold L81_c
    simp only [zI0, zI1, zI2, zI3, zI4, zI5, zI6, zI7, zI8, zJ0, zJ1, zJ2, zMM]
    rw [c_n hy, if_pos (by rw [zq_le (by omega) (by omega)]; omega)]
    let SI : Int32 → zzM → Prop := fun x z => zfr [46, 47] μ z ∧ (∀ p, (∀ q, q < gN g → p ≠ q * 91 + zsp m n) → z.2 46 p = μ.2 46 p) ∧ ∃ X V, zSe g s vn m n (fun q => bt x q = true) X V ∧ (∀ q, zM true g s q m n → X q ∨ V q ≠ 0) ∧ ∀ q, q < gN g → z.2 46 (q * 91 + zsp m n) = zen (X q) (V q)
    let cl : Int32 → Prop := fun x => ∀ r, bt x r = true → ∃ q, zSm g s m n r q ∧ bt x q = true
    have hend : ∀ x z, SI x z → cl x → zfr [46, 47] μ z ∧ (∀ p, (∀ q, q < gN g → p ≠ q * 91 + zsp m n) → z.2 46 p = μ.2 46 p) ∧ ∃ V, (∀ q, q < gN g → z.2 46 (q * 91 + zsp m n) = zen (zEn g s q m n) (V q)) ∧ zEq g s (zAtV m n vn V) m n := by
      rintro x z ⟨a1, a2, X, V, a3, a4, a5⟩ hcl
      obtain ⟨b1, b2⟩ := zSe_end hg a3 hcl
      exact ⟨a1, a2, V, fun q hq => (a5 q hq).trans (zen_cg (b1 q) rfl), b2⟩
    have h00 : SI x0 y := ⟨zf_mono i1 rfl, i2, fun q => bt x0 q = true, fun _ => 0, zSe_0 hx0, fun q e => .inl ((hx0 q).2 e), fun q hq => i3 q hq⟩
    have hbz : ∀ x : Int32, 0 = x → cl x := fun x e r hr => by rw [← e, b_0] at hr; cases hr
    refine zl_up (fun i (a : Int32 × Int32 × zzM) => ([nI m, nI n, nI (zsp m n), a.1, a.2.1, nI i], [], a.2.2)) (fun i a => SI a.1 a.2.2 ∧ ((a.2.1 = a.1 ∧ cl a.1) ∨ (¬ a.2.1 = a.1 ∧ i + zcnt (bt a.1) 12 ≤ 12))) 0 13 (x0, nI 0, y) (by omega) (by omega) rfl ⟨h00, ?_⟩ ?_ ?_
    · by_cases e : nI 0 = x0
      · exact .inl ⟨e, hbz x0 e⟩
      · exact .inr ⟨e, by have := zcnt_le (bt x0) 12; show 0 + zcnt (bt x0) 12 ≤ 12; omega⟩
    · rintro i ⟨x, bf, z⟩ gb - hi ⟨hS, hcl⟩ hgo
      simp only at hS hcl
      unfold L81_b
      simp only [zI0, zI1, zI2, zI3, zI4, zI5, zI6, zI7, zI8, zJ0, zJ1, zJ2, zMM]
      rw [if_neg (by rw [zq_lt (by omega) (by omega)]; omega)]
      by_cases e : bf = x
      · rw [if_pos e]
        rcases hcl with ⟨-, hcl⟩ | ⟨hcl, -⟩
        · exact zw_some (hend x z hS hcl)
        · exact absurd e hcl
      · rw [if_neg e]
        have hci : i + zcnt (bt x) 12 ≤ 12 := by
          rcases hcl with ⟨hcl, -⟩ | ⟨-, hcl⟩
          · exact absurd hcl e
          · exact hcl
        refine zl_up (fun r (a : Int32 × zzM) => ([nI m, nI n, nI (zsp m n), a.1, x, nI i, nI r], [], a.2)) (fun r a => SI a.1 a.2 ∧ (∀ q, q < 32 → bt a.1 q = true → bt x q = true) ∧ (x = a.1 → ∀ r', r' < r → bt a.1 r' = true → ∃ q, zSm g s m n r' q ∧ bt a.1 q = true)) 0 (gN g) (x, z) (by omega) (by omega) rfl ⟨hS, fun q _ e => e, fun _ r' e => absurd e (by omega)⟩ ?_ ?_
        · rintro r ⟨x1, z1⟩ gc - hr ⟨hS1, hmo, hcl1⟩ hgo2
          simp only at hS1 hmo hcl1
          obtain ⟨a1, a2, X, V, a3, a4, a5⟩ := id hS1
          have hz1 := zc2_fr h a1 rfl
          have hcz := cCf_fr hc a1 rfl
          unfold L81_a
          simp only [zI0, zI1, zI2, zI3, zI4, zI5, zI6, zI7, zI8, zJ0, zJ1, zJ2, zMM]
          rw [c_n hz1, if_neg (by rw [zq_le (by omega) (by omega)]; omega)]
          simp (disch := omega) only [b_bit, zq_mul, zq_add]
          cases hb : bt x1 r with
          | false =>
            rw [if_pos rfl]
            refine hgo2 (x1, z1) ⟨hS1, hmo, fun e r' a b => ?_⟩
            by_cases er : r' = r
            · rw [er] at b
              have b : bt x1 r = true := b
              rw [hb] at b; cases b
            · exact hcl1 e r' (by omega) b
          | true =>
            rw [if_neg (by decide)]
            have hrm := (a3.1 r hb).1
            obtain ⟨o, e1, e2, e3⟩ := s_whole hz1 hg hcz hsl (d + 2) hr hm hn
            rw [e1, Option.bind_some, e2]
            have hsm : ∀ q, q < 32 → (bt o.1.1 q = true ↔ zSm g s m n r q) := fun q hq => by
              rw [e3 q hq]
              exact ⟨fun ⟨k, f⟩ => ⟨hrm, k, f⟩, fun ⟨_, k, f⟩ => ⟨k, f⟩⟩
            by_cases e0 : (o.1.1 &&& x1) = 0
            · rw [if_pos e0]
              rw [b_and0] at e0
              have hno : ∀ q, zSm g s m n r q → ¬ bt x1 q = true := fun q f f' => by
                have := (zSm_lt f).2
                exact e0 q (by omega) ⟨(hsm q (by omega)).2 f, f'⟩
              have hTz : cTr g (zAtX m n (zEn g s) X) (zAtV m n vn V) (fun i j => m ≤ i ∧ j ≤ n) z1 := fun q i j hq hD hij hj => by
                by_cases f : i = m ∧ j = n
                · obtain ⟨rfl, rfl⟩ := f
                  rw [zAtX_s, zAtV_s]
                  exact a5 q hq
                · rw [zAtX_o f, zAtV_o f, a2 _ fun q' hq' f' => ?_]
                  · exact hT q i j hq ⟨hD.1, hD.2, f⟩ hij hj
                  · have h1 := zsp_lt j (by omega) i (by omega) hij
                    exact f (zsp_inj j (by omega) i (by omega) hij n (by omega) m (by omega) hm (zq91 h1 hsp f').2)
              have hD : ∀ i j, m ≤ i → i ≤ j → j ≤ n → (m ≤ i ∧ j ≤ n) ∧ zSu g s (zAtV m n vn V) i j ∧ ∀ q, q < gN g → zM true g s q i j → zAtX m n (zEn g s) X q i j ∨ zAtV m n vn V q i j ≠ 0 := by
                intro i j f1 f2 f3
                refine ⟨⟨f1, f3⟩, ?_⟩
                by_cases f : i = m ∧ j = n
                · obtain ⟨rfl, rfl⟩ := f
                  refine ⟨fun q hq f' => ?_, fun q hq f' => ?_⟩
                  · rw [zAtV_s] at f'
                    exact a3.2.2.1 q f'
                  · rw [zAtX_s, zAtV_s]
                    exact a4 q f'
                · refine ⟨fun q hq f' => ?_, fun q hq f' => ?_⟩
                  · rw [zAtV_o f] at f'
                    exact hsu i j f1 f2 f3 f q hq f'
                  · rw [zAtX_o f, zAtV_o f]
                    exact hpsub i j f1 f2 f3 f q hq f'
              obtain ⟨o', g1, g2, g3⟩ := s_treesOf hz1 hg hcz hsl d hTz hr hm hn hD
              rw [g1, Option.bind_some, zs_l _ _ _ (by omega) (by omega), Option.bind_some, g3]
              have hmk := zmark hg (fun i j f1 f2 f3 => (hD i j f1 f2 f3).2.2) hrm
              generalize hbp : zPx (zw1 g s r) (zxb g s (zAtX m n (zEn g s) X) r) m (gZ g r) n = bp at hmk ⊢
              have hS2 := zSe_s hg hsu a3 hb hno (b := bp) (v := if zdc bp then 0 else min (zNs (zwn g s (zAtV m n vn V) r) m (gZ g r) n) zTm) (by rw [hbp]) rfl
              have hbit : ∀ q, q < 32 → (bt (x1 &&& (nI 1 <<< (nI r &&& 31) ^^^ -(nI 1))) q = true ↔ bt x1 q = true ∧ q ≠ r) := fun q hq => by
                rw [b_and, b_not hq, b_sh1 (by omega) hq, Bool.and_eq_true]
                simp
              refine hgo2 (x1 &&& (nI 1 <<< (nI r &&& 31) ^^^ -(nI 1)), _) ⟨⟨zf_twL _ _ (zf_trans a1 (zf_mono g2 rfl)) rfl, fun p hp => ?_, (fun q => if q = r then bp else X q), (fun q => if q = r then (if zdc bp then 0 else min (zNs (zwn g s (zAtV m n vn V) r) m (gZ g r) n) zTm) else V q), ?_, fun q hq => ?_, fun q hq => ?_⟩, fun q hq f => hmo q hq ((hbit q hq).1 f).1, fun f => ?_⟩
              · show (zzwL o'.2 46 _ _).2 46 p = _
                rw [zn_k _ _ _ _ (hp r hr), zf_l g2 rfl]
                exact a2 p hp
              · have : (fun q => bt (x1 &&& (nI 1 <<< (nI r &&& 31) ^^^ -(nI 1))) q = true) = (fun q => bt x1 q = true ∧ q ≠ r) := by
                  funext q
                  by_cases hq : q < 32
                  · exact propext (hbit q hq)
                  · rw [b_big (by omega), b_big (by omega)]
                    simp
                show zSe g s vn m n (fun q => bt (x1 &&& (nI 1 <<< (nI r &&& 31) ^^^ -(nI 1))) q = true) _ _
                rw [this]
                exact hS2
              · show (if q = r then bp else X q) ∨ (if q = r then (if zdc bp then 0 else min (zNs (zwn g s (zAtV m n vn V) r) m (gZ g r) n) zTm) else V q) ≠ 0
                by_cases f : q = r
                · subst f
                  rw [if_pos rfl, if_pos rfl]
                  rcases hmk with f | f
                  · exact .inl f
                  · by_cases f' : bp
                    · exact .inl f'
                    · right
                      rw [zdc_f.2 f']
                      show min _ zTm ≠ 0
                      unfold zTm
                      omega
                · rw [if_neg f, if_neg f]
                  exact a4 q hq
              · show (zzwL o'.2 46 _ _).2 46 _ = zen (if q = r then bp else X q) (if q = r then (if zdc bp then 0 else min (zNs (zwn g s (zAtV m n vn V) r) m (gZ g r) n) zTm) else V q)
                by_cases f : q = r
                · subst f
                  rw [zn_s, if_pos rfl, if_pos rfl]
                  by_cases f' : bp
                  · rw [zen_t f', zen_t f']
                  · rw [zdc_f.2 f', zen_f f', if_neg (by decide), zen_f f', Nat.min_assoc, Nat.min_self]
                · rw [zn_k _ _ _ _ (by omega), if_neg f, if_neg f, zf_l g2 rfl]
                  exact a5 q hq
              · exfalso
                have f1 := hmo
                have f2 : bt x r = true := hmo r (by omega) hb
                rw [f] at f2
                exact ((hbit r (by omega)).1 f2).2 rfl
            · rw [if_neg e0]
              refine hgo2 (x1, z1) ⟨hS1, hmo, fun e r' a b => ?_⟩
              by_cases er : r' = r
              · rw [er]
                apply Classical.byContradiction
                intro f
                refine e0 ((b_and0 _ _).2 fun q hq f' => f ⟨q, (hsm q hq).1 f'.1, f'.2⟩)
              · exact hcl1 e r' (by omega) b
        · rintro ⟨x1, z1⟩ gc ⟨hS1, hmo, hcl1⟩
          simp only at hS1 hmo hcl1
          have hz1 := zc2_fr h hS1.1 rfl
          unfold L81_a
          simp only [zI0, zI1, zI2, zI3, zI4, zI5, zI6, zI7, zI8, zJ0, zJ1, zJ2, zMM]
          rw [c_n hz1, if_pos (by rw [zq_le (by omega) (by omega)]; omega), zq_add]
          refine hgo (x1, x, z1) ⟨hS1, ?_⟩
          by_cases e2 : x = x1
          · refine .inl ⟨e2, fun r hr => ?_⟩
            obtain ⟨-, -, X, V, a3, -⟩ := hS1
            exact hcl1 e2 r (zM_lt (a3.1 r hr).1) hr
          · refine .inr ⟨e2, ?_⟩
            obtain ⟨-, -, X, V, a3, -⟩ := hS
            have := zcnt_bits (n := 12) (by omega) hmo (fun c hc q => by have := zM_lt (a3.1 c q).1; omega) (fun q => e2 q.symm)
            show i + 1 + zcnt (bt x1) 12 ≤ 12
            omega
    · rintro ⟨x, bf, z⟩ gb ⟨hS, hcl⟩
      simp only at hS hcl
      unfold L81_b
      simp only [zI0, zI1, zI2, zI3, zI4, zI5, zI6, zI7, zI8, zJ0, zJ1, zJ2, zMM]
      rw [if_pos (by rw [zq_lt (by omega) (by omega)]; omega)]
      rcases hcl with ⟨-, hcl⟩ | ⟨-, hcl⟩
      · exact zw_some (hend x z hS hcl)
      · omega
