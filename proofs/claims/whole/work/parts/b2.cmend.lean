/-! MEND of the class: what a place, a right side costs -/
theorem zQs_un {s : zSn} {a i j p p' : Nat} (h : zQs s a i j p) (h' : zQs s a i j p') : p = p' := by
  rcases h with ⟨a1, a2⟩ | ⟨a1, ⟨x, b1, b2, b3⟩, a2⟩ | ⟨a1, a3, a2⟩ <;> rcases h' with ⟨c1, c2⟩ | ⟨c1, ⟨y, e1, e2, e3⟩, c2⟩ | ⟨c1, c3, c2⟩ <;> first | omega | exact absurd b3 (c3 x b1 b2) | exact absurd e3 (a3 y e1 e2)
theorem zQs_b {s : zSn} {a i j p : Nat} (h : zQs s a i j p) : p ≤ 1 + (j - i) := by
  rcases h with ⟨_, _⟩ | ⟨_, _, _⟩ | ⟨_, _, _⟩ <;> omega
def zTc (μ : zzM) (a i j p : Nat) : Prop := a < 26 ∧ μ.1 57 (a * 91 + zsp i j) = nI p ∧ p < 268435456
theorem zTc_fr {L : List Nat} {μ y : zzM} (hf : zfr L μ y) (hl : L.elem 57 = false) : zTc y = zTc μ := by
  unfold zTc
  rw [zf_i hf hl]
theorem s_smallCost {g : zG} {s : zSn} {μ : zzM} (h : zc2 g s μ) (hsl : sL s ≤ 12) (d : Nat) {a i j : Nat} (ha : a < 26) (hi : i ≤ j) (hj : j ≤ sL s) (hs : zws g s) : zw (zzf zzP zN (d + 1) 111 [.ref 56, .int (nI a), .int (nI i), .int (nI j)] μ) fun o => o.2 = μ ∧ ∃ p, o.1.1 = nI p ∧ zQs s a i j p := by
  rw [w_mend_smallCost]
  refine zl_up (fun x (_ : Unit) => ([nI a, nI i, nI j, nI x], [], μ)) (fun x _ => ∀ y, i ≤ y → y < x → sX s y ≠ a) i j () hi (by omega) rfl (fun y q1 q2 => absurd q1 (by omega)) ?_ ?_
  · rintro x - ga hx1 hx2 hJ hgo
    unfold L111_a
    simp only [zI0, zI1, zI2, zI3, zI4, zI5, zI6, zI7, zI8, zJ0, zJ1, zJ2, zMM]
    have hxs := hs.2.1 x (show x < sL s by omega)
    rw [if_neg (by rw [zq_le (by omega) (by omega)]; omega), zr_i _ _ (by omega) (by omega), c_x h (by omega), Option.bind_some]
    simp (disch := omega) only [zq_eq]
    by_cases e : sX s x = a
    · rw [if_pos e, zq_sub hi, zq_sub (by omega)]
      exact zw_some ⟨rfl, _, rfl, .inr (.inl ⟨by omega, ⟨x, hx1, hx2, e⟩, rfl⟩)⟩
    · rw [if_neg e, zq_add]
      refine hgo () fun y q1 q2 => ?_
      by_cases ey : y = x
      · rw [ey]; exact e
      · exact hJ y q1 (by omega)
  · rintro - ga hJ
    unfold L111_a
    simp only [zI0, zI1, zI2, zI3, zI4, zI5, zI6, zI7, zI8, zJ0, zJ1, zJ2, zMM]
    rw [if_pos (by rw [zq_le (by omega) (by omega)]; omega)]
    simp (disch := omega) only [zq_eq]
    by_cases e : j = i
    · rw [if_pos e]
      exact zw_some ⟨rfl, 1, rfl, .inl ⟨e.symm, rfl⟩⟩
    · rw [if_neg e, zq_sub hi]
      exact zw_some ⟨rfl, _, rfl, .inr (.inr ⟨by omega, hJ, rfl⟩)⟩
theorem s_partCost {g : zG} {s : zSn} {μ : zzM} (h : zc2 g s μ) (hg : zwg g) (hs : zws g s) (d : Nat) {r k i j : Nat} (hr : r < gN g) (hk : k < gZ g r) (hi : i ≤ j) (hj : j ≤ sL s) (hT : ∀ a, a < 26 → ∃ x, μ.1 57 (a * 91 + zsp i j) = nI x ∧ x ≤ 268435456) : zw (zzf zzP zN (d + 2) 110 [.ref 56, .int (nI (gS g r k)), .int (nI i), .int (nI j)] μ) fun o => o.2 = μ ∧ ∃ p, o.1.1 = nI p ∧ zmn 268435456 (zMP g s (zTc μ) r k i j) p := by
  have hsl := hs.1
  have hgs := g_s hg hr hk
  have hsp := zsp_lt j (by omega) i (by omega) hi
  rw [w_mend_partCost]
  by_cases e : 26 ≤ gS g r k
  · obtain ⟨x, x1, x2⟩ := hT (gS g r k - 26) (by omega)
    rw [if_pos (by rw [zq_le (by omega) (by omega)]; omega), s_zsp _ hi (by omega), Option.bind_some, zq_sub e]
    simp only [zq_mul, zq_add]
    rw [zr_i _ _ (by omega) (by omega), x1, Option.bind_some]
    refine zw_some ⟨rfl, x, rfl, x2, fun q => .inr ⟨e, by omega, x1, q⟩, fun p hp => ?_⟩
    rcases hp with ⟨q, -⟩ | ⟨-, -, q1, q2⟩
    · omega
    · rw [x1, zq_eq (by omega) (by omega)] at q1
      omega
  · obtain ⟨o, a1, a2, p, a3, a4⟩ := s_smallCost h hsl d (show gS g r k < 26 by omega) hi hj hs
    have hb := zQs_b a4
    rw [if_neg (by rw [zq_le (by omega) (by omega)]; omega), a1, Option.bind_some, a2, a3]
    refine zw_some ⟨rfl, p, rfl, by omega, fun _ => .inl ⟨by omega, a4⟩, fun p' hp => ?_⟩
    rcases hp with ⟨-, q⟩ | ⟨q, -⟩
    · exact Nat.le_of_eq (zQs_un a4 q)
    · omega
theorem s_costTo {g : zG} {s : zSn} {μ : zzM} (h : zc2 g s μ) (hg : zwg g) (hs : zws g s) (d : Nat) {r k m j : Nat} (hr : r < gN g) (hk : k < gZ g r) (hm : m ≤ j) (hj : j ≤ sL s) (hT : ∀ i, m ≤ i → i ≤ j → ∀ a, a < 26 → ∃ x, μ.1 57 (a * 91 + zsp i j) = nI x ∧ x ≤ 268435456) (hR : ∀ i, m ≤ i → i ≤ j → ∃ y, μ.1 58 i = nI y ∧ zmn 268435456 (zPR (zMP g s (zTc μ) r) m k i) y) : zw (zzf zzP zN (d + 3) 109 [.ref 56, .int (nI (gS g r k)), .int (nI m), .int (nI j)] μ) fun o => o.2 = μ ∧ ∃ p, o.1.1 = nI p ∧ zmn 268435456 (zPR (zMP g s (zTc μ) r) m (k + 1) j) p := by
  have hsl := hs.1
  rw [w_mend_costTo]
  let A : Nat → Nat → Prop := fun J v => ∃ i p w, m ≤ i ∧ i < J ∧ i ≤ j ∧ zPR (zMP g s (zTc μ) r) m k i w ∧ zMP g s (zTc μ) r k i j p ∧ v = w + p
  refine zl_up (fun i (x : Nat) => ([nI (gS g r k), nI j, nI x, nI i], [], μ)) (fun i x => zmn 268435456 (A i) x) m (j + 1) 268435456 (by omega) (by omega) rfl (zmn_C fun p ⟨i, _, _, a, b, _⟩ => absurd a (by omega)) ?_ ?_
  · rintro i x ga hi hij hx hgo
    obtain ⟨y, y1, y2⟩ := hR i hi (by omega)
    have hx1 := hx.1
    have hy1 := y2.1
    unfold L109_a
    simp only [zI0, zI1, zI2, zI3, zI4, zI5, zI6, zI7, zI8, zJ0, zJ1, zJ2, zMM]
    rw [if_neg (by rw [zq_lt (by omega) (by omega)]; omega), zr_i _ _ (by omega) (by omega), y1, Option.bind_some]
    obtain ⟨o, a1, a2, p, a3, a4⟩ := s_partCost h hg hs d hr hk (show i ≤ j by omega) hj (hT i hi (by omega))
    have hp1 := a4.1
    have hn : zmn 268435456 (A (i + 1)) (if x ≤ p + y then x else p + y) := by
      refine zmn_s hx y2 a4 ?_ ?_ ?_
      · rintro v ⟨i', p', w, b1, b2, b3⟩
        exact ⟨i', p', w, b1, by omega, b3⟩
      · intro w p' b1 b2
        exact ⟨i, p', w, hi, by omega, by omega, b1, b2, rfl⟩
      · rintro v ⟨i', p', w, b1, b2, b3, b4, b5, b6⟩
        by_cases ei : i' = i
        · rw [ei] at b4 b5
          exact .inr ⟨w, p', b4, b5, b6⟩
        · exact .inl ⟨i', p', w, b1, by omega, b3, b4, b5, b6⟩
    by_cases e : x ≤ y
    · rw [if_pos (by rw [zq_le (by omega) (by omega)]; omega), zq_add]
      rw [if_pos (by omega)] at hn
      exact hgo x hn
    · rw [if_neg (by rw [zq_le (by omega) (by omega)]; omega), Option.bind_some, a1, Option.bind_some, a2, a3, zq_add, s_min _ (by omega) (by omega), Option.bind_some, zq_add]
      rw [Nat.add_comm p y] at hn
      exact hgo _ hn
  · rintro x ga hx
    unfold L109_a
    simp only [zI0, zI1, zI2, zI3, zI4, zI5, zI6, zI7, zI8, zJ0, zJ1, zJ2, zMM]
    rw [if_pos (by rw [zq_lt (by omega) (by omega)]; omega)]
    exact zw_some ⟨rfl, x, rfl, zmn_cg (fun v => ⟨fun ⟨i, p, w, a1, a2, a3, a4, a5, a6⟩ => ⟨i, p, w, a1, a3, a4, a5, a6⟩, fun ⟨i, p, w, a1, a3, a4, a5, a6⟩ => ⟨i, p, w, a1, by omega, a3, a4, a5, a6⟩⟩) hx⟩
theorem s_costOf {g : zG} {s : zSn} {μ : zzM} (h : zc2 g s μ) (hg : zwg g) (hs : zws g s) (d : Nat) {r m n : Nat} (hr : r < gN g) (hm : m ≤ n) (hn : n ≤ sL s) (hT : ∀ i j, m ≤ i → i ≤ j → j ≤ n → ∀ a, a < 26 → ∃ x, μ.1 57 (a * 91 + zsp i j) = nI x ∧ x ≤ 268435456) : zw (zzf zzP zN (d + 4) 108 [.ref 56, .int (nI r), .int (nI m), .int (nI n)] μ) fun o => zfr [58] μ o.2 ∧ ∃ p, o.1.1 = nI p ∧ zmn 268435456 (zRc g s (zTc μ) r m n) p := by
  have hsl := hs.1
  have hgn := g_n hg
  have hz := g_z hg hr
  rw [w_mend_costOf, zr_i _ _ (by omega) (by omega), c_z h hr, Option.bind_some]
  simp (disch := omega) only [zq_e0]
  by_cases ez : gZ g r = 0
  · rw [if_pos ez, zq_sub hm]
    refine zw_some ⟨zf_refl _ _, _, rfl, by omega, fun _ => .inl ⟨ez, rfl⟩, fun p hp => ?_⟩
    rcases hp with ⟨-, q⟩ | ⟨q, -⟩ <;> omega
  · rw [if_neg ez]
    have hf : zzf zzP zN (d + 3) 5 [.ref 58, .int (nI 268435456)] μ = some ((0, 0, 0), zblk μ 58 0 13 (fun _ => nI 268435456)) := s_fill_58 (d + 2) _ μ
    rw [hf, Option.bind_some, zs_i _ _ _ (by omega) (by omega), Option.bind_some]
    let R : Nat → Nat → zzM → Prop := fun k j y => ∃ v, y.1 58 j = nI v ∧ zmn 268435456 (zPR (zMP g s (zTc μ) r) m k j) v
    have hf0 : zfr [58] μ (zzwI (zblk μ 58 0 13 (fun _ => nI 268435456)) 58 m (nI 0)) := by
      intro c hc
      have hc' : c ≠ 58 := fun q => by rw [q] at hc; cases hc
      exact ⟨by rw [zm_c _ _ _ hc', zb_c _ _ _ _ hc'], rfl⟩
    refine zl_up (fun k (y : zzM) => ([nI r, nI m, nI n, nI (gZ g r), nI k], [], y)) (fun k y => zfr [58] μ y ∧ ∀ j, m ≤ j → j ≤ n → R k j y) 0 (gZ g r) _ (by omega) (by omega) rfl ⟨hf0, fun j a b => ?_⟩ ?_ ?_
    · by_cases e : j = m
      · rw [e]
        exact ⟨0, zm_s _ _ _ _, zmn_0 ⟨rfl, rfl⟩⟩
      · exact ⟨268435456, (zm_k _ _ _ _ e).trans (zb_i _ _ _ (by omega) (by omega)), zmn_C fun p q => absurd q.1 e⟩
    · rintro k y ga - hk ⟨i1, i2⟩ hgo
      have hy := zc2_fr h i1 rfl
      unfold L108_b
      simp only [zI0, zI1, zI2, zI3, zI4, zI5, zI6, zI7, zI8, zJ0, zJ1, zJ2, zMM]
      have hsy : zzf zzP zN (d + 3) 6 [.ref 3, .int (nI r), .int (nI k)] y = some ((nI (gS g r k), 0, 0), y) := s_symAt hy hg (d + 2) hr hk
      rw [if_neg (by rw [zq_le (by omega) (by omega)]; omega), hsy, Option.bind_some]
      refine zl_dn (fun j (y : zzM) => ([nI r, nI m, nI n, nI (gZ g r), nI k, nI (gS g r k), nJ j], [], y)) (fun j y => zfr [58] μ y ∧ (∀ j', m ≤ j' → j' < j → R k j' y) ∧ ∀ j', j ≤ j' → j' ≤ n → R (k + 1) j' y) m (n + 1) y (by omega) (by omega) (by rw [nJ_s]) ⟨i1, fun j' a b => i2 j' a (by omega), fun j' a b => absurd a (by omega)⟩ ?_ ?_
      · rintro j z gb hj1 hj2 ⟨j1, j2, j3⟩ hgo2
        have hT' := zTc_fr j1 rfl
        unfold L108_a
        simp only [zI0, zI1, zI2, zI3, zI4, zI5, zI6, zI7, zI8, zJ0, zJ1, zJ2, zMM]
        rw [nJ_s, if_neg (by rw [zq_lt (by omega) (by omega)]; omega)]
        obtain ⟨o, a1, a2, p, a3, a4⟩ := s_costTo (zc2_fr h j1 rfl) hg hs d hr hk hj1 (show j ≤ sL s by omega) (fun i b1 b2 a b3 => by rw [zf_i j1 rfl]; exact hT i j b1 b2 (by omega) a b3) (fun i b1 b2 => by rw [hT']; exact j2 i b1 (by omega))
        rw [a1, Option.bind_some, a2, a3, zs_i _ _ _ (by omega) (by omega), Option.bind_some, nJ_e]
        rw [hT'] at a4
        refine hgo2 _ ⟨zf_twI _ _ j1 rfl, fun j' b1 b2 => ?_, fun j' b1 b2 => ?_⟩
        · obtain ⟨v, v1, v2⟩ := j2 j' b1 (by omega)
          exact ⟨v, (zm_k _ _ _ _ (by omega)).trans v1, v2⟩
        · by_cases e : j' = j
          · rw [e]
            exact ⟨p, zm_s _ _ _ _, a4⟩
          · obtain ⟨v, v1, v2⟩ := j3 j' (by omega) b2
            exact ⟨v, (zm_k _ _ _ _ e).trans v1, v2⟩
      · rintro z gb ⟨j1, j2, j3⟩
        unfold L108_a
        simp only [zI0, zI1, zI2, zI3, zI4, zI5, zI6, zI7, zI8, zJ0, zJ1, zJ2, zMM]
        rw [if_pos (nJ_lt (Nat.le_refl _) (by omega)), zq_add]
        exact hgo z ⟨j1, fun j a b => j3 j a b⟩
    · rintro y ga ⟨i1, i2⟩
      obtain ⟨v, v1, v2⟩ := i2 n hm (Nat.le_refl _)
      unfold L108_b
      simp only [zI0, zI1, zI2, zI3, zI4, zI5, zI6, zI7, zI8, zJ0, zJ1, zJ2, zMM]
      rw [if_pos (by rw [zq_le (by omega) (by omega)]; omega), zr_i _ _ (by omega) (by omega), v1, Option.bind_some]
      refine zw_some ⟨i1, v, rfl, v2.1, fun q => .inr ⟨by omega, v2.2.1 q⟩, fun p hp => ?_⟩
      rcases hp with ⟨q, -⟩ | ⟨-, q⟩
      · exact absurd q ez
      · exact v2.2.2 p q
