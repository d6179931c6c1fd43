/-! one step of the descent of the class -/
theorem zFs_q {g : zG} {s : zSn} (hg : zwg g) {C : Nat} (hC : 1157627904 < C) {f : Nat → Nat → Nat → Nat} {m n : Nat} (hn : n ≤ 12) (hF : zFt g s C f m n) {S S' : Nat → Prop} {i j : Nat} (hm : m ≤ i) (hi : i ≤ j) (hj : j ≤ n) (hS : ∀ q, q < gN g → f q i j < C → (S' q ↔ S q)) {x : Int32} (hx : zFs (fun q => S' q ∧ f q i j < C) (fun q => f q i j) (gN g) x) : (x = -(nI 1) ∧ ∀ q u, S q → ¬ zLt g s q i j u) ∨ ∃ q, q < gN g ∧ x = nI q ∧ zFq g s S i j q := by
  rcases hx with ⟨a, b⟩ | ⟨q, a, b, c, e⟩
  · refine .inl ⟨a, fun q u h1 h2 => ?_⟩
    have hq := zon_lt (zSi_on h2.1)
    have h3 := (zFt_lt hg hC hn hF hm hi hj).1 h2
    exact b q hq ⟨(hS q hq (by omega)).2 h1, by omega⟩
  · refine .inr ⟨q, a, b, (hS q a c.2).1 c.1, f q i j, (zFt_lt hg hC hn hF hm hi hj).2 ⟨rfl, c.2⟩, fun q' u' h1 h2 => ?_⟩
    have hq := zon_lt (zSi_on h2.1)
    have h3 := (zFt_lt hg hC hn hF hm hi hj).1 h2
    have h4 : f q i j ≤ f q' i j ∧ (q' < q → f q i j < f q' i j) := e q' hq ⟨(hS q' hq (by omega)).2 h1, by omega⟩
    rw [h3.1] at h4
    exact h4
theorem s_goDown {g : zG} {s : zSn} {μ : zzM} (h : zc2 g s μ) (hg : zwg g) (hc : cCf true 36 37 38 39 g s μ) (hsl : sL s ≤ 12) (d : Nat) {f : Nat → Nat → Nat → Nat} {r m n l v : Nat} (hr : r < gN g) (hm : m ≤ n) (hn : n ≤ sL s) (hZ : cSz g s f (fun _ j => j ≤ sL s) μ) (hF : zFt g s 1152921504606846976 f m n) (hv : zLt g s r m n v) (hl : l + 1 < v) (e3 : μ.1 48 3 = nI r) (e4 : μ.1 48 4 = nI m) (e5 : μ.1 48 5 = nI n) : zw (zzf zzP zN (d + 4) 94 [.ref 48, .long (lN l)] μ) fun o => zfr [48, 51] μ o.2 ∧ (∀ p, p ≠ 3 → p ≠ 4 → p ≠ 5 → o.2.1 48 p = μ.1 48 p) ∧ ∃ q i j l', zDw g s r n (gZ g r) 0 m l q i j l' ∧ o.1.2.1 = lN l' ∧ o.2.1 48 3 = nI q ∧ o.2.1 48 4 = nI i ∧ o.2.1 48 5 = nI j := by
  have hgn := g_n hg
  have hz := g_z hg hr
  have hvb := zLt_b hg (by omega) hv
  have hPt : cPt g s f m n μ := cSz_pt hZ (by omega) fun i j a b c => by omega
  have hSo : zSo g s 1152921504606846976 f m n := fun q i j a b c e => (hF q i j a b c).2.1 e
  rw [w_sizes_goDown, e3, e4, e5]
  obtain ⟨o1, a1, a2, a3⟩ := s_findRest h hg hc hsl (d) hr hm hn hPt hSo
  rw [a1, Option.bind_some]
  have h1 := zc2_fr h a2 rfl
  have c3 : o1.2.1 48 3 = nI r := by rw [zf_i a2 rfl]; exact e3
  have c4 : o1.2.1 48 4 = nI m := by rw [zf_i a2 rfl]; exact e4
  have c5 : o1.2.1 48 5 = nI n := by rw [zf_i a2 rfl]; exact e5
  have c48 : ∀ p, o1.2.1 48 p = μ.1 48 p := fun p => by rw [zf_i a2 rfl]
  rw [c4]
  have hcy := cCf_fr hc a2 rfl
  have hPy := cPt_fr hPt a2 rfl
  have hfy : zfr [48, 51] μ o1.2 := zf_mono a2 rfl
  have h49 : ∀ i j, m ≤ i → i ≤ j → j ≤ n → ∀ q, q < gN g → o1.2.2 49 (q * 91 + zsp i j) = lN (f q i j) ∧ f q i j ≤ 1152921504606846976 := fun i j a b c q hq => by
    rw [zf_l a2 rfl]
    exact (hZ i j b (by omega) (by omega)).1 q hq
  -- the rest at the begin
  have hR0 : zRm g s r n 0 m (v - 1) := by
    obtain ⟨-, w, w1, w2⟩ := zSi_out hv.1
    refine ⟨by rw [Nat.sub_zero, show v - 1 = w by omega]; exact w1, fun p hp => ?_⟩
    rw [Nat.sub_zero] at hp
    have := hv.2 _ (zSi_in (zSi_on hv.1) hp)
    omega
  generalize o1.2 = y at h1 a3 c3 c4 c5 c48 hcy hPy hfy h49
  refine zl_up (fun k (a : Nat × Nat) => ([nI a.1, nI k], [lN a.2], y)) (fun k a => m ≤ a.1 ∧ a.1 ≤ n ∧ (k = 0 → a.1 = m) ∧ ∃ R, zRm g s r n k a.1 R ∧ a.2 < R ∧ R < v ∧ ∀ q i j l', zDw g s r n (gZ g r - k) k a.1 a.2 q i j l' → zDw g s r n (gZ g r) 0 m l q i j l') 0 (gZ g r) (m, l) (by omega) (by omega) rfl ⟨Nat.le_refl _, hm, fun _ => rfl, v - 1, hR0, by simp only; omega, by omega, fun q i j l' e => e⟩ ?_ ?_
  · rintro k ⟨i, l1⟩ ga - hk ⟨b1, b2, b3, R, b4, b5, b6, b7⟩ hgo
    simp only at b1 b2 b3 b4 b5 b6 b7
    unfold L94_a
    simp only [zI0, zI1, zI2, zI3, zI4, zI5, zI6, zI7, zI8, zJ0, zJ1, zJ2, zMM]
    rw [c3, zr_i _ _ (by omega) (by omega), c_z h1 hr, Option.bind_some, if_neg (by rw [zq_le (by omega) (by omega)]; omega)]
    obtain ⟨o, f1, f2, e, f3, f4⟩ := s_firstEnd hg (d + 1) hr hk b1 b2 (by omega) hF hPy (a3 k i (by omega) b1 b2 b3) (fun j q1 q2 => a3 (k + 1) j (by omega) (by omega) q2 (fun q => by omega)) b4 (by omega) c3 c5
    have hie := f4.1
    have hen := f4.2.1
    have hsp := zsp_lt e (by omega) i (by omega) hie
    rw [f1, Option.bind_some, f2, f3, s_zsp _ hie (by omega), Option.bind_some, c3]
    obtain ⟨a, b, g1, g2, g3⟩ := f4.2.2.1
    obtain ⟨x, x1, x2⟩ := hPy r k i e hr hk b1 hie hen
    have hxa := (zP_iff hg (by omega) (by omega) hF b1 hie hen x2 a).1 g1
    rw [hxa.1] at x1
    simp only [zq_mul, zq_add]
    rw [zr_l _ _ (by omega) (by omega), x1, Option.bind_some, zif_cg ((lg_cmp_ge _ _).trans (pk_lLE (by omega) (by omega)))]
    have hdd : gZ g r - k = gZ g r - (k + 1) + 1 := by omega
    by_cases el : a ≤ l1
    · rw [if_pos el, lN_sub el]
      refine hgo (e, l1 - a) ⟨by simp only; omega, hen, fun q => by omega, b, g2, by simp only; omega, by omega, fun q i' j' l' q1 => b7 q i' j' l' ?_⟩
      rw [hdd]
      exact ⟨R, e, a, b4, f4, g1, .inr ⟨el, q1⟩⟩
    · rw [if_neg el]
      obtain ⟨ob, k1, k2, k3⟩ := s_below hg hcy hsl (d + 1) hr hk hie (show e ≤ sL s by omega)
      rw [k1, Option.bind_some, k2]
      obtain ⟨ol, l2, l3, l4⟩ := s_leastOf h1 hg (d + 1) hie (by omega) (h49 i e b1 hie hen) ob.1.1
      rw [l2, Option.bind_some, l3]
      rcases zFs_q hg (by omega) (by omega) hF b1 hie hen (S := fun q => zbl true g s r k q = true) (fun q hq hfq => by
        rw [k3 q (by omega)]
        exact ⟨fun z => z.2, fun z => ⟨zSi_M ((hF q i e b1 hie hen).2.1 hfq), z⟩⟩) l4 with ⟨_, q2⟩ | ⟨q, q1, q2, q3⟩
      · exfalso
        rcases g1.1 with ⟨-, -, -, z⟩ | ⟨-, q, z1, z2⟩
        · omega
        · obtain ⟨u, -, u2⟩ := zLt_ex z2
          exact q2 q u z1 u2
      · refine zw_some ⟨zf_twI _ _ (zf_twI _ _ (zf_twI _ _ hfy rfl) rfl) rfl, fun p p3 p4 p5 => ?_, q, i, e, l1, b7 q i e l1 ?_, rfl, ?_, ?_, ?_⟩
        · rw [zm_k _ _ _ _ p5, zm_k _ _ _ _ p4, zm_k _ _ _ _ p3]
          exact c48 p
        · rw [hdd]
          exact ⟨R, e, a, b4, f4, g1, .inl ⟨by omega, q3, rfl, rfl, rfl⟩⟩
        · rw [zm_k _ _ _ _ (by omega), zm_k _ _ _ _ (by omega), zm_s]
          exact q2
        · rw [zm_k _ _ _ _ (by omega), zm_s]
        · rw [zm_s]
  · rintro ⟨i, l1⟩ ga ⟨b1, b2, b3, R, b4, b5, b6, b7⟩
    have hR := b4.1
    rw [Nat.sub_self] at hR
    have : R = 0 := hR.2
    simp only at b5
    omega
