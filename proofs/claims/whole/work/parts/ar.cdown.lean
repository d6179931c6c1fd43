/-! the descent of the class -/
theorem s_leastOf {g : zG} {s : zSn} {μ : zzM} (h : zc2 g s μ) (hg : zwg g) (d : Nat) {f : Nat → Nat → Nat → Nat} {m n : Nat} (hm : m ≤ n) (hn : n ≤ 12) (hf : ∀ q, q < gN g → μ.2 49 (q * 91 + zsp m n) = lN (f q m n) ∧ f q m n ≤ 1152921504606846976) (X : Int32) : zw (zzf zzP zN (d + 2) 90 [.ref 48, .int X, .int (nI m), .int (nI n)] μ) fun o => o.2 = μ ∧ zFs (fun q => bt X q = true ∧ f q m n < 1152921504606846976) (fun q => f q m n) (gN g) o.1.1 := by
  have hgn := g_n hg
  have hsp := zsp_lt n (by omega) m (by omega) hm
  rw [w_sizes_leastOf]
  refine zl_up (fun q (a : Int32 × Nat) => ([X, nI m, nI n, a.1, nI q], [lN a.2], μ)) (fun q a => zFs (fun q => bt X q = true ∧ f q m n < 1152921504606846976) (fun q => f q m n) q a.1 ∧ ((a.1 = -(nI 1) ∧ a.2 = 1152921504606846976) ∨ ∃ q0, q0 < q ∧ a.1 = nI q0 ∧ a.2 = f q0 m n ∧ a.2 < 1152921504606846976)) 0 (gN g) (-(nI 1), 1152921504606846976) (by omega) (by omega) rfl ⟨zFs_0 _ _, .inl ⟨rfl, rfl⟩⟩ ?_ ?_
  · rintro q ⟨x, b⟩ ga - hq ⟨i1, i2⟩ hgo
    simp only at i1 i2
    obtain ⟨z1, z2⟩ := hf q hq
    have hb : b ≤ 1152921504606846976 := by
      rcases i2 with ⟨-, e⟩ | ⟨_, _, _, _, e⟩ <;> omega
    unfold L90_a
    simp only [zI0, zI1, zI2, zI3, zI4, zI5, zI6, zI7, zI8, zJ0, zJ1, zJ2, zMM]
    rw [c_n h, if_neg (by rw [zq_le (by omega) (by omega)]; omega)]
    simp (disch := omega) only [b_bit, zq_add]
    cases eb : bt X q with
    | false =>
      rw [if_pos rfl]
      refine hgo (x, b) ⟨zFs_no i1 (fun e => (by rw [eb] at e; cases e.1)), ?_⟩
      rcases i2 with e | ⟨q0, e1, e2⟩
      · exact .inl e
      · exact .inr ⟨q0, by omega, e2⟩
    | true =>
      rw [if_neg (by decide), s_zsp _ hm hn, Option.bind_some]
      show zw ((zzrl μ 49 1092 (nI q * nI 91 + nI (zsp m n))).bind _) _
      rw [zq_mul, zq_add, zr_l _ _ (by omega) (by omega), z1, Option.bind_some, zif_cg ((lg_cmp_ge _ _).trans (pk_lLE (by omega) (by omega)))]
      by_cases el : b ≤ f q m n
      · rw [if_pos el]
        rcases i2 with ⟨e1, e2⟩ | ⟨q0, e1, e2, e3, e4⟩
        · exact hgo (x, b) ⟨zFs_no i1 fun e => by omega, .inl ⟨e1, e2⟩⟩
        · by_cases ef : f q m n < 1152921504606846976
          · rw [e2] at i1
            have := zFs_s i1 (by omega) (by omega) ⟨eb, ef⟩
            rw [if_pos (by omega)] at this
            rw [e2]
            exact hgo (nI q0, b) ⟨this, .inr ⟨q0, by omega, rfl, e3, e4⟩⟩
          · exact hgo (x, b) ⟨zFs_no i1 fun e => ef e.2, .inr ⟨q0, by omega, e2, e3, e4⟩⟩
      · rw [if_neg el, s_zsp _ hm hn, Option.bind_some]
        show zw ((zzrl μ 49 1092 (nI (q * 91) + nI (zsp m n))).bind _) _
        rw [zq_add, zr_l _ _ (by omega) (by omega), z1, Option.bind_some]
        refine hgo (nI q, f q m n) ⟨?_, .inr ⟨q, by omega, rfl, rfl, by omega⟩⟩
        rcases i2 with ⟨e1, e2⟩ | ⟨q0, e1, e2, e3, e4⟩
        · rw [e1] at i1
          exact zFs_1 i1 (by omega) ⟨eb, by omega⟩
        · rw [e2] at i1
          have := zFs_s i1 (by omega) (by omega) ⟨eb, by omega⟩
          rw [if_neg (by omega)] at this
          exact this
  · rintro ⟨x, b⟩ ga ⟨i1, i2⟩
    unfold L90_a
    simp only [zI0, zI1, zI2, zI3, zI4, zI5, zI6, zI7, zI8, zJ0, zJ1, zJ2, zMM]
    rw [c_n h, if_pos (by rw [zq_le (by omega) (by omega)]; omega)]
    exact zw_some ⟨rfl, i1⟩
theorem s_firstEnd {g : zG} {s : zSn} {μ : zzM} (hg : zwg g) (d : Nat) {f : Nat → Nat → Nat → Nat} {r m n k i R : Nat} (hr : r < gN g) (hk : k < gZ g r) (hm : m ≤ i) (hi : i ≤ n) (hn : n ≤ 12) (hF : zFt g s 1152921504606846976 f m n) (hP : cPt g s f m n μ) (hR0 : cRs g s f r n k i μ) (hR1 : ∀ j, i ≤ j → j ≤ n → cRs g s f r n (k + 1) j μ) (hR : zRm g s r n k i R) (hRC : R < 1152921504606846976) (e3 : μ.1 48 3 = nI r) (e5 : μ.1 48 5 = nI n) : zw (zzf zzP zN (d + 2) 95 [.ref 48, .int (nI k), .int (nI i)] μ) fun o => o.2 = μ ∧ ∃ e, o.1.1 = nI e ∧ zFe g s r n k i R e := by
  have hgn := g_n hg
  have hz := g_z hg hr
  obtain ⟨x, x1, x2⟩ := hR0
  have hxR := (zR_iff hg (by omega) hn hF hm x2 R hRC).1 hR
  rw [hxR] at x1
  obtain ⟨e, he⟩ := zFe_ex hk hR
  have hie := he.1
  have hen := he.2.1
  rw [w_sizes_firstEnd, zq_mul, zq_add, zr_l _ _ (by omega) (by omega), x1, Option.bind_some, e3]
  simp only [zq_mul, zq_add]
  -- the sum at an end
  have hsum : ∀ j, i ≤ j → j ≤ n → ∃ a b, μ.2 51 ((k + 1) * 13 + j) = lN b ∧ μ.2 50 ((r * 4 + k) * 91 + zsp i j) = lN a ∧ a ≤ 1152921504606846976 ∧ b ≤ 1152921504606846976 ∧ (b + a = R ↔ zEo g s r n k i R j) := by
    intro j h1 h2
    obtain ⟨b, b1, b2⟩ := hR1 j h1 h2
    obtain ⟨a, a1, a2⟩ := hP r k i j hr hk hm h1 h2
    refine ⟨a, b, b1, a1, a2.1, b2.1, ?_⟩
    constructor
    · intro q
      exact ⟨a, b, (zP_iff hg (by omega) hn hF hm h1 h2 a2 a).2 ⟨rfl, by omega⟩, (zR_iff hg (by omega) hn hF (by omega) b2 b (by omega)).2 rfl, by omega⟩
    · rintro ⟨a', b', q1, q2, q3⟩
      have h3 := (zP_iff hg (by omega) hn hF hm h1 h2 a2 a').1 q1
      have h4 := (zR_iff hg (by omega) hn hF (by omega) b2 b' (by omega)).1 q2
      omega
  refine zl_up (fun j (_ : Unit) => ([nI k, nI i, nI ((r * 4 + k) * 91), nI j], [lN R], μ)) (fun _ _ => True) i e () hie (by omega) rfl trivial ?_ ?_
  · rintro j _ ga h1 h2 - hgo
    obtain ⟨a, b, s1, s2, s3, s4, s5⟩ := hsum j h1 (by omega)
    have hsp := zsp_lt j (by omega) i (by omega) h1
    unfold L95_a
    simp only [zI0, zI1, zI2, zI3, zI4, zI5, zI6, zI7, zI8, zJ0, zJ1, zJ2, zMM]
    rw [e5, if_neg (by rw [zq_le (by omega) (by omega)]; omega)]
    simp only [zq_add, zq_mul]
    rw [zr_l _ _ (by omega) (by omega), s1, Option.bind_some, s_zsp _ h1 (by omega), Option.bind_some]
    show zw ((zzrl μ 50 4368 (nI ((r * 4 + k) * 91) + nI (zsp i j))).bind _) _
    rw [zq_add, zr_l _ _ (by omega) (by omega), s2, Option.bind_some, lN_add, zif_cg ((lg_cmp_eq _ _).trans (pk_lEQ (by omega) (by omega))), if_neg fun q => he.2.2.2 j h1 h2 (s5.1 q)]
    exact hgo () trivial
  · rintro _ ga -
    unfold L95_a
    simp only [zI0, zI1, zI2, zI3, zI4, zI5, zI6, zI7, zI8, zJ0, zJ1, zJ2, zMM]
    rw [e5]
    by_cases q : n ≤ e
    · rw [if_pos (by rw [zq_le (by omega) (by omega)]; omega)]
      exact zw_some ⟨rfl, e, by rw [show n = e by omega], he⟩
    · obtain ⟨a, b, s1, s2, s3, s4, s5⟩ := hsum e hie hen
      have hsp := zsp_lt e (by omega) i (by omega) hie
      rw [if_neg (by rw [zq_le (by omega) (by omega)]; omega)]
      simp only [zq_add, zq_mul]
      rw [zr_l _ _ (by omega) (by omega), s1, Option.bind_some, s_zsp _ hie (by omega), Option.bind_some]
      show zw ((zzrl μ 50 4368 (nI ((r * 4 + k) * 91) + nI (zsp i e))).bind _) _
      rw [zq_add, zr_l _ _ (by omega) (by omega), s2, Option.bind_some, lN_add, zif_cg ((lg_cmp_eq _ _).trans (pk_lEQ (by omega) (by omega))), if_pos (s5.2 he.2.2.1)]
      exact zw_some ⟨rfl, e, rfl, he⟩
