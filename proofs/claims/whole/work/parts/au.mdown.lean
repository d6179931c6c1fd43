/-! the descent of the reference -/
theorem m_endOf {g : zG} {s : zSn} {μ : zzM} (h : zm2 g s μ) (hg : zwg g) (hs : zws g s) (d : Nat) {f : Nat → Nat → Nat → Nat} (hZ : mSz g s f μ) {r m n k i R : Nat} (hr : r < gN g) (hk : k < gZ g r) (hm : m ≤ i) (hi : i ≤ n) (hn : n ≤ sL s) (hF : zFt g s 2000000000 f m n) (hR0 : mRs g s f r n k i μ) (hR1 : ∀ j, i ≤ j → j ≤ n → mRs g s f r n (k + 1) j μ) (hR : zRm g s r n k i R) (hRC : R < 2000000000) : zw (zzf zzP zN (d + 6) 304 [.ref 105, .int (nI r), .int (nI k), .int (nI i), .int (nI n)] μ) fun o => o.2 = μ ∧ ∃ e, o.1.1 = nI e ∧ zFe g s r n k i R e := by
  have hgn := g_n hg
  have hsl := hs.1
  have hz := g_z hg hr
  obtain ⟨x, x1, x2⟩ := hR0
  have hxR := (zR_iff hg (by omega) (by omega) hF hm x2 R hRC).1 hR
  rw [hxR] at x1
  obtain ⟨e, he⟩ := zFe_ex hk hR
  have hie := he.1
  have hen := he.2.1
  have hsum : ∀ j, i ≤ j → j ≤ n → ∃ a b o, zzf zzP zN (d + 5) 297 [.ref 105, .int (nI r), .int (nI k), .int (nI i), .int (nI j)] μ = some o ∧ o.2 = μ ∧ o.1.1 = nI a ∧ μ.1 147 (13 * (k + 1) + j) = nI b ∧ a ≤ 2000000000 ∧ b ≤ 2000000000 ∧ ((if a + b < 2000000000 then a + b else 2000000000) = R ↔ zEo g s r n k i R j) := by
    intro j h1 h2
    obtain ⟨b, b1, b2⟩ := hR1 j h1 h2
    obtain ⟨o, o1, o2, a, o3, a2⟩ := m_sizeBelow h hg hs d hZ hr hk h1 (show j ≤ sL s by omega)
    refine ⟨a, b, o, o1, o2, o3, b1, a2.1, b2.1, ?_⟩
    constructor
    · intro q
      have q : a + b = R := by
        revert q
        split <;> omega
      exact ⟨a, b, (zP_iff hg (by omega) (by omega) hF hm h1 h2 a2 a).2 ⟨rfl, by omega⟩, (zR_iff hg (by omega) (by omega) hF (by omega) b2 b (by omega)).2 rfl, q⟩
    · rintro ⟨a', b', q1, q2, q3⟩
      have h3 := (zP_iff hg (by omega) (by omega) hF hm h1 h2 a2 a').1 q1
      have h4 := (zR_iff hg (by omega) (by omega) hF (by omega) b2 b' (by omega)).1 q2
      rw [if_pos (by omega)]
      omega
  rw [w_m_endOf]
  refine zl_up (fun j (_ : Unit) => ([nI r, nI k, nI i, nI j], [], μ)) (fun _ _ => True) i e () hie (by omega) rfl trivial ?_ ?_
  · rintro j _ ga h1 h2 - hgo
    obtain ⟨a, b, o, o1, o2, o3, s1, s3, s4, s5⟩ := hsum j h1 (by omega)
    unfold L304_a
    simp only [zI0, zI1, zI2, zI3, zI4, zI5, zI6, zI7, zI8, zJ0, zJ1, zJ2, zMM]
    rw [o1, Option.bind_some, o2, o3]
    simp only [zq_add, zq_mul]
    rw [zr_i _ _ (by omega) (by omega), s1, Option.bind_some, m_joinN _ s3 s4, Option.bind_some]
    show zw ((zzri μ 147 65 (nI (13 * k + i))).bind _) _
    rw [zr_i _ _ (by omega) (by omega), x1, Option.bind_some, if_neg fun q => he.2.2.2 j h1 h2 (s5.1 (by
      rwa [zq_eq (by split <;> omega) (by omega)] at q))]
    exact hgo () trivial
  · rintro _ ga -
    obtain ⟨a, b, o, o1, o2, o3, s1, s3, s4, s5⟩ := hsum e hie hen
    unfold L304_a
    simp only [zI0, zI1, zI2, zI3, zI4, zI5, zI6, zI7, zI8, zJ0, zJ1, zJ2, zMM]
    rw [o1, Option.bind_some, o2, o3]
    simp only [zq_add, zq_mul]
    rw [zr_i _ _ (by omega) (by omega), s1, Option.bind_some, m_joinN _ s3 s4, Option.bind_some]
    show zw ((zzri μ 147 65 (nI (13 * k + i))).bind _) _
    rw [zr_i _ _ (by omega) (by omega), x1, Option.bind_some, if_pos (by rw [s5.2 he.2.2.1])]
    exact zw_some ⟨rfl, e, rfl, he⟩
theorem m_leastRule {g : zG} {s : zSn} {μ : zzM} (h : zm2 g s μ) (hg : zwg g) (hs : zws g s) (hn0 : 0 < gN g) (d : Nat) {f : Nat → Nat → Nat → Nat} (hZ : mSz g s f μ) : zw (zzf zzP zN (d + 2) 301 [.ref 105] μ) fun o => o.2 = μ ∧ zFs (fun q => gL g q = gL g 0 ∧ f q 0 (sL s) < 2000000000) (fun q => f q 0 (sL s)) (gN g) o.1.1 := by
  have hgn := g_n hg
  have hsl := hs.1
  have hl0 := g_l hg hn0
  rw [w_m_leastRule]
  refine zl_up (fun q (x : Int32) => ([x, nI q], [], μ)) (fun q x => zFs (fun q => gL g q = gL g 0 ∧ f q 0 (sL s) < 2000000000) (fun q => f q 0 (sL s)) q x) 0 (gN g) (-(nI 1)) (by omega) (by omega) rfl (zFs_0 _ _) ?_ ?_
  · rintro q x ga - hq hx hgo
    obtain ⟨z1, z2⟩ := hZ q 0 (sL s) hq (Nat.zero_le _) (Nat.le_refl _)
    have hlq := g_l hg hq
    unfold L301_a
    simp only [zI0, zI1, zI2, zI3, zI4, zI5, zI6, zI7, zI8, zJ0, zJ1, zJ2, zMM]
    rw [zr_i _ _ (by omega) (by omega), d_n h, Option.bind_some, if_neg (by rw [zq_le (by omega) (by omega)]; omega), zr_i _ _ (by omega) (by omega), d_len h, Option.bind_some, m_spot, Option.bind_some, zr_i _ _ (by omega) (by omega), d_l h hq, Option.bind_some, zr_i _ _ (by omega) (by omega), d_start h hn0, Option.bind_some]
    simp (disch := omega) only [zq_eq, zq_add]
    by_cases el : gL g q = gL g 0
    · rw [if_pos el, zr_i _ _ (by omega) (by omega), z1, Option.bind_some]
      by_cases e : 2000000000 ≤ f q 0 (sL s)
      · rw [if_pos (by rw [zq_le (by omega) (by omega)]; omega)]
        exact hgo x (zFs_no hx fun w => by omega)
      · rw [if_neg (by rw [zq_le (by omega) (by omega)]; omega)]
        by_cases ex : x = -(nI 1)
        · rw [if_pos ex]
          rw [ex] at hx
          exact hgo _ (zFs_1 hx (by omega) ⟨el, by omega⟩)
        · rw [if_neg ex]
          obtain ⟨q0, hq0, rfl⟩ : ∃ q0, q0 < q ∧ x = nI q0 := by
            rcases hx with ⟨a, -⟩ | ⟨q0, a, b, -⟩
            · exact absurd a ex
            · exact ⟨q0, a, b⟩
          obtain ⟨y1, y2⟩ := hZ q0 0 (sL s) (by omega) (Nat.zero_le _) (Nat.le_refl _)
          rw [Option.bind_some]
          rw [zr_i _ _ (by omega) (by omega), d_len h, Option.bind_some, m_spot, Option.bind_some, zr_i _ _ (by omega) (by omega), y1, Option.bind_some]
          have := zFs_s hx (by omega) (by omega) ⟨el, by omega⟩
          by_cases e3 : f q0 0 (sL s) ≤ f q 0 (sL s)
          · rw [if_pos (by rw [zq_le (by omega) (by omega)]; omega)]
            simp only [e3, if_true] at this
            exact hgo _ this
          · rw [if_neg (by rw [zq_le (by omega) (by omega)]; omega)]
            simp only [e3, if_false] at this
            exact hgo _ this
    · rw [if_neg el]
      exact hgo x (zFs_no hx fun w => el w.1)
  · rintro x ga hx
    unfold L301_a
    simp only [zI0, zI1, zI2, zI3, zI4, zI5, zI6, zI7, zI8, zJ0, zJ1, zJ2, zMM]
    rw [zr_i _ _ (by omega) (by omega), d_n h, Option.bind_some, if_pos (by rw [zq_le (by omega) (by omega)]; omega)]
    exact zw_some ⟨rfl, hx⟩
