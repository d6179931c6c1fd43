/-! the way down in the smallest tree, of the reference -/
theorem m_walk {g : zG} {s : zSn} {μ : zzM} (h : zm2 g s μ) (hg : zwg g) (hs : zws g s) (d : Nat) {f : Nat → Nat → Nat → Nat} (hZ : mSz g s f μ) (hF : zFt g s 2000000000 f 0 (sL s)) {r m n k v : Nat} (hr : r < gN g) (hm : m ≤ n) (hn : n ≤ sL s) (hv : zLt g s r m n v) (hk : k < v) (e0 : μ.1 105 60 = nI r) (e1 : μ.1 105 61 = nI m) (e2 : μ.1 105 62 = nI n) (e3 : μ.1 105 63 = nI k) (a2 : Int32) : zw (zzl (L305_a zN (d + 7)) zN ([a2], [], μ)) fun o => zfr [105, 147] μ o.2 ∧ (∀ p, p ≠ 60 → p ≠ 61 → p ≠ 62 → p ≠ 63 → o.2.1 105 p = μ.1 105 p) ∧ ∃ t r' m' n', zGo g s t r m n k r' m' n' ∧ o.1.1 = (if a2 = 0 then nI r' else if a2 = nI 1 then nI m' else nI n') := by
  have hgn := g_n hg
  have hsl := hs.1
  have hvb := zLt_b hg (by omega) hv
  refine zl_ms (fun a : (Nat × Nat × Nat × Nat) × zzM => ([a2], [], a.2)) (fun t a => t = a.1.2.2.2 ∧ zfr [105, 147] μ a.2 ∧ (∀ p, p ≠ 60 → p ≠ 61 → p ≠ 62 → p ≠ 63 → a.2.1 105 p = μ.1 105 p) ∧ a.2.1 105 60 = nI a.1.1 ∧ a.2.1 105 61 = nI a.1.2.1 ∧ a.2.1 105 62 = nI a.1.2.2.1 ∧ a.2.1 105 63 = nI a.1.2.2.2 ∧ a.1.1 < gN g ∧ a.1.2.1 ≤ a.1.2.2.1 ∧ a.1.2.2.1 ≤ sL s ∧ (∃ v, zLt g s a.1.1 a.1.2.1 a.1.2.2.1 v ∧ a.1.2.2.2 < v) ∧ ∀ t' r2 m2 n2, zGo g s t' a.1.1 a.1.2.1 a.1.2.2.1 a.1.2.2.2 r2 m2 n2 → ∃ t, zGo g s t r m n k r2 m2 n2) k ((r, m, n, k), μ) (by omega) rfl ⟨rfl, zf_refl _ _, fun _ _ _ _ _ => rfl, e0, e1, e2, e3, hr, hm, hn, ⟨v, hv, hk⟩, fun t' r2 m2 n2 e => ⟨t', e⟩⟩ ?_
  rintro t ⟨⟨r1, m1, n1, k1⟩, y⟩ ga ⟨ht, c1, c2, c3, c4, c5, c6, c7, c8, c9, ⟨v1, c10, c11⟩, c12⟩ hgo
  simp only at ht c1 c2 c3 c4 c5 c6 c7 c8 c9 c10 c11 c12
  have hvb1 := zLt_b hg (by omega) c10
  unfold L305_a
  simp only [zI0, zI1, zI2, zI3, zI4, zI5, zI6, zI7, zI8, zJ0, zJ1, zJ2, zMM]
  rw [c6, c3, c4, c5]
  by_cases ek : k1 = 0
  · rw [if_pos (by rw [zq_le0 (by omega)]; exact ek)]
    obtain ⟨t2, x2⟩ := c12 0 r1 m1 n1 ⟨ek, rfl, rfl, rfl⟩
    by_cases q0 : a2 = 0
    · rw [if_pos q0]
      exact zw_some ⟨c1, c2, t2, r1, m1, n1, x2, by rw [if_pos q0]⟩
    · rw [if_neg q0]
      by_cases q1 : a2 = nI 1
      · rw [if_pos q1]
        exact zw_some ⟨c1, c2, t2, r1, m1, n1, x2, by rw [if_neg q0, if_pos q1]⟩
      · rw [if_neg q1]
        exact zw_some ⟨c1, c2, t2, r1, m1, n1, x2, by rw [if_neg q0, if_neg q1]⟩
  · rw [if_neg (by rw [zq_le0 (by omega)]; exact ek)]
    obtain ⟨og, g1, g2, g3, q, i, j, l', g4, g5, g6, g7, g8⟩ := m_goesBelow (l := k1 - 1) (zm2_fr h c1 rfl) hg hs d (mSz_fr hZ c1 rfl) c7 c8 c9 (zFt_in hF (Nat.zero_le _) c9) c10 (by omega) c3 c4 c5 (by rw [c6, show k1 - 1 + 1 = k1 by omega])
    rw [g1, Option.bind_some]
    obtain ⟨R, u, x1, x2, x3, x4, x5, x6, x7, x8, x9⟩ := zDw_in g4
    refine hgo l' ((q, i, j, l'), og.2) (by omega) ⟨rfl, zf_trans c1 g2, fun p p0 p1 p2 p3 => (g3 p p0 p1 p2 p3).trans (c2 p p0 p1 p2 p3), g5, g6, g7, g8, x9, x7, by simp only; omega, ⟨u, x2, x4⟩, fun t' r2 m2 n2 e => ?_⟩
    exact c12 (t' + 1) r2 m2 n2 (.inr ⟨k1 - 1, q, i, j, l', by omega, g4, e⟩)
