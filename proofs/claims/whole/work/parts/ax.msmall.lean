/-! the size of the smallest tree, of the reference -/
theorem smOk_t {g : zG} {s : zSn} {f : Nat → Nat → Nat → Nat} (h : ∀ q i j, i ≤ j → j ≤ sL s → zmn 2000000000 (zSi g s q i j) (f q i j)) : zFt g s 2000000000 f 0 (sL s) := fun q i j _ b c => h q i j b c
theorem m_firstRule {g : zG} {s : zSn} {μ : zzM} (h : zm2 g s μ) (hg : zwg g) (hs : zws g s) (hn0 : 0 < gN g) (d : Nat) {f : Nat → Nat → Nat → Nat} (hZ : mSz g s f μ) (hF : zFt g s 2000000000 f 0 (sL s)) : zw (zzf zzP zN (d + 2) 301 [.ref 105] μ) fun o => o.2 = μ ∧ ((o.1.1 = -(nI 1) ∧ ∀ q u, gL g q = gL g 0 → ¬ zLt g s q 0 (sL s) u) ∨ ∃ q, q < gN g ∧ o.1.1 = nI q ∧ zFq g s (fun q => gL g q = gL g 0) 0 (sL s) q) := by
  have hsl := hs.1
  obtain ⟨o, a1, a2, a3⟩ := m_leastRule h hg hs hn0 d hZ
  exact ⟨o, a1, a2, zFs_q hg (by omega) hsl hF (Nat.le_refl _) (Nat.zero_le _) (Nat.le_refl _) (S := fun q => gL g q = gL g 0) (fun q hq hfq => Iff.rfl) a3⟩
theorem m_smallest {g : zG} {s : zSn} {μ : zzM} (h : zm2 g s μ) (hg : zwg g) (hs : zws g s) (hn0 : 0 < gN g) (d : Nat) (hl2 : bt (μ.1 105 36) 2 = false ∨ mMk true g s μ) (hl6 : bt (μ.1 105 36) 6 = false ∨ (mMk true g s μ ∧ smOk g s μ)) : zw (zzf zzP zN (d + 10) 302 [.ref 105] μ) fun o => zfr [105, 134, 135, 136, 146, 147] μ o.2 ∧ (∀ p, p ≠ 36 → o.2.1 105 p = μ.1 105 p) ∧ (∀ i, i < 32 → bt (o.2.1 105 36) i = true → bt (μ.1 105 36) i = true ∨ i = 2 ∨ i = 6) ∧ mMk true g s o.2 ∧ smOk g s o.2 ∧ (∀ p, p < 2028 → o.2.1 134 p = μ.1 134 p) ∧ ((o.1.1 = -(nI 2) ∧ ∀ q u, gL g q = gL g 0 → ¬ zLt g s q 0 (sL s) u) ∨ ∃ q v, zFq g s (fun q => gL g q = gL g 0) 0 (sL s) q ∧ zLt g s q 0 (sL s) v ∧ o.1.1 = nI v) := by
  have hsl := hs.1
  have hgn := g_n hg
  rw [u_m_smallest, m_isGrammar, Option.bind_some, d_n h]
  have hpos : (0 : Int32) < nI (gN g) := by rw [zq_0lt (by omega)]; exact hn0
  rw [decide_eq_true hpos, if_neg (show ¬ zB true = 0 by decide)]
  obtain ⟨o1, a1, a2, a3, a4, a5, a6, a7⟩ := m_laysSmallest h hg hs d hl2 hl6
  obtain ⟨f, f1, f2⟩ := id a6
  have h1 := zm2_fr h a2 rfl
  have hF := smOk_t f2
  rw [a1, Option.bind_some]
  obtain ⟨o2, b1, b2, b3⟩ := m_firstRule h1 hg hs hn0 (d + 7) f1 hF
  rw [b1, Option.bind_some, b2]
  rcases b3 with ⟨c1, c2⟩ | ⟨q, c1, c2, c3⟩
  · rw [if_pos c1]
    exact zw_some ⟨a2, a3, a4, a5, a6, a7, .inl ⟨rfl, c2⟩⟩
  · rw [c2, if_neg (by rw [zq_em (by omega)]; exact id), zr_i _ _ (by omega) (by omega), d_len h1, Option.bind_some, m_spot, Option.bind_some, zr_i _ _ (by omega) (by omega), (f1 q 0 (sL s) c1 (Nat.zero_le _) (Nat.le_refl _)).1, Option.bind_some]
    obtain ⟨-, u, e1, -⟩ := id c3
    have e2 := (zFt_lt hg (by omega) hsl hF (Nat.le_refl _) (Nat.zero_le _) (Nat.le_refl _)).1 e1
    exact zw_some ⟨a2, a3, a4, a5, a6, a7, .inr ⟨q, u, c3, e1, by rw [← e2.1]⟩⟩
