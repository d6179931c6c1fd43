/-! the pieces and nodes of the forest counted by the reference -/
theorem m_waysNode {g : zG} {s : zSn} {μ : zzM} (h : zm2 g s μ) (hg : zwg g) (hs : zws g s) (hk : mMk true g s μ) (hF : fmOk g s μ) (d : Nat) {c m n : Nat} (hm : m ≤ n) (hn : n ≤ sL s) (hc : c < 26) : zw (zzf zzP zN (d + 6) 292 [.ref 105, .int (nI (26 + c)), .int (nI m), .int (nI n)] μ) fun o => zfr [145] μ o.2 ∧ ((zNd g s c m n ∧ o.1.1 = nI (zWn g s c m n)) ∨ (¬ zNd g s c m n ∧ o.1.1 = -(nI 1))) := by
  have hgn := g_n hg
  have hsl := hs.1
  rw [w_m_waysOfNode]
  refine zl_up (fun q (a : Int32 × zzM) => ([nI (26 + c), nI m, nI n, a.1, nI q], [], a.2)) (fun q a => zfr [145] μ a.2 ∧ (((∃ q', q' < q ∧ gL g q' = 26 + c ∧ zPi g s q' m n) ∧ a.1 = nI (zsuM (fun q => if zdc (gL g q = 26 + c ∧ zPi g s q m n) then zWays g s q m n else 0) q)) ∨ ((¬ ∃ q', q' < q ∧ gL g q' = 26 + c ∧ zPi g s q' m n) ∧ a.1 = -(nI 1) ∧ zsuM (fun q => if zdc (gL g q = 26 + c ∧ zPi g s q m n) then zWays g s q m n else 0) q = 0))) 0 (gN g) (-(nI 1), μ) (by omega) (by omega) rfl ⟨zf_refl _ _, .inr ⟨fun ⟨q', a, _⟩ => absurd a (by omega), rfl, rfl⟩⟩ ?_ ?_
  · rintro q ⟨x, z⟩ ga - hq ⟨i1, i2⟩ hgo
    simp only at i1 i2
    have hz := zm2_fr h i1 rfl
    have hkz := mMk_fr hk i1 rfl
    have hl := g_l hg hq
    -- a rule that is no piece here
    have skip : ∀ z' : zzM, zfr [145] μ z' → ¬ (gL g q = 26 + c ∧ zPi g s q m n) → zw (ga ([nI (26 + c), nI m, nI n, x, nI (q + 1)], [], z')) fun o => zfr [145] μ o.2 ∧ ((zNd g s c m n ∧ o.1.1 = nI (zWn g s c m n)) ∨ (¬ zNd g s c m n ∧ o.1.1 = -(nI 1))) := by
      intro z' hz' hno
      refine hgo (x, z') ⟨hz', ?_⟩
      have hse : zsuM (fun q => if zdc (gL g q = 26 + c ∧ zPi g s q m n) then zWays g s q m n else 0) (q + 1) = zsuM (fun q => if zdc (gL g q = 26 + c ∧ zPi g s q m n) then zWays g s q m n else 0) q := by
        show zsuM _ q + (if zdc (gL g q = 26 + c ∧ zPi g s q m n) then zWays g s q m n else 0) = _
        rw [zdc_f.2 hno]
        rfl
      rw [hse]
      rcases i2 with ⟨⟨q', a, b⟩, e⟩ | ⟨a, e⟩
      · exact .inl ⟨⟨q', by omega, b⟩, e⟩
      · refine .inr ⟨fun ⟨q', a', b'⟩ => ?_, e⟩
        by_cases eq : q' = q
        · rw [eq] at b'; exact hno b'
        · exact a ⟨q', by omega, b'⟩
    unfold L292_a
    simp only [zI0, zI1, zI2, zI3, zI4, zI5, zI6, zI7, zI8, zJ0, zJ1, zJ2, zMM]
    rw [zr_i _ _ (by omega) (by omega), d_n hz, Option.bind_some, if_neg (by rw [zq_le (by omega) (by omega)]; omega), zr_i _ _ (by omega) (by omega), d_l hz hq, Option.bind_some]
    simp (disch := omega) only [zq_eq, zq_add]
    by_cases e1 : gL g q = 26 + c
    · rw [if_pos e1, m_spot, Option.bind_some, zr_i _ _ (by omega) (by omega), Option.bind_some]
      have hpc : mPc z q m n ↔ zPi g s q m n := by
        unfold mPc
        rw [zf_i i1 rfl]
        exact hF.2 q m n hq hm hn
      by_cases e2 : z.1 143 (169 * q + 13 * m + n) = 0
      · rw [if_pos e2]
        exact skip z i1 fun f => hpc.2 f.2 e2
      · rw [if_neg e2]
        have hP := hpc.1 e2
        have fin : ∀ w : Nat, w = zsuM (fun q => if zdc (gL g q = 26 + c ∧ zPi g s q m n) then zWays g s q m n else 0) q → zw (J292_a zN (d + 5) ga (nI (26 + c)) (nI m) (nI n) x (nI q) (nI w) z) fun o => zfr [145] μ o.2 ∧ ((zNd g s c m n ∧ o.1.1 = nI (zWn g s c m n)) ∨ (¬ zNd g s c m n ∧ o.1.1 = -(nI 1))) := by
          intro w hw
          unfold J292_a
          obtain ⟨o1, a1, a2, a3⟩ := m_ways hz hg hs hkz d hq hm hn
          rw [a1, Option.bind_some, a3, zq_add, zq_add]
          refine hgo (_, o1.2) ⟨zf_trans i1 a2, .inl ⟨⟨q, by omega, e1, hP⟩, ?_⟩⟩
          show nI _ = nI (zsuM _ q + (if zdc (gL g q = 26 + c ∧ zPi g s q m n) then zWays g s q m n else 0))
          rw [zdc_t.2 ⟨e1, hP⟩, ← hw]
          rfl
        have hb := zWn_b hg hsl (c := c) (i := m) hn (Nat.le_of_lt hq)
        rcases i2 with ⟨-, e⟩ | ⟨-, e, e'⟩
        · rw [if_neg (by rw [e, zq_em (by omega)]; exact id)]
          have := fin _ rfl
          rw [← e] at this
          exact this
        · rw [if_pos e]
          exact fin 0 e'.symm
    · rw [if_neg e1]
      exact skip z i1 fun f => e1 f.1
  · rintro ⟨x, z⟩ ga ⟨i1, i2⟩
    simp only at i1 i2
    have hz := zm2_fr h i1 rfl
    unfold L292_a
    simp only [zI0, zI1, zI2, zI3, zI4, zI5, zI6, zI7, zI8, zJ0, zJ1, zJ2, zMM]
    rw [zr_i _ _ (by omega) (by omega), d_n hz, Option.bind_some, if_pos (by rw [zq_le (by omega) (by omega)]; omega)]
    refine zw_some ⟨i1, ?_⟩
    rcases i2 with ⟨a, e⟩ | ⟨a, e, -⟩
    · exact .inl ⟨a, e⟩
    · exact .inr ⟨a, e⟩
def mTl (g : zG) (s : zSn) (V : Nat → Prop) (μ : zzM) : Prop := ∃ n a, zT g s V n a (μ.1 105 57) ∧ μ.1 105 55 = nI n ∧ μ.1 105 56 = nI a
theorem mTl_e {g : zG} {s : zSn} {V V' : Nat → Prop} {μ y : zzM} (hT : mTl g s V μ) (he : ∀ k, k = 55 ∨ k = 56 ∨ k = 57 → y.1 105 k = μ.1 105 k) (h : ∀ p, p < 4394 → zNp g s p → (V p ↔ V' p)) : mTl g s V' y := by
  obtain ⟨n, a, b, c, e⟩ := hT
  refine ⟨n, a, ?_, ?_, ?_⟩
  · rw [he 57 (by omega)]; exact zT_cg h b
  · rw [he 55 (by omega)]; exact c
  · rw [he 56 (by omega)]; exact e
theorem m_countsNode {g : zG} {s : zSn} {μ : zzM} (h : zm2 g s μ) (hg : zwg g) (hs : zws g s) (hk : mMk true g s μ) (hF : fmOk g s μ) (d : Nat) {c m n : Nat} (hm : m ≤ n) (hn : n ≤ sL s) (hc : c < 26) {V : Nat → Prop} (hV : ¬ V (169 * c + 13 * m + n)) (hT : mTl g s V μ) : zw (zzf zzP zN (d + 7) 293 [.ref 105, .int (nI (26 + c)), .int (nI m), .int (nI n)] μ) fun o => zfr [105, 145] μ o.2 ∧ (∀ p, p ≠ 55 → p ≠ 56 → p ≠ 57 → o.2.1 105 p = μ.1 105 p) ∧ mTl g s (fun p => V p ∨ p = 169 * c + 13 * m + n) o.2 := by
  have hgn := g_n hg
  have hsl := hs.1
  have hp4 : 169 * c + 13 * m + n < 4394 := by omega
  have p1 : (169 * c + 13 * m + n) / 169 = c := by omega
  have p2 : (169 * c + 13 * m + n) % 169 / 13 = m := by omega
  have p3 : (169 * c + 13 * m + n) % 13 = n := by omega
  have pw : zWi (169 * c + 13 * m + n) = n - m := by unfold zWi; rw [p2, p3]
  obtain ⟨nn, aa, t1, t2, t3⟩ := hT
  have tl := zT_lt t1
  rw [w_m_countsNode]
  obtain ⟨o1, a1, a2, a3⟩ := m_waysNode h hg hs hk hF d hm hn hc
  rw [a1, Option.bind_some]
  have c55 : o1.2.1 105 55 = nI nn := by rw [zf_i a2 rfl]; exact t2
  have c56 : o1.2.1 105 56 = nI aa := by rw [zf_i a2 rfl]; exact t3
  have c57 : o1.2.1 105 57 = μ.1 105 57 := by rw [zf_i a2 rfl]
  have ck : ∀ k, o1.2.1 105 k = μ.1 105 k := fun k => by rw [zf_i a2 rfl]
  have f2 : zfr [105, 145] μ o1.2 := zf_mono a2 rfl
  rw [c55]
  generalize o1.2 = y at c55 c56 c57 ck f2
  rcases a3 with ⟨hN, e⟩ | ⟨hN, e⟩
  · have hb := zWn_b hg hsl (c := c) (i := m) hn (Nat.le_refl (gN g))
    have hb : zWn g s c m n ≤ gN g * 28561 := hb
    rw [e, if_neg (by rw [zq_em (by omega)]; exact id)]
    unfold J293_b
    rw [c56, c57, zq_add, zq_add]
    have pN : zNp g s (169 * c + 13 * m + n) := by unfold zNp; rw [p1, p2, p3]; exact hN
    by_cases ea : zWn g s c m n ≤ 1
    · rw [if_pos (by rw [zq_le (by omega) (by omega)]; omega)]
      have pA : ¬ zAp g s (169 * c + 13 * m + n) := by unfold zAp zAm; rw [p1, p2, p3]; omega
      refine zw_some ⟨zf_twI _ _ f2 rfl, fun k e1 e2 e3 => by rw [zm_k _ _ _ _ e1]; exact ck k, nn + 1, aa, ?_, ?_, ?_⟩
      · rw [zm_k _ _ _ _ (by omega), c57]
        exact zT_n hp4 hV pN pA t1
      · rw [zm_s]
      · rw [zm_k _ _ _ _ (by omega)]
        exact c56
    · rw [if_neg (by rw [zq_le (by omega) (by omega)]; omega)]
      have pA : zAp g s (169 * c + 13 * m + n) := by unfold zAp zAm; rw [p1, p2, p3]; omega
      have fin : ∀ w : Int32, (μ.1 105 57 = -(nI 2) → w = nI (n - m)) → (∀ u, u < 13 → μ.1 105 57 = nI u → w = nI (if u ≤ n - m then u else n - m)) → zw (J293_a zN (d + 6) w (zzwI (zzwI y 105 55 (nI (nn + 1))) 105 56 (nI (aa + 1)))) fun o => zfr [105, 145] μ o.2 ∧ (∀ p, p ≠ 55 → p ≠ 56 → p ≠ 57 → o.2.1 105 p = μ.1 105 p) ∧ mTl g s (fun p => V p ∨ p = 169 * c + 13 * m + n) o.2 := by
        intro w w1 w2
        unfold J293_a
        refine zw_some ⟨zf_twI _ _ (zf_twI _ _ (zf_twI _ _ f2 rfl) rfl) rfl, fun k e1 e2 e3 => ?_, nn + 1, aa + 1, ?_, ?_, ?_⟩
        · rw [zm_k _ _ _ _ e3, zm_k _ _ _ _ e2, zm_k _ _ _ _ e1]
          exact ck k
        · rw [zm_s]
          refine zT_a hp4 hV pA t1 (by rw [pw]; omega) ?_ ?_
          · rw [pw]; exact w1
          · rw [pw]; exact w2
        · rw [zm_k _ _ _ _ (by omega), zm_k _ _ _ _ (by omega), zm_s]
        · rw [zm_k _ _ _ _ (by omega), zm_s]
      by_cases e7 : μ.1 105 57 = -(nI 2)
      · rw [if_pos e7, zq_sub hm]
        exact fin _ (fun _ => rfl) fun u hu e => absurd (e.symm.trans e7) (zm2v u hu)
      · rw [if_neg e7]
        rcases t1.2.2 with ⟨b1, -⟩ | ⟨w, b1, b2, -, -⟩
        · exact absurd b1 e7
        · rw [zq_sub hm, b2]
          by_cases ew : w ≤ n - m
          · rw [if_pos (by rw [zq_le (by omega) (by omega)]; omega)]
            refine fin _ (fun e => absurd e e7) fun u hu e => ?_
            rw [b2, zq_eq (by omega) (by omega)] at e
            rw [← e, if_pos ew]
          · rw [if_neg (by rw [zq_le (by omega) (by omega)]; omega)]
            refine fin _ (fun e => absurd e e7) fun u hu e => ?_
            rw [b2, zq_eq (by omega) (by omega)] at e
            rw [← e, if_neg ew]
  · rw [e, if_pos rfl]
    unfold J293_b
    rw [if_pos (by decide), zq_add]
    refine zw_some ⟨zf_twI _ _ f2 rfl, fun k e1 e2 e3 => by rw [zm_k _ _ _ _ e1]; exact ck k, nn, aa, ?_, ?_, ?_⟩
    · rw [zm_k _ _ _ _ (by omega), c57]
      refine zT_cg (fun p hp hNp => ⟨.inl, fun e => e.elim id fun e => ?_⟩) t1
      rw [e] at hNp
      unfold zNp at hNp
      rw [p1, p2, p3] at hNp
      exact absurd hNp hN
    · rw [zm_s]
      rfl
    · rw [zm_k _ _ _ _ (by omega)]
      exact c56
