/-! the nodes of the forest counted by the class, whole -/
def cTl (g : zG) (s : zSn) (V : Nat → Prop) (μ : zzM) : Prop := ∃ n a, zT g s V n a (μ.1 52 7) ∧ μ.1 52 5 = nI n ∧ μ.1 52 6 = nI a
theorem cTl_e {g : zG} {s : zSn} {V V' : Nat → Prop} {μ y : zzM} (hT : cTl g s V μ) (he : ∀ k, k = 5 ∨ k = 6 ∨ k = 7 → y.1 52 k = μ.1 52 k) (h : ∀ p, p < 4394 → zNp g s p → (V p ↔ V' p)) : cTl g s V' y := by
  obtain ⟨n, a, b, c, e⟩ := hT
  refine ⟨n, a, ?_, ?_, ?_⟩
  · rw [he 7 (by omega)]; exact zT_cg h b
  · rw [he 5 (by omega)]; exact c
  · rw [he 6 (by omega)]; exact e
theorem zNp_at {g : zG} {s : zSn} {p : Nat} (h : zNp g s p) : p % 169 / 13 ≤ p % 13 ∧ p % 13 ≤ sL s := by
  obtain ⟨q, -, -, e⟩ := h
  exact (zPi_rg e).2
theorem s_tallySpan {g : zG} {s : zSn} {μ : zzM} (h : zc2 g s μ) (hg : zwg g) (hc : cCf true 36 37 38 39 g s μ) (hsl : sL s ≤ 12) (hF : foOk g s μ) (d : Nat) {m n : Nat} (hm : m ≤ n) (hn : n ≤ sL s) {V : Nat → Prop} (hV : ∀ p, p < 4394 → p % 169 = 13 * m + n → ¬ V p) (hT : cTl g s V μ) : zw (zzf zzP zN (d + 5) 103 [.ref 52, .int (nI m), .int (nI n)] μ) fun o => zfr [40, 52] μ o.2 ∧ (∀ p, p ≠ 5 → p ≠ 6 → p ≠ 7 → o.2.1 52 p = μ.1 52 p) ∧ cTl g s (fun p => V p ∨ p % 169 = 13 * m + n) o.2 := by
  have hgn := g_n hg
  have hsp := zsp_lt n (by omega) m (by omega) hm
  rw [w_forest_tallySpan, s_zsp _ hm (by omega), Option.bind_some]
  show zw ((zzri μ 53 91 (nI (zsp m n))).bind _) _
  rw [zr_i _ _ hsp (by omega), Option.bind_some]
  have hX : ∀ q, q < 32 → (bt (μ.1 53 (zsp m n)) q = true ↔ zPi g s q m n) := fun q hq => hF m n hm hn q hq
  generalize μ.1 53 (zsp m n) = X at hX ⊢
  have hnode : ∀ p, p % 169 = 13 * m + n → zNp g s p → ∃ q, q < 12 ∧ bt X q = true ∧ q < gN g ∧ gL g q = 26 + p / 169 := fun p hp hN => by
    obtain ⟨q, h1, h2, h3⟩ := hN
    rw [show p % 169 / 13 = m by omega, show p % 13 = n by omega] at h3
    exact ⟨q, by omega, (hX q (by omega)).2 h3, h1, h2⟩
  refine zl_up (fun c (z : zzM) => ([nI m, nI n, X, nI c], [], z)) (fun c z => zfr [40, 52] μ z ∧ (∀ p, p ≠ 5 → p ≠ 6 → p ≠ 7 → z.1 52 p = μ.1 52 p) ∧ cTl g s (fun p => V p ∨ (p % 169 = 13 * m + n ∧ p / 169 < c)) z) 0 26 μ (by omega) (by omega) rfl ⟨zf_refl _ _, fun _ _ _ _ => rfl, cTl_e hT (fun _ _ => rfl) fun p hp _ => ⟨fun e => .inl e, fun e => e.elim id fun e => absurd e.2 (by omega)⟩⟩ ?_ ?_
  · rintro c z ga - hc26 ⟨i1, i2, i3⟩ hgo
    have hz := zc2_fr h i1 rfl
    have hcz := cCf_fr hc i1 rfl
    unfold L103_a
    simp only [zI0, zI1, zI2, zI3, zI4, zI5, zI6, zI7, zI8, zJ0, zJ1, zJ2, zMM]
    rw [if_neg (by rw [zq_le (by omega) (by omega)]; omega)]
    by_cases e0 : X = 0
    · rw [if_pos e0]
      refine zw_some ⟨i1, i2, cTl_e i3 (fun _ _ => rfl) fun p hp hN => ⟨fun e => e.elim .inl fun e => .inr e.1, fun e => e.elim .inl fun e => ?_⟩⟩
      obtain ⟨q, -, hq, -⟩ := hnode p e hN
      rw [e0, show (0 : Int32) = nI 0 from rfl, b_z] at hq
      cases hq
    · rw [if_neg e0, zr_i _ _ hc26 (by omega), Option.bind_some]
      by_cases e1 : (X &&& z.1 9 c) = 0
      · rw [if_pos e1, zq_add]
        refine hgo z ⟨i1, i2, cTl_e i3 (fun _ _ => rfl) fun p hp hN => ⟨fun e => e.elim .inl fun e => .inr ⟨e.1, by omega⟩, fun e => e.elim .inl fun e => ?_⟩⟩
        by_cases ec : p / 169 = c
        · obtain ⟨q, hq0, hq, hq1, hq2⟩ := hnode p e.1 hN
          refine absurd ⟨hq, ?_⟩ ((b_and0 _ _).1 e1 q (by omega))
          rw [c_u hz hc26 (by omega), decide_eq_true_eq]
          exact ⟨hq1, by omega⟩
        · exact .inr ⟨e.1, by omega⟩
      · rw [if_neg e1]
        have hXc : ∀ q, q < 32 → (bt (X &&& z.1 9 c) q = true ↔ gL g q = 26 + c ∧ zPi g s q m n) := fun q hq => by
          rw [b_and, Bool.and_eq_true, hX q hq, c_u hz hc26 hq, decide_eq_true_eq]
          exact ⟨fun e => ⟨e.2.2, e.1⟩, fun e => ⟨e.2, (zPi_rg e.2).1, e.1⟩⟩
        generalize X &&& z.1 9 c = Y at e1 hXc
        have hnd : zNd g s c m n := by
          apply Classical.byContradiction
          intro f
          apply e1
          apply b_ext
          intro q hq
          rw [show (0 : Int32) = nI 0 from rfl, b_z]
          cases eq : bt Y q with
          | false => rfl
          | true =>
            have := (hXc q hq).1 eq
            exact absurd ⟨q, (zPi_rg this.2).1, this.1, this.2⟩ f
        have hp4 : 169 * c + 13 * m + n < 4394 := by omega
        have p1 : (169 * c + 13 * m + n) / 169 = c := by omega
        have p2 : (169 * c + 13 * m + n) % 169 / 13 = m := by omega
        have p3 : (169 * c + 13 * m + n) % 13 = n := by omega
        have pw : zWi (169 * c + 13 * m + n) = n - m := by unfold zWi; rw [p2, p3]
        have pN : zNp g s (169 * c + 13 * m + n) := by unfold zNp; rw [p1, p2, p3]; exact hnd
        obtain ⟨nn, aa, t1, t2, t3⟩ := i3
        have tl := zT_lt t1
        have hnv : ¬ (V (169 * c + 13 * m + n) ∨ ((169 * c + 13 * m + n) % 169 = 13 * m + n ∧ (169 * c + 13 * m + n) / 169 < c)) := fun e => e.elim (hV _ hp4 (by omega)) fun e => by omega
        have hcgV : ∀ p, p < 4394 → zNp g s p → (((V p ∨ (p % 169 = 13 * m + n ∧ p / 169 < c)) ∨ p = 169 * c + 13 * m + n) ↔ (V p ∨ (p % 169 = 13 * m + n ∧ p / 169 < c + 1))) := fun p hp _ => by
          constructor
          · rintro ((e | e) | e)
            · exact .inl e
            · exact .inr ⟨e.1, by omega⟩
            · exact .inr ⟨by omega, by omega⟩
          · rintro (e | e)
            · exact .inl (.inl e)
            · by_cases ec : p / 169 = c
              · exact .inr (by omega)
              · exact .inl (.inr ⟨e.1, by omega⟩)
        rw [t2, zq_add]
        have f1 : zfr [40, 52] μ (zzwI z 52 5 (nI (nn + 1))) := zf_twI _ _ i1 rfl
        obtain ⟨o2, a1, a2, a3⟩ := s_isAmb (zc2_fr h f1 rfl) hg (cCf_fr hc f1 rfl) hsl d hm hn hXc
        have f2 : zfr [40, 52] μ o2.2 := zf_trans f1 (zf_mono a2 rfl)
        have hcell : ∀ k, o2.2.1 52 k = (zzwI z 52 5 (nI (nn + 1))).1 52 k := fun k => by rw [zf_i a2 rfl]
        have h7 : o2.2.1 52 7 = z.1 52 7 := by rw [hcell, zm_k _ _ _ _ (by omega)]
        have h6 : o2.2.1 52 6 = nI aa := by rw [hcell, zm_k _ _ _ _ (by omega)]; exact t3
        have h5 : o2.2.1 52 5 = nI (nn + 1) := by rw [hcell, zm_s]
        have hk : ∀ k, k ≠ 5 → k ≠ 6 → k ≠ 7 → o2.2.1 52 k = μ.1 52 k := fun k e1 e2 e3 => by rw [hcell, zm_k _ _ _ _ e1]; exact i2 k e1 e2 e3
        rw [a1, Option.bind_some, a3, h7, h6]
        simp only [zB_0, zq_add]
        generalize o2.2 = y at f2 h7 h6 h5 hk
        by_cases ea : zAm g s c m n
        · rw [zdc_t.2 ea, if_neg (by decide)]
          have pA : zAp g s (169 * c + 13 * m + n) := by unfold zAp; rw [p1, p2, p3]; exact ea
          have fin : ∀ w : Int32, (z.1 52 7 = -(nI 2) → w = nI (n - m)) → (∀ u, u < 13 → z.1 52 7 = nI u → w = nI (if u ≤ n - m then u else n - m)) → zw (J103_a zN (d + 4) ga (nI m) (nI n) X (nI c) w (zzwI y 52 6 (nI (aa + 1)))) fun o => zfr [40, 52] μ o.2 ∧ (∀ p, p ≠ 5 → p ≠ 6 → p ≠ 7 → o.2.1 52 p = μ.1 52 p) ∧ cTl g s (fun p => V p ∨ p % 169 = 13 * m + n) o.2 := by
            intro w w1 w2
            unfold J103_a
            rw [zq_add]
            refine hgo _ ⟨zf_twI _ _ (zf_twI _ _ f2 rfl) rfl, fun k e1 e2 e3 => ?_, nn + 1, aa + 1, ?_, ?_, ?_⟩
            · rw [zm_k _ _ _ _ e3, zm_k _ _ _ _ e2]
              exact hk k e1 e2 e3
            · rw [zm_s]
              refine zT_cg hcgV (zT_a hp4 hnv pA t1 (by rw [pw]; omega) ?_ ?_)
              · rw [pw]; exact w1
              · rw [pw]; exact w2
            · rw [zm_k _ _ _ _ (by omega), zm_k _ _ _ _ (by omega)]
              exact h5
            · rw [zm_k _ _ _ _ (by omega), zm_s]
          by_cases e7 : z.1 52 7 = -(nI 2)
          · rw [if_pos e7, zq_sub hm]
            exact fin _ (fun _ => rfl) fun u hu e => absurd (e.symm.trans e7) (zm2v u hu)
          · rw [if_neg e7]
            rcases t1.2.2 with ⟨b1, -⟩ | ⟨w, b1, b2, -, -⟩
            · exact absurd b1 e7
            · rw [zq_sub hm, b2, s_min _ (by omega) (by omega), Option.bind_some]
              refine fin _ (fun e => absurd e e7) fun u hu e => ?_
              rw [b2, zq_eq (by omega) (by omega)] at e
              rw [e]
        · rw [zdc_f.2 ea, if_pos rfl]
          have pA : ¬ zAp g s (169 * c + 13 * m + n) := by unfold zAp; rw [p1, p2, p3]; exact ea
          refine hgo y ⟨f2, hk, nn + 1, aa, ?_, h5, h6⟩
          rw [h7]
          exact zT_cg hcgV (zT_n hp4 hnv pN pA t1)
  · rintro z ga ⟨i1, i2, i3⟩
    unfold L103_a
    simp only [zI0, zI1, zI2, zI3, zI4, zI5, zI6, zI7, zI8, zJ0, zJ1, zJ2, zMM]
    rw [if_pos (by rw [zq_le (by omega) (by omega)]; omega)]
    exact zw_some ⟨i1, i2, cTl_e i3 (fun _ _ => rfl) fun p hp _ => ⟨fun e => e.elim .inl fun e => .inr e.1, fun e => e.elim .inl fun e => .inr ⟨e, by omega⟩⟩⟩
theorem s_tally {g : zG} {s : zSn} {μ : zzM} (h : zc2 g s μ) (hg : zwg g) (hc : cCf true 36 37 38 39 g s μ) (hsl : sL s ≤ 12) (hF : foOk g s μ) (d : Nat) (hst : μ.1 52 3 = 0 ∨ cTl g s (fun _ => True) μ) : zw (zzf zzP zN (d + 6) 102 [.ref 52] μ) fun o => zfr [40, 52] μ o.2 ∧ (∀ p, p ≠ 3 → p ≠ 5 → p ≠ 6 → p ≠ 7 → o.2.1 52 p = μ.1 52 p) ∧ cTl g s (fun _ => True) o.2 ∧ ¬ o.2.1 52 3 = 0 := by
  rw [w_forest_tally]
  by_cases e : μ.1 52 3 = 0
  · rw [if_pos e]
    have hFy : ∀ y, zfr [40, 52] μ y → foOk g s y := fun y hy i j a b q c => by rw [zf_i hy rfl]; exact hF i j a b q c
    refine zl_up (fun L (z : zzM) => ([nI L], [], z)) (fun L z => zfr [40, 52] μ z ∧ (∀ p, p ≠ 5 → p ≠ 6 → p ≠ 7 → z.1 52 p = μ.1 52 p) ∧ cTl g s (fun p => p % 169 / 13 ≤ p % 13 ∧ p % 13 ≤ sL s ∧ zWi p < L) z) 0 (sL s + 1) (zzwI (zzwI (zzwI μ 52 5 (nI 0)) 52 6 (nI 0)) 52 7 (-(nI 2))) (by omega) (by omega) rfl ⟨zf_twI _ _ (zf_twI _ _ (zf_wI _ _ rfl) rfl) rfl, fun k e1 e2 e3 => by rw [zm_k _ _ _ _ e3, zm_k _ _ _ _ e2, zm_k _ _ _ _ e1], 0, 0, ?_, ?_, ?_⟩ ?_ ?_
    · rw [zm_s]
      exact zT_cg (fun p hp _ => ⟨fun f => f.elim, fun f => absurd f.2.2 (by omega)⟩) (zT_0 g s)
    · rw [zm_k _ _ _ _ (by omega), zm_k _ _ _ _ (by omega), zm_s]
    · rw [zm_k _ _ _ _ (by omega), zm_s]
    · rintro L z ga - hL ⟨i1, i2, i3⟩ hgo
      unfold L102_b
      simp only [zI0, zI1, zI2, zI3, zI4, zI5, zI6, zI7, zI8, zJ0, zJ1, zJ2, zMM]
      rw [c_len (zc2_fr h i1 rfl), if_neg (by rw [zq_lt (by omega) (by omega)]; omega)]
      refine zl_up (fun m (z : zzM) => ([nI L, nI m], [], z)) (fun m z => zfr [40, 52] μ z ∧ (∀ p, p ≠ 5 → p ≠ 6 → p ≠ 7 → z.1 52 p = μ.1 52 p) ∧ cTl g s (fun p => p % 169 / 13 ≤ p % 13 ∧ p % 13 ≤ sL s ∧ (zWi p < L ∨ (zWi p = L ∧ p % 169 / 13 < m))) z) 0 (sL s - L + 1) z (by omega) (by omega) rfl ⟨i1, i2, cTl_e i3 (fun _ _ => rfl) fun p hp _ => by omega⟩ ?_ ?_
      · rintro m y gb - hm ⟨j1, j2, j3⟩ hgo2
        unfold L102_a
        simp only [zI0, zI1, zI2, zI3, zI4, zI5, zI6, zI7, zI8, zJ0, zJ1, zJ2, zMM]
        rw [c_len (zc2_fr h j1 rfl), zq_add, if_neg (by rw [zq_lt (by omega) (by omega)]; omega)]
        obtain ⟨o, a1, a2, a3, a4⟩ := s_tallySpan (zc2_fr h j1 rfl) hg (cCf_fr hc j1 rfl) hsl (hFy y j1) d (m := m) (n := m + L) (by omega) (by omega) (fun p hp e => by unfold zWi; omega) j3
        rw [a1, Option.bind_some, zq_add]
        refine hgo2 o.2 ⟨zf_trans j1 a2, fun k e1 e2 e3 => (a3 k e1 e2 e3).trans (j2 k e1 e2 e3), cTl_e a4 (fun _ _ => rfl) fun p hp _ => by unfold zWi; omega⟩
      · rintro y gb ⟨j1, j2, j3⟩
        unfold L102_a
        simp only [zI0, zI1, zI2, zI3, zI4, zI5, zI6, zI7, zI8, zJ0, zJ1, zJ2, zMM]
        rw [c_len (zc2_fr h j1 rfl), zq_add, if_pos (by rw [zq_lt (by omega) (by omega)]; omega), zq_add]
        exact hgo y ⟨j1, j2, cTl_e j3 (fun _ _ => rfl) fun p hp _ => by unfold zWi; omega⟩
    · rintro z ga ⟨i1, i2, i3⟩
      unfold L102_b
      simp only [zI0, zI1, zI2, zI3, zI4, zI5, zI6, zI7, zI8, zJ0, zJ1, zJ2, zMM]
      rw [c_len (zc2_fr h i1 rfl), if_pos (by rw [zq_lt (by omega) (by omega)]; omega)]
      simp only [zk_1, if_true]
      refine zw_some ⟨zf_twI _ _ i1 rfl, fun k e1 e2 e3 e4 => ?_, cTl_e i3 (fun k hk => zm_k _ _ _ _ (by omega)) fun p hp hN => ?_, ?_⟩
      · rw [zm_k _ _ _ _ e1]
        exact i2 k e2 e3 e4
      · have := zNp_at hN
        refine ⟨fun _ => trivial, fun _ => ⟨this.1, this.2, ?_⟩⟩
        unfold zWi
        omega
      · rw [zm_s]
        decide
  · rw [if_neg e]
    exact zw_some ⟨zf_refl _ _, fun _ _ _ _ _ => rfl, hst.resolve_left e, e⟩
