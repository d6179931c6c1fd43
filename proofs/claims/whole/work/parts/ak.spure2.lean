/-! sizes: rounds bring the least -/
def zMi (g : zG) (s : zSn) (C : Nat) (f : Nat → Nat → Nat → Nat) (m n : Nat) : Prop := (∀ q i j, m ≤ i → i ≤ j → j ≤ n → ¬ (i = m ∧ j = n) → zmn C (zSi g s q i j) (f q i j)) ∧ ∀ q, f q m n ≤ C ∧ (f q m n < C → zSi g s q m n (f q m n))
theorem zMi_so {g : zG} {s : zSn} {C : Nat} {f : Nat → Nat → Nat → Nat} {m n : Nat} (h : zMi g s C f m n) : zSo g s C f m n := fun q i j a b c e => by
  by_cases eq : i = m ∧ j = n
  · obtain ⟨rfl, rfl⟩ := eq
    exact (h.2 q).2 e
  · exact (h.1 q i j a b c eq).2.1 e
def zPr (g : zG) (s : zSn) (f : Nat → Nat → Nat → Nat) (m n t : Nat) : Prop := ∀ r v, zLt g s r m n v → zRk g s m n v < t → f r m n ≤ v
theorem zPr_w {g : zG} {s : zSn} (hg : zwg g) {C : Nat} (hC : 1157627904 < C) {f : Nat → Nat → Nat → Nat} {m n t : Nat} (hn : n ≤ 12) (h : zMi g s C f m n) (hp : zPr g s f m n t) {r v w : Nat} (hv : zLt g s r m n v) (hr : zRk g s m n v < t + 1) (hw : zmn C (zSR (zSP g s (zTf C f) r) n (gZ g r) 0 m) w) : w + 1 ≤ v := by
  have hgn := g_n hg
  obtain ⟨a, w0, rfl, b⟩ := zLt_out hv
  obtain ⟨w', c1, c2⟩ := zSR_le (P' := zSP g s (zTf C f) r) (fun k i j p _ _ c1 c2 c3 c4 e => by
    rcases e with e | ⟨e1, q, e2, e3⟩
    · exact ⟨p, Nat.le_refl _, .inl e⟩
    · have hb := zLt_b hg (by omega) e3
      have hq := zb_lt e2
      by_cases eq : i = m ∧ j = n
      · obtain ⟨rfl, rfl⟩ := eq
        have h1 := zRk_lt (by omega) e3 (show p < w0 + 1 by omega)
        have h2 := hp q p e3 (by omega)
        exact ⟨f q i j, h2, .inr ⟨e1, q, e2, rfl, by omega⟩⟩
      · have h2 := (h.1 q i j c1 c2 c3 eq).2.2 p e3.1
        exact ⟨f q i j, h2, .inr ⟨e1, q, e2, rfl, by omega⟩⟩) b
  have := hw.2.2 w' c2
  omega
theorem zPr_fin {g : zG} {s : zSn} (hg : zwg g) {C : Nat} {f : Nat → Nat → Nat → Nat} {m n : Nat} (h : zMi g s C f m n) (hp : zPr g s f m n 12) (q : Nat) : zmn C (zSi g s q m n) (f q m n) := by
  have hgn := g_n hg
  refine ⟨(h.2 q).1, (h.2 q).2, fun p hs => ?_⟩
  obtain ⟨u, a, b⟩ := zLt_ex hs
  have hq := zon_lt (zSi_on hs)
  have := hp q u b (zRk_11 (by omega) b)
  omega
theorem zMi_w {g : zG} {s : zSn} {C : Nat} {f : Nat → Nat → Nat → Nat} {m n : Nat} (h : zMi g s C f m n) {r w : Nat} (hr : zon g s r = true) (hw : zmn C (zSR (zSP g s (zTf C f) r) n (gZ g r) 0 m) w) (hc : w < C) : zSi g s r m n (w + 1) := by
  have hs := zMi_so h
  exact zSi_in hr (zSR_mo (fun k i j p _ _ c1 c2 c3 _ e => by
    rcases e with e | ⟨e1, q, e2, e3, e4⟩
    · exact .inl e
    · exact .inr ⟨e1, q, e2, by rw [← e3]; exact hs q i j c1 c2 c3 (by rw [e3]; exact e4)⟩) (hw.2.1 hc))
theorem zMi_u {g : zG} {s : zSn} {C : Nat} {f : Nat → Nat → Nat → Nat} {m n : Nat} (h : zMi g s C f m n) {r w : Nat} (hr : zon g s r = true) (hw : zmn C (zSR (zSP g s (zTf C f) r) n (gZ g r) 0 m) w) (hl : w + 1 < f r m n) : zMi g s C (zu3 f r m n (w + 1)) m n := by
  have hC := (h.2 r).1
  refine ⟨fun q i j a b c e => ?_, fun q => ?_⟩
  · rw [zu3_o f fun x => e x.2]
    exact h.1 q i j a b c e
  · by_cases eq : q = r
    · rw [eq, zu3_s]
      exact ⟨by omega, fun _ => zMi_w h hr hw (by omega)⟩
    · rw [zu3_o f fun x => eq x.1]
      exact h.2 q
theorem zPr_u {g : zG} {s : zSn} {f : Nat → Nat → Nat → Nat} {m n t r v : Nat} (h : zPr g s f m n t) (hl : v ≤ f r m n) : zPr g s (zu3 f r m n v) m n t := fun q u a b => by
  by_cases eq : q = r
  · rw [eq, zu3_s]
    rw [eq] at a
    have := h r u a b
    omega
  · rw [zu3_o f fun x => eq x.1]
    exact h q u a b
theorem zPr_fix {g : zG} {s : zSn} (hg : zwg g) {C : Nat} (hC : 1157627904 < C) {f : Nat → Nat → Nat → Nat} {m n : Nat} (hn : n ≤ 12) (h : zMi g s C f m n) (hf : ∀ r, r < gN g → zM true g s r m n → ∃ w, zmn C (zSR (zSP g s (zTf C f) r) n (gZ g r) 0 m) w ∧ f r m n ≤ w + 1) : ∀ t, zPr g s f m n t
  | 0 => fun _ _ _ q => absurd q (by omega)
  | t + 1 => fun r v a b => by
    obtain ⟨w, w1, w2⟩ := hf r (zon_lt (zSi_on a.1)) (zSi_M a.1)
    have := zPr_w hg hC hn h (zPr_fix hg hC hn h hf t) a b w1
    omega
/-- what is least cannot be made less -/
theorem zPr_no {g : zG} {s : zSn} (hg : zwg g) {C : Nat} {f : Nat → Nat → Nat → Nat} {m n : Nat} (h : zMi g s C f m n) (hp : zPr g s f m n 12) {r w : Nat} (hr : zon g s r = true) (hw : zmn C (zSR (zSP g s (zTf C f) r) n (gZ g r) 0 m) w) : f r m n ≤ w + 1 := by
  by_cases e : w < C
  · exact (zPr_fin hg h hp r).2.2 _ (zMi_w h hr hw e)
  · have := (h.2 r).1
    omega
theorem s_ssettle {g : zG} {s : zSn} {μ : zzM} (h : zc2 g s μ) (hg : zwg g) (hc : cCf true 36 37 38 39 g s μ) (hsl : sL s ≤ 12) (d : Nat) {f : Nat → Nat → Nat → Nat} {D : Nat → Nat → Prop} {m n : Nat} (hm : m ≤ n) (hn : n ≤ sL s) (hD : ∀ i j, m ≤ i → i ≤ j → j ≤ n → D i j) (hZ : cSz g s f D μ) (hM : zMi g s 1152921504606846976 f m n) : zw (zzf zzP zN (d + 5) 88 [.ref 48, .int (nI m), .int (nI n)] μ) fun o => zfr [49, 50, 51] μ o.2 ∧ ∃ f', cSz g s f' D o.2 ∧ (∀ q i j, ¬ (i = m ∧ j = n) → f' q i j = f q i j) ∧ ∀ q, zmn 1152921504606846976 (zSi g s q m n) (f' q m n) := by
  have hgn := g_n hg
  rw [w_sizes_settle, s_rulesAt_36 _ hm (by omega), Option.bind_some]
  have hX : ∀ r, r < 32 → (bt (μ.1 38 (zsp m n)) r = true ↔ zM true g s r m n) := fun r hr => c_ro hc hm hn hsl hr
  show zw (zzl (L88_b zN (d + 4)) zN ([nI m, nI n, μ.1 38 (zsp m n), nI 1, nI 0], [], μ)) _
  generalize μ.1 38 (zsp m n) = X at hX ⊢
  let I : (Nat → Nat → Nat → Nat) → zzM → Prop := fun f' y => zfr [49, 50, 51] μ y ∧ cSz g s f' D y ∧ (∀ q i j, ¬ (i = m ∧ j = n) → f' q i j = f q i j) ∧ zMi g s 1152921504606846976 f' m n
  have hend : ∀ f' y, I f' y → zPr g s f' m n 12 → zfr [49, 50, 51] μ y ∧ ∃ f', cSz g s f' D y ∧ (∀ q i j, ¬ (i = m ∧ j = n) → f' q i j = f q i j) ∧ ∀ q, zmn 1152921504606846976 (zSi g s q m n) (f' q m n) := fun f' y hI hp => ⟨hI.1, f', hI.2.1, hI.2.2.1, zPr_fin hg hI.2.2.2 hp⟩
  refine zl_up (fun i (a : Bool × (Nat → Nat → Nat → Nat) × zzM) => ([nI m, nI n, X, zB a.1, nI i], [], a.2.2)) (fun i a => I a.2.1 a.2.2 ∧ (a.1 = true → i ≤ 12 ∧ zPr g s a.2.1 m n i) ∧ (a.1 = false → zPr g s a.2.1 m n 12)) 0 1000 (true, f, μ) (by omega) (by omega) rfl ⟨⟨zf_refl _ _, hZ, fun _ _ _ _ => rfl, hM⟩, fun _ => ⟨Nat.zero_le _, fun _ _ _ q => absurd q (by omega)⟩, fun q => (by cases q)⟩ ?_ ?_
  · rintro i ⟨b, f1, y⟩ ga - hi ⟨hI, h1, h2⟩ hgo
    simp only at hI h1 h2
    unfold L88_b
    simp only [zI0, zI1, zI2, zI3, zI4, zI5, zI6, zI7, zI8, zJ0, zJ1, zJ2, zMM]
    rw [if_neg (by rw [zq_le (by omega) (by omega)]; omega)]
    simp only [zB_0]
    cases b with
    | false =>
      rw [if_pos rfl]
      exact zw_some (hend f1 y hI (h2 rfl))
    | true =>
      rw [if_neg (by decide)]
      obtain ⟨hi12, hpr⟩ := h1 rfl
      refine zl_up (fun r (a : Bool × (Nat → Nat → Nat → Nat) × zzM) => ([nI m, nI n, X, zB a.1, nI i, nI r], [], a.2.2)) (fun r a => I a.2.1 a.2.2 ∧ zPr g s a.2.1 m n i ∧ (∀ r' v, r' < r → zLt g s r' m n v → zRk g s m n v < i + 1 → a.2.1 r' m n ≤ v) ∧ (i = 12 → a.1 = false) ∧ (a.1 = false → a.2.1 = f1 ∧ ∀ r', r' < r → zM true g s r' m n → ∃ w, zmn 1152921504606846976 (zSR (zSP g s (zTf 1152921504606846976 f1) r') n (gZ g r') 0 m) w ∧ f1 r' m n ≤ w + 1)) 0 (gN g) (false, f1, y) (by omega) (by omega) rfl ⟨hI, hpr, fun r' v q => absurd q (by omega), fun _ => rfl, fun _ => ⟨rfl, fun r' q => absurd q (by omega)⟩⟩ ?_ ?_
      · rintro r ⟨b, f2, z⟩ gb - hr ⟨hI2, j1, j2, j3, j4⟩ hgo2
        simp only at hI2 j1 j2 j3 j4
        obtain ⟨k1, k2, k3, k4⟩ := id hI2
        unfold L88_a
        simp only [zI0, zI1, zI2, zI3, zI4, zI5, zI6, zI7, zI8, zJ0, zJ1, zJ2, zMM]
        rw [c_n (zc2_fr h k1 rfl), if_neg (by rw [zq_le (by omega) (by omega)]; omega)]
        simp (disch := omega) only [b_bit, zq_add]
        cases eb : bt X r with
        | false =>
          rw [if_pos rfl, zB_or0]
          have hno : ¬ zM true g s r m n := fun q => by rw [(hX r (by omega)).2 q] at eb; cases eb
          refine hgo2 (b, f2, z) ⟨hI2, j1, fun r' v q a c => ?_, j3, fun q => ⟨(j4 q).1, fun r' a c => ?_⟩⟩
          · by_cases er : r' = r
            · rw [er] at a
              exact absurd (zSi_M a.1) hno
            · exact j2 r' v (by omega) a c
          · by_cases er : r' = r
            · rw [er] at c
              exact absurd c hno
            · exact (j4 q).2 r' (by omega) c
        | true =>
          rw [if_neg (by decide)]
          have hMr := (hX r (by omega)).1 eb
          have hon := zM_on hMr
          obtain ⟨o, a1, a2, w, a3, a4⟩ := s_shrink (zc2_fr h k1 rfl) hg (cCf_fr hc k1 rfl) hsl d hr hm hn hD k2 (zMi_so k4)
          rw [a1, Option.bind_some]
          have hfo := zf_trans k1 a2
          have hwv : ∀ v, zLt g s r m n v → zRk g s m n v < i + 1 → w + 1 ≤ v := fun v a c => zPr_w hg (by omega) (by omega) k4 j1 a c a3
          rcases a4 with ⟨l1, l2, l3⟩ | ⟨l1, l2, l3⟩
          · rw [l2, if_neg (by decide), zB_or1]
            have hne : ¬ i = 12 := fun q => by
              rw [q] at j1
              have := zPr_no hg k4 j1 hon a3
              omega
            refine hgo2 (true, zu3 f2 r m n (w + 1), o.2) ⟨⟨hfo, l3, fun q i' j' e => (zu3_o f2 fun x => e x.2).trans (k3 q i' j' e), zMi_u k4 hon a3 l1⟩, zPr_u j1 (by omega), fun r' v q a c => ?_, fun q => absurd q hne, fun q => (by cases q)⟩
            by_cases er : r' = r
            · rw [er] at a ⊢
              simp only [zu3_s]
              exact hwv v a c
            · simp only
              rw [zu3_o f2 fun x => er x.1]
              exact j2 r' v (by omega) a c
          · rw [l2, if_pos (by decide), zB_or0]
            refine hgo2 (b, f2, o.2) ⟨⟨hfo, l3, k3, k4⟩, j1, fun r' v q a c => ?_, j3, fun q => ⟨(j4 q).1, fun r' a c => ?_⟩⟩
            · by_cases er : r' = r
              · rw [er] at a ⊢
                have := hwv v a c
                simp only
                omega
              · exact j2 r' v (by omega) a c
            · by_cases er : r' = r
              · rw [er]
                have e := (j4 q).1
                rw [e] at a3 l1
                exact ⟨w, a3, l1⟩
              · exact (j4 q).2 r' (by omega) c
      · rintro ⟨b, f2, z⟩ gb ⟨hI2, j1, j2, j3, j4⟩
        simp only at hI2 j1 j2 j3 j4
        unfold L88_a
        simp only [zI0, zI1, zI2, zI3, zI4, zI5, zI6, zI7, zI8, zJ0, zJ1, zJ2, zMM]
        rw [c_n (zc2_fr h hI2.1 rfl), if_pos (by rw [zq_le (by omega) (by omega)]; omega), zq_add]
        refine hgo (b, f2, z) ⟨hI2, fun q => ⟨?_, fun r' v a c => j2 r' v (zon_lt (zSi_on a.1)) a c⟩, fun q => ?_⟩
        · apply Nat.le_of_not_lt
          intro e
          have := j3 (by omega)
          simp only at q
          rw [this] at q
          cases q
        · obtain ⟨e1, e2⟩ := j4 q
          simp only
          rw [e1]
          have hI3 := hI2.2.2.2
          rw [e1] at hI3
          exact zPr_fix hg (by omega) (by omega) hI3 e2 12
  · rintro ⟨b, f1, y⟩ ga ⟨hI, h1, h2⟩
    simp only at hI h1 h2
    unfold L88_b
    simp only [zI0, zI1, zI2, zI3, zI4, zI5, zI6, zI7, zI8, zJ0, zJ1, zJ2, zMM]
    rw [if_pos (by rw [zq_le (by omega) (by omega)]; omega)]
    cases b with
    | false => exact zw_some (hend f1 y hI (h2 rfl))
    | true => exact absurd (h1 rfl).1 (by omega)
