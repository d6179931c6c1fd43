/-! the nodes of the forest counted by the class -/
theorem s_min (d : Nat) {a b : Nat} (ha : a < 2147483648) (hb : b < 2147483648) (μ : zzM) : zzf zzP zN (d + 1) 1 [.int (nI a), .int (nI b)] μ = some ((nI (if a ≤ b then a else b), 0, 0), μ) := by
  show some ((if nI b < nI a then nI b else nI a, 0, 0), μ) = _
  by_cases e : a ≤ b
  · rw [if_pos e, if_neg (by rw [zq_lt (by omega) (by omega)]; omega)]
  · rw [if_neg e, if_pos (by rw [zq_lt (by omega) (by omega)]; omega)]
def zNd (g : zG) (s : zSn) (c i j : Nat) : Prop := ∃ q, q < gN g ∧ gL g q = 26 + c ∧ zPi g s q i j
noncomputable def zWn (g : zG) (s : zSn) (c i j : Nat) : Nat := zsuM (fun q => if zdc (gL g q = 26 + c ∧ zPi g s q i j) then zWays g s q i j else 0) (gN g)
def zAm (g : zG) (s : zSn) (c i j : Nat) : Prop := 1 < zWn g s c i j
theorem zAm_nd {g : zG} {s : zSn} {c i j : Nat} (h : zAm g s c i j) : zNd g s c i j := by
  obtain ⟨q, hq, e⟩ := zsuM_ne (f := fun q => if zdc (gL g q = 26 + c ∧ zPi g s q i j) then zWays g s q i j else 0) (n := gN g) (by have : 1 < zsuM _ _ := h; omega)
  cases e1 : zdc (gL g q = 26 + c ∧ zPi g s q i j) with
  | true => exact ⟨q, hq, (zdc_t.1 e1).1, (zdc_t.1 e1).2⟩
  | false => simp only [e1] at e; exact absurd rfl e
theorem zWays_b {g : zG} {s : zSn} (hg : zwg g) (hsl : sL s ≤ 12) {q i j : Nat} (hq : q < gN g) (hj : j ≤ sL s) : zWays g s q i j ≤ 28561 := by
  unfold zWays
  split
  · exact zWy_b (g_z hg hq) (by omega)
  · omega
theorem zWn_b {g : zG} {s : zSn} (hg : zwg g) (hsl : sL s ≤ 12) {c i j : Nat} (hj : j ≤ sL s) {n : Nat} (hn : n ≤ gN g) : zsuM (fun q => if zdc (gL g q = 26 + c ∧ zPi g s q i j) then zWays g s q i j else 0) n ≤ n * 28561 := by
  refine zsuM_mul fun q hq => ?_
  split
  · exact zWays_b hg hsl (by omega) hj
  · omega
theorem s_isAmb {g : zG} {s : zSn} {μ : zzM} (h : zc2 g s μ) (hg : zwg g) (hc : cCf true 36 37 38 39 g s μ) (hsl : sL s ≤ 12) (d : Nat) {c m n : Nat} (hm : m ≤ n) (hn : n ≤ sL s) {X : Int32} (hX : ∀ q, q < 32 → (bt X q = true ↔ gL g q = 26 + c ∧ zPi g s q m n)) : zw (zzf zzP zN (d + 4) 104 [.ref 52, .int X, .int (nI m), .int (nI n)] μ) fun o => zfr [40] μ o.2 ∧ o.1.1 = zB (zdc (zAm g s c m n)) := by
  have hgn := g_n hg
  rw [w_forest_isAmbiguous]
  refine zl_up (fun q (a : Nat × zzM) => ([X, nI m, nI n, nI a.1, nI q], [], a.2)) (fun q a => zfr [40] μ a.2 ∧ a.1 = zsuM (fun q => if zdc (gL g q = 26 + c ∧ zPi g s q m n) then zWays g s q m n else 0) q) 0 (gN g) (0, μ) (by omega) (by omega) rfl ⟨zf_refl _ _, rfl⟩ ?_ ?_
  · rintro q ⟨a, z⟩ ga - hq ⟨i1, i2⟩ hgo
    simp only at i1 i2
    have hz := zc2_fr h i1 rfl
    have hcz := cCf_fr hc i1 rfl
    unfold L104_a
    simp only [zI0, zI1, zI2, zI3, zI4, zI5, zI6, zI7, zI8, zJ0, zJ1, zJ2, zMM]
    rw [c_n hz, if_neg (by rw [zq_le (by omega) (by omega)]; omega)]
    simp (disch := omega) only [b_bit, zq_add]
    cases e : bt X q with
    | false =>
      rw [if_pos rfl]
      refine hgo (a, z) ⟨i1, ?_⟩
      show a = zsuM _ q + (if zdc (gL g q = 26 + c ∧ zPi g s q m n) then zWays g s q m n else 0)
      rw [zdc_f.2 (show ¬ (gL g q = 26 + c ∧ zPi g s q m n) from fun f => by rw [(hX q (by omega)).2 f] at e; cases e), ← i2]
      rfl
    | true =>
      rw [if_neg (by decide)]
      obtain ⟨o1, a1, a2, a3⟩ := s_ways hz hg hcz hsl d hq hm hn
      rw [a1, Option.bind_some, a3, zq_add]
      refine hgo (_, o1.2) ⟨zf_trans i1 a2, ?_⟩
      show a + zWays g s q m n = zsuM _ q + (if zdc (gL g q = 26 + c ∧ zPi g s q m n) then zWays g s q m n else 0)
      rw [zdc_t.2 ((hX q (by omega)).1 e), ← i2]
      rfl
  · rintro ⟨a, z⟩ ga ⟨i1, i2⟩
    simp only at i1 i2
    have hz := zc2_fr h i1 rfl
    have hb := zWn_b hg hsl (c := c) (i := m) hn (Nat.le_refl (gN g))
    unfold L104_a
    simp only [zI0, zI1, zI2, zI3, zI4, zI5, zI6, zI7, zI8, zJ0, zJ1, zJ2, zMM]
    rw [c_n hz, if_pos (by rw [zq_le (by omega) (by omega)]; omega)]
    simp only [zk_0, zk_1, if_true]
    by_cases e : a ≤ 1
    · rw [if_pos (by rw [zq_le (by omega) (by omega)]; omega)]
      refine zw_some ⟨i1, ?_⟩
      rw [zdc_f.2 (show ¬ zAm g s c m n from fun f => by have f : 1 < zsuM _ _ := f; omega)]
      rfl
    · rw [if_neg (by rw [zq_le (by omega) (by omega)]; omega)]
      refine zw_some ⟨i1, ?_⟩
      rw [zdc_t.2 (show zAm g s c m n by show 1 < zsuM _ _; omega)]
      rfl
/-- the width of a node's place -/
def zWi (p : Nat) : Nat := p % 13 - p % 169 / 13
def zNr (D : Nat → Prop) (v : Int32) : Prop := (v = -(nI 2) ∧ ∀ p, p < 4394 → ¬ D p) ∨ ∃ w, w < 13 ∧ v = nI w ∧ (∃ p, p < 4394 ∧ D p ∧ zWi p = w) ∧ ∀ p, p < 4394 → D p → w ≤ zWi p
def zNp (g : zG) (s : zSn) (p : Nat) : Prop := zNd g s (p / 169) (p % 169 / 13) (p % 13)
def zAp (g : zG) (s : zSn) (p : Nat) : Prop := zAm g s (p / 169) (p % 169 / 13) (p % 13)
def zT (g : zG) (s : zSn) (V : Nat → Prop) (n a : Nat) (v : Int32) : Prop := n = zcnt (fun p => zdc (V p ∧ zNp g s p)) 4394 ∧ a = zcnt (fun p => zdc (V p ∧ zAp g s p)) 4394 ∧ zNr (fun p => V p ∧ zAp g s p) v
theorem zNr_cg {D D' : Nat → Prop} {v : Int32} (h : ∀ p, p < 4394 → (D p ↔ D' p)) (hv : zNr D v) : zNr D' v := by
  rcases hv with ⟨a, b⟩ | ⟨w, a, b, ⟨p, c, e, f⟩, k⟩
  · exact .inl ⟨a, fun p hp q => b p hp ((h p hp).2 q)⟩
  · exact .inr ⟨w, a, b, ⟨p, c, (h p c).1 e, f⟩, fun p hp q => k p hp ((h p hp).2 q)⟩
theorem zT_cg {g : zG} {s : zSn} {V V' : Nat → Prop} {n a : Nat} {v : Int32} (h : ∀ p, p < 4394 → zNp g s p → (V p ↔ V' p)) (hv : zT g s V n a v) : zT g s V' n a v := by
  refine ⟨?_, ?_, ?_⟩
  · rw [hv.1]
    exact zcnt_cg fun p hp => zdc_cg ⟨fun q => ⟨(h p hp q.2).1 q.1, q.2⟩, fun q => ⟨(h p hp q.2).2 q.1, q.2⟩⟩
  · rw [hv.2.1]
    exact zcnt_cg fun p hp => zdc_cg ⟨fun q => ⟨(h p hp (zAm_nd q.2)).1 q.1, q.2⟩, fun q => ⟨(h p hp (zAm_nd q.2)).2 q.1, q.2⟩⟩
  · exact zNr_cg (fun p hp => ⟨fun q => ⟨(h p hp (zAm_nd q.2)).1 q.1, q.2⟩, fun q => ⟨(h p hp (zAm_nd q.2)).2 q.1, q.2⟩⟩) hv.2.2
theorem zm2v : ∀ w, w < 13 → ¬ nI w = -(nI 2) := by decide +kernel
theorem zT_n {g : zG} {s : zSn} {V : Nat → Prop} {n a p : Nat} {v : Int32} (hp : p < 4394) (hV : ¬ V p) (h1 : zNp g s p) (h2 : ¬ zAp g s p) (hv : zT g s V n a v) : zT g s (fun x => V x ∨ x = p) (n + 1) a v := by
  refine ⟨?_, ?_, ?_⟩
  · rw [hv.1]
    exact (zcnt_1 hp (zdc_f.2 fun q => hV q.1) (zdc_t.2 ⟨.inr rfl, h1⟩) fun i hi e => zdc_cg ⟨fun q => ⟨q.1.resolve_right e, q.2⟩, fun q => ⟨.inl q.1, q.2⟩⟩).symm
  · rw [hv.2.1]
    exact zcnt_cg fun i hi => zdc_cg ⟨fun q => ⟨.inl q.1, q.2⟩, fun q => ⟨q.1.resolve_right fun e => h2 (e ▸ q.2), q.2⟩⟩
  · exact zNr_cg (fun i hi => ⟨fun q => ⟨.inl q.1, q.2⟩, fun q => ⟨q.1.resolve_right fun e => h2 (e ▸ q.2), q.2⟩⟩) hv.2.2
theorem zT_a {g : zG} {s : zSn} {V : Nat → Prop} {n a p : Nat} {v v' : Int32} (hp : p < 4394) (hV : ¬ V p) (h2 : zAp g s p) (hv : zT g s V n a v) (hl : zWi p < 13) (hv1 : v = -(nI 2) → v' = nI (zWi p)) (hv2 : ∀ w, w < 13 → v = nI w → v' = nI (if w ≤ zWi p then w else zWi p)) : zT g s (fun x => V x ∨ x = p) (n + 1) (a + 1) v' := by
  refine ⟨?_, ?_, ?_⟩
  · rw [hv.1]
    exact (zcnt_1 hp (zdc_f.2 fun q => hV q.1) (zdc_t.2 ⟨.inr rfl, zAm_nd h2⟩) fun i hi e => zdc_cg ⟨fun q => ⟨q.1.resolve_right e, q.2⟩, fun q => ⟨.inl q.1, q.2⟩⟩).symm
  · rw [hv.2.1]
    exact (zcnt_1 hp (zdc_f.2 fun q => hV q.1) (zdc_t.2 ⟨.inr rfl, h2⟩) fun i hi e => zdc_cg ⟨fun q => ⟨q.1.resolve_right e, q.2⟩, fun q => ⟨.inl q.1, q.2⟩⟩).symm
  · rcases hv.2.2 with ⟨b1, b2⟩ | ⟨w, b1, b2, ⟨p', b3, b4, b5⟩, b6⟩
    · refine .inr ⟨zWi p, hl, hv1 b1, ⟨p, hp, ⟨.inr rfl, h2⟩, rfl⟩, fun i hi q => ?_⟩
      rcases q.1 with e | e
      · exact absurd ⟨e, q.2⟩ (b2 i hi)
      · rw [e]; exact Nat.le_refl _
    · have hv' := hv2 w b1 b2
      by_cases e : w ≤ zWi p
      · rw [if_pos e] at hv'
        refine .inr ⟨w, b1, hv', ⟨p', b3, ⟨.inl b4.1, b4.2⟩, b5⟩, fun i hi q => ?_⟩
        rcases q.1 with e' | e'
        · exact b6 i hi ⟨e', q.2⟩
        · rw [e']; exact e
      · rw [if_neg e] at hv'
        refine .inr ⟨zWi p, hl, hv', ⟨p, hp, ⟨.inr rfl, h2⟩, rfl⟩, fun i hi q => ?_⟩
        rcases q.1 with e' | e'
        · have := b6 i hi ⟨e', q.2⟩
          omega
        · rw [e']; exact Nat.le_refl _
theorem zNr_un {D : Nat → Prop} {v v' : Int32} (h : zNr D v) (h' : zNr D v') : v = v' := by
  rcases h with ⟨a, b⟩ | ⟨w, a, b, ⟨p, c, e, f⟩, k⟩ <;> rcases h' with ⟨a', b'⟩ | ⟨w', a', b', ⟨p', c', e', f'⟩, k'⟩
  · rw [a, a']
  · exact absurd e' (b p' c')
  · exact absurd e (b' p c)
  · have h1 := k p' c' e'
    have h2 := k' p c e
    have : w = w' := by omega
    rw [b, b', this]
theorem zT_un {g : zG} {s : zSn} {V : Nat → Prop} {n a n' a' : Nat} {v v' : Int32} (h : zT g s V n a v) (h' : zT g s V n' a' v') : n = n' ∧ a = a' ∧ v = v' := ⟨h.1.trans h'.1.symm, h.2.1.trans h'.2.1.symm, zNr_un h.2.2 h'.2.2⟩
theorem zT_lt {g : zG} {s : zSn} {V : Nat → Prop} {n a : Nat} {v : Int32} (h : zT g s V n a v) : n ≤ 4394 ∧ a ≤ 4394 := ⟨by rw [h.1]; exact zcnt_le _ _, by rw [h.2.1]; exact zcnt_le _ _⟩
theorem zT_0 (g : zG) (s : zSn) : zT g s (fun _ => False) 0 0 (-(nI 2)) := ⟨(zcnt_0 fun p _ => zdc_f.2 fun q => q.1).symm, (zcnt_0 fun p _ => zdc_f.2 fun q => q.1).symm, .inl ⟨rfl, fun p _ q => q.1⟩⟩
