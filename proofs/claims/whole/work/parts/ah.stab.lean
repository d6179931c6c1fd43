/-! tables of least values with a cap -/
def zmn (C : Nat) (S : Nat → Prop) (x : Nat) : Prop := x ≤ C ∧ (x < C → S x) ∧ ∀ p, S p → x ≤ p
def zTf (C : Nat) (f : Nat → Nat → Nat → Nat) (q i j p : Nat) : Prop := f q i j = p ∧ p < C
theorem zmn_un {C : Nat} {S : Nat → Prop} {x y : Nat} (h : zmn C S x) (h' : zmn C S y) : x = y := by
  by_cases hx : x < C
  · have h1 := h'.2.2 x (h.2.1 hx)
    by_cases hy : y < C
    · have h2 := h.2.2 y (h'.2.1 hy)
      omega
    · have := h'.1
      omega
  · by_cases hy : y < C
    · have h2 := h.2.2 y (h'.2.1 hy)
      omega
    · have := h.1
      have := h'.1
      omega
theorem zmn_cg {C : Nat} {S S' : Nat → Prop} {x : Nat} (h : ∀ p, S p ↔ S' p) (hx : zmn C S x) : zmn C S' x := ⟨hx.1, fun e => (h x).1 (hx.2.1 e), fun p hp => hx.2.2 p ((h p).2 hp)⟩
theorem zmn_C {C : Nat} {S : Nat → Prop} (h : ∀ p, S p → C ≤ p) : zmn C S C := ⟨Nat.le_refl _, fun e => absurd e (Nat.lt_irrefl _), h⟩
theorem zmn_0 {C : Nat} {S : Nat → Prop} (h : S 0) : zmn C S 0 := ⟨Nat.zero_le _, fun _ => h, fun _ _ => Nat.zero_le _⟩
/-- one more sum -/
theorem zmn_s {C : Nat} {A P R A' : Nat → Prop} {x p w : Nat} (hA : zmn C A x) (hP : zmn C P p) (hR : zmn C R w) (h1 : ∀ v, A v → A' v) (h2 : ∀ a b, P a → R b → A' (a + b)) (h3 : ∀ v, A' v → A v ∨ ∃ a b, P a ∧ R b ∧ v = a + b) : zmn C A' (if x ≤ w + p then x else w + p) := by
  by_cases e : x ≤ w + p
  · rw [if_pos e]
    refine ⟨hA.1, fun f => h1 _ (hA.2.1 f), fun v hv => ?_⟩
    rcases h3 v hv with q | ⟨a, b, qa, qb, rfl⟩
    · exact hA.2.2 v q
    · have := hP.2.2 a qa
      have := hR.2.2 b qb
      omega
  · rw [if_neg e]
    have := hA.1
    refine ⟨by omega, fun f => ?_, fun v hv => ?_⟩
    · rw [Nat.add_comm]
      exact h2 p w (hP.2.1 (by omega)) (hR.2.1 (by omega))
    · rcases h3 v hv with q | ⟨a, b, qa, qb, rfl⟩
      · have := hA.2.2 v q
        omega
      · have := hP.2.2 a qa
        have := hR.2.2 b qb
        omega
theorem s_minL (d : Nat) {a b : Nat} (ha : a < 2 ^ 63) (hb : b < 2 ^ 63) (μ : zzM) : zzf zzP zN (d + 1) 2 [.long (lN a), .long (lN b)] μ = some ((0, lN (if a ≤ b then a else b), 0), μ) := by
  show some ((0, if lN b < lN a then lN b else lN a, 0), μ) = _
  by_cases e : a ≤ b
  · rw [if_pos e, if_neg (by rw [pk_lLT hb ha]; omega)]
  · rw [if_neg e, if_pos (by rw [pk_lLT hb ha]; omega)]
/-- the parts from m to n stand, by f -/
def cPt (g : zG) (s : zSn) (f : Nat → Nat → Nat → Nat) (m n : Nat) (μ : zzM) : Prop := ∀ r k i j, r < gN g → k < gZ g r → m ≤ i → i ≤ j → j ≤ n → ∃ x, μ.2 50 ((r * 4 + k) * 91 + zsp i j) = lN x ∧ zmn 1152921504606846976 (zSP g s (zTf 1152921504606846976 f) r k i j) x
def zSo (g : zG) (s : zSn) (C : Nat) (f : Nat → Nat → Nat → Nat) (m n : Nat) : Prop := ∀ q i j, m ≤ i → i ≤ j → j ≤ n → f q i j < C → zSi g s q i j (f q i j)
theorem zSP_CB {g : zG} {s : zSn} {C : Nat} {f : Nat → Nat → Nat → Nat} {m n : Nat} (h : zSo g s C f m n) {r k i j p : Nat} (hm : m ≤ i) (hi : i ≤ j) (hj : j ≤ n) (hp : zSP g s (zTf C f) r k i j p) : zCB true g s (zM true g s) r k i j := by
  rcases hp with ⟨a, b, c, -⟩ | ⟨a, q, b, c⟩
  · exact .inl ⟨a, b, c⟩
  · exact .inr ⟨a, q, b, zSi_M (h q i j hm hi hj (by rw [c.1]; exact c.2))⟩
theorem s_restFrom {g : zG} {s : zSn} {μ : zzM} (hg : zwg g) (hc : cCf true 36 37 38 39 g s μ) (hsl : sL s ≤ 12) (d : Nat) {f : Nat → Nat → Nat → Nat} {r k m i n e : Nat} (hr : r < gN g) (hk : k < gZ g r) (hm : m ≤ i) (hi : i ≤ n) (hn : n ≤ sL s) (hP : cPt g s f m n μ) (hS : zSo g s 1152921504606846976 f m n) (hR : ∀ j, i ≤ j → j ≤ n → ∃ y, μ.2 51 ((k + 1) * 13 + j) = lN y ∧ zmn 1152921504606846976 (zSR (zSP g s (zTf 1152921504606846976 f) r) n e (k + 1) j) y) : zw (zzf zzP zN (d + 2) 92 [.ref 48, .int (nI r), .int (nI k), .int (nI i), .int (nI n)] μ) fun o => o.2 = μ ∧ ∃ x, o.1.2.1 = lN x ∧ zmn 1152921504606846976 (zSR (zSP g s (zTf 1152921504606846976 f) r) n (e + 1) k i) x := by
  have hgn := g_n hg
  have hz := g_z hg hr
  rw [w_sizes_restFrom]
  obtain ⟨o, e1, e2, e3⟩ := s_endsOf hg hc hsl d hr hk hi hn
  rw [e1, Option.bind_some, e2]
  simp only [zq_mul, zq_add]
  have hem : ∀ j p, i ≤ j → j ≤ n → zSP g s (zTf 1152921504606846976 f) r k i j p → bt o.1.1 j = true := fun j p a b q => (e3 j (by omega)).2 ⟨a, b, zSP_CB hS hm a b q⟩
  generalize o.1.1 = X at e3 hem
  let A : Nat → Nat → Prop := fun J v => ∃ j p w, i ≤ j ∧ j < J ∧ j ≤ n ∧ zSP g s (zTf 1152921504606846976 f) r k i j p ∧ zSR (zSP g s (zTf 1152921504606846976 f) r) n e (k + 1) j w ∧ v = p + w
  have hend : ∀ J x, (∀ j p, J ≤ j → i ≤ j → j ≤ n → ¬ zSP g s (zTf 1152921504606846976 f) r k i j p) → zmn 1152921504606846976 (A J) x → zmn 1152921504606846976 (zSR (zSP g s (zTf 1152921504606846976 f) r) n (e + 1) k i) x := fun J x hno hx => zmn_cg (fun v => ⟨fun ⟨j, p, w, a1, a2, a3, a4, a5, a6⟩ => ⟨j, p, w, a1, a3, a4, a5, a6⟩, fun ⟨j, p, w, a1, a3, a4, a5, a6⟩ => ⟨j, p, w, a1, Nat.lt_of_not_le fun q => hno j p q a1 a3 a4, a3, a4, a5, a6⟩⟩) hx
  refine zl_up (fun j (x : Nat) => ([nI k, nI i, nI n, nI ((r * 4 + k) * 91), X, nI j], [lN x], μ)) (fun j x => zmn 1152921504606846976 (A j) x) i (n + 1) 1152921504606846976 (by omega) (by omega) rfl (zmn_C fun p ⟨j, _, _, a, b, _⟩ => absurd a (by omega)) ?_ ?_
  · rintro j x ga hij hj hx hgo
    unfold L92_a
    simp only [zI0, zI1, zI2, zI3, zI4, zI5, zI6, zI7, zI8, zJ0, zJ1, zJ2, zMM]
    rw [if_neg (by rw [zq_lt (by omega) (by omega)]; omega)]
    by_cases e0 : (X >>> (nI j &&& 31)) = 0
    · rw [if_pos e0]
      refine zw_some ⟨rfl, x, rfl, hend j x (fun j' p a b c q => ?_) hx⟩
      have h1 := hem j' p b c q
      rw [(b_shr0 (by omega)).1 e0 j' a (by omega)] at h1
      cases h1
    · rw [if_neg e0]
      simp (disch := omega) only [b_bit, zq_add, zq_mul]
      cases eb : bt X j with
      | false =>
        rw [if_pos rfl]
        refine hgo x (zmn_cg (fun v => ⟨fun ⟨j', p, w, a1, a2, a3⟩ => ⟨j', p, w, a1, by omega, a3⟩, fun ⟨j', p, w, a1, a2, a3, a4, a5⟩ => ⟨j', p, w, a1, ?_, a3, a4, a5⟩⟩) hx)
        apply Nat.lt_of_not_le
        intro f
        obtain rfl : j' = j := by omega
        rw [hem j' p a1 a3 a4] at eb
        cases eb
      | true =>
        rw [if_neg (by decide)]
        obtain ⟨y, y1, y2⟩ := hR j hij (by omega)
        obtain ⟨p, p1, p2⟩ := hP r k i j hr hk hm hij (by omega)
        have hsp := zsp_lt j (by omega) i (by omega) hij
        have hx1 := hx.1
        have hy1 := y2.1
        have hp1 := p2.1
        rw [zr_l _ _ (by omega) (by omega), y1, Option.bind_some, s_zsp _ hij (by omega), Option.bind_some]
        show zw ((zzrl μ 50 4368 (nI ((r * 4 + k) * 91) + nI (zsp i j))).bind _) _
        rw [zq_add, zr_l _ _ (by omega) (by omega), p1, Option.bind_some, lN_add, s_minL _ (by omega) (by omega), Option.bind_some]
        refine hgo _ (zmn_s hx p2 y2 ?_ ?_ ?_)
        · rintro v ⟨j', p', w, a1, a2, a3⟩
          exact ⟨j', p', w, a1, by omega, a3⟩
        · intro a b ha hb
          exact ⟨j, a, b, hij, by omega, by omega, ha, hb, rfl⟩
        · rintro v ⟨j', p', w, a1, a2, a3, a4, a5, a6⟩
          by_cases ej : j' = j
          · rw [ej] at a4 a5
            exact .inr ⟨p', w, a4, a5, a6⟩
          · exact .inl ⟨j', p', w, a1, by omega, a3, a4, a5, a6⟩
  · rintro x ga hx
    unfold L92_a
    simp only [zI0, zI1, zI2, zI3, zI4, zI5, zI6, zI7, zI8, zJ0, zJ1, zJ2, zMM]
    rw [if_pos (by rw [zq_lt (by omega) (by omega)]; omega)]
    exact zw_some ⟨rfl, x, rfl, hend _ x (fun j' p a b c _ => by omega) hx⟩
