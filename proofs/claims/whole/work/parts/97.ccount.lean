/-! TREES of the class: numbers with a mark for those without end -/
noncomputable def zen (p : Prop) (a : Nat) : Int64 := if zdc p then lN 1099511627776 else lN (min a zTm)
theorem zif_cg {α : Type} {c c' : Prop} [Decidable c] [Decidable c'] {a b : α} (h : c ↔ c') : (if c then a else b) = if c' then a else b := by
  by_cases e : c
  · rw [if_pos e, if_pos (h.1 e)]
  · rw [if_neg e, if_neg fun q => e (h.2 q)]
theorem zen_cg {p q : Prop} {a b : Nat} (h : p ↔ q) (e : a = b) : zen p a = zen q b := by rw [propext h, e]
theorem zen_t {p : Prop} {a : Nat} (h : p) : zen p a = lN 1099511627776 := by
  unfold zen
  rw [zdc_t.2 h]
  rfl
theorem zen_f {p : Prop} {a : Nat} (h : ¬ p) : zen p a = lN (min a zTm) := by
  unfold zen
  rw [zdc_f.2 h]
  rfl
theorem zmin_le (a : Nat) : min a zTm ≤ 2147483648 := Nat.min_le_right _ _
theorem zen_e {p : Prop} {a : Nat} : (lg_cmp (zen p a) (lN 1099511627776) = 0) ↔ p := by
  rw [lg_cmp_eq]
  by_cases h : p
  · rw [zen_t h]
    exact ⟨fun _ => h, fun _ => rfl⟩
  · rw [zen_f h]
    have := zmin_le a
    rw [pk_lEQ (by omega) (by omega)]
    exact ⟨fun q => by omega, fun q => absurd q h⟩
theorem zen_0 {p : Prop} {a : Nat} : (lg_cmp (zen p a) (lN 0) = 0) ↔ (¬ p ∧ a = 0) := by
  rw [lg_cmp_eq]
  by_cases h : p
  · rw [zen_t h, pk_lEQ (by omega) (by omega)]
    exact ⟨fun q => by omega, fun q => absurd h q.1⟩
  · rw [zen_f h]
    have := zmin_le a
    rw [pk_lEQ (by omega) (by omega)]
    unfold zTm
    constructor
    · intro q
      exact ⟨h, by omega⟩
    · rintro ⟨-, rfl⟩
      rfl
theorem zen_sat {p : Prop} {a : Nat} : zen p (min a zTm) = zen p a := by
  unfold zen
  rw [Nat.min_assoc, Nat.min_self]
theorem s_sum (d : Nat) (p q : Prop) (a b : Nat) (μ : zzM) : zzf zzP zN (d + 1) 77 [.long (zen p a), .long (zen q b)] μ = some ((0, zen (p ∨ q) (a + b), 0), μ) := by
  rw [w_counts_sum]
  unfold J77_a
  by_cases hp : p
  · rw [if_pos (zen_e.2 hp), zen_t (.inl hp)]
  · rw [if_neg (fun q => hp (zen_e.1 q))]
    by_cases hq : q
    · rw [if_pos (zen_e.2 hq), zen_t (.inr hq)]
    · rw [if_neg (fun e => hq (zen_e.1 e)), zen_f hp, zen_f hq, zen_f (fun e => e.elim hp hq), lN_add]
      have h1 := zmin_le a
      have h2 := zmin_le b
      rw [zif_cg (lg_cmp_ge _ _)]
      rw [zif_cg (show lN 2147483648 ≤ lN (min a zTm + min b zTm) ↔ 2147483648 ≤ min a zTm + min b zTm from pk_lLE (by omega) (by omega))]
      unfold zTm at *
      by_cases e : 2147483648 ≤ min a 2147483648 + min b 2147483648
      · rw [if_pos e, show min (a + b) 2147483648 = 2147483648 by omega]
      · rw [if_neg e, show min a 2147483648 + min b 2147483648 = min (a + b) 2147483648 by omega]
theorem zmul_min {a b : Nat} (ha : a ≠ 0) (hb : b ≠ 0) : min (min a zTm * min b zTm) zTm = min (a * b) zTm := by
  unfold zTm
  by_cases h1 : a ≤ 2147483648
  · by_cases h2 : b ≤ 2147483648
    · rw [Nat.min_eq_left h1, Nat.min_eq_left h2]
    · rw [Nat.min_eq_right (show 2147483648 ≤ b by omega), Nat.min_eq_left h1]
      have e1 : 1 * 2147483648 ≤ a * 2147483648 := Nat.mul_le_mul_right _ (by omega)
      have e2 : 1 * b ≤ a * b := Nat.mul_le_mul_right _ (by omega)
      rw [Nat.min_eq_right (by omega), Nat.min_eq_right (by omega)]
  · rw [Nat.min_eq_right (show 2147483648 ≤ a by omega)]
    have e0 : 1 ≤ min b 2147483648 := by omega
    have e1 : 2147483648 * 1 ≤ 2147483648 * min b 2147483648 := Nat.mul_le_mul_left _ e0
    have e2 : a * 1 ≤ a * b := Nat.mul_le_mul_left _ (by omega)
    rw [Nat.min_eq_right (by omega), Nat.min_eq_right (by omega)]
theorem s_prod (d : Nat) (p q : Prop) (a b : Nat) (μ : zzM) : zzf zzP zN (d + 1) 78 [.long (zen p a), .long (zen q b)] μ = some ((0, zen ((p ∧ (q ∨ b ≠ 0)) ∨ (q ∧ (p ∨ a ≠ 0))) (a * b), 0), μ) := by
  rw [w_counts_product]
  unfold J78_a
  by_cases h1 : ¬ p ∧ a = 0
  · rw [if_pos (zen_0.2 h1), zen_f (fun e => e.elim (fun e => h1.1 e.1) (fun e => e.2.elim h1.1 fun f => f h1.2)), h1.2, Nat.zero_mul]
    rfl
  · rw [if_neg (fun e => h1 (zen_0.1 e))]
    by_cases h2 : ¬ q ∧ b = 0
    · rw [if_pos (zen_0.2 h2), zen_f (fun e => e.elim (fun e => e.2.elim h2.1 fun f => f h2.2) (fun e => h2.1 e.1)), h2.2, Nat.mul_zero]
      rfl
    · rw [if_neg (fun e => h2 (zen_0.1 e))]
      have h1' : p ∨ a ≠ 0 := Classical.byContradiction fun e => h1 ⟨fun f => e (.inl f), Classical.byContradiction fun f => e (.inr f)⟩
      have h2' : q ∨ b ≠ 0 := Classical.byContradiction fun e => h2 ⟨fun f => e (.inl f), Classical.byContradiction fun f => e (.inr f)⟩
      by_cases hp : p
      · rw [if_pos (zen_e.2 hp), zen_t (.inl ⟨hp, h2'⟩)]
      · rw [if_neg (fun e => hp (zen_e.1 e))]
        by_cases hq : q
        · rw [if_pos (zen_e.2 hq), zen_t (.inr ⟨hq, h1'⟩)]
        · rw [if_neg (fun e => hq (zen_e.1 e)), zen_f hp, zen_f hq, zen_f (fun e => e.elim (fun e => hp e.1) (fun e => hq e.1)), lN_mul, ← zmul_min (h1'.resolve_left hp) (h2'.resolve_left hq)]
          have b1 := zmin_le a
          have b2 := zmin_le b
          have b3 : min a zTm * min b zTm ≤ 2147483648 * 2147483648 := Nat.mul_le_mul b1 b2
          rw [zif_cg (lg_cmp_ge _ _)]
          rw [zif_cg (show lN 2147483648 ≤ lN (min a zTm * min b zTm) ↔ 2147483648 ≤ min a zTm * min b zTm from pk_lLE (by omega) (by omega))]
          by_cases e : 2147483648 ≤ min a zTm * min b zTm
          · have e' : min (min a zTm * min b zTm) zTm = zTm := Nat.min_eq_right e
            rw [if_pos e, e']
            rfl
          · have e2 : zTm = 2147483648 := rfl
            have e' : min (min a zTm * min b zTm) zTm = min a zTm * min b zTm := Nat.min_eq_left (by omega)
            rw [if_neg e, e']
/-- the numbers that the class holds of parts -/
def cTr (g : zG) (x : Nat → Nat → Nat → Prop) (v : Nat → Nat → Nat → Nat) (D : Nat → Nat → Prop) (μ : zzM) : Prop := ∀ q i j, q < gN g → D i j → i ≤ j → j ≤ 12 → μ.2 46 (q * 91 + zsp i j) = zen (x q i j) (v q i j)
theorem s_howMany {g : zG} {s : zSn} {μ : zzM} (h : zc2 g s μ) (hg : zwg g) (d : Nat) {x : Nat → Nat → Nat → Prop} {v : Nat → Nat → Nat → Nat} {D : Nat → Nat → Prop} (hT : cTr g x v D μ) (B : Int32) {i j : Nat} (hD : D i j) (hi : i ≤ j) (hj : j ≤ 12) : zw (zzf zzP zN (d + 2) 79 [.ref 45, .int B, .int (nI (zsp i j))] μ) fun o => o.2 = μ ∧ o.1.2.1 = zen (∃ q, q < gN g ∧ bt B q = true ∧ x q i j) (zsuM (fun q => if bt B q then v q i j else 0) (gN g)) := by
  have hgn := g_n hg
  have hsp := zsp_lt j (by omega) i (by omega) hi
  rw [w_counts_howMany]
  refine zl_up (fun q (a : Prop × Nat) => ([B, nI (zsp i j), nI q], [zen a.1 a.2], μ)) (fun q a => (a.1 ↔ ∃ q', q' < q ∧ bt B q' = true ∧ x q' i j) ∧ a.2 = zsuM (fun q => if bt B q then v q i j else 0) q) 0 (gN g) (False, 0) (by omega) (by omega) (by rw [zen_f id]; rfl) ⟨⟨fun e => e.elim, fun ⟨q', e, _⟩ => absurd e (by omega)⟩, rfl⟩ ?_ ?_
  · rintro q ⟨p, a⟩ ga - hq ⟨h1, h2⟩ hgo
    simp only at h1 h2
    unfold L79_a
    simp only [zI0, zI1, zI2, zI3, zI4, zI5, zI6, zI7, zI8, zJ0, zJ1, zJ2, zMM]
    rw [c_n h, if_neg (by rw [zq_le (by omega) (by omega)]; omega)]
    simp (disch := omega) only [b_bit, zq_mul, zq_add]
    cases hb : bt B q with
    | false =>
      rw [if_pos rfl]
      refine hgo (p, a) ⟨h1.trans ⟨fun ⟨q', e, f⟩ => ⟨q', by omega, f⟩, fun ⟨q', e, f⟩ => ⟨q', ?_, f⟩⟩, ?_⟩
      · by_cases eq : q' = q
        · rw [eq, hb] at f; cases f.1
        · omega
      · show a = zsuM _ q + (if bt B q then v q i j else 0)
        rw [hb, h2]
        rfl
    | true =>
      rw [if_neg (by decide), zr_l _ _ (by omega) (by omega), Option.bind_some, hT q i j hq hD hi hj, s_sum, Option.bind_some]
      refine hgo (p ∨ x q i j, a + v q i j) ⟨?_, ?_⟩
      · show (p ∨ x q i j) ↔ _
        rw [h1]
        constructor
        · rintro (⟨q', e, f⟩ | e)
          · exact ⟨q', by omega, f⟩
          · exact ⟨q, by omega, hb, e⟩
        · rintro ⟨q', e, f⟩
          by_cases eq : q' = q
          · rw [eq] at f; exact .inr f.2
          · exact .inl ⟨q', by omega, f⟩
      · show a + v q i j = zsuM _ q + (if bt B q then v q i j else 0)
        rw [hb, h2]
        rfl
  · rintro ⟨p, a⟩ ga ⟨h1, h2⟩
    simp only at h1 h2
    unfold L79_a
    simp only [zI0, zI1, zI2, zI3, zI4, zI5, zI6, zI7, zI8, zJ0, zJ1, zJ2, zMM]
    rw [c_n h, if_pos (by rw [zq_le (by omega) (by omega)]; omega)]
    exact zw_some ⟨rfl, zen_cg h1 h2⟩
/-- the mark and the number of what stands at a place over a part -/
theorem s_part {g : zG} {s : zSn} {μ : zzM} (h : zc2 g s μ) (hg : zwg g) (hc : cCf true 36 37 38 39 g s μ) (hsl : sL s ≤ 12) (d : Nat) {x : Nat → Nat → Nat → Prop} {v : Nat → Nat → Nat → Nat} {D : Nat → Nat → Prop} (hT : cTr g x v D μ) {r k i j : Nat} (hr : r < gN g) (hk : k < gZ g r) (hD : D i j) (hsu : zSu g s v i j) (hi : i ≤ j) (hj : j ≤ sL s) (hcap : 26 ≤ gS g r k) : ∃ o1 o3 : zzR, zzf zzP zN (d + 3) 55 [.ref 36, .int (nI r), .int (nI k), .int (nI i), .int (nI j)] μ = some o1 ∧ o1.2 = μ ∧ zzf zzP zN (d + 3) 79 [.ref 45, .int o1.1.1, .int (nI (zsp i j))] μ = some o3 ∧ o3.2 = μ ∧ o3.1.2.1 = zen (zxb g s x r k i j) (zwn g s v r k i j) := by
  obtain ⟨o, e1, e2, e3⟩ := s_below hg hc hsl (d + 1) hr hk hi hj
  obtain ⟨o', f0, f1, f2⟩ := s_howMany h hg (d + 1) hT o.1.1 hD hi (by omega)
  refine ⟨o, o', e1, e2, f0, f1, ?_⟩
  have hgn := g_n hg
  unfold zwn
  rw [f2, if_neg (by omega), zen_sat]
  refine zen_cg ⟨?_, ?_⟩ (zsuM_cg fun q hq => ?_)
  · rintro ⟨q, a, b, c⟩
    obtain ⟨f3, f4⟩ := (e3 q (by omega)).1 b
    exact ⟨q, f4, f3, c⟩
  · rintro ⟨q, a, b, c⟩
    have := zM_lt b
    exact ⟨q, this, (e3 q (by omega)).2 ⟨b, a⟩, c⟩
  · have h3 := e3 q (by omega)
    cases hb : bt o.1.1 q with
    | true =>
      rw [(h3.1 hb).2]
    | false =>
      cases hbl : zbl true g s r k q with
      | false => rfl
      | true =>
        have : ¬ zM true g s q i j := fun e => by rw [h3.2 ⟨e, hbl⟩] at hb; cases hb
        have : v q i j = 0 := Classical.byContradiction fun e => this (hsu q hq e)
        rw [this]
        rfl
