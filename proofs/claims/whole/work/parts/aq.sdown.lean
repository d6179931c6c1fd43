/-! THE DESCENT in the smallest tree -/
def zPm (g : zG) (s : zSn) (r k i j x : Nat) : Prop := zSP g s (zSi g s) r k i j x ∧ ∀ p, zSP g s (zSi g s) r k i j p → x ≤ p
def zRm (g : zG) (s : zSn) (r n k i x : Nat) : Prop := zSR (zSP g s (zSi g s) r) n (gZ g r - k) k i x ∧ ∀ p, zSR (zSP g s (zSi g s) r) n (gZ g r - k) k i p → x ≤ p
theorem zPm_un {g : zG} {s : zSn} {r k i j x y : Nat} (h : zPm g s r k i j x) (h' : zPm g s r k i j y) : x = y := Nat.le_antisymm (h.2 y h'.1) (h'.2 x h.1)
theorem zRm_un {g : zG} {s : zSn} {r n k i x y : Nat} (h : zRm g s r n k i x) (h' : zRm g s r n k i y) : x = y := Nat.le_antisymm (h.2 y h'.1) (h'.2 x h.1)
/-- a table of the least sizes from m to n -/
def zFt (g : zG) (s : zSn) (C : Nat) (f : Nat → Nat → Nat → Nat) (m n : Nat) : Prop := ∀ q i j, m ≤ i → i ≤ j → j ≤ n → zmn C (zSi g s q i j) (f q i j)
theorem zFt_a {g : zG} {s : zSn} {C : Nat} {f : Nat → Nat → Nat → Nat} {m n : Nat} (h : zFt g s C f m n) {r k i j p : Nat} (hm : m ≤ i) (hi : i ≤ j) (hj : j ≤ n) (hp : zSP g s (zTf C f) r k i j p) : zSP g s (zSi g s) r k i j p := by
  rcases hp with hp | ⟨a, q, b, c, e⟩
  · exact .inl hp
  · exact .inr ⟨a, q, b, by rw [← c]; exact (h q i j hm hi hj).2.1 (by omega)⟩
theorem zFt_lt {g : zG} {s : zSn} (hg : zwg g) {C : Nat} (hC : 1157627904 < C) {f : Nat → Nat → Nat → Nat} {m n : Nat} (hn : n ≤ 12) (h : zFt g s C f m n) {q i j v : Nat} (hm : m ≤ i) (hi : i ≤ j) (hj : j ≤ n) : zLt g s q i j v ↔ f q i j = v ∧ v < C := by
  constructor
  · intro e
    have hb := zLt_b hg (by omega) e
    have h1 := (h q i j hm hi hj).2.2 v e.1
    have h2 := e.2 _ ((h q i j hm hi hj).2.1 (by omega))
    omega
  · rintro ⟨a, b⟩
    rw [← a]
    exact ⟨(h q i j hm hi hj).2.1 (by omega), (h q i j hm hi hj).2.2⟩
theorem zFt_b {g : zG} {s : zSn} (hg : zwg g) {C : Nat} (hC : 1157627904 < C) {f : Nat → Nat → Nat → Nat} {m n : Nat} (hn : n ≤ 12) (h : zFt g s C f m n) {r k i j p : Nat} (hm : m ≤ i) (hi : i ≤ j) (hj : j ≤ n) (hp : zSP g s (zSi g s) r k i j p) : ∃ p', p' ≤ p ∧ zSP g s (zTf C f) r k i j p' ∧ p' < C := by
  rcases hp with hp | ⟨a, q, b, c⟩
  · exact ⟨p, Nat.le_refl _, .inl hp, by omega⟩
  · obtain ⟨u, u1, u2⟩ := zLt_ex c
    have := (zFt_lt hg hC hn h hm hi hj).1 u2
    exact ⟨u, u1, .inr ⟨a, q, b, this⟩, this.2⟩
theorem zP_iff {g : zG} {s : zSn} (hg : zwg g) {C : Nat} (hC : 1157627904 < C) {f : Nat → Nat → Nat → Nat} {m n : Nat} (hn : n ≤ 12) (h : zFt g s C f m n) {r k i j x : Nat} (hm : m ≤ i) (hi : i ≤ j) (hj : j ≤ n) (hx : zmn C (zSP g s (zTf C f) r k i j) x) (y : Nat) : zPm g s r k i j y ↔ x = y ∧ y < C := by
  have key : x < C → zPm g s r k i j x := fun e => ⟨zFt_a h hm hi hj (hx.2.1 e), fun p hp => by
    obtain ⟨p', a, b, -⟩ := zFt_b hg hC hn h hm hi hj hp
    have := hx.2.2 p' b
    omega⟩
  constructor
  · intro e
    obtain ⟨p', a, b, c⟩ := zFt_b hg hC hn h hm hi hj e.1
    have h1 := hx.2.2 p' b
    have h2 := zPm_un (key (by omega)) e
    omega
  · rintro ⟨rfl, b⟩
    exact key b
theorem zR_iff {g : zG} {s : zSn} (hg : zwg g) {C : Nat} (hC : 1157627904 < C) {f : Nat → Nat → Nat → Nat} {m n : Nat} (hn : n ≤ 12) (h : zFt g s C f m n) {r k i x : Nat} (hm : m ≤ i) (hx : zmn C (zSR (zSP g s (zTf C f) r) n (gZ g r - k) k i) x) (y : Nat) (hy : y < C) : zRm g s r n k i y ↔ x = y := by
  have up : ∀ p, zSR (zSP g s (zSi g s) r) n (gZ g r - k) k i p → ∃ p', p' ≤ p ∧ zSR (zSP g s (zTf C f) r) n (gZ g r - k) k i p' := fun p hp => zSR_le (fun k' i' j' p' _ _ c1 c2 c3 _ e => by
    obtain ⟨p'', a, b, -⟩ := zFt_b hg hC hn h (by omega) c2 c3 e
    exact ⟨p'', a, b⟩) hp
  have key : x < C → zRm g s r n k i x := fun e => ⟨zSR_mo (fun k' i' j' p' _ _ c1 c2 c3 _ e => zFt_a h (by omega) c2 c3 e) (hx.2.1 e), fun p hp => by
    obtain ⟨p', a, b⟩ := up p hp
    have := hx.2.2 p' b
    omega⟩
  constructor
  · intro e
    obtain ⟨p', a, b⟩ := up y e.1
    have h1 := hx.2.2 p' b
    exact zRm_un (key (by omega)) e
  · rintro rfl
    exact key hy
/-- the end of place k that comes first in a smallest tree -/
def zEo (g : zG) (s : zSn) (r n k i R e : Nat) : Prop := ∃ a b, zPm g s r k i e a ∧ zRm g s r n (k + 1) e b ∧ a + b = R
def zFe (g : zG) (s : zSn) (r n k i R e : Nat) : Prop := i ≤ e ∧ e ≤ n ∧ zEo g s r n k i R e ∧ ∀ e', i ≤ e' → e' < e → ¬ zEo g s r n k i R e'
theorem zFe_un {g : zG} {s : zSn} {r n k i R e e' : Nat} (h : zFe g s r n k i R e) (h' : zFe g s r n k i R e') : e = e' := by
  rcases Nat.lt_trichotomy e e' with f | f | f
  · exact absurd h.2.2.1 (h'.2.2.2 e h.1 f)
  · exact f
  · exact absurd h'.2.2.1 (h.2.2.2 e' h'.1 f)
theorem zFe_ex {g : zG} {s : zSn} {r n k i R : Nat} (hk : k < gZ g r) (h : zRm g s r n k i R) : ∃ e, zFe g s r n k i R e := by
  have h1 := h.1
  have hd : gZ g r - k = gZ g r - (k + 1) + 1 := by omega
  rw [hd] at h1
  obtain ⟨j, p, w, a, b, c, e, f⟩ := h1
  have mk : ∀ p' w', zSP g s (zSi g s) r k i j p' → zSR (zSP g s (zSi g s) r) n (gZ g r - (k + 1)) (k + 1) j w' → R ≤ p' + w' := fun p' w' q1 q2 => h.2 _ (by rw [hd]; exact ⟨j, p', w', a, b, q1, q2, rfl⟩)
  have h2 : zEo g s r n k i R j := ⟨p, w, ⟨c, fun p' q => by have := mk p' w q e; omega⟩, ⟨e, fun w' q => by have := mk p w' c q; omega⟩, f.symm⟩
  obtain ⟨x, x1, x2, x3⟩ := zmin_ex (P := fun x => i ≤ x ∧ x ≤ n ∧ zEo g s r n k i R x) j ⟨a, b, h2⟩
  exact ⟨x, x2.1, x2.2.1, x2.2.2, fun e' q1 q2 q3 => by
    have := x3 e' ⟨q1, by omega, q3⟩
    omega⟩
/-- the first of the rules with the least tree below -/
def zFq (g : zG) (s : zSn) (S : Nat → Prop) (i j q : Nat) : Prop := S q ∧ ∃ u, zLt g s q i j u ∧ ∀ q' u', S q' → zLt g s q' i j u' → u ≤ u' ∧ (q' < q → u < u')
theorem zFq_un {g : zG} {s : zSn} {S : Nat → Prop} {i j q q' : Nat} (h : zFq g s S i j q) (h' : zFq g s S i j q') : q = q' := by
  obtain ⟨a, u, b, c⟩ := h
  obtain ⟨a', u', b', c'⟩ := h'
  have h1 := c q' u' a' b'
  have h2 := c' q u a b
  rcases Nat.lt_trichotomy q q' with f | f | f
  · have := h2.2 f
    omega
  · exact f
  · have := h1.2 f
    omega
def zDw (g : zG) (s : zSn) (r n : Nat) : Nat → Nat → Nat → Nat → Nat → Nat → Nat → Nat → Prop
  | 0, _, _, _, _, _, _, _ => False
  | d + 1, k, i, l, q, i', j', l' => ∃ R e a, zRm g s r n k i R ∧ zFe g s r n k i R e ∧ zPm g s r k i e a ∧ ((l < a ∧ zFq g s (fun q => zbl true g s r k q = true) i e q ∧ i' = i ∧ j' = e ∧ l' = l) ∨ (a ≤ l ∧ zDw g s r n d (k + 1) e (l - a) q i' j' l'))
theorem zDw_un {g : zG} {s : zSn} {r n : Nat} : ∀ {d k i l q i' j' l' q2 i2 j2 l2 : Nat}, zDw g s r n d k i l q i' j' l' → zDw g s r n d k i l q2 i2 j2 l2 → q = q2 ∧ i' = i2 ∧ j' = j2 ∧ l' = l2
  | 0, _, _, _, _, _, _, _, _, _, _, _, h, _ => h.elim
  | d + 1, k, i, l, q, i', j', l', q2, i2, j2, l2, ⟨R, e, a, h1, h2, h3, h4⟩, ⟨R', e', a', h1', h2', h3', h4'⟩ => by
    obtain rfl := zRm_un h1 h1'
    obtain rfl := zFe_un h2 h2'
    obtain rfl := zPm_un h3 h3'
    rcases h4 with ⟨x1, x2, x3, x4, x5⟩ | ⟨x1, x2⟩ <;> rcases h4' with ⟨y1, y2, y3, y4, y5⟩ | ⟨y1, y2⟩
    · exact ⟨zFq_un x2 y2, by omega, by omega, by omega⟩
    · omega
    · omega
    · exact zDw_un x2 y2
/-- what is below is less, and what is left lies in it -/
theorem zDw_in {g : zG} {s : zSn} {r n : Nat} : ∀ {d k i l q i' j' l' : Nat}, zDw g s r n d k i l q i' j' l' → ∃ R u, zRm g s r n k i R ∧ zLt g s q i' j' u ∧ u ≤ R ∧ l' < u ∧ l' ≤ l ∧ i ≤ i' ∧ i' ≤ j' ∧ j' ≤ n ∧ q < gN g
  | 0, _, _, _, _, _, _, _, h => h.elim
  | d + 1, k, i, l, q, i', j', l', ⟨R, e, a, h1, h2, h3, h4⟩ => by
    obtain ⟨a', b, c1, c2, c3⟩ := h2.2.2.1
    have := zPm_un c1 h3
    rcases h4 with ⟨x1, x2, rfl, rfl, rfl⟩ | ⟨x1, x2⟩
    · obtain ⟨y1, u, y2, y3⟩ := x2
      refine ⟨R, u, h1, y2, ?_, ?_, Nat.le_refl _, Nat.le_refl _, h2.1, h2.2.1, zb_lt y1⟩
      · rcases h3.1 with ⟨-, -, -, z⟩ | ⟨-, q', z1, z2⟩
        · omega
        · obtain ⟨u', v1, v2⟩ := zLt_ex z2
          have := (y3 q' u' z1 v2).1
          omega
      · rcases h3.1 with ⟨-, -, -, z⟩ | ⟨z0, q', z1, z2⟩
        · omega
        · have := h3.2 u (.inr ⟨z0, q, y1, y2.1⟩)
          omega
    · obtain ⟨R', u, y1, y2, y3, y4, y5, y6, y7, y8, y9⟩ := zDw_in x2
      have := zRm_un c2 y1
      exact ⟨R, u, h1, y2, by omega, y4, by omega, by have := h2.1; omega, y7, y8, y9⟩
