/-! the sizes of the reference: below a place, and behind it -/
def mSz (g : zG) (s : zSn) (f : Nat → Nat → Nat → Nat) (μ : zzM) : Prop := ∀ q i j, q < gN g → i ≤ j → j ≤ sL s → μ.1 146 (169 * q + 13 * i + j) = nI (f q i j) ∧ f q i j ≤ 2000000000
theorem mSz_fr {g : zG} {s : zSn} {f : Nat → Nat → Nat → Nat} {μ y : zzM} {L : List Nat} (h : mSz g s f μ) (hf : zfr L μ y) (hl : L.elem 146 = false) : mSz g s f y := fun q i j a b c => by
  rw [zf_i hf hl]
  exact h q i j a b c
/-- the first of the least ones -/
def zFs (S : Nat → Prop) (v : Nat → Nat) (n : Nat) (x : Int32) : Prop := (x = -(nI 1) ∧ ∀ q, q < n → ¬ S q) ∨ ∃ q, q < n ∧ x = nI q ∧ S q ∧ ∀ q', q' < n → S q' → v q ≤ v q' ∧ (q' < q → v q < v q')
theorem zFs_0 (S : Nat → Prop) (v : Nat → Nat) : zFs S v 0 (-(nI 1)) := .inl ⟨rfl, fun q e => absurd e (by omega)⟩
theorem zFs_un {S : Nat → Prop} {v : Nat → Nat} {n : Nat} {x y : Int32} (h : zFs S v n x) (h' : zFs S v n y) : x = y := by
  rcases h with ⟨a, b⟩ | ⟨q, a, b, c, e⟩ <;> rcases h' with ⟨a', b'⟩ | ⟨q', a', b', c', e'⟩
  · rw [a, a']
  · exact absurd c' (b q' a')
  · exact absurd c (b' q a)
  · have h1 := e q' a' c'
    have h2 := e' q a c
    have : q = q' := by
      rcases Nat.lt_trichotomy q q' with f | f | f
      · have := h2.2 f
        omega
      · exact f
      · have := h1.2 f
        omega
    rw [b, b', this]
theorem zFs_no {S : Nat → Prop} {v : Nat → Nat} {n : Nat} {x : Int32} (h : zFs S v n x) (hn : ¬ S n) : zFs S v (n + 1) x := by
  rcases h with ⟨a, b⟩ | ⟨q, a, b, c, e⟩
  · refine .inl ⟨a, fun q hq hs => ?_⟩
    by_cases eq : q = n
    · rw [eq] at hs; exact hn hs
    · exact b q (by omega) hs
  · refine .inr ⟨q, by omega, b, c, fun q' hq hs => ?_⟩
    by_cases eq : q' = n
    · rw [eq] at hs; exact absurd hs hn
    · exact e q' (by omega) hs
theorem zFs_1 {S : Nat → Prop} {v : Nat → Nat} {n : Nat} (h : zFs S v n (-(nI 1))) (hn : n < 2147483648) (hs : S n) : zFs S v (n + 1) (nI n) := by
  rcases h with ⟨-, b⟩ | ⟨q, a, b, -, -⟩
  · refine .inr ⟨n, by omega, rfl, hs, fun q' hq hs' => ?_⟩
    by_cases eq : q' = n
    · rw [eq]; exact ⟨Nat.le_refl _, fun f => absurd f (Nat.lt_irrefl _)⟩
    · exact absurd hs' (b q' (by omega))
  · exact absurd b.symm (cast (by rw [zq_em (show q < 2147483648 by omega)]) id)
theorem zFs_s {S : Nat → Prop} {v : Nat → Nat} {n q : Nat} (h : zFs S v n (nI q)) (hn : n < 2147483648) (hq : q < 2147483648) (hs : S n) : zFs S v (n + 1) (if v q ≤ v n then nI q else nI n) := by
  rcases h with ⟨a, -⟩ | ⟨q0, a, b, c, e⟩
  · exact absurd a (cast (by rw [zq_em hq]) id)
  · rw [zq_eq hq (by omega)] at b
    subst b
    by_cases el : v q ≤ v n
    · rw [if_pos el]
      refine .inr ⟨q, by omega, rfl, c, fun q' hq' hs' => ?_⟩
      by_cases eq : q' = n
      · rw [eq]; exact ⟨el, fun f => absurd f (by omega)⟩
      · exact e q' (by omega) hs'
    · rw [if_neg el]
      refine .inr ⟨n, by omega, rfl, hs, fun q' hq' hs' => ?_⟩
      by_cases eq : q' = n
      · rw [eq]; exact ⟨Nat.le_refl _, fun f => absurd f (Nat.lt_irrefl _)⟩
      · have := e q' (by omega) hs'
        exact ⟨by omega, fun _ => by omega⟩
theorem m_leastBelow {g : zG} {s : zSn} {μ : zzM} (h : zm2 g s μ) (hg : zwg g) (hs : zws g s) (d : Nat) {f : Nat → Nat → Nat → Nat} (hZ : mSz g s f μ) {r k i j : Nat} (hr : r < gN g) (hk : k < gZ g r) (hi : i ≤ j) (hj : j ≤ sL s) : zw (zzf zzP zN (d + 4) 296 [.ref 105, .int (nI r), .int (nI k), .int (nI i), .int (nI j)] μ) fun o => o.2 = μ ∧ zFs (fun q => zbl true g s r k q = true ∧ f q i j < 2000000000) (fun q => f q i j) (gN g) o.1.1 := by
  have hgn := g_n hg
  have hsl := hs.1
  rw [w_m_leastBelow]
  refine zl_up (fun q (x : Int32) => ([nI r, nI k, nI i, nI j, x, nI q], [], μ)) (fun q x => zFs (fun q => zbl true g s r k q = true ∧ f q i j < 2000000000) (fun q => f q i j) q x) 0 (gN g) (-(nI 1)) (by omega) (by omega) rfl (zFs_0 _ _) ?_ ?_
  · rintro q x ga - hq hx hgo
    obtain ⟨z1, z2⟩ := hZ q i j hq hi hj
    unfold L296_a
    simp only [zI0, zI1, zI2, zI3, zI4, zI5, zI6, zI7, zI8, zJ0, zJ1, zJ2, zMM]
    rw [zr_i _ _ (by omega) (by omega), d_n h, Option.bind_some, if_neg (by rw [zq_le (by omega) (by omega)]; omega), m_spot, Option.bind_some, zr_i _ _ (by omega) (by omega), z1, Option.bind_some]
    simp only [zq_add]
    by_cases e : 2000000000 ≤ f q i j
    · rw [if_pos (by rw [zq_le (by omega) (by omega)]; omega)]
      exact hgo x (zFs_no hx fun w => by omega)
    · rw [if_neg (by rw [zq_le (by omega) (by omega)]; omega)]
      have hb1 : zzf zzP zN (d + 3) 253 [.ref 105, .int (nI 1), .int (nI r), .int (nI k), .int (nI q)] μ = some ((zB (zbl true g s r k q), 0, 0), μ) := m_isBelow h hg hs d true hr hk hq
      rw [hb1, Option.bind_some]
      simp only [zB_0]
      cases eb : zbl true g s r k q with
      | false =>
        rw [if_pos rfl]
        exact hgo x (zFs_no hx fun w => by rw [eb] at w; cases w.1)
      | true =>
        rw [if_neg (by decide)]
        by_cases ex : x = -(nI 1)
        · rw [if_pos ex]
          rw [ex] at hx
          exact hgo _ (zFs_1 hx (by omega) ⟨eb, by omega⟩)
        · rw [if_neg ex]
          obtain ⟨q0, hq0, rfl⟩ : ∃ q0, q0 < q ∧ x = nI q0 := by
            rcases hx with ⟨a, -⟩ | ⟨q0, a, b, -⟩
            · exact absurd a ex
            · exact ⟨q0, a, b⟩
          obtain ⟨y1, y2⟩ := hZ q0 i j (by omega) hi hj
          rw [m_spot, Option.bind_some, zr_i _ _ (by omega) (by omega), z1, Option.bind_some, m_spot, Option.bind_some, zr_i _ _ (by omega) (by omega), y1, Option.bind_some]
          have := zFs_s hx (by omega) (by omega) ⟨eb, by omega⟩
          by_cases el : f q0 i j ≤ f q i j
          · rw [if_pos (by rw [zq_le (by omega) (by omega)]; omega)]
            simp only [el, if_true] at this
            exact hgo _ this
          · rw [if_neg (by rw [zq_le (by omega) (by omega)]; omega)]
            simp only [el, if_false] at this
            exact hgo _ this
  · rintro x ga hx
    unfold L296_a
    simp only [zI0, zI1, zI2, zI3, zI4, zI5, zI6, zI7, zI8, zJ0, zJ1, zJ2, zMM]
    rw [zr_i _ _ (by omega) (by omega), d_n h, Option.bind_some, if_pos (by rw [zq_le (by omega) (by omega)]; omega)]
    exact zw_some ⟨rfl, hx⟩
theorem m_sizeBelow {g : zG} {s : zSn} {μ : zzM} (h : zm2 g s μ) (hg : zwg g) (hs : zws g s) (d : Nat) {f : Nat → Nat → Nat → Nat} (hZ : mSz g s f μ) {r k i j : Nat} (hr : r < gN g) (hk : k < gZ g r) (hi : i ≤ j) (hj : j ≤ sL s) : zw (zzf zzP zN (d + 5) 297 [.ref 105, .int (nI r), .int (nI k), .int (nI i), .int (nI j)] μ) fun o => o.2 = μ ∧ ∃ x, o.1.1 = nI x ∧ zmn 2000000000 (zSP g s (zTf 2000000000 f) r k i j) x := by
  have hgn := g_n hg
  have hsl := hs.1
  rw [w_m_sizeBelow, m_capAt h hg (d + 2) hr hk, Option.bind_some]
  simp only [zB_0]
  by_cases e26 : 26 ≤ gS g r k
  · rw [decide_eq_true e26, if_neg (by decide)]
    obtain ⟨o, a1, a2, a3⟩ := m_leastBelow h hg hs d hZ hr hk hi hj
    rw [a1, Option.bind_some, a2]
    rcases a3 with ⟨b1, b2⟩ | ⟨q, b1, b2, b3, b4⟩
    · rw [if_pos b1]
      refine zw_some ⟨rfl, 2000000000, rfl, zmn_C ?_⟩
      rintro p (⟨c, -⟩ | ⟨-, q, c1, c2, c3⟩)
      · omega
      · exact absurd ⟨c1, by omega⟩ (b2 q (zb_lt c1))
    · rw [b2, if_neg (by rw [zq_em (by omega)]; exact id), m_spot, Option.bind_some, zr_i _ _ (by omega) (by omega), (hZ q i j b1 hi hj).1, Option.bind_some]
      refine zw_some ⟨rfl, f q i j, rfl, (hZ q i j b1 hi hj).2, fun _ => .inr ⟨e26, q, b3.1, rfl, b3.2⟩, ?_⟩
      rintro p (⟨c, -⟩ | ⟨-, q', c1, c2, c3⟩)
      · omega
      · have : f q i j ≤ f q' i j := (b4 q' (zb_lt c1) ⟨c1, by omega⟩).1
        omega
  · rw [decide_eq_false e26, if_pos rfl, m_small h hg hs (d + 3) hr hk hi hj, Option.bind_some]
    simp only [zB_0]
    by_cases e : j = i + 1 ∧ sX s i = gS g r k
    · rw [decide_eq_true e, if_neg (by decide)]
      exact zw_some ⟨rfl, 0, rfl, zmn_0 (.inl ⟨by omega, e.1, e.2, rfl⟩)⟩
    · rw [decide_eq_false e, if_pos rfl]
      refine zw_some ⟨rfl, 2000000000, rfl, zmn_C ?_⟩
      rintro p (⟨-, c1, c2, -⟩ | ⟨c, -⟩)
      · exact absurd ⟨c1, c2⟩ e
      · omega
theorem m_joinN (d : Nat) {a b : Nat} (ha : a ≤ 2000000000) (hb : b ≤ 2000000000) (μ : zzM) : zzf zzP zN (d + 1) 219 [.int (nI a), .int (nI b)] μ = some ((nI (if a + b < 2000000000 then a + b else 2000000000), 0, 0), μ) := by
  rw [u_m_joined, zq_sub hb, zif_cg (show nI a < nI (2000000000 - b) ↔ a + b < 2000000000 by rw [zq_lt (by omega) (by omega)]; omega)]
  by_cases e : a + b < 2000000000
  · rw [if_pos e, if_pos e, zq_add]
  · rw [if_neg e, if_neg e]
