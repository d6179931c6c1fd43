/-! A GRAMMAR TOLD, of the reference: signs, letters, left sides -/
theorem zm_ww (A : zzM) (c k : Nat) (u w : Int32) : zzwI (zzwI A c k u) c k w = zzwI A c k w := by
  refine zb_ext (fun e j => ?_) (fun _ _ => rfl)
  show (if e = c ∧ j = k then w else if e = c ∧ j = k then u else A.1 e j) = (if e = c ∧ j = k then w else A.1 e j)
  by_cases h : e = c ∧ j = k
  · rw [if_pos h, if_pos h]
  · rw [if_neg h, if_neg h, if_neg h]
/-- the next place that is no blank -/
def tsk (b : Nat → Nat) : Nat → Nat → Nat
  | 0, p => p
  | k + 1, p => if b p = 32 then tsk b k (p + 1) else p
theorem tsk_le (b : Nat → Nat) : ∀ k p, p ≤ tsk b k p ∧ tsk b k p ≤ p + k
  | 0, p => ⟨Nat.le_refl _, Nat.le_refl _⟩
  | k + 1, p => by
    unfold tsk
    have := tsk_le b k (p + 1)
    split <;> omega
theorem tsk_b (b : Nat → Nat) : ∀ k p, tsk b k p < p + k → b (tsk b k p) ≠ 32
  | 0, p, h => absurd h (by unfold tsk; omega)
  | k + 1, p, h => by
    unfold tsk at h ⊢
    by_cases e : b p = 32
    · rw [if_pos e] at h ⊢
      exact tsk_b b k (p + 1) (by omega)
    · rw [if_neg e]
      exact e
theorem tsk_32 (b : Nat → Nat) : ∀ k p i, p ≤ i → i < tsk b k p → b i = 32
  | 0, p, i, h, h' => absurd h' (by unfold tsk; omega)
  | k + 1, p, i, h, h' => by
    unfold tsk at h'
    by_cases e : b p = 32
    · rw [if_pos e] at h'
      by_cases ei : i = p
      · rw [ei]
        exact e
      · exact tsk_32 b k (p + 1) i (by omega) h'
    · rw [if_neg e] at h'
      omega
theorem tsk_s (b : Nat → Nat) (k p : Nat) : tsk b (k + 1) p = if b p = 32 then tsk b k (p + 1) else p := rfl
def tRn (b : Nat → Nat) (n p w : Nat) (G : zG) : Nat ⊕ zG := tRun b (n - p) p w G
theorem tRn_k (b : Nat → Nat) (w : Nat) (G : zG) : ∀ k p, tRun b k p w G = tRun b (p + k - tsk b k p) (tsk b k p) w G
  | 0, p => by
    show tRun b 0 p w G = tRun b (p + 0 - p) p w G
    rw [show p + 0 - p = 0 by omega]
  | k + 1, p => by
    unfold tsk
    by_cases e : b p = 32
    · rw [if_pos e]
      have := tRn_k b w G k (p + 1)
      rw [show p + 1 + k = p + (k + 1) by omega] at this
      rw [← this]
      exact if_pos e
    · rw [if_neg e, show p + (k + 1) - p = k + 1 by omega]
theorem tRn_sk {b : Nat → Nat} {n p w : Nat} {G : zG} (hp : p ≤ n) : tRn b n p w G = tRn b n (tsk b (n - p) p) w G := by
  have := tRn_k b w G (n - p) p
  rw [show p + (n - p) = n by omega] at this
  exact this
theorem tRn_e {b : Nat → Nat} {n w : Nat} {G : zG} : tRn b n n w G = if w = 0 ∨ w = 1 ∨ w = 3 then .inl (1 + 8 * n) else .inr G := by
  unfold tRn
  rw [Nat.sub_self]
  rfl
theorem tRn_f {b : Nat → Nat} {n p w t : Nat} {G : zG} (hp : p < n) (h : b p ≠ 32) (ht : tF w G (b p) = some t) : tRn b n p w G = .inl (1 + 8 * p + t) := by
  unfold tRn
  rw [show n - p = n - (p + 1) + 1 by omega, tRun_s, if_neg h, ht]
theorem tRn_s {b : Nat → Nat} {n p w w' : Nat} {G G' : zG} (hp : p < n) (h : b p ≠ 32) (ht : tF w G (b p) = none) (hT : tT w G (b p) = (w', G')) : tRn b n p w G = tRn b n (p + 1) w' G' := by
  unfold tRn
  rw [show n - p = n - (p + 1) + 1 by omega]
  have : tRun b (n - (p + 1) + 1) p w G = tRun b (n - (p + 1)) (p + 1) (tT w G (b p)).1 (tT w G (b p)).2 := by
    rw [tRun_s, if_neg h, ht]
  rw [this, hT]
/-- the tape of the reference -/
def mTp (b : Nat → Nat) (n : Nat) (μ : zzM) : Prop := n ≤ 400 ∧ μ.1 105 16 = nI n ∧ ∀ i, i < n → b i < 256 ∧ (μ.1 120 i &&& nI 255) = nI (b i) ∧ ((μ.1 120 i = nI 32) ↔ b i = 32)
/-- what the reference may change when it reads -/
def mTf (μ y : zzM) : Prop := zfr [105, 114, 115, 116, 117, 118, 119] μ y ∧ ∀ p, p ≠ 15 → p ≠ 17 → p ≠ 18 → y.1 105 p = μ.1 105 p
theorem mTf_0 (μ : zzM) : mTf μ μ := ⟨zf_refl _ _, fun _ _ _ _ => rfl⟩
theorem mTf_t {μ y z : zzM} (h : mTf μ y) (h' : mTf y z) : mTf μ z := ⟨zf_trans h.1 h'.1, fun p a b c => (h'.2 p a b c).trans (h.2 p a b c)⟩
theorem mTf_p {μ : zzM} (k : Nat) (v : Int32) (hk : k = 15 ∨ k = 17 ∨ k = 18) : mTf μ (zzwI μ 105 k v) := ⟨zf_wI _ _ rfl, fun p a b c => zm_k _ _ _ _ (by omega)⟩
theorem mTf_c {μ : zzM} (c k : Nat) (v : Int32) (hc : c = 114 ∨ c = 115 ∨ c = 116 ∨ c = 117 ∨ c = 118 ∨ c = 119) : mTf μ (zzwI μ c k v) := ⟨zf_wI _ _ (by rcases hc with rfl | rfl | rfl | rfl | rfl | rfl <;> rfl), fun p _ _ _ => by rw [zm_c _ _ _ (by omega)]⟩
theorem mTp_f {b : Nat → Nat} {n : Nat} {μ y : zzM} (h : mTp b n μ) (hf : mTf μ y) : mTp b n y := ⟨h.1, (hf.2 16 (by omega) (by omega) (by omega)).trans h.2.1, fun i hi => by rw [zf_i hf.1 rfl]; exact h.2.2 i hi⟩
/-- the sign at a place: none at the end -/
def tsg (b : Nat → Nat) (n q : Nat) : Int32 := if q = n then -(nI 1) else nI (b q)
theorem m_sign (d : Nat) {μ : zzM} {b : Nat → Nat} {n p : Nat} (hT : mTp b n μ) (hp : p ≤ n) (h17 : μ.1 105 17 = nI p) : zzf zzP zN (d + 1) 185 [.ref 105] μ = some ((tsg b n (tsk b (n - p) p), 0, 0), zzwI μ 105 17 (nI (tsk b (n - p) p))) := by
  have hn := hT.1
  refine zw_eq ?_
  rw [w_m_sign]
  have hy : ∀ i, mTp b n (zzwI μ 105 17 (nI i)) := fun i => mTp_f hT (mTf_p _ _ (by omega))
  refine zl_up (fun i (_ : Unit) => ([], [], zzwI μ 105 17 (nI i))) (fun i _ => tsk b (n - i) i = tsk b (n - p) p) p n () hp (by omega) (by rw [zm_id h17]) rfl ?_ ?_
  · rintro i - ga hi1 hi2 hJ hgo
    obtain ⟨b1, b2, b3⟩ := (hy i).2.2 i hi2
    rw [show n - i = n - (i + 1) + 1 by omega, tsk_s] at hJ
    unfold L185_a
    simp only [zI0, zI1, zI2, zI3, zI4, zI5, zI6, zI7, zI8, zJ0, zJ1, zJ2, zMM]
    rw [(hy i).2.1, zm_s, if_neg (by rw [zq_le (by omega) (by omega)]; omega), zr_i _ _ (by omega) (by omega), Option.bind_some]
    by_cases e : b i = 32
    · rw [if_pos e] at hJ
      rw [if_pos (b3.2 e), zq_add, zm_ww]
      exact hgo () hJ
    · rw [if_neg e] at hJ
      rw [if_neg (fun q => e (b3.1 q))]
      unfold J185_a
      rw [(hy i).2.1, zm_s, if_neg (by rw [zq_le (by omega) (by omega)]; omega), zr_i _ _ (by omega) (by omega), Option.bind_some, b2, ← hJ]
      unfold tsg
      rw [if_neg (by omega)]
      exact zw_some ⟨rfl, rfl⟩
  · rintro - ga hJ
    rw [Nat.sub_self] at hJ
    have hJ : n = tsk b (n - p) p := hJ
    unfold L185_a
    simp only [zI0, zI1, zI2, zI3, zI4, zI5, zI6, zI7, zI8, zJ0, zJ1, zJ2, zMM]
    rw [(hy n).2.1, zm_s, if_pos (by rw [zq_le (by omega) (by omega)]; omega)]
    unfold J185_a
    rw [(hy n).2.1, zm_s, if_pos (by rw [zq_le (by omega) (by omega)]; omega), ← hJ]
    unfold tsg
    rw [if_pos rfl]
    exact zw_some ⟨rfl, rfl⟩
theorem m_inr (d : Nat) {c x y : Nat} (hc : c < 256) (hx : x < 256) (hy : y < 256) (μ : zzM) : zzf zzP zN (d + 1) 173 [.long (Int32.toInt64 (nI c)), .long (lN x), .long (lN y)] μ = some ((zB (decide (x ≤ c ∧ c ≤ y)), 0, 0), μ) := by
  rw [m_in, nI_l (by omega)]
  congr 4
  exact decide_eq_decide.2 (and_congr (pk_lLE (by omega) (by omega)) (pk_lLE (by omega) (by omega)))
theorem m_inm (d : Nat) {x y : Nat} (hx : x < 256) (μ : zzM) : zzf zzP zN (d + 1) 173 [.long (Int32.toInt64 (-(nI 1))), .long (lN x), .long (lN y)] μ = some ((zB false, 0, 0), μ) := by
  rw [m_in, decide_eq_false fun q => ?_]
  have h1 := q.1
  rw [Int64.le_iff_toInt_le, pk_lT (by omega), Int32.toInt_toInt64, show (-(nI 1)).toInt = -1 by decide] at h1
  omega
/-- the number of a letter -/
def tlo (b : Nat → Nat) (n q : Nat) : Int32 := if q = n then -(nI 1) else if tL (b q) then nI (tv (b q)) else -(nI 1)
theorem m_letterOf (d : Nat) {b : Nat → Nat} {n q : Nat} (hb : q ≠ n → b q < 256) (μ : zzM) : zzf zzP zN (d + 2) 186 [.int (tsg b n q)] μ = some ((tlo b n q, 0, 0), μ) := by
  rw [w_m_letterOf]
  unfold tsg tlo
  by_cases e : q = n
  · rw [if_pos e, if_pos e, m_inm _ (by omega), Option.bind_some, if_pos (show zB false = 0 by decide), m_inm _ (by omega), Option.bind_some, if_pos (show zB false = 0 by decide)]
  · have hq := hb e
    rw [if_neg e, if_neg e, m_inr _ hq (by omega) (by omega), Option.bind_some]
    simp only [zB_0, decide_eq_false_iff_not]
    by_cases e1 : 97 ≤ b q ∧ b q ≤ 122
    · rw [if_neg (fun f => f e1), zq_sub e1.1, if_pos ((tL_iff _).2 (.inr e1))]
      unfold tv
      rw [if_neg (fun f => by rw [tC_iff] at f; omega)]
    · rw [if_pos e1, m_inr _ hq (by omega) (by omega), Option.bind_some]
      simp only [zB_0, decide_eq_false_iff_not]
      by_cases e2 : 65 ≤ b q ∧ b q ≤ 90
      · rw [if_neg (fun f => f e2), zq_sub e2.1, zq_add, if_pos ((tL_iff _).2 (.inl e2))]
        unfold tv
        rw [if_pos ((tC_iff _).2 e2)]
      · rw [if_pos e2, if_neg (fun f => by rw [tL_iff] at f; exact f.elim e2 e1)]
theorem m_fails (d k p : Nat) {μ : zzM} (h : μ.1 105 18 = nI 0) : zzf zzP zN (d + 1) 184 [.ref 105, .int (nI k), .int (nI p)] μ = some ((0, 0, 0), zzwI μ 105 18 (nI (1 + 8 * p + k))) := by
  rw [w_m_fails, h, if_pos (by decide)]
  simp only [zq_mul, zq_add]
theorem m_sideOf (d : Nat) {b : Nat → Nat} {n q : Nat} (hb : q ≠ n → b q < 256) (μ : zzM) : zzf zzP zN (d + 1) 191 [.int (tsg b n q)] μ = some ((nI (if q = n then 0 else tsd (b q)), 0, 0), μ) := by
  rw [w_m_sideOf]
  unfold tsg
  by_cases e : q = n
  · rw [if_pos e, if_pos e, if_neg (by decide), if_neg (by decide), if_neg (by decide)]
  · have hq := hb e
    rw [if_neg e, if_neg e]
    simp (disch := omega) only [zq_eq]
    unfold tsd
    by_cases e1 : b q = 33
    · rw [if_pos e1, if_pos e1]
    · rw [if_neg e1, if_neg e1]
      by_cases e2 : b q = 60
      · rw [if_pos e2, if_pos e2]
      · rw [if_neg e2, if_neg e2]
        by_cases e3 : b q = 62
        · rw [if_pos e3, if_pos e3]
        · rw [if_neg e3, if_neg e3]
/-- a grammar half told, in the reference; sA: where its symbols stood -/
def mtG (G : zG) (sA : Nat → Nat → Nat) (μ : zzM) : Prop := μ.1 105 15 = nI (gN G) ∧ (∀ r, r < gN G → μ.1 114 r = nI (gL G r)) ∧ (∀ r, r < gN G → μ.1 115 r = nI (gZ G r)) ∧ (∀ r k, r < gN G → k < gZ G r → μ.1 116 (4 * r + k) = nI (gS G r k) ∧ μ.1 119 (4 * r + k) = nI (sA r k)) ∧ (∀ r, r < gN G → μ.1 117 r = nI (gR G r)) ∧ (∀ r, r < gN G → μ.1 118 r = nI (gD G r))
theorem mtG_p {G : zG} {sA : Nat → Nat → Nat} {μ : zzM} (h : mtG G sA μ) {k : Nat} (hk : k ≠ 15) (v : Int32) : mtG G sA (zzwI μ 105 k v) := by
  unfold mtG at h ⊢
  rw [zm_k _ _ _ _ (fun q => hk q.symm), zm_c _ _ _ (by omega), zm_c _ _ _ (by omega), zm_c _ _ _ (by omega), zm_c _ _ _ (by omega), zm_c _ _ _ (by omega), zm_c _ _ _ (by omega)]
  exact h
theorem m_isNewLeft {G : zG} {sA : Nat → Nat → Nat} {μ : zzM} (h : mtG G sA μ) (hw : tw G) (d : Nat) {c m : Nat} (hc : c < 26) (hm : m ≤ gN G) : zzf zzP zN (d + 1) 187 [.ref 105, .int (nI (26 + c)), .int (nI m)] μ = some ((zB (decide (∃ r, r < m ∧ gL G r = 26 + c)), 0, 0), μ) := by
  have hN := hw.1
  refine zw_eq ?_
  rw [w_m_isNewLeft]
  refine zl_up (fun r (_ : Unit) => ([nI (26 + c), nI m, nI r], [], μ)) (fun r _ => ∀ r', r' < r → gL G r' ≠ 26 + c) 0 m () (by omega) (by omega) rfl (fun r' q => absurd q (by omega)) ?_ ?_
  · rintro r - ga - hr hJ hgo
    have hl := (hw.2.1 r (by omega)).2.1
    unfold L187_a
    simp only [zI0, zI1, zI2, zI3, zI4, zI5, zI6, zI7, zI8, zJ0, zJ1, zJ2, zMM]
    rw [if_neg (by rw [zq_le (by omega) (by omega)]; omega), zr_i _ _ (by omega) (by omega), h.2.1 r (by omega), Option.bind_some]
    simp (disch := omega) only [zq_eq]
    by_cases e : gL G r = 26 + c
    · rw [if_pos e, if_pos (by decide), decide_eq_true ⟨r, hr, e⟩]
      exact zw_some ⟨rfl, rfl⟩
    · rw [if_neg e, zq_add]
      refine hgo () fun r' hr' => ?_
      by_cases er : r' = r
      · rw [er]
        exact e
      · exact hJ r' (by omega)
  · rintro - ga hJ
    unfold L187_a
    simp only [zI0, zI1, zI2, zI3, zI4, zI5, zI6, zI7, zI8, zJ0, zJ1, zJ2, zMM]
    rw [if_pos (by rw [zq_le (by omega) (by omega)]; omega), if_pos (by decide), decide_eq_false fun ⟨r, a, b⟩ => hJ r a b]
    exact zw_some ⟨rfl, rfl⟩
theorem m_newLefts {G : zG} {sA : Nat → Nat → Nat} {μ : zzM} (h : mtG G sA μ) (hw : tw G) (d : Nat) : zzf zzP zN (d + 2) 188 [.ref 105] μ = some ((nI (zcnt (gleft G) 26), 0, 0), μ) := by
  have hN := hw.1
  refine zw_eq ?_
  rw [w_m_newLefts]
  let P : Nat → Nat → Bool := fun m c => decide (∃ r, r < m ∧ gL G r = 26 + c)
  refine zl_up (fun r (_ : Unit) => ([nI (zcnt (P r) 26), nI r], [], μ)) (fun r _ => True) 0 (gN G) () (by omega) (by omega) ?_ trivial ?_ ?_
  · rw [zcnt_0 fun i _ => decide_eq_false fun ⟨r, hr, _⟩ => Nat.not_lt_zero _ hr]
  · rintro r - ga - hr - hgo
    obtain ⟨hl1, hl2, -⟩ := hw.2.1 r hr
    obtain ⟨c, hc⟩ : ∃ c, gL G r = 26 + c := ⟨gL G r - 26, by omega⟩
    have hgo := hgo () trivial
    unfold L188_a
    simp only [zI0, zI1, zI2, zI3, zI4, zI5, zI6, zI7, zI8, zJ0, zJ1, zJ2, zMM]
    rw [h.1, if_neg (by rw [zq_le (by omega) (by omega)]; omega), zr_i _ _ (by omega) (by omega), h.2.1 r hr, Option.bind_some, hc, m_isNewLeft h hw d (by omega) (by omega), Option.bind_some]
    simp only [zB_0, zq_add]
    have hP : ∀ i, i ≠ c → P (r + 1) i = P r i := fun i hi => decide_eq_decide.2 ⟨fun ⟨r', a, b⟩ => ⟨r', by
      apply Nat.lt_of_not_le
      intro q
      obtain rfl : r' = r := by omega
      omega, b⟩, fun ⟨r', a, b⟩ => ⟨r', by omega, b⟩⟩
    have hPc : P (r + 1) c = true := decide_eq_true ⟨r, by omega, hc⟩
    by_cases e : ∃ r', r' < r ∧ gL G r' = 26 + c
    · rw [decide_eq_true e, if_neg (by decide)]
      rw [zcnt_cg (q := P r) fun i _ => ?_] at hgo
      · exact hgo
      · by_cases ei : i = c
        · rw [ei, hPc]
          exact (decide_eq_true e).symm
        · exact hP i ei
    · rw [decide_eq_false e, if_pos rfl]
      rw [zcnt_1 (p := P r) (q := P (r + 1)) (c := c) (by omega) (decide_eq_false e) hPc fun i _ hi => hP i hi] at hgo
      exact hgo
  · rintro - ga -
    unfold L188_a
    simp only [zI0, zI1, zI2, zI3, zI4, zI5, zI6, zI7, zI8, zJ0, zJ1, zJ2, zMM]
    rw [h.1, if_pos (by rw [zq_le (by omega) (by omega)]; omega), zcnt_cg (q := gleft G) fun i _ => ?_]
    · exact zw_some ⟨rfl, rfl⟩
    · rw [Bool.eq_iff_iff, decide_eq_true_eq, gleft_iff]
/-- where symbols stood -/
def tPo (b : Nat → Nat) (p : Nat) (G : zG) (sA : Nat → Nat → Nat) : Prop := (∀ r k, r < gN G → k < gZ G r → sA r k < p ∧ tL (b (sA r k)) = true ∧ tv (b (sA r k)) = gS G r k) ∧ (∀ r k r' k', r < gN G → k < gZ G r → r' < gN G → k' < gZ G r' → (r < r' ∨ (r = r' ∧ k < k')) → sA r k < sA r' k') ∧ ∀ i, i < p → tC (b i) = true → gleft G (b i - 65) = true ∨ ∃ r k, r < gN G ∧ k < gZ G r ∧ sA r k = i
theorem tPo_sk {b : Nat → Nat} {n p : Nat} {G : zG} {sA : Nat → Nat → Nat} (h : tPo b p G sA) : tPo b (tsk b (n - p) p) G sA := by
  obtain ⟨h1, h2, h3⟩ := h
  have hle := tsk_le b (n - p) p
  refine ⟨fun r k a c => ?_, h2, fun i hi hc => ?_⟩
  · obtain ⟨x, y⟩ := h1 r k a c
    exact ⟨by omega, y⟩
  · by_cases e : i < p
    · exact h3 i e hc
    · rw [tsk_32 b (n - p) p i (by omega) hi] at hc
      cases hc
/-- a place more that is no capital -/
theorem tPo_n {b : Nat → Nat} {p : Nat} {G : zG} {sA : Nat → Nat → Nat} (h : tPo b p G sA) (hc : tC (b p) = false) : tPo b (p + 1) G sA := by
  obtain ⟨h1, h2, h3⟩ := h
  refine ⟨fun r k a c => ?_, h2, fun i hi hi2 => ?_⟩
  · obtain ⟨x, y⟩ := h1 r k a c
    exact ⟨by omega, y⟩
  · by_cases e : i = p
    · rw [e, hc] at hi2
      cases hi2
    · exact h3 i (by omega) hi2
theorem tPo_B {b : Nat → Nat} {p : Nat} {G : zG} {sA : Nat → Nat → Nat} (h : tPo b p G sA) : tPo b (p + 1) (tB G (b p - 65)) sA := by
  obtain ⟨h1, h2, h3⟩ := h
  have hz : ∀ r k, r < gN G + 1 → k < zup (gZ G) (gN G) 0 r → r < gN G ∧ k < gZ G r := fun r k a c => by
    by_cases e : r = gN G
    · rw [e, zup_s] at c
      omega
    · rw [zup_o _ e] at c
      exact ⟨by omega, c⟩
  refine ⟨fun r k a c => ?_, fun r k r' k' a c a' c' e => ?_, fun i hi hi2 => ?_⟩
  · obtain ⟨a', c'⟩ := hz r k a c
    obtain ⟨x, y⟩ := h1 r k a' c'
    exact ⟨by omega, y⟩
  · obtain ⟨a1, c1⟩ := hz r k a c
    obtain ⟨a2, c2⟩ := hz r' k' a' c'
    exact h2 r k r' k' a1 c1 a2 c2 e
  · rw [tB_left]
    by_cases e : i = p
    · rw [e, decide_eq_true rfl, Bool.or_true]
      exact .inl rfl
    · rcases h3 i (by omega) hi2 with q | ⟨r, k, q1, q2, q3⟩
      · rw [q]
        exact .inl rfl
      · refine .inr ⟨r, k, (show r < gN G + 1 by omega), ?_, q3⟩
        show k < zup (gZ G) (gN G) 0 r
        rw [zup_o _ (by omega)]
        exact q2
theorem tPo_S {b : Nat → Nat} {p : Nat} {G : zG} {sA : Nat → Nat → Nat} (h : tPo b p G sA) (hn : 0 < gN G) (hl : tL (b p) = true) : tPo b (p + 1) (tS G (tv (b p))) (fun r k => if r = gN G - 1 ∧ k = gZ G (gN G - 1) then p else sA r k) := by
  obtain ⟨h1, h2, h3⟩ := h
  have hz : ∀ r k, r < gN G → k < zup (gZ G) (gN G - 1) (gZ G (gN G - 1) + 1) r → (r = gN G - 1 ∧ k = gZ G (gN G - 1)) ∨ (¬ (r = gN G - 1 ∧ k = gZ G (gN G - 1)) ∧ k < gZ G r) := fun r k a c => by
    by_cases e : r = gN G - 1
    · rw [e, zup_s] at c
      by_cases ek : k = gZ G (gN G - 1)
      · exact .inl ⟨e, ek⟩
      · refine .inr ⟨fun q => ek q.2, ?_⟩
        rw [e]
        omega
    · rw [zup_o _ e] at c
      exact .inr ⟨fun q => e q.1, c⟩
  refine ⟨fun r k a c => ?_, fun r k r' k' a c a' c' e => ?_, fun i hi hi2 => ?_⟩
  · show (if r = gN G - 1 ∧ k = gZ G (gN G - 1) then p else sA r k) < p + 1 ∧ tL (b (if r = gN G - 1 ∧ k = gZ G (gN G - 1) then p else sA r k)) = true ∧ tv (b (if r = gN G - 1 ∧ k = gZ G (gN G - 1) then p else sA r k)) = (if r = gN G - 1 ∧ k = gZ G (gN G - 1) then tv (b p) else gS G r k)
    rcases hz r k a c with q | ⟨q, q2⟩
    · rw [if_pos q, if_pos q]
      exact ⟨by omega, hl, rfl⟩
    · rw [if_neg q, if_neg q]
      obtain ⟨x, y⟩ := h1 r k a q2
      exact ⟨by omega, y⟩
  · have a : r < gN G := a
    have a' : r' < gN G := a'
    show (if r = gN G - 1 ∧ k = gZ G (gN G - 1) then p else sA r k) < (if r' = gN G - 1 ∧ k' = gZ G (gN G - 1) then p else sA r' k')
    rcases hz r k a c with q | ⟨q, q2⟩
    · rcases hz r' k' a' c' with q' | ⟨q', q2'⟩
      · omega
      · exfalso
        obtain ⟨rfl, rfl⟩ := q
        rcases e with e | ⟨e, e'⟩
        · omega
        · rw [← e] at q2'
          omega
    · rw [if_neg q]
      rcases hz r' k' a' c' with q' | ⟨q', q2'⟩
      · rw [if_pos q']
        exact (h1 r k a q2).1
      · rw [if_neg q']
        exact h2 r k r' k' a q2 a' q2' e
  · by_cases e : i = p
    · refine .inr ⟨gN G - 1, gZ G (gN G - 1), (show gN G - 1 < gN G by omega), ?_, ?_⟩
      · show gZ G (gN G - 1) < zup (gZ G) (gN G - 1) (gZ G (gN G - 1) + 1) (gN G - 1)
        rw [zup_s]
        omega
      · show (if gN G - 1 = gN G - 1 ∧ gZ G (gN G - 1) = gZ G (gN G - 1) then p else sA _ _) = i
        rw [if_pos ⟨rfl, rfl⟩, e]
    · rcases h3 i (by omega) hi2 with q | ⟨r, k, q1, q2, q3⟩
      · exact .inl q
      · have hne : ¬ (r = gN G - 1 ∧ k = gZ G (gN G - 1)) := fun q => by
          rw [q.1, q.2] at q2
          omega
        refine .inr ⟨r, k, q1, ?_, ?_⟩
        · show k < zup (gZ G) (gN G - 1) (gZ G (gN G - 1) + 1) r
          by_cases er : r = gN G - 1
          · rw [er] at q2 ⊢
            rw [zup_s]
            omega
          · rw [zup_o _ er]
            exact q2
        · show (if r = gN G - 1 ∧ k = gZ G (gN G - 1) then p else sA r k) = i
          rw [if_neg hne]
          exact q3
