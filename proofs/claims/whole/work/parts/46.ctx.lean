/-! WHAT BOTH SIDES HOLD: a grammar, a snapshot (text, struck rules, bans, filters), and the cells that tell them -/
/-- rules, lefts (26 to 51), sizes, symbols, ranks, sides -/
abbrev zG : Type := Nat × (Nat → Nat) × (Nat → Nat) × (Nat → Nat → Nat) × (Nat → Nat) × (Nat → Nat)
def gN (g : zG) : Nat := g.1
def gL (g : zG) (r : Nat) : Nat := g.2.1 r
def gZ (g : zG) (r : Nat) : Nat := g.2.2.1 r
def gS (g : zG) (r k : Nat) : Nat := g.2.2.2.1 r k
def gR (g : zG) (r : Nat) : Nat := g.2.2.2.2.1 r
def gD (g : zG) (r : Nat) : Nat := g.2.2.2.2.2 r
/-- length, letters, struck, bans (12 * (4 * rule + place) + below), filters -/
abbrev zSn : Type := Nat × (Nat → Nat) × Int32 × List Nat × Int32
def sL (s : zSn) : Nat := s.1
def sX (s : zSn) (k : Nat) : Nat := s.2.1 k
def sT (s : zSn) : Int32 := s.2.2.1
def sB (s : zSn) : List Nat := s.2.2.2.1
def sF (s : zSn) : Int32 := s.2.2.2.2
/-- how many below n -/
def zcnt (p : Nat → Bool) : Nat → Nat
  | 0 => 0
  | n + 1 => zcnt p n + (if p n then 1 else 0)
def gleft (g : zG) (c : Nat) : Bool := (List.range (gN g)).any fun r => gL g r == 26 + c
def zwg (g : zG) : Prop := gN g ≤ 12 ∧ (∀ r, r < gN g → 26 ≤ gL g r ∧ gL g r < 52 ∧ gZ g r ≤ 4 ∧ gR g r ≤ 9 ∧ gD g r ≤ 3 ∧ ∀ k, k < gZ g r → gS g r k < 52 ∧ (26 ≤ gS g r k → ∃ q, q < gN g ∧ gL g q = gS g r k)) ∧ zcnt (gleft g) 26 ≤ 5
def zws (g : zG) (s : zSn) : Prop := sL s ≤ 12 ∧ (∀ k, k < sL s → sX s k < 26) ∧ (∀ j, j < 32 → bt (sT s) j = true → j < gN g) ∧ (∃ f, f < 8 ∧ sF s = nI f) ∧ (sB s).length ≤ 8 ∧ (sB s).Nodup ∧ (∀ x, x ∈ sB s → ∃ r k q, r < gN g ∧ k < gZ g r ∧ q < gN g ∧ x = 12 * (4 * r + k) + q)
/-- a rule that is told and not struck -/
def zon (g : zG) (s : zSn) (r : Nat) : Bool := decide (r < gN g) && !bt (sT s) r
theorem zon_lt {g : zG} {s : zSn} {r : Nat} (h : zon g s r = true) : r < gN g := by
  unfold zon at h
  simp only [Bool.and_eq_true, decide_eq_true_eq] at h
  exact h.1
-- the class's cells
def zcG (o l z rk sd sy u : Nat) (g : zG) (μ : zzM) : Prop := μ.1 o 0 = nI (gN g) ∧ (∀ j, j < 32 → bt (μ.1 o 1) j = decide (∃ r, r < gN g ∧ gL g r = 26 + j)) ∧ (∀ r, r < gN g → μ.1 l r = nI (gL g r)) ∧ (∀ r, r < gN g → μ.1 z r = nI (gZ g r)) ∧ (∀ r, r < gN g → μ.1 rk r = nI (gR g r)) ∧ (∀ r, r < gN g → μ.1 sd r = nI (gD g r)) ∧ (∀ r k, r < gN g → k < gZ g r → μ.1 sy (r * 4 + k) = nI (gS g r k)) ∧ (∀ c, c < 26 → ∀ j, j < 32 → bt (μ.1 u c) j = decide (j < gN g ∧ gL g j = 26 + c))
def zc2 (g : zG) (s : zSn) (μ : zzM) : Prop := zcG 3 4 5 6 7 8 9 g μ ∧ μ.1 2 2 = nI (sL s) ∧ (∀ k, k < sL s → μ.1 10 k = nI (sX s k)) ∧ μ.1 2 3 = sT s ∧ μ.1 2 6 = sF s ∧ μ.1 2 5 = nI (sB s).length ∧ (∀ p, p < 48 → ∀ q, q < 12 → bt (μ.1 11 p) q = decide (12 * p + q ∈ sB s))
-- the reference's cells
def zmG (g : zG) (μ : zzM) : Prop := μ.1 106 0 = nI (gN g) ∧ μ.1 106 1 = (if gN g = 0 then -(nI 1) else nI (gL g 0)) ∧ (∀ r, r < gN g → μ.1 107 r = nI (gL g r)) ∧ (∀ r, r < gN g → μ.1 108 r = nI (gZ g r)) ∧ (∀ r k, r < gN g → k < gZ g r → μ.1 109 (4 * r + k) = nI (gS g r k)) ∧ (∀ r, r < gN g → μ.1 110 r = nI (gR g r)) ∧ (∀ r, r < gN g → μ.1 111 r = nI (gD g r))
def zm2 (g : zG) (s : zSn) (μ : zzM) : Prop := zmG g μ ∧ μ.1 106 2 = nI (sL s) ∧ (∀ k, k < sL s → μ.1 112 k = nI (sX s k)) ∧ μ.1 106 3 = sT s ∧ μ.1 106 5 = sF s ∧ μ.1 106 4 = nI (sB s).length ∧ (∀ k (h : k < (sB s).length), μ.1 113 k = nI ((sB s)[k]))
theorem zcG_fr {o l z rk sd sy u : Nat} {g : zG} {μ μ' : zzM} {L : List Nat} (h : zcG o l z rk sd sy u g μ) (hf : zfr L μ μ') (hl : [o, l, z, rk, sd, sy, u].all (fun c => !L.elem c) = true) : zcG o l z rk sd sy u g μ' := by
  have hn : ∀ c, c ∈ [o, l, z, rk, sd, sy, u] → μ'.1 c = μ.1 c := fun c hc => zf_i hf (by have := List.all_eq_true.1 hl c hc; simpa using this)
  unfold zcG at h ⊢
  rw [hn o (by simp), hn l (by simp), hn z (by simp), hn rk (by simp), hn sd (by simp), hn sy (by simp), hn u (by simp)]
  exact h
theorem zc2_fr {g : zG} {s : zSn} {μ μ' : zzM} {L : List Nat} (h : zc2 g s μ) (hf : zfr L μ μ') (hl : [2, 3, 4, 5, 6, 7, 8, 9, 10, 11].all (fun c => !L.elem c) = true) : zc2 g s μ' := by
  have hn : ∀ c, c ∈ [2, 3, 4, 5, 6, 7, 8, 9, 10, 11] → μ'.1 c = μ.1 c := fun c hc => zf_i hf (by have := List.all_eq_true.1 hl c hc; simpa using this)
  unfold zc2 zcG at h ⊢
  rw [hn 2 (by simp), hn 3 (by simp), hn 4 (by simp), hn 5 (by simp), hn 6 (by simp), hn 7 (by simp), hn 8 (by simp), hn 9 (by simp), hn 10 (by simp), hn 11 (by simp)]
  exact h
theorem zm2_fr {g : zG} {s : zSn} {μ μ' : zzM} {L : List Nat} (h : zm2 g s μ) (hf : zfr L μ μ') (hl : [106, 107, 108, 109, 110, 111, 112, 113].all (fun c => !L.elem c) = true) : zm2 g s μ' := by
  have hn : ∀ c, c ∈ [106, 107, 108, 109, 110, 111, 112, 113] → μ'.1 c = μ.1 c := fun c hc => zf_i hf (by have := List.all_eq_true.1 hl c hc; simpa using this)
  unfold zm2 zmG at h ⊢
  rw [hn 106 (by simp), hn 107 (by simp), hn 108 (by simp), hn 109 (by simp), hn 110 (by simp), hn 111 (by simp), hn 112 (by simp), hn 113 (by simp)]
  exact h
-- reading them
theorem c_n {g : zG} {s : zSn} {μ : zzM} (h : zc2 g s μ) : μ.1 3 0 = nI (gN g) := h.1.1
theorem c_lf {g : zG} {s : zSn} {μ : zzM} (h : zc2 g s μ) {j : Nat} (hj : j < 32) : bt (μ.1 3 1) j = decide (∃ r, r < gN g ∧ gL g r = 26 + j) := h.1.2.1 j hj
theorem c_l {g : zG} {s : zSn} {μ : zzM} (h : zc2 g s μ) {r : Nat} (hr : r < gN g) : μ.1 4 r = nI (gL g r) := h.1.2.2.1 r hr
theorem c_z {g : zG} {s : zSn} {μ : zzM} (h : zc2 g s μ) {r : Nat} (hr : r < gN g) : μ.1 5 r = nI (gZ g r) := h.1.2.2.2.1 r hr
theorem c_rk {g : zG} {s : zSn} {μ : zzM} (h : zc2 g s μ) {r : Nat} (hr : r < gN g) : μ.1 6 r = nI (gR g r) := h.1.2.2.2.2.1 r hr
theorem c_sd {g : zG} {s : zSn} {μ : zzM} (h : zc2 g s μ) {r : Nat} (hr : r < gN g) : μ.1 7 r = nI (gD g r) := h.1.2.2.2.2.2.1 r hr
theorem c_s {g : zG} {s : zSn} {μ : zzM} (h : zc2 g s μ) {r k : Nat} (hr : r < gN g) (hk : k < gZ g r) : μ.1 8 (r * 4 + k) = nI (gS g r k) := h.1.2.2.2.2.2.2.1 r k hr hk
theorem c_u {g : zG} {s : zSn} {μ : zzM} (h : zc2 g s μ) {c j : Nat} (hc : c < 26) (hj : j < 32) : bt (μ.1 9 c) j = decide (j < gN g ∧ gL g j = 26 + c) := h.1.2.2.2.2.2.2.2 c hc j hj
theorem c_len {g : zG} {s : zSn} {μ : zzM} (h : zc2 g s μ) : μ.1 2 2 = nI (sL s) := h.2.1
theorem c_x {g : zG} {s : zSn} {μ : zzM} (h : zc2 g s μ) {k : Nat} (hk : k < sL s) : μ.1 10 k = nI (sX s k) := h.2.2.1 k hk
theorem c_st {g : zG} {s : zSn} {μ : zzM} (h : zc2 g s μ) : μ.1 2 3 = sT s := h.2.2.2.1
theorem c_f {g : zG} {s : zSn} {μ : zzM} (h : zc2 g s μ) : μ.1 2 6 = sF s := h.2.2.2.2.1
theorem c_bn {g : zG} {s : zSn} {μ : zzM} (h : zc2 g s μ) : μ.1 2 5 = nI (sB s).length := h.2.2.2.2.2.1
theorem c_b {g : zG} {s : zSn} {μ : zzM} (h : zc2 g s μ) {p q : Nat} (hp : p < 48) (hq : q < 12) : bt (μ.1 11 p) q = decide (12 * p + q ∈ sB s) := h.2.2.2.2.2.2 p hp q hq
theorem d_n {g : zG} {s : zSn} {μ : zzM} (h : zm2 g s μ) : μ.1 106 0 = nI (gN g) := h.1.1
theorem d_start {g : zG} {s : zSn} {μ : zzM} (h : zm2 g s μ) (hn : 0 < gN g) : μ.1 106 1 = nI (gL g 0) := by
  rw [h.1.2.1, if_neg (by omega)]
theorem d_l {g : zG} {s : zSn} {μ : zzM} (h : zm2 g s μ) {r : Nat} (hr : r < gN g) : μ.1 107 r = nI (gL g r) := h.1.2.2.1 r hr
theorem d_z {g : zG} {s : zSn} {μ : zzM} (h : zm2 g s μ) {r : Nat} (hr : r < gN g) : μ.1 108 r = nI (gZ g r) := h.1.2.2.2.1 r hr
theorem d_s {g : zG} {s : zSn} {μ : zzM} (h : zm2 g s μ) {r k : Nat} (hr : r < gN g) (hk : k < gZ g r) : μ.1 109 (4 * r + k) = nI (gS g r k) := h.1.2.2.2.2.1 r k hr hk
theorem d_rk {g : zG} {s : zSn} {μ : zzM} (h : zm2 g s μ) {r : Nat} (hr : r < gN g) : μ.1 110 r = nI (gR g r) := h.1.2.2.2.2.2.1 r hr
theorem d_sd {g : zG} {s : zSn} {μ : zzM} (h : zm2 g s μ) {r : Nat} (hr : r < gN g) : μ.1 111 r = nI (gD g r) := h.1.2.2.2.2.2.2 r hr
theorem d_len {g : zG} {s : zSn} {μ : zzM} (h : zm2 g s μ) : μ.1 106 2 = nI (sL s) := h.2.1
theorem d_x {g : zG} {s : zSn} {μ : zzM} (h : zm2 g s μ) {k : Nat} (hk : k < sL s) : μ.1 112 k = nI (sX s k) := h.2.2.1 k hk
theorem d_st {g : zG} {s : zSn} {μ : zzM} (h : zm2 g s μ) : μ.1 106 3 = sT s := h.2.2.2.1
theorem d_f {g : zG} {s : zSn} {μ : zzM} (h : zm2 g s μ) : μ.1 106 5 = sF s := h.2.2.2.2.1
theorem d_bn {g : zG} {s : zSn} {μ : zzM} (h : zm2 g s μ) : μ.1 106 4 = nI (sB s).length := h.2.2.2.2.2.1
theorem d_b {g : zG} {s : zSn} {μ : zzM} (h : zm2 g s μ) {k : Nat} (hk : k < (sB s).length) : μ.1 113 k = nI ((sB s)[k]) := h.2.2.2.2.2.2 k hk
theorem g_n {g : zG} (h : zwg g) : gN g ≤ 12 := h.1
theorem g_l {g : zG} (h : zwg g) {r : Nat} (hr : r < gN g) : 26 ≤ gL g r ∧ gL g r < 52 := ⟨(h.2.1 r hr).1, (h.2.1 r hr).2.1⟩
theorem g_z {g : zG} (h : zwg g) {r : Nat} (hr : r < gN g) : gZ g r ≤ 4 := (h.2.1 r hr).2.2.1
theorem g_s {g : zG} (h : zwg g) {r k : Nat} (hr : r < gN g) (hk : k < gZ g r) : gS g r k < 52 := ((h.2.1 r hr).2.2.2.2.2 k hk).1
-- small methods of both sides over them
theorem s_symAt {g : zG} {s : zSn} {μ : zzM} (h : zc2 g s μ) (hg : zwg g) (d : Nat) {r k : Nat} (hr : r < gN g) (hk : k < gZ g r) : zzf zzP zN (d + 1) 6 [.ref 3, .int (nI r), .int (nI k)] μ = some ((nI (gS g r k), 0, 0), μ) := by
  have h1 := g_n hg
  have h2 := g_z hg hr
  rw [u_gram_symbolAt_3, zq_mul, zq_add, zr_i _ _ (by omega) (by omega), Option.bind_some, c_s h hr hk]
theorem s_span (d : Nat) {m n : Nat} (hn : n < 1000) (hm : m < 1000) (μ : zzM) : zzf zzP zN (d + 1) 135 [.int (nI m), .int (nI n)] μ = some ((nI (n * (n + 1) / 2 + m), 0, 0), μ) := by
  have hb : n * (n + 1) ≤ 1000 * 1000 := Nat.mul_le_mul (by omega) (by omega)
  rw [u_pf_span, zq_add, zq_mul, pk_shrN (by omega) _ 1 (by decide +kernel), zq_add]
theorem b_low : ∀ n, n < 32 → ∀ j, j < 32 → bt ((nI 1 <<< (nI n &&& 31)) - nI 1) j = decide (j < n) := by decide +kernel
/-- rules that are told and not struck, as bits -/
def zTo (g : zG) (s : zSn) : Int32 := ((nI 1 <<< (nI (gN g) &&& 31)) - nI 1) &&& (sT s ^^^ (-(nI 1)))
theorem zTo_b {g : zG} {s : zSn} (hg : zwg g) {j : Nat} (hj : j < 32) : bt (zTo g s) j = zon g s j := by
  have h1 := g_n hg
  unfold zTo zon
  rw [b_and, b_low _ (by omega) j hj, b_not hj]
theorem s_told {g : zG} {s : zSn} {μ : zzM} (h : zc2 g s μ) (d : Nat) : zzf zzP zN (d + 1) 22 [.ref 2] μ = some ((zTo g s, 0, 0), μ) := by
  rw [u_set_toldRules, c_n h, c_st h]
  rfl
theorem s_isTold {g : zG} {s : zSn} {μ : zzM} (h : zc2 g s μ) (hg : zwg g) (d : Nat) {r : Nat} (hr : r < 32) : zzf zzP zN (d + 2) 23 [.ref 2, .int (nI r)] μ = some ((zB (zon g s r), 0, 0), μ) := by
  rw [u_set_isTold, s_told h, Option.bind_some]
  simp (disch := omega) only [b_bit]
  rw [zTo_b hg hr]
  simp only [zk_0, zk_1, if_true]
  cases zon g s r <;> simp <;> rfl
theorem s_isAmong (d : Nat) {x : Nat} (hx : x < 52) (e : Int32) (μ : zzM) : zzf zzP zN (d + 1) 9 [.int (nI x), .int e] μ = some ((zB (decide (26 ≤ x) && bt e (x - 26)), 0, 0), μ) := by
  rw [u_gram_isAmong]
  simp only [zk_0, zk_1, if_true, zq_lt (show x < 2147483648 by omega) (show 26 < 2147483648 by omega)]
  by_cases h : x < 26
  · rw [if_pos h, decide_eq_false (by omega)]
    rfl
  · rw [if_neg h, zq_sub (by omega)]
    simp (disch := omega) only [b_bit]
    rw [decide_eq_true (by omega)]
    cases bt e (x - 26) <;> simp <;> rfl
/-- a symbol is a capital of a set -/
def zam (e : Int32) (x : Nat) : Bool := decide (26 ≤ x) && bt e (x - 26)
theorem s_nulled {g : zG} {s : zSn} {μ : zzM} (h : zc2 g s μ) (hg : zwg g) (d : Nat) {r : Nat} (hr : r < gN g) (e : Int32) : zw (zzf zzP zN (d + 2) 8 [.ref 3, .int (nI r), .int e] μ) fun o => o.2 = μ ∧ ∀ p, p < 32 → (bt o.1.1 p = true ↔ p ≤ gZ g r ∧ ∀ k, p ≤ k → k < gZ g r → zam e (gS g r k) = true) := by
  have hn := g_n hg
  have hz := g_z hg hr
  rw [u_gram_nulledPoints, zr_i _ _ (by omega) (by omega), c_z h hr, Option.bind_some, Option.bind_some]
  refine zl_dn (fun j (x : Int32) => ([nI r, e, x, nJ j], [], μ)) (fun j x => (∀ k, j ≤ k → k < gZ g r → zam e (gS g r k) = true) ∧ ∀ p, p < 32 → (bt x p = true ↔ j ≤ p ∧ p ≤ gZ g r)) 0 (gZ g r) _ (by omega) (by omega) rfl ?_ ?_ ?_
  · refine ⟨fun k h1 h2 => absurd h2 (by omega), fun p hp => ?_⟩
    rw [b_sh1 (by omega) hp, decide_eq_true_eq]
    omega
  · rintro j x g' - hj ⟨h1, h2⟩ hgo
    simp only [zI0, zI1, zI2, zI3, zI4, zI5, zI6, zI7, zI8, zJ0, zJ1, zJ2, zMM]
    rw [nJ_s, if_neg (nI_pos (by omega)), s_symAt h hg d hr hj, Option.bind_some, s_isAmong d (g_s hg hr hj), Option.bind_some]
    simp only [zB_0]
    have e0 : (decide (26 ≤ gS g r j) && bt e (gS g r j - 26)) = zam e (gS g r j) := rfl
    rw [e0]
    cases hz2 : zam e (gS g r j) with
    | false =>
      rw [if_pos rfl]
      refine zw_some ⟨rfl, fun p hp => ?_⟩
      rw [h2 p hp]
      constructor
      · rintro ⟨h3, h4⟩
        exact ⟨h4, fun k h5 h6 => h1 k (by omega) h6⟩
      · rintro ⟨h3, h4⟩
        refine ⟨?_, h3⟩
        apply Nat.lt_of_not_le
        intro h5
        rw [h4 j h5 hj] at hz2
        cases hz2
    | true =>
      rw [if_neg (by decide)]
      refine hgo _ ⟨fun k h3 h4 => ?_, fun p hp => ?_⟩
      · by_cases hk : k = j
        · rw [hk]; exact hz2
        · exact h1 k (by omega) h4
      · rw [b_or, b_sh1 (by omega) hp, Bool.or_eq_true, decide_eq_true_eq, h2 p hp]
        omega
  · rintro x g' ⟨h1, h2⟩
    simp only [zI0, zI1, zI2, zI3, zI4, zI5, zI6, zI7, zI8, zJ0, zJ1, zJ2, zMM]
    rw [if_pos (by decide)]
    refine zw_some ⟨rfl, fun p hp => ?_⟩
    rw [h2 p hp]
    constructor
    · rintro ⟨-, h4⟩
      exact ⟨h4, fun k h5 h6 => h1 k (by omega) h6⟩
    · rintro ⟨h3, -⟩
      exact ⟨by omega, h3⟩
