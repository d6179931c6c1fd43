/-! WHAT FILTERS FORBID, which rule may be below which: both sides -/
def zwsd (g : zG) (r k : Nat) : Bool := if gD g r = 1 then decide (k ≠ 0) else if gD g r = 2 then decide (k ≠ gZ g r - 1) else decide (gD g r = 3)
def zfb (g : zG) (s : zSn) (r k q : Nat) : Bool := (bt (sF s) 0 && decide (0 < gR g q ∧ gR g q < gR g r)) || ((bt (sF s) 1 && (decide (0 < gR g r ∧ gR g r = gR g q) && zwsd g r k)) || (bt (sF s) 2 && decide (12 * (4 * r + k) + q ∈ sB s)))
/-- q may be below place k of r; with the filters, or without -/
def zbl (b : Bool) (g : zG) (s : zSn) (r k q : Nat) : Bool := zon g s q && (decide (gL g q = gS g r k) && !(b && zfb g s r k q))
theorem b_n (m : Nat) (hm : m < 3) : ∀ j, j < 32 → bt (nI (2 ^ m)) j = decide (j = m) := by
  have : m = 0 ∨ m = 1 ∨ m = 2 := by omega
  rcases this with rfl | rfl | rfl <;> decide +kernel
theorem b_andp (x : Int32) (m : Nat) (hm : m < 3) : ((x &&& nI (2 ^ m)) = 0) = (bt x m = false) := by
  rw [b_and0]
  refine propext ⟨fun h => ?_, fun h j hj q => ?_⟩
  · have := h m (by omega)
    rw [b_n m hm m (by omega)] at this
    cases e : bt x m with
    | false => rfl
    | true => exact absurd ⟨e, decide_eq_true rfl⟩ this
  · rw [b_n m hm j hj, decide_eq_true_eq] at q
    rw [q.2, h] at q
    cases q.1
theorem b_and1 (x : Int32) : ((x &&& nI 1) = 0) = (bt x 0 = false) := b_andp x 0 (by omega)
theorem b_and2 (x : Int32) : ((x &&& nI 2) = 0) = (bt x 1 = false) := b_andp x 1 (by omega)
theorem b_and4 (x : Int32) : ((x &&& nI 4) = 0) = (bt x 2 = false) := b_andp x 2 (by omega)
theorem m_hasn (d : Nat) (a : Int32) {k : Nat} (hk : k < 32) (μ : zzM) : zzf zzP zN (d + 1) 174 [.int a, .int (nI k)] μ = some ((zB (bt a k), 0, 0), μ) := by
  have e : ∀ b : Bool, zB (decide ((if b then nI 1 else 0) = nI 1)) = zB b := by decide
  rw [m_has, b_bit1 a hk, e]
theorem g_r {g : zG} (h : zwg g) {r : Nat} (hr : r < gN g) : gR g r ≤ 9 := (h.2.1 r hr).2.2.2.1
theorem g_d {g : zG} (h : zwg g) {r : Nat} (hr : r < gN g) : gD g r ≤ 3 := (h.2.1 r hr).2.2.2.2.1
theorem s_isBan {g : zG} {s : zSn} {μ : zzM} (h : zc2 g s μ) (d : Nat) {p q : Nat} (hp : p < 48) (hq : q < 12) : zzf zzP zN (d + 1) 27 [.ref 2, .int (nI p), .int (nI q)] μ = some ((zB (decide (12 * p + q ∈ sB s)), 0, 0), μ) := by
  rw [u_set_isBan, zr_i _ _ hp (by omega), Option.bind_some]
  simp only [zk_0, zk_1, if_true]
  simp (disch := omega) only [b_bit]
  rw [c_b h hp hq]
  by_cases e : 12 * p + q ∈ sB s <;> simp [e] <;> rfl
theorem zif_B (p : Prop) [Decidable p] (μ : zzM) : (if p then some ((nI 0, 0, 0), μ) else some ((nI 1, 0, 0), μ) : Option zzR) = some ((zB (!decide p), 0, 0), μ) := by
  by_cases h : p <;> simp [h] <;> rfl
theorem s_wrong {g : zG} {s : zSn} {μ : zzM} (h : zc2 g s μ) (hg : zwg g) (d : Nat) {r k : Nat} (hr : r < gN g) (hk : k < gZ g r) : zzf zzP zN (d + 1) 30 [.ref 2, .int (nI r), .int (nI k)] μ = some ((zB (zwsd g r k), 0, 0), μ) := by
  have hn := g_n hg
  have hz := g_z hg hr
  have hd := g_d hg hr
  rw [u_set_isWrongSide, zr_i _ _ (by omega) (by omega), c_sd h hr, Option.bind_some, zr_i _ _ (by omega) (by omega), c_z h hr, Option.bind_some, zq_sub (by omega)]
  simp only [zk_0, zk_1, if_true]
  simp (disch := omega) only [zq_eq, zq_e0]
  unfold zwsd
  by_cases h1 : gD g r = 1
  · rw [if_pos h1, if_pos h1, zif_B]
    simp
  · rw [if_neg h1, if_neg h1]
    by_cases h2 : gD g r = 2
    · rw [if_pos h2, if_pos h2, zif_B]
      simp
    · rw [if_neg h2, if_neg h2]
      by_cases h3 : gD g r = 3 <;> simp [h3] <;> rfl
theorem s_isForb {g : zG} {s : zSn} {μ : zzM} (h : zc2 g s μ) (hg : zwg g) (d : Nat) {r k q : Nat} (hr : r < gN g) (hk : k < gZ g r) (hq : q < gN g) : zzf zzP zN (d + 2) 29 [.ref 2, .int (nI r), .int (nI k), .int (nI q)] μ = some ((zB (zfb g s r k q), 0, 0), μ) := by
  have hn := g_n hg
  have hz := g_z hg hr
  have h1 := g_r hg hr
  have h2 := g_r hg hq
  have hJ : J29_a zN (d + 1) (nI r) (nI k) (nI q) μ = some ((zB (bt (sF s) 2 && decide (12 * (4 * r + k) + q ∈ sB s)), 0, 0), μ) := by
    unfold J29_a
    rw [zq_mul, zq_add, s_isBan h d (by omega) (by omega), Option.bind_some, Nat.mul_comm r 4, c_f h]
    simp only [zk_0, zk_1, if_true, zB_0, b_and4]
    cases bt (sF s) 2
    · rfl
    · by_cases e : 12 * (4 * r + k) + q ∈ sB s <;> simp [e] <;> rfl
  have hJb : J29_b zN (d + 1) (nI r) (nI k) (nI q) (nI (gR g r)) (nI (gR g q)) μ = some ((zB ((bt (sF s) 1 && (decide (0 < gR g r ∧ gR g r = gR g q) && zwsd g r k)) || (bt (sF s) 2 && decide (12 * (4 * r + k) + q ∈ sB s))), 0, 0), μ) := by
    unfold J29_b
    rw [s_wrong h hg d hr hk, Option.bind_some, hJ, c_f h]
    simp only [b_and2]
    simp only [zk_0, zk_1, if_true]
    simp (disch := omega) only [zB_0, zq_le0, zq_eq]
    cases bt (sF s) 1
    · rfl
    · rw [if_neg (by decide)]
      by_cases e0 : gR g r = 0
      · rw [if_pos e0]
        simp [e0]
      · rw [if_neg e0]
        by_cases e1 : gR g r = gR g q
        · rw [if_pos e1]
          have : 0 < gR g r := by omega
          cases zwsd g r k
          · simp
          · rw [decide_eq_true (p := 0 < gR g r ∧ gR g r = gR g q) ⟨this, e1⟩]
            rfl
        · rw [if_neg e1]
          simp [e1]
  rw [w_set_isForbidden, zr_i _ _ (by omega) (by omega), c_rk h hr, Option.bind_some, zr_i _ _ (by omega) (by omega), c_rk h hq, Option.bind_some, hJb, c_f h]
  simp only [b_and1]
  simp only [zk_0, zk_1, if_true]
  simp (disch := omega) only [zq_le0, zq_le]
  unfold zfb
  cases bt (sF s) 0
  · rfl
  · rw [if_neg (by decide)]
    by_cases e0 : gR g q = 0
    · rw [if_pos e0]
      simp [e0]
    · rw [if_neg e0]
      by_cases e1 : gR g r ≤ gR g q
      · rw [if_pos e1, decide_eq_false (p := 0 < gR g q ∧ gR g q < gR g r) (by omega)]
        rfl
      · rw [if_neg e1, decide_eq_true (p := 0 < gR g q ∧ gR g q < gR g r) (by omega)]
        rfl
-- the reference's
theorem m_side {g : zG} {s : zSn} {μ : zzM} (h : zm2 g s μ) (hg : zwg g) (d : Nat) {r k : Nat} (hr : r < gN g) (hk : k < gZ g r) : zzf zzP zN (d + 1) 250 [.ref 105, .int (nI r), .int (nI k)] μ = some ((zB (zwsd g r k), 0, 0), μ) := by
  have hn := g_n hg
  have hz := g_z hg hr
  have hd := g_d hg hr
  rw [u_m_isBySide, zr_i _ _ (by omega) (by omega), d_sd h hr, Option.bind_some, zr_i _ _ (by omega) (by omega), d_z h hr, Option.bind_some, zq_sub (by omega)]
  simp only [zk_0, zk_1, if_true]
  simp (disch := omega) only [zq_eq, zq_e0]
  unfold zwsd
  by_cases h1 : gD g r = 1
  · rw [if_pos h1, if_pos h1, zif_B]
    simp
  · rw [if_neg h1, if_neg h1]
    by_cases h2 : gD g r = 2
    · rw [if_pos h2, if_pos h2, zif_B]
      simp
    · rw [if_neg h2, if_neg h2]
      by_cases h3 : gD g r = 3 <;> simp [h3] <;> rfl
/-- the place of a ban, or none -/
theorem m_banOf {g : zG} {s : zSn} {μ : zzM} (h : zm2 g s μ) (hw : (sB s).length ≤ 8) (hb : ∀ x, x ∈ sB s → x < 2147483648) (d : Nat) {c : Nat} (hc : c < 2147483648) : zw (zzf zzP zN (d + 1) 246 [.ref 105, .int (nI c)] μ) fun o => o.2 = μ ∧ ((c ∉ sB s ∧ o.1.1 = -(nI 1)) ∨ ∃ k, ∃ hk : k < (sB s).length, (sB s)[k] = c ∧ o.1.1 = nI k) := by
  rw [u_m_banOf]
  refine zl_up (fun i (_ : Unit) => ([nI c, nI i], [], μ)) (fun i _ => ∀ k (hk : k < (sB s).length), k < i → ¬ (sB s)[k] = c) 0 (sB s).length () (by omega) (by omega) rfl (fun k _ q => absurd q (by omega)) ?_ ?_
  · rintro i - g' - hi hI hgo
    simp only [zI0, zI1, zI2, zI3, zI4, zI5, zI6, zI7, zI8, zJ0, zJ1, zJ2, zMM]
    rw [zr_i _ _ (by omega) (by omega), d_bn h, Option.bind_some, if_neg (by rw [zq_le (by omega) (by omega)]; omega), zr_i _ _ (by omega) (by omega), d_b h hi, Option.bind_some]
    have hb1 := hb _ (List.getElem_mem hi)
    simp (disch := omega) only [zq_eq, zq_add]
    by_cases e : (sB s)[i] = c
    · rw [if_pos e]
      exact zw_some ⟨rfl, .inr ⟨i, hi, e, rfl⟩⟩
    · rw [if_neg e]
      refine hgo () fun k hk q => ?_
      by_cases ek : k = i
      · subst ek; exact e
      · exact hI k hk (by omega)
  · rintro - g' hI
    simp only [zI0, zI1, zI2, zI3, zI4, zI5, zI6, zI7, zI8, zJ0, zJ1, zJ2, zMM]
    rw [zr_i _ _ (by omega) (by omega), d_bn h, Option.bind_some, if_pos (by rw [zq_le (by omega) (by omega)]; omega)]
    refine zw_some ⟨rfl, .inl ⟨fun q => ?_, rfl⟩⟩
    obtain ⟨k, hk, e⟩ := List.getElem_of_mem q
    exact hI k hk hk e
theorem zws_ban {g : zG} {s : zSn} (hg : zwg g) (hs : zws g s) : ∀ x, x ∈ sB s → x < 2147483648 := by
  intro x hx
  obtain ⟨r, k, q, h1, h2, h3, rfl⟩ := hs.2.2.2.2.2.2 x hx
  have hn := g_n hg
  have hz := g_z hg h1
  omega
theorem m_isForb {g : zG} {s : zSn} {μ : zzM} (h : zm2 g s μ) (hg : zwg g) (hs : zws g s) (d : Nat) {r k q : Nat} (hr : r < gN g) (hk : k < gZ g r) (hq : q < gN g) : zzf zzP zN (d + 2) 251 [.ref 105, .int (nI r), .int (nI k), .int (nI q)] μ = some ((zB (zfb g s r k q), 0, 0), μ) := by
  have hn := g_n hg
  have hz := g_z hg hr
  have h1 := g_r hg hr
  have h2 := g_r hg hq
  have hJ : J251_a zN (d + 1) (nI r) (nI k) (nI q) μ = some ((zB (bt (sF s) 2 && decide (12 * (4 * r + k) + q ∈ sB s)), 0, 0), μ) := by
    unfold J251_a
    rw [zr_i _ _ (by omega) (by omega), Option.bind_some, d_f h, m_hasn _ _ (by omega), Option.bind_some]
    simp only [zk_0, zk_1, if_true, zB_0, zq_mul, zq_add]
    cases bt (sF s) 2
    · rfl
    · rw [if_neg (by decide)]
      obtain ⟨o, e, e2, e3⟩ := m_banOf h hs.2.2.2.2.1 (zws_ban hg hs) d (c := 12 * (4 * r + k) + q) (by omega)
      rw [e, Option.bind_some, e2]
      rcases e3 with ⟨e4, e5⟩ | ⟨j, hj, e4, e5⟩
      · rw [e5, if_pos rfl]
        simp [e4]
        rfl
      · have hl := hs.2.2.2.2.1
        have := List.getElem_mem hj
        rw [e4] at this
        rw [e5, if_neg (by rw [zq_em (by omega)]; exact id)]
        simp [this]
        rfl
  have hJb : ∀ b : Bool, b = decide (0 < gR g r ∧ 0 < gR g q) → J251_b zN (d + 1) (nI r) (nI k) (nI q) (zB b) μ = some ((zB ((bt (sF s) 1 && (decide (0 < gR g r ∧ gR g r = gR g q) && zwsd g r k)) || (bt (sF s) 2 && decide (12 * (4 * r + k) + q ∈ sB s))), 0, 0), μ) := by
    intro b hb
    unfold J251_b
    rw [zr_i _ _ (by omega) (by omega), Option.bind_some, d_f h, m_hasn _ _ (by omega), Option.bind_some, hJ, zr_i _ _ (by omega) (by omega), d_rk h hq, Option.bind_some, zr_i _ _ (by omega) (by omega), d_rk h hr, Option.bind_some, m_side h hg d hr hk, Option.bind_some, hJ]
    simp only [zk_0, zk_1, if_true]
    simp (disch := omega) only [zB_0, zq_eq]
    cases bt (sF s) 1
    · rfl
    · rw [if_neg (by decide)]
      by_cases e1 : gR g q = gR g r
      · by_cases e0 : gR g r = 0
        · rw [hb, decide_eq_false (by omega), if_pos rfl]
          simp [e0]
        · rw [hb, decide_eq_true (by omega), if_neg (by decide), if_pos e1]
          have : 0 < gR g r := by omega
          cases zwsd g r k
          · simp
          · simp [e1, this]
            rfl
      · rw [if_neg e1]
        have e2 : ¬ gR g r = gR g q := fun q => e1 q.symm
        simp [e2]
  have hJc : ∀ b : Bool, b = decide (0 < gR g r ∧ 0 < gR g q) → J251_c zN (d + 1) (nI r) (nI k) (nI q) (zB b) μ = some ((zB (zfb g s r k q), 0, 0), μ) := by
    intro b hb
    unfold J251_c
    rw [zr_i _ _ (by omega) (by omega), Option.bind_some, d_f h, m_hasn _ _ (by omega), Option.bind_some, hJb b hb, zr_i _ _ (by omega) (by omega), d_rk h hq, Option.bind_some, zr_i _ _ (by omega) (by omega), d_rk h hr, Option.bind_some]
    simp only [zk_0, zk_1, if_true]
    simp (disch := omega) only [zB_0, zq_le]
    unfold zfb
    cases bt (sF s) 0
    · rfl
    · rw [if_neg (by decide)]
      by_cases e1 : gR g r ≤ gR g q
      · rw [if_pos e1, decide_eq_false (p := 0 < gR g q ∧ gR g q < gR g r) (by omega)]
        cases b <;> rfl
      · rw [if_neg e1]
        by_cases e0 : gR g q = 0
        · rw [hb, decide_eq_false (by omega), if_pos rfl, decide_eq_false (p := 0 < gR g q ∧ gR g q < gR g r) (by omega)]
          rfl
        · rw [hb, decide_eq_true (by omega), if_neg (by decide), decide_eq_true (p := 0 < gR g q ∧ gR g q < gR g r) (by omega)]
          rfl
  rw [w_m_isForbidden, zr_i _ _ (by omega) (by omega), d_rk h hr, Option.bind_some, zr_i _ _ (by omega) (by omega), d_rk h hq, Option.bind_some]
  simp (disch := omega) only [zq_le0]
  by_cases e0 : gR g r = 0
  · rw [if_pos e0]
    exact hJc false (by rw [decide_eq_false (by omega)])
  · rw [if_neg e0]
    by_cases e1 : gR g q = 0
    · rw [if_pos e1]
      exact hJc false (by rw [decide_eq_false (by omega)])
    · rw [if_neg e1]
      exact hJc true (by rw [decide_eq_true (by omega)])
theorem m_isBelow {g : zG} {s : zSn} {μ : zzM} (h : zm2 g s μ) (hg : zwg g) (hs : zws g s) (d : Nat) (b : Bool) {r k q : Nat} (hr : r < gN g) (hk : k < gZ g r) (hq : q < gN g) : zzf zzP zN (d + 3) 253 [.ref 105, .int (zB b), .int (nI r), .int (nI k), .int (nI q)] μ = some ((zB (zbl b g s r k q), 0, 0), μ) := by
  have hn := g_n hg
  have h1 := g_l hg hq
  have h2 := g_s hg hr hk
  rw [u_m_isBelow, d_on h hg (d := d) hq, Option.bind_some, zr_i _ _ (by omega) (by omega), d_l h hq, Option.bind_some, d_symAt h hg hr hk, Option.bind_some, m_isForb h hg hs d hr hk hq, Option.bind_some]
  simp only [zk_0, zk_1, if_true]
  simp (disch := omega) only [zB_0, zq_eq]
  unfold zbl
  cases zon g s q
  · rfl
  · rw [if_neg (by decide)]
    by_cases e : gL g q = gS g r k
    · rw [if_pos e]
      simp only [e]
      cases b <;> cases zfb g s r k q <;> rfl
    · rw [if_neg e]
      simp only [e]
      rfl
