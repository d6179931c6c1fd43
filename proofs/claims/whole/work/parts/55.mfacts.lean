/-! FACTS of the reference: EMPTY, ENDS, REACHED -/
/-- a round: what one step gives is added; it rests, or has grown -/
theorem zround {F : (Nat → Prop) → Nat → Prop} (hF : zmon F) {n i : Nat} {X X' : Nat → Bool} (hs : ∀ c, c < n → X' c = true → zlfp F c) (hsup : ∀ P c, F P c → c < n) (h1 : ∀ c, c < n → X c = true → X' c = true) (h2 : ∀ c, c < n → F (fun c => c < n ∧ X c = true) c → X' c = true)
    (h : (∀ c, c < n → F (fun c => c < n ∧ X c = true) c → X c = true) ∨ i ≤ zcnt X n) : (∀ c, c < n → F (fun c => c < n ∧ X' c = true) c → X' c = true) ∨ i + 1 ≤ zcnt X' n := by
  rcases h with h | h
  · left
    intro c hc hf
    have hsub : ∀ c, (c < n ∧ X' c = true) → (c < n ∧ X c = true) := by
      rintro c ⟨q1, q2⟩
      have := zlfp_le (P := fun c => c < n ∧ X c = true) (fun c hf => ⟨hsup _ _ hf, h c (hsup _ _ hf) hf⟩) (hs c q1 q2)
      exact this
    exact h1 c hc (h c hc (hF _ _ hsub c hf))
  · by_cases hx : ∀ c, c < n → X' c = true → X c = true
    · left
      intro c hc hf
      exact h2 c hc (hF _ _ (fun c q => ⟨q.1, hx c q.1 q.2⟩) c hf)
    · right
      have hex : ∃ c, c < n ∧ X c = false ∧ X' c = true := by
        apply Classical.byContradiction
        intro hno
        refine hx fun c hc q => ?_
        cases hv : X c with
        | true => rfl
        | false => exact absurd ⟨c, hc, hv, q⟩ hno
      have := zcnt_lt h1 hex
      omega
theorem zrest {F : (Nat → Prop) → Nat → Prop} {n i : Nat} {X U : Nat → Bool} (hsup : ∀ P c, F P c → c < n) (h : (∀ c, c < n → F (fun c => c < n ∧ X c = true) c → X c = true) ∨ i ≤ zcnt X n) (hU : ∀ c, c < n → X c = true → U c = true) (hi : zcnt U n < i) : ∀ c, zlfp F c → c < n ∧ X c = true := by
  rcases h with h | h
  · intro c hc
    exact zlfp_le (P := fun c => c < n ∧ X c = true) (fun c hf => ⟨hsup _ _ hf, h c (hsup _ _ hf) hf⟩) hc
  · have := zcnt_mono hU
    omega
def zfE (g : zG) (s : zSn) (P : Nat → Prop) (c : Nat) : Prop := ∃ r, zon g s r = true ∧ gL g r = 26 + c ∧ ∀ k, k < gZ g r → 26 ≤ gS g r k ∧ P (gS g r k - 26)
def zfN (g : zG) (s : zSn) (P : Nat → Prop) (c : Nat) : Prop := ∃ r, zon g s r = true ∧ gL g r = 26 + c ∧ ∀ k, k < gZ g r → 26 ≤ gS g r k → P (gS g r k - 26)
theorem zfE_mo (g : zG) (s : zSn) : zmon (zfE g s) := by
  rintro P Q h c ⟨r, h1, h2, h3⟩
  exact ⟨r, h1, h2, fun k hk => ⟨(h3 k hk).1, h _ (h3 k hk).2⟩⟩
theorem zfN_mo (g : zG) (s : zSn) : zmon (zfN g s) := by
  rintro P Q h c ⟨r, h1, h2, h3⟩
  exact ⟨r, h1, h2, fun k hk hc => h _ (h3 k hk hc)⟩
theorem zfE_lt {g : zG} {s : zSn} (hg : zwg g) : ∀ P c, zfE g s P c → c < 26 := by
  rintro P c ⟨r, h1, h2, -⟩
  have := g_l hg (zon_lt h1)
  omega
theorem zfN_lt {g : zG} {s : zSn} (hg : zwg g) : ∀ P c, zfN g s P c → c < 26 := by
  rintro P c ⟨r, h1, h2, -⟩
  have := g_l hg (zon_lt h1)
  omega
theorem zfR_lt {g : zG} {s : zSn} (hg : zwg g) (hn0 : 0 < gN g) : ∀ P c, zfR g s P c → c < 26 := by
  rintro P c (h1 | ⟨r, h1, -, k, h3, h4⟩)
  · have := g_l hg hn0
    omega
  · have := g_s hg (zon_lt h1) h3
    omega
theorem zcap_left {g : zG} (hg : zwg g) {r k : Nat} (hr : r < gN g) (hk : k < gZ g r) (hc : 26 ≤ gS g r k) : gleft g (gS g r k - 26) = true := by
  obtain ⟨q, hq, e⟩ := ((hg.2.1 r hr).2.2.2.2.2 k hk).2 hc
  have := gleft_of hg hq
  rwa [e] at this
/-- heights that are enough for all -/
theorem zbound {P : Nat → Nat → Prop} (hmo : ∀ k h h', h ≤ h' → P k h → P k h') : ∀ {n : Nat}, (∀ k, k < n → ∃ h, P k h) → ∃ h, ∀ k, k < n → P k h
  | 0, _ => ⟨0, fun k hk => absurd hk (Nat.not_lt_zero _)⟩
  | n + 1, h => by
    obtain ⟨h1, e1⟩ := zbound hmo (n := n) fun k hk => h k (by omega)
    obtain ⟨h2, e2⟩ := h n (by omega)
    refine ⟨h1 + h2, fun k hk => ?_⟩
    by_cases e : k = n
    · rw [e]; exact hmo n h2 _ (by omega) e2
    · exact hmo k h1 _ (by omega) (e1 k (by omega))
theorem zE_lfp {g : zG} {s : zSn} (hg : zwg g) (c : Nat) : zlfp (zfE g s) c ↔ zE g s c := by
  constructor
  · intro h
    refine zlfp_le (P := zE g s) ?_ h
    rintro c ⟨r, h1, h2, h3⟩
    obtain ⟨hh, e⟩ := zbound (P := fun k h => zDn g s h (gS g r k - 26) 0) (fun k h h' hle hd => zDn_up hd hle) (n := gZ g r) fun k hk => (h3 k hk).2
    have e0 : ∀ n, zsuM (fun _ => 0) n = 0 := by
      intro n
      induction n with
      | zero => rfl
      | succ n ih => show zsuM _ n + 0 = 0; rw [ih]
    exact ⟨hh + 1, r, h1, h2, fun _ => 0, (e0 _).symm, fun k hk => .inr ⟨(h3 k hk).1, e k hk⟩⟩
  · rintro ⟨h, hd⟩
    induction h generalizing c with
    | zero => exact hd.elim
    | succ h ih =>
      obtain ⟨r, h1, h2, p, h3, h4⟩ := hd
      refine zlfp_in (zfE_mo g s) ⟨r, h1, h2, fun k hk => ?_⟩
      have h5 := zsuM_at (f := p) hk
      rcases h4 k hk with q | q
      · omega
      · refine ⟨q.1, ih _ ?_⟩
        have e : p k = 0 := by omega
        rw [e] at q
        exact q.2
theorem zN_lfp {g : zG} {s : zSn} (c : Nat) : zlfp (zfN g s) c ↔ ∃ h v, zDn g s h c v := by
  constructor
  · intro h
    refine zlfp_le (P := fun c => ∃ h v, zDn g s h c v) ?_ h
    rintro c ⟨r, h1, h2, h3⟩
    have hp : ∀ k, ∃ v, k < gZ g r → ∃ h, (gS g r k < 26 ∧ v = 1) ∨ (26 ≤ gS g r k ∧ zDn g s h (gS g r k - 26) v) := by
      intro k
      by_cases hk : k < gZ g r
      · by_cases hc : 26 ≤ gS g r k
        · obtain ⟨hh, v, hd⟩ := h3 k hk hc
          exact ⟨v, fun _ => ⟨hh, .inr ⟨hc, hd⟩⟩⟩
        · exact ⟨1, fun _ => ⟨0, .inl ⟨by omega, rfl⟩⟩⟩
      · exact ⟨0, fun q => absurd q hk⟩
    let p : Nat → Nat := fun k => Classical.choose (hp k)
    have hp2 : ∀ k, k < gZ g r → ∃ h, (gS g r k < 26 ∧ p k = 1) ∨ (26 ≤ gS g r k ∧ zDn g s h (gS g r k - 26) (p k)) := fun k hk => Classical.choose_spec (hp k) hk
    obtain ⟨hh, e⟩ := zbound (P := fun k h => (gS g r k < 26 ∧ p k = 1) ∨ (26 ≤ gS g r k ∧ zDn g s h (gS g r k - 26) (p k))) (fun k h h' hle hd => hd.imp id fun q => ⟨q.1, zDn_up q.2 hle⟩) hp2
    exact ⟨hh + 1, zsuM p (gZ g r), r, h1, h2, p, rfl, e⟩
  · rintro ⟨h, v, hd⟩
    induction h generalizing c v with
    | zero => exact hd.elim
    | succ h ih =>
      obtain ⟨r, h1, h2, p, h3, h4⟩ := hd
      refine zlfp_in (zfN_mo g s) ⟨r, h1, h2, fun k hk hc => ?_⟩
      rcases h4 k hk with q | q
      · omega
      · exact ih _ _ q.2
-- small methods
theorem d_on {g : zG} {s : zSn} {μ : zzM} (h : zm2 g s μ) (hg : zwg g) (d : Nat) {r : Nat} (hr : r < gN g) : zzf zzP zN (d + 2) 177 [.ref 105, .int (nI r)] μ = some ((zB (zon g s r), 0, 0), μ) := by
  have hn := g_n hg
  rw [m_isOn, d_st h, b_bit1 _ (by omega)]
  unfold zon
  rw [decide_eq_true hr, Bool.true_and]
  cases bt (sT s) r <;> rfl
/-- the bit of a capital -/
def zbo (x : Nat) : Int32 := if x < 26 then nI 0 else nI 1 <<< (nI (x - 26) &&& 31)
theorem zbo_b {x : Nat} (hx : x < 52) {c : Nat} (hc : c < 32) : bt (zbo x) c = true ↔ 26 ≤ x ∧ c = x - 26 := by
  unfold zbo
  by_cases h : x < 26
  · rw [if_pos h, b_z]
    constructor
    · intro q; cases q
    · omega
  · rw [if_neg h, b_sh1 (by omega) hc, decide_eq_true_eq]
    omega
theorem zbo_and {x : Nat} (hx : x < 52) (e : Int32) : (zbo x &&& e) = 0 ↔ zam e x = false := by
  rw [b_and0]
  unfold zam
  constructor
  · intro h
    cases hv : (decide (26 ≤ x) && bt e (x - 26)) with
    | false => rfl
    | true =>
      rw [Bool.and_eq_true, decide_eq_true_eq] at hv
      exact absurd ⟨(zbo_b hx (by omega)).2 ⟨hv.1, rfl⟩, hv.2⟩ (h (x - 26) (by omega))
  · rintro h j hj ⟨h1, h2⟩
    obtain ⟨h3, h4⟩ := (zbo_b hx hj).1 h1
    rw [← h4, h2, decide_eq_true h3] at h
    cases h
theorem m_bitOf (d : Nat) {x : Nat} (hx : x < 52) (μ : zzM) : zzf zzP zN (d + 2) 201 [.int (nI x)] μ = some ((zbo x, 0, 0), μ) := by
  rw [u_m_bitOf, m_isCapital, Option.bind_some]
  simp only [zB_0]
  unfold zbo
  have e : (nI 26 ≤ nI x) = (26 ≤ x) := zq_le (by omega) (by omega)
  by_cases h : x < 26
  · rw [if_pos (decide_eq_false (by rw [e]; omega)), if_pos h]
  · rw [if_neg (by rw [decide_eq_true (by rw [e]; omega)]; decide), if_neg h, zq_sub (by omega)]
theorem d_symAt {g : zG} {s : zSn} {μ : zzM} (h : zm2 g s μ) (hg : zwg g) {r k : Nat} (hr : r < gN g) (hk : k < gZ g r) : zzri μ 109 48 (nI 4 * nI r + nI k) = some (nI (gS g r k)) := by
  have hn := g_n hg
  have hz := g_z hg hr
  rw [zq_mul, zq_add, zr_i _ _ (by omega) (by omega), d_s h hr hk]
theorem m_areIn {g : zG} {s : zSn} {μ : zzM} (h : zm2 g s μ) (hg : zwg g) (d : Nat) (e : Int32) {r lo hi : Nat} (B : Int32) (hr : r < gN g) (hlo : lo ≤ hi) (hhi : hi ≤ gZ g r) : zw (zzf zzP zN (d + 3) 202 [.ref 105, .int e, .int (nI r), .int (nI lo), .int (nI hi), .int B] μ) fun o => o.2 = μ ∧ ∃ b, o.1.1 = zB b ∧ (b = true ↔ ∀ k, lo ≤ k → k < hi → ¬ nI k = B → zam e (gS g r k) = true) := by
  have hz := g_z hg hr
  rw [u_m_areIn]
  refine zl_up (fun k (_ : Unit) => ([e, nI r, nI hi, B, nI k], [], μ)) (fun k _ => ∀ j, lo ≤ j → j < k → ¬ nI j = B → zam e (gS g r j) = true) lo hi () hlo (by omega) rfl (fun j h1 h2 => absurd h2 (by omega)) ?_ ?_
  · rintro k - g' hlk hk hJ hgo
    have hk2 : k < gZ g r := by omega
    have hs := g_s hg hr hk2
    simp only [zI0, zI1, zI2, zI3, zI4, zI5, zI6, zI7, zI8, zJ0, zJ1, zJ2, zMM]
    rw [if_neg (by rw [zq_le (by omega) (by omega)]; omega), d_symAt h hg hr hk2, Option.bind_some, zq_add k 1]
    by_cases hB : nI k = B
    · rw [if_pos hB]
      refine hgo () fun j h1 h2 h3 => ?_
      by_cases ej : j = k
      · rw [ej] at h3; exact absurd hB h3
      · exact hJ j h1 (by omega) h3
    · rw [if_neg hB, m_bitOf _ hs, Option.bind_some]
      simp only [zbo_and hs]
      cases hv : zam e (gS g r k) with
      | false =>
        rw [if_pos rfl, if_pos (by decide)]
        refine zw_some ⟨rfl, false, rfl, ?_⟩
        constructor
        · intro q; cases q
        · intro q
          rw [q k hlk hk hB] at hv
          cases hv
      | true =>
        rw [if_neg (by decide)]
        refine hgo () fun j h1 h2 h3 => ?_
        by_cases ej : j = k
        · rw [ej]; exact hv
        · exact hJ j h1 (by omega) h3
  · rintro - g' hJ
    simp only [zI0, zI1, zI2, zI3, zI4, zI5, zI6, zI7, zI8, zJ0, zJ1, zJ2, zMM]
    rw [if_pos (by rw [zq_le (by omega) (by omega)]; omega), if_pos (by decide)]
    exact zw_some ⟨rfl, true, rfl, fun _ => hJ, fun _ => rfl⟩
