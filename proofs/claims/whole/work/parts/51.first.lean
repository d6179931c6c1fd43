/-! FIRST: the class's findFirsts -/
def zE (g : zG) (s : zSn) (c : Nat) : Prop := ∃ h, zDn g s h c 0
/-- a symbol that can be left out -/
def zEc (g : zG) (s : zSn) (x : Nat) : Prop := 26 ≤ x ∧ zE g s (x - 26)
/-- with which small a row of symbols can begin, from one place to another -/
def zFB (F : Nat → Nat → Prop) (E : Nat → Prop) (y : Nat → Nat) (lo hi p : Nat) : Prop := ∃ k, lo ≤ k ∧ k < hi ∧ (∀ j, lo ≤ j → j < k → E (y j)) ∧ ((y k < 26 ∧ p = y k) ∨ (26 ≤ y k ∧ F (y k - 26) p))
def zfF (g : zG) (s : zSn) (a : Nat) (P : Nat → Prop) (c : Nat) : Prop := ∃ r, zon g s r = true ∧ gL g r = 26 + c ∧ zFB (fun c _ => P c) (zEc g s) (gS g r) 0 (gZ g r) a
def zFi (g : zG) (s : zSn) (a : Nat) : Nat → Prop := zlfp (zfF g s a)
theorem zfF_mo (g : zG) (s : zSn) (a : Nat) : zmon (zfF g s a) := by
  rintro P Q h c ⟨r, h1, h2, k, h3, h4, h5, h6⟩
  exact ⟨r, h1, h2, k, h3, h4, h5, h6.imp id fun q => ⟨q.1, h _ q.2⟩⟩
/-- the set of EMPTY in the memory -/
def zmE (g : zG) (s : zSn) (e : Int32) : Prop := ∀ c, c < 32 → (bt e c = true ↔ c < 26 ∧ zE g s c)
theorem zmE_am {g : zG} {s : zSn} {e : Int32} (h : zmE g s e) {x : Nat} (hx : x < 52) : zam e x = true ↔ zEc g s x := by
  unfold zam zEc
  rw [Bool.and_eq_true, decide_eq_true_eq]
  constructor
  · rintro ⟨h1, h2⟩
    exact ⟨h1, ((h (x - 26) (by omega)).1 h2).2⟩
  · rintro ⟨h1, h2⟩
    exact ⟨h1, (h (x - 26) (by omega)).2 ⟨by omega, h2⟩⟩
theorem b_27 : ∀ p, p < 32 → bt (nI 134217728) p = decide (p = 27) := by decide +kernel
theorem b_n27 : ∀ p, p < 32 → bt (-(nI 134217729)) p = decide (p ≠ 27) := by decide +kernel
theorem s_firstsOf {g : zG} {s : zSn} {μ : zzM} (h : zc2 g s μ) (hg : zwg g) (hE : zmE g s (μ.1 21 2)) (d : Nat) {r lo : Nat} (hr : r < gN g) (hlo : lo ≤ gZ g r) : zw (zzf zzP zN (d + 2) 40 [.ref 21, .int (nI r), .int (nI lo)] μ) fun o => o.2 = μ ∧ ∀ p, p < 32 → (bt o.1.1 p = true ↔ zFB (fun c p => bt (μ.1 22 c) p = true) (zEc g s) (gS g r) lo (gZ g r) p ∨ (p = 27 ∧ ∀ j, lo ≤ j → j < gZ g r → zEc g s (gS g r j))) := by
  have hn := g_n hg
  have hz := g_z hg hr
  rw [u_facts_firstsOf]
  refine zl_up (fun k (x : Int32) => ([nI r, x, nI k], [], μ)) (fun k x => (∀ j, lo ≤ j → j < k → zEc g s (gS g r j)) ∧ ∀ p, p < 32 → (bt x p = true ↔ zFB (fun c p => bt (μ.1 22 c) p = true) (zEc g s) (gS g r) lo k p)) lo (gZ g r) _ hlo (by omega) rfl ?_ ?_ ?_
  · refine ⟨fun j h1 h2 => absurd h2 (by omega), fun p hp => ?_⟩
    rw [b_z]
    constructor
    · intro h; cases h
    · rintro ⟨k, h1, h2, -⟩; omega
  · rintro k x g' hlk hk ⟨h1, h2⟩ hgo
    have hs := g_s hg hr hk
    -- what is at k
    have hat : ∀ (y : Int32) , (∀ p, p < 32 → (bt y p = true ↔ (gS g r k < 26 ∧ p = gS g r k) ∨ (26 ≤ gS g r k ∧ bt (μ.1 22 (gS g r k - 26)) p = true))) → ∀ p, p < 32 → (bt (x ||| y) p = true ↔ zFB (fun c p => bt (μ.1 22 c) p = true) (zEc g s) (gS g r) lo (k + 1) p) := by
      intro y hy p hp
      rw [b_or, Bool.or_eq_true, h2 p hp, hy p hp]
      constructor
      · rintro (⟨j, a1, a2, a3, a4⟩ | a)
        · exact ⟨j, a1, by omega, a3, a4⟩
        · exact ⟨k, hlk, by omega, h1, a⟩
      · rintro ⟨j, a1, a2, a3, a4⟩
        by_cases e : j = k
        · subst e; exact .inr a4
        · exact .inl ⟨j, a1, by omega, a3, a4⟩
    have hstop : ¬ zEc g s (gS g r k) → ∀ p, (zFB (fun c p => bt (μ.1 22 c) p = true) (zEc g s) (gS g r) lo (k + 1) p ↔ zFB (fun c p => bt (μ.1 22 c) p = true) (zEc g s) (gS g r) lo (gZ g r) p ∨ (p = 27 ∧ ∀ j, lo ≤ j → j < gZ g r → zEc g s (gS g r j))) := by
      intro hno p
      constructor
      · rintro ⟨j, a1, a2, a3, a4⟩
        exact .inl ⟨j, a1, by omega, a3, a4⟩
      · rintro (⟨j, a1, a2, a3, a4⟩ | ⟨-, a⟩)
        · refine ⟨j, a1, ?_, a3, a4⟩
          apply Nat.lt_of_not_le
          intro hle
          exact hno (a3 k hlk (by omega))
        · exact absurd (a k hlk hk) hno
    simp only [zI0, zI1, zI2, zI3, zI4, zI5, zI6, zI7, zI8, zJ0, zJ1, zJ2, zMM]
    rw [zr_i _ _ (by omega) (by omega), c_z h hr, Option.bind_some, if_neg (by rw [zq_le (by omega) (by omega)]; omega), s_symAt h hg d hr hk, Option.bind_some, zq_add]
    simp only [zq_le (show 26 < 2147483648 by omega) (show gS g r k < 2147483648 by omega)]
    by_cases hc : 26 ≤ gS g r k
    · rw [if_pos hc, zq_sub hc, zr_i _ _ (by omega) (by omega), Option.bind_some, s_isAmong d hs, Option.bind_some]
      simp only [zB_0]
      have hy := hat (μ.1 22 (gS g r k - 26)) fun p hp => ⟨fun q => .inr ⟨hc, q⟩, fun q => q.elim (fun q => absurd q.1 (by omega)) fun q => q.2⟩
      have e0 : (decide (26 ≤ gS g r k) && bt (μ.1 21 2) (gS g r k - 26)) = zam (μ.1 21 2) (gS g r k) := rfl
      rw [e0]
      cases hz2 : zam (μ.1 21 2) (gS g r k) with
      | false =>
        rw [if_pos rfl]
        refine zw_some ⟨rfl, fun p hp => ?_⟩
        rw [hy p hp]
        refine hstop (fun q => ?_) p
        rw [(zmE_am hE hs).2 q] at hz2
        cases hz2
      | true =>
        rw [if_neg (by decide)]
        refine hgo _ ⟨fun j a1 a2 => ?_, hy⟩
        by_cases e : j = k
        · rw [e]; exact (zmE_am hE hs).1 hz2
        · exact h1 j a1 (by omega)
    · rw [if_neg hc]
      refine zw_some ⟨rfl, fun p hp => ?_⟩
      rw [hat _ (fun p hp => by
        rw [b_sh1 (by omega) hp, decide_eq_true_eq]
        constructor
        · intro q; exact .inl ⟨by omega, q⟩
        · rintro (q | q)
          · exact q.2
          · omega) p hp]
      exact hstop (fun q => hc q.1) p
  · rintro x g' ⟨h1, h2⟩
    simp only [zI0, zI1, zI2, zI3, zI4, zI5, zI6, zI7, zI8, zJ0, zJ1, zJ2, zMM]
    rw [zr_i _ _ (by omega) (by omega), c_z h hr, Option.bind_some, if_pos (by rw [zq_le (by omega) (by omega)]; omega)]
    refine zw_some ⟨rfl, fun p hp => ?_⟩
    rw [b_or, b_27 p hp, Bool.or_eq_true, decide_eq_true_eq, h2 p hp]
    constructor
    · rintro (q | q)
      · exact .inl q
      · exact .inr ⟨q, h1⟩
    · rintro (q | q)
      · exact .inl q
      · exact .inr q.1
theorem s_add_22 (d : Nat) {x : Nat} (w : Int32) (h1 : 26 ≤ x) (h2 : x < 52) {μ : zzM} : zzf zzP zN (d + 1) 39 [.ref 22, .int (nI x), .int w] μ = some ((zB (!decide ((μ.1 22 (x - 26) ||| w) = μ.1 22 (x - 26))), 0, 0), zzwI μ 22 (x - 26) (μ.1 22 (x - 26) ||| w)) := by
  rw [u_facts_add_22, zq_sub h1, zr_i _ _ (by omega) (by omega), Option.bind_some, zs_i _ _ _ (by omega) (by omega), Option.bind_some]
  simp only [zk_0, zk_1, if_true]
  by_cases h : (μ.1 22 (x - 26) ||| w) = μ.1 22 (x - 26)
  · rw [if_pos h, decide_eq_true h]
    rfl
  · rw [if_neg h, decide_eq_false h]
    rfl
theorem s_add_23 (d : Nat) {x : Nat} (w : Int32) (h1 : 26 ≤ x) (h2 : x < 52) {μ : zzM} : zzf zzP zN (d + 1) 39 [.ref 23, .int (nI x), .int w] μ = some ((zB (!decide ((μ.1 23 (x - 26) ||| w) = μ.1 23 (x - 26))), 0, 0), zzwI μ 23 (x - 26) (μ.1 23 (x - 26) ||| w)) := by
  rw [u_facts_add_23, zq_sub h1, zr_i _ _ (by omega) (by omega), Option.bind_some, zs_i _ _ _ (by omega) (by omega), Option.bind_some]
  simp only [zk_0, zk_1, if_true]
  by_cases h : (μ.1 23 (x - 26) ||| w) = μ.1 23 (x - 26)
  · rw [if_pos h, decide_eq_true h]
    rfl
  · rw [if_neg h, decide_eq_false h]
    rfl
theorem s_add_25 (d : Nat) {x : Nat} (w : Int32) (h1 : 26 ≤ x) (h2 : x < 52) {μ : zzM} : zzf zzP zN (d + 1) 39 [.ref 25, .int (nI x), .int w] μ = some ((zB (!decide ((μ.1 25 (x - 26) ||| w) = μ.1 25 (x - 26))), 0, 0), zzwI μ 25 (x - 26) (μ.1 25 (x - 26) ||| w)) := by
  rw [u_facts_add_25, zq_sub h1, zr_i _ _ (by omega) (by omega), Option.bind_some, zs_i _ _ _ (by omega) (by omega), Option.bind_some]
  simp only [zk_0, zk_1, if_true]
  by_cases h : (μ.1 25 (x - 26) ||| w) = μ.1 25 (x - 26)
  · rw [if_pos h, decide_eq_true h]
    rfl
  · rw [if_neg h, decide_eq_false h]
    rfl
theorem zbn_f {p : Prop} [Decidable p] (h : (!decide p) = false) : p := by
  cases hd : decide p with
  | true => exact of_decide_eq_true hd
  | false => rw [hd] at h; cases h
theorem zbn_t {p : Prop} [Decidable p] (h : (!decide p) = true) : ¬ p := by
  cases hd : decide p with
  | true => rw [hd] at h; cases h
  | false => exact of_decide_eq_false hd
-- bits of all sets of a row
def ztot (f : Nat → Int32) (n m : Nat) : Nat := zsuM (fun c => zcnt (bt (f c)) m) n
theorem ztot_b (f : Nat → Int32) (m : Nat) : ∀ n, ztot f n m ≤ n * m
  | 0 => by unfold ztot zsuM; omega
  | n + 1 => by
    have h1 := ztot_b f m n
    have h2 := zcnt_le (bt (f n)) m
    unfold ztot at h1 ⊢
    unfold zsuM
    rw [Nat.add_mul]
    omega
theorem ztot_lt {f f' : Nat → Int32} {n m : Nat} (h1 : ∀ c, c < n → ∀ a, a < m → bt (f c) a = true → bt (f' c) a = true) (h2 : ∃ c, c < n ∧ ∃ a, a < m ∧ bt (f c) a = false ∧ bt (f' c) a = true) : ztot f n m < ztot f' n m := by
  obtain ⟨c, hc, a, ha, h3, h4⟩ := h2
  exact zsuM_lt (fun c hc => zcnt_mono fun a ha => h1 c hc a ha) ⟨c, hc, zcnt_lt (fun a ha => h1 c hc a ha) ⟨a, ha, h3, h4⟩⟩
theorem zB_or (a b : Bool) : zB a ||| zB b = zB (a || b) := by cases a <;> cases b <;> decide
theorem b_orne {x w : Int32} (h : ¬ (x ||| w) = x) : ∃ a, a < 32 ∧ bt x a = false ∧ bt w a = true := by
  apply Classical.byContradiction
  intro hno
  refine h (b_ext fun a ha => ?_)
  rw [b_or]
  cases hx : bt x a with
  | true => rfl
  | false =>
    cases hw : bt w a with
    | false => rfl
    | true => exact absurd ⟨a, ha, hx, hw⟩ hno
theorem b_oreq {x w : Int32} (h : (x ||| w) = x) {a : Nat} (hw : bt w a = true) : bt x a = true := by
  have := b_or x w a
  rw [h, hw, Bool.or_true] at this
  exact this
theorem s_findFirsts {g : zG} {s : zSn} {μ : zzM} (h : zc2 g s μ) (hg : zwg g) (hE : zmE g s (μ.1 21 2)) (d : Nat) : zw (zzf zzP zN (d + 3) 36 [.ref 21] μ) fun o => zfr [22] μ o.2 ∧ ∀ c, c < 26 → ∀ a, a < 32 → (bt (o.2.1 22 c) a = true ↔ a < 26 ∧ zFi g s a c) := by
  have hn := g_n hg
  rw [u_facts_findFirsts, s_fill_22, Option.bind_some]
  refine zl_ms (fun x : Nat × Bool × zzM => ([zB x.2.1, nI x.1], [], x.2.2)) (fun m x => m + x.1 = 800 ∧ x.1 ≤ ztot (x.2.2.1 22) 26 26 + (if x.2.1 then 0 else 1) ∧ zfr [22] μ x.2.2 ∧ (∀ c, c < 26 → ∀ a, a < 32 → bt (x.2.2.1 22 c) a = true → a < 26 ∧ zFi g s a c) ∧ (x.2.1 = false → ∀ r, zon g s r = true → ∀ a, a < 26 → zFB (fun c p => bt (x.2.2.1 22 c) p = true) (zEc g s) (gS g r) 0 (gZ g r) a → bt (x.2.2.1 22 (gL g r - 26)) a = true)) 800 (0, true, _) (by omega) rfl ?_ ?_
  · refine ⟨rfl, by omega, zf_b _ _ _ rfl, fun c hc a ha q => ?_, fun q => (by cases q)⟩
    have q : bt ((zblk μ 22 0 26 fun _ => nI 0).1 22 c) a = true := q
    rw [zb_i _ _ _ (by omega) hc, b_z] at q
    cases q
  · rintro m ⟨i, b, ν⟩ gg ⟨hm, hi, hf, hs, hcl⟩ hgo
    simp only at hm hi hf hs hcl
    have hc2 := zc2_fr h hf rfl
    have htb := ztot_b (ν.1 22) 26 26
    have hi2 : i ≤ 677 := by
      have : (if b = true then 0 else 1) ≤ 1 := by split <;> omega
      omega
    simp only [zI0, zI1, zI2, zI3, zI4, zI5, zI6, zI7, zI8, zJ0, zJ1, zJ2, zMM]
    rw [if_neg (by rw [zq_le (by omega) (by omega)]; omega)]
    simp only [zB_0]
    cases b with
    | false =>
      rw [if_pos rfl]
      refine zw_some ⟨hf, fun c hc a ha => ⟨fun q => hs c hc a ha q, fun q => ?_⟩⟩
      have hP : c < 26 ∧ bt (ν.1 22 c) a = true := by
        refine zlfp_le (P := fun c => c < 26 ∧ bt (ν.1 22 c) a = true) ?_ q.2
        rintro c ⟨r, h1, h2, k, h3, h4, h5, h6⟩
        have h7 := hcl rfl r h1 a q.1 ⟨k, h3, h4, h5, h6.imp id fun t => ⟨t.1, t.2.2⟩⟩
        have h8 := g_l hg (zon_lt h1)
        have e : gL g r - 26 = c := by omega
        rw [e] at h7
        exact ⟨by omega, h7⟩
      exact hP.2
    | true =>
      rw [if_neg (by decide)]
      simp only [if_true] at hi
      refine zl_up (fun r (y : Bool × zzM) => ([zB y.1, nI i, nI r], [], y.2)) (fun r y => zfr [22] μ y.2 ∧ (∀ c, c < 26 → ∀ a, a < 32 → bt (y.2.1 22 c) a = true → a < 26 ∧ zFi g s a c) ∧ (∀ c, c < 26 → ∀ a, a < 32 → bt (ν.1 22 c) a = true → bt (y.2.1 22 c) a = true) ∧ (y.1 = false → ∀ c, c < 26 → y.2.1 22 c = ν.1 22 c) ∧ (y.1 = true → ztot (ν.1 22) 26 26 < ztot (y.2.1 22) 26 26) ∧ (∀ q, q < r → zon g s q = true → ∀ a, a < 26 → zFB (fun c p => bt (ν.1 22 c) p = true) (zEc g s) (gS g q) 0 (gZ g q) a → bt (y.2.1 22 (gL g q - 26)) a = true)) 0 (gN g) (false, ν) (by omega) (by omega) rfl ⟨hf, hs, fun c _ a _ q => q, fun _ c _ => rfl, fun q => (by cases q), fun q hq => absurd hq (by omega)⟩ ?_ ?_
      · rintro r ⟨b, y⟩ g' - hr ⟨a1, a2, a3, a4, a5, a6⟩ hgo2
        simp only at a1 a2 a3 a4 a5 a6
        have hc3 := zc2_fr h a1 rfl
        have hl := g_l hg hr
        have hE3 : zmE g s (y.1 21 2) := by rw [zf_i a1 rfl]; exact hE
        simp only [zI0, zI1, zI2, zI3, zI4, zI5, zI6, zI7, zI8, zJ0, zJ1, zJ2, zMM]
        rw [c_n hc3, if_neg (by rw [zq_le (by omega) (by omega)]; omega), s_isTold hc3 hg _ (by omega), Option.bind_some]
        simp only [zB_0]
        rw [zq_add]
        cases hon : zon g s r with
        | false =>
          rw [if_pos rfl]
          refine hgo2 (b, y) ⟨a1, a2, a3, a4, a5, fun q hq => ?_⟩
          by_cases e : q = r
          · rw [e, hon]; intro q; cases q
          · exact a6 q (by omega)
        | true =>
          rw [if_neg (by decide), zr_i _ _ (by omega) (by omega), c_l hc3 hr, Option.bind_some]
          refine zw_bind (s_firstsOf hc3 hg hE3 d hr (lo := 0) (by omega)) ?_
          rintro ⟨⟨w, w2, w3⟩, y'⟩ ⟨e1, e2⟩
          simp only at e1 e2 ⊢
          have e1 := e1.symm
          subst e1
          rw [s_add_22 _ _ (by omega) (by omega), Option.bind_some, zB_or]
          have hw : ∀ a, a < 32 → (bt (w &&& -(nI 134217729)) a = true ↔ a ≠ 27 ∧ zFB (fun c p => bt (y.1 22 c) p = true) (zEc g s) (gS g r) 0 (gZ g r) a) := by
            intro a ha
            rw [b_and, b_n27 a ha, Bool.and_eq_true, decide_eq_true_eq, e2 a ha]
            constructor
            · rintro ⟨q | q, q2⟩
              · exact ⟨q2, q⟩
              · exact absurd q.1 q2
            · rintro ⟨q, q2⟩
              exact ⟨.inl q2, q⟩
          have hlt26 : ∀ a, a < 32 → zFB (fun c p => bt (y.1 22 c) p = true) (zEc g s) (gS g r) 0 (gZ g r) a → a < 26 ∧ zFi g s a (gL g r - 26) := by
            rintro a ha ⟨k, h3, h4, h5, h6⟩
            have h7 := g_s hg hr h4
            refine ⟨?_, zlfp_in (zfF_mo g s a) ⟨r, hon, by omega, k, h3, h4, h5, h6.imp id fun t => ⟨t.1, (a2 _ (by omega) a ha t.2).2⟩⟩⟩
            rcases h6 with h6 | h6
            · omega
            · exact (a2 _ (by omega) a ha h6.2).1
          have hmono : ∀ c, c < 26 → ∀ a, a < 32 → bt (y.1 22 c) a = true → bt ((zzwI y 22 (gL g r - 26) (y.1 22 (gL g r - 26) ||| (w &&& -(nI 134217729)))).1 22 c) a = true := by
            intro c hc a ha q
            rw [zm_if]
            by_cases e : c = gL g r - 26
            · rw [if_pos e, b_or, ← e, q]; rfl
            · rw [if_neg e]; exact q
          refine hgo2 (b || !decide ((y.1 22 (gL g r - 26) ||| (w &&& -(nI 134217729))) = y.1 22 (gL g r - 26)), _) ⟨zf_twI _ _ a1 rfl, fun c hc a ha q => ?_, fun c hc a ha q => hmono c hc a ha (a3 c hc a ha q), fun q c hc => ?_, fun q => ?_, fun q hq h1 a ha h2 => ?_⟩
          · change bt ((zzwI _ _ _ _).1 _ _) _ = true at q
            rw [zm_if] at q
            by_cases e : c = gL g r - 26
            · rw [if_pos e, b_or, Bool.or_eq_true] at q
              rcases q with q | q
              · rw [← e] at q; exact a2 c hc a ha q
              · rw [e]; exact hlt26 a ha ((hw a ha).1 q).2
            · rw [if_neg e] at q
              exact a2 c hc a ha q
          · replace q : _ ∧ _ := ⟨(Bool.or_eq_false_iff.1 q).1, zbn_f (Bool.or_eq_false_iff.1 q).2⟩
            show (zzwI _ _ _ _).1 _ _ = _
            rw [zm_if]
            by_cases e : c = gL g r - 26
            · rw [if_pos e, q.2, ← e]; exact a4 q.1 c hc
            · rw [if_neg e]; exact a4 q.1 c hc
          · replace q := (Bool.or_eq_true _ _ ▸ q : _ ∨ _).imp id zbn_t
            show ztot _ 26 26 < ztot ((zzwI y 22 (gL g r - 26) (y.1 22 (gL g r - 26) ||| (w &&& -(nI 134217729)))).1 22) 26 26
            by_cases hq2 : (y.1 22 (gL g r - 26) ||| (w &&& -(nI 134217729))) = y.1 22 (gL g r - 26)
            · rcases q with q | q
              · rw [zm_id hq2.symm]; exact a5 q
              · exact absurd hq2 q
            · obtain ⟨a, ha, hx1, hx2⟩ := b_orne hq2
              have hx3 := hlt26 a ha ((hw a ha).1 hx2).2
              refine ztot_lt (fun c hc a ha q => hmono c hc a (by omega) (a3 c hc a (by omega) q)) ⟨gL g r - 26, by omega, a, hx3.1, ?_, ?_⟩
              · cases hv : bt (ν.1 22 (gL g r - 26)) a with
                | false => rfl
                | true => rw [a3 _ (by omega) a ha hv] at hx1; cases hx1
              · rw [zm_s, b_or, hx2, Bool.or_true]
          · show bt ((zzwI y 22 (gL g r - 26) (y.1 22 (gL g r - 26) ||| (w &&& -(nI 134217729)))).1 22 _) _ = true
            by_cases e : q = r
            · subst e
              rw [zm_s, b_or, Bool.or_eq_true]
              refine .inr ((hw a (by omega)).2 ⟨by omega, ?_⟩)
              obtain ⟨k, h3, h4, h5, h6⟩ := h2
              have h7 := g_s hg hr h4
              exact ⟨k, h3, h4, h5, h6.imp id fun t => ⟨t.1, a3 _ (by omega) a (by omega) t.2⟩⟩
            · have h7 := g_l hg (show q < gN g by omega)
              exact hmono _ (by omega) a (by omega) (a6 q (by omega) h1 a ha h2)
      · rintro ⟨b, y⟩ g' ⟨a1, a2, a3, a4, a5, a6⟩
        simp only at a1 a2 a3 a4 a5 a6
        have hc3 := zc2_fr h a1 rfl
        simp only [zI0, zI1, zI2, zI3, zI4, zI5, zI6, zI7, zI8, zJ0, zJ1, zJ2, zMM]
        rw [c_n hc3, if_pos (by rw [zq_le (by omega) (by omega)]; omega), zq_add]
        refine hgo (m - 1) (i + 1, b, y) (by omega) ⟨by simp only; omega, ?_, a1, a2, fun q r hr a ha h2 => ?_⟩
        · cases b with
          | true =>
            have := a5 rfl
            simp only [if_true]
            omega
          | false =>
            have e : ztot (y.1 22) 26 26 = ztot (ν.1 22) 26 26 := by
              apply Nat.le_antisymm
              · exact zsuM_le fun c hc => by rw [a4 rfl c hc]; exact Nat.le_refl _
              · exact zsuM_le fun c hc => by rw [a4 rfl c hc]; exact Nat.le_refl _
            simp only [Bool.false_eq_true, if_false]
            omega
        · simp only at q h2 ⊢
          refine a6 r (zon_lt hr) hr a ha ?_
          obtain ⟨k, h3, h4, h5, h6⟩ := h2
          have h7 := g_s hg (zon_lt hr) h4
          refine ⟨k, h3, h4, h5, h6.imp id fun t => ⟨t.1, ?_⟩⟩
          show bt (ν.1 22 (gS g r k - 26)) a = true
          rw [← a4 q (gS g r k - 26) (by omega)]
          exact t.2
