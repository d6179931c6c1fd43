/-! SHORT, EMPTY, ENDS: the class's findShortRows, as a pure walk; the least values -/
def zup1 {α : Type} (f : Nat → α) (c : Nat) (v : α) : Nat → α := fun j => if j = c then v else f j
def zpv (f : Nat → Option Nat) (x : Nat) : Option Nat := if x < 26 then some 1 else f (x - 26)
/-- letters of the first k symbols -/
def zps (f : Nat → Option Nat) (y : Nat → Nat) : Nat → Option Nat
  | 0 => some 0
  | k + 1 => (zps f y k).bind fun a => (zpv f (y k)).bind fun b => some (a + b)
def zsh1 (g : zG) (f : Nat → Option Nat) (r : Nat) : Bool × (Nat → Option Nat) := match zps f (gS g r) (gZ g r) with
  | none => (false, f)
  | some v => match f (gL g r - 26) with
    | none => (true, zup1 f (gL g r - 26) (some v))
    | some w => if w ≤ v then (false, f) else (true, zup1 f (gL g r - 26) (some v))
def zshR (g : zG) (s : zSn) (f : Nat → Option Nat) : Nat → Bool × (Nat → Option Nat)
  | 0 => (false, f)
  | r + 1 => if zon g s r then ((zshR g s f r).1 || (zsh1 g (zshR g s f r).2 r).1, (zsh1 g (zshR g s f r).2 r).2) else zshR g s f r
def zshF (g : zG) (s : zSn) : Nat → Nat → Option Nat
  | 0 => fun _ => none
  | i + 1 => (zshR g s (zshF g s i) (gN g)).2
def zshC (g : zG) (s : zSn) : Nat → Bool
  | 0 => true
  | i + 1 => (zshR g s (zshF g s i) (gN g)).1
/-- the row of numbers in the memory -/
def zsr (f : Nat → Option Nat) (μ : zzM) : Prop := ∀ c, c < 26 → μ.1 24 c = (match f c with
  | none => -(nI 2)
  | some v => nI v)
def zsb (B : Nat) (f : Nat → Option Nat) : Prop := ∀ c v, f c = some v → v ≤ B
theorem zsr_n {f : Nat → Option Nat} {μ : zzM} (h : zsr f μ) {c : Nat} (hc : c < 26) (hf : f c = none) : μ.1 24 c = -(nI 2) := by rw [h c hc, hf]
theorem zsr_s {f : Nat → Option Nat} {μ : zzM} (h : zsr f μ) {c v : Nat} (hc : c < 26) (hf : f c = some v) : μ.1 24 c = nI v := by rw [h c hc, hf]
theorem zsr_up {f : Nat → Option Nat} {μ : zzM} (h : zsr f μ) (c v : Nat) : zsr (zup1 f c (some v)) (zzwI μ 24 c (nI v)) := by
  intro c' hc'
  rw [zm_if]
  unfold zup1
  by_cases e : c' = c
  · rw [if_pos e, if_pos e]
  · rw [if_neg e, if_neg e]
    exact h c' hc'
theorem zps_le {f : Nat → Option Nat} {y : Nat → Nat} {B : Nat} (hb : zsb B f) (hB : 1 ≤ B) : ∀ {k v : Nat}, zps f y k = some v → v ≤ k * B
  | 0, v, h => by
    unfold zps at h
    cases h
    omega
  | k + 1, v, h => by
    unfold zps at h
    cases h1 : zps f y k with
    | none => rw [h1] at h; cases h
    | some a =>
      rw [h1, Option.bind_some] at h
      cases h2 : zpv f (y k) with
      | none => rw [h2] at h; cases h
      | some b =>
        rw [h2, Option.bind_some] at h
        cases h
        have h3 := zps_le hb hB h1
        have h4 : b ≤ B := by
          unfold zpv at h2
          split at h2
          · cases h2; omega
          · have := hb _ _ h2; omega
        rw [Nat.add_mul]
        omega
theorem s_shorten {g : zG} {s : zSn} {μ : zzM} (h : zc2 g s μ) (hg : zwg g) (d : Nat) {r : Nat} (hr : r < gN g) {f : Nat → Option Nat} (hf : zsr f μ) (hb : zsb 100000000 f) : zw (zzf zzP zN (d + 2) 33 [.ref 21, .int (nI r)] μ) fun o => o.1.1 = zB (zsh1 g f r).1 ∧ zsr (zsh1 g f r).2 o.2 ∧ zfr [24] μ o.2 := by
  have hn := g_n hg
  have hz := g_z hg hr
  have hl := g_l hg hr
  have e2 : ¬ (0 ≤ -(nI 2)) := by decide
  have e3 : -(nI 2) < 0 := by decide
  rw [u_facts_shorten]
  refine zl_up (fun k (x : Nat) => ([nI r, nI x, nI k], [], μ)) (fun k x => zps f (gS g r) k = some x) 0 (gZ g r) 0 (by omega) (by omega) rfl rfl ?_ ?_
  · rintro k x g' - hk hx hgo
    have hxb := zps_le hb (by omega) hx
    have hxb2 : k * 100000000 ≤ 3 * 100000000 := Nat.mul_le_mul (by omega) (by omega)
    have hs := g_s hg hr hk
    simp only [zI0, zI1, zI2, zI3, zI4, zI5, zI6, zI7, zI8, zJ0, zJ1, zJ2, zMM]
    rw [zr_i _ _ (by omega) (by omega), c_z h hr, Option.bind_some, if_neg (by rw [zq_le (by omega) (by omega)]; omega), s_symAt h hg d hr hk, Option.bind_some]
    simp only [zq_le (show 26 < 2147483648 by omega) (show gS g r k < 2147483648 by omega), zq_add]
    by_cases hc : 26 ≤ gS g r k
    · rw [if_pos hc, zq_sub hc, zr_i _ _ (by omega) (by omega), Option.bind_some]
      cases hv : f (gS g r k - 26) with
      | none =>
        rw [zsr_n hf (by omega) hv, if_neg e2, if_pos (by decide)]
        have e0 : zps f (gS g r) (gZ g r) = none := by
          have h1 : zps f (gS g r) (k + 1) = none := by
            unfold zps
            rw [hx, Option.bind_some]
            unfold zpv
            rw [if_neg (by omega), hv]
            rfl
          have h2 : ∀ j, zps f (gS g r) (k + 1 + j) = none := by
            intro j
            induction j with
            | zero => exact h1
            | succ j ih =>
              show (zps f (gS g r) (k + 1 + j)).bind _ = none
              rw [ih]
              rfl
          have := h2 (gZ g r - (k + 1))
          rwa [show k + 1 + (gZ g r - (k + 1)) = gZ g r by omega] at this
        have e1 : zsh1 g f r = (false, f) := by
          unfold zsh1
          rw [e0]
        exact zw_some (by rw [e1]; exact ⟨rfl, hf, zf_refl _ _⟩)
      | some v =>
        have hv2 := hb _ _ hv
        rw [zsr_s hf (by omega) hv, if_pos (nI_pos' (by omega)), zq_add]
        refine hgo _ ?_
        show zps f (gS g r) (k + 1) = some (x + v)
        unfold zps
        rw [hx, Option.bind_some]
        unfold zpv
        rw [if_neg (by omega), hv]
        rfl
    · rw [if_neg hc, if_pos (by decide)]
      refine hgo _ ?_
      show zps f (gS g r) (k + 1) = some (x + 1)
      unfold zps
      rw [hx, Option.bind_some]
      unfold zpv
      rw [if_pos (by omega)]
      rfl
  · rintro x g' hx
    have hxb := zps_le hb (by omega) hx
    have hxb2 : gZ g r * 100000000 ≤ 4 * 100000000 := Nat.mul_le_mul (by omega) (by omega)
    simp only [zI0, zI1, zI2, zI3, zI4, zI5, zI6, zI7, zI8, zJ0, zJ1, zJ2, zMM]
    rw [zr_i _ _ (by omega) (by omega), c_z h hr, Option.bind_some, if_pos (by rw [zq_le (by omega) (by omega)]; omega), zr_i _ _ (by omega) (by omega), c_l h hr, Option.bind_some, zq_sub hl.1, zr_i _ _ (by omega) (by omega), Option.bind_some]
    cases hv : f (gL g r - 26) with
    | none =>
      rw [zsr_n hf (by omega) hv, if_pos e3, zs_i _ _ _ (by omega) (by omega), Option.bind_some, if_pos (by decide)]
      have e1 : zsh1 g f r = (true, zup1 f (gL g r - 26) (some x)) := by
        unfold zsh1
        rw [hx]
        simp only [hv]
      exact zw_some (by rw [e1]; exact ⟨rfl, zsr_up hf _ _, zf_wI _ _ rfl⟩)
    | some w =>
      have hw := hb _ _ hv
      rw [zsr_s hf (by omega) hv, if_neg (nI_pos (by omega)), Option.bind_some]
      simp only [zq_lt (show x < 2147483648 by omega) (show w < 2147483648 by omega)]
      by_cases hlt : x < w
      · rw [if_pos hlt, zs_i _ _ _ (by omega) (by omega), Option.bind_some, if_pos (by decide)]
        have e1 : zsh1 g f r = (true, zup1 f (gL g r - 26) (some x)) := by
          unfold zsh1
          rw [hx]
          simp only [hv]
          rw [if_neg (by omega)]
        exact zw_some (by rw [e1]; exact ⟨rfl, zsr_up hf _ _, zf_wI _ _ rfl⟩)
      · rw [if_neg hlt, if_pos (by decide)]
        have e1 : zsh1 g f r = (false, f) := by
          unfold zsh1
          rw [hx]
          simp only [hv]
          rw [if_pos (by omega)]
        exact zw_some (by rw [e1]; exact ⟨rfl, hf, zf_refl _ _⟩)

theorem zB_or0 (b : Bool) : zB b ||| nI 0 = zB b := by cases b <;> decide
theorem zB_or1 (b : Bool) : zB b ||| nI 1 = zB true := by cases b <;> decide
/-- what holds of the row all along -/
def zsi (g : zG) (f : Nat → Option Nat) : Prop := (∀ c, (f c).isSome = true → c < 26 ∧ gleft g c = true) ∧ zsb (4 ^ zcnt (fun c => (f c).isSome) 26) f
theorem gleft_of {g : zG} (hg : zwg g) {r : Nat} (hr : r < gN g) : gleft g (gL g r - 26) = true := by
  unfold gleft
  rw [List.any_eq_true]
  refine ⟨r, List.mem_range.2 hr, ?_⟩
  have := g_l hg hr
  simp only [beq_iff_eq]
  omega
theorem gleft_ex {g : zG} {c : Nat} (h : gleft g c = true) : ∃ r, r < gN g ∧ gL g r = 26 + c := by
  unfold gleft at h
  rw [List.any_eq_true] at h
  obtain ⟨r, h1, h2⟩ := h
  exact ⟨r, List.mem_range.1 h1, by simpa using h2⟩
theorem zsi_up {g : zG} (hg : zwg g) {f : Nat → Option Nat} (hi : zsi g f) {r v : Nat} (hr : r < gN g) (hv : (f (gL g r - 26) = none ∧ zps f (gS g r) (gZ g r) = some v) ∨ ∃ w, f (gL g r - 26) = some w ∧ v ≤ w) : zsi g (zup1 f (gL g r - 26) (some v)) := by
  have hl := g_l hg hr
  have hz := g_z hg hr
  have hmo : ∀ c, c < 26 → (f c).isSome = true → (zup1 f (gL g r - 26) (some v) c).isSome = true := by
    intro c _ h
    unfold zup1
    split
    · rfl
    · exact h
  have hle : zcnt (fun c => (f c).isSome) 26 ≤ zcnt (fun c => (zup1 f (gL g r - 26) (some v) c).isSome) 26 := zcnt_mono hmo
  have hpow : 4 ^ zcnt (fun c => (f c).isSome) 26 ≤ 4 ^ zcnt (fun c => (zup1 f (gL g r - 26) (some v) c).isSome) 26 := Nat.pow_le_pow_right (by omega) hle
  refine ⟨fun c hc => ?_, fun c w hc => ?_⟩
  · unfold zup1 at hc
    by_cases e : c = gL g r - 26
    · exact ⟨by omega, by rw [e]; exact gleft_of hg hr⟩
    · rw [if_neg e] at hc
      exact hi.1 c hc
  · by_cases e : c = gL g r - 26
    · unfold zup1 at hc
      rw [if_pos e] at hc
      cases hc
      rcases hv with ⟨h1, h2⟩ | ⟨w', h1, h2⟩
      · have hlt : zcnt (fun c => (f c).isSome) 26 < zcnt (fun c => (zup1 f (gL g r - 26) (some v) c).isSome) 26 := zcnt_lt hmo ⟨gL g r - 26, by omega, by rw [h1]; rfl, by unfold zup1; rw [if_pos rfl]; rfl⟩
        have h3 := zps_le hi.2 (Nat.one_le_pow _ _ (by omega)) h2
        have h4 : gZ g r * 4 ^ zcnt (fun c => (f c).isSome) 26 ≤ 4 * 4 ^ zcnt (fun c => (f c).isSome) 26 := Nat.mul_le_mul_right _ hz
        have h5 : 4 * 4 ^ zcnt (fun c => (f c).isSome) 26 ≤ 4 ^ zcnt (fun c => (zup1 f (gL g r - 26) (some v) c).isSome) 26 := by
          rw [Nat.mul_comm, ← Nat.pow_succ]
          exact Nat.pow_le_pow_right (by omega) hlt
        omega
      · have := hi.2 _ _ h1
        omega
    · unfold zup1 at hc
      rw [if_neg e] at hc
      have := hi.2 _ _ hc
      omega
theorem zsi_1 {g : zG} (hg : zwg g) {f : Nat → Option Nat} (hi : zsi g f) {r : Nat} (hr : r < gN g) : zsi g (zsh1 g f r).2 := by
  unfold zsh1
  split
  · exact hi
  · rename_i v hv
    split
    · rename_i h1
      exact zsi_up hg hi hr (.inl ⟨h1, hv⟩)
    · rename_i w h1
      split
      · exact hi
      · exact zsi_up hg hi hr (.inr ⟨w, h1, by omega⟩)
theorem zsi_R {g : zG} {s : zSn} (hg : zwg g) {f : Nat → Option Nat} (hi : zsi g f) : ∀ {r : Nat}, r ≤ gN g → zsi g (zshR g s f r).2
  | 0, _ => hi
  | r + 1, h => by
    have ih := zsi_R (s := s) hg hi (r := r) (by omega)
    unfold zshR
    split
    · exact zsi_1 hg ih (by omega)
    · exact ih
theorem zsi_F {g : zG} {s : zSn} (hg : zwg g) : ∀ i, zsi g (zshF g s i)
  | 0 => ⟨fun c h => (by cases h), fun c v h => (by cases h)⟩
  | i + 1 => zsi_R hg (zsi_F hg i) (Nat.le_refl _)
theorem zsi_b {g : zG} (hg : zwg g) {f : Nat → Option Nat} (hi : zsi g f) : zsb 1024 f := by
  intro c v h
  have h1 := hi.2 c v h
  have h2 : zcnt (fun c => (f c).isSome) 26 ≤ zcnt (gleft g) 26 := zcnt_mono fun c _ h => (hi.1 c h).2
  have h3 := hg.2.2
  have h4 : 4 ^ zcnt (fun c => (f c).isSome) 26 ≤ 4 ^ 5 := Nat.pow_le_pow_right (by omega) (by omega)
  omega
theorem zsb_mono {A B : Nat} {f : Nat → Option Nat} (h : zsb A f) (hab : A ≤ B) : zsb B f := fun c v hc => Nat.le_trans (h c v hc) hab
theorem b_z (i : Nat) : bt (nI 0) i = false := by
  rw [nI_0]
  exact b_0 i
theorem s_findShort {g : zG} {s : zSn} {μ : zzM} (h : zc2 g s μ) (hg : zwg g) (d : Nat) {I : Nat} (hI : 0 < I) (hI2 : I < 1000) (hC : zshC g s I = false) (hC2 : ∀ j, j < I → zshC g s j = true) : zw (zzf zzP zN (d + 3) 32 [.ref 21] μ) fun o => zsr (zshF g s I) o.2 ∧ zfr [21, 24] μ o.2 ∧ (∀ c, c < 32 → (bt (o.2.1 21 2) c = true ↔ c < 26 ∧ zshF g s I c = some 0)) ∧ (∀ c, c < 32 → (bt (o.2.1 21 3) c = true ↔ c < 26 ∧ (zshF g s I c).isSome = true)) ∧ (∀ k, k ≠ 2 → k ≠ 3 → o.2.1 21 k = μ.1 21 k) := by
  have hn := g_n hg
  rw [u_facts_findShortRows, s_fill_24, Option.bind_some]
  refine zl_up (fun i (x : zzM) => ([zB (zshC g s i), nI i], [], x)) (fun i x => zsr (zshF g s i) x ∧ zfr [24] μ x) 0 I _ (by omega) (by omega) rfl ?_ ?_ ?_
  · refine ⟨fun c hc => ?_, zf_b _ _ _ rfl⟩
    rw [zb_i _ _ _ (by omega) hc]
    rfl
  · rintro i x g' - hi ⟨h1, h2⟩ hgo
    simp only [zI0, zI1, zI2, zI3, zI4, zI5, zI6, zI7, zI8, zJ0, zJ1, zJ2, zMM]
    rw [if_neg (by rw [zq_le (by omega) (by omega)]; omega), hC2 i hi, if_neg (by decide)]
    refine zl_up (fun r (y : zzM) => ([zB (zshR g s (zshF g s i) r).1, nI i, nI r], [], y)) (fun r y => zsr (zshR g s (zshF g s i) r).2 y ∧ zfr [24] μ y) 0 (gN g) x (by omega) (by omega) rfl ⟨h1, h2⟩ ?_ ?_
    · rintro r y g'' - hr ⟨h3, h4⟩ hgo2
      have hc2 := zc2_fr h h4 rfl
      simp only [zI0, zI1, zI2, zI3, zI4, zI5, zI6, zI7, zI8, zJ0, zJ1, zJ2, zMM]
      rw [c_n hc2, if_neg (by rw [zq_le (by omega) (by omega)]; omega), s_isTold hc2 hg d (by omega), Option.bind_some]
      simp only [zB_0, zB_or0, zB_or1, zq_add]
      have eR : zshR g s (zshF g s i) (r + 1) = if zon g s r then ((zshR g s (zshF g s i) r).1 || (zsh1 g (zshR g s (zshF g s i) r).2 r).1, (zsh1 g (zshR g s (zshF g s i) r).2 r).2) else zshR g s (zshF g s i) r := rfl
      cases hon : zon g s r with
      | false =>
        rw [if_pos rfl]
        have := hgo2 y (by rw [eR, hon]; exact ⟨h3, h4⟩)
        rw [eR, hon] at this
        exact this
      | true =>
        rw [if_neg (by decide)]
        refine zw_bind (s_shorten hc2 hg d hr h3 (zsb_mono (zsi_b hg (zsi_R hg (zsi_F hg i) (by omega))) (by omega))) ?_
        rintro ⟨⟨a, b, c⟩, z⟩ ⟨h5, h6, h7⟩
        simp only at h5 h6 h7 ⊢
        have hgo3 := hgo2 z (by rw [eR, hon]; exact ⟨h6, zf_trans h4 h7⟩)
        rw [eR, hon] at hgo3
        rw [h5]
        simp only [zB_0]
        cases hb : (zsh1 g (zshR g s (zshF g s i) r).2 r).1 with
        | false =>
          rw [if_pos rfl]
          rw [hb] at hgo3
          simpa using hgo3
        | true =>
          rw [if_neg (by decide)]
          rw [hb] at hgo3
          simpa using hgo3
    · rintro y g'' ⟨h3, h4⟩
      have hc2 := zc2_fr h h4 rfl
      simp only [zI0, zI1, zI2, zI3, zI4, zI5, zI6, zI7, zI8, zJ0, zJ1, zJ2, zMM]
      rw [c_n hc2, if_pos (by rw [zq_le (by omega) (by omega)]; omega), zq_add]
      exact hgo y ⟨h3, h4⟩
  · rintro x g' ⟨h1, h2⟩
    simp only [zI0, zI1, zI2, zI3, zI4, zI5, zI6, zI7, zI8, zJ0, zJ1, zJ2, zMM]
    rw [if_neg (by rw [zq_le (by omega) (by omega)]; omega), hC, if_pos (by decide)]
    refine zl_up (fun k (y : zzM) => ([nI k], [], y)) (fun k y => zsr (zshF g s I) y ∧ zfr [21, 24] μ y ∧ (∀ c, c < 32 → (bt (y.1 21 2) c = true ↔ c < k ∧ zshF g s I c = some 0)) ∧ (∀ c, c < 32 → (bt (y.1 21 3) c = true ↔ c < k ∧ (zshF g s I c).isSome = true)) ∧ (∀ k, k ≠ 2 → k ≠ 3 → y.1 21 k = μ.1 21 k)) 0 26 _ (by omega) (by omega) rfl ?_ ?_ ?_
    · refine ⟨fun c hc => ?_, ?_, fun c hc => ?_, fun c hc => ?_, fun k h3 h4 => ?_⟩
      · rw [zm_c _ _ _ (by omega), zm_c _ _ _ (by omega)]
        exact h1 c hc
      · exact zf_twI _ _ (zf_twI _ _ (zf_mono h2 rfl) rfl) rfl
      · rw [zm_s, b_z]
        simp
      · rw [zm_k _ _ _ _ (by omega), zm_s, b_z]
        simp
      · rw [zm_k _ _ _ _ h3, zm_k _ _ _ _ h4, zf_i h2 rfl]
    · rintro k y g'' - hk ⟨h3, h4, h5, h6, h7⟩ hgo
      simp only [zI0, zI1, zI2, zI3, zI4, zI5, zI6, zI7, zI8, zJ0, zJ1, zJ2, zMM]
      have hfb := zsi_b hg (zsi_F (s := s) hg I)
      rw [if_neg (by rw [zq_le (by omega) (by omega)]; omega), zr_i _ _ hk (by omega), Option.bind_some, zq_add]
      cases hv : zshF g s I k with
      | none =>
        rw [zsr_n h3 hk hv, if_pos (by decide), Option.bind_some, if_neg (by decide)]
        refine hgo _ ⟨h3, h4, fun c hc => ?_, fun c hc => ?_, h7⟩
        · rw [h5 c hc]
          constructor
          · rintro ⟨a, b⟩; exact ⟨by omega, b⟩
          · rintro ⟨a, b⟩
            refine ⟨?_, b⟩
            apply Nat.lt_of_le_of_ne (by omega)
            intro e
            rw [e, hv] at b
            cases b
        · rw [h6 c hc]
          constructor
          · rintro ⟨a, b⟩; exact ⟨by omega, b⟩
          · rintro ⟨a, b⟩
            refine ⟨?_, b⟩
            apply Nat.lt_of_le_of_ne (by omega)
            intro e
            rw [e, hv] at b
            cases b
      | some v =>
        have hvb := hfb _ _ hv
        rw [zsr_s h3 hk hv, if_neg (nI_pos (by omega)), zr_i _ _ hk (by omega), Option.bind_some, zm_c _ _ _ (by omega), zsr_s h3 hk hv]
        simp (disch := omega) only [zq_e0]
        have h6' : ∀ c, c < 32 → (bt (y.1 21 3 ||| (nI 1 <<< (nI k &&& 31))) c = true ↔ c < k + 1 ∧ (zshF g s I c).isSome = true) := by
          intro c hc
          rw [b_or, b_sh1 (by omega) hc, Bool.or_eq_true, decide_eq_true_eq, h6 c hc]
          constructor
          · rintro (⟨a, b⟩ | e)
            · exact ⟨by omega, b⟩
            · rw [e, hv]; exact ⟨by omega, rfl⟩
          · rintro ⟨a, b⟩
            by_cases e : c = k
            · exact .inr e
            · exact .inl ⟨by omega, b⟩
        by_cases hv0 : v = 0
        · rw [if_pos hv0]
          refine hgo _ ⟨fun c hc => ?_, zf_twI _ _ (zf_twI _ _ h4 rfl) rfl, fun c hc => ?_, fun c hc => ?_, fun j a b => ?_⟩
          · rw [zm_c _ _ _ (by omega), zm_c _ _ _ (by omega)]
            exact h3 c hc
          · rw [zm_s, b_or, b_sh1 (by omega) hc, Bool.or_eq_true, decide_eq_true_eq, h5 c hc]
            constructor
            · rintro (⟨a, b⟩ | e)
              · exact ⟨by omega, b⟩
              · rw [e, hv, hv0]; exact ⟨by omega, rfl⟩
            · rintro ⟨a, b⟩
              by_cases e : c = k
              · exact .inr e
              · exact .inl ⟨by omega, b⟩
          · rw [zm_k _ _ _ _ (by omega), zm_s]
            exact h6' c hc
          · rw [zm_k _ _ _ _ a, zm_k _ _ _ _ b]
            exact h7 j a b
        · rw [if_neg hv0]
          refine hgo _ ⟨fun c hc => ?_, zf_twI _ _ h4 rfl, fun c hc => ?_, fun c hc => ?_, fun j a b => ?_⟩
          · rw [zm_c _ _ _ (by omega)]
            exact h3 c hc
          · rw [zm_k _ _ _ _ (by omega), h5 c hc]
            constructor
            · rintro ⟨a, b⟩; exact ⟨by omega, b⟩
            · rintro ⟨a, b⟩
              refine ⟨?_, b⟩
              apply Nat.lt_of_le_of_ne (by omega)
              intro e
              rw [e, hv] at b
              cases b
              exact hv0 rfl
          · rw [zm_s]
            exact h6' c hc
          · rw [zm_k _ _ _ _ b]
            exact h7 j a b
    · rintro y g'' ⟨h3, h4, h5, h6, h7⟩
      simp only [zI0, zI1, zI2, zI3, zI4, zI5, zI6, zI7, zI8, zJ0, zJ1, zJ2, zMM]
      rw [if_pos (by decide)]
      exact zw_some ⟨h3, h4, h5, h6, h7⟩
