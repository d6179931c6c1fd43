/-! SHORT: the pure walk gives the least values -/
def zsuM (f : Nat → Nat) : Nat → Nat
  | 0 => 0
  | n + 1 => zsuM f n + f n
theorem zsuM_le {f g : Nat → Nat} : ∀ {n : Nat}, (∀ k, k < n → f k ≤ g k) → zsuM f n ≤ zsuM g n
  | 0, _ => Nat.le_refl _
  | n + 1, h => by
    have h1 := zsuM_le (n := n) fun k hk => h k (by omega)
    have h2 := h n (by omega)
    unfold zsuM
    omega
theorem zsuM_lt {f g : Nat → Nat} : ∀ {n : Nat}, (∀ k, k < n → f k ≤ g k) → (∃ k, k < n ∧ f k < g k) → zsuM f n < zsuM g n
  | 0, _, h => by obtain ⟨k, h1, -⟩ := h; omega
  | n + 1, h, hx => by
    obtain ⟨k, h1, h2⟩ := hx
    have h3 := zsuM_le (n := n) fun k hk => h k (by omega)
    have h4 := h n (by omega)
    unfold zsuM
    by_cases e : k = n
    · rw [e] at h2; omega
    · have := zsuM_lt (n := n) (fun k hk => h k (by omega)) ⟨k, by omega, h2⟩
      omega
theorem zsuM_at {f : Nat → Nat} : ∀ {n k : Nat}, k < n → f k ≤ zsuM f n
  | 0, k, h => absurd h (Nat.not_lt_zero _)
  | n + 1, k, h => by
    unfold zsuM
    by_cases e : k = n
    · rw [e]; omega
    · have := zsuM_at (f := f) (n := n) (k := k) (by omega); omega
/-- a capital derives a row of v letters by a tree of height h at most -/
def zDn (g : zG) (s : zSn) : Nat → Nat → Nat → Prop
  | 0, _, _ => False
  | h + 1, c, v => ∃ r, zon g s r = true ∧ gL g r = 26 + c ∧ ∃ p : Nat → Nat, v = zsuM p (gZ g r) ∧ ∀ k, k < gZ g r → (gS g r k < 26 ∧ p k = 1) ∨ (26 ≤ gS g r k ∧ zDn g s h (gS g r k - 26) (p k))
theorem zDn_mo {g : zG} {s : zSn} : ∀ {h c v : Nat}, zDn g s h c v → zDn g s (h + 1) c v
  | 0, _, _, hd => hd.elim
  | h + 1, c, v, hd => by
    obtain ⟨r, h1, h2, p, h3, h4⟩ := hd
    exact ⟨r, h1, h2, p, h3, fun k hk => (h4 k hk).imp id fun q => ⟨q.1, zDn_mo q.2⟩⟩
theorem zDn_up {g : zG} {s : zSn} {h c v : Nat} (hd : zDn g s h c v) : ∀ {h' : Nat}, h ≤ h' → zDn g s h' c v := by
  intro h' hle
  induction hle with
  | refl => exact hd
  | step _ ih => exact zDn_mo ih
theorem zDn_5 {g : zG} {s : zSn} (hg : zwg g) : ∀ h c v, zDn g s h c v → ∃ v', v' ≤ v ∧ zDn g s 5 c v' := by
  refine zknuth (D := zDn g s) (n := 26) (m := 5) (gleft g) ?_ hg.2.2 (fun i v h => h) (fun h i v hd => zDn_mo hd) ?_
  · intro h c v hd
    cases h with
    | zero => exact hd.elim
    | succ h =>
      obtain ⟨r, h1, h2, -⟩ := hd
      have hr := zon_lt h1
      have h3 := g_l hg hr
      have h4 := gleft_of hg hr
      have e : gL g r - 26 = c := by omega
      rw [e] at h4
      exact ⟨by omega, h4⟩
  · rintro h c v ⟨r, h1, h2, p, h3, h4⟩
    refine ⟨((List.range (gZ g r)).filter (fun k => decide (26 ≤ gS g r k))).map (fun k => (gS g r k - 26, p k)), ?_, ?_⟩
    · intro q hq
      obtain ⟨k, hk, rfl⟩ := List.mem_map.1 hq
      obtain ⟨hk1, hk2⟩ := List.mem_filter.1 hk
      have hk1 := List.mem_range.1 hk1
      have hk2 : 26 ≤ gS g r k := by simpa using hk2
      rcases h4 k hk1 with ⟨a, -⟩ | ⟨-, b⟩
      · exact absurd a (by omega)
      · exact ⟨b, by rw [h3]; exact zsuM_at hk1⟩
    · intro h' hq
      have hpart : ∀ k, k < gZ g r → 26 ≤ gS g r k → ∃ f, f ≤ p k ∧ zDn g s h' (gS g r k - 26) f := fun k hk hc => hq (gS g r k - 26, p k) (List.mem_map.2 ⟨k, List.mem_filter.2 ⟨List.mem_range.2 hk, by simpa using hc⟩, rfl⟩)
      have hpart' : ∀ k, ∃ f, k < gZ g r → f ≤ p k ∧ ((gS g r k < 26 ∧ f = 1) ∨ (26 ≤ gS g r k ∧ zDn g s h' (gS g r k - 26) f)) := by
        intro k
        by_cases hk : k < gZ g r
        · rcases h4 k hk with ⟨a, b⟩ | ⟨a, -⟩
          · exact ⟨1, fun _ => ⟨by omega, .inl ⟨a, rfl⟩⟩⟩
          · obtain ⟨f, h5, h6⟩ := hpart k hk a
            exact ⟨f, fun _ => ⟨h5, .inr ⟨a, h6⟩⟩⟩
        · exact ⟨0, fun h => absurd h hk⟩
      let p' : Nat → Nat := fun k => Classical.choose (hpart' k)
      have hp' : ∀ k, k < gZ g r → p' k ≤ p k ∧ ((gS g r k < 26 ∧ p' k = 1) ∨ (26 ≤ gS g r k ∧ zDn g s h' (gS g r k - 26) (p' k))) := fun k hk => Classical.choose_spec (hpart' k) hk
      refine ⟨zsuM p' (gZ g r), by rw [h3]; exact zsuM_le fun k hk => (hp' k hk).1, ⟨r, h1, h2, p', rfl, fun k hk => (hp' k hk).2⟩, ?_⟩
      rintro ⟨q, hq1, f, hf1, hf2⟩
      obtain ⟨k0, hk, rfl⟩ := List.mem_map.1 hq1
      obtain ⟨hk1, hk2⟩ := List.mem_filter.1 hk
      have hk1 := List.mem_range.1 hk1
      have hk2 : 26 ≤ gS g r k0 := by simpa using hk2
      simp only at hf1 hf2
      let p2 : Nat → Nat := fun k => if k = k0 then f else p' k
      have hp2 : ∀ k, k < gZ g r → p2 k ≤ p k ∧ ((gS g r k < 26 ∧ p2 k = 1) ∨ (26 ≤ gS g r k ∧ zDn g s h' (gS g r k - 26) (p2 k))) := by
        intro k hk
        by_cases e : k = k0
        · subst e
          show (if k = k then f else p' k) ≤ p k ∧ _
          simp only [p2, if_true]
          exact ⟨by omega, .inr ⟨hk2, hf2⟩⟩
        · have e1 : p2 k = p' k := if_neg e
          rw [e1]
          exact hp' k hk
      refine ⟨zsuM p2 (gZ g r), ?_, r, h1, h2, p2, rfl, fun k hk => (hp2 k hk).2⟩
      rw [h3]
      refine zsuM_lt (fun k hk => (hp2 k hk).1) ⟨k0, hk1, ?_⟩
      show (if k0 = k0 then f else p' k0) < p k0
      rw [if_pos rfl]
      exact hf1
-- the walk
def zle (f f' : Nat → Option Nat) : Prop := ∀ c w, f c = some w → ∃ w', w' ≤ w ∧ f' c = some w'
theorem zle_refl (f : Nat → Option Nat) : zle f f := fun _ w h => ⟨w, Nat.le_refl _, h⟩
theorem zle_trans {a b c : Nat → Option Nat} (h : zle a b) (h' : zle b c) : zle a c := fun i w hw => by
  obtain ⟨w1, h1, h2⟩ := h i w hw
  obtain ⟨w2, h3, h4⟩ := h' i w1 h2
  exact ⟨w2, by omega, h4⟩
theorem zps_mo {f f' : Nat → Option Nat} (h : zle f f') {y : Nat → Nat} : ∀ {k v : Nat}, zps f y k = some v → ∃ v', v' ≤ v ∧ zps f' y k = some v'
  | 0, v, hv => ⟨v, Nat.le_refl _, hv⟩
  | k + 1, v, hv => by
    unfold zps at hv
    cases h1 : zps f y k with
    | none => rw [h1] at hv; cases hv
    | some a =>
      rw [h1, Option.bind_some] at hv
      cases h2 : zpv f (y k) with
      | none => rw [h2] at hv; cases hv
      | some b =>
        rw [h2, Option.bind_some] at hv
        cases hv
        obtain ⟨a', h3, h4⟩ := zps_mo h h1
        obtain ⟨b', h5, h6⟩ : ∃ b', b' ≤ b ∧ zpv f' (y k) = some b' := by
          unfold zpv at h2 ⊢
          by_cases hy : y k < 26
          · rw [if_pos hy] at h2 ⊢
            exact ⟨b, Nat.le_refl _, h2⟩
          · rw [if_neg hy] at h2 ⊢
            exact h _ _ h2
        refine ⟨a' + b', by omega, ?_⟩
        unfold zps
        rw [h4, Option.bind_some, h6]
        rfl
theorem zsh1_cases (g : zG) (f : Nat → Option Nat) (r : Nat) : (zsh1 g f r = (false, f) ∧ (∀ v, zps f (gS g r) (gZ g r) = some v → ∃ w, w ≤ v ∧ f (gL g r - 26) = some w)) ∨ ∃ v, zps f (gS g r) (gZ g r) = some v ∧ (∀ w, f (gL g r - 26) = some w → v < w) ∧ zsh1 g f r = (true, zup1 f (gL g r - 26) (some v)) := by
  unfold zsh1
  cases h : zps f (gS g r) (gZ g r) with
  | none => exact .inl ⟨rfl, fun v hv => by cases hv⟩
  | some v =>
    simp only
    cases h2 : f (gL g r - 26) with
    | none => exact .inr ⟨v, rfl, fun w hw => (by cases hw), rfl⟩
    | some w =>
      simp only
      by_cases hw : w ≤ v
      · rw [if_pos hw]
        exact .inl ⟨rfl, fun v' hv => by cases hv; exact ⟨w, hw, rfl⟩⟩
      · rw [if_neg hw]
        exact .inr ⟨v, rfl, fun w' hw' => (by cases hw'; omega), rfl⟩
theorem zsh1_le (g : zG) (f : Nat → Option Nat) (r : Nat) : zle f (zsh1 g f r).2 := by
  rcases zsh1_cases g f r with ⟨h, -⟩ | ⟨v, h1, h2, h⟩
  · rw [h]; exact zle_refl f
  · rw [h]
    intro c w hw
    show ∃ w', w' ≤ w ∧ (if c = gL g r - 26 then some v else f c) = some w'
    by_cases e : c = gL g r - 26
    · rw [if_pos e]
      rw [e] at hw
      have := h2 w hw
      exact ⟨v, by omega, rfl⟩
    · rw [if_neg e]
      exact ⟨w, Nat.le_refl _, hw⟩
theorem zsh1_at (g : zG) (f : Nat → Option Nat) (r : Nat) {v : Nat} (hv : zps f (gS g r) (gZ g r) = some v) : ∃ w, w ≤ v ∧ (zsh1 g f r).2 (gL g r - 26) = some w := by
  rcases zsh1_cases g f r with ⟨h, h1⟩ | ⟨v', h1, h2, h⟩
  · rw [h]; exact h1 v hv
  · rw [h]
    rw [hv] at h1
    cases h1
    exact ⟨v, Nat.le_refl _, if_pos rfl⟩
theorem zshR_le (g : zG) (s : zSn) (f : Nat → Option Nat) : ∀ {r r' : Nat}, r ≤ r' → zle (zshR g s f r).2 (zshR g s f r').2 := by
  intro r r' h
  induction h with
  | refl => exact zle_refl _
  | @step m _ ih =>
    refine zle_trans ih ?_
    show zle (zshR g s f m).2 (if zon g s m then ((zshR g s f m).1 || (zsh1 g (zshR g s f m).2 m).1, (zsh1 g (zshR g s f m).2 m).2) else zshR g s f m).2
    cases zon g s m with
    | false => exact zle_refl _
    | true => exact zsh1_le _ _ _
theorem zps_of {f : Nat → Option Nat} {y p : Nat → Nat} : ∀ {n : Nat}, (∀ k, k < n → ∃ b, b ≤ p k ∧ zpv f (y k) = some b) → ∃ v, v ≤ zsuM p n ∧ zps f y n = some v
  | 0, _ => ⟨0, Nat.le_refl _, rfl⟩
  | n + 1, h => by
    obtain ⟨a, h1, h2⟩ := zps_of (n := n) fun k hk => h k (by omega)
    obtain ⟨b, h3, h4⟩ := h n (by omega)
    refine ⟨a + b, by unfold zsuM; omega, ?_⟩
    unfold zps
    rw [h2, Option.bind_some, h4]
    rfl
theorem zshF_co {g : zG} {s : zSn} (hg : zwg g) : ∀ {i c v : Nat}, zDn g s i c v → ∃ w, w ≤ v ∧ zshF g s i c = some w
  | 0, _, _, h => h.elim
  | i + 1, c, v, ⟨r, h1, h2, p, h3, h4⟩ => by
    have hr := zon_lt h1
    obtain ⟨v1, h5, h6⟩ : ∃ v, v ≤ zsuM p (gZ g r) ∧ zps (zshF g s i) (gS g r) (gZ g r) = some v := by
      refine zps_of fun k hk => ?_
      unfold zpv
      rcases h4 k hk with ⟨a, b⟩ | ⟨a, b⟩
      · rw [if_pos a]
        exact ⟨1, by omega, rfl⟩
      · rw [if_neg (by omega)]
        exact zshF_co hg b
    obtain ⟨v2, h7, h8⟩ := zps_mo (zshR_le g s (zshF g s i) (Nat.zero_le r)) (show zps (zshR g s (zshF g s i) 0).2 (gS g r) (gZ g r) = some v1 from h6)
    obtain ⟨w, h9, h10⟩ := zsh1_at g _ r h8
    have h11 : (zshR g s (zshF g s i) (r + 1)).2 = (zsh1 g (zshR g s (zshF g s i) r).2 r).2 := by
      show (if zon g s r then ((zshR g s (zshF g s i) r).1 || (zsh1 g (zshR g s (zshF g s i) r).2 r).1, (zsh1 g (zshR g s (zshF g s i) r).2 r).2) else zshR g s (zshF g s i) r).2 = _
      rw [h1]
      rfl
    rw [← h11] at h10
    obtain ⟨w', h12, h13⟩ := zshR_le g s (zshF g s i) (show r + 1 ≤ gN g from hr) _ _ h10
    refine ⟨w', by omega, ?_⟩
    have e : gL g r - 26 = c := by omega
    rw [e] at h13
    exact h13
/-- what is in the row is derived -/
def zso (g : zG) (s : zSn) (f : Nat → Option Nat) : Prop := ∀ c v, f c = some v → ∃ h, zDn g s h c v
theorem zps_so {g : zG} {s : zSn} {f : Nat → Option Nat} (hs : zso g s f) {y : Nat → Nat} : ∀ {n v : Nat}, zps f y n = some v → ∃ (h : Nat) (p : Nat → Nat), v = zsuM p n ∧ ∀ k, k < n → (y k < 26 ∧ p k = 1) ∨ (26 ≤ y k ∧ zDn g s h (y k - 26) (p k))
  | 0, v, hv => by
    unfold zps at hv
    cases hv
    exact ⟨0, fun _ => 0, rfl, fun k hk => absurd hk (Nat.not_lt_zero _)⟩
  | n + 1, v, hv => by
    unfold zps at hv
    cases h1 : zps f y n with
    | none => rw [h1] at hv; cases hv
    | some a =>
      rw [h1, Option.bind_some] at hv
      cases h2 : zpv f (y n) with
      | none => rw [h2] at hv; cases hv
      | some b =>
        rw [h2, Option.bind_some] at hv
        cases hv
        obtain ⟨h, p, h3, h4⟩ := zps_so hs h1
        obtain ⟨h', hb⟩ : ∃ h', (y n < 26 ∧ b = 1) ∨ (26 ≤ y n ∧ zDn g s h' (y n - 26) b) := by
          unfold zpv at h2
          by_cases hy : y n < 26
          · rw [if_pos hy] at h2
            cases h2
            exact ⟨0, .inl ⟨hy, rfl⟩⟩
          · rw [if_neg hy] at h2
            obtain ⟨h', hh⟩ := hs _ _ h2
            exact ⟨h', .inr ⟨by omega, hh⟩⟩
        let p2 : Nat → Nat := fun k => if k = n then b else p k
        refine ⟨h + h', p2, ?_, ?_⟩
        · have e : zsuM p2 n = zsuM p n := by
            apply Nat.le_antisymm
            · exact zsuM_le fun k hk => by show (if k = n then b else p k) ≤ p k; rw [if_neg (by omega)]; exact Nat.le_refl _
            · exact zsuM_le fun k hk => by show p k ≤ (if k = n then b else p k); rw [if_neg (by omega)]; exact Nat.le_refl _
          show a + b = zsuM p2 n + (if n = n then b else p n)
          rw [e, if_pos rfl, ← h3]
        · intro k hk
          by_cases e : k = n
          · subst e
            show (_ ∧ (if k = k then b else p k) = 1) ∨ (_ ∧ zDn g s (h + h') _ (if k = k then b else p k))
            rw [if_pos rfl]
            exact hb.imp id fun q => ⟨q.1, zDn_up q.2 (by omega)⟩
          · show (_ ∧ (if k = n then b else p k) = 1) ∨ (_ ∧ zDn g s (h + h') _ (if k = n then b else p k))
            rw [if_neg e]
            exact (h4 k (by omega)).imp id fun q => ⟨q.1, zDn_up q.2 (by omega)⟩
theorem zso_1 {g : zG} {s : zSn} (hg : zwg g) {f : Nat → Option Nat} (hs : zso g s f) {r : Nat} (hr : zon g s r = true) : zso g s (zsh1 g f r).2 := by
  rcases zsh1_cases g f r with ⟨h, -⟩ | ⟨v, h1, h2, h⟩
  · rw [h]; exact hs
  · rw [h]
    intro c w hw
    have hw : (if c = gL g r - 26 then some v else f c) = some w := hw
    by_cases e : c = gL g r - 26
    · rw [if_pos e] at hw
      cases hw
      obtain ⟨h, p, h3, h4⟩ := zps_so hs h1
      have := g_l hg (zon_lt hr)
      exact ⟨h + 1, r, hr, by omega, p, h3, h4⟩
    · rw [if_neg e] at hw
      exact hs c w hw
theorem zso_R {g : zG} {s : zSn} (hg : zwg g) {f : Nat → Option Nat} (hs : zso g s f) : ∀ r, zso g s (zshR g s f r).2
  | 0 => hs
  | r + 1 => by
    have ih := zso_R hg hs r
    show zso g s (if zon g s r then ((zshR g s f r).1 || (zsh1 g (zshR g s f r).2 r).1, (zsh1 g (zshR g s f r).2 r).2) else zshR g s f r).2
    cases h : zon g s r with
    | false => exact ih
    | true => exact zso_1 hg ih h
theorem zso_F {g : zG} {s : zSn} (hg : zwg g) : ∀ i, zso g s (zshF g s i)
  | 0 => fun c v h => by cases h
  | i + 1 => zso_R hg (zso_F hg i) _
theorem zshR_no {g : zG} {s : zSn} {f : Nat → Option Nat} (h : ∀ r, zon g s r = true → zsh1 g f r = (false, f)) : ∀ r, zshR g s f r = (false, f)
  | 0 => rfl
  | r + 1 => by
    show (if zon g s r then ((zshR g s f r).1 || (zsh1 g (zshR g s f r).2 r).1, (zsh1 g (zshR g s f r).2 r).2) else zshR g s f r) = _
    rw [zshR_no h r]
    cases hr : zon g s r with
    | false => rfl
    | true =>
      show ((false || (zsh1 g f r).1, (zsh1 g f r).2) : Bool × (Nat → Option Nat)) = _
      rw [h r hr]
      rfl
theorem zshR_un {g : zG} {s : zSn} {f : Nat → Option Nat} : ∀ {n : Nat}, (zshR g s f n).1 = false → (zshR g s f n).2 = f ∧ ∀ r, r < n → zon g s r = true → zsh1 g f r = (false, f)
  | 0, _ => ⟨rfl, fun r h => absurd h (Nat.not_lt_zero _)⟩
  | n + 1, h => by
    have e : zshR g s f (n + 1) = if zon g s n then ((zshR g s f n).1 || (zsh1 g (zshR g s f n).2 n).1, (zsh1 g (zshR g s f n).2 n).2) else zshR g s f n := rfl
    rw [e] at h ⊢
    cases hr : zon g s n with
    | false =>
      rw [hr] at h
      obtain ⟨h1, h2⟩ := zshR_un (n := n) h
      refine ⟨h1, fun r hr' hon => ?_⟩
      by_cases en : r = n
      · rw [en, hr] at hon; cases hon
      · exact h2 r (by omega) hon
    | true =>
      rw [hr] at h
      have h : ((zshR g s f n).1 || (zsh1 g (zshR g s f n).2 n).1) = false := h
      rw [Bool.or_eq_false_iff] at h
      obtain ⟨h1, h2⟩ := zshR_un (n := n) h.1
      have h3 := h.2
      rw [h1] at h3
      have h4 : zsh1 g f n = (false, f) := by
        rcases zsh1_cases g f n with ⟨a, -⟩ | ⟨v, -, -, a⟩
        · exact a
        · rw [a] at h3; cases h3
      refine ⟨?_, fun r hr' hon => ?_⟩
      · show (zsh1 g (zshR g s f n).2 n).2 = f
        rw [h1, h4]
      · by_cases en : r = n
        · rw [en]; exact h4
        · exact h2 r (by omega) hon
theorem zshC_6 {g : zG} {s : zSn} (hg : zwg g) : zshC g s 6 = false := by
  show (zshR g s (zshF g s 5) (gN g)).1 = false
  rw [zshR_no (fun r hr => ?_)]
  rcases zsh1_cases g (zshF g s 5) r with ⟨a, -⟩ | ⟨v, h1, h2, -⟩
  · exact a
  · exfalso
    obtain ⟨h, p, h3, h4⟩ := zps_so (zso_F hg 5) h1
    have hl := g_l hg (zon_lt hr)
    obtain ⟨v', h5, h6⟩ := zDn_5 hg (h + 1) (gL g r - 26) v ⟨r, hr, by omega, p, h3, h4⟩
    obtain ⟨w, h7, h8⟩ := zshF_co hg h6
    have := h2 w h8
    omega
/-- the rounds that the class goes -/
theorem zsh_I {g : zG} {s : zSn} (hg : zwg g) : ∃ I, 0 < I ∧ I ≤ 6 ∧ zshC g s I = false ∧ ∀ j, j < I → zshC g s j = true := by
  obtain ⟨I, h1, h2⟩ := zleast (P := fun i => zshC g s i = false) (zshC_6 (s := s) hg)
  refine ⟨I, ?_, h2 6 (zshC_6 hg), h1, fun j hj => ?_⟩
  · cases I with
    | zero => cases h1
    | succ i => omega
  · cases e : zshC g s j with
    | true => rfl
    | false => exact absurd (h2 j e) (by omega)
/-- the least number of letters -/
def zSh (g : zG) (s : zSn) (c v : Nat) : Prop := (∃ h, zDn g s h c v) ∧ ∀ h w, zDn g s h c w → v ≤ w
theorem zsh_ex {g : zG} {s : zSn} (hg : zwg g) {I : Nat} (hI : 0 < I) (hC : zshC g s I = false) : (∀ c v, zshF g s I c = some v → zSh g s c v) ∧ (∀ c h v, zDn g s h c v → (zshF g s I c).isSome = true) := by
  cases I with
  | zero => exact absurd hI (Nat.not_lt_zero _)
  | succ i =>
    obtain ⟨h1, h2⟩ := zshR_un (show (zshR g s (zshF g s i) (gN g)).1 = false from hC)
    have h3 : zshF g s (i + 1) = zshF g s i := h1
    have hcl : ∀ h c v, zDn g s h c v → ∃ w, w ≤ v ∧ zshF g s i c = some w := by
      intro h
      induction h with
      | zero => intro c v hd; exact hd.elim
      | succ h ih =>
        rintro c v ⟨r, hr, hl, p, hp, h4⟩
        obtain ⟨v1, h5, h6⟩ : ∃ v, v ≤ zsuM p (gZ g r) ∧ zps (zshF g s i) (gS g r) (gZ g r) = some v := by
          refine zps_of fun k hk => ?_
          unfold zpv
          rcases h4 k hk with ⟨a, b⟩ | ⟨a, b⟩
          · rw [if_pos a]
            exact ⟨1, by omega, rfl⟩
          · rw [if_neg (by omega)]
            exact ih _ _ b
        rcases zsh1_cases g (zshF g s i) r with ⟨-, a⟩ | ⟨v', -, -, a⟩
        · obtain ⟨w, h7, h8⟩ := a v1 h6
          have e : gL g r - 26 = c := by omega
          rw [e] at h8
          exact ⟨w, by omega, h8⟩
        · rw [h2 r (zon_lt hr) hr] at a
          cases a
    rw [h3]
    refine ⟨fun c v hv => ⟨zso_F hg i c v hv, fun h w hw => ?_⟩, fun c h v hd => ?_⟩
    · obtain ⟨w', h7, h8⟩ := hcl h c w hw
      rw [hv] at h8
      cases h8
      exact h7
    · obtain ⟨w', h7, h8⟩ := hcl h c v hd
      rw [h8]
      rfl
