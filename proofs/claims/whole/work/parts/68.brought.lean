/-! what a capital's first points bring along: by capitals, and as a closed set -/
def zbg (g : zG) (s : zSn) (c i : Nat) : Prop := ∃ q, zon g s q = true ∧ gL g q = 26 + c ∧ i = 5 * q
/-- a rule of c begins with the capital c' -/
def zed (g : zG) (s : zSn) (c c' : Nat) : Prop := ∃ q, zon g s q = true ∧ gL g q = 26 + c ∧ 0 < gZ g q ∧ gS g q 0 = 26 + c'
def zfP (g : zG) (s : zSn) (i : Nat) (P : Nat → Prop) (c : Nat) : Prop := zbg g s c i ∨ ∃ c', zed g s c c' ∧ P c'
theorem zfP_mo (g : zG) (s : zSn) (i : Nat) : zmon (zfP g s i) := by
  rintro P Q h c (h1 | ⟨c', h1, h2⟩)
  · exact .inl h1
  · exact .inr ⟨c', h1, h _ h2⟩
theorem zfP_lt {g : zG} {s : zSn} (hg : zwg g) : ∀ i P c, zfP g s i P c → c < 26 := by
  rintro i P c (⟨q, h1, h2, -⟩ | ⟨c', ⟨q, h1, h2, -⟩, -⟩)
  · have := g_l hg (zon_lt h1); omega
  · have := g_l hg (zon_lt h1); omega
theorem zP_left {g : zG} {s : zSn} (hg : zwg g) : ∀ i c, zlfp (zfP g s i) c → gleft g c = true := by
  intro i c h
  refine zlfp_le (P := fun c => gleft g c = true) ?_ h
  rintro c (⟨q, h1, h2, -⟩ | ⟨c', ⟨q, h1, h2, -⟩, -⟩)
  · have := gleft_of hg (zon_lt h1)
    rwa [h2, Nat.add_sub_cancel_left] at this
  · have := gleft_of hg (zon_lt h1)
    rwa [h2, Nat.add_sub_cancel_left] at this
/-- only first points of rules that are told come along -/
theorem zP_form {g : zG} {s : zSn} {i c : Nat} (h : zlfp (zfP g s i) c) : ∃ q, zon g s q = true ∧ i = 5 * q := by
  refine zlfp_le (P := fun _ => ∃ q, zon g s q = true ∧ i = 5 * q) ?_ h
  rintro c (⟨q, h1, -, h3⟩ | ⟨c', -, h2⟩)
  · exact ⟨q, h1, h3⟩
  · exact h2
/-- what the left of such a rule brings along, comes along -/
theorem zP_tr {g : zG} {s : zSn} {q i c : Nat} (hl : 26 ≤ gL g q) (h : zlfp (zfP g s (5 * q)) c) (h' : zlfp (zfP g s i) (gL g q - 26)) : zlfp (zfP g s i) c := by
  refine zlfp_le (P := fun c => zlfp (zfP g s i) c) ?_ h
  rintro c (⟨q', -, h2, h3⟩ | ⟨c', h1, h2⟩)
  · have e : q' = q := by omega
    rw [e] at h2
    rwa [show gL g q - 26 = c by omega] at h'
  · exact zlfp_in (zfP_mo g s i) (.inr ⟨c', h1, h2⟩)
theorem zcl_sub {g : zG} {s : zSn} {S T : Nat → Prop} (h : ∀ i, S i → zcl g s T i) {i : Nat} (hi : zcl g s S i) : zcl g s T i := by
  refine zlfp_le (P := fun i => zcl g s T i) ?_ hi
  rintro i (h1 | ⟨r, n, q, h1, h2⟩)
  · exact h i h1
  · exact zlfp_in (zfC_mo g s T) (.inr ⟨r, n, q, h1, h2⟩)
theorem zP_cl {g : zG} {s : zSn} (hg : zwg g) (c i : Nat) : zlfp (zfP g s i) c ↔ zcl g s (zbg g s c) i := by
  constructor
  · intro h
    refine zlfp_le (P := fun c => zcl g s (zbg g s c) i) ?_ h
    rintro c (h1 | ⟨c', ⟨q, h1, h2, h3, h4⟩, h5⟩)
    · exact zlfp_in (zfC_mo g s _) (.inl h1)
    · refine zcl_sub ?_ h5
      rintro j ⟨q', t1, t2, t3⟩
      refine zlfp_in (zfC_mo g s _) (.inr ⟨q, 0, q', ?_, zon_lt h1, h3, by omega, t1, by omega, t3⟩)
      exact zlfp_in (zfC_mo g s _) (.inl ⟨q, h1, h2, rfl⟩)
  · intro h
    refine zlfp_le (P := fun i => zlfp (zfP g s i) c) ?_ h
    rintro i (h1 | ⟨r, n, q, h1, h2, h3, h4, h5, h6, h7⟩)
    · exact zlfp_in (zfP_mo g s i) (.inl h1)
    · obtain ⟨r', t1, t2⟩ := zP_form h1
      have hz := g_z hg h2
      have e : r' = r ∧ n = 0 := by omega
      obtain ⟨e1, e2⟩ := e
      subst e1
      subst e2
      have hl := g_l hg h2
      rw [Nat.add_zero] at h1
      refine zP_tr hl.1 h1 ?_
      have hs := g_s hg h2 h3
      refine zlfp_in (zfP_mo g s i) (.inr ⟨gS g r' 0 - 26, ⟨r', t1, by omega, h3, by omega⟩, ?_⟩)
      exact zlfp_in (zfP_mo g s i) (.inl ⟨q, h5, by omega, h7⟩)
