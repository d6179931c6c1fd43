/-! FACTS of the class, all: what Facts.find leaves -/
def zcF (g : zG) (s : zSn) (μ : zzM) : Prop := zmE g s (μ.1 21 2) ∧ (∀ c, c < 32 → (bt (μ.1 21 3) c = true ↔ ∃ h v, zDn g s h c v)) ∧ (∀ c, c < 32 → (bt (μ.1 21 4) c = true ↔ zRe g s c)) ∧ (∀ c, c < 32 → (bt (μ.1 21 5) c = true ↔ zTr (zSt g s true) c c)) ∧ (∀ c, c < 32 → (bt (μ.1 21 6) c = true ↔ zTr (zSt g s false) c c)) ∧ zmF g s (μ.1 22) ∧ zmW g s (μ.1 23) ∧ (∀ c, c < 26 → (∀ v, zSh g s c v → μ.1 24 c = nI v) ∧ ((¬ ∃ h v, zDn g s h c v) → μ.1 24 c = -(nI 2)))
theorem zDn_lt {g : zG} {s : zSn} (hg : zwg g) {h c v : Nat} (hd : zDn g s h c v) : c < 26 := by
  cases h with
  | zero => exact hd.elim
  | succ h =>
    obtain ⟨r, h1, h2, -⟩ := hd
    have := g_l hg (zon_lt h1)
    omega
theorem s_factsFind {g : zG} {s : zSn} {μ : zzM} (h : zc2 g s μ) (hg : zwg g) (hn0 : 0 < gN g) (d : Nat) (hs : μ.1 21 1 = 0 ∨ (μ.1 21 1 = nI 1 ∧ zcF g s μ)) : zw (zzf zzP zN (d + 5) 31 [.ref 21] μ) fun o => zfr [21, 22, 23, 24, 25] μ o.2 ∧ zcF g s o.2 ∧ o.2.1 21 1 = nI 1 := by
  rw [u_facts_find]
  rcases hs with hs | ⟨hs, hF⟩
  · rw [if_pos hs]
    obtain ⟨I, hI, hI6, hC, hC2⟩ := zsh_I (s := s) hg
    obtain ⟨x1, x2⟩ := zsh_ex hg hI hC
    refine zw_bind (s_findShort h hg (d + 1) hI (by omega) hC hC2) ?_
    rintro ⟨o1, μ1⟩ ⟨p1, p2, p3, p4, p5⟩
    simp only at p1 p2 p3 p4 p5 ⊢
    have c1 := zc2_fr h p2 rfl
    have E1 : zmE g s (μ1.1 21 2) := by
      intro c hc
      rw [p3 c hc]
      constructor
      · rintro ⟨q1, q2⟩
        obtain ⟨hh, hd⟩ := (x1 c 0 q2).1
        exact ⟨q1, hh, hd⟩
      · rintro ⟨q1, hh, hd⟩
        refine ⟨q1, ?_⟩
        have h1 := x2 c hh 0 hd
        cases hv : zshF g s I c with
        | none => rw [hv] at h1; cases h1
        | some v =>
          have h2 := (x1 c v hv).2 hh 0 hd
          rw [show v = 0 by omega]
    have N1 : ∀ c, c < 32 → (bt (μ1.1 21 3) c = true ↔ ∃ h v, zDn g s h c v) := by
      intro c hc
      rw [p4 c hc]
      constructor
      · rintro ⟨q1, q2⟩
        cases hv : zshF g s I c with
        | none => rw [hv] at q2; cases q2
        | some v =>
          obtain ⟨hh, hd⟩ := (x1 c v hv).1
          exact ⟨hh, v, hd⟩
      · rintro ⟨hh, v, hd⟩
        exact ⟨zDn_lt hg hd, x2 c hh v hd⟩
    have S1 : ∀ c, c < 26 → (∀ v, zSh g s c v → μ1.1 24 c = nI v) ∧ ((¬ ∃ h v, zDn g s h c v) → μ1.1 24 c = -(nI 2)) := by
      intro c hc
      refine ⟨fun v hv => ?_, fun hno => ?_⟩
      · obtain ⟨⟨hh, hd⟩, hm⟩ := hv
        have h1 := x2 c hh v hd
        cases hw : zshF g s I c with
        | none => rw [hw] at h1; cases h1
        | some w =>
          have h2 := (x1 c w hw).2 hh v hd
          obtain ⟨h3, h4⟩ := (x1 c w hw).1
          have h5 := hm h3 w h4
          rw [zsr_s p1 hc hw, show w = v by omega]
      · cases hw : zshF g s I c with
        | none => exact zsr_n p1 hc hw
        | some w =>
          obtain ⟨h3, h4⟩ := (x1 c w hw).1
          exact absurd ⟨h3, w, h4⟩ hno
    refine zw_bind (s_findReached c1 hg hn0 (d + 1)) ?_
    rintro ⟨o2, μ2⟩ ⟨r1, r2, r3⟩
    simp only at r1 r2 r3 ⊢
    have f2 : zfr [21, 24] μ μ2 := zf_trans p2 (zf_mono r1 rfl)
    have c2 := zc2_fr h f2 rfl
    have E2 : zmE g s (μ2.1 21 2) := by rw [r3 2 (by omega)]; exact E1
    refine zw_bind (s_findFirsts c2 hg E2 (d + 1)) ?_
    rintro ⟨o3, μ3⟩ ⟨t1, t2⟩
    simp only at t1 t2 ⊢
    have f3 : zfr [21, 22, 24] μ μ3 := zf_trans (zf_mono f2 rfl) (zf_mono t1 rfl)
    have c3 := zc2_fr h f3 rfl
    have i3 : μ3.1 21 = μ2.1 21 := zf_i t1 rfl
    refine zw_bind (s_findFollows c3 hg hn0 (by rw [i3]; exact E2) t2 (by rw [i3]; exact r2) d) ?_
    rintro ⟨o4, μ4⟩ ⟨w1, w2⟩
    simp only at w1 w2 ⊢
    have f4 : zfr [21, 22, 23, 24] μ μ4 := zf_trans (zf_mono f3 rfl) (zf_mono w1 rfl)
    have c4 := zc2_fr h f4 rfl
    have i4 : μ4.1 21 = μ2.1 21 := (zf_i w1 rfl).trans i3
    have E4 : zmE g s (μ4.1 21 2) := by rw [i4]; exact E2
    refine zw_bind (s_findSteps c4 hg E4 d true) ?_
    rintro ⟨o5, μ5⟩ ⟨a1, a2⟩
    simp only at a1 a2 ⊢
    refine zw_bind (s_back (R := zSt g s true) (fun a b q => zSt_lt hg q) a2 (d + 3)) ?_
    rintro ⟨⟨l1, l2, l3⟩, μ6⟩ ⟨b1, b2⟩
    simp only at b1 b2 ⊢
    have f6 : zfr [21, 22, 23, 24, 25] μ (zzwI μ6 21 5 l1) := zf_twI _ _ (zf_trans (zf_mono f4 rfl) (zf_trans (zf_mono a1 rfl) (zf_mono b1 rfl))) rfl
    have c6 := zc2_fr h f6 rfl
    have i6 : μ6.1 21 = μ2.1 21 := ((zf_i b1 rfl).trans (zf_i a1 rfl)).trans i4
    have E6 : zmE g s ((zzwI μ6 21 5 l1).1 21 2) := by rw [zm_k _ _ _ _ (by omega), i6]; exact E2
    refine zw_bind (s_findSteps c6 hg E6 d false) ?_
    rintro ⟨o7, μ7⟩ ⟨a3, a4⟩
    simp only at a3 a4 ⊢
    refine zw_bind (s_back (R := zSt g s false) (fun a b q => zSt_lt hg q) a4 (d + 3)) ?_
    rintro ⟨⟨k1, k2, k3⟩, μ8⟩ ⟨b3, b4⟩
    simp only at b3 b4 ⊢
    rw [if_pos (by decide)]
    have i8 : μ8.1 21 = (zzwI μ6 21 5 l1).1 21 := (zf_i b3 rfl).trans (zf_i a3 rfl)
    have f8 : zfr [25] (zzwI μ6 21 5 l1) μ8 := zf_trans a3 b3
    have g8 : ∀ {c : Nat}, List.elem c [25] = false → c ≠ 21 → μ8.1 c = μ4.1 c := fun q1 q2 => by rw [zf_i f8 q1, zm_c _ _ _ q2, zf_i b1 q1, zf_i a1 q1]
    refine zw_some ⟨zf_twI _ _ (zf_twI _ _ (zf_trans f6 (zf_mono f8 rfl)) rfl) rfl, ⟨?_, ?_, ?_, ?_, ?_, ?_, ?_, ?_⟩, ?_⟩
    · rw [zm_k _ _ _ _ (by omega), zm_k _ _ _ _ (by omega), i8]; exact E6
    · rw [zm_k _ _ _ _ (by omega), zm_k _ _ _ _ (by omega), i8, zm_k _ _ _ _ (by omega), i6, r3 3 (by omega)]; exact N1
    · rw [zm_k _ _ _ _ (by omega), zm_k _ _ _ _ (by omega), i8, zm_k _ _ _ _ (by omega), i6]; exact r2
    · rw [zm_k _ _ _ _ (by omega), zm_k _ _ _ _ (by omega), i8, zm_s]; exact b2
    · rw [zm_k _ _ _ _ (by omega), zm_s]; exact b4
    · rw [zm_c _ _ _ (by omega), zm_c _ _ _ (by omega), g8 rfl (by omega), zf_i w1 rfl]; exact t2
    · rw [zm_c _ _ _ (by omega), zm_c _ _ _ (by omega), g8 rfl (by omega)]; exact w2
    · rw [zm_c _ _ _ (by omega), zm_c _ _ _ (by omega), g8 rfl (by omega), zf_i w1 rfl, zf_i t1 rfl, zf_i r1 rfl]; exact S1
    · rw [zm_s]
  · rw [if_neg (by rw [hs]; decide)]
    exact zw_some ⟨zf_refl _ _, hF, hs⟩
theorem s_foundFacts {g : zG} {s : zSn} {μ : zzM} (h : zc2 g s μ) (hg : zwg g) (hn0 : 0 < gN g) (d : Nat) (hs : μ.1 21 1 = 0 ∨ (μ.1 21 1 = nI 1 ∧ zcF g s μ)) : zw (zzf zzP zN (d + 6) 126 [.ref 0] μ) fun o => o.1.2.2 = 21 ∧ zfr [21, 22, 23, 24, 25] μ o.2 ∧ zcF g s o.2 ∧ o.2.1 21 1 = nI 1 := by
  rw [u_pf_foundFacts]
  refine zw_bind (s_factsFind h hg hn0 d hs) ?_
  rintro ⟨o, ν⟩ hq
  exact zw_some ⟨rfl, hq⟩
