/-! WHAT STANDS BETWEEN CALLS, of all the memory -/
/-- the tape of both -/
def zTp (μ : zzM) : Prop := ∃ b n, μ.1 0 1 = nI n ∧ (∀ i, i < n → μ.1 1 i = nI (b i)) ∧ mTp b n μ
/-- the number that sentences are drawn by -/
def zXx (μ : zzM) : Prop := ∃ x, x < 2147483648 ∧ μ.1 2 9 = nI x ∧ μ.1 106 6 = nI x
theorem zXx_cg {μ y : zzM} (h : zXx μ) (h1 : y.1 2 9 = μ.1 2 9) (h2 : y.1 106 6 = μ.1 106 6) : zXx y := by
  obtain ⟨x, a, b, c⟩ := h
  exact ⟨x, a, h1.trans b, h2.trans c⟩
/-- a grammar, a snapshot and a past that both sides hold -/
def zHo (g : zG) (s : zSn) (S : Nat → zSn) (m : Nat) (ν : zzM) : Prop := zPo g S m ∧ zc2 g s ν ∧ zm2 g s ν ∧ cP s S m ν ∧ mP S m ν ∧ zXx ν
/-- the class's image at D.. is what stood at ν -/
def zImC (D : Nat) (ν μ : zzM) : Prop := zcpg (D + 1) 3 ν μ ∧ (∀ k, k < 12 → μ.1 (D + 8) k = ν.1 10 k) ∧ (∀ k, k < 48 → μ.1 (D + 9) k = ν.1 11 k) ∧ (∀ k, k < 20 → μ.1 (D + 10) k = ν.1 12 k) ∧ μ.1 D 2 = ν.1 2 2 ∧ μ.1 D 3 = ν.1 2 3 ∧ μ.1 D 5 = ν.1 2 5 ∧ μ.1 D 6 = ν.1 2 6 ∧ μ.1 D 8 = ν.1 2 8 ∧ μ.1 D 9 = ν.1 2 9
/-- the reference's image q is what stood at ν -/
def zImM (q : Nat) (ν μ : zzM) : Prop := μ.1 151 (640 * q + 123) = ν.1 105 39 ∧ (∀ k, k < 7 → μ.1 151 (640 * q + 0 + k) = ν.1 106 k) ∧ (∀ k, k < 12 → μ.1 151 (640 * q + 7 + k) = ν.1 107 k) ∧ (∀ k, k < 12 → μ.1 151 (640 * q + 19 + k) = ν.1 108 k) ∧ (∀ k, k < 48 → μ.1 151 (640 * q + 31 + k) = ν.1 109 k) ∧ (∀ k, k < 12 → μ.1 151 (640 * q + 79 + k) = ν.1 110 k) ∧ (∀ k, k < 12 → μ.1 151 (640 * q + 91 + k) = ν.1 111 k) ∧ (∀ k, k < 12 → μ.1 151 (640 * q + 103 + k) = ν.1 112 k) ∧ (∀ k, k < 8 → μ.1 151 (640 * q + 115 + k) = ν.1 113 k) ∧ ∀ k, k < 480 → μ.1 151 (640 * q + 124 + k) = ν.1 132 k
/-- an image of both: none, or made of what both held -/
def zIm (q : Nat) (μ : zzM) : Prop := (μ.1 (61 + 11 * q) 10 = 0 ∧ μ.1 152 q = 0) ∨ (¬ μ.1 (61 + 11 * q) 10 = 0 ∧ ¬ μ.1 152 q = 0 ∧ ∃ ν g s S m, zHo g s S m ν ∧ zImC (61 + 11 * q) ν μ ∧ zImM q ν μ)
def zIv (μ : zzM) : Prop := (∃ g s S m, zPo g S m ∧ cI g s μ ∧ mI g s μ ∧ cP s S m μ ∧ mP S m μ) ∧ zXx μ ∧ zTp μ ∧ ∀ q, q < 4 → zIm q μ
/-- both answer alike, and that stands behind -/
def zA (y y' : Nat) (as as' : List Value) (μ : zzM) : Prop := ∃ r1 r2 : zzR, zzf zzP zN 13 y as μ = some r1 ∧ zzf zzP zN 13 y' as' r1.2 = some r2 ∧ r1.1.1 = r2.1.1 ∧ zIv r2.2
theorem zTp_fr {μ y : zzM} {L : List Nat} (h : zTp μ) (hf : zfr L μ y) (h16 : y.1 105 16 = μ.1 105 16) (hl : zdj [0, 1, 120] L) : zTp y := by
  obtain ⟨b, n, h1, h2, h3, h4, h5⟩ := h
  refine ⟨b, n, ?_, fun i hi => ?_, h3, h16.trans h4, fun i hi => ?_⟩
  · rw [zf_i hf (zdj_i hl (c := 0) (by simp))]
    exact h1
  · rw [zf_i hf (zdj_i hl (c := 1) (by simp))]
    exact h2 i hi
  · rw [zf_i hf (zdj_i hl (c := 120) (by simp))]
    exact h5 i hi
theorem zImC_fr {D : Nat} {ν μ y : zzM} (h : zImC D ν μ) (hf : ∀ c, D ≤ c → c < D + 11 → y.1 c = μ.1 c) : zImC D ν y := by
  unfold zImC zcpg at h ⊢
  rw [hf D (by omega) (by omega), hf (D + 1) (by omega) (by omega), hf (D + 1 + 1) (by omega) (by omega), hf (D + 1 + 2) (by omega) (by omega), hf (D + 1 + 3) (by omega) (by omega), hf (D + 1 + 4) (by omega) (by omega), hf (D + 1 + 5) (by omega) (by omega), hf (D + 1 + 6) (by omega) (by omega), hf (D + 8) (by omega) (by omega), hf (D + 9) (by omega) (by omega), hf (D + 10) (by omega) (by omega)]
  exact h
theorem zIm_cg {q : Nat} {μ y : zzM} (h : zIm q μ) (hf : ∀ c, 61 + 11 * q ≤ c → c < 61 + 11 * q + 11 → y.1 c = μ.1 c) (h2 : y.1 152 q = μ.1 152 q) (h1 : ∀ k, 640 * q ≤ k → k < 640 * q + 604 → y.1 151 k = μ.1 151 k) : zIm q y := by
  unfold zIm
  rw [hf _ (Nat.le_refl _) (by omega), h2]
  refine h.imp id fun ⟨a, b, ν, g, s, S, m, e1, e2, e3⟩ => ⟨a, b, ν, g, s, S, m, e1, zImC_fr e2 hf, ?_⟩
  obtain ⟨i0, i1, i2, i3, i4, i5, i6, i7, i8, i9⟩ := e3
  refine ⟨by rw [h1 _ (by omega) (by omega)]; exact i0, fun k hk => ?_, fun k hk => ?_, fun k hk => ?_, fun k hk => ?_, fun k hk => ?_, fun k hk => ?_, fun k hk => ?_, fun k hk => ?_, fun k hk => ?_⟩
  · rw [h1 _ (by omega) (by omega)]; exact i1 k hk
  · rw [h1 _ (by omega) (by omega)]; exact i2 k hk
  · rw [h1 _ (by omega) (by omega)]; exact i3 k hk
  · rw [h1 _ (by omega) (by omega)]; exact i4 k hk
  · rw [h1 _ (by omega) (by omega)]; exact i5 k hk
  · rw [h1 _ (by omega) (by omega)]; exact i6 k hk
  · rw [h1 _ (by omega) (by omega)]; exact i7 k hk
  · rw [h1 _ (by omega) (by omega)]; exact i8 k hk
  · rw [h1 _ (by omega) (by omega)]; exact i9 k hk
abbrev zil : List Nat := [61, 62, 63, 64, 65, 66, 67, 68, 69, 70, 71, 72, 73, 74, 75, 76, 77, 78, 79, 80, 81, 82, 83, 84, 85, 86, 87, 88, 89, 90, 91, 92, 93, 94, 95, 96, 97, 98, 99, 100, 101, 102, 103, 104, 151, 152]
theorem zil_in : ∀ c, 61 ≤ c → c < 105 → c ∈ zil := by
  intro c h1 h2
  have : ∀ k, k < 44 → 61 + k ∈ zil := by decide
  have := this (c - 61) (by omega)
  rwa [show 61 + (c - 61) = c by omega] at this
theorem zIm_fr {q : Nat} {μ y : zzM} {L : List Nat} (hq : q < 4) (h : zIm q μ) (hf : zfr L μ y) (hl : zdj zil L) : zIm q y :=
  zIm_cg h (fun c h1 h2 => zf_i hf (zdj_i hl (zil_in c (by omega) (by omega)))) (by rw [zf_i hf (zdj_i hl (c := 152) (by decide))]) fun k _ _ => by rw [zf_i hf (zdj_i hl (c := 151) (by decide))]
theorem zA_X {g : zG} {μ : zzM} {y y' : Nat} {as as' : List Value} (h : zIv μ) (x : zX g y y' as as' μ) : zA y y' as as' μ := by
  obtain ⟨o1, o2, a1, a2, a3, a4, a5, a6, a7, a8, s, S, m, b1, b2, b3, b4, b5⟩ := x
  refine ⟨o1, o2, a1, a2, a3, ⟨g, s, S, m, b1, b2, b3, b4, b5⟩, zXx_cg h.2.1 a5 a8, zTp_fr h.2.2.1 a4 a7 rfl, fun q hq => zIm_fr hq (h.2.2.2 q hq) a4 rfl⟩
theorem zA_1 {μ : zzM} {y y' : Nat} {as as' : List Value} (h : zIv μ) (x : ∀ g s S m, zOk g s → zPo g S m → cI g s μ → mI g s μ → cP s S m μ → mP S m μ → zX g y y' as as' μ) : zA y y' as as' μ := by
  obtain ⟨g, s, S, m, b1, b2, b3, b4, b5⟩ := h.1
  exact zA_X h (x g s S m (b4.2.1 ▸ b1 m (Nat.le_refl _)) b1 b2 b3 b4 b5)
/-- the class's tables stand where the cells that tell the setting were written alike -/
theorem cI_2 {g : zG} {s : zSn} {μ : zzM} {y : zzM} {L : List Nat} (c : cI g s μ) (h : zc2 g s y) (hf : zfr L μ y) (hl : zdj [21, 22, 23, 24, 26, 27, 28, 31, 32, 33, 34, 36, 37, 38, 39, 41, 42, 43, 45, 46, 48, 49, 50, 52, 53, 56, 57] L) : cI g s y := by
  have i : ∀ C, C ∈ [21, 22, 23, 24, 26, 27, 28, 31, 32, 33, 34, 36, 37, 38, 39, 41, 42, 43, 45, 46, 48, 49, 50, 52, 53, 56, 57] → y.1 C = μ.1 C := fun C hC => zf_i hf (zdj_i hl hC)
  have sub : ∀ K : List Nat, K.all (fun c => [21, 22, 23, 24, 26, 27, 28, 31, 32, 33, 34, 36, 37, 38, 39, 41, 42, 43, 45, 46, 48, 49, 50, 52, 53, 56, 57].elem c) = true → zdj K L := fun K hK => List.all_eq_true.2 fun c hc => by
    have := zdj_i hl (List.mem_of_elem_eq_true (List.all_eq_true.1 hK c hc))
    rw [this]
    rfl
  refine ⟨h, ?_, ?_, cCh_fr c.P hf (sub _ rfl), cCh_fr c.A hf (sub _ rfl), ?_, c.N.imp fun _ e => ⟨e.1, cNo_fr e.2 hf (sub _ rfl)⟩, c.Z.imp fun _ e => ⟨e.1, cSi_fr e.2 hf (sub _ rfl)⟩, ?_, c.M.imp fun _ e => ⟨e.1, cMd_fr e.2 hf (sub _ rfl)⟩⟩
  · rw [i 21 (by simp)]
    exact c.F.imp id fun e => ⟨e.1, zcF_fr e.2 hf (sub _ rfl)⟩
  · rw [i 26 (by simp)]
    exact c.S.imp id fun ⟨e, w, e1, e2⟩ => ⟨e, w, e1, zcSt_fr e2 hf (sub _ rfl)⟩
  · rw [i 41 (by simp)]
    exact c.L.imp id fun ⟨w, e1, e2⟩ => ⟨w, e1, lvOk_fr e2 hf (sub _ rfl)⟩
  · rw [i 52 (by simp)]
    refine c.O.imp id fun ⟨e1, e2, e3⟩ => ⟨foOk_fr e1 hf (sub _ rfl), ?_, e3.imp id fun e => cTl_fr e hf (sub _ rfl)⟩
    unfold cCf cEl cFi chk at e2 ⊢
    rw [i 36 (by simp), i 37 (by simp), i 38 (by simp), i 39 (by simp)]
    exact e2
