/-! WHAT STANDS BETWEEN CALLS: the class's tables, the reference's -/
def zdj (K L : List Nat) : Prop := K.all (fun c => !L.elem c) = true
theorem zdj_i {K L : List Nat} (h : zdj K L) {c : Nat} (hc : c ∈ K) : L.elem c = false := by
  have := List.all_eq_true.1 h c hc
  simpa using this
def cI (g : zG) (s : zSn) (μ : zzM) : Prop := zc2 g s μ ∧ (μ.1 21 1 = 0 ∨ (μ.1 21 1 = nI 1 ∧ zcF g s μ)) ∧ (μ.1 26 0 = 0 ∨ (μ.1 26 0 = nI 1 ∧ ∃ w, zLay g s = some w ∧ zcSt w μ)) ∧ cCh false 31 32 33 34 g s μ ∧ cCh true 36 37 38 39 g s μ ∧ (μ.1 41 3 = 0 ∨ ∃ w, zLay g s = some w ∧ lvOk g s w μ) ∧ (∃ c, c ≤ sL s + 1 ∧ cNo g s c μ) ∧ (∃ c, c ≤ sL s + 1 ∧ cSi g s c μ) ∧ (μ.1 52 2 = 0 ∨ (foOk g s μ ∧ cCf true 36 37 38 39 g s μ ∧ (μ.1 52 3 = 0 ∨ cTl g s (fun _ => True) μ))) ∧ (∃ c, c ≤ sL s + 1 ∧ cMd g s c μ)
theorem cI.h {g : zG} {s : zSn} {μ : zzM} (c : cI g s μ) : zc2 g s μ := c.1
theorem cI.F {g : zG} {s : zSn} {μ : zzM} (c : cI g s μ) : (μ.1 21 1 = 0 ∨ (μ.1 21 1 = nI 1 ∧ zcF g s μ)) := c.2.1
theorem cI.S {g : zG} {s : zSn} {μ : zzM} (c : cI g s μ) : (μ.1 26 0 = 0 ∨ (μ.1 26 0 = nI 1 ∧ ∃ w, zLay g s = some w ∧ zcSt w μ)) := c.2.2.1
theorem cI.P {g : zG} {s : zSn} {μ : zzM} (c : cI g s μ) : cCh false 31 32 33 34 g s μ := c.2.2.2.1
theorem cI.A {g : zG} {s : zSn} {μ : zzM} (c : cI g s μ) : cCh true 36 37 38 39 g s μ := c.2.2.2.2.1
theorem cI.L {g : zG} {s : zSn} {μ : zzM} (c : cI g s μ) : (μ.1 41 3 = 0 ∨ ∃ w, zLay g s = some w ∧ lvOk g s w μ) := c.2.2.2.2.2.1
theorem cI.N {g : zG} {s : zSn} {μ : zzM} (c : cI g s μ) : (∃ c, c ≤ sL s + 1 ∧ cNo g s c μ) := c.2.2.2.2.2.2.1
theorem cI.Z {g : zG} {s : zSn} {μ : zzM} (c : cI g s μ) : (∃ c, c ≤ sL s + 1 ∧ cSi g s c μ) := c.2.2.2.2.2.2.2.1
theorem cI.O {g : zG} {s : zSn} {μ : zzM} (c : cI g s μ) : (μ.1 52 2 = 0 ∨ (foOk g s μ ∧ cCf true 36 37 38 39 g s μ ∧ (μ.1 52 3 = 0 ∨ cTl g s (fun _ => True) μ))) := c.2.2.2.2.2.2.2.2.1
theorem cI.M {g : zG} {s : zSn} {μ : zzM} (c : cI g s μ) : (∃ c, c ≤ sL s + 1 ∧ cMd g s c μ) := c.2.2.2.2.2.2.2.2.2
/-- a grammar and a snapshot that go together -/
def zOk (g : zG) (s : zSn) : Prop := zwg g ∧ zws g s ∧ (0 < gN g → ∃ w, zLay g s = some w)
theorem zOk.hg {g : zG} {s : zSn} (k : zOk g s) : zwg g := k.1
theorem zOk.hs {g : zG} {s : zSn} (k : zOk g s) : zws g s := k.2.1
theorem zOk.hw {g : zG} {s : zSn} (k : zOk g s) : 0 < gN g → ∃ w, zLay g s = some w := k.2.2
theorem zcF_fr {g : zG} {s : zSn} {μ : zzM} {y : zzM} {L : List Nat} (h : zcF g s μ) (hf : zfr L μ y) (hl : zdj [21, 22, 23, 24] L) : zcF g s y := by
  unfold zcF at h ⊢
  rw [zf_i hf (zdj_i hl (c := 21) (by simp)), zf_i hf (zdj_i hl (c := 22) (by simp)), zf_i hf (zdj_i hl (c := 23) (by simp)), zf_i hf (zdj_i hl (c := 24) (by simp))]
  exact h
theorem lvOk_fr {g : zG} {s : zSn} {μ : zzM} {w : zWs} {y : zzM} {L : List Nat} (h : lvOk g s w μ) (hf : zfr L μ y) (hl : zdj [42, 43] L) : lvOk g s w y := by
  unfold lvOk at h ⊢
  rw [zf_i hf (zdj_i hl (c := 42) (by simp)), zf_i hf (zdj_i hl (c := 43) (by simp))]
  exact h
theorem cNo_fr {g : zG} {s : zSn} {μ : zzM} {c : Nat} {y : zzM} {L : List Nat} (h : cNo g s c μ) (hf : zfr L μ y) (hl : zdj [45, 46] L) : cNo g s c y := by
  unfold cNo cTr at h ⊢
  rw [zf_i hf (zdj_i hl (c := 45) (by simp)), zf_l hf (zdj_i hl (c := 46) (by simp))]
  exact h
theorem cSi_fr {g : zG} {s : zSn} {μ : zzM} {c : Nat} {y : zzM} {L : List Nat} (h : cSi g s c μ) (hf : zfr L μ y) (hl : zdj [48, 49, 50] L) : cSi g s c y := by
  unfold cSi cSz at h ⊢
  rw [zf_i hf (zdj_i hl (c := 48) (by simp)), zf_l hf (zdj_i hl (c := 49) (by simp)), zf_l hf (zdj_i hl (c := 50) (by simp))]
  exact h
theorem foOk_fr {g : zG} {s : zSn} {μ : zzM} {y : zzM} {L : List Nat} (h : foOk g s μ) (hf : zfr L μ y) (hl : zdj [53] L) : foOk g s y := by
  unfold foOk cPc at h ⊢
  rw [zf_i hf (zdj_i hl (c := 53) (by simp))]
  exact h
theorem cTl_fr {g : zG} {s : zSn} {μ : zzM} {V : Nat → Prop} {y : zzM} {L : List Nat} (h : cTl g s V μ) (hf : zfr L μ y) (hl : zdj [52] L) : cTl g s V y := by
  unfold cTl at h ⊢
  rw [zf_i hf (zdj_i hl (c := 52) (by simp))]
  exact h
theorem cMd_fr {g : zG} {s : zSn} {μ : zzM} {c : Nat} {y : zzM} {L : List Nat} (h : cMd g s c μ) (hf : zfr L μ y) (hl : zdj [56, 57] L) : cMd g s c y := by
  unfold cMd at h ⊢
  rw [zf_i hf (zdj_i hl (c := 56) (by simp)), zf_i hf (zdj_i hl (c := 57) (by simp))]
  exact h
/-- tables that were not touched stay; of the others it must be shown -/
theorem cI_up {g : zG} {s : zSn} {μ : zzM} {y : zzM} {L : List Nat} (c : cI g s μ) (hf : zfr L μ y) (h0 : zdj [2, 3, 4, 5, 6, 7, 8, 9, 10, 11] L)
    (F : zdj [21, 22, 23, 24] L ∨ (y.1 21 1 = 0 ∨ (y.1 21 1 = nI 1 ∧ zcF g s y)))
    (S : zdj [26, 27, 28] L ∨ (y.1 26 0 = 0 ∨ (y.1 26 0 = nI 1 ∧ ∃ w, zLay g s = some w ∧ zcSt w y)))
    (P : zdj [31, 32, 33, 34] L ∨ cCh false 31 32 33 34 g s y)
    (A : zdj [36, 37, 38, 39] L ∨ cCh true 36 37 38 39 g s y)
    (Lv : zdj [41, 42, 43] L ∨ (y.1 41 3 = 0 ∨ ∃ w, zLay g s = some w ∧ lvOk g s w y))
    (N : zdj [45, 46] L ∨ ∃ c, c ≤ sL s + 1 ∧ cNo g s c y)
    (Z : zdj [48, 49, 50] L ∨ ∃ c, c ≤ sL s + 1 ∧ cSi g s c y)
    (O : zdj [36, 37, 38, 39, 52, 53] L ∨ (y.1 52 2 = 0 ∨ (foOk g s y ∧ cCf true 36 37 38 39 g s y ∧ (y.1 52 3 = 0 ∨ cTl g s (fun _ => True) y))))
    (M : zdj [56, 57] L ∨ ∃ c, c ≤ sL s + 1 ∧ cMd g s c y) : cI g s y := by
  refine ⟨?_, ?_, ?_, ?_, ?_, ?_, ?_, ?_, ?_, ?_⟩
  · exact zc2_fr c.h hf h0
  · exact F.elim (fun q => c.F.imp (fun e => by rw [zf_i hf (zdj_i q (c := 21) (by simp))]; exact e) fun e => ⟨by rw [zf_i hf (zdj_i q (c := 21) (by simp))]; exact e.1, zcF_fr e.2 hf q⟩) id
  · exact S.elim (fun q => c.S.imp (fun e => by rw [zf_i hf (zdj_i q (c := 26) (by simp))]; exact e) fun ⟨e, w, e1, e2⟩ => ⟨by rw [zf_i hf (zdj_i q (c := 26) (by simp))]; exact e, w, e1, zcSt_fr e2 hf q⟩) id
  · exact P.elim (fun q => cCh_fr c.P hf q) id
  · exact A.elim (fun q => cCh_fr c.A hf q) id
  · exact Lv.elim (fun q => c.L.imp (fun e => by rw [zf_i hf (zdj_i q (c := 41) (by simp))]; exact e) fun ⟨w, e1, e2⟩ => ⟨w, e1, by
    unfold lvOk at e2 ⊢
    rw [zf_i hf (zdj_i q (c := 42) (by simp)), zf_i hf (zdj_i q (c := 43) (by simp))]
    exact e2⟩) id
  · exact N.elim (fun q => c.N.imp fun _ e => ⟨e.1, cNo_fr e.2 hf q⟩) id
  · exact Z.elim (fun q => c.Z.imp fun _ e => ⟨e.1, cSi_fr e.2 hf q⟩) id
  · exact O.elim (fun q => by
    have e52 : y.1 52 = μ.1 52 := zf_i hf (zdj_i q (c := 52) (by simp))
    have e53 : y.1 53 = μ.1 53 := zf_i hf (zdj_i q (c := 53) (by simp))
    refine c.O.imp (fun e => by rw [e52]; exact e) fun ⟨e1, e2, e3⟩ => ⟨?_, ?_, ?_⟩
    · unfold foOk cPc at e1 ⊢
      rw [e53]
      exact e1
    · unfold cCf cEl cFi chk at e2 ⊢
      rw [zf_i hf (zdj_i q (c := 36) (by simp)), zf_i hf (zdj_i q (c := 37) (by simp)), zf_i hf (zdj_i q (c := 38) (by simp)), zf_i hf (zdj_i q (c := 39) (by simp))]
      exact e2
    · unfold cTl at e3 ⊢
      rw [e52]
      exact e3) id
  · exact M.elim (fun q => c.M.imp fun _ e => ⟨e.1, cMd_fr e.2 hf q⟩) id
/-- the forest when the chart was filled again -/
theorem cO_A {g : zG} {s : zSn} {μ : zzM} {y : zzM} (c : cI g s μ) (h52 : y.1 52 = μ.1 52) (h53 : y.1 53 = μ.1 53) (hA : cCf true 36 37 38 39 g s y) : y.1 52 2 = 0 ∨ (foOk g s y ∧ cCf true 36 37 38 39 g s y ∧ (y.1 52 3 = 0 ∨ cTl g s (fun _ => True) y)) := by
  refine c.O.imp (fun e => by rw [h52]; exact e) fun ⟨e1, _, e3⟩ => ⟨?_, hA, ?_⟩
  · unfold foOk cPc at e1 ⊢
    rw [h53]
    exact e1
  · unfold cTl at e3 ⊢
    rw [h52]
    exact e3
/-! the reference's -/
def mB (g : zG) (s : zSn) (μ : zzM) : Nat → Prop
  | 0 => ∃ w, zLay g s = some w ∧ zmSt w μ
  | 1 => mMk false g s μ
  | 2 => mMk true g s μ
  | 3 => ∃ w, zLay g s = some w ∧ zmSt w μ ∧ mMk false g s μ ∧ alOk g s w μ
  | 4 => mMk true g s μ ∧ trOk g s μ
  | 5 => mMk true g s μ ∧ fmOk g s μ
  | 6 => mMk true g s μ ∧ smOk g s μ
  | _ => True
def mI (g : zG) (s : zSn) (μ : zzM) : Prop := zm2 g s μ ∧ ∀ i, i < 7 → bt (μ.1 105 36) i = true → mB g s μ i
theorem mI.h {g : zG} {s : zSn} {μ : zzM} (m : mI g s μ) : zm2 g s μ := m.1
theorem mI.b {g : zG} {s : zSn} {μ : zzM} (m : mI g s μ) : ∀ i, i < 7 → bt (μ.1 105 36) i = true → mB g s μ i := m.2
theorem mI_o {g : zG} {s : zSn} {μ : zzM} (m : mI g s μ) {i : Nat} (hi : i < 7) : bt (μ.1 105 36) i = false ∨ mB g s μ i := by
  cases e : bt (μ.1 105 36) i with
  | false => exact .inl rfl
  | true => exact .inr (m.b i hi e)
theorem mB_fr {g : zG} {s : zSn} {μ : zzM} {y : zzM} {L : List Nat} (hf : zfr L μ y) (h35 : y.1 105 35 = μ.1 105 35) (hl : zdj [130, 131, 134, 137, 138, 139, 143, 146] L) : ∀ i, mB g s μ i → mB g s y i := by
  have e134 : y.1 134 = μ.1 134 := zf_i hf (zdj_i hl (c := 134) (by simp))
  have hM : ∀ b, mMk b g s μ → mMk b g s y := fun b h => by
    unfold mMk mMd at h ⊢
    rw [e134]
    exact h
  have hS : ∀ w, zmSt w μ → zmSt w y := fun w h => by
    unfold zmSt zmS at h ⊢
    rw [h35, zf_l hf (zdj_i hl (c := 130) (by simp)), zf_i hf (zdj_i hl (c := 131) (by simp))]
    exact h
  have hA : ∀ w, alOk g s w μ → alOk g s w y := fun w h => by
    unfold alOk at h ⊢
    rw [zf_i hf (zdj_i hl (c := 137) (by simp))]
    exact h
  have hT : trOk g s μ → trOk g s y := fun h => by
    unfold trOk mEn mNu at h ⊢
    rw [zf_i hf (zdj_i hl (c := 138) (by simp)), zf_l hf (zdj_i hl (c := 139) (by simp))]
    exact h
  have hF : fmOk g s μ → fmOk g s y := fun h => by
    unfold fmOk mPl mPc at h ⊢
    rw [zf_i hf (zdj_i hl (c := 143) (by simp))]
    exact h
  have hZ : smOk g s μ → smOk g s y := fun h => by
    unfold smOk mSz at h ⊢
    rw [zf_i hf (zdj_i hl (c := 146) (by simp))]
    exact h
  intro i
  match i with
  | 0 => exact fun ⟨w, a, b⟩ => ⟨w, a, hS w b⟩
  | 1 => exact hM false
  | 2 => exact hM true
  | 3 => exact fun ⟨w, a, b, c, d⟩ => ⟨w, a, hS w b, hM false c, hA w d⟩
  | 4 => exact fun ⟨a, b⟩ => ⟨hM true a, hT b⟩
  | 5 => exact fun ⟨a, b⟩ => ⟨hM true a, hF b⟩
  | 6 => exact fun ⟨a, b⟩ => ⟨hM true a, hZ b⟩
  | _ + 7 => exact id
theorem mI_up {g : zG} {s : zSn} {μ : zzM} {y : zzM} (m : mI g s μ) (h : zm2 g s y) {N : Nat → Prop} (hb : ∀ i, i < 32 → bt (y.1 105 36) i = true → bt (μ.1 105 36) i = true ∨ N i) (hp : ∀ i, i < 7 → mB g s μ i ∨ N i → mB g s y i) : mI g s y := ⟨h, fun i hi e => hp i hi ((hb i (by omega) e).imp (m.b i hi) id)⟩
/-- nothing of the tables was touched -/
theorem mI_fr {g : zG} {s : zSn} {μ : zzM} {y : zzM} {L : List Nat} (m : mI g s μ) (hf : zfr L μ y) (h35 : y.1 105 35 = μ.1 105 35) (h36 : y.1 105 36 = μ.1 105 36) (h0 : zdj [106, 107, 108, 109, 110, 111, 112, 113] L) (hl : zdj [130, 131, 134, 137, 138, 139, 143, 146] L) : mI g s y := mI_up (N := fun _ => False) m (zm2_fr m.h hf h0) (fun i _ e => .inl (by rw [← h36]; exact e)) fun i _ e => e.elim (mB_fr hf h35 hl i) False.elim
/-! what queries may touch -/
abbrev cQl : List Nat := [14, 15, 16, 17, 18, 19, 20, 21, 22, 23, 24, 25, 26, 27, 28, 29, 30, 31, 32, 33, 34, 35, 36, 37, 38, 39, 40, 41, 42, 43, 44, 45, 46, 47, 48, 49, 50, 51, 52, 53, 54, 55, 56, 57, 58, 59, 60]
abbrev mQl : List Nat := [105, 127, 128, 129, 130, 131, 134, 135, 136, 137, 138, 139, 140, 141, 142, 143, 144, 145, 146, 147, 148, 149, 150]
def mQ (μ y : zzM) : Prop := zfr mQl μ y ∧ y.1 105 16 = μ.1 105 16 ∧ y.1 105 39 = μ.1 105 39
theorem mQ_0 (μ : zzM) : mQ μ μ := ⟨zf_refl _ _, rfl, rfl⟩
theorem mQ_t {μ y z : zzM} (h : mQ μ y) (h' : mQ y z) : mQ μ z := ⟨zf_trans h.1 h'.1, h'.2.1.trans h.2.1, h'.2.2.trans h.2.2⟩
/-- the class's tables don't see what the reference touches, and the other way round -/
theorem cI_m {g : zG} {s : zSn} {μ : zzM} {y : zzM} (c : cI g s μ) (hf : zfr mQl μ y) : cI g s y := cI_up c hf rfl (.inl rfl) (.inl rfl) (.inl rfl) (.inl rfl) (.inl rfl) (.inl rfl) (.inl rfl) (.inl rfl) (.inl rfl)
theorem mI_c {g : zG} {s : zSn} {μ : zzM} {y : zzM} (m : mI g s μ) (hf : zfr cQl μ y) : mI g s y := mI_fr m hf (by rw [zf_i hf rfl]) (by rw [zf_i hf rfl]) rfl rfl
/-- what the class answers, and what it leaves -/
def cA (g : zG) (s : zSn) (d y : Nat) (as : List Value) (μ : zzM) (A : Int32 → Prop) : Prop := zw (zzf zzP zN d y as μ) fun o => zfr cQl μ o.2 ∧ cI g s o.2 ∧ A o.1.1
def mA (g : zG) (s : zSn) (d y : Nat) (as : List Value) (μ : zzM) (A : Int32 → Prop) : Prop := zw (zzf zzP zN d y as μ) fun o => mQ μ o.2 ∧ mI g s o.2 ∧ A o.1.1
