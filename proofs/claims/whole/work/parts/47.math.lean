/-! COUNTING, LEAST SETS, when rounds come to rest -/
theorem zcnt_le (p : Nat → Bool) : ∀ n, zcnt p n ≤ n
  | 0 => Nat.le_refl _
  | n + 1 => by
    have := zcnt_le p n
    unfold zcnt
    split <;> omega
theorem zcnt_mono {p q : Nat → Bool} : ∀ {n : Nat}, (∀ i, i < n → p i = true → q i = true) → zcnt p n ≤ zcnt q n
  | 0, _ => Nat.le_refl _
  | n + 1, h => by
    have h1 := zcnt_mono (n := n) (fun i hi => h i (by omega))
    have h2 := h n (by omega)
    unfold zcnt
    cases hp : p n with
    | false => simp only [Bool.false_eq_true, if_false]; split <;> omega
    | true => rw [h2 hp]; simp only [if_true]; omega
theorem zcnt_lt {p q : Nat → Bool} : ∀ {n : Nat}, (∀ i, i < n → p i = true → q i = true) → (∃ i, i < n ∧ p i = false ∧ q i = true) → zcnt p n < zcnt q n
  | 0, _, h => by obtain ⟨i, h1, -⟩ := h; omega
  | n + 1, h, hx => by
    obtain ⟨i, h1, h2, h3⟩ := hx
    have hm := zcnt_mono (n := n) (fun i hi => h i (by omega))
    unfold zcnt
    by_cases hi : i = n
    · subst hi
      rw [h2, h3]
      simp only [Bool.false_eq_true, if_false, if_true]
      omega
    · have := zcnt_lt (n := n) (fun i hi => h i (by omega)) ⟨i, by omega, h2, h3⟩
      have h4 := h n (by omega)
      cases hp : p n with
      | false => simp only [Bool.false_eq_true, if_false]; split <;> omega
      | true => rw [h4 hp]; simp only [if_true]; omega
theorem zcnt_all {p : Nat → Bool} : ∀ {n : Nat}, n ≤ zcnt p n → ∀ i, i < n → p i = true
  | 0, _, i, h => absurd h (Nat.not_lt_zero _)
  | n + 1, hn, i, h => by
    have h1 := zcnt_le p n
    unfold zcnt at hn
    cases hp : p n with
    | false => rw [hp] at hn; simp only [Bool.false_eq_true, if_false] at hn; omega
    | true =>
      rw [hp] at hn
      simp only [if_true] at hn
      by_cases hi : i = n
      · rw [hi]; exact hp
      · exact zcnt_all (n := n) (by omega) i (by omega)
/-- sets that grow within a set of at most m come to rest within m steps -/
theorem zstab (X : Nat → Nat → Bool) (U : Nat → Bool) (n m : Nat) (hm : ∀ i c, c < n → X i c = true → X (i + 1) c = true) (hU : ∀ i c, c < n → X i c = true → U c = true) (hc : zcnt U n ≤ m) : ∃ i, i ≤ m ∧ ∀ c, c < n → X (i + 1) c = true → X i c = true := by
  apply Classical.byContradiction
  intro hno
  have hst : ∀ i, i ≤ m → ∃ c, c < n ∧ X i c = false ∧ X (i + 1) c = true := by
    intro i hi
    apply Classical.byContradiction
    intro hx
    refine hno ⟨i, hi, fun c hcn h1 => ?_⟩
    cases h2 : X i c with
    | true => rfl
    | false => exact absurd ⟨c, hcn, h2, h1⟩ hx
  have hcnt : ∀ i, i ≤ m + 1 → i ≤ zcnt (X i) n := by
    intro i
    induction i with
    | zero => intro _; exact Nat.zero_le _
    | succ i ih =>
      intro hi
      have h1 := ih (by omega)
      have h2 := zcnt_lt (hm i) (hst i (by omega))
      omega
  have h1 := hcnt (m + 1) (Nat.le_refl _)
  have h2 := zcnt_mono (hU (m + 1))
  omega
/-- the least set that is closed under F -/
def zlfp (F : (Nat → Prop) → Nat → Prop) (c : Nat) : Prop := ∀ P : Nat → Prop, (∀ c, F P c → P c) → P c
def zmon (F : (Nat → Prop) → Nat → Prop) : Prop := ∀ P Q : Nat → Prop, (∀ c, P c → Q c) → ∀ c, F P c → F Q c
theorem zlfp_le {F : (Nat → Prop) → Nat → Prop} {P : Nat → Prop} (h : ∀ c, F P c → P c) {c : Nat} (hc : zlfp F c) : P c := hc P h
theorem zlfp_in {F : (Nat → Prop) → Nat → Prop} (hF : zmon F) {c : Nat} (h : F (zlfp F) c) : zlfp F c := fun P hP => hP c (hF _ _ (fun _ hx => hx P hP) c h)
theorem zlfp_out {F : (Nat → Prop) → Nat → Prop} (hF : zmon F) {c : Nat} (h : zlfp F c) : F (zlfp F) c := h (F (zlfp F)) fun c hc => hF _ _ (fun _ hx => zlfp_in hF hx) c hc
/-- so many rounds that each add all that one step gives reach the least set -/
theorem zlfp_rounds {F : (Nat → Prop) → Nat → Prop} {n m : Nat} (X : Nat → Nat → Bool) (U : Nat → Bool)
    (hsup : ∀ P c, F P c → c < n) (hmo : ∀ i c, c < n → X i c = true → X (i + 1) c = true) (hU : ∀ i c, c < n → X i c = true → U c = true) (hc : zcnt U n ≤ m)
    (hstep : ∀ i c, c < n → F (fun c => c < n ∧ X i c = true) c → X (i + 1) c = true) : ∀ c, zlfp F c → X (m + 1) c = true := by
  obtain ⟨i, hi, hs⟩ := zstab X U n m hmo hU hc
  have hup : ∀ j c, c < n → X i c = true → X (i + j) c = true := by
    intro j
    induction j with
    | zero => intro c _ h; exact h
    | succ j ih => intro c hcn h; exact hmo _ c hcn (ih c hcn h)
  intro c hl
  have h1 : c < n ∧ X i c = true := zlfp_le (P := fun c => c < n ∧ X i c = true) (fun c hF => ⟨hsup _ _ hF, hs c (hsup _ _ hF) (hstep i c (hsup _ _ hF) hF)⟩) hl
  have h2 := hup (m + 1 - i) c h1.1 h1.2
  rwa [show i + (m + 1 - i) = m + 1 by omega] at h2
theorem zleast {P : Nat → Prop} {n : Nat} (h : P n) : ∃ m, P m ∧ ∀ k, P k → m ≤ k := by
  induction n using Nat.strongRecOn with
  | _ n ih =>
    by_cases hx : ∃ k, k < n ∧ P k
    · obtain ⟨k, hk, hp⟩ := hx
      exact ih k hk hp
    · refine ⟨n, h, fun k hk => ?_⟩
      apply Nat.le_of_not_lt
      intro hl
      exact hx ⟨k, hl, hk⟩
/-- values that are made of others' values, by height: as many rounds as there are things bring the least values of all -/
theorem zknuth {D : Nat → Nat → Nat → Prop} {n m : Nat} (U : Nat → Bool) (hsup : ∀ h i v, D h i v → i < n ∧ U i = true) (hc : zcnt U n ≤ m) (h0 : ∀ i v, ¬ D 0 i v) (hmo : ∀ h i v, D h i v → D (h + 1) i v)
    (hdec : ∀ h i v, D (h + 1) i v → ∃ S : List (Nat × Nat), (∀ q, q ∈ S → D h q.1 q.2 ∧ q.2 ≤ v) ∧ (∀ h', (∀ q, q ∈ S → ∃ f, f ≤ q.2 ∧ D h' q.1 f) → ∃ v', v' ≤ v ∧ D (h' + 1) i v' ∧ ((∃ q, q ∈ S ∧ ∃ f, f < q.2 ∧ D h' q.1 f) → ∃ v'', v'' < v ∧ D (h' + 1) i v''))) :
    ∀ h i v, D h i v → ∃ v', v' ≤ v ∧ D m i v' := by
  have hup : ∀ k h i v, D h i v → D (h + k) i v := by
    intro k
    induction k with
    | zero => intro h i v hd; exact hd
    | succ k ih => intro h i v hd; exact hmo _ _ _ (ih h i v hd)
  have hup' : ∀ h h' i v, h ≤ h' → D h i v → D h' i v := fun h h' i v hle hd => by
    have := hup (h' - h) h i v hd
    rwa [show h + (h' - h) = h' by omega] at this
  let fin : Nat → Nat → Prop := fun h i => (∃ h' v, D h' i v) ∧ ∀ h' v, D h' i v → ∃ v', v' ≤ v ∧ D h i v'
  let X : Nat → Nat → Bool := fun h i => @decide (fin h i) (Classical.propDecidable _)
  have hX : ∀ h i, X h i = true ↔ fin h i := fun h i => @decide_eq_true_iff (fin h i) (Classical.propDecidable _)
  have hXm : ∀ i c, c < n → X i c = true → X (i + 1) c = true := by
    intro i c _ h
    rw [hX] at h ⊢
    refine ⟨h.1, fun h' v hd => ?_⟩
    obtain ⟨v', h1, h2⟩ := h.2 h' v hd
    exact ⟨v', h1, hmo _ _ _ h2⟩
  have hXU : ∀ i c, c < n → X i c = true → U c = true := by
    intro i c _ h
    rw [hX] at h
    obtain ⟨h', v, hd⟩ := h.1
    exact (hsup _ _ _ hd).2
  obtain ⟨H, hH, hst⟩ := zstab X U n m hXm hXU hc
  have key : ∀ v0 h0 i, D h0 i v0 → (∀ h v, D h i v → v0 ≤ v) → (∀ h, D h i v0 → h0 ≤ h) → fin H i := by
    intro v0
    induction v0 using Nat.strongRecOn with
    | _ v0 ihv =>
      intro h0'
      induction h0' using Nat.strongRecOn with
      | _ h0' ihh =>
        intro i hd hbest hlow
        cases h0' with
        | zero => exact absurd hd (h0 i v0)
        | succ h1 =>
          obtain ⟨S, hS, hre⟩ := hdec h1 i v0 hd
          have hbp : ∀ q, q ∈ S → ∀ h v, D h q.1 v → q.2 ≤ v := by
            intro q hq h v hdv
            apply Nat.le_of_not_lt
            intro hlt
            let M := h + h1
            obtain ⟨v', hv', hdv', hst'⟩ := hre M (fun p hp => ⟨p.2, Nat.le_refl _, hup' h1 M _ _ (by omega) (hS p hp).1⟩)
            obtain ⟨v'', h3, h4⟩ := hst' ⟨q, hq, v, hlt, hup' h M _ _ (by omega) hdv⟩
            have := hbest _ _ h4
            omega
          have hfp : ∀ q, q ∈ S → fin H q.1 := by
            intro q hq
            obtain ⟨hl, hl1, hl2⟩ := zleast (P := fun h => D h q.1 q.2) (hS q hq).1
            have hle := hl2 h1 (hS q hq).1
            by_cases hlt : q.2 < v0
            · exact ihv q.2 hlt hl q.1 hl1 (hbp q hq) hl2
            · have e : q.2 = v0 := by
                have := (hS q hq).2
                omega
              rw [e] at hl1 hl2
              have hb := hbp q hq
              rw [e] at hb
              exact ihh hl (by omega) q.1 hl1 hb hl2
          obtain ⟨v', hv', hd', -⟩ := hre H (fun q hq => (hfp q hq).2 h1 q.2 (hS q hq).1)
          have hfin1 : fin (H + 1) i := ⟨⟨_, _, hd⟩, fun h v hdv => by
            have h5 := hbest h v hdv
            exact ⟨v', by omega, hd'⟩⟩
          have := hst i (hsup _ _ _ hd).1 ((hX _ _).2 hfin1)
          exact (hX _ _).1 this
  intro h i v hd
  obtain ⟨v0, ⟨h0', hd0⟩, hb⟩ := zleast (P := fun v => ∃ h, D h i v) ⟨h, hd⟩
  obtain ⟨hl, hl1, hl2⟩ := zleast (P := fun h => D h i v0) hd0
  have hf := key v0 hl i hl1 (fun h v hdv => hb v ⟨h, hdv⟩) hl2
  obtain ⟨v', h1, h2⟩ := hf.2 h v hd
  exact ⟨v', h1, hup' H m _ _ hH h2⟩
