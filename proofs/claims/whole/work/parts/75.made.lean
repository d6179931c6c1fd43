/-! WHAT RULES MAKE of parts of a text: the least relation; ways through a right side -/
/-- from m on the first k places can end at j -/
def zPa (w : Nat → Nat → Nat → Prop) : Nat → Nat → Nat → Prop
  | 0, m, j => j = m
  | k + 1, m, j => ∃ i, m ≤ i ∧ i ≤ j ∧ zPa w k m i ∧ w k i j
/-- place k of r can be the part from i to j, where M says what rules make -/
def zCB (b : Bool) (g : zG) (s : zSn) (M : Nat → Nat → Nat → Prop) (r k i j : Nat) : Prop := (gS g r k < 26 ∧ j = i + 1 ∧ sX s i = gS g r k) ∨ (26 ≤ gS g r k ∧ ∃ q, zbl b g s r k q = true ∧ M q i j)
def zMd (b : Bool) (g : zG) (s : zSn) : Nat → Nat → Nat → Nat → Prop
  | 0, _, _, _ => False
  | h + 1, r, m, n => zon g s r = true ∧ zPa (zCB b g s (zMd b g s h) r) (gZ g r) m n
def zM (b : Bool) (g : zG) (s : zSn) (r m n : Nat) : Prop := ∃ h, zMd b g s h r m n
theorem zPa_le {w : Nat → Nat → Nat → Prop} : ∀ {k m j : Nat}, zPa w k m j → m ≤ j
  | 0, m, j, h => by
    have h : j = m := h
    omega
  | k + 1, m, j, ⟨i, h1, h2, _, _⟩ => by omega
theorem zPa_mo {w w' : Nat → Nat → Nat → Prop} : ∀ {k m j : Nat}, (∀ k' i' j', k' < k → m ≤ i' → i' ≤ j' → j' ≤ j → w k' i' j' → w' k' i' j') → zPa w k m j → zPa w' k m j
  | 0, _, _, _, h => h
  | k + 1, m, j, hw, ⟨i, h1, h2, h3, h4⟩ => ⟨i, h1, h2, zPa_mo (fun k' i' j' a b c e f => hw k' i' j' (by omega) b c (by omega) f) h3, hw k i j (by omega) h1 h2 (Nat.le_refl _) h4⟩
theorem zCB_mo {b : Bool} {g : zG} {s : zSn} {M M' : Nat → Nat → Nat → Prop} {r k i j : Nat} (h : ∀ q, M q i j → M' q i j) : zCB b g s M r k i j → zCB b g s M' r k i j
  | .inl q => .inl q
  | .inr ⟨a, q, c, e⟩ => .inr ⟨a, q, c, h q e⟩
theorem zMd_s {b : Bool} {g : zG} {s : zSn} : ∀ {h r m n : Nat}, zMd b g s h r m n → zMd b g s (h + 1) r m n
  | 0, _, _, _, q => q.elim
  | h + 1, r, m, n, ⟨q1, q2⟩ => ⟨q1, zPa_mo (fun _ _ _ _ _ _ _ e => zCB_mo (fun _ e => zMd_s e) e) q2⟩
theorem zMd_up {b : Bool} {g : zG} {s : zSn} {h h' r m n : Nat} (hh : h ≤ h') (q : zMd b g s h r m n) : zMd b g s h' r m n := by
  induction hh with
  | refl => exact q
  | step _ ih => exact zMd_s ih
theorem zM_le {b : Bool} {g : zG} {s : zSn} {r m n : Nat} (h : zM b g s r m n) : m ≤ n := by
  obtain ⟨h, q⟩ := h
  cases h with
  | zero => exact q.elim
  | succ h => exact zPa_le q.2
theorem zM_on {b : Bool} {g : zG} {s : zSn} {r m n : Nat} (h : zM b g s r m n) : zon g s r = true := by
  obtain ⟨h, q⟩ := h
  cases h with
  | zero => exact q.elim
  | succ h => exact q.1
theorem zM_out {b : Bool} {g : zG} {s : zSn} {r m n : Nat} (h : zM b g s r m n) : zPa (zCB b g s (zM b g s) r) (gZ g r) m n := by
  obtain ⟨h, q⟩ := h
  cases h with
  | zero => exact q.elim
  | succ h => exact zPa_mo (fun _ _ _ _ _ _ _ e => zCB_mo (fun _ e => ⟨h, e⟩) e) q.2
theorem zPa_h {b : Bool} {g : zG} {s : zSn} {r : Nat} : ∀ {k m j : Nat}, zPa (zCB b g s (zM b g s) r) k m j → ∃ h, zPa (zCB b g s (zMd b g s h) r) k m j
  | 0, _, _, q => ⟨0, q⟩
  | k + 1, m, j, ⟨i, h1, h2, h3, h4⟩ => by
    obtain ⟨h, h5⟩ := zPa_h h3
    rcases h4 with h4 | ⟨a, q, c, h', e⟩
    · exact ⟨h, i, h1, h2, h5, .inl h4⟩
    · exact ⟨h + h', i, h1, h2, zPa_mo (fun _ _ _ _ _ _ _ e => zCB_mo (fun _ e => zMd_up (by omega) e) e) h5, .inr ⟨a, q, c, zMd_up (by omega) e⟩⟩
theorem zM_in {b : Bool} {g : zG} {s : zSn} {r m n : Nat} (h : zon g s r = true) (h' : zPa (zCB b g s (zM b g s) r) (gZ g r) m n) : zM b g s r m n := by
  obtain ⟨k, q⟩ := zPa_h h'
  exact ⟨k + 1, h, q⟩
/-- what is known at all lesser parts, and a set of rules at this one -/
def zMX (b : Bool) (g : zG) (s : zSn) (X : Nat → Prop) (m n q i j : Nat) : Prop := if i = m ∧ j = n then X q else zM b g s q i j
theorem zMX_so {b : Bool} {g : zG} {s : zSn} {X : Nat → Prop} {m n : Nat} (hX : ∀ q, X q → zM b g s q m n) {q i j : Nat} (h : zMX b g s X m n q i j) : zM b g s q i j := by
  unfold zMX at h
  split at h
  · rename_i e
    rw [e.1, e.2]
    exact hX q h
  · exact h
theorem zX_so {b : Bool} {g : zG} {s : zSn} {X : Nat → Prop} {m n r : Nat} (hX : ∀ q, X q → zM b g s q m n) (hr : zon g s r = true) (h : zPa (zCB b g s (zMX b g s X m n) r) (gZ g r) m n) : zM b g s r m n :=
  zM_in hr (zPa_mo (fun _ _ _ _ _ _ _ e => zCB_mo (fun _ e => zMX_so hX e) e) h)
/-- a set that is closed holds all -/
theorem zX_co {b : Bool} {g : zG} {s : zSn} {X : Nat → Prop} {m n : Nat} (hX : ∀ r, zon g s r = true → zPa (zCB b g s (zMX b g s X m n) r) (gZ g r) m n → X r) {r : Nat} (h : zM b g s r m n) : X r := by
  obtain ⟨h, q⟩ := h
  induction h generalizing r with
  | zero => exact q.elim
  | succ h ih =>
    refine hX r q.1 (zPa_mo (fun k i j _ h1 h2 h3 e => zCB_mo (fun q e => ?_) e) q.2)
    unfold zMX
    by_cases c : i = m ∧ j = n
    · rw [if_pos c]
      rw [c.1, c.2] at e
      exact ih e
    · rw [if_neg c]
      exact ⟨h, e⟩
/-- what is made of a part hangs on its letters alone -/
theorem zMd_tx {b : Bool} {g : zG} {s s' : zSn} {N : Nat} (hT : sT s = sT s') (hB : sB s = sB s') (hF : sF s = sF s') (hX : ∀ k, k < N → sX s k = sX s' k) : ∀ {h r m n : Nat}, n ≤ N → zMd b g s h r m n → zMd b g s' h r m n
  | 0, _, _, _, _, q => q.elim
  | h + 1, r, m, n, hn, ⟨q1, q2⟩ => by
    have hon : ∀ r, zon g s r = zon g s' r := fun r => by unfold zon; rw [hT]
    have hbl : ∀ r k q, zbl b g s r k q = zbl b g s' r k q := fun r k q => by unfold zbl zfb; rw [hon, hB, hF]
    refine ⟨by rw [← hon]; exact q1, zPa_mo (fun k i j _ h1 h2 h3 e => ?_) q2⟩
    rcases e with ⟨a, b, c⟩ | ⟨a, q, c, e⟩
    · exact .inl ⟨a, b, by rw [← hX i (by omega)]; exact c⟩
    · exact .inr ⟨a, q, by rw [← hbl]; exact c, zMd_tx hT hB hF hX (by omega) e⟩
theorem zM_tx {b : Bool} {g : zG} {s s' : zSn} {N : Nat} (hT : sT s = sT s') (hB : sB s = sB s') (hF : sF s = sF s') (hX : ∀ k, k < N → sX s k = sX s' k) {r m n : Nat} (hn : n ≤ N) : zM b g s r m n ↔ zM b g s' r m n :=
  ⟨fun ⟨h, q⟩ => ⟨h, zMd_tx hT hB hF hX hn q⟩, fun ⟨h, q⟩ => ⟨h, zMd_tx hT.symm hB.symm hF.symm (fun k hk => (hX k hk).symm) hn q⟩⟩
theorem zM_lt {b : Bool} {g : zG} {s : zSn} {r m n : Nat} (h : zM b g s r m n) : r < gN g := zon_lt (zM_on h)
/-- without the filters bans and filters don't matter -/
theorem zMd_pl {g : zG} {s s' : zSn} {N : Nat} (hT : sT s = sT s') (hX : ∀ k, k < N → sX s k = sX s' k) : ∀ {h r m n : Nat}, n ≤ N → zMd false g s h r m n → zMd false g s' h r m n
  | 0, _, _, _, _, q => q.elim
  | h + 1, r, m, n, hn, ⟨q1, q2⟩ => by
    have hon : ∀ r, zon g s r = zon g s' r := fun r => by unfold zon; rw [hT]
    have hbl : ∀ r k q, zbl false g s r k q = zbl false g s' r k q := fun r k q => by unfold zbl; rw [hon, Bool.false_and, Bool.false_and]
    refine ⟨by rw [← hon]; exact q1, zPa_mo (fun k i j _ h1 h2 h3 e => ?_) q2⟩
    rcases e with ⟨a, b, c⟩ | ⟨a, q, c, e⟩
    · exact .inl ⟨a, b, by rw [← hX i (by omega)]; exact c⟩
    · exact .inr ⟨a, q, by rw [← hbl]; exact c, zMd_pl hT hX (by omega) e⟩
theorem zM_pl {g : zG} {s s' : zSn} {N : Nat} (hT : sT s = sT s') (hX : ∀ k, k < N → sX s k = sX s' k) {r m n : Nat} (hn : n ≤ N) : zM false g s r m n ↔ zM false g s' r m n :=
  ⟨fun ⟨h, q⟩ => ⟨h, zMd_pl hT hX hn q⟩, fun ⟨h, q⟩ => ⟨h, zMd_pl hT.symm (fun k hk => (hX k hk).symm) hn q⟩⟩
