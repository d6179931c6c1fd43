/-! THE SIZES OF TREES: least, and their bound -/
def zSP (g : zG) (s : zSn) (T : Nat → Nat → Nat → Nat → Prop) (r k i j p : Nat) : Prop := (gS g r k < 26 ∧ j = i + 1 ∧ sX s i = gS g r k ∧ p = 0) ∨ (26 ≤ gS g r k ∧ ∃ q, zbl true g s r k q = true ∧ T q i j p)
def zSR (P : Nat → Nat → Nat → Nat → Prop) (n : Nat) : Nat → Nat → Nat → Nat → Prop
  | 0, _, i, v => i = n ∧ v = 0
  | d + 1, k, i, v => ∃ j p w, i ≤ j ∧ j ≤ n ∧ P k i j p ∧ zSR P n d (k + 1) j w ∧ v = p + w
def zSz (g : zG) (s : zSn) : Nat → Nat → Nat → Nat → Nat → Prop
  | 0, _, _, _, _ => False
  | h + 1, r, m, n, v => zon g s r = true ∧ ∃ w, zSR (zSP g s (zSz g s h) r) n (gZ g r) 0 m w ∧ v = w + 1
def zSi (g : zG) (s : zSn) (r m n v : Nat) : Prop := ∃ h, zSz g s h r m n v
theorem zSP_mo {g : zG} {s : zSn} {T T' : Nat → Nat → Nat → Nat → Prop} {r k i j p : Nat} (h : ∀ q, T q i j p → T' q i j p) : zSP g s T r k i j p → zSP g s T' r k i j p
  | .inl q => .inl q
  | .inr ⟨a, q, c, e⟩ => .inr ⟨a, q, c, h q e⟩
theorem zSR_mo {P P' : Nat → Nat → Nat → Nat → Prop} {n : Nat} : ∀ {d k i w : Nat}, (∀ k' i' j' p, k ≤ k' → k' < k + d → i ≤ i' → i' ≤ j' → j' ≤ n → p ≤ w → P k' i' j' p → P' k' i' j' p) → zSR P n d k i w → zSR P' n d k i w
  | 0, _, _, _, _, h => h
  | d + 1, k, i, v, hp, ⟨j, p, w, a, b, c, e, f⟩ => ⟨j, p, w, a, b, hp k i j p (Nat.le_refl _) (by omega) (Nat.le_refl _) a b (by omega) c, zSR_mo (fun k' i' j' p' a1 a2 a3 a4 a5 a6 q => hp k' i' j' p' (by omega) (by omega) (by omega) a4 a5 (by omega) q) e, f⟩
theorem zSz_s {g : zG} {s : zSn} : ∀ {h r m n v : Nat}, zSz g s h r m n v → zSz g s (h + 1) r m n v
  | 0, _, _, _, _, q => q.elim
  | h + 1, r, m, n, v, ⟨a, w, b, c⟩ => ⟨a, w, zSR_mo (fun _ _ _ _ _ _ _ _ _ _ e => zSP_mo (fun _ e => zSz_s e) e) b, c⟩
theorem zSz_up {g : zG} {s : zSn} {h h' r m n v : Nat} (hh : h ≤ h') (q : zSz g s h r m n v) : zSz g s h' r m n v := by
  induction hh with
  | refl => exact q
  | step _ ih => exact zSz_s ih
theorem zSi_out {g : zG} {s : zSn} {r m n v : Nat} (h : zSi g s r m n v) : zon g s r = true ∧ ∃ w, zSR (zSP g s (zSi g s) r) n (gZ g r) 0 m w ∧ v = w + 1 := by
  obtain ⟨h, q⟩ := h
  cases h with
  | zero => exact q.elim
  | succ h =>
    obtain ⟨a, w, b, c⟩ := q
    exact ⟨a, w, zSR_mo (fun _ _ _ _ _ _ _ _ _ _ e => zSP_mo (fun _ e => ⟨h, e⟩) e) b, c⟩
theorem zSR_h {g : zG} {s : zSn} {r n : Nat} : ∀ {d k i w : Nat}, zSR (zSP g s (zSi g s) r) n d k i w → ∃ h, zSR (zSP g s (zSz g s h) r) n d k i w
  | 0, _, _, _, q => ⟨0, q⟩
  | d + 1, k, i, v, ⟨j, p, w, a, b, c, e, f⟩ => by
    obtain ⟨h, q⟩ := zSR_h e
    rcases c with c | ⟨c1, x, c2, h', c3⟩
    · exact ⟨h, j, p, w, a, b, .inl c, q, f⟩
    · exact ⟨h + h', j, p, w, a, b, .inr ⟨c1, x, c2, zSz_up (by omega) c3⟩, zSR_mo (fun _ _ _ _ _ _ _ _ _ _ e => zSP_mo (fun _ e => zSz_up (by omega) e) e) q, f⟩
theorem zSi_in {g : zG} {s : zSn} {r m n w : Nat} (h : zon g s r = true) (h' : zSR (zSP g s (zSi g s) r) n (gZ g r) 0 m w) : zSi g s r m n (w + 1) := by
  obtain ⟨k, q⟩ := zSR_h h'
  exact ⟨k + 1, h, w, q, rfl⟩
theorem zSR_end {P : Nat → Nat → Nat → Nat → Prop} {n : Nat} : ∀ {d k i w : Nat}, zSR P n d k i w → i ≤ n
  | 0, _, _, _, h => Nat.le_of_eq h.1
  | d + 1, _, _, _, ⟨j, _, _, a, b, _, _, _⟩ => by omega
theorem zSi_on {g : zG} {s : zSn} {r m n v : Nat} (h : zSi g s r m n v) : zon g s r = true := (zSi_out h).1
theorem zSi_le {g : zG} {s : zSn} {r m n v : Nat} (h : zSi g s r m n v) : m ≤ n := by
  obtain ⟨-, w, b, -⟩ := zSi_out h
  exact zSR_end b
/-- what has a tree is made -/
theorem zSi_M {g : zG} {s : zSn} : ∀ {v r m n : Nat}, zSi g s r m n v → zM true g s r m n := by
  intro v
  induction v using Nat.strongRecOn with
  | ind v ih =>
    intro r m n h
    obtain ⟨a, w, b, c⟩ := zSi_out h
    refine zM_in a ?_
    have key : ∀ d k i w', w' ≤ w → zPa (zCB true g s (zM true g s) r) k m i → m ≤ i → zSR (zSP g s (zSi g s) r) n d k i w' → zPa (zCB true g s (zM true g s) r) (k + d) m n := by
      intro d
      induction d with
      | zero =>
        intro k i w' _ hp _ hr
        rw [← hr.1]
        exact hp
      | succ d ihd =>
        rintro k i w' hw hp hi ⟨j, p, w2, e1, e2, e3, e4, e5⟩
        have : zPa (zCB true g s (zM true g s) r) (k + 1) m j := ⟨i, hi, e1, hp, by
          rcases e3 with ⟨f1, f2, f3, -⟩ | ⟨f1, q, f2, f3⟩
          · exact .inl ⟨f1, f2, f3⟩
          · exact .inr ⟨f1, q, f2, ih p (by omega) f3⟩⟩
        have := ihd (k + 1) j w2 (by omega) this (by omega) e4
        rw [show k + (d + 1) = k + 1 + d by omega]
        exact this
    have := key (gZ g r) 0 m w (Nat.le_refl _) rfl (Nat.le_refl _) b
    rwa [Nat.zero_add] at this
def zLt (g : zG) (s : zSn) (r m n v : Nat) : Prop := zSi g s r m n v ∧ ∀ w, zSi g s r m n w → v ≤ w
theorem zmin_ex {P : Nat → Prop} : ∀ v, P v → ∃ u, u ≤ v ∧ P u ∧ ∀ w, P w → u ≤ w := by
  intro v
  induction v using Nat.strongRecOn with
  | ind v ih =>
    intro h
    by_cases e : ∃ u, u < v ∧ P u
    · obtain ⟨u, a, b⟩ := e
      obtain ⟨x, c, d⟩ := ih u a b
      exact ⟨x, by omega, d⟩
    · exact ⟨v, Nat.le_refl _, h, fun w hw => Nat.le_of_not_lt fun f => e ⟨w, f, hw⟩⟩
theorem zLt_ex {g : zG} {s : zSn} {r m n v : Nat} (h : zSi g s r m n v) : ∃ u, u ≤ v ∧ zLt g s r m n u := zmin_ex (P := zSi g s r m n) v h
theorem zLt_un {g : zG} {s : zSn} {r m n u v : Nat} (h : zLt g s r m n u) (h' : zLt g s r m n v) : u = v := Nat.le_antisymm (h.2 v h'.1) (h'.2 u h.1)
theorem zSR_le {P P' : Nat → Nat → Nat → Nat → Prop} {n : Nat} : ∀ {d k i w : Nat}, (∀ k' i' j' p, k ≤ k' → k' < k + d → i ≤ i' → i' ≤ j' → j' ≤ n → p ≤ w → P k' i' j' p → ∃ p', p' ≤ p ∧ P' k' i' j' p') → zSR P n d k i w → ∃ w', w' ≤ w ∧ zSR P' n d k i w'
  | 0, _, _, w, _, h => ⟨w, Nat.le_refl _, h⟩
  | d + 1, k, i, v, hp, ⟨j, p, w, a, b, c, e, f⟩ => by
    obtain ⟨p', x1, x2⟩ := hp k i j p (Nat.le_refl _) (by omega) (Nat.le_refl _) a b (by omega) c
    obtain ⟨w', y1, y2⟩ := zSR_le (fun k' i' j' p' a1 a2 a3 a4 a5 a6 q => hp k' i' j' p' (by omega) (by omega) (by omega) a4 a5 (by omega) q) e
    exact ⟨p' + w', by omega, j, p', w', a, b, x2, y2, rfl⟩
/-- a least tree is of least trees -/
theorem zLt_out {g : zG} {s : zSn} {r m n v : Nat} (h : zLt g s r m n v) : zon g s r = true ∧ ∃ w, v = w + 1 ∧ zSR (zSP g s (zLt g s) r) n (gZ g r) 0 m w := by
  obtain ⟨a, w, b, c⟩ := zSi_out h.1
  obtain ⟨w', d1, d2⟩ := zSR_le (P' := zSP g s (zLt g s) r) (fun k i j p _ _ _ _ _ _ e => by
    rcases e with e | ⟨e1, q, e2, e3⟩
    · exact ⟨p, Nat.le_refl _, .inl e⟩
    · obtain ⟨u, f1, f2⟩ := zLt_ex e3
      exact ⟨u, f1, .inr ⟨e1, q, e2, f2⟩⟩) b
  have := h.2 _ (zSi_in a (zSR_mo (fun _ _ _ _ _ _ _ _ _ _ e => zSP_mo (fun _ e => e.1) e) d2))
  have e : w' = w := by omega
  rw [e] at d2
  exact ⟨a, w, c, d2⟩
/-- how many rules have a lesser tree here -/
noncomputable def zRk (g : zG) (s : zSn) (m n v : Nat) : Nat := zcnt (fun q => zdc (∃ u, u < v ∧ zLt g s q m n u)) 12
theorem zRk_lt {g : zG} {s : zSn} {q m n u v : Nat} (hq : q < 12) (h : zLt g s q m n u) (huv : u < v) : zRk g s m n u < zRk g s m n v := by
  refine zcnt_lt (fun i _ e => ?_) ⟨q, hq, ?_, ?_⟩
  · obtain ⟨x, a, b⟩ := zdc_t.1 e
    exact zdc_t.2 ⟨x, by omega, b⟩
  · refine zdc_f.2 ?_
    rintro ⟨x, a, b⟩
    have := zLt_un b h
    omega
  · exact zdc_t.2 ⟨u, huv, h⟩
theorem zcnt_tr : ∀ n, zcnt (fun _ => true) n = n
  | 0 => rfl
  | n + 1 => by
    show zcnt (fun _ => true) n + (if true then 1 else 0) = _
    rw [zcnt_tr n]
    rfl
theorem zRk_11 {g : zG} {s : zSn} {q m n v : Nat} (hq : q < 12) (h : zLt g s q m n v) : zRk g s m n v < 12 := by
  have : zRk g s m n v < zcnt (fun _ => true) 12 := zcnt_lt (fun _ _ _ => rfl) ⟨q, hq, zdc_f.2 (by
    rintro ⟨x, a, b⟩
    have := zLt_un b h
    omega), rfl⟩
  rwa [zcnt_tr] at this
theorem zRk_10 {g : zG} {s : zSn} {q q0 m n v : Nat} (hq : q < 12) (hq0 : q0 < 12) (h : zLt g s q m n v) (h0 : ∀ u, ¬ zSi g s q0 m n u) : zRk g s m n v < 11 := by
  have hne : q ≠ q0 := fun e => h0 v (e ▸ h.1)
  have h1 : zRk g s m n v < zcnt (fun x => decide (x ≠ q0)) 12 := zcnt_lt (fun i _ e => by
    obtain ⟨x, a, b⟩ := zdc_t.1 e
    refine decide_eq_true ?_
    intro f
    rw [f] at b
    exact h0 x b.1) ⟨q, hq, zdc_f.2 (by
    rintro ⟨x, a, b⟩
    have := zLt_un b h
    omega), decide_eq_true hne⟩
  have h2 : zcnt (fun x => decide (x ≠ q0)) 12 < zcnt (fun _ => true) 12 := zcnt_lt (fun _ _ _ => rfl) ⟨q0, hq0, decide_eq_false (fun f => f rfl), rfl⟩
  rw [zcnt_tr] at h2
  omega
theorem zSR_e {P : Nat → Nat → Nat → Nat → Prop} {n B : Nat} : ∀ {d k w : Nat}, (∀ k' p, k ≤ k' → k' < k + d → p ≤ w → P k' n n p → p ≤ B) → zSR P n d k n w → w ≤ d * B
  | 0, _, _, _, h => by rw [h.2]; omega
  | d + 1, k, v, hp, ⟨j, p, w, a, b, c, e, f⟩ => by
    obtain rfl : j = n := by omega
    have h1 := hp k p (Nat.le_refl _) (by omega) (by omega) c
    have h2 := zSR_e (B := B) (fun k' p' a1 a2 a3 q => hp k' p' (by omega) (by omega) (by omega) q) e
    rw [Nat.succ_mul]
    omega
theorem zb_lt {b : Bool} {g : zG} {s : zSn} {r k q : Nat} (h : zbl b g s r k q = true) : q < gN g := by
  unfold zbl at h
  rw [Bool.and_eq_true] at h
  exact zon_lt h.1
theorem zLt_e {g : zG} {s : zSn} (hg : zwg g) {m : Nat} : ∀ {t r v : Nat}, zLt g s r m m v → zRk g s m m v < t → 3 * v + 1 ≤ 4 ^ t
  | 0, _, _, _, h => absurd h (by omega)
  | t + 1, r, v, h, hr => by
    obtain ⟨a, w, rfl, b⟩ := zLt_out h
    have hgn := g_n hg
    have hz := g_z hg (zon_lt a)
    have h4 : 0 < 4 ^ t := Nat.pow_pos (by omega)
    have key := zSR_e (B := (4 ^ t - 1) / 3) (fun k p _ _ hpw e => by
      rcases e with ⟨_, e, _⟩ | ⟨_, q, e1, e2⟩
      · omega
      · have hq := zb_lt e1
        have := zRk_lt (by omega) e2 (show p < w + 1 by omega)
        have := zLt_e hg (t := t) e2 (by omega)
        omega) b
    have : gZ g r * ((4 ^ t - 1) / 3) ≤ 4 * ((4 ^ t - 1) / 3) := Nat.mul_le_mul_right _ hz
    rw [Nat.pow_succ]
    omega
