/-! TREES: how the class settles one part, the pure picture -/
def zAtX (m n : Nat) (E : Nat → Nat → Nat → Prop) (X : Nat → Prop) (q i j : Nat) : Prop := if i = m ∧ j = n then X q else E q i j
def zAtV (m n : Nat) (v : Nat → Nat → Nat → Nat) (V : Nat → Nat) (q i j : Nat) : Nat := if i = m ∧ j = n then V q else v q i j
theorem zAtX_s {m n : Nat} {E : Nat → Nat → Nat → Prop} {X : Nat → Prop} {q : Nat} : zAtX m n E X q m n = X q := if_pos ⟨rfl, rfl⟩
theorem zAtX_o {m n : Nat} {E : Nat → Nat → Nat → Prop} {X : Nat → Prop} {q i j : Nat} (h : ¬ (i = m ∧ j = n)) : zAtX m n E X q i j = E q i j := if_neg h
theorem zAtV_s {m n : Nat} {v : Nat → Nat → Nat → Nat} {V : Nat → Nat} {q : Nat} : zAtV m n v V q m n = V q := if_pos ⟨rfl, rfl⟩
theorem zAtV_o {m n : Nat} {v : Nat → Nat → Nat → Nat} {V : Nat → Nat} {q i j : Nat} (h : ¬ (i = m ∧ j = n)) : zAtV m n v V q i j = v q i j := if_neg h
/-- some rule below a place is without end, as far as known -/
def zxb (g : zG) (s : zSn) (x : Nat → Nat → Nat → Prop) (r k i j : Nat) : Prop := ∃ q, zbl true g s r k q = true ∧ zM true g s q i j ∧ x q i j
theorem zPx_dep {g : zG} {s : zSn} {x x' : Nat → Nat → Nat → Prop} {r m n : Nat} (hr : zM true g s r m n) (h1 : ∀ q i j, m ≤ i → i ≤ j → j ≤ n → ¬ (i = m ∧ j = n) → x q i j → x' q i j) (h2 : ∀ q, zSm g s m n r q → x q m n → x' q m n) (h : zPx (zw1 g s r) (zxb g s x r) m (gZ g r) n) : zPx (zw1 g s r) (zxb g s x' r) m (gZ g r) n := by
  obtain ⟨k, d, i, j, a, b, c, f, ⟨q, q1, q2, q3⟩, e⟩ := zPx_out h (zPb_self rfl (gZ g r))
  have := zPx_in (x := zxb g s x' r) b c ⟨q, q1, q2, ?_⟩ e
  · rw [show k + 1 + d = gZ g r by omega] at this
    exact this
  · have hmi := zPa_le b
    by_cases e1 : i = m ∧ j = n
    · obtain ⟨rfl, rfl⟩ := e1
      exact h2 q (zSm_way hr (by omega) b e q1 q2) q3
    · exact h1 q i j hmi c f e1 q3
/-- what holds while a part is settled: open rules, those without end, numbers -/
def zSe (g : zG) (s : zSn) (vn : Nat → Nat → Nat → Nat) (m n : Nat) (O X : Nat → Prop) (V : Nat → Nat) : Prop := (∀ q, O q → zM true g s q m n ∧ X q) ∧ (∀ q, X q → zM true g s q m n ∧ V q = 0) ∧ (∀ q, V q ≠ 0 → zM true g s q m n) ∧ (∀ q, zM true g s q m n → ¬ O q → (X q ↔ zPx (zw1 g s q) (zxb g s (zAtX m n (zEn g s) X) q) m (gZ g q) n) ∧ (¬ X q → V q = min (zNs (zwn g s (zAtV m n vn V) q) m (gZ g q) n) zTm) ∧ (∀ q', zSm g s m n q q' → ¬ O q') ∧ ¬ zTr (zSm g s m n) q q)
theorem zSe_0 {g : zG} {s : zSn} {vn : Nat → Nat → Nat → Nat} {m n : Nat} {O : Nat → Prop} (h : ∀ q, O q ↔ zM true g s q m n) : zSe g s vn m n O O (fun _ => 0) := ⟨fun q e => ⟨(h q).1 e, e⟩, fun q e => ⟨(h q).1 e, rfl⟩, fun q e => absurd rfl e, fun q e e' => absurd ((h q).2 e) e'⟩
/-- a rule is taken out -/
theorem zSe_s {g : zG} {s : zSn} (hg : zwg g) {vn : Nat → Nat → Nat → Nat} {m n : Nat} (hsu : ∀ i j, m ≤ i → i ≤ j → j ≤ n → ¬ (i = m ∧ j = n) → zSu g s vn i j) {O X : Nat → Prop} {V : Nat → Nat} (h : zSe g s vn m n O X V) {r : Nat} (hr : O r) (hno : ∀ q, zSm g s m n r q → ¬ O q) {b : Prop} {v : Nat} (hb : b ↔ zPx (zw1 g s r) (zxb g s (zAtX m n (zEn g s) X) r) m (gZ g r) n) (hv : v = if zdc b then 0 else min (zNs (zwn g s (zAtV m n vn V) r) m (gZ g r) n) zTm) : zSe g s vn m n (fun q => O q ∧ q ≠ r) (fun q => if q = r then b else X q) (fun q => if q = r then v else V q) := by
  obtain ⟨h1, h2, h3, h4⟩ := h
  have hrm := (h1 r hr).1
  have hns : ¬ zSm g s m n r r := fun q => hno r q hr
  have hXdep : ∀ q, zM true g s q m n → (∀ q', zSm g s m n q q' → q' ≠ r) → (zPx (zw1 g s q) (zxb g s (zAtX m n (zEn g s) X) q) m (gZ g q) n ↔ zPx (zw1 g s q) (zxb g s (zAtX m n (zEn g s) fun q => if q = r then b else X q) q) m (gZ g q) n) := fun q hq hq' => ⟨zPx_dep hq (fun q1 i j _ _ _ e f => by rw [zAtX_o e] at f ⊢; exact f) (fun q1 e f => by rw [zAtX_s] at f ⊢; rw [if_neg (hq' q1 e)]; exact f), zPx_dep hq (fun q1 i j _ _ _ e f => by rw [zAtX_o e] at f ⊢; exact f) (fun q1 e f => by rw [zAtX_s] at f ⊢; rw [if_neg (hq' q1 e)] at f; exact f)⟩
  have hV3 : ∀ q, (if q = r then v else V q) ≠ 0 → zM true g s q m n := fun q e => by
    by_cases eq : q = r
    · rw [eq]; exact hrm
    · rw [if_neg eq] at e; exact h3 q e
  have hVdep : ∀ q, zM true g s q m n → (∀ q', zSm g s m n q q' → q' ≠ r) → zNs (zwn g s (zAtV m n vn V) q) m (gZ g q) n = zNs (zwn g s (zAtV m n vn fun q => if q = r then v else V q) q) m (gZ g q) n := fun q hq hq' => zNs_dep hg hq (fun i j a b' c => by
    by_cases e : i = m ∧ j = n
    · obtain ⟨rfl, rfl⟩ := e
      refine ⟨fun q1 _ f => ?_, fun q1 _ f => ?_⟩
      · rw [zAtV_s] at f; exact h3 q1 f
      · rw [zAtV_s] at f; exact hV3 q1 f
    · refine ⟨fun q1 hq1 f => ?_, fun q1 hq1 f => ?_⟩
      · rw [zAtV_o e] at f; exact hsu i j a b' c e q1 hq1 f
      · rw [zAtV_o e] at f; exact hsu i j a b' c e q1 hq1 f) (fun q1 i j _ _ _ _ e => by rw [zAtV_o e, zAtV_o e]) (fun q1 e => by rw [zAtV_s, zAtV_s, if_neg (hq' q1 e)])
  refine ⟨fun q e => ?_, fun q e => ?_, hV3, fun q hq hq' => ?_⟩
  · simp only
    rw [if_neg e.2]
    exact h1 q e.1
  · by_cases eq : q = r
    · subst eq
      have e : (if q = q then b else X q) := e
      rw [if_pos rfl] at e
      refine ⟨hrm, ?_⟩
      show (if q = q then v else V q) = 0
      rw [if_pos rfl, hv, zdc_t.2 e]
      rfl
    · have e : (if q = r then b else X q) := e
      rw [if_neg eq] at e
      show _ ∧ (if q = r then v else V q) = 0
      rw [if_neg eq]
      exact h2 q e
  · by_cases eq : q = r
    · subst eq
      have hsr : ∀ q', zSm g s m n q q' → q' ≠ q := fun q' e e' => hns (by rw [e'] at e; exact e)
      show ((if q = q then b else X q) ↔ _) ∧ (¬ (if q = q then b else X q) → (if q = q then v else V q) = _) ∧ _
      rw [if_pos rfl, if_pos rfl]
      refine ⟨hb.trans (hXdep q hrm hsr), fun e => ?_, fun q' e e' => hno q' e e'.1, fun e => ?_⟩
      · have hv2 : v = min (zNs (zwn g s (zAtV m n vn V) q) m (gZ g q) n) zTm := by
          rw [hv, zdc_f.2 e]
          rfl
        exact hv2.trans (by rw [hVdep q hrm hsr])
      · have hcl : ∀ q1, zTr (zSm g s m n) q q1 → ¬ O q1 := fun q1 e1 => zlfp_le (P := fun q1 => ¬ O q1 ∧ zM true g s q1 m n) (fun q1 e2 => by
          have hm1 : ∀ a c, zSm g s m n a c → zM true g s c m n := fun a c f => by obtain ⟨-, k, -, -, f3, -⟩ := f; exact f3
          rcases e2 with e2 | ⟨q2, e2, e3⟩
          · exact ⟨hno q1 e2, hm1 _ _ e2⟩
          · exact ⟨(h4 q2 e2.2 e2.1).2.2.1 q1 e3, hm1 _ _ e3⟩) e1 |>.1
        exact hcl q e hr
    · have hqO : ¬ O q := fun e => hq' ⟨e, eq⟩
      obtain ⟨a1, a2, a3, a4⟩ := h4 q hq hqO
      have hsr : ∀ q', zSm g s m n q q' → q' ≠ r := fun q' e e' => a3 q' e (by rw [e']; exact hr)
      show ((if q = r then b else X q) ↔ _) ∧ (¬ (if q = r then b else X q) → (if q = r then v else V q) = _) ∧ _
      rw [if_neg eq, if_neg eq]
      exact ⟨a1.trans (hXdep q hq hsr), fun e => (a2 e).trans (by rw [hVdep q hq hsr]), fun q' e e' => a3 q' e e'.1, a4⟩
/-- when each open rule has an open one below it: what is without end, and the numbers -/
theorem zSe_end {g : zG} {s : zSn} (hg : zwg g) {vn : Nat → Nat → Nat → Nat} {m n : Nat} {O X : Nat → Prop} {V : Nat → Nat} (h : zSe g s vn m n O X V) (hO : ∀ r, O r → ∃ q, zSm g s m n r q ∧ O q) : (∀ q, X q ↔ zEn g s q m n) ∧ zEq g s (zAtV m n vn V) m n := by
  obtain ⟨h1, h2, h3, h4⟩ := h
  have hX1 : ∀ D q, zDs g s m n q = D → X q → zEn g s q m n := by
    intro D
    induction D using Nat.strongRecOn with
    | _ D ih =>
      intro q hD hq
      have hqm := (h2 q hq).1
      apply Classical.byContradiction
      intro hne
      have go : ∀ q', zSm g s m n q q' → X q' → False := fun q' e e' => by
        have hq'm := (h2 q' e').1
        have hne' : ¬ zEn g s q' m n := fun f => hne (zEn_sm hg e f)
        exact hne' (ih (zDs g s m n q') (by rw [← hD]; exact zDs_lt hg e fun f => hne' (zEn_ring hq'm f)) q' rfl e')
      by_cases hqO : O q
      · obtain ⟨q', e, e'⟩ := hO q hqO
        exact go q' e (h1 q' e').2
      · have hpx := (h4 q hqm hqO).1.1 hq
        obtain ⟨k, d, i, j, a, b, c, f, ⟨q', q1, q2, q3⟩, e⟩ := zPx_out hpx (zPb_self rfl (gZ g q))
        by_cases e1 : i = m ∧ j = n
        · obtain ⟨rfl, rfl⟩ := e1
          rw [zAtX_s] at q3
          exact go q' (zSm_way hqm (by omega) b e q1 q2) q3
        · rw [zAtX_o e1] at q3
          refine hne (zEn_in hqm ?_)
          have := zPx_in (x := fun k i j => ∃ q', zbl true g s q k q' = true ∧ zEn g s q' i j) b c ⟨q', q1, q3⟩ e
          rw [show k + 1 + d = gZ g q by omega] at this
          exact this
  have hX2 : ∀ hh q, zEh g s hh q m n → X q := by
    intro hh
    induction hh with
    | zero => intro q e; exact e.elim
    | succ hh ih =>
      rintro q ⟨hqm, hq⟩
      by_cases hqO : O q
      · exact (h1 q hqO).2
      · obtain ⟨a1, -, -, a4⟩ := h4 q hqm hqO
        rcases hq with hq | hq
        · exact absurd hq a4
        · refine a1.2 (zPx_mo (fun k i j _ a b c => ⟨id, ?_⟩) hq)
          rintro ⟨q', e, f⟩
          refine ⟨q', e, zEn_M ⟨hh, f⟩, ?_⟩
          by_cases e1 : i = m ∧ j = n
          · obtain ⟨rfl, rfl⟩ := e1
            rw [zAtX_s]
            exact ih q' f
          · rw [zAtX_o e1]
            exact ⟨hh, f⟩
  have hX : ∀ q, X q ↔ zEn g s q m n := fun q => ⟨hX1 _ q rfl, fun ⟨hh, e⟩ => hX2 hh q e⟩
  refine ⟨hX, fun r hr => ⟨fun e => ?_, fun e => ?_⟩⟩
  · have hnx : ¬ X r := fun f => e.2 ((hX r).1 f)
    have hnO : ¬ O r := fun f => hnx (h1 r f).2
    rw [zAtV_s]
    exact (h4 r e.1 hnO).2.1 hnx
  · rw [zAtV_s]
    by_cases hm : zM true g s r m n
    · have : zEn g s r m n := Classical.byContradiction fun f => e ⟨hm, f⟩
      exact (h2 r ((hX r).2 this)).2
    · exact Classical.byContradiction fun f => hm (h3 r f)
/-- a way, or one with an endless part, or a sum that is not 0 -/
theorem zPa_or {w x : Nat → Nat → Nat → Prop} {wt : Nat → Nat → Nat → Nat} {m : Nat} : ∀ {k j : Nat}, (∀ k' i' j', k' < k → m ≤ i' → i' ≤ j' → j' ≤ j → w k' i' j' → x k' i' j' ∨ wt k' i' j' ≠ 0) → zPa w k m j → zPx w x m k j ∨ zNs wt m k j ≠ 0
  | 0, j, _, h => .inr (zNs_ne (k := 0) h)
  | k + 1, j, hw, ⟨i, h1, h2, h3, h4⟩ => by
    rcases zPa_or (wt := wt) (x := x) (fun k' i' j' a b c e => hw k' i' j' (by omega) b c (by omega)) h3 with q | q
    · exact .inl ⟨i, h1, h2, .inl ⟨q, h4⟩⟩
    · rcases hw k i j (by omega) h1 h2 (Nat.le_refl _) h4 with q' | q'
      · exact .inl ⟨i, h1, h2, .inr ⟨h3, q'⟩⟩
      · exact .inr (zNs_ne (k := k + 1) ⟨i, h1, h2, zNs_pa q, q'⟩)
theorem zPx_pa {w x : Nat → Nat → Nat → Prop} {m : Nat} : ∀ {k j : Nat}, (∀ k' i' j', k' < k → m ≤ i' → i' ≤ j' → j' ≤ j → x k' i' j' → w k' i' j') → zPx w x m k j → zPa w k m j
  | 0, _, _, h => h.elim
  | k + 1, j, hx, ⟨i, h1, h2, h⟩ => ⟨i, h1, h2, h.elim (fun q => zPx_pa (fun k' i' j' a b c e => hx k' i' j' (by omega) b c (by omega)) q.1) (fun q => q.1), h.elim (fun q => q.2) (fun q => hx k i j (by omega) h1 h2 (Nat.le_refl _) q.2)⟩
