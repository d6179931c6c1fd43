/-! A GRAMMAR TOLD: the automaton, pure -/
def zup (f : Nat → Nat) (n v k : Nat) : Nat := if k = n then v else f k
theorem zup_s (f : Nat → Nat) (n v : Nat) : zup f n v n = v := if_pos rfl
theorem zup_o (f : Nat → Nat) {n v k : Nat} (h : k ≠ n) : zup f n v k = f k := if_neg h
def tG0 : zG := (0, (fun _ => 0), (fun _ => 0), (fun _ _ => 0), (fun _ => 0), (fun _ => 0))
def tB (G : zG) (c : Nat) : zG := (gN G + 1, zup (gL G) (gN G) (26 + c), zup (gZ G) (gN G) 0, gS G, zup (gR G) (gN G) 0, zup (gD G) (gN G) 0)
def tS (G : zG) (a : Nat) : zG := (gN G, gL G, zup (gZ G) (gN G - 1) (gZ G (gN G - 1) + 1), (fun r k => if r = gN G - 1 ∧ k = gZ G (gN G - 1) then a else gS G r k), gR G, gD G)
def tR (G : zG) (v : Nat) : zG := (gN G, gL G, gZ G, gS G, zup (gR G) (gN G - 1) v, gD G)
def tD (G : zG) (v : Nat) : zG := (gN G, gL G, gZ G, gS G, gR G, zup (gD G) (gN G - 1) v)
def tC (c : Nat) : Bool := decide (65 ≤ c) && decide (c ≤ 90)
def tL (c : Nat) : Bool := tC c || (decide (97 ≤ c) && decide (c ≤ 122))
def tv (c : Nat) : Nat := if tC c then c - 65 + 26 else c - 97
def tsd (c : Nat) : Nat := if c = 33 then 3 else if c = 60 then 1 else if c = 62 then 2 else 0
/-- the kind of a fault -/
def tF (w : Nat) (G : zG) (c : Nat) : Option Nat :=
  if w = 0 then (if tC c then (if gN G = 12 ∨ (gleft G (c - 65) = false ∧ zcnt (gleft G) 26 = 5) then some 4 else none) else some 0)
  else if w = 1 then (if c = 61 then none else some 0)
  else if w = 2 then (if tL c then (if gZ G (gN G - 1) = 4 then some 3 else none) else if c = 58 then none else if c = 59 then none else some 0)
  else if w = 3 then (if 49 ≤ c ∧ c ≤ 57 then none else some 1)
  else if w = 4 then (if c = 59 then none else if tsd c = 0 then some 0 else none)
  else (if c = 59 then none else some 0)
/-- what is awaited then -/
def tT (w : Nat) (G : zG) (c : Nat) : Nat × zG :=
  if w = 0 then (1, tB G (c - 65))
  else if w = 1 then (2, G)
  else if w = 2 then (if tL c then (2, tS G (tv c)) else if c = 58 then (3, G) else (0, G))
  else if w = 3 then (4, tR G (c - 48))
  else if w = 4 then (if c = 59 then (0, tD G 0) else (5, tD G (tsd c)))
  else (0, G)
/-- from place p on, k places more: a fault's number, or the grammar -/
def tRun (b : Nat → Nat) : Nat → Nat → Nat → zG → Nat ⊕ zG
  | 0, p, w, G => if w = 0 ∨ w = 1 ∨ w = 3 then .inl (1 + 8 * p) else .inr G
  | k + 1, p, w, G => if b p = 32 then tRun b k (p + 1) w G else match tF w G (b p) with
    | some t => .inl (1 + 8 * p + t)
    | none => tRun b k (p + 1) (tT w G (b p)).1 (tT w G (b p)).2
theorem tRun_s (b : Nat → Nat) (k p w : Nat) (G : zG) : tRun b (k + 1) p w G = if b p = 32 then tRun b k (p + 1) w G else match tF w G (b p) with
    | some t => .inl (1 + 8 * p + t)
    | none => tRun b k (p + 1) (tT w G (b p)).1 (tT w G (b p)).2 := rfl
theorem tRun_0 (b : Nat → Nat) (p w : Nat) (G : zG) : tRun b 0 p w G = if w = 0 ∨ w = 1 ∨ w = 3 then .inl (1 + 8 * p) else .inr G := rfl
/-- the first capital that is on no left side -/
def tCp (b : Nat → Nat) (G : zG) : Nat → Nat → Option Nat
  | 0, _ => none
  | k + 1, p => if tC (b p) = true ∧ gleft G (b p - 65) = false then some p else tCp b G k (p + 1)
theorem tCp_s (b : Nat → Nat) (G : zG) (k p : Nat) : tCp b G (k + 1) p = if tC (b p) = true ∧ gleft G (b p - 65) = false then some p else tCp b G k (p + 1) := rfl
def tAll (b : Nat → Nat) (n : Nat) : Nat ⊕ zG := match tRun b n 0 0 tG0 with
  | .inl f => .inl f
  | .inr G => match tCp b G n 0 with
    | some p => .inl (1 + 8 * p + 2)
    | none => .inr G
/-- what a grammar half told keeps -/
def tw (G : zG) : Prop := gN G ≤ 12 ∧ (∀ r, r < gN G → 26 ≤ gL G r ∧ gL G r < 52 ∧ gZ G r ≤ 4 ∧ gR G r ≤ 9 ∧ gD G r ≤ 3 ∧ ∀ k, k < gZ G r → gS G r k < 52) ∧ zcnt (gleft G) 26 ≤ 5
theorem gleft_iff (G : zG) (c : Nat) : gleft G c = true ↔ ∃ r, r < gN G ∧ gL G r = 26 + c := by
  unfold gleft
  rw [List.any_eq_true]
  constructor
  · rintro ⟨r, h1, h2⟩
    exact ⟨r, List.mem_range.1 h1, by simpa using h2⟩
  · rintro ⟨r, h1, h2⟩
    exact ⟨r, List.mem_range.2 h1, by simpa using h2⟩
theorem tw_0 : tw tG0 := ⟨Nat.zero_le _, fun r h => absurd h (Nat.not_lt_zero _), by
  rw [zcnt_0 fun i _ => ?_]
  · omega
  · rfl⟩
theorem tC_iff (c : Nat) : tC c = true ↔ 65 ≤ c ∧ c ≤ 90 := by
  unfold tC
  rw [Bool.and_eq_true, decide_eq_true_eq, decide_eq_true_eq]
theorem tL_iff (c : Nat) : tL c = true ↔ (65 ≤ c ∧ c ≤ 90) ∨ (97 ≤ c ∧ c ≤ 122) := by
  unfold tL
  rw [Bool.or_eq_true, tC_iff, Bool.and_eq_true, decide_eq_true_eq, decide_eq_true_eq]
theorem tv_52 {c : Nat} (h : tL c = true) : tv c < 52 := by
  rw [tL_iff] at h
  unfold tv
  split
  · rename_i e
    rw [tC_iff] at e
    omega
  · omega
theorem tv_26 {c : Nat} (h : tL c = true) : 26 ≤ tv c ↔ tC c = true := by
  rw [tL_iff] at h
  by_cases hC : tC c = true
  · rw [show tv c = c - 65 + 26 from if_pos hC]
    exact ⟨fun _ => hC, fun _ => by omega⟩
  · rw [show tv c = c - 97 from if_neg hC]
    have hn : ¬ (65 ≤ c ∧ c ≤ 90) := fun q => hC ((tC_iff c).2 q)
    exact ⟨fun q => absurd q (by omega), fun q => absurd q hC⟩
theorem tB_left (G : zG) (c i : Nat) : gleft (tB G c) i = (gleft G i || decide (i = c)) := by
  rw [Bool.eq_iff_iff, gleft_iff, Bool.or_eq_true, gleft_iff, decide_eq_true_eq]
  constructor
  · rintro ⟨r, h1, h2⟩
    have h1 : r < gN G + 1 := h1
    have h2 : zup (gL G) (gN G) (26 + c) r = 26 + i := h2
    by_cases e : r = gN G
    · rw [e, zup_s] at h2
      exact .inr (by omega)
    · rw [zup_o _ e] at h2
      exact .inl ⟨r, by omega, h2⟩
  · rintro (⟨r, h1, h2⟩ | h)
    · refine ⟨r, (show r < gN G + 1 by omega), ?_⟩
      show zup (gL G) (gN G) (26 + c) r = 26 + i
      rw [zup_o _ (by omega)]
      exact h2
    · refine ⟨gN G, (show gN G < gN G + 1 by omega), ?_⟩
      show zup (gL G) (gN G) (26 + c) (gN G) = 26 + i
      rw [zup_s, h]
theorem tB_w {G : zG} {c : Nat} (h : tw G) (hc : c < 26) (h1 : ¬ (gN G = 12 ∨ (gleft G c = false ∧ zcnt (gleft G) 26 = 5))) : tw (tB G c) := by
  obtain ⟨a1, a2, a3⟩ := h
  refine ⟨(show gN G + 1 ≤ 12 by omega), fun r hr => ?_, ?_⟩
  · have hr : r < gN G + 1 := hr
    show 26 ≤ zup (gL G) (gN G) (26 + c) r ∧ zup (gL G) (gN G) (26 + c) r < 52 ∧ zup (gZ G) (gN G) 0 r ≤ 4 ∧ zup (gR G) (gN G) 0 r ≤ 9 ∧ zup (gD G) (gN G) 0 r ≤ 3 ∧ ∀ k, k < zup (gZ G) (gN G) 0 r → gS G r k < 52
    by_cases e : r = gN G
    · rw [e, zup_s, zup_s, zup_s, zup_s]
      exact ⟨by omega, by omega, by omega, by omega, by omega, fun k hk => absurd hk (by omega)⟩
    · rw [zup_o _ e, zup_o _ e, zup_o _ e, zup_o _ e]
      exact a2 r (by omega)
  · cases e : gleft G c with
    | true =>
      rw [zcnt_cg (q := gleft G) fun i _ => ?_]
      · exact a3
      · rw [tB_left]
        by_cases ei : i = c
        · rw [ei, e]
          rfl
        · rw [decide_eq_false ei, Bool.or_false]
    | false =>
      rw [zcnt_1 (p := gleft G) (q := gleft (tB G c)) (c := c) hc e (by rw [tB_left, decide_eq_true rfl, Bool.or_true]) fun i _ hi => by rw [tB_left, decide_eq_false hi, Bool.or_false]]
      have : zcnt (gleft G) 26 ≠ 5 := fun q => h1 (.inr ⟨e, q⟩)
      omega
theorem tS_w {G : zG} {a : Nat} (h : tw G) (hn : 0 < gN G) (ha : a < 52) (h4 : gZ G (gN G - 1) ≠ 4) : tw (tS G a) := by
  obtain ⟨a1, a2, a3⟩ := h
  refine ⟨a1, fun r hr => ?_, a3⟩
  obtain ⟨b1, b2, b3, b4, b5, b6⟩ := a2 r hr
  refine ⟨b1, b2, ?_, b4, b5, fun k hk => ?_⟩
  · show zup (gZ G) (gN G - 1) (gZ G (gN G - 1) + 1) r ≤ 4
    by_cases e : r = gN G - 1
    · rw [e] at b3 ⊢
      rw [zup_s]
      omega
    · rw [zup_o _ e]
      exact b3
  · have hk : k < zup (gZ G) (gN G - 1) (gZ G (gN G - 1) + 1) r := hk
    show (if r = gN G - 1 ∧ k = gZ G (gN G - 1) then a else gS G r k) < 52
    by_cases e : r = gN G - 1 ∧ k = gZ G (gN G - 1)
    · rw [if_pos e]
      exact ha
    · rw [if_neg e]
      apply b6
      by_cases er : r = gN G - 1
      · rw [er, zup_s] at hk
        rw [er]
        have : k ≠ gZ G (gN G - 1) := fun q => e ⟨er, q⟩
        omega
      · rwa [zup_o _ er] at hk
theorem tR_w {G : zG} {v : Nat} (h : tw G) (hv : v ≤ 9) : tw (tR G v) := by
  obtain ⟨a1, a2, a3⟩ := h
  refine ⟨a1, fun r hr => ?_, a3⟩
  obtain ⟨b1, b2, b3, b4, b5, b6⟩ := a2 r hr
  refine ⟨b1, b2, b3, ?_, b5, b6⟩
  show zup (gR G) (gN G - 1) v r ≤ 9
  unfold zup
  split <;> assumption
theorem tD_w {G : zG} {v : Nat} (h : tw G) (hv : v ≤ 3) : tw (tD G v) := by
  obtain ⟨a1, a2, a3⟩ := h
  refine ⟨a1, fun r hr => ?_, a3⟩
  obtain ⟨b1, b2, b3, b4, b5, b6⟩ := a2 r hr
  refine ⟨b1, b2, b3, b4, ?_, b6⟩
  show zup (gD G) (gN G - 1) v r ≤ 3
  unfold zup
  split <;> assumption
theorem tsd_3 (c : Nat) : tsd c ≤ 3 := by
  unfold tsd
  split
  · omega
  · split
    · omega
    · split <;> omega
/-- the automaton's states keep -/
def twa (w : Nat) (G : zG) : Prop := tw G ∧ w ≤ 5 ∧ (w ≠ 0 → 0 < gN G)
theorem tT_w {w : Nat} {G : zG} {c : Nat} (h : twa w G) (hf : tF w G c = none) : twa (tT w G c).1 (tT w G c).2 := by
  obtain ⟨h1, h2, h3⟩ := h
  unfold tF at hf
  unfold tT
  by_cases e0 : w = 0
  · rw [if_pos e0] at hf ⊢
    cases hc : tC c with
    | false =>
      rw [hc, if_neg (by decide)] at hf
      cases hf
    | true =>
      rw [hc, if_pos rfl] at hf
      rw [tC_iff] at hc
      by_cases e : gN G = 12 ∨ (gleft G (c - 65) = false ∧ zcnt (gleft G) 26 = 5)
      · rw [if_pos e] at hf
        cases hf
      · exact ⟨tB_w h1 (by omega) e, Nat.le_of_ble_eq_true rfl, fun _ => Nat.succ_pos _⟩
  · rw [if_neg e0] at hf ⊢
    have hn := h3 e0
    by_cases e1 : w = 1
    · rw [if_pos e1]
      exact ⟨h1, Nat.le_of_ble_eq_true rfl, fun _ => hn⟩
    · rw [if_neg e1] at hf ⊢
      by_cases e2 : w = 2
      · rw [if_pos e2] at hf ⊢
        cases hc : tL c with
        | true =>
          rw [hc, if_pos rfl] at hf
          rw [if_pos rfl]
          by_cases e : gZ G (gN G - 1) = 4
          · rw [if_pos e] at hf
            cases hf
          · exact ⟨tS_w h1 hn (tv_52 hc) e, Nat.le_of_ble_eq_true rfl, fun _ => hn⟩
        | false =>
          rw [if_neg (by decide)]
          by_cases e : c = 58
          · rw [if_pos e]
            exact ⟨h1, Nat.le_of_ble_eq_true rfl, fun _ => hn⟩
          · rw [if_neg e]
            exact ⟨h1, Nat.le_of_ble_eq_true rfl, fun _ => hn⟩
      · rw [if_neg e2] at hf ⊢
        by_cases e3 : w = 3
        · rw [if_pos e3] at hf ⊢
          by_cases e : 49 ≤ c ∧ c ≤ 57
          · exact ⟨tR_w h1 (by omega), Nat.le_of_ble_eq_true rfl, fun _ => hn⟩
          · rw [if_neg e] at hf
            cases hf
        · rw [if_neg e3] at hf ⊢
          by_cases e4 : w = 4
          · rw [if_pos e4]
            by_cases e : c = 59
            · rw [if_pos e]
              exact ⟨tD_w h1 (by omega), Nat.le_of_ble_eq_true rfl, fun _ => hn⟩
            · rw [if_neg e]
              exact ⟨tD_w h1 (tsd_3 c), Nat.le_of_ble_eq_true rfl, fun _ => hn⟩
          · rw [if_neg e4]
            exact ⟨h1, Nat.le_of_ble_eq_true rfl, fun _ => hn⟩
