/-! STATES THAT ARE ALIVE, links: the pure picture; counting -/
noncomputable def zdc (p : Prop) : Bool := @decide p (Classical.propDecidable p)
theorem zdc_t {p : Prop} : zdc p = true ↔ p := @decide_eq_true_iff p (Classical.propDecidable p)
theorem zdc_f {p : Prop} : zdc p = false ↔ ¬ p := by
  constructor
  · intro h q
    rw [zdc_t.2 q] at h
    cases h
  · intro h
    cases e : zdc p with
    | false => rfl
    | true => exact absurd (zdc_t.1 e) h
theorem zdc_cg {p q : Prop} (h : p ↔ q) : zdc p = zdc q := by rw [propext h]
theorem zcnt_cg {p q : Nat → Bool} {n : Nat} (h : ∀ i, i < n → p i = q i) : zcnt p n = zcnt q n := Nat.le_antisymm (zcnt_mono fun i hi e => by rw [← h i hi]; exact e) (zcnt_mono fun i hi e => by rw [h i hi]; exact e)
/-- one more -/
theorem zcnt_1 {p q : Nat → Bool} {c : Nat} : ∀ {n : Nat}, c < n → p c = false → q c = true → (∀ i, i < n → i ≠ c → q i = p i) → zcnt q n = zcnt p n + 1
  | 0, h, _, _, _ => absurd h (Nat.not_lt_zero _)
  | n + 1, h, h1, h2, h3 => by
    unfold zcnt
    by_cases e : c = n
    · subst e
      rw [h1, h2, zcnt_cg (p := q) (q := p) fun i hi => h3 i (by omega) (by omega)]
      simp
    · rw [zcnt_1 (n := n) (by omega) h1 h2 fun i hi => h3 i (by omega), h3 n (by omega) (by omega)]
      omega
theorem zcnt_0 {p : Nat → Bool} : ∀ {n : Nat}, (∀ i, i < n → p i = false) → zcnt p n = 0
  | 0, _ => rfl
  | n + 1, h => by
    unfold zcnt
    rw [zcnt_0 (n := n) fun i hi => h i (by omega), h n (by omega)]
    rfl
theorem zcnt_mem : ∀ {l : List Nat} {n : Nat}, l.Nodup → (∀ x, x ∈ l → x < n) → zcnt (fun k => decide (k ∈ l)) n = l.length
  | [], n, _, _ => zcnt_0 fun i _ => by simp
  | a :: l, n, h, h' => by
    rw [List.nodup_cons] at h
    rw [zcnt_1 (p := fun k => decide (k ∈ l)) (c := a) (h' a (by simp)) (by simp [h.1]) (by simp) (fun i _ hi => by simp [hi]), zcnt_mem h.2 fun x hx => h' x (by simp [hx])]
    rfl
theorem znodup_le {l : List Nat} {n : Nat} (h : l.Nodup) (h' : ∀ x, x ∈ l → x < n) : l.length ≤ n := by
  rw [← zcnt_mem h h']
  exact zcnt_le _ _
theorem zsuM_cg {f f' : Nat → Nat} {n : Nat} (h : ∀ k, k < n → f k = f' k) : zsuM f n = zsuM f' n := Nat.le_antisymm (zsuM_le fun k hk => Nat.le_of_eq (h k hk)) (zsuM_le fun k hk => Nat.le_of_eq (h k hk).symm)
theorem zsuM_add (f f' : Nat → Nat) : ∀ n, zsuM (fun k => f k + f' k) n = zsuM f n + zsuM f' n
  | 0 => rfl
  | n + 1 => by
    unfold zsuM
    rw [zsuM_add f f' n]
    omega
theorem zsuM_0 {f : Nat → Nat} : ∀ {n : Nat}, (∀ k, k < n → f k = 0) → zsuM f n = 0
  | 0, _ => rfl
  | n + 1, h => by
    unfold zsuM
    rw [zsuM_0 (n := n) fun k hk => h k (by omega), h n (by omega)]
theorem zsuM_sw (F : Nat → Nat → Nat) (M : Nat) : ∀ W, zsuM (fun k => zsuM (fun m => F m k) M) W = zsuM (fun m => zsuM (fun k => F m k) W) M
  | 0 => (zsuM_0 (n := M) (f := fun m => zsuM (fun k => F m k) 0) fun k _ => rfl).symm
  | W + 1 => by
    have e : zsuM (fun m => zsuM (fun k => F m k) (W + 1)) M = zsuM (fun m => zsuM (fun k => F m k) W + F m W) M := rfl
    rw [e, zsuM_add, ← zsuM_sw F M W]
    rfl
/-- one place adds -/
theorem zsuM_1 {f f' : Nat → Nat} {c v : Nat} : ∀ {n : Nat}, c < n → f' c = f c + v → (∀ k, k < n → k ≠ c → f' k = f k) → zsuM f' n = zsuM f n + v
  | 0, h, _, _ => absurd h (Nat.not_lt_zero _)
  | n + 1, h, h1, h2 => by
    unfold zsuM
    by_cases e : c = n
    · subst e
      rw [h1, zsuM_cg (f := f') (f' := f) fun k hk => h2 k (by omega) (by omega)]
      omega
    · rw [zsuM_1 (n := n) (by omega) h1 fun k hk => h2 k (by omega), h2 n (by omega) (by omega)]
      omega
/-- each has one goal at most -/
theorem zsuM_goal {f : Nat → Option Nat} {P : Nat → Prop} {W : Nat} (hf : ∀ x t, f x = some t → t < W) : ∀ X, zsuM (fun k => zcnt (fun x => zdc (f x = some k ∧ P x)) X) W = zcnt (fun x => zdc ((f x).isSome = true ∧ P x)) X
  | 0 => zsuM_0 fun _ _ => rfl
  | X + 1 => by
    have e : zsuM (fun k => zcnt (fun x => zdc (f x = some k ∧ P x)) (X + 1)) W = zsuM (fun k => zcnt (fun x => zdc (f x = some k ∧ P x)) X + (if zdc (f X = some k ∧ P X) then 1 else 0)) W := rfl
    rw [e, zsuM_add, zsuM_goal hf X]
    have e2 : zcnt (fun x => zdc ((f x).isSome = true ∧ P x)) (X + 1) = zcnt (fun x => zdc ((f x).isSome = true ∧ P x)) X + (if zdc ((f X).isSome = true ∧ P X) then 1 else 0) := rfl
    rw [e2]
    congr 1
    cases h : f X with
    | none =>
      rw [zsuM_0 fun k _ => if_neg (by rw [zdc_t]; exact fun q => by cases q.1), if_neg (by rw [zdc_t]; exact fun q => by cases q.1)]
    | some t =>
      by_cases hp : P X
      · rw [if_pos (by rw [zdc_t]; exact ⟨rfl, hp⟩)]
        have h1 := zsuM_1 (f := fun _ => 0) (f' := fun k => if zdc (some t = some k ∧ P X) then 1 else 0) (c := t) (v := 1) (hf X t h) (if_pos (by rw [zdc_t]; exact ⟨rfl, hp⟩)) (fun k _ hk => if_neg (by rw [zdc_t]; exact fun q => hk (by cases q.1; rfl)))
        rw [h1, zsuM_0 fun _ _ => rfl]
      · rw [zsuM_0 fun k _ => if_neg (by rw [zdc_t]; exact fun q => hp q.2), if_neg (by rw [zdc_t]; exact fun q => hp q.2)]
/-- states lead to states -/
def zwt (w : zWs) : Prop := 1 ≤ w.1 ∧ w.1 ≤ 90 ∧ ∀ k c t, w.2.2 k c = some t → t < w.1
theorem zwt_U {w : zWs} {n k c : Nat} {f : Nat → Int64} {v : Option Nat} (h : zwt w) (h1 : w.1 ≤ n) (h2 : n ≤ 90) (h3 : ∀ t, v = some t → t < n) : zwt (n, f, zgoU w.2.2 k c v) := by
  refine ⟨Nat.le_trans h.1 h1, h2, fun k' c' t e => ?_⟩
  have e : (if k' = k ∧ c' = c then v else w.2.2 k' c') = some t := e
  split at e
  · exact h3 t e
  · exact Nat.lt_of_lt_of_le (h.2.2 _ _ _ e) h1
theorem zwt_1 {g : zG} {s : zSn} {w w' : zWs} {k c : Nat} (h : zwt w) (e : zgo1 g s w k c = some w') : zwt w' := by
  unfold zgo1 at e
  split at e
  · cases e
    exact zwt_U h (Nat.le_refl _) h.2.1 fun t q => by cases q
  · split at e
    · rename_i j hj
      cases e
      exact zwt_U h (Nat.le_refl _) h.2.1 fun t q => by cases q; exact zfnd_lt hj
    · split at e
      · cases e
      · cases e
        have := h.2.1
        exact zwt_U h (Nat.le_succ _) (by omega) fun t q => by cases q; exact Nat.lt_succ_self _
theorem zwt_S {g : zG} {s : zSn} {w : zWs} {k : Nat} (h : zwt w) : ∀ {i : Nat} {w' : zWs}, zgoS g s w k i = some w' → zwt w'
  | 0, w', e => by cases e; exact h
  | i + 1, w', e => by
    have e : (zgoS g s w k i).bind (fun w => zgo1 g s w k ((i + 26) % 52)) = some w' := e
    cases q : zgoS g s w k i with
    | none => rw [q] at e; cases e
    | some w1 =>
      rw [q, Option.bind_some] at e
      exact zwt_1 (zwt_S h q) e
theorem zwt_K {g : zG} {s : zSn} : ∀ {k : Nat} {w : zWs}, zgoK g s k = some w → zwt w
  | 0, w, e => by cases e; exact ⟨Nat.le_refl _, by show 1 ≤ 90; omega, fun k c t q => by cases q⟩
  | k + 1, w, e => by
    have e : (zgoK g s k).bind (fun w => if k < w.1 then zgoS g s w k 52 else some w) = some w := e
    cases q : zgoK g s k with
    | none => rw [q] at e; cases e
    | some w1 =>
      rw [q, Option.bind_some] at e
      have := zwt_K q
      split at e
      · exact zwt_S this e
      · cases e; exact this
theorem zLay_wt {g : zG} {s : zSn} {w : zWs} (h : zLay g s = some w) : zwt w := zwt_K h
/-- by a symbol from a state at a level to one at another -/
def zEd (g : zG) (s : zSn) (w : zWs) (m k x n t : Nat) : Prop := m ≤ n ∧ w.2.2 k x = some t ∧ zMo g s x m n
def zAh (g : zG) (s : zSn) (w : zWs) : Nat → Nat → Nat → Prop
  | 0, n, k => n = 0 ∧ k = 0
  | h + 1, n, k => zAh g s w h n k ∨ ∃ m k' x, k' < w.1 ∧ x < 52 ∧ zAh g s w h m k' ∧ zEd g s w m k' x n k
def zAl (g : zG) (s : zSn) (w : zWs) (n k : Nat) : Prop := ∃ h, zAh g s w h n k
theorem zAl_0 (g : zG) (s : zSn) (w : zWs) : zAl g s w 0 0 := ⟨0, rfl, rfl⟩
theorem zAl_s {g : zG} {s : zSn} {w : zWs} {m k x n t : Nat} (hk : k < w.1) (hx : x < 52) (h : zAl g s w m k) (e : zEd g s w m k x n t) : zAl g s w n t := by
  obtain ⟨h, q⟩ := h
  exact ⟨h + 1, .inr ⟨m, k, x, hk, hx, q, e⟩⟩
theorem zAl_lt {g : zG} {s : zSn} {w : zWs} (hw : zwt w) {n k : Nat} (h : zAl g s w n k) : k < w.1 := by
  obtain ⟨h, q⟩ := h
  induction h generalizing n k with
  | zero =>
    rw [q.2]
    exact hw.1
  | succ h ih =>
    rcases q with q | ⟨m, k', x, -, -, -, q⟩
    · exact ih q
    · exact hw.2.2 _ _ _ q.2.1
/-- a set that has the beginning and is closed has all, up to a level -/
theorem zAl_co {g : zG} {s : zSn} {w : zWs} {N : Nat} {A : Nat → Nat → Prop} (h0 : A 0 0) (hc : ∀ m k x n t, n ≤ N → k < w.1 → x < 52 → A m k → zEd g s w m k x n t → A n t) {n k : Nat} (hn : n ≤ N) (h : zAl g s w n k) : A n k := by
  obtain ⟨h, q⟩ := h
  induction h generalizing n k with
  | zero =>
    rw [q.1, q.2]
    exact h0
  | succ h ih =>
    rcases q with q | ⟨m, k', x, h1, h2, h3, q⟩
    · exact ih hn q
    · exact hc m k' x n k hn h1 h2 (ih (Nat.le_trans q.1 hn) h3) q
/-- how many links lead from a state at a level to one at another -/
noncomputable def zec (g : zG) (s : zSn) (w : zWs) (m k n t : Nat) : Nat := zcnt (fun x => zdc (zEd g s w m k x n t)) 52
noncomputable def zLk (g : zG) (s : zSn) (w : zWs) (A : Nat → Nat → Prop) (n t : Nat) : Nat := zsuM (fun m => zsuM (fun k => if zdc (A m k) then zec g s w m k n t else 0) w.1) (n + 1)
theorem zLk_cg {g : zG} {s : zSn} {w : zWs} {A A' : Nat → Nat → Prop} {n t : Nat} (h : ∀ m k, m ≤ n → k < w.1 → (A m k ↔ A' m k)) : zLk g s w A n t = zLk g s w A' n t := zsuM_cg fun m hm => zsuM_cg fun k hk => by rw [zdc_cg (h m k (by omega) hk)]
theorem zLk_1 {g : zG} {s : zSn} {w : zWs} {A A' : Nat → Nat → Prop} {n t m k : Nat} (hm : m ≤ n) (hk : k < w.1) (h : ¬ A m k) (h1 : A' m k) (h2 : ∀ m' k', ¬ (m' = m ∧ k' = k) → (A' m' k' ↔ A m' k')) : zLk g s w A' n t = zLk g s w A n t + zec g s w m k n t := by
  refine zsuM_1 (c := m) (by omega) ?_ fun m' _ hm' => zsuM_cg fun k' _ => by rw [zdc_cg (h2 m' k' fun q => hm' q.1)]
  refine zsuM_1 (c := k) hk ?_ fun k' _ hk' => by rw [zdc_cg (h2 m k' fun q => hk' q.2)]
  rw [if_pos (zdc_t.2 h1), if_neg (by rw [zdc_t]; exact h)]
  omega
theorem zLk_un {g : zG} {s : zSn} {w : zWs} {A A' : Nat → Nat → Prop} {n t m : Nat} (hm : n < m) (h2 : ∀ m' k', m' < m → (A' m' k' ↔ A m' k')) : zLk g s w A' n t = zLk g s w A n t := zLk_cg fun m' k' h _ => h2 m' k' (by omega)
