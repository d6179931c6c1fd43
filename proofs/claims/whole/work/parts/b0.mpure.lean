/-! MEND, pure: what it costs to make a part of the text a capital's -/
def zQs (s : zSn) (a i j p : Nat) : Prop := (i = j ∧ p = 1) ∨ (i < j ∧ (∃ x, i ≤ x ∧ x < j ∧ sX s x = a) ∧ p = j - i - 1) ∨ (i < j ∧ (∀ x, i ≤ x → x < j → sX s x ≠ a) ∧ p = j - i)
def zMP (g : zG) (s : zSn) (T : Nat → Nat → Nat → Nat → Prop) (r k i j p : Nat) : Prop := (gS g r k < 26 ∧ zQs s (gS g r k) i j p) ∨ (26 ≤ gS g r k ∧ T (gS g r k - 26) i j p)
def zPR (P : Nat → Nat → Nat → Nat → Prop) (m : Nat) : Nat → Nat → Nat → Prop
  | 0, j, v => j = m ∧ v = 0
  | k + 1, j, v => ∃ i p w, m ≤ i ∧ i ≤ j ∧ zPR P m k i w ∧ P k i j p ∧ v = w + p
def zRc (g : zG) (s : zSn) (T : Nat → Nat → Nat → Nat → Prop) (r m n v : Nat) : Prop := (gZ g r = 0 ∧ v = n - m) ∨ (0 < gZ g r ∧ zPR (zMP g s T r) m (gZ g r) n v)
def zMh (g : zG) (s : zSn) : Nat → Nat → Nat → Nat → Nat → Prop
  | 0, _, _, _, _ => False
  | h + 1, c, m, n, v => ∃ r, zon g s r = true ∧ gL g r = 26 + c ∧ zRc g s (zMh g s h) r m n v
def zMe (g : zG) (s : zSn) (c m n v : Nat) : Prop := ∃ h, zMh g s h c m n v
theorem zPR_mo {P P' : Nat → Nat → Nat → Nat → Prop} {m n K : Nat} (h : ∀ k i j p, k < K → m ≤ i → i ≤ j → j ≤ n → P k i j p → P' k i j p) : ∀ {k j v : Nat}, k ≤ K → j ≤ n → zPR P m k j v → zPR P' m k j v
  | 0, _, _, _, _, e => e
  | _ + 1, _, _, hk, hj, ⟨i, p, w, a, b, c, e, f⟩ => ⟨i, p, w, a, b, zPR_mo h (by omega) (by omega) c, h _ _ _ _ (by omega) a b hj e, f⟩
theorem zMP_mo {g : zG} {s : zSn} {T T' : Nat → Nat → Nat → Nat → Prop} {r k i j p : Nat} (h : ∀ a, T a i j p → T' a i j p) (e : zMP g s T r k i j p) : zMP g s T' r k i j p := e.imp id fun q => ⟨q.1, h _ q.2⟩
theorem zRc_mo {g : zG} {s : zSn} {T T' : Nat → Nat → Nat → Nat → Prop} {r m n v : Nat} (h : ∀ a i j p, m ≤ i → i ≤ j → j ≤ n → T a i j p → T' a i j p) (e : zRc g s T r m n v) : zRc g s T' r m n v := e.imp id fun q => ⟨q.1, zPR_mo (fun k i j p _ a b c => zMP_mo fun x => h x i j p a b c) (Nat.le_refl _) (Nat.le_refl _) q.2⟩
theorem zMh_mo {g : zG} {s : zSn} : ∀ {h c m n v : Nat}, zMh g s h c m n v → zMh g s (h + 1) c m n v
  | 0, _, _, _, _, e => False.elim e
  | _ + 1, _, _, _, _, ⟨r, a, b, c⟩ => ⟨r, a, b, zRc_mo (fun _ _ _ _ _ _ _ e => zMh_mo e) c⟩
theorem zMh_up {g : zG} {s : zSn} {h h' c m n v : Nat} (e : zMh g s h c m n v) (hh : h ≤ h') : zMh g s h' c m n v := by
  induction hh with
  | refl => exact e
  | step _ ih => exact zMh_mo ih
theorem zPR_h {g : zG} {s : zSn} {r m : Nat} : ∀ {k j v : Nat}, zPR (zMP g s (zMe g s) r) m k j v → ∃ h, zPR (zMP g s (zMh g s h) r) m k j v
  | 0, _, _, e => ⟨0, e⟩
  | k + 1, j, _, ⟨i, p, w, a, b, c, e, f⟩ => by
    obtain ⟨h1, x1⟩ := zPR_h c
    have up : ∀ h2, h1 ≤ h2 → zPR (zMP g s (zMh g s h2) r) m k i w := fun h2 hh => zPR_mo (n := i) (K := k) (fun k' i' j' p' _ _ _ _ => zMP_mo fun _ q => zMh_up q hh) (Nat.le_refl _) (Nat.le_refl _) x1
    rcases e with e | ⟨e1, h2, e2⟩
    · exact ⟨h1, i, p, w, a, b, x1, .inl e, f⟩
    · exact ⟨h1 + h2, i, p, w, a, b, up _ (by omega), .inr ⟨e1, zMh_up e2 (by omega)⟩, f⟩
theorem zRc_h {g : zG} {s : zSn} {r m n v : Nat} (e : zRc g s (zMe g s) r m n v) : ∃ h, zRc g s (zMh g s h) r m n v := by
  rcases e with e | ⟨e1, e2⟩
  · exact ⟨0, .inl e⟩
  · obtain ⟨h, x⟩ := zPR_h e2
    exact ⟨h, .inr ⟨e1, x⟩⟩
theorem zMe_in {g : zG} {s : zSn} {c r m n v : Nat} (h1 : zon g s r = true) (h2 : gL g r = 26 + c) (h3 : zRc g s (zMe g s) r m n v) : zMe g s c m n v := by
  obtain ⟨h, x⟩ := zRc_h h3
  exact ⟨h + 1, r, h1, h2, x⟩
theorem zMe_out {g : zG} {s : zSn} {c m n v : Nat} (h : zMe g s c m n v) : ∃ r, zon g s r = true ∧ gL g r = 26 + c ∧ zRc g s (zMe g s) r m n v := by
  obtain ⟨h, e⟩ := h
  cases h with
  | zero => exact False.elim e
  | succ h =>
    obtain ⟨r, a, b, c⟩ := e
    exact ⟨r, a, b, zRc_mo (fun _ _ _ _ _ _ _ x => ⟨h, x⟩) c⟩
/-! by heights of one part -/
def zEt (g : zG) (s : zSn) (m n : Nat) (X : Nat → Nat → Prop) (a i j p : Nat) : Prop := (i = m ∧ j = n ∧ X a p) ∨ (¬ (i = m ∧ j = n) ∧ zMe g s a i j p)
def zXh (g : zG) (s : zSn) (m n : Nat) : Nat → Nat → Nat → Prop
  | 0, _, _ => False
  | h + 1, c, v => ∃ r, zon g s r = true ∧ gL g r = 26 + c ∧ zRc g s (zEt g s m n (zXh g s m n h)) r m n v
theorem zEt_mo {g : zG} {s : zSn} {m n : Nat} {X X' : Nat → Nat → Prop} (h : ∀ a p, X a p → X' a p) {a i j p : Nat} (e : zEt g s m n X a i j p) : zEt g s m n X' a i j p := e.imp (fun q => ⟨q.1, q.2.1, h _ _ q.2.2⟩) id
theorem zXh_mo {g : zG} {s : zSn} {m n : Nat} : ∀ {h c v : Nat}, zXh g s m n h c v → zXh g s m n (h + 1) c v
  | 0, _, _, e => False.elim e
  | _ + 1, _, _, ⟨r, a, b, c⟩ => ⟨r, a, b, zRc_mo (fun _ _ _ _ _ _ _ e => zEt_mo (fun _ _ x => zXh_mo x) e) c⟩
theorem zEt_h {g : zG} {s : zSn} {m n h : Nat} (hc : ∀ c v, zMh g s h c m n v → zXh g s m n h c v) {a i j p : Nat} (e : zMh g s h a i j p) : zEt g s m n (zXh g s m n h) a i j p := by
  by_cases q : i = m ∧ j = n
  · obtain ⟨rfl, rfl⟩ := q
    exact .inl ⟨rfl, rfl, hc _ _ e⟩
  · exact .inr ⟨q, h, e⟩
theorem zXh_co {g : zG} {s : zSn} {m n : Nat} : ∀ {h c v : Nat}, zMh g s h c m n v → zXh g s m n h c v
  | 0, _, _, e => False.elim e
  | _ + 1, _, _, ⟨r, a, b, c⟩ => ⟨r, a, b, zRc_mo (fun _ _ _ _ _ _ _ e => zEt_h (fun _ _ x => zXh_co x) e) c⟩
theorem zXh_so {g : zG} {s : zSn} {m n : Nat} : ∀ {h c v : Nat}, zXh g s m n h c v → zMe g s c m n v
  | 0, _, _, e => False.elim e
  | _ + 1, _, _, ⟨r, a, b, c⟩ => zMe_in a b (zRc_mo (fun x i j p _ _ _ e => by
      rcases e with ⟨e1, e2, e3⟩ | ⟨-, e⟩
      · rw [e1, e2]
        exact zXh_so e3
      · exact e) c)
theorem zPR_dec {g : zG} {s : zSn} {r m n : Nat} {X : Nat → Nat → Prop} : ∀ {k j v : Nat}, zPR (zMP g s (zEt g s m n X) r) m k j v → ∃ S : List (Nat × Nat), (∀ q, q ∈ S → X q.1 q.2 ∧ q.2 ≤ v) ∧ ∀ X' : Nat → Nat → Prop, (∀ q, q ∈ S → ∃ f, f ≤ q.2 ∧ X' q.1 f) → ∃ v', v' ≤ v ∧ zPR (zMP g s (zEt g s m n X') r) m k j v' ∧ ((∃ q, q ∈ S ∧ ∃ f, f < q.2 ∧ X' q.1 f) → ∃ v'', v'' < v ∧ zPR (zMP g s (zEt g s m n X') r) m k j v'')
  | 0, j, v, e => ⟨[], fun q h => absurd h List.not_mem_nil, fun X' _ => ⟨v, Nat.le_refl _, e, fun ⟨q, h, _⟩ => absurd h List.not_mem_nil⟩⟩
  | k + 1, j, v, ⟨i, p, w, a, b, c, e, f⟩ => by
    obtain ⟨S, s1, s2⟩ := zPR_dec c
    have keep : (∀ X', zMP g s (zEt g s m n X') r k i j p) → ∃ S : List (Nat × Nat), (∀ q, q ∈ S → X q.1 q.2 ∧ q.2 ≤ v) ∧ ∀ X' : Nat → Nat → Prop, (∀ q, q ∈ S → ∃ f, f ≤ q.2 ∧ X' q.1 f) → ∃ v', v' ≤ v ∧ zPR (zMP g s (zEt g s m n X') r) m (k + 1) j v' ∧ ((∃ q, q ∈ S ∧ ∃ f, f < q.2 ∧ X' q.1 f) → ∃ v'', v'' < v ∧ zPR (zMP g s (zEt g s m n X') r) m (k + 1) j v'') := by
      intro hp
      refine ⟨S, fun q hq => ⟨(s1 q hq).1, by have := (s1 q hq).2; omega⟩, fun X' hX => ?_⟩
      obtain ⟨v', t1, t2, t3⟩ := s2 X' hX
      refine ⟨v' + p, by omega, ⟨i, p, v', a, b, t2, hp X', rfl⟩, fun hq => ?_⟩
      obtain ⟨v'', u1, u2⟩ := t3 hq
      exact ⟨v'' + p, by omega, i, p, v'', a, b, u2, hp X', rfl⟩
    rcases e with e | ⟨e1, ⟨e2, e3, e4⟩ | e2⟩
    · exact keep fun _ => .inl e
    · refine ⟨(gS g r k - 26, p) :: S, fun q hq => ?_, fun X' hX => ?_⟩
      · rcases List.mem_cons.1 hq with rfl | hq
        · exact ⟨e4, by simp only; omega⟩
        · exact ⟨(s1 q hq).1, by have := (s1 q hq).2; omega⟩
      · obtain ⟨v', t1, t2, t3⟩ := s2 X' fun q hq => hX q (List.mem_cons_of_mem _ hq)
        obtain ⟨y, y1, y2⟩ := hX (gS g r k - 26, p) (List.mem_cons_self ..)
        simp only at y1 y2
        refine ⟨v' + y, by omega, ⟨i, y, v', a, b, t2, .inr ⟨e1, .inl ⟨e2, e3, y2⟩⟩, rfl⟩, fun ⟨q, hq, z, z1, z2⟩ => ?_⟩
        rcases List.mem_cons.1 hq with rfl | hq
        · simp only at z1 z2
          exact ⟨v' + z, by omega, i, z, v', a, b, t2, .inr ⟨e1, .inl ⟨e2, e3, z2⟩⟩, rfl⟩
        · obtain ⟨v'', u1, u2⟩ := t3 ⟨q, hq, z, z1, z2⟩
          exact ⟨v'' + y, by omega, i, y, v'', a, b, u2, .inr ⟨e1, .inl ⟨e2, e3, y2⟩⟩, rfl⟩
    · exact keep fun _ => .inr ⟨e1, .inr e2⟩
/-- 26 rounds bring the least -/
theorem zXh_26 {g : zG} {s : zSn} (hg : zwg g) (m n : Nat) : ∀ h c v, zXh g s m n h c v → ∃ v', v' ≤ v ∧ zXh g s m n 26 c v' := by
  refine zknuth (D := zXh g s m n) (n := 26) (m := 26) (fun _ => true) ?_ (by rw [zcnt_tr]; exact Nat.le_refl _) (fun _ _ e => e) (fun h i v e => zXh_mo e) ?_
  · intro h i v e
    cases h with
    | zero => exact False.elim e
    | succ h =>
      obtain ⟨r, a, b, -⟩ := e
      have := (g_l hg (zon_lt a)).2
      exact ⟨by omega, rfl⟩
  · rintro h i v ⟨r, a, b, c⟩
    rcases c with ⟨c1, c2⟩ | ⟨c1, c2⟩
    · exact ⟨[], fun q hq => absurd hq List.not_mem_nil, fun h' _ => ⟨v, Nat.le_refl _, ⟨r, a, b, .inl ⟨c1, c2⟩⟩, fun ⟨q, hq, _⟩ => absurd hq List.not_mem_nil⟩⟩
    · obtain ⟨S, s1, s2⟩ := zPR_dec c2
      refine ⟨S, s1, fun h' hX => ?_⟩
      obtain ⟨v', t1, t2, t3⟩ := s2 (zXh g s m n h') hX
      refine ⟨v', t1, ⟨r, a, b, .inr ⟨c1, t2⟩⟩, fun hq => ?_⟩
      obtain ⟨v'', u1, u2⟩ := t3 hq
      exact ⟨v'', u1, r, a, b, .inr ⟨c1, u2⟩⟩
/-! no least cost is large -/
theorem zPR_at {P : Nat → Nat → Nat → Nat → Prop} {m : Nat} : ∀ {K n v : Nat}, zPR P m K n v → ∀ k, k < K → ∃ i j p, P k i j p
  | 0, _, _, _, k, hk => absurd hk (by omega)
  | K + 1, n, _, ⟨i, p, w, _, _, c, e, _⟩, k, hk => by
    by_cases q : k = K
    · rw [q]
      exact ⟨i, n, p, e⟩
    · exact zPR_at c k (by omega)
theorem zMh_D {g : zG} {s : zSn} : ∀ {h c m n v : Nat}, zMh g s h c m n v → ∃ L, zDn g s h c L
  | 0, _, _, _, _, e => False.elim e
  | h + 1, c, m, n, v, ⟨r, a, b, e⟩ => by
    have hp : ∀ k, ∃ p, k < gZ g r → (gS g r k < 26 ∧ p = 1) ∨ (26 ≤ gS g r k ∧ zDn g s h (gS g r k - 26) p) := by
      intro k
      by_cases hk : k < gZ g r
      · rcases e with ⟨e1, -⟩ | ⟨-, e2⟩
        · omega
        · obtain ⟨i, j, p, q⟩ := zPR_at e2 k hk
          rcases q with ⟨q1, -⟩ | ⟨q1, q2⟩
          · exact ⟨1, fun _ => .inl ⟨q1, rfl⟩⟩
          · obtain ⟨L, hL⟩ := zMh_D q2
            exact ⟨L, fun _ => .inr ⟨q1, hL⟩⟩
      · exact ⟨0, fun q => absurd q hk⟩
    obtain ⟨p, hp⟩ := Classical.axiomOfChoice hp
    exact ⟨zsuM p (gZ g r), r, a, b, p, rfl, hp⟩
theorem zDn_b {g : zG} {s : zSn} (hg : zwg g) : ∀ {h c v : Nat}, zDn g s h c v → v ≤ 4 ^ h
  | 0, _, _, e => False.elim e
  | h + 1, c, v, ⟨r, a, _, p, e, f⟩ => by
    have hz := g_z hg (zon_lt a)
    have h4 : 0 < 4 ^ h := Nat.pow_pos (by omega)
    have := zsuM_mul (f := p) (B := 4 ^ h) (n := gZ g r) fun k hk => by
      rcases f k hk with ⟨-, q⟩ | ⟨-, q⟩
      · omega
      · exact zDn_b hg q
    have h2 : gZ g r * 4 ^ h ≤ 4 * 4 ^ h := Nat.mul_le_mul_right _ hz
    rw [e, Nat.pow_succ]
    omega
theorem zQs_ex (s : zSn) (a : Nat) {i j : Nat} (h : i ≤ j) : ∃ p, p ≤ 1 + (j - i) ∧ zQs s a i j p := by
  by_cases e : i = j
  · exact ⟨1, by omega, .inl ⟨e, rfl⟩⟩
  · by_cases q : ∃ x, i ≤ x ∧ x < j ∧ sX s x = a
    · exact ⟨j - i - 1, by omega, .inr (.inl ⟨by omega, q, rfl⟩)⟩
    · exact ⟨j - i, by omega, .inr (.inr ⟨by omega, fun x a b c => q ⟨x, a, b, c⟩, rfl⟩)⟩
theorem zDn_M {g : zG} {s : zSn} : ∀ {h c L : Nat}, zDn g s h c L → ∀ {m n : Nat}, m ≤ n → ∃ w, w ≤ L + (n - m) ∧ zMe g s c m n w
  | 0, _, _, e, _, _, _ => False.elim e
  | h + 1, c, L, ⟨r, a, b, p, e, f⟩, m, n, hm => by
    by_cases hz : gZ g r = 0
    · exact ⟨n - m, by omega, zMe_in a b (.inl ⟨hz, rfl⟩)⟩
    · have part : ∀ k, k < gZ g r → ∀ i j, i ≤ j → ∃ w, w ≤ p k + (j - i) ∧ zMP g s (zMe g s) r k i j w := by
        intro k hk i j hij
        rcases f k hk with ⟨q1, q2⟩ | ⟨q1, q2⟩
        · obtain ⟨w, w1, w2⟩ := zQs_ex s (gS g r k) hij
          exact ⟨w, by omega, .inl ⟨q1, w2⟩⟩
        · obtain ⟨w, w1, w2⟩ := zDn_M q2 hij
          exact ⟨w, w1, .inr ⟨q1, w2⟩⟩
      have pre : ∀ k, k < gZ g r → ∃ w, w ≤ zsuM p (k + 1) + (n - m) ∧ zPR (zMP g s (zMe g s) r) m (k + 1) n w := by
        intro k
        induction k with
        | zero =>
          intro hk
          obtain ⟨w, w1, w2⟩ := part 0 hk m n hm
          refine ⟨w, ?_, m, w, 0, Nat.le_refl _, hm, ⟨rfl, rfl⟩, w2, by omega⟩
          show w ≤ 0 + p 0 + (n - m)
          omega
        | succ k ih =>
          intro hk
          obtain ⟨v, v1, v2⟩ := ih (by omega)
          obtain ⟨w, w1, w2⟩ := part (k + 1) hk n n (Nat.le_refl _)
          refine ⟨v + w, ?_, n, w, v, hm, Nat.le_refl _, v2, w2, rfl⟩
          show v + w ≤ zsuM p (k + 1) + p (k + 1) + (n - m)
          omega
      obtain ⟨w, w1, w2⟩ := pre (gZ g r - 1) (by omega)
      rw [show gZ g r - 1 + 1 = gZ g r by omega] at w1 w2
      exact ⟨w, by omega, zMe_in a b (.inr ⟨by omega, w2⟩)⟩
theorem zMe_b {g : zG} {s : zSn} (hg : zwg g) {c m n v : Nat} (hm : m ≤ n) (hn : n ≤ 12) (h : zMe g s c m n v) : ∃ w, w ≤ 1036 ∧ zMe g s c m n w := by
  obtain ⟨h, e⟩ := h
  obtain ⟨L, hL⟩ := zMh_D e
  obtain ⟨L', h1, h2⟩ := zDn_5 hg _ _ _ hL
  have h3 := zDn_b hg h2
  rw [show (4 : Nat) ^ 5 = 1024 from rfl] at h3
  obtain ⟨w, w1, w2⟩ := zDn_M h2 hm
  exact ⟨w, by omega, w2⟩
theorem zmn_2 {K M : Nat} (hK : 1036 < K) (hM : 1036 < M) {S : Nat → Prop} {x y : Nat} (h : zmn K S x) (h' : zmn M S y) (hb : ∀ v, S v → ∃ w, w ≤ 1036 ∧ S w) : (x < K ∧ y < M ∧ x = y) ∨ (x = K ∧ y = M) := by
  by_cases e : ∃ v, S v
  · obtain ⟨v, hv⟩ := e
    obtain ⟨w, w1, w2⟩ := hb v hv
    have h1 := h.2.2 w w2
    have h2 := h'.2.2 w w2
    have h3 := h.2.2 y (h'.2.1 (by omega))
    have h4 := h'.2.2 x (h.2.1 (by omega))
    exact .inl ⟨by omega, by omega, by omega⟩
  · refine .inr ⟨?_, ?_⟩
    · have := h.1
      by_cases q : x < K
      · exact absurd ⟨x, h.2.1 q⟩ e
      · omega
    · have := h'.1
      by_cases q : y < M
      · exact absurd ⟨y, h'.2.1 q⟩ e
      · omega
/-! tables of costs -/
theorem zPR_lw {P P' : Nat → Nat → Nat → Nat → Prop} {m n K V : Nat} (h : ∀ k i j p, k < K → m ≤ i → i ≤ j → j ≤ n → p ≤ V → P k i j p → ∃ p', p' ≤ p ∧ P' k i j p') : ∀ {k j v : Nat}, k ≤ K → j ≤ n → v ≤ V → zPR P m k j v → ∃ v', v' ≤ v ∧ zPR P' m k j v'
  | 0, _, v, _, _, _, e => ⟨v, Nat.le_refl _, e⟩
  | _ + 1, _, _, hk, hj, hv, ⟨i, p, w, a, b, c, e, f⟩ => by
    obtain ⟨w', x1, x2⟩ := zPR_lw h (by omega) (by omega) (by omega) c
    obtain ⟨p', y1, y2⟩ := h _ _ _ _ (by omega) a b hj (by omega) e
    exact ⟨w' + p', by omega, i, p', w', a, b, x2, y2, rfl⟩
theorem zRc_lw {g : zG} {s : zSn} {T T' : Nat → Nat → Nat → Nat → Prop} {r m n v : Nat} (h : ∀ a i j p, m ≤ i → i ≤ j → j ≤ n → p ≤ v → T a i j p → ∃ p', p' ≤ p ∧ T' a i j p') (e : zRc g s T r m n v) : ∃ v', v' ≤ v ∧ zRc g s T' r m n v' := by
  rcases e with e | ⟨e1, e2⟩
  · exact ⟨v, Nat.le_refl _, .inl e⟩
  · obtain ⟨v', a, b⟩ := zPR_lw (P' := zMP g s T' r) (V := v) (fun k i j p _ a b c d e => by
      rcases e with e | ⟨e1, e2⟩
      · exact ⟨p, Nat.le_refl _, .inl e⟩
      · obtain ⟨p', x1, x2⟩ := h _ i j p a b c d e2
        exact ⟨p', x1, .inr ⟨e1, x2⟩⟩) (Nat.le_refl _) (Nat.le_refl _) (Nat.le_refl _) e2
    exact ⟨v', a, .inr ⟨e1, b⟩⟩
/-- a table T (values below C) is right for the shorter parts and sound for the part itself -/
def zCm (g : zG) (s : zSn) (C : Nat) (T : Nat → Nat → Nat → Nat → Prop) (m n : Nat) : Prop := (∀ a i j p, m ≤ i → i ≤ j → j ≤ n → T a i j p → zMe g s a i j p) ∧ ∀ a i j p, m ≤ i → i ≤ j → j ≤ n → ¬ (i = m ∧ j = n) → p < C → zMe g s a i j p → ∃ p', p' ≤ p ∧ T a i j p'
def zCr (g : zG) (s : zSn) (C : Nat) (T : Nat → Nat → Nat → Nat → Prop) (m n h : Nat) : Prop := ∀ a p, p < C → zXh g s m n h a p → ∃ p', p' ≤ p ∧ T a m n p'
theorem zCm_so {g : zG} {s : zSn} {C : Nat} {T : Nat → Nat → Nat → Nat → Prop} {m n : Nat} (h : zCm g s C T m n) {r x : Nat} (hx : zmn C (zRc g s T r m n) x) (hC : x < C) : zRc g s (zMe g s) r m n x := zRc_mo (fun a i j p b c d e => h.1 a i j p b c d e) (hx.2.1 hC)
theorem zCm_co {g : zG} {s : zSn} {C : Nat} {T : Nat → Nat → Nat → Nat → Prop} {m n h : Nat} (hm : zCm g s C T m n) (hr : zCr g s C T m n h) {r x v : Nat} (hx : zmn C (zRc g s T r m n) x) (e : zRc g s (zEt g s m n (zXh g s m n h)) r m n v) : x ≤ v := by
  by_cases q : v < C
  · obtain ⟨v', a, b⟩ := zRc_lw (T' := T) (fun a i j p b c d f e => by
      rcases e with ⟨e1, e2, e3⟩ | ⟨e1, e2⟩
      · rw [e1, e2]
        exact hr a p (by omega) e3
      · exact hm.2 a i j p b c d e1 (by omega) e2) e
    have := hx.2.2 v' b
    omega
  · have := hx.1
    omega
theorem zXh_all {g : zG} {s : zSn} (hg : zwg g) {m n c v : Nat} (h : zMe g s c m n v) : ∃ v', v' ≤ v ∧ zXh g s m n 26 c v' := by
  obtain ⟨h, e⟩ := h
  exact zXh_26 hg m n h c v (zXh_co e)
