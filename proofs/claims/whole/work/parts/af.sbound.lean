/-! the bound of the least sizes -/
/-- some part is not empty -/
theorem zSR_ne {P : Nat → Nat → Nat → Nat → Prop} {n : Nat} : ∀ {d k i w : Nat}, zSR P n d k i w → i < n → ∃ k' i' j' p, k' < k + d ∧ i' < j' ∧ p ≤ w ∧ P k' i' j' p
  | 0, _, _, _, h, hi => absurd h.1 (by omega)
  | d + 1, k, i, v, ⟨j, p, w, a, b, c, e, f⟩, hi => by
    by_cases ej : i < j
    · exact ⟨k, i, j, p, by omega, ej, by omega, c⟩
    · obtain ⟨k', i', j', p', a1, a2, a3, a4⟩ := zSR_ne e (by omega)
      exact ⟨k', i', j', p', by omega, a2, by omega, a4⟩
theorem zSR_all {P : Nat → Nat → Nat → Nat → Prop} {n : Nat} : ∀ {d k w : Nat}, zSR P n d k n w → ∀ k', k ≤ k' → k' < k + d → ∃ p, P k' n n p
  | 0, _, _, _, k', a, b => absurd b (by omega)
  | d + 1, k, v, ⟨j, p, w, a, b, c, e, f⟩, k', h1, h2 => by
    obtain rfl : j = n := by omega
    by_cases ek : k' = k
    · rw [ek]; exact ⟨p, c⟩
    · exact zSR_all e k' (by omega) (by omega)
/-- a tree of some letters has a rule that makes no empty part -/
theorem zSi_r0 {g : zG} {s : zSn} : ∀ {v r m n : Nat}, zSi g s r m n v → m < n → ∃ r0, r0 < gN g ∧ ∀ i u, ¬ zSi g s r0 i i u := by
  intro v
  induction v using Nat.strongRecOn with
  | ind v ih =>
    intro r m n h hmn
    obtain ⟨a, w, b, c⟩ := zSi_out h
    obtain ⟨k, i, j, p, e1, e2, e3, e4⟩ := zSR_ne b hmn
    rcases e4 with ⟨f1, -⟩ | ⟨f1, q, f2, f3⟩
    · refine ⟨r, zon_lt a, fun i u hu => ?_⟩
      obtain ⟨-, w', b', -⟩ := zSi_out hu
      obtain ⟨p', x⟩ := zSR_all b' k (Nat.zero_le _) e1
      rcases x with ⟨-, x, -⟩ | ⟨x, -⟩ <;> omega
    · exact ih p (by omega) f3 e2
theorem zSR_T {P : Nat → Nat → Nat → Nat → Prop} {n E K : Nat} : ∀ {d k i w : Nat}, (∀ k' i' p, k ≤ k' → k' < k + d → i ≤ i' → i' ≤ n → p ≤ w → P k' i' i' p → p ≤ E) → (∀ k' i' j' p, k ≤ k' → k' < k + d → i ≤ i' → i' < j' → j' ≤ n → p ≤ w → P k' i' j' p → p + K ≤ 2 * ((j' - i') * K)) → zSR P n d k i w → i < n → w + E + K ≤ 2 * ((n - i) * K) + d * E
  | 0, _, _, _, _, _, h, hi => absurd h.1 (by omega)
  | d + 1, k, i, v, hE, hI, ⟨j, p, w, a, b, c, e, f⟩, hi => by
    rw [Nat.succ_mul d]
    by_cases ej : j = i
    · rw [ej] at c e
      have h1 := hE k i p (Nat.le_refl _) (by omega) (Nat.le_refl _) (by omega) (by omega) c
      have h2 := zSR_T (E := E) (K := K) (fun k' i' p' a1 a2 a3 a4 a5 q => hE k' i' p' (by omega) (by omega) a3 a4 (by omega) q) (fun k' i' j' p' a1 a2 a3 a4 a5 a6 q => hI k' i' j' p' (by omega) (by omega) a3 a4 a5 (by omega) q) e hi
      omega
    · have h1 := hI k i j p (Nat.le_refl _) (by omega) (Nat.le_refl _) (by omega) b (by omega) c
      by_cases en : j = n
      · rw [en] at h1 e
        have h2 := zSR_e (B := E) (fun k' p' a1 a2 a3 q => hE k' n p' (by omega) (by omega) (by omega) (Nat.le_refl _) (by omega) q) e
        omega
      · have h2 := zSR_T (E := E) (K := K) (fun k' i' p' a1 a2 a3 a4 a5 q => hE k' i' p' (by omega) (by omega) (by omega) a4 (by omega) q) (fun k' i' j' p' a1 a2 a3 a4 a5 a6 q => hI k' i' j' p' (by omega) (by omega) (by omega) a4 a5 (by omega) q) e (by omega)
        have h3 : (n - i) * K = (j - i) * K + (n - j) * K := by rw [← Nat.add_mul]; congr 1; omega
        omega
theorem zSR_H {P : Nat → Nat → Nat → Nat → Prop} {m n E K X : Nat} (hmn : m < n) : ∀ {d k w : Nat}, (∀ k' i' p, k ≤ k' → k' < k + d → m ≤ i' → i' ≤ n → p ≤ w → P k' i' i' p → p ≤ E) → (∀ k' i' j' p, k ≤ k' → k' < k + d → m ≤ i' → i' < j' → j' ≤ n → ¬ (i' = m ∧ j' = n) → p ≤ w → P k' i' j' p → p + K ≤ 2 * ((j' - i') * K)) → (∀ k' p, k ≤ k' → k' < k + d → p ≤ w → P k' m n p → p ≤ X) → zSR P n d k m w → w + E ≤ X + d * E ∨ w + E + 2 * K ≤ 2 * ((n - m) * K) + d * E
  | 0, _, _, _, _, _, h => absurd h.1 (by omega)
  | d + 1, k, v, hE, hI, hX, ⟨j, p, w, a, b, c, e, f⟩ => by
    rw [Nat.succ_mul d]
    by_cases ej : j = m
    · rw [ej] at c e
      have h1 := hE k m p (Nat.le_refl _) (by omega) (Nat.le_refl _) (by omega) (by omega) c
      have h2 := zSR_H (E := E) (K := K) (X := X) hmn (fun k' i' p' a1 a2 a3 a4 a5 q => hE k' i' p' (by omega) (by omega) a3 a4 (by omega) q) (fun k' i' j' p' a1 a2 a3 a4 a5 a6 a7 q => hI k' i' j' p' (by omega) (by omega) a3 a4 a5 a6 (by omega) q) (fun k' p' a1 a2 a3 q => hX k' p' (by omega) (by omega) (by omega) q) e
      omega
    · by_cases en : j = n
      · rw [en] at c e
        have h1 := hX k p (Nat.le_refl _) (by omega) (by omega) c
        have h2 := zSR_e (B := E) (fun k' p' a1 a2 a3 q => hE k' n p' (by omega) (by omega) (by omega) (Nat.le_refl _) (by omega) q) e
        exact .inl (by omega)
      · have h1 := hI k m j p (Nat.le_refl _) (by omega) (Nat.le_refl _) (by omega) b (by omega) (by omega) c
        have h2 := zSR_T (E := E) (K := K) (fun k' i' p' a1 a2 a3 a4 a5 q => hE k' i' p' (by omega) (by omega) (by omega) a4 (by omega) q) (fun k' i' j' p' a1 a2 a3 a4 a5 a6 q => hI k' i' j' p' (by omega) (by omega) (by omega) a4 a5 (by omega) (by omega) q) e (by omega)
        have h3 : (n - m) * K = (j - m) * K + (n - j) * K := by rw [← Nat.add_mul]; congr 1; omega
        exact .inr (by omega)
/-- by the letters, and by how many rules have less -/
theorem zLt_n {g : zG} {s : zSn} (hg : zwg g) {r0 : Nat} (hr0 : r0 < gN g) (h0 : ∀ i u, ¬ zSi g s r0 i i u) : ∀ {l m n : Nat}, m < n → n - m = l → ∀ {t r v : Nat}, zLt g s r m n v → zRk g s m n v < t → v + 2 * 50331648 ≤ 2 * (l * 50331648) + t * 4194304 := by
  have hgn := g_n hg
  intro l
  induction l using Nat.strongRecOn with
  | ind l ih =>
    intro m n hmn hl t
    induction t with
    | zero => intro r v _ h; exact absurd h (by omega)
    | succ t iht =>
      intro r v h hr
      obtain ⟨a, w, rfl, b⟩ := zLt_out h
      have hz := g_z hg (zon_lt a)
      have hE : ∀ i u q, q < gN g → zLt g s q i i u → u ≤ 1398101 := fun i u q hq e => by
        have h1 := zRk_10 (by omega) (by omega) e (h0 i)
        have h2 := zLt_e hg e h1
        have : (4 : Nat) ^ 11 = 4194304 := by decide
        omega
      have key := zSR_H (E := 1398101) (K := 50331648) (X := 2 * (l * 50331648) + t * 4194304 - 2 * 50331648) hmn (fun k' i' p _ _ _ _ _ e => by
        rcases e with ⟨_, e, _⟩ | ⟨_, q, e1, e2⟩
        · omega
        · exact hE i' p q (zb_lt e1) e2) (fun k' i' j' p _ _ c1 c2 c3 c4 _ e => by
        rcases e with ⟨_, _, _, e⟩ | ⟨_, q, e1, e2⟩
        · omega
        · have hq := zb_lt e1
          have := ih (j' - i') (by omega) c2 rfl (t := 12) e2 (zRk_11 (by omega) e2)
          omega) (fun k' p _ _ hpw e => by
        rcases e with ⟨_, _, _, e⟩ | ⟨_, q, e1, e2⟩
        · omega
        · have hq := zb_lt e1
          have h1 := zRk_lt (by omega) e2 (show p < w + 1 by omega)
          have := iht e2 (by omega)
          omega) b
      rw [hl] at key
      have hd : gZ g r * 1398101 ≤ 4 * 1398101 := Nat.mul_le_mul_right _ hz
      omega
/-- no least size is above this -/
theorem zLt_b {g : zG} {s : zSn} (hg : zwg g) {r m n v : Nat} (hn : n ≤ 12) (h : zLt g s r m n v) : v ≤ 1157627904 := by
  have hgn := g_n hg
  have hr := zon_lt (zSi_on h.1)
  have hle := zSi_le h.1
  by_cases e : m = n
  · rw [e] at h
    have h1 := zLt_e hg h (zRk_11 (by omega) h)
    have : (4 : Nat) ^ 12 = 16777216 := by decide
    omega
  · obtain ⟨r0, a, b⟩ := zSi_r0 h.1 (by omega)
    have := zLt_n hg a b (show m < n by omega) rfl h (zRk_11 (by omega) h)
    omega
