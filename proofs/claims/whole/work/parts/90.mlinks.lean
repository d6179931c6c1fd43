/-! links, expected and the number of those alive, of the reference -/
def zTg (T : Option Nat) (o : Option Nat) : Prop := match T with
  | none => o.isSome = true
  | some t => o = some t
noncomputable def zLn (g : zG) (s : zSn) (w : zWs) (T : Option Nat) (m k n : Nat) : Nat := zcnt (fun x => zdc (zTg T (w.2.2 k x) ∧ zMo g s x m n)) 52
noncomputable def zLs (g : zG) (s : zSn) (w : zWs) (T : Option Nat) (n : Nat) : Nat := zsuM (fun m => zsuM (fun k => if zdc (zAl g s w m k) then zLn g s w T m k n else 0) w.1) (n + 1)
theorem zLs_some (g : zG) (s : zSn) (w : zWs) (t n : Nat) : zLs g s w (some t) n = zLk g s w (zAl g s w) n t := zsuM_cg fun m hm => zsuM_cg fun k _ => by
  have : zLn g s w (some t) m k n = zec g s w m k n t := zcnt_cg fun x _ => zdc_cg ⟨fun q => ⟨by omega, q⟩, fun q => q.2⟩
  rw [this]
theorem zLs_none {g : zG} {s : zSn} {w : zWs} (hw : zwt w) (n : Nat) : zLs g s w none n = zsuM (fun t => zLk g s w (zAl g s w) n t) w.1 := by
  unfold zLk
  rw [zsuM_sw (fun m t => zsuM (fun k => if zdc (zAl g s w m k) then zec g s w m k n t else 0) w.1) (n + 1) w.1]
  refine zsuM_cg fun m hm => ?_
  rw [zsuM_sw (fun k t => if zdc (zAl g s w m k) then zec g s w m k n t else 0) w.1 w.1]
  refine zsuM_cg fun k _ => ?_
  cases zdc (zAl g s w m k) with
  | false => exact (zsuM_0 fun _ _ => rfl).symm
  | true =>
    show zLn g s w none m k n = zsuM (fun t => zec g s w m k n t) w.1
    have e : ∀ t, zec g s w m k n t = zcnt (fun x => zdc (w.2.2 k x = some t ∧ zMo g s x m n)) 52 := fun t => zcnt_cg fun x _ => zdc_cg ⟨fun q => q.2, fun q => ⟨by omega, q⟩⟩
    rw [zsuM_cg fun t _ => e t, zsuM_goal (f := fun x => w.2.2 k x) fun x t q => hw.2.2 _ _ _ q]
    rfl
theorem m_linksTo {g : zG} {s : zSn} {μ : zzM} (h : zm2 g s μ) (hg : zwg g) (hs : zws g s) (hk : mMk false g s μ) {w : zWs} (hw : zwt w) (hS : mSt w μ) (d : Nat) (T : Option Nat) (hT : ∀ t, T = some t → t < 2147483648) {m k n : Nat} (hm : m ≤ n) (hn : n ≤ sL s) (hkw : k < w.1) : zw (zzf zzP zN (d + 3) 271 [.ref 105, .int (nI m), .int (nI k), .int (nI n), .int (zgv T)] μ) fun o => o.2 = μ ∧ o.1.1 = nI (zLn g s w T m k n) := by
  have hsl := hs.1
  have hw9 := hw.2.1
  rw [w_m_linksTo]
  refine zl_up (fun x (c : Nat) => ([nI m, nI k, nI n, zgv T, nI c, nI x], [], μ)) (fun x c => c = zcnt (fun x => zdc (zTg T (w.2.2 k x) ∧ zMo g s x m n)) x) 0 52 0 (by omega) (by omega) rfl rfl ?_ ?_
  · rintro x c ga - hx rfl hgo
    unfold L271_a
    simp only [zI0, zI1, zI2, zI3, zI4, zI5, zI6, zI7, zI8, zJ0, zJ1, zJ2, zMM]
    simp only [zq_mul, zq_add]
    rw [if_neg (by rw [zq_le (by omega) (by omega)]; omega), zr_i _ _ (by omega) (by omega), Option.bind_some, hS.2 k x hkw hx]
    have no : ¬ (zTg T (w.2.2 k x) ∧ zMo g s x m n) → zw (ga ([nI m, nI k, nI n, zgv T, nI (zcnt (fun x => zdc (zTg T (w.2.2 k x) ∧ zMo g s x m n)) x + 0), nI (x + 1)], [], μ)) fun o => o.2 = μ ∧ o.1.1 = nI (zLn g s w T m k n) := fun q => hgo _ (by
      show _ = zcnt _ x + (if zdc (zTg T (w.2.2 k x) ∧ zMo g s x m n) then 1 else 0)
      rw [zdc_f.2 q]
      rfl)
    have yes : zTg T (w.2.2 k x) → zw (J271_a zN (d + 2) ga (nI m) (nI k) (nI n) (zgv T) (nI (zcnt (fun x => zdc (zTg T (w.2.2 k x) ∧ zMo g s x m n)) x)) (nI x) (nI (zcnt (fun x => zdc (zTg T (w.2.2 k x) ∧ zMo g s x m n)) x)) μ) fun o => o.2 = μ ∧ o.1.1 = nI (zLn g s w T m k n) := fun q => by
      unfold J271_a
      obtain ⟨o, e1, e2, b, e3, e4⟩ := m_isMadeOf h hg hs hk d hx hm hn
      rw [e1, Option.bind_some, e2, e3]
      simp only [zB_0, zq_add]
      cases b with
      | false =>
        rw [if_pos rfl]
        exact no fun q' => by have := e4.2 q'.2; cases this
      | true =>
        rw [if_neg (by decide)]
        refine hgo _ ?_
        show _ = zcnt _ x + (if zdc (zTg T (w.2.2 k x) ∧ zMo g s x m n) then 1 else 0)
        rw [zdc_t.2 ⟨q, e4.1 rfl⟩]
        rfl
    cases ht : w.2.2 k x with
    | none =>
      rw [if_pos (show zgv none = -(nI 1) from rfl)]
      refine no fun q => ?_
      have q1 := q.1
      rw [ht] at q1
      cases T <;> cases q1
    | some t1 =>
      have ht1 := hw.2.2 _ _ _ ht
      rw [if_neg (show ¬ zgv (some t1) = -(nI 1) by show ¬ nI t1 = _; rw [zq_em (by omega)]; exact id)]
      cases T with
      | none =>
        rw [if_pos (show zgv none = -(nI 1) from rfl)]
        exact yes (by rw [ht]; rfl)
      | some t =>
        have hT1 := hT t rfl
        rw [if_neg (show ¬ zgv (some t) = -(nI 1) by show ¬ nI t = _; rw [zq_em hT1]; exact id)]
        by_cases e : t1 = t
        · rw [if_pos (show zgv (some t1) = zgv (some t) by rw [e])]
          exact yes (by rw [ht, e]; rfl)
        · rw [if_neg (show ¬ zgv (some t1) = zgv (some t) by show ¬ nI t1 = nI t; rw [zq_eq (by omega) hT1]; exact e)]
          refine no fun q => ?_
          have q1 := q.1
          rw [ht] at q1
          have q1 : some t1 = some t := q1
          cases q1
          exact e rfl
  · rintro c ga rfl
    unfold L271_a
    simp only [zI0, zI1, zI2, zI3, zI4, zI5, zI6, zI7, zI8, zJ0, zJ1, zJ2, zMM]
    rw [if_pos (by rw [zq_le (by omega) (by omega)]; omega)]
    exact zw_some ⟨rfl, rfl⟩
theorem m_linksAll {g : zG} {s : zSn} {μ : zzM} (h : zm2 g s μ) (hg : zwg g) (hs : zws g s) (hk : mMk false g s μ) {w : zWs} (hw : zwt w) (hS : mSt w μ) (hA : alOk g s w μ) (d : Nat) (T : Option Nat) (hT : ∀ t, T = some t → t < 2147483648) {n : Nat} (hn : n ≤ sL s) : zw (zzl (L272_b zN (d + 3)) zN ([nI n, zgv T, nI 0, nI 0], [], μ)) fun o => o.2 = μ ∧ o.1.1 = nI (zLs g s w T n) := by
  have hsl := hs.1
  have hw9 := hw.2.1
  refine zl_up (fun m (c : Nat) => ([nI n, zgv T, nI c, nI m], [], μ)) (fun m c => c = zsuM (fun m => zsuM (fun k => if zdc (zAl g s w m k) then zLn g s w T m k n else 0) w.1) m) 0 (n + 1) 0 (by omega) (by omega) rfl rfl ?_ ?_
  · rintro m c ga - hm rfl hgo
    unfold L272_b
    simp only [zI0, zI1, zI2, zI3, zI4, zI5, zI6, zI7, zI8, zJ0, zJ1, zJ2, zMM]
    rw [if_neg (by rw [zq_lt (by omega) (by omega)]; omega)]
    refine zl_up (fun k (c : Nat) => ([nI n, zgv T, nI c, nI m, nI k], [], μ)) (fun k c => c = zsuM (fun m => zsuM (fun k => if zdc (zAl g s w m k) then zLn g s w T m k n else 0) w.1) m + zsuM (fun k => if zdc (zAl g s w m k) then zLn g s w T m k n else 0) k) 0 w.1 _ (by omega) (by omega) rfl rfl ?_ ?_
    · rintro k c gb - hkw rfl hgo2
      unfold L272_a
      simp only [zI0, zI1, zI2, zI3, zI4, zI5, zI6, zI7, zI8, zJ0, zJ1, zJ2, zMM]
      simp only [zq_mul, zq_add]
      rw [hS.1, if_neg (by rw [zq_le (by omega) (by omega)]; omega), zr_i _ _ (by omega) (by omega), Option.bind_some]
      have hAk := hA m k (by omega) hkw
      by_cases e : μ.1 137 (90 * m + k) = 0
      · rw [if_pos e]
        refine hgo2 _ ?_
        show _ = _ + (zsuM _ k + (if zdc (zAl g s w m k) then zLn g s w T m k n else 0))
        rw [zdc_f.2 fun q => hAk.2 q e]
        simp
      · rw [if_neg e]
        obtain ⟨o, e1, e2, e3⟩ := m_linksTo h hg hs hk hw hS d T hT (show m ≤ n by omega) hn hkw
        rw [e1, Option.bind_some, e2, e3, zq_add]
        refine hgo2 _ ?_
        show _ = _ + (zsuM _ k + (if zdc (zAl g s w m k) then zLn g s w T m k n else 0))
        rw [zdc_t.2 (hAk.1 e), if_pos rfl]
        omega
    · rintro c gb rfl
      unfold L272_a
      simp only [zI0, zI1, zI2, zI3, zI4, zI5, zI6, zI7, zI8, zJ0, zJ1, zJ2, zMM]
      rw [hS.1, if_pos (by rw [zq_le (by omega) (by omega)]; omega), zq_add]
      exact hgo _ rfl
  · rintro c ga rfl
    unfold L272_b
    simp only [zI0, zI1, zI2, zI3, zI4, zI5, zI6, zI7, zI8, zJ0, zJ1, zJ2, zMM]
    rw [if_pos (by rw [zq_lt (by omega) (by omega)]; omega)]
    exact zw_some ⟨rfl, rfl⟩
theorem m_manyAlive {g : zG} {s : zSn} {μ : zzM} {w : zWs} (hw : zwt w) (hS : mSt w μ) (hA : alOk g s w μ) (hsl : sL s ≤ 12) (d : Nat) {n : Nat} (hn : n ≤ sL s) : zw (zzl (L270_a zN d) zN ([nI n, nI 0, nI 0], [], μ)) fun o => o.2 = μ ∧ o.1.1 = nI (zcnt (fun k => zdc (zAl g s w n k)) w.1) := by
  have hw9 := hw.2.1
  refine zl_up (fun k (c : Nat) => ([nI n, nI c, nI k], [], μ)) (fun k c => c = zcnt (fun k => zdc (zAl g s w n k)) k) 0 w.1 0 (by omega) (by omega) rfl rfl ?_ ?_
  · rintro k c ga - hkw rfl hgo
    unfold L270_a
    simp only [zI0, zI1, zI2, zI3, zI4, zI5, zI6, zI7, zI8, zJ0, zJ1, zJ2, zMM]
    simp only [zq_mul, zq_add]
    rw [hS.1, if_neg (by rw [zq_le (by omega) (by omega)]; omega), zr_i _ _ (by omega) (by omega), Option.bind_some]
    have hAk := hA n k hn hkw
    by_cases e : μ.1 137 (90 * n + k) = 0
    · rw [if_pos e]
      refine hgo _ ?_
      show _ = zcnt _ k + (if zdc (zAl g s w n k) then 1 else 0)
      rw [zdc_f.2 fun q => hAk.2 q e]
      rfl
    · rw [if_neg e]
      refine hgo _ ?_
      show _ = zcnt _ k + (if zdc (zAl g s w n k) then 1 else 0)
      rw [zdc_t.2 (hAk.1 e)]
      rfl
  · rintro c ga rfl
    unfold L270_a
    simp only [zI0, zI1, zI2, zI3, zI4, zI5, zI6, zI7, zI8, zJ0, zJ1, zJ2, zMM]
    rw [hS.1, if_pos (by rw [zq_le (by omega) (by omega)]; omega)]
    exact zw_some ⟨rfl, rfl⟩
theorem m_expected {g : zG} {s : zSn} {μ : zzM} {w : zWs} (hw : zwt w) (hS : mSt w μ) (hA : alOk g s w μ) (hsl : sL s ≤ 12) (d : Nat) {n : Nat} (hn : n ≤ sL s) : zw (zzl (L273_b zN d) zN ([nI n, nI 0, nI 0], [], μ)) fun o => o.2 = μ ∧ ∀ a, a < 32 → (bt o.1.1 a = true ↔ zEx g s w n a) := by
  have hw9 := hw.2.1
  refine zl_up (fun k (c : Int32) => ([nI n, c, nI k], [], μ)) (fun k c => ∀ a, a < 32 → (bt c a = true ↔ a < 26 ∧ ∃ k', k' < k ∧ zAl g s w n k' ∧ (w.2.2 k' a).isSome = true)) 0 w.1 (nI 0) (by omega) (by omega) rfl (fun a ha => by rw [b_z]; exact ⟨fun q => (by cases q), fun ⟨_, k', q, _⟩ => absurd q (by omega)⟩) ?_ ?_
  · rintro k c ga - hkw hI hgo
    unfold L273_b
    simp only [zI0, zI1, zI2, zI3, zI4, zI5, zI6, zI7, zI8, zJ0, zJ1, zJ2, zMM]
    rw [hS.1, if_neg (by rw [zq_le (by omega) (by omega)]; omega)]
    refine zl_up (fun x (c : Int32) => ([nI n, c, nI k, nI x], [], μ)) (fun x c => ∀ a, a < 32 → (bt c a = true ↔ a < 26 ∧ ∃ k', (k' < k ∨ (k' = k ∧ a < x)) ∧ zAl g s w n k' ∧ (w.2.2 k' a).isSome = true)) 0 26 c (by omega) (by omega) rfl (fun a ha => by rw [hI a ha]; exact ⟨fun ⟨e, k', q, f⟩ => ⟨e, k', .inl q, f⟩, fun ⟨e, k', q, f⟩ => ⟨e, k', by omega, f⟩⟩) ?_ ?_
    · rintro x c gb - hx hI hgo2
      unfold L273_a
      simp only [zI0, zI1, zI2, zI3, zI4, zI5, zI6, zI7, zI8, zJ0, zJ1, zJ2, zMM]
      simp only [zq_mul, zq_add, b_or0]
      rw [if_neg (by rw [zq_le (by omega) (by omega)]; omega), zr_i _ _ (by omega) (by omega), Option.bind_some]
      have hAk := hA n k hn hkw
      have no : ¬ (zAl g s w n k ∧ (w.2.2 k x).isSome = true) → ∀ a, a < 32 → (bt c a = true ↔ a < 26 ∧ ∃ k', (k' < k ∨ (k' = k ∧ a < x + 1)) ∧ zAl g s w n k' ∧ (w.2.2 k' a).isSome = true) := fun q a ha => by
        rw [hI a ha]
        refine ⟨fun ⟨e, k', f, f'⟩ => ⟨e, k', by omega, f'⟩, fun ⟨e, k', f, f'⟩ => ⟨e, k', ?_, f'⟩⟩
        by_cases ek : k' = k ∧ a = x
        · obtain ⟨rfl, rfl⟩ := ek
          exact absurd f' q
        · omega
      by_cases e : μ.1 137 (90 * n + k) = 0
      · rw [if_pos e]
        exact hgo2 c (no fun q => hAk.2 q.1 e)
      · rw [if_neg e, zr_i _ _ (by omega) (by omega), Option.bind_some, hS.2 k x hkw (by omega)]
        cases ht : w.2.2 k x with
        | none =>
          rw [if_pos (show zgv none = -(nI 1) from rfl)]
          exact hgo2 c (no fun q => by rw [ht] at q; cases q.2)
        | some t1 =>
          have ht1 := hw.2.2 _ _ _ ht
          rw [if_neg (show ¬ zgv (some t1) = -(nI 1) by show ¬ nI t1 = _; rw [zq_em (by omega)]; exact id)]
          refine hgo2 _ fun a ha => ?_
          rw [b_or, b_sh1 (by omega) ha, Bool.or_eq_true, decide_eq_true_eq, hI a ha]
          constructor
          · rintro (⟨e, k', f, f'⟩ | rfl)
            · exact ⟨e, k', by omega, f'⟩
            · exact ⟨hx, k, .inr ⟨rfl, by omega⟩, hAk.1 e, by rw [ht]; rfl⟩
          · rintro ⟨e, k', f, f'⟩
            by_cases ea : a = x
            · exact .inr ea
            · exact .inl ⟨e, k', by omega, f'⟩
    · rintro c gb hI
      unfold L273_a
      simp only [zI0, zI1, zI2, zI3, zI4, zI5, zI6, zI7, zI8, zJ0, zJ1, zJ2, zMM]
      rw [if_pos (by rw [zq_le (by omega) (by omega)]; omega), zq_add]
      refine hgo c fun a ha => ?_
      rw [hI a ha]
      exact ⟨fun ⟨e, k', f, f'⟩ => ⟨e, k', by omega, f'⟩, fun ⟨e, k', f, f'⟩ => ⟨e, k', by omega, f'⟩⟩
  · rintro c ga hI
    unfold L273_b
    simp only [zI0, zI1, zI2, zI3, zI4, zI5, zI6, zI7, zI8, zJ0, zJ1, zJ2, zMM]
    rw [hS.1, if_pos (by rw [zq_le (by omega) (by omega)]; omega)]
    exact zw_some ⟨rfl, hI⟩
