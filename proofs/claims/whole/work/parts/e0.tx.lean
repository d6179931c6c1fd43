/-! WHAT STAYS when the text changes behind a place, or the filters -/
/-- rules struck, bans, filters alike; letters alike ahead of N -/
def zTx (N : Nat) (s s' : zSn) : Prop := sT s = sT s' ∧ sB s = sB s' ∧ sF s = sF s' ∧ ∀ k, k < N → sX s k = sX s' k
theorem zTx_s {N : Nat} {s s' : zSn} (h : zTx N s s') : zTx N s' s := ⟨h.1.symm, h.2.1.symm, h.2.2.1.symm, fun k hk => (h.2.2.2 k hk).symm⟩
theorem zTx_on {N : Nat} {s s' : zSn} (h : zTx N s s') (g : zG) (r : Nat) : zon g s r = zon g s' r := by unfold zon; rw [h.1]
theorem zTx_bl {N : Nat} {s s' : zSn} (h : zTx N s s') (b : Bool) (g : zG) (r k q : Nat) : zbl b g s r k q = zbl b g s' r k q := by unfold zbl zfb; rw [zTx_on h, h.2.1, h.2.2.1]
theorem zTx_M {N : Nat} {s s' : zSn} (h : zTx N s s') (b : Bool) (g : zG) {r m n : Nat} (hn : n ≤ N) : zM b g s r m n ↔ zM b g s' r m n := zM_tx h.1 h.2.1 h.2.2.1 h.2.2.2 hn
theorem zTx_CB {N : Nat} {s s' : zSn} (h : zTx N s s') (b : Bool) (g : zG) {r k i j : Nat} (hj : j ≤ N) (e : zCB b g s (zM b g s) r k i j) : zCB b g s' (zM b g s') r k i j := by
  rcases e with ⟨a, c, e⟩ | ⟨a, q, c, e⟩
  · exact .inl ⟨a, c, by rw [← h.2.2.2 i (by omega)]; exact e⟩
  · exact .inr ⟨a, q, by rw [← zTx_bl h]; exact c, (zTx_M h b g hj).1 e⟩
theorem zTr_cg {R R' : Nat → Nat → Prop} (h : ∀ a b, R a b → R' a b) {a b : Nat} (e : zTr R a b) : zTr R' a b := zlfp_le (P := fun b => zTr R' a b) (fun b q => q.elim (fun q => zTr_1 (h _ _ q)) fun ⟨m, q1, q2⟩ => zTr_s q1 (h _ _ q2)) e
theorem zTx_Sm {N : Nat} {s s' : zSn} (h : zTx N s s') (g : zG) {m n r q : Nat} (hn : n ≤ N) (e : zSm g s m n r q) : zSm g s' m n r q := by
  obtain ⟨e1, k, e2, e3, e4, e5⟩ := e
  have hm := zM_le e1
  refine ⟨(zTx_M h true g hn).1 e1, k, e2, by rw [← zTx_bl h]; exact e3, (zTx_M h true g hn).1 e4, fun i a c => zTx_CB h true g ?_ (e5 i a c)⟩
  split <;> omega
theorem zTx_Eh {N : Nat} {s s' : zSn} (h : zTx N s s') (g : zG) : ∀ {t r m n : Nat}, n ≤ N → zEh g s t r m n → zEh g s' t r m n
  | 0, _, _, _, _, e => e.elim
  | t + 1, r, m, n, hn, ⟨e1, e2⟩ => ⟨(zTx_M h true g hn).1 e1, e2.imp (zTr_cg fun a b => zTx_Sm h g hn) (zPx_mo fun k i j a b c e => ⟨zTx_CB h true g (by omega), fun ⟨q, q1, q2⟩ => ⟨q, by rw [← zTx_bl h]; exact q1, zTx_Eh h g (by omega) q2⟩⟩)⟩
theorem zTx_En {N : Nat} {s s' : zSn} (h : zTx N s s') (g : zG) {r m n : Nat} (hn : n ≤ N) : zEn g s r m n ↔ zEn g s' r m n := ⟨fun ⟨t, e⟩ => ⟨t, zTx_Eh h g hn e⟩, fun ⟨t, e⟩ => ⟨t, zTx_Eh (zTx_s h) g hn e⟩⟩
theorem zNs_eq {wt wt' : Nat → Nat → Nat → Nat} {m n : Nat} (h : ∀ k i j, i ≤ j → j ≤ n → wt k i j = wt' k i j) : ∀ {k j : Nat}, j ≤ n → zNs wt m k j = zNs wt' m k j
  | 0, _, _ => rfl
  | k + 1, j, hj => by
    show zsuM (fun i => if m ≤ i then zNs wt m k i * wt k i j else 0) (j + 1) = zsuM (fun i => if m ≤ i then zNs wt' m k i * wt' k i j else 0) (j + 1)
    refine zsuM_cg fun i hi => ?_
    rw [zNs_eq h (show i ≤ n by omega), h k i j (by omega) hj]
theorem zTx_wn {N : Nat} {s s' : zSn} (h : zTx N s s') (g : zG) (vn : Nat → Nat → Nat → Nat) {r k i j : Nat} (hj : j ≤ N) : zwn g s vn r k i j = zwn g s' vn r k i j := by
  unfold zwn
  have e1 : (if j = i + 1 ∧ sX s i = gS g r k then 1 else 0) = (if j = i + 1 ∧ sX s' i = gS g r k then 1 else 0) := by
    by_cases e : j = i + 1
    · rw [h.2.2.2 i (by omega)]
    · rw [if_neg (fun q => e q.1), if_neg (fun q => e q.1)]
  rw [e1]
  simp only [zTx_bl h]
theorem zTx_Eq {N : Nat} {s s' : zSn} (h : zTx N s s') (g : zG) {vn : Nat → Nat → Nat → Nat} {m n : Nat} (hn : n ≤ N) (e : zEq g s vn m n) : zEq g s' vn m n := by
  intro r hr
  obtain ⟨e1, e2⟩ := e r hr
  rw [zTx_M h true g hn, zTx_En h g hn] at e1 e2
  refine ⟨fun q => ?_, e2⟩
  rw [e1 q, zNs_eq (wt' := zwn g s' vn r) (fun k i j a b => zTx_wn h g vn (by omega)) (Nat.le_refl n)]
theorem zTx_Sz {N : Nat} {s s' : zSn} (h : zTx N s s') (g : zG) : ∀ {t r m n v : Nat}, n ≤ N → zSz g s t r m n v → zSz g s' t r m n v
  | 0, _, _, _, _, _, e => e.elim
  | t + 1, r, m, n, v, hn, ⟨e1, w, e2, e3⟩ => ⟨by rw [← zTx_on h]; exact e1, w, zSR_mo (fun k i j p _ _ _ a b _ e => by
      rcases e with ⟨q1, q2, q3, q4⟩ | ⟨q1, q, q2, q3⟩
      · exact .inl ⟨q1, q2, by rw [← h.2.2.2 i (by omega)]; exact q3, q4⟩
      · exact .inr ⟨q1, q, by rw [← zTx_bl h]; exact q2, zTx_Sz h g (by omega) q3⟩) e2, e3⟩
theorem zTx_Si {N : Nat} {s s' : zSn} (h : zTx N s s') (g : zG) {r m n v : Nat} (hn : n ≤ N) : zSi g s r m n v ↔ zSi g s' r m n v := ⟨fun ⟨t, e⟩ => ⟨t, zTx_Sz h g hn e⟩, fun ⟨t, e⟩ => ⟨t, zTx_Sz (zTx_s h) g hn e⟩⟩
/-- costs hang on the struck rules and the letters alone -/
theorem zMh_tx {N : Nat} {s s' : zSn} (hT : sT s = sT s') (hX : ∀ k, k < N → sX s k = sX s' k) (g : zG) : ∀ {t c m n v : Nat}, n ≤ N → zMh g s t c m n v → zMh g s' t c m n v
  | 0, _, _, _, _, _, e => e.elim
  | t + 1, c, m, n, v, hn, ⟨r, e1, e2, e3⟩ => ⟨r, by rw [show zon g s' r = zon g s r by unfold zon; rw [hT]]; exact e1, e2, e3.imp id fun q => ⟨q.1, zPR_mo (fun k i j p _ a b c e => by
      rcases e with ⟨q1, q2⟩ | ⟨q1, q2⟩
      · refine .inl ⟨q1, ?_⟩
        rcases q2 with q2 | ⟨q2, ⟨x, x1, x2, x3⟩, q3⟩ | ⟨q2, q3, q4⟩
        · exact .inl q2
        · exact .inr (.inl ⟨q2, ⟨x, x1, x2, by rw [← hX x (by omega)]; exact x3⟩, q3⟩)
        · exact .inr (.inr ⟨q2, fun x x1 x2 => by rw [← hX x (by omega)]; exact q3 x x1 x2, q4⟩)
      · exact .inr ⟨q1, zMh_tx hT hX g (by omega) q2⟩) (Nat.le_refl _) (Nat.le_refl _) q.2⟩⟩
theorem zMe_tx {N : Nat} {s s' : zSn} (hT : sT s = sT s') (hX : ∀ k, k < N → sX s k = sX s' k) (g : zG) {c m n v : Nat} (hn : n ≤ N) : zMe g s c m n v ↔ zMe g s' c m n v := ⟨fun ⟨t, e⟩ => ⟨t, zMh_tx hT hX g hn e⟩, fun ⟨t, e⟩ => ⟨t, zMh_tx hT.symm (fun k hk => (hX k hk).symm) g hn e⟩⟩
/-! the class's tables -/
theorem cCh_0 {b : Bool} {C FI RO EN : Nat} {g : zG} {s : zSn} {μ : zzM} (h0 : μ.1 C 2 = nI 0) (h1 : μ.1 C 1 = zB b) (h2 : cEl EN μ) : cCh b C FI RO EN g s μ := ⟨0, Nat.zero_le _, h0, h1, h2, fun q => absurd rfl q, fun i j q => absurd q (Nat.not_lt_zero _)⟩
theorem chk_tx {N : Nat} {s s' : zSn} (h : zTx N s s') {b : Bool} {RO EN : Nat} {g : zG} {D D' : Nat → Nat → Prop} {μ : zzM} (hD : ∀ i j, D' i j → D i j ∧ j ≤ N) (e : chk b RO EN g s D μ) : chk b RO EN g s' D' μ := fun i j a c d => by
  obtain ⟨a1, a2⟩ := hD i j a
  obtain ⟨e1, e2⟩ := e i j a1 c d
  exact ⟨fun r hr => (e1 r hr).trans (zTx_M h b g a2), fun r k hr hk => (e2 r k hr hk).trans ⟨zTx_CB h b g a2, zTx_CB (zTx_s h) b g a2⟩⟩
/-- a chart after the text was changed at a place -/
theorem cCh_tx {N c : Nat} {s s' : zSn} (h : zTx N s s') (hN : N ≤ sL s') {b : Bool} {C FI RO EN : Nat} {g : zG} {μ y : zzM} (e : cCh b C FI RO EN g s μ) (hc : μ.1 C 2 = nI c) (hs : c ≤ 13) (h2 : y.1 C 2 = nI (if c ≤ N + 1 then c else N + 1)) (h1 : y.1 C 1 = μ.1 C 1) (hF : y.1 FI = μ.1 FI) (hR : y.1 RO = μ.1 RO) (hE : y.1 EN = μ.1 EN) (hsl : sL s ≤ 12) : cCh b C FI RO EN g s' y := by
  obtain ⟨c', e1, e2, e3, e4, e5, e6⟩ := e
  have ec : c' = c := by
    rw [e2, zq_eq (by omega) (by omega)] at hc
    exact hc
  rw [ec] at e1 e2 e5 e6
  refine ⟨if c ≤ N + 1 then c else N + 1, by split <;> omega, h2, h1.trans e3, ?_, fun q => ?_, ?_⟩
  · unfold cEl
    rw [hE]
    exact e4
  · have := e5 (by revert q; split <;> omega)
    unfold cFi at this ⊢
    rw [hF]
    intro r k hr hk x hx
    rw [← zTx_bl h]
    exact this r k hr hk x hx
  · have := chk_tx (s' := s') h (D' := fun _ j => j < if c ≤ N + 1 then c else N + 1) (fun i j q => by
      revert q
      split
      · intro q
        exact ⟨q, by omega⟩
      · intro q
        exact ⟨by omega, by omega⟩) e6
    unfold chk at this ⊢
    rw [hR, hE]
    exact this
/-- the plain chart when filters or bans change -/
theorem cCh_pl {s s' : zSn} (hT : sT s = sT s') (hX : ∀ k, sX s k = sX s' k) (hL : sL s = sL s') {C FI RO EN : Nat} {g : zG} {μ y : zzM} (e : cCh false C FI RO EN g s μ) (hC : y.1 C = μ.1 C) (hF : y.1 FI = μ.1 FI) (hR : y.1 RO = μ.1 RO) (hE : y.1 EN = μ.1 EN) : cCh false C FI RO EN g s' y := by
  obtain ⟨c, e1, e2, e3, e4, e5, e6⟩ := e
  have hon : ∀ r, zon g s r = zon g s' r := fun r => by unfold zon; rw [hT]
  have hbl : ∀ r k q, zbl false g s r k q = zbl false g s' r k q := fun r k q => by unfold zbl; rw [hon, Bool.false_and, Bool.false_and]
  have hM : ∀ r m n, zM false g s r m n ↔ zM false g s' r m n := fun r m n => zM_pl (N := n) hT (fun k _ => hX k) (Nat.le_refl _)
  refine ⟨c, by rw [← hL]; exact e1, by rw [hC]; exact e2, by rw [hC]; exact e3, ?_, fun q => ?_, ?_⟩
  · unfold cEl
    rw [hE]
    exact e4
  · have := e5 q
    unfold cFi at this ⊢
    rw [hF]
    intro r k hr hk x hx
    rw [← hbl]
    exact this r k hr hk x hx
  · unfold chk at e6 ⊢
    rw [hR, hE]
    intro i j a c' d
    obtain ⟨q1, q2⟩ := e6 i j a c' d
    refine ⟨fun r hr => (q1 r hr).trans (hM r i j), fun r k hr hk => (q2 r k hr hk).trans ⟨fun q => ?_, fun q => ?_⟩⟩
    · rcases q with ⟨x1, x2, x3⟩ | ⟨x1, z, x2, x3⟩
      · exact .inl ⟨x1, x2, by rw [← hX i]; exact x3⟩
      · exact .inr ⟨x1, z, by rw [← hbl]; exact x2, (hM z i j).1 x3⟩
    · rcases q with ⟨x1, x2, x3⟩ | ⟨x1, z, x2, x3⟩
      · exact .inl ⟨x1, x2, by rw [hX i]; exact x3⟩
      · exact .inr ⟨x1, z, by rw [hbl]; exact x2, (hM z i j).2 x3⟩
theorem cNo_tx {N c c' : Nat} {s s' : zSn} (h : zTx N s s') {g : zG} {μ y : zzM} (e : cNo g s c μ) (hc : c' ≤ c) (hcN : c' ≤ N + 1) (h2 : y.1 45 2 = nI c') (hM : y.2 46 = μ.2 46) : cNo g s' c' y := by
  obtain ⟨-, vn, e1, e2⟩ := e
  refine ⟨h2, vn, fun q i j a b d f => ?_, fun i j a b d => zTx_Eq h g (by omega) (e2 i j a (by omega) d)⟩
  simp only at b
  rw [hM, e1 q i j a (by simp only; omega) d f]
  unfold zen
  rw [show zdc (zEn g s q i j) = zdc (zEn g s' q i j) by rw [show zEn g s q i j = zEn g s' q i j from propext (zTx_En h g (by omega))]]
theorem zSP_tx {N : Nat} {s s' : zSn} (h : zTx N s s') (g : zG) {T : Nat → Nat → Nat → Nat → Prop} {r k i j p : Nat} (hj : j ≤ N) : zSP g s T r k i j p ↔ zSP g s' T r k i j p := by
  unfold zSP
  simp only [zTx_bl h]
  by_cases e : j = i + 1
  · rw [h.2.2.2 i (by omega)]
  · exact or_congr ⟨fun q => absurd q.2.1 e, fun q => absurd q.2.1 e⟩ Iff.rfl
theorem cSi_tx {N c c' : Nat} {s s' : zSn} (h : zTx N s s') {g : zG} {μ y : zzM} (e : cSi g s c μ) (hc : c' ≤ c) (hcN : c' ≤ N + 1) (h2 : y.1 48 2 = nI c') (hM : y.2 49 = μ.2 49) (hM2 : y.2 50 = μ.2 50) : cSi g s' c' y := by
  obtain ⟨-, f, e1, e2⟩ := e
  refine ⟨h2, f, fun i j a b d => ?_, fun q i j a b => zmn_cg (fun p => zTx_Si h g (by omega)) (e2 q i j a (by omega))⟩
  simp only at d
  obtain ⟨q1, q2⟩ := e1 i j a b (by simp only; omega)
  refine ⟨fun q hq => by rw [hM]; exact q1 q hq, fun r k hr hk => ?_⟩
  obtain ⟨x, x1, x2⟩ := q2 r k hr hk
  exact ⟨x, by rw [hM2]; exact x1, zmn_cg (fun p => zSP_tx h g (by omega)) x2⟩
theorem cMd_tx {N c c' : Nat} {s s' : zSn} (hT : sT s = sT s') (hX : ∀ k, k < N → sX s k = sX s' k) {g : zG} {μ y : zzM} (e : cMd g s c μ) (hc : c' ≤ c) (hcN : c' ≤ N + 1) (h2 : y.1 56 1 = nI c') (hM : y.1 57 = μ.1 57) : cMd g s' c' y := by
  refine ⟨h2, fun a i j b1 b2 b3 => ?_⟩
  obtain ⟨x, x1, x2⟩ := e.2 a i j b1 b2 (by omega)
  exact ⟨x, by rw [hM]; exact x1, zmn_cg (fun p => zMe_tx hT hX g (by omega)) x2⟩
