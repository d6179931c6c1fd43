/-! WHAT HANGS ON WHAT: the class's tables after a change -/
theorem cNo_0 {g : zG} {s : zSn} {μ : zzM} (h : μ.1 45 2 = nI 0) : cNo g s 0 μ := ⟨h, (fun _ _ _ => 0), fun _ _ _ _ q => absurd q (Nat.not_lt_zero _), fun _ _ _ q => absurd q (Nat.not_lt_zero _)⟩
theorem cSi_0 {g : zG} {s : zSn} {μ : zzM} (h : μ.1 48 2 = nI 0) : cSi g s 0 μ := ⟨h, (fun _ _ _ => 0), fun _ _ _ _ q => absurd q (Nat.not_lt_zero _), fun _ _ _ _ q => absurd q (Nat.not_lt_zero _)⟩
theorem cMd_0 {g : zG} {s : zSn} {μ : zzM} (h : μ.1 56 1 = nI 0) : cMd g s 0 μ := ⟨h, fun _ _ _ _ _ q => absurd q (Nat.not_lt_zero _)⟩
/-- after rules changed nothing stands but perhaps the states -/
theorem s_rulesChanged {g g' : zG} {s s' : zSn} {μ0 μ : zzM} (c : cI g s μ0) (h1 : ∀ C, C ∈ [31, 34, 36, 39] → μ.1 C = μ0.1 C) (h : zc2 g' s' μ) (hS : μ.1 26 0 = 0 ∨ (μ.1 26 0 = nI 1 ∧ ∃ w, zLay g' s' = some w ∧ zcSt w μ)) (d : Nat) : zw (zzf zzP zN (d + 2) 123 [.ref 0] μ) fun o => zfr [21, 31, 36, 41, 45, 48, 52, 56] μ o.2 ∧ cI g' s' o.2 := by
  rw [u_pf_rulesChanged, if_pos (by decide), if_pos (by decide), u_pf_filtersChanged, if_pos (by decide), Option.bind_some]
  have hf : zfr [21, 31, 36, 41, 45, 48, 52, 56] μ (zzwI (zzwI (zzwI (zzwI (zzwI (zzwI (zzwI (zzwI μ 21 1 (nI 0)) 31 2 (nI 0)) 56 1 (nI 0)) 41 3 (nI 0)) 36 2 (nI 0)) 45 2 (nI 0)) 48 2 (nI 0)) 52 2 (nI 0)) := zf_twI _ _ (zf_twI _ _ (zf_twI _ _ (zf_twI _ _ (zf_twI _ _ (zf_twI _ _ (zf_twI _ _ (zf_wI _ _ rfl) rfl) rfl) rfl) rfl) rfl) rfl) rfl
  refine zw_some ⟨hf, zc2_fr h hf rfl, .inl ?_, ?_, cCh_0 ?_ ?_ ?_, cCh_0 ?_ ?_ ?_, .inl ?_, ⟨0, Nat.zero_le _, cNo_0 ?_⟩, ⟨0, Nat.zero_le _, cSi_0 ?_⟩, .inl ?_, ⟨0, Nat.zero_le _, cMd_0 ?_⟩⟩
  · rw [zm_c _ _ _ (by omega), zm_c _ _ _ (by omega), zm_c _ _ _ (by omega), zm_c _ _ _ (by omega), zm_c _ _ _ (by omega), zm_c _ _ _ (by omega), zm_c _ _ _ (by omega), zm_s]
    rfl
  · rw [zf_i hf rfl]
    exact hS.imp id fun ⟨q, w, q1, q2⟩ => ⟨q, w, q1, zcSt_fr q2 hf rfl⟩
  · rw [zm_c _ _ _ (by omega), zm_c _ _ _ (by omega), zm_c _ _ _ (by omega), zm_c _ _ _ (by omega), zm_c _ _ _ (by omega), zm_c _ _ _ (by omega), zm_s]
  · rw [zm_c _ _ _ (by omega), zm_c _ _ _ (by omega), zm_c _ _ _ (by omega), zm_c _ _ _ (by omega), zm_c _ _ _ (by omega), zm_c _ _ _ (by omega), zm_k _ _ _ _ (by omega), zm_c _ _ _ (by omega), h1 31 (by decide)]
    obtain ⟨_, _, _, q, _⟩ := c.P
    exact q
  · obtain ⟨_, _, _, _, q, _⟩ := c.P
    unfold cEl at q ⊢
    rw [zf_i hf rfl, h1 34 (by decide)]
    exact q
  · rw [zm_c _ _ _ (by omega), zm_c _ _ _ (by omega), zm_c _ _ _ (by omega), zm_s]
  · rw [zm_c _ _ _ (by omega), zm_c _ _ _ (by omega), zm_c _ _ _ (by omega), zm_k _ _ _ _ (by omega), zm_c _ _ _ (by omega), zm_c _ _ _ (by omega), zm_c _ _ _ (by omega), zm_c _ _ _ (by omega), h1 36 (by decide)]
    obtain ⟨_, _, _, q, _⟩ := c.A
    exact q
  · obtain ⟨_, _, _, _, q, _⟩ := c.A
    unfold cEl at q ⊢
    rw [zf_i hf rfl, h1 39 (by decide)]
    exact q
  · rw [zm_c _ _ _ (by omega), zm_c _ _ _ (by omega), zm_c _ _ _ (by omega), zm_c _ _ _ (by omega), zm_s]
    rfl
  · rw [zm_c _ _ _ (by omega), zm_c _ _ _ (by omega), zm_s]
  · rw [zm_c _ _ _ (by omega), zm_s]
  · rw [zm_s]
    rfl
  · rw [zm_c _ _ _ (by omega), zm_c _ _ _ (by omega), zm_c _ _ _ (by omega), zm_c _ _ _ (by omega), zm_c _ _ _ (by omega), zm_s]
/-- after the text changed at a place N -/
theorem s_textChanged {g : zG} {s s' : zSn} {μ0 μ : zzM} {N : Nat} (c : cI g s μ0) (h1 : zfr [2, 10, 12] μ0 μ) (h : zc2 g s' μ) (hx : zTx N s s') (hN : N ≤ sL s') (hsl : sL s ≤ 12) (hsl' : sL s' ≤ 12) (d : Nat) : zw (zzf zzP zN (d + 2) 125 [.ref 0, .int (nI N)] μ) fun o => zfr [31, 36, 41, 45, 48, 52, 56] μ o.2 ∧ cI g s' o.2 := by
  obtain ⟨cP, p1, p2, -⟩ := id c.P
  obtain ⟨cA, a1, a2, -⟩ := id c.A
  obtain ⟨cN, n1, n2⟩ := id c.N
  obtain ⟨cZ, z1, z2⟩ := id c.Z
  obtain ⟨cM, m1, m2⟩ := id c.M
  have mn : ∀ k, (if k ≤ N + 1 then k else N + 1) ≤ k ∧ (if k ≤ N + 1 then k else N + 1) ≤ N + 1 := fun k => by split <;> omega
  have e31 : μ.1 31 2 = nI cP := by rw [zf_i h1 rfl]; exact p2
  have e56 : μ.1 56 1 = nI cM := by rw [zf_i h1 rfl]; exact m2.1
  have e36 : μ.1 36 2 = nI cA := by rw [zf_i h1 rfl]; exact a2
  have e45 : μ.1 45 2 = nI cN := by rw [zf_i h1 rfl]; exact n2.1
  have e48 : μ.1 48 2 = nI cZ := by rw [zf_i h1 rfl]; exact z2.1
  rw [u_pf_textChanged, zq_add, e31, s_min _ (by omega) (by omega), Option.bind_some]
  dsimp only
  rw [e56, s_min _ (by omega) (by omega), Option.bind_some]
  dsimp only
  rw [zm_c _ _ _ (show (36 : Nat) ≠ 31 by omega), e36, s_min _ (by omega) (by omega), Option.bind_some]
  dsimp only
  rw [zm_c _ _ _ (show (45 : Nat) ≠ 56 by omega), zm_c _ _ _ (show (45 : Nat) ≠ 31 by omega), e45, s_min _ (by omega) (by omega), Option.bind_some]
  dsimp only
  rw [zm_c _ _ _ (show (48 : Nat) ≠ 36 by omega), zm_c _ _ _ (show (48 : Nat) ≠ 56 by omega), zm_c _ _ _ (show (48 : Nat) ≠ 31 by omega), e48, s_min _ (by omega) (by omega), Option.bind_some, if_pos (by decide), if_pos (by decide)]
  dsimp only
  obtain ⟨qP, rP⟩ := mn cP
  obtain ⟨qA, rA⟩ := mn cA
  obtain ⟨qN, rN⟩ := mn cN
  obtain ⟨qZ, rZ⟩ := mn cZ
  obtain ⟨qM, rM⟩ := mn cM
  have hf : zfr [31, 36, 41, 45, 48, 52, 56] μ (zzwI (zzwI (zzwI (zzwI (zzwI (zzwI (zzwI μ 31 2 (nI (if cP ≤ N + 1 then cP else N + 1))) 56 1 (nI (if cM ≤ N + 1 then cM else N + 1))) 36 2 (nI (if cA ≤ N + 1 then cA else N + 1))) 45 2 (nI (if cN ≤ N + 1 then cN else N + 1))) 48 2 (nI (if cZ ≤ N + 1 then cZ else N + 1))) 41 3 (nI 0)) 52 2 (nI 0)) := zf_twI _ _ (zf_twI _ _ (zf_twI _ _ (zf_twI _ _ (zf_twI _ _ (zf_twI _ _ (zf_wI _ _ rfl) rfl) rfl) rfl) rfl) rfl) rfl
  have hb : zfr [2, 10, 12, 31, 36, 41, 45, 48, 52, 56] μ0 (zzwI (zzwI (zzwI (zzwI (zzwI (zzwI (zzwI μ 31 2 (nI (if cP ≤ N + 1 then cP else N + 1))) 56 1 (nI (if cM ≤ N + 1 then cM else N + 1))) 36 2 (nI (if cA ≤ N + 1 then cA else N + 1))) 45 2 (nI (if cN ≤ N + 1 then cN else N + 1))) 48 2 (nI (if cZ ≤ N + 1 then cZ else N + 1))) 41 3 (nI 0)) 52 2 (nI 0)) := zf_trans (zf_mono h1 rfl) (zf_mono hf rfl)
  refine zw_some ⟨hf, zc2_fr h hf rfl, ?_, ?_, ?_, ?_, .inl ?_, ⟨_, by omega, cNo_tx hx n2 qN rN ?_ (zf_l hb rfl)⟩, ⟨_, by omega, cSi_tx hx z2 qZ rZ ?_ (zf_l hb rfl) (zf_l hb rfl)⟩, .inl ?_, ⟨_, by omega, cMd_tx hx.1 hx.2.2.2 m2 qM rM ?_ (zf_i hb rfl)⟩⟩
  · rw [zf_i hb rfl]
    exact c.F.imp id fun q => ⟨q.1, zcF_fr (zcF_t hx.1 q.2) hb rfl⟩
  · rw [zf_i hb rfl]
    exact c.S.imp id fun ⟨q, w, q1, q2⟩ => ⟨q, w, by rw [← zLay_t hx.1]; exact q1, zcSt_fr q2 hb rfl⟩
  · refine cCh_tx hx hN c.P p2 (by omega) ?_ ?_ (zf_i hb rfl) (zf_i hb rfl) (zf_i hb rfl) hsl
    · rw [zm_c _ _ _ (by omega), zm_c _ _ _ (by omega), zm_c _ _ _ (by omega), zm_c _ _ _ (by omega), zm_c _ _ _ (by omega), zm_c _ _ _ (by omega), zm_s]
    · rw [zm_c _ _ _ (by omega), zm_c _ _ _ (by omega), zm_c _ _ _ (by omega), zm_c _ _ _ (by omega), zm_c _ _ _ (by omega), zm_c _ _ _ (by omega), zm_k _ _ _ _ (by omega), zf_i h1 rfl]
  · refine cCh_tx hx hN c.A a2 (by omega) ?_ ?_ (zf_i hb rfl) (zf_i hb rfl) (zf_i hb rfl) hsl
    · rw [zm_c _ _ _ (by omega), zm_c _ _ _ (by omega), zm_c _ _ _ (by omega), zm_c _ _ _ (by omega), zm_s]
    · rw [zm_c _ _ _ (by omega), zm_c _ _ _ (by omega), zm_c _ _ _ (by omega), zm_c _ _ _ (by omega), zm_k _ _ _ _ (by omega), zm_c _ _ _ (by omega), zm_c _ _ _ (by omega), zf_i h1 rfl]
  · rw [zm_c _ _ _ (by omega), zm_s]
    rfl
  · rw [zm_c _ _ _ (by omega), zm_c _ _ _ (by omega), zm_c _ _ _ (by omega), zm_s]
  · rw [zm_c _ _ _ (by omega), zm_c _ _ _ (by omega), zm_s]
  · rw [zm_s]
    rfl
  · rw [zm_c _ _ _ (by omega), zm_c _ _ _ (by omega), zm_c _ _ _ (by omega), zm_c _ _ _ (by omega), zm_c _ _ _ (by omega), zm_s]
/-! when filters or bans change, levels stay -/
theorem zMo_pl {g : zG} {s s' : zSn} (hT : sT s = sT s') (hX : ∀ k, sX s k = sX s' k) : zMo g s = zMo g s' := by
  funext x m n
  unfold zMo zDv
  rw [hX m]
  simp only [show ∀ q, zM false g s q m n = zM false g s' q m n from fun q => propext (zM_pl (N := n) hT (fun k _ => hX k) (Nat.le_refl _))]
theorem zEd_pl {g : zG} {s s' : zSn} (hT : sT s = sT s') (hX : ∀ k, sX s k = sX s' k) (w : zWs) : zEd g s w = zEd g s' w := by
  funext m k x n t
  unfold zEd
  rw [zMo_pl hT hX]
theorem zAh_pl {g : zG} {s s' : zSn} (hT : sT s = sT s') (hX : ∀ k, sX s k = sX s' k) (w : zWs) : ∀ h n k, zAh g s w h n k = zAh g s' w h n k
  | 0, _, _ => rfl
  | h + 1, n, k => by
    unfold zAh
    rw [zAh_pl hT hX w h n k, zEd_pl hT hX w]
    simp only [zAh_pl hT hX w h]
theorem zAl_pl {g : zG} {s s' : zSn} (hT : sT s = sT s') (hX : ∀ k, sX s k = sX s' k) (w : zWs) : zAl g s w = zAl g s' w := by
  funext n k
  unfold zAl
  simp only [zAh_pl hT hX w]
theorem lvOk_pl {g : zG} {s : zSn} {μ : zzM} {s' : zSn} {w : zWs} (hT : sT s = sT s') (hX : ∀ k, sX s k = sX s' k) (hL : sL s = sL s') (h : lvOk g s w μ) : lvOk g s' w μ := by
  unfold lvOk zLk zec at h ⊢
  rw [← hL, ← zAl_pl hT hX w, ← zEd_pl hT hX w]
  exact h
theorem s_filtersChanged {g : zG} {s s' : zSn} {μ0 μ : zzM} (c : cI g s μ0) (h1 : zfr [2, 11, 12] μ0 μ) (h : zc2 g s' μ) (hT : sT s = sT s') (hX : ∀ k, sX s k = sX s' k) (hL : sL s = sL s') (d : Nat) : zw (zzf zzP zN (d + 1) 124 [.ref 0] μ) fun o => zfr [36, 45, 48, 52] μ o.2 ∧ cI g s' o.2 := by
  rw [u_pf_filtersChanged, if_pos (by decide)]
  have hf : zfr [36, 45, 48, 52] μ (zzwI (zzwI (zzwI (zzwI μ 36 2 (nI 0)) 45 2 (nI 0)) 48 2 (nI 0)) 52 2 (nI 0)) := zf_twI _ _ (zf_twI _ _ (zf_twI _ _ (zf_wI _ _ rfl) rfl) rfl) rfl
  have hb : zfr [2, 11, 12, 36, 45, 48, 52] μ0 (zzwI (zzwI (zzwI (zzwI μ 36 2 (nI 0)) 45 2 (nI 0)) 48 2 (nI 0)) 52 2 (nI 0)) := zf_trans (zf_mono h1 rfl) (zf_mono hf rfl)
  obtain ⟨cM, m1, m2⟩ := id c.M
  refine zw_some ⟨hf, zc2_fr h hf rfl, ?_, ?_, cCh_pl hT hX hL c.P (zf_i hb rfl) (zf_i hb rfl) (zf_i hb rfl) (zf_i hb rfl), cCh_0 ?_ ?_ ?_, ?_, ⟨0, Nat.zero_le _, cNo_0 ?_⟩, ⟨0, Nat.zero_le _, cSi_0 ?_⟩, .inl ?_, ⟨cM, by omega, cMd_tx (N := cM) hT (fun k _ => hX k) m2 (Nat.le_refl _) (by omega) (by rw [zf_i hb rfl]; exact m2.1) (zf_i hb rfl)⟩⟩
  · rw [zf_i hb rfl]
    exact c.F.imp id fun q => ⟨q.1, zcF_fr (zcF_t hT q.2) hb rfl⟩
  · rw [zf_i hb rfl]
    exact c.S.imp id fun ⟨q, w, q1, q2⟩ => ⟨q, w, by rw [← zLay_t hT]; exact q1, zcSt_fr q2 hb rfl⟩
  · rw [zm_c _ _ _ (by omega), zm_c _ _ _ (by omega), zm_c _ _ _ (by omega), zm_s]
  · rw [zm_c _ _ _ (by omega), zm_c _ _ _ (by omega), zm_c _ _ _ (by omega), zm_k _ _ _ _ (by omega), zf_i h1 rfl]
    obtain ⟨_, _, _, q, _⟩ := c.A
    exact q
  · obtain ⟨_, _, _, _, q, _⟩ := c.A
    unfold cEl at q ⊢
    rw [zf_i hb rfl]
    exact q
  · rw [zf_i hb rfl]
    exact c.L.imp id fun ⟨w, q1, q2⟩ => ⟨w, by rw [← zLay_t hT]; exact q1, lvOk_pl hT hX hL (lvOk_fr q2 hb rfl)⟩
  · rw [zm_c _ _ _ (by omega), zm_c _ _ _ (by omega), zm_s]
  · rw [zm_c _ _ _ (by omega), zm_s]
  · rw [zm_s]
    rfl
