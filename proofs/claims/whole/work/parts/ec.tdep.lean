/-! facts and states hang on the struck rules alone -/
set_option maxRecDepth 100000 in
theorem zLay_T (g : zG) (a a' : Nat) (b b' : Nat → Nat) (t : Int32) (c c' : List Nat) (e e' : Int32) : zLay g (a, b, t, c, e) = zLay g (a', b', t, c', e') := by with_unfolding_all rfl
theorem zLay_t {g : zG} {s s' : zSn} (h : sT s = sT s') : zLay g s = zLay g s' := by
  obtain ⟨a, b, t, c, f⟩ := s
  obtain ⟨a', b', t', c', f'⟩ := s'
  obtain rfl : t = t' := h
  exact zLay_T g a a' b b' t c c' f f'
theorem zDn_t1 {g : zG} {s s' : zSn} (h : sT s = sT s') : ∀ {n c v : Nat}, zDn g s n c v → zDn g s' n c v
  | 0, _, _, e => e
  | n + 1, c, v, ⟨r, a, b, p, e, f⟩ => ⟨r, by rw [show zon g s' r = zon g s r by unfold zon; rw [h]]; exact a, b, p, e, fun k hk => (f k hk).imp id fun q => ⟨q.1, zDn_t1 h q.2⟩⟩
theorem zDn_t {g : zG} {s s' : zSn} (h : sT s = sT s') : zDn g s = zDn g s' := by
  funext n c v
  exact propext ⟨zDn_t1 h, zDn_t1 h.symm⟩
theorem zon_t {g : zG} {s s' : zSn} (h : sT s = sT s') : zon g s = zon g s' := by
  funext r
  unfold zon
  rw [h]
theorem zE_t {g : zG} {s s' : zSn} (h : sT s = sT s') : zE g s = zE g s' := by
  funext c
  unfold zE
  rw [zDn_t h]
theorem zEc_t {g : zG} {s s' : zSn} (h : sT s = sT s') : zEc g s = zEc g s' := by
  funext c
  unfold zEc
  rw [zE_t h]
theorem zRe_t {g : zG} {s s' : zSn} (h : sT s = sT s') : zRe g s = zRe g s' := by
  unfold zRe
  rw [show zfR g s = zfR g s' by
    unfold zfR
    rw [zon_t h]]
theorem zFi_t {g : zG} {s s' : zSn} (h : sT s = sT s') : zFi g s = zFi g s' := by
  funext a
  unfold zFi
  rw [show zfF g s a = zfF g s' a by
    unfold zfF
    rw [zon_t h, zEc_t h]]
theorem zFo_t {g : zG} {s s' : zSn} (h : sT s = sT s') : zFo g s = zFo g s' := by
  funext a
  unfold zFo
  rw [show zfW g s a = zfW g s' a by
    unfold zfW
    simp only [zon_t h, zEc_t h, zFi_t h, zRe_t h]]
theorem zSt_t {g : zG} {s s' : zSn} (h : sT s = sT s') : zSt g s = zSt g s' := by
  funext al c c'
  unfold zSt
  rw [zon_t h, zEc_t h]
theorem zcF_t {g : zG} {s : zSn} {μ : zzM} {s' : zSn} (h : sT s = sT s') (e : zcF g s μ) : zcF g s' μ := by
  unfold zcF zmE zmF zmW zSh at e ⊢
  rw [← zE_t h, ← zDn_t h, ← zRe_t h, ← zSt_t h, ← zFi_t h, ← zFo_t h]
  exact e
