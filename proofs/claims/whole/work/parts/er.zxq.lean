/-! A QUERY is an act that changes nothing -/
theorem zX_q {g : zG} {s : zSn} {μ : zzM} {S : Nat → zSn} {m : Nat} {y y' : Nat} {as as' : List Value} (c : cP s S m μ) (p : mP S m μ) (h' : zPo g S m) (h : zQ g s y y' as as' μ) : zX g y y' as as' μ := by
  obtain ⟨o1, o2, a1, a2, a3, a4, a5, a6, a7⟩ := h
  refine ⟨o1, o2, a1, a2, a3, zf_trans (zf_mono a4 rfl) (zf_mono a5.1 rfl), ?_, ?_, ?_, ?_, s, S, m, h', a6, a7, cP_fr (cP_fr c a4 rfl) a5.1 rfl, mP_fr (mP_fr p a4 (by rw [zf_i a4 rfl]) rfl) a5.1 a5.2.2 rfl⟩
  · rw [zf_i a5.1 rfl, zf_i a4 rfl]
  · rw [zf_i a5.1 rfl, zf_i a4 rfl]
  · rw [a5.2.1, zf_i a4 rfl]
  · rw [zf_i a5.1 rfl, zf_i a4 rfl]
