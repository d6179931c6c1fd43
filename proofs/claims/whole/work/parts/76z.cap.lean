theorem zbl_cap {b : Bool} {g : zG} {s : zSn} (hg : zwg g) {r k q : Nat} (h : zbl b g s r k q = true) : 26 ≤ gS g r k := by
  unfold zbl at h
  rw [Bool.and_eq_true, Bool.and_eq_true, decide_eq_true_eq] at h
  have := g_l hg (zon_lt h.1)
  omega
theorem zbl_on {b : Bool} {g : zG} {s : zSn} {r k q : Nat} (h : zbl b g s r k q = true) : zon g s q = true := by
  unfold zbl at h
  rw [Bool.and_eq_true] at h
  exact h.1
