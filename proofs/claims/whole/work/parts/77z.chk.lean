/-! what stands in a chart: how many columns, what fits, of each part its rules and ends -/
def chk (b : Bool) (RO EN : Nat) (g : zG) (s : zSn) (D : Nat → Nat → Prop) (μ : zzM) : Prop := ∀ i j, D i j → i ≤ j → j ≤ 12 → (∀ r, r < 32 → (bt (μ.1 RO (zsp i j)) r = true ↔ zM b g s r i j)) ∧ ∀ r k, r < gN g → k < gZ g r → (bt (μ.1 EN ((r * 4 + k) * 13 + i)) j = true ↔ zCB b g s (zM b g s) r k i j)
/-- so far as it stands -/
def cCh (b : Bool) (C FI RO EN : Nat) (g : zG) (s : zSn) (μ : zzM) : Prop := ∃ c, c ≤ sL s + 1 ∧ μ.1 C 2 = nI c ∧ μ.1 C 1 = zB b ∧ cEl EN μ ∧ (¬ c = 0 → cFi b FI g s μ) ∧ chk b RO EN g s (fun _ j => j < c) μ
/-- for the whole text -/
def cCf (b : Bool) (C FI RO EN : Nat) (g : zG) (s : zSn) (μ : zzM) : Prop := μ.1 C 2 = nI (sL s + 1) ∧ μ.1 C 1 = zB b ∧ cEl EN μ ∧ cFi b FI g s μ ∧ chk b RO EN g s (fun _ j => j ≤ sL s) μ
theorem cCf_h {b : Bool} {C FI RO EN : Nat} {g : zG} {s : zSn} {μ : zzM} (h : cCf b C FI RO EN g s μ) : cCh b C FI RO EN g s μ := ⟨sL s + 1, Nat.le_refl _, h.1, h.2.1, h.2.2.1, fun _ => h.2.2.2.1, fun i j a => h.2.2.2.2 i j (by simp only at a ⊢; omega)⟩
theorem s_zsp (d : Nat) {m n : Nat} (hm : m ≤ n) (hn : n ≤ 12) (μ : zzM) : zzf zzP zN (d + 1) 135 [.int (nI m), .int (nI n)] μ = some ((nI (zsp m n), 0, 0), μ) := s_span d (by omega) (by omega) μ
