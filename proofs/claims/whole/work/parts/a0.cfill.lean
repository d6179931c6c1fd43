/-! TREES of the class, column by column -/
/-- what the class holds of numbers of trees -/
def cNo (g : zG) (s : zSn) (c : Nat) (μ : zzM) : Prop := μ.1 45 2 = nI c ∧ ∃ vn, cTr g (zEn g s) vn (fun _ j => j < c) μ ∧ ∀ i j, i ≤ j → j < c → j ≤ 12 → zEq g s vn i j
theorem s_cfill {g : zG} {s : zSn} {μ : zzM} (h : zc2 g s μ) (hg : zwg g) (hs : zws g s) (hc : cCh true 36 37 38 39 g s μ) (d : Nat) {c : Nat} (hcn : cNo g s c μ) (hcl : c ≤ sL s + 1) : zw (zzf zzP zN (d + 8) 80 [.ref 45] μ) fun o => zfr [36, 37, 38, 39, 45, 46, 47] μ o.2 ∧ cCf true 36 37 38 39 g s o.2 ∧ cNo g s (sL s + 1) o.2 := by
  have hsl := hs.1
  rw [w_counts_fill]
  obtain ⟨o, e1, e2, e3, e4⟩ := s_fill_36 (d + 2) h hg hs hc
  rw [e1, Option.bind_some, zf_i e2 rfl, hcn.1]
  obtain ⟨-, vn, hT, hQ⟩ := hcn
  have hT' : cTr g (zEn g s) vn (fun _ j => j < c) o.2 := fun q i j a b f f' => by rw [zf_l e2 rfl]; exact hT q i j a b f f'
  refine zl_up (fun n (y : zzM) => ([nI n], [], y)) (fun n y => zfr [46, 47] o.2 y ∧ ∃ vn, cTr g (zEn g s) vn (fun _ j => j < n) y ∧ ∀ i j, i ≤ j → j < n → j ≤ 12 → zEq g s vn i j) c (sL s + 1) o.2 hcl (by omega) rfl ⟨zf_refl _ _, vn, hT', hQ⟩ ?_ ?_
  · rintro n y ga - hn ⟨i1, vn, i2, i3⟩ hgo
    have hfy := zf_trans (zf_mono (L' := [36, 37, 38, 39, 45, 46, 47]) e2 rfl) (zf_mono i1 rfl)
    have hy := zc2_fr h hfy rfl
    unfold L80_b
    simp only [zI0, zI1, zI2, zI3, zI4, zI5, zI6, zI7, zI8, zJ0, zJ1, zJ2, zMM]
    rw [c_len hy, if_neg (by rw [zq_lt (by omega) (by omega)]; omega)]
    refine zl_dn (fun m (y : zzM) => ([nI n, nJ m], [], y)) (fun m y => zfr [46, 47] o.2 y ∧ ∃ vn, cTr g (zEn g s) vn (fun i j => j < n ∨ (j = n ∧ m ≤ i)) y ∧ ∀ i j, i ≤ j → (j < n ∨ (j = n ∧ m ≤ i)) → j ≤ 12 → zEq g s vn i j) 0 (n + 1) y (by omega) (by omega) (by rw [nJ_s]) ⟨i1, vn, fun q i j a b f f' => i2 q i j a (by simp only at b ⊢; omega) f f', fun i j a b f => i3 i j a (by omega) f⟩ ?_ ?_
    · rintro m y gb - hm ⟨j1, vn, j2, j3⟩ hgo2
      have hfy := zf_trans (zf_mono (L' := [36, 37, 38, 39, 45, 46, 47]) e2 rfl) (zf_mono j1 rfl)
      have hy := zc2_fr h hfy rfl
      have hcy := cCf_fr e3 j1 rfl
      unfold L80_a
      simp only [zI0, zI1, zI2, zI3, zI4, zI5, zI6, zI7, zI8, zJ0, zJ1, zJ2, zMM]
      rw [nJ_s, if_neg (nI_pos (by omega))]
      obtain ⟨o1, f1, f2, f3, V, f4, f5⟩ := s_csettle hy hg hcy hsl (d + 1) (vn := vn) (show m ≤ n by omega) (show n ≤ sL s by omega) (fun q i j a b f f' => j2 q i j a (by simp only at b ⊢; omega) f f') (fun i j a b f e => j3 i j b (by omega) (by omega))
      rw [f1, Option.bind_some, nJ_e]
      have hsp := zsp_lt n (by omega) m (by omega) (by omega)
      refine hgo2 o1.2 ⟨zf_trans j1 f2, zAtV m n vn V, fun q i j a b f f' => ?_, fun i j a b f => ?_⟩
      · by_cases e : i = m ∧ j = n
        · obtain ⟨rfl, rfl⟩ := e
          rw [zAtV_s]
          exact f4 q a
        · rw [zAtV_o e, f3 _ fun q' hq' e' => ?_]
          · exact j2 q i j a (by simp only at b ⊢; omega) f f'
          · have h1 := zsp_lt j (by omega) i (by omega) f
            exact e (zsp_inj j (by omega) i (by omega) f n (by omega) m (by omega) (by omega) (zq91 h1 hsp e').2)
      · by_cases e : i = m ∧ j = n
        · obtain ⟨rfl, rfl⟩ := e
          exact f5
        · refine zEq_cg (vn := vn) (fun q i' j' hq a' b' c' => ?_) a (j3 i j a (by omega) f)
          rw [zAtV_o (by omega)]
    · rintro y gb ⟨j1, vn, j2, j3⟩
      unfold L80_a
      simp only [zI0, zI1, zI2, zI3, zI4, zI5, zI6, zI7, zI8, zJ0, zJ1, zJ2, zMM]
      rw [if_pos (by decide), zq_add]
      exact hgo y ⟨j1, vn, fun q i j a b f f' => j2 q i j a (by simp only at b ⊢; omega) f f', fun i j a b f => j3 i j a (by omega) f⟩
  · rintro y ga ⟨i1, vn, i2, i3⟩
    have hfy := zf_trans (zf_mono (L' := [36, 37, 38, 39, 45, 46, 47]) e2 rfl) (zf_mono i1 rfl)
    have hy := zc2_fr h hfy rfl
    unfold L80_b
    simp only [zI0, zI1, zI2, zI3, zI4, zI5, zI6, zI7, zI8, zJ0, zJ1, zJ2, zMM]
    rw [c_len hy, if_pos (by rw [zq_lt (by omega) (by omega)]; omega), zq_add]
    refine zw_some ⟨zf_twI _ _ hfy rfl, cCf_fr e3 (zf_twI (L := [45, 46, 47]) _ _ (zf_mono i1 rfl) rfl) rfl, zm_s _ _ _ _, vn, fun q i j a b f f' => i2 q i j a b f f', i3⟩
