/-! ACTS: ban -/
/-- a ban the other way round -/
def zBl (B : List Nat) (c : Nat) : List Nat := if c ∈ B then B.erase c else B ++ [c]
theorem zBl_c {B : List Nat} (h : B.Nodup) (c : Nat) : (zBl B c).Nodup ∧ (∀ x, x ≠ c → (x ∈ zBl B c ↔ x ∈ B)) ∧ ((c ∈ zBl B c ∧ ¬ c ∈ B ∧ (zBl B c).length = B.length + 1) ∨ (¬ c ∈ zBl B c ∧ c ∈ B ∧ (zBl B c).length + 1 = B.length)) := by
  unfold zBl
  by_cases e : c ∈ B
  · rw [if_pos e]
    have hl := List.length_erase_of_mem e
    have : 0 < B.length := List.length_pos_of_mem e
    exact ⟨h.erase c, fun x hx => List.mem_erase_of_ne hx, .inr ⟨h.not_mem_erase, e, by omega⟩⟩
  · rw [if_neg e]
    refine ⟨List.nodup_append.2 ⟨h, by simp, ?_⟩, fun x hx => ?_, .inl ⟨by simp, e, by simp⟩⟩
    · intro a ha b hb q
      rw [List.mem_singleton] at hb
      exact e (by rw [← hb, ← q]; exact ha)
    · rw [List.mem_append, List.mem_singleton]
      exact ⟨fun q => q.elim id fun q => absurd q hx, .inl⟩
theorem zBl_i {B : List Nat} (h : B.Nodup) {i : Nat} (hi : i < B.length) : zBl B B[i] = B.eraseIdx i := by
  unfold zBl
  rw [if_pos (List.getElem_mem hi)]
  exact List.erase_eq_eraseIdx_of_idxOf (h.idxOf_getElem i hi)
def zBn (s : zSn) (c : Nat) : zSn := (sL s, sX s, sT s, zBl (sB s) c, sF s)
theorem zBn_ok {g : zG} {s : zSn} {r k q : Nat} (K : zOk g s) (hr : r < gN g) (hk : k < gZ g r) (hq : q < gN g) (hl : 12 * (4 * r + k) + q ∈ sB s ∨ (sB s).length < 8) : zOk g (zBn s (12 * (4 * r + k) + q)) := by
  obtain ⟨h1, ⟨a1, a2, a3, a4, a5, a6, a7⟩, h3⟩ := K
  obtain ⟨c1, c2, c3⟩ := zBl_c a6 (12 * (4 * r + k) + q)
  refine ⟨h1, ⟨a1, a2, a3, a4, ?_, c1, fun x hx => ?_⟩, fun hn => ?_⟩
  · show (zBl (sB s) (12 * (4 * r + k) + q)).length ≤ 8
    rcases c3 with ⟨_, d2, d3⟩ | ⟨_, _, d3⟩
    · have : (sB s).length < 8 := hl.resolve_left d2
      omega
    · omega
  · by_cases e : x = 12 * (4 * r + k) + q
    · exact ⟨r, k, q, hr, hk, hq, e⟩
    · exact a7 x ((c2 x e).1 hx)
  · obtain ⟨w, hw⟩ := h3 hn
    exact ⟨w, (zLay_t (s := zBn s (12 * (4 * r + k) + q)) (s' := s) rfl).trans hw⟩
theorem i_actb : ∀ p, p < 48 → ∀ q, q < 12 → ((((nI p <<< (nI 4 &&& 31)) ||| nI q) <<< (nI 3 &&& 31)) ||| nI 4) = nI (8 * (16 * p + q) + 4) := by decide +kernel
theorem c_ban {g : zG} {s : zSn} {μ : zzM} {S : Nat → zSn} {m r k q : Nat} (K : zOk g s) (I : cI g s μ) (P : cP s S m μ) (hr : r < gN g) (hk : k < gZ g r) (hq : q < gN g) (hsy : gS g r k = gL g q) (hl : 12 * (4 * r + k) + q ∈ sB s ∨ (sB s).length < 8) (d : Nat) : cX g (zBn s (12 * (4 * r + k) + q)) (zNx S m (zBn s (12 * (4 * r + k) + q))) (zNm m) (d + 3) 152 [.ref 0, .int (nI r), .int (nI k), .int (nI q)] μ (nI (zBl (sB s) (12 * (4 * r + k) + q)).length) := by
  have hgn := g_n K.hg
  have hz4 := g_z K.hg hr
  obtain ⟨n1, n2, n3⟩ := zBl_c K.hs.2.2.2.2.2.1 (12 * (4 * r + k) + q)
  have hp : 4 * r + k < 48 := by omega
  have hq12 : q < 12 := by omega
  have fin : zw ((zzf zzP zN (d + 2) 24 [.ref 2, .int (nI 4), .int ((nI (4 * r + k) <<< (nI 4 &&& 31)) ||| nI q)] μ).bind fun o10 => (zzf zzP zN (d + 2) 28 [.ref 2, .int (nI (4 * r + k)), .int (nI q)] o10.2).bind fun o11 => (zzf zzP zN (d + 2) 124 [.ref 0] o11.2).bind fun o12 => some (((o12.2.1 2 5), 0, 0), o12.2)) fun o => zfr cAl μ o.2 ∧ o.2.1 2 9 = μ.1 2 9 ∧ o.2.1 2 10 = μ.1 2 10 ∧ cI g (zBn s (12 * (4 * r + k) + q)) o.2 ∧ cP (zBn s (12 * (4 * r + k) + q)) (zNx S m (zBn s (12 * (4 * r + k) + q))) (zNm m) o.2 ∧ o.1.1 = nI (zBl (sB s) (12 * (4 * r + k) + q)).length := by
    obtain ⟨o3, r1, r2, r3, r4⟩ := s_remember d P.1 P.2.2.1 (nI 4) ((nI (4 * r + k) <<< (nI 4 &&& 31)) ||| nI q)
    have hz : zc2 g s o3.2 := by
      refine zc2_to I.h (zf_mono r2 rfl) ((r3 2 (by omega)).trans (c_len I.h)) (fun k hk => ?_) ((r3 3 (by omega)).trans (c_st I.h)) ((r3 6 (by omega)).trans (c_f I.h)) ((r3 5 (by omega)).trans (c_bn I.h)) fun p hp q hq => ?_
      · rw [zf_i r2 rfl]
        exact c_x I.h hk
      · rw [zf_i r2 rfl]
        exact c_b I.h hp hq
    obtain ⟨o4, t1, t2, t3, t4, t5⟩ := s_toggle hz hp hq12 n2 n3 d
    rw [r1, Option.bind_some, t1, Option.bind_some]
    have hf : zfr [2, 11, 12] μ o4.2 := zf_trans (zf_mono r2 rfl) (zf_mono t2 rfl)
    have h2 : ∀ p, p ≠ 5 → p ≠ 8 → o4.2.1 2 p = μ.1 2 p := fun p p1 p2 => by rw [t3 p p1, r3 p p2]
    have hz' : zc2 g (zBn s (12 * (4 * r + k) + q)) o4.2 := by
      refine zc2_to I.h (zf_mono hf rfl) ((h2 2 (by omega) (by omega)).trans (show μ.1 2 2 = nI (sL s) from c_len I.h)) (fun k hk => ?_) ((h2 3 (by omega) (by omega)).trans (show μ.1 2 3 = sT s from c_st I.h)) ((h2 6 (by omega) (by omega)).trans (show μ.1 2 6 = sF s from c_f I.h)) t4 t5
      rw [zf_i hf rfl]
      exact c_x I.h hk
    obtain ⟨o5, u1, u2, u3⟩ := s_filtersChanged I hf hz' rfl (fun _ => rfl) rfl (d + 1)
    rw [u1, Option.bind_some]
    refine zw_some ⟨zf_trans (zf_mono hf rfl) (zf_mono u2 rfl), ?_, ?_, u3, cP_re P r4 (.inr (.inr (.inr (.inr (.inl ⟨4 * r + k, q, hp, hq12, i_actb _ hp _ hq12, rfl, fun _ => rfl, rfl, rfl, fun x hx => (n2 x hx).symm, ?_⟩))))) ?_ ?_, ?_⟩
    · rw [zf_i u2 rfl]
      exact h2 9 (by omega) (by omega)
    · rw [zf_i u2 rfl]
      exact h2 10 (by omega) (by omega)
    · exact n3.elim (fun z => .inr ⟨z.2.1, z.1, z.2.2.symm⟩) fun z => .inl ⟨z.2.1, z.1, z.2.2.symm⟩
    · rw [zf_i u2 rfl]
      exact t3 8 (by omega)
    · rw [zf_i u2 rfl, zf_i t2 rfl]
    · show o5.2.1 2 5 = _
      rw [zf_i u2 rfl]
      exact t4
  unfold cX
  rw [u_pf_ban, c_isRule I.h K.hg, Option.bind_some, zdT ⟨r, hr, rfl⟩, if_neg (show ¬ zB true = 0 by decide), c_isRule I.h K.hg, Option.bind_some, zdT ⟨q, hq, rfl⟩, if_neg (show ¬ zB true = 0 by decide), if_neg (by rw [zq_lt0 (by omega)]; exact id), zr_i _ _ (show r < 12 by omega) (by omega), Option.bind_some, c_z I.h hr, zif_cg (Iff.of_eq (zq_lt (by omega) (by omega))), if_pos hk, s_symAt I.h K.hg _ hr hk, Option.bind_some, zr_i _ _ hq12 (by omega), Option.bind_some, c_l I.h hq, if_pos (by rw [hsy])]
  dsimp only
  rw [zq_mul, zq_add, Nat.mul_comm r 4, s_isBan I.h _ hp hq12, Option.bind_some]
  dsimp only
  by_cases e : 12 * (4 * r + k) + q ∈ sB s
  · rw [decide_eq_true e, if_neg (show ¬ zB true = 0 by decide)]
    exact fin
  · rw [decide_eq_false e, if_pos (show zB false = 0 by decide), c_bn I.h, zif_cg (Iff.of_eq (zq_lt (by have := K.hs.2.2.2.2.1; omega) (by omega))), if_pos (hl.resolve_left e)]
    exact fin
theorem d_ban {g : zG} {s : zSn} {μ : zzM} {S : Nat → zSn} {m r k q : Nat} (K : zOk g s) (I : mI g s μ) (P : mP S m μ) (hm : m ≤ 20) (hS : S m = s) (hP : zPo g S m) (hr : r < gN g) (hk : k < gZ g r) (hq : q < gN g) (hsy : gS g r k = gL g q) (hl : 12 * (4 * r + k) + q ∈ sB s ∨ (sB s).length < 8) (d : Nat) : mX g (zBn s (12 * (4 * r + k) + q)) (zNx S m (zBn s (12 * (4 * r + k) + q))) (zNm m) (d + 5) 247 [.ref 105, .int (nI r), .int (nI k), .int (nI q)] μ (nI (zBl (sB s) (12 * (4 * r + k) + q)).length) := by
  have hgn := g_n K.hg
  have hz4 := g_z K.hg hr
  have hlw := g_l K.hg hq
  have hb8 := K.hs.2.2.2.2.1
  have hnd := K.hs.2.2.2.2.2.1
  obtain ⟨n1, n2, n3⟩ := zBl_c hnd (12 * (4 * r + k) + q)
  obtain ⟨ob, b1, b2, b3⟩ := m_banOf I.h hb8 (zws_ban K.hg K.hs) (d + 3) (c := 12 * (4 * r + k) + q) (by omega)
  obtain ⟨o, a1, a2, a3, a4, a5⟩ := m_keepsAct d hm P.1
  have hz : ∀ k, o.2.1 106 k = μ.1 106 k := fun k => by rw [zf_i a2 rfl]
  have h13 : ∀ k, o.2.1 113 k = μ.1 113 k := fun k => by rw [zf_i a2 rfl]
  have hfin : ∀ y : zzM, zfr [106, 113] o.2 y → (∀ p, p ≠ 4 → y.1 106 p = μ.1 106 p) → y.1 106 4 = nI (zBl (sB s) (12 * (4 * r + k) + q)).length → (∀ i (hi : i < (zBl (sB s) (12 * (4 * r + k) + q)).length), y.1 113 i = nI ((zBl (sB s) (12 * (4 * r + k) + q))[i])) → zfr mAl μ y ∧ y.1 105 16 = μ.1 105 16 ∧ y.1 106 6 = μ.1 106 6 ∧ mI g (zBn s (12 * (4 * r + k) + q)) y ∧ mP (zNx S m (zBn s (12 * (4 * r + k) + q))) (zNm m) y := by
    intro y y1 y2 y3 y4
    have hf : zfr [105, 106, 113, 132] μ y := zf_trans (zf_mono a2 rfl) (zf_mono y1 rfl)
    have h105 : ∀ p, y.1 105 p = o.2.1 105 p := fun p => by rw [zf_i y1 rfl]
    have h2 : zm2 g (zBn s (12 * (4 * r + k) + q)) y := by
      refine zm2_to I.h hf rfl (y2 0 (by omega)) (y2 1 (by omega)) ((y2 2 (by omega)).trans (show μ.1 106 2 = nI (sL s) from d_len I.h)) (fun k hk => ?_) ((y2 3 (by omega)).trans (show μ.1 106 3 = sT s from d_st I.h)) ((y2 5 (by omega)).trans (show μ.1 106 5 = sF s from d_f I.h)) y3 y4
      rw [zf_i hf rfl]
      exact d_x I.h hk
    refine ⟨zf_mono hf rfl, ?_, y2 6 (by omega), mI_to I h2 rfl hf rfl ?_ ?_, mP_ke P hm hS hP I.h a5 (h105 39) (zf_i y1 rfl)⟩
    · rw [h105, a3 16 (by omega) (by omega) (by omega) (by omega)]
    · rw [h105, a3 35 (by omega) (by omega) (by omega) (by omega)]
    · rw [h105, a4]
  unfold mX
  rw [u_m_ban, d_isRule I.h K.hg, Option.bind_some, zdT ⟨r, hr, rfl⟩, if_neg (show ¬ zB true = 0 by decide), zr_i _ _ (show r < 12 by omega) (by omega), Option.bind_some, d_z I.h hr, m_inN _ _ (by omega), Option.bind_some, zdT ⟨k, hk, rfl⟩, if_neg (show ¬ zB true = 0 by decide), d_isRule I.h K.hg, Option.bind_some, zdT ⟨q, hq, rfl⟩, if_neg (show ¬ zB true = 0 by decide), zq_mul, zq_add, zr_i _ _ (show 4 * r + k < 48 by omega) (by omega), Option.bind_some, d_s I.h hr hk, zr_i _ _ (show q < 12 by omega) (by omega), Option.bind_some, d_l I.h hq, if_pos (by rw [hsy]), zq_mul, zq_add, b1, Option.bind_some, b2]
  rcases b3 with ⟨e, e1⟩ | ⟨i, hi, e, e1⟩
  · have hlt := hl.resolve_left e
    rw [e1, if_pos rfl, zr_i _ _ (by omega) (by omega), Option.bind_some, d_bn I.h, zif_cg (Iff.of_eq (zq_eq (by omega) (by omega))), if_neg (by omega), a1, Option.bind_some, if_pos rfl, zr_i _ _ (by omega) (by omega), Option.bind_some, hz, d_bn I.h, zs_i _ _ _ hlt (by omega), Option.bind_some, zr_i _ _ (by omega) (by omega), Option.bind_some, zm_c _ _ _ (by omega), hz, d_bn I.h, zs_i _ _ _ (by omega) (by omega), Option.bind_some, zr_i _ _ (by omega) (by omega), Option.bind_some, zm_s, zq_add]
    have hB : zBl (sB s) (12 * (4 * r + k) + q) = sB s ++ [12 * (4 * r + k) + q] := if_neg e
    obtain ⟨f1, f2, f3, f4, f5⟩ := hfin (zzwI (zzwI o.2 113 (sB s).length (nI (12 * (4 * r + k) + q))) 106 4 (nI ((sB s).length + 1))) (zf_twI _ _ (zf_wI _ _ rfl) rfl) (fun p hp => by rw [zm_k _ _ _ _ hp, zm_c _ _ _ (by omega), hz]) (by rw [zm_s, hB, List.length_append]; rfl) (fun j hj => by
      have hj' : j < (sB s).length + 1 := by
        rw [hB, List.length_append] at hj
        exact hj
      rw [zm_c _ _ _ (by omega), zm_if]
      simp only [hB]
      rw [List.getElem_append]
      by_cases ej : j = (sB s).length
      · rw [if_pos ej, dif_neg (by omega)]
        simp [ej]
      · rw [if_neg ej, dif_pos (by omega), h13]
        exact d_b I.h (by omega))
    exact zw_some ⟨f1, f2, f3, f4, f5, by rw [hB, List.length_append]; rfl⟩
  · have hB : zBl (sB s) (12 * (4 * r + k) + q) = (sB s).eraseIdx i := by
      rw [← e]
      exact zBl_i hnd hi
    have hBl : ((sB s).eraseIdx i).length = (sB s).length - 1 := List.length_eraseIdx_of_lt hi
    rw [e1, if_neg (by rw [zq_em (by omega)]; exact id), a1, Option.bind_some, if_neg (by rw [zq_em (by omega)]; exact id), zr_i _ _ (by omega) (by omega), Option.bind_some, hz, d_bn I.h, zs_i _ _ _ (by omega) (by omega), Option.bind_some, zq_sub (by omega)]
    refine zl_up (fun j (y : zzM) => ([nI j], [], y)) (fun j y => zfr [113] (zzwI o.2 106 4 (nI ((sB s).length - 1))) y ∧ (∀ t, i ≤ t → t < j → y.1 113 t = μ.1 113 (t + 1)) ∧ ∀ t, (t < i ∨ j ≤ t) → y.1 113 t = μ.1 113 t) i ((sB s).length - 1) _ (by omega) (by omega) rfl ⟨zf_refl _ _, fun t h1 h2 => absurd h2 (by omega), fun t _ => by rw [zm_c _ _ _ (by omega), h13]⟩ ?_ ?_
    · rintro j y ga hj1 hj2 ⟨j1, j2, j3⟩ hgo
      simp only [zI0, zI1, zI2, zI3, zI4, zI5, zI6, zI7, zI8, zJ0, zJ1, zJ2, zMM]
      rw [zr_i _ _ (by omega) (by omega), Option.bind_some, zf_i j1 rfl, zm_s, if_neg (by rw [zq_le (by omega) (by omega)]; omega), zq_add, zr_i _ _ (show j + 1 < 8 by omega) (by omega), Option.bind_some, zs_i _ _ _ (show j < 8 by omega) (by omega), Option.bind_some, j3 _ (by omega)]
      refine hgo _ ⟨zf_twI _ _ j1 rfl, fun t h1 h2 => ?_, fun t h1 => ?_⟩
      · rw [zm_if]
        by_cases et : t = j
        · rw [if_pos et, et]
        · rw [if_neg et]
          exact j2 t h1 (by omega)
      · rw [zm_k _ _ _ _ (by omega)]
        exact j3 t (by omega)
    · rintro y ga ⟨j1, j2, j3⟩
      simp only [zI0, zI1, zI2, zI3, zI4, zI5, zI6, zI7, zI8, zJ0, zJ1, zJ2, zMM]
      have h4 : y.1 106 4 = nI ((sB s).length - 1) := by
        rw [zf_i j1 rfl, zm_s]
      rw [zr_i _ _ (by omega) (by omega), Option.bind_some, h4, if_pos (by rw [zq_le (by omega) (by omega)]; omega), Option.bind_some]
      obtain ⟨f1, f2, f3, f4, f5⟩ := hfin y (zf_trans (zf_wI _ _ rfl) (zf_mono j1 rfl)) (fun p hp => by rw [zf_i j1 rfl, zm_k _ _ _ _ hp, hz]) (by rw [h4, hB, hBl]) (fun t ht => by
        simp only [hB]
        have ht' : t < (sB s).length - 1 := by
          rw [hB, hBl] at ht
          exact ht
        rw [List.getElem_eraseIdx]
        by_cases et : t < i
        · rw [dif_pos et, j3 t (.inl et)]
          exact d_b I.h (by omega)
        · rw [dif_neg et, j2 t (by omega) ht']
          exact d_b I.h (by omega))
      exact zw_some ⟨f1, f2, f3, f4, f5, by rw [hB, hBl]⟩
theorem q_ban {g : zG} {s : zSn} {μ : zzM} {S : Nat → zSn} {m : Nat} (C : cI g s μ) (I : mI g s μ) (c : cP s S m μ) (p : mP S m μ) (h' : zPo g S m) (a b e : Int32) : zX g 152 247 [.ref 0, .int a, .int b, .int e] [.ref 105, .int a, .int b, .int e] μ := by
  have K : zOk g s := c.2.1 ▸ h' m (Nat.le_refl _)
  have hgn := g_n K.hg
  have hb8 := K.hs.2.2.2.2.1
  have c1 : zzf zzP zN 12 129 [.ref 0, .int a] μ = _ := c_isRule C.h K.hg 11 a
  have c2 : zzf zzP zN 12 129 [.ref 0, .int e] μ = _ := c_isRule C.h K.hg 11 e
  have m1 : zzf zzP zN 12 176 [.ref 105, .int a] μ = _ := d_isRule I.h K.hg 10 a
  have m2 : zzf zzP zN 12 176 [.ref 105, .int e] μ = _ := d_isRule I.h K.hg 10 e
  by_cases ha : ∃ r, r < gN g ∧ a = nI r
  · rw [zdT ha] at c1 m1
    obtain ⟨r, hr, rfl⟩ := ha
    have hz4 := g_z K.hg hr
    have m3 : zzf zzP zN 12 173 [.long (Int32.toInt64 b), .long (lN 0), .long (Int32.toInt64 (nI (gZ g r) - nI 1))] μ = _ := m_inN 11 b (by omega) μ
    by_cases he : ∃ q, q < gN g ∧ e = nI q
    · rw [zdT he] at c2 m2
      obtain ⟨q, hq, rfl⟩ := he
      have hlw := g_l K.hg hq
      by_cases hb : ∃ k, k < gZ g r ∧ b = nI k
      · rw [zdT hb] at m3
        obtain ⟨k, hk, rfl⟩ := hb
        have hsk := g_s K.hg hr hk
        have c3 : zzf zzP zN 12 6 [.ref 3, .int (nI r), .int (nI k)] μ = _ := s_symAt C.h K.hg 11 hr hk
        by_cases hsy : gS g r k = gL g q
        · by_cases hl : 12 * (4 * r + k) + q ∈ sB s ∨ (sB s).length < 8
          · exact zX_of _ I p (zPo_nx h' (zBn_ok K hr hk hq hl)) (c_ban K C c hr hk hq hsy hl 10) fun z z1 z2 => d_ban K z1 z2 c.1 c.2.1 h' hr hk hq hsy hl 8
          · have hl1 : ¬ 12 * (4 * r + k) + q ∈ sB s := fun z => hl (.inl z)
            have hl2 : ¬ (sB s).length < 8 := fun z => hl (.inr z)
            have c4 : zzf zzP zN 12 27 [.ref 2, .int (nI (4 * r + k)), .int (nI q)] μ = _ := s_isBan C.h 11 (show 4 * r + k < 48 by omega) (show q < 12 by omega)
            obtain ⟨ob, b1, b2, b3⟩ := m_banOf I.h hb8 (zws_ban K.hg K.hs) 11 (c := 12 * (4 * r + k) + q) (by omega)
            have b1 : zzf zzP zN 12 246 [.ref 105, .int (nI (12 * (4 * r + k) + q))] μ = some ob := b1
            refine zX_no (-(nI 1)) C I c p h' ?_ ?_
            · rw [show (13 : Nat) = 12 + 1 from rfl, u_pf_ban, c1, Option.bind_some, if_neg (show ¬ zB true = 0 by decide), c2, Option.bind_some, if_neg (show ¬ zB true = 0 by decide), if_neg (by rw [zq_lt0 (by omega)]; exact id), zr_i _ _ (show r < 12 by omega) (by omega), Option.bind_some, c_z C.h hr, zif_cg (Iff.of_eq (zq_lt (by omega) (by omega))), if_pos hk, c3, Option.bind_some, zr_i _ _ (show q < 12 by omega) (by omega), Option.bind_some, c_l C.h hq, if_pos (by rw [hsy])]
              dsimp only
              rw [zq_mul, zq_add, Nat.mul_comm r 4, c4, Option.bind_some, decide_eq_false hl1, if_pos (show zB false = 0 by decide)]
              dsimp only
              rw [c_bn C.h, zif_cg (Iff.of_eq (zq_lt (by omega) (by omega))), if_neg hl2]
            · rw [show (13 : Nat) = 12 + 1 from rfl, u_m_ban, m1, Option.bind_some, if_neg (show ¬ zB true = 0 by decide), zr_i _ _ (show r < 12 by omega) (by omega), Option.bind_some, d_z I.h hr, m3, Option.bind_some, if_neg (show ¬ zB true = 0 by decide), m2, Option.bind_some, if_neg (show ¬ zB true = 0 by decide), zq_mul, zq_add, zr_i _ _ (show 4 * r + k < 48 by omega) (by omega), Option.bind_some, d_s I.h hr hk, zr_i _ _ (show q < 12 by omega) (by omega), Option.bind_some, d_l I.h hq, if_pos (by rw [hsy]), zq_mul, zq_add, b1, Option.bind_some]
              rcases b3 with ⟨_, e1⟩ | ⟨i, hi, e0, _⟩
              · rw [e1, if_pos rfl, b2, zr_i _ _ (by omega) (by omega), Option.bind_some, d_bn I.h, zif_cg (Iff.of_eq (zq_eq (by omega) (by omega))), if_pos (by omega)]
              · exact absurd (by rw [← e0]; exact List.getElem_mem hi) hl1
        · refine zX_no (-(nI 1)) C I c p h' ?_ ?_
          · rw [show (13 : Nat) = 12 + 1 from rfl, u_pf_ban, c1, Option.bind_some, if_neg (show ¬ zB true = 0 by decide), c2, Option.bind_some, if_neg (show ¬ zB true = 0 by decide), if_neg (by rw [zq_lt0 (by omega)]; exact id), zr_i _ _ (show r < 12 by omega) (by omega), Option.bind_some, c_z C.h hr, zif_cg (Iff.of_eq (zq_lt (by omega) (by omega))), if_pos hk, c3, Option.bind_some, zr_i _ _ (show q < 12 by omega) (by omega), Option.bind_some, c_l C.h hq, zif_cg (Iff.of_eq (zq_eq (by omega) (by omega))), if_neg hsy]
          · rw [show (13 : Nat) = 12 + 1 from rfl, u_m_ban, m1, Option.bind_some, if_neg (show ¬ zB true = 0 by decide), zr_i _ _ (show r < 12 by omega) (by omega), Option.bind_some, d_z I.h hr, m3, Option.bind_some, if_neg (show ¬ zB true = 0 by decide), m2, Option.bind_some, if_neg (show ¬ zB true = 0 by decide), zq_mul, zq_add, zr_i _ _ (show 4 * r + k < 48 by omega) (by omega), Option.bind_some, d_s I.h hr hk, zr_i _ _ (show q < 12 by omega) (by omega), Option.bind_some, d_l I.h hq, zif_cg (Iff.of_eq (zq_eq (by omega) (by omega))), if_neg hsy]
      · rw [zdF hb] at m3
        refine zX_no (-(nI 1)) C I c p h' ?_ ?_
        · rw [show (13 : Nat) = 12 + 1 from rfl, u_pf_ban, c1, Option.bind_some, if_neg (show ¬ zB true = 0 by decide), c2, Option.bind_some, if_neg (show ¬ zB true = 0 by decide)]
          by_cases h0 : b < 0
          · rw [if_pos h0]
          · rw [if_neg h0, zr_i _ _ (show r < 12 by omega) (by omega), Option.bind_some, c_z C.h hr, if_neg fun q => hb ((i_in (by omega)).1 ⟨Decidable.byContradiction fun z => h0 (by rw [i_nle] at z; exact z), q⟩)]
        · rw [show (13 : Nat) = 12 + 1 from rfl, u_m_ban, m1, Option.bind_some, if_neg (show ¬ zB true = 0 by decide), zr_i _ _ (show r < 12 by omega) (by omega), Option.bind_some, d_z I.h hr, m3, Option.bind_some, if_pos (show zB false = 0 by decide)]
    · rw [zdF he] at c2 m2
      refine zX_no (-(nI 1)) C I c p h' ?_ ?_
      · rw [show (13 : Nat) = 12 + 1 from rfl, u_pf_ban, c1, Option.bind_some, if_neg (show ¬ zB true = 0 by decide), c2, Option.bind_some, if_pos (show zB false = 0 by decide)]
      · rw [show (13 : Nat) = 12 + 1 from rfl, u_m_ban, m1, Option.bind_some, if_neg (show ¬ zB true = 0 by decide), zr_i _ _ (show r < 12 by omega) (by omega), Option.bind_some, d_z I.h hr]
        by_cases hb : ∃ k, k < gZ g r ∧ b = nI k
        · rw [zdT hb] at m3
          rw [m3, Option.bind_some, if_neg (show ¬ zB true = 0 by decide), m2, Option.bind_some, if_pos (show zB false = 0 by decide)]
        · rw [zdF hb] at m3
          rw [m3, Option.bind_some, if_pos (show zB false = 0 by decide)]
  · rw [zdF ha] at c1 m1
    refine zX_no (-(nI 1)) C I c p h' ?_ ?_
    · rw [show (13 : Nat) = 12 + 1 from rfl, u_pf_ban, c1, Option.bind_some, if_pos (show zB false = 0 by decide)]
    · rw [show (13 : Nat) = 12 + 1 from rfl, u_m_ban, m1, Option.bind_some, if_pos (show zB false = 0 by decide)]
