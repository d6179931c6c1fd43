/-! THE TAPE: feed and end of both sides -/
theorem zm_id {μ : zzM} {c k : Nat} {v : Int32} (h : μ.1 c k = v) : zzwI μ c k v = μ := by
  refine zb_ext (fun c' k' => ?_) (fun _ _ => rfl)
  show (if c' = c ∧ k' = k then v else μ.1 c' k') = _
  by_cases hc : c' = c ∧ k' = k
  · rw [if_pos hc, hc.1, hc.2, h]
  · rw [if_neg hc]
theorem zm_ov {c c' : Nat} (hc : c ≠ c') (A : zzM) (k k' : Nat) (u v w : Int32) : zzwI (zzwI (zzwI A c k u) c' k' v) c k w = zzwI (zzwI A c' k' v) c k w := by
  refine zb_ext (fun e j => ?_) (fun _ _ => rfl)
  show (if e = c ∧ j = k then w else if e = c' ∧ j = k' then v else if e = c ∧ j = k then u else A.1 e j) = (if e = c ∧ j = k then w else if e = c' ∧ j = k' then v else A.1 e j)
  by_cases h : e = c ∧ j = k
  · rw [if_pos h, if_pos h]
  · rw [if_neg h, if_neg h, if_neg h]
theorem zb_cg {lo hi : Nat} (μ : zzM) (c : Nat) {f g : Nat → Int32} (h : ∀ k, lo ≤ k → k < hi → f k = g k) : zblk μ c lo hi f = zblk μ c lo hi g := by
  refine zb_ext (fun e j => ?_) (fun _ _ => rfl)
  show (if e = c ∧ lo ≤ j ∧ j < hi then f j else μ.1 e j) = (if e = c ∧ lo ≤ j ∧ j < hi then g j else μ.1 e j)
  by_cases hc : e = c ∧ lo ≤ j ∧ j < hi
  · rw [if_pos hc, if_pos hc, h j hc.2.1 hc.2.2]
  · rw [if_neg hc, if_neg hc]
theorem zb_mg {c c' : Nat} (hc : c ≠ c') (μ : zzM) {t m n : Nat} (k0 : Nat) {F g : Nat → Int32} (u w : Int32) (htm : t ≤ m) (hmn : m ≤ n) (hg : ∀ k, m ≤ k → k < n → g k = F k) : zzwI (zblk (zzwI (zblk μ c' t m F) c k0 u) c' m n g) c k0 w = zzwI (zblk μ c' t n F) c k0 w := by
  refine zb_ext (fun e j => ?_) (fun _ _ => rfl)
  show (if e = c ∧ j = k0 then w else if e = c' ∧ m ≤ j ∧ j < n then g j else if e = c ∧ j = k0 then u else if e = c' ∧ t ≤ j ∧ j < m then F j else μ.1 e j) = (if e = c ∧ j = k0 then w else if e = c' ∧ t ≤ j ∧ j < n then F j else μ.1 e j)
  by_cases h : e = c ∧ j = k0
  · rw [if_pos h, if_pos h]
  · rw [if_neg h, if_neg h, if_neg h]
    by_cases h2 : e = c' ∧ m ≤ j ∧ j < n
    · rw [if_pos h2, if_pos ⟨h2.1, by omega⟩, hg j h2.2.1 h2.2.2]
    · rw [if_neg h2]
      by_cases h3 : e = c' ∧ t ≤ j ∧ j < m
      · rw [if_pos h3, if_pos ⟨h3.1, by omega⟩]
      · rw [if_neg h3, if_neg (by omega)]
/-- how far a number is shifted for its j-th byte -/
def zsh (j : Nat) : Int32 := nI 24 - nI 8 * nI j
theorem zsh_s : ∀ j, j < 4 → zsh j - nI 8 = zsh (j + 1) := by decide +kernel
theorem zsh_p : ∀ j, j < 4 → ¬ zsh j < 0 := by decide +kernel
theorem zsh_4 : zsh 4 < 0 := by decide +kernel
theorem zsh_0 : nI 24 = zsh 0 := by decide +kernel
def zby (a : Int32) (j : Nat) : Int32 := (a.toUInt32 >>> ((zsh j).toUInt32 &&& Int32.toUInt32 31)).toInt32 &&& nI 255
def zbm (a : Int32) (j : Nat) : Int32 := Int8.toInt32 (Int32.toInt8 (Int8.toInt32 (Int32.toInt8 (a >>> ((zsh j) &&& 31)))))
theorem s_putBytes (d : Nat) (a : Int32) {μ : zzM} {t : Nat} (ht : μ.1 0 1 = nI t) (h4 : t + 4 ≤ 400) : zzf zzP zN (d + 1) 119 [.ref 0, .int a] μ = some ((0, 0, 0), zzwI (zblk μ 1 t (t + 4) (fun k => zby a (k - t))) 0 1 (nI (t + 4))) := by
  rw [u_pf_putBytes]
  apply zw_eq
  refine zl_up (fun i (x : zzM) => ([a, zsh i], [], x)) (fun i x => x = zzwI (zblk μ 1 t (t + i) (fun k => zby a (k - t))) 0 1 (nI (t + i))) 0 4 μ (by omega) (by omega) (by rw [zsh_0]) ?_ ?_ ?_
  · rw [Nat.add_zero, zb_e, zm_id ht]
  · rintro i x g - hi rfl hg
    simp only [zI0, zI1, zI2, zI3, zI4, zI5, zI6, zI7, zI8, zJ0, zJ1, zJ2, zMM]
    rw [if_neg (zsh_p i hi), zm_s, if_neg (by rw [zq_le (by omega) (by omega)]; omega), zs_i _ _ _ (by omega) (by omega), Option.bind_some, zm_c _ _ _ (by omega), zm_s, zq_add, zsh_s i hi]
    refine hg _ ?_
    rw [zm_ov (by omega)]
    have := zb_s μ 1 (fun k => zby a (k - t)) (show t ≤ t + i by omega)
    simp only [Nat.add_sub_cancel_left] at this
    exact congrArg (fun z => zzwI z 0 1 (nI (t + (i + 1)))) this
  · rintro x g rfl
    simp only [zI0, zI1, zI2, zI3, zI4, zI5, zI6, zI7, zI8, zJ0, zJ1, zJ2, zMM]
    rw [if_pos zsh_4]
    exact zw_some ⟨rfl, rfl⟩
theorem m_put (d : Nat) (a : Int32) {μ : zzM} {t : Nat} (ht : μ.1 105 16 = nI t) (h4 : t + 4 ≤ 400) : zzf zzP zN (d + 1) 182 [.ref 105, .int a] μ = some ((0, 0, 0), zzwI (zblk μ 120 t (t + 4) (fun k => zbm a (k - t))) 105 16 (nI (t + 4))) := by
  rw [u_m_put]
  apply zw_eq
  refine zl_up (fun i (x : zzM) => ([a, zsh i], [], x)) (fun i x => x = zzwI (zblk μ 120 t (t + i) (fun k => zbm a (k - t))) 105 16 (nI (t + i))) 0 4 μ (by omega) (by omega) (by rw [zsh_0]) ?_ ?_ ?_
  · rw [Nat.add_zero, zb_e, zm_id ht]
  · rintro i x g - hi rfl hg
    simp only [zI0, zI1, zI2, zI3, zI4, zI5, zI6, zI7, zI8, zJ0, zJ1, zJ2, zMM]
    rw [if_neg (zsh_p i hi), zm_s, zs_i _ _ _ (by omega) (by omega), Option.bind_some, zm_c _ _ _ (by omega), zm_s, zq_add, zsh_s i hi]
    refine hg _ ?_
    rw [zm_ov (by omega)]
    have := zb_s μ 120 (fun k => zbm a (k - t)) (show t ≤ t + i by omega)
    simp only [Nat.add_sub_cancel_left] at this
    exact congrArg (fun z => zzwI z 105 16 (nI (t + (i + 1)))) this
  · rintro x g rfl
    simp only [zI0, zI1, zI2, zI3, zI4, zI5, zI6, zI7, zI8, zJ0, zJ1, zJ2, zMM]
    rw [if_pos zsh_4]
    exact zw_some ⟨rfl, rfl⟩
/-- of five numbers the i-th -/
def z5 (a b c d e : Int32) (i : Nat) : Int32 := match i with
  | 0 => a
  | 1 => b
  | 2 => c
  | 3 => d
  | _ => e
theorem z5_k {t k j : Nat} (h1 : t + 4 * j ≤ k) (h2 : k < t + 4 * j + 4) : (k - t) / 4 = j ∧ (k - t) % 4 = k - (t + 4 * j) := by omega
theorem s_feed (d : Nat) (a b c e f : Int32) {μ : zzM} {t : Nat} (ht : μ.1 0 1 = nI t) (h4 : t ≤ 400) : zzf zzP zN (d + 2) 118 [.ref 0, .int a, .int b, .int c, .int e, .int f] μ = if t + 20 ≤ 400 then some ((nI (t + 20), 0, 0), zzwI (zblk μ 1 t (t + 20) (fun k => zby (z5 a b c e f ((k - t) / 4)) ((k - t) % 4))) 0 1 (nI (t + 20))) else some ((-(nI 1), 0, 0), μ) := by
  rw [u_pf_feed, ht, zq_add]
  simp only [zq_le (show t + 20 < 2147483648 by omega) (show 400 < 2147483648 by omega)]
  by_cases h : t + 20 ≤ 400
  · rw [if_pos h, if_pos h]
    let F : Nat → Int32 := fun k => zby (z5 a b c e f ((k - t) / 4)) ((k - t) % 4)
    rw [s_putBytes (d) a ht (by omega), Option.bind_some]
    have e0 : zblk μ 1 t (t + 4) (fun k => zby a (k - t)) = zblk μ 1 t (t + 4) F := zb_cg μ 1 fun k h1 h2 => by
      show _ = zby (z5 a b c e f ((k - t) / 4)) ((k - t) % 4)
      obtain ⟨e1, e2⟩ := z5_k (t := t) (k := k) (j := 0) (by omega) (by omega)
      rw [e1, e2]
      rfl
    show ((zzf zzP zN (d + 1) 119 [.ref 0, .int b] (zzwI (zblk μ 1 t (t + 4) (fun k => zby a (k - t))) 0 1 (nI (t + 4)))).bind _) = _
    rw [e0]
    rw [s_putBytes d b (zm_s _ _ _ _) (by omega), Option.bind_some]
    show ((zzf zzP zN (d + 1) 119 [.ref 0, .int c] (zzwI (zblk (zzwI (zblk μ 1 t (t + 4) F) 0 1 (nI (t + 4))) 1 (t + 4) (t + 4 + 4) (fun k => zby b (k - (t + 4)))) 0 1 (nI (t + 4 + 4)))).bind _) = _
    rw [zb_mg (c := 0) (c' := 1) (by omega) μ (t := t) (m := t + 4) (n := t + 4 + 4) 1 (F := F) (g := fun k => zby b (k - (t + 4))) (nI (t + 4)) (nI (t + 4 + 4)) (by omega) (by omega) (fun k h1 h2 => by
      show _ = zby (z5 a b c e f ((k - t) / 4)) ((k - t) % 4)
      obtain ⟨e1, e2⟩ := z5_k (t := t) (k := k) (j := 1) (by omega) (by omega)
      rw [e1, e2]
      rfl)]
    rw [s_putBytes d c (zm_s _ _ _ _) (by omega), Option.bind_some]
    show ((zzf zzP zN (d + 1) 119 [.ref 0, .int e] (zzwI (zblk (zzwI (zblk μ 1 t (t + 8) F) 0 1 (nI (t + 8))) 1 (t + 8) (t + 8 + 4) (fun k => zby c (k - (t + 8)))) 0 1 (nI (t + 8 + 4)))).bind _) = _
    rw [zb_mg (c := 0) (c' := 1) (by omega) μ (t := t) (m := t + 8) (n := t + 8 + 4) 1 (F := F) (g := fun k => zby c (k - (t + 8))) (nI (t + 8)) (nI (t + 8 + 4)) (by omega) (by omega) (fun k h1 h2 => by
      show _ = zby (z5 a b c e f ((k - t) / 4)) ((k - t) % 4)
      obtain ⟨e1, e2⟩ := z5_k (t := t) (k := k) (j := 2) (by omega) (by omega)
      rw [e1, e2]
      rfl)]
    rw [s_putBytes d e (zm_s _ _ _ _) (by omega), Option.bind_some]
    show ((zzf zzP zN (d + 1) 119 [.ref 0, .int f] (zzwI (zblk (zzwI (zblk μ 1 t (t + 12) F) 0 1 (nI (t + 12))) 1 (t + 12) (t + 12 + 4) (fun k => zby e (k - (t + 12)))) 0 1 (nI (t + 12 + 4)))).bind _) = _
    rw [zb_mg (c := 0) (c' := 1) (by omega) μ (t := t) (m := t + 12) (n := t + 12 + 4) 1 (F := F) (g := fun k => zby e (k - (t + 12))) (nI (t + 12)) (nI (t + 12 + 4)) (by omega) (by omega) (fun k h1 h2 => by
      show _ = zby (z5 a b c e f ((k - t) / 4)) ((k - t) % 4)
      obtain ⟨e1, e2⟩ := z5_k (t := t) (k := k) (j := 3) (by omega) (by omega)
      rw [e1, e2]
      rfl)]
    rw [s_putBytes d f (zm_s _ _ _ _) (by omega), Option.bind_some]
    show some (((zzwI (zblk (zzwI (zblk μ 1 t (t + 16) F) 0 1 (nI (t + 16))) 1 (t + 16) (t + 16 + 4) (fun k => zby f (k - (t + 16)))) 0 1 (nI (t + 16 + 4))).1 0 1, 0, 0), zzwI (zblk (zzwI (zblk μ 1 t (t + 16) F) 0 1 (nI (t + 16))) 1 (t + 16) (t + 16 + 4) (fun k => zby f (k - (t + 16)))) 0 1 (nI (t + 16 + 4))) = _
    rw [zb_mg (c := 0) (c' := 1) (by omega) μ (t := t) (m := t + 16) (n := t + 16 + 4) 1 (F := F) (g := fun k => zby f (k - (t + 16))) (nI (t + 16)) (nI (t + 16 + 4)) (by omega) (by omega) (fun k h1 h2 => by
      show _ = zby (z5 a b c e f ((k - t) / 4)) ((k - t) % 4)
      obtain ⟨e1, e2⟩ := z5_k (t := t) (k := k) (j := 4) (by omega) (by omega)
      rw [e1, e2]
      rfl)]
    rw [zm_s]
  · rw [if_neg h, if_neg h]
theorem m_feed (d : Nat) (a b c e f : Int32) {μ : zzM} {t : Nat} (ht : μ.1 105 16 = nI t) (h4 : t ≤ 400) : zzf zzP zN (d + 2) 181 [.ref 105, .int a, .int b, .int c, .int e, .int f] μ = if t + 20 ≤ 400 then some ((nI (t + 20), 0, 0), zzwI (zblk μ 120 t (t + 20) (fun k => zbm (z5 a b c e f ((k - t) / 4)) ((k - t) % 4))) 105 16 (nI (t + 20))) else some ((-(nI 1), 0, 0), μ) := by
  rw [u_m_feed, ht, zq_add]
  simp only [zq_le (show t + 20 < 2147483648 by omega) (show 400 < 2147483648 by omega)]
  by_cases h : t + 20 ≤ 400
  · rw [if_pos h, if_pos h]
    let F : Nat → Int32 := fun k => zbm (z5 a b c e f ((k - t) / 4)) ((k - t) % 4)
    rw [m_put (d) a ht (by omega), Option.bind_some]
    have e0 : zblk μ 120 t (t + 4) (fun k => zbm a (k - t)) = zblk μ 120 t (t + 4) F := zb_cg μ 120 fun k h1 h2 => by
      show _ = zbm (z5 a b c e f ((k - t) / 4)) ((k - t) % 4)
      obtain ⟨e1, e2⟩ := z5_k (t := t) (k := k) (j := 0) (by omega) (by omega)
      rw [e1, e2]
      rfl
    show ((zzf zzP zN (d + 1) 182 [.ref 105, .int b] (zzwI (zblk μ 120 t (t + 4) (fun k => zbm a (k - t))) 105 16 (nI (t + 4)))).bind _) = _
    rw [e0]
    rw [m_put d b (zm_s _ _ _ _) (by omega), Option.bind_some]
    show ((zzf zzP zN (d + 1) 182 [.ref 105, .int c] (zzwI (zblk (zzwI (zblk μ 120 t (t + 4) F) 105 16 (nI (t + 4))) 120 (t + 4) (t + 4 + 4) (fun k => zbm b (k - (t + 4)))) 105 16 (nI (t + 4 + 4)))).bind _) = _
    rw [zb_mg (c := 105) (c' := 120) (by omega) μ (t := t) (m := t + 4) (n := t + 4 + 4) 16 (F := F) (g := fun k => zbm b (k - (t + 4))) (nI (t + 4)) (nI (t + 4 + 4)) (by omega) (by omega) (fun k h1 h2 => by
      show _ = zbm (z5 a b c e f ((k - t) / 4)) ((k - t) % 4)
      obtain ⟨e1, e2⟩ := z5_k (t := t) (k := k) (j := 1) (by omega) (by omega)
      rw [e1, e2]
      rfl)]
    rw [m_put d c (zm_s _ _ _ _) (by omega), Option.bind_some]
    show ((zzf zzP zN (d + 1) 182 [.ref 105, .int e] (zzwI (zblk (zzwI (zblk μ 120 t (t + 8) F) 105 16 (nI (t + 8))) 120 (t + 8) (t + 8 + 4) (fun k => zbm c (k - (t + 8)))) 105 16 (nI (t + 8 + 4)))).bind _) = _
    rw [zb_mg (c := 105) (c' := 120) (by omega) μ (t := t) (m := t + 8) (n := t + 8 + 4) 16 (F := F) (g := fun k => zbm c (k - (t + 8))) (nI (t + 8)) (nI (t + 8 + 4)) (by omega) (by omega) (fun k h1 h2 => by
      show _ = zbm (z5 a b c e f ((k - t) / 4)) ((k - t) % 4)
      obtain ⟨e1, e2⟩ := z5_k (t := t) (k := k) (j := 2) (by omega) (by omega)
      rw [e1, e2]
      rfl)]
    rw [m_put d e (zm_s _ _ _ _) (by omega), Option.bind_some]
    show ((zzf zzP zN (d + 1) 182 [.ref 105, .int f] (zzwI (zblk (zzwI (zblk μ 120 t (t + 12) F) 105 16 (nI (t + 12))) 120 (t + 12) (t + 12 + 4) (fun k => zbm e (k - (t + 12)))) 105 16 (nI (t + 12 + 4)))).bind _) = _
    rw [zb_mg (c := 105) (c' := 120) (by omega) μ (t := t) (m := t + 12) (n := t + 12 + 4) 16 (F := F) (g := fun k => zbm e (k - (t + 12))) (nI (t + 12)) (nI (t + 12 + 4)) (by omega) (by omega) (fun k h1 h2 => by
      show _ = zbm (z5 a b c e f ((k - t) / 4)) ((k - t) % 4)
      obtain ⟨e1, e2⟩ := z5_k (t := t) (k := k) (j := 3) (by omega) (by omega)
      rw [e1, e2]
      rfl)]
    rw [m_put d f (zm_s _ _ _ _) (by omega), Option.bind_some]
    show some (((zzwI (zblk (zzwI (zblk μ 120 t (t + 16) F) 105 16 (nI (t + 16))) 120 (t + 16) (t + 16 + 4) (fun k => zbm f (k - (t + 16)))) 105 16 (nI (t + 16 + 4))).1 105 16, 0, 0), zzwI (zblk (zzwI (zblk μ 120 t (t + 16) F) 105 16 (nI (t + 16))) 120 (t + 16) (t + 16 + 4) (fun k => zbm f (k - (t + 16)))) 105 16 (nI (t + 16 + 4))) = _
    rw [zb_mg (c := 105) (c' := 120) (by omega) μ (t := t) (m := t + 16) (n := t + 16 + 4) 16 (F := F) (g := fun k => zbm f (k - (t + 16))) (nI (t + 16)) (nI (t + 16 + 4)) (by omega) (by omega) (fun k h1 h2 => by
      show _ = zbm (z5 a b c e f ((k - t) / 4)) ((k - t) % 4)
      obtain ⟨e1, e2⟩ := z5_k (t := t) (k := k) (j := 4) (by omega) (by omega)
      rw [e1, e2]
      rfl)]
    rw [zm_s]
  · rw [if_neg h, if_neg h]
theorem s_end (d : Nat) (a : Int32) (μ : zzM) : zzf zzP zN (d + 1) 120 [.ref 0, .int a] μ = if 0 ≤ a ∧ a ≤ μ.1 0 1 then some ((a, 0, 0), zzwI μ 0 1 a) else some ((-(nI 1), 0, 0), μ) := by
  rw [u_pf_end]
  by_cases h : a < 0
  · rw [if_pos h, if_neg (fun q => absurd q.1 (by rw [i_nle]; exact h))]
  · rw [if_neg h]
    rw [i_nlt] at h
    simp only [h, true_and]
theorem m_end (d : Nat) (a : Int32) (μ : zzM) : zzf zzP zN (d + 1) 183 [.ref 105, .int a] μ = if 0 ≤ a ∧ a ≤ μ.1 105 16 then some ((a, 0, 0), zzwI μ 105 16 a) else some ((-(nI 1), 0, 0), μ) := by
  rw [u_m_end]
  by_cases h : a < 0
  · rw [if_pos h, if_neg (fun q => absurd q.1 (by rw [i_nle]; exact h))]
  · rw [if_neg h]
    rw [i_nlt] at h
    simp only [h, true_and]
