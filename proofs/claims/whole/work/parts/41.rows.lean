/-! ROWS: fills, copies, blocks of memory that are written anew -/
def zblk (μ : zzM) (c lo hi : Nat) (f : Nat → Int32) : zzM := (fun c' k => if c' = c ∧ lo ≤ k ∧ k < hi then f k else μ.1 c' k, μ.2)
def zblL (μ : zzM) (c lo hi : Nat) (f : Nat → Int64) : zzM := (μ.1, fun c' k => if c' = c ∧ lo ≤ k ∧ k < hi then f k else μ.2 c' k)
theorem zb_ext {μ μ' : zzM} (h1 : ∀ c k, μ.1 c k = μ'.1 c k) (h2 : ∀ c k, μ.2 c k = μ'.2 c k) : μ = μ' := by
  obtain ⟨a, b⟩ := μ
  obtain ⟨a', b'⟩ := μ'
  have e1 : a = a' := funext fun c => funext fun k => h1 c k
  have e2 : b = b' := funext fun c => funext fun k => h2 c k
  rw [e1, e2]
theorem zb_e (μ : zzM) (c lo : Nat) (f : Nat → Int32) : zblk μ c lo lo f = μ := by
  refine zb_ext (fun c' k => ?_) (fun _ _ => rfl)
  show (if c' = c ∧ lo ≤ k ∧ k < lo then f k else μ.1 c' k) = _
  rw [if_neg (by omega)]
theorem zb_s {lo i : Nat} (μ : zzM) (c : Nat) (f : Nat → Int32) (h : lo ≤ i) : zzwI (zblk μ c lo i f) c i (f i) = zblk μ c lo (i + 1) f := by
  refine zb_ext (fun c' k => ?_) (fun _ _ => rfl)
  show (if c' = c ∧ k = i then f i else if c' = c ∧ lo ≤ k ∧ k < i then f k else μ.1 c' k) = (if c' = c ∧ lo ≤ k ∧ k < i + 1 then f k else μ.1 c' k)
  by_cases hc : c' = c
  · by_cases hk : k = i
    · subst hk
      rw [if_pos ⟨hc, rfl⟩, if_pos ⟨hc, h, by omega⟩]
    · rw [if_neg (by omega)]
      by_cases h3 : lo ≤ k ∧ k < i
      · rw [if_pos ⟨hc, h3⟩, if_pos ⟨hc, h3.1, by omega⟩]
      · rw [if_neg (by omega), if_neg (by omega)]
  · rw [if_neg (fun q => hc q.1), if_neg (fun q => hc q.1), if_neg (fun q => hc q.1)]
theorem zb_c {c' c : Nat} (μ : zzM) (lo hi : Nat) (f : Nat → Int32) (h : c' ≠ c) : (zblk μ c lo hi f).1 c' = μ.1 c' := by
  funext k
  show (if c' = c ∧ lo ≤ k ∧ k < hi then f k else μ.1 c' k) = _
  rw [if_neg (fun q => h q.1)]
theorem zb_i {lo hi k : Nat} (μ : zzM) (c : Nat) (f : Nat → Int32) (h1 : lo ≤ k) (h2 : k < hi) : (zblk μ c lo hi f).1 c k = f k := by
  show (if c = c ∧ lo ≤ k ∧ k < hi then f k else μ.1 c k) = _
  rw [if_pos ⟨rfl, h1, h2⟩]
theorem zb_o {lo hi k : Nat} (μ : zzM) (c c' : Nat) (f : Nat → Int32) (h1 : k < lo ∨ hi ≤ k) : (zblk μ c lo hi f).1 c' k = μ.1 c' k := by
  show (if c' = c ∧ lo ≤ k ∧ k < hi then f k else μ.1 c' k) = _
  rw [if_neg (by omega)]
theorem zb_2 (μ : zzM) (c lo hi : Nat) (f : Nat → Int32) : (zblk μ c lo hi f).2 = μ.2 := rfl
theorem zf_b {L : List Nat} {μ : zzM} {c : Nat} (lo hi : Nat) (f : Nat → Int32) (hc : L.elem c = true) : zfr L μ (zblk μ c lo hi f) := fun c' h => by
  have : c' ≠ c := fun e => by rw [e, hc] at h; cases h
  exact ⟨zb_c _ _ _ _ this, rfl⟩
theorem zc_e (μ : zzM) (c lo : Nat) (f : Nat → Int64) : zblL μ c lo lo f = μ := by
  refine zb_ext (fun _ _ => rfl) (fun c' k => ?_)
  show (if c' = c ∧ lo ≤ k ∧ k < lo then f k else μ.2 c' k) = _
  rw [if_neg (by omega)]
theorem zc_s {lo i : Nat} (μ : zzM) (c : Nat) (f : Nat → Int64) (h : lo ≤ i) : zzwL (zblL μ c lo i f) c i (f i) = zblL μ c lo (i + 1) f := by
  refine zb_ext (fun _ _ => rfl) (fun c' k => ?_)
  show (if c' = c ∧ k = i then f i else if c' = c ∧ lo ≤ k ∧ k < i then f k else μ.2 c' k) = (if c' = c ∧ lo ≤ k ∧ k < i + 1 then f k else μ.2 c' k)
  by_cases hc : c' = c
  · by_cases hk : k = i
    · subst hk
      rw [if_pos ⟨hc, rfl⟩, if_pos ⟨hc, h, by omega⟩]
    · rw [if_neg (by omega)]
      by_cases h3 : lo ≤ k ∧ k < i
      · rw [if_pos ⟨hc, h3⟩, if_pos ⟨hc, h3.1, by omega⟩]
      · rw [if_neg (by omega), if_neg (by omega)]
  · rw [if_neg (fun q => hc q.1), if_neg (fun q => hc q.1), if_neg (fun q => hc q.1)]
theorem zc_c {c' c : Nat} (μ : zzM) (lo hi : Nat) (f : Nat → Int64) (h : c' ≠ c) : (zblL μ c lo hi f).2 c' = μ.2 c' := by
  funext k
  show (if c' = c ∧ lo ≤ k ∧ k < hi then f k else μ.2 c' k) = _
  rw [if_neg (fun q => h q.1)]
theorem zc_i {lo hi k : Nat} (μ : zzM) (c : Nat) (f : Nat → Int64) (h1 : lo ≤ k) (h2 : k < hi) : (zblL μ c lo hi f).2 c k = f k := by
  show (if c = c ∧ lo ≤ k ∧ k < hi then f k else μ.2 c k) = _
  rw [if_pos ⟨rfl, h1, h2⟩]
theorem zc_1 (μ : zzM) (c lo hi : Nat) (f : Nat → Int64) : (zblL μ c lo hi f).1 = μ.1 := rfl
theorem zf_bL {L : List Nat} {μ : zzM} {c : Nat} (lo hi : Nat) (f : Nat → Int64) (hc : L.elem c = true) : zfr L μ (zblL μ c lo hi f) := fun c' h => by
  have : c' ≠ c := fun e => by rw [e, hc] at h; cases h
  exact ⟨rfl, zc_c _ _ _ _ this⟩
/-- Arrays.fill -/
theorem fill_l (μ : zzM) (c n : Nat) (a : Int32) (hn : n < 2147483647) : zzl (fun v1 g2 => if (zi2 v1) ≤ (zi1 v1) then some ((0, 0, 0), (zm v1)) else (zzsi (zm v1) c n (zi1 v1) (zi0 v1)).bind fun m3 => g2 ([(zi0 v1), ((zi1 v1) + nI 1), (zi2 v1)], [], m3)) zN ([a, (nI 0), (nI n)], [], μ) = some ((0, 0, 0), zblk μ c 0 n (fun _ => a)) := by
  apply zw_eq
  refine zl_up (fun i (x : zzM) => ([a, nI i, nI n], [], x)) (fun i x => x = zblk μ c 0 i (fun _ => a)) 0 n μ (by omega) (by omega) rfl (zb_e _ _ _ _).symm ?_ ?_
  · rintro i x g - hi rfl hg
    simp only [zI0, zI1, zI2, zI3, zI4, zI5, zI6, zI7, zI8, zJ0, zJ1, zJ2, zMM]
    rw [if_neg (by rw [zq_le (by omega) (by omega)]; omega), zs_i _ _ _ hi (by omega), Option.bind_some, zq_add]
    refine hg _ ?_
    exact zb_s μ c (fun _ => a) (by omega)
  · rintro x g rfl
    simp only [zI0, zI1, zI2, zI3, zI4, zI5, zI6, zI7, zI8, zJ0, zJ1, zJ2, zMM]
    rw [if_pos (by rw [zq_le (by omega) (by omega)]; omega)]
    exact zw_some ⟨rfl, rfl⟩
theorem fill_L (μ : zzM) (c n : Nat) (a : Int64) (hn : n < 2147483647) : zzl (fun v1 g2 => if (zi1 v1) ≤ (zi0 v1) then some ((0, 0, 0), (zm v1)) else (zzsl (zm v1) c n (zi0 v1) (zj0 v1)).bind fun m3 => g2 ([((zi0 v1) + nI 1), (zi1 v1)], [(zj0 v1)], m3)) zN ([(nI 0), (nI n)], [a], μ) = some ((0, 0, 0), zblL μ c 0 n (fun _ => a)) := by
  apply zw_eq
  refine zl_up (fun i (x : zzM) => ([nI i, nI n], [a], x)) (fun i x => x = zblL μ c 0 i (fun _ => a)) 0 n μ (by omega) (by omega) rfl (zc_e _ _ _ _).symm ?_ ?_
  · rintro i x g - hi rfl hg
    simp only [zI0, zI1, zI2, zI3, zI4, zI5, zI6, zI7, zI8, zJ0, zJ1, zJ2, zMM]
    rw [if_neg (by rw [zq_le (by omega) (by omega)]; omega), zs_l _ _ _ hi (by omega), Option.bind_some, zq_add]
    refine hg _ ?_
    exact zc_s μ c (fun _ => a) (by omega)
  · rintro x g rfl
    simp only [zI0, zI1, zI2, zI3, zI4, zI5, zI6, zI7, zI8, zJ0, zJ1, zJ2, zMM]
    rw [if_pos (by rw [zq_le (by omega) (by omega)]; omega)]
    exact zw_some ⟨rfl, rfl⟩
theorem s_fill_20 (d : Nat) (a : Int32) (μ : zzM) : zzf zzP zN (d + 1) 5 [.ref 20, .int a] μ = some ((0, 0, 0), zblk μ 20 0 26 (fun _ => a)) := (u_jdk_fill_20 zN d a μ).trans (fill_l μ 20 26 a (by omega))
theorem s_fill_11 (d : Nat) (a : Int32) (μ : zzM) : zzf zzP zN (d + 1) 5 [.ref 11, .int a] μ = some ((0, 0, 0), zblk μ 11 0 48 (fun _ => a)) := (u_jdk_fill_11 zN d a μ).trans (fill_l μ 11 48 a (by omega))
theorem s_fill_43 (d : Nat) (a : Int32) (μ : zzM) : zzf zzP zN (d + 1) 5 [.ref 43, .int a] μ = some ((0, 0, 0), zblk μ 43 0 1170 (fun _ => a)) := (u_jdk_fill_43 zN d a μ).trans (fill_l μ 43 1170 a (by omega))
theorem s_fill_53 (d : Nat) (a : Int32) (μ : zzM) : zzf zzP zN (d + 1) 5 [.ref 53, .int a] μ = some ((0, 0, 0), zblk μ 53 0 91 (fun _ => a)) := (u_jdk_fill_53 zN d a μ).trans (fill_l μ 53 91 a (by omega))
theorem s_fill_40 (d : Nat) (a : Int32) (μ : zzM) : zzf zzP zN (d + 1) 5 [.ref 40, .int a] μ = some ((0, 0, 0), zblk μ 40 0 13 (fun _ => a)) := (u_jdk_fill_40 zN d a μ).trans (fill_l μ 40 13 a (by omega))
theorem s_fill_24 (d : Nat) (a : Int32) (μ : zzM) : zzf zzP zN (d + 1) 5 [.ref 24, .int a] μ = some ((0, 0, 0), zblk μ 24 0 26 (fun _ => a)) := (u_jdk_fill_24 zN d a μ).trans (fill_l μ 24 26 a (by omega))
theorem s_fill_22 (d : Nat) (a : Int32) (μ : zzM) : zzf zzP zN (d + 1) 5 [.ref 22, .int a] μ = some ((0, 0, 0), zblk μ 22 0 26 (fun _ => a)) := (u_jdk_fill_22 zN d a μ).trans (fill_l μ 22 26 a (by omega))
theorem s_fill_23 (d : Nat) (a : Int32) (μ : zzM) : zzf zzP zN (d + 1) 5 [.ref 23, .int a] μ = some ((0, 0, 0), zblk μ 23 0 26 (fun _ => a)) := (u_jdk_fill_23 zN d a μ).trans (fill_l μ 23 26 a (by omega))
theorem s_fill_25 (d : Nat) (a : Int32) (μ : zzM) : zzf zzP zN (d + 1) 5 [.ref 25, .int a] μ = some ((0, 0, 0), zblk μ 25 0 26 (fun _ => a)) := (u_jdk_fill_25 zN d a μ).trans (fill_l μ 25 26 a (by omega))
theorem s_fill_58 (d : Nat) (a : Int32) (μ : zzM) : zzf zzP zN (d + 1) 5 [.ref 58, .int a] μ = some ((0, 0, 0), zblk μ 58 0 13 (fun _ => a)) := (u_jdk_fill_58 zN d a μ).trans (fill_l μ 58 13 a (by omega))
theorem s_fillL_29 (d : Nat) (a : Int64) (μ : zzM) : zzf zzP zN (d + 1) 4 [.ref 29, .long a] μ = some ((0, 0, 0), zblL μ 29 0 52 (fun _ => a)) := (u_jdk_fillL_29 zN d a μ).trans (fill_L μ 29 52 a (by omega))
theorem s_fillL_30 (d : Nat) (a : Int64) (μ : zzM) : zzf zzP zN (d + 1) 4 [.ref 30, .long a] μ = some ((0, 0, 0), zblL μ 30 0 26 (fun _ => a)) := (u_jdk_fillL_30 zN d a μ).trans (fill_L μ 30 26 a (by omega))
theorem s_fillL_47 (d : Nat) (a : Int64) (μ : zzM) : zzf zzP zN (d + 1) 4 [.ref 47, .long a] μ = some ((0, 0, 0), zblL μ 47 0 13 (fun _ => a)) := (u_jdk_fillL_47 zN d a μ).trans (fill_L μ 47 13 a (by omega))
/-- a row of the reference copied into another -/
theorem copy_l (μ : zzM) (a b n : Nat) (hab : a ≠ b) (hn : n < 2147483647) : zzl (fun v1 g2 => if (nI n) ≤ (zi0 v1) then some ((0, 0, 0), (zm v1)) else (zzri (zm v1) a n (zi0 v1)).bind fun x3 => (zzsi (zm v1) b n (zi0 v1) x3).bind fun m4 => g2 ([((zi0 v1) + nI 1)], [], m4)) zN ([(nI 0)], [], μ) = some ((0, 0, 0), zblk μ b 0 n (μ.1 a)) := by
  apply zw_eq
  refine zl_up (fun i (x : zzM) => ([nI i], [], x)) (fun i x => x = zblk μ b 0 i (μ.1 a)) 0 n μ (by omega) (by omega) rfl (zb_e _ _ _ _).symm ?_ ?_
  · rintro i x g - hi rfl hg
    simp only [zI0, zI1, zI2, zI3, zI4, zI5, zI6, zI7, zI8, zJ0, zJ1, zJ2, zMM]
    rw [if_neg (by rw [zq_le (by omega) (by omega)]; omega), zr_i _ _ hi (by omega), Option.bind_some, zb_c _ _ _ _ hab, zs_i _ _ _ hi (by omega), Option.bind_some, zq_add]
    refine hg _ ?_
    exact zb_s μ b (μ.1 a) (by omega)
  · rintro x g rfl
    simp only [zI0, zI1, zI2, zI3, zI4, zI5, zI6, zI7, zI8, zJ0, zJ1, zJ2, zMM]
    rw [if_pos (by rw [zq_le (by omega) (by omega)]; omega)]
    exact zw_some ⟨rfl, rfl⟩
theorem m_copies_106_121 (d : Nat) (μ : zzM) : zzf zzP zN (d + 1) 180 [.ref 106, .ref 121] μ = some ((0, 0, 0), zblk μ 121 0 7 (μ.1 106)) := (u_m_copies_106_121 zN d μ).trans (copy_l μ 106 121 7 (by omega) (by omega))
theorem m_copies_107_122 (d : Nat) (μ : zzM) : zzf zzP zN (d + 1) 180 [.ref 107, .ref 122] μ = some ((0, 0, 0), zblk μ 122 0 12 (μ.1 107)) := (u_m_copies_107_122 zN d μ).trans (copy_l μ 107 122 12 (by omega) (by omega))
theorem m_copies_108_123 (d : Nat) (μ : zzM) : zzf zzP zN (d + 1) 180 [.ref 108, .ref 123] μ = some ((0, 0, 0), zblk μ 123 0 12 (μ.1 108)) := (u_m_copies_108_123 zN d μ).trans (copy_l μ 108 123 12 (by omega) (by omega))
theorem m_copies_109_124 (d : Nat) (μ : zzM) : zzf zzP zN (d + 1) 180 [.ref 109, .ref 124] μ = some ((0, 0, 0), zblk μ 124 0 48 (μ.1 109)) := (u_m_copies_109_124 zN d μ).trans (copy_l μ 109 124 48 (by omega) (by omega))
theorem m_copies_110_125 (d : Nat) (μ : zzM) : zzf zzP zN (d + 1) 180 [.ref 110, .ref 125] μ = some ((0, 0, 0), zblk μ 125 0 12 (μ.1 110)) := (u_m_copies_110_125 zN d μ).trans (copy_l μ 110 125 12 (by omega) (by omega))
theorem m_copies_111_126 (d : Nat) (μ : zzM) : zzf zzP zN (d + 1) 180 [.ref 111, .ref 126] μ = some ((0, 0, 0), zblk μ 126 0 12 (μ.1 111)) := (u_m_copies_111_126 zN d μ).trans (copy_l μ 111 126 12 (by omega) (by omega))
theorem m_copies_114_107 (d : Nat) (μ : zzM) : zzf zzP zN (d + 1) 180 [.ref 114, .ref 107] μ = some ((0, 0, 0), zblk μ 107 0 12 (μ.1 114)) := (u_m_copies_114_107 zN d μ).trans (copy_l μ 114 107 12 (by omega) (by omega))
theorem m_copies_115_108 (d : Nat) (μ : zzM) : zzf zzP zN (d + 1) 180 [.ref 115, .ref 108] μ = some ((0, 0, 0), zblk μ 108 0 12 (μ.1 115)) := (u_m_copies_115_108 zN d μ).trans (copy_l μ 115 108 12 (by omega) (by omega))
theorem m_copies_116_109 (d : Nat) (μ : zzM) : zzf zzP zN (d + 1) 180 [.ref 116, .ref 109] μ = some ((0, 0, 0), zblk μ 109 0 48 (μ.1 116)) := (u_m_copies_116_109 zN d μ).trans (copy_l μ 116 109 48 (by omega) (by omega))
theorem m_copies_117_110 (d : Nat) (μ : zzM) : zzf zzP zN (d + 1) 180 [.ref 117, .ref 110] μ = some ((0, 0, 0), zblk μ 110 0 12 (μ.1 117)) := (u_m_copies_117_110 zN d μ).trans (copy_l μ 117 110 12 (by omega) (by omega))
theorem m_copies_118_111 (d : Nat) (μ : zzM) : zzf zzP zN (d + 1) 180 [.ref 118, .ref 111] μ = some ((0, 0, 0), zblk μ 111 0 12 (μ.1 118)) := (u_m_copies_118_111 zN d μ).trans (copy_l μ 118 111 12 (by omega) (by omega))
theorem m_copies_121_106 (d : Nat) (μ : zzM) : zzf zzP zN (d + 1) 180 [.ref 121, .ref 106] μ = some ((0, 0, 0), zblk μ 106 0 7 (μ.1 121)) := (u_m_copies_121_106 zN d μ).trans (copy_l μ 121 106 7 (by omega) (by omega))
theorem m_copies_122_107 (d : Nat) (μ : zzM) : zzf zzP zN (d + 1) 180 [.ref 122, .ref 107] μ = some ((0, 0, 0), zblk μ 107 0 12 (μ.1 122)) := (u_m_copies_122_107 zN d μ).trans (copy_l μ 122 107 12 (by omega) (by omega))
theorem m_copies_123_108 (d : Nat) (μ : zzM) : zzf zzP zN (d + 1) 180 [.ref 123, .ref 108] μ = some ((0, 0, 0), zblk μ 108 0 12 (μ.1 123)) := (u_m_copies_123_108 zN d μ).trans (copy_l μ 123 108 12 (by omega) (by omega))
theorem m_copies_124_109 (d : Nat) (μ : zzM) : zzf zzP zN (d + 1) 180 [.ref 124, .ref 109] μ = some ((0, 0, 0), zblk μ 109 0 48 (μ.1 124)) := (u_m_copies_124_109 zN d μ).trans (copy_l μ 124 109 48 (by omega) (by omega))
theorem m_copies_125_110 (d : Nat) (μ : zzM) : zzf zzP zN (d + 1) 180 [.ref 125, .ref 110] μ = some ((0, 0, 0), zblk μ 110 0 12 (μ.1 125)) := (u_m_copies_125_110 zN d μ).trans (copy_l μ 125 110 12 (by omega) (by omega))
theorem m_copies_126_111 (d : Nat) (μ : zzM) : zzf zzP zN (d + 1) 180 [.ref 126, .ref 111] μ = some ((0, 0, 0), zblk μ 111 0 12 (μ.1 126)) := (u_m_copies_126_111 zN d μ).trans (copy_l μ 126 111 12 (by omega) (by omega))
/-- System.arraycopy -/
theorem s_acopy (d : Nat) (μ : zzM) {a b n0 n1 sp dp n : Nat} {ta tb : List Nat} (ha : zzcells[a]? = some (.inr (0, n0, ta))) (hb : zzcells[b]? = some (.inr (0, n1, tb))) (h0 : sp + n ≤ n0) (h1 : dp + n ≤ n1) (hn0 : n0 < 2147483648) (hn1 : n1 < 2147483648) :
    zzf zzP zN (d + 1) 0 [.ref a, .int (nI sp), .ref b, .int (nI dp), .int (nI n)] μ = some ((0, 0, 0), zblk μ b dp (dp + n) (fun k => μ.1 a (sp + (k - dp)))) := by
  have e : zzf zzP zN (d + 1) 0 [.ref a, .int (nI sp), .ref b, .int (nI dp), .int (nI n)] μ = zzcy [.ref a, .int (nI sp), .ref b, .int (nI dp), .int (nI n)] μ := rfl
  rw [e]
  unfold zzcy
  simp only [ha, hb]
  unfold zzcp
  rw [nI_clamp (by omega), nI_clamp (by omega), nI_clamp (by omega), if_neg (by
    rintro (h | h | h | h | h)
    · exact nI_pos (by omega) h
    · exact nI_pos (by omega) h
    · exact nI_pos (by omega) h
    · omega
    · omega)]
  rw [Option.bind_some]
  congr 2
  refine zb_ext (fun c' k => ?_) (fun _ _ => rfl)
  show (if c' = b then va_cpy (μ.1 a) (μ.1 b) sp dp n k else μ.1 c' k) = (if c' = b ∧ dp ≤ k ∧ k < dp + n then μ.1 a (sp + (k - dp)) else μ.1 c' k)
  by_cases hc : c' = b
  · subst hc
    rw [if_pos rfl]
    unfold va_cpy
    by_cases hk : dp ≤ k ∧ k < dp + n
    · rw [if_pos hk, if_pos ⟨rfl, hk⟩]
    · rw [if_neg hk, if_neg (fun q => hk q.2)]
  · rw [if_neg hc, if_neg (fun q => hc q.1)]
