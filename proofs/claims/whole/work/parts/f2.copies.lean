/-! SETTINGS copied, IMAGES -/
theorem zf_tb {L : List Nat} {μ μ' : zzM} {c : Nat} (lo hi : Nat) (f : Nat → Int32) (h : zfr L μ μ') (hc : L.elem c = true) : zfr L μ (zblk μ' c lo hi f) := zf_trans h (zf_b lo hi f hc)
/-- a grammar's cells D.. are those of S.. -/
def zcpg (D S : Nat) (μ μ' : zzM) : Prop := (∀ k, k < 2 → μ'.1 D k = μ.1 S k) ∧ (∀ k, k < 12 → μ'.1 (D + 1) k = μ.1 (S + 1) k) ∧ (∀ k, k < 12 → μ'.1 (D + 2) k = μ.1 (S + 2) k) ∧ (∀ k, k < 12 → μ'.1 (D + 3) k = μ.1 (S + 3) k) ∧ (∀ k, k < 12 → μ'.1 (D + 4) k = μ.1 (S + 4) k) ∧ (∀ k, k < 48 → μ'.1 (D + 5) k = μ.1 (S + 5) k) ∧ (∀ k, k < 26 → μ'.1 (D + 6) k = μ.1 (S + 6) k)
/-- a setting's cells D.. are those of S.. -/
def zcps (D S : Nat) (μ μ' : zzM) : Prop := zcpg (D + 1) (S + 1) μ μ' ∧ (∀ k, k < 12 → μ'.1 (D + 8) k = μ.1 (S + 8) k) ∧ (∀ k, k < 48 → μ'.1 (D + 9) k = μ.1 (S + 9) k) ∧ (∀ k, k < 20 → μ'.1 (D + 10) k = μ.1 (S + 10) k) ∧ μ'.1 D 2 = μ.1 S 2 ∧ μ'.1 D 3 = μ.1 S 3 ∧ μ'.1 D 5 = μ.1 S 5 ∧ μ'.1 D 6 = μ.1 S 6 ∧ μ'.1 D 8 = μ.1 S 8 ∧ μ'.1 D 9 = μ.1 S 9 ∧ μ'.1 D 10 = μ.1 D 10
set_option maxHeartbeats 1000000 in
theorem s_gcopy_3_14 (d : Nat) (μ : zzM) : zw (zzf zzP zN (d + 2) 7 [.ref 3, .ref 14] μ) fun r => zcpg 3 14 μ r.2 ∧ zfr [3, 4, 5, 6, 7, 8, 9] μ r.2 := by
  rw [u_gram_copyFrom_3_14]
  rw [s_acopy (a := 15) (b := 4) (n0 := 12) (n1 := 12) (sp := 0) (dp := 0) (n := 12) _ _ rfl rfl (by omega) (by omega) (by omega) (by omega), Option.bind_some, s_acopy (a := 16) (b := 5) (n0 := 12) (n1 := 12) (sp := 0) (dp := 0) (n := 12) _ _ rfl rfl (by omega) (by omega) (by omega) (by omega), Option.bind_some, s_acopy (a := 17) (b := 6) (n0 := 12) (n1 := 12) (sp := 0) (dp := 0) (n := 12) _ _ rfl rfl (by omega) (by omega) (by omega) (by omega), Option.bind_some, s_acopy (a := 18) (b := 7) (n0 := 12) (n1 := 12) (sp := 0) (dp := 0) (n := 12) _ _ rfl rfl (by omega) (by omega) (by omega) (by omega), Option.bind_some, s_acopy (a := 19) (b := 8) (n0 := 48) (n1 := 48) (sp := 0) (dp := 0) (n := 48) _ _ rfl rfl (by omega) (by omega) (by omega) (by omega), Option.bind_some, s_acopy (a := 20) (b := 9) (n0 := 26) (n1 := 26) (sp := 0) (dp := 0) (n := 26) _ _ rfl rfl (by omega) (by omega) (by omega) (by omega), Option.bind_some]
  refine zw_some ⟨⟨?_, ?_, ?_, ?_, ?_, ?_, ?_⟩, ?_⟩
  · intro k hk
    match k, hk with
    | 0, _ => simp (disch := omega) only [zb_c, zb_i, zb_o, zm_c, zm_k, zm_s, Nat.zero_add, Nat.sub_zero]
    | 1, _ => simp (disch := omega) only [zb_c, zb_i, zb_o, zm_c, zm_k, zm_s, Nat.zero_add, Nat.sub_zero]
  · intro k hk
    simp (disch := omega) only [zb_c, zb_i, zb_o, zm_c, zm_k, zm_s, Nat.zero_add, Nat.sub_zero]
  · intro k hk
    simp (disch := omega) only [zb_c, zb_i, zb_o, zm_c, zm_k, zm_s, Nat.zero_add, Nat.sub_zero]
  · intro k hk
    simp (disch := omega) only [zb_c, zb_i, zb_o, zm_c, zm_k, zm_s, Nat.zero_add, Nat.sub_zero]
  · intro k hk
    simp (disch := omega) only [zb_c, zb_i, zb_o, zm_c, zm_k, zm_s, Nat.zero_add, Nat.sub_zero]
  · intro k hk
    simp (disch := omega) only [zb_c, zb_i, zb_o, zm_c, zm_k, zm_s, Nat.zero_add, Nat.sub_zero]
  · intro k hk
    simp (disch := omega) only [zb_c, zb_i, zb_o, zm_c, zm_k, zm_s, Nat.zero_add, Nat.sub_zero]
  · repeat (first | refine zf_twI _ _ ?_ rfl | refine zf_tb _ _ _ ?_ rfl)
    exact zf_refl _ _
set_option maxHeartbeats 1000000 in
theorem s_gcopy_62_3 (d : Nat) (μ : zzM) : zw (zzf zzP zN (d + 2) 7 [.ref 62, .ref 3] μ) fun r => zcpg 62 3 μ r.2 ∧ zfr [62, 63, 64, 65, 66, 67, 68] μ r.2 := by
  rw [u_gram_copyFrom_62_3]
  rw [s_acopy (a := 4) (b := 63) (n0 := 12) (n1 := 12) (sp := 0) (dp := 0) (n := 12) _ _ rfl rfl (by omega) (by omega) (by omega) (by omega), Option.bind_some, s_acopy (a := 5) (b := 64) (n0 := 12) (n1 := 12) (sp := 0) (dp := 0) (n := 12) _ _ rfl rfl (by omega) (by omega) (by omega) (by omega), Option.bind_some, s_acopy (a := 6) (b := 65) (n0 := 12) (n1 := 12) (sp := 0) (dp := 0) (n := 12) _ _ rfl rfl (by omega) (by omega) (by omega) (by omega), Option.bind_some, s_acopy (a := 7) (b := 66) (n0 := 12) (n1 := 12) (sp := 0) (dp := 0) (n := 12) _ _ rfl rfl (by omega) (by omega) (by omega) (by omega), Option.bind_some, s_acopy (a := 8) (b := 67) (n0 := 48) (n1 := 48) (sp := 0) (dp := 0) (n := 48) _ _ rfl rfl (by omega) (by omega) (by omega) (by omega), Option.bind_some, s_acopy (a := 9) (b := 68) (n0 := 26) (n1 := 26) (sp := 0) (dp := 0) (n := 26) _ _ rfl rfl (by omega) (by omega) (by omega) (by omega), Option.bind_some]
  refine zw_some ⟨⟨?_, ?_, ?_, ?_, ?_, ?_, ?_⟩, ?_⟩
  · intro k hk
    match k, hk with
    | 0, _ => simp (disch := omega) only [zb_c, zb_i, zb_o, zm_c, zm_k, zm_s, Nat.zero_add, Nat.sub_zero]
    | 1, _ => simp (disch := omega) only [zb_c, zb_i, zb_o, zm_c, zm_k, zm_s, Nat.zero_add, Nat.sub_zero]
  · intro k hk
    simp (disch := omega) only [zb_c, zb_i, zb_o, zm_c, zm_k, zm_s, Nat.zero_add, Nat.sub_zero]
  · intro k hk
    simp (disch := omega) only [zb_c, zb_i, zb_o, zm_c, zm_k, zm_s, Nat.zero_add, Nat.sub_zero]
  · intro k hk
    simp (disch := omega) only [zb_c, zb_i, zb_o, zm_c, zm_k, zm_s, Nat.zero_add, Nat.sub_zero]
  · intro k hk
    simp (disch := omega) only [zb_c, zb_i, zb_o, zm_c, zm_k, zm_s, Nat.zero_add, Nat.sub_zero]
  · intro k hk
    simp (disch := omega) only [zb_c, zb_i, zb_o, zm_c, zm_k, zm_s, Nat.zero_add, Nat.sub_zero]
  · intro k hk
    simp (disch := omega) only [zb_c, zb_i, zb_o, zm_c, zm_k, zm_s, Nat.zero_add, Nat.sub_zero]
  · repeat (first | refine zf_twI _ _ ?_ rfl | refine zf_tb _ _ _ ?_ rfl)
    exact zf_refl _ _
set_option maxHeartbeats 1000000 in
theorem s_gcopy_73_3 (d : Nat) (μ : zzM) : zw (zzf zzP zN (d + 2) 7 [.ref 73, .ref 3] μ) fun r => zcpg 73 3 μ r.2 ∧ zfr [73, 74, 75, 76, 77, 78, 79] μ r.2 := by
  rw [u_gram_copyFrom_73_3]
  rw [s_acopy (a := 4) (b := 74) (n0 := 12) (n1 := 12) (sp := 0) (dp := 0) (n := 12) _ _ rfl rfl (by omega) (by omega) (by omega) (by omega), Option.bind_some, s_acopy (a := 5) (b := 75) (n0 := 12) (n1 := 12) (sp := 0) (dp := 0) (n := 12) _ _ rfl rfl (by omega) (by omega) (by omega) (by omega), Option.bind_some, s_acopy (a := 6) (b := 76) (n0 := 12) (n1 := 12) (sp := 0) (dp := 0) (n := 12) _ _ rfl rfl (by omega) (by omega) (by omega) (by omega), Option.bind_some, s_acopy (a := 7) (b := 77) (n0 := 12) (n1 := 12) (sp := 0) (dp := 0) (n := 12) _ _ rfl rfl (by omega) (by omega) (by omega) (by omega), Option.bind_some, s_acopy (a := 8) (b := 78) (n0 := 48) (n1 := 48) (sp := 0) (dp := 0) (n := 48) _ _ rfl rfl (by omega) (by omega) (by omega) (by omega), Option.bind_some, s_acopy (a := 9) (b := 79) (n0 := 26) (n1 := 26) (sp := 0) (dp := 0) (n := 26) _ _ rfl rfl (by omega) (by omega) (by omega) (by omega), Option.bind_some]
  refine zw_some ⟨⟨?_, ?_, ?_, ?_, ?_, ?_, ?_⟩, ?_⟩
  · intro k hk
    match k, hk with
    | 0, _ => simp (disch := omega) only [zb_c, zb_i, zb_o, zm_c, zm_k, zm_s, Nat.zero_add, Nat.sub_zero]
    | 1, _ => simp (disch := omega) only [zb_c, zb_i, zb_o, zm_c, zm_k, zm_s, Nat.zero_add, Nat.sub_zero]
  · intro k hk
    simp (disch := omega) only [zb_c, zb_i, zb_o, zm_c, zm_k, zm_s, Nat.zero_add, Nat.sub_zero]
  · intro k hk
    simp (disch := omega) only [zb_c, zb_i, zb_o, zm_c, zm_k, zm_s, Nat.zero_add, Nat.sub_zero]
  · intro k hk
    simp (disch := omega) only [zb_c, zb_i, zb_o, zm_c, zm_k, zm_s, Nat.zero_add, Nat.sub_zero]
  · intro k hk
    simp (disch := omega) only [zb_c, zb_i, zb_o, zm_c, zm_k, zm_s, Nat.zero_add, Nat.sub_zero]
  · intro k hk
    simp (disch := omega) only [zb_c, zb_i, zb_o, zm_c, zm_k, zm_s, Nat.zero_add, Nat.sub_zero]
  · intro k hk
    simp (disch := omega) only [zb_c, zb_i, zb_o, zm_c, zm_k, zm_s, Nat.zero_add, Nat.sub_zero]
  · repeat (first | refine zf_twI _ _ ?_ rfl | refine zf_tb _ _ _ ?_ rfl)
    exact zf_refl _ _
set_option maxHeartbeats 1000000 in
theorem s_gcopy_84_3 (d : Nat) (μ : zzM) : zw (zzf zzP zN (d + 2) 7 [.ref 84, .ref 3] μ) fun r => zcpg 84 3 μ r.2 ∧ zfr [84, 85, 86, 87, 88, 89, 90] μ r.2 := by
  rw [u_gram_copyFrom_84_3]
  rw [s_acopy (a := 4) (b := 85) (n0 := 12) (n1 := 12) (sp := 0) (dp := 0) (n := 12) _ _ rfl rfl (by omega) (by omega) (by omega) (by omega), Option.bind_some, s_acopy (a := 5) (b := 86) (n0 := 12) (n1 := 12) (sp := 0) (dp := 0) (n := 12) _ _ rfl rfl (by omega) (by omega) (by omega) (by omega), Option.bind_some, s_acopy (a := 6) (b := 87) (n0 := 12) (n1 := 12) (sp := 0) (dp := 0) (n := 12) _ _ rfl rfl (by omega) (by omega) (by omega) (by omega), Option.bind_some, s_acopy (a := 7) (b := 88) (n0 := 12) (n1 := 12) (sp := 0) (dp := 0) (n := 12) _ _ rfl rfl (by omega) (by omega) (by omega) (by omega), Option.bind_some, s_acopy (a := 8) (b := 89) (n0 := 48) (n1 := 48) (sp := 0) (dp := 0) (n := 48) _ _ rfl rfl (by omega) (by omega) (by omega) (by omega), Option.bind_some, s_acopy (a := 9) (b := 90) (n0 := 26) (n1 := 26) (sp := 0) (dp := 0) (n := 26) _ _ rfl rfl (by omega) (by omega) (by omega) (by omega), Option.bind_some]
  refine zw_some ⟨⟨?_, ?_, ?_, ?_, ?_, ?_, ?_⟩, ?_⟩
  · intro k hk
    match k, hk with
    | 0, _ => simp (disch := omega) only [zb_c, zb_i, zb_o, zm_c, zm_k, zm_s, Nat.zero_add, Nat.sub_zero]
    | 1, _ => simp (disch := omega) only [zb_c, zb_i, zb_o, zm_c, zm_k, zm_s, Nat.zero_add, Nat.sub_zero]
  · intro k hk
    simp (disch := omega) only [zb_c, zb_i, zb_o, zm_c, zm_k, zm_s, Nat.zero_add, Nat.sub_zero]
  · intro k hk
    simp (disch := omega) only [zb_c, zb_i, zb_o, zm_c, zm_k, zm_s, Nat.zero_add, Nat.sub_zero]
  · intro k hk
    simp (disch := omega) only [zb_c, zb_i, zb_o, zm_c, zm_k, zm_s, Nat.zero_add, Nat.sub_zero]
  · intro k hk
    simp (disch := omega) only [zb_c, zb_i, zb_o, zm_c, zm_k, zm_s, Nat.zero_add, Nat.sub_zero]
  · intro k hk
    simp (disch := omega) only [zb_c, zb_i, zb_o, zm_c, zm_k, zm_s, Nat.zero_add, Nat.sub_zero]
  · intro k hk
    simp (disch := omega) only [zb_c, zb_i, zb_o, zm_c, zm_k, zm_s, Nat.zero_add, Nat.sub_zero]
  · repeat (first | refine zf_twI _ _ ?_ rfl | refine zf_tb _ _ _ ?_ rfl)
    exact zf_refl _ _
set_option maxHeartbeats 1000000 in
theorem s_gcopy_95_3 (d : Nat) (μ : zzM) : zw (zzf zzP zN (d + 2) 7 [.ref 95, .ref 3] μ) fun r => zcpg 95 3 μ r.2 ∧ zfr [95, 96, 97, 98, 99, 100, 101] μ r.2 := by
  rw [u_gram_copyFrom_95_3]
  rw [s_acopy (a := 4) (b := 96) (n0 := 12) (n1 := 12) (sp := 0) (dp := 0) (n := 12) _ _ rfl rfl (by omega) (by omega) (by omega) (by omega), Option.bind_some, s_acopy (a := 5) (b := 97) (n0 := 12) (n1 := 12) (sp := 0) (dp := 0) (n := 12) _ _ rfl rfl (by omega) (by omega) (by omega) (by omega), Option.bind_some, s_acopy (a := 6) (b := 98) (n0 := 12) (n1 := 12) (sp := 0) (dp := 0) (n := 12) _ _ rfl rfl (by omega) (by omega) (by omega) (by omega), Option.bind_some, s_acopy (a := 7) (b := 99) (n0 := 12) (n1 := 12) (sp := 0) (dp := 0) (n := 12) _ _ rfl rfl (by omega) (by omega) (by omega) (by omega), Option.bind_some, s_acopy (a := 8) (b := 100) (n0 := 48) (n1 := 48) (sp := 0) (dp := 0) (n := 48) _ _ rfl rfl (by omega) (by omega) (by omega) (by omega), Option.bind_some, s_acopy (a := 9) (b := 101) (n0 := 26) (n1 := 26) (sp := 0) (dp := 0) (n := 26) _ _ rfl rfl (by omega) (by omega) (by omega) (by omega), Option.bind_some]
  refine zw_some ⟨⟨?_, ?_, ?_, ?_, ?_, ?_, ?_⟩, ?_⟩
  · intro k hk
    match k, hk with
    | 0, _ => simp (disch := omega) only [zb_c, zb_i, zb_o, zm_c, zm_k, zm_s, Nat.zero_add, Nat.sub_zero]
    | 1, _ => simp (disch := omega) only [zb_c, zb_i, zb_o, zm_c, zm_k, zm_s, Nat.zero_add, Nat.sub_zero]
  · intro k hk
    simp (disch := omega) only [zb_c, zb_i, zb_o, zm_c, zm_k, zm_s, Nat.zero_add, Nat.sub_zero]
  · intro k hk
    simp (disch := omega) only [zb_c, zb_i, zb_o, zm_c, zm_k, zm_s, Nat.zero_add, Nat.sub_zero]
  · intro k hk
    simp (disch := omega) only [zb_c, zb_i, zb_o, zm_c, zm_k, zm_s, Nat.zero_add, Nat.sub_zero]
  · intro k hk
    simp (disch := omega) only [zb_c, zb_i, zb_o, zm_c, zm_k, zm_s, Nat.zero_add, Nat.sub_zero]
  · intro k hk
    simp (disch := omega) only [zb_c, zb_i, zb_o, zm_c, zm_k, zm_s, Nat.zero_add, Nat.sub_zero]
  · intro k hk
    simp (disch := omega) only [zb_c, zb_i, zb_o, zm_c, zm_k, zm_s, Nat.zero_add, Nat.sub_zero]
  · repeat (first | refine zf_twI _ _ ?_ rfl | refine zf_tb _ _ _ ?_ rfl)
    exact zf_refl _ _
set_option maxHeartbeats 1000000 in
theorem s_gcopy_3_62 (d : Nat) (μ : zzM) : zw (zzf zzP zN (d + 2) 7 [.ref 3, .ref 62] μ) fun r => zcpg 3 62 μ r.2 ∧ zfr [3, 4, 5, 6, 7, 8, 9] μ r.2 := by
  rw [u_gram_copyFrom_3_62]
  rw [s_acopy (a := 63) (b := 4) (n0 := 12) (n1 := 12) (sp := 0) (dp := 0) (n := 12) _ _ rfl rfl (by omega) (by omega) (by omega) (by omega), Option.bind_some, s_acopy (a := 64) (b := 5) (n0 := 12) (n1 := 12) (sp := 0) (dp := 0) (n := 12) _ _ rfl rfl (by omega) (by omega) (by omega) (by omega), Option.bind_some, s_acopy (a := 65) (b := 6) (n0 := 12) (n1 := 12) (sp := 0) (dp := 0) (n := 12) _ _ rfl rfl (by omega) (by omega) (by omega) (by omega), Option.bind_some, s_acopy (a := 66) (b := 7) (n0 := 12) (n1 := 12) (sp := 0) (dp := 0) (n := 12) _ _ rfl rfl (by omega) (by omega) (by omega) (by omega), Option.bind_some, s_acopy (a := 67) (b := 8) (n0 := 48) (n1 := 48) (sp := 0) (dp := 0) (n := 48) _ _ rfl rfl (by omega) (by omega) (by omega) (by omega), Option.bind_some, s_acopy (a := 68) (b := 9) (n0 := 26) (n1 := 26) (sp := 0) (dp := 0) (n := 26) _ _ rfl rfl (by omega) (by omega) (by omega) (by omega), Option.bind_some]
  refine zw_some ⟨⟨?_, ?_, ?_, ?_, ?_, ?_, ?_⟩, ?_⟩
  · intro k hk
    match k, hk with
    | 0, _ => simp (disch := omega) only [zb_c, zb_i, zb_o, zm_c, zm_k, zm_s, Nat.zero_add, Nat.sub_zero]
    | 1, _ => simp (disch := omega) only [zb_c, zb_i, zb_o, zm_c, zm_k, zm_s, Nat.zero_add, Nat.sub_zero]
  · intro k hk
    simp (disch := omega) only [zb_c, zb_i, zb_o, zm_c, zm_k, zm_s, Nat.zero_add, Nat.sub_zero]
  · intro k hk
    simp (disch := omega) only [zb_c, zb_i, zb_o, zm_c, zm_k, zm_s, Nat.zero_add, Nat.sub_zero]
  · intro k hk
    simp (disch := omega) only [zb_c, zb_i, zb_o, zm_c, zm_k, zm_s, Nat.zero_add, Nat.sub_zero]
  · intro k hk
    simp (disch := omega) only [zb_c, zb_i, zb_o, zm_c, zm_k, zm_s, Nat.zero_add, Nat.sub_zero]
  · intro k hk
    simp (disch := omega) only [zb_c, zb_i, zb_o, zm_c, zm_k, zm_s, Nat.zero_add, Nat.sub_zero]
  · intro k hk
    simp (disch := omega) only [zb_c, zb_i, zb_o, zm_c, zm_k, zm_s, Nat.zero_add, Nat.sub_zero]
  · repeat (first | refine zf_twI _ _ ?_ rfl | refine zf_tb _ _ _ ?_ rfl)
    exact zf_refl _ _
set_option maxHeartbeats 1000000 in
theorem s_gcopy_3_73 (d : Nat) (μ : zzM) : zw (zzf zzP zN (d + 2) 7 [.ref 3, .ref 73] μ) fun r => zcpg 3 73 μ r.2 ∧ zfr [3, 4, 5, 6, 7, 8, 9] μ r.2 := by
  rw [u_gram_copyFrom_3_73]
  rw [s_acopy (a := 74) (b := 4) (n0 := 12) (n1 := 12) (sp := 0) (dp := 0) (n := 12) _ _ rfl rfl (by omega) (by omega) (by omega) (by omega), Option.bind_some, s_acopy (a := 75) (b := 5) (n0 := 12) (n1 := 12) (sp := 0) (dp := 0) (n := 12) _ _ rfl rfl (by omega) (by omega) (by omega) (by omega), Option.bind_some, s_acopy (a := 76) (b := 6) (n0 := 12) (n1 := 12) (sp := 0) (dp := 0) (n := 12) _ _ rfl rfl (by omega) (by omega) (by omega) (by omega), Option.bind_some, s_acopy (a := 77) (b := 7) (n0 := 12) (n1 := 12) (sp := 0) (dp := 0) (n := 12) _ _ rfl rfl (by omega) (by omega) (by omega) (by omega), Option.bind_some, s_acopy (a := 78) (b := 8) (n0 := 48) (n1 := 48) (sp := 0) (dp := 0) (n := 48) _ _ rfl rfl (by omega) (by omega) (by omega) (by omega), Option.bind_some, s_acopy (a := 79) (b := 9) (n0 := 26) (n1 := 26) (sp := 0) (dp := 0) (n := 26) _ _ rfl rfl (by omega) (by omega) (by omega) (by omega), Option.bind_some]
  refine zw_some ⟨⟨?_, ?_, ?_, ?_, ?_, ?_, ?_⟩, ?_⟩
  · intro k hk
    match k, hk with
    | 0, _ => simp (disch := omega) only [zb_c, zb_i, zb_o, zm_c, zm_k, zm_s, Nat.zero_add, Nat.sub_zero]
    | 1, _ => simp (disch := omega) only [zb_c, zb_i, zb_o, zm_c, zm_k, zm_s, Nat.zero_add, Nat.sub_zero]
  · intro k hk
    simp (disch := omega) only [zb_c, zb_i, zb_o, zm_c, zm_k, zm_s, Nat.zero_add, Nat.sub_zero]
  · intro k hk
    simp (disch := omega) only [zb_c, zb_i, zb_o, zm_c, zm_k, zm_s, Nat.zero_add, Nat.sub_zero]
  · intro k hk
    simp (disch := omega) only [zb_c, zb_i, zb_o, zm_c, zm_k, zm_s, Nat.zero_add, Nat.sub_zero]
  · intro k hk
    simp (disch := omega) only [zb_c, zb_i, zb_o, zm_c, zm_k, zm_s, Nat.zero_add, Nat.sub_zero]
  · intro k hk
    simp (disch := omega) only [zb_c, zb_i, zb_o, zm_c, zm_k, zm_s, Nat.zero_add, Nat.sub_zero]
  · intro k hk
    simp (disch := omega) only [zb_c, zb_i, zb_o, zm_c, zm_k, zm_s, Nat.zero_add, Nat.sub_zero]
  · repeat (first | refine zf_twI _ _ ?_ rfl | refine zf_tb _ _ _ ?_ rfl)
    exact zf_refl _ _
set_option maxHeartbeats 1000000 in
theorem s_gcopy_3_84 (d : Nat) (μ : zzM) : zw (zzf zzP zN (d + 2) 7 [.ref 3, .ref 84] μ) fun r => zcpg 3 84 μ r.2 ∧ zfr [3, 4, 5, 6, 7, 8, 9] μ r.2 := by
  rw [u_gram_copyFrom_3_84]
  rw [s_acopy (a := 85) (b := 4) (n0 := 12) (n1 := 12) (sp := 0) (dp := 0) (n := 12) _ _ rfl rfl (by omega) (by omega) (by omega) (by omega), Option.bind_some, s_acopy (a := 86) (b := 5) (n0 := 12) (n1 := 12) (sp := 0) (dp := 0) (n := 12) _ _ rfl rfl (by omega) (by omega) (by omega) (by omega), Option.bind_some, s_acopy (a := 87) (b := 6) (n0 := 12) (n1 := 12) (sp := 0) (dp := 0) (n := 12) _ _ rfl rfl (by omega) (by omega) (by omega) (by omega), Option.bind_some, s_acopy (a := 88) (b := 7) (n0 := 12) (n1 := 12) (sp := 0) (dp := 0) (n := 12) _ _ rfl rfl (by omega) (by omega) (by omega) (by omega), Option.bind_some, s_acopy (a := 89) (b := 8) (n0 := 48) (n1 := 48) (sp := 0) (dp := 0) (n := 48) _ _ rfl rfl (by omega) (by omega) (by omega) (by omega), Option.bind_some, s_acopy (a := 90) (b := 9) (n0 := 26) (n1 := 26) (sp := 0) (dp := 0) (n := 26) _ _ rfl rfl (by omega) (by omega) (by omega) (by omega), Option.bind_some]
  refine zw_some ⟨⟨?_, ?_, ?_, ?_, ?_, ?_, ?_⟩, ?_⟩
  · intro k hk
    match k, hk with
    | 0, _ => simp (disch := omega) only [zb_c, zb_i, zb_o, zm_c, zm_k, zm_s, Nat.zero_add, Nat.sub_zero]
    | 1, _ => simp (disch := omega) only [zb_c, zb_i, zb_o, zm_c, zm_k, zm_s, Nat.zero_add, Nat.sub_zero]
  · intro k hk
    simp (disch := omega) only [zb_c, zb_i, zb_o, zm_c, zm_k, zm_s, Nat.zero_add, Nat.sub_zero]
  · intro k hk
    simp (disch := omega) only [zb_c, zb_i, zb_o, zm_c, zm_k, zm_s, Nat.zero_add, Nat.sub_zero]
  · intro k hk
    simp (disch := omega) only [zb_c, zb_i, zb_o, zm_c, zm_k, zm_s, Nat.zero_add, Nat.sub_zero]
  · intro k hk
    simp (disch := omega) only [zb_c, zb_i, zb_o, zm_c, zm_k, zm_s, Nat.zero_add, Nat.sub_zero]
  · intro k hk
    simp (disch := omega) only [zb_c, zb_i, zb_o, zm_c, zm_k, zm_s, Nat.zero_add, Nat.sub_zero]
  · intro k hk
    simp (disch := omega) only [zb_c, zb_i, zb_o, zm_c, zm_k, zm_s, Nat.zero_add, Nat.sub_zero]
  · repeat (first | refine zf_twI _ _ ?_ rfl | refine zf_tb _ _ _ ?_ rfl)
    exact zf_refl _ _
set_option maxHeartbeats 1000000 in
theorem s_gcopy_3_95 (d : Nat) (μ : zzM) : zw (zzf zzP zN (d + 2) 7 [.ref 3, .ref 95] μ) fun r => zcpg 3 95 μ r.2 ∧ zfr [3, 4, 5, 6, 7, 8, 9] μ r.2 := by
  rw [u_gram_copyFrom_3_95]
  rw [s_acopy (a := 96) (b := 4) (n0 := 12) (n1 := 12) (sp := 0) (dp := 0) (n := 12) _ _ rfl rfl (by omega) (by omega) (by omega) (by omega), Option.bind_some, s_acopy (a := 97) (b := 5) (n0 := 12) (n1 := 12) (sp := 0) (dp := 0) (n := 12) _ _ rfl rfl (by omega) (by omega) (by omega) (by omega), Option.bind_some, s_acopy (a := 98) (b := 6) (n0 := 12) (n1 := 12) (sp := 0) (dp := 0) (n := 12) _ _ rfl rfl (by omega) (by omega) (by omega) (by omega), Option.bind_some, s_acopy (a := 99) (b := 7) (n0 := 12) (n1 := 12) (sp := 0) (dp := 0) (n := 12) _ _ rfl rfl (by omega) (by omega) (by omega) (by omega), Option.bind_some, s_acopy (a := 100) (b := 8) (n0 := 48) (n1 := 48) (sp := 0) (dp := 0) (n := 48) _ _ rfl rfl (by omega) (by omega) (by omega) (by omega), Option.bind_some, s_acopy (a := 101) (b := 9) (n0 := 26) (n1 := 26) (sp := 0) (dp := 0) (n := 26) _ _ rfl rfl (by omega) (by omega) (by omega) (by omega), Option.bind_some]
  refine zw_some ⟨⟨?_, ?_, ?_, ?_, ?_, ?_, ?_⟩, ?_⟩
  · intro k hk
    match k, hk with
    | 0, _ => simp (disch := omega) only [zb_c, zb_i, zb_o, zm_c, zm_k, zm_s, Nat.zero_add, Nat.sub_zero]
    | 1, _ => simp (disch := omega) only [zb_c, zb_i, zb_o, zm_c, zm_k, zm_s, Nat.zero_add, Nat.sub_zero]
  · intro k hk
    simp (disch := omega) only [zb_c, zb_i, zb_o, zm_c, zm_k, zm_s, Nat.zero_add, Nat.sub_zero]
  · intro k hk
    simp (disch := omega) only [zb_c, zb_i, zb_o, zm_c, zm_k, zm_s, Nat.zero_add, Nat.sub_zero]
  · intro k hk
    simp (disch := omega) only [zb_c, zb_i, zb_o, zm_c, zm_k, zm_s, Nat.zero_add, Nat.sub_zero]
  · intro k hk
    simp (disch := omega) only [zb_c, zb_i, zb_o, zm_c, zm_k, zm_s, Nat.zero_add, Nat.sub_zero]
  · intro k hk
    simp (disch := omega) only [zb_c, zb_i, zb_o, zm_c, zm_k, zm_s, Nat.zero_add, Nat.sub_zero]
  · intro k hk
    simp (disch := omega) only [zb_c, zb_i, zb_o, zm_c, zm_k, zm_s, Nat.zero_add, Nat.sub_zero]
  · repeat (first | refine zf_twI _ _ ?_ rfl | refine zf_tb _ _ _ ?_ rfl)
    exact zf_refl _ _
set_option maxHeartbeats 1000000 in
theorem s_scopy_61_2 (d : Nat) (μ : zzM) : zw (zzf zzP zN (d + 3) 20 [.ref 61, .ref 2] μ) fun r => zcps 61 2 μ r.2 ∧ zfr [61, 62, 63, 64, 65, 66, 67, 68, 69, 70, 71] μ r.2 := by
  rw [u_set_copyFrom_61_2]
  refine zw_bind (s_gcopy_62_3 d μ) ?_
  rintro ⟨r, ν⟩ ⟨⟨g1, g2, g3, g4, g5, g6, g7⟩, hf⟩
  simp only at g1 g2 g3 g4 g5 g6 g7 hf ⊢
  rw [s_acopy (a := 10) (b := 69) (n0 := 12) (n1 := 12) (sp := 0) (dp := 0) (n := 12) _ _ rfl rfl (by omega) (by omega) (by omega) (by omega), Option.bind_some, s_acopy (a := 11) (b := 70) (n0 := 48) (n1 := 48) (sp := 0) (dp := 0) (n := 48) _ _ rfl rfl (by omega) (by omega) (by omega) (by omega), Option.bind_some, s_acopy (a := 12) (b := 71) (n0 := 20) (n1 := 20) (sp := 0) (dp := 0) (n := 20) _ _ rfl rfl (by omega) (by omega) (by omega) (by omega), Option.bind_some]
  have fi : ∀ {c : Nat}, List.elem c [62, 63, 64, 65, 66, 67, 68] = false → ν.1 c = μ.1 c := fun h => zf_i hf h
  refine zw_some ⟨⟨⟨?_, ?_, ?_, ?_, ?_, ?_, ?_⟩, ?_, ?_, ?_, ?_, ?_, ?_, ?_, ?_, ?_, ?_⟩, ?_⟩
  · intro k hk
    simp (disch := omega) only [zb_c, zb_i, zb_o, zm_c, zm_k, zm_s, Nat.zero_add, Nat.sub_zero]
    exact g1 k hk
  · intro k hk
    simp (disch := omega) only [zb_c, zb_i, zb_o, zm_c, zm_k, zm_s, Nat.zero_add, Nat.sub_zero]
    exact g2 k hk
  · intro k hk
    simp (disch := omega) only [zb_c, zb_i, zb_o, zm_c, zm_k, zm_s, Nat.zero_add, Nat.sub_zero]
    exact g3 k hk
  · intro k hk
    simp (disch := omega) only [zb_c, zb_i, zb_o, zm_c, zm_k, zm_s, Nat.zero_add, Nat.sub_zero]
    exact g4 k hk
  · intro k hk
    simp (disch := omega) only [zb_c, zb_i, zb_o, zm_c, zm_k, zm_s, Nat.zero_add, Nat.sub_zero]
    exact g5 k hk
  · intro k hk
    simp (disch := omega) only [zb_c, zb_i, zb_o, zm_c, zm_k, zm_s, Nat.zero_add, Nat.sub_zero]
    exact g6 k hk
  · intro k hk
    simp (disch := omega) only [zb_c, zb_i, zb_o, zm_c, zm_k, zm_s, Nat.zero_add, Nat.sub_zero]
    exact g7 k hk
  · intro k hk
    simp (disch := omega) only [zb_c, zb_i, zb_o, zm_c, zm_k, zm_s, Nat.zero_add, Nat.sub_zero]
    rw [fi rfl]
  · intro k hk
    simp (disch := omega) only [zb_c, zb_i, zb_o, zm_c, zm_k, zm_s, Nat.zero_add, Nat.sub_zero]
    rw [fi rfl]
  · intro k hk
    simp (disch := omega) only [zb_c, zb_i, zb_o, zm_c, zm_k, zm_s, Nat.zero_add, Nat.sub_zero]
    rw [fi rfl]
  · simp (disch := omega) only [zb_c, zb_i, zb_o, zm_c, zm_k, zm_s, Nat.zero_add, Nat.sub_zero]
    rw [fi rfl]
  · simp (disch := omega) only [zb_c, zb_i, zb_o, zm_c, zm_k, zm_s, Nat.zero_add, Nat.sub_zero]
    rw [fi rfl]
  · simp (disch := omega) only [zb_c, zb_i, zb_o, zm_c, zm_k, zm_s, Nat.zero_add, Nat.sub_zero]
    rw [fi rfl]
  · simp (disch := omega) only [zb_c, zb_i, zb_o, zm_c, zm_k, zm_s, Nat.zero_add, Nat.sub_zero]
    rw [fi rfl]
  · simp (disch := omega) only [zb_c, zb_i, zb_o, zm_c, zm_k, zm_s, Nat.zero_add, Nat.sub_zero]
    rw [fi rfl]
  · simp (disch := omega) only [zb_c, zb_i, zb_o, zm_c, zm_k, zm_s, Nat.zero_add, Nat.sub_zero]
    rw [fi rfl]
  · simp (disch := omega) only [zb_c, zb_i, zb_o, zm_c, zm_k, zm_s, Nat.zero_add, Nat.sub_zero]
    rw [fi rfl]
  · repeat (first | refine zf_twI _ _ ?_ rfl | refine zf_tb _ _ _ ?_ rfl)
    exact zf_mono hf rfl
set_option maxHeartbeats 1000000 in
theorem s_scopy_72_2 (d : Nat) (μ : zzM) : zw (zzf zzP zN (d + 3) 20 [.ref 72, .ref 2] μ) fun r => zcps 72 2 μ r.2 ∧ zfr [72, 73, 74, 75, 76, 77, 78, 79, 80, 81, 82] μ r.2 := by
  rw [u_set_copyFrom_72_2]
  refine zw_bind (s_gcopy_73_3 d μ) ?_
  rintro ⟨r, ν⟩ ⟨⟨g1, g2, g3, g4, g5, g6, g7⟩, hf⟩
  simp only at g1 g2 g3 g4 g5 g6 g7 hf ⊢
  rw [s_acopy (a := 10) (b := 80) (n0 := 12) (n1 := 12) (sp := 0) (dp := 0) (n := 12) _ _ rfl rfl (by omega) (by omega) (by omega) (by omega), Option.bind_some, s_acopy (a := 11) (b := 81) (n0 := 48) (n1 := 48) (sp := 0) (dp := 0) (n := 48) _ _ rfl rfl (by omega) (by omega) (by omega) (by omega), Option.bind_some, s_acopy (a := 12) (b := 82) (n0 := 20) (n1 := 20) (sp := 0) (dp := 0) (n := 20) _ _ rfl rfl (by omega) (by omega) (by omega) (by omega), Option.bind_some]
  have fi : ∀ {c : Nat}, List.elem c [73, 74, 75, 76, 77, 78, 79] = false → ν.1 c = μ.1 c := fun h => zf_i hf h
  refine zw_some ⟨⟨⟨?_, ?_, ?_, ?_, ?_, ?_, ?_⟩, ?_, ?_, ?_, ?_, ?_, ?_, ?_, ?_, ?_, ?_⟩, ?_⟩
  · intro k hk
    simp (disch := omega) only [zb_c, zb_i, zb_o, zm_c, zm_k, zm_s, Nat.zero_add, Nat.sub_zero]
    exact g1 k hk
  · intro k hk
    simp (disch := omega) only [zb_c, zb_i, zb_o, zm_c, zm_k, zm_s, Nat.zero_add, Nat.sub_zero]
    exact g2 k hk
  · intro k hk
    simp (disch := omega) only [zb_c, zb_i, zb_o, zm_c, zm_k, zm_s, Nat.zero_add, Nat.sub_zero]
    exact g3 k hk
  · intro k hk
    simp (disch := omega) only [zb_c, zb_i, zb_o, zm_c, zm_k, zm_s, Nat.zero_add, Nat.sub_zero]
    exact g4 k hk
  · intro k hk
    simp (disch := omega) only [zb_c, zb_i, zb_o, zm_c, zm_k, zm_s, Nat.zero_add, Nat.sub_zero]
    exact g5 k hk
  · intro k hk
    simp (disch := omega) only [zb_c, zb_i, zb_o, zm_c, zm_k, zm_s, Nat.zero_add, Nat.sub_zero]
    exact g6 k hk
  · intro k hk
    simp (disch := omega) only [zb_c, zb_i, zb_o, zm_c, zm_k, zm_s, Nat.zero_add, Nat.sub_zero]
    exact g7 k hk
  · intro k hk
    simp (disch := omega) only [zb_c, zb_i, zb_o, zm_c, zm_k, zm_s, Nat.zero_add, Nat.sub_zero]
    rw [fi rfl]
  · intro k hk
    simp (disch := omega) only [zb_c, zb_i, zb_o, zm_c, zm_k, zm_s, Nat.zero_add, Nat.sub_zero]
    rw [fi rfl]
  · intro k hk
    simp (disch := omega) only [zb_c, zb_i, zb_o, zm_c, zm_k, zm_s, Nat.zero_add, Nat.sub_zero]
    rw [fi rfl]
  · simp (disch := omega) only [zb_c, zb_i, zb_o, zm_c, zm_k, zm_s, Nat.zero_add, Nat.sub_zero]
    rw [fi rfl]
  · simp (disch := omega) only [zb_c, zb_i, zb_o, zm_c, zm_k, zm_s, Nat.zero_add, Nat.sub_zero]
    rw [fi rfl]
  · simp (disch := omega) only [zb_c, zb_i, zb_o, zm_c, zm_k, zm_s, Nat.zero_add, Nat.sub_zero]
    rw [fi rfl]
  · simp (disch := omega) only [zb_c, zb_i, zb_o, zm_c, zm_k, zm_s, Nat.zero_add, Nat.sub_zero]
    rw [fi rfl]
  · simp (disch := omega) only [zb_c, zb_i, zb_o, zm_c, zm_k, zm_s, Nat.zero_add, Nat.sub_zero]
    rw [fi rfl]
  · simp (disch := omega) only [zb_c, zb_i, zb_o, zm_c, zm_k, zm_s, Nat.zero_add, Nat.sub_zero]
    rw [fi rfl]
  · simp (disch := omega) only [zb_c, zb_i, zb_o, zm_c, zm_k, zm_s, Nat.zero_add, Nat.sub_zero]
    rw [fi rfl]
  · repeat (first | refine zf_twI _ _ ?_ rfl | refine zf_tb _ _ _ ?_ rfl)
    exact zf_mono hf rfl
set_option maxHeartbeats 1000000 in
theorem s_scopy_83_2 (d : Nat) (μ : zzM) : zw (zzf zzP zN (d + 3) 20 [.ref 83, .ref 2] μ) fun r => zcps 83 2 μ r.2 ∧ zfr [83, 84, 85, 86, 87, 88, 89, 90, 91, 92, 93] μ r.2 := by
  rw [u_set_copyFrom_83_2]
  refine zw_bind (s_gcopy_84_3 d μ) ?_
  rintro ⟨r, ν⟩ ⟨⟨g1, g2, g3, g4, g5, g6, g7⟩, hf⟩
  simp only at g1 g2 g3 g4 g5 g6 g7 hf ⊢
  rw [s_acopy (a := 10) (b := 91) (n0 := 12) (n1 := 12) (sp := 0) (dp := 0) (n := 12) _ _ rfl rfl (by omega) (by omega) (by omega) (by omega), Option.bind_some, s_acopy (a := 11) (b := 92) (n0 := 48) (n1 := 48) (sp := 0) (dp := 0) (n := 48) _ _ rfl rfl (by omega) (by omega) (by omega) (by omega), Option.bind_some, s_acopy (a := 12) (b := 93) (n0 := 20) (n1 := 20) (sp := 0) (dp := 0) (n := 20) _ _ rfl rfl (by omega) (by omega) (by omega) (by omega), Option.bind_some]
  have fi : ∀ {c : Nat}, List.elem c [84, 85, 86, 87, 88, 89, 90] = false → ν.1 c = μ.1 c := fun h => zf_i hf h
  refine zw_some ⟨⟨⟨?_, ?_, ?_, ?_, ?_, ?_, ?_⟩, ?_, ?_, ?_, ?_, ?_, ?_, ?_, ?_, ?_, ?_⟩, ?_⟩
  · intro k hk
    simp (disch := omega) only [zb_c, zb_i, zb_o, zm_c, zm_k, zm_s, Nat.zero_add, Nat.sub_zero]
    exact g1 k hk
  · intro k hk
    simp (disch := omega) only [zb_c, zb_i, zb_o, zm_c, zm_k, zm_s, Nat.zero_add, Nat.sub_zero]
    exact g2 k hk
  · intro k hk
    simp (disch := omega) only [zb_c, zb_i, zb_o, zm_c, zm_k, zm_s, Nat.zero_add, Nat.sub_zero]
    exact g3 k hk
  · intro k hk
    simp (disch := omega) only [zb_c, zb_i, zb_o, zm_c, zm_k, zm_s, Nat.zero_add, Nat.sub_zero]
    exact g4 k hk
  · intro k hk
    simp (disch := omega) only [zb_c, zb_i, zb_o, zm_c, zm_k, zm_s, Nat.zero_add, Nat.sub_zero]
    exact g5 k hk
  · intro k hk
    simp (disch := omega) only [zb_c, zb_i, zb_o, zm_c, zm_k, zm_s, Nat.zero_add, Nat.sub_zero]
    exact g6 k hk
  · intro k hk
    simp (disch := omega) only [zb_c, zb_i, zb_o, zm_c, zm_k, zm_s, Nat.zero_add, Nat.sub_zero]
    exact g7 k hk
  · intro k hk
    simp (disch := omega) only [zb_c, zb_i, zb_o, zm_c, zm_k, zm_s, Nat.zero_add, Nat.sub_zero]
    rw [fi rfl]
  · intro k hk
    simp (disch := omega) only [zb_c, zb_i, zb_o, zm_c, zm_k, zm_s, Nat.zero_add, Nat.sub_zero]
    rw [fi rfl]
  · intro k hk
    simp (disch := omega) only [zb_c, zb_i, zb_o, zm_c, zm_k, zm_s, Nat.zero_add, Nat.sub_zero]
    rw [fi rfl]
  · simp (disch := omega) only [zb_c, zb_i, zb_o, zm_c, zm_k, zm_s, Nat.zero_add, Nat.sub_zero]
    rw [fi rfl]
  · simp (disch := omega) only [zb_c, zb_i, zb_o, zm_c, zm_k, zm_s, Nat.zero_add, Nat.sub_zero]
    rw [fi rfl]
  · simp (disch := omega) only [zb_c, zb_i, zb_o, zm_c, zm_k, zm_s, Nat.zero_add, Nat.sub_zero]
    rw [fi rfl]
  · simp (disch := omega) only [zb_c, zb_i, zb_o, zm_c, zm_k, zm_s, Nat.zero_add, Nat.sub_zero]
    rw [fi rfl]
  · simp (disch := omega) only [zb_c, zb_i, zb_o, zm_c, zm_k, zm_s, Nat.zero_add, Nat.sub_zero]
    rw [fi rfl]
  · simp (disch := omega) only [zb_c, zb_i, zb_o, zm_c, zm_k, zm_s, Nat.zero_add, Nat.sub_zero]
    rw [fi rfl]
  · simp (disch := omega) only [zb_c, zb_i, zb_o, zm_c, zm_k, zm_s, Nat.zero_add, Nat.sub_zero]
    rw [fi rfl]
  · repeat (first | refine zf_twI _ _ ?_ rfl | refine zf_tb _ _ _ ?_ rfl)
    exact zf_mono hf rfl
set_option maxHeartbeats 1000000 in
theorem s_scopy_94_2 (d : Nat) (μ : zzM) : zw (zzf zzP zN (d + 3) 20 [.ref 94, .ref 2] μ) fun r => zcps 94 2 μ r.2 ∧ zfr [94, 95, 96, 97, 98, 99, 100, 101, 102, 103, 104] μ r.2 := by
  rw [u_set_copyFrom_94_2]
  refine zw_bind (s_gcopy_95_3 d μ) ?_
  rintro ⟨r, ν⟩ ⟨⟨g1, g2, g3, g4, g5, g6, g7⟩, hf⟩
  simp only at g1 g2 g3 g4 g5 g6 g7 hf ⊢
  rw [s_acopy (a := 10) (b := 102) (n0 := 12) (n1 := 12) (sp := 0) (dp := 0) (n := 12) _ _ rfl rfl (by omega) (by omega) (by omega) (by omega), Option.bind_some, s_acopy (a := 11) (b := 103) (n0 := 48) (n1 := 48) (sp := 0) (dp := 0) (n := 48) _ _ rfl rfl (by omega) (by omega) (by omega) (by omega), Option.bind_some, s_acopy (a := 12) (b := 104) (n0 := 20) (n1 := 20) (sp := 0) (dp := 0) (n := 20) _ _ rfl rfl (by omega) (by omega) (by omega) (by omega), Option.bind_some]
  have fi : ∀ {c : Nat}, List.elem c [95, 96, 97, 98, 99, 100, 101] = false → ν.1 c = μ.1 c := fun h => zf_i hf h
  refine zw_some ⟨⟨⟨?_, ?_, ?_, ?_, ?_, ?_, ?_⟩, ?_, ?_, ?_, ?_, ?_, ?_, ?_, ?_, ?_, ?_⟩, ?_⟩
  · intro k hk
    simp (disch := omega) only [zb_c, zb_i, zb_o, zm_c, zm_k, zm_s, Nat.zero_add, Nat.sub_zero]
    exact g1 k hk
  · intro k hk
    simp (disch := omega) only [zb_c, zb_i, zb_o, zm_c, zm_k, zm_s, Nat.zero_add, Nat.sub_zero]
    exact g2 k hk
  · intro k hk
    simp (disch := omega) only [zb_c, zb_i, zb_o, zm_c, zm_k, zm_s, Nat.zero_add, Nat.sub_zero]
    exact g3 k hk
  · intro k hk
    simp (disch := omega) only [zb_c, zb_i, zb_o, zm_c, zm_k, zm_s, Nat.zero_add, Nat.sub_zero]
    exact g4 k hk
  · intro k hk
    simp (disch := omega) only [zb_c, zb_i, zb_o, zm_c, zm_k, zm_s, Nat.zero_add, Nat.sub_zero]
    exact g5 k hk
  · intro k hk
    simp (disch := omega) only [zb_c, zb_i, zb_o, zm_c, zm_k, zm_s, Nat.zero_add, Nat.sub_zero]
    exact g6 k hk
  · intro k hk
    simp (disch := omega) only [zb_c, zb_i, zb_o, zm_c, zm_k, zm_s, Nat.zero_add, Nat.sub_zero]
    exact g7 k hk
  · intro k hk
    simp (disch := omega) only [zb_c, zb_i, zb_o, zm_c, zm_k, zm_s, Nat.zero_add, Nat.sub_zero]
    rw [fi rfl]
  · intro k hk
    simp (disch := omega) only [zb_c, zb_i, zb_o, zm_c, zm_k, zm_s, Nat.zero_add, Nat.sub_zero]
    rw [fi rfl]
  · intro k hk
    simp (disch := omega) only [zb_c, zb_i, zb_o, zm_c, zm_k, zm_s, Nat.zero_add, Nat.sub_zero]
    rw [fi rfl]
  · simp (disch := omega) only [zb_c, zb_i, zb_o, zm_c, zm_k, zm_s, Nat.zero_add, Nat.sub_zero]
    rw [fi rfl]
  · simp (disch := omega) only [zb_c, zb_i, zb_o, zm_c, zm_k, zm_s, Nat.zero_add, Nat.sub_zero]
    rw [fi rfl]
  · simp (disch := omega) only [zb_c, zb_i, zb_o, zm_c, zm_k, zm_s, Nat.zero_add, Nat.sub_zero]
    rw [fi rfl]
  · simp (disch := omega) only [zb_c, zb_i, zb_o, zm_c, zm_k, zm_s, Nat.zero_add, Nat.sub_zero]
    rw [fi rfl]
  · simp (disch := omega) only [zb_c, zb_i, zb_o, zm_c, zm_k, zm_s, Nat.zero_add, Nat.sub_zero]
    rw [fi rfl]
  · simp (disch := omega) only [zb_c, zb_i, zb_o, zm_c, zm_k, zm_s, Nat.zero_add, Nat.sub_zero]
    rw [fi rfl]
  · simp (disch := omega) only [zb_c, zb_i, zb_o, zm_c, zm_k, zm_s, Nat.zero_add, Nat.sub_zero]
    rw [fi rfl]
  · repeat (first | refine zf_twI _ _ ?_ rfl | refine zf_tb _ _ _ ?_ rfl)
    exact zf_mono hf rfl
set_option maxHeartbeats 1000000 in
theorem s_scopy_2_61 (d : Nat) (μ : zzM) : zw (zzf zzP zN (d + 3) 20 [.ref 2, .ref 61] μ) fun r => zcps 2 61 μ r.2 ∧ zfr [2, 3, 4, 5, 6, 7, 8, 9, 10, 11, 12] μ r.2 := by
  rw [u_set_copyFrom_2_61]
  refine zw_bind (s_gcopy_3_62 d μ) ?_
  rintro ⟨r, ν⟩ ⟨⟨g1, g2, g3, g4, g5, g6, g7⟩, hf⟩
  simp only at g1 g2 g3 g4 g5 g6 g7 hf ⊢
  rw [s_acopy (a := 69) (b := 10) (n0 := 12) (n1 := 12) (sp := 0) (dp := 0) (n := 12) _ _ rfl rfl (by omega) (by omega) (by omega) (by omega), Option.bind_some, s_acopy (a := 70) (b := 11) (n0 := 48) (n1 := 48) (sp := 0) (dp := 0) (n := 48) _ _ rfl rfl (by omega) (by omega) (by omega) (by omega), Option.bind_some, s_acopy (a := 71) (b := 12) (n0 := 20) (n1 := 20) (sp := 0) (dp := 0) (n := 20) _ _ rfl rfl (by omega) (by omega) (by omega) (by omega), Option.bind_some]
  have fi : ∀ {c : Nat}, List.elem c [3, 4, 5, 6, 7, 8, 9] = false → ν.1 c = μ.1 c := fun h => zf_i hf h
  refine zw_some ⟨⟨⟨?_, ?_, ?_, ?_, ?_, ?_, ?_⟩, ?_, ?_, ?_, ?_, ?_, ?_, ?_, ?_, ?_, ?_⟩, ?_⟩
  · intro k hk
    simp (disch := omega) only [zb_c, zb_i, zb_o, zm_c, zm_k, zm_s, Nat.zero_add, Nat.sub_zero]
    exact g1 k hk
  · intro k hk
    simp (disch := omega) only [zb_c, zb_i, zb_o, zm_c, zm_k, zm_s, Nat.zero_add, Nat.sub_zero]
    exact g2 k hk
  · intro k hk
    simp (disch := omega) only [zb_c, zb_i, zb_o, zm_c, zm_k, zm_s, Nat.zero_add, Nat.sub_zero]
    exact g3 k hk
  · intro k hk
    simp (disch := omega) only [zb_c, zb_i, zb_o, zm_c, zm_k, zm_s, Nat.zero_add, Nat.sub_zero]
    exact g4 k hk
  · intro k hk
    simp (disch := omega) only [zb_c, zb_i, zb_o, zm_c, zm_k, zm_s, Nat.zero_add, Nat.sub_zero]
    exact g5 k hk
  · intro k hk
    simp (disch := omega) only [zb_c, zb_i, zb_o, zm_c, zm_k, zm_s, Nat.zero_add, Nat.sub_zero]
    exact g6 k hk
  · intro k hk
    simp (disch := omega) only [zb_c, zb_i, zb_o, zm_c, zm_k, zm_s, Nat.zero_add, Nat.sub_zero]
    exact g7 k hk
  · intro k hk
    simp (disch := omega) only [zb_c, zb_i, zb_o, zm_c, zm_k, zm_s, Nat.zero_add, Nat.sub_zero]
    rw [fi rfl]
  · intro k hk
    simp (disch := omega) only [zb_c, zb_i, zb_o, zm_c, zm_k, zm_s, Nat.zero_add, Nat.sub_zero]
    rw [fi rfl]
  · intro k hk
    simp (disch := omega) only [zb_c, zb_i, zb_o, zm_c, zm_k, zm_s, Nat.zero_add, Nat.sub_zero]
    rw [fi rfl]
  · simp (disch := omega) only [zb_c, zb_i, zb_o, zm_c, zm_k, zm_s, Nat.zero_add, Nat.sub_zero]
    rw [fi rfl]
  · simp (disch := omega) only [zb_c, zb_i, zb_o, zm_c, zm_k, zm_s, Nat.zero_add, Nat.sub_zero]
    rw [fi rfl]
  · simp (disch := omega) only [zb_c, zb_i, zb_o, zm_c, zm_k, zm_s, Nat.zero_add, Nat.sub_zero]
    rw [fi rfl]
  · simp (disch := omega) only [zb_c, zb_i, zb_o, zm_c, zm_k, zm_s, Nat.zero_add, Nat.sub_zero]
    rw [fi rfl]
  · simp (disch := omega) only [zb_c, zb_i, zb_o, zm_c, zm_k, zm_s, Nat.zero_add, Nat.sub_zero]
    rw [fi rfl]
  · simp (disch := omega) only [zb_c, zb_i, zb_o, zm_c, zm_k, zm_s, Nat.zero_add, Nat.sub_zero]
    rw [fi rfl]
  · simp (disch := omega) only [zb_c, zb_i, zb_o, zm_c, zm_k, zm_s, Nat.zero_add, Nat.sub_zero]
    rw [fi rfl]
  · repeat (first | refine zf_twI _ _ ?_ rfl | refine zf_tb _ _ _ ?_ rfl)
    exact zf_mono hf rfl
set_option maxHeartbeats 1000000 in
theorem s_scopy_2_72 (d : Nat) (μ : zzM) : zw (zzf zzP zN (d + 3) 20 [.ref 2, .ref 72] μ) fun r => zcps 2 72 μ r.2 ∧ zfr [2, 3, 4, 5, 6, 7, 8, 9, 10, 11, 12] μ r.2 := by
  rw [u_set_copyFrom_2_72]
  refine zw_bind (s_gcopy_3_73 d μ) ?_
  rintro ⟨r, ν⟩ ⟨⟨g1, g2, g3, g4, g5, g6, g7⟩, hf⟩
  simp only at g1 g2 g3 g4 g5 g6 g7 hf ⊢
  rw [s_acopy (a := 80) (b := 10) (n0 := 12) (n1 := 12) (sp := 0) (dp := 0) (n := 12) _ _ rfl rfl (by omega) (by omega) (by omega) (by omega), Option.bind_some, s_acopy (a := 81) (b := 11) (n0 := 48) (n1 := 48) (sp := 0) (dp := 0) (n := 48) _ _ rfl rfl (by omega) (by omega) (by omega) (by omega), Option.bind_some, s_acopy (a := 82) (b := 12) (n0 := 20) (n1 := 20) (sp := 0) (dp := 0) (n := 20) _ _ rfl rfl (by omega) (by omega) (by omega) (by omega), Option.bind_some]
  have fi : ∀ {c : Nat}, List.elem c [3, 4, 5, 6, 7, 8, 9] = false → ν.1 c = μ.1 c := fun h => zf_i hf h
  refine zw_some ⟨⟨⟨?_, ?_, ?_, ?_, ?_, ?_, ?_⟩, ?_, ?_, ?_, ?_, ?_, ?_, ?_, ?_, ?_, ?_⟩, ?_⟩
  · intro k hk
    simp (disch := omega) only [zb_c, zb_i, zb_o, zm_c, zm_k, zm_s, Nat.zero_add, Nat.sub_zero]
    exact g1 k hk
  · intro k hk
    simp (disch := omega) only [zb_c, zb_i, zb_o, zm_c, zm_k, zm_s, Nat.zero_add, Nat.sub_zero]
    exact g2 k hk
  · intro k hk
    simp (disch := omega) only [zb_c, zb_i, zb_o, zm_c, zm_k, zm_s, Nat.zero_add, Nat.sub_zero]
    exact g3 k hk
  · intro k hk
    simp (disch := omega) only [zb_c, zb_i, zb_o, zm_c, zm_k, zm_s, Nat.zero_add, Nat.sub_zero]
    exact g4 k hk
  · intro k hk
    simp (disch := omega) only [zb_c, zb_i, zb_o, zm_c, zm_k, zm_s, Nat.zero_add, Nat.sub_zero]
    exact g5 k hk
  · intro k hk
    simp (disch := omega) only [zb_c, zb_i, zb_o, zm_c, zm_k, zm_s, Nat.zero_add, Nat.sub_zero]
    exact g6 k hk
  · intro k hk
    simp (disch := omega) only [zb_c, zb_i, zb_o, zm_c, zm_k, zm_s, Nat.zero_add, Nat.sub_zero]
    exact g7 k hk
  · intro k hk
    simp (disch := omega) only [zb_c, zb_i, zb_o, zm_c, zm_k, zm_s, Nat.zero_add, Nat.sub_zero]
    rw [fi rfl]
  · intro k hk
    simp (disch := omega) only [zb_c, zb_i, zb_o, zm_c, zm_k, zm_s, Nat.zero_add, Nat.sub_zero]
    rw [fi rfl]
  · intro k hk
    simp (disch := omega) only [zb_c, zb_i, zb_o, zm_c, zm_k, zm_s, Nat.zero_add, Nat.sub_zero]
    rw [fi rfl]
  · simp (disch := omega) only [zb_c, zb_i, zb_o, zm_c, zm_k, zm_s, Nat.zero_add, Nat.sub_zero]
    rw [fi rfl]
  · simp (disch := omega) only [zb_c, zb_i, zb_o, zm_c, zm_k, zm_s, Nat.zero_add, Nat.sub_zero]
    rw [fi rfl]
  · simp (disch := omega) only [zb_c, zb_i, zb_o, zm_c, zm_k, zm_s, Nat.zero_add, Nat.sub_zero]
    rw [fi rfl]
  · simp (disch := omega) only [zb_c, zb_i, zb_o, zm_c, zm_k, zm_s, Nat.zero_add, Nat.sub_zero]
    rw [fi rfl]
  · simp (disch := omega) only [zb_c, zb_i, zb_o, zm_c, zm_k, zm_s, Nat.zero_add, Nat.sub_zero]
    rw [fi rfl]
  · simp (disch := omega) only [zb_c, zb_i, zb_o, zm_c, zm_k, zm_s, Nat.zero_add, Nat.sub_zero]
    rw [fi rfl]
  · simp (disch := omega) only [zb_c, zb_i, zb_o, zm_c, zm_k, zm_s, Nat.zero_add, Nat.sub_zero]
    rw [fi rfl]
  · repeat (first | refine zf_twI _ _ ?_ rfl | refine zf_tb _ _ _ ?_ rfl)
    exact zf_mono hf rfl
set_option maxHeartbeats 1000000 in
theorem s_scopy_2_83 (d : Nat) (μ : zzM) : zw (zzf zzP zN (d + 3) 20 [.ref 2, .ref 83] μ) fun r => zcps 2 83 μ r.2 ∧ zfr [2, 3, 4, 5, 6, 7, 8, 9, 10, 11, 12] μ r.2 := by
  rw [u_set_copyFrom_2_83]
  refine zw_bind (s_gcopy_3_84 d μ) ?_
  rintro ⟨r, ν⟩ ⟨⟨g1, g2, g3, g4, g5, g6, g7⟩, hf⟩
  simp only at g1 g2 g3 g4 g5 g6 g7 hf ⊢
  rw [s_acopy (a := 91) (b := 10) (n0 := 12) (n1 := 12) (sp := 0) (dp := 0) (n := 12) _ _ rfl rfl (by omega) (by omega) (by omega) (by omega), Option.bind_some, s_acopy (a := 92) (b := 11) (n0 := 48) (n1 := 48) (sp := 0) (dp := 0) (n := 48) _ _ rfl rfl (by omega) (by omega) (by omega) (by omega), Option.bind_some, s_acopy (a := 93) (b := 12) (n0 := 20) (n1 := 20) (sp := 0) (dp := 0) (n := 20) _ _ rfl rfl (by omega) (by omega) (by omega) (by omega), Option.bind_some]
  have fi : ∀ {c : Nat}, List.elem c [3, 4, 5, 6, 7, 8, 9] = false → ν.1 c = μ.1 c := fun h => zf_i hf h
  refine zw_some ⟨⟨⟨?_, ?_, ?_, ?_, ?_, ?_, ?_⟩, ?_, ?_, ?_, ?_, ?_, ?_, ?_, ?_, ?_, ?_⟩, ?_⟩
  · intro k hk
    simp (disch := omega) only [zb_c, zb_i, zb_o, zm_c, zm_k, zm_s, Nat.zero_add, Nat.sub_zero]
    exact g1 k hk
  · intro k hk
    simp (disch := omega) only [zb_c, zb_i, zb_o, zm_c, zm_k, zm_s, Nat.zero_add, Nat.sub_zero]
    exact g2 k hk
  · intro k hk
    simp (disch := omega) only [zb_c, zb_i, zb_o, zm_c, zm_k, zm_s, Nat.zero_add, Nat.sub_zero]
    exact g3 k hk
  · intro k hk
    simp (disch := omega) only [zb_c, zb_i, zb_o, zm_c, zm_k, zm_s, Nat.zero_add, Nat.sub_zero]
    exact g4 k hk
  · intro k hk
    simp (disch := omega) only [zb_c, zb_i, zb_o, zm_c, zm_k, zm_s, Nat.zero_add, Nat.sub_zero]
    exact g5 k hk
  · intro k hk
    simp (disch := omega) only [zb_c, zb_i, zb_o, zm_c, zm_k, zm_s, Nat.zero_add, Nat.sub_zero]
    exact g6 k hk
  · intro k hk
    simp (disch := omega) only [zb_c, zb_i, zb_o, zm_c, zm_k, zm_s, Nat.zero_add, Nat.sub_zero]
    exact g7 k hk
  · intro k hk
    simp (disch := omega) only [zb_c, zb_i, zb_o, zm_c, zm_k, zm_s, Nat.zero_add, Nat.sub_zero]
    rw [fi rfl]
  · intro k hk
    simp (disch := omega) only [zb_c, zb_i, zb_o, zm_c, zm_k, zm_s, Nat.zero_add, Nat.sub_zero]
    rw [fi rfl]
  · intro k hk
    simp (disch := omega) only [zb_c, zb_i, zb_o, zm_c, zm_k, zm_s, Nat.zero_add, Nat.sub_zero]
    rw [fi rfl]
  · simp (disch := omega) only [zb_c, zb_i, zb_o, zm_c, zm_k, zm_s, Nat.zero_add, Nat.sub_zero]
    rw [fi rfl]
  · simp (disch := omega) only [zb_c, zb_i, zb_o, zm_c, zm_k, zm_s, Nat.zero_add, Nat.sub_zero]
    rw [fi rfl]
  · simp (disch := omega) only [zb_c, zb_i, zb_o, zm_c, zm_k, zm_s, Nat.zero_add, Nat.sub_zero]
    rw [fi rfl]
  · simp (disch := omega) only [zb_c, zb_i, zb_o, zm_c, zm_k, zm_s, Nat.zero_add, Nat.sub_zero]
    rw [fi rfl]
  · simp (disch := omega) only [zb_c, zb_i, zb_o, zm_c, zm_k, zm_s, Nat.zero_add, Nat.sub_zero]
    rw [fi rfl]
  · simp (disch := omega) only [zb_c, zb_i, zb_o, zm_c, zm_k, zm_s, Nat.zero_add, Nat.sub_zero]
    rw [fi rfl]
  · simp (disch := omega) only [zb_c, zb_i, zb_o, zm_c, zm_k, zm_s, Nat.zero_add, Nat.sub_zero]
    rw [fi rfl]
  · repeat (first | refine zf_twI _ _ ?_ rfl | refine zf_tb _ _ _ ?_ rfl)
    exact zf_mono hf rfl
set_option maxHeartbeats 1000000 in
theorem s_scopy_2_94 (d : Nat) (μ : zzM) : zw (zzf zzP zN (d + 3) 20 [.ref 2, .ref 94] μ) fun r => zcps 2 94 μ r.2 ∧ zfr [2, 3, 4, 5, 6, 7, 8, 9, 10, 11, 12] μ r.2 := by
  rw [u_set_copyFrom_2_94]
  refine zw_bind (s_gcopy_3_95 d μ) ?_
  rintro ⟨r, ν⟩ ⟨⟨g1, g2, g3, g4, g5, g6, g7⟩, hf⟩
  simp only at g1 g2 g3 g4 g5 g6 g7 hf ⊢
  rw [s_acopy (a := 102) (b := 10) (n0 := 12) (n1 := 12) (sp := 0) (dp := 0) (n := 12) _ _ rfl rfl (by omega) (by omega) (by omega) (by omega), Option.bind_some, s_acopy (a := 103) (b := 11) (n0 := 48) (n1 := 48) (sp := 0) (dp := 0) (n := 48) _ _ rfl rfl (by omega) (by omega) (by omega) (by omega), Option.bind_some, s_acopy (a := 104) (b := 12) (n0 := 20) (n1 := 20) (sp := 0) (dp := 0) (n := 20) _ _ rfl rfl (by omega) (by omega) (by omega) (by omega), Option.bind_some]
  have fi : ∀ {c : Nat}, List.elem c [3, 4, 5, 6, 7, 8, 9] = false → ν.1 c = μ.1 c := fun h => zf_i hf h
  refine zw_some ⟨⟨⟨?_, ?_, ?_, ?_, ?_, ?_, ?_⟩, ?_, ?_, ?_, ?_, ?_, ?_, ?_, ?_, ?_, ?_⟩, ?_⟩
  · intro k hk
    simp (disch := omega) only [zb_c, zb_i, zb_o, zm_c, zm_k, zm_s, Nat.zero_add, Nat.sub_zero]
    exact g1 k hk
  · intro k hk
    simp (disch := omega) only [zb_c, zb_i, zb_o, zm_c, zm_k, zm_s, Nat.zero_add, Nat.sub_zero]
    exact g2 k hk
  · intro k hk
    simp (disch := omega) only [zb_c, zb_i, zb_o, zm_c, zm_k, zm_s, Nat.zero_add, Nat.sub_zero]
    exact g3 k hk
  · intro k hk
    simp (disch := omega) only [zb_c, zb_i, zb_o, zm_c, zm_k, zm_s, Nat.zero_add, Nat.sub_zero]
    exact g4 k hk
  · intro k hk
    simp (disch := omega) only [zb_c, zb_i, zb_o, zm_c, zm_k, zm_s, Nat.zero_add, Nat.sub_zero]
    exact g5 k hk
  · intro k hk
    simp (disch := omega) only [zb_c, zb_i, zb_o, zm_c, zm_k, zm_s, Nat.zero_add, Nat.sub_zero]
    exact g6 k hk
  · intro k hk
    simp (disch := omega) only [zb_c, zb_i, zb_o, zm_c, zm_k, zm_s, Nat.zero_add, Nat.sub_zero]
    exact g7 k hk
  · intro k hk
    simp (disch := omega) only [zb_c, zb_i, zb_o, zm_c, zm_k, zm_s, Nat.zero_add, Nat.sub_zero]
    rw [fi rfl]
  · intro k hk
    simp (disch := omega) only [zb_c, zb_i, zb_o, zm_c, zm_k, zm_s, Nat.zero_add, Nat.sub_zero]
    rw [fi rfl]
  · intro k hk
    simp (disch := omega) only [zb_c, zb_i, zb_o, zm_c, zm_k, zm_s, Nat.zero_add, Nat.sub_zero]
    rw [fi rfl]
  · simp (disch := omega) only [zb_c, zb_i, zb_o, zm_c, zm_k, zm_s, Nat.zero_add, Nat.sub_zero]
    rw [fi rfl]
  · simp (disch := omega) only [zb_c, zb_i, zb_o, zm_c, zm_k, zm_s, Nat.zero_add, Nat.sub_zero]
    rw [fi rfl]
  · simp (disch := omega) only [zb_c, zb_i, zb_o, zm_c, zm_k, zm_s, Nat.zero_add, Nat.sub_zero]
    rw [fi rfl]
  · simp (disch := omega) only [zb_c, zb_i, zb_o, zm_c, zm_k, zm_s, Nat.zero_add, Nat.sub_zero]
    rw [fi rfl]
  · simp (disch := omega) only [zb_c, zb_i, zb_o, zm_c, zm_k, zm_s, Nat.zero_add, Nat.sub_zero]
    rw [fi rfl]
  · simp (disch := omega) only [zb_c, zb_i, zb_o, zm_c, zm_k, zm_s, Nat.zero_add, Nat.sub_zero]
    rw [fi rfl]
  · simp (disch := omega) only [zb_c, zb_i, zb_o, zm_c, zm_k, zm_s, Nat.zero_add, Nat.sub_zero]
    rw [fi rfl]
  · repeat (first | refine zf_twI _ _ ?_ rfl | refine zf_tb _ _ _ ?_ rfl)
    exact zf_mono hf rfl
