/-! bitCount of rules; sums in another order -/
def zbcr (p1 p2 p4 p8 p16 p63 p5 p3 pF : Nat × Nat) : List zzI := [(0, 1, .iload_n 0, [(0, 0)]), (1, 1, .iload_n 0, [(0, 0)]), (2, 1, .iconst 1, [p1]), (3, 1, .iushr, []), (4, 3, .ldc_w 265, [p5]), (7, 1, .iand, []), (8, 1, .isub, []), (9, 1, .istore_n 0, [(0, 0)]), (10, 1, .iload_n 0, [(0, 0)]), (11, 3, .ldc_w 266, [p3]), (14, 1, .iand, []), (15, 1, .iload_n 0, [(0, 0)]), (16, 1, .iconst 2, [p2]), (17, 1, .iushr, []), (18, 3, .ldc_w 266, [p3]), (21, 1, .iand, []), (22, 1, .iadd, []), (23, 1, .istore_n 0, [(0, 0)]), (24, 1, .iload_n 0, [(0, 0)]), (25, 1, .iload_n 0, [(0, 0)]), (26, 1, .iconst 4, [p4]), (27, 1, .iushr, []), (28, 1, .iadd, []), (29, 3, .ldc_w 267, [pF]), (32, 1, .iand, []), (33, 1, .istore_n 0, [(0, 0)]), (34, 1, .iload_n 0, [(0, 0)]), (35, 1, .iload_n 0, [(0, 0)]), (36, 2, .bipush 8, [p8]), (38, 1, .iushr, []), (39, 1, .iadd, []), (40, 1, .istore_n 0, [(0, 0)]), (41, 1, .iload_n 0, [(0, 0)]), (42, 1, .iload_n 0, [(0, 0)]), (43, 2, .bipush 16, [p16]), (45, 1, .iushr, []), (46, 1, .iadd, []), (47, 1, .istore_n 0, [(0, 0)]), (48, 1, .iload_n 0, [(0, 0)]), (49, 2, .bipush 63, [p63]), (51, 1, .iand, []), (52, 1, .ireturn, [])]
def zus (x y : Int32) : Int32 := (x.toUInt32 >>> (y.toUInt32 &&& Int32.toUInt32 31)).toInt32
def zbc1 (c1 c5 a : Int32) : Int32 := a - (zus a c1 &&& c5)
def zbc2 (c2 c3 a : Int32) : Int32 := (a &&& c3) + (zus a c2 &&& c3)
def zbc3 (c4 cF a : Int32) : Int32 := (a + zus a c4) &&& cF
def zbc4 (c a : Int32) : Int32 := a + zus a c
def zbc (c1 c2 c4 c8 c16 c63 c5 c3 cF a : Int32) : Int32 := zbc4 c16 (zbc4 c8 (zbc3 c4 cF (zbc2 c2 c3 (zbc1 c1 c5 a)))) &&& c63
theorem zbc_gen (call : Nat → List Value → zzM → Option zzR) (N : Nat) (p1 p2 p4 p8 p16 p63 p5 p3 pF : Nat × Nat) (a : Int32) (μ : zzM) : zzx call N 1 400 [] (zbcr p1 p2 p4 p8 p16 p63 p5 p3 pF) [(0, .int a)] [] μ = some ((zbc (zzkon p1) (zzkon p2) (zzkon p4) (zzkon p8) (zzkon p16) (zzkon p63) (zzkon p5) (zzkon p3) (zzkon pF) a, 0, 0), μ) := rfl
theorem zbc_r : zt3.2.2.2.2.2 = zbcr (1, 0) (2, 0) (4, 0) (8, 0) (16, 0) (63, 0) (1431655765, 0) (858993459, 0) (252645135, 0) := rfl
theorem zbc_k : zt3.2.2.2.2.1 = 1 := rfl
theorem zbc_q : zzP[0]? = some zt3 := rfl
theorem zbc_l (a : Int32) : lv_args 0 [.int a] = [(0, .int a)] := rfl
def zbcv (a : Int32) : Int32 := zbc (nI 1) (nI 2) (nI 4) (nI 8) (nI 16) (nI 63) (nI 1431655765) (nI 858993459) (nI 252645135) a
theorem s_bc0 (d : Nat) (a : Int32) (μ : zzM) : zzf zzP zN (d + 1) 3 [.int a] μ = some ((zbcv a, 0, 0), μ) := by
  rw [show (3 : Nat) = 0 + 3 from rfl, zzf_at zbc_q rfl, zbc_r, zbc_l, zbc_k, zbc_gen]
  rfl
theorem zbc_12 : ∀ x, x < 64 → ∀ y, y < 64 → zbcv (nI (64 * x + y)) = nI (zcnt (bt (nI (64 * x + y))) 12) := by decide +kernel
/-- an int is its lowest bits -/
theorem b_low12 {x : Int32} (h : ∀ i, i < 32 → bt x i = true → i < 12) : ∃ n, n < 4096 ∧ x = nI n := by
  have e : x &&& nI 4095 = x := b_ext fun i hi => by
    have hb : bt (nI 4095) i = decide (i < 12) := (by decide +kernel : ∀ i, i < 32 → bt (nI 4095) i = decide (i < 12)) i hi
    rw [b_and, hb]
    cases q : bt x i with
    | false => rfl
    | true => rw [decide_eq_true (h i hi q)]; rfl
  obtain ⟨j, h1, h2⟩ := pk_andE x (m := nI 4095) 12 (by decide +kernel)
  exact ⟨j, h1, e.symm.trans h2⟩
theorem s_bitCount (d : Nat) {x : Int32} (h : ∀ i, i < 32 → bt x i = true → i < 12) (μ : zzM) : zzf zzP zN (d + 1) 3 [.int x] μ = some ((nI (zcnt (bt x) 12), 0, 0), μ) := by
  obtain ⟨n, h1, rfl⟩ := b_low12 h
  have := zbc_12 (n / 64) (by omega) (n % 64) (by omega)
  rw [show 64 * (n / 64) + n % 64 = n by omega] at this
  rw [s_bc0, this]
theorem zcnt_su (p : Nat → Bool) : ∀ n, zcnt p n = zsuM (fun i => if p i then 1 else 0) n
  | 0 => rfl
  | n + 1 => by
    unfold zcnt zsuM
    rw [zcnt_su p n]
theorem zsuM_app (f : Nat → Nat) (a : Nat) : ∀ b, zsuM f (a + b) = zsuM f a + zsuM (fun i => f (a + i)) b
  | 0 => rfl
  | b + 1 => by
    show zsuM f (a + b) + f (a + b) = zsuM f a + (zsuM (fun i => f (a + i)) b + f (a + b))
    rw [zsuM_app f a b]
    omega
theorem zsuM_ext {f : Nat → Nat} {n m : Nat} (h : n ≤ m) (hf : ∀ k, n ≤ k → k < m → f k = 0) : zsuM f m = zsuM f n := by
  have := zsuM_app f n (m - n)
  rw [show n + (m - n) = m by omega] at this
  rw [this, zsuM_0 (f := fun i => f (n + i)) fun i hi => hf (n + i) (by omega) (by omega)]
  omega
theorem zsuM_blk (f : Nat → Nat) (m : Nat) : ∀ n, zsuM f (m * n) = zsuM (fun k => zsuM (fun i => f (m * k + i)) m) n
  | 0 => rfl
  | n + 1 => by
    rw [Nat.mul_succ, zsuM_app, zsuM_blk f m n]
    rfl
/-- by lengths, or by begins and ends -/
theorem zsuM_len {F : Nat → Nat → Nat} {N : Nat} (hN : N ≤ 12) (hF : ∀ i j, ¬ (i ≤ j ∧ j ≤ N) → F i j = 0) : zsuM (fun L => zsuM (fun m => F m (m + L)) (N - L + 1)) (N + 1) = zsuM (fun i => zsuM (fun j => F i j) 13) 13 := by
  have h1 : zsuM (fun L => zsuM (fun m => F m (m + L)) (N - L + 1)) (N + 1) = zsuM (fun L => zsuM (fun m => F m (m + L)) 13) 13 := by
    rw [(zsuM_ext (f := fun L => zsuM (fun m => F m (m + L)) 13) (n := N + 1) (m := 13) (by omega) (fun k a b => zsuM_0 fun i _ => hF _ _ (by omega)))]
    exact zsuM_cg fun L hL => (zsuM_ext (by omega) fun k a b => hF _ _ (by omega)).symm
  rw [h1, zsuM_sw (fun m L => F m (m + L)) 13 13]
  refine zsuM_cg fun i hi => ?_
  have h2 := zsuM_app (fun j => F i j) i 13
  rw [zsuM_0 (f := fun j => F i j) (n := i) fun j hj => hF _ _ (by omega), zsuM_ext (f := fun j => F i j) (n := 13) (m := i + 13) (by omega) fun k a b => hF _ _ (by omega)] at h2
  omega
theorem zsuM_tri {F : Nat → Nat → Nat} {N : Nat} (hN : N ≤ 12) (hF : ∀ i j, ¬ (i ≤ j ∧ j ≤ N) → F i j = 0) : zsuM (fun j => zsuM (fun i => F i j) (j + 1)) (N + 1) = zsuM (fun i => zsuM (fun j => F i j) 13) 13 := by
  have h1 : zsuM (fun j => zsuM (fun i => F i j) (j + 1)) (N + 1) = zsuM (fun j => zsuM (fun i => F i j) 13) 13 := by
    rw [(zsuM_ext (f := fun j => zsuM (fun i => F i j) 13) (n := N + 1) (m := 13) (by omega) (fun k a b => zsuM_0 fun i _ => hF _ _ (by omega)))]
    exact zsuM_cg fun j hj => (zsuM_ext (by omega) fun k a b => hF _ _ (by omega)).symm
  rw [h1, zsuM_sw (fun i j => F i j) 13 13]
theorem zsp_s : ∀ j, j < 13 → zsp 0 (j + 1) = zsp 0 j + (j + 1) := by decide +kernel
theorem zsp_0 (i j : Nat) : zsp i j = zsp 0 j + i := rfl
theorem zsuM_sp (h : Nat → Nat) : ∀ {N : Nat}, N ≤ 13 → zsuM h (zsp 0 N) = zsuM (fun j => zsuM (fun i => h (zsp i j)) (j + 1)) N
  | 0, _ => rfl
  | N + 1, hN => by
    rw [zsp_s N (by omega), zsuM_app, zsuM_sp h (by omega)]
    rfl
/-- how many pieces -/
noncomputable def zPn (g : zG) (s : zSn) : Nat := zsuM (fun i => zsuM (fun j => zcnt (fun q => zdc (zPi g s q i j)) 12) 13) 13
theorem zPi_rg {g : zG} {s : zSn} {q i j : Nat} (h : zPi g s q i j) : q < gN g ∧ i ≤ j ∧ j ≤ sL s := ⟨zM_lt (zPi_M h), zM_le (zPi_M h), zPi_le h⟩
theorem s_manyPieces {g : zG} {s : zSn} {μ : zzM} (h : zc2 g s μ) (hg : zwg g) (hsl : sL s ≤ 12) (hF : foOk g s μ) (d : Nat) : zw (zzf zzP zN (d + 2) 96 [.ref 52] μ) fun o => o.2 = μ ∧ o.1.1 = nI (zPn g s) := by
  have hgn := g_n hg
  have hmax : ∀ N, N < 13 → zsp 0 (N + 1) ≤ 91 := by decide +kernel
  have hmx := hmax (sL s) (by omega)
  -- every place below is one of a part
  have hpl : ∀ N, N < 13 → ∀ p, p < 91 → (decide (p < zsp 0 (N + 1)) = true) → ∃ j, j ≤ N ∧ ∃ i, i ≤ j ∧ p = zsp i j := by
    have key : ∀ p, p < 91 → ∃ j, j < 13 ∧ ∃ i, i < 13 ∧ i ≤ j ∧ p = zsp i j := by decide +kernel
    have mono : ∀ N, N < 13 → ∀ j, j < 13 → (decide (N < j) = true) → zsp 0 (N + 1) ≤ zsp 0 j := by decide +kernel
    intro N hN p hp hq
    have hq : p < zsp 0 (N + 1) := by simpa using hq
    obtain ⟨j, hj, i, hi, hij, rfl⟩ := key p hp
    refine ⟨j, ?_, i, hij, rfl⟩
    apply Nat.le_of_not_lt
    intro f
    have := mono N hN j hj (by simpa using f)
    rw [zsp_0] at hq
    omega
  have hbit : ∀ p, p < zsp 0 (sL s + 1) → ∀ i, i < 32 → bt (μ.1 53 p) i = true → i < 12 := fun p hp q hq f => by
    obtain ⟨j, hj, i, hi, rfl⟩ := hpl (sL s) (by omega) p (by omega) (by simpa using hp)
    have := (zPi_rg ((hF i j hi hj q hq).1 f)).1
    omega
  have hsum : zsuM (fun p => zcnt (bt (μ.1 53 p)) 12) (zsp 0 (sL s + 1)) = zPn g s := by
    rw [zsuM_sp _ (by omega)]
    have : zsuM (fun j => zsuM (fun i => zcnt (bt (μ.1 53 (zsp i j))) 12) (j + 1)) (sL s + 1) = zsuM (fun j => zsuM (fun i => zcnt (fun q => zdc (zPi g s q i j)) 12) (j + 1)) (sL s + 1) := zsuM_cg fun j hj => zsuM_cg fun i hi => zcnt_cg fun q hq => by
      have := hF i j (by omega) (by omega) q (by omega)
      cases e : bt (μ.1 53 (zsp i j)) q with
      | true => exact (zdc_t.2 (this.1 e)).symm
      | false => exact (zdc_f.2 fun f => by rw [this.2 f] at e; cases e).symm
    rw [this]
    exact zsuM_tri hsl fun i j e => zcnt_0 fun q _ => zdc_f.2 fun f => e (zPi_rg f).2
  rw [w_forest_howManyPieces]
  refine zl_up (fun p (c : Nat) => ([nI c, nI p], [], μ)) (fun p c => c = zsuM (fun p => zcnt (bt (μ.1 53 p)) 12) p) 0 (zsp 0 (sL s + 1)) 0 (by omega) (by omega) rfl rfl ?_ ?_
  · rintro p c ga - hp rfl hgo
    unfold L96_a
    simp only [zI0, zI1, zI2, zI3, zI4, zI5, zI6, zI7, zI8, zJ0, zJ1, zJ2, zMM]
    rw [c_len h, zq_add, s_span _ (by omega) (by omega), Option.bind_some]
    rw [if_neg (show ¬ nI ((sL s + 1) * (sL s + 1 + 1) / 2 + 0) ≤ nI p by rw [show (sL s + 1) * (sL s + 1 + 1) / 2 + 0 = zsp 0 (sL s + 1) from rfl, zq_le (by omega) (by omega)]; omega), zr_i _ _ (by omega) (by omega), Option.bind_some, s_bitCount _ (hbit p hp), Option.bind_some]
    simp only [zq_add]
    exact hgo _ rfl
  · rintro c ga rfl
    unfold L96_a
    simp only [zI0, zI1, zI2, zI3, zI4, zI5, zI6, zI7, zI8, zJ0, zJ1, zJ2, zMM]
    rw [c_len h, zq_add, s_span _ (by omega) (by omega), Option.bind_some]
    rw [if_pos (show nI ((sL s + 1) * (sL s + 1 + 1) / 2 + 0) ≤ nI (zsp 0 (sL s + 1)) by rw [show (sL s + 1) * (sL s + 1 + 1) / 2 + 0 = zsp 0 (sL s + 1) from rfl, zq_le (by omega) (by omega)]; omega)]
    exact zw_some ⟨rfl, by rw [hsum]⟩
