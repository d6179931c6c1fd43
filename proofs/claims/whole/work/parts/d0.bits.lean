/-! how many bits, of 26 and at most 5 of them set -/
theorem b_nat (n : Nat) {i : Nat} (hi : i < 32) : bt (nI n) i = n.testBit i := by
  unfold bt
  rw [show (nI n).toBitVec = BitVec.ofNat 32 n from rfl, BitVec.getLsbD_ofNat, decide_eq_true hi, Bool.true_and]
theorem i_and (a b : Nat) : nI a &&& nI b = nI (a &&& b) := by
  refine b_ext fun i hi => ?_
  rw [b_and, b_nat a hi, b_nat b hi, b_nat _ hi, Nat.testBit_and]
def zPg (a : Nat) : Nat := Nat.land (Nat.add a (Nat.div a 65536)) 63
def zPf (a : Nat) : Nat := zPg (Nat.add a (Nat.div a 256))
def zPe (a : Nat) : Nat := zPf (Nat.land (Nat.add a (Nat.div a 16)) 252645135)
def zPd (a : Nat) : Nat := zPe (Nat.add (Nat.land a 858993459) (Nat.land (Nat.div a 4) 858993459))
def zPc (x : Nat) : Nat := zPd (Nat.sub x (Nat.land (Nat.div x 2) 1431655765))
theorem zus_n {n : Nat} (hn : n < 4294967296) {k : Nat} (hk : k < 32) : zus (nI n) (nI k) = nI (n / 2 ^ k) := by
  unfold zus
  exact pk_ushrN (by omega) (nI k) k ((by decide +kernel : ∀ k, k < 32 → (((nI k).toUInt32 &&& Int32.toUInt32 31).toBitVec % 32).toNat = k) k hk)
theorem zbcv_n {x : Nat} (hx : x < 67108864) : zbcv (nI x) = nI (zPc x) := by
  unfold zbcv zbc zPc
  have h1 : zbc1 (nI 1) (nI 1431655765) (nI x) = nI (x - (x / 2 &&& 1431655765)) := by
    unfold zbc1
    rw [zus_n (by omega) (by omega), i_and, zq_sub (Nat.le_trans Nat.and_le_left (by omega))]
  have hb1 : x - (x / 2 &&& 1431655765) < 67108864 := by omega
  rw [h1]
  show _ = nI (zPd (x - (x / 2 &&& 1431655765)))
  generalize x - (x / 2 &&& 1431655765) = a at hb1
  have h2 : zbc2 (nI 2) (nI 858993459) (nI a) = nI ((a &&& 858993459) + (a / 4 &&& 858993459)) := by
    unfold zbc2
    rw [zus_n (by omega) (by omega), i_and, i_and, zq_add]
  have hb2 : (a &&& 858993459) + (a / 4 &&& 858993459) < 268435456 := by
    have q1 : (a &&& 858993459) ≤ a := Nat.and_le_left
    have q2 : (a / 4 &&& 858993459) ≤ a / 4 := Nat.and_le_left
    omega
  rw [h2]
  show _ = nI (zPe ((a &&& 858993459) + (a / 4 &&& 858993459)))
  generalize (a &&& 858993459) + (a / 4 &&& 858993459) = b at hb2
  have h3 : zbc3 (nI 4) (nI 252645135) (nI b) = nI ((b + b / 16) &&& 252645135) := by
    unfold zbc3
    rw [zus_n (by omega) (by omega), zq_add, i_and]
  have hb3 : ((b + b / 16) &&& 252645135) < 536870912 := by
    have q1 : ((b + b / 16) &&& 252645135) ≤ b + b / 16 := Nat.and_le_left
    omega
  rw [h3]
  show _ = nI (zPf ((b + b / 16) &&& 252645135))
  generalize ((b + b / 16) &&& 252645135) = c at hb3
  have h4 : zbc4 (nI 8) (nI c) = nI (c + c / 256) := by
    unfold zbc4
    rw [zus_n (by omega) (by omega), zq_add]
  rw [h4]
  have h5 : zbc4 (nI 16) (nI (c + c / 256)) = nI (c + c / 256 + (c + c / 256) / 65536) := by
    unfold zbc4
    rw [zus_n (by omega) (by omega), zq_add]
  rw [h5, i_and]
  rfl
def zck : Nat → Nat → Nat → Nat → Bool
  | 0, _, x, n => Nat.beq (zPc x) n
  | _ + 1, 0, x, n => Nat.beq (zPc x) n
  | f + 1, k + 1, x, n => and (zck f (k + 1) x n) (zck f k (Nat.lor x (Nat.pow 2 f)) (Nat.succ n))
set_option maxRecDepth 20000 in
theorem zck_26 : zck 26 5 0 0 = true := by decide +kernel
theorem zck_ok : ∀ {f k x n : Nat}, zck f k x n = true → ∀ y : Nat, (∀ i, f ≤ i → y.testBit i = x.testBit i) → (∀ i, i < f → x.testBit i = false) → zcnt (y.testBit) f ≤ k → zPc y = n + zcnt (y.testBit) f
  | 0, _, x, n, h, y, h1, _, _ => by
    have : y = x := Nat.eq_of_testBit_eq fun i => h1 i (Nat.zero_le _)
    rw [this]
    exact Nat.eq_of_beq_eq_true h
  | f + 1, 0, x, n, h, y, h1, h2, h3 => by
    have hz : ∀ i, i < f + 1 → y.testBit i = false := fun i hi => by
      cases e : y.testBit i with
      | false => rfl
      | true =>
        have := zcnt_up e hi
        omega
    have : y = x := Nat.eq_of_testBit_eq fun i => by
      by_cases e : i < f + 1
      · rw [hz i e, h2 i e]
      · exact h1 i (by omega)
    rw [zcnt_0 hz, this]
    exact Nat.eq_of_beq_eq_true h
  | f + 1, k + 1, x, n, h, y, h1, h2, h3 => by
    have h : (zck f (k + 1) x n && zck f k (x ||| 2 ^ f) (n + 1)) = true := h
    rw [Bool.and_eq_true] at h
    have hs : zcnt (y.testBit) (f + 1) = zcnt (y.testBit) f + (if y.testBit f then 1 else 0) := rfl
    cases e : y.testBit f with
    | false =>
      rw [hs, e, if_neg (by decide)]
      rw [hs, e, if_neg (by decide)] at h3
      refine zck_ok h.1 y (fun i a => ?_) (fun i a => h2 i (by omega)) h3
      by_cases ei : i = f
      · rw [ei, e, h2 f (by omega)]
      · exact h1 i (by omega)
    | true =>
      rw [hs, e, if_pos rfl]
      rw [hs, e, if_pos rfl] at h3
      have := zck_ok h.2 y (fun i a => ?_) (fun i a => ?_) (by omega)
      · rw [this]
        omega
      · rw [Nat.testBit_or, Nat.testBit_two_pow]
        by_cases ei : i = f
        · rw [ei, e, decide_eq_true rfl, Bool.or_true]
        · rw [decide_eq_false (fun q => ei q.symm), Bool.or_false]
          exact h1 i (by omega)
      · rw [Nat.testBit_or, Nat.testBit_two_pow, decide_eq_false (by omega), Bool.or_false]
        exact h2 i (by omega)
theorem s_bitCount5 (d : Nat) {x : Int32} (h : ∀ i, i < 32 → bt x i = true → i < 26) (h5 : zcnt (bt x) 26 ≤ 5) (μ : zzM) : zzf zzP zN (d + 1) 3 [.int x] μ = some ((nI (zcnt (bt x) 26), 0, 0), μ) := by
  obtain ⟨n, hn, rfl⟩ : ∃ n, n < 67108864 ∧ x = nI n := by
    have e : x &&& nI 67108863 = x := b_ext fun i hi => by
      have hb : bt (nI 67108863) i = decide (i < 26) := (by decide +kernel : ∀ i, i < 32 → bt (nI 67108863) i = decide (i < 26)) i hi
      rw [b_and, hb]
      cases q : bt x i with
      | false => rfl
      | true => rw [decide_eq_true (h i hi q)]; rfl
    obtain ⟨j, h1, h2⟩ := pk_andE x (m := nI 67108863) 26 (by decide +kernel)
    exact ⟨j, h1, e.symm.trans h2⟩
  have hc : zcnt (bt (nI n)) 26 = zcnt (n.testBit) 26 := zcnt_cg fun i hi => b_nat n (by omega)
  rw [hc] at h5 ⊢
  have := zck_ok zck_26 n (fun i a => ?_) (fun i _ => Nat.zero_testBit i) h5
  · rw [s_bc0, zbcv_n hn, this, Nat.zero_add]
  · rw [Nat.zero_testBit]
    exact Nat.testBit_lt_two_pow (Nat.lt_of_lt_of_le (show n < 2 ^ 26 by omega) (Nat.pow_le_pow_right (by omega) a))
