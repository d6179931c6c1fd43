/-! TOOLS over the small machine: what a run gives (zw), loops, memory, frames, numbers, bits -/
/-- it ends, and then Q -/
def zw (o : Option zzR) (Q : zzR → Prop) : Prop := ∃ r, o = some r ∧ Q r
theorem zw_some {r : zzR} {Q : zzR → Prop} (h : Q r) : zw (some r) Q := ⟨r, rfl, h⟩
theorem zw_e {o : Option zzR} {r : zzR} {Q : zzR → Prop} (e : o = some r) (h : Q r) : zw o Q := ⟨r, e, h⟩
theorem zw_mono {o : Option zzR} {Q Q' : zzR → Prop} (h : zw o Q) (f : ∀ r, Q r → Q' r) : zw o Q' := by
  obtain ⟨r, e, q⟩ := h
  exact ⟨r, e, f r q⟩
theorem zw_bind {o : Option zzR} {f : zzR → Option zzR} {Q Q' : zzR → Prop} (h : zw o Q) (g : ∀ r, Q r → zw (f r) Q') : zw (o.bind f) Q' := by
  obtain ⟨r, e, q⟩ := h
  rw [e]
  exact g r q
theorem zw_eq {o : Option zzR} {e : Int32 × Int64 × Nat} {μ : zzM} (h : zw o fun r => r.1 = e ∧ r.2 = μ) : o = some (e, μ) := by
  obtain ⟨⟨r1, r2⟩, h1, h2, h3⟩ := h
  rw [h1]
  cases h2
  cases h3
  rfl
/-- so many turns of a loop are more than any loop here takes -/
theorem zN_ex : ∃ n : Nat, 18446744073709551616 ≤ n := ⟨_, Nat.le_refl _⟩
noncomputable def zN : Nat := Classical.choose zN_ex
theorem zN_big : 18446744073709551616 ≤ zN := Classical.choose_spec zN_ex
theorem zl_m {body : zzS → (zzS → Option zzR) → Option zzR} {Q : zzR → Prop} (I : Nat → zzS → Prop)
    (hs : ∀ m v g, I m v → (∀ m' v', m' < m → I m' v' → zw (g v') Q) → zw (body v g) Q) : ∀ n m v, m < n → I m v → zw (zzl body n v) Q := by
  intro n
  induction n with
  | zero =>
    intro m v h
    exact absurd h (Nat.not_lt_zero m)
  | succ n ih =>
    intro m v h hi
    exact hs m v _ hi fun m' v' h1 h2 => ih m' v' (by omega) h2
/-- a loop by a measure -/
theorem zl_ms {body : zzS → (zzS → Option zzR) → Option zzR} {Q : zzR → Prop} {X : Type} (S : X → zzS) (J : Nat → X → Prop) (m : Nat) (x0 : X) (hm : m < 18446744073709551616) {v0 : zzS} (hv : v0 = S x0) (h0 : J m x0)
    (hs : ∀ m x g, J m x → (∀ m' x', m' < m → J m' x' → zw (g (S x')) Q) → zw (body (S x) g) Q) : zw (zzl body zN v0) Q := by
  subst hv
  refine zl_m (fun m v => ∃ x, v = S x ∧ J m x) ?_ zN m _ (Nat.lt_of_lt_of_le hm zN_big) ⟨x0, rfl, h0⟩
  rintro m v g ⟨x, rfl, hx⟩ hg
  exact hs m x g hx fun m' x' h1 h2 => hg m' _ h1 ⟨x', rfl, h2⟩
/-- a loop that counts up from a to b -/
theorem zl_up {body : zzS → (zzS → Option zzR) → Option zzR} {Q : zzR → Prop} {X : Type} (S : Nat → X → zzS) (J : Nat → X → Prop) (a b : Nat) (x0 : X) (hab : a ≤ b) (hb : b < 4294967296) {v0 : zzS} (hv : v0 = S a x0) (h0 : J a x0)
    (hs : ∀ i x g, a ≤ i → i < b → J i x → (∀ x', J (i + 1) x' → zw (g (S (i + 1) x')) Q) → zw (body (S i x) g) Q)
    (he : ∀ x g, J b x → zw (body (S b x) g) Q) : zw (zzl body zN v0) Q := by
  refine zl_ms (fun x : Nat × X => S x.1 x.2) (fun m x => a ≤ x.1 ∧ x.1 ≤ b ∧ m = b - x.1 ∧ J x.1 x.2) (b - a) (a, x0) (by omega) hv ⟨Nat.le_refl _, hab, rfl, h0⟩ ?_
  rintro m ⟨i, x⟩ g ⟨h1, h2, h3, h4⟩ hg
  by_cases h : i = b
  · subst h
    exact he x g h4
  · refine hs i x g h1 (by simp only at h2; omega) h4 fun x' hx' => ?_
    refine hg (b - (i + 1)) (i + 1, x') ?_ ⟨?_, ?_, rfl, hx'⟩ <;> simp only at * <;> omega
/-- a loop that counts down: its number is j - 1 (nJ j), from b to a -/
theorem zl_dn {body : zzS → (zzS → Option zzR) → Option zzR} {Q : zzR → Prop} {X : Type} (S : Nat → X → zzS) (J : Nat → X → Prop) (a b : Nat) (x0 : X) (hab : a ≤ b) (hb : b < 4294967296) {v0 : zzS} (hv : v0 = S b x0) (h0 : J b x0)
    (hs : ∀ i x g, a ≤ i → i < b → J (i + 1) x → (∀ x', J i x' → zw (g (S i x')) Q) → zw (body (S (i + 1) x) g) Q)
    (he : ∀ x g, J a x → zw (body (S a x) g) Q) : zw (zzl body zN v0) Q := by
  refine zl_ms (fun x : Nat × X => S x.1 x.2) (fun m x => a ≤ x.1 ∧ x.1 ≤ b ∧ m = x.1 - a ∧ J x.1 x.2) (b - a) (b, x0) (by omega) hv ⟨hab, Nat.le_refl _, rfl, h0⟩ ?_
  rintro m ⟨i, x⟩ g ⟨h1, h2, h3, h4⟩ hg
  by_cases h : i = a
  · subst h
    exact he x g h4
  · obtain ⟨k, rfl⟩ : ∃ k, i = k + 1 := ⟨i - 1, by simp only at h1; omega⟩
    refine hs k x g (by simp only at h1; omega) (by simp only at h2; omega) h4 fun x' hx' => ?_
    refine hg (k - a) (k, x') ?_ ⟨?_, ?_, rfl, hx'⟩ <;> simp only at * <;> omega
-- a loop's state by its parts
theorem zI0 (a : Int32) (l : List Int32) (x : List Int64) (m : zzM) : zi0 (a :: l, x, m) = a := id rfl
theorem zI1 (a b : Int32) (l : List Int32) (x : List Int64) (m : zzM) : zi1 (a :: b :: l, x, m) = b := id rfl
theorem zI2 (a b c : Int32) (l : List Int32) (x : List Int64) (m : zzM) : zi2 (a :: b :: c :: l, x, m) = c := id rfl
theorem zI3 (a b c d : Int32) (l : List Int32) (x : List Int64) (m : zzM) : zi3 (a :: b :: c :: d :: l, x, m) = d := id rfl
theorem zI4 (a b c d e : Int32) (l : List Int32) (x : List Int64) (m : zzM) : zi4 (a :: b :: c :: d :: e :: l, x, m) = e := id rfl
theorem zI5 (a b c d e f : Int32) (l : List Int32) (x : List Int64) (m : zzM) : zi5 (a :: b :: c :: d :: e :: f :: l, x, m) = f := id rfl
theorem zI6 (a b c d e f g : Int32) (l : List Int32) (x : List Int64) (m : zzM) : zi6 (a :: b :: c :: d :: e :: f :: g :: l, x, m) = g := id rfl
theorem zI7 (a b c d e f g h : Int32) (l : List Int32) (x : List Int64) (m : zzM) : zi7 (a :: b :: c :: d :: e :: f :: g :: h :: l, x, m) = h := id rfl
theorem zI8 (a b c d e f g h i : Int32) (l : List Int32) (x : List Int64) (m : zzM) : zi8 (a :: b :: c :: d :: e :: f :: g :: h :: i :: l, x, m) = i := id rfl
theorem zJ0 (l : List Int32) (a : Int64) (x : List Int64) (m : zzM) : zj0 (l, a :: x, m) = a := id rfl
theorem zJ1 (l : List Int32) (a b : Int64) (x : List Int64) (m : zzM) : zj1 (l, a :: b :: x, m) = b := id rfl
theorem zJ2 (l : List Int32) (a b c : Int64) (x : List Int64) (m : zzM) : zj2 (l, a :: b :: c :: x, m) = c := id rfl
theorem zMM (l : List Int32) (x : List Int64) (m : zzM) : zm (l, x, m) = m := id rfl
-- memory
theorem zm_s (μ : zzM) (c k : Nat) (v : Int32) : (zzwI μ c k v).1 c k = v := by simp [zzwI]
theorem zm_c {c' c : Nat} (μ : zzM) (k : Nat) (v : Int32) (h : c' ≠ c) : (zzwI μ c k v).1 c' = μ.1 c' := by
  funext k'
  simp [zzwI, h]
theorem zm_k {k' k : Nat} (μ : zzM) (c c' : Nat) (v : Int32) (h : k' ≠ k) : (zzwI μ c k v).1 c' k' = μ.1 c' k' := by simp [zzwI, h]
theorem zm_if (μ : zzM) (c k k' : Nat) (v : Int32) : (zzwI μ c k v).1 c k' = if k' = k then v else μ.1 c k' := by simp [zzwI]
theorem zm_2 (μ : zzM) (c k : Nat) (v : Int32) : (zzwI μ c k v).2 = μ.2 := rfl
theorem zn_s (μ : zzM) (c k : Nat) (v : Int64) : (zzwL μ c k v).2 c k = v := by simp [zzwL]
theorem zn_c {c' c : Nat} (μ : zzM) (k : Nat) (v : Int64) (h : c' ≠ c) : (zzwL μ c k v).2 c' = μ.2 c' := by
  funext k'
  simp [zzwL, h]
theorem zn_k {k' k : Nat} (μ : zzM) (c c' : Nat) (v : Int64) (h : k' ≠ k) : (zzwL μ c k v).2 c' k' = μ.2 c' k' := by simp [zzwL, h]
theorem zn_if (μ : zzM) (c k k' : Nat) (v : Int64) : (zzwL μ c k v).2 c k' = if k' = k then v else μ.2 c k' := by simp [zzwL]
theorem zn_1 (μ : zzM) (c k : Nat) (v : Int64) : (zzwL μ c k v).1 = μ.1 := rfl
theorem zr_i {n k : Nat} (μ : zzM) (c : Nat) (h : k < n) (hn : n < 2147483648) : zzri μ c n (nI k) = some (μ.1 c k) := by
  unfold zzri
  rw [if_neg (nI_in h (by omega)), nI_clamp (by omega)]
theorem zr_l {n k : Nat} (μ : zzM) (c : Nat) (h : k < n) (hn : n < 2147483648) : zzrl μ c n (nI k) = some (μ.2 c k) := by
  unfold zzrl
  rw [if_neg (nI_in h (by omega)), nI_clamp (by omega)]
theorem zs_i {n k : Nat} (μ : zzM) (c : Nat) (v : Int32) (h : k < n) (hn : n < 2147483648) : zzsi μ c n (nI k) v = some (zzwI μ c k v) := by
  unfold zzsi
  rw [if_neg (nI_in h (by omega)), nI_clamp (by omega)]
theorem zs_l {n k : Nat} (μ : zzM) (c : Nat) (v : Int64) (h : k < n) (hn : n < 2147483648) : zzsl μ c n (nI k) v = some (zzwL μ c k v) := by
  unfold zzsl
  rw [if_neg (nI_in h (by omega)), nI_clamp (by omega)]
-- frames: outside these cells nothing has changed
def zfr (L : List Nat) (μ μ' : zzM) : Prop := ∀ c, L.elem c = false → μ'.1 c = μ.1 c ∧ μ'.2 c = μ.2 c
theorem zf_refl (L : List Nat) (μ : zzM) : zfr L μ μ := fun _ _ => ⟨rfl, rfl⟩
theorem zf_trans {L : List Nat} {μ μ1 μ2 : zzM} (h : zfr L μ μ1) (h' : zfr L μ1 μ2) : zfr L μ μ2 := fun c hc => ⟨(h' c hc).1.trans (h c hc).1, (h' c hc).2.trans (h c hc).2⟩
theorem zf_mono {L L' : List Nat} {μ μ1 : zzM} (h : zfr L μ μ1) (hl : L.all (fun c => L'.elem c) = true) : zfr L' μ μ1 := fun c hc => by
  refine h c ?_
  cases e : L.elem c with
  | false => rfl
  | true =>
    have := List.all_eq_true.1 hl c (List.mem_of_elem_eq_true e)
    rw [hc] at this
    cases this
theorem zf_i {L : List Nat} {μ μ' : zzM} (h : zfr L μ μ') {c : Nat} (hc : L.elem c = false) : μ'.1 c = μ.1 c := (h c hc).1
theorem zf_l {L : List Nat} {μ μ' : zzM} (h : zfr L μ μ') {c : Nat} (hc : L.elem c = false) : μ'.2 c = μ.2 c := (h c hc).2
theorem zf_wI {L : List Nat} {μ : zzM} {c : Nat} (k : Nat) (v : Int32) (hc : L.elem c = true) : zfr L μ (zzwI μ c k v) := fun c' h => by
  have : c' ≠ c := fun e => by rw [e, hc] at h; cases h
  exact ⟨zm_c _ _ _ this, rfl⟩
theorem zf_wL {L : List Nat} {μ : zzM} {c : Nat} (k : Nat) (v : Int64) (hc : L.elem c = true) : zfr L μ (zzwL μ c k v) := fun c' h => by
  have : c' ≠ c := fun e => by rw [e, hc] at h; cases h
  exact ⟨rfl, zn_c _ _ _ this⟩
theorem zf_twI {L : List Nat} {μ μ' : zzM} {c : Nat} (k : Nat) (v : Int32) (h : zfr L μ μ') (hc : L.elem c = true) : zfr L μ (zzwI μ' c k v) := zf_trans h (zf_wI k v hc)
theorem zf_twL {L : List Nat} {μ μ' : zzM} {c : Nat} (k : Nat) (v : Int64) (h : zfr L μ μ') (hc : L.elem c = true) : zfr L μ (zzwL μ' c k v) := zf_trans h (zf_wL k v hc)
-- numbers
def nJ (j : Nat) : Int32 := nI j - nI 1
theorem nJ_s (j : Nat) : nJ (j + 1) = nI j := by
  unfold nJ
  rw [pk_sub (by omega)]
  rfl
theorem nJ_0 : nJ 0 = -(nI 1) := by decide +kernel
theorem nJ_e (j : Nat) : nI j - nI 1 = nJ j := rfl
theorem nJ_lt {j m : Nat} (h : j ≤ m) (hm : m < 2147483648) : nJ j < nI m := by
  cases j with
  | zero =>
    rw [nJ_0]
    have h1 : (-(nI 1)).toInt = -1 := by decide +kernel
    have h2 := nI_toInt (n := m) (by omega)
    rw [Int32.lt_iff_toInt_lt, h1, h2]
    omega
  | succ j => rw [nJ_s, nI_ltI (by omega) (by omega)]; omega
theorem nJ_nle {j m : Nat} (h : j ≤ m) (hm : m < 2147483648) : ¬ nI m ≤ nJ j := by
  have := nJ_lt h hm
  rw [Int32.lt_iff_toInt_lt] at this
  rw [Int32.le_iff_toInt_le]
  omega
theorem zq_lt {a b : Nat} (ha : a < 2147483648) (hb : b < 2147483648) : (nI a < nI b) = (a < b) := propext (nI_ltI (by omega) (by omega))
theorem zq_le {a b : Nat} (ha : a < 2147483648) (hb : b < 2147483648) : (nI a ≤ nI b) = (a ≤ b) := propext (nI_leI (by omega) (by omega))
theorem zq_eq {a b : Nat} (ha : a < 2147483648) (hb : b < 2147483648) : (nI a = nI b) = (a = b) := propext (nI_eq (by omega) (by omega))
theorem zq_lt0 {a : Nat} (ha : a < 2147483648) : (nI a < 0) = False := eq_false (nI_pos (by omega))
theorem zq_le0 {a : Nat} (ha : a < 2147483648) : (nI a ≤ 0) = (a = 0) := by
  have := zq_le (a := a) (b := 0) ha (by omega)
  rw [nI_0] at this
  rw [this]
  exact propext (by omega)
theorem zq_0le {a : Nat} (ha : a < 2147483648) : (0 ≤ nI a) = True := eq_true (nI_pos' (by omega))
theorem zq_0lt {a : Nat} (ha : a < 2147483648) : (0 < nI a) = (0 < a) := by
  have := zq_lt (a := 0) (b := a) (by omega) ha
  rw [nI_0] at this
  exact this
theorem zq_e0 {a : Nat} (ha : a < 2147483648) : (nI a = 0) = (a = 0) := by
  have := zq_eq (a := a) (b := 0) ha (by omega)
  rw [nI_0] at this
  exact this
theorem zq_add (a b : Nat) : nI a + nI b = nI (a + b) := nI_add a b
theorem zq_mul (a b : Nat) : nI a * nI b = nI (a * b) := pk_mul a b
theorem zq_sub {a b : Nat} (h : b ≤ a) : nI a - nI b = nI (a - b) := pk_sub h
theorem zq_em {a : Nat} (ha : a < 2147483648) : (nI a = -(nI 1)) = False := by
  refine eq_false fun h => ?_
  have h1 : (-(nI 1)).toInt = -1 := by decide +kernel
  have h2 := nI_toInt (n := a) (by omega)
  rw [h, h1] at h2
  omega
theorem zq_me {a : Nat} (ha : a < 2147483648) : (-(nI 1) = nI a) = False := eq_false fun h => cast (zq_em ha) h.symm
/-- an int is a number from 0 on, or below 0 -/
theorem zq_cases (x : Int32) : x < 0 ∨ ∃ n, n < 2147483648 ∧ x = nI n := by
  by_cases h : x < 0
  · exact .inl h
  · obtain ⟨j, h1, h2⟩ := nI_of h
    exact .inr ⟨j, h1, h2⟩
-- bits (the family of kit/laws/BITS.to-paste)
def bt (x : Int32) (i : Nat) : Bool := x.toBitVec.getLsbD i
theorem b_ext {x y : Int32} (h : ∀ i, i < 32 → bt x i = bt y i) : x = y := Int32.toBitVec_inj.mp (BitVec.eq_of_getLsbD_eq (fun i hi => h i hi))
theorem b_or (x y : Int32) (i : Nat) : bt (x ||| y) i = (bt x i || bt y i) := by unfold bt; rw [Int32.toBitVec_or, BitVec.getLsbD_or]
theorem b_and (x y : Int32) (i : Nat) : bt (x &&& y) i = (bt x i && bt y i) := by unfold bt; rw [Int32.toBitVec_and, BitVec.getLsbD_and]
theorem b_xor (x y : Int32) (i : Nat) : bt (x ^^^ y) i = (bt x i ^^ bt y i) := by unfold bt; rw [Int32.toBitVec_xor, BitVec.getLsbD_xor]
theorem b_big {x : Int32} {i : Nat} (h : 32 ≤ i) : bt x i = false := BitVec.getLsbD_of_ge _ _ h
theorem b_m1 : ∀ i, i < 32 → bt (-1) i = true := by decide +kernel
theorem b_0 (i : Nat) : bt 0 i = false := BitVec.getLsbD_zero
theorem s_l : ∀ n, n < 32 → ((nI n &&& 31).toBitVec.smod 32).toNat = n := by decide +kernel
theorem s_u : ∀ n, n < 32 → (((nI n).toUInt32 &&& Int32.toUInt32 31).toBitVec % 32).toNat = n := by decide +kernel
theorem b_shl (n : Nat) (hn : n < 32) (x : Int32) {i : Nat} (hi : i < 32) : bt (x <<< (nI n &&& 31)) i = (decide (n ≤ i) && bt x (i - n)) := by
  unfold bt
  rw [Int32.toBitVec_shiftLeft]
  show (x.toBitVec <<< ((nI n &&& 31).toBitVec.smod 32).toNat).getLsbD i = _
  rw [s_l n hn, BitVec.getLsbD_shiftLeft]
  rcases Nat.lt_or_ge i n with h | h
  · simp [h, Nat.not_le.mpr h]
  · simp [hi, h, Nat.not_lt.mpr h]
theorem b_ushr (n : Nat) (hn : n < 32) (x : Int32) (i : Nat) : bt ((x.toUInt32 >>> ((nI n).toUInt32 &&& Int32.toUInt32 31)).toInt32) i = bt x (n + i) := by
  show (x.toUInt32 >>> ((nI n).toUInt32 &&& Int32.toUInt32 31)).toBitVec.getLsbD i = x.toUInt32.toBitVec.getLsbD (n + i)
  rw [UInt32.toBitVec_shiftRight]
  show (x.toUInt32.toBitVec >>> (((nI n).toUInt32 &&& Int32.toUInt32 31).toBitVec % 32).toNat).getLsbD i = _
  rw [s_u n hn, BitVec.getLsbD_ushiftRight]
theorem b_sshr (n : Nat) (hn : n < 32) (x : Int32) {i : Nat} (hi : i < 32) : bt (x >>> (nI n &&& 31)) i = if n + i < 32 then bt x (n + i) else bt x 31 := by
  unfold bt
  rw [Int32.toBitVec_shiftRight]
  show (x.toBitVec.sshiftRight ((nI n &&& 31).toBitVec.smod 32).toNat).getLsbD i = _
  rw [s_l n hn, BitVec.getLsbD_sshiftRight, BitVec.msb_eq_getLsbD_last]
  simp [hi]
theorem b_one (i : Nat) : bt (nI 1) i = decide (i = 0) := by
  rcases Nat.lt_or_ge i 32 with h | h
  · exact (by decide +kernel : ∀ i, i < 32 → bt (nI 1) i = decide (i = 0)) i h
  · rw [b_big h, decide_eq_false (by omega)]
theorem b_sh1 {r i : Nat} (hr : r < 32) (hi : i < 32) : bt (nI 1 <<< (nI r &&& 31)) i = decide (i = r) := by
  rw [b_shl r hr _ hi, b_one, ← Bool.decide_and]
  exact decide_eq_decide.2 (by omega)
theorem b_not {x : Int32} {i : Nat} (hi : i < 32) : bt (x ^^^ (-(nI 1))) i = !bt x i := by
  have h : bt (-(nI 1)) i = true := (by decide +kernel : ∀ i, i < 32 → bt (-(nI 1)) i = true) i hi
  rw [b_xor, h, Bool.xor_true]
theorem b_and0 (x y : Int32) : (x &&& y) = 0 ↔ ∀ j, j < 32 → ¬ (bt x j = true ∧ bt y j = true) := by
  constructor
  · rintro h j _ ⟨h1, h2⟩
    have := b_and x y j
    rw [h, b_0, h1, h2] at this
    cases this
  · intro h
    refine b_ext fun i hi => ?_
    rw [b_and, b_0]
    have := h i hi
    cases h1 : bt x i <;> cases h2 : bt y i <;> simp_all
theorem b_bit (x : Int32) {r : Nat} (hr : r < 32) : (((x >>> (nI r &&& 31)) &&& nI 1) = 0) = (bt x r = false) := by
  refine propext ⟨fun h => ?_, fun h => ?_⟩
  · have := b_and (x >>> (nI r &&& 31)) (nI 1) 0
    rw [h, b_0, b_sshr r hr x (by omega), b_one, if_pos (by omega)] at this
    simpa using this.symm
  · refine b_ext fun i hi => ?_
    rw [b_and, b_one, b_0, b_sshr r hr x hi]
    by_cases h0 : i = 0
    · subst h0
      rw [if_pos (by omega)]
      simp [h]
    · simp [h0]
theorem b_bit1 (x : Int32) {r : Nat} (hr : r < 32) : ((x >>> (nI r &&& 31)) &&& nI 1) = if bt x r then nI 1 else 0 := by
  refine b_ext fun i hi => ?_
  rw [b_and, b_one, b_sshr r hr x hi]
  by_cases h0 : i = 0
  · subst h0
    rw [if_pos (by omega)]
    cases h : bt x r <;> simp [b_0, b_one, h]
  · cases h : bt x r <;> simp [h0, b_0, b_one]
