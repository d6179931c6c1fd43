/-! THE LAW's LOOP, over what is left of the claim (lw_agree): open until that is proved -/
def lw_offs : Array Int := #[171, 234, 257, 270, 303, 336, 359, 382, 405, 428, 441, 474, 507, 530, 543, 566, 579, 612, 635, 678, 701, 714, 737, 770, 803, 826, 869, 912, 955, 998, 1021, 1034, 1067, 1080, 1093, 1116, 1149, 1172, 1195]
theorem lw_table {p : Program} {l : Launch} {e : Env} {s : State} {m : MethodId} {below : List Frame} {meth : Method} {c : Code} {b L : Nat} {xs : Nat → Int32} (hL : L ≤ 3072) (C0 : lw_At p s m meth c b L xs) {D : va_G} {dA : Nat → ClassId} {ad : Nat → Nat} (hK : va_K D zzcl (zztys dA) s) (hnw : zznw s) (hinj : zzinj ad) (had : ∀ i, i < zzn → s.heap.size ≤ ad i) {Q : State → Prop} {N : Nat} {Inv Inv' : zzM → Prop} (hag : lw_agree N Inv Inv') {i : Nat} (hi : i + 6 ≤ L) (hgo : ∀ μ, Inv' μ → lw_L p l e s m below meth c b L xs D dA ad Q i 1251 μ) {μ : zzM} (hI : Inv μ) : ∀ j : Nat, j < 39 → ∃ (off : Int) (tgt : Nat), lw_offs[j]? = some off ∧ (33 : Int) + off = (tgt : Int) ∧ lw_L p l e s m below meth c b L xs D dA ad Q i tgt μ := by
  intro j hj
  match j, hj with
  | 0, _ => exact ⟨171, 204, rfl, rfl, lw_arm0 hL C0 hK hnw hinj had hag hi hgo hI⟩
  | 1, _ => exact ⟨234, 267, rfl, rfl, lw_arm1 hL C0 hK hnw hinj had hag hi hgo hI⟩
  | 2, _ => exact ⟨257, 290, rfl, rfl, lw_arm2 hL C0 hK hnw hinj had hag hi hgo hI⟩
  | 3, _ => exact ⟨270, 303, rfl, rfl, lw_arm3 hL C0 hK hnw hinj had hag hi hgo hI⟩
  | 4, _ => exact ⟨303, 336, rfl, rfl, lw_arm4 hL C0 hK hnw hinj had hag hi hgo hI⟩
  | 5, _ => exact ⟨336, 369, rfl, rfl, lw_arm5 hL C0 hK hnw hinj had hag hi hgo hI⟩
  | 6, _ => exact ⟨359, 392, rfl, rfl, lw_arm6 hL C0 hK hnw hinj had hag hi hgo hI⟩
  | 7, _ => exact ⟨382, 415, rfl, rfl, lw_arm7 hL C0 hK hnw hinj had hag hi hgo hI⟩
  | 8, _ => exact ⟨405, 438, rfl, rfl, lw_arm8 hL C0 hK hnw hinj had hag hi hgo hI⟩
  | 9, _ => exact ⟨428, 461, rfl, rfl, lw_arm9 hL C0 hK hnw hinj had hag hi hgo hI⟩
  | 10, _ => exact ⟨441, 474, rfl, rfl, lw_arm10 hL C0 hK hnw hinj had hag hi hgo hI⟩
  | 11, _ => exact ⟨474, 507, rfl, rfl, lw_arm11 hL C0 hK hnw hinj had hag hi hgo hI⟩
  | 12, _ => exact ⟨507, 540, rfl, rfl, lw_arm12 hL C0 hK hnw hinj had hag hi hgo hI⟩
  | 13, _ => exact ⟨530, 563, rfl, rfl, lw_arm13 hL C0 hK hnw hinj had hag hi hgo hI⟩
  | 14, _ => exact ⟨543, 576, rfl, rfl, lw_arm14 hL C0 hK hnw hinj had hag hi hgo hI⟩
  | 15, _ => exact ⟨566, 599, rfl, rfl, lw_arm15 hL C0 hK hnw hinj had hag hi hgo hI⟩
  | 16, _ => exact ⟨579, 612, rfl, rfl, lw_arm16 hL C0 hK hnw hinj had hag hi hgo hI⟩
  | 17, _ => exact ⟨612, 645, rfl, rfl, lw_arm17 hL C0 hK hnw hinj had hag hi hgo hI⟩
  | 18, _ => exact ⟨635, 668, rfl, rfl, lw_arm18 hL C0 hK hnw hinj had hag hi hgo hI⟩
  | 19, _ => exact ⟨678, 711, rfl, rfl, lw_arm19 hL C0 hK hnw hinj had hag hi hgo hI⟩
  | 20, _ => exact ⟨701, 734, rfl, rfl, lw_arm20 hL C0 hK hnw hinj had hag hi hgo hI⟩
  | 21, _ => exact ⟨714, 747, rfl, rfl, lw_arm21 hL C0 hK hnw hinj had hag hi hgo hI⟩
  | 22, _ => exact ⟨737, 770, rfl, rfl, lw_arm22 hL C0 hK hnw hinj had hag hi hgo hI⟩
  | 23, _ => exact ⟨770, 803, rfl, rfl, lw_arm23 hL C0 hK hnw hinj had hag hi hgo hI⟩
  | 24, _ => exact ⟨803, 836, rfl, rfl, lw_arm24 hL C0 hK hnw hinj had hag hi hgo hI⟩
  | 25, _ => exact ⟨826, 859, rfl, rfl, lw_arm25 hL C0 hK hnw hinj had hag hi hgo hI⟩
  | 26, _ => exact ⟨869, 902, rfl, rfl, lw_arm26 hL C0 hK hnw hinj had hag hi hgo hI⟩
  | 27, _ => exact ⟨912, 945, rfl, rfl, lw_arm27 hL C0 hK hnw hinj had hag hi hgo hI⟩
  | 28, _ => exact ⟨955, 988, rfl, rfl, lw_arm28 hL C0 hK hnw hinj had hag hi hgo hI⟩
  | 29, _ => exact ⟨998, 1031, rfl, rfl, lw_arm29 hL C0 hK hnw hinj had hag hi hgo hI⟩
  | 30, _ => exact ⟨1021, 1054, rfl, rfl, lw_arm30 hL C0 hK hnw hinj had hag hi hgo hI⟩
  | 31, _ => exact ⟨1034, 1067, rfl, rfl, lw_arm31 hL C0 hK hnw hinj had hag hi hgo hI⟩
  | 32, _ => exact ⟨1067, 1100, rfl, rfl, lw_arm32 hL C0 hK hnw hinj had hag hi hgo hI⟩
  | 33, _ => exact ⟨1080, 1113, rfl, rfl, lw_arm33 hL C0 hK hnw hinj had hag hi hgo hI⟩
  | 34, _ => exact ⟨1093, 1126, rfl, rfl, lw_arm34 hL C0 hK hnw hinj had hag hi hgo hI⟩
  | 35, _ => exact ⟨1116, 1149, rfl, rfl, lw_arm35 hL C0 hK hnw hinj had hag hi hgo hI⟩
  | 36, _ => exact ⟨1149, 1182, rfl, rfl, lw_arm36 hL C0 hK hnw hinj had hag hi hgo hI⟩
  | 37, _ => exact ⟨1172, 1205, rfl, rfl, lw_arm37 hL C0 hK hnw hinj had hag hi hgo hI⟩
  | 38, _ => exact ⟨1195, 1228, rfl, rfl, lw_arm38 hL C0 hK hnw hinj had hag hi hgo hI⟩
  | n + 39, h => exact absurd h (by omega)
set_option maxHeartbeats 1000000 in
theorem lw_loop_open {p : Program} {l : Launch} {e : Env} {s : State} {m : MethodId} {below : List Frame} {meth : Method} {c : Code} {b L : Nat} {xs : Nat → Int32} (hL : L ≤ 3072) (C0 : lw_At p s m meth c b L xs) {D : va_G} {dA : Nat → ClassId} {ad : Nat → Nat} (hK : va_K D zzcl (zztys dA) s) (hnw : zznw s) (hinj : zzinj ad) (had : ∀ i, i < zzn → s.heap.size ≤ ad i) {N : Nat} {Inv : Nat → zzM → Prop} (hag : ∀ j, 6 * j + 6 ≤ L → lw_agree N (Inv j) (Inv (j + 1))) (hmo : ∀ j μ, Inv j μ → Inv (j + 1) μ) : ∀ (n i j : Nat), i = 6 * j → L + 6 - i < n → i ≤ L + 6 → ∀ μ, Inv j μ → lw_L p l e s m below meth c b L xs D dA ad (lw_Z below #[Value.ref b] s) i 18 μ := by
  intro n
  induction n with
  | zero => intro i j hij hn; exact absurd hn (Nat.not_lt_zero _)
  | succ n ih =>
    intro i j hij hn hi6 μ hI H locs lc hP hS hl
    obtain ⟨hx, hb, hr, hml, hown, hts0, hX, hbl, hlocks, hgv⟩ := id C0
    have hbA : ¬ (fun q : Nat => s.heap.size ≤ q) b := Nat.not_le.mpr hbl
    refine lv_iload_n hx hb dl_18 rfl (lv_at hl 0 rfl) ?_
    refine lv_aload_n hx hb dl_19 rfl (lv_at hl 3 rfl) ?_
    refine va_slen hx hb hX hbl hbA hS dl_20 ?_
    refine lv_bipush (v := nI 6) hx hb dl_21 (by decide) ?_
    refine lv_isub hx hb dl_23 ?_
    refine lv_icmp_gt (tgt := 1257) hx hb dl_24 (by decide) (fun _ => ?_) (fun hc => ?_)
    · refine lv_iconst (v := 1) hx hb dl_1257 (by decide) ?_
      exact va_forget hS.2.2 (W.widen (k := 600000) (n := 7302250) (Nat.le_of_ble_eq_true rfl) (Nat.le_of_ble_eq_true rfl) (lw_ret hx hb hr hlocks dl_1258))
    · have hi : i + 6 ≤ L := by
        apply Nat.le_of_not_lt
        intro hlt
        apply hc
        rw [Int32.lt_iff_toInt_lt]
        show (nI L - nI 6).toInt < (nI i).toInt
        rw [pk_sub_toInt (by omega) (by omega), nI_toInt (by omega)]
        omega
      have hgo : ∀ μ, Inv (j + 1) μ → lw_L p l e s m below meth c b L xs D dA ad (lw_Z below #[Value.ref b] s) i 1251 μ := by
        intro μ1 hI1 H1 locs1 lc1 hP1 hS1 hl1
        exact lv_iinc (k := 0) (x := nI i) (v := nI (i + 6)) (lv' := [(3, .int (nI (i + 6))), (2, .ref (ad 105)), (1, .ref (ad 0)), (0, .ref b)]) hx hb dl_1251 hl1 rfl (by rw [← nI_add]; rfl) (by decide) rfl (fun lc2 hl2 => lv_goto (tgt := 18) hx hb dl_1254 (by decide) (ih (i + 6) (j + 1) (by omega) (by omega) (by omega) μ1 hI1 H1 locs1 lc2 hP1 hS1 hl2))
      refine lv_aload_n hx hb dl_27 rfl (lv_at hl 3 rfl) ?_
      refine lv_iload_n hx hb dl_28 rfl (lv_at hl 0 rfl) ?_
      refine va_sld hx hb hX hbl hbA hS (vp_in_nI (show i < L by omega) (by omega)) dl_29 ?_
      refine lv_bipush (v := nI 63) hx hb dl_30 (by decide) ?_
      refine lv_iand hx hb dl_32 ?_
      generalize (xs (nI i).toNatClampNeg &&& nI 63) = x
      by_cases z : x.toInt < 0 ∨ 38 < x.toInt
      · exact lv_tableOut (tgt := 1251) hx hb dl_33 z (by decide) (hgo μ (hmo j μ hI) H locs lc hP hS hl)
      · obtain ⟨off, tgt, h1, h2, h3⟩ := lw_table (l := l) (e := e) (below := below) hL C0 hK hnw hinj had (hag j (by omega)) hi hgo hI x.toInt.toNat (by omega)
        exact lv_tableIn (off := off) (tgt := tgt) hx hb dl_33 (by omega) (by omega) (by rw [Int.sub_zero]; exact h1) h2 (h3 H locs lc hP hS hl)
/-- the walk of the law's body, out of an invariant: OPEN until lw_agree is proved for one -/
theorem whole_start_open {p : Program} {e : Env} {s : State} {m : MethodId} {below : List Frame} {meth : Method} {c : Code} (l : Launch) {b L : Nat} {xs : Nat → Int32} (hL : L ≤ 3072) (C0 : lw_At p s m meth c b L xs) {N : Nat} {Inv : Nat → zzM → Prop} (h0 : Inv 0 zz0) (hag : ∀ j, 6 * j + 6 ≤ L → lw_agree N (Inv j) (Inv (j + 1))) (hmo : ∀ j μ, Inv j μ → Inv (j + 1) μ) : W p l e room_1 s m #[Value.ref b] below meth c s.heap [] 0 0 (lw_Z below #[Value.ref b] s) (entryFrame m ([Value.ref b] : List Value).toArray 4) :=
  law_begin C0 (fun D dA ad H locs lc hP hK hinj had hS hl => lw_loop_open hL C0 hK (lw_nw C0.2.2.2.2.2.1).2 hinj had hag hmo (L + 7) 0 0 (by omega) (by omega) (by omega) zz0 h0 H locs lc hP hS hl)
