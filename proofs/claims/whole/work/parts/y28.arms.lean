/-! THE LAW's ARMS -/
def lw_zargs (n : Nat) (x1 x2 x3 x4 x5 : Int32) : List Value := ([.int x1, .int x2, .int x3, .int x4, .int x5] : List Value).take n
/-- of each arm: the class's method, the reference's, how many ints -/
def lw_arms : List (Nat × Nat × Nat) := [(115, 178, 5), (117, 180, 1), (118, 195, 0), (133, 196, 2), (134, 197, 2), (135, 207, 1), (136, 213, 1), (137, 214, 1), (138, 217, 1), (139, 227, 0), (140, 228, 2), (141, 229, 2), (142, 230, 1), (143, 232, 0), (145, 239, 1), (146, 240, 0), (147, 241, 2), (148, 242, 1), (149, 244, 3), (150, 245, 1), (151, 238, 0), (152, 246, 1), (153, 267, 2), (154, 269, 2), (155, 270, 1), (156, 261, 3), (157, 281, 3), (158, 286, 3), (159, 288, 3), (160, 292, 1), (161, 299, 0), (162, 302, 2), (163, 262, 0), (164, 306, 0), (165, 307, 1), (166, 314, 2), (167, 315, 1), (168, 318, 1), (169, 319, 1)]
/-- WHAT IS LEFT OF THE CLAIM: from an invariant of both memories, every call is answered alike, and the invariant holds behind it -/
def lw_agree (N : Nat) (Inv Inv' : zzM → Prop) : Prop := ∀ μ, Inv μ → ∀ (k : Nat) (q : Nat × Nat × Nat), lw_arms[k]? = some q → ∀ x1 x2 x3 x4 x5 : Int32, ∃ r1 r2 : zzR, zzf zzP N 13 (q.1 + 3) (.ref 0 :: lw_zargs q.2.2 x1 x2 x3 x4 x5) μ = some r1 ∧ zzf zzP N 13 (q.2.1 + 3) (.ref 105 :: lw_zargs q.2.2 x1 x2 x3 x4 x5) r1.2 = some r2 ∧ r1.1.1 = r2.1.1 ∧ Inv' r2.2
/-- what holds at the loop -/
def lw_L (p : Program) (l : Launch) (e : Env) (s : State) (m : MethodId) (below : List Frame) (meth : Method) (c : Code) (b L : Nat) (xs : Nat → Int32) (D : va_G) (dA : Nat → ClassId) (ad : Nat → Nat) (Q : State → Prop) (i : Nat) (pc : Nat) (μ : zzM) : Prop := ∀ (H : Heap) (locs : List Loc) (lc : Array Slot), va_P D zzcl (zzworld dA ad μ) H → va_S (fun q => s.heap.size ≤ q) s.heap H locs → lv_has lc 4 [(3, .int (nI i)), (2, .ref (ad 105)), (1, .ref (ad 0)), (0, .ref b)] → W p l e room_1 s m #[Value.ref b] below meth c H locs 153 46417 Q (F0 m pc lc [])
theorem lw_oc0 : lw_ok 13 115 11 5 zt118 := ⟨rfl, zzckm_s (a := (3, 17)) (b := (1, 1)) (by decide +kernel), ⟨_, rfl, rfl⟩, zzh_in (q := (3, 15)) (by decide +kernel), zzh_in (q := (3, 16)) (by decide +kernel), rfl, by decide +kernel, zzh_in (q := (3, 14)) (by decide +kernel)⟩
theorem lw_om0 : lw_ok 17 178 12 5 zt181 := ⟨rfl, zzckm_s (a := (7, 35)) (b := (1, 13)) (by decide +kernel), ⟨_, rfl, rfl⟩, zzh_in (q := (7, 33)) (by decide +kernel), zzh_in (q := (7, 34)) (by decide +kernel), rfl, by decide +kernel, zzh_in (q := (7, 32)) (by decide +kernel)⟩
set_option maxHeartbeats 400000 in
theorem lw_arm0 {p : Program} {l : Launch} {e : Env} {s : State} {m : MethodId} {below : List Frame} {meth : Method} {c : Code} {b L : Nat} {xs : Nat → Int32} (hL : L ≤ 3072) (C0 : lw_At p s m meth c b L xs) {D : va_G} {dA : Nat → ClassId} {ad : Nat → Nat} (hK : va_K D zzcl (zztys dA) s) (hnw : zznw s) (hinj : zzinj ad) (had : ∀ i, i < zzn → s.heap.size ≤ ad i) {Q : State → Prop} {N : Nat} {Inv Inv' : zzM → Prop} (hag : lw_agree N Inv Inv') {i : Nat} (hi : i + 6 ≤ L) (hgo : ∀ μ, Inv' μ → lw_L p l e s m below meth c b L xs D dA ad Q i 1251 μ) {μ : zzM} (hI : Inv μ) : lw_L p l e s m below meth c b L xs D dA ad Q i 204 μ := by
  intro H locs lc hP hS hl
  obtain ⟨hx, hb, hr, hml, hown, hts0, hX, hbl, hlocks, hgv⟩ := id C0
  have hts : ∀ w ∈ zzTb, w.before #[Value.ref b] s = true := fun w hw => hts0 w (zzTb_in hw).1
  have hbA : ¬ (fun q : Nat => s.heap.size ≤ q) b := Nat.not_le.mpr hbl
  have hA : ∀ q, zzA ad s.heap.size q → (fun q : Nat => s.heap.size ≤ q) q := fun q hq => hq.elim (fun ⟨j, hj, e⟩ => by rw [e]; exact had j hj) id
  obtain ⟨r1, r2, z1, z2, hrr, hI2⟩ := hag μ hI 0 _ rfl (xs (i + 1)) (xs (i + 2)) (xs (i + 3)) (xs (i + 4)) (xs (i + 5))
  refine lv_aload_n hx hb dl_204 rfl (lv_at hl 2 rfl) ?_
  refine lw_push (j := 1) hx hb hX hbl hbA hS hl rfl rfl (by omega) hL (by decide) dl_205 dl_206 dl_207 dl_208 dl_209 ?_
  refine lw_push (j := 2) hx hb hX hbl hbA hS hl rfl rfl (by omega) hL (by decide) dl_210 dl_211 dl_212 dl_213 dl_214 ?_
  refine lw_push (j := 3) hx hb hX hbl hbA hS hl rfl rfl (by omega) hL (by decide) dl_215 dl_216 dl_217 dl_218 dl_219 ?_
  refine lw_push (j := 4) hx hb hX hbl hbA hS hl rfl rfl (by omega) hL (by decide) dl_220 dl_221 dl_222 dl_223 dl_224 ?_
  refine lw_push (j := 5) hx hb hX hbl hbA hS hl rfl rfl (by omega) hL (by decide) dl_225 dl_226 dl_227 dl_228 dl_229 ?_
  refine lw_call (as := lw_zargs 5 (xs (i + 1)) (xs (i + 2)) (xs (i + 3)) (xs (i + 4)) (xs (i + 5))) (rest := []) hx hb hml hown hts hK hnw hinj hl.1 lw_oc0 rfl rfl z1 dl_230 (Nat.le_of_ble_eq_true rfl) (Nat.le_of_ble_eq_true rfl) (Nat.le_of_ble_eq_true rfl) rfl hP hS hA (fun H1 locs1 hP1 hS1 => ?_)
  refine lv_aload_n hx hb dl_233 rfl (lv_at hl 1 rfl) ?_
  refine lw_push (j := 1) hx hb hX hbl hbA hS1 hl rfl rfl (by omega) hL (by decide) dl_234 dl_235 dl_236 dl_237 dl_238 ?_
  refine lw_push (j := 2) hx hb hX hbl hbA hS1 hl rfl rfl (by omega) hL (by decide) dl_239 dl_240 dl_241 dl_242 dl_243 ?_
  refine lw_push (j := 3) hx hb hX hbl hbA hS1 hl rfl rfl (by omega) hL (by decide) dl_244 dl_245 dl_246 dl_247 dl_248 ?_
  refine lw_push (j := 4) hx hb hX hbl hbA hS1 hl rfl rfl (by omega) hL (by decide) dl_249 dl_250 dl_251 dl_252 dl_253 ?_
  refine lw_push (j := 5) hx hb hX hbl hbA hS1 hl rfl rfl (by omega) hL (by decide) dl_254 dl_255 dl_256 dl_257 dl_258 ?_
  refine lw_call (as := lw_zargs 5 (xs (i + 1)) (xs (i + 2)) (xs (i + 3)) (xs (i + 4)) (xs (i + 5))) (rest := [.int r1.1.1]) hx hb hml hown hts hK hnw hinj hl.1 lw_om0 rfl rfl z2 dl_259 (Nat.le_of_ble_eq_true rfl) (Nat.le_of_ble_eq_true rfl) (Nat.le_of_ble_eq_true rfl) rfl hP1 hS1 hA (fun H2 locs2 hP2 hS2 => ?_)
  exact lv_icmp_eq (tgt := 1251) hx hb dl_262 (by decide) (fun _ => hgo _ hI2 H2 locs2 lc hP2 hS2 hl) (fun z => absurd hrr z)

theorem lw_oc1 : lw_ok 18 117 11 1 zt120 := ⟨rfl, zzckm_s (a := (3, 25)) (b := (1, 1)) (by decide +kernel), ⟨_, rfl, rfl⟩, zzh_in (q := (3, 23)) (by decide +kernel), zzh_in (q := (3, 24)) (by decide +kernel), rfl, by decide +kernel, zzh_in (q := (3, 22)) (by decide +kernel)⟩
theorem lw_om1 : lw_ok 22 180 12 1 zt183 := ⟨rfl, zzckm_s (a := (7, 43)) (b := (1, 13)) (by decide +kernel), ⟨_, rfl, rfl⟩, zzh_in (q := (7, 41)) (by decide +kernel), zzh_in (q := (7, 42)) (by decide +kernel), rfl, by decide +kernel, zzh_in (q := (7, 40)) (by decide +kernel)⟩
set_option maxHeartbeats 400000 in
theorem lw_arm1 {p : Program} {l : Launch} {e : Env} {s : State} {m : MethodId} {below : List Frame} {meth : Method} {c : Code} {b L : Nat} {xs : Nat → Int32} (hL : L ≤ 3072) (C0 : lw_At p s m meth c b L xs) {D : va_G} {dA : Nat → ClassId} {ad : Nat → Nat} (hK : va_K D zzcl (zztys dA) s) (hnw : zznw s) (hinj : zzinj ad) (had : ∀ i, i < zzn → s.heap.size ≤ ad i) {Q : State → Prop} {N : Nat} {Inv Inv' : zzM → Prop} (hag : lw_agree N Inv Inv') {i : Nat} (hi : i + 6 ≤ L) (hgo : ∀ μ, Inv' μ → lw_L p l e s m below meth c b L xs D dA ad Q i 1251 μ) {μ : zzM} (hI : Inv μ) : lw_L p l e s m below meth c b L xs D dA ad Q i 267 μ := by
  intro H locs lc hP hS hl
  obtain ⟨hx, hb, hr, hml, hown, hts0, hX, hbl, hlocks, hgv⟩ := id C0
  have hts : ∀ w ∈ zzTb, w.before #[Value.ref b] s = true := fun w hw => hts0 w (zzTb_in hw).1
  have hbA : ¬ (fun q : Nat => s.heap.size ≤ q) b := Nat.not_le.mpr hbl
  have hA : ∀ q, zzA ad s.heap.size q → (fun q : Nat => s.heap.size ≤ q) q := fun q hq => hq.elim (fun ⟨j, hj, e⟩ => by rw [e]; exact had j hj) id
  obtain ⟨r1, r2, z1, z2, hrr, hI2⟩ := hag μ hI 1 _ rfl (xs (i + 1)) (xs (i + 2)) (xs (i + 3)) (xs (i + 4)) (xs (i + 5))
  refine lv_aload_n hx hb dl_267 rfl (lv_at hl 2 rfl) ?_
  refine lw_push (j := 1) hx hb hX hbl hbA hS hl rfl rfl (by omega) hL (by decide) dl_268 dl_269 dl_270 dl_271 dl_272 ?_
  refine lw_call (as := lw_zargs 1 (xs (i + 1)) (xs (i + 2)) (xs (i + 3)) (xs (i + 4)) (xs (i + 5))) (rest := []) hx hb hml hown hts hK hnw hinj hl.1 lw_oc1 rfl rfl z1 dl_273 (Nat.le_of_ble_eq_true rfl) (Nat.le_of_ble_eq_true rfl) (Nat.le_of_ble_eq_true rfl) rfl hP hS hA (fun H1 locs1 hP1 hS1 => ?_)
  refine lv_aload_n hx hb dl_276 rfl (lv_at hl 1 rfl) ?_
  refine lw_push (j := 1) hx hb hX hbl hbA hS1 hl rfl rfl (by omega) hL (by decide) dl_277 dl_278 dl_279 dl_280 dl_281 ?_
  refine lw_call (as := lw_zargs 1 (xs (i + 1)) (xs (i + 2)) (xs (i + 3)) (xs (i + 4)) (xs (i + 5))) (rest := [.int r1.1.1]) hx hb hml hown hts hK hnw hinj hl.1 lw_om1 rfl rfl z2 dl_282 (Nat.le_of_ble_eq_true rfl) (Nat.le_of_ble_eq_true rfl) (Nat.le_of_ble_eq_true rfl) rfl hP1 hS1 hA (fun H2 locs2 hP2 hS2 => ?_)
  exact lv_icmp_eq (tgt := 1251) hx hb dl_285 (by decide) (fun _ => hgo _ hI2 H2 locs2 lc hP2 hS2 hl) (fun z => absurd hrr z)

theorem lw_oc2 : lw_ok 23 118 11 0 zt121 := ⟨rfl, zzckm_s (a := (3, 29)) (b := (1, 1)) (by decide +kernel), ⟨_, rfl, rfl⟩, zzh_in (q := (3, 27)) (by decide +kernel), zzh_in (q := (3, 28)) (by decide +kernel), rfl, by decide +kernel, zzh_in (q := (3, 26)) (by decide +kernel)⟩
theorem lw_om2 : lw_ok 27 195 12 0 zt198 := ⟨rfl, zzckm_s (a := (7, 47)) (b := (1, 13)) (by decide +kernel), ⟨_, rfl, rfl⟩, zzh_in (q := (7, 45)) (by decide +kernel), zzh_in (q := (7, 46)) (by decide +kernel), rfl, by decide +kernel, zzh_in (q := (7, 44)) (by decide +kernel)⟩
set_option maxHeartbeats 400000 in
theorem lw_arm2 {p : Program} {l : Launch} {e : Env} {s : State} {m : MethodId} {below : List Frame} {meth : Method} {c : Code} {b L : Nat} {xs : Nat → Int32} (hL : L ≤ 3072) (C0 : lw_At p s m meth c b L xs) {D : va_G} {dA : Nat → ClassId} {ad : Nat → Nat} (hK : va_K D zzcl (zztys dA) s) (hnw : zznw s) (hinj : zzinj ad) (had : ∀ i, i < zzn → s.heap.size ≤ ad i) {Q : State → Prop} {N : Nat} {Inv Inv' : zzM → Prop} (hag : lw_agree N Inv Inv') {i : Nat} (hi : i + 6 ≤ L) (hgo : ∀ μ, Inv' μ → lw_L p l e s m below meth c b L xs D dA ad Q i 1251 μ) {μ : zzM} (hI : Inv μ) : lw_L p l e s m below meth c b L xs D dA ad Q i 290 μ := by
  intro H locs lc hP hS hl
  obtain ⟨hx, hb, hr, hml, hown, hts0, hX, hbl, hlocks, hgv⟩ := id C0
  have hts : ∀ w ∈ zzTb, w.before #[Value.ref b] s = true := fun w hw => hts0 w (zzTb_in hw).1
  have hbA : ¬ (fun q : Nat => s.heap.size ≤ q) b := Nat.not_le.mpr hbl
  have hA : ∀ q, zzA ad s.heap.size q → (fun q : Nat => s.heap.size ≤ q) q := fun q hq => hq.elim (fun ⟨j, hj, e⟩ => by rw [e]; exact had j hj) id
  obtain ⟨r1, r2, z1, z2, hrr, hI2⟩ := hag μ hI 2 _ rfl (xs (i + 1)) (xs (i + 2)) (xs (i + 3)) (xs (i + 4)) (xs (i + 5))
  refine lv_aload_n hx hb dl_290 rfl (lv_at hl 2 rfl) ?_
  refine lw_call (as := lw_zargs 0 (xs (i + 1)) (xs (i + 2)) (xs (i + 3)) (xs (i + 4)) (xs (i + 5))) (rest := []) hx hb hml hown hts hK hnw hinj hl.1 lw_oc2 rfl rfl z1 dl_291 (Nat.le_of_ble_eq_true rfl) (Nat.le_of_ble_eq_true rfl) (Nat.le_of_ble_eq_true rfl) rfl hP hS hA (fun H1 locs1 hP1 hS1 => ?_)
  refine lv_aload_n hx hb dl_294 rfl (lv_at hl 1 rfl) ?_
  refine lw_call (as := lw_zargs 0 (xs (i + 1)) (xs (i + 2)) (xs (i + 3)) (xs (i + 4)) (xs (i + 5))) (rest := [.int r1.1.1]) hx hb hml hown hts hK hnw hinj hl.1 lw_om2 rfl rfl z2 dl_295 (Nat.le_of_ble_eq_true rfl) (Nat.le_of_ble_eq_true rfl) (Nat.le_of_ble_eq_true rfl) rfl hP1 hS1 hA (fun H2 locs2 hP2 hS2 => ?_)
  exact lv_icmp_eq (tgt := 1251) hx hb dl_298 (by decide) (fun _ => hgo _ hI2 H2 locs2 lc hP2 hS2 hl) (fun z => absurd hrr z)

theorem lw_oc3 : lw_ok 28 133 11 2 zt136 := ⟨rfl, zzckm_s (a := (3, 130)) (b := (1, 1)) (by decide +kernel), ⟨_, rfl, rfl⟩, zzh_in (q := (3, 128)) (by decide +kernel), zzh_in (q := (3, 129)) (by decide +kernel), rfl, by decide +kernel, zzh_in (q := (3, 127)) (by decide +kernel)⟩
theorem lw_om3 : lw_ok 32 196 12 2 zt199 := ⟨rfl, zzckm_s (a := (7, 157)) (b := (1, 13)) (by decide +kernel), ⟨_, rfl, rfl⟩, zzh_in (q := (7, 155)) (by decide +kernel), zzh_in (q := (7, 156)) (by decide +kernel), rfl, by decide +kernel, zzh_in (q := (7, 154)) (by decide +kernel)⟩
set_option maxHeartbeats 400000 in
theorem lw_arm3 {p : Program} {l : Launch} {e : Env} {s : State} {m : MethodId} {below : List Frame} {meth : Method} {c : Code} {b L : Nat} {xs : Nat → Int32} (hL : L ≤ 3072) (C0 : lw_At p s m meth c b L xs) {D : va_G} {dA : Nat → ClassId} {ad : Nat → Nat} (hK : va_K D zzcl (zztys dA) s) (hnw : zznw s) (hinj : zzinj ad) (had : ∀ i, i < zzn → s.heap.size ≤ ad i) {Q : State → Prop} {N : Nat} {Inv Inv' : zzM → Prop} (hag : lw_agree N Inv Inv') {i : Nat} (hi : i + 6 ≤ L) (hgo : ∀ μ, Inv' μ → lw_L p l e s m below meth c b L xs D dA ad Q i 1251 μ) {μ : zzM} (hI : Inv μ) : lw_L p l e s m below meth c b L xs D dA ad Q i 303 μ := by
  intro H locs lc hP hS hl
  obtain ⟨hx, hb, hr, hml, hown, hts0, hX, hbl, hlocks, hgv⟩ := id C0
  have hts : ∀ w ∈ zzTb, w.before #[Value.ref b] s = true := fun w hw => hts0 w (zzTb_in hw).1
  have hbA : ¬ (fun q : Nat => s.heap.size ≤ q) b := Nat.not_le.mpr hbl
  have hA : ∀ q, zzA ad s.heap.size q → (fun q : Nat => s.heap.size ≤ q) q := fun q hq => hq.elim (fun ⟨j, hj, e⟩ => by rw [e]; exact had j hj) id
  obtain ⟨r1, r2, z1, z2, hrr, hI2⟩ := hag μ hI 3 _ rfl (xs (i + 1)) (xs (i + 2)) (xs (i + 3)) (xs (i + 4)) (xs (i + 5))
  refine lv_aload_n hx hb dl_303 rfl (lv_at hl 2 rfl) ?_
  refine lw_push (j := 1) hx hb hX hbl hbA hS hl rfl rfl (by omega) hL (by decide) dl_304 dl_305 dl_306 dl_307 dl_308 ?_
  refine lw_push (j := 2) hx hb hX hbl hbA hS hl rfl rfl (by omega) hL (by decide) dl_309 dl_310 dl_311 dl_312 dl_313 ?_
  refine lw_call (as := lw_zargs 2 (xs (i + 1)) (xs (i + 2)) (xs (i + 3)) (xs (i + 4)) (xs (i + 5))) (rest := []) hx hb hml hown hts hK hnw hinj hl.1 lw_oc3 rfl rfl z1 dl_314 (Nat.le_of_ble_eq_true rfl) (Nat.le_of_ble_eq_true rfl) (Nat.le_of_ble_eq_true rfl) rfl hP hS hA (fun H1 locs1 hP1 hS1 => ?_)
  refine lv_aload_n hx hb dl_317 rfl (lv_at hl 1 rfl) ?_
  refine lw_push (j := 1) hx hb hX hbl hbA hS1 hl rfl rfl (by omega) hL (by decide) dl_318 dl_319 dl_320 dl_321 dl_322 ?_
  refine lw_push (j := 2) hx hb hX hbl hbA hS1 hl rfl rfl (by omega) hL (by decide) dl_323 dl_324 dl_325 dl_326 dl_327 ?_
  refine lw_call (as := lw_zargs 2 (xs (i + 1)) (xs (i + 2)) (xs (i + 3)) (xs (i + 4)) (xs (i + 5))) (rest := [.int r1.1.1]) hx hb hml hown hts hK hnw hinj hl.1 lw_om3 rfl rfl z2 dl_328 (Nat.le_of_ble_eq_true rfl) (Nat.le_of_ble_eq_true rfl) (Nat.le_of_ble_eq_true rfl) rfl hP1 hS1 hA (fun H2 locs2 hP2 hS2 => ?_)
  exact lv_icmp_eq (tgt := 1251) hx hb dl_331 (by decide) (fun _ => hgo _ hI2 H2 locs2 lc hP2 hS2 hl) (fun z => absurd hrr z)

theorem lw_oc4 : lw_ok 33 134 11 2 zt137 := ⟨rfl, zzckm_s (a := (3, 138)) (b := (1, 1)) (by decide +kernel), ⟨_, rfl, rfl⟩, zzh_in (q := (3, 136)) (by decide +kernel), zzh_in (q := (3, 137)) (by decide +kernel), rfl, by decide +kernel, zzh_in (q := (3, 135)) (by decide +kernel)⟩
theorem lw_om4 : lw_ok 36 197 12 2 zt200 := ⟨rfl, zzckm_s (a := (7, 165)) (b := (1, 13)) (by decide +kernel), ⟨_, rfl, rfl⟩, zzh_in (q := (7, 163)) (by decide +kernel), zzh_in (q := (7, 164)) (by decide +kernel), rfl, by decide +kernel, zzh_in (q := (7, 162)) (by decide +kernel)⟩
set_option maxHeartbeats 400000 in
theorem lw_arm4 {p : Program} {l : Launch} {e : Env} {s : State} {m : MethodId} {below : List Frame} {meth : Method} {c : Code} {b L : Nat} {xs : Nat → Int32} (hL : L ≤ 3072) (C0 : lw_At p s m meth c b L xs) {D : va_G} {dA : Nat → ClassId} {ad : Nat → Nat} (hK : va_K D zzcl (zztys dA) s) (hnw : zznw s) (hinj : zzinj ad) (had : ∀ i, i < zzn → s.heap.size ≤ ad i) {Q : State → Prop} {N : Nat} {Inv Inv' : zzM → Prop} (hag : lw_agree N Inv Inv') {i : Nat} (hi : i + 6 ≤ L) (hgo : ∀ μ, Inv' μ → lw_L p l e s m below meth c b L xs D dA ad Q i 1251 μ) {μ : zzM} (hI : Inv μ) : lw_L p l e s m below meth c b L xs D dA ad Q i 336 μ := by
  intro H locs lc hP hS hl
  obtain ⟨hx, hb, hr, hml, hown, hts0, hX, hbl, hlocks, hgv⟩ := id C0
  have hts : ∀ w ∈ zzTb, w.before #[Value.ref b] s = true := fun w hw => hts0 w (zzTb_in hw).1
  have hbA : ¬ (fun q : Nat => s.heap.size ≤ q) b := Nat.not_le.mpr hbl
  have hA : ∀ q, zzA ad s.heap.size q → (fun q : Nat => s.heap.size ≤ q) q := fun q hq => hq.elim (fun ⟨j, hj, e⟩ => by rw [e]; exact had j hj) id
  obtain ⟨r1, r2, z1, z2, hrr, hI2⟩ := hag μ hI 4 _ rfl (xs (i + 1)) (xs (i + 2)) (xs (i + 3)) (xs (i + 4)) (xs (i + 5))
  refine lv_aload_n hx hb dl_336 rfl (lv_at hl 2 rfl) ?_
  refine lw_push (j := 1) hx hb hX hbl hbA hS hl rfl rfl (by omega) hL (by decide) dl_337 dl_338 dl_339 dl_340 dl_341 ?_
  refine lw_push (j := 2) hx hb hX hbl hbA hS hl rfl rfl (by omega) hL (by decide) dl_342 dl_343 dl_344 dl_345 dl_346 ?_
  refine lw_call (as := lw_zargs 2 (xs (i + 1)) (xs (i + 2)) (xs (i + 3)) (xs (i + 4)) (xs (i + 5))) (rest := []) hx hb hml hown hts hK hnw hinj hl.1 lw_oc4 rfl rfl z1 dl_347 (Nat.le_of_ble_eq_true rfl) (Nat.le_of_ble_eq_true rfl) (Nat.le_of_ble_eq_true rfl) rfl hP hS hA (fun H1 locs1 hP1 hS1 => ?_)
  refine lv_aload_n hx hb dl_350 rfl (lv_at hl 1 rfl) ?_
  refine lw_push (j := 1) hx hb hX hbl hbA hS1 hl rfl rfl (by omega) hL (by decide) dl_351 dl_352 dl_353 dl_354 dl_355 ?_
  refine lw_push (j := 2) hx hb hX hbl hbA hS1 hl rfl rfl (by omega) hL (by decide) dl_356 dl_357 dl_358 dl_359 dl_360 ?_
  refine lw_call (as := lw_zargs 2 (xs (i + 1)) (xs (i + 2)) (xs (i + 3)) (xs (i + 4)) (xs (i + 5))) (rest := [.int r1.1.1]) hx hb hml hown hts hK hnw hinj hl.1 lw_om4 rfl rfl z2 dl_361 (Nat.le_of_ble_eq_true rfl) (Nat.le_of_ble_eq_true rfl) (Nat.le_of_ble_eq_true rfl) rfl hP1 hS1 hA (fun H2 locs2 hP2 hS2 => ?_)
  exact lv_icmp_eq (tgt := 1251) hx hb dl_364 (by decide) (fun _ => hgo _ hI2 H2 locs2 lc hP2 hS2 hl) (fun z => absurd hrr z)

theorem lw_oc5 : lw_ok 37 135 11 1 zt138 := ⟨rfl, zzckm_s (a := (3, 143)) (b := (1, 1)) (by decide +kernel), ⟨_, rfl, rfl⟩, zzh_in (q := (3, 141)) (by decide +kernel), zzh_in (q := (3, 142)) (by decide +kernel), rfl, by decide +kernel, zzh_in (q := (3, 140)) (by decide +kernel)⟩
theorem lw_om5 : lw_ok 40 207 12 1 zt210 := ⟨rfl, zzckm_s (a := (7, 169)) (b := (1, 13)) (by decide +kernel), ⟨_, rfl, rfl⟩, zzh_in (q := (7, 167)) (by decide +kernel), zzh_in (q := (7, 168)) (by decide +kernel), rfl, by decide +kernel, zzh_in (q := (7, 166)) (by decide +kernel)⟩
set_option maxHeartbeats 400000 in
theorem lw_arm5 {p : Program} {l : Launch} {e : Env} {s : State} {m : MethodId} {below : List Frame} {meth : Method} {c : Code} {b L : Nat} {xs : Nat → Int32} (hL : L ≤ 3072) (C0 : lw_At p s m meth c b L xs) {D : va_G} {dA : Nat → ClassId} {ad : Nat → Nat} (hK : va_K D zzcl (zztys dA) s) (hnw : zznw s) (hinj : zzinj ad) (had : ∀ i, i < zzn → s.heap.size ≤ ad i) {Q : State → Prop} {N : Nat} {Inv Inv' : zzM → Prop} (hag : lw_agree N Inv Inv') {i : Nat} (hi : i + 6 ≤ L) (hgo : ∀ μ, Inv' μ → lw_L p l e s m below meth c b L xs D dA ad Q i 1251 μ) {μ : zzM} (hI : Inv μ) : lw_L p l e s m below meth c b L xs D dA ad Q i 369 μ := by
  intro H locs lc hP hS hl
  obtain ⟨hx, hb, hr, hml, hown, hts0, hX, hbl, hlocks, hgv⟩ := id C0
  have hts : ∀ w ∈ zzTb, w.before #[Value.ref b] s = true := fun w hw => hts0 w (zzTb_in hw).1
  have hbA : ¬ (fun q : Nat => s.heap.size ≤ q) b := Nat.not_le.mpr hbl
  have hA : ∀ q, zzA ad s.heap.size q → (fun q : Nat => s.heap.size ≤ q) q := fun q hq => hq.elim (fun ⟨j, hj, e⟩ => by rw [e]; exact had j hj) id
  obtain ⟨r1, r2, z1, z2, hrr, hI2⟩ := hag μ hI 5 _ rfl (xs (i + 1)) (xs (i + 2)) (xs (i + 3)) (xs (i + 4)) (xs (i + 5))
  refine lv_aload_n hx hb dl_369 rfl (lv_at hl 2 rfl) ?_
  refine lw_push (j := 1) hx hb hX hbl hbA hS hl rfl rfl (by omega) hL (by decide) dl_370 dl_371 dl_372 dl_373 dl_374 ?_
  refine lw_call (as := lw_zargs 1 (xs (i + 1)) (xs (i + 2)) (xs (i + 3)) (xs (i + 4)) (xs (i + 5))) (rest := []) hx hb hml hown hts hK hnw hinj hl.1 lw_oc5 rfl rfl z1 dl_375 (Nat.le_of_ble_eq_true rfl) (Nat.le_of_ble_eq_true rfl) (Nat.le_of_ble_eq_true rfl) rfl hP hS hA (fun H1 locs1 hP1 hS1 => ?_)
  refine lv_aload_n hx hb dl_378 rfl (lv_at hl 1 rfl) ?_
  refine lw_push (j := 1) hx hb hX hbl hbA hS1 hl rfl rfl (by omega) hL (by decide) dl_379 dl_380 dl_381 dl_382 dl_383 ?_
  refine lw_call (as := lw_zargs 1 (xs (i + 1)) (xs (i + 2)) (xs (i + 3)) (xs (i + 4)) (xs (i + 5))) (rest := [.int r1.1.1]) hx hb hml hown hts hK hnw hinj hl.1 lw_om5 rfl rfl z2 dl_384 (Nat.le_of_ble_eq_true rfl) (Nat.le_of_ble_eq_true rfl) (Nat.le_of_ble_eq_true rfl) rfl hP1 hS1 hA (fun H2 locs2 hP2 hS2 => ?_)
  exact lv_icmp_eq (tgt := 1251) hx hb dl_387 (by decide) (fun _ => hgo _ hI2 H2 locs2 lc hP2 hS2 hl) (fun z => absurd hrr z)

theorem lw_oc6 : lw_ok 41 136 11 1 zt139 := ⟨rfl, zzckm_s (a := (3, 228)) (b := (1, 1)) (by decide +kernel), ⟨_, rfl, rfl⟩, zzh_in (q := (3, 226)) (by decide +kernel), zzh_in (q := (3, 227)) (by decide +kernel), rfl, by decide +kernel, zzh_in (q := (3, 225)) (by decide +kernel)⟩
theorem lw_om6 : lw_ok 44 213 12 1 zt216 := ⟨rfl, zzckm_s (a := (7, 212)) (b := (1, 13)) (by decide +kernel), ⟨_, rfl, rfl⟩, zzh_in (q := (7, 210)) (by decide +kernel), zzh_in (q := (7, 211)) (by decide +kernel), rfl, by decide +kernel, zzh_in (q := (7, 209)) (by decide +kernel)⟩
set_option maxHeartbeats 400000 in
theorem lw_arm6 {p : Program} {l : Launch} {e : Env} {s : State} {m : MethodId} {below : List Frame} {meth : Method} {c : Code} {b L : Nat} {xs : Nat → Int32} (hL : L ≤ 3072) (C0 : lw_At p s m meth c b L xs) {D : va_G} {dA : Nat → ClassId} {ad : Nat → Nat} (hK : va_K D zzcl (zztys dA) s) (hnw : zznw s) (hinj : zzinj ad) (had : ∀ i, i < zzn → s.heap.size ≤ ad i) {Q : State → Prop} {N : Nat} {Inv Inv' : zzM → Prop} (hag : lw_agree N Inv Inv') {i : Nat} (hi : i + 6 ≤ L) (hgo : ∀ μ, Inv' μ → lw_L p l e s m below meth c b L xs D dA ad Q i 1251 μ) {μ : zzM} (hI : Inv μ) : lw_L p l e s m below meth c b L xs D dA ad Q i 392 μ := by
  intro H locs lc hP hS hl
  obtain ⟨hx, hb, hr, hml, hown, hts0, hX, hbl, hlocks, hgv⟩ := id C0
  have hts : ∀ w ∈ zzTb, w.before #[Value.ref b] s = true := fun w hw => hts0 w (zzTb_in hw).1
  have hbA : ¬ (fun q : Nat => s.heap.size ≤ q) b := Nat.not_le.mpr hbl
  have hA : ∀ q, zzA ad s.heap.size q → (fun q : Nat => s.heap.size ≤ q) q := fun q hq => hq.elim (fun ⟨j, hj, e⟩ => by rw [e]; exact had j hj) id
  obtain ⟨r1, r2, z1, z2, hrr, hI2⟩ := hag μ hI 6 _ rfl (xs (i + 1)) (xs (i + 2)) (xs (i + 3)) (xs (i + 4)) (xs (i + 5))
  refine lv_aload_n hx hb dl_392 rfl (lv_at hl 2 rfl) ?_
  refine lw_push (j := 1) hx hb hX hbl hbA hS hl rfl rfl (by omega) hL (by decide) dl_393 dl_394 dl_395 dl_396 dl_397 ?_
  refine lw_call (as := lw_zargs 1 (xs (i + 1)) (xs (i + 2)) (xs (i + 3)) (xs (i + 4)) (xs (i + 5))) (rest := []) hx hb hml hown hts hK hnw hinj hl.1 lw_oc6 rfl rfl z1 dl_398 (Nat.le_of_ble_eq_true rfl) (Nat.le_of_ble_eq_true rfl) (Nat.le_of_ble_eq_true rfl) rfl hP hS hA (fun H1 locs1 hP1 hS1 => ?_)
  refine lv_aload_n hx hb dl_401 rfl (lv_at hl 1 rfl) ?_
  refine lw_push (j := 1) hx hb hX hbl hbA hS1 hl rfl rfl (by omega) hL (by decide) dl_402 dl_403 dl_404 dl_405 dl_406 ?_
  refine lw_call (as := lw_zargs 1 (xs (i + 1)) (xs (i + 2)) (xs (i + 3)) (xs (i + 4)) (xs (i + 5))) (rest := [.int r1.1.1]) hx hb hml hown hts hK hnw hinj hl.1 lw_om6 rfl rfl z2 dl_407 (Nat.le_of_ble_eq_true rfl) (Nat.le_of_ble_eq_true rfl) (Nat.le_of_ble_eq_true rfl) rfl hP1 hS1 hA (fun H2 locs2 hP2 hS2 => ?_)
  exact lv_icmp_eq (tgt := 1251) hx hb dl_410 (by decide) (fun _ => hgo _ hI2 H2 locs2 lc hP2 hS2 hl) (fun z => absurd hrr z)

theorem lw_oc7 : lw_ok 45 137 11 1 zt140 := ⟨rfl, zzckm_s (a := (3, 236)) (b := (1, 1)) (by decide +kernel), ⟨_, rfl, rfl⟩, zzh_in (q := (3, 234)) (by decide +kernel), zzh_in (q := (3, 235)) (by decide +kernel), rfl, by decide +kernel, zzh_in (q := (3, 233)) (by decide +kernel)⟩
theorem lw_om7 : lw_ok 48 214 12 1 zt217 := ⟨rfl, zzckm_s (a := (7, 232)) (b := (1, 13)) (by decide +kernel), ⟨_, rfl, rfl⟩, zzh_in (q := (7, 230)) (by decide +kernel), zzh_in (q := (7, 231)) (by decide +kernel), rfl, by decide +kernel, zzh_in (q := (7, 229)) (by decide +kernel)⟩
set_option maxHeartbeats 400000 in
theorem lw_arm7 {p : Program} {l : Launch} {e : Env} {s : State} {m : MethodId} {below : List Frame} {meth : Method} {c : Code} {b L : Nat} {xs : Nat → Int32} (hL : L ≤ 3072) (C0 : lw_At p s m meth c b L xs) {D : va_G} {dA : Nat → ClassId} {ad : Nat → Nat} (hK : va_K D zzcl (zztys dA) s) (hnw : zznw s) (hinj : zzinj ad) (had : ∀ i, i < zzn → s.heap.size ≤ ad i) {Q : State → Prop} {N : Nat} {Inv Inv' : zzM → Prop} (hag : lw_agree N Inv Inv') {i : Nat} (hi : i + 6 ≤ L) (hgo : ∀ μ, Inv' μ → lw_L p l e s m below meth c b L xs D dA ad Q i 1251 μ) {μ : zzM} (hI : Inv μ) : lw_L p l e s m below meth c b L xs D dA ad Q i 415 μ := by
  intro H locs lc hP hS hl
  obtain ⟨hx, hb, hr, hml, hown, hts0, hX, hbl, hlocks, hgv⟩ := id C0
  have hts : ∀ w ∈ zzTb, w.before #[Value.ref b] s = true := fun w hw => hts0 w (zzTb_in hw).1
  have hbA : ¬ (fun q : Nat => s.heap.size ≤ q) b := Nat.not_le.mpr hbl
  have hA : ∀ q, zzA ad s.heap.size q → (fun q : Nat => s.heap.size ≤ q) q := fun q hq => hq.elim (fun ⟨j, hj, e⟩ => by rw [e]; exact had j hj) id
  obtain ⟨r1, r2, z1, z2, hrr, hI2⟩ := hag μ hI 7 _ rfl (xs (i + 1)) (xs (i + 2)) (xs (i + 3)) (xs (i + 4)) (xs (i + 5))
  refine lv_aload_n hx hb dl_415 rfl (lv_at hl 2 rfl) ?_
  refine lw_push (j := 1) hx hb hX hbl hbA hS hl rfl rfl (by omega) hL (by decide) dl_416 dl_417 dl_418 dl_419 dl_420 ?_
  refine lw_call (as := lw_zargs 1 (xs (i + 1)) (xs (i + 2)) (xs (i + 3)) (xs (i + 4)) (xs (i + 5))) (rest := []) hx hb hml hown hts hK hnw hinj hl.1 lw_oc7 rfl rfl z1 dl_421 (Nat.le_of_ble_eq_true rfl) (Nat.le_of_ble_eq_true rfl) (Nat.le_of_ble_eq_true rfl) rfl hP hS hA (fun H1 locs1 hP1 hS1 => ?_)
  refine lv_aload_n hx hb dl_424 rfl (lv_at hl 1 rfl) ?_
  refine lw_push (j := 1) hx hb hX hbl hbA hS1 hl rfl rfl (by omega) hL (by decide) dl_425 dl_426 dl_427 dl_428 dl_429 ?_
  refine lw_call (as := lw_zargs 1 (xs (i + 1)) (xs (i + 2)) (xs (i + 3)) (xs (i + 4)) (xs (i + 5))) (rest := [.int r1.1.1]) hx hb hml hown hts hK hnw hinj hl.1 lw_om7 rfl rfl z2 dl_430 (Nat.le_of_ble_eq_true rfl) (Nat.le_of_ble_eq_true rfl) (Nat.le_of_ble_eq_true rfl) rfl hP1 hS1 hA (fun H2 locs2 hP2 hS2 => ?_)
  exact lv_icmp_eq (tgt := 1251) hx hb dl_433 (by decide) (fun _ => hgo _ hI2 H2 locs2 lc hP2 hS2 hl) (fun z => absurd hrr z)

theorem lw_oc8 : lw_ok 49 138 11 1 zt141 := ⟨rfl, zzckm_s (a := (4, 0)) (b := (1, 1)) (by decide +kernel), ⟨_, rfl, rfl⟩, zzh_in (q := (3, 238)) (by decide +kernel), zzh_in (q := (3, 239)) (by decide +kernel), rfl, by decide +kernel, zzh_in (q := (3, 237)) (by decide +kernel)⟩
theorem lw_om8 : lw_ok 52 217 12 1 zt220 := ⟨rfl, zzckm_s (a := (8, 5)) (b := (1, 13)) (by decide +kernel), ⟨_, rfl, rfl⟩, zzh_in (q := (8, 3)) (by decide +kernel), zzh_in (q := (8, 4)) (by decide +kernel), rfl, by decide +kernel, zzh_in (q := (8, 2)) (by decide +kernel)⟩
set_option maxHeartbeats 400000 in
theorem lw_arm8 {p : Program} {l : Launch} {e : Env} {s : State} {m : MethodId} {below : List Frame} {meth : Method} {c : Code} {b L : Nat} {xs : Nat → Int32} (hL : L ≤ 3072) (C0 : lw_At p s m meth c b L xs) {D : va_G} {dA : Nat → ClassId} {ad : Nat → Nat} (hK : va_K D zzcl (zztys dA) s) (hnw : zznw s) (hinj : zzinj ad) (had : ∀ i, i < zzn → s.heap.size ≤ ad i) {Q : State → Prop} {N : Nat} {Inv Inv' : zzM → Prop} (hag : lw_agree N Inv Inv') {i : Nat} (hi : i + 6 ≤ L) (hgo : ∀ μ, Inv' μ → lw_L p l e s m below meth c b L xs D dA ad Q i 1251 μ) {μ : zzM} (hI : Inv μ) : lw_L p l e s m below meth c b L xs D dA ad Q i 438 μ := by
  intro H locs lc hP hS hl
  obtain ⟨hx, hb, hr, hml, hown, hts0, hX, hbl, hlocks, hgv⟩ := id C0
  have hts : ∀ w ∈ zzTb, w.before #[Value.ref b] s = true := fun w hw => hts0 w (zzTb_in hw).1
  have hbA : ¬ (fun q : Nat => s.heap.size ≤ q) b := Nat.not_le.mpr hbl
  have hA : ∀ q, zzA ad s.heap.size q → (fun q : Nat => s.heap.size ≤ q) q := fun q hq => hq.elim (fun ⟨j, hj, e⟩ => by rw [e]; exact had j hj) id
  obtain ⟨r1, r2, z1, z2, hrr, hI2⟩ := hag μ hI 8 _ rfl (xs (i + 1)) (xs (i + 2)) (xs (i + 3)) (xs (i + 4)) (xs (i + 5))
  refine lv_aload_n hx hb dl_438 rfl (lv_at hl 2 rfl) ?_
  refine lw_push (j := 1) hx hb hX hbl hbA hS hl rfl rfl (by omega) hL (by decide) dl_439 dl_440 dl_441 dl_442 dl_443 ?_
  refine lw_call (as := lw_zargs 1 (xs (i + 1)) (xs (i + 2)) (xs (i + 3)) (xs (i + 4)) (xs (i + 5))) (rest := []) hx hb hml hown hts hK hnw hinj hl.1 lw_oc8 rfl rfl z1 dl_444 (Nat.le_of_ble_eq_true rfl) (Nat.le_of_ble_eq_true rfl) (Nat.le_of_ble_eq_true rfl) rfl hP hS hA (fun H1 locs1 hP1 hS1 => ?_)
  refine lv_aload_n hx hb dl_447 rfl (lv_at hl 1 rfl) ?_
  refine lw_push (j := 1) hx hb hX hbl hbA hS1 hl rfl rfl (by omega) hL (by decide) dl_448 dl_449 dl_450 dl_451 dl_452 ?_
  refine lw_call (as := lw_zargs 1 (xs (i + 1)) (xs (i + 2)) (xs (i + 3)) (xs (i + 4)) (xs (i + 5))) (rest := [.int r1.1.1]) hx hb hml hown hts hK hnw hinj hl.1 lw_om8 rfl rfl z2 dl_453 (Nat.le_of_ble_eq_true rfl) (Nat.le_of_ble_eq_true rfl) (Nat.le_of_ble_eq_true rfl) rfl hP1 hS1 hA (fun H2 locs2 hP2 hS2 => ?_)
  exact lv_icmp_eq (tgt := 1251) hx hb dl_456 (by decide) (fun _ => hgo _ hI2 H2 locs2 lc hP2 hS2 hl) (fun z => absurd hrr z)

theorem lw_oc9 : lw_ok 53 139 11 0 zt142 := ⟨rfl, zzckm_s (a := (4, 4)) (b := (1, 1)) (by decide +kernel), ⟨_, rfl, rfl⟩, zzh_in (q := (4, 2)) (by decide +kernel), zzh_in (q := (4, 3)) (by decide +kernel), rfl, by decide +kernel, zzh_in (q := (4, 1)) (by decide +kernel)⟩
theorem lw_om9 : lw_ok 56 227 12 0 zt230 := ⟨rfl, zzckm_s (a := (8, 17)) (b := (1, 13)) (by decide +kernel), ⟨_, rfl, rfl⟩, zzh_in (q := (8, 15)) (by decide +kernel), zzh_in (q := (8, 16)) (by decide +kernel), rfl, by decide +kernel, zzh_in (q := (8, 14)) (by decide +kernel)⟩
set_option maxHeartbeats 400000 in
theorem lw_arm9 {p : Program} {l : Launch} {e : Env} {s : State} {m : MethodId} {below : List Frame} {meth : Method} {c : Code} {b L : Nat} {xs : Nat → Int32} (hL : L ≤ 3072) (C0 : lw_At p s m meth c b L xs) {D : va_G} {dA : Nat → ClassId} {ad : Nat → Nat} (hK : va_K D zzcl (zztys dA) s) (hnw : zznw s) (hinj : zzinj ad) (had : ∀ i, i < zzn → s.heap.size ≤ ad i) {Q : State → Prop} {N : Nat} {Inv Inv' : zzM → Prop} (hag : lw_agree N Inv Inv') {i : Nat} (hi : i + 6 ≤ L) (hgo : ∀ μ, Inv' μ → lw_L p l e s m below meth c b L xs D dA ad Q i 1251 μ) {μ : zzM} (hI : Inv μ) : lw_L p l e s m below meth c b L xs D dA ad Q i 461 μ := by
  intro H locs lc hP hS hl
  obtain ⟨hx, hb, hr, hml, hown, hts0, hX, hbl, hlocks, hgv⟩ := id C0
  have hts : ∀ w ∈ zzTb, w.before #[Value.ref b] s = true := fun w hw => hts0 w (zzTb_in hw).1
  have hbA : ¬ (fun q : Nat => s.heap.size ≤ q) b := Nat.not_le.mpr hbl
  have hA : ∀ q, zzA ad s.heap.size q → (fun q : Nat => s.heap.size ≤ q) q := fun q hq => hq.elim (fun ⟨j, hj, e⟩ => by rw [e]; exact had j hj) id
  obtain ⟨r1, r2, z1, z2, hrr, hI2⟩ := hag μ hI 9 _ rfl (xs (i + 1)) (xs (i + 2)) (xs (i + 3)) (xs (i + 4)) (xs (i + 5))
  refine lv_aload_n hx hb dl_461 rfl (lv_at hl 2 rfl) ?_
  refine lw_call (as := lw_zargs 0 (xs (i + 1)) (xs (i + 2)) (xs (i + 3)) (xs (i + 4)) (xs (i + 5))) (rest := []) hx hb hml hown hts hK hnw hinj hl.1 lw_oc9 rfl rfl z1 dl_462 (Nat.le_of_ble_eq_true rfl) (Nat.le_of_ble_eq_true rfl) (Nat.le_of_ble_eq_true rfl) rfl hP hS hA (fun H1 locs1 hP1 hS1 => ?_)
  refine lv_aload_n hx hb dl_465 rfl (lv_at hl 1 rfl) ?_
  refine lw_call (as := lw_zargs 0 (xs (i + 1)) (xs (i + 2)) (xs (i + 3)) (xs (i + 4)) (xs (i + 5))) (rest := [.int r1.1.1]) hx hb hml hown hts hK hnw hinj hl.1 lw_om9 rfl rfl z2 dl_466 (Nat.le_of_ble_eq_true rfl) (Nat.le_of_ble_eq_true rfl) (Nat.le_of_ble_eq_true rfl) rfl hP1 hS1 hA (fun H2 locs2 hP2 hS2 => ?_)
  exact lv_icmp_eq (tgt := 1251) hx hb dl_469 (by decide) (fun _ => hgo _ hI2 H2 locs2 lc hP2 hS2 hl) (fun z => absurd hrr z)

theorem lw_oc10 : lw_ok 57 140 11 2 zt143 := ⟨rfl, zzckm_s (a := (4, 12)) (b := (1, 1)) (by decide +kernel), ⟨_, rfl, rfl⟩, zzh_in (q := (4, 10)) (by decide +kernel), zzh_in (q := (4, 11)) (by decide +kernel), rfl, by decide +kernel, zzh_in (q := (4, 9)) (by decide +kernel)⟩
theorem lw_om10 : lw_ok 60 228 12 2 zt231 := ⟨rfl, zzckm_s (a := (8, 21)) (b := (1, 13)) (by decide +kernel), ⟨_, rfl, rfl⟩, zzh_in (q := (8, 19)) (by decide +kernel), zzh_in (q := (8, 20)) (by decide +kernel), rfl, by decide +kernel, zzh_in (q := (8, 18)) (by decide +kernel)⟩
set_option maxHeartbeats 400000 in
theorem lw_arm10 {p : Program} {l : Launch} {e : Env} {s : State} {m : MethodId} {below : List Frame} {meth : Method} {c : Code} {b L : Nat} {xs : Nat → Int32} (hL : L ≤ 3072) (C0 : lw_At p s m meth c b L xs) {D : va_G} {dA : Nat → ClassId} {ad : Nat → Nat} (hK : va_K D zzcl (zztys dA) s) (hnw : zznw s) (hinj : zzinj ad) (had : ∀ i, i < zzn → s.heap.size ≤ ad i) {Q : State → Prop} {N : Nat} {Inv Inv' : zzM → Prop} (hag : lw_agree N Inv Inv') {i : Nat} (hi : i + 6 ≤ L) (hgo : ∀ μ, Inv' μ → lw_L p l e s m below meth c b L xs D dA ad Q i 1251 μ) {μ : zzM} (hI : Inv μ) : lw_L p l e s m below meth c b L xs D dA ad Q i 474 μ := by
  intro H locs lc hP hS hl
  obtain ⟨hx, hb, hr, hml, hown, hts0, hX, hbl, hlocks, hgv⟩ := id C0
  have hts : ∀ w ∈ zzTb, w.before #[Value.ref b] s = true := fun w hw => hts0 w (zzTb_in hw).1
  have hbA : ¬ (fun q : Nat => s.heap.size ≤ q) b := Nat.not_le.mpr hbl
  have hA : ∀ q, zzA ad s.heap.size q → (fun q : Nat => s.heap.size ≤ q) q := fun q hq => hq.elim (fun ⟨j, hj, e⟩ => by rw [e]; exact had j hj) id
  obtain ⟨r1, r2, z1, z2, hrr, hI2⟩ := hag μ hI 10 _ rfl (xs (i + 1)) (xs (i + 2)) (xs (i + 3)) (xs (i + 4)) (xs (i + 5))
  refine lv_aload_n hx hb dl_474 rfl (lv_at hl 2 rfl) ?_
  refine lw_push (j := 1) hx hb hX hbl hbA hS hl rfl rfl (by omega) hL (by decide) dl_475 dl_476 dl_477 dl_478 dl_479 ?_
  refine lw_push (j := 2) hx hb hX hbl hbA hS hl rfl rfl (by omega) hL (by decide) dl_480 dl_481 dl_482 dl_483 dl_484 ?_
  refine lw_call (as := lw_zargs 2 (xs (i + 1)) (xs (i + 2)) (xs (i + 3)) (xs (i + 4)) (xs (i + 5))) (rest := []) hx hb hml hown hts hK hnw hinj hl.1 lw_oc10 rfl rfl z1 dl_485 (Nat.le_of_ble_eq_true rfl) (Nat.le_of_ble_eq_true rfl) (Nat.le_of_ble_eq_true rfl) rfl hP hS hA (fun H1 locs1 hP1 hS1 => ?_)
  refine lv_aload_n hx hb dl_488 rfl (lv_at hl 1 rfl) ?_
  refine lw_push (j := 1) hx hb hX hbl hbA hS1 hl rfl rfl (by omega) hL (by decide) dl_489 dl_490 dl_491 dl_492 dl_493 ?_
  refine lw_push (j := 2) hx hb hX hbl hbA hS1 hl rfl rfl (by omega) hL (by decide) dl_494 dl_495 dl_496 dl_497 dl_498 ?_
  refine lw_call (as := lw_zargs 2 (xs (i + 1)) (xs (i + 2)) (xs (i + 3)) (xs (i + 4)) (xs (i + 5))) (rest := [.int r1.1.1]) hx hb hml hown hts hK hnw hinj hl.1 lw_om10 rfl rfl z2 dl_499 (Nat.le_of_ble_eq_true rfl) (Nat.le_of_ble_eq_true rfl) (Nat.le_of_ble_eq_true rfl) rfl hP1 hS1 hA (fun H2 locs2 hP2 hS2 => ?_)
  exact lv_icmp_eq (tgt := 1251) hx hb dl_502 (by decide) (fun _ => hgo _ hI2 H2 locs2 lc hP2 hS2 hl) (fun z => absurd hrr z)

theorem lw_oc11 : lw_ok 61 141 11 2 zt144 := ⟨rfl, zzckm_s (a := (4, 24)) (b := (1, 1)) (by decide +kernel), ⟨_, rfl, rfl⟩, zzh_in (q := (4, 22)) (by decide +kernel), zzh_in (q := (4, 23)) (by decide +kernel), rfl, by decide +kernel, zzh_in (q := (4, 21)) (by decide +kernel)⟩
theorem lw_om11 : lw_ok 64 229 12 2 zt232 := ⟨rfl, zzckm_s (a := (8, 30)) (b := (1, 13)) (by decide +kernel), ⟨_, rfl, rfl⟩, zzh_in (q := (8, 28)) (by decide +kernel), zzh_in (q := (8, 29)) (by decide +kernel), rfl, by decide +kernel, zzh_in (q := (8, 27)) (by decide +kernel)⟩
set_option maxHeartbeats 400000 in
theorem lw_arm11 {p : Program} {l : Launch} {e : Env} {s : State} {m : MethodId} {below : List Frame} {meth : Method} {c : Code} {b L : Nat} {xs : Nat → Int32} (hL : L ≤ 3072) (C0 : lw_At p s m meth c b L xs) {D : va_G} {dA : Nat → ClassId} {ad : Nat → Nat} (hK : va_K D zzcl (zztys dA) s) (hnw : zznw s) (hinj : zzinj ad) (had : ∀ i, i < zzn → s.heap.size ≤ ad i) {Q : State → Prop} {N : Nat} {Inv Inv' : zzM → Prop} (hag : lw_agree N Inv Inv') {i : Nat} (hi : i + 6 ≤ L) (hgo : ∀ μ, Inv' μ → lw_L p l e s m below meth c b L xs D dA ad Q i 1251 μ) {μ : zzM} (hI : Inv μ) : lw_L p l e s m below meth c b L xs D dA ad Q i 507 μ := by
  intro H locs lc hP hS hl
  obtain ⟨hx, hb, hr, hml, hown, hts0, hX, hbl, hlocks, hgv⟩ := id C0
  have hts : ∀ w ∈ zzTb, w.before #[Value.ref b] s = true := fun w hw => hts0 w (zzTb_in hw).1
  have hbA : ¬ (fun q : Nat => s.heap.size ≤ q) b := Nat.not_le.mpr hbl
  have hA : ∀ q, zzA ad s.heap.size q → (fun q : Nat => s.heap.size ≤ q) q := fun q hq => hq.elim (fun ⟨j, hj, e⟩ => by rw [e]; exact had j hj) id
  obtain ⟨r1, r2, z1, z2, hrr, hI2⟩ := hag μ hI 11 _ rfl (xs (i + 1)) (xs (i + 2)) (xs (i + 3)) (xs (i + 4)) (xs (i + 5))
  refine lv_aload_n hx hb dl_507 rfl (lv_at hl 2 rfl) ?_
  refine lw_push (j := 1) hx hb hX hbl hbA hS hl rfl rfl (by omega) hL (by decide) dl_508 dl_509 dl_510 dl_511 dl_512 ?_
  refine lw_push (j := 2) hx hb hX hbl hbA hS hl rfl rfl (by omega) hL (by decide) dl_513 dl_514 dl_515 dl_516 dl_517 ?_
  refine lw_call (as := lw_zargs 2 (xs (i + 1)) (xs (i + 2)) (xs (i + 3)) (xs (i + 4)) (xs (i + 5))) (rest := []) hx hb hml hown hts hK hnw hinj hl.1 lw_oc11 rfl rfl z1 dl_518 (Nat.le_of_ble_eq_true rfl) (Nat.le_of_ble_eq_true rfl) (Nat.le_of_ble_eq_true rfl) rfl hP hS hA (fun H1 locs1 hP1 hS1 => ?_)
  refine lv_aload_n hx hb dl_521 rfl (lv_at hl 1 rfl) ?_
  refine lw_push (j := 1) hx hb hX hbl hbA hS1 hl rfl rfl (by omega) hL (by decide) dl_522 dl_523 dl_524 dl_525 dl_526 ?_
  refine lw_push (j := 2) hx hb hX hbl hbA hS1 hl rfl rfl (by omega) hL (by decide) dl_527 dl_528 dl_529 dl_530 dl_531 ?_
  refine lw_call (as := lw_zargs 2 (xs (i + 1)) (xs (i + 2)) (xs (i + 3)) (xs (i + 4)) (xs (i + 5))) (rest := [.int r1.1.1]) hx hb hml hown hts hK hnw hinj hl.1 lw_om11 rfl rfl z2 dl_532 (Nat.le_of_ble_eq_true rfl) (Nat.le_of_ble_eq_true rfl) (Nat.le_of_ble_eq_true rfl) rfl hP1 hS1 hA (fun H2 locs2 hP2 hS2 => ?_)
  exact lv_icmp_eq (tgt := 1251) hx hb dl_535 (by decide) (fun _ => hgo _ hI2 H2 locs2 lc hP2 hS2 hl) (fun z => absurd hrr z)

theorem lw_oc12 : lw_ok 65 142 11 1 zt145 := ⟨rfl, zzckm_s (a := (4, 32)) (b := (1, 1)) (by decide +kernel), ⟨_, rfl, rfl⟩, zzh_in (q := (4, 30)) (by decide +kernel), zzh_in (q := (4, 31)) (by decide +kernel), rfl, by decide +kernel, zzh_in (q := (4, 29)) (by decide +kernel)⟩
theorem lw_om12 : lw_ok 68 230 12 1 zt233 := ⟨rfl, zzckm_s (a := (8, 35)) (b := (1, 13)) (by decide +kernel), ⟨_, rfl, rfl⟩, zzh_in (q := (8, 33)) (by decide +kernel), zzh_in (q := (8, 34)) (by decide +kernel), rfl, by decide +kernel, zzh_in (q := (8, 32)) (by decide +kernel)⟩
set_option maxHeartbeats 400000 in
theorem lw_arm12 {p : Program} {l : Launch} {e : Env} {s : State} {m : MethodId} {below : List Frame} {meth : Method} {c : Code} {b L : Nat} {xs : Nat → Int32} (hL : L ≤ 3072) (C0 : lw_At p s m meth c b L xs) {D : va_G} {dA : Nat → ClassId} {ad : Nat → Nat} (hK : va_K D zzcl (zztys dA) s) (hnw : zznw s) (hinj : zzinj ad) (had : ∀ i, i < zzn → s.heap.size ≤ ad i) {Q : State → Prop} {N : Nat} {Inv Inv' : zzM → Prop} (hag : lw_agree N Inv Inv') {i : Nat} (hi : i + 6 ≤ L) (hgo : ∀ μ, Inv' μ → lw_L p l e s m below meth c b L xs D dA ad Q i 1251 μ) {μ : zzM} (hI : Inv μ) : lw_L p l e s m below meth c b L xs D dA ad Q i 540 μ := by
  intro H locs lc hP hS hl
  obtain ⟨hx, hb, hr, hml, hown, hts0, hX, hbl, hlocks, hgv⟩ := id C0
  have hts : ∀ w ∈ zzTb, w.before #[Value.ref b] s = true := fun w hw => hts0 w (zzTb_in hw).1
  have hbA : ¬ (fun q : Nat => s.heap.size ≤ q) b := Nat.not_le.mpr hbl
  have hA : ∀ q, zzA ad s.heap.size q → (fun q : Nat => s.heap.size ≤ q) q := fun q hq => hq.elim (fun ⟨j, hj, e⟩ => by rw [e]; exact had j hj) id
  obtain ⟨r1, r2, z1, z2, hrr, hI2⟩ := hag μ hI 12 _ rfl (xs (i + 1)) (xs (i + 2)) (xs (i + 3)) (xs (i + 4)) (xs (i + 5))
  refine lv_aload_n hx hb dl_540 rfl (lv_at hl 2 rfl) ?_
  refine lw_push (j := 1) hx hb hX hbl hbA hS hl rfl rfl (by omega) hL (by decide) dl_541 dl_542 dl_543 dl_544 dl_545 ?_
  refine lw_call (as := lw_zargs 1 (xs (i + 1)) (xs (i + 2)) (xs (i + 3)) (xs (i + 4)) (xs (i + 5))) (rest := []) hx hb hml hown hts hK hnw hinj hl.1 lw_oc12 rfl rfl z1 dl_546 (Nat.le_of_ble_eq_true rfl) (Nat.le_of_ble_eq_true rfl) (Nat.le_of_ble_eq_true rfl) rfl hP hS hA (fun H1 locs1 hP1 hS1 => ?_)
  refine lv_aload_n hx hb dl_549 rfl (lv_at hl 1 rfl) ?_
  refine lw_push (j := 1) hx hb hX hbl hbA hS1 hl rfl rfl (by omega) hL (by decide) dl_550 dl_551 dl_552 dl_553 dl_554 ?_
  refine lw_call (as := lw_zargs 1 (xs (i + 1)) (xs (i + 2)) (xs (i + 3)) (xs (i + 4)) (xs (i + 5))) (rest := [.int r1.1.1]) hx hb hml hown hts hK hnw hinj hl.1 lw_om12 rfl rfl z2 dl_555 (Nat.le_of_ble_eq_true rfl) (Nat.le_of_ble_eq_true rfl) (Nat.le_of_ble_eq_true rfl) rfl hP1 hS1 hA (fun H2 locs2 hP2 hS2 => ?_)
  exact lv_icmp_eq (tgt := 1251) hx hb dl_558 (by decide) (fun _ => hgo _ hI2 H2 locs2 lc hP2 hS2 hl) (fun z => absurd hrr z)

theorem lw_oc13 : lw_ok 69 143 11 0 zt146 := ⟨rfl, zzckm_s (a := (4, 37)) (b := (1, 1)) (by decide +kernel), ⟨_, rfl, rfl⟩, zzh_in (q := (4, 35)) (by decide +kernel), zzh_in (q := (4, 36)) (by decide +kernel), rfl, by decide +kernel, zzh_in (q := (4, 34)) (by decide +kernel)⟩
theorem lw_om13 : lw_ok 72 232 12 0 zt235 := ⟨rfl, zzckm_s (a := (8, 39)) (b := (1, 13)) (by decide +kernel), ⟨_, rfl, rfl⟩, zzh_in (q := (8, 37)) (by decide +kernel), zzh_in (q := (8, 38)) (by decide +kernel), rfl, by decide +kernel, zzh_in (q := (8, 36)) (by decide +kernel)⟩
set_option maxHeartbeats 400000 in
theorem lw_arm13 {p : Program} {l : Launch} {e : Env} {s : State} {m : MethodId} {below : List Frame} {meth : Method} {c : Code} {b L : Nat} {xs : Nat → Int32} (hL : L ≤ 3072) (C0 : lw_At p s m meth c b L xs) {D : va_G} {dA : Nat → ClassId} {ad : Nat → Nat} (hK : va_K D zzcl (zztys dA) s) (hnw : zznw s) (hinj : zzinj ad) (had : ∀ i, i < zzn → s.heap.size ≤ ad i) {Q : State → Prop} {N : Nat} {Inv Inv' : zzM → Prop} (hag : lw_agree N Inv Inv') {i : Nat} (hi : i + 6 ≤ L) (hgo : ∀ μ, Inv' μ → lw_L p l e s m below meth c b L xs D dA ad Q i 1251 μ) {μ : zzM} (hI : Inv μ) : lw_L p l e s m below meth c b L xs D dA ad Q i 563 μ := by
  intro H locs lc hP hS hl
  obtain ⟨hx, hb, hr, hml, hown, hts0, hX, hbl, hlocks, hgv⟩ := id C0
  have hts : ∀ w ∈ zzTb, w.before #[Value.ref b] s = true := fun w hw => hts0 w (zzTb_in hw).1
  have hbA : ¬ (fun q : Nat => s.heap.size ≤ q) b := Nat.not_le.mpr hbl
  have hA : ∀ q, zzA ad s.heap.size q → (fun q : Nat => s.heap.size ≤ q) q := fun q hq => hq.elim (fun ⟨j, hj, e⟩ => by rw [e]; exact had j hj) id
  obtain ⟨r1, r2, z1, z2, hrr, hI2⟩ := hag μ hI 13 _ rfl (xs (i + 1)) (xs (i + 2)) (xs (i + 3)) (xs (i + 4)) (xs (i + 5))
  refine lv_aload_n hx hb dl_563 rfl (lv_at hl 2 rfl) ?_
  refine lw_call (as := lw_zargs 0 (xs (i + 1)) (xs (i + 2)) (xs (i + 3)) (xs (i + 4)) (xs (i + 5))) (rest := []) hx hb hml hown hts hK hnw hinj hl.1 lw_oc13 rfl rfl z1 dl_564 (Nat.le_of_ble_eq_true rfl) (Nat.le_of_ble_eq_true rfl) (Nat.le_of_ble_eq_true rfl) rfl hP hS hA (fun H1 locs1 hP1 hS1 => ?_)
  refine lv_aload_n hx hb dl_567 rfl (lv_at hl 1 rfl) ?_
  refine lw_call (as := lw_zargs 0 (xs (i + 1)) (xs (i + 2)) (xs (i + 3)) (xs (i + 4)) (xs (i + 5))) (rest := [.int r1.1.1]) hx hb hml hown hts hK hnw hinj hl.1 lw_om13 rfl rfl z2 dl_568 (Nat.le_of_ble_eq_true rfl) (Nat.le_of_ble_eq_true rfl) (Nat.le_of_ble_eq_true rfl) rfl hP1 hS1 hA (fun H2 locs2 hP2 hS2 => ?_)
  exact lv_icmp_eq (tgt := 1251) hx hb dl_571 (by decide) (fun _ => hgo _ hI2 H2 locs2 lc hP2 hS2 hl) (fun z => absurd hrr z)

theorem lw_oc14 : lw_ok 73 145 11 1 zt148 := ⟨rfl, zzckm_s (a := (4, 50)) (b := (1, 1)) (by decide +kernel), ⟨_, rfl, rfl⟩, zzh_in (q := (4, 48)) (by decide +kernel), zzh_in (q := (4, 49)) (by decide +kernel), rfl, by decide +kernel, zzh_in (q := (4, 47)) (by decide +kernel)⟩
theorem lw_om14 : lw_ok 76 239 12 1 zt242 := ⟨rfl, zzckm_s (a := (8, 63)) (b := (1, 13)) (by decide +kernel), ⟨_, rfl, rfl⟩, zzh_in (q := (8, 61)) (by decide +kernel), zzh_in (q := (8, 62)) (by decide +kernel), rfl, by decide +kernel, zzh_in (q := (8, 60)) (by decide +kernel)⟩
set_option maxHeartbeats 400000 in
theorem lw_arm14 {p : Program} {l : Launch} {e : Env} {s : State} {m : MethodId} {below : List Frame} {meth : Method} {c : Code} {b L : Nat} {xs : Nat → Int32} (hL : L ≤ 3072) (C0 : lw_At p s m meth c b L xs) {D : va_G} {dA : Nat → ClassId} {ad : Nat → Nat} (hK : va_K D zzcl (zztys dA) s) (hnw : zznw s) (hinj : zzinj ad) (had : ∀ i, i < zzn → s.heap.size ≤ ad i) {Q : State → Prop} {N : Nat} {Inv Inv' : zzM → Prop} (hag : lw_agree N Inv Inv') {i : Nat} (hi : i + 6 ≤ L) (hgo : ∀ μ, Inv' μ → lw_L p l e s m below meth c b L xs D dA ad Q i 1251 μ) {μ : zzM} (hI : Inv μ) : lw_L p l e s m below meth c b L xs D dA ad Q i 576 μ := by
  intro H locs lc hP hS hl
  obtain ⟨hx, hb, hr, hml, hown, hts0, hX, hbl, hlocks, hgv⟩ := id C0
  have hts : ∀ w ∈ zzTb, w.before #[Value.ref b] s = true := fun w hw => hts0 w (zzTb_in hw).1
  have hbA : ¬ (fun q : Nat => s.heap.size ≤ q) b := Nat.not_le.mpr hbl
  have hA : ∀ q, zzA ad s.heap.size q → (fun q : Nat => s.heap.size ≤ q) q := fun q hq => hq.elim (fun ⟨j, hj, e⟩ => by rw [e]; exact had j hj) id
  obtain ⟨r1, r2, z1, z2, hrr, hI2⟩ := hag μ hI 14 _ rfl (xs (i + 1)) (xs (i + 2)) (xs (i + 3)) (xs (i + 4)) (xs (i + 5))
  refine lv_aload_n hx hb dl_576 rfl (lv_at hl 2 rfl) ?_
  refine lw_push (j := 1) hx hb hX hbl hbA hS hl rfl rfl (by omega) hL (by decide) dl_577 dl_578 dl_579 dl_580 dl_581 ?_
  refine lw_call (as := lw_zargs 1 (xs (i + 1)) (xs (i + 2)) (xs (i + 3)) (xs (i + 4)) (xs (i + 5))) (rest := []) hx hb hml hown hts hK hnw hinj hl.1 lw_oc14 rfl rfl z1 dl_582 (Nat.le_of_ble_eq_true rfl) (Nat.le_of_ble_eq_true rfl) (Nat.le_of_ble_eq_true rfl) rfl hP hS hA (fun H1 locs1 hP1 hS1 => ?_)
  refine lv_aload_n hx hb dl_585 rfl (lv_at hl 1 rfl) ?_
  refine lw_push (j := 1) hx hb hX hbl hbA hS1 hl rfl rfl (by omega) hL (by decide) dl_586 dl_587 dl_588 dl_589 dl_590 ?_
  refine lw_call (as := lw_zargs 1 (xs (i + 1)) (xs (i + 2)) (xs (i + 3)) (xs (i + 4)) (xs (i + 5))) (rest := [.int r1.1.1]) hx hb hml hown hts hK hnw hinj hl.1 lw_om14 rfl rfl z2 dl_591 (Nat.le_of_ble_eq_true rfl) (Nat.le_of_ble_eq_true rfl) (Nat.le_of_ble_eq_true rfl) rfl hP1 hS1 hA (fun H2 locs2 hP2 hS2 => ?_)
  exact lv_icmp_eq (tgt := 1251) hx hb dl_594 (by decide) (fun _ => hgo _ hI2 H2 locs2 lc hP2 hS2 hl) (fun z => absurd hrr z)

theorem lw_oc15 : lw_ok 77 146 11 0 zt149 := ⟨rfl, zzckm_s (a := (4, 73)) (b := (1, 1)) (by decide +kernel), ⟨_, rfl, rfl⟩, zzh_in (q := (4, 71)) (by decide +kernel), zzh_in (q := (4, 72)) (by decide +kernel), rfl, by decide +kernel, zzh_in (q := (4, 70)) (by decide +kernel)⟩
theorem lw_om15 : lw_ok 80 240 12 0 zt243 := ⟨rfl, zzckm_s (a := (8, 76)) (b := (1, 13)) (by decide +kernel), ⟨_, rfl, rfl⟩, zzh_in (q := (8, 74)) (by decide +kernel), zzh_in (q := (8, 75)) (by decide +kernel), rfl, by decide +kernel, zzh_in (q := (8, 73)) (by decide +kernel)⟩
set_option maxHeartbeats 400000 in
theorem lw_arm15 {p : Program} {l : Launch} {e : Env} {s : State} {m : MethodId} {below : List Frame} {meth : Method} {c : Code} {b L : Nat} {xs : Nat → Int32} (hL : L ≤ 3072) (C0 : lw_At p s m meth c b L xs) {D : va_G} {dA : Nat → ClassId} {ad : Nat → Nat} (hK : va_K D zzcl (zztys dA) s) (hnw : zznw s) (hinj : zzinj ad) (had : ∀ i, i < zzn → s.heap.size ≤ ad i) {Q : State → Prop} {N : Nat} {Inv Inv' : zzM → Prop} (hag : lw_agree N Inv Inv') {i : Nat} (hi : i + 6 ≤ L) (hgo : ∀ μ, Inv' μ → lw_L p l e s m below meth c b L xs D dA ad Q i 1251 μ) {μ : zzM} (hI : Inv μ) : lw_L p l e s m below meth c b L xs D dA ad Q i 599 μ := by
  intro H locs lc hP hS hl
  obtain ⟨hx, hb, hr, hml, hown, hts0, hX, hbl, hlocks, hgv⟩ := id C0
  have hts : ∀ w ∈ zzTb, w.before #[Value.ref b] s = true := fun w hw => hts0 w (zzTb_in hw).1
  have hbA : ¬ (fun q : Nat => s.heap.size ≤ q) b := Nat.not_le.mpr hbl
  have hA : ∀ q, zzA ad s.heap.size q → (fun q : Nat => s.heap.size ≤ q) q := fun q hq => hq.elim (fun ⟨j, hj, e⟩ => by rw [e]; exact had j hj) id
  obtain ⟨r1, r2, z1, z2, hrr, hI2⟩ := hag μ hI 15 _ rfl (xs (i + 1)) (xs (i + 2)) (xs (i + 3)) (xs (i + 4)) (xs (i + 5))
  refine lv_aload_n hx hb dl_599 rfl (lv_at hl 2 rfl) ?_
  refine lw_call (as := lw_zargs 0 (xs (i + 1)) (xs (i + 2)) (xs (i + 3)) (xs (i + 4)) (xs (i + 5))) (rest := []) hx hb hml hown hts hK hnw hinj hl.1 lw_oc15 rfl rfl z1 dl_600 (Nat.le_of_ble_eq_true rfl) (Nat.le_of_ble_eq_true rfl) (Nat.le_of_ble_eq_true rfl) rfl hP hS hA (fun H1 locs1 hP1 hS1 => ?_)
  refine lv_aload_n hx hb dl_603 rfl (lv_at hl 1 rfl) ?_
  refine lw_call (as := lw_zargs 0 (xs (i + 1)) (xs (i + 2)) (xs (i + 3)) (xs (i + 4)) (xs (i + 5))) (rest := [.int r1.1.1]) hx hb hml hown hts hK hnw hinj hl.1 lw_om15 rfl rfl z2 dl_604 (Nat.le_of_ble_eq_true rfl) (Nat.le_of_ble_eq_true rfl) (Nat.le_of_ble_eq_true rfl) rfl hP1 hS1 hA (fun H2 locs2 hP2 hS2 => ?_)
  exact lv_icmp_eq (tgt := 1251) hx hb dl_607 (by decide) (fun _ => hgo _ hI2 H2 locs2 lc hP2 hS2 hl) (fun z => absurd hrr z)

theorem lw_oc16 : lw_ok 81 147 11 2 zt150 := ⟨rfl, zzckm_s (a := (4, 81)) (b := (1, 1)) (by decide +kernel), ⟨_, rfl, rfl⟩, zzh_in (q := (4, 79)) (by decide +kernel), zzh_in (q := (4, 80)) (by decide +kernel), rfl, by decide +kernel, zzh_in (q := (4, 78)) (by decide +kernel)⟩
theorem lw_om16 : lw_ok 84 241 12 2 zt244 := ⟨rfl, zzckm_s (a := (8, 80)) (b := (1, 13)) (by decide +kernel), ⟨_, rfl, rfl⟩, zzh_in (q := (8, 78)) (by decide +kernel), zzh_in (q := (8, 79)) (by decide +kernel), rfl, by decide +kernel, zzh_in (q := (8, 77)) (by decide +kernel)⟩
set_option maxHeartbeats 400000 in
theorem lw_arm16 {p : Program} {l : Launch} {e : Env} {s : State} {m : MethodId} {below : List Frame} {meth : Method} {c : Code} {b L : Nat} {xs : Nat → Int32} (hL : L ≤ 3072) (C0 : lw_At p s m meth c b L xs) {D : va_G} {dA : Nat → ClassId} {ad : Nat → Nat} (hK : va_K D zzcl (zztys dA) s) (hnw : zznw s) (hinj : zzinj ad) (had : ∀ i, i < zzn → s.heap.size ≤ ad i) {Q : State → Prop} {N : Nat} {Inv Inv' : zzM → Prop} (hag : lw_agree N Inv Inv') {i : Nat} (hi : i + 6 ≤ L) (hgo : ∀ μ, Inv' μ → lw_L p l e s m below meth c b L xs D dA ad Q i 1251 μ) {μ : zzM} (hI : Inv μ) : lw_L p l e s m below meth c b L xs D dA ad Q i 612 μ := by
  intro H locs lc hP hS hl
  obtain ⟨hx, hb, hr, hml, hown, hts0, hX, hbl, hlocks, hgv⟩ := id C0
  have hts : ∀ w ∈ zzTb, w.before #[Value.ref b] s = true := fun w hw => hts0 w (zzTb_in hw).1
  have hbA : ¬ (fun q : Nat => s.heap.size ≤ q) b := Nat.not_le.mpr hbl
  have hA : ∀ q, zzA ad s.heap.size q → (fun q : Nat => s.heap.size ≤ q) q := fun q hq => hq.elim (fun ⟨j, hj, e⟩ => by rw [e]; exact had j hj) id
  obtain ⟨r1, r2, z1, z2, hrr, hI2⟩ := hag μ hI 16 _ rfl (xs (i + 1)) (xs (i + 2)) (xs (i + 3)) (xs (i + 4)) (xs (i + 5))
  refine lv_aload_n hx hb dl_612 rfl (lv_at hl 2 rfl) ?_
  refine lw_push (j := 1) hx hb hX hbl hbA hS hl rfl rfl (by omega) hL (by decide) dl_613 dl_614 dl_615 dl_616 dl_617 ?_
  refine lw_push (j := 2) hx hb hX hbl hbA hS hl rfl rfl (by omega) hL (by decide) dl_618 dl_619 dl_620 dl_621 dl_622 ?_
  refine lw_call (as := lw_zargs 2 (xs (i + 1)) (xs (i + 2)) (xs (i + 3)) (xs (i + 4)) (xs (i + 5))) (rest := []) hx hb hml hown hts hK hnw hinj hl.1 lw_oc16 rfl rfl z1 dl_623 (Nat.le_of_ble_eq_true rfl) (Nat.le_of_ble_eq_true rfl) (Nat.le_of_ble_eq_true rfl) rfl hP hS hA (fun H1 locs1 hP1 hS1 => ?_)
  refine lv_aload_n hx hb dl_626 rfl (lv_at hl 1 rfl) ?_
  refine lw_push (j := 1) hx hb hX hbl hbA hS1 hl rfl rfl (by omega) hL (by decide) dl_627 dl_628 dl_629 dl_630 dl_631 ?_
  refine lw_push (j := 2) hx hb hX hbl hbA hS1 hl rfl rfl (by omega) hL (by decide) dl_632 dl_633 dl_634 dl_635 dl_636 ?_
  refine lw_call (as := lw_zargs 2 (xs (i + 1)) (xs (i + 2)) (xs (i + 3)) (xs (i + 4)) (xs (i + 5))) (rest := [.int r1.1.1]) hx hb hml hown hts hK hnw hinj hl.1 lw_om16 rfl rfl z2 dl_637 (Nat.le_of_ble_eq_true rfl) (Nat.le_of_ble_eq_true rfl) (Nat.le_of_ble_eq_true rfl) rfl hP1 hS1 hA (fun H2 locs2 hP2 hS2 => ?_)
  exact lv_icmp_eq (tgt := 1251) hx hb dl_640 (by decide) (fun _ => hgo _ hI2 H2 locs2 lc hP2 hS2 hl) (fun z => absurd hrr z)

theorem lw_oc17 : lw_ok 85 148 11 1 zt151 := ⟨rfl, zzckm_s (a := (4, 89)) (b := (1, 1)) (by decide +kernel), ⟨_, rfl, rfl⟩, zzh_in (q := (4, 87)) (by decide +kernel), zzh_in (q := (4, 88)) (by decide +kernel), rfl, by decide +kernel, zzh_in (q := (4, 86)) (by decide +kernel)⟩
theorem lw_om17 : lw_ok 88 242 12 1 zt245 := ⟨rfl, zzckm_s (a := (8, 84)) (b := (1, 13)) (by decide +kernel), ⟨_, rfl, rfl⟩, zzh_in (q := (8, 82)) (by decide +kernel), zzh_in (q := (8, 83)) (by decide +kernel), rfl, by decide +kernel, zzh_in (q := (8, 81)) (by decide +kernel)⟩
set_option maxHeartbeats 400000 in
theorem lw_arm17 {p : Program} {l : Launch} {e : Env} {s : State} {m : MethodId} {below : List Frame} {meth : Method} {c : Code} {b L : Nat} {xs : Nat → Int32} (hL : L ≤ 3072) (C0 : lw_At p s m meth c b L xs) {D : va_G} {dA : Nat → ClassId} {ad : Nat → Nat} (hK : va_K D zzcl (zztys dA) s) (hnw : zznw s) (hinj : zzinj ad) (had : ∀ i, i < zzn → s.heap.size ≤ ad i) {Q : State → Prop} {N : Nat} {Inv Inv' : zzM → Prop} (hag : lw_agree N Inv Inv') {i : Nat} (hi : i + 6 ≤ L) (hgo : ∀ μ, Inv' μ → lw_L p l e s m below meth c b L xs D dA ad Q i 1251 μ) {μ : zzM} (hI : Inv μ) : lw_L p l e s m below meth c b L xs D dA ad Q i 645 μ := by
  intro H locs lc hP hS hl
  obtain ⟨hx, hb, hr, hml, hown, hts0, hX, hbl, hlocks, hgv⟩ := id C0
  have hts : ∀ w ∈ zzTb, w.before #[Value.ref b] s = true := fun w hw => hts0 w (zzTb_in hw).1
  have hbA : ¬ (fun q : Nat => s.heap.size ≤ q) b := Nat.not_le.mpr hbl
  have hA : ∀ q, zzA ad s.heap.size q → (fun q : Nat => s.heap.size ≤ q) q := fun q hq => hq.elim (fun ⟨j, hj, e⟩ => by rw [e]; exact had j hj) id
  obtain ⟨r1, r2, z1, z2, hrr, hI2⟩ := hag μ hI 17 _ rfl (xs (i + 1)) (xs (i + 2)) (xs (i + 3)) (xs (i + 4)) (xs (i + 5))
  refine lv_aload_n hx hb dl_645 rfl (lv_at hl 2 rfl) ?_
  refine lw_push (j := 1) hx hb hX hbl hbA hS hl rfl rfl (by omega) hL (by decide) dl_646 dl_647 dl_648 dl_649 dl_650 ?_
  refine lw_call (as := lw_zargs 1 (xs (i + 1)) (xs (i + 2)) (xs (i + 3)) (xs (i + 4)) (xs (i + 5))) (rest := []) hx hb hml hown hts hK hnw hinj hl.1 lw_oc17 rfl rfl z1 dl_651 (Nat.le_of_ble_eq_true rfl) (Nat.le_of_ble_eq_true rfl) (Nat.le_of_ble_eq_true rfl) rfl hP hS hA (fun H1 locs1 hP1 hS1 => ?_)
  refine lv_aload_n hx hb dl_654 rfl (lv_at hl 1 rfl) ?_
  refine lw_push (j := 1) hx hb hX hbl hbA hS1 hl rfl rfl (by omega) hL (by decide) dl_655 dl_656 dl_657 dl_658 dl_659 ?_
  refine lw_call (as := lw_zargs 1 (xs (i + 1)) (xs (i + 2)) (xs (i + 3)) (xs (i + 4)) (xs (i + 5))) (rest := [.int r1.1.1]) hx hb hml hown hts hK hnw hinj hl.1 lw_om17 rfl rfl z2 dl_660 (Nat.le_of_ble_eq_true rfl) (Nat.le_of_ble_eq_true rfl) (Nat.le_of_ble_eq_true rfl) rfl hP1 hS1 hA (fun H2 locs2 hP2 hS2 => ?_)
  exact lv_icmp_eq (tgt := 1251) hx hb dl_663 (by decide) (fun _ => hgo _ hI2 H2 locs2 lc hP2 hS2 hl) (fun z => absurd hrr z)

theorem lw_oc18 : lw_ok 89 149 11 3 zt152 := ⟨rfl, zzckm_s (a := (4, 93)) (b := (1, 1)) (by decide +kernel), ⟨_, rfl, rfl⟩, zzh_in (q := (4, 91)) (by decide +kernel), zzh_in (q := (4, 92)) (by decide +kernel), rfl, by decide +kernel, zzh_in (q := (4, 90)) (by decide +kernel)⟩
theorem lw_om18 : lw_ok 93 244 12 3 zt247 := ⟨rfl, zzckm_s (a := (8, 88)) (b := (1, 13)) (by decide +kernel), ⟨_, rfl, rfl⟩, zzh_in (q := (8, 86)) (by decide +kernel), zzh_in (q := (8, 87)) (by decide +kernel), rfl, by decide +kernel, zzh_in (q := (8, 85)) (by decide +kernel)⟩
set_option maxHeartbeats 400000 in
theorem lw_arm18 {p : Program} {l : Launch} {e : Env} {s : State} {m : MethodId} {below : List Frame} {meth : Method} {c : Code} {b L : Nat} {xs : Nat → Int32} (hL : L ≤ 3072) (C0 : lw_At p s m meth c b L xs) {D : va_G} {dA : Nat → ClassId} {ad : Nat → Nat} (hK : va_K D zzcl (zztys dA) s) (hnw : zznw s) (hinj : zzinj ad) (had : ∀ i, i < zzn → s.heap.size ≤ ad i) {Q : State → Prop} {N : Nat} {Inv Inv' : zzM → Prop} (hag : lw_agree N Inv Inv') {i : Nat} (hi : i + 6 ≤ L) (hgo : ∀ μ, Inv' μ → lw_L p l e s m below meth c b L xs D dA ad Q i 1251 μ) {μ : zzM} (hI : Inv μ) : lw_L p l e s m below meth c b L xs D dA ad Q i 668 μ := by
  intro H locs lc hP hS hl
  obtain ⟨hx, hb, hr, hml, hown, hts0, hX, hbl, hlocks, hgv⟩ := id C0
  have hts : ∀ w ∈ zzTb, w.before #[Value.ref b] s = true := fun w hw => hts0 w (zzTb_in hw).1
  have hbA : ¬ (fun q : Nat => s.heap.size ≤ q) b := Nat.not_le.mpr hbl
  have hA : ∀ q, zzA ad s.heap.size q → (fun q : Nat => s.heap.size ≤ q) q := fun q hq => hq.elim (fun ⟨j, hj, e⟩ => by rw [e]; exact had j hj) id
  obtain ⟨r1, r2, z1, z2, hrr, hI2⟩ := hag μ hI 18 _ rfl (xs (i + 1)) (xs (i + 2)) (xs (i + 3)) (xs (i + 4)) (xs (i + 5))
  refine lv_aload_n hx hb dl_668 rfl (lv_at hl 2 rfl) ?_
  refine lw_push (j := 1) hx hb hX hbl hbA hS hl rfl rfl (by omega) hL (by decide) dl_669 dl_670 dl_671 dl_672 dl_673 ?_
  refine lw_push (j := 2) hx hb hX hbl hbA hS hl rfl rfl (by omega) hL (by decide) dl_674 dl_675 dl_676 dl_677 dl_678 ?_
  refine lw_push (j := 3) hx hb hX hbl hbA hS hl rfl rfl (by omega) hL (by decide) dl_679 dl_680 dl_681 dl_682 dl_683 ?_
  refine lw_call (as := lw_zargs 3 (xs (i + 1)) (xs (i + 2)) (xs (i + 3)) (xs (i + 4)) (xs (i + 5))) (rest := []) hx hb hml hown hts hK hnw hinj hl.1 lw_oc18 rfl rfl z1 dl_684 (Nat.le_of_ble_eq_true rfl) (Nat.le_of_ble_eq_true rfl) (Nat.le_of_ble_eq_true rfl) rfl hP hS hA (fun H1 locs1 hP1 hS1 => ?_)
  refine lv_aload_n hx hb dl_687 rfl (lv_at hl 1 rfl) ?_
  refine lw_push (j := 1) hx hb hX hbl hbA hS1 hl rfl rfl (by omega) hL (by decide) dl_688 dl_689 dl_690 dl_691 dl_692 ?_
  refine lw_push (j := 2) hx hb hX hbl hbA hS1 hl rfl rfl (by omega) hL (by decide) dl_693 dl_694 dl_695 dl_696 dl_697 ?_
  refine lw_push (j := 3) hx hb hX hbl hbA hS1 hl rfl rfl (by omega) hL (by decide) dl_698 dl_699 dl_700 dl_701 dl_702 ?_
  refine lw_call (as := lw_zargs 3 (xs (i + 1)) (xs (i + 2)) (xs (i + 3)) (xs (i + 4)) (xs (i + 5))) (rest := [.int r1.1.1]) hx hb hml hown hts hK hnw hinj hl.1 lw_om18 rfl rfl z2 dl_703 (Nat.le_of_ble_eq_true rfl) (Nat.le_of_ble_eq_true rfl) (Nat.le_of_ble_eq_true rfl) rfl hP1 hS1 hA (fun H2 locs2 hP2 hS2 => ?_)
  exact lv_icmp_eq (tgt := 1251) hx hb dl_706 (by decide) (fun _ => hgo _ hI2 H2 locs2 lc hP2 hS2 hl) (fun z => absurd hrr z)

theorem lw_oc19 : lw_ok 94 150 11 1 zt153 := ⟨rfl, zzckm_s (a := (4, 106)) (b := (1, 1)) (by decide +kernel), ⟨_, rfl, rfl⟩, zzh_in (q := (4, 104)) (by decide +kernel), zzh_in (q := (4, 105)) (by decide +kernel), rfl, by decide +kernel, zzh_in (q := (4, 103)) (by decide +kernel)⟩
theorem lw_om19 : lw_ok 97 245 12 1 zt248 := ⟨rfl, zzckm_s (a := (8, 96)) (b := (1, 13)) (by decide +kernel), ⟨_, rfl, rfl⟩, zzh_in (q := (8, 94)) (by decide +kernel), zzh_in (q := (8, 95)) (by decide +kernel), rfl, by decide +kernel, zzh_in (q := (8, 93)) (by decide +kernel)⟩
set_option maxHeartbeats 400000 in
theorem lw_arm19 {p : Program} {l : Launch} {e : Env} {s : State} {m : MethodId} {below : List Frame} {meth : Method} {c : Code} {b L : Nat} {xs : Nat → Int32} (hL : L ≤ 3072) (C0 : lw_At p s m meth c b L xs) {D : va_G} {dA : Nat → ClassId} {ad : Nat → Nat} (hK : va_K D zzcl (zztys dA) s) (hnw : zznw s) (hinj : zzinj ad) (had : ∀ i, i < zzn → s.heap.size ≤ ad i) {Q : State → Prop} {N : Nat} {Inv Inv' : zzM → Prop} (hag : lw_agree N Inv Inv') {i : Nat} (hi : i + 6 ≤ L) (hgo : ∀ μ, Inv' μ → lw_L p l e s m below meth c b L xs D dA ad Q i 1251 μ) {μ : zzM} (hI : Inv μ) : lw_L p l e s m below meth c b L xs D dA ad Q i 711 μ := by
  intro H locs lc hP hS hl
  obtain ⟨hx, hb, hr, hml, hown, hts0, hX, hbl, hlocks, hgv⟩ := id C0
  have hts : ∀ w ∈ zzTb, w.before #[Value.ref b] s = true := fun w hw => hts0 w (zzTb_in hw).1
  have hbA : ¬ (fun q : Nat => s.heap.size ≤ q) b := Nat.not_le.mpr hbl
  have hA : ∀ q, zzA ad s.heap.size q → (fun q : Nat => s.heap.size ≤ q) q := fun q hq => hq.elim (fun ⟨j, hj, e⟩ => by rw [e]; exact had j hj) id
  obtain ⟨r1, r2, z1, z2, hrr, hI2⟩ := hag μ hI 19 _ rfl (xs (i + 1)) (xs (i + 2)) (xs (i + 3)) (xs (i + 4)) (xs (i + 5))
  refine lv_aload_n hx hb dl_711 rfl (lv_at hl 2 rfl) ?_
  refine lw_push (j := 1) hx hb hX hbl hbA hS hl rfl rfl (by omega) hL (by decide) dl_712 dl_713 dl_714 dl_715 dl_716 ?_
  refine lw_call (as := lw_zargs 1 (xs (i + 1)) (xs (i + 2)) (xs (i + 3)) (xs (i + 4)) (xs (i + 5))) (rest := []) hx hb hml hown hts hK hnw hinj hl.1 lw_oc19 rfl rfl z1 dl_717 (Nat.le_of_ble_eq_true rfl) (Nat.le_of_ble_eq_true rfl) (Nat.le_of_ble_eq_true rfl) rfl hP hS hA (fun H1 locs1 hP1 hS1 => ?_)
  refine lv_aload_n hx hb dl_720 rfl (lv_at hl 1 rfl) ?_
  refine lw_push (j := 1) hx hb hX hbl hbA hS1 hl rfl rfl (by omega) hL (by decide) dl_721 dl_722 dl_723 dl_724 dl_725 ?_
  refine lw_call (as := lw_zargs 1 (xs (i + 1)) (xs (i + 2)) (xs (i + 3)) (xs (i + 4)) (xs (i + 5))) (rest := [.int r1.1.1]) hx hb hml hown hts hK hnw hinj hl.1 lw_om19 rfl rfl z2 dl_726 (Nat.le_of_ble_eq_true rfl) (Nat.le_of_ble_eq_true rfl) (Nat.le_of_ble_eq_true rfl) rfl hP1 hS1 hA (fun H2 locs2 hP2 hS2 => ?_)
  exact lv_icmp_eq (tgt := 1251) hx hb dl_729 (by decide) (fun _ => hgo _ hI2 H2 locs2 lc hP2 hS2 hl) (fun z => absurd hrr z)

theorem lw_oc20 : lw_ok 98 151 11 0 zt154 := ⟨rfl, zzckm_s (a := (4, 110)) (b := (1, 1)) (by decide +kernel), ⟨_, rfl, rfl⟩, zzh_in (q := (4, 108)) (by decide +kernel), zzh_in (q := (4, 109)) (by decide +kernel), rfl, by decide +kernel, zzh_in (q := (4, 107)) (by decide +kernel)⟩
theorem lw_om20 : lw_ok 101 238 12 0 zt241 := ⟨rfl, zzckm_s (a := (8, 47)) (b := (1, 13)) (by decide +kernel), ⟨_, rfl, rfl⟩, zzh_in (q := (8, 45)) (by decide +kernel), zzh_in (q := (8, 46)) (by decide +kernel), rfl, by decide +kernel, zzh_in (q := (8, 44)) (by decide +kernel)⟩
set_option maxHeartbeats 400000 in
theorem lw_arm20 {p : Program} {l : Launch} {e : Env} {s : State} {m : MethodId} {below : List Frame} {meth : Method} {c : Code} {b L : Nat} {xs : Nat → Int32} (hL : L ≤ 3072) (C0 : lw_At p s m meth c b L xs) {D : va_G} {dA : Nat → ClassId} {ad : Nat → Nat} (hK : va_K D zzcl (zztys dA) s) (hnw : zznw s) (hinj : zzinj ad) (had : ∀ i, i < zzn → s.heap.size ≤ ad i) {Q : State → Prop} {N : Nat} {Inv Inv' : zzM → Prop} (hag : lw_agree N Inv Inv') {i : Nat} (hi : i + 6 ≤ L) (hgo : ∀ μ, Inv' μ → lw_L p l e s m below meth c b L xs D dA ad Q i 1251 μ) {μ : zzM} (hI : Inv μ) : lw_L p l e s m below meth c b L xs D dA ad Q i 734 μ := by
  intro H locs lc hP hS hl
  obtain ⟨hx, hb, hr, hml, hown, hts0, hX, hbl, hlocks, hgv⟩ := id C0
  have hts : ∀ w ∈ zzTb, w.before #[Value.ref b] s = true := fun w hw => hts0 w (zzTb_in hw).1
  have hbA : ¬ (fun q : Nat => s.heap.size ≤ q) b := Nat.not_le.mpr hbl
  have hA : ∀ q, zzA ad s.heap.size q → (fun q : Nat => s.heap.size ≤ q) q := fun q hq => hq.elim (fun ⟨j, hj, e⟩ => by rw [e]; exact had j hj) id
  obtain ⟨r1, r2, z1, z2, hrr, hI2⟩ := hag μ hI 20 _ rfl (xs (i + 1)) (xs (i + 2)) (xs (i + 3)) (xs (i + 4)) (xs (i + 5))
  refine lv_aload_n hx hb dl_734 rfl (lv_at hl 2 rfl) ?_
  refine lw_call (as := lw_zargs 0 (xs (i + 1)) (xs (i + 2)) (xs (i + 3)) (xs (i + 4)) (xs (i + 5))) (rest := []) hx hb hml hown hts hK hnw hinj hl.1 lw_oc20 rfl rfl z1 dl_735 (Nat.le_of_ble_eq_true rfl) (Nat.le_of_ble_eq_true rfl) (Nat.le_of_ble_eq_true rfl) rfl hP hS hA (fun H1 locs1 hP1 hS1 => ?_)
  refine lv_aload_n hx hb dl_738 rfl (lv_at hl 1 rfl) ?_
  refine lw_call (as := lw_zargs 0 (xs (i + 1)) (xs (i + 2)) (xs (i + 3)) (xs (i + 4)) (xs (i + 5))) (rest := [.int r1.1.1]) hx hb hml hown hts hK hnw hinj hl.1 lw_om20 rfl rfl z2 dl_739 (Nat.le_of_ble_eq_true rfl) (Nat.le_of_ble_eq_true rfl) (Nat.le_of_ble_eq_true rfl) rfl hP1 hS1 hA (fun H2 locs2 hP2 hS2 => ?_)
  exact lv_icmp_eq (tgt := 1251) hx hb dl_742 (by decide) (fun _ => hgo _ hI2 H2 locs2 lc hP2 hS2 hl) (fun z => absurd hrr z)

theorem lw_oc21 : lw_ok 102 152 11 1 zt155 := ⟨rfl, zzckm_s (a := (4, 114)) (b := (1, 1)) (by decide +kernel), ⟨_, rfl, rfl⟩, zzh_in (q := (4, 112)) (by decide +kernel), zzh_in (q := (4, 113)) (by decide +kernel), rfl, by decide +kernel, zzh_in (q := (4, 111)) (by decide +kernel)⟩
theorem lw_om21 : lw_ok 105 246 12 1 zt249 := ⟨rfl, zzckm_s (a := (8, 101)) (b := (1, 13)) (by decide +kernel), ⟨_, rfl, rfl⟩, zzh_in (q := (8, 99)) (by decide +kernel), zzh_in (q := (8, 100)) (by decide +kernel), rfl, by decide +kernel, zzh_in (q := (8, 98)) (by decide +kernel)⟩
set_option maxHeartbeats 400000 in
theorem lw_arm21 {p : Program} {l : Launch} {e : Env} {s : State} {m : MethodId} {below : List Frame} {meth : Method} {c : Code} {b L : Nat} {xs : Nat → Int32} (hL : L ≤ 3072) (C0 : lw_At p s m meth c b L xs) {D : va_G} {dA : Nat → ClassId} {ad : Nat → Nat} (hK : va_K D zzcl (zztys dA) s) (hnw : zznw s) (hinj : zzinj ad) (had : ∀ i, i < zzn → s.heap.size ≤ ad i) {Q : State → Prop} {N : Nat} {Inv Inv' : zzM → Prop} (hag : lw_agree N Inv Inv') {i : Nat} (hi : i + 6 ≤ L) (hgo : ∀ μ, Inv' μ → lw_L p l e s m below meth c b L xs D dA ad Q i 1251 μ) {μ : zzM} (hI : Inv μ) : lw_L p l e s m below meth c b L xs D dA ad Q i 747 μ := by
  intro H locs lc hP hS hl
  obtain ⟨hx, hb, hr, hml, hown, hts0, hX, hbl, hlocks, hgv⟩ := id C0
  have hts : ∀ w ∈ zzTb, w.before #[Value.ref b] s = true := fun w hw => hts0 w (zzTb_in hw).1
  have hbA : ¬ (fun q : Nat => s.heap.size ≤ q) b := Nat.not_le.mpr hbl
  have hA : ∀ q, zzA ad s.heap.size q → (fun q : Nat => s.heap.size ≤ q) q := fun q hq => hq.elim (fun ⟨j, hj, e⟩ => by rw [e]; exact had j hj) id
  obtain ⟨r1, r2, z1, z2, hrr, hI2⟩ := hag μ hI 21 _ rfl (xs (i + 1)) (xs (i + 2)) (xs (i + 3)) (xs (i + 4)) (xs (i + 5))
  refine lv_aload_n hx hb dl_747 rfl (lv_at hl 2 rfl) ?_
  refine lw_push (j := 1) hx hb hX hbl hbA hS hl rfl rfl (by omega) hL (by decide) dl_748 dl_749 dl_750 dl_751 dl_752 ?_
  refine lw_call (as := lw_zargs 1 (xs (i + 1)) (xs (i + 2)) (xs (i + 3)) (xs (i + 4)) (xs (i + 5))) (rest := []) hx hb hml hown hts hK hnw hinj hl.1 lw_oc21 rfl rfl z1 dl_753 (Nat.le_of_ble_eq_true rfl) (Nat.le_of_ble_eq_true rfl) (Nat.le_of_ble_eq_true rfl) rfl hP hS hA (fun H1 locs1 hP1 hS1 => ?_)
  refine lv_aload_n hx hb dl_756 rfl (lv_at hl 1 rfl) ?_
  refine lw_push (j := 1) hx hb hX hbl hbA hS1 hl rfl rfl (by omega) hL (by decide) dl_757 dl_758 dl_759 dl_760 dl_761 ?_
  refine lw_call (as := lw_zargs 1 (xs (i + 1)) (xs (i + 2)) (xs (i + 3)) (xs (i + 4)) (xs (i + 5))) (rest := [.int r1.1.1]) hx hb hml hown hts hK hnw hinj hl.1 lw_om21 rfl rfl z2 dl_762 (Nat.le_of_ble_eq_true rfl) (Nat.le_of_ble_eq_true rfl) (Nat.le_of_ble_eq_true rfl) rfl hP1 hS1 hA (fun H2 locs2 hP2 hS2 => ?_)
  exact lv_icmp_eq (tgt := 1251) hx hb dl_765 (by decide) (fun _ => hgo _ hI2 H2 locs2 lc hP2 hS2 hl) (fun z => absurd hrr z)

theorem lw_oc22 : lw_ok 106 153 11 2 zt156 := ⟨rfl, zzckm_s (a := (4, 118)) (b := (1, 1)) (by decide +kernel), ⟨_, rfl, rfl⟩, zzh_in (q := (4, 116)) (by decide +kernel), zzh_in (q := (4, 117)) (by decide +kernel), rfl, by decide +kernel, zzh_in (q := (4, 115)) (by decide +kernel)⟩
theorem lw_om22 : lw_ok 109 267 12 2 zt270 := ⟨rfl, zzckm_s (a := (8, 164)) (b := (1, 13)) (by decide +kernel), ⟨_, rfl, rfl⟩, zzh_in (q := (8, 162)) (by decide +kernel), zzh_in (q := (8, 163)) (by decide +kernel), rfl, by decide +kernel, zzh_in (q := (8, 161)) (by decide +kernel)⟩
set_option maxHeartbeats 400000 in
theorem lw_arm22 {p : Program} {l : Launch} {e : Env} {s : State} {m : MethodId} {below : List Frame} {meth : Method} {c : Code} {b L : Nat} {xs : Nat → Int32} (hL : L ≤ 3072) (C0 : lw_At p s m meth c b L xs) {D : va_G} {dA : Nat → ClassId} {ad : Nat → Nat} (hK : va_K D zzcl (zztys dA) s) (hnw : zznw s) (hinj : zzinj ad) (had : ∀ i, i < zzn → s.heap.size ≤ ad i) {Q : State → Prop} {N : Nat} {Inv Inv' : zzM → Prop} (hag : lw_agree N Inv Inv') {i : Nat} (hi : i + 6 ≤ L) (hgo : ∀ μ, Inv' μ → lw_L p l e s m below meth c b L xs D dA ad Q i 1251 μ) {μ : zzM} (hI : Inv μ) : lw_L p l e s m below meth c b L xs D dA ad Q i 770 μ := by
  intro H locs lc hP hS hl
  obtain ⟨hx, hb, hr, hml, hown, hts0, hX, hbl, hlocks, hgv⟩ := id C0
  have hts : ∀ w ∈ zzTb, w.before #[Value.ref b] s = true := fun w hw => hts0 w (zzTb_in hw).1
  have hbA : ¬ (fun q : Nat => s.heap.size ≤ q) b := Nat.not_le.mpr hbl
  have hA : ∀ q, zzA ad s.heap.size q → (fun q : Nat => s.heap.size ≤ q) q := fun q hq => hq.elim (fun ⟨j, hj, e⟩ => by rw [e]; exact had j hj) id
  obtain ⟨r1, r2, z1, z2, hrr, hI2⟩ := hag μ hI 22 _ rfl (xs (i + 1)) (xs (i + 2)) (xs (i + 3)) (xs (i + 4)) (xs (i + 5))
  refine lv_aload_n hx hb dl_770 rfl (lv_at hl 2 rfl) ?_
  refine lw_push (j := 1) hx hb hX hbl hbA hS hl rfl rfl (by omega) hL (by decide) dl_771 dl_772 dl_773 dl_774 dl_775 ?_
  refine lw_push (j := 2) hx hb hX hbl hbA hS hl rfl rfl (by omega) hL (by decide) dl_776 dl_777 dl_778 dl_779 dl_780 ?_
  refine lw_call (as := lw_zargs 2 (xs (i + 1)) (xs (i + 2)) (xs (i + 3)) (xs (i + 4)) (xs (i + 5))) (rest := []) hx hb hml hown hts hK hnw hinj hl.1 lw_oc22 rfl rfl z1 dl_781 (Nat.le_of_ble_eq_true rfl) (Nat.le_of_ble_eq_true rfl) (Nat.le_of_ble_eq_true rfl) rfl hP hS hA (fun H1 locs1 hP1 hS1 => ?_)
  refine lv_aload_n hx hb dl_784 rfl (lv_at hl 1 rfl) ?_
  refine lw_push (j := 1) hx hb hX hbl hbA hS1 hl rfl rfl (by omega) hL (by decide) dl_785 dl_786 dl_787 dl_788 dl_789 ?_
  refine lw_push (j := 2) hx hb hX hbl hbA hS1 hl rfl rfl (by omega) hL (by decide) dl_790 dl_791 dl_792 dl_793 dl_794 ?_
  refine lw_call (as := lw_zargs 2 (xs (i + 1)) (xs (i + 2)) (xs (i + 3)) (xs (i + 4)) (xs (i + 5))) (rest := [.int r1.1.1]) hx hb hml hown hts hK hnw hinj hl.1 lw_om22 rfl rfl z2 dl_795 (Nat.le_of_ble_eq_true rfl) (Nat.le_of_ble_eq_true rfl) (Nat.le_of_ble_eq_true rfl) rfl hP1 hS1 hA (fun H2 locs2 hP2 hS2 => ?_)
  exact lv_icmp_eq (tgt := 1251) hx hb dl_798 (by decide) (fun _ => hgo _ hI2 H2 locs2 lc hP2 hS2 hl) (fun z => absurd hrr z)

theorem lw_oc23 : lw_ok 110 154 11 2 zt157 := ⟨rfl, zzckm_s (a := (4, 210)) (b := (1, 1)) (by decide +kernel), ⟨_, rfl, rfl⟩, zzh_in (q := (4, 208)) (by decide +kernel), zzh_in (q := (4, 209)) (by decide +kernel), rfl, by decide +kernel, zzh_in (q := (4, 207)) (by decide +kernel)⟩
theorem lw_om23 : lw_ok 113 269 12 2 zt272 := ⟨rfl, zzckm_s (a := (8, 184)) (b := (1, 13)) (by decide +kernel), ⟨_, rfl, rfl⟩, zzh_in (q := (8, 182)) (by decide +kernel), zzh_in (q := (8, 183)) (by decide +kernel), rfl, by decide +kernel, zzh_in (q := (8, 181)) (by decide +kernel)⟩
set_option maxHeartbeats 400000 in
theorem lw_arm23 {p : Program} {l : Launch} {e : Env} {s : State} {m : MethodId} {below : List Frame} {meth : Method} {c : Code} {b L : Nat} {xs : Nat → Int32} (hL : L ≤ 3072) (C0 : lw_At p s m meth c b L xs) {D : va_G} {dA : Nat → ClassId} {ad : Nat → Nat} (hK : va_K D zzcl (zztys dA) s) (hnw : zznw s) (hinj : zzinj ad) (had : ∀ i, i < zzn → s.heap.size ≤ ad i) {Q : State → Prop} {N : Nat} {Inv Inv' : zzM → Prop} (hag : lw_agree N Inv Inv') {i : Nat} (hi : i + 6 ≤ L) (hgo : ∀ μ, Inv' μ → lw_L p l e s m below meth c b L xs D dA ad Q i 1251 μ) {μ : zzM} (hI : Inv μ) : lw_L p l e s m below meth c b L xs D dA ad Q i 803 μ := by
  intro H locs lc hP hS hl
  obtain ⟨hx, hb, hr, hml, hown, hts0, hX, hbl, hlocks, hgv⟩ := id C0
  have hts : ∀ w ∈ zzTb, w.before #[Value.ref b] s = true := fun w hw => hts0 w (zzTb_in hw).1
  have hbA : ¬ (fun q : Nat => s.heap.size ≤ q) b := Nat.not_le.mpr hbl
  have hA : ∀ q, zzA ad s.heap.size q → (fun q : Nat => s.heap.size ≤ q) q := fun q hq => hq.elim (fun ⟨j, hj, e⟩ => by rw [e]; exact had j hj) id
  obtain ⟨r1, r2, z1, z2, hrr, hI2⟩ := hag μ hI 23 _ rfl (xs (i + 1)) (xs (i + 2)) (xs (i + 3)) (xs (i + 4)) (xs (i + 5))
  refine lv_aload_n hx hb dl_803 rfl (lv_at hl 2 rfl) ?_
  refine lw_push (j := 1) hx hb hX hbl hbA hS hl rfl rfl (by omega) hL (by decide) dl_804 dl_805 dl_806 dl_807 dl_808 ?_
  refine lw_push (j := 2) hx hb hX hbl hbA hS hl rfl rfl (by omega) hL (by decide) dl_809 dl_810 dl_811 dl_812 dl_813 ?_
  refine lw_call (as := lw_zargs 2 (xs (i + 1)) (xs (i + 2)) (xs (i + 3)) (xs (i + 4)) (xs (i + 5))) (rest := []) hx hb hml hown hts hK hnw hinj hl.1 lw_oc23 rfl rfl z1 dl_814 (Nat.le_of_ble_eq_true rfl) (Nat.le_of_ble_eq_true rfl) (Nat.le_of_ble_eq_true rfl) rfl hP hS hA (fun H1 locs1 hP1 hS1 => ?_)
  refine lv_aload_n hx hb dl_817 rfl (lv_at hl 1 rfl) ?_
  refine lw_push (j := 1) hx hb hX hbl hbA hS1 hl rfl rfl (by omega) hL (by decide) dl_818 dl_819 dl_820 dl_821 dl_822 ?_
  refine lw_push (j := 2) hx hb hX hbl hbA hS1 hl rfl rfl (by omega) hL (by decide) dl_823 dl_824 dl_825 dl_826 dl_827 ?_
  refine lw_call (as := lw_zargs 2 (xs (i + 1)) (xs (i + 2)) (xs (i + 3)) (xs (i + 4)) (xs (i + 5))) (rest := [.int r1.1.1]) hx hb hml hown hts hK hnw hinj hl.1 lw_om23 rfl rfl z2 dl_828 (Nat.le_of_ble_eq_true rfl) (Nat.le_of_ble_eq_true rfl) (Nat.le_of_ble_eq_true rfl) rfl hP1 hS1 hA (fun H2 locs2 hP2 hS2 => ?_)
  exact lv_icmp_eq (tgt := 1251) hx hb dl_831 (by decide) (fun _ => hgo _ hI2 H2 locs2 lc hP2 hS2 hl) (fun z => absurd hrr z)

theorem lw_oc24 : lw_ok 114 155 11 1 zt158 := ⟨rfl, zzckm_s (a := (4, 223)) (b := (1, 1)) (by decide +kernel), ⟨_, rfl, rfl⟩, zzh_in (q := (4, 221)) (by decide +kernel), zzh_in (q := (4, 222)) (by decide +kernel), rfl, by decide +kernel, zzh_in (q := (4, 220)) (by decide +kernel)⟩
theorem lw_om24 : lw_ok 117 270 12 1 zt273 := ⟨rfl, zzckm_s (a := (8, 192)) (b := (1, 13)) (by decide +kernel), ⟨_, rfl, rfl⟩, zzh_in (q := (8, 190)) (by decide +kernel), zzh_in (q := (8, 191)) (by decide +kernel), rfl, by decide +kernel, zzh_in (q := (8, 189)) (by decide +kernel)⟩
set_option maxHeartbeats 400000 in
theorem lw_arm24 {p : Program} {l : Launch} {e : Env} {s : State} {m : MethodId} {below : List Frame} {meth : Method} {c : Code} {b L : Nat} {xs : Nat → Int32} (hL : L ≤ 3072) (C0 : lw_At p s m meth c b L xs) {D : va_G} {dA : Nat → ClassId} {ad : Nat → Nat} (hK : va_K D zzcl (zztys dA) s) (hnw : zznw s) (hinj : zzinj ad) (had : ∀ i, i < zzn → s.heap.size ≤ ad i) {Q : State → Prop} {N : Nat} {Inv Inv' : zzM → Prop} (hag : lw_agree N Inv Inv') {i : Nat} (hi : i + 6 ≤ L) (hgo : ∀ μ, Inv' μ → lw_L p l e s m below meth c b L xs D dA ad Q i 1251 μ) {μ : zzM} (hI : Inv μ) : lw_L p l e s m below meth c b L xs D dA ad Q i 836 μ := by
  intro H locs lc hP hS hl
  obtain ⟨hx, hb, hr, hml, hown, hts0, hX, hbl, hlocks, hgv⟩ := id C0
  have hts : ∀ w ∈ zzTb, w.before #[Value.ref b] s = true := fun w hw => hts0 w (zzTb_in hw).1
  have hbA : ¬ (fun q : Nat => s.heap.size ≤ q) b := Nat.not_le.mpr hbl
  have hA : ∀ q, zzA ad s.heap.size q → (fun q : Nat => s.heap.size ≤ q) q := fun q hq => hq.elim (fun ⟨j, hj, e⟩ => by rw [e]; exact had j hj) id
  obtain ⟨r1, r2, z1, z2, hrr, hI2⟩ := hag μ hI 24 _ rfl (xs (i + 1)) (xs (i + 2)) (xs (i + 3)) (xs (i + 4)) (xs (i + 5))
  refine lv_aload_n hx hb dl_836 rfl (lv_at hl 2 rfl) ?_
  refine lw_push (j := 1) hx hb hX hbl hbA hS hl rfl rfl (by omega) hL (by decide) dl_837 dl_838 dl_839 dl_840 dl_841 ?_
  refine lw_call (as := lw_zargs 1 (xs (i + 1)) (xs (i + 2)) (xs (i + 3)) (xs (i + 4)) (xs (i + 5))) (rest := []) hx hb hml hown hts hK hnw hinj hl.1 lw_oc24 rfl rfl z1 dl_842 (Nat.le_of_ble_eq_true rfl) (Nat.le_of_ble_eq_true rfl) (Nat.le_of_ble_eq_true rfl) rfl hP hS hA (fun H1 locs1 hP1 hS1 => ?_)
  refine lv_aload_n hx hb dl_845 rfl (lv_at hl 1 rfl) ?_
  refine lw_push (j := 1) hx hb hX hbl hbA hS1 hl rfl rfl (by omega) hL (by decide) dl_846 dl_847 dl_848 dl_849 dl_850 ?_
  refine lw_call (as := lw_zargs 1 (xs (i + 1)) (xs (i + 2)) (xs (i + 3)) (xs (i + 4)) (xs (i + 5))) (rest := [.int r1.1.1]) hx hb hml hown hts hK hnw hinj hl.1 lw_om24 rfl rfl z2 dl_851 (Nat.le_of_ble_eq_true rfl) (Nat.le_of_ble_eq_true rfl) (Nat.le_of_ble_eq_true rfl) rfl hP1 hS1 hA (fun H2 locs2 hP2 hS2 => ?_)
  exact lv_icmp_eq (tgt := 1251) hx hb dl_854 (by decide) (fun _ => hgo _ hI2 H2 locs2 lc hP2 hS2 hl) (fun z => absurd hrr z)

theorem lw_oc25 : lw_ok 118 156 11 3 zt159 := ⟨rfl, zzckm_s (a := (4, 232)) (b := (1, 1)) (by decide +kernel), ⟨_, rfl, rfl⟩, zzh_in (q := (4, 230)) (by decide +kernel), zzh_in (q := (4, 231)) (by decide +kernel), rfl, by decide +kernel, zzh_in (q := (4, 229)) (by decide +kernel)⟩
theorem lw_om25 : lw_ok 121 261 12 3 zt264 := ⟨rfl, zzckm_s (a := (8, 105)) (b := (1, 13)) (by decide +kernel), ⟨_, rfl, rfl⟩, zzh_in (q := (8, 103)) (by decide +kernel), zzh_in (q := (8, 104)) (by decide +kernel), rfl, by decide +kernel, zzh_in (q := (8, 102)) (by decide +kernel)⟩
set_option maxHeartbeats 400000 in
theorem lw_arm25 {p : Program} {l : Launch} {e : Env} {s : State} {m : MethodId} {below : List Frame} {meth : Method} {c : Code} {b L : Nat} {xs : Nat → Int32} (hL : L ≤ 3072) (C0 : lw_At p s m meth c b L xs) {D : va_G} {dA : Nat → ClassId} {ad : Nat → Nat} (hK : va_K D zzcl (zztys dA) s) (hnw : zznw s) (hinj : zzinj ad) (had : ∀ i, i < zzn → s.heap.size ≤ ad i) {Q : State → Prop} {N : Nat} {Inv Inv' : zzM → Prop} (hag : lw_agree N Inv Inv') {i : Nat} (hi : i + 6 ≤ L) (hgo : ∀ μ, Inv' μ → lw_L p l e s m below meth c b L xs D dA ad Q i 1251 μ) {μ : zzM} (hI : Inv μ) : lw_L p l e s m below meth c b L xs D dA ad Q i 859 μ := by
  intro H locs lc hP hS hl
  obtain ⟨hx, hb, hr, hml, hown, hts0, hX, hbl, hlocks, hgv⟩ := id C0
  have hts : ∀ w ∈ zzTb, w.before #[Value.ref b] s = true := fun w hw => hts0 w (zzTb_in hw).1
  have hbA : ¬ (fun q : Nat => s.heap.size ≤ q) b := Nat.not_le.mpr hbl
  have hA : ∀ q, zzA ad s.heap.size q → (fun q : Nat => s.heap.size ≤ q) q := fun q hq => hq.elim (fun ⟨j, hj, e⟩ => by rw [e]; exact had j hj) id
  obtain ⟨r1, r2, z1, z2, hrr, hI2⟩ := hag μ hI 25 _ rfl (xs (i + 1)) (xs (i + 2)) (xs (i + 3)) (xs (i + 4)) (xs (i + 5))
  refine lv_aload_n hx hb dl_859 rfl (lv_at hl 2 rfl) ?_
  refine lw_push (j := 1) hx hb hX hbl hbA hS hl rfl rfl (by omega) hL (by decide) dl_860 dl_861 dl_862 dl_863 dl_864 ?_
  refine lw_push (j := 2) hx hb hX hbl hbA hS hl rfl rfl (by omega) hL (by decide) dl_865 dl_866 dl_867 dl_868 dl_869 ?_
  refine lw_push (j := 3) hx hb hX hbl hbA hS hl rfl rfl (by omega) hL (by decide) dl_870 dl_871 dl_872 dl_873 dl_874 ?_
  refine lw_call (as := lw_zargs 3 (xs (i + 1)) (xs (i + 2)) (xs (i + 3)) (xs (i + 4)) (xs (i + 5))) (rest := []) hx hb hml hown hts hK hnw hinj hl.1 lw_oc25 rfl rfl z1 dl_875 (Nat.le_of_ble_eq_true rfl) (Nat.le_of_ble_eq_true rfl) (Nat.le_of_ble_eq_true rfl) rfl hP hS hA (fun H1 locs1 hP1 hS1 => ?_)
  refine lv_aload_n hx hb dl_878 rfl (lv_at hl 1 rfl) ?_
  refine lw_push (j := 1) hx hb hX hbl hbA hS1 hl rfl rfl (by omega) hL (by decide) dl_879 dl_880 dl_881 dl_882 dl_883 ?_
  refine lw_push (j := 2) hx hb hX hbl hbA hS1 hl rfl rfl (by omega) hL (by decide) dl_884 dl_885 dl_886 dl_887 dl_888 ?_
  refine lw_push (j := 3) hx hb hX hbl hbA hS1 hl rfl rfl (by omega) hL (by decide) dl_889 dl_890 dl_891 dl_892 dl_893 ?_
  refine lw_call (as := lw_zargs 3 (xs (i + 1)) (xs (i + 2)) (xs (i + 3)) (xs (i + 4)) (xs (i + 5))) (rest := [.int r1.1.1]) hx hb hml hown hts hK hnw hinj hl.1 lw_om25 rfl rfl z2 dl_894 (Nat.le_of_ble_eq_true rfl) (Nat.le_of_ble_eq_true rfl) (Nat.le_of_ble_eq_true rfl) rfl hP1 hS1 hA (fun H2 locs2 hP2 hS2 => ?_)
  exact lv_icmp_eq (tgt := 1251) hx hb dl_897 (by decide) (fun _ => hgo _ hI2 H2 locs2 lc hP2 hS2 hl) (fun z => absurd hrr z)

theorem lw_oc26 : lw_ok 122 157 11 3 zt160 := ⟨rfl, zzckm_s (a := (5, 2)) (b := (1, 1)) (by decide +kernel), ⟨_, rfl, rfl⟩, zzh_in (q := (5, 0)) (by decide +kernel), zzh_in (q := (5, 1)) (by decide +kernel), rfl, by decide +kernel, zzh_in (q := (4, 239)) (by decide +kernel)⟩
theorem lw_om26 : lw_ok 125 281 12 3 zt284 := ⟨rfl, zzckm_s (a := (8, 196)) (b := (1, 13)) (by decide +kernel), ⟨_, rfl, rfl⟩, zzh_in (q := (8, 194)) (by decide +kernel), zzh_in (q := (8, 195)) (by decide +kernel), rfl, by decide +kernel, zzh_in (q := (8, 193)) (by decide +kernel)⟩
set_option maxHeartbeats 400000 in
theorem lw_arm26 {p : Program} {l : Launch} {e : Env} {s : State} {m : MethodId} {below : List Frame} {meth : Method} {c : Code} {b L : Nat} {xs : Nat → Int32} (hL : L ≤ 3072) (C0 : lw_At p s m meth c b L xs) {D : va_G} {dA : Nat → ClassId} {ad : Nat → Nat} (hK : va_K D zzcl (zztys dA) s) (hnw : zznw s) (hinj : zzinj ad) (had : ∀ i, i < zzn → s.heap.size ≤ ad i) {Q : State → Prop} {N : Nat} {Inv Inv' : zzM → Prop} (hag : lw_agree N Inv Inv') {i : Nat} (hi : i + 6 ≤ L) (hgo : ∀ μ, Inv' μ → lw_L p l e s m below meth c b L xs D dA ad Q i 1251 μ) {μ : zzM} (hI : Inv μ) : lw_L p l e s m below meth c b L xs D dA ad Q i 902 μ := by
  intro H locs lc hP hS hl
  obtain ⟨hx, hb, hr, hml, hown, hts0, hX, hbl, hlocks, hgv⟩ := id C0
  have hts : ∀ w ∈ zzTb, w.before #[Value.ref b] s = true := fun w hw => hts0 w (zzTb_in hw).1
  have hbA : ¬ (fun q : Nat => s.heap.size ≤ q) b := Nat.not_le.mpr hbl
  have hA : ∀ q, zzA ad s.heap.size q → (fun q : Nat => s.heap.size ≤ q) q := fun q hq => hq.elim (fun ⟨j, hj, e⟩ => by rw [e]; exact had j hj) id
  obtain ⟨r1, r2, z1, z2, hrr, hI2⟩ := hag μ hI 26 _ rfl (xs (i + 1)) (xs (i + 2)) (xs (i + 3)) (xs (i + 4)) (xs (i + 5))
  refine lv_aload_n hx hb dl_902 rfl (lv_at hl 2 rfl) ?_
  refine lw_push (j := 1) hx hb hX hbl hbA hS hl rfl rfl (by omega) hL (by decide) dl_903 dl_904 dl_905 dl_906 dl_907 ?_
  refine lw_push (j := 2) hx hb hX hbl hbA hS hl rfl rfl (by omega) hL (by decide) dl_908 dl_909 dl_910 dl_911 dl_912 ?_
  refine lw_push (j := 3) hx hb hX hbl hbA hS hl rfl rfl (by omega) hL (by decide) dl_913 dl_914 dl_915 dl_916 dl_917 ?_
  refine lw_call (as := lw_zargs 3 (xs (i + 1)) (xs (i + 2)) (xs (i + 3)) (xs (i + 4)) (xs (i + 5))) (rest := []) hx hb hml hown hts hK hnw hinj hl.1 lw_oc26 rfl rfl z1 dl_918 (Nat.le_of_ble_eq_true rfl) (Nat.le_of_ble_eq_true rfl) (Nat.le_of_ble_eq_true rfl) rfl hP hS hA (fun H1 locs1 hP1 hS1 => ?_)
  refine lv_aload_n hx hb dl_921 rfl (lv_at hl 1 rfl) ?_
  refine lw_push (j := 1) hx hb hX hbl hbA hS1 hl rfl rfl (by omega) hL (by decide) dl_922 dl_923 dl_924 dl_925 dl_926 ?_
  refine lw_push (j := 2) hx hb hX hbl hbA hS1 hl rfl rfl (by omega) hL (by decide) dl_927 dl_928 dl_929 dl_930 dl_931 ?_
  refine lw_push (j := 3) hx hb hX hbl hbA hS1 hl rfl rfl (by omega) hL (by decide) dl_932 dl_933 dl_934 dl_935 dl_936 ?_
  refine lw_call (as := lw_zargs 3 (xs (i + 1)) (xs (i + 2)) (xs (i + 3)) (xs (i + 4)) (xs (i + 5))) (rest := [.int r1.1.1]) hx hb hml hown hts hK hnw hinj hl.1 lw_om26 rfl rfl z2 dl_937 (Nat.le_of_ble_eq_true rfl) (Nat.le_of_ble_eq_true rfl) (Nat.le_of_ble_eq_true rfl) rfl hP1 hS1 hA (fun H2 locs2 hP2 hS2 => ?_)
  exact lv_icmp_eq (tgt := 1251) hx hb dl_940 (by decide) (fun _ => hgo _ hI2 H2 locs2 lc hP2 hS2 hl) (fun z => absurd hrr z)

theorem lw_oc27 : lw_ok 126 158 11 3 zt161 := ⟨rfl, zzckm_s (a := (5, 59)) (b := (1, 1)) (by decide +kernel), ⟨_, rfl, rfl⟩, zzh_in (q := (5, 57)) (by decide +kernel), zzh_in (q := (5, 58)) (by decide +kernel), rfl, by decide +kernel, zzh_in (q := (5, 56)) (by decide +kernel)⟩
theorem lw_om27 : lw_ok 129 286 12 3 zt289 := ⟨rfl, zzckm_s (a := (9, 1)) (b := (1, 13)) (by decide +kernel), ⟨_, rfl, rfl⟩, zzh_in (q := (8, 239)) (by decide +kernel), zzh_in (q := (9, 0)) (by decide +kernel), rfl, by decide +kernel, zzh_in (q := (8, 238)) (by decide +kernel)⟩
set_option maxHeartbeats 400000 in
theorem lw_arm27 {p : Program} {l : Launch} {e : Env} {s : State} {m : MethodId} {below : List Frame} {meth : Method} {c : Code} {b L : Nat} {xs : Nat → Int32} (hL : L ≤ 3072) (C0 : lw_At p s m meth c b L xs) {D : va_G} {dA : Nat → ClassId} {ad : Nat → Nat} (hK : va_K D zzcl (zztys dA) s) (hnw : zznw s) (hinj : zzinj ad) (had : ∀ i, i < zzn → s.heap.size ≤ ad i) {Q : State → Prop} {N : Nat} {Inv Inv' : zzM → Prop} (hag : lw_agree N Inv Inv') {i : Nat} (hi : i + 6 ≤ L) (hgo : ∀ μ, Inv' μ → lw_L p l e s m below meth c b L xs D dA ad Q i 1251 μ) {μ : zzM} (hI : Inv μ) : lw_L p l e s m below meth c b L xs D dA ad Q i 945 μ := by
  intro H locs lc hP hS hl
  obtain ⟨hx, hb, hr, hml, hown, hts0, hX, hbl, hlocks, hgv⟩ := id C0
  have hts : ∀ w ∈ zzTb, w.before #[Value.ref b] s = true := fun w hw => hts0 w (zzTb_in hw).1
  have hbA : ¬ (fun q : Nat => s.heap.size ≤ q) b := Nat.not_le.mpr hbl
  have hA : ∀ q, zzA ad s.heap.size q → (fun q : Nat => s.heap.size ≤ q) q := fun q hq => hq.elim (fun ⟨j, hj, e⟩ => by rw [e]; exact had j hj) id
  obtain ⟨r1, r2, z1, z2, hrr, hI2⟩ := hag μ hI 27 _ rfl (xs (i + 1)) (xs (i + 2)) (xs (i + 3)) (xs (i + 4)) (xs (i + 5))
  refine lv_aload_n hx hb dl_945 rfl (lv_at hl 2 rfl) ?_
  refine lw_push (j := 1) hx hb hX hbl hbA hS hl rfl rfl (by omega) hL (by decide) dl_946 dl_947 dl_948 dl_949 dl_950 ?_
  refine lw_push (j := 2) hx hb hX hbl hbA hS hl rfl rfl (by omega) hL (by decide) dl_951 dl_952 dl_953 dl_954 dl_955 ?_
  refine lw_push (j := 3) hx hb hX hbl hbA hS hl rfl rfl (by omega) hL (by decide) dl_956 dl_957 dl_958 dl_959 dl_960 ?_
  refine lw_call (as := lw_zargs 3 (xs (i + 1)) (xs (i + 2)) (xs (i + 3)) (xs (i + 4)) (xs (i + 5))) (rest := []) hx hb hml hown hts hK hnw hinj hl.1 lw_oc27 rfl rfl z1 dl_961 (Nat.le_of_ble_eq_true rfl) (Nat.le_of_ble_eq_true rfl) (Nat.le_of_ble_eq_true rfl) rfl hP hS hA (fun H1 locs1 hP1 hS1 => ?_)
  refine lv_aload_n hx hb dl_964 rfl (lv_at hl 1 rfl) ?_
  refine lw_push (j := 1) hx hb hX hbl hbA hS1 hl rfl rfl (by omega) hL (by decide) dl_965 dl_966 dl_967 dl_968 dl_969 ?_
  refine lw_push (j := 2) hx hb hX hbl hbA hS1 hl rfl rfl (by omega) hL (by decide) dl_970 dl_971 dl_972 dl_973 dl_974 ?_
  refine lw_push (j := 3) hx hb hX hbl hbA hS1 hl rfl rfl (by omega) hL (by decide) dl_975 dl_976 dl_977 dl_978 dl_979 ?_
  refine lw_call (as := lw_zargs 3 (xs (i + 1)) (xs (i + 2)) (xs (i + 3)) (xs (i + 4)) (xs (i + 5))) (rest := [.int r1.1.1]) hx hb hml hown hts hK hnw hinj hl.1 lw_om27 rfl rfl z2 dl_980 (Nat.le_of_ble_eq_true rfl) (Nat.le_of_ble_eq_true rfl) (Nat.le_of_ble_eq_true rfl) rfl hP1 hS1 hA (fun H2 locs2 hP2 hS2 => ?_)
  exact lv_icmp_eq (tgt := 1251) hx hb dl_983 (by decide) (fun _ => hgo _ hI2 H2 locs2 lc hP2 hS2 hl) (fun z => absurd hrr z)

theorem lw_oc28 : lw_ok 130 159 11 3 zt162 := ⟨rfl, zzckm_s (a := (5, 91)) (b := (1, 1)) (by decide +kernel), ⟨_, rfl, rfl⟩, zzh_in (q := (5, 89)) (by decide +kernel), zzh_in (q := (5, 90)) (by decide +kernel), rfl, by decide +kernel, zzh_in (q := (5, 88)) (by decide +kernel)⟩
theorem lw_om28 : lw_ok 133 288 12 3 zt291 := ⟨rfl, zzckm_s (a := (9, 25)) (b := (1, 13)) (by decide +kernel), ⟨_, rfl, rfl⟩, zzh_in (q := (9, 23)) (by decide +kernel), zzh_in (q := (9, 24)) (by decide +kernel), rfl, by decide +kernel, zzh_in (q := (9, 22)) (by decide +kernel)⟩
set_option maxHeartbeats 400000 in
theorem lw_arm28 {p : Program} {l : Launch} {e : Env} {s : State} {m : MethodId} {below : List Frame} {meth : Method} {c : Code} {b L : Nat} {xs : Nat → Int32} (hL : L ≤ 3072) (C0 : lw_At p s m meth c b L xs) {D : va_G} {dA : Nat → ClassId} {ad : Nat → Nat} (hK : va_K D zzcl (zztys dA) s) (hnw : zznw s) (hinj : zzinj ad) (had : ∀ i, i < zzn → s.heap.size ≤ ad i) {Q : State → Prop} {N : Nat} {Inv Inv' : zzM → Prop} (hag : lw_agree N Inv Inv') {i : Nat} (hi : i + 6 ≤ L) (hgo : ∀ μ, Inv' μ → lw_L p l e s m below meth c b L xs D dA ad Q i 1251 μ) {μ : zzM} (hI : Inv μ) : lw_L p l e s m below meth c b L xs D dA ad Q i 988 μ := by
  intro H locs lc hP hS hl
  obtain ⟨hx, hb, hr, hml, hown, hts0, hX, hbl, hlocks, hgv⟩ := id C0
  have hts : ∀ w ∈ zzTb, w.before #[Value.ref b] s = true := fun w hw => hts0 w (zzTb_in hw).1
  have hbA : ¬ (fun q : Nat => s.heap.size ≤ q) b := Nat.not_le.mpr hbl
  have hA : ∀ q, zzA ad s.heap.size q → (fun q : Nat => s.heap.size ≤ q) q := fun q hq => hq.elim (fun ⟨j, hj, e⟩ => by rw [e]; exact had j hj) id
  obtain ⟨r1, r2, z1, z2, hrr, hI2⟩ := hag μ hI 28 _ rfl (xs (i + 1)) (xs (i + 2)) (xs (i + 3)) (xs (i + 4)) (xs (i + 5))
  refine lv_aload_n hx hb dl_988 rfl (lv_at hl 2 rfl) ?_
  refine lw_push (j := 1) hx hb hX hbl hbA hS hl rfl rfl (by omega) hL (by decide) dl_989 dl_990 dl_991 dl_992 dl_993 ?_
  refine lw_push (j := 2) hx hb hX hbl hbA hS hl rfl rfl (by omega) hL (by decide) dl_994 dl_995 dl_996 dl_997 dl_998 ?_
  refine lw_push (j := 3) hx hb hX hbl hbA hS hl rfl rfl (by omega) hL (by decide) dl_999 dl_1000 dl_1001 dl_1002 dl_1003 ?_
  refine lw_call (as := lw_zargs 3 (xs (i + 1)) (xs (i + 2)) (xs (i + 3)) (xs (i + 4)) (xs (i + 5))) (rest := []) hx hb hml hown hts hK hnw hinj hl.1 lw_oc28 rfl rfl z1 dl_1004 (Nat.le_of_ble_eq_true rfl) (Nat.le_of_ble_eq_true rfl) (Nat.le_of_ble_eq_true rfl) rfl hP hS hA (fun H1 locs1 hP1 hS1 => ?_)
  refine lv_aload_n hx hb dl_1007 rfl (lv_at hl 1 rfl) ?_
  refine lw_push (j := 1) hx hb hX hbl hbA hS1 hl rfl rfl (by omega) hL (by decide) dl_1008 dl_1009 dl_1010 dl_1011 dl_1012 ?_
  refine lw_push (j := 2) hx hb hX hbl hbA hS1 hl rfl rfl (by omega) hL (by decide) dl_1013 dl_1014 dl_1015 dl_1016 dl_1017 ?_
  refine lw_push (j := 3) hx hb hX hbl hbA hS1 hl rfl rfl (by omega) hL (by decide) dl_1018 dl_1019 dl_1020 dl_1021 dl_1022 ?_
  refine lw_call (as := lw_zargs 3 (xs (i + 1)) (xs (i + 2)) (xs (i + 3)) (xs (i + 4)) (xs (i + 5))) (rest := [.int r1.1.1]) hx hb hml hown hts hK hnw hinj hl.1 lw_om28 rfl rfl z2 dl_1023 (Nat.le_of_ble_eq_true rfl) (Nat.le_of_ble_eq_true rfl) (Nat.le_of_ble_eq_true rfl) rfl hP1 hS1 hA (fun H2 locs2 hP2 hS2 => ?_)
  exact lv_icmp_eq (tgt := 1251) hx hb dl_1026 (by decide) (fun _ => hgo _ hI2 H2 locs2 lc hP2 hS2 hl) (fun z => absurd hrr z)

theorem lw_oc29 : lw_ok 134 160 11 1 zt163 := ⟨rfl, zzckm_s (a := (5, 106)) (b := (1, 1)) (by decide +kernel), ⟨_, rfl, rfl⟩, zzh_in (q := (5, 104)) (by decide +kernel), zzh_in (q := (5, 105)) (by decide +kernel), rfl, by decide +kernel, zzh_in (q := (5, 103)) (by decide +kernel)⟩
theorem lw_om29 : lw_ok 137 292 12 1 zt295 := ⟨rfl, zzckm_s (a := (9, 33)) (b := (1, 13)) (by decide +kernel), ⟨_, rfl, rfl⟩, zzh_in (q := (9, 31)) (by decide +kernel), zzh_in (q := (9, 32)) (by decide +kernel), rfl, by decide +kernel, zzh_in (q := (9, 30)) (by decide +kernel)⟩
set_option maxHeartbeats 400000 in
theorem lw_arm29 {p : Program} {l : Launch} {e : Env} {s : State} {m : MethodId} {below : List Frame} {meth : Method} {c : Code} {b L : Nat} {xs : Nat → Int32} (hL : L ≤ 3072) (C0 : lw_At p s m meth c b L xs) {D : va_G} {dA : Nat → ClassId} {ad : Nat → Nat} (hK : va_K D zzcl (zztys dA) s) (hnw : zznw s) (hinj : zzinj ad) (had : ∀ i, i < zzn → s.heap.size ≤ ad i) {Q : State → Prop} {N : Nat} {Inv Inv' : zzM → Prop} (hag : lw_agree N Inv Inv') {i : Nat} (hi : i + 6 ≤ L) (hgo : ∀ μ, Inv' μ → lw_L p l e s m below meth c b L xs D dA ad Q i 1251 μ) {μ : zzM} (hI : Inv μ) : lw_L p l e s m below meth c b L xs D dA ad Q i 1031 μ := by
  intro H locs lc hP hS hl
  obtain ⟨hx, hb, hr, hml, hown, hts0, hX, hbl, hlocks, hgv⟩ := id C0
  have hts : ∀ w ∈ zzTb, w.before #[Value.ref b] s = true := fun w hw => hts0 w (zzTb_in hw).1
  have hbA : ¬ (fun q : Nat => s.heap.size ≤ q) b := Nat.not_le.mpr hbl
  have hA : ∀ q, zzA ad s.heap.size q → (fun q : Nat => s.heap.size ≤ q) q := fun q hq => hq.elim (fun ⟨j, hj, e⟩ => by rw [e]; exact had j hj) id
  obtain ⟨r1, r2, z1, z2, hrr, hI2⟩ := hag μ hI 29 _ rfl (xs (i + 1)) (xs (i + 2)) (xs (i + 3)) (xs (i + 4)) (xs (i + 5))
  refine lv_aload_n hx hb dl_1031 rfl (lv_at hl 2 rfl) ?_
  refine lw_push (j := 1) hx hb hX hbl hbA hS hl rfl rfl (by omega) hL (by decide) dl_1032 dl_1033 dl_1034 dl_1035 dl_1036 ?_
  refine lw_call (as := lw_zargs 1 (xs (i + 1)) (xs (i + 2)) (xs (i + 3)) (xs (i + 4)) (xs (i + 5))) (rest := []) hx hb hml hown hts hK hnw hinj hl.1 lw_oc29 rfl rfl z1 dl_1037 (Nat.le_of_ble_eq_true rfl) (Nat.le_of_ble_eq_true rfl) (Nat.le_of_ble_eq_true rfl) rfl hP hS hA (fun H1 locs1 hP1 hS1 => ?_)
  refine lv_aload_n hx hb dl_1040 rfl (lv_at hl 1 rfl) ?_
  refine lw_push (j := 1) hx hb hX hbl hbA hS1 hl rfl rfl (by omega) hL (by decide) dl_1041 dl_1042 dl_1043 dl_1044 dl_1045 ?_
  refine lw_call (as := lw_zargs 1 (xs (i + 1)) (xs (i + 2)) (xs (i + 3)) (xs (i + 4)) (xs (i + 5))) (rest := [.int r1.1.1]) hx hb hml hown hts hK hnw hinj hl.1 lw_om29 rfl rfl z2 dl_1046 (Nat.le_of_ble_eq_true rfl) (Nat.le_of_ble_eq_true rfl) (Nat.le_of_ble_eq_true rfl) rfl hP1 hS1 hA (fun H2 locs2 hP2 hS2 => ?_)
  exact lv_icmp_eq (tgt := 1251) hx hb dl_1049 (by decide) (fun _ => hgo _ hI2 H2 locs2 lc hP2 hS2 hl) (fun z => absurd hrr z)

theorem lw_oc30 : lw_ok 138 161 11 0 zt164 := ⟨rfl, zzckm_s (a := (5, 129)) (b := (1, 1)) (by decide +kernel), ⟨_, rfl, rfl⟩, zzh_in (q := (5, 127)) (by decide +kernel), zzh_in (q := (5, 128)) (by decide +kernel), rfl, by decide +kernel, zzh_in (q := (5, 126)) (by decide +kernel)⟩
theorem lw_om30 : lw_ok 141 299 12 0 zt302 := ⟨rfl, zzckm_s (a := (9, 50)) (b := (1, 13)) (by decide +kernel), ⟨_, rfl, rfl⟩, zzh_in (q := (9, 48)) (by decide +kernel), zzh_in (q := (9, 49)) (by decide +kernel), rfl, by decide +kernel, zzh_in (q := (9, 47)) (by decide +kernel)⟩
set_option maxHeartbeats 400000 in
theorem lw_arm30 {p : Program} {l : Launch} {e : Env} {s : State} {m : MethodId} {below : List Frame} {meth : Method} {c : Code} {b L : Nat} {xs : Nat → Int32} (hL : L ≤ 3072) (C0 : lw_At p s m meth c b L xs) {D : va_G} {dA : Nat → ClassId} {ad : Nat → Nat} (hK : va_K D zzcl (zztys dA) s) (hnw : zznw s) (hinj : zzinj ad) (had : ∀ i, i < zzn → s.heap.size ≤ ad i) {Q : State → Prop} {N : Nat} {Inv Inv' : zzM → Prop} (hag : lw_agree N Inv Inv') {i : Nat} (hi : i + 6 ≤ L) (hgo : ∀ μ, Inv' μ → lw_L p l e s m below meth c b L xs D dA ad Q i 1251 μ) {μ : zzM} (hI : Inv μ) : lw_L p l e s m below meth c b L xs D dA ad Q i 1054 μ := by
  intro H locs lc hP hS hl
  obtain ⟨hx, hb, hr, hml, hown, hts0, hX, hbl, hlocks, hgv⟩ := id C0
  have hts : ∀ w ∈ zzTb, w.before #[Value.ref b] s = true := fun w hw => hts0 w (zzTb_in hw).1
  have hbA : ¬ (fun q : Nat => s.heap.size ≤ q) b := Nat.not_le.mpr hbl
  have hA : ∀ q, zzA ad s.heap.size q → (fun q : Nat => s.heap.size ≤ q) q := fun q hq => hq.elim (fun ⟨j, hj, e⟩ => by rw [e]; exact had j hj) id
  obtain ⟨r1, r2, z1, z2, hrr, hI2⟩ := hag μ hI 30 _ rfl (xs (i + 1)) (xs (i + 2)) (xs (i + 3)) (xs (i + 4)) (xs (i + 5))
  refine lv_aload_n hx hb dl_1054 rfl (lv_at hl 2 rfl) ?_
  refine lw_call (as := lw_zargs 0 (xs (i + 1)) (xs (i + 2)) (xs (i + 3)) (xs (i + 4)) (xs (i + 5))) (rest := []) hx hb hml hown hts hK hnw hinj hl.1 lw_oc30 rfl rfl z1 dl_1055 (Nat.le_of_ble_eq_true rfl) (Nat.le_of_ble_eq_true rfl) (Nat.le_of_ble_eq_true rfl) rfl hP hS hA (fun H1 locs1 hP1 hS1 => ?_)
  refine lv_aload_n hx hb dl_1058 rfl (lv_at hl 1 rfl) ?_
  refine lw_call (as := lw_zargs 0 (xs (i + 1)) (xs (i + 2)) (xs (i + 3)) (xs (i + 4)) (xs (i + 5))) (rest := [.int r1.1.1]) hx hb hml hown hts hK hnw hinj hl.1 lw_om30 rfl rfl z2 dl_1059 (Nat.le_of_ble_eq_true rfl) (Nat.le_of_ble_eq_true rfl) (Nat.le_of_ble_eq_true rfl) rfl hP1 hS1 hA (fun H2 locs2 hP2 hS2 => ?_)
  exact lv_icmp_eq (tgt := 1251) hx hb dl_1062 (by decide) (fun _ => hgo _ hI2 H2 locs2 lc hP2 hS2 hl) (fun z => absurd hrr z)

theorem lw_oc31 : lw_ok 142 162 11 2 zt165 := ⟨rfl, zzckm_s (a := (5, 177)) (b := (1, 1)) (by decide +kernel), ⟨_, rfl, rfl⟩, zzh_in (q := (5, 175)) (by decide +kernel), zzh_in (q := (5, 176)) (by decide +kernel), rfl, by decide +kernel, zzh_in (q := (5, 174)) (by decide +kernel)⟩
theorem lw_om31 : lw_ok 145 302 12 2 zt305 := ⟨rfl, zzckm_s (a := (9, 78)) (b := (1, 13)) (by decide +kernel), ⟨_, rfl, rfl⟩, zzh_in (q := (9, 76)) (by decide +kernel), zzh_in (q := (9, 77)) (by decide +kernel), rfl, by decide +kernel, zzh_in (q := (9, 75)) (by decide +kernel)⟩
set_option maxHeartbeats 400000 in
theorem lw_arm31 {p : Program} {l : Launch} {e : Env} {s : State} {m : MethodId} {below : List Frame} {meth : Method} {c : Code} {b L : Nat} {xs : Nat → Int32} (hL : L ≤ 3072) (C0 : lw_At p s m meth c b L xs) {D : va_G} {dA : Nat → ClassId} {ad : Nat → Nat} (hK : va_K D zzcl (zztys dA) s) (hnw : zznw s) (hinj : zzinj ad) (had : ∀ i, i < zzn → s.heap.size ≤ ad i) {Q : State → Prop} {N : Nat} {Inv Inv' : zzM → Prop} (hag : lw_agree N Inv Inv') {i : Nat} (hi : i + 6 ≤ L) (hgo : ∀ μ, Inv' μ → lw_L p l e s m below meth c b L xs D dA ad Q i 1251 μ) {μ : zzM} (hI : Inv μ) : lw_L p l e s m below meth c b L xs D dA ad Q i 1067 μ := by
  intro H locs lc hP hS hl
  obtain ⟨hx, hb, hr, hml, hown, hts0, hX, hbl, hlocks, hgv⟩ := id C0
  have hts : ∀ w ∈ zzTb, w.before #[Value.ref b] s = true := fun w hw => hts0 w (zzTb_in hw).1
  have hbA : ¬ (fun q : Nat => s.heap.size ≤ q) b := Nat.not_le.mpr hbl
  have hA : ∀ q, zzA ad s.heap.size q → (fun q : Nat => s.heap.size ≤ q) q := fun q hq => hq.elim (fun ⟨j, hj, e⟩ => by rw [e]; exact had j hj) id
  obtain ⟨r1, r2, z1, z2, hrr, hI2⟩ := hag μ hI 31 _ rfl (xs (i + 1)) (xs (i + 2)) (xs (i + 3)) (xs (i + 4)) (xs (i + 5))
  refine lv_aload_n hx hb dl_1067 rfl (lv_at hl 2 rfl) ?_
  refine lw_push (j := 1) hx hb hX hbl hbA hS hl rfl rfl (by omega) hL (by decide) dl_1068 dl_1069 dl_1070 dl_1071 dl_1072 ?_
  refine lw_push (j := 2) hx hb hX hbl hbA hS hl rfl rfl (by omega) hL (by decide) dl_1073 dl_1074 dl_1075 dl_1076 dl_1077 ?_
  refine lw_call (as := lw_zargs 2 (xs (i + 1)) (xs (i + 2)) (xs (i + 3)) (xs (i + 4)) (xs (i + 5))) (rest := []) hx hb hml hown hts hK hnw hinj hl.1 lw_oc31 rfl rfl z1 dl_1078 (Nat.le_of_ble_eq_true rfl) (Nat.le_of_ble_eq_true rfl) (Nat.le_of_ble_eq_true rfl) rfl hP hS hA (fun H1 locs1 hP1 hS1 => ?_)
  refine lv_aload_n hx hb dl_1081 rfl (lv_at hl 1 rfl) ?_
  refine lw_push (j := 1) hx hb hX hbl hbA hS1 hl rfl rfl (by omega) hL (by decide) dl_1082 dl_1083 dl_1084 dl_1085 dl_1086 ?_
  refine lw_push (j := 2) hx hb hX hbl hbA hS1 hl rfl rfl (by omega) hL (by decide) dl_1087 dl_1088 dl_1089 dl_1090 dl_1091 ?_
  refine lw_call (as := lw_zargs 2 (xs (i + 1)) (xs (i + 2)) (xs (i + 3)) (xs (i + 4)) (xs (i + 5))) (rest := [.int r1.1.1]) hx hb hml hown hts hK hnw hinj hl.1 lw_om31 rfl rfl z2 dl_1092 (Nat.le_of_ble_eq_true rfl) (Nat.le_of_ble_eq_true rfl) (Nat.le_of_ble_eq_true rfl) rfl hP1 hS1 hA (fun H2 locs2 hP2 hS2 => ?_)
  exact lv_icmp_eq (tgt := 1251) hx hb dl_1095 (by decide) (fun _ => hgo _ hI2 H2 locs2 lc hP2 hS2 hl) (fun z => absurd hrr z)

theorem lw_oc32 : lw_ok 146 163 11 0 zt166 := ⟨rfl, zzckm_s (a := (5, 194)) (b := (1, 1)) (by decide +kernel), ⟨_, rfl, rfl⟩, zzh_in (q := (5, 192)) (by decide +kernel), zzh_in (q := (5, 193)) (by decide +kernel), rfl, by decide +kernel, zzh_in (q := (5, 191)) (by decide +kernel)⟩
theorem lw_om32 : lw_ok 149 262 12 0 zt265 := ⟨rfl, zzckm_s (a := (8, 160)) (b := (1, 13)) (by decide +kernel), ⟨_, rfl, rfl⟩, zzh_in (q := (8, 158)) (by decide +kernel), zzh_in (q := (8, 159)) (by decide +kernel), rfl, by decide +kernel, zzh_in (q := (8, 157)) (by decide +kernel)⟩
set_option maxHeartbeats 400000 in
theorem lw_arm32 {p : Program} {l : Launch} {e : Env} {s : State} {m : MethodId} {below : List Frame} {meth : Method} {c : Code} {b L : Nat} {xs : Nat → Int32} (hL : L ≤ 3072) (C0 : lw_At p s m meth c b L xs) {D : va_G} {dA : Nat → ClassId} {ad : Nat → Nat} (hK : va_K D zzcl (zztys dA) s) (hnw : zznw s) (hinj : zzinj ad) (had : ∀ i, i < zzn → s.heap.size ≤ ad i) {Q : State → Prop} {N : Nat} {Inv Inv' : zzM → Prop} (hag : lw_agree N Inv Inv') {i : Nat} (hi : i + 6 ≤ L) (hgo : ∀ μ, Inv' μ → lw_L p l e s m below meth c b L xs D dA ad Q i 1251 μ) {μ : zzM} (hI : Inv μ) : lw_L p l e s m below meth c b L xs D dA ad Q i 1100 μ := by
  intro H locs lc hP hS hl
  obtain ⟨hx, hb, hr, hml, hown, hts0, hX, hbl, hlocks, hgv⟩ := id C0
  have hts : ∀ w ∈ zzTb, w.before #[Value.ref b] s = true := fun w hw => hts0 w (zzTb_in hw).1
  have hbA : ¬ (fun q : Nat => s.heap.size ≤ q) b := Nat.not_le.mpr hbl
  have hA : ∀ q, zzA ad s.heap.size q → (fun q : Nat => s.heap.size ≤ q) q := fun q hq => hq.elim (fun ⟨j, hj, e⟩ => by rw [e]; exact had j hj) id
  obtain ⟨r1, r2, z1, z2, hrr, hI2⟩ := hag μ hI 32 _ rfl (xs (i + 1)) (xs (i + 2)) (xs (i + 3)) (xs (i + 4)) (xs (i + 5))
  refine lv_aload_n hx hb dl_1100 rfl (lv_at hl 2 rfl) ?_
  refine lw_call (as := lw_zargs 0 (xs (i + 1)) (xs (i + 2)) (xs (i + 3)) (xs (i + 4)) (xs (i + 5))) (rest := []) hx hb hml hown hts hK hnw hinj hl.1 lw_oc32 rfl rfl z1 dl_1101 (Nat.le_of_ble_eq_true rfl) (Nat.le_of_ble_eq_true rfl) (Nat.le_of_ble_eq_true rfl) rfl hP hS hA (fun H1 locs1 hP1 hS1 => ?_)
  refine lv_aload_n hx hb dl_1104 rfl (lv_at hl 1 rfl) ?_
  refine lw_call (as := lw_zargs 0 (xs (i + 1)) (xs (i + 2)) (xs (i + 3)) (xs (i + 4)) (xs (i + 5))) (rest := [.int r1.1.1]) hx hb hml hown hts hK hnw hinj hl.1 lw_om32 rfl rfl z2 dl_1105 (Nat.le_of_ble_eq_true rfl) (Nat.le_of_ble_eq_true rfl) (Nat.le_of_ble_eq_true rfl) rfl hP1 hS1 hA (fun H2 locs2 hP2 hS2 => ?_)
  exact lv_icmp_eq (tgt := 1251) hx hb dl_1108 (by decide) (fun _ => hgo _ hI2 H2 locs2 lc hP2 hS2 hl) (fun z => absurd hrr z)

theorem lw_oc33 : lw_ok 150 164 11 0 zt167 := ⟨rfl, zzckm_s (a := (5, 198)) (b := (1, 1)) (by decide +kernel), ⟨_, rfl, rfl⟩, zzh_in (q := (5, 196)) (by decide +kernel), zzh_in (q := (5, 197)) (by decide +kernel), rfl, by decide +kernel, zzh_in (q := (5, 195)) (by decide +kernel)⟩
theorem lw_om33 : lw_ok 153 306 12 0 zt309 := ⟨rfl, zzckm_s (a := (9, 91)) (b := (1, 13)) (by decide +kernel), ⟨_, rfl, rfl⟩, zzh_in (q := (9, 89)) (by decide +kernel), zzh_in (q := (9, 90)) (by decide +kernel), rfl, by decide +kernel, zzh_in (q := (9, 88)) (by decide +kernel)⟩
set_option maxHeartbeats 400000 in
theorem lw_arm33 {p : Program} {l : Launch} {e : Env} {s : State} {m : MethodId} {below : List Frame} {meth : Method} {c : Code} {b L : Nat} {xs : Nat → Int32} (hL : L ≤ 3072) (C0 : lw_At p s m meth c b L xs) {D : va_G} {dA : Nat → ClassId} {ad : Nat → Nat} (hK : va_K D zzcl (zztys dA) s) (hnw : zznw s) (hinj : zzinj ad) (had : ∀ i, i < zzn → s.heap.size ≤ ad i) {Q : State → Prop} {N : Nat} {Inv Inv' : zzM → Prop} (hag : lw_agree N Inv Inv') {i : Nat} (hi : i + 6 ≤ L) (hgo : ∀ μ, Inv' μ → lw_L p l e s m below meth c b L xs D dA ad Q i 1251 μ) {μ : zzM} (hI : Inv μ) : lw_L p l e s m below meth c b L xs D dA ad Q i 1113 μ := by
  intro H locs lc hP hS hl
  obtain ⟨hx, hb, hr, hml, hown, hts0, hX, hbl, hlocks, hgv⟩ := id C0
  have hts : ∀ w ∈ zzTb, w.before #[Value.ref b] s = true := fun w hw => hts0 w (zzTb_in hw).1
  have hbA : ¬ (fun q : Nat => s.heap.size ≤ q) b := Nat.not_le.mpr hbl
  have hA : ∀ q, zzA ad s.heap.size q → (fun q : Nat => s.heap.size ≤ q) q := fun q hq => hq.elim (fun ⟨j, hj, e⟩ => by rw [e]; exact had j hj) id
  obtain ⟨r1, r2, z1, z2, hrr, hI2⟩ := hag μ hI 33 _ rfl (xs (i + 1)) (xs (i + 2)) (xs (i + 3)) (xs (i + 4)) (xs (i + 5))
  refine lv_aload_n hx hb dl_1113 rfl (lv_at hl 2 rfl) ?_
  refine lw_call (as := lw_zargs 0 (xs (i + 1)) (xs (i + 2)) (xs (i + 3)) (xs (i + 4)) (xs (i + 5))) (rest := []) hx hb hml hown hts hK hnw hinj hl.1 lw_oc33 rfl rfl z1 dl_1114 (Nat.le_of_ble_eq_true rfl) (Nat.le_of_ble_eq_true rfl) (Nat.le_of_ble_eq_true rfl) rfl hP hS hA (fun H1 locs1 hP1 hS1 => ?_)
  refine lv_aload_n hx hb dl_1117 rfl (lv_at hl 1 rfl) ?_
  refine lw_call (as := lw_zargs 0 (xs (i + 1)) (xs (i + 2)) (xs (i + 3)) (xs (i + 4)) (xs (i + 5))) (rest := [.int r1.1.1]) hx hb hml hown hts hK hnw hinj hl.1 lw_om33 rfl rfl z2 dl_1118 (Nat.le_of_ble_eq_true rfl) (Nat.le_of_ble_eq_true rfl) (Nat.le_of_ble_eq_true rfl) rfl hP1 hS1 hA (fun H2 locs2 hP2 hS2 => ?_)
  exact lv_icmp_eq (tgt := 1251) hx hb dl_1121 (by decide) (fun _ => hgo _ hI2 H2 locs2 lc hP2 hS2 hl) (fun z => absurd hrr z)

theorem lw_oc34 : lw_ok 154 165 11 1 zt168 := ⟨rfl, zzckm_s (a := (5, 237)) (b := (1, 1)) (by decide +kernel), ⟨_, rfl, rfl⟩, zzh_in (q := (5, 235)) (by decide +kernel), zzh_in (q := (5, 236)) (by decide +kernel), rfl, by decide +kernel, zzh_in (q := (5, 234)) (by decide +kernel)⟩
theorem lw_om34 : lw_ok 157 307 12 1 zt310 := ⟨rfl, zzckm_s (a := (9, 107)) (b := (1, 13)) (by decide +kernel), ⟨_, rfl, rfl⟩, zzh_in (q := (9, 105)) (by decide +kernel), zzh_in (q := (9, 106)) (by decide +kernel), rfl, by decide +kernel, zzh_in (q := (9, 104)) (by decide +kernel)⟩
set_option maxHeartbeats 400000 in
theorem lw_arm34 {p : Program} {l : Launch} {e : Env} {s : State} {m : MethodId} {below : List Frame} {meth : Method} {c : Code} {b L : Nat} {xs : Nat → Int32} (hL : L ≤ 3072) (C0 : lw_At p s m meth c b L xs) {D : va_G} {dA : Nat → ClassId} {ad : Nat → Nat} (hK : va_K D zzcl (zztys dA) s) (hnw : zznw s) (hinj : zzinj ad) (had : ∀ i, i < zzn → s.heap.size ≤ ad i) {Q : State → Prop} {N : Nat} {Inv Inv' : zzM → Prop} (hag : lw_agree N Inv Inv') {i : Nat} (hi : i + 6 ≤ L) (hgo : ∀ μ, Inv' μ → lw_L p l e s m below meth c b L xs D dA ad Q i 1251 μ) {μ : zzM} (hI : Inv μ) : lw_L p l e s m below meth c b L xs D dA ad Q i 1126 μ := by
  intro H locs lc hP hS hl
  obtain ⟨hx, hb, hr, hml, hown, hts0, hX, hbl, hlocks, hgv⟩ := id C0
  have hts : ∀ w ∈ zzTb, w.before #[Value.ref b] s = true := fun w hw => hts0 w (zzTb_in hw).1
  have hbA : ¬ (fun q : Nat => s.heap.size ≤ q) b := Nat.not_le.mpr hbl
  have hA : ∀ q, zzA ad s.heap.size q → (fun q : Nat => s.heap.size ≤ q) q := fun q hq => hq.elim (fun ⟨j, hj, e⟩ => by rw [e]; exact had j hj) id
  obtain ⟨r1, r2, z1, z2, hrr, hI2⟩ := hag μ hI 34 _ rfl (xs (i + 1)) (xs (i + 2)) (xs (i + 3)) (xs (i + 4)) (xs (i + 5))
  refine lv_aload_n hx hb dl_1126 rfl (lv_at hl 2 rfl) ?_
  refine lw_push (j := 1) hx hb hX hbl hbA hS hl rfl rfl (by omega) hL (by decide) dl_1127 dl_1128 dl_1129 dl_1130 dl_1131 ?_
  refine lw_call (as := lw_zargs 1 (xs (i + 1)) (xs (i + 2)) (xs (i + 3)) (xs (i + 4)) (xs (i + 5))) (rest := []) hx hb hml hown hts hK hnw hinj hl.1 lw_oc34 rfl rfl z1 dl_1132 (Nat.le_of_ble_eq_true rfl) (Nat.le_of_ble_eq_true rfl) (Nat.le_of_ble_eq_true rfl) rfl hP hS hA (fun H1 locs1 hP1 hS1 => ?_)
  refine lv_aload_n hx hb dl_1135 rfl (lv_at hl 1 rfl) ?_
  refine lw_push (j := 1) hx hb hX hbl hbA hS1 hl rfl rfl (by omega) hL (by decide) dl_1136 dl_1137 dl_1138 dl_1139 dl_1140 ?_
  refine lw_call (as := lw_zargs 1 (xs (i + 1)) (xs (i + 2)) (xs (i + 3)) (xs (i + 4)) (xs (i + 5))) (rest := [.int r1.1.1]) hx hb hml hown hts hK hnw hinj hl.1 lw_om34 rfl rfl z2 dl_1141 (Nat.le_of_ble_eq_true rfl) (Nat.le_of_ble_eq_true rfl) (Nat.le_of_ble_eq_true rfl) rfl hP1 hS1 hA (fun H2 locs2 hP2 hS2 => ?_)
  exact lv_icmp_eq (tgt := 1251) hx hb dl_1144 (by decide) (fun _ => hgo _ hI2 H2 locs2 lc hP2 hS2 hl) (fun z => absurd hrr z)

theorem lw_oc35 : lw_ok 158 166 11 2 zt169 := ⟨rfl, zzckm_s (a := (6, 1)) (b := (1, 1)) (by decide +kernel), ⟨_, rfl, rfl⟩, zzh_in (q := (5, 239)) (by decide +kernel), zzh_in (q := (6, 0)) (by decide +kernel), rfl, by decide +kernel, zzh_in (q := (5, 238)) (by decide +kernel)⟩
theorem lw_om35 : lw_ok 161 314 12 2 zt317 := ⟨rfl, zzckm_s (a := (9, 111)) (b := (1, 13)) (by decide +kernel), ⟨_, rfl, rfl⟩, zzh_in (q := (9, 109)) (by decide +kernel), zzh_in (q := (9, 110)) (by decide +kernel), rfl, by decide +kernel, zzh_in (q := (9, 108)) (by decide +kernel)⟩
set_option maxHeartbeats 400000 in
theorem lw_arm35 {p : Program} {l : Launch} {e : Env} {s : State} {m : MethodId} {below : List Frame} {meth : Method} {c : Code} {b L : Nat} {xs : Nat → Int32} (hL : L ≤ 3072) (C0 : lw_At p s m meth c b L xs) {D : va_G} {dA : Nat → ClassId} {ad : Nat → Nat} (hK : va_K D zzcl (zztys dA) s) (hnw : zznw s) (hinj : zzinj ad) (had : ∀ i, i < zzn → s.heap.size ≤ ad i) {Q : State → Prop} {N : Nat} {Inv Inv' : zzM → Prop} (hag : lw_agree N Inv Inv') {i : Nat} (hi : i + 6 ≤ L) (hgo : ∀ μ, Inv' μ → lw_L p l e s m below meth c b L xs D dA ad Q i 1251 μ) {μ : zzM} (hI : Inv μ) : lw_L p l e s m below meth c b L xs D dA ad Q i 1149 μ := by
  intro H locs lc hP hS hl
  obtain ⟨hx, hb, hr, hml, hown, hts0, hX, hbl, hlocks, hgv⟩ := id C0
  have hts : ∀ w ∈ zzTb, w.before #[Value.ref b] s = true := fun w hw => hts0 w (zzTb_in hw).1
  have hbA : ¬ (fun q : Nat => s.heap.size ≤ q) b := Nat.not_le.mpr hbl
  have hA : ∀ q, zzA ad s.heap.size q → (fun q : Nat => s.heap.size ≤ q) q := fun q hq => hq.elim (fun ⟨j, hj, e⟩ => by rw [e]; exact had j hj) id
  obtain ⟨r1, r2, z1, z2, hrr, hI2⟩ := hag μ hI 35 _ rfl (xs (i + 1)) (xs (i + 2)) (xs (i + 3)) (xs (i + 4)) (xs (i + 5))
  refine lv_aload_n hx hb dl_1149 rfl (lv_at hl 2 rfl) ?_
  refine lw_push (j := 1) hx hb hX hbl hbA hS hl rfl rfl (by omega) hL (by decide) dl_1150 dl_1151 dl_1152 dl_1153 dl_1154 ?_
  refine lw_push (j := 2) hx hb hX hbl hbA hS hl rfl rfl (by omega) hL (by decide) dl_1155 dl_1156 dl_1157 dl_1158 dl_1159 ?_
  refine lw_call (as := lw_zargs 2 (xs (i + 1)) (xs (i + 2)) (xs (i + 3)) (xs (i + 4)) (xs (i + 5))) (rest := []) hx hb hml hown hts hK hnw hinj hl.1 lw_oc35 rfl rfl z1 dl_1160 (Nat.le_of_ble_eq_true rfl) (Nat.le_of_ble_eq_true rfl) (Nat.le_of_ble_eq_true rfl) rfl hP hS hA (fun H1 locs1 hP1 hS1 => ?_)
  refine lv_aload_n hx hb dl_1163 rfl (lv_at hl 1 rfl) ?_
  refine lw_push (j := 1) hx hb hX hbl hbA hS1 hl rfl rfl (by omega) hL (by decide) dl_1164 dl_1165 dl_1166 dl_1167 dl_1168 ?_
  refine lw_push (j := 2) hx hb hX hbl hbA hS1 hl rfl rfl (by omega) hL (by decide) dl_1169 dl_1170 dl_1171 dl_1172 dl_1173 ?_
  refine lw_call (as := lw_zargs 2 (xs (i + 1)) (xs (i + 2)) (xs (i + 3)) (xs (i + 4)) (xs (i + 5))) (rest := [.int r1.1.1]) hx hb hml hown hts hK hnw hinj hl.1 lw_om35 rfl rfl z2 dl_1174 (Nat.le_of_ble_eq_true rfl) (Nat.le_of_ble_eq_true rfl) (Nat.le_of_ble_eq_true rfl) rfl hP1 hS1 hA (fun H2 locs2 hP2 hS2 => ?_)
  exact lv_icmp_eq (tgt := 1251) hx hb dl_1177 (by decide) (fun _ => hgo _ hI2 H2 locs2 lc hP2 hS2 hl) (fun z => absurd hrr z)

theorem lw_oc36 : lw_ok 162 167 11 1 zt170 := ⟨rfl, zzckm_s (a := (6, 36)) (b := (1, 1)) (by decide +kernel), ⟨_, rfl, rfl⟩, zzh_in (q := (6, 34)) (by decide +kernel), zzh_in (q := (6, 35)) (by decide +kernel), rfl, by decide +kernel, zzh_in (q := (6, 33)) (by decide +kernel)⟩
theorem lw_om36 : lw_ok 165 315 12 1 zt318 := ⟨rfl, zzckm_s (a := (9, 145)) (b := (1, 13)) (by decide +kernel), ⟨_, rfl, rfl⟩, zzh_in (q := (9, 143)) (by decide +kernel), zzh_in (q := (9, 144)) (by decide +kernel), rfl, by decide +kernel, zzh_in (q := (9, 142)) (by decide +kernel)⟩
set_option maxHeartbeats 400000 in
theorem lw_arm36 {p : Program} {l : Launch} {e : Env} {s : State} {m : MethodId} {below : List Frame} {meth : Method} {c : Code} {b L : Nat} {xs : Nat → Int32} (hL : L ≤ 3072) (C0 : lw_At p s m meth c b L xs) {D : va_G} {dA : Nat → ClassId} {ad : Nat → Nat} (hK : va_K D zzcl (zztys dA) s) (hnw : zznw s) (hinj : zzinj ad) (had : ∀ i, i < zzn → s.heap.size ≤ ad i) {Q : State → Prop} {N : Nat} {Inv Inv' : zzM → Prop} (hag : lw_agree N Inv Inv') {i : Nat} (hi : i + 6 ≤ L) (hgo : ∀ μ, Inv' μ → lw_L p l e s m below meth c b L xs D dA ad Q i 1251 μ) {μ : zzM} (hI : Inv μ) : lw_L p l e s m below meth c b L xs D dA ad Q i 1182 μ := by
  intro H locs lc hP hS hl
  obtain ⟨hx, hb, hr, hml, hown, hts0, hX, hbl, hlocks, hgv⟩ := id C0
  have hts : ∀ w ∈ zzTb, w.before #[Value.ref b] s = true := fun w hw => hts0 w (zzTb_in hw).1
  have hbA : ¬ (fun q : Nat => s.heap.size ≤ q) b := Nat.not_le.mpr hbl
  have hA : ∀ q, zzA ad s.heap.size q → (fun q : Nat => s.heap.size ≤ q) q := fun q hq => hq.elim (fun ⟨j, hj, e⟩ => by rw [e]; exact had j hj) id
  obtain ⟨r1, r2, z1, z2, hrr, hI2⟩ := hag μ hI 36 _ rfl (xs (i + 1)) (xs (i + 2)) (xs (i + 3)) (xs (i + 4)) (xs (i + 5))
  refine lv_aload_n hx hb dl_1182 rfl (lv_at hl 2 rfl) ?_
  refine lw_push (j := 1) hx hb hX hbl hbA hS hl rfl rfl (by omega) hL (by decide) dl_1183 dl_1184 dl_1185 dl_1186 dl_1187 ?_
  refine lw_call (as := lw_zargs 1 (xs (i + 1)) (xs (i + 2)) (xs (i + 3)) (xs (i + 4)) (xs (i + 5))) (rest := []) hx hb hml hown hts hK hnw hinj hl.1 lw_oc36 rfl rfl z1 dl_1188 (Nat.le_of_ble_eq_true rfl) (Nat.le_of_ble_eq_true rfl) (Nat.le_of_ble_eq_true rfl) rfl hP hS hA (fun H1 locs1 hP1 hS1 => ?_)
  refine lv_aload_n hx hb dl_1191 rfl (lv_at hl 1 rfl) ?_
  refine lw_push (j := 1) hx hb hX hbl hbA hS1 hl rfl rfl (by omega) hL (by decide) dl_1192 dl_1193 dl_1194 dl_1195 dl_1196 ?_
  refine lw_call (as := lw_zargs 1 (xs (i + 1)) (xs (i + 2)) (xs (i + 3)) (xs (i + 4)) (xs (i + 5))) (rest := [.int r1.1.1]) hx hb hml hown hts hK hnw hinj hl.1 lw_om36 rfl rfl z2 dl_1197 (Nat.le_of_ble_eq_true rfl) (Nat.le_of_ble_eq_true rfl) (Nat.le_of_ble_eq_true rfl) rfl hP1 hS1 hA (fun H2 locs2 hP2 hS2 => ?_)
  exact lv_icmp_eq (tgt := 1251) hx hb dl_1200 (by decide) (fun _ => hgo _ hI2 H2 locs2 lc hP2 hS2 hl) (fun z => absurd hrr z)

theorem lw_oc37 : lw_ok 166 168 11 1 zt171 := ⟨rfl, zzckm_s (a := (6, 40)) (b := (1, 1)) (by decide +kernel), ⟨_, rfl, rfl⟩, zzh_in (q := (6, 38)) (by decide +kernel), zzh_in (q := (6, 39)) (by decide +kernel), rfl, by decide +kernel, zzh_in (q := (6, 37)) (by decide +kernel)⟩
theorem lw_om37 : lw_ok 169 318 12 1 zt321 := ⟨rfl, zzckm_s (a := (9, 149)) (b := (1, 13)) (by decide +kernel), ⟨_, rfl, rfl⟩, zzh_in (q := (9, 147)) (by decide +kernel), zzh_in (q := (9, 148)) (by decide +kernel), rfl, by decide +kernel, zzh_in (q := (9, 146)) (by decide +kernel)⟩
set_option maxHeartbeats 400000 in
theorem lw_arm37 {p : Program} {l : Launch} {e : Env} {s : State} {m : MethodId} {below : List Frame} {meth : Method} {c : Code} {b L : Nat} {xs : Nat → Int32} (hL : L ≤ 3072) (C0 : lw_At p s m meth c b L xs) {D : va_G} {dA : Nat → ClassId} {ad : Nat → Nat} (hK : va_K D zzcl (zztys dA) s) (hnw : zznw s) (hinj : zzinj ad) (had : ∀ i, i < zzn → s.heap.size ≤ ad i) {Q : State → Prop} {N : Nat} {Inv Inv' : zzM → Prop} (hag : lw_agree N Inv Inv') {i : Nat} (hi : i + 6 ≤ L) (hgo : ∀ μ, Inv' μ → lw_L p l e s m below meth c b L xs D dA ad Q i 1251 μ) {μ : zzM} (hI : Inv μ) : lw_L p l e s m below meth c b L xs D dA ad Q i 1205 μ := by
  intro H locs lc hP hS hl
  obtain ⟨hx, hb, hr, hml, hown, hts0, hX, hbl, hlocks, hgv⟩ := id C0
  have hts : ∀ w ∈ zzTb, w.before #[Value.ref b] s = true := fun w hw => hts0 w (zzTb_in hw).1
  have hbA : ¬ (fun q : Nat => s.heap.size ≤ q) b := Nat.not_le.mpr hbl
  have hA : ∀ q, zzA ad s.heap.size q → (fun q : Nat => s.heap.size ≤ q) q := fun q hq => hq.elim (fun ⟨j, hj, e⟩ => by rw [e]; exact had j hj) id
  obtain ⟨r1, r2, z1, z2, hrr, hI2⟩ := hag μ hI 37 _ rfl (xs (i + 1)) (xs (i + 2)) (xs (i + 3)) (xs (i + 4)) (xs (i + 5))
  refine lv_aload_n hx hb dl_1205 rfl (lv_at hl 2 rfl) ?_
  refine lw_push (j := 1) hx hb hX hbl hbA hS hl rfl rfl (by omega) hL (by decide) dl_1206 dl_1207 dl_1208 dl_1209 dl_1210 ?_
  refine lw_call (as := lw_zargs 1 (xs (i + 1)) (xs (i + 2)) (xs (i + 3)) (xs (i + 4)) (xs (i + 5))) (rest := []) hx hb hml hown hts hK hnw hinj hl.1 lw_oc37 rfl rfl z1 dl_1211 (Nat.le_of_ble_eq_true rfl) (Nat.le_of_ble_eq_true rfl) (Nat.le_of_ble_eq_true rfl) rfl hP hS hA (fun H1 locs1 hP1 hS1 => ?_)
  refine lv_aload_n hx hb dl_1214 rfl (lv_at hl 1 rfl) ?_
  refine lw_push (j := 1) hx hb hX hbl hbA hS1 hl rfl rfl (by omega) hL (by decide) dl_1215 dl_1216 dl_1217 dl_1218 dl_1219 ?_
  refine lw_call (as := lw_zargs 1 (xs (i + 1)) (xs (i + 2)) (xs (i + 3)) (xs (i + 4)) (xs (i + 5))) (rest := [.int r1.1.1]) hx hb hml hown hts hK hnw hinj hl.1 lw_om37 rfl rfl z2 dl_1220 (Nat.le_of_ble_eq_true rfl) (Nat.le_of_ble_eq_true rfl) (Nat.le_of_ble_eq_true rfl) rfl hP1 hS1 hA (fun H2 locs2 hP2 hS2 => ?_)
  exact lv_icmp_eq (tgt := 1251) hx hb dl_1223 (by decide) (fun _ => hgo _ hI2 H2 locs2 lc hP2 hS2 hl) (fun z => absurd hrr z)

theorem lw_oc38 : lw_ok 170 169 11 1 zt172 := ⟨rfl, zzckm_s (a := (6, 48)) (b := (1, 1)) (by decide +kernel), ⟨_, rfl, rfl⟩, zzh_in (q := (6, 46)) (by decide +kernel), zzh_in (q := (6, 47)) (by decide +kernel), rfl, by decide +kernel, zzh_in (q := (6, 45)) (by decide +kernel)⟩
theorem lw_om38 : lw_ok 173 319 12 1 zt322 := ⟨rfl, zzckm_s (a := (9, 161)) (b := (1, 13)) (by decide +kernel), ⟨_, rfl, rfl⟩, zzh_in (q := (9, 159)) (by decide +kernel), zzh_in (q := (9, 160)) (by decide +kernel), rfl, by decide +kernel, zzh_in (q := (9, 158)) (by decide +kernel)⟩
set_option maxHeartbeats 400000 in
theorem lw_arm38 {p : Program} {l : Launch} {e : Env} {s : State} {m : MethodId} {below : List Frame} {meth : Method} {c : Code} {b L : Nat} {xs : Nat → Int32} (hL : L ≤ 3072) (C0 : lw_At p s m meth c b L xs) {D : va_G} {dA : Nat → ClassId} {ad : Nat → Nat} (hK : va_K D zzcl (zztys dA) s) (hnw : zznw s) (hinj : zzinj ad) (had : ∀ i, i < zzn → s.heap.size ≤ ad i) {Q : State → Prop} {N : Nat} {Inv Inv' : zzM → Prop} (hag : lw_agree N Inv Inv') {i : Nat} (hi : i + 6 ≤ L) (hgo : ∀ μ, Inv' μ → lw_L p l e s m below meth c b L xs D dA ad Q i 1251 μ) {μ : zzM} (hI : Inv μ) : lw_L p l e s m below meth c b L xs D dA ad Q i 1228 μ := by
  intro H locs lc hP hS hl
  obtain ⟨hx, hb, hr, hml, hown, hts0, hX, hbl, hlocks, hgv⟩ := id C0
  have hts : ∀ w ∈ zzTb, w.before #[Value.ref b] s = true := fun w hw => hts0 w (zzTb_in hw).1
  have hbA : ¬ (fun q : Nat => s.heap.size ≤ q) b := Nat.not_le.mpr hbl
  have hA : ∀ q, zzA ad s.heap.size q → (fun q : Nat => s.heap.size ≤ q) q := fun q hq => hq.elim (fun ⟨j, hj, e⟩ => by rw [e]; exact had j hj) id
  obtain ⟨r1, r2, z1, z2, hrr, hI2⟩ := hag μ hI 38 _ rfl (xs (i + 1)) (xs (i + 2)) (xs (i + 3)) (xs (i + 4)) (xs (i + 5))
  refine lv_aload_n hx hb dl_1228 rfl (lv_at hl 2 rfl) ?_
  refine lw_push (j := 1) hx hb hX hbl hbA hS hl rfl rfl (by omega) hL (by decide) dl_1229 dl_1230 dl_1231 dl_1232 dl_1233 ?_
  refine lw_call (as := lw_zargs 1 (xs (i + 1)) (xs (i + 2)) (xs (i + 3)) (xs (i + 4)) (xs (i + 5))) (rest := []) hx hb hml hown hts hK hnw hinj hl.1 lw_oc38 rfl rfl z1 dl_1234 (Nat.le_of_ble_eq_true rfl) (Nat.le_of_ble_eq_true rfl) (Nat.le_of_ble_eq_true rfl) rfl hP hS hA (fun H1 locs1 hP1 hS1 => ?_)
  refine lv_aload_n hx hb dl_1237 rfl (lv_at hl 1 rfl) ?_
  refine lw_push (j := 1) hx hb hX hbl hbA hS1 hl rfl rfl (by omega) hL (by decide) dl_1238 dl_1239 dl_1240 dl_1241 dl_1242 ?_
  refine lw_call (as := lw_zargs 1 (xs (i + 1)) (xs (i + 2)) (xs (i + 3)) (xs (i + 4)) (xs (i + 5))) (rest := [.int r1.1.1]) hx hb hml hown hts hK hnw hinj hl.1 lw_om38 rfl rfl z2 dl_1243 (Nat.le_of_ble_eq_true rfl) (Nat.le_of_ble_eq_true rfl) (Nat.le_of_ble_eq_true rfl) rfl hP1 hS1 hA (fun H2 locs2 hP2 hS2 => ?_)
  exact lv_icmp_eq (tgt := 1251) hx hb dl_1246 (by decide) (fun _ => hgo _ hI2 H2 locs2 lc hP2 hS2 hl) (fun z => absurd hrr z)

