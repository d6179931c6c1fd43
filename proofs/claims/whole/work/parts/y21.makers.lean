/-! EVERY CONSTRUCTOR's CONTRACT -/
def zbrow (P : List zbT) (own : String) (nL : Nat) (cc : ByteArray) (q : zzI) : Prop := decode cc q.1 = .ok (q.2.2.1, q.2.1) ∧ zbwd P own nL q.2.1 q.1 q.2.2.1 q.2.2.2
theorem zzdrop_in {t : Nat} {r : List zzI} {q : zzI} {r' : List zzI} (h : zzdrop t r = q :: r') : q.1 = t ∧ q ∈ r := ⟨(zzdrop_s t r q r' h).1, (zzdrop_s t r q r' h).2.1 q List.mem_cons_self⟩
section
variable {p : Program} {l : Launch} {e : Env} {R : Room} {s : State} {m : MethodId} {args : Array Value} {below : List Frame} {meth : Method} {c : Code} {Q : State → Prop} {D : va_G} {A : Nat → Prop} {nL : Nat} {cc : ByteArray} {own : String} {P : List zbT}
theorem zbx_ok {h' h0 : zbH} {dA0 : Nat → ClassId} {ad0 : Nat → Nat} {lim : Nat × Nat} (hX : zbX p s m args meth c cc own nL A) (hQ : Q = MQ below (zbQ D h0 dA0 ad0 A h') args s lim.1 lim.2 A) (hR : R.cells = lim.1 ∧ R.slots = lim.2 ∧ 1 ≤ R.frames ∧ 40 ≤ R.locals) {call : Nat → List Value → zbH → Option zbH} (hcall : zbCl l D P R call) {rows : List zzI} (hrows : ∀ q ∈ rows, zbrow P own nL cc q) : ∀ (f pc : Nat) (ls : zzL) (st : List Value) (h : zbH) (cs ss : Nat), zbx P call lim rows f pc ls st h cs ss = some h' → zbW p l e R s m args below meth c Q D A nL h0 dA0 ad0 pc ls st h cs ss := by
  intro f
  induction f with
  | zero => intro pc ls st h cs ss hz; cases hz
  | succ f ih =>
    intro pc ls st h cs ss hz
    have hm : (match zzdrop pc rows with
      | [] => none
      | q :: _ => zbstep P call lim q ls st h cs ss (zbx P call lim rows f)) = some h' := hz
    cases hd : zzdrop pc rows with
    | nil => rw [hd] at hm; cases hm
    | cons q r' =>
      rw [hd] at hm
      obtain ⟨h1, h2⟩ := zzdrop_in hd
      obtain ⟨pc', len, i, aux⟩ := q
      have h1 : pc' = pc := h1
      subst h1
      obtain ⟨hdg, hw⟩ := hrows _ h2
      exact zbstep_ok hX hQ hR hcall hdg hw hm ih
end
def zbmg (P : List zbT) (q : zbT) : Prop := plainName q.1.cls = true ∧ q.1.name = "<init>" ∧ ∀ r ∈ q.2.2.2.2, zbrow P q.1.cls q.2.2.1 q.2.1 r
theorem zbf_one (l : Launch) (D : va_G) {P : List zbT} (hg : ∀ q ∈ P, zbmg P q) {d y : Nat} {as : List Value} {h h' : zbH} {q : zbT} (hcl : zbCl l D P (zbroom d q.2.2.2.1) (zbf P d)) (hz : zbf P (d + 1) (y + 1) as h = some h') (hq : P[y]? = some q) : zbMet l D d q as h h' := by
  intro dA ad sz
  obtain ⟨hpl, hnm, hrows⟩ := hg q (List.mem_of_getElem? hq)
  have hz : (match P[y]? with
      | some q => bif (zzcat as).ble q.2.2.1 then zbx P (zbf P d) q.2.2.2.1 q.2.2.2.2 600 0 (lv_args 0 as) [] h 0 0 else none
      | none => none) = some h' := hz
  rw [hq] at hz
  have hz : (bif (zzcat as).ble q.2.2.1 then zbx P (zbf P d) q.2.2.2.1 q.2.2.2.2 600 0 (lv_args 0 as) [] h 0 0 else none) = some h' := hz
  cases hb : (zzcat as).ble q.2.2.1 with
  | false => rw [hb] at hz; cases hz
  | true =>
    rw [hb] at hz
    have hz : zbx P (zbf P d) q.2.2.2.1 q.2.2.2.2 600 0 (lv_args 0 as) [] h 0 0 = some h' := hz
    refine Met.ofW (cc := q.2.1) (maxL := q.2.2.1) (ret := none) hpl rfl ?_
    intro p e s m args below meth c s₁ B hml hv
    obtain ⟨rfl, hsz, hP, hD, hK, hN⟩ := hv
    subst hsz
    have hts := atoms_spec (ws := Cond.code q.1 q.2.1 q.2.2.1 none :: zzTb) B.pre
    have hX : zbX p s m (as.map (zzcv ad)).toArray meth c q.2.1 q.1.cls q.2.2.1 (zbA ad h.length s.heap.size) := ⟨B.exec, B.bytes, hml, findClass_of_methodNamed B.named, fun w hw => hts w (List.mem_cons_of_mem _ hw), hN, fun q hq => Or.inr hq, B.notSynchronized, B.returns, (name_of_methodNamed B.named B.method).1.trans hnm⟩
    have hDA : va_D (zbA ad h.length s.heap.size) (zbw dA ad h) := ⟨hD.1, fun k x hx => by
      unfold zbw at hx
      rw [List.getElem?_mapIdx] at hx
      cases hk : h[k]? with
      | none => rw [hk] at hx; cases hx
      | some e1 =>
        rw [hk] at hx
        cases hx
        exact Or.inl ⟨k, (List.getElem?_eq_some_iff.mp hk).1, rfl⟩⟩
    have key := zbx_ok (below := below) (e := e) (R := zbroom d q.2.2.2.1) (h0 := h) (dA0 := dA) (ad0 := ad) (D := D) hX rfl ⟨rfl, rfl, Nat.le_add_left _ _, by show 40 ≤ 40 * (d + 1); omega⟩ hcl hrows 600 0 (lv_args 0 as) [] h 0 0 hz
    rw [lg_entry_eq]
    have hl := lv_entry (as.map (zzcv ad)) (n := q.2.2.1) (by rw [zzsl_len]; exact Nat.le_of_ble_eq_true hb)
    rw [zzargs_map] at hl
    exact key dA ad s.heap [] _ ⟨fun _ _ => rfl, fun _ _ => rfl, fun _ => rfl⟩ (Nat.le_refl _) (fun h => h) hP hDA hK va_S.rf hl
theorem zbf_ok (l : Launch) (D : va_G) {P : List zbT} (hg : ∀ q ∈ P, zbmg P q) : ∀ (d y : Nat) (as : List Value) (h h' : zbH), zbf P (d + 1) (y + 1) as h = some h' → ∀ q, P[y]? = some q → zbMet l D d q as h h' := by
  intro d
  induction d with
  | zero => exact fun y as h h' hz q hq => zbf_one l D hg (fun _ _ _ _ z => by cases z) hz hq
  | succ d ih => exact fun y as h h' hz q hq => zbf_one l D hg (fun y as h h' z q hq => ⟨d, rfl, rfl, ih y as h h' z q hq⟩) hz hq
/-! the constructors' rows, checked -/
def zbckc (P : List zbT) (own : String) (j : Nat) (aux ps : List (Nat × Nat)) : Bool := match (zzfst aux).1 with
  | 0 => zzh (zzg ps 0) (Cond.methodLink own j objectInit) && zzh (zzg ps 1) (Cond.instanceMethod objectInit) && zzh (zzg ps 2) (Cond.code objectInit ⟨#[0xb1]⟩ 1 none)
  | y + 1 => (match P[y]? with
    | some q => zzh (zzg ps 1) (Cond.code q.1 q.2.1 q.2.2.1 none) && zzh (zzg ps 2) (Cond.initialized q.1.cls) && zzh (zzg ps 3) (Cond.instanceMethod q.1) && decide (q.1.name = "<init>" ∧ q.1.cls ≠ "java/lang/invoke/MethodHandle" ∧ q.1.cls ≠ "java/lang/invoke/VarHandle" ∧ q.2.2.1 ≤ 21) && decide ((parseMethodDescriptor q.1.desc).map (fun d => d.parameters.length) = some (zzfst aux).2) && (match (zzg ps 4).1 with
      | 0 => zzh (zzg ps 0) (Cond.methodLink own j q.1)
      | _ => decide ((own, j, q.1) ∈ zbnest))
    | none => false)
theorem zbckc_s {P : List zbT} {own : String} {j : Nat} {aux ps : List (Nat × Nat)} (h : zbckc P own j aux ps = true) : (match (zzfst aux).1 with
    | 0 => Cond.methodLink own j objectInit ∈ zzTb ∧ Cond.instanceMethod objectInit ∈ zzTb ∧ Cond.code objectInit ⟨#[0xb1]⟩ 1 none ∈ zzTb
    | y + 1 => ∃ q, P[y]? = some q ∧ zbmw q ∧ (parseMethodDescriptor q.1.desc).map (fun d => d.parameters.length) = some (zzfst aux).2 ∧ (Cond.methodLink own j q.1 ∈ zzTb ∨ (own, j, q.1) ∈ zbnest)) := by
  unfold zbckc at h
  cases hy : (zzfst aux).1 with
  | zero =>
    simp only [hy, Bool.and_eq_true] at h
    exact ⟨zzh_in h.1.1, zzh_in h.1.2, zzh_in h.2⟩
  | succ y =>
    simp only [hy] at h
    cases hq : P[y]? with
    | none => simp only [hq] at h; cases h
    | some q =>
      simp only [hq, Bool.and_eq_true, decide_eq_true_eq] at h
      refine ⟨q, hq, ⟨zzh_in h.1.1.1.1.1, zzh_in h.1.1.1.1.2, zzh_in h.1.1.1.2, h.1.1.2⟩, h.1.2, ?_⟩
      have h2 := h.2
      split at h2
      · exact Or.inl (zzh_in h2)
      · exact Or.inr (of_decide_eq_true h2)
def zbckn (own : String) (j : Nat) (a : Nat × Nat) (ps : List (Nat × Nat)) : Bool := match zzcl[a.1]? with
  | some r => decide (a.2 = r.2.2) && zzh (zzg ps 0) (Cond.classLink own j r.1) && zzh (zzg ps 1) (Cond.instantiable r.1 r.2.2) && zzh (zzg ps 2) (Cond.initialized r.1)
  | none => false
theorem zbckn_s {own : String} {j : Nat} {a : Nat × Nat} {ps : List (Nat × Nat)} (h : zbckn own j a ps = true) : ∃ r, zzcl[a.1]? = some r ∧ a.2 = r.2.2 ∧ Cond.classLink own j r.1 ∈ zzTb ∧ Cond.instantiable r.1 r.2.2 ∈ zzTb ∧ Cond.initialized r.1 ∈ zzTb := by
  unfold zbckn at h
  split at h
  · rename_i r hr
    simp only [Bool.and_eq_true, decide_eq_true_eq] at h
    exact ⟨r, hr, h.1.1.1, zzh_in h.1.1.2, zzh_in h.1.2, zzh_in h.2⟩
  · cases h
def zbckp (own : String) (j : Nat) (a q : Nat × Nat) : Bool := match zzcl[a.1]? with
  | some r => decide (a.2 < r.2.2) && zzh q (Cond.fieldLink own j (r.2.1 a.2).1 (r.2.1 a.2).2.1 (r.2.1 a.2).2.2.1) && decide ((r.2.1 a.2).1 = own)
  | none => false
theorem zbckp_s {own : String} {j : Nat} {a q : Nat × Nat} (h : zbckp own j a q = true) : ∃ r, zzcl[a.1]? = some r ∧ a.2 < r.2.2 ∧ Cond.fieldLink own j (r.2.1 a.2).1 (r.2.1 a.2).2.1 (r.2.1 a.2).2.2.1 ∈ zzTb ∧ (r.2.1 a.2).1 = own := by
  unfold zbckp at h
  split at h
  · rename_i r hr
    simp only [Bool.and_eq_true, decide_eq_true_eq] at h
    exact ⟨r, hr, h.1.1, zzh_in h.1.2, h.2⟩
  · cases h
def zbckw (P : List zbT) (own : String) (nL len pc : Nat) (i : Instr) (aux ps : List (Nat × Nat)) : Bool := match i with
  | .iconst n => len.beq 1 && decide (Int32.ofInt n = zzkon (zzfst aux))
  | .bipush n => len.beq 2 && decide ((Int8.ofInt n).toInt32 = zzkon (zzfst aux))
  | .sipush n => len.beq 3 && decide ((Int16.ofInt n).toInt32 = zzkon (zzfst aux))
  | .iload_n k => len.beq 1 && decide ((k : Nat) = (zzfst aux).1)
  | .aload_n k => len.beq 1 && decide ((k : Nat) = (zzfst aux).1)
  | .istore_n k => len.beq 1 && decide ((k : Nat) = (zzfst aux).1 ∧ (zzfst aux).1 < nL)
  | .iinc k n => len.beq 3 && decide (k < nL ∧ Int32.ofInt n = zzkon (zzfst aux))
  | .goto o => len.beq 3 && decide ((pc : Int) + o = ((zzfst aux).1 : Int))
  | .if_icmp cd o => len.beq 3 && decide ((pc : Int) + o = ((zzfst aux).1 : Int))
  | .getfield j => len.beq 3 && zzckf own j (zzfst aux) (zzg ps 0) false
  | .putfield j => len.beq 3 && zbckp own j (zzfst aux) (zzg ps 0)
  | .new j => len.beq 3 && zbckn own j (zzfst aux) ps
  | .newarray t => len.beq 2 && zzh (zzg ps 0) (Cond.arrayClass (newarray.typeOf t))
  | .anewarray j => len.beq 3 && zzh (zzg ps 0) (Cond.classLink own j "PackedForest$Setting")
  | .invokespecial j => len.beq 3 && zbckc P own j aux ps
  | _ => len.beq 1
theorem zbckw_s {P : List zbT} {own : String} {nL len pc : Nat} {aux ps : List (Nat × Nat)} : ∀ i : Instr, zbckw P own nL len pc i aux ps = true → zbwd P own nL len pc i aux := by
  intro i
  cases i with
  | iconst n => exact fun h => ⟨Nat.eq_of_beq_eq_true (Bool.and_eq_true_iff.mp h).1, of_decide_eq_true (Bool.and_eq_true_iff.mp h).2⟩
  | bipush n => exact fun h => ⟨Nat.eq_of_beq_eq_true (Bool.and_eq_true_iff.mp h).1, of_decide_eq_true (Bool.and_eq_true_iff.mp h).2⟩
  | sipush n => exact fun h => ⟨Nat.eq_of_beq_eq_true (Bool.and_eq_true_iff.mp h).1, of_decide_eq_true (Bool.and_eq_true_iff.mp h).2⟩
  | iload_n k => exact fun h => ⟨Nat.eq_of_beq_eq_true (Bool.and_eq_true_iff.mp h).1, of_decide_eq_true (Bool.and_eq_true_iff.mp h).2⟩
  | aload_n k => exact fun h => ⟨Nat.eq_of_beq_eq_true (Bool.and_eq_true_iff.mp h).1, of_decide_eq_true (Bool.and_eq_true_iff.mp h).2⟩
  | istore_n k => exact fun h => ⟨Nat.eq_of_beq_eq_true (Bool.and_eq_true_iff.mp h).1, of_decide_eq_true (Bool.and_eq_true_iff.mp h).2⟩
  | iinc k n => exact fun h => ⟨Nat.eq_of_beq_eq_true (Bool.and_eq_true_iff.mp h).1, of_decide_eq_true (Bool.and_eq_true_iff.mp h).2⟩
  | goto o => exact fun h => ⟨Nat.eq_of_beq_eq_true (Bool.and_eq_true_iff.mp h).1, of_decide_eq_true (Bool.and_eq_true_iff.mp h).2⟩
  | if_icmp cd o => exact fun h => ⟨Nat.eq_of_beq_eq_true (Bool.and_eq_true_iff.mp h).1, of_decide_eq_true (Bool.and_eq_true_iff.mp h).2⟩
  | getfield j => exact fun h => ⟨Nat.eq_of_beq_eq_true (Bool.and_eq_true_iff.mp h).1, (zzckf_s (Bool.and_eq_true_iff.mp h).2).imp fun r q => ⟨q.1, q.2.1, q.2.2.1⟩⟩
  | putfield j => exact fun h => ⟨Nat.eq_of_beq_eq_true (Bool.and_eq_true_iff.mp h).1, zbckp_s (Bool.and_eq_true_iff.mp h).2⟩
  | new j => exact fun h => ⟨Nat.eq_of_beq_eq_true (Bool.and_eq_true_iff.mp h).1, zbckn_s (Bool.and_eq_true_iff.mp h).2⟩
  | newarray t => exact fun h => ⟨Nat.eq_of_beq_eq_true (Bool.and_eq_true_iff.mp h).1, zzh_in (Bool.and_eq_true_iff.mp h).2⟩
  | anewarray j => exact fun h => ⟨Nat.eq_of_beq_eq_true (Bool.and_eq_true_iff.mp h).1, zzh_in (Bool.and_eq_true_iff.mp h).2⟩
  | invokespecial j => exact fun h => ⟨Nat.eq_of_beq_eq_true (Bool.and_eq_true_iff.mp h).1, zbckc_s (Bool.and_eq_true_iff.mp h).2⟩
  | _ => exact fun h => Nat.eq_of_beq_eq_true h
def zball (P : List zbT) (own : String) (nL : Nat) (cc : ByteArray) : List zzI → List (List (Nat × Nat)) → Bool
  | [], [] => true
  | q :: r, a :: ps => (decide (decode cc q.1 = .ok (q.2.2.1, q.2.1)) && zbckw P own nL q.2.1 q.1 q.2.2.1 q.2.2.2 a) && zball P own nL cc r ps
  | _, _ => false
theorem zball_s {P : List zbT} {own : String} {nL : Nat} {cc : ByteArray} : ∀ (rows : List zzI) (ps : List (List (Nat × Nat))), zball P own nL cc rows ps = true → ∀ r ∈ rows, zbrow P own nL cc r
  | [], _, _, r, hr => by cases hr
  | q :: r, [], h, _, _ => by cases h
  | q :: r, a :: ps, h, x, hx => by
    unfold zball at h
    simp only [Bool.and_eq_true, decide_eq_true_eq] at h
    rcases List.mem_cons.mp hx with rfl | hx
    · exact ⟨h.1.1, zbckw_s _ h.1.2⟩
    · exact zball_s r ps h.2 x hx
theorem zbmB_s {P : List zbT} {q : zbT} (ps : List (List (Nat × Nat))) (h : (plainName q.1.cls && decide (q.1.name = "<init>") && zball P q.1.cls q.2.2.1 q.2.1 q.2.2.2.2 ps) = true) : zbmg P q := by
  simp only [Bool.and_eq_true, decide_eq_true_eq] at h
  exact ⟨h.1.1, h.1.2, zball_s _ _ h.2⟩
theorem zbg1 : zbmg zbP zbt1 := zbmB_s [[], [(1, 37), (1, 24), (1, 25)], [], [], [(1, 100)], [(1, 51)], [], [], [(1, 100)], [(1, 59)], [], [], [(1, 100)], [(1, 70)], [], [], [(1, 100)], [(1, 73)], [], [], [(1, 100)], [(1, 76)], [], [], [(1, 100)], [(1, 77)], []] (by decide +kernel)
theorem zbg2 : zbmg zbP zbt2 := zbmB_s [[], [(1, 31), (1, 24), (1, 25)], [], [(1, 32), (1, 33), (1, 3)], [], [(1, 34), (1, 36), (1, 3), (1, 35), (1, 0)], [(1, 101)], [], [], [(1, 100)], [(1, 110)], [], [], [(1, 100)], [(1, 125)], [], [], [(1, 128)], [], [], [(1, 100)], [(1, 130)], []] (by decide +kernel)
theorem zbg3 : zbmg zbP zbt3 := zbmB_s [[], [(1, 169), (1, 24), (1, 25)], [], [], [(1, 100)], [(1, 183)], [], [], [(1, 100)], [(1, 185)], [], [], [(1, 100)], [(1, 187)], [], [], [(1, 100)], [(1, 189)], [], [], [(1, 170)], []] (by decide +kernel)
theorem zbg4 : zbmg zbP zbt4 := zbmB_s [[], [(1, 218), (1, 24), (1, 25)], [], [], [(2, 1)], [(1, 224)], [], [], [(1, 100)], [(1, 225)], [], [], [(2, 1)], [(1, 226)], [], [], [(2, 1)], [(1, 227)], []] (by decide +kernel)
theorem zbg5 : zbmg zbP zbt5 := zbmB_s [[], [(2, 7), (1, 24), (1, 25)], [], [], [(1, 100)], [(2, 12)], [], [], [(1, 100)], [(2, 13)], [], [], [(1, 100)], [(2, 14)], [], [], [(1, 100)], [(2, 15)], [], [], [(2, 8)], [], [], [(2, 9)], []] (by decide +kernel)
theorem zbg6 : zbmg zbP zbt6 := zbmB_s [[], [(2, 36), (1, 24), (1, 25)], [], [], [(2, 63)], [(2, 42)], [], [], [(1, 100)], [(2, 43)], [], [], [(1, 100)], [(2, 44)], [], [], [(2, 37)], [], [], [(2, 38)], [], [], [(2, 39)], []] (by decide +kernel)
theorem zbg7 : zbmg zbP zbt7 := zbmB_s [[], [(2, 69), (1, 24), (1, 25)], [], [], [(2, 1)], [(2, 74)], [], [], [(2, 1)], [(2, 75)], [], [], [(2, 70)], [], [], [(2, 71)], []] (by decide +kernel)
theorem zbg8 : zbmg zbP zbt8 := zbmB_s [[], [(2, 92), (1, 24), (1, 25)], [], [], [(2, 1)], [(2, 103)], [], [], [(2, 1)], [(2, 104)], [], [], [(2, 1)], [(2, 105)], [], [], [(2, 93)], [], [], [(2, 94)], []] (by decide +kernel)
theorem zbg9 : zbmg zbP zbt9 := zbmB_s [[], [(2, 130), (1, 24), (1, 25)], [], [], [(1, 100)], [(2, 136)], [], [], [(1, 100)], [(2, 144)], [], [], [(1, 100)], [(2, 145)], [], [], [(2, 131)], [], [], [(2, 132)], []] (by decide +kernel)
theorem zbg10 : zbmg zbP zbt10 := zbmB_s [[], [(2, 172), (1, 24), (1, 25)], [], [], [(1, 100)], [(2, 176)], [], [], [(1, 100)], [(2, 177)], [], [], [(2, 173)], []] (by decide +kernel)
theorem zbg11 : zbmg zbP zbt11 := zbmB_s [[], [(2, 192), (1, 24), (1, 25)], [], [], [(1, 100)], [(2, 194)], [], [], [(2, 193)], []] (by decide +kernel)
theorem zbg12 : zbmg zbP zbt12 := zbmB_s [[], [(1, 23), (1, 24), (1, 25)], [], [], [(1, 100)], [(2, 208)], [], [(1, 26), (1, 27), (1, 2)], [], [(1, 28), (1, 30), (1, 2), (1, 29), (1, 0)], [(2, 210)], [], [], [(1, 26)], [(2, 211)], [], [(1, 162), (1, 33), (1, 3)], [], [(1, 163), (1, 36), (1, 3), (1, 35), (1, 0)], [(2, 212)], [], [(1, 164), (1, 165), (1, 4)], [], [], [(2, 210)], [(1, 166), (1, 168), (1, 4), (1, 167), (0, 0)], [(2, 213)], [], [(1, 213), (1, 214), (1, 5)], [], [(1, 215), (1, 217), (1, 5), (1, 216), (1, 0)], [(2, 214)], [], [(2, 2), (2, 3), (1, 6)], [], [], [(2, 210)], [], [(2, 4), (2, 6), (1, 6), (2, 5), (0, 0)], [(2, 215)], [], [(2, 2), (2, 3), (1, 6)], [], [], [(2, 210)], [], [(2, 4), (2, 6), (1, 6), (2, 5), (0, 0)], [(2, 216)], [], [(2, 31), (2, 32), (1, 7)], [], [], [(2, 210)], [], [(2, 214)], [], [(2, 215)], [(2, 33), (2, 35), (1, 7), (2, 34), (0, 0)], [(2, 217)], [], [(2, 64), (2, 65), (1, 8)], [], [], [(2, 210)], [], [(2, 216)], [(2, 66), (2, 68), (1, 8), (2, 67), (0, 0)], [(2, 218)], [], [(2, 87), (2, 88), (1, 9)], [], [], [(2, 210)], [], [(2, 216)], [(2, 89), (2, 91), (1, 9), (2, 90), (0, 0)], [(2, 219)], [], [(2, 125), (2, 126), (1, 10)], [], [], [(2, 210)], [], [(2, 216)], [(2, 127), (2, 129), (1, 10), (2, 128), (0, 0)], [(2, 220)], [], [(2, 167), (2, 168), (1, 11)], [], [], [(2, 210)], [(2, 169), (2, 171), (1, 11), (2, 170), (0, 0)], [(2, 221)], [], [(2, 187), (2, 188), (1, 12)], [], [], [(2, 210)], [(2, 189), (2, 191), (1, 12), (2, 190), (0, 0)], [(2, 222)], [], [], [], [], [], [], [(2, 211)], [], [(1, 26), (1, 27), (1, 2)], [], [(1, 28), (1, 30), (1, 2), (1, 29), (1, 0)], [], [], [], []] (by decide +kernel)
theorem zbg13 : zbmg zbP zbt13 := zbmB_s [[], [(6, 54), (1, 24), (1, 25)], [], [], [(1, 100)], [], [], [], [], [], [], [], [], [], [], [], [], [], [], [], [], [], [], [], [], [], [], [], [], [], [], [], [], [(6, 55)], [], [], [(1, 100)], [(6, 56)], [], [], [(1, 100)], [(6, 57)], [], [], [(1, 100)], [(6, 58)], [], [], [(1, 100)], [(6, 59)], [], [], [(1, 100)], [(6, 60)], [], [], [(1, 100)], [(6, 61)], [], [], [(1, 100)], [(6, 62)], [], [], [(1, 100)], [(6, 63)], [], [], [(1, 100)], [(6, 64)], [], [], [(1, 100)], [(6, 65)], [], [], [(1, 100)], [(6, 66)], [], [], [(1, 100)], [(6, 67)], [], [], [(1, 100)], [(6, 68)], [], [], [(7, 31)], [(6, 73)], [], [], [(1, 100)], [(6, 74)], [], [], [(1, 100)], [(6, 75)], [], [], [(1, 100)], [(6, 76)], [], [], [(1, 100)], [(6, 77)], [], [], [(1, 100)], [(6, 78)], [], [], [(1, 100)], [(6, 79)], [], [], [(1, 100)], [(6, 84)], [], [], [(1, 100)], [(6, 85)], [], [], [(1, 100)], [(6, 86)], [], [], [(2, 1)], [(6, 87)], [], [], [(1, 100)], [(6, 88)], [], [], [(1, 100)], [(6, 91)], [], [], [(1, 100)], [(6, 92)], [], [], [(2, 63)], [(6, 96)], [], [], [(2, 63)], [(6, 97)], [], [], [(2, 63)], [(6, 98)], [], [], [(2, 63)], [(6, 99)], [], [], [(2, 63)], [(6, 100)], [], [], [(2, 1)], [(6, 101)], [], [], [(2, 1)], [(6, 102)], [], [], [(2, 63)], [(6, 103)], [], [], [(1, 100)], [(6, 104)], [], [], [(2, 63)], [(6, 105)], [], [], [(2, 63)], [(6, 106)], [], [], [(1, 100)], [(6, 107)], [], [], [(1, 100)], [(6, 112)], [], [], [(1, 100)], [(6, 113)], [], [], [(1, 100)], [(6, 118)], [], [], [(1, 100)], [(6, 119)], [], [], [(1, 100)], [(6, 120)], [], [], [(1, 100)], [(6, 122)], [], [], [(2, 63)], [(6, 123)], []] (by decide +kernel)
theorem zbmg_all : ∀ q ∈ zbP, zbmg zbP q := List.forall_mem_cons.mpr ⟨zbg1, List.forall_mem_cons.mpr ⟨zbg2, List.forall_mem_cons.mpr ⟨zbg3, List.forall_mem_cons.mpr ⟨zbg4, List.forall_mem_cons.mpr ⟨zbg5, List.forall_mem_cons.mpr ⟨zbg6, List.forall_mem_cons.mpr ⟨zbg7, List.forall_mem_cons.mpr ⟨zbg8, List.forall_mem_cons.mpr ⟨zbg9, List.forall_mem_cons.mpr ⟨zbg10, List.forall_mem_cons.mpr ⟨zbg11, List.forall_mem_cons.mpr ⟨zbg12, List.forall_mem_cons.mpr ⟨zbg13, fun _ h => absurd h List.not_mem_nil⟩⟩⟩⟩⟩⟩⟩⟩⟩⟩⟩⟩⟩
