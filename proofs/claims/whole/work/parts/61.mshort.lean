/-! SHORT of the reference -/
def zjr (q : Nat × Nat) : List zzI := [(0, 1, .iload_n 0, [(0, 0)]), (1, 3, .ldc_w 331, [q]), (4, 1, .iload_n 1, [(1, 0)]), (5, 1, .isub, []), (6, 3, .if_icmp .lt 9, [(15, 0)]), (9, 3, .ldc_w 331, [q]), (12, 3, .goto 6, [(18, 0)]), (15, 1, .iload_n 0, [(0, 0)]), (16, 1, .iload_n 1, [(1, 0)]), (17, 1, .iadd, []), (18, 1, .ireturn, [])]
theorem zj_gen (call : Nat → List Value → zzM → Option zzR) (N : Nat) (q : Nat × Nat) (a0 a1 : Int32) (μ : zzM) : zzx call N 1 400 [] (zjr q) [(0, .int a0), (1, .int a1)] [] μ = (if a0 < (zzkon q - a1) then some (((a0 + a1), 0, 0), μ) else some ((zzkon q, 0, 0), μ)) := rfl
theorem zzf_at {P : List zzT} {N d y : Nat} {q : zzT} {as : List Value} {μ : zzM} (hq : P[y]? = some q) (hc : (zzcat as).ble q.2.2.1 = true) : zzf P N (d + 1) (y + 3) as μ = zzx (zzf P N d) N q.2.2.2.2.1 400 [] q.2.2.2.2.2 (lv_args 0 as) [] μ := by
  show (match P[y]? with
    | some q => bif (zzcat as).ble q.2.2.1 then zzx (zzf P N d) N q.2.2.2.2.1 400 [] q.2.2.2.2.2 (lv_args 0 as) [] μ else none
    | none => none) = _
  rw [hq]
  show (bif (zzcat as).ble q.2.2.1 then zzx (zzf P N d) N q.2.2.2.2.1 400 [] q.2.2.2.2.2 (lv_args 0 as) [] μ else none) = _
  rw [hc]
  rfl
theorem zj_r : zt219.2.2.2.2.2 = zjr (2000000000, 0) := rfl
theorem zk_far : zzkon (2000000000, 0) = nI 2000000000 := rfl
theorem zj_l (a0 a1 : Int32) : lv_args 0 [.int a0, .int a1] = [(0, .int a0), (1, .int a1)] := rfl
theorem zj_k : zt219.2.2.2.2.1 = 1 := rfl
theorem zj_q : zzP[216]? = some zt219 := rfl
theorem u_m_joined (N d : Nat) (a0 a1 : Int32) (μ : zzM) : zzf zzP N (d + 1) 219 [.int a0, .int a1] μ = (if a0 < (nI 2000000000 - a1) then some (((a0 + a1), 0, 0), μ) else some ((nI 2000000000, 0, 0), μ)) := by
  rw [show (219 : Nat) = 216 + 3 from rfl, zzf_at zj_q rfl, zj_r, zj_l, zj_k, zj_gen, zk_far]
