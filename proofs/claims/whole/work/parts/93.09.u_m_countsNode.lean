/-! rows with their loops and joins as defs, by program (gen14.py) -/
def J293_a (N d : Nat) (p0 : Int32) (μ : zzM) : Option zzR := some ((0, 0, 0), (zzwI μ 105 57 p0))
def J293_b (N d : Nat) (b2 : Int32) (b3 : Int32) (b4 : Int32) (p0 : Int32) (p1 : Int32) (μ : zzM) : Option zzR := if b4 ≤ (nI 1) then some ((0, 0, 0), (zzwI μ 105 55 (p1 + p0))) else if (μ.1 105 57) = (-(nI 2)) then J293_a N d (b3 - b2) (zzwI (zzwI μ 105 55 (p1 + p0)) 105 56 ((μ.1 105 56) + (nI 1))) else if (μ.1 105 57) ≤ (b3 - b2) then J293_a N d (μ.1 105 57) (zzwI (zzwI μ 105 55 (p1 + p0)) 105 56 ((μ.1 105 56) + (nI 1))) else J293_a N d (b3 - b2) (zzwI (zzwI μ 105 55 (p1 + p0)) 105 56 ((μ.1 105 56) + (nI 1)))
set_option maxRecDepth 20000 in
set_option maxHeartbeats 20000000 in
theorem w_m_countsNode (N d : Nat) (a1 : Int32) (a2 : Int32) (a3 : Int32) (μ : zzM) : zzf zzP N (d + 1) 293 [.ref 105, .int a1, .int a2, .int a3] μ = ((zzf zzP N d 292 [.ref 105, .int a1, .int a2, .int a3] μ).bind fun o1 => if o1.1.1 = (-(nI 1)) then J293_b N d a2 a3 o1.1.1 (nI 0) (o1.2.1 105 55) o1.2 else J293_b N d a2 a3 o1.1.1 (nI 1) (o1.2.1 105 55) o1.2) := rfl
