/-! rows with their loops as defs, by program (gen14.py) -/
def L58_31_a (N d : Nat) (ga : zzS → Option zzR) (v : zzS) (gb : zzS → Option zzR) : Option zzR := if (zi1 v) < 0 then ga ([((zi0 v) + nI 1)], [], (zm v)) else (zzf zzP N d 61 [.ref 31, .int (zi1 v), .int (zi0 v)] (zm v)).bind fun o1 => (zzf zzP N d 62 [.ref 31, .int (zi1 v), .int (zi0 v)] o1.2).bind fun o2 => gb ([(zi0 v), ((zi1 v) - nI 1)], [], o2.2)
def L58_31_b (N d : Nat) (v : zzS) (ga : zzS → Option zzR) : Option zzR := if ((zm v).1 2 2) < (zi0 v) then some ((0, 0, 0), (zzwI (zm v) 31 2 (((zm v).1 2 2) + (nI 1)))) else zzl (L58_31_a N d ga) N ([(zi0 v), (zi0 v)], [], (zm v))
def J58_31_a (N d : Nat) (μ : zzM) : Option zzR := zzl (L58_31_b N d) N ([(μ.1 31 2)], [], μ)
set_option maxRecDepth 20000 in
set_option maxHeartbeats 20000000 in
theorem w_chart_fill_31 (N d : Nat) (μ : zzM) : zzf zzP N (d + 1) 58 [.ref 31] μ = (if (μ.1 31 2) = 0 then (zzf zzP N d 59 [.ref 31] μ).bind fun o1 => J58_31_a N d o1.2 else J58_31_a N d μ) := u_chart_fill_31 N d μ
def L58_36_a (N d : Nat) (ga : zzS → Option zzR) (v : zzS) (gb : zzS → Option zzR) : Option zzR := if (zi1 v) < 0 then ga ([((zi0 v) + nI 1)], [], (zm v)) else (zzf zzP N d 61 [.ref 36, .int (zi1 v), .int (zi0 v)] (zm v)).bind fun o1 => (zzf zzP N d 62 [.ref 36, .int (zi1 v), .int (zi0 v)] o1.2).bind fun o2 => gb ([(zi0 v), ((zi1 v) - nI 1)], [], o2.2)
def L58_36_b (N d : Nat) (v : zzS) (ga : zzS → Option zzR) : Option zzR := if ((zm v).1 2 2) < (zi0 v) then some ((0, 0, 0), (zzwI (zm v) 36 2 (((zm v).1 2 2) + (nI 1)))) else zzl (L58_36_a N d ga) N ([(zi0 v), (zi0 v)], [], (zm v))
def J58_36_a (N d : Nat) (μ : zzM) : Option zzR := zzl (L58_36_b N d) N ([(μ.1 36 2)], [], μ)
set_option maxRecDepth 20000 in
set_option maxHeartbeats 20000000 in
theorem w_chart_fill_36 (N d : Nat) (μ : zzM) : zzf zzP N (d + 1) 58 [.ref 36] μ = (if (μ.1 36 2) = 0 then (zzf zzP N d 59 [.ref 36] μ).bind fun o1 => J58_36_a N d o1.2 else J58_36_a N d μ) := u_chart_fill_36 N d μ
