def L239_a (N d : Nat) (v : zzS) (ga : zzS → Option zzR) : Option zzR := if (nI 5) < (zi0 v) then (zzf zzP N d 238 [.ref 105, .ref 112] (zm v)).bind fun o1 => (zzf zzP N d 238 [.ref 105, .ref 113] o1.2).bind fun o2 => some ((0, 0, 0), o2.2) else (zzri (zm v) 106 7 (zi0 v)).bind fun x3 => (zzf zzP N d 237 [.ref 105, .int x3] (zm v)).bind fun o4 => (zzsi o4.2 106 7 (zi0 v) o4.1.1).bind fun m5 => ga ([((zi0 v) + nI 1)], [], m5)
set_option maxRecDepth 20000 in
set_option maxHeartbeats 20000000 in
theorem w_m_movesAll (N d : Nat) (a1 : Int32) (a2 : Int32) (μ : zzM) : zzf zzP N (d + 1) 239 [.ref 105, .int a1, .int a2] μ = (if a2 = 0 ∨ a2 = 1 then zzl (L239_a N d) N ([(nI 2)], [], (zzwI (zzwI μ 105 40 ((nI 24) * a1)) 105 41 a2)) else none) := u_m_movesAll N d a1 a2 μ
def L238_105_112_a (N d : Nat) (v : zzS) (ga : zzS → Option zzR) : Option zzR := if (nI 12) ≤ (zi0 v) then some ((0, 0, 0), (zm v)) else (zzri (zm v) 112 12 (zi0 v)).bind fun x1 => (zzf zzP N d 237 [.ref 105, .int x1] (zm v)).bind fun o2 => (zzsi o2.2 112 12 (zi0 v) o2.1.1).bind fun m3 => ga ([((zi0 v) + nI 1)], [], m3)
set_option maxRecDepth 20000 in
set_option maxHeartbeats 20000000 in
theorem w_m_movesRow_105_112 (N d : Nat) (μ : zzM) : zzf zzP N (d + 1) 238 [.ref 105, .ref 112] μ = (zzl (L238_105_112_a N d) N ([(nI 0)], [], μ)) := u_m_movesRow_105_112 N d μ
def L238_105_113_a (N d : Nat) (v : zzS) (ga : zzS → Option zzR) : Option zzR := if (nI 8) ≤ (zi0 v) then some ((0, 0, 0), (zm v)) else (zzri (zm v) 113 8 (zi0 v)).bind fun x1 => (zzf zzP N d 237 [.ref 105, .int x1] (zm v)).bind fun o2 => (zzsi o2.2 113 8 (zi0 v) o2.1.1).bind fun m3 => ga ([((zi0 v) + nI 1)], [], m3)
set_option maxRecDepth 20000 in
set_option maxHeartbeats 20000000 in
theorem w_m_movesRow_105_113 (N d : Nat) (μ : zzM) : zzf zzP N (d + 1) 238 [.ref 105, .ref 113] μ = (zzl (L238_105_113_a N d) N ([(nI 0)], [], μ)) := u_m_movesRow_105_113 N d μ
def J240_a (N d : Nat) (μ : zzM) : Option zzR := (zzf zzP N d 239 [.ref 105, .int (μ.1 105 39), .int (nI 0)] μ).bind fun o1 => (zzf zzP N d 236 [.ref 105] (zzwI o1.2 105 39 ((o1.2.1 105 39) + (nI 1)))).bind fun o2 => some ((0, 0, 0), o2.2)
def J240_b (N d : Nat) (ga : zzS → Option zzR) (b1 : Int32) (μ : zzM) : Option zzR := (zzf zzP N d 239 [.ref 105, .int (μ.1 105 39), .int (nI 0)] μ).bind fun o1 => (zzf zzP N d 236 [.ref 105] (zzwI o1.2 105 39 ((o1.2.1 105 39) + (nI 1)))).bind fun o2 => some ((0, 0, 0), o2.2)
def L240_a (N d : Nat) (v : zzS) (ga : zzS → Option zzR) : Option zzR := if (nI 480) ≤ (zi0 v) then J240_b N d ga (zi0 v) (zzwI (zm v) 105 39 (((zm v).1 105 39) - (nI 1))) else (zzri (zm v) 132 480 (zi0 v)).bind fun x1 => (zzsi (zm v) 132 480 ((zi0 v) - (nI 24)) x1).bind fun m2 => ga ([((zi0 v) + nI 1)], [], m2)
set_option maxRecDepth 20000 in
set_option maxHeartbeats 20000000 in
theorem w_m_keepsAct (N d : Nat) (μ : zzM) : zzf zzP N (d + 1) 240 [.ref 105] μ = (if (μ.1 105 39) = (nI 20) then zzl (L240_a N d) N ([(nI 24)], [], μ) else J240_a N d μ) := u_m_keepsAct N d μ
def J237_a (N d : Nat) (p0 : Int32) (μ : zzM) : Option zzR := (zzsi μ 132 480 (μ.1 105 40) p0).bind fun m1 => some ((p0, 0, 0), (zzwI m1 105 40 ((m1.1 105 40) + (nI 1))))
set_option maxRecDepth 20000 in
set_option maxHeartbeats 20000000 in
theorem w_m_moves (N d : Nat) (a1 : Int32) (μ : zzM) : zzf zzP N (d + 1) 237 [.ref 105, .int a1] μ = (if (μ.1 105 41) = 0 then J237_a N d a1 μ else (zzri μ 132 480 (μ.1 105 40)).bind fun x1 => J237_a N d x1 μ) := u_m_moves N d a1 μ
def L246_a (N d : Nat) (v : zzS) (ga : zzS → Option zzR) : Option zzR := (zzri (zm v) 106 7 (nI 4)).bind fun x1 => if x1 ≤ (zi1 v) then some (((-(nI 1)), 0, 0), (zm v)) else (zzri (zm v) 113 8 (zi1 v)).bind fun x2 => if x2 = (zi0 v) then some (((zi1 v), 0, 0), (zm v)) else ga ([(zi0 v), ((zi1 v) + nI 1)], [], (zm v))
set_option maxRecDepth 20000 in
set_option maxHeartbeats 20000000 in
theorem w_m_banOf (N d : Nat) (a1 : Int32) (μ : zzM) : zzf zzP N (d + 1) 246 [.ref 105, .int a1] μ = (zzl (L246_a N d) N ([a1, (nI 0)], [], μ)) := u_m_banOf N d a1 μ
