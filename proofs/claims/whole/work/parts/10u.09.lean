/-! what methods of the small machine unfold to, by program (gen10.py) -/
set_option maxHeartbeats 2000000 in
set_option maxRecDepth 20000 in
theorem u_m_readsRight (N d : Nat) (μ : zzM) : zzf zzP N (d + 1) 190 [.ref 105] μ = ((zzf zzP N d 185 [.ref 105] μ).bind fun o1 => if o1.1.1 = (nI 61) then (zzf zzP N d 185 [.ref 105] (zzwI o1.2 105 17 ((o1.2.1 105 17) + (nI 1)))).bind fun o2 => (zzf zzP N d 186 [.int o2.1.1] o2.2).bind fun o3 => zzl (fun v4 g5 => if (zi1 v4) = (-(nI 1)) then some ((0, 0, 0), (zm v4)) else (zzri (zm v4) 115 12 (zi0 v4)).bind fun x6 => if x6 = (nI 4) then (zzf zzP N d 184 [.ref 105, .int (nI 3), .int ((zm v4).1 105 17)] (zm v4)).bind fun o15 => some ((0, 0, 0), o15.2) else (zzri (zm v4) 115 12 (zi0 v4)).bind fun x7 => (zzsi (zm v4) 116 48 (((nI 4) * (zi0 v4)) + x7) (zi1 v4)).bind fun m8 => (zzri m8 115 12 (zi0 v4)).bind fun x9 => (zzsi m8 119 48 (((nI 4) * (zi0 v4)) + x9) (m8.1 105 17)).bind fun m10 => (zzri m10 115 12 (zi0 v4)).bind fun x11 => (zzsi m10 115 12 (zi0 v4) (x11 + (nI 1))).bind fun m12 => (zzf zzP N d 185 [.ref 105] (zzwI m12 105 17 ((m12.1 105 17) + (nI 1)))).bind fun o13 => (zzf zzP N d 186 [.int o13.1.1] o13.2).bind fun o14 => g5 ([(zi0 v4), o14.1.1], [], o14.2)) N ([((μ.1 105 15) - (nI 1)), o3.1.1], [], o3.2) else (zzf zzP N d 184 [.ref 105, .int (nI 0), .int (o1.2.1 105 17)] o1.2).bind fun o16 => some ((0, 0, 0), o16.2)) := rfl
set_option maxHeartbeats 2000000 in
set_option maxRecDepth 20000 in
theorem u_m_copies_106_121 (N d : Nat) (μ : zzM) : zzf zzP N (d + 1) 180 [.ref 106, .ref 121] μ = (zzl (fun v1 g2 => if (nI 7) ≤ (zi0 v1) then some ((0, 0, 0), (zm v1)) else (zzri (zm v1) 106 7 (zi0 v1)).bind fun x3 => (zzsi (zm v1) 121 7 (zi0 v1) x3).bind fun m4 => g2 ([((zi0 v1) + nI 1)], [], m4)) N ([(nI 0)], [], μ)) := rfl
set_option maxHeartbeats 2000000 in
set_option maxRecDepth 20000 in
theorem u_m_copies_107_122 (N d : Nat) (μ : zzM) : zzf zzP N (d + 1) 180 [.ref 107, .ref 122] μ = (zzl (fun v1 g2 => if (nI 12) ≤ (zi0 v1) then some ((0, 0, 0), (zm v1)) else (zzri (zm v1) 107 12 (zi0 v1)).bind fun x3 => (zzsi (zm v1) 122 12 (zi0 v1) x3).bind fun m4 => g2 ([((zi0 v1) + nI 1)], [], m4)) N ([(nI 0)], [], μ)) := rfl
set_option maxHeartbeats 2000000 in
set_option maxRecDepth 20000 in
theorem u_m_copies_108_123 (N d : Nat) (μ : zzM) : zzf zzP N (d + 1) 180 [.ref 108, .ref 123] μ = (zzl (fun v1 g2 => if (nI 12) ≤ (zi0 v1) then some ((0, 0, 0), (zm v1)) else (zzri (zm v1) 108 12 (zi0 v1)).bind fun x3 => (zzsi (zm v1) 123 12 (zi0 v1) x3).bind fun m4 => g2 ([((zi0 v1) + nI 1)], [], m4)) N ([(nI 0)], [], μ)) := rfl
set_option maxHeartbeats 2000000 in
set_option maxRecDepth 20000 in
theorem u_m_copies_109_124 (N d : Nat) (μ : zzM) : zzf zzP N (d + 1) 180 [.ref 109, .ref 124] μ = (zzl (fun v1 g2 => if (nI 48) ≤ (zi0 v1) then some ((0, 0, 0), (zm v1)) else (zzri (zm v1) 109 48 (zi0 v1)).bind fun x3 => (zzsi (zm v1) 124 48 (zi0 v1) x3).bind fun m4 => g2 ([((zi0 v1) + nI 1)], [], m4)) N ([(nI 0)], [], μ)) := rfl
set_option maxHeartbeats 2000000 in
set_option maxRecDepth 20000 in
theorem u_m_copies_110_125 (N d : Nat) (μ : zzM) : zzf zzP N (d + 1) 180 [.ref 110, .ref 125] μ = (zzl (fun v1 g2 => if (nI 12) ≤ (zi0 v1) then some ((0, 0, 0), (zm v1)) else (zzri (zm v1) 110 12 (zi0 v1)).bind fun x3 => (zzsi (zm v1) 125 12 (zi0 v1) x3).bind fun m4 => g2 ([((zi0 v1) + nI 1)], [], m4)) N ([(nI 0)], [], μ)) := rfl
set_option maxHeartbeats 2000000 in
set_option maxRecDepth 20000 in
theorem u_m_copies_111_126 (N d : Nat) (μ : zzM) : zzf zzP N (d + 1) 180 [.ref 111, .ref 126] μ = (zzl (fun v1 g2 => if (nI 12) ≤ (zi0 v1) then some ((0, 0, 0), (zm v1)) else (zzri (zm v1) 111 12 (zi0 v1)).bind fun x3 => (zzsi (zm v1) 126 12 (zi0 v1) x3).bind fun m4 => g2 ([((zi0 v1) + nI 1)], [], m4)) N ([(nI 0)], [], μ)) := rfl
set_option maxHeartbeats 2000000 in
set_option maxRecDepth 20000 in
theorem u_m_copies_114_107 (N d : Nat) (μ : zzM) : zzf zzP N (d + 1) 180 [.ref 114, .ref 107] μ = (zzl (fun v1 g2 => if (nI 12) ≤ (zi0 v1) then some ((0, 0, 0), (zm v1)) else (zzri (zm v1) 114 12 (zi0 v1)).bind fun x3 => (zzsi (zm v1) 107 12 (zi0 v1) x3).bind fun m4 => g2 ([((zi0 v1) + nI 1)], [], m4)) N ([(nI 0)], [], μ)) := rfl
set_option maxHeartbeats 2000000 in
set_option maxRecDepth 20000 in
theorem u_m_copies_115_108 (N d : Nat) (μ : zzM) : zzf zzP N (d + 1) 180 [.ref 115, .ref 108] μ = (zzl (fun v1 g2 => if (nI 12) ≤ (zi0 v1) then some ((0, 0, 0), (zm v1)) else (zzri (zm v1) 115 12 (zi0 v1)).bind fun x3 => (zzsi (zm v1) 108 12 (zi0 v1) x3).bind fun m4 => g2 ([((zi0 v1) + nI 1)], [], m4)) N ([(nI 0)], [], μ)) := rfl
set_option maxHeartbeats 2000000 in
set_option maxRecDepth 20000 in
theorem u_m_copies_116_109 (N d : Nat) (μ : zzM) : zzf zzP N (d + 1) 180 [.ref 116, .ref 109] μ = (zzl (fun v1 g2 => if (nI 48) ≤ (zi0 v1) then some ((0, 0, 0), (zm v1)) else (zzri (zm v1) 116 48 (zi0 v1)).bind fun x3 => (zzsi (zm v1) 109 48 (zi0 v1) x3).bind fun m4 => g2 ([((zi0 v1) + nI 1)], [], m4)) N ([(nI 0)], [], μ)) := rfl
set_option maxHeartbeats 2000000 in
set_option maxRecDepth 20000 in
theorem u_m_copies_117_110 (N d : Nat) (μ : zzM) : zzf zzP N (d + 1) 180 [.ref 117, .ref 110] μ = (zzl (fun v1 g2 => if (nI 12) ≤ (zi0 v1) then some ((0, 0, 0), (zm v1)) else (zzri (zm v1) 117 12 (zi0 v1)).bind fun x3 => (zzsi (zm v1) 110 12 (zi0 v1) x3).bind fun m4 => g2 ([((zi0 v1) + nI 1)], [], m4)) N ([(nI 0)], [], μ)) := rfl
set_option maxHeartbeats 2000000 in
set_option maxRecDepth 20000 in
theorem u_m_copies_118_111 (N d : Nat) (μ : zzM) : zzf zzP N (d + 1) 180 [.ref 118, .ref 111] μ = (zzl (fun v1 g2 => if (nI 12) ≤ (zi0 v1) then some ((0, 0, 0), (zm v1)) else (zzri (zm v1) 118 12 (zi0 v1)).bind fun x3 => (zzsi (zm v1) 111 12 (zi0 v1) x3).bind fun m4 => g2 ([((zi0 v1) + nI 1)], [], m4)) N ([(nI 0)], [], μ)) := rfl
set_option maxHeartbeats 2000000 in
set_option maxRecDepth 20000 in
theorem u_m_begun (N d : Nat) (a1 : Int32) (μ : zzM) : zzf zzP N (d + 1) 223 [.ref 105, .int a1] μ = (zzl (fun v1 g2 => (zzri (zm v1) 106 7 (nI 0)).bind fun x3 => if x3 ≤ (zi1 v1) then some ((0, (zj0 v1), 0), (zm v1)) else (zzf zzP N d 177 [.ref 105, .int (zi1 v1)] (zm v1)).bind fun o4 => if o4.1.1 = 0 then g2 ([(zi0 v1), ((zi1 v1) + nI 1)], [((zj0 v1) ||| (lN 0))], o4.2) else (zzri o4.2 107 12 (zi1 v1)).bind fun x5 => if x5 = (zi0 v1) then (zzf zzP N d 221 [.int (zi1 v1), .int (nI 0)] o4.2).bind fun o6 => g2 ([(zi0 v1), ((zi1 v1) + nI 1)], [((zj0 v1) ||| o6.1.2.1)], o6.2) else g2 ([(zi0 v1), ((zi1 v1) + nI 1)], [((zj0 v1) ||| (lN 0))], o4.2)) N ([a1, (nI 0)], [(lN 0)], μ)) := rfl
set_option maxHeartbeats 2000000 in
set_option maxRecDepth 20000 in
theorem u_m_closed (N d : Nat) (a1 : Int64) (μ : zzM) : zzf zzP N (d + 1) 224 [.ref 105, .long a1] μ = (zzl (fun v1 g2 => if (lg_cmp (zj0 v1) (zj1 v1)) = 0 then some ((0, (zj0 v1), 0), (zm v1)) else zzl (fun v3 g4 => (zzri (zm v3) 106 7 (nI 0)).bind fun x5 => if x5 ≤ (zi0 v3) then g2 ([], [(zj0 v3), (zj1 v3)], (zm v3)) else zzl (fun v6 g7 => (zzri (zm v6) 108 12 (zi0 v6)).bind fun x8 => if x8 ≤ (zi1 v6) then g4 ([((zi0 v6) + nI 1)], [(zj0 v6), (zj1 v6)], (zm v6)) else (zzri (zm v6) 109 48 (((nI 4) * (zi0 v6)) + (zi1 v6))).bind fun x9 => (zzf zzP N d 222 [.long (zj0 v6), .int (zi0 v6), .int (zi1 v6)] (zm v6)).bind fun o10 => if o10.1.1 = 0 then g7 ([(zi0 v6), ((zi1 v6) + nI 1)], [((zj0 v6) ||| (lN 0)), (zj1 v6)], o10.2) else (zzf zzP N d 178 [.int x9] o10.2).bind fun o11 => if o11.1.1 = 0 then g7 ([(zi0 v6), ((zi1 v6) + nI 1)], [((zj0 v6) ||| (lN 0)), (zj1 v6)], o11.2) else (zzf zzP N d 223 [.ref 105, .int x9] o11.2).bind fun o12 => g7 ([(zi0 v6), ((zi1 v6) + nI 1)], [((zj0 v6) ||| o12.1.2.1), (zj1 v6)], o12.2)) N ([(zi0 v3), (nI 0)], [(zj0 v3), (zj1 v3)], (zm v3))) N ([(nI 0)], [(zj0 v1), (zj0 v1)], (zm v1))) N ([], [a1, (lN 0)], μ)) := rfl
set_option maxHeartbeats 2000000 in
set_option maxRecDepth 20000 in
theorem u_m_laysGo (N d : Nat) (a1 : Int32) (a2 : Int32) (μ : zzM) : zzf zzP N (d + 1) 227 [.ref 105, .int a1, .int a2] μ = ((zzrl μ 130 90 a1).bind fun x1 => (zzf zzP N d 225 [.ref 105, .long x1, .int a2] μ).bind fun o2 => (zzsi o2.2 131 4680 (((nI 52) * a1) + a2) (-(nI 1))).bind fun m3 => if (lg_cmp o2.1.2.1 (lN 0)) = 0 then if (nI 1) = 0 ∨ (nI 1) = 1 then some (((nI 1), 0, 0), m3) else none else (zzf zzP N d 226 [.ref 105, .long o2.1.2.1] m3).bind fun o4 => if o4.1.1 = (-(nI 1)) then if (o4.2.1 105 35) = (nI 90) then if (nI 0) = 0 ∨ (nI 0) = 1 then some (((nI 0), 0, 0), o4.2) else none else (zzsl o4.2 130 90 (o4.2.1 105 35) o2.1.2.1).bind fun m6 => (zzsi (zzwI m6 105 35 ((m6.1 105 35) + (nI 1))) 131 4680 (((nI 52) * a1) + a2) (o4.2.1 105 35)).bind fun m7 => if (nI 1) = 0 ∨ (nI 1) = 1 then some (((nI 1), 0, 0), m7) else none else (zzsi o4.2 131 4680 (((nI 52) * a1) + a2) o4.1.1).bind fun m5 => if (nI 1) = 0 ∨ (nI 1) = 1 then some (((nI 1), 0, 0), m5) else none) := rfl
set_option maxHeartbeats 2000000 in
set_option maxRecDepth 20000 in
theorem u_m_copies_121_106 (N d : Nat) (μ : zzM) : zzf zzP N (d + 1) 180 [.ref 121, .ref 106] μ = (zzl (fun v1 g2 => if (nI 7) ≤ (zi0 v1) then some ((0, 0, 0), (zm v1)) else (zzri (zm v1) 121 7 (zi0 v1)).bind fun x3 => (zzsi (zm v1) 106 7 (zi0 v1) x3).bind fun m4 => g2 ([((zi0 v1) + nI 1)], [], m4)) N ([(nI 0)], [], μ)) := rfl
set_option maxHeartbeats 2000000 in
set_option maxRecDepth 20000 in
theorem u_m_copies_122_107 (N d : Nat) (μ : zzM) : zzf zzP N (d + 1) 180 [.ref 122, .ref 107] μ = (zzl (fun v1 g2 => if (nI 12) ≤ (zi0 v1) then some ((0, 0, 0), (zm v1)) else (zzri (zm v1) 122 12 (zi0 v1)).bind fun x3 => (zzsi (zm v1) 107 12 (zi0 v1) x3).bind fun m4 => g2 ([((zi0 v1) + nI 1)], [], m4)) N ([(nI 0)], [], μ)) := rfl
set_option maxHeartbeats 2000000 in
set_option maxRecDepth 20000 in
theorem u_m_copies_123_108 (N d : Nat) (μ : zzM) : zzf zzP N (d + 1) 180 [.ref 123, .ref 108] μ = (zzl (fun v1 g2 => if (nI 12) ≤ (zi0 v1) then some ((0, 0, 0), (zm v1)) else (zzri (zm v1) 123 12 (zi0 v1)).bind fun x3 => (zzsi (zm v1) 108 12 (zi0 v1) x3).bind fun m4 => g2 ([((zi0 v1) + nI 1)], [], m4)) N ([(nI 0)], [], μ)) := rfl
set_option maxHeartbeats 2000000 in
set_option maxRecDepth 20000 in
theorem u_m_copies_124_109 (N d : Nat) (μ : zzM) : zzf zzP N (d + 1) 180 [.ref 124, .ref 109] μ = (zzl (fun v1 g2 => if (nI 48) ≤ (zi0 v1) then some ((0, 0, 0), (zm v1)) else (zzri (zm v1) 124 48 (zi0 v1)).bind fun x3 => (zzsi (zm v1) 109 48 (zi0 v1) x3).bind fun m4 => g2 ([((zi0 v1) + nI 1)], [], m4)) N ([(nI 0)], [], μ)) := rfl
set_option maxHeartbeats 2000000 in
set_option maxRecDepth 20000 in
theorem u_m_copies_125_110 (N d : Nat) (μ : zzM) : zzf zzP N (d + 1) 180 [.ref 125, .ref 110] μ = (zzl (fun v1 g2 => if (nI 12) ≤ (zi0 v1) then some ((0, 0, 0), (zm v1)) else (zzri (zm v1) 125 12 (zi0 v1)).bind fun x3 => (zzsi (zm v1) 110 12 (zi0 v1) x3).bind fun m4 => g2 ([((zi0 v1) + nI 1)], [], m4)) N ([(nI 0)], [], μ)) := rfl
set_option maxHeartbeats 2000000 in
set_option maxRecDepth 20000 in
theorem u_m_copies_126_111 (N d : Nat) (μ : zzM) : zzf zzP N (d + 1) 180 [.ref 126, .ref 111] μ = (zzl (fun v1 g2 => if (nI 12) ≤ (zi0 v1) then some ((0, 0, 0), (zm v1)) else (zzri (zm v1) 126 12 (zi0 v1)).bind fun x3 => (zzsi (zm v1) 111 12 (zi0 v1) x3).bind fun m4 => g2 ([((zi0 v1) + nI 1)], [], m4)) N ([(nI 0)], [], μ)) := rfl
set_option maxHeartbeats 2000000 in
set_option maxRecDepth 20000 in
theorem u_m_has (N d : Nat) (a0 : Int32) (a1 : Int32) (μ : zzM) : zzf zzP N (d + 1) 174 [.int a0, .int a1] μ = (if ((a0 >>> (a1 &&& 31)) &&& (nI 1)) = (nI 1) then if (nI 1) = 0 ∨ (nI 1) = 1 then some (((nI 1), 0, 0), μ) else none else if (nI 0) = 0 ∨ (nI 0) = 1 then some (((nI 0), 0, 0), μ) else none) := rfl
set_option maxHeartbeats 2000000 in
set_option maxRecDepth 20000 in
theorem u_m_bitOf (N d : Nat) (a0 : Int32) (μ : zzM) : zzf zzP N (d + 1) 201 [.int a0] μ = ((zzf zzP N d 178 [.int a0] μ).bind fun o1 => if o1.1.1 = 0 then some (((nI 0), 0, 0), o1.2) else some ((((nI 1) <<< ((a0 - (nI 26)) &&& 31)), 0, 0), o1.2)) := rfl
set_option maxHeartbeats 2000000 in
set_option maxRecDepth 20000 in
theorem u_m_growsEmpty (N d : Nat) (a1 : Int32) (μ : zzM) : zzf zzP N (d + 1) 204 [.ref 105, .int a1] μ = (zzl (fun v1 g2 => (zzri (zm v1) 106 7 (nI 0)).bind fun x3 => if x3 ≤ (zi1 v1) then some (((zi0 v1), 0, 0), (zm v1)) else (zzf zzP N d 177 [.ref 105, .int (zi1 v1)] (zm v1)).bind fun o4 => if o4.1.1 = 0 then g2 ([((zi0 v1) ||| (nI 0)), ((zi1 v1) + nI 1)], [], o4.2) else (zzri o4.2 108 12 (zi1 v1)).bind fun x5 => (zzf zzP N d 202 [.ref 105, .int (zi0 v1), .int (zi1 v1), .int (nI 0), .int x5, .int (-(nI 1))] o4.2).bind fun o6 => if o6.1.1 = 0 then g2 ([((zi0 v1) ||| (nI 0)), ((zi1 v1) + nI 1)], [], o6.2) else (zzri o6.2 107 12 (zi1 v1)).bind fun x7 => (zzf zzP N d 201 [.int x7] o6.2).bind fun o8 => g2 ([((zi0 v1) ||| o8.1.1), ((zi1 v1) + nI 1)], [], o8.2)) N ([a1, (nI 0)], [], μ)) := rfl
