/-! what methods of the small machine unfold to, by program (gen10.py) -/
set_option maxHeartbeats 2000000 in
set_option maxRecDepth 20000 in
theorem u_m_back (N d : Nat) (a1 : Int32) (μ : zzM) : zzf zzP N (d + 1) 322 [.ref 105, .int a1] μ = ((zzf zzP N d 173 [.long (Int32.toInt64 a1), .long (lN 0), .long (lN 3)] μ).bind fun o1 => if o1.1.1 = 0 then some (((-(nI 1)), 0, 0), o1.2) else (zzri o1.2 152 4 a1).bind fun x2 => if x2 = 0 then some (((-(nI 1)), 0, 0), o1.2) else (zzf zzP N d 320 [.ref 105, .int a1, .int (nI 1)] o1.2).bind fun o3 => (zzri (zzwI o3.2 105 36 (nI 0)) 106 7 (nI 2)).bind fun x4 => some ((x4, 0, 0), (zzwI o3.2 105 36 (nI 0)))) := rfl
set_option maxHeartbeats 2000000 in
set_option maxRecDepth 20000 in
theorem u_pf_putBytes (N d : Nat) (a1 : Int32) (μ : zzM) : zzf zzP N (d + 1) 119 [.ref 0, .int a1] μ = (zzl (fun v1 g2 => if (zi1 v1) < 0 then some ((0, 0, 0), (zm v1)) else if (nI 400) ≤ ((zm v1).1 0 1) then g2 ([(zi0 v1), ((zi1 v1) - nI 8)], [], (zm v1)) else (zzsi (zm v1) 1 400 ((zm v1).1 0 1) ((Int32.toUInt32 (zi0 v1) >>> (Int32.toUInt32 (zi1 v1) &&& Int32.toUInt32 31)).toInt32 &&& (nI 255))).bind fun m3 => g2 ([(zi0 v1), ((zi1 v1) - nI 8)], [], (zzwI m3 0 1 ((m3.1 0 1) + (nI 1))))) N ([a1, (nI 24)], [], μ)) := rfl
set_option maxHeartbeats 2000000 in
set_option maxRecDepth 20000 in
theorem u_gram_tell (N d : Nat) (a2 : Int32) (μ : zzM) : zzf zzP N (d + 1) 10 [.ref 14, .ref 1, .int a2] μ = ((zzf zzP N d 5 [.ref 20, .int (nI 0)] (zzwI (zzwI μ 14 0 (nI 0)) 14 1 (nI 0))).bind fun o1 => zzl (fun v2 g3 => if (zi0 v2) ≤ (zi2 v2) then if (zi1 v2) = 0 then (zzf zzP N d 122 [.int (zi0 v2), .int (nI 0)] (zm v2)).bind fun o4 => some ((o4.1.1, 0, 0), o4.2) else if (zi1 v2) = (nI 1) then (zzf zzP N d 122 [.int (zi0 v2), .int (nI 0)] (zm v2)).bind fun o5 => some ((o5.1.1, 0, 0), o5.2) else if (zi1 v2) = (nI 3) then (zzf zzP N d 122 [.int (zi0 v2), .int (nI 0)] (zm v2)).bind fun o7 => some ((o7.1.1, 0, 0), o7.2) else (zzf zzP N d 16 [.ref 14, .ref 1, .int (zi0 v2)] (zm v2)).bind fun o6 => some ((o6.1.1, 0, 0), o6.2) else (zzri (zm v2) 1 400 (zi2 v2)).bind fun x8 => if x8 = (nI 32) then g3 ([(zi0 v2), (zi1 v2), ((zi2 v2) + nI 1)], [], (zm v2)) else (zzf zzP N d 11 [.ref 14, .int (zi1 v2), .int x8] (zm v2)).bind fun o9 => if o9.1.1 < 0 then (zzf zzP N d 13 [.ref 14, .int (zi1 v2), .int x8] o9.2).bind fun o10 => g3 ([(zi0 v2), o10.1.1, ((zi2 v2) + nI 1)], [], o10.2) else (zzf zzP N d 122 [.int (zi2 v2), .int o9.1.1] o9.2).bind fun o11 => some ((o11.1.1, 0, 0), o11.2)) N ([a2, (nI 0), (nI 0)], [], o1.2)) := rfl
set_option maxHeartbeats 2000000 in
set_option maxRecDepth 20000 in
theorem u_set_begin (N d : Nat) (μ : zzM) : zzf zzP N (d + 1) 21 [.ref 2, .ref 14] μ = ((zzf zzP N d 7 [.ref 3, .ref 14] μ).bind fun o1 => (zzf zzP N d 5 [.ref 11, .int (nI 0)] (zzwI (zzwI o1.2 2 2 (nI 0)) 2 3 (nI 0))).bind fun o2 => some ((0, 0, 0), (zzwI (zzwI (zzwI o2.2 2 5 (nI 0)) 2 6 (nI 7)) 2 8 (nI 0)))) := rfl
set_option maxHeartbeats 2000000 in
set_option maxRecDepth 20000 in
theorem u_pf_rulesChanged (N d : Nat) (μ : zzM) : zzf zzP N (d + 1) 123 [.ref 0] μ = (if (nI 0) = 0 ∨ (nI 0) = 1 then if (nI 0) = 0 ∨ (nI 0) = 1 then (zzf zzP N d 124 [.ref 0] (zzwI (zzwI (zzwI (zzwI μ 21 1 (nI 0)) 31 2 (nI 0)) 56 1 (nI 0)) 41 3 (nI 0))).bind fun o1 => some ((0, 0, 0), o1.2) else none else none) := rfl
set_option maxHeartbeats 2000000 in
set_option maxRecDepth 20000 in
theorem u_states_find_26_14 (N d : Nat) (a2 : Int32) (μ : zzM) : zzf zzP N (d + 1) 47 [.ref 26, .ref 14, .int a2] μ = (if (nI 0) = 0 ∨ (nI 0) = 1 then (zzf zzP N d 48 [.ref 26, .ref 14, .int a2] (zzwI μ 26 0 (nI 0))).bind fun o1 => (zzri o1.2 15 12 (nI 0)).bind fun x2 => (zzrl o1.2 30 26 (x2 - (nI 26))).bind fun x3 => (zzsl o1.2 27 90 (nI 0) x3).bind fun m4 => zzl (fun v5 g6 => if ((zm v5).1 26 1) ≤ (zi0 v5) then if (nI 1) = 0 ∨ (nI 1) = 1 then if (nI 1) = 0 ∨ (nI 1) = 1 then some (((nI 1), 0, 0), (zzwI (zm v5) 26 0 (nI 1))) else none else none else if (nI 90) ≤ (zi0 v5) then if (nI 1) = 0 ∨ (nI 1) = 1 then if (nI 1) = 0 ∨ (nI 1) = 1 then some (((nI 1), 0, 0), (zzwI (zm v5) 26 0 (nI 1))) else none else none else (zzf zzP N d 50 [.ref 26, .int (zi0 v5), .int (nI 26), .int (nI 52)] (zm v5)).bind fun o7 => if o7.1.1 = 0 then if (nI 0) = 0 ∨ (nI 0) = 1 then some (((nI 0), 0, 0), o7.2) else none else (zzf zzP N d 50 [.ref 26, .int (zi0 v5), .int (nI 0), .int (nI 26)] o7.2).bind fun o8 => if o8.1.1 = 0 then if (nI 0) = 0 ∨ (nI 0) = 1 then some (((nI 0), 0, 0), o8.2) else none else g6 ([((zi0 v5) + nI 1)], [], o8.2)) N ([(nI 0)], [], (zzwI m4 26 1 (nI 1))) else none) := rfl
set_option maxHeartbeats 2000000 in
set_option maxRecDepth 20000 in
theorem u_pf_faultAt (N d : Nat) (a0 : Int32) (a1 : Int32) (μ : zzM) : zzf zzP N (d + 1) 122 [.int a0, .int a1] μ = (some (((((nI 1) + ((nI 8) * a0)) + a1), 0, 0), μ)) := rfl
set_option maxHeartbeats 2000000 in
set_option maxRecDepth 20000 in
theorem u_pf_isRule (N d : Nat) (a1 : Int32) (μ : zzM) : zzf zzP N (d + 1) 129 [.ref 0, .int a1] μ = (if a1 < 0 then if (nI 0) = 0 ∨ (nI 0) = 1 then some (((nI 0), 0, 0), μ) else none else if (μ.1 3 0) ≤ a1 then if (nI 0) = 0 ∨ (nI 0) = 1 then some (((nI 0), 0, 0), μ) else none else if (nI 1) = 0 ∨ (nI 1) = 1 then some (((nI 1), 0, 0), μ) else none) := rfl
set_option maxHeartbeats 2000000 in
set_option maxRecDepth 20000 in
theorem u_gram_symbolAt_3 (N d : Nat) (a1 : Int32) (a2 : Int32) (μ : zzM) : zzf zzP N (d + 1) 6 [.ref 3, .int a1, .int a2] μ = ((zzri μ 8 48 ((a1 * (nI 4)) + a2)).bind fun x1 => some ((x1, 0, 0), μ)) := rfl
set_option maxHeartbeats 2000000 in
set_option maxRecDepth 20000 in
theorem u_pf_noGrammar (N d : Nat) (μ : zzM) : zzf zzP N (d + 1) 128 [.ref 0] μ = (if (μ.1 3 0) = 0 then if (nI 1) = 0 ∨ (nI 1) = 1 then some (((nI 1), 0, 0), μ) else none else if (nI 0) = 0 ∨ (nI 0) = 1 then some (((nI 0), 0, 0), μ) else none) := rfl
set_option maxHeartbeats 2000000 in
set_option maxRecDepth 20000 in
theorem u_pf_foundFacts (N d : Nat) (μ : zzM) : zzf zzP N (d + 1) 126 [.ref 0] μ = ((zzf zzP N d 31 [.ref 21] μ).bind fun o1 => some ((0, 0, 21), o1.2)) := rfl
set_option maxHeartbeats 2000000 in
set_option maxRecDepth 20000 in
theorem u_pf_isLeft (N d : Nat) (a1 : Int32) (μ : zzM) : zzf zzP N (d + 1) 131 [.ref 0, .int a1] μ = (if a1 < (nI 26) then if (nI 0) = 0 ∨ (nI 0) = 1 then some (((nI 0), 0, 0), μ) else none else if (nI 52) ≤ a1 then if (nI 0) = 0 ∨ (nI 0) = 1 then some (((nI 0), 0, 0), μ) else none else if (((μ.1 3 1) >>> ((a1 - (nI 26)) &&& 31)) &&& (nI 1)) = 0 then if (nI 0) = 0 ∨ (nI 0) = 1 then some (((nI 0), 0, 0), μ) else none else if (nI 1) = 0 ∨ (nI 1) = 1 then some (((nI 1), 0, 0), μ) else none) := rfl
set_option maxHeartbeats 2000000 in
set_option maxRecDepth 20000 in
theorem u_pf_foundStates (N d : Nat) (μ : zzM) : zzf zzP N (d + 1) 127 [.ref 0] μ = (if (μ.1 26 0) = 0 then (zzf zzP N d 47 [.ref 26, .ref 3, .int (μ.1 2 3)] μ).bind fun o1 => some ((0, 0, 26), o1.2) else some ((0, 0, 26), μ)) := rfl
set_option maxHeartbeats 2000000 in
set_option maxRecDepth 20000 in
theorem u_pf_isState (N d : Nat) (a1 : Int32) (μ : zzM) : zzf zzP N (d + 1) 130 [.ref 0, .int a1] μ = ((zzf zzP N d 128 [.ref 0] μ).bind fun o1 => if o1.1.1 = 0 then if a1 < 0 then if (nI 0) = 0 ∨ (nI 0) = 1 then some (((nI 0), 0, 0), o1.2) else none else (zzf zzP N d 127 [.ref 0] o1.2).bind fun o2 => if o2.1.2.2 = 26 then if (o2.2.1 26 1) ≤ a1 then if (nI 0) = 0 ∨ (nI 0) = 1 then some (((nI 0), 0, 0), o2.2) else none else if (nI 1) = 0 ∨ (nI 1) = 1 then some (((nI 1), 0, 0), o2.2) else none else none else if (nI 0) = 0 ∨ (nI 0) = 1 then some (((nI 0), 0, 0), o1.2) else none) := rfl
set_option maxHeartbeats 2000000 in
set_option maxRecDepth 20000 in
theorem u_states_target (N d : Nat) (a1 : Int32) (a2 : Int32) (μ : zzM) : zzf zzP N (d + 1) 44 [.ref 26, .int a1, .int a2] μ = ((zzri μ 28 4680 ((a1 * (nI 52)) + a2)).bind fun x1 => some ((x1, 0, 0), μ)) := rfl
set_option maxHeartbeats 2000000 in
set_option maxRecDepth 20000 in
theorem u_states_pointsOf (N d : Nat) (a1 : Int32) (a2 : Int32) (μ : zzM) : zzf zzP N (d + 1) 45 [.ref 26, .int a1, .int a2] μ = ((zzrl μ 27 90 a1).bind fun x1 => some ((((Int64.toInt32 (x1 >>> (Int32.toInt64 (a2 * (nI 5)) &&& 63))) &&& (nI 31)), 0, 0), μ)) := rfl
set_option maxHeartbeats 2000000 in
set_option maxRecDepth 20000 in
theorem u_gram_nulledPoints (N d : Nat) (a1 : Int32) (a2 : Int32) (μ : zzM) : zzf zzP N (d + 1) 8 [.ref 3, .int a1, .int a2] μ = ((zzri μ 5 12 a1).bind fun x1 => (zzri μ 5 12 a1).bind fun x2 => zzl (fun v3 g4 => if (zi3 v3) < 0 then some (((zi2 v3), 0, 0), (zm v3)) else (zzf zzP N d 6 [.ref 3, .int (zi0 v3), .int (zi3 v3)] (zm v3)).bind fun o5 => (zzf zzP N d 9 [.int o5.1.1, .int (zi1 v3)] o5.2).bind fun o6 => if o6.1.1 = 0 then some (((zi2 v3), 0, 0), o6.2) else g4 ([(zi0 v3), (zi1 v3), ((zi2 v3) ||| ((nI 1) <<< ((zi3 v3) &&& 31))), ((zi3 v3) - nI 1)], [], o6.2)) N ([a1, a2, ((nI 1) <<< (x1 &&& 31)), (x2 - (nI 1))], [], μ)) := rfl
set_option maxHeartbeats 2000000 in
set_option maxRecDepth 20000 in
theorem u_pf_hasClash (N d : Nat) (a1 : Int32) (μ : zzM) : zzf zzP N (d + 1) 147 [.ref 0, .int a1] μ = ((zzf zzP N d 46 [.ref 26, .int a1] μ).bind fun o1 => zzl (fun v2 g3 => if ((zm v2).1 3 0) ≤ (zi2 v2) then if (nI 0) = 0 ∨ (nI 0) = 1 then some (((nI 0), 0, 0), (zm v2)) else none else (zzri (zm v2) 5 12 (zi2 v2)).bind fun x4 => (zzf zzP N d 45 [.ref 26, .int (zi0 v2), .int (zi2 v2)] (zm v2)).bind fun o5 => if (o5.1.1 &&& ((nI 1) <<< (x4 &&& 31))) = 0 then g3 ([(zi0 v2), (zi1 v2), ((zi2 v2) + nI 1)], [], o5.2) else (zzri o5.2 4 12 (zi2 v2)).bind fun x6 => (zzri o5.2 23 26 (x6 - (nI 26))).bind fun x7 => if ((zi1 v2) &&& x7) = 0 then g3 ([(zi0 v2), ((zi1 v2) ||| x7), ((zi2 v2) + nI 1)], [], o5.2) else if (nI 1) = 0 ∨ (nI 1) = 1 then some (((nI 1), 0, 0), o5.2) else none) N ([a1, o1.1.1, (nI 0)], [], o1.2)) := rfl
set_option maxHeartbeats 2000000 in
set_option maxRecDepth 20000 in
theorem u_pf_isSmall (N d : Nat) (a0 : Int32) (μ : zzM) : zzf zzP N (d + 1) 134 [.int a0] μ = (if a0 < 0 then if (nI 0) = 0 ∨ (nI 0) = 1 then some (((nI 0), 0, 0), μ) else none else if (nI 26) ≤ a0 then if (nI 0) = 0 ∨ (nI 0) = 1 then some (((nI 0), 0, 0), μ) else none else if (nI 1) = 0 ∨ (nI 1) = 1 then some (((nI 1), 0, 0), μ) else none) := rfl
set_option maxHeartbeats 2000000 in
set_option maxRecDepth 20000 in
theorem u_set_remember (N d : Nat) (a1 : Int32) (a2 : Int32) (μ : zzM) : zzf zzP N (d + 1) 24 [.ref 2, .int a1, .int a2] μ = (if (μ.1 2 8) = (nI 20) then (zzf zzP N d 0 [.ref 12, .int (nI 1), .ref 12, .int (nI 0), .int (nI 19)] μ).bind fun o2 => (zzsi (zzwI o2.2 2 8 ((o2.2.1 2 8) - (nI 1))) 12 20 ((o2.2.1 2 8) - (nI 1)) ((a2 <<< ((nI 3) &&& 31)) ||| a1)).bind fun m3 => some ((0, 0, 0), (zzwI m3 2 8 ((m3.1 2 8) + (nI 1)))) else (zzsi μ 12 20 (μ.1 2 8) ((a2 <<< ((nI 3) &&& 31)) ||| a1)).bind fun m1 => some ((0, 0, 0), (zzwI m1 2 8 ((m1.1 2 8) + (nI 1))))) := rfl
set_option maxHeartbeats 2000000 in
set_option maxRecDepth 20000 in
theorem u_set_push (N d : Nat) (a1 : Int32) (μ : zzM) : zzf zzP N (d + 1) 25 [.ref 2, .int a1] μ = (if (nI 12) ≤ (μ.1 2 2) then some ((0, 0, 0), μ) else (zzsi μ 10 12 (μ.1 2 2) a1).bind fun m1 => some ((0, 0, 0), (zzwI m1 2 2 ((m1.1 2 2) + (nI 1))))) := rfl
set_option maxHeartbeats 2000000 in
set_option maxRecDepth 20000 in
theorem u_pf_textChanged (N d : Nat) (a1 : Int32) (μ : zzM) : zzf zzP N (d + 1) 125 [.ref 0, .int a1] μ = ((zzf zzP N d 1 [.int (μ.1 31 2), .int (a1 + (nI 1))] μ).bind fun o1 => (zzf zzP N d 1 [.int (o1.2.1 56 1), .int (a1 + (nI 1))] (zzwI o1.2 31 2 o1.1.1)).bind fun o2 => (zzf zzP N d 1 [.int (o2.2.1 36 2), .int (a1 + (nI 1))] (zzwI o2.2 56 1 o2.1.1)).bind fun o3 => (zzf zzP N d 1 [.int (o3.2.1 45 2), .int (a1 + (nI 1))] (zzwI o3.2 36 2 o3.1.1)).bind fun o4 => (zzf zzP N d 1 [.int (o4.2.1 48 2), .int (a1 + (nI 1))] (zzwI o4.2 45 2 o4.1.1)).bind fun o5 => if (nI 0) = 0 ∨ (nI 0) = 1 then if (nI 0) = 0 ∨ (nI 0) = 1 then some ((0, 0, 0), (zzwI (zzwI (zzwI o5.2 48 2 o5.1.1) 41 3 (nI 0)) 52 2 (nI 0))) else none else none) := rfl
set_option maxHeartbeats 2000000 in
set_option maxRecDepth 20000 in
theorem u_set_pop (N d : Nat) (μ : zzM) : zzf zzP N (d + 1) 26 [.ref 2] μ = (if (μ.1 2 2) = 0 then some (((-(nI 1)), 0, 0), μ) else (zzri (zzwI μ 2 2 ((μ.1 2 2) - (nI 1))) 10 12 ((μ.1 2 2) - (nI 1))).bind fun x1 => some ((x1, 0, 0), (zzwI μ 2 2 ((μ.1 2 2) - (nI 1))))) := rfl
set_option maxHeartbeats 2000000 in
set_option maxRecDepth 20000 in
theorem u_states_find_26_3 (N d : Nat) (a2 : Int32) (μ : zzM) : zzf zzP N (d + 1) 47 [.ref 26, .ref 3, .int a2] μ = (if (nI 0) = 0 ∨ (nI 0) = 1 then (zzf zzP N d 48 [.ref 26, .ref 3, .int a2] (zzwI μ 26 0 (nI 0))).bind fun o1 => (zzri o1.2 4 12 (nI 0)).bind fun x2 => (zzrl o1.2 30 26 (x2 - (nI 26))).bind fun x3 => (zzsl o1.2 27 90 (nI 0) x3).bind fun m4 => zzl (fun v5 g6 => if ((zm v5).1 26 1) ≤ (zi0 v5) then if (nI 1) = 0 ∨ (nI 1) = 1 then if (nI 1) = 0 ∨ (nI 1) = 1 then some (((nI 1), 0, 0), (zzwI (zm v5) 26 0 (nI 1))) else none else none else if (nI 90) ≤ (zi0 v5) then if (nI 1) = 0 ∨ (nI 1) = 1 then if (nI 1) = 0 ∨ (nI 1) = 1 then some (((nI 1), 0, 0), (zzwI (zm v5) 26 0 (nI 1))) else none else none else (zzf zzP N d 50 [.ref 26, .int (zi0 v5), .int (nI 26), .int (nI 52)] (zm v5)).bind fun o7 => if o7.1.1 = 0 then if (nI 0) = 0 ∨ (nI 0) = 1 then some (((nI 0), 0, 0), o7.2) else none else (zzf zzP N d 50 [.ref 26, .int (zi0 v5), .int (nI 0), .int (nI 26)] o7.2).bind fun o8 => if o8.1.1 = 0 then if (nI 0) = 0 ∨ (nI 0) = 1 then some (((nI 0), 0, 0), o8.2) else none else g6 ([((zi0 v5) + nI 1)], [], o8.2)) N ([(nI 0)], [], (zzwI m4 26 1 (nI 1))) else none) := rfl
