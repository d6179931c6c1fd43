/-! the row of goesBelow, cut at the places where ways join (each piece by rfl, put together by rw): 3 s instead of more than 10 minutes -/
def J303_a (N d : Nat) (ga : zzS → Option zzR) (b1 : Int32) (b2 : Int32) (b3 : Int32) (b4 : Int32) (b5 : Int32) (b6 : Int32) (b7 : Int32) (p0 : Int32) (p1 : Int32) (μ : zzM) : Option zzR := if b4 = 0 then ga ([b1, b2, b6, b4, (b5 + nI 1)], [], (zzwI μ 105 63 (p1 - p0))) else ga ([b1, b2, b6, b4, (b5 + nI 1)], [], (zzwI (zzwI (zzwI (zzwI μ 105 63 (p1 - p0)) 105 60 b7) 105 61 b3) 105 62 b6))
def J303_b (N d : Nat) (ga : zzS → Option zzR) (b1 : Int32) (b2 : Int32) (b3 : Int32) (b4 : Int32) (b5 : Int32) (b6 : Int32) (b7 : Int32) (b8 : Int32) (p0 : Int32) (μ : zzM) : Option zzR := if p0 = 0 then J303_a N d ga b1 b2 b3 p0 b5 b6 b7 b8 (μ.1 105 63) μ else J303_a N d ga b1 b2 b3 p0 b5 b6 b7 (nI 0) (μ.1 105 63) μ
def J303_c (N d : Nat) (ga : zzS → Option zzR) (b1 : Int32) (b2 : Int32) (b3 : Int32) (b4 : Int32) (b5 : Int32) (b6 : Int32) (b7 : Int32) (p0 : Int32) (μ : zzM) : Option zzR := if p0 ≤ (μ.1 105 63) then J303_b N d ga b1 b2 b3 b4 b5 b6 b7 p0 (nI 0) μ else J303_b N d ga b1 b2 b3 b4 b5 b6 b7 p0 (nI 1) μ
def J303_d (N d : Nat) (ga : zzS → Option zzR) (b1 : Int32) (b2 : Int32) (b3 : Int32) (b4 : Int32) (b5 : Int32) (b6 : Int32) (p0 : Int32) (μ : zzM) : Option zzR := if p0 = (-(nI 1)) then J303_c N d ga b1 b2 b3 b4 b5 b6 p0 (nI 0) μ else (zzf zzP N d 252 [.int p0, .int b3, .int b6] μ).bind fun o1 => (zzri o1.2 146 2028 o1.1.1).bind fun x2 => J303_c N d ga b1 b2 b3 b4 b5 b6 p0 x2 o1.2
def L303_a (N d : Nat) (v : zzS) (ga : zzS → Option zzR) : Option zzR := (zzri (zm v) 108 12 (zi0 v)).bind fun x1 => if x1 ≤ (zi4 v) then some ((0, 0, 0), (zm v)) else if (zi3 v) = 0 then (zzf zzP N d 304 [.ref 105, .int (zi0 v), .int (zi4 v), .int (zi2 v), .int (zi1 v)] (zm v)).bind fun o2 => (zzf zzP N d 255 [.ref 105, .int (zi0 v), .int (zi4 v)] o2.2).bind fun o3 => if o3.1.1 = 0 then J303_d N d ga (zi0 v) (zi1 v) (zi2 v) (zi3 v) (zi4 v) o2.1.1 (-(nI 1)) o3.2 else (zzf zzP N d 296 [.ref 105, .int (zi0 v), .int (zi4 v), .int (zi2 v), .int o2.1.1] o3.2).bind fun o4 => J303_d N d ga (zi0 v) (zi1 v) (zi2 v) (zi3 v) (zi4 v) o2.1.1 o4.1.1 o4.2 else some ((0, 0, 0), (zm v))

/-! the row is cut at the places where ways join: each piece by itself, with what it leaves of the count of steps -/
def zgE (b1 b2 b4 b5 b6 b7 b8 : Int32) : zzL := [(5, .int (b5 + nI 1)), (3, .int b6), (4, .int b4), (8, .int b8), (7, .int b7), (6, .int b6), (0, .ref 105), (1, .int b1), (2, .int b2)]
def zgA (b1 b2 b3 b4 b5 b6 b7 b8 : Int32) : zzL := [(4, .int b4), (8, .int b8), (7, .int b7), (6, .int b6), (0, .ref 105), (1, .int b1), (2, .int b2), (3, .int b3), (5, .int b5)]
def zgB (b1 b2 b3 b4 b5 b6 b7 b8 : Int32) : zzL := [(8, .int b8), (7, .int b7), (6, .int b6), (0, .ref 105), (1, .int b1), (2, .int b2), (3, .int b3), (4, .int b4), (5, .int b5)]
def zgC (b1 b2 b3 b4 b5 b6 b7 : Int32) : zzL := [(7, .int b7), (6, .int b6), (0, .ref 105), (1, .int b1), (2, .int b2), (3, .int b3), (4, .int b4), (5, .int b5)]
def zgD (b1 b2 b3 b4 b5 b6 : Int32) : zzL := [(6, .int b6), (0, .ref 105), (1, .int b1), (2, .int b2), (3, .int b3), (4, .int b4), (5, .int b5)]
def zgO (b1 b2 b3 b4 b5 : Int32) : zzL := [(0, .ref 105), (1, .int b1), (2, .int b2), (3, .int b3), (4, .int b4), (5, .int b5)]
set_option maxRecDepth 20000 in
theorem zg_a (N d f : Nat) (k : zzL → zzM → Option zzR) (b1 b2 b3 b4 b5 b6 b7 b8 : Int32) (p0 p1 : Int32) (μ : zzM) : zzx (zzf zzP N d) N 0 (f + 17) [(38, k)] (zzdrop 148 zr303) (zgA b1 b2 b3 b4 b5 b6 b7 b8) [.int p0, .int p1, .ref 105] μ = (if b4 = 0 then k (zgE b1 b2 b4 b5 b6 b7 b8) (zzwI μ 105 63 (p1 - p0)) else k (zgE b1 b2 b4 b5 b6 b7 b8) (zzwI (zzwI (zzwI (zzwI μ 105 63 (p1 - p0)) 105 60 b7) 105 61 b3) 105 62 b6)) := rfl
set_option maxRecDepth 20000 in
theorem zg_b (N d f : Nat) (k : zzL → zzM → Option zzR) (b1 b2 b3 b4 b5 b6 b7 b8 : Int32) (p0 : Int32) (μ : zzM) : zzx (zzf zzP N d) N 0 (f + 8) [(38, k)] (zzdrop 130 zr303) (zgB b1 b2 b3 b4 b5 b6 b7 b8) [.int p0] μ = (if p0 = 0 then zzx (zzf zzP N d) N 0 (f + 1) [(38, k)] (zzdrop 148 zr303) (zgA b1 b2 b3 p0 b5 b6 b7 b8) [.int b8, .int (μ.1 105 63), .ref 105] μ else zzx (zzf zzP N d) N 0 f [(38, k)] (zzdrop 148 zr303) (zgA b1 b2 b3 p0 b5 b6 b7 b8) [.int (nI 0), .int (μ.1 105 63), .ref 105] μ) := rfl
set_option maxRecDepth 20000 in
theorem zg_c (N d f : Nat) (k : zzL → zzM → Option zzR) (b1 b2 b3 b4 b5 b6 b7 : Int32) (p0 : Int32) (μ : zzM) : zzx (zzf zzP N d) N 0 (f + 7) [(38, k)] (zzdrop 114 zr303) (zgC b1 b2 b3 b4 b5 b6 b7) [.int p0] μ = (if p0 ≤ (μ.1 105 63) then zzx (zzf zzP N d) N 0 (f + 1) [(38, k)] (zzdrop 130 zr303) (zgB b1 b2 b3 b4 b5 b6 b7 p0) [.int (nI 0)] μ else zzx (zzf zzP N d) N 0 f [(38, k)] (zzdrop 130 zr303) (zgB b1 b2 b3 b4 b5 b6 b7 p0) [.int (nI 1)] μ) := rfl
set_option maxRecDepth 20000 in
theorem zg_d (N d f : Nat) (k : zzL → zzM → Option zzR) (b1 b2 b3 b4 b5 b6 : Int32) (p0 : Int32) (μ : zzM) : zzx (zzf zzP N d) N 0 (f + 11) [(38, k)] (zzdrop 89 zr303) (zgD b1 b2 b3 b4 b5 b6) [.int p0] μ = (if p0 = (-(nI 1)) then zzx (zzf zzP N d) N 0 (f + 5) [(38, k)] (zzdrop 114 zr303) (zgC b1 b2 b3 b4 b5 b6 p0) [.int (nI 0)] μ else (zzf zzP N d 252 [.int p0, .int b3, .int b6] μ).bind fun o1 => (zzri o1.2 146 2028 o1.1.1).bind fun x2 => zzx (zzf zzP N d) N 0 f [(38, k)] (zzdrop 114 zr303) (zgC b1 b2 b3 b4 b5 b6 p0) [.int x2] o1.2) := rfl
set_option maxRecDepth 20000 in
theorem zg_o (N d f : Nat) (k : zzL → zzM → Option zzR) (b1 b2 b3 b4 b5 : Int32) (μ : zzM) : zzx (zzf zzP N d) N 0 (f + 27) [(38, k)] (zzdrop 38 (zzdrop 38 zr303).tail) (zgO b1 b2 b3 b4 b5) [] μ = ((zzri μ 108 12 b1).bind fun x1 => if x1 ≤ b5 then some ((0, 0, 0), μ) else if b4 = 0 then (zzf zzP N d 304 [.ref 105, .int b1, .int b5, .int b3, .int b2] μ).bind fun o2 => (zzf zzP N d 255 [.ref 105, .int b1, .int b5] o2.2).bind fun o3 => if o3.1.1 = 0 then zzx (zzf zzP N d) N 0 (f + 6) [(38, k)] (zzdrop 89 zr303) (zgD b1 b2 b3 b4 b5 o2.1.1) [.int (-(nI 1))] o3.2 else (zzf zzP N d 296 [.ref 105, .int b1, .int b5, .int b3, .int o2.1.1] o3.2).bind fun o4 => zzx (zzf zzP N d) N 0 f [(38, k)] (zzdrop 89 zr303) (zgD b1 b2 b3 b4 b5 o2.1.1) [.int o4.1.1] o4.2 else some ((0, 0, 0), μ)) := rfl
def zgK (ls : zzL) (ga : zzS → Option zzR) : zzL → zzM → Option zzR := fun ls' μ' => (zzpk [(0, 3), (1, 1), (2, 1), (3, 1), (4, 1), (5, 1)] ls ls').bind fun v' => ga (v'.1, v'.2, μ')
def zgI (a1 a2 a3 : Int32) : zzL := [(5, .int (nI 0)), (4, .int (nI 0)), (3, .int a3), (2, .int a2), (1, .int a1), (0, .ref 105)]
theorem zgK_e (a1 a2 a3 : Int32) (ga : zzS → Option zzR) (b1 b2 b4 b5 b6 b7 b8 : Int32) (μ : zzM) : zgK (zgI a1 a2 a3) ga (zgE b1 b2 b4 b5 b6 b7 b8) μ = ga ([b1, b2, b6, b4, b5 + nI 1], [], μ) := rfl
theorem zg_a' (N d f : Nat) {k : zzL → zzM → Option zzR} {ga : zzS → Option zzR} (hk : ∀ b1 b2 b4 b5 b6 b7 b8 μ, k (zgE b1 b2 b4 b5 b6 b7 b8) μ = ga ([b1, b2, b6, b4, b5 + nI 1], [], μ)) (b1 b2 b3 b4 b5 b6 b7 b8 p0 p1 : Int32) (μ : zzM) : zzx (zzf zzP N d) N 0 (f + 17) [(38, k)] (zzdrop 148 zr303) (zgA b1 b2 b3 b4 b5 b6 b7 b8) [.int p0, .int p1, .ref 105] μ = J303_a N d ga b1 b2 b3 b4 b5 b6 b7 p0 p1 μ := by
  rw [zg_a, hk, hk]
  rfl
theorem zg_b' (N d f : Nat) {k : zzL → zzM → Option zzR} {ga : zzS → Option zzR} (hk : ∀ b1 b2 b4 b5 b6 b7 b8 μ, k (zgE b1 b2 b4 b5 b6 b7 b8) μ = ga ([b1, b2, b6, b4, b5 + nI 1], [], μ)) (b1 b2 b3 b4 b5 b6 b7 b8 p0 : Int32) (μ : zzM) : zzx (zzf zzP N d) N 0 (f + 25) [(38, k)] (zzdrop 130 zr303) (zgB b1 b2 b3 b4 b5 b6 b7 b8) [.int p0] μ = J303_b N d ga b1 b2 b3 b4 b5 b6 b7 b8 p0 μ := by
  rw [show f + 25 = f + 17 + 8 by omega, zg_b, show f + 17 + 1 = f + 1 + 17 by omega, zg_a' N d _ hk, zg_a' N d _ hk]
  rfl
theorem zg_c' (N d f : Nat) {k : zzL → zzM → Option zzR} {ga : zzS → Option zzR} (hk : ∀ b1 b2 b4 b5 b6 b7 b8 μ, k (zgE b1 b2 b4 b5 b6 b7 b8) μ = ga ([b1, b2, b6, b4, b5 + nI 1], [], μ)) (b1 b2 b3 b4 b5 b6 b7 p0 : Int32) (μ : zzM) : zzx (zzf zzP N d) N 0 (f + 32) [(38, k)] (zzdrop 114 zr303) (zgC b1 b2 b3 b4 b5 b6 b7) [.int p0] μ = J303_c N d ga b1 b2 b3 b4 b5 b6 b7 p0 μ := by
  rw [show f + 32 = f + 25 + 7 by omega, zg_c, show f + 25 + 1 = f + 1 + 25 by omega, zg_b' N d _ hk, zg_b' N d _ hk]
  rfl
theorem zg_d' (N d f : Nat) {k : zzL → zzM → Option zzR} {ga : zzS → Option zzR} (hk : ∀ b1 b2 b4 b5 b6 b7 b8 μ, k (zgE b1 b2 b4 b5 b6 b7 b8) μ = ga ([b1, b2, b6, b4, b5 + nI 1], [], μ)) (b1 b2 b3 b4 b5 b6 p0 : Int32) (μ : zzM) : zzx (zzf zzP N d) N 0 (f + 43) [(38, k)] (zzdrop 89 zr303) (zgD b1 b2 b3 b4 b5 b6) [.int p0] μ = J303_d N d ga b1 b2 b3 b4 b5 b6 p0 μ := by
  rw [show f + 43 = f + 32 + 11 by omega, zg_d, show f + 32 + 5 = f + 5 + 32 by omega]
  simp only [zg_c' N d _ hk]
  rfl
theorem zg_o' (N d f : Nat) {k : zzL → zzM → Option zzR} {ga : zzS → Option zzR} (hk : ∀ b1 b2 b4 b5 b6 b7 b8 μ, k (zgE b1 b2 b4 b5 b6 b7 b8) μ = ga ([b1, b2, b6, b4, b5 + nI 1], [], μ)) (v : zzS) : zzx (zzf zzP N d) N 0 (f + 70) [(38, k)] (zzdrop 38 (zzdrop 38 zr303).tail) (zgO (zi0 v) (zi1 v) (zi2 v) (zi3 v) (zi4 v)) [] (zm v) = L303_a N d v ga := by
  rw [show f + 70 = f + 43 + 27 by omega, zg_o, show f + 43 + 6 = f + 6 + 43 by omega]
  simp only [zg_d' N d _ hk]
  rfl
set_option maxRecDepth 20000 in
theorem zg_t (N d f : Nat) (μ : zzM) : zzx (zzf zzP N d) N 0 (f + 25) [] zr303 [(0, .ref 105)] [] μ = ((zzf zzP N d 298 [.ref 105, .int (μ.1 105 60), .int (μ.1 105 61), .int (μ.1 105 62)] μ).bind fun o1 => zzl (fun v ga => zzx (zzf zzP N d) N 0 f [(38, zgK (zgI (μ.1 105 60) (μ.1 105 62) (μ.1 105 61)) ga)] (zzdrop 38 (zzdrop 38 zr303).tail) (zgO (zi0 v) (zi1 v) (zi2 v) (zi3 v) (zi4 v)) [] (zm v)) N ([(μ.1 105 60), (μ.1 105 62), (μ.1 105 61), (nI 0), (nI 0)], [], (zzwI o1.2 105 63 ((o1.2.1 105 63) - (nI 1))))) := rfl
set_option maxRecDepth 20000 in
theorem zg_q : zzP[300]? = some zt303 := rfl
theorem zg_r : zt303.2.2.2.2.2 = zr303 := rfl
theorem zg_k : zt303.2.2.2.2.1 = 0 := rfl
theorem zg_l : lv_args 0 [.ref 105] = [(0, .ref 105)] := rfl
theorem w_m_goesBelow (N d : Nat) (μ : zzM) : zzf zzP N (d + 1) 303 [.ref 105] μ = ((zzf zzP N d 298 [.ref 105, .int (μ.1 105 60), .int (μ.1 105 61), .int (μ.1 105 62)] μ).bind fun o1 => zzl (L303_a N d) N ([(μ.1 105 60), (μ.1 105 62), (μ.1 105 61), (nI 0), (nI 0)], [], (zzwI o1.2 105 63 ((o1.2.1 105 63) - (nI 1))))) := by
  rw [show (303 : Nat) = 300 + 3 from rfl, zzf_at zg_q rfl, zg_r, zg_l, zg_k, show (400 : Nat) = 305 + 70 + 25 from rfl, zg_t]
  simp only [zg_o' N d _ (zgK_e _ _ _ _)]
