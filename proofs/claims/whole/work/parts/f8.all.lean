/-! EVERY CALL answered alike, and that stands behind -/
theorem zA_q {μ : zzM} {y y' : Nat} {as as' : List Value} (h : zIv μ) (x : ∀ g s, zOk g s → cI g s μ → mI g s μ → zQ g s y y' as as' μ) : zA y y' as as' μ := zA_1 h fun g s S m K hP C I c p => zX_q c p hP (x g s K C I)
theorem r_feed {μ : zzM} (h : zIv μ) (x1 x2 x3 x4 x5 : Int32) : zA 118 181 [.ref 0, .int x1, .int x2, .int x3, .int x4, .int x5] [.ref 105, .int x1, .int x2, .int x3, .int x4, .int x5] μ := q_feed h x1 x2 x3 x4 x5
theorem r_end {μ : zzM} (h : zIv μ) (x1 : Int32) : zA 120 183 [.ref 0, .int x1] [.ref 105, .int x1] μ := q_end h x1
theorem r_grammar {μ : zzM} (h : zIv μ) : zA 121 198 [.ref 0] [.ref 105] μ := q_grammar h
theorem r_rule {μ : zzM} (h : zIv μ) (x1 x2 : Int32) : zA 136 199 [.ref 0, .int x1, .int x2] [.ref 105, .int x1, .int x2] μ := zA_q h fun g s K C I => q_rule K C I x1 x2
theorem r_symbol {μ : zzM} (h : zIv μ) (x1 x2 : Int32) : zA 137 200 [.ref 0, .int x1, .int x2] [.ref 105, .int x1, .int x2] μ := zA_q h fun g s K C I => q_symbol K C I x1 x2
theorem r_facts {μ : zzM} (h : zIv μ) (x1 : Int32) : zA 138 210 [.ref 0, .int x1] [.ref 105, .int x1] μ := zA_q h fun g s K C I => q_facts K C I x1
theorem r_firsts {μ : zzM} (h : zIv μ) (x1 : Int32) : zA 139 216 [.ref 0, .int x1] [.ref 105, .int x1] μ := zA_q h fun g s K C I => q_firsts K C I x1
theorem r_follows {μ : zzM} (h : zIv μ) (x1 : Int32) : zA 140 217 [.ref 0, .int x1] [.ref 105, .int x1] μ := zA_q h fun g s K C I => q_follows K C I x1
theorem r_shortest {μ : zzM} (h : zIv μ) (x1 : Int32) : zA 141 220 [.ref 0, .int x1] [.ref 105, .int x1] μ := zA_q h fun g s K C I => q_shortest K C I x1
theorem r_states {μ : zzM} (h : zIv μ) : zA 142 230 [.ref 0] [.ref 105] μ := zA_q h fun g s K C I => q_states K C I
theorem r_goes {μ : zzM} (h : zIv μ) (x1 x2 : Int32) : zA 143 231 [.ref 0, .int x1, .int x2] [.ref 105, .int x1, .int x2] μ := zA_q h fun g s K C I => q_goes K C I x1 x2
theorem r_points {μ : zzM} (h : zIv μ) (x1 x2 : Int32) : zA 144 232 [.ref 0, .int x1, .int x2] [.ref 105, .int x1, .int x2] μ := zA_q h fun g s K C I => q_points K C I x1 x2
theorem r_done {μ : zzM} (h : zIv μ) (x1 : Int32) : zA 145 233 [.ref 0, .int x1] [.ref 105, .int x1] μ := zA_q h fun g s K C I => q_done K C I x1
theorem r_clashes {μ : zzM} (h : zIv μ) : zA 146 235 [.ref 0] [.ref 105] μ := zA_q h fun g s K C I => q_clashes K C I
theorem r_read {μ : zzM} (h : zIv μ) (x1 : Int32) : zA 148 242 [.ref 0, .int x1] [.ref 105, .int x1] μ := zA_1 h fun g s S m K hP C I c p => q_read C I c p hP x1
theorem r_drop {μ : zzM} (h : zIv μ) : zA 149 243 [.ref 0] [.ref 105] μ := zA_1 h fun g s S m K hP C I c p => q_drop C I c p hP
theorem r_change {μ : zzM} (h : zIv μ) (x1 x2 : Int32) : zA 150 244 [.ref 0, .int x1, .int x2] [.ref 105, .int x1, .int x2] μ := zA_1 h fun g s S m K hP C I c p => q_change C I c p hP x1 x2
theorem r_strike {μ : zzM} (h : zIv μ) (x1 : Int32) : zA 151 245 [.ref 0, .int x1] [.ref 105, .int x1] μ := zA_1 h fun g s S m K hP C I c p => q_strike C I c p hP x1
theorem r_ban {μ : zzM} (h : zIv μ) (x1 x2 x3 : Int32) : zA 152 247 [.ref 0, .int x1, .int x2, .int x3] [.ref 105, .int x1, .int x2, .int x3] μ := zA_1 h fun g s S m K hP C I c p => q_ban C I c p hP x1 x2 x3
theorem r_filter {μ : zzM} (h : zIv μ) (x1 : Int32) : zA 153 248 [.ref 0, .int x1] [.ref 105, .int x1] μ := zA_1 h fun g s S m K hP C I c p => q_filter C I c p hP x1
theorem r_undo {μ : zzM} (h : zIv μ) : zA 154 241 [.ref 0] [.ref 105] μ := zA_1 h fun g s S m K hP C I c p => q_undo C I c p hP
theorem r_letter {μ : zzM} (h : zIv μ) (x1 : Int32) : zA 155 249 [.ref 0, .int x1] [.ref 105, .int x1] μ := zA_q h fun g s K C I => q_letter K C I x1
theorem r_alive {μ : zzM} (h : zIv μ) (x1 x2 : Int32) : zA 156 270 [.ref 0, .int x1, .int x2] [.ref 105, .int x1, .int x2] μ := zA_q h fun g s K C I => q_alive K C I x1 x2
theorem r_links {μ : zzM} (h : zIv μ) (x1 x2 : Int32) : zA 157 272 [.ref 0, .int x1, .int x2] [.ref 105, .int x1, .int x2] μ := zA_q h fun g s K C I => q_links K C I x1 x2
theorem r_expects {μ : zzM} (h : zIv μ) (x1 : Int32) : zA 158 273 [.ref 0, .int x1] [.ref 105, .int x1] μ := zA_q h fun g s K C I => q_expects K C I x1
theorem r_derives {μ : zzM} (h : zIv μ) (x1 x2 x3 : Int32) : zA 159 264 [.ref 0, .int x1, .int x2, .int x3] [.ref 105, .int x1, .int x2, .int x3] μ := zA_q h fun g s K C I => q_derives K C I x1 x2 x3
theorem r_trees {μ : zzM} (h : zIv μ) (x1 x2 x3 : Int32) : zA 160 284 [.ref 0, .int x1, .int x2, .int x3] [.ref 105, .int x1, .int x2, .int x3] μ := zA_q h fun g s K C I => q_trees K C I x1 x2 x3
theorem r_piece {μ : zzM} (h : zIv μ) (x1 x2 x3 : Int32) : zA 161 289 [.ref 0, .int x1, .int x2, .int x3] [.ref 105, .int x1, .int x2, .int x3] μ := zA_q h fun g s K C I => q_piece K C I x1 x2 x3
theorem r_ways {μ : zzM} (h : zIv μ) (x1 x2 x3 : Int32) : zA 162 291 [.ref 0, .int x1, .int x2, .int x3] [.ref 105, .int x1, .int x2, .int x3] μ := zA_q h fun g s K C I => q_ways K C I x1 x2 x3
theorem r_forest {μ : zzM} (h : zIv μ) (x1 : Int32) : zA 163 295 [.ref 0, .int x1] [.ref 105, .int x1] μ := zA_q h fun g s K C I => q_forest K C I x1
theorem r_smallest {μ : zzM} (h : zIv μ) : zA 164 302 [.ref 0] [.ref 105] μ := zA_q h fun g s K C I => q_smallest K C I
theorem r_tree {μ : zzM} (h : zIv μ) (x1 x2 : Int32) : zA 165 305 [.ref 0, .int x1, .int x2] [.ref 105, .int x1, .int x2] μ := zA_q h fun g s K C I => q_tree K C I x1 x2
theorem r_whole {μ : zzM} (h : zIv μ) : zA 166 265 [.ref 0] [.ref 105] μ := zA_q h fun g s K C I => q_whole K C I
theorem r_mend {μ : zzM} (h : zIv μ) : zA 167 309 [.ref 0] [.ref 105] μ := zA_q h fun g s K C I => q_mend K C I
theorem r_seed {μ : zzM} (h : zIv μ) (x1 : Int32) : zA 168 310 [.ref 0, .int x1] [.ref 105, .int x1] μ := q_seed h x1
theorem r_spoken {μ : zzM} (h : zIv μ) (x1 x2 : Int32) : zA 169 317 [.ref 0, .int x1, .int x2] [.ref 105, .int x1, .int x2] μ := by
  obtain ⟨x, hx, h9, h6⟩ := h.2.1
  exact zA_q h fun g s K C I => q_spoken K C I hx h9 h6 x1 x2
theorem r_count {μ : zzM} (h : zIv μ) (x1 : Int32) : zA 170 318 [.ref 0, .int x1] [.ref 105, .int x1] μ := by
  obtain ⟨x, hx, h9, h6⟩ := h.2.1
  obtain ⟨b, n, t1, t2, t3⟩ := h.2.2.1
  exact zA_1 h fun g s S m K hP C I c p => q_count C I c p hP (h9.trans h6.symm) (t1.trans t3.2.1.symm) x1
theorem r_image {μ : zzM} (h : zIv μ) (x1 : Int32) : zA 171 321 [.ref 0, .int x1] [.ref 105, .int x1] μ := q_image h x1
theorem r_back {μ : zzM} (h : zIv μ) (x1 : Int32) : zA 172 322 [.ref 0, .int x1] [.ref 105, .int x1] μ := q_back h x1
