theorem dX6_execute_0 : decode cX6_execute 0 = .ok (.iconst 0, 1) := by decide +kernel
theorem dX6_execute_1 : decode cX6_execute 1 = .ok (.istore_n 3, 1) := by decide +kernel
theorem dX6_execute_2 : decode cX6_execute 2 = .ok (.aload_n 0, 1) := by decide +kernel
theorem dX6_execute_3 : decode cX6_execute 3 = .ok (.iconst 0, 1) := by decide +kernel
theorem dX6_execute_4 : decode cX6_execute 4 = .ok (.putfield 54, 3) := by decide +kernel
theorem dX6_execute_7 : decode cX6_execute 7 = .ok (.iconst 0, 1) := by decide +kernel
theorem dX6_execute_8 : decode cX6_execute 8 = .ok (.iload_n 1, 1) := by decide +kernel
theorem dX6_execute_9 : decode cX6_execute 9 = .ok (.invokestatic 72, 3) := by decide +kernel
theorem dX6_execute_12 : decode cX6_execute 12 = .ok (.istore 4, 2) := by decide +kernel
theorem dX6_execute_14 : decode cX6_execute 14 = .ok (.iload 4, 2) := by decide +kernel
theorem dX6_execute_16 : decode cX6_execute 16 = .ok (.iload_n 2, 1) := by decide +kernel
theorem dX6_execute_17 : decode cX6_execute 17 = .ok (.if_icmp .ge 224, 3) := by decide +kernel
theorem dX6_execute_20 : decode cX6_execute 20 = .ok (.iload 4, 2) := by decide +kernel
theorem dX6_execute_22 : decode cX6_execute 22 = .ok (.aload_n 0, 1) := by decide +kernel
theorem dX6_execute_23 : decode cX6_execute 23 = .ok (.getfield 24, 3) := by decide +kernel
theorem dX6_execute_26 : decode cX6_execute 26 = .ok (.getfield 77, 3) := by decide +kernel
theorem dX6_execute_29 : decode cX6_execute 29 = .ok (.if_icmp .ge 212, 3) := by decide +kernel
theorem dX6_execute_32 : decode cX6_execute 32 = .ok (.aload_n 0, 1) := by decide +kernel
theorem dX6_execute_33 : decode cX6_execute 33 = .ok (.getfield 24, 3) := by decide +kernel
theorem dX6_execute_36 : decode cX6_execute 36 = .ok (.getfield 80, 3) := by decide +kernel
theorem dX6_execute_39 : decode cX6_execute 39 = .ok (.iload 4, 2) := by decide +kernel
theorem dX6_execute_41 : decode cX6_execute 41 = .ok (.iaload, 1) := by decide +kernel
theorem dX6_execute_42 : decode cX6_execute 42 = .ok (.sipush 255, 3) := by decide +kernel
theorem dX6_execute_45 : decode cX6_execute 45 = .ok (.iand, 1) := by decide +kernel
theorem dX6_execute_46 : decode cX6_execute 46 = .ok (.istore 5, 2) := by decide +kernel
theorem dX6_execute_48 : decode cX6_execute 48 = .ok (.aload_n 0, 1) := by decide +kernel
theorem dX6_execute_49 : decode cX6_execute 49 = .ok (.getfield 24, 3) := by decide +kernel
theorem dX6_execute_52 : decode cX6_execute 52 = .ok (.getfield 80, 3) := by decide +kernel
theorem dX6_execute_55 : decode cX6_execute 55 = .ok (.iload 4, 2) := by decide +kernel
theorem dX6_execute_57 : decode cX6_execute 57 = .ok (.iaload, 1) := by decide +kernel
theorem dX6_execute_58 : decode cX6_execute 58 = .ok (.bipush 8, 2) := by decide +kernel
theorem dX6_execute_60 : decode cX6_execute 60 = .ok (.ishr, 1) := by decide +kernel
theorem dX6_execute_61 : decode cX6_execute 61 = .ok (.istore 6, 2) := by decide +kernel
theorem dX6_execute_63 : decode cX6_execute 63 = .ok (.iload 5, 2) := by decide +kernel
theorem dX6_execute_65 : decode cX6_execute 65 = .ok (.iconst 3, 1) := by decide +kernel
theorem dX6_execute_66 : decode cX6_execute 66 = .ok (.if_icmp .eq 10, 3) := by decide +kernel
theorem dX6_execute_69 : decode cX6_execute 69 = .ok (.iload 5, 2) := by decide +kernel
theorem dX6_execute_71 : decode cX6_execute 71 = .ok (.bipush 28, 2) := by decide +kernel
theorem dX6_execute_73 : decode cX6_execute 73 = .ok (.if_icmp .lt 7, 3) := by decide +kernel
theorem dX6_execute_76 : decode cX6_execute 76 = .ok (.iconst 1, 1) := by decide +kernel
theorem dX6_execute_77 : decode cX6_execute 77 = .ok (.goto 4, 3) := by decide +kernel
theorem dX6_execute_80 : decode cX6_execute 80 = .ok (.iconst 0, 1) := by decide +kernel
theorem dX6_execute_81 : decode cX6_execute 81 = .ok (.istore 7, 2) := by decide +kernel
theorem dX6_execute_83 : decode cX6_execute 83 = .ok (.iload 7, 2) := by decide +kernel
theorem dX6_execute_85 : decode cX6_execute 85 = .ok (.ifCond .eq 29, 3) := by decide +kernel
theorem dX6_execute_88 : decode cX6_execute 88 = .ok (.iload_n 3, 1) := by decide +kernel
theorem dX6_execute_89 : decode cX6_execute 89 = .ok (.bipush 64, 2) := by decide +kernel
theorem dX6_execute_91 : decode cX6_execute 91 = .ok (.if_icmp .ge 23, 3) := by decide +kernel
theorem dX6_execute_94 : decode cX6_execute 94 = .ok (.aload_n 0, 1) := by decide +kernel
theorem dX6_execute_95 : decode cX6_execute 95 = .ok (.getfield 9, 3) := by decide +kernel
theorem dX6_execute_98 : decode cX6_execute 98 = .ok (.iload_n 3, 1) := by decide +kernel
theorem dX6_execute_99 : decode cX6_execute 99 = .ok (.aload_n 0, 1) := by decide +kernel
theorem dX6_execute_100 : decode cX6_execute 100 = .ok (.iload 5, 2) := by decide +kernel
theorem dX6_execute_102 : decode cX6_execute 102 = .ok (.iload 6, 2) := by decide +kernel
theorem dX6_execute_104 : decode cX6_execute 104 = .ok (.invokevirtual 83, 3) := by decide +kernel
theorem dX6_execute_107 : decode cX6_execute 107 = .ok (.iastore, 1) := by decide +kernel
theorem dX6_execute_108 : decode cX6_execute 108 = .ok (.iinc 3 1, 3) := by decide +kernel
theorem dX6_execute_111 : decode cX6_execute 111 = .ok (.goto 124, 3) := by decide +kernel
theorem dX6_execute_114 : decode cX6_execute 114 = .ok (.iload 5, 2) := by decide +kernel
theorem dX6_execute_116 : decode cX6_execute 116 = .ok (.bipush 27, 2) := by decide +kernel
theorem dX6_execute_118 : decode cX6_execute 118 = .ok (.if_icmp .ne 29, 3) := by decide +kernel
theorem dX6_execute_121 : decode cX6_execute 121 = .ok (.iload_n 3, 1) := by decide +kernel
theorem dX6_execute_122 : decode cX6_execute 122 = .ok (.iconst 1, 1) := by decide +kernel
theorem dX6_execute_123 : decode cX6_execute 123 = .ok (.if_icmp .lt 24, 3) := by decide +kernel
theorem dX6_execute_126 : decode cX6_execute 126 = .ok (.aload_n 0, 1) := by decide +kernel
theorem dX6_execute_127 : decode cX6_execute 127 = .ok (.getfield 9, 3) := by decide +kernel
theorem dX6_execute_130 : decode cX6_execute 130 = .ok (.iload_n 3, 1) := by decide +kernel
theorem dX6_execute_131 : decode cX6_execute 131 = .ok (.iconst 1, 1) := by decide +kernel
theorem dX6_execute_132 : decode cX6_execute 132 = .ok (.isub, 1) := by decide +kernel
theorem dX6_execute_133 : decode cX6_execute 133 = .ok (.iconst 1, 1) := by decide +kernel
theorem dX6_execute_134 : decode cX6_execute 134 = .ok (.aload_n 0, 1) := by decide +kernel
theorem dX6_execute_135 : decode cX6_execute 135 = .ok (.getfield 9, 3) := by decide +kernel
theorem dX6_execute_138 : decode cX6_execute 138 = .ok (.iload_n 3, 1) := by decide +kernel
theorem dX6_execute_139 : decode cX6_execute 139 = .ok (.iconst 1, 1) := by decide +kernel
theorem dX6_execute_140 : decode cX6_execute 140 = .ok (.isub, 1) := by decide +kernel
theorem dX6_execute_141 : decode cX6_execute 141 = .ok (.iaload, 1) := by decide +kernel
theorem dX6_execute_142 : decode cX6_execute 142 = .ok (.isub, 1) := by decide +kernel
theorem dX6_execute_143 : decode cX6_execute 143 = .ok (.iastore, 1) := by decide +kernel
theorem dX6_execute_144 : decode cX6_execute 144 = .ok (.goto 91, 3) := by decide +kernel
theorem dX6_execute_147 : decode cX6_execute 147 = .ok (.iload 7, 2) := by decide +kernel
theorem dX6_execute_149 : decode cX6_execute 149 = .ok (.ifCond .ne 86, 3) := by decide +kernel
theorem dX6_execute_152 : decode cX6_execute 152 = .ok (.iload_n 3, 1) := by decide +kernel
theorem dX6_execute_153 : decode cX6_execute 153 = .ok (.iconst 2, 1) := by decide +kernel
theorem dX6_execute_154 : decode cX6_execute 154 = .ok (.if_icmp .lt 81, 3) := by decide +kernel
theorem dX6_execute_157 : decode cX6_execute 157 = .ok (.iinc 3 (-1), 3) := by decide +kernel
theorem dX6_execute_160 : decode cX6_execute 160 = .ok (.aload_n 0, 1) := by decide +kernel
theorem dX6_execute_161 : decode cX6_execute 161 = .ok (.getfield 9, 3) := by decide +kernel
theorem dX6_execute_164 : decode cX6_execute 164 = .ok (.iload_n 3, 1) := by decide +kernel
theorem dX6_execute_165 : decode cX6_execute 165 = .ok (.iconst 1, 1) := by decide +kernel
theorem dX6_execute_166 : decode cX6_execute 166 = .ok (.isub, 1) := by decide +kernel
theorem dX6_execute_167 : decode cX6_execute 167 = .ok (.iaload, 1) := by decide +kernel
theorem dX6_execute_168 : decode cX6_execute 168 = .ok (.istore 8, 2) := by decide +kernel
theorem dX6_execute_170 : decode cX6_execute 170 = .ok (.aload_n 0, 1) := by decide +kernel
theorem dX6_execute_171 : decode cX6_execute 171 = .ok (.getfield 9, 3) := by decide +kernel
theorem dX6_execute_174 : decode cX6_execute 174 = .ok (.iload_n 3, 1) := by decide +kernel
theorem dX6_execute_175 : decode cX6_execute 175 = .ok (.iaload, 1) := by decide +kernel
theorem dX6_execute_176 : decode cX6_execute 176 = .ok (.istore 9, 2) := by decide +kernel
theorem dX6_execute_178 : decode cX6_execute 178 = .ok (.iload 5, 2) := by decide +kernel
theorem dX6_execute_180 : decode cX6_execute 180 = .ok (.bipush 9, 2) := by decide +kernel
theorem dX6_execute_182 : decode cX6_execute 182 = .ok (.if_icmp .lt 14, 3) := by decide +kernel
theorem dX6_execute_185 : decode cX6_execute 185 = .ok (.iload 5, 2) := by decide +kernel
theorem dX6_execute_187 : decode cX6_execute 187 = .ok (.bipush 12, 2) := by decide +kernel
theorem dX6_execute_189 : decode cX6_execute 189 = .ok (.if_icmp .gt 7, 3) := by decide +kernel
theorem dX6_execute_192 : decode cX6_execute 192 = .ok (.iconst 1, 1) := by decide +kernel
theorem dX6_execute_193 : decode cX6_execute 193 = .ok (.goto 4, 3) := by decide +kernel
theorem dX6_execute_196 : decode cX6_execute 196 = .ok (.iconst 0, 1) := by decide +kernel
theorem dX6_execute_197 : decode cX6_execute 197 = .ok (.istore 10, 2) := by decide +kernel
theorem dX6_execute_199 : decode cX6_execute 199 = .ok (.aload_n 0, 1) := by decide +kernel
theorem dX6_execute_200 : decode cX6_execute 200 = .ok (.getfield 9, 3) := by decide +kernel
theorem dX6_execute_203 : decode cX6_execute 203 = .ok (.iload_n 3, 1) := by decide +kernel
theorem dX6_execute_204 : decode cX6_execute 204 = .ok (.iconst 1, 1) := by decide +kernel
theorem dX6_execute_205 : decode cX6_execute 205 = .ok (.isub, 1) := by decide +kernel
theorem dX6_execute_206 : decode cX6_execute 206 = .ok (.iload 10, 2) := by decide +kernel
theorem dX6_execute_208 : decode cX6_execute 208 = .ok (.ifCond .eq 16, 3) := by decide +kernel
theorem dX6_execute_211 : decode cX6_execute 211 = .ok (.aload_n 0, 1) := by decide +kernel
theorem dX6_execute_212 : decode cX6_execute 212 = .ok (.iload 5, 2) := by decide +kernel
theorem dX6_execute_214 : decode cX6_execute 214 = .ok (.iload 8, 2) := by decide +kernel
theorem dX6_execute_216 : decode cX6_execute 216 = .ok (.iload 9, 2) := by decide +kernel
theorem dX6_execute_218 : decode cX6_execute 218 = .ok (.invokevirtual 86, 3) := by decide +kernel
theorem dX6_execute_221 : decode cX6_execute 221 = .ok (.goto 13, 3) := by decide +kernel
theorem dX6_execute_224 : decode cX6_execute 224 = .ok (.aload_n 0, 1) := by decide +kernel
theorem dX6_execute_225 : decode cX6_execute 225 = .ok (.iload 5, 2) := by decide +kernel
theorem dX6_execute_227 : decode cX6_execute 227 = .ok (.iload 8, 2) := by decide +kernel
theorem dX6_execute_229 : decode cX6_execute 229 = .ok (.iload 9, 2) := by decide +kernel
theorem dX6_execute_231 : decode cX6_execute 231 = .ok (.invokevirtual 90, 3) := by decide +kernel
theorem dX6_execute_234 : decode cX6_execute 234 = .ok (.iastore, 1) := by decide +kernel
theorem dX6_execute_235 : decode cX6_execute 235 = .ok (.iinc 4 1, 3) := by decide +kernel
theorem dX6_execute_238 : decode cX6_execute 238 = .ok (.goto (-224), 3) := by decide +kernel
theorem dX6_execute_241 : decode cX6_execute 241 = .ok (.aload_n 0, 1) := by decide +kernel
theorem dX6_execute_242 : decode cX6_execute 242 = .ok (.getfield 9, 3) := by decide +kernel
theorem dX6_execute_245 : decode cX6_execute 245 = .ok (.iconst 0, 1) := by decide +kernel
theorem dX6_execute_246 : decode cX6_execute 246 = .ok (.iaload, 1) := by decide +kernel
theorem dX6_execute_247 : decode cX6_execute 247 = .ok (.ireturn, 1) := by decide +kernel
def bX6_execute_235  (r14 : Int32 → Int32 → Int32 → Hp → Option (Int32 × Hp)) (x2 : Int32) (x3 : Int32) (x4 : Int32) (h : Hp) : Option (Int32 × Hp) := lt (x4 + 1) (fun v1 => r14 x2 x3 v1 h)
set_option maxRecDepth 20000 in
theorem BX6_execute_235 {Z : ZT} {G : GT} {r : Int32} {hr : Hp} (X : CX Z G cX6_execute RX6 11 1) (E : RX Z G (some .int) (some (.int r)) hr) (hz : HZ Z) (r14 : Int32 → Int32 → Int32 → Hp → Option (Int32 × Hp)) (hr14 : ∀ (x2 : Int32) (x3 : Int32) (x4 : Int32) (h : Hp), r14 x2 x3 x4 h = some (r, hr) → J Z G 11 h 14 [(0, .ref (Z.2.1 147)), (2, .int x2), (3, .int x3), (4, .int x4)] []) (x2 : Int32) (x3 : Int32) (x4 : Int32) (h : Hp) (hF : bX6_execute_235  r14 x2 x3 x4 h = some (r, hr)) : J Z G 11 h 235 [(0, .ref (Z.2.1 147)), (2, .int x2), (3, .int x3), (4, .int x4)] [] := by
  unfold bX6_execute_235 at hF
  refine j_iinc (pc := 235) 3 (x4 + 1) (fun y => [(4, .int y), (0, .ref (Z.2.1 147)), (2, .int x2), (3, .int x3)]) X dX6_execute_235 rfl rfl (by decide) (fun _ => rfl) hF (fun v1 hF => ?_)
  refine j_goto (pc := 238) 14 X dX6_execute_238 rfl ?_
  refine j_lv [(0, .ref (Z.2.1 147)), (2, .int x2), (3, .int x3), (4, .int v1)] [1, 2, 3, 0] rfl ?_
  exact hr14 x2 x3 v1 h hF
def bX6_execute_234  (r14 : Int32 → Int32 → Int32 → Hp → Option (Int32 × Hp)) (x2 : Int32) (x3 : Int32) (x4 : Int32) (s0 : Int32) (s1 : Int32) (h : Hp) : Option (Int32 × Hp) := ck (inb s1 64) (lt (wI h 148 (ix s1) s0) (fun h1 => bX6_execute_235 r14 x2 x3 x4 h1))
set_option maxRecDepth 20000 in
theorem BX6_execute_234 {Z : ZT} {G : GT} {r : Int32} {hr : Hp} (X : CX Z G cX6_execute RX6 11 1) (E : RX Z G (some .int) (some (.int r)) hr) (hz : HZ Z) (r14 : Int32 → Int32 → Int32 → Hp → Option (Int32 × Hp)) (hr14 : ∀ (x2 : Int32) (x3 : Int32) (x4 : Int32) (h : Hp), r14 x2 x3 x4 h = some (r, hr) → J Z G 11 h 14 [(0, .ref (Z.2.1 147)), (2, .int x2), (3, .int x3), (4, .int x4)] []) (x2 : Int32) (x3 : Int32) (x4 : Int32) (s0 : Int32) (s1 : Int32) (h : Hp) (hF : bX6_execute_234  r14 x2 x3 x4 s0 s1 h = some (r, hr)) : J Z G 11 h 234 [(0, .ref (Z.2.1 147)), (2, .int x2), (3, .int x3), (4, .int x4)] [.int s0, .int s1, .ref (Z.2.1 148)] := by
  unfold bX6_execute_234 at hF
  refine j_iast (pc := 234) X dX6_execute_234 (hz _ sh_148) hF (fun h1 hF => ?_)
  exact BX6_execute_235 X E hz r14 hr14 x2 x3 x4 h1 hF
def bX6_execute_197  (r14 : Int32 → Int32 → Int32 → Hp → Option (Int32 × Hp)) (x2 : Int32) (x3 : Int32) (x4 : Int32) (x5 : Int32) (x8 : Int32) (x9 : Int32) (s0 : Int32) (h : Hp) : Option (Int32 × Hp) := lt s0 (fun v1 => (if v1 = 0 then bi (fX6_joined x5 x8 x9 h) (fun w3 h2 => bX6_execute_234 r14 x2 x3 x4 w3 (x3 - 1) h2) else bi (fX6_compared x5 x8 x9 h) (fun w5 h4 => bX6_execute_234 r14 x2 x3 x4 w5 (x3 - 1) h4)))
set_option maxRecDepth 20000 in
theorem BX6_execute_197 {Z : ZT} {G : GT} {r : Int32} {hr : Hp} (X : CX Z G cX6_execute RX6 11 1) (E : RX Z G (some .int) (some (.int r)) hr) (hz : HZ Z) (r14 : Int32 → Int32 → Int32 → Hp → Option (Int32 × Hp)) (hr14 : ∀ (x2 : Int32) (x3 : Int32) (x4 : Int32) (h : Hp), r14 x2 x3 x4 h = some (r, hr) → J Z G 11 h 14 [(0, .ref (Z.2.1 147)), (2, .int x2), (3, .int x3), (4, .int x4)] []) (x2 : Int32) (x3 : Int32) (x4 : Int32) (x5 : Int32) (x8 : Int32) (x9 : Int32) (s0 : Int32) (h : Hp) (hF : bX6_execute_197  r14 x2 x3 x4 x5 x8 x9 s0 h = some (r, hr)) : J Z G 11 h 197 [(0, .ref (Z.2.1 147)), (2, .int x2), (3, .int x3), (4, .int x4), (5, .int x5), (8, .int x8), (9, .int x9)] [.int s0] := by
  unfold bX6_execute_197 at hF
  refine j_istore (pc := 197) (fun y => [(10, .int y), (0, .ref (Z.2.1 147)), (2, .int x2), (3, .int x3), (4, .int x4), (5, .int x5), (8, .int x8), (9, .int x9)]) X dX6_execute_197 (by decide) (fun _ => rfl) hF (fun v1 hF => ?_)
  refine j_aload_n (pc := 199) 1 X dX6_execute_199 rfl ?_
  refine j_getr (pc := 200) X dX6_execute_200 (hz _ sh_147) fl_X6_9 rfl ?_
  refine j_iload_n (pc := 203) 3 X dX6_execute_203 rfl ?_
  refine j_iconst (pc := 204) 1 X dX6_execute_204 rfl ?_
  refine j_isub (pc := 205) X dX6_execute_205 ?_
  refine j_iload (pc := 206) 0 X dX6_execute_206 rfl ?_
  refine j_if_eq (pc := 208) 224 X dX6_execute_208 rfl hF (fun hF => ?_) (fun hF => ?_)
  · refine j_aload_n (pc := 224) 1 X dX6_execute_224 rfl ?_
    refine j_iload (pc := 225) 5 X dX6_execute_225 rfl ?_
    refine j_iload (pc := 227) 6 X dX6_execute_227 rfl ?_
    refine j_iload (pc := 229) 7 X dX6_execute_229 rfl ?_
    refine j_cVi (pc := 231) (As := [.int x5, .int x8, .int x9]) (rest := [.int (x3 - 1), .ref (Z.2.1 148)]) X dX6_execute_231 ml_X6_90 ck_X6_joined cv_X6_joined (hz _ sh_147) rfl (Nat.le_of_ble_eq_true rfl) rfl (Nat.le_of_ble_eq_true rfl) rfl hF (tX6_joined Z x5 x8 x9 hz h) (fun w3 h2 hF => ?_)
    refine j_lv [(0, .ref (Z.2.1 147)), (2, .int x2), (3, .int x3), (4, .int x4)] [1, 2, 3, 4] rfl ?_
    exact BX6_execute_234 X E hz r14 hr14 x2 x3 x4 w3 (x3 - 1) h2 hF
  · refine j_aload_n (pc := 211) 1 X dX6_execute_211 rfl ?_
    refine j_iload (pc := 212) 5 X dX6_execute_212 rfl ?_
    refine j_iload (pc := 214) 6 X dX6_execute_214 rfl ?_
    refine j_iload (pc := 216) 7 X dX6_execute_216 rfl ?_
    refine j_cVi (pc := 218) (As := [.int x5, .int x8, .int x9]) (rest := [.int (x3 - 1), .ref (Z.2.1 148)]) X dX6_execute_218 ml_X6_86 ck_X6_compared cv_X6_compared (hz _ sh_147) rfl (Nat.le_of_ble_eq_true rfl) rfl (Nat.le_of_ble_eq_true rfl) rfl hF (tX6_compared Z x5 x8 x9 hz h) (fun w5 h4 hF => ?_)
    refine j_goto (pc := 221) 234 X dX6_execute_221 rfl ?_
    refine j_lv [(0, .ref (Z.2.1 147)), (2, .int x2), (3, .int x3), (4, .int x4)] [1, 2, 3, 4] rfl ?_
    exact BX6_execute_234 X E hz r14 hr14 x2 x3 x4 w5 (x3 - 1) h4 hF
def bX6_execute_196  (r14 : Int32 → Int32 → Int32 → Hp → Option (Int32 × Hp)) (x2 : Int32) (x3 : Int32) (x4 : Int32) (x5 : Int32) (x8 : Int32) (x9 : Int32) (h : Hp) : Option (Int32 × Hp) := bX6_execute_197 r14 x2 x3 x4 x5 x8 x9 0 h
set_option maxRecDepth 20000 in
theorem BX6_execute_196 {Z : ZT} {G : GT} {r : Int32} {hr : Hp} (X : CX Z G cX6_execute RX6 11 1) (E : RX Z G (some .int) (some (.int r)) hr) (hz : HZ Z) (r14 : Int32 → Int32 → Int32 → Hp → Option (Int32 × Hp)) (hr14 : ∀ (x2 : Int32) (x3 : Int32) (x4 : Int32) (h : Hp), r14 x2 x3 x4 h = some (r, hr) → J Z G 11 h 14 [(0, .ref (Z.2.1 147)), (2, .int x2), (3, .int x3), (4, .int x4)] []) (x2 : Int32) (x3 : Int32) (x4 : Int32) (x5 : Int32) (x8 : Int32) (x9 : Int32) (h : Hp) (hF : bX6_execute_196  r14 x2 x3 x4 x5 x8 x9 h = some (r, hr)) : J Z G 11 h 196 [(0, .ref (Z.2.1 147)), (2, .int x2), (3, .int x3), (4, .int x4), (5, .int x5), (8, .int x8), (9, .int x9)] [] := by
  unfold bX6_execute_196 at hF
  refine j_iconst (pc := 196) 0 X dX6_execute_196 rfl ?_
  exact BX6_execute_197 X E hz r14 hr14 x2 x3 x4 x5 x8 x9 0 h hF
def bX6_execute_147  (r14 : Int32 → Int32 → Int32 → Hp → Option (Int32 × Hp)) (x2 : Int32) (x3 : Int32) (x4 : Int32) (x5 : Int32) (x7 : Int32) (h : Hp) : Option (Int32 × Hp) := (if x7 = 0 then (if x3 < 2 then bX6_execute_235 r14 x2 x3 x4 h else lt (x3 + (-1)) (fun v1 => ck (inb (v1 - 1) 64) (lt (h.1 148 (ix (v1 - 1))) (fun v2 => ck (inb v1 64) (lt (h.1 148 (ix v1)) (fun v3 => (if x5 < 9 then bX6_execute_196 r14 x2 v1 x4 x5 v2 v3 h else (if 12 < x5 then bX6_execute_196 r14 x2 v1 x4 x5 v2 v3 h else bX6_execute_197 r14 x2 v1 x4 x5 v2 v3 1 h)))))))) else bX6_execute_235 r14 x2 x3 x4 h)
set_option maxRecDepth 20000 in
theorem BX6_execute_147 {Z : ZT} {G : GT} {r : Int32} {hr : Hp} (X : CX Z G cX6_execute RX6 11 1) (E : RX Z G (some .int) (some (.int r)) hr) (hz : HZ Z) (r14 : Int32 → Int32 → Int32 → Hp → Option (Int32 × Hp)) (hr14 : ∀ (x2 : Int32) (x3 : Int32) (x4 : Int32) (h : Hp), r14 x2 x3 x4 h = some (r, hr) → J Z G 11 h 14 [(0, .ref (Z.2.1 147)), (2, .int x2), (3, .int x3), (4, .int x4)] []) (x2 : Int32) (x3 : Int32) (x4 : Int32) (x5 : Int32) (x7 : Int32) (h : Hp) (hF : bX6_execute_147  r14 x2 x3 x4 x5 x7 h = some (r, hr)) : J Z G 11 h 147 [(0, .ref (Z.2.1 147)), (2, .int x2), (3, .int x3), (4, .int x4), (5, .int x5), (7, .int x7)] [] := by
  unfold bX6_execute_147 at hF
  refine j_iload (pc := 147) 5 X dX6_execute_147 rfl ?_
  refine j_if_ne (pc := 149) 235 X dX6_execute_149 rfl hF (fun hF => ?_) (fun hF => ?_)
  · refine j_lv [(0, .ref (Z.2.1 147)), (2, .int x2), (3, .int x3), (4, .int x4)] [0, 1, 2, 3] rfl ?_
    exact BX6_execute_235 X E hz r14 hr14 x2 x3 x4 h hF
  · refine j_iload_n (pc := 152) 2 X dX6_execute_152 rfl ?_
    refine j_iconst (pc := 153) 2 X dX6_execute_153 rfl ?_
    refine j_icmp_lt (pc := 154) 235 X dX6_execute_154 rfl hF (fun hF => ?_) (fun hF => ?_)
    · refine j_lv [(0, .ref (Z.2.1 147)), (2, .int x2), (3, .int x3), (4, .int x4)] [0, 1, 2, 3] rfl ?_
      exact BX6_execute_235 X E hz r14 hr14 x2 x3 x4 h hF
    · refine j_iinc (pc := 157) 2 (x3 + (-1)) (fun y => [(3, .int y), (0, .ref (Z.2.1 147)), (2, .int x2), (4, .int x4), (5, .int x5), (7, .int x7)]) X dX6_execute_157 rfl rfl (by decide) (fun _ => rfl) hF (fun v1 hF => ?_)
      refine j_aload_n (pc := 160) 1 X dX6_execute_160 rfl ?_
      refine j_getr (pc := 161) X dX6_execute_161 (hz _ sh_147) fl_X6_9 rfl ?_
      refine j_iload_n (pc := 164) 0 X dX6_execute_164 rfl ?_
      refine j_iconst (pc := 165) 1 X dX6_execute_165 rfl ?_
      refine j_isub (pc := 166) X dX6_execute_166 ?_
      refine j_iald (pc := 167) X dX6_execute_167 (hz _ sh_148) hF (fun hF => ?_)
      refine j_istore (pc := 168) (fun y => [(8, .int y), (3, .int v1), (0, .ref (Z.2.1 147)), (2, .int x2), (4, .int x4), (5, .int x5), (7, .int x7)]) X dX6_execute_168 (by decide) (fun _ => rfl) hF (fun v2 hF => ?_)
      refine j_aload_n (pc := 170) 2 X dX6_execute_170 rfl ?_
      refine j_getr (pc := 171) X dX6_execute_171 (hz _ sh_147) fl_X6_9 rfl ?_
      refine j_iload_n (pc := 174) 1 X dX6_execute_174 rfl ?_
      refine j_iald (pc := 175) X dX6_execute_175 (hz _ sh_148) hF (fun hF => ?_)
      refine j_istore (pc := 176) (fun y => [(9, .int y), (8, .int v2), (3, .int v1), (0, .ref (Z.2.1 147)), (2, .int x2), (4, .int x4), (5, .int x5), (7, .int x7)]) X dX6_execute_176 (by decide) (fun _ => rfl) hF (fun v3 hF => ?_)
      refine j_iload (pc := 178) 6 X dX6_execute_178 rfl ?_
      refine j_bipush (pc := 180) 9 X dX6_execute_180 rfl ?_
      refine j_icmp_lt (pc := 182) 196 X dX6_execute_182 rfl hF (fun hF => ?_) (fun hF => ?_)
      · refine j_lv [(0, .ref (Z.2.1 147)), (2, .int x2), (3, .int v1), (4, .int x4), (5, .int x5), (8, .int v2), (9, .int v3)] [3, 4, 2, 5, 6, 1, 0] rfl ?_
        exact BX6_execute_196 X E hz r14 hr14 x2 v1 x4 x5 v2 v3 h hF
      · refine j_iload (pc := 185) 6 X dX6_execute_185 rfl ?_
        refine j_bipush (pc := 187) 12 X dX6_execute_187 rfl ?_
        refine j_icmp_gt (pc := 189) 196 X dX6_execute_189 rfl hF (fun hF => ?_) (fun hF => ?_)
        · refine j_lv [(0, .ref (Z.2.1 147)), (2, .int x2), (3, .int v1), (4, .int x4), (5, .int x5), (8, .int v2), (9, .int v3)] [3, 4, 2, 5, 6, 1, 0] rfl ?_
          exact BX6_execute_196 X E hz r14 hr14 x2 v1 x4 x5 v2 v3 h hF
        · refine j_iconst (pc := 192) 1 X dX6_execute_192 rfl ?_
          refine j_goto (pc := 193) 197 X dX6_execute_193 rfl ?_
          refine j_lv [(0, .ref (Z.2.1 147)), (2, .int x2), (3, .int v1), (4, .int x4), (5, .int x5), (8, .int v2), (9, .int v3)] [3, 4, 2, 5, 6, 1, 0] rfl ?_
          exact BX6_execute_197 X E hz r14 hr14 x2 v1 x4 x5 v2 v3 1 h hF
def bX6_execute_114  (r14 : Int32 → Int32 → Int32 → Hp → Option (Int32 × Hp)) (x2 : Int32) (x3 : Int32) (x4 : Int32) (x5 : Int32) (x7 : Int32) (h : Hp) : Option (Int32 × Hp) := (if x5 = 27 then (if x3 < 1 then bX6_execute_147 r14 x2 x3 x4 x5 x7 h else ck (inb (x3 - 1) 64) (ck (inb (x3 - 1) 64) (lt (wI h 148 (ix (x3 - 1)) ((1 : Int32) - (h.1 148 (ix (x3 - 1))))) (fun h1 => bX6_execute_235 r14 x2 x3 x4 h1)))) else bX6_execute_147 r14 x2 x3 x4 x5 x7 h)
set_option maxRecDepth 20000 in
theorem BX6_execute_114 {Z : ZT} {G : GT} {r : Int32} {hr : Hp} (X : CX Z G cX6_execute RX6 11 1) (E : RX Z G (some .int) (some (.int r)) hr) (hz : HZ Z) (r14 : Int32 → Int32 → Int32 → Hp → Option (Int32 × Hp)) (hr14 : ∀ (x2 : Int32) (x3 : Int32) (x4 : Int32) (h : Hp), r14 x2 x3 x4 h = some (r, hr) → J Z G 11 h 14 [(0, .ref (Z.2.1 147)), (2, .int x2), (3, .int x3), (4, .int x4)] []) (x2 : Int32) (x3 : Int32) (x4 : Int32) (x5 : Int32) (x7 : Int32) (h : Hp) (hF : bX6_execute_114  r14 x2 x3 x4 x5 x7 h = some (r, hr)) : J Z G 11 h 114 [(0, .ref (Z.2.1 147)), (2, .int x2), (3, .int x3), (4, .int x4), (5, .int x5), (7, .int x7)] [] := by
  unfold bX6_execute_114 at hF
  refine j_iload (pc := 114) 4 X dX6_execute_114 rfl ?_
  refine j_bipush (pc := 116) 27 X dX6_execute_116 rfl ?_
  refine j_icmp_ne (pc := 118) 147 X dX6_execute_118 rfl hF (fun hF => ?_) (fun hF => ?_)
  · exact BX6_execute_147 X E hz r14 hr14 x2 x3 x4 x5 x7 h hF
  · refine j_iload_n (pc := 121) 2 X dX6_execute_121 rfl ?_
    refine j_iconst (pc := 122) 1 X dX6_execute_122 rfl ?_
    refine j_icmp_lt (pc := 123) 147 X dX6_execute_123 rfl hF (fun hF => ?_) (fun hF => ?_)
    · exact BX6_execute_147 X E hz r14 hr14 x2 x3 x4 x5 x7 h hF
    · refine j_aload_n (pc := 126) 0 X dX6_execute_126 rfl ?_
      refine j_getr (pc := 127) X dX6_execute_127 (hz _ sh_147) fl_X6_9 rfl ?_
      refine j_iload_n (pc := 130) 2 X dX6_execute_130 rfl ?_
      refine j_iconst (pc := 131) 1 X dX6_execute_131 rfl ?_
      refine j_isub (pc := 132) X dX6_execute_132 ?_
      refine j_iconst (pc := 133) 1 X dX6_execute_133 rfl ?_
      refine j_aload_n (pc := 134) 0 X dX6_execute_134 rfl ?_
      refine j_getr (pc := 135) X dX6_execute_135 (hz _ sh_147) fl_X6_9 rfl ?_
      refine j_iload_n (pc := 138) 2 X dX6_execute_138 rfl ?_
      refine j_iconst (pc := 139) 1 X dX6_execute_139 rfl ?_
      refine j_isub (pc := 140) X dX6_execute_140 ?_
      refine j_iald (pc := 141) X dX6_execute_141 (hz _ sh_148) hF (fun hF => ?_)
      refine j_isub (pc := 142) X dX6_execute_142 ?_
      refine j_iast (pc := 143) X dX6_execute_143 (hz _ sh_148) hF (fun h1 hF => ?_)
      refine j_goto (pc := 144) 235 X dX6_execute_144 rfl ?_
      refine j_lv [(0, .ref (Z.2.1 147)), (2, .int x2), (3, .int x3), (4, .int x4)] [0, 1, 2, 3] rfl ?_
      exact BX6_execute_235 X E hz r14 hr14 x2 x3 x4 h1 hF
def bX6_execute_81  (r14 : Int32 → Int32 → Int32 → Hp → Option (Int32 × Hp)) (x2 : Int32) (x3 : Int32) (x4 : Int32) (x5 : Int32) (x6 : Int32) (s0 : Int32) (h : Hp) : Option (Int32 × Hp) := lt s0 (fun v1 => (if v1 = 0 then bX6_execute_114 r14 x2 x3 x4 x5 v1 h else (if 64 ≤ x3 then bX6_execute_114 r14 x2 x3 x4 x5 v1 h else bi (fX6_valueOf x5 x6 h) (fun w3 h2 => ck (inb x3 64) (lt (wI h2 148 (ix x3) w3) (fun h4 => lt (x3 + 1) (fun v5 => bX6_execute_235 r14 x2 v5 x4 h4)))))))
set_option maxRecDepth 20000 in
theorem BX6_execute_81 {Z : ZT} {G : GT} {r : Int32} {hr : Hp} (X : CX Z G cX6_execute RX6 11 1) (E : RX Z G (some .int) (some (.int r)) hr) (hz : HZ Z) (r14 : Int32 → Int32 → Int32 → Hp → Option (Int32 × Hp)) (hr14 : ∀ (x2 : Int32) (x3 : Int32) (x4 : Int32) (h : Hp), r14 x2 x3 x4 h = some (r, hr) → J Z G 11 h 14 [(0, .ref (Z.2.1 147)), (2, .int x2), (3, .int x3), (4, .int x4)] []) (x2 : Int32) (x3 : Int32) (x4 : Int32) (x5 : Int32) (x6 : Int32) (s0 : Int32) (h : Hp) (hF : bX6_execute_81  r14 x2 x3 x4 x5 x6 s0 h = some (r, hr)) : J Z G 11 h 81 [(0, .ref (Z.2.1 147)), (2, .int x2), (3, .int x3), (4, .int x4), (5, .int x5), (6, .int x6)] [.int s0] := by
  unfold bX6_execute_81 at hF
  refine j_istore (pc := 81) (fun y => [(7, .int y), (0, .ref (Z.2.1 147)), (2, .int x2), (3, .int x3), (4, .int x4), (5, .int x5), (6, .int x6)]) X dX6_execute_81 (by decide) (fun _ => rfl) hF (fun v1 hF => ?_)
  refine j_iload (pc := 83) 0 X dX6_execute_83 rfl ?_
  refine j_if_eq (pc := 85) 114 X dX6_execute_85 rfl hF (fun hF => ?_) (fun hF => ?_)
  · refine j_lv [(0, .ref (Z.2.1 147)), (2, .int x2), (3, .int x3), (4, .int x4), (5, .int x5), (7, .int v1)] [1, 2, 3, 4, 5, 0] rfl ?_
    exact BX6_execute_114 X E hz r14 hr14 x2 x3 x4 x5 v1 h hF
  · refine j_iload_n (pc := 88) 3 X dX6_execute_88 rfl ?_
    refine j_bipush (pc := 89) 64 X dX6_execute_89 rfl ?_
    refine j_icmp_ge (pc := 91) 114 X dX6_execute_91 rfl hF (fun hF => ?_) (fun hF => ?_)
    · refine j_lv [(0, .ref (Z.2.1 147)), (2, .int x2), (3, .int x3), (4, .int x4), (5, .int x5), (7, .int v1)] [1, 2, 3, 4, 5, 0] rfl ?_
      exact BX6_execute_114 X E hz r14 hr14 x2 x3 x4 x5 v1 h hF
    · refine j_aload_n (pc := 94) 1 X dX6_execute_94 rfl ?_
      refine j_getr (pc := 95) X dX6_execute_95 (hz _ sh_147) fl_X6_9 rfl ?_
      refine j_iload_n (pc := 98) 3 X dX6_execute_98 rfl ?_
      refine j_aload_n (pc := 99) 1 X dX6_execute_99 rfl ?_
      refine j_iload (pc := 100) 5 X dX6_execute_100 rfl ?_
      refine j_iload (pc := 102) 6 X dX6_execute_102 rfl ?_
      refine j_cVi (pc := 104) (As := [.int x5, .int x6]) (rest := [.int x3, .ref (Z.2.1 148)]) X dX6_execute_104 ml_X6_83 ck_X6_valueOf cv_X6_valueOf (hz _ sh_147) rfl (Nat.le_of_ble_eq_true rfl) rfl (Nat.le_of_ble_eq_true rfl) rfl hF (tX6_valueOf Z x5 x6 hz h) (fun w3 h2 hF => ?_)
      refine j_iast (pc := 107) X dX6_execute_107 (hz _ sh_148) hF (fun h4 hF => ?_)
      refine j_iinc (pc := 108) 3 (x3 + 1) (fun y => [(3, .int y), (7, .int v1), (0, .ref (Z.2.1 147)), (2, .int x2), (4, .int x4), (5, .int x5), (6, .int x6)]) X dX6_execute_108 rfl rfl (by decide) (fun _ => rfl) hF (fun v5 hF => ?_)
      refine j_goto (pc := 111) 235 X dX6_execute_111 rfl ?_
      refine j_lv [(0, .ref (Z.2.1 147)), (2, .int x2), (3, .int v5), (4, .int x4)] [2, 3, 0, 4] rfl ?_
      exact BX6_execute_235 X E hz r14 hr14 x2 v5 x4 h4 hF
def bX6_execute_76  (r14 : Int32 → Int32 → Int32 → Hp → Option (Int32 × Hp)) (x2 : Int32) (x3 : Int32) (x4 : Int32) (x5 : Int32) (x6 : Int32) (h : Hp) : Option (Int32 × Hp) := bX6_execute_81 r14 x2 x3 x4 x5 x6 1 h
set_option maxRecDepth 20000 in
theorem BX6_execute_76 {Z : ZT} {G : GT} {r : Int32} {hr : Hp} (X : CX Z G cX6_execute RX6 11 1) (E : RX Z G (some .int) (some (.int r)) hr) (hz : HZ Z) (r14 : Int32 → Int32 → Int32 → Hp → Option (Int32 × Hp)) (hr14 : ∀ (x2 : Int32) (x3 : Int32) (x4 : Int32) (h : Hp), r14 x2 x3 x4 h = some (r, hr) → J Z G 11 h 14 [(0, .ref (Z.2.1 147)), (2, .int x2), (3, .int x3), (4, .int x4)] []) (x2 : Int32) (x3 : Int32) (x4 : Int32) (x5 : Int32) (x6 : Int32) (h : Hp) (hF : bX6_execute_76  r14 x2 x3 x4 x5 x6 h = some (r, hr)) : J Z G 11 h 76 [(0, .ref (Z.2.1 147)), (2, .int x2), (3, .int x3), (4, .int x4), (5, .int x5), (6, .int x6)] [] := by
  unfold bX6_execute_76 at hF
  refine j_iconst (pc := 76) 1 X dX6_execute_76 rfl ?_
  refine j_goto (pc := 77) 81 X dX6_execute_77 rfl ?_
  exact BX6_execute_81 X E hz r14 hr14 x2 x3 x4 x5 x6 1 h hF
def bX6_execute_241    (h : Hp) : Option (Int32 × Hp) := ck (inb 0 64) (some ((h.1 148 (ix 0)), h))
set_option maxRecDepth 20000 in
theorem BX6_execute_241 {Z : ZT} {G : GT} {r : Int32} {hr : Hp} (X : CX Z G cX6_execute RX6 11 1) (E : RX Z G (some .int) (some (.int r)) hr) (hz : HZ Z)   (h : Hp) (hF : bX6_execute_241    h = some (r, hr)) : J Z G 11 h 241 [(0, .ref (Z.2.1 147))] [] := by
  unfold bX6_execute_241 at hF
  refine j_aload_n (pc := 241) 0 X dX6_execute_241 rfl ?_
  refine j_getr (pc := 242) X dX6_execute_242 (hz _ sh_147) fl_X6_9 rfl ?_
  refine j_iconst (pc := 245) 0 X dX6_execute_245 rfl ?_
  refine j_iald (pc := 246) X dX6_execute_246 (hz _ sh_148) hF (fun hF => ?_)
  exact j_iret (pc := 247) X E dX6_execute_247 hF
def bX6_execute_14   (r14 : Int32 → Int32 → Int32 → Hp → Option (Int32 × Hp)) (x2 : Int32) (x3 : Int32) (x4 : Int32) (h : Hp) : Option (Int32 × Hp) := (if x2 ≤ x4 then bX6_execute_241 h else (if (h.1 108 11) ≤ x4 then bX6_execute_241 h else ck (inb x4 400) (lt ((h.1 112 (ix x4)) &&& 255) (fun v1 => ck (inb x4 400) (lt ((h.1 112 (ix x4)) >>> ((8 : Int32) &&& 31)) (fun v2 => (if v1 = 3 then bX6_execute_76 r14 x2 x3 x4 v1 v2 h else (if v1 < 28 then bX6_execute_81 r14 x2 x3 x4 v1 v2 0 h else bX6_execute_76 r14 x2 x3 x4 v1 v2 h))))))))
def lX6_execute_14   : Nat → Int32 → Int32 → Int32 → Hp → Option (Int32 × Hp)
  | 0 => fun _ _ _ _ => none
  | n + 1 => bX6_execute_14   (lX6_execute_14   n)
set_option maxRecDepth 20000 in
theorem BX6_execute_14 {Z : ZT} {G : GT} {r : Int32} {hr : Hp} (X : CX Z G cX6_execute RX6 11 1) (E : RX Z G (some .int) (some (.int r)) hr) (hz : HZ Z)  (r14 : Int32 → Int32 → Int32 → Hp → Option (Int32 × Hp)) (hr14 : ∀ (x2 : Int32) (x3 : Int32) (x4 : Int32) (h : Hp), r14 x2 x3 x4 h = some (r, hr) → J Z G 11 h 14 [(0, .ref (Z.2.1 147)), (2, .int x2), (3, .int x3), (4, .int x4)] []) (x2 : Int32) (x3 : Int32) (x4 : Int32) (h : Hp) (hF : bX6_execute_14   r14 x2 x3 x4 h = some (r, hr)) : J Z G 11 h 14 [(0, .ref (Z.2.1 147)), (2, .int x2), (3, .int x3), (4, .int x4)] [] := by
  unfold bX6_execute_14 at hF
  refine j_iload (pc := 14) 3 X dX6_execute_14 rfl ?_
  refine j_iload_n (pc := 16) 1 X dX6_execute_16 rfl ?_
  refine j_icmp_ge (pc := 17) 241 X dX6_execute_17 rfl hF (fun hF => ?_) (fun hF => ?_)
  · refine j_lv [(0, .ref (Z.2.1 147))] [0] rfl ?_
    exact BX6_execute_241 X E hz h hF
  · refine j_iload (pc := 20) 3 X dX6_execute_20 rfl ?_
    refine j_aload_n (pc := 22) 0 X dX6_execute_22 rfl ?_
    refine j_getr (pc := 23) X dX6_execute_23 (hz _ sh_147) fl_X6_24 rfl ?_
    refine j_geti (pc := 26) X dX6_execute_26 (hz _ sh_108) fl_X6_77 rfl ?_
    refine j_icmp_ge (pc := 29) 241 X dX6_execute_29 rfl hF (fun hF => ?_) (fun hF => ?_)
    · refine j_lv [(0, .ref (Z.2.1 147))] [0] rfl ?_
      exact BX6_execute_241 X E hz h hF
    · refine j_aload_n (pc := 32) 0 X dX6_execute_32 rfl ?_
      refine j_getr (pc := 33) X dX6_execute_33 (hz _ sh_147) fl_X6_24 rfl ?_
      refine j_getr (pc := 36) X dX6_execute_36 (hz _ sh_108) fl_X6_80 rfl ?_
      refine j_iload (pc := 39) 3 X dX6_execute_39 rfl ?_
      refine j_iald (pc := 41) X dX6_execute_41 (hz _ sh_112) hF (fun hF => ?_)
      refine j_sipush (pc := 42) 255 X dX6_execute_42 rfl ?_
      refine j_iand (pc := 45) X dX6_execute_45 ?_
      refine j_istore (pc := 46) (fun y => [(5, .int y), (0, .ref (Z.2.1 147)), (2, .int x2), (3, .int x3), (4, .int x4)]) X dX6_execute_46 (by decide) (fun _ => rfl) hF (fun v1 hF => ?_)
      refine j_aload_n (pc := 48) 1 X dX6_execute_48 rfl ?_
      refine j_getr (pc := 49) X dX6_execute_49 (hz _ sh_147) fl_X6_24 rfl ?_
      refine j_getr (pc := 52) X dX6_execute_52 (hz _ sh_108) fl_X6_80 rfl ?_
      refine j_iload (pc := 55) 4 X dX6_execute_55 rfl ?_
      refine j_iald (pc := 57) X dX6_execute_57 (hz _ sh_112) hF (fun hF => ?_)
      refine j_bipush (pc := 58) 8 X dX6_execute_58 rfl ?_
      refine j_ishr (pc := 60) X dX6_execute_60 ?_
      refine j_istore (pc := 61) (fun y => [(6, .int y), (5, .int v1), (0, .ref (Z.2.1 147)), (2, .int x2), (3, .int x3), (4, .int x4)]) X dX6_execute_61 (by decide) (fun _ => rfl) hF (fun v2 hF => ?_)
      refine j_iload (pc := 63) 1 X dX6_execute_63 rfl ?_
      refine j_iconst (pc := 65) 3 X dX6_execute_65 rfl ?_
      refine j_icmp_eq (pc := 66) 76 X dX6_execute_66 rfl hF (fun hF => ?_) (fun hF => ?_)
      · refine j_lv [(0, .ref (Z.2.1 147)), (2, .int x2), (3, .int x3), (4, .int x4), (5, .int v1), (6, .int v2)] [2, 3, 4, 5, 1, 0] rfl ?_
        exact BX6_execute_76 X E hz r14 hr14 x2 x3 x4 v1 v2 h hF
      · refine j_iload (pc := 69) 1 X dX6_execute_69 rfl ?_
        refine j_bipush (pc := 71) 28 X dX6_execute_71 rfl ?_
        refine j_icmp_lt (pc := 73) 80 X dX6_execute_73 rfl hF (fun hF => ?_) (fun hF => ?_)
        · refine j_iconst (pc := 80) 0 X dX6_execute_80 rfl ?_
          refine j_lv [(0, .ref (Z.2.1 147)), (2, .int x2), (3, .int x3), (4, .int x4), (5, .int v1), (6, .int v2)] [2, 3, 4, 5, 1, 0] rfl ?_
          exact BX6_execute_81 X E hz r14 hr14 x2 x3 x4 v1 v2 0 h hF
        · refine j_lv [(0, .ref (Z.2.1 147)), (2, .int x2), (3, .int x3), (4, .int x4), (5, .int v1), (6, .int v2)] [2, 3, 4, 5, 1, 0] rfl ?_
          exact BX6_execute_76 X E hz r14 hr14 x2 x3 x4 v1 v2 h hF
theorem LX6_execute_14 {Z : ZT} {G : GT} {r : Int32} {hr : Hp} (X : CX Z G cX6_execute RX6 11 1) (E : RX Z G (some .int) (some (.int r)) hr) (hz : HZ Z)  : ∀ (n : Nat) (x2 : Int32) (x3 : Int32) (x4 : Int32) (h : Hp), lX6_execute_14   n x2 x3 x4 h = some (r, hr) → J Z G 11 h 14 [(0, .ref (Z.2.1 147)), (2, .int x2), (3, .int x3), (4, .int x4)] [] := by
  intro n
  induction n with
  | zero => intro x2 x3 x4 h hF; cases hF
  | succ n ih => intro x2 x3 x4 h hF; exact BX6_execute_14 X E hz  (lX6_execute_14   n) ih x2 x3 x4 h hF
def fX6_execute (a1 : Int32) (a2 : Int32) (h : Hp) : Option (Int32 × Hp) := lt 0 (fun v1 => ck (zb 0) (lt (wI h 147 7 0) (fun h2 => lt (if 0 < a1 then a1 else 0) (fun v3 => lX6_execute_14 FU a2 v1 v3 h2))))
set_option maxRecDepth 20000 in
theorem tX6_execute (Z : ZT) (a1 : Int32) (a2 : Int32) (hz : HZ Z) (h : Hp) (r : Int32) (hr : Hp) (hF : fX6_execute a1 a2 h = some (r, hr)) : MC Z yX6_execute cX6_execute 11 (some .int) 1 [.ref (Z.2.1 147), .int a1, .int a2] h (some (.int r)) hr := by
  unfold fX6_execute at hF
  refine mc_start (by decide) (Nat.le_of_ble_eq_true rfl) (fun G X E => ?_)
  refine j_iconst (pc := 0) 0 X dX6_execute_0 rfl ?_
  refine j_istore_n (pc := 1) (fun y => [(3, .int y), (0, .ref (Z.2.1 147)), (1, .int a1), (2, .int a2)]) X dX6_execute_1 (by decide) (fun _ => rfl) hF (fun v1 hF => ?_)
  refine j_aload_n (pc := 2) 1 X dX6_execute_2 rfl ?_
  refine j_iconst (pc := 3) 0 X dX6_execute_3 rfl ?_
  refine j_putz (pc := 4) X dX6_execute_4 (hz _ sh_147) fp_X6_54 rfl hF (fun h2 hF => ?_)
  refine j_iconst (pc := 7) 0 X dX6_execute_7 rfl ?_
  refine j_iload_n (pc := 8) 2 X dX6_execute_8 rfl ?_
  refine j_mmax (pc := 9) X dX6_execute_9 ml_X6_72 mm_max (Nat.le_of_ble_eq_true rfl) (Nat.le_of_ble_eq_true rfl) ?_
  refine j_istore (pc := 12) (fun y => [(4, .int y), (3, .int v1), (0, .ref (Z.2.1 147)), (1, .int a1), (2, .int a2)]) X dX6_execute_12 (by decide) (fun _ => rfl) hF (fun v3 hF => ?_)
  refine j_lv [(0, .ref (Z.2.1 147)), (2, .int a2), (3, .int v1), (4, .int v3)] [2, 4, 1, 0] rfl ?_
  exact LX6_execute_14 X E hz FU a2 v1 v3 h2 hF
theorem dX6_holds_0 : decode cX6_holds 0 = .ok (.aload_n 1, 1) := by decide +kernel
theorem dX6_holds_1 : decode cX6_holds 1 = .ok (.getfield 58, 3) := by decide +kernel
theorem dX6_holds_4 : decode cX6_holds 4 = .ok (.aload_n 1, 1) := by decide +kernel
theorem dX6_holds_5 : decode cX6_holds 5 = .ok (.getfield 63, 3) := by decide +kernel
theorem dX6_holds_8 : decode cX6_holds 8 = .ok (.if_icmp .lt 5, 3) := by decide +kernel
theorem dX6_holds_11 : decode cX6_holds 11 = .ok (.iconst 1, 1) := by decide +kernel
theorem dX6_holds_12 : decode cX6_holds 12 = .ok (.ireturn, 1) := by decide +kernel
theorem dX6_holds_13 : decode cX6_holds 13 = .ok (.aload_n 0, 1) := by decide +kernel
theorem dX6_holds_14 : decode cX6_holds 14 = .ok (.getfield 15, 3) := by decide +kernel
theorem dX6_holds_17 : decode cX6_holds 17 = .ok (.iconst 0, 1) := by decide +kernel
theorem dX6_holds_18 : decode cX6_holds 18 = .ok (.iload_n 2, 1) := by decide +kernel
theorem dX6_holds_19 : decode cX6_holds 19 = .ok (.iastore, 1) := by decide +kernel
theorem dX6_holds_20 : decode cX6_holds 20 = .ok (.aload_n 0, 1) := by decide +kernel
theorem dX6_holds_21 : decode cX6_holds 21 = .ok (.getfield 15, 3) := by decide +kernel
theorem dX6_holds_24 : decode cX6_holds 24 = .ok (.iconst 1, 1) := by decide +kernel
theorem dX6_holds_25 : decode cX6_holds 25 = .ok (.iconst 0, 1) := by decide +kernel
theorem dX6_holds_26 : decode cX6_holds 26 = .ok (.iastore, 1) := by decide +kernel
theorem dX6_holds_27 : decode cX6_holds 27 = .ok (.aload_n 0, 1) := by decide +kernel
theorem dX6_holds_28 : decode cX6_holds 28 = .ok (.getfield 15, 3) := by decide +kernel
theorem dX6_holds_31 : decode cX6_holds 31 = .ok (.iconst 2, 1) := by decide +kernel
theorem dX6_holds_32 : decode cX6_holds 32 = .ok (.iconst 0, 1) := by decide +kernel
theorem dX6_holds_33 : decode cX6_holds 33 = .ok (.iastore, 1) := by decide +kernel
theorem dX6_holds_34 : decode cX6_holds 34 = .ok (.aload_n 0, 1) := by decide +kernel
theorem dX6_holds_35 : decode cX6_holds 35 = .ok (.getfield 15, 3) := by decide +kernel
theorem dX6_holds_38 : decode cX6_holds 38 = .ok (.iconst 3, 1) := by decide +kernel
theorem dX6_holds_39 : decode cX6_holds 39 = .ok (.iconst 0, 1) := by decide +kernel
theorem dX6_holds_40 : decode cX6_holds 40 = .ok (.iastore, 1) := by decide +kernel
theorem dX6_holds_41 : decode cX6_holds 41 = .ok (.aload_n 0, 1) := by decide +kernel
theorem dX6_holds_42 : decode cX6_holds 42 = .ok (.iload_n 3, 1) := by decide +kernel
theorem dX6_holds_43 : decode cX6_holds 43 = .ok (.putfield 66, 3) := by decide +kernel
theorem dX6_holds_46 : decode cX6_holds 46 = .ok (.aload_n 0, 1) := by decide +kernel
theorem dX6_holds_47 : decode cX6_holds 47 = .ok (.iload 4, 2) := by decide +kernel
theorem dX6_holds_49 : decode cX6_holds 49 = .ok (.putfield 69, 3) := by decide +kernel
theorem dX6_holds_52 : decode cX6_holds 52 = .ok (.aload_n 0, 1) := by decide +kernel
theorem dX6_holds_53 : decode cX6_holds 53 = .ok (.aload_n 1, 1) := by decide +kernel
theorem dX6_holds_54 : decode cX6_holds 54 = .ok (.getfield 58, 3) := by decide +kernel
theorem dX6_holds_57 : decode cX6_holds 57 = .ok (.aload_n 1, 1) := by decide +kernel
theorem dX6_holds_58 : decode cX6_holds 58 = .ok (.getfield 63, 3) := by decide +kernel
theorem dX6_holds_61 : decode cX6_holds 61 = .ok (.invokevirtual 51, 3) := by decide +kernel
theorem dX6_holds_64 : decode cX6_holds 64 = .ok (.ifCond .eq 7, 3) := by decide +kernel
theorem dX6_holds_67 : decode cX6_holds 67 = .ok (.iconst 1, 1) := by decide +kernel
theorem dX6_holds_68 : decode cX6_holds 68 = .ok (.goto 4, 3) := by decide +kernel
theorem dX6_holds_71 : decode cX6_holds 71 = .ok (.iconst 0, 1) := by decide +kernel
theorem dX6_holds_72 : decode cX6_holds 72 = .ok (.ireturn, 1) := by decide +kernel
def fX6_holds (u1 : Nat) (a2 : Int32) (a3 : Int32) (a4 : Int32) (h : Hp) : Option (Int32 × Hp) := (if (h.1 u1 5) < (h.1 u1 6) then ck (inb 0 4) (lt (wI h 149 (ix 0) a2) (fun h1 => ck (inb 1 4) (lt (wI h1 149 (ix 1) 0) (fun h2 => ck (inb 2 4) (lt (wI h2 149 (ix 2) 0) (fun h3 => ck (inb 3 4) (lt (wI h3 149 (ix 3) 0) (fun h4 => lt (wI h4 147 5 a3) (fun h5 => lt (wI h5 147 6 a4) (fun h6 => bi (fX6_execute (h6.1 u1 5) (h6.1 u1 6) h6) (fun w8 h7 => (if w8 = 0 then ck (zb 0) (some (0, h7)) else ck (zb 1) (some (1, h7)))))))))))))) else ck (zb 1) (some (1, h)))
set_option maxRecDepth 20000 in
theorem tX6_holds (Z : ZT) (u1 : Nat) (hu1 : isL u1) (a2 : Int32) (a3 : Int32) (a4 : Int32) (hz : HZ Z) (h : Hp) (r : Int32) (hr : Hp) (hF : fX6_holds u1 a2 a3 a4 h = some (r, hr)) : MC Z yX6_holds cX6_holds 5 (some .boolean) 2 [.ref (Z.2.1 147), .ref (Z.2.1 u1), .int a2, .int a3, .int a4] h (some (.int r)) hr := by
  unfold fX6_holds at hF
  refine mc_start (by decide) (Nat.le_of_ble_eq_true rfl) (fun G X E => ?_)
  refine j_aload_n (pc := 0) 1 X dX6_holds_0 rfl ?_
  refine j_geti (pc := 1) X dX6_holds_1 (hz _ (shL hu1)) fl_X6_58 rfl ?_
  refine j_aload_n (pc := 4) 1 X dX6_holds_4 rfl ?_
  refine j_geti (pc := 5) X dX6_holds_5 (hz _ (shL hu1)) fl_X6_63 rfl ?_
  refine j_icmp_lt (pc := 8) 13 X dX6_holds_8 rfl hF (fun hF => ?_) (fun hF => ?_)
  · refine j_aload_n (pc := 13) 0 X dX6_holds_13 rfl ?_
    refine j_getr (pc := 14) X dX6_holds_14 (hz _ sh_147) fl_X6_15 rfl ?_
    refine j_iconst (pc := 17) 0 X dX6_holds_17 rfl ?_
    refine j_iload_n (pc := 18) 2 X dX6_holds_18 rfl ?_
    refine j_iast (pc := 19) X dX6_holds_19 (hz _ sh_149) hF (fun h1 hF => ?_)
    refine j_aload_n (pc := 20) 0 X dX6_holds_20 rfl ?_
    refine j_getr (pc := 21) X dX6_holds_21 (hz _ sh_147) fl_X6_15 rfl ?_
    refine j_iconst (pc := 24) 1 X dX6_holds_24 rfl ?_
    refine j_iconst (pc := 25) 0 X dX6_holds_25 rfl ?_
    refine j_iast (pc := 26) X dX6_holds_26 (hz _ sh_149) hF (fun h2 hF => ?_)
    refine j_aload_n (pc := 27) 0 X dX6_holds_27 rfl ?_
    refine j_getr (pc := 28) X dX6_holds_28 (hz _ sh_147) fl_X6_15 rfl ?_
    refine j_iconst (pc := 31) 2 X dX6_holds_31 rfl ?_
    refine j_iconst (pc := 32) 0 X dX6_holds_32 rfl ?_
    refine j_iast (pc := 33) X dX6_holds_33 (hz _ sh_149) hF (fun h3 hF => ?_)
    refine j_aload_n (pc := 34) 0 X dX6_holds_34 rfl ?_
    refine j_getr (pc := 35) X dX6_holds_35 (hz _ sh_147) fl_X6_15 rfl ?_
    refine j_iconst (pc := 38) 3 X dX6_holds_38 rfl ?_
    refine j_iconst (pc := 39) 0 X dX6_holds_39 rfl ?_
    refine j_iast (pc := 40) X dX6_holds_40 (hz _ sh_149) hF (fun h4 hF => ?_)
    refine j_aload_n (pc := 41) 0 X dX6_holds_41 rfl ?_
    refine j_iload_n (pc := 42) 3 X dX6_holds_42 rfl ?_
    refine j_puti (pc := 43) X dX6_holds_43 (hz _ sh_147) fp_X6_66 rfl hF (fun h5 hF => ?_)
    refine j_aload_n (pc := 46) 0 X dX6_holds_46 rfl ?_
    refine j_iload (pc := 47) 4 X dX6_holds_47 rfl ?_
    refine j_puti (pc := 49) X dX6_holds_49 (hz _ sh_147) fp_X6_69 rfl hF (fun h6 hF => ?_)
    refine j_aload_n (pc := 52) 0 X dX6_holds_52 rfl ?_
    refine j_aload_n (pc := 53) 1 X dX6_holds_53 rfl ?_
    refine j_geti (pc := 54) X dX6_holds_54 (hz _ (shL hu1)) fl_X6_58 rfl ?_
    refine j_aload_n (pc := 57) 1 X dX6_holds_57 rfl ?_
    refine j_geti (pc := 58) X dX6_holds_58 (hz _ (shL hu1)) fl_X6_63 rfl ?_
    refine j_cVi (pc := 61) (As := [.int (h6.1 u1 5), .int (h6.1 u1 6)]) (rest := []) X dX6_holds_61 ml_X6_51 ck_X6_execute cv_X6_execute (hz _ sh_147) rfl (Nat.le_of_ble_eq_true rfl) rfl (Nat.le_of_ble_eq_true rfl) rfl hF (tX6_execute Z (h6.1 u1 5) (h6.1 u1 6) hz h6) (fun w8 h7 hF => ?_)
    refine j_if_eq (pc := 64) 71 X dX6_holds_64 rfl hF (fun hF => ?_) (fun hF => ?_)
    · refine j_iconst (pc := 71) 0 X dX6_holds_71 rfl ?_
      exact j_zret (pc := 72) X E dX6_holds_72 hF
    · refine j_iconst (pc := 67) 1 X dX6_holds_67 rfl ?_
      refine j_goto (pc := 68) 72 X dX6_holds_68 rfl ?_
      exact j_zret (pc := 72) X E dX6_holds_72 hF
  · refine j_iconst (pc := 11) 1 X dX6_holds_11 rfl ?_
    exact j_zret (pc := 12) X E dX6_holds_12 hF
theorem dX1_floodShelf_0 : decode cX1_floodShelf 0 = .ok (.iconst 0, 1) := by decide +kernel
theorem dX1_floodShelf_1 : decode cX1_floodShelf 1 = .ok (.istore_n 3, 1) := by decide +kernel
theorem dX1_floodShelf_2 : decode cX1_floodShelf 2 = .ok (.iload_n 3, 1) := by decide +kernel
theorem dX1_floodShelf_3 : decode cX1_floodShelf 3 = .ok (.aload_n 0, 1) := by decide +kernel
theorem dX1_floodShelf_4 : decode cX1_floodShelf 4 = .ok (.getfield 33, 3) := by decide +kernel
theorem dX1_floodShelf_7 : decode cX1_floodShelf 7 = .ok (.getfield 51, 3) := by decide +kernel
theorem dX1_floodShelf_10 : decode cX1_floodShelf 10 = .ok (.if_icmp .ge 41, 3) := by decide +kernel
theorem dX1_floodShelf_13 : decode cX1_floodShelf 13 = .ok (.aload_n 0, 1) := by decide +kernel
theorem dX1_floodShelf_14 : decode cX1_floodShelf 14 = .ok (.getfield 9, 3) := by decide +kernel
theorem dX1_floodShelf_17 : decode cX1_floodShelf 17 = .ok (.iload_n 3, 1) := by decide +kernel
theorem dX1_floodShelf_18 : decode cX1_floodShelf 18 = .ok (.iaload, 1) := by decide +kernel
theorem dX1_floodShelf_19 : decode cX1_floodShelf 19 = .ok (.ifCond .ne 26, 3) := by decide +kernel
theorem dX1_floodShelf_22 : decode cX1_floodShelf 22 = .ok (.aload_n 0, 1) := by decide +kernel
theorem dX1_floodShelf_23 : decode cX1_floodShelf 23 = .ok (.getfield 33, 3) := by decide +kernel
theorem dX1_floodShelf_26 : decode cX1_floodShelf 26 = .ok (.getfield 57, 3) := by decide +kernel
theorem dX1_floodShelf_29 : decode cX1_floodShelf 29 = .ok (.iload_n 3, 1) := by decide +kernel
theorem dX1_floodShelf_30 : decode cX1_floodShelf 30 = .ok (.aaload, 1) := by decide +kernel
theorem dX1_floodShelf_31 : decode cX1_floodShelf 31 = .ok (.getfield 149, 3) := by decide +kernel
theorem dX1_floodShelf_34 : decode cX1_floodShelf 34 = .ok (.iload_n 1, 1) := by decide +kernel
theorem dX1_floodShelf_35 : decode cX1_floodShelf 35 = .ok (.if_icmp .ne 10, 3) := by decide +kernel
theorem dX1_floodShelf_38 : decode cX1_floodShelf 38 = .ok (.aload_n 0, 1) := by decide +kernel
theorem dX1_floodShelf_39 : decode cX1_floodShelf 39 = .ok (.iconst 4, 1) := by decide +kernel
theorem dX1_floodShelf_40 : decode cX1_floodShelf 40 = .ok (.iload_n 3, 1) := by decide +kernel
theorem dX1_floodShelf_41 : decode cX1_floodShelf 41 = .ok (.iload_n 2, 1) := by decide +kernel
theorem dX1_floodShelf_42 : decode cX1_floodShelf 42 = .ok (.invokevirtual 133, 3) := by decide +kernel
theorem dX1_floodShelf_45 : decode cX1_floodShelf 45 = .ok (.iinc 3 1, 3) := by decide +kernel
theorem dX1_floodShelf_48 : decode cX1_floodShelf 48 = .ok (.goto (-46), 3) := by decide +kernel
theorem dX1_floodShelf_51 : decode cX1_floodShelf 51 = .ok (.return_, 1) := by decide +kernel
def bX1_floodShelf_45 (o : Nat) (r2 : Int32 → Int32 → Int32 → Hp → Option (Hp)) (x1 : Int32) (x2 : Int32) (x3 : Int32) (h : Hp) : Option (Hp) := lt (x3 + 1) (fun v1 => r2 x1 x2 v1 h)
set_option maxRecDepth 20000 in
theorem BX1_floodShelf_45 {Z : ZT} {G : GT} {hr : Hp} (X : CX Z G cX1_floodShelf RX1 4 1) (E : RX Z G none (none) hr) (o : Nat) (ho : isC o) (hz : HZ Z) (r2 : Int32 → Int32 → Int32 → Hp → Option (Hp)) (hr2 : ∀ (x1 : Int32) (x2 : Int32) (x3 : Int32) (h : Hp), r2 x1 x2 x3 h = some hr → J Z G 4 h 2 [(0, .ref (Z.2.1 o)), (1, .int x1), (2, .int x2), (3, .int x3)] []) (x1 : Int32) (x2 : Int32) (x3 : Int32) (h : Hp) (hF : bX1_floodShelf_45 o r2 x1 x2 x3 h = some hr) : J Z G 4 h 45 [(0, .ref (Z.2.1 o)), (1, .int x1), (2, .int x2), (3, .int x3)] [] := by
  unfold bX1_floodShelf_45 at hF
  refine j_iinc (pc := 45) 3 (x3 + 1) (fun y => [(3, .int y), (0, .ref (Z.2.1 o)), (1, .int x1), (2, .int x2)]) X dX1_floodShelf_45 rfl rfl (by decide) (fun _ => rfl) hF (fun v1 hF => ?_)
  refine j_goto (pc := 48) 2 X dX1_floodShelf_48 rfl ?_
  refine j_lv [(0, .ref (Z.2.1 o)), (1, .int x1), (2, .int x2), (3, .int v1)] [1, 2, 3, 0] rfl ?_
  exact hr2 x1 x2 v1 h hF
def bX1_floodShelf_2 (o : Nat)  (r2 : Int32 → Int32 → Int32 → Hp → Option (Hp)) (x1 : Int32) (x2 : Int32) (x3 : Int32) (h : Hp) : Option (Hp) := (if (h.1 108 9) ≤ x3 then some h else ck (inb x3 10) ((if (h.1 (o + 1) (ix x3)) = 0 then ck (inb x3 10) ((if (h.1 (115 + ix x3) 2) = x1 then bv (fX1_endAs o 4 x3 x2 h) (fun h2 => bX1_floodShelf_45 o r2 x1 x2 x3 h2) else bX1_floodShelf_45 o r2 x1 x2 x3 h)) else bX1_floodShelf_45 o r2 x1 x2 x3 h)))
def lX1_floodShelf_2 (o : Nat)  : Nat → Int32 → Int32 → Int32 → Hp → Option (Hp)
  | 0 => fun _ _ _ _ => none
  | n + 1 => bX1_floodShelf_2 o  (lX1_floodShelf_2 o  n)
set_option maxRecDepth 20000 in
theorem BX1_floodShelf_2 {Z : ZT} {G : GT} {hr : Hp} (X : CX Z G cX1_floodShelf RX1 4 1) (E : RX Z G none (none) hr) (o : Nat) (ho : isC o) (hz : HZ Z)  (r2 : Int32 → Int32 → Int32 → Hp → Option (Hp)) (hr2 : ∀ (x1 : Int32) (x2 : Int32) (x3 : Int32) (h : Hp), r2 x1 x2 x3 h = some hr → J Z G 4 h 2 [(0, .ref (Z.2.1 o)), (1, .int x1), (2, .int x2), (3, .int x3)] []) (x1 : Int32) (x2 : Int32) (x3 : Int32) (h : Hp) (hF : bX1_floodShelf_2 o  r2 x1 x2 x3 h = some hr) : J Z G 4 h 2 [(0, .ref (Z.2.1 o)), (1, .int x1), (2, .int x2), (3, .int x3)] [] := by
  unfold bX1_floodShelf_2 at hF
  refine j_iload_n (pc := 2) 3 X dX1_floodShelf_2 rfl ?_
  refine j_aload_n (pc := 3) 0 X dX1_floodShelf_3 rfl ?_
  refine j_getr (pc := 4) X dX1_floodShelf_4 (hz _ (shC ho)) fl_X1_33 rfl ?_
  refine j_geti (pc := 7) X dX1_floodShelf_7 (hz _ sh_108) fl_X1_51 rfl ?_
  refine j_icmp_ge (pc := 10) 51 X dX1_floodShelf_10 rfl hF (fun hF => ?_) (fun hF => ?_)
  · exact j_vret (pc := 51) X E dX1_floodShelf_51 hF
  · refine j_aload_n (pc := 13) 0 X dX1_floodShelf_13 rfl ?_
    refine j_getr (pc := 14) X dX1_floodShelf_14 (hz _ (shC ho)) fl_X1_9 rfl ?_
    refine j_iload_n (pc := 17) 3 X dX1_floodShelf_17 rfl ?_
    refine j_iald (pc := 18) X dX1_floodShelf_18 (hz _ (shC_1 ho)) hF (fun hF => ?_)
    refine j_if_ne (pc := 19) 45 X dX1_floodShelf_19 rfl hF (fun hF => ?_) (fun hF => ?_)
    · exact BX1_floodShelf_45 X E o ho hz r2 hr2 x1 x2 x3 h hF
    · refine j_aload_n (pc := 22) 0 X dX1_floodShelf_22 rfl ?_
      refine j_getr (pc := 23) X dX1_floodShelf_23 (hz _ (shC ho)) fl_X1_33 rfl ?_
      refine j_getr (pc := 26) X dX1_floodShelf_26 (hz _ sh_108) fl_X1_57 rfl ?_
      refine j_iload_n (pc := 29) 3 X dX1_floodShelf_29 rfl ?_
      refine j_aald (pc := 30) (g := fun j => 115 + j) (C := "AfterOffice$Letter") X dX1_floodShelf_30 (hz _ sh_111) (fun _ => rfl) rfl al_111 hF (fun hb1 hF => ?_)
      refine j_geti (pc := 31) X dX1_floodShelf_31 (hz _ (shL (is_111 hb1))) fl_X1_149 rfl ?_
      refine j_iload_n (pc := 34) 1 X dX1_floodShelf_34 rfl ?_
      refine j_icmp_ne (pc := 35) 45 X dX1_floodShelf_35 rfl hF (fun hF => ?_) (fun hF => ?_)
      · exact BX1_floodShelf_45 X E o ho hz r2 hr2 x1 x2 x3 h hF
      · refine j_aload_n (pc := 38) 0 X dX1_floodShelf_38 rfl ?_
        refine j_iconst (pc := 39) 4 X dX1_floodShelf_39 rfl ?_
        refine j_iload_n (pc := 40) 3 X dX1_floodShelf_40 rfl ?_
        refine j_iload_n (pc := 41) 2 X dX1_floodShelf_41 rfl ?_
        refine j_cVv (pc := 42) (As := [.int 4, .int x3, .int x2]) (rest := []) X dX1_floodShelf_42 ml_X1_133 ck_X1_endAs cv_X1_endAs (hz _ (shC ho)) rfl (Nat.le_of_ble_eq_true rfl) rfl (Nat.le_of_ble_eq_true rfl) rfl hF (tX1_endAs Z o ho 4 x3 x2 hz h) (fun h2 hF => ?_)
        exact BX1_floodShelf_45 X E o ho hz r2 hr2 x1 x2 x3 h2 hF
theorem LX1_floodShelf_2 {Z : ZT} {G : GT} {hr : Hp} (X : CX Z G cX1_floodShelf RX1 4 1) (E : RX Z G none (none) hr) (o : Nat) (ho : isC o) (hz : HZ Z)  : ∀ (n : Nat) (x1 : Int32) (x2 : Int32) (x3 : Int32) (h : Hp), lX1_floodShelf_2 o  n x1 x2 x3 h = some hr → J Z G 4 h 2 [(0, .ref (Z.2.1 o)), (1, .int x1), (2, .int x2), (3, .int x3)] [] := by
  intro n
  induction n with
  | zero => intro x1 x2 x3 h hF; cases hF
  | succ n ih => intro x1 x2 x3 h hF; exact BX1_floodShelf_2 X E o ho hz  (lX1_floodShelf_2 o  n) ih x1 x2 x3 h hF
def fX1_floodShelf (o : Nat) (a1 : Int32) (a2 : Int32) (h : Hp) : Option (Hp) := lt 0 (fun v1 => lX1_floodShelf_2 o FU a1 a2 v1 h)
set_option maxRecDepth 20000 in
theorem tX1_floodShelf (Z : ZT) (o : Nat) (ho : isC o) (a1 : Int32) (a2 : Int32) (hz : HZ Z) (h : Hp) (hr : Hp) (hF : fX1_floodShelf o a1 a2 h = some hr) : MC Z yX1_floodShelf cX1_floodShelf 4 none 1 [.ref (Z.2.1 o), .int a1, .int a2] h (none) hr := by
  unfold fX1_floodShelf at hF
  refine mc_start (by decide) (Nat.le_of_ble_eq_true rfl) (fun G X E => ?_)
  refine j_iconst (pc := 0) 0 X dX1_floodShelf_0 rfl ?_
  refine j_istore_n (pc := 1) (fun y => [(3, .int y), (0, .ref (Z.2.1 o)), (1, .int a1), (2, .int a2)]) X dX1_floodShelf_1 (by decide) (fun _ => rfl) hF (fun v1 hF => ?_)
  refine j_lv [(0, .ref (Z.2.1 o)), (1, .int a1), (2, .int a2), (3, .int v1)] [1, 2, 3, 0] rfl ?_
  exact LX1_floodShelf_2 X E o ho hz FU a1 a2 v1 h hF
theorem dX1_takeFact_0 : decode cX1_takeFact 0 = .ok (.aload_n 0, 1) := by decide +kernel
theorem dX1_takeFact_1 : decode cX1_takeFact 1 = .ok (.getfield 37, 3) := by decide +kernel
theorem dX1_takeFact_4 : decode cX1_takeFact 4 = .ok (.getfield 114, 3) := by decide +kernel
theorem dX1_takeFact_7 : decode cX1_takeFact 7 = .ok (.iload_n 1, 1) := by decide +kernel
theorem dX1_takeFact_8 : decode cX1_takeFact 8 = .ok (.iaload, 1) := by decide +kernel
theorem dX1_takeFact_9 : decode cX1_takeFact 9 = .ok (.istore_n 3, 1) := by decide +kernel
theorem dX1_takeFact_10 : decode cX1_takeFact 10 = .ok (.iload_n 3, 1) := by decide +kernel
theorem dX1_takeFact_11 : decode cX1_takeFact 11 = .ok (.ifCond .lt 15, 3) := by decide +kernel
theorem dX1_takeFact_14 : decode cX1_takeFact 14 = .ok (.iload_n 3, 1) := by decide +kernel
theorem dX1_takeFact_15 : decode cX1_takeFact 15 = .ok (.bipush 10, 2) := by decide +kernel
theorem dX1_takeFact_17 : decode cX1_takeFact 17 = .ok (.if_icmp .ge 9, 3) := by decide +kernel
theorem dX1_takeFact_20 : decode cX1_takeFact 20 = .ok (.iload_n 3, 1) := by decide +kernel
theorem dX1_takeFact_21 : decode cX1_takeFact 21 = .ok (.bipush 10, 2) := by decide +kernel
theorem dX1_takeFact_23 : decode cX1_takeFact 23 = .ok (.if_icmp .lt 4, 3) := by decide +kernel
theorem dX1_takeFact_26 : decode cX1_takeFact 26 = .ok (.return_, 1) := by decide +kernel
theorem dX1_takeFact_27 : decode cX1_takeFact 27 = .ok (.aload_n 0, 1) := by decide +kernel
theorem dX1_takeFact_28 : decode cX1_takeFact 28 = .ok (.getfield 37, 3) := by decide +kernel
theorem dX1_takeFact_31 : decode cX1_takeFact 31 = .ok (.getfield 117, 3) := by decide +kernel
theorem dX1_takeFact_34 : decode cX1_takeFact 34 = .ok (.iload_n 1, 1) := by decide +kernel
theorem dX1_takeFact_35 : decode cX1_takeFact 35 = .ok (.iaload, 1) := by decide +kernel
theorem dX1_takeFact_36 : decode cX1_takeFact 36 = .ok (.tableswitch 261 0 4 #[36, 92, 114, 155, 243], 36) := by decide +kernel
theorem dX1_takeFact_72 : decode cX1_takeFact 72 = .ok (.aload_n 0, 1) := by decide +kernel
theorem dX1_takeFact_73 : decode cX1_takeFact 73 = .ok (.getfield 27, 3) := by decide +kernel
theorem dX1_takeFact_76 : decode cX1_takeFact 76 = .ok (.iload_n 3, 1) := by decide +kernel
theorem dX1_takeFact_77 : decode cX1_takeFact 77 = .ok (.dup2, 1) := by decide +kernel
theorem dX1_takeFact_78 : decode cX1_takeFact 78 = .ok (.iaload, 1) := by decide +kernel
theorem dX1_takeFact_79 : decode cX1_takeFact 79 = .ok (.aload_n 0, 1) := by decide +kernel
theorem dX1_takeFact_80 : decode cX1_takeFact 80 = .ok (.getfield 37, 3) := by decide +kernel
theorem dX1_takeFact_83 : decode cX1_takeFact 83 = .ok (.getfield 120, 3) := by decide +kernel
theorem dX1_takeFact_86 : decode cX1_takeFact 86 = .ok (.iload_n 1, 1) := by decide +kernel
theorem dX1_takeFact_87 : decode cX1_takeFact 87 = .ok (.iaload, 1) := by decide +kernel
theorem dX1_takeFact_88 : decode cX1_takeFact 88 = .ok (.iadd, 1) := by decide +kernel
theorem dX1_takeFact_89 : decode cX1_takeFact 89 = .ok (.iastore, 1) := by decide +kernel
theorem dX1_takeFact_90 : decode cX1_takeFact 90 = .ok (.aload_n 0, 1) := by decide +kernel
theorem dX1_takeFact_91 : decode cX1_takeFact 91 = .ok (.getfield 78, 3) := by decide +kernel
theorem dX1_takeFact_94 : decode cX1_takeFact 94 = .ok (.ifCond .ne 209, 3) := by decide +kernel
theorem dX1_takeFact_97 : decode cX1_takeFact 97 = .ok (.aload_n 0, 1) := by decide +kernel
theorem dX1_takeFact_98 : decode cX1_takeFact 98 = .ok (.getfield 27, 3) := by decide +kernel
theorem dX1_takeFact_101 : decode cX1_takeFact 101 = .ok (.iload_n 3, 1) := by decide +kernel
theorem dX1_takeFact_102 : decode cX1_takeFact 102 = .ok (.iaload, 1) := by decide +kernel
theorem dX1_takeFact_103 : decode cX1_takeFact 103 = .ok (.aload_n 0, 1) := by decide +kernel
theorem dX1_takeFact_104 : decode cX1_takeFact 104 = .ok (.getfield 33, 3) := by decide +kernel
theorem dX1_takeFact_107 : decode cX1_takeFact 107 = .ok (.getfield 123, 3) := by decide +kernel
theorem dX1_takeFact_110 : decode cX1_takeFact 110 = .ok (.if_icmp .lt 193, 3) := by decide +kernel
theorem dX1_takeFact_113 : decode cX1_takeFact 113 = .ok (.aload_n 0, 1) := by decide +kernel
theorem dX1_takeFact_114 : decode cX1_takeFact 114 = .ok (.dup, 1) := by decide +kernel
theorem dX1_takeFact_115 : decode cX1_takeFact 115 = .ok (.getfield 69, 3) := by decide +kernel
theorem dX1_takeFact_118 : decode cX1_takeFact 118 = .ok (.iconst 1, 1) := by decide +kernel
theorem dX1_takeFact_119 : decode cX1_takeFact 119 = .ok (.iload_n 3, 1) := by decide +kernel
theorem dX1_takeFact_120 : decode cX1_takeFact 120 = .ok (.ishl, 1) := by decide +kernel
theorem dX1_takeFact_121 : decode cX1_takeFact 121 = .ok (.ior, 1) := by decide +kernel
theorem dX1_takeFact_122 : decode cX1_takeFact 122 = .ok (.putfield 69, 3) := by decide +kernel
theorem dX1_takeFact_125 : decode cX1_takeFact 125 = .ok (.goto 178, 3) := by decide +kernel
theorem dX1_takeFact_128 : decode cX1_takeFact 128 = .ok (.aload_n 0, 1) := by decide +kernel
theorem dX1_takeFact_129 : decode cX1_takeFact 129 = .ok (.getfield 78, 3) := by decide +kernel
theorem dX1_takeFact_132 : decode cX1_takeFact 132 = .ok (.ifCond .eq 171, 3) := by decide +kernel
theorem dX1_takeFact_135 : decode cX1_takeFact 135 = .ok (.aload_n 0, 1) := by decide +kernel
theorem dX1_takeFact_136 : decode cX1_takeFact 136 = .ok (.dup, 1) := by decide +kernel
theorem dX1_takeFact_137 : decode cX1_takeFact 137 = .ok (.getfield 69, 3) := by decide +kernel
theorem dX1_takeFact_140 : decode cX1_takeFact 140 = .ok (.iconst 1, 1) := by decide +kernel
theorem dX1_takeFact_141 : decode cX1_takeFact 141 = .ok (.iload_n 3, 1) := by decide +kernel
theorem dX1_takeFact_142 : decode cX1_takeFact 142 = .ok (.ishl, 1) := by decide +kernel
theorem dX1_takeFact_143 : decode cX1_takeFact 143 = .ok (.ior, 1) := by decide +kernel
theorem dX1_takeFact_144 : decode cX1_takeFact 144 = .ok (.putfield 69, 3) := by decide +kernel
theorem dX1_takeFact_147 : decode cX1_takeFact 147 = .ok (.goto 156, 3) := by decide +kernel
theorem dX1_takeFact_150 : decode cX1_takeFact 150 = .ok (.aload_n 0, 1) := by decide +kernel
theorem dX1_takeFact_151 : decode cX1_takeFact 151 = .ok (.getfield 9, 3) := by decide +kernel
theorem dX1_takeFact_154 : decode cX1_takeFact 154 = .ok (.iload_n 3, 1) := by decide +kernel
theorem dX1_takeFact_155 : decode cX1_takeFact 155 = .ok (.iaload, 1) := by decide +kernel
theorem dX1_takeFact_156 : decode cX1_takeFact 156 = .ok (.ifCond .ne 147, 3) := by decide +kernel
theorem dX1_takeFact_159 : decode cX1_takeFact 159 = .ok (.aload_n 0, 1) := by decide +kernel
theorem dX1_takeFact_160 : decode cX1_takeFact 160 = .ok (.getfield 69, 3) := by decide +kernel
theorem dX1_takeFact_163 : decode cX1_takeFact 163 = .ok (.aload_n 0, 1) := by decide +kernel
theorem dX1_takeFact_164 : decode cX1_takeFact 164 = .ok (.getfield 33, 3) := by decide +kernel
theorem dX1_takeFact_167 : decode cX1_takeFact 167 = .ok (.getfield 57, 3) := by decide +kernel
theorem dX1_takeFact_170 : decode cX1_takeFact 170 = .ok (.iload_n 3, 1) := by decide +kernel
theorem dX1_takeFact_171 : decode cX1_takeFact 171 = .ok (.aaload, 1) := by decide +kernel
theorem dX1_takeFact_172 : decode cX1_takeFact 172 = .ok (.getfield 126, 3) := by decide +kernel
theorem dX1_takeFact_175 : decode cX1_takeFact 175 = .ok (.invokestatic 129, 3) := by decide +kernel
theorem dX1_takeFact_178 : decode cX1_takeFact 178 = .ok (.ifCond .ne 125, 3) := by decide +kernel
theorem dX1_takeFact_181 : decode cX1_takeFact 181 = .ok (.aload_n 0, 1) := by decide +kernel
theorem dX1_takeFact_182 : decode cX1_takeFact 182 = .ok (.iconst 3, 1) := by decide +kernel
theorem dX1_takeFact_183 : decode cX1_takeFact 183 = .ok (.iload_n 3, 1) := by decide +kernel
theorem dX1_takeFact_184 : decode cX1_takeFact 184 = .ok (.iload_n 2, 1) := by decide +kernel
theorem dX1_takeFact_185 : decode cX1_takeFact 185 = .ok (.invokevirtual 133, 3) := by decide +kernel
theorem dX1_takeFact_188 : decode cX1_takeFact 188 = .ok (.goto 115, 3) := by decide +kernel
theorem dX1_takeFact_191 : decode cX1_takeFact 191 = .ok (.aload_n 0, 1) := by decide +kernel
theorem dX1_takeFact_192 : decode cX1_takeFact 192 = .ok (.getfield 9, 3) := by decide +kernel
theorem dX1_takeFact_195 : decode cX1_takeFact 195 = .ok (.iload_n 3, 1) := by decide +kernel
theorem dX1_takeFact_196 : decode cX1_takeFact 196 = .ok (.iaload, 1) := by decide +kernel
theorem dX1_takeFact_197 : decode cX1_takeFact 197 = .ok (.ifCond .ne 106, 3) := by decide +kernel
theorem dX1_takeFact_200 : decode cX1_takeFact 200 = .ok (.aload_n 0, 1) := by decide +kernel
theorem dX1_takeFact_201 : decode cX1_takeFact 201 = .ok (.getfield 41, 3) := by decide +kernel
theorem dX1_takeFact_204 : decode cX1_takeFact 204 = .ok (.aload_n 0, 1) := by decide +kernel
theorem dX1_takeFact_205 : decode cX1_takeFact 205 = .ok (.getfield 33, 3) := by decide +kernel
theorem dX1_takeFact_208 : decode cX1_takeFact 208 = .ok (.getfield 57, 3) := by decide +kernel
theorem dX1_takeFact_211 : decode cX1_takeFact 211 = .ok (.iload_n 3, 1) := by decide +kernel
theorem dX1_takeFact_212 : decode cX1_takeFact 212 = .ok (.aaload, 1) := by decide +kernel
theorem dX1_takeFact_213 : decode cX1_takeFact 213 = .ok (.iload_n 2, 1) := by decide +kernel
theorem dX1_takeFact_214 : decode cX1_takeFact 214 = .ok (.aload_n 0, 1) := by decide +kernel
theorem dX1_takeFact_215 : decode cX1_takeFact 215 = .ok (.getfield 69, 3) := by decide +kernel
theorem dX1_takeFact_218 : decode cX1_takeFact 218 = .ok (.aload_n 0, 1) := by decide +kernel
theorem dX1_takeFact_219 : decode cX1_takeFact 219 = .ok (.getfield 72, 3) := by decide +kernel
theorem dX1_takeFact_222 : decode cX1_takeFact 222 = .ok (.invokevirtual 137, 3) := by decide +kernel
theorem dX1_takeFact_225 : decode cX1_takeFact 225 = .ok (.istore 4, 2) := by decide +kernel
theorem dX1_takeFact_227 : decode cX1_takeFact 227 = .ok (.aload_n 0, 1) := by decide +kernel
theorem dX1_takeFact_228 : decode cX1_takeFact 228 = .ok (.dup, 1) := by decide +kernel
theorem dX1_takeFact_229 : decode cX1_takeFact 229 = .ok (.getfield 75, 3) := by decide +kernel
theorem dX1_takeFact_232 : decode cX1_takeFact 232 = .ok (.iload 4, 2) := by decide +kernel
theorem dX1_takeFact_234 : decode cX1_takeFact 234 = .ok (.ifCond .eq 7, 3) := by decide +kernel
theorem dX1_takeFact_237 : decode cX1_takeFact 237 = .ok (.iconst 0, 1) := by decide +kernel
theorem dX1_takeFact_238 : decode cX1_takeFact 238 = .ok (.goto 15, 3) := by decide +kernel
theorem dX1_takeFact_241 : decode cX1_takeFact 241 = .ok (.aload_n 0, 1) := by decide +kernel
theorem dX1_takeFact_242 : decode cX1_takeFact 242 = .ok (.getfield 33, 3) := by decide +kernel
theorem dX1_takeFact_245 : decode cX1_takeFact 245 = .ok (.getfield 57, 3) := by decide +kernel
theorem dX1_takeFact_248 : decode cX1_takeFact 248 = .ok (.iload_n 3, 1) := by decide +kernel
theorem dX1_takeFact_249 : decode cX1_takeFact 249 = .ok (.aaload, 1) := by decide +kernel
theorem dX1_takeFact_250 : decode cX1_takeFact 250 = .ok (.getfield 143, 3) := by decide +kernel
theorem dX1_takeFact_253 : decode cX1_takeFact 253 = .ok (.iadd, 1) := by decide +kernel
theorem dX1_takeFact_254 : decode cX1_takeFact 254 = .ok (.putfield 75, 3) := by decide +kernel
theorem dX1_takeFact_257 : decode cX1_takeFact 257 = .ok (.aload_n 0, 1) := by decide +kernel
theorem dX1_takeFact_258 : decode cX1_takeFact 258 = .ok (.iconst 2, 1) := by decide +kernel
theorem dX1_takeFact_259 : decode cX1_takeFact 259 = .ok (.iload_n 3, 1) := by decide +kernel
theorem dX1_takeFact_260 : decode cX1_takeFact 260 = .ok (.iload_n 2, 1) := by decide +kernel
theorem dX1_takeFact_261 : decode cX1_takeFact 261 = .ok (.invokevirtual 133, 3) := by decide +kernel
theorem dX1_takeFact_264 : decode cX1_takeFact 264 = .ok (.aload_n 0, 1) := by decide +kernel
theorem dX1_takeFact_265 : decode cX1_takeFact 265 = .ok (.dup, 1) := by decide +kernel
theorem dX1_takeFact_266 : decode cX1_takeFact 266 = .ok (.getfield 72, 3) := by decide +kernel
theorem dX1_takeFact_269 : decode cX1_takeFact 269 = .ok (.iconst 1, 1) := by decide +kernel
theorem dX1_takeFact_270 : decode cX1_takeFact 270 = .ok (.iload_n 3, 1) := by decide +kernel
theorem dX1_takeFact_271 : decode cX1_takeFact 271 = .ok (.ishl, 1) := by decide +kernel
theorem dX1_takeFact_272 : decode cX1_takeFact 272 = .ok (.ior, 1) := by decide +kernel
theorem dX1_takeFact_273 : decode cX1_takeFact 273 = .ok (.putfield 72, 3) := by decide +kernel
theorem dX1_takeFact_276 : decode cX1_takeFact 276 = .ok (.goto 27, 3) := by decide +kernel
theorem dX1_takeFact_279 : decode cX1_takeFact 279 = .ok (.aload_n 0, 1) := by decide +kernel
theorem dX1_takeFact_280 : decode cX1_takeFact 280 = .ok (.getfield 21, 3) := by decide +kernel
theorem dX1_takeFact_283 : decode cX1_takeFact 283 = .ok (.iload_n 3, 1) := by decide +kernel
theorem dX1_takeFact_284 : decode cX1_takeFact 284 = .ok (.aload_n 0, 1) := by decide +kernel
theorem dX1_takeFact_285 : decode cX1_takeFact 285 = .ok (.getfield 37, 3) := by decide +kernel
theorem dX1_takeFact_288 : decode cX1_takeFact 288 = .ok (.getfield 120, 3) := by decide +kernel
theorem dX1_takeFact_291 : decode cX1_takeFact 291 = .ok (.iload_n 1, 1) := by decide +kernel
theorem dX1_takeFact_292 : decode cX1_takeFact 292 = .ok (.iaload, 1) := by decide +kernel
theorem dX1_takeFact_293 : decode cX1_takeFact 293 = .ok (.iastore, 1) := by decide +kernel
theorem dX1_takeFact_294 : decode cX1_takeFact 294 = .ok (.goto 9, 3) := by decide +kernel
theorem dX1_takeFact_297 : decode cX1_takeFact 297 = .ok (.aload_n 0, 1) := by decide +kernel
theorem dX1_takeFact_298 : decode cX1_takeFact 298 = .ok (.iload_n 3, 1) := by decide +kernel
theorem dX1_takeFact_299 : decode cX1_takeFact 299 = .ok (.iload_n 2, 1) := by decide +kernel
theorem dX1_takeFact_300 : decode cX1_takeFact 300 = .ok (.invokevirtual 146, 3) := by decide +kernel
theorem dX1_takeFact_303 : decode cX1_takeFact 303 = .ok (.return_, 1) := by decide +kernel
def bX1_takeFact_253 (o : Nat)  (x2 : Int32) (x3 : Int32) (s0 : Int32) (s1 : Int32) (h : Hp) : Option (Hp) := lt (wI h o 13 (s1 + s0)) (fun h1 => bv (fX1_endAs o 2 x3 x2 h1) (fun h2 => lt (wI h2 o 12 ((h2.1 o 12) ||| ((1 : Int32) <<< (x3 &&& 31)))) (fun h3 => some h3)))
set_option maxRecDepth 20000 in
theorem BX1_takeFact_253 {Z : ZT} {G : GT} {hr : Hp} (X : CX Z G cX1_takeFact RX1 5 3) (E : RX Z G none (none) hr) (o : Nat) (ho : isC o) (hz : HZ Z)  (x2 : Int32) (x3 : Int32) (s0 : Int32) (s1 : Int32) (h : Hp) (hF : bX1_takeFact_253 o  x2 x3 s0 s1 h = some hr) : J Z G 5 h 253 [(0, .ref (Z.2.1 o)), (2, .int x2), (3, .int x3)] [.int s0, .int s1, .ref (Z.2.1 o)] := by
  unfold bX1_takeFact_253 at hF
  refine j_iadd (pc := 253) X dX1_takeFact_253 ?_
  refine j_puti (pc := 254) X dX1_takeFact_254 (hz _ (shC ho)) fp_X1_75 rfl hF (fun h1 hF => ?_)
  refine j_aload_n (pc := 257) 0 X dX1_takeFact_257 rfl ?_
  refine j_iconst (pc := 258) 2 X dX1_takeFact_258 rfl ?_
  refine j_iload_n (pc := 259) 2 X dX1_takeFact_259 rfl ?_
  refine j_iload_n (pc := 260) 1 X dX1_takeFact_260 rfl ?_
  refine j_cVv (pc := 261) (As := [.int 2, .int x3, .int x2]) (rest := []) X dX1_takeFact_261 ml_X1_133 ck_X1_endAs cv_X1_endAs (hz _ (shC ho)) rfl (Nat.le_of_ble_eq_true rfl) rfl (Nat.le_of_ble_eq_true rfl) rfl hF (tX1_endAs Z o ho 2 x3 x2 hz h1) (fun h2 hF => ?_)
  refine j_aload_n (pc := 264) 0 X dX1_takeFact_264 rfl ?_
  refine j_dup (pc := 265) X dX1_takeFact_265 rfl ?_
  refine j_geti (pc := 266) X dX1_takeFact_266 (hz _ (shC ho)) fl_X1_72 rfl ?_
  refine j_iconst (pc := 269) 1 X dX1_takeFact_269 rfl ?_
  refine j_iload_n (pc := 270) 2 X dX1_takeFact_270 rfl ?_
  refine j_ishl (pc := 271) X dX1_takeFact_271 ?_
  refine j_ior (pc := 272) X dX1_takeFact_272 ?_
  refine j_puti (pc := 273) X dX1_takeFact_273 (hz _ (shC ho)) fp_X1_72 rfl hF (fun h3 hF => ?_)
  refine j_goto (pc := 276) 303 X dX1_takeFact_276 rfl ?_
  exact j_vret (pc := 303) X E dX1_takeFact_303 hF
def fX1_takeFact (o : Nat) (a1 : Int32) (a2 : Int32) (h : Hp) : Option (Hp) := ck (inb a1 60) (lt (h.1 155 (ix a1)) (fun v1 => (if v1 < 0 then some h else (if 10 ≤ v1 then some h else (if v1 < 10 then ck (inb a1 60) ((if (h.1 153 (ix a1)).toInt < 0 ∨ 4 < (h.1 153 (ix a1)).toInt then bv (fX1_floodShelf o v1 a2 h) (fun h2 => some h2) else if (h.1 153 (ix a1)) = 0 then ck (inb v1 10) (ck (inb a1 60) (ck (inb v1 10) (lt (wI h (o + 6) (ix v1) ((h.1 (o + 6) (ix v1)) + (h.1 156 (ix a1)))) (fun h3 => (if (h3.1 o 14) = 0 then ck (inb v1 10) ((if (h3.1 (o + 6) (ix v1)) < (h3.1 108 10) then some h3 else lt (wI h3 o 11 ((h3.1 o 11) ||| ((1 : Int32) <<< (v1 &&& 31)))) (fun h4 => some h4))) else some h3))))) else if (h.1 153 (ix a1)) = 1 then (if (h.1 o 14) = 0 then some h else lt (wI h o 11 ((h.1 o 11) ||| ((1 : Int32) <<< (v1 &&& 31)))) (fun h5 => some h5)) else if (h.1 153 (ix a1)) = 2 then ck (inb v1 10) ((if (h.1 (o + 1) (ix v1)) = 0 then ck (inb v1 10) (bi (fX11_has (h.1 o 11) (h.1 (115 + ix v1) 0) h) (fun w8 h7 => (if w8 = 0 then bv (fX1_endAs o 3 v1 a2 h7) (fun h9 => some h9) else some h7))) else some h)) else if (h.1 153 (ix a1)) = 3 then ck (inb v1 10) ((if (h.1 (o + 1) (ix v1)) = 0 then ck (inb v1 10) (bi (fX6_holds (115 + ix v1) a2 (h.1 o 11) (h.1 o 12) h) (fun w12 h11 => lt w12 (fun v13 => (if v13 = 0 then ck (inb v1 10) (bX1_takeFact_253 o a2 v1 (h11.1 (115 + ix v1) 4) (h11.1 o 13) h11) else bX1_takeFact_253 o a2 v1 0 (h11.1 o 13) h11)))) else some h)) else if (h.1 153 (ix a1)) = 4 then ck (inb a1 60) (ck (inb v1 10) (lt (wI h (o + 4) (ix v1) (h.1 156 (ix a1))) (fun h15 => some h15))) else none)) else some h)))))
set_option maxRecDepth 20000 in
theorem tX1_takeFact (Z : ZT) (o : Nat) (ho : isC o) (a1 : Int32) (a2 : Int32) (hz : HZ Z) (h : Hp) (hr : Hp) (hF : fX1_takeFact o a1 a2 h = some hr) : MC Z yX1_takeFact cX1_takeFact 5 none 3 [.ref (Z.2.1 o), .int a1, .int a2] h (none) hr := by
  unfold fX1_takeFact at hF
  refine mc_start (by decide) (Nat.le_of_ble_eq_true rfl) (fun G X E => ?_)
  refine j_aload_n (pc := 0) 0 X dX1_takeFact_0 rfl ?_
  refine j_getr (pc := 1) X dX1_takeFact_1 (hz _ (shC ho)) fl_X1_37 rfl ?_
  refine j_getr (pc := 4) X dX1_takeFact_4 (hz _ sh_152) fl_X1_114 rfl ?_
  refine j_iload_n (pc := 7) 1 X dX1_takeFact_7 rfl ?_
  refine j_iald (pc := 8) X dX1_takeFact_8 (hz _ sh_155) hF (fun hF => ?_)
  refine j_istore_n (pc := 9) (fun y => [(3, .int y), (0, .ref (Z.2.1 o)), (1, .int a1), (2, .int a2)]) X dX1_takeFact_9 (by decide) (fun _ => rfl) hF (fun v1 hF => ?_)
  refine j_iload_n (pc := 10) 0 X dX1_takeFact_10 rfl ?_
  refine j_if_lt (pc := 11) 26 X dX1_takeFact_11 rfl hF (fun hF => ?_) (fun hF => ?_)
  · exact j_vret (pc := 26) X E dX1_takeFact_26 hF
  · refine j_iload_n (pc := 14) 0 X dX1_takeFact_14 rfl ?_
    refine j_bipush (pc := 15) 10 X dX1_takeFact_15 rfl ?_
    refine j_icmp_ge (pc := 17) 26 X dX1_takeFact_17 rfl hF (fun hF => ?_) (fun hF => ?_)
    · exact j_vret (pc := 26) X E dX1_takeFact_26 hF
    · refine j_iload_n (pc := 20) 0 X dX1_takeFact_20 rfl ?_
      refine j_bipush (pc := 21) 10 X dX1_takeFact_21 rfl ?_
      refine j_icmp_lt (pc := 23) 27 X dX1_takeFact_23 rfl hF (fun hF => ?_) (fun hF => ?_)
      · refine j_aload_n (pc := 27) 1 X dX1_takeFact_27 rfl ?_
        refine j_getr (pc := 28) X dX1_takeFact_28 (hz _ (shC ho)) fl_X1_37 rfl ?_
        refine j_getr (pc := 31) X dX1_takeFact_31 (hz _ sh_152) fl_X1_117 rfl ?_
        refine j_iload_n (pc := 34) 2 X dX1_takeFact_34 rfl ?_
        refine j_iald (pc := 35) X dX1_takeFact_35 (hz _ sh_153) hF (fun hF => ?_)
        refine j_tab (pc := 36) (tgt := 297) X dX1_takeFact_36 rfl hF (fun hF => ?_) (fun hF => ?_)
        · refine j_aload_n (pc := 297) 1 X dX1_takeFact_297 rfl ?_
          refine j_iload_n (pc := 298) 0 X dX1_takeFact_298 rfl ?_
          refine j_iload_n (pc := 299) 3 X dX1_takeFact_299 rfl ?_
          refine j_cVv (pc := 300) (As := [.int v1, .int a2]) (rest := []) X dX1_takeFact_300 ml_X1_146 ck_X1_floodShelf cv_X1_floodShelf (hz _ (shC ho)) rfl (Nat.le_of_ble_eq_true rfl) rfl (Nat.le_of_ble_eq_true rfl) rfl hF (tX1_floodShelf Z o ho v1 a2 hz h) (fun h2 hF => ?_)
          exact j_vret (pc := 303) X E dX1_takeFact_303 hF
        refine j_tabi (pc := 36) (v := 0) (tgt := 72) X dX1_takeFact_36 rfl rfl rfl rfl hF (fun hF => ?_) (fun hF => ?_)
        · refine j_aload_n (pc := 72) 1 X dX1_takeFact_72 rfl ?_
          refine j_getr (pc := 73) X dX1_takeFact_73 (hz _ (shC ho)) fl_X1_27 rfl ?_
          refine j_iload_n (pc := 76) 0 X dX1_takeFact_76 rfl ?_
          refine j_dup2 (pc := 77) X dX1_takeFact_77 rfl rfl ?_
          refine j_iald (pc := 78) X dX1_takeFact_78 (hz _ (shC_6 ho)) hF (fun hF => ?_)
          refine j_aload_n (pc := 79) 1 X dX1_takeFact_79 rfl ?_
          refine j_getr (pc := 80) X dX1_takeFact_80 (hz _ (shC ho)) fl_X1_37 rfl ?_
          refine j_getr (pc := 83) X dX1_takeFact_83 (hz _ sh_152) fl_X1_120 rfl ?_
          refine j_iload_n (pc := 86) 2 X dX1_takeFact_86 rfl ?_
          refine j_iald (pc := 87) X dX1_takeFact_87 (hz _ sh_156) hF (fun hF => ?_)
          refine j_iadd (pc := 88) X dX1_takeFact_88 ?_
          refine j_iast (pc := 89) X dX1_takeFact_89 (hz _ (shC_6 ho)) hF (fun h3 hF => ?_)
          refine j_aload_n (pc := 90) 1 X dX1_takeFact_90 rfl ?_
          refine j_geti (pc := 91) X dX1_takeFact_91 (hz _ (shC ho)) fl_X1_78 rfl ?_
          refine j_if_ne (pc := 94) 303 X dX1_takeFact_94 rfl hF (fun hF => ?_) (fun hF => ?_)
          · exact j_vret (pc := 303) X E dX1_takeFact_303 hF
          · refine j_aload_n (pc := 97) 1 X dX1_takeFact_97 rfl ?_
            refine j_getr (pc := 98) X dX1_takeFact_98 (hz _ (shC ho)) fl_X1_27 rfl ?_
            refine j_iload_n (pc := 101) 0 X dX1_takeFact_101 rfl ?_
            refine j_iald (pc := 102) X dX1_takeFact_102 (hz _ (shC_6 ho)) hF (fun hF => ?_)
            refine j_aload_n (pc := 103) 1 X dX1_takeFact_103 rfl ?_
            refine j_getr (pc := 104) X dX1_takeFact_104 (hz _ (shC ho)) fl_X1_33 rfl ?_
            refine j_geti (pc := 107) X dX1_takeFact_107 (hz _ sh_108) fl_X1_123 rfl ?_
            refine j_icmp_lt (pc := 110) 303 X dX1_takeFact_110 rfl hF (fun hF => ?_) (fun hF => ?_)
            · exact j_vret (pc := 303) X E dX1_takeFact_303 hF
            · refine j_aload_n (pc := 113) 1 X dX1_takeFact_113 rfl ?_
              refine j_dup (pc := 114) X dX1_takeFact_114 rfl ?_
              refine j_geti (pc := 115) X dX1_takeFact_115 (hz _ (shC ho)) fl_X1_69 rfl ?_
              refine j_iconst (pc := 118) 1 X dX1_takeFact_118 rfl ?_
              refine j_iload_n (pc := 119) 0 X dX1_takeFact_119 rfl ?_
              refine j_ishl (pc := 120) X dX1_takeFact_120 ?_
              refine j_ior (pc := 121) X dX1_takeFact_121 ?_
              refine j_puti (pc := 122) X dX1_takeFact_122 (hz _ (shC ho)) fp_X1_69 rfl hF (fun h4 hF => ?_)
              refine j_goto (pc := 125) 303 X dX1_takeFact_125 rfl ?_
              exact j_vret (pc := 303) X E dX1_takeFact_303 hF
        refine j_tabi (pc := 36) (v := 1) (tgt := 128) X dX1_takeFact_36 rfl rfl rfl rfl hF (fun hF => ?_) (fun hF => ?_)
        · refine j_aload_n (pc := 128) 1 X dX1_takeFact_128 rfl ?_
          refine j_geti (pc := 129) X dX1_takeFact_129 (hz _ (shC ho)) fl_X1_78 rfl ?_
          refine j_if_eq (pc := 132) 303 X dX1_takeFact_132 rfl hF (fun hF => ?_) (fun hF => ?_)
          · exact j_vret (pc := 303) X E dX1_takeFact_303 hF
          · refine j_aload_n (pc := 135) 1 X dX1_takeFact_135 rfl ?_
            refine j_dup (pc := 136) X dX1_takeFact_136 rfl ?_
            refine j_geti (pc := 137) X dX1_takeFact_137 (hz _ (shC ho)) fl_X1_69 rfl ?_
            refine j_iconst (pc := 140) 1 X dX1_takeFact_140 rfl ?_
            refine j_iload_n (pc := 141) 0 X dX1_takeFact_141 rfl ?_
            refine j_ishl (pc := 142) X dX1_takeFact_142 ?_
            refine j_ior (pc := 143) X dX1_takeFact_143 ?_
            refine j_puti (pc := 144) X dX1_takeFact_144 (hz _ (shC ho)) fp_X1_69 rfl hF (fun h5 hF => ?_)
            refine j_goto (pc := 147) 303 X dX1_takeFact_147 rfl ?_
            exact j_vret (pc := 303) X E dX1_takeFact_303 hF
        refine j_tabi (pc := 36) (v := 2) (tgt := 150) X dX1_takeFact_36 rfl rfl rfl rfl hF (fun hF => ?_) (fun hF => ?_)
        · refine j_aload_n (pc := 150) 1 X dX1_takeFact_150 rfl ?_
          refine j_getr (pc := 151) X dX1_takeFact_151 (hz _ (shC ho)) fl_X1_9 rfl ?_
          refine j_iload_n (pc := 154) 0 X dX1_takeFact_154 rfl ?_
          refine j_iald (pc := 155) X dX1_takeFact_155 (hz _ (shC_1 ho)) hF (fun hF => ?_)
          refine j_if_ne (pc := 156) 303 X dX1_takeFact_156 rfl hF (fun hF => ?_) (fun hF => ?_)
          · exact j_vret (pc := 303) X E dX1_takeFact_303 hF
          · refine j_aload_n (pc := 159) 1 X dX1_takeFact_159 rfl ?_
            refine j_geti (pc := 160) X dX1_takeFact_160 (hz _ (shC ho)) fl_X1_69 rfl ?_
            refine j_aload_n (pc := 163) 1 X dX1_takeFact_163 rfl ?_
            refine j_getr (pc := 164) X dX1_takeFact_164 (hz _ (shC ho)) fl_X1_33 rfl ?_
            refine j_getr (pc := 167) X dX1_takeFact_167 (hz _ sh_108) fl_X1_57 rfl ?_
            refine j_iload_n (pc := 170) 0 X dX1_takeFact_170 rfl ?_
            refine j_aald (pc := 171) (g := fun j => 115 + j) (C := "AfterOffice$Letter") X dX1_takeFact_171 (hz _ sh_111) (fun _ => rfl) rfl al_111 hF (fun hb6 hF => ?_)
            refine j_geti (pc := 172) X dX1_takeFact_172 (hz _ (shL (is_111 hb6))) fl_X1_126 rfl ?_
            refine j_cSNi (pc := 175) (As := [.int (h.1 o 11), .int (h.1 (115 + ix v1) 0)]) (rest := []) X dX1_takeFact_175 ml_X1_129 ck_X11_has sk_X11_has (Nat.le_of_ble_eq_true rfl) rfl (Nat.le_of_ble_eq_true rfl) rfl hF (tX11_has Z (h.1 o 11) (h.1 (115 + ix v1) 0) trivial h) (fun w8 h7 hF => ?_)
            refine j_if_ne (pc := 178) 303 X dX1_takeFact_178 rfl hF (fun hF => ?_) (fun hF => ?_)
            · exact j_vret (pc := 303) X E dX1_takeFact_303 hF
            · refine j_aload_n (pc := 181) 1 X dX1_takeFact_181 rfl ?_
              refine j_iconst (pc := 182) 3 X dX1_takeFact_182 rfl ?_
              refine j_iload_n (pc := 183) 0 X dX1_takeFact_183 rfl ?_
              refine j_iload_n (pc := 184) 3 X dX1_takeFact_184 rfl ?_
              refine j_cVv (pc := 185) (As := [.int 3, .int v1, .int a2]) (rest := []) X dX1_takeFact_185 ml_X1_133 ck_X1_endAs cv_X1_endAs (hz _ (shC ho)) rfl (Nat.le_of_ble_eq_true rfl) rfl (Nat.le_of_ble_eq_true rfl) rfl hF (tX1_endAs Z o ho 3 v1 a2 hz h7) (fun h9 hF => ?_)
              refine j_goto (pc := 188) 303 X dX1_takeFact_188 rfl ?_
              exact j_vret (pc := 303) X E dX1_takeFact_303 hF
        refine j_tabi (pc := 36) (v := 3) (tgt := 191) X dX1_takeFact_36 rfl rfl rfl rfl hF (fun hF => ?_) (fun hF => ?_)
        · refine j_aload_n (pc := 191) 1 X dX1_takeFact_191 rfl ?_
          refine j_getr (pc := 192) X dX1_takeFact_192 (hz _ (shC ho)) fl_X1_9 rfl ?_
          refine j_iload_n (pc := 195) 0 X dX1_takeFact_195 rfl ?_
          refine j_iald (pc := 196) X dX1_takeFact_196 (hz _ (shC_1 ho)) hF (fun hF => ?_)
          refine j_if_ne (pc := 197) 303 X dX1_takeFact_197 rfl hF (fun hF => ?_) (fun hF => ?_)
          · exact j_vret (pc := 303) X E dX1_takeFact_303 hF
          · refine j_aload_n (pc := 200) 1 X dX1_takeFact_200 rfl ?_
            refine j_getr (pc := 201) X dX1_takeFact_201 (hz _ (shC ho)) fl_X1_41 rfl ?_
            refine j_aload_n (pc := 204) 1 X dX1_takeFact_204 rfl ?_
            refine j_getr (pc := 205) X dX1_takeFact_205 (hz _ (shC ho)) fl_X1_33 rfl ?_
            refine j_getr (pc := 208) X dX1_takeFact_208 (hz _ sh_108) fl_X1_57 rfl ?_
            refine j_iload_n (pc := 211) 0 X dX1_takeFact_211 rfl ?_
            refine j_aald (pc := 212) (g := fun j => 115 + j) (C := "AfterOffice$Letter") X dX1_takeFact_212 (hz _ sh_111) (fun _ => rfl) rfl al_111 hF (fun hb10 hF => ?_)
            refine j_iload_n (pc := 213) 3 X dX1_takeFact_213 rfl ?_
            refine j_aload_n (pc := 214) 1 X dX1_takeFact_214 rfl ?_
            refine j_geti (pc := 215) X dX1_takeFact_215 (hz _ (shC ho)) fl_X1_69 rfl ?_
            refine j_aload_n (pc := 218) 1 X dX1_takeFact_218 rfl ?_
            refine j_geti (pc := 219) X dX1_takeFact_219 (hz _ (shC ho)) fl_X1_72 rfl ?_
            refine j_cVi (pc := 222) (As := [.ref (Z.2.1 (115 + ix v1)), .int a2, .int (h.1 o 11), .int (h.1 o 12)]) (rest := []) X dX1_takeFact_222 ml_X1_137 ck_X6_holds cv_X6_holds (hz _ sh_147) rfl (Nat.le_of_ble_eq_true rfl) rfl (Nat.le_of_ble_eq_true rfl) rfl hF (tX6_holds Z (115 + ix v1) (is_111 hb10) a2 (h.1 o 11) (h.1 o 12) hz h) (fun w12 h11 hF => ?_)
            refine j_istore (pc := 225) (fun y => [(4, .int y), (3, .int v1), (0, .ref (Z.2.1 o)), (1, .int a1), (2, .int a2)]) X dX1_takeFact_225 (by decide) (fun _ => rfl) hF (fun v13 hF => ?_)
            refine j_aload_n (pc := 227) 2 X dX1_takeFact_227 rfl ?_
            refine j_dup (pc := 228) X dX1_takeFact_228 rfl ?_
            refine j_geti (pc := 229) X dX1_takeFact_229 (hz _ (shC ho)) fl_X1_75 rfl ?_
            refine j_iload (pc := 232) 0 X dX1_takeFact_232 rfl ?_
            refine j_if_eq (pc := 234) 241 X dX1_takeFact_234 rfl hF (fun hF => ?_) (fun hF => ?_)
            · refine j_aload_n (pc := 241) 2 X dX1_takeFact_241 rfl ?_
              refine j_getr (pc := 242) X dX1_takeFact_242 (hz _ (shC ho)) fl_X1_33 rfl ?_
              refine j_getr (pc := 245) X dX1_takeFact_245 (hz _ sh_108) fl_X1_57 rfl ?_
              refine j_iload_n (pc := 248) 1 X dX1_takeFact_248 rfl ?_
              refine j_aald (pc := 249) (g := fun j => 115 + j) (C := "AfterOffice$Letter") X dX1_takeFact_249 (hz _ sh_111) (fun _ => rfl) rfl al_111 hF (fun hb14 hF => ?_)
              refine j_geti (pc := 250) X dX1_takeFact_250 (hz _ (shL (is_111 hb14))) fl_X1_143 rfl ?_
              refine j_lv [(0, .ref (Z.2.1 o)), (2, .int a2), (3, .int v1)] [2, 4, 1] rfl ?_
              exact BX1_takeFact_253 X E o ho hz a2 v1 (h11.1 (115 + ix v1) 4) (h11.1 o 13) h11 hF
            · refine j_iconst (pc := 237) 0 X dX1_takeFact_237 rfl ?_
              refine j_goto (pc := 238) 253 X dX1_takeFact_238 rfl ?_
              refine j_lv [(0, .ref (Z.2.1 o)), (2, .int a2), (3, .int v1)] [2, 4, 1] rfl ?_
              exact BX1_takeFact_253 X E o ho hz a2 v1 0 (h11.1 o 13) h11 hF
        refine j_tabi (pc := 36) (v := 4) (tgt := 279) X dX1_takeFact_36 rfl rfl rfl rfl hF (fun hF => ?_) (fun hF => ?_)
        · refine j_aload_n (pc := 279) 1 X dX1_takeFact_279 rfl ?_
          refine j_getr (pc := 280) X dX1_takeFact_280 (hz _ (shC ho)) fl_X1_21 rfl ?_
          refine j_iload_n (pc := 283) 0 X dX1_takeFact_283 rfl ?_
          refine j_aload_n (pc := 284) 1 X dX1_takeFact_284 rfl ?_
          refine j_getr (pc := 285) X dX1_takeFact_285 (hz _ (shC ho)) fl_X1_37 rfl ?_
          refine j_getr (pc := 288) X dX1_takeFact_288 (hz _ sh_152) fl_X1_120 rfl ?_
          refine j_iload_n (pc := 291) 2 X dX1_takeFact_291 rfl ?_
          refine j_iald (pc := 292) X dX1_takeFact_292 (hz _ sh_156) hF (fun hF => ?_)
          refine j_iast (pc := 293) X dX1_takeFact_293 (hz _ (shC_4 ho)) hF (fun h15 hF => ?_)
          refine j_goto (pc := 294) 303 X dX1_takeFact_294 rfl ?_
          exact j_vret (pc := 303) X E dX1_takeFact_303 hF
        cases hF
      · exact j_vret (pc := 26) X E dX1_takeFact_26 hF
theorem dX1_takeFacts_0 : decode cX1_takeFacts 0 = .ok (.aload_n 0, 1) := by decide +kernel
theorem dX1_takeFacts_1 : decode cX1_takeFacts 1 = .ok (.getfield 37, 3) := by decide +kernel
theorem dX1_takeFacts_4 : decode cX1_takeFacts 4 = .ok (.getfield 102, 3) := by decide +kernel
theorem dX1_takeFacts_7 : decode cX1_takeFacts 7 = .ok (.iload_n 1, 1) := by decide +kernel
theorem dX1_takeFacts_8 : decode cX1_takeFacts 8 = .ok (.iaload, 1) := by decide +kernel
theorem dX1_takeFacts_9 : decode cX1_takeFacts 9 = .ok (.istore_n 2, 1) := by decide +kernel
theorem dX1_takeFacts_10 : decode cX1_takeFacts 10 = .ok (.iload_n 2, 1) := by decide +kernel
theorem dX1_takeFacts_11 : decode cX1_takeFacts 11 = .ok (.aload_n 0, 1) := by decide +kernel
theorem dX1_takeFacts_12 : decode cX1_takeFacts 12 = .ok (.getfield 37, 3) := by decide +kernel
theorem dX1_takeFacts_15 : decode cX1_takeFacts 15 = .ok (.getfield 102, 3) := by decide +kernel
theorem dX1_takeFacts_18 : decode cX1_takeFacts 18 = .ok (.iload_n 1, 1) := by decide +kernel
theorem dX1_takeFacts_19 : decode cX1_takeFacts 19 = .ok (.iconst 1, 1) := by decide +kernel
theorem dX1_takeFacts_20 : decode cX1_takeFacts 20 = .ok (.iadd, 1) := by decide +kernel
theorem dX1_takeFacts_21 : decode cX1_takeFacts 21 = .ok (.iaload, 1) := by decide +kernel
theorem dX1_takeFacts_22 : decode cX1_takeFacts 22 = .ok (.if_icmp .ge 23, 3) := by decide +kernel
theorem dX1_takeFacts_25 : decode cX1_takeFacts 25 = .ok (.aload_n 0, 1) := by decide +kernel
theorem dX1_takeFacts_26 : decode cX1_takeFacts 26 = .ok (.aload_n 0, 1) := by decide +kernel
theorem dX1_takeFacts_27 : decode cX1_takeFacts 27 = .ok (.getfield 37, 3) := by decide +kernel
theorem dX1_takeFacts_30 : decode cX1_takeFacts 30 = .ok (.getfield 107, 3) := by decide +kernel
theorem dX1_takeFacts_33 : decode cX1_takeFacts 33 = .ok (.iload_n 2, 1) := by decide +kernel
theorem dX1_takeFacts_34 : decode cX1_takeFacts 34 = .ok (.iaload, 1) := by decide +kernel
theorem dX1_takeFacts_35 : decode cX1_takeFacts 35 = .ok (.iload_n 1, 1) := by decide +kernel
theorem dX1_takeFacts_36 : decode cX1_takeFacts 36 = .ok (.invokevirtual 110, 3) := by decide +kernel
theorem dX1_takeFacts_39 : decode cX1_takeFacts 39 = .ok (.iinc 2 1, 3) := by decide +kernel
theorem dX1_takeFacts_42 : decode cX1_takeFacts 42 = .ok (.goto (-32), 3) := by decide +kernel
theorem dX1_takeFacts_45 : decode cX1_takeFacts 45 = .ok (.return_, 1) := by decide +kernel
def bX1_takeFacts_10 (o : Nat)  (r10 : Int32 → Int32 → Hp → Option (Hp)) (x1 : Int32) (x2 : Int32) (h : Hp) : Option (Hp) := ck (inb (x1 + 1) 61) ((if (h.1 158 (ix (x1 + 1))) ≤ x2 then some h else ck (inb x2 60) (bv (fX1_takeFact o (h.1 157 (ix x2)) x1 h) (fun h1 => lt (x2 + 1) (fun v2 => r10 x1 v2 h1)))))
def lX1_takeFacts_10 (o : Nat)  : Nat → Int32 → Int32 → Hp → Option (Hp)
  | 0 => fun _ _ _ => none
  | n + 1 => bX1_takeFacts_10 o  (lX1_takeFacts_10 o  n)
set_option maxRecDepth 20000 in
theorem BX1_takeFacts_10 {Z : ZT} {G : GT} {hr : Hp} (X : CX Z G cX1_takeFacts RX1 3 4) (E : RX Z G none (none) hr) (o : Nat) (ho : isC o) (hz : HZ Z)  (r10 : Int32 → Int32 → Hp → Option (Hp)) (hr10 : ∀ (x1 : Int32) (x2 : Int32) (h : Hp), r10 x1 x2 h = some hr → J Z G 3 h 10 [(0, .ref (Z.2.1 o)), (1, .int x1), (2, .int x2)] []) (x1 : Int32) (x2 : Int32) (h : Hp) (hF : bX1_takeFacts_10 o  r10 x1 x2 h = some hr) : J Z G 3 h 10 [(0, .ref (Z.2.1 o)), (1, .int x1), (2, .int x2)] [] := by
  unfold bX1_takeFacts_10 at hF
  refine j_iload_n (pc := 10) 2 X dX1_takeFacts_10 rfl ?_
  refine j_aload_n (pc := 11) 0 X dX1_takeFacts_11 rfl ?_
  refine j_getr (pc := 12) X dX1_takeFacts_12 (hz _ (shC ho)) fl_X1_37 rfl ?_
  refine j_getr (pc := 15) X dX1_takeFacts_15 (hz _ sh_152) fl_X1_102 rfl ?_
  refine j_iload_n (pc := 18) 1 X dX1_takeFacts_18 rfl ?_
  refine j_iconst (pc := 19) 1 X dX1_takeFacts_19 rfl ?_
  refine j_iadd (pc := 20) X dX1_takeFacts_20 ?_
  refine j_iald (pc := 21) X dX1_takeFacts_21 (hz _ sh_158) hF (fun hF => ?_)
  refine j_icmp_ge (pc := 22) 45 X dX1_takeFacts_22 rfl hF (fun hF => ?_) (fun hF => ?_)
  · exact j_vret (pc := 45) X E dX1_takeFacts_45 hF
  · refine j_aload_n (pc := 25) 0 X dX1_takeFacts_25 rfl ?_
    refine j_aload_n (pc := 26) 0 X dX1_takeFacts_26 rfl ?_
    refine j_getr (pc := 27) X dX1_takeFacts_27 (hz _ (shC ho)) fl_X1_37 rfl ?_
    refine j_getr (pc := 30) X dX1_takeFacts_30 (hz _ sh_152) fl_X1_107 rfl ?_
    refine j_iload_n (pc := 33) 2 X dX1_takeFacts_33 rfl ?_
    refine j_iald (pc := 34) X dX1_takeFacts_34 (hz _ sh_157) hF (fun hF => ?_)
    refine j_iload_n (pc := 35) 1 X dX1_takeFacts_35 rfl ?_
    refine j_cVv (pc := 36) (As := [.int (h.1 157 (ix x2)), .int x1]) (rest := []) X dX1_takeFacts_36 ml_X1_110 ck_X1_takeFact cv_X1_takeFact (hz _ (shC ho)) rfl (Nat.le_of_ble_eq_true rfl) rfl (Nat.le_of_ble_eq_true rfl) rfl hF (tX1_takeFact Z o ho (h.1 157 (ix x2)) x1 hz h) (fun h1 hF => ?_)
    refine j_iinc (pc := 39) 2 (x2 + 1) (fun y => [(2, .int y), (0, .ref (Z.2.1 o)), (1, .int x1)]) X dX1_takeFacts_39 rfl rfl (by decide) (fun _ => rfl) hF (fun v2 hF => ?_)
    refine j_goto (pc := 42) 10 X dX1_takeFacts_42 rfl ?_
    refine j_lv [(0, .ref (Z.2.1 o)), (1, .int x1), (2, .int v2)] [1, 2, 0] rfl ?_
    exact hr10 x1 v2 h1 hF
theorem LX1_takeFacts_10 {Z : ZT} {G : GT} {hr : Hp} (X : CX Z G cX1_takeFacts RX1 3 4) (E : RX Z G none (none) hr) (o : Nat) (ho : isC o) (hz : HZ Z)  : ∀ (n : Nat) (x1 : Int32) (x2 : Int32) (h : Hp), lX1_takeFacts_10 o  n x1 x2 h = some hr → J Z G 3 h 10 [(0, .ref (Z.2.1 o)), (1, .int x1), (2, .int x2)] [] := by
  intro n
  induction n with
  | zero => intro x1 x2 h hF; cases hF
  | succ n ih => intro x1 x2 h hF; exact BX1_takeFacts_10 X E o ho hz  (lX1_takeFacts_10 o  n) ih x1 x2 h hF
def fX1_takeFacts (o : Nat) (a1 : Int32) (h : Hp) : Option (Hp) := ck (inb a1 61) (lt (h.1 158 (ix a1)) (fun v1 => lX1_takeFacts_10 o FU a1 v1 h))
set_option maxRecDepth 20000 in
theorem tX1_takeFacts (Z : ZT) (o : Nat) (ho : isC o) (a1 : Int32) (hz : HZ Z) (h : Hp) (hr : Hp) (hF : fX1_takeFacts o a1 h = some hr) : MC Z yX1_takeFacts cX1_takeFacts 3 none 4 [.ref (Z.2.1 o), .int a1] h (none) hr := by
  unfold fX1_takeFacts at hF
  refine mc_start (by decide) (Nat.le_of_ble_eq_true rfl) (fun G X E => ?_)
  refine j_aload_n (pc := 0) 0 X dX1_takeFacts_0 rfl ?_
  refine j_getr (pc := 1) X dX1_takeFacts_1 (hz _ (shC ho)) fl_X1_37 rfl ?_
  refine j_getr (pc := 4) X dX1_takeFacts_4 (hz _ sh_152) fl_X1_102 rfl ?_
  refine j_iload_n (pc := 7) 1 X dX1_takeFacts_7 rfl ?_
  refine j_iald (pc := 8) X dX1_takeFacts_8 (hz _ sh_158) hF (fun hF => ?_)
  refine j_istore_n (pc := 9) (fun y => [(2, .int y), (0, .ref (Z.2.1 o)), (1, .int a1)]) X dX1_takeFacts_9 (by decide) (fun _ => rfl) hF (fun v1 hF => ?_)
  refine j_lv [(0, .ref (Z.2.1 o)), (1, .int a1), (2, .int v1)] [1, 2, 0] rfl ?_
  exact LX1_takeFacts_10 X E o ho hz FU a1 v1 h hF
theorem dX6_feeOf_0 : decode cX6_feeOf 0 = .ok (.iload_n 1, 1) := by decide +kernel
theorem dX6_feeOf_1 : decode cX6_feeOf 1 = .ok (.bipush 60, 2) := by decide +kernel
theorem dX6_feeOf_3 : decode cX6_feeOf 3 = .ok (.imul, 1) := by decide +kernel
theorem dX6_feeOf_4 : decode cX6_feeOf 4 = .ok (.iload_n 2, 1) := by decide +kernel
theorem dX6_feeOf_5 : decode cX6_feeOf 5 = .ok (.iadd, 1) := by decide +kernel
theorem dX6_feeOf_6 : decode cX6_feeOf 6 = .ok (.istore_n 3, 1) := by decide +kernel
theorem dX6_feeOf_7 : decode cX6_feeOf 7 = .ok (.iload_n 3, 1) := by decide +kernel
theorem dX6_feeOf_8 : decode cX6_feeOf 8 = .ok (.ifCond .lt 21, 3) := by decide +kernel
theorem dX6_feeOf_11 : decode cX6_feeOf 11 = .ok (.iload_n 3, 1) := by decide +kernel
theorem dX6_feeOf_12 : decode cX6_feeOf 12 = .ok (.aload_n 0, 1) := by decide +kernel
theorem dX6_feeOf_13 : decode cX6_feeOf 13 = .ok (.getfield 21, 3) := by decide +kernel
theorem dX6_feeOf_16 : decode cX6_feeOf 16 = .ok (.arraylength, 1) := by decide +kernel
theorem dX6_feeOf_17 : decode cX6_feeOf 17 = .ok (.if_icmp .ge 12, 3) := by decide +kernel
theorem dX6_feeOf_20 : decode cX6_feeOf 20 = .ok (.aload_n 0, 1) := by decide +kernel
theorem dX6_feeOf_21 : decode cX6_feeOf 21 = .ok (.getfield 21, 3) := by decide +kernel
theorem dX6_feeOf_24 : decode cX6_feeOf 24 = .ok (.iload_n 3, 1) := by decide +kernel
theorem dX6_feeOf_25 : decode cX6_feeOf 25 = .ok (.iaload, 1) := by decide +kernel
theorem dX6_feeOf_26 : decode cX6_feeOf 26 = .ok (.goto 4, 3) := by decide +kernel
theorem dX6_feeOf_29 : decode cX6_feeOf 29 = .ok (.iconst 0, 1) := by decide +kernel
theorem dX6_feeOf_30 : decode cX6_feeOf 30 = .ok (.ireturn, 1) := by decide +kernel
def fX6_feeOf (a1 : Int32) (a2 : Int32) (h : Hp) : Option (Int32 × Hp) := lt ((a1 * 60) + a2) (fun v1 => (if v1 < 0 then some (0, h) else (if 240 ≤ v1 then some (0, h) else ck (inb v1 240) (some ((h.1 151 (ix v1)), h)))))
set_option maxRecDepth 20000 in
theorem tX6_feeOf (Z : ZT) (a1 : Int32) (a2 : Int32) (hz : HZ Z) (h : Hp) (r : Int32) (hr : Hp) (hF : fX6_feeOf a1 a2 h = some (r, hr)) : MC Z yX6_feeOf cX6_feeOf 4 (some .int) 0 [.ref (Z.2.1 147), .int a1, .int a2] h (some (.int r)) hr := by
  unfold fX6_feeOf at hF
  refine mc_start (by decide) (Nat.le_of_ble_eq_true rfl) (fun G X E => ?_)
  refine j_iload_n (pc := 0) 1 X dX6_feeOf_0 rfl ?_
  refine j_bipush (pc := 1) 60 X dX6_feeOf_1 rfl ?_
  refine j_imul (pc := 3) X dX6_feeOf_3 ?_
  refine j_iload_n (pc := 4) 2 X dX6_feeOf_4 rfl ?_
  refine j_iadd (pc := 5) X dX6_feeOf_5 ?_
  refine j_istore_n (pc := 6) (fun y => [(3, .int y), (0, .ref (Z.2.1 147)), (1, .int a1), (2, .int a2)]) X dX6_feeOf_6 (by decide) (fun _ => rfl) hF (fun v1 hF => ?_)
  refine j_iload_n (pc := 7) 0 X dX6_feeOf_7 rfl ?_
  refine j_if_lt (pc := 8) 29 X dX6_feeOf_8 rfl hF (fun hF => ?_) (fun hF => ?_)
  · refine j_iconst (pc := 29) 0 X dX6_feeOf_29 rfl ?_
    exact j_iret (pc := 30) X E dX6_feeOf_30 hF
  · refine j_iload_n (pc := 11) 0 X dX6_feeOf_11 rfl ?_
    refine j_aload_n (pc := 12) 1 X dX6_feeOf_12 rfl ?_
    refine j_getr (pc := 13) X dX6_feeOf_13 (hz _ sh_147) fl_X6_21 rfl ?_
    refine j_alen (pc := 16) (v := 240) X dX6_feeOf_16 (hz _ sh_151) (by decide) rfl ?_
    refine j_icmp_ge (pc := 17) 29 X dX6_feeOf_17 rfl hF (fun hF => ?_) (fun hF => ?_)
    · refine j_iconst (pc := 29) 0 X dX6_feeOf_29 rfl ?_
      exact j_iret (pc := 30) X E dX6_feeOf_30 hF
    · refine j_aload_n (pc := 20) 1 X dX6_feeOf_20 rfl ?_
      refine j_getr (pc := 21) X dX6_feeOf_21 (hz _ sh_147) fl_X6_21 rfl ?_
      refine j_iload_n (pc := 24) 0 X dX6_feeOf_24 rfl ?_
      refine j_iald (pc := 25) X dX6_feeOf_25 (hz _ sh_151) hF (fun hF => ?_)
      refine j_goto (pc := 26) 30 X dX6_feeOf_26 rfl ?_
      exact j_iret (pc := 30) X E dX6_feeOf_30 hF
theorem dX1_payFees_0 : decode cX1_payFees 0 = .ok (.iconst 0, 1) := by decide +kernel
theorem dX1_payFees_1 : decode cX1_payFees 1 = .ok (.istore_n 2, 1) := by decide +kernel
theorem dX1_payFees_2 : decode cX1_payFees 2 = .ok (.iload_n 2, 1) := by decide +kernel
theorem dX1_payFees_3 : decode cX1_payFees 3 = .ok (.aload_n 0, 1) := by decide +kernel
theorem dX1_payFees_4 : decode cX1_payFees 4 = .ok (.getfield 33, 3) := by decide +kernel
theorem dX1_payFees_7 : decode cX1_payFees 7 = .ok (.getfield 51, 3) := by decide +kernel
theorem dX1_payFees_10 : decode cX1_payFees 10 = .ok (.if_icmp .ge 108, 3) := by decide +kernel
theorem dX1_payFees_13 : decode cX1_payFees 13 = .ok (.aload_n 0, 1) := by decide +kernel
theorem dX1_payFees_14 : decode cX1_payFees 14 = .ok (.getfield 9, 3) := by decide +kernel
theorem dX1_payFees_17 : decode cX1_payFees 17 = .ok (.iload_n 2, 1) := by decide +kernel
theorem dX1_payFees_18 : decode cX1_payFees 18 = .ok (.iaload, 1) := by decide +kernel
theorem dX1_payFees_19 : decode cX1_payFees 19 = .ok (.ifCond .eq 6, 3) := by decide +kernel
theorem dX1_payFees_22 : decode cX1_payFees 22 = .ok (.goto 90, 3) := by decide +kernel
theorem dX1_payFees_25 : decode cX1_payFees 25 = .ok (.aload_n 0, 1) := by decide +kernel
theorem dX1_payFees_26 : decode cX1_payFees 26 = .ok (.getfield 41, 3) := by decide +kernel
theorem dX1_payFees_29 : decode cX1_payFees 29 = .ok (.aload_n 0, 1) := by decide +kernel
theorem dX1_payFees_30 : decode cX1_payFees 30 = .ok (.getfield 33, 3) := by decide +kernel
theorem dX1_payFees_33 : decode cX1_payFees 33 = .ok (.getfield 57, 3) := by decide +kernel
theorem dX1_payFees_36 : decode cX1_payFees 36 = .ok (.iload_n 2, 1) := by decide +kernel
theorem dX1_payFees_37 : decode cX1_payFees 37 = .ok (.aaload, 1) := by decide +kernel
theorem dX1_payFees_38 : decode cX1_payFees 38 = .ok (.getfield 149, 3) := by decide +kernel
theorem dX1_payFees_41 : decode cX1_payFees 41 = .ok (.iload_n 1, 1) := by decide +kernel
theorem dX1_payFees_42 : decode cX1_payFees 42 = .ok (.invokevirtual 152, 3) := by decide +kernel
theorem dX1_payFees_45 : decode cX1_payFees 45 = .ok (.istore_n 3, 1) := by decide +kernel
theorem dX1_payFees_46 : decode cX1_payFees 46 = .ok (.aload_n 0, 1) := by decide +kernel
theorem dX1_payFees_47 : decode cX1_payFees 47 = .ok (.getfield 69, 3) := by decide +kernel
theorem dX1_payFees_50 : decode cX1_payFees 50 = .ok (.aload_n 0, 1) := by decide +kernel
theorem dX1_payFees_51 : decode cX1_payFees 51 = .ok (.getfield 33, 3) := by decide +kernel
theorem dX1_payFees_54 : decode cX1_payFees 54 = .ok (.getfield 57, 3) := by decide +kernel
theorem dX1_payFees_57 : decode cX1_payFees 57 = .ok (.iload_n 2, 1) := by decide +kernel
theorem dX1_payFees_58 : decode cX1_payFees 58 = .ok (.aaload, 1) := by decide +kernel
theorem dX1_payFees_59 : decode cX1_payFees 59 = .ok (.getfield 126, 3) := by decide +kernel
theorem dX1_payFees_62 : decode cX1_payFees 62 = .ok (.invokestatic 129, 3) := by decide +kernel
theorem dX1_payFees_65 : decode cX1_payFees 65 = .ok (.ifCond .eq 37, 3) := by decide +kernel
theorem dX1_payFees_68 : decode cX1_payFees 68 = .ok (.aload_n 0, 1) := by decide +kernel
theorem dX1_payFees_69 : decode cX1_payFees 69 = .ok (.getfield 18, 3) := by decide +kernel
theorem dX1_payFees_72 : decode cX1_payFees 72 = .ok (.iload_n 2, 1) := by decide +kernel
theorem dX1_payFees_73 : decode cX1_payFees 73 = .ok (.iaload, 1) := by decide +kernel
theorem dX1_payFees_74 : decode cX1_payFees 74 = .ok (.iload_n 3, 1) := by decide +kernel
theorem dX1_payFees_75 : decode cX1_payFees 75 = .ok (.if_icmp .ge 17, 3) := by decide +kernel
theorem dX1_payFees_78 : decode cX1_payFees 78 = .ok (.aload_n 0, 1) := by decide +kernel
theorem dX1_payFees_79 : decode cX1_payFees 79 = .ok (.getfield 18, 3) := by decide +kernel
theorem dX1_payFees_82 : decode cX1_payFees 82 = .ok (.iload_n 2, 1) := by decide +kernel
theorem dX1_payFees_83 : decode cX1_payFees 83 = .ok (.iaload, 1) := by decide +kernel
theorem dX1_payFees_84 : decode cX1_payFees 84 = .ok (.istore_n 3, 1) := by decide +kernel
theorem dX1_payFees_85 : decode cX1_payFees 85 = .ok (.aload_n 0, 1) := by decide +kernel
theorem dX1_payFees_86 : decode cX1_payFees 86 = .ok (.iconst 5, 1) := by decide +kernel
theorem dX1_payFees_87 : decode cX1_payFees 87 = .ok (.iload_n 2, 1) := by decide +kernel
theorem dX1_payFees_88 : decode cX1_payFees 88 = .ok (.iload_n 1, 1) := by decide +kernel
theorem dX1_payFees_89 : decode cX1_payFees 89 = .ok (.invokevirtual 133, 3) := by decide +kernel
theorem dX1_payFees_92 : decode cX1_payFees 92 = .ok (.aload_n 0, 1) := by decide +kernel
theorem dX1_payFees_93 : decode cX1_payFees 93 = .ok (.getfield 18, 3) := by decide +kernel
theorem dX1_payFees_96 : decode cX1_payFees 96 = .ok (.iload_n 2, 1) := by decide +kernel
theorem dX1_payFees_97 : decode cX1_payFees 97 = .ok (.dup2, 1) := by decide +kernel
theorem dX1_payFees_98 : decode cX1_payFees 98 = .ok (.iaload, 1) := by decide +kernel
theorem dX1_payFees_99 : decode cX1_payFees 99 = .ok (.iload_n 3, 1) := by decide +kernel
theorem dX1_payFees_100 : decode cX1_payFees 100 = .ok (.isub, 1) := by decide +kernel
theorem dX1_payFees_101 : decode cX1_payFees 101 = .ok (.iastore, 1) := by decide +kernel
theorem dX1_payFees_102 : decode cX1_payFees 102 = .ok (.aload_n 0, 1) := by decide +kernel
theorem dX1_payFees_103 : decode cX1_payFees 103 = .ok (.getfield 30, 3) := by decide +kernel
theorem dX1_payFees_106 : decode cX1_payFees 106 = .ok (.iload_n 1, 1) := by decide +kernel
theorem dX1_payFees_107 : decode cX1_payFees 107 = .ok (.dup2, 1) := by decide +kernel
theorem dX1_payFees_108 : decode cX1_payFees 108 = .ok (.iaload, 1) := by decide +kernel
theorem dX1_payFees_109 : decode cX1_payFees 109 = .ok (.iload_n 3, 1) := by decide +kernel
theorem dX1_payFees_110 : decode cX1_payFees 110 = .ok (.iadd, 1) := by decide +kernel
theorem dX1_payFees_111 : decode cX1_payFees 111 = .ok (.iastore, 1) := by decide +kernel
theorem dX1_payFees_112 : decode cX1_payFees 112 = .ok (.iinc 2 1, 3) := by decide +kernel
theorem dX1_payFees_115 : decode cX1_payFees 115 = .ok (.goto (-113), 3) := by decide +kernel
theorem dX1_payFees_118 : decode cX1_payFees 118 = .ok (.return_, 1) := by decide +kernel
def bX1_payFees_112 (o : Nat) (r2 : Int32 → Int32 → Hp → Option (Hp)) (x1 : Int32) (x2 : Int32) (h : Hp) : Option (Hp) := lt (x2 + 1) (fun v1 => r2 x1 v1 h)
set_option maxRecDepth 20000 in
theorem BX1_payFees_112 {Z : ZT} {G : GT} {hr : Hp} (X : CX Z G cX1_payFees RX1 4 1) (E : RX Z G none (none) hr) (o : Nat) (ho : isC o) (hz : HZ Z) (r2 : Int32 → Int32 → Hp → Option (Hp)) (hr2 : ∀ (x1 : Int32) (x2 : Int32) (h : Hp), r2 x1 x2 h = some hr → J Z G 4 h 2 [(0, .ref (Z.2.1 o)), (1, .int x1), (2, .int x2)] []) (x1 : Int32) (x2 : Int32) (h : Hp) (hF : bX1_payFees_112 o r2 x1 x2 h = some hr) : J Z G 4 h 112 [(0, .ref (Z.2.1 o)), (1, .int x1), (2, .int x2)] [] := by
  unfold bX1_payFees_112 at hF
  refine j_iinc (pc := 112) 2 (x2 + 1) (fun y => [(2, .int y), (0, .ref (Z.2.1 o)), (1, .int x1)]) X dX1_payFees_112 rfl rfl (by decide) (fun _ => rfl) hF (fun v1 hF => ?_)
  refine j_goto (pc := 115) 2 X dX1_payFees_115 rfl ?_
  refine j_lv [(0, .ref (Z.2.1 o)), (1, .int x1), (2, .int v1)] [1, 2, 0] rfl ?_
  exact hr2 x1 v1 h hF
def bX1_payFees_102 (o : Nat) (r2 : Int32 → Int32 → Hp → Option (Hp)) (x1 : Int32) (x2 : Int32) (x3 : Int32) (h : Hp) : Option (Hp) := ck (inb x1 60) (ck (inb x1 60) (lt (wI h (o + 7) (ix x1) ((h.1 (o + 7) (ix x1)) + x3)) (fun h1 => bX1_payFees_112 o r2 x1 x2 h1)))
set_option maxRecDepth 20000 in
theorem BX1_payFees_102 {Z : ZT} {G : GT} {hr : Hp} (X : CX Z G cX1_payFees RX1 4 1) (E : RX Z G none (none) hr) (o : Nat) (ho : isC o) (hz : HZ Z) (r2 : Int32 → Int32 → Hp → Option (Hp)) (hr2 : ∀ (x1 : Int32) (x2 : Int32) (h : Hp), r2 x1 x2 h = some hr → J Z G 4 h 2 [(0, .ref (Z.2.1 o)), (1, .int x1), (2, .int x2)] []) (x1 : Int32) (x2 : Int32) (x3 : Int32) (h : Hp) (hF : bX1_payFees_102 o r2 x1 x2 x3 h = some hr) : J Z G 4 h 102 [(0, .ref (Z.2.1 o)), (1, .int x1), (2, .int x2), (3, .int x3)] [] := by
  unfold bX1_payFees_102 at hF
  refine j_aload_n (pc := 102) 0 X dX1_payFees_102 rfl ?_
  refine j_getr (pc := 103) X dX1_payFees_103 (hz _ (shC ho)) fl_X1_30 rfl ?_
  refine j_iload_n (pc := 106) 1 X dX1_payFees_106 rfl ?_
  refine j_dup2 (pc := 107) X dX1_payFees_107 rfl rfl ?_
  refine j_iald (pc := 108) X dX1_payFees_108 (hz _ (shC_7 ho)) hF (fun hF => ?_)
  refine j_iload_n (pc := 109) 3 X dX1_payFees_109 rfl ?_
  refine j_iadd (pc := 110) X dX1_payFees_110 ?_
  refine j_iast (pc := 111) X dX1_payFees_111 (hz _ (shC_7 ho)) hF (fun h1 hF => ?_)
  refine j_lv [(0, .ref (Z.2.1 o)), (1, .int x1), (2, .int x2)] [0, 1, 2] rfl ?_
  exact BX1_payFees_112 X E o ho hz r2 hr2 x1 x2 h1 hF
def bX1_payFees_92 (o : Nat) (r2 : Int32 → Int32 → Hp → Option (Hp)) (x1 : Int32) (x2 : Int32) (x3 : Int32) (h : Hp) : Option (Hp) := ck (inb x2 10) (ck (inb x2 10) (lt (wI h (o + 3) (ix x2) ((h.1 (o + 3) (ix x2)) - x3)) (fun h1 => bX1_payFees_102 o r2 x1 x2 x3 h1)))
set_option maxRecDepth 20000 in
theorem BX1_payFees_92 {Z : ZT} {G : GT} {hr : Hp} (X : CX Z G cX1_payFees RX1 4 1) (E : RX Z G none (none) hr) (o : Nat) (ho : isC o) (hz : HZ Z) (r2 : Int32 → Int32 → Hp → Option (Hp)) (hr2 : ∀ (x1 : Int32) (x2 : Int32) (h : Hp), r2 x1 x2 h = some hr → J Z G 4 h 2 [(0, .ref (Z.2.1 o)), (1, .int x1), (2, .int x2)] []) (x1 : Int32) (x2 : Int32) (x3 : Int32) (h : Hp) (hF : bX1_payFees_92 o r2 x1 x2 x3 h = some hr) : J Z G 4 h 92 [(0, .ref (Z.2.1 o)), (1, .int x1), (2, .int x2), (3, .int x3)] [] := by
  unfold bX1_payFees_92 at hF
  refine j_aload_n (pc := 92) 0 X dX1_payFees_92 rfl ?_
  refine j_getr (pc := 93) X dX1_payFees_93 (hz _ (shC ho)) fl_X1_18 rfl ?_
  refine j_iload_n (pc := 96) 2 X dX1_payFees_96 rfl ?_
  refine j_dup2 (pc := 97) X dX1_payFees_97 rfl rfl ?_
  refine j_iald (pc := 98) X dX1_payFees_98 (hz _ (shC_3 ho)) hF (fun hF => ?_)
  refine j_iload_n (pc := 99) 3 X dX1_payFees_99 rfl ?_
  refine j_isub (pc := 100) X dX1_payFees_100 ?_
  refine j_iast (pc := 101) X dX1_payFees_101 (hz _ (shC_3 ho)) hF (fun h1 hF => ?_)
  exact BX1_payFees_102 X E o ho hz r2 hr2 x1 x2 x3 h1 hF
def bX1_payFees_2 (o : Nat)  (r2 : Int32 → Int32 → Hp → Option (Hp)) (x1 : Int32) (x2 : Int32) (h : Hp) : Option (Hp) := (if (h.1 108 9) ≤ x2 then some h else ck (inb x2 10) ((if (h.1 (o + 1) (ix x2)) = 0 then ck (inb x2 10) (bi (fX6_feeOf (h.1 (115 + ix x2) 2) x1 h) (fun w3 h2 => lt w3 (fun v4 => ck (inb x2 10) (bi (fX11_has (h2.1 o 11) (h2.1 (115 + ix x2) 0) h2) (fun w7 h6 => (if w7 = 0 then bX1_payFees_102 o r2 x1 x2 v4 h6 else ck (inb x2 10) ((if v4 ≤ (h6.1 (o + 3) (ix x2)) then bX1_payFees_92 o r2 x1 x2 v4 h6 else ck (inb x2 10) (lt (h6.1 (o + 3) (ix x2)) (fun v8 => bv (fX1_endAs o 5 x2 x1 h6) (fun h9 => bX1_payFees_92 o r2 x1 x2 v8 h9))))))))))) else bX1_payFees_112 o r2 x1 x2 h)))
def lX1_payFees_2 (o : Nat)  : Nat → Int32 → Int32 → Hp → Option (Hp)
  | 0 => fun _ _ _ => none
  | n + 1 => bX1_payFees_2 o  (lX1_payFees_2 o  n)
set_option maxRecDepth 20000 in
theorem BX1_payFees_2 {Z : ZT} {G : GT} {hr : Hp} (X : CX Z G cX1_payFees RX1 4 1) (E : RX Z G none (none) hr) (o : Nat) (ho : isC o) (hz : HZ Z)  (r2 : Int32 → Int32 → Hp → Option (Hp)) (hr2 : ∀ (x1 : Int32) (x2 : Int32) (h : Hp), r2 x1 x2 h = some hr → J Z G 4 h 2 [(0, .ref (Z.2.1 o)), (1, .int x1), (2, .int x2)] []) (x1 : Int32) (x2 : Int32) (h : Hp) (hF : bX1_payFees_2 o  r2 x1 x2 h = some hr) : J Z G 4 h 2 [(0, .ref (Z.2.1 o)), (1, .int x1), (2, .int x2)] [] := by
  unfold bX1_payFees_2 at hF
  refine j_iload_n (pc := 2) 2 X dX1_payFees_2 rfl ?_
  refine j_aload_n (pc := 3) 0 X dX1_payFees_3 rfl ?_
  refine j_getr (pc := 4) X dX1_payFees_4 (hz _ (shC ho)) fl_X1_33 rfl ?_
  refine j_geti (pc := 7) X dX1_payFees_7 (hz _ sh_108) fl_X1_51 rfl ?_
  refine j_icmp_ge (pc := 10) 118 X dX1_payFees_10 rfl hF (fun hF => ?_) (fun hF => ?_)
  · exact j_vret (pc := 118) X E dX1_payFees_118 hF
  · refine j_aload_n (pc := 13) 0 X dX1_payFees_13 rfl ?_
    refine j_getr (pc := 14) X dX1_payFees_14 (hz _ (shC ho)) fl_X1_9 rfl ?_
    refine j_iload_n (pc := 17) 2 X dX1_payFees_17 rfl ?_
    refine j_iald (pc := 18) X dX1_payFees_18 (hz _ (shC_1 ho)) hF (fun hF => ?_)
    refine j_if_eq (pc := 19) 25 X dX1_payFees_19 rfl hF (fun hF => ?_) (fun hF => ?_)
    · refine j_aload_n (pc := 25) 0 X dX1_payFees_25 rfl ?_
      refine j_getr (pc := 26) X dX1_payFees_26 (hz _ (shC ho)) fl_X1_41 rfl ?_
      refine j_aload_n (pc := 29) 0 X dX1_payFees_29 rfl ?_
      refine j_getr (pc := 30) X dX1_payFees_30 (hz _ (shC ho)) fl_X1_33 rfl ?_
      refine j_getr (pc := 33) X dX1_payFees_33 (hz _ sh_108) fl_X1_57 rfl ?_
      refine j_iload_n (pc := 36) 2 X dX1_payFees_36 rfl ?_
      refine j_aald (pc := 37) (g := fun j => 115 + j) (C := "AfterOffice$Letter") X dX1_payFees_37 (hz _ sh_111) (fun _ => rfl) rfl al_111 hF (fun hb1 hF => ?_)
      refine j_geti (pc := 38) X dX1_payFees_38 (hz _ (shL (is_111 hb1))) fl_X1_149 rfl ?_
      refine j_iload_n (pc := 41) 1 X dX1_payFees_41 rfl ?_
      refine j_cVi (pc := 42) (As := [.int (h.1 (115 + ix x2) 2), .int x1]) (rest := []) X dX1_payFees_42 ml_X1_152 ck_X6_feeOf cv_X6_feeOf (hz _ sh_147) rfl (Nat.le_of_ble_eq_true rfl) rfl (Nat.le_of_ble_eq_true rfl) rfl hF (tX6_feeOf Z (h.1 (115 + ix x2) 2) x1 hz h) (fun w3 h2 hF => ?_)
      refine j_istore_n (pc := 45) (fun y => [(3, .int y), (0, .ref (Z.2.1 o)), (1, .int x1), (2, .int x2)]) X dX1_payFees_45 (by decide) (fun _ => rfl) hF (fun v4 hF => ?_)
      refine j_aload_n (pc := 46) 1 X dX1_payFees_46 rfl ?_
      refine j_geti (pc := 47) X dX1_payFees_47 (hz _ (shC ho)) fl_X1_69 rfl ?_
      refine j_aload_n (pc := 50) 1 X dX1_payFees_50 rfl ?_
      refine j_getr (pc := 51) X dX1_payFees_51 (hz _ (shC ho)) fl_X1_33 rfl ?_
      refine j_getr (pc := 54) X dX1_payFees_54 (hz _ sh_108) fl_X1_57 rfl ?_
      refine j_iload_n (pc := 57) 3 X dX1_payFees_57 rfl ?_
      refine j_aald (pc := 58) (g := fun j => 115 + j) (C := "AfterOffice$Letter") X dX1_payFees_58 (hz _ sh_111) (fun _ => rfl) rfl al_111 hF (fun hb5 hF => ?_)
      refine j_geti (pc := 59) X dX1_payFees_59 (hz _ (shL (is_111 hb5))) fl_X1_126 rfl ?_
      refine j_cSNi (pc := 62) (As := [.int (h2.1 o 11), .int (h2.1 (115 + ix x2) 0)]) (rest := []) X dX1_payFees_62 ml_X1_129 ck_X11_has sk_X11_has (Nat.le_of_ble_eq_true rfl) rfl (Nat.le_of_ble_eq_true rfl) rfl hF (tX11_has Z (h2.1 o 11) (h2.1 (115 + ix x2) 0) trivial h2) (fun w7 h6 hF => ?_)
      refine j_if_eq (pc := 65) 102 X dX1_payFees_65 rfl hF (fun hF => ?_) (fun hF => ?_)
      · refine j_lv [(0, .ref (Z.2.1 o)), (1, .int x1), (2, .int x2), (3, .int v4)] [1, 2, 3, 0] rfl ?_
        exact BX1_payFees_102 X E o ho hz r2 hr2 x1 x2 v4 h6 hF
      · refine j_aload_n (pc := 68) 1 X dX1_payFees_68 rfl ?_
        refine j_getr (pc := 69) X dX1_payFees_69 (hz _ (shC ho)) fl_X1_18 rfl ?_
        refine j_iload_n (pc := 72) 3 X dX1_payFees_72 rfl ?_
        refine j_iald (pc := 73) X dX1_payFees_73 (hz _ (shC_3 ho)) hF (fun hF => ?_)
        refine j_iload_n (pc := 74) 0 X dX1_payFees_74 rfl ?_
        refine j_icmp_ge (pc := 75) 92 X dX1_payFees_75 rfl hF (fun hF => ?_) (fun hF => ?_)
        · refine j_lv [(0, .ref (Z.2.1 o)), (1, .int x1), (2, .int x2), (3, .int v4)] [1, 2, 3, 0] rfl ?_
          exact BX1_payFees_92 X E o ho hz r2 hr2 x1 x2 v4 h6 hF
        · refine j_aload_n (pc := 78) 1 X dX1_payFees_78 rfl ?_
          refine j_getr (pc := 79) X dX1_payFees_79 (hz _ (shC ho)) fl_X1_18 rfl ?_
          refine j_iload_n (pc := 82) 3 X dX1_payFees_82 rfl ?_
          refine j_iald (pc := 83) X dX1_payFees_83 (hz _ (shC_3 ho)) hF (fun hF => ?_)
          refine j_istore_n (pc := 84) (fun y => [(3, .int y), (0, .ref (Z.2.1 o)), (1, .int x1), (2, .int x2)]) X dX1_payFees_84 (by decide) (fun _ => rfl) hF (fun v8 hF => ?_)
          refine j_aload_n (pc := 85) 1 X dX1_payFees_85 rfl ?_
          refine j_iconst (pc := 86) 5 X dX1_payFees_86 rfl ?_
          refine j_iload_n (pc := 87) 3 X dX1_payFees_87 rfl ?_
          refine j_iload_n (pc := 88) 2 X dX1_payFees_88 rfl ?_
          refine j_cVv (pc := 89) (As := [.int 5, .int x2, .int x1]) (rest := []) X dX1_payFees_89 ml_X1_133 ck_X1_endAs cv_X1_endAs (hz _ (shC ho)) rfl (Nat.le_of_ble_eq_true rfl) rfl (Nat.le_of_ble_eq_true rfl) rfl hF (tX1_endAs Z o ho 5 x2 x1 hz h6) (fun h9 hF => ?_)
          refine j_lv [(0, .ref (Z.2.1 o)), (1, .int x1), (2, .int x2), (3, .int v8)] [1, 2, 3, 0] rfl ?_
          exact BX1_payFees_92 X E o ho hz r2 hr2 x1 x2 v8 h9 hF
    · refine j_goto (pc := 22) 112 X dX1_payFees_22 rfl ?_
      exact BX1_payFees_112 X E o ho hz r2 hr2 x1 x2 h hF
theorem LX1_payFees_2 {Z : ZT} {G : GT} {hr : Hp} (X : CX Z G cX1_payFees RX1 4 1) (E : RX Z G none (none) hr) (o : Nat) (ho : isC o) (hz : HZ Z)  : ∀ (n : Nat) (x1 : Int32) (x2 : Int32) (h : Hp), lX1_payFees_2 o  n x1 x2 h = some hr → J Z G 4 h 2 [(0, .ref (Z.2.1 o)), (1, .int x1), (2, .int x2)] [] := by
  intro n
  induction n with
  | zero => intro x1 x2 h hF; cases hF
  | succ n ih => intro x1 x2 h hF; exact BX1_payFees_2 X E o ho hz  (lX1_payFees_2 o  n) ih x1 x2 h hF
def fX1_payFees (o : Nat) (a1 : Int32) (h : Hp) : Option (Hp) := lt 0 (fun v1 => lX1_payFees_2 o FU a1 v1 h)
set_option maxRecDepth 20000 in
theorem tX1_payFees (Z : ZT) (o : Nat) (ho : isC o) (a1 : Int32) (hz : HZ Z) (h : Hp) (hr : Hp) (hF : fX1_payFees o a1 h = some hr) : MC Z yX1_payFees cX1_payFees 4 none 1 [.ref (Z.2.1 o), .int a1] h (none) hr := by
  unfold fX1_payFees at hF
  refine mc_start (by decide) (Nat.le_of_ble_eq_true rfl) (fun G X E => ?_)
  refine j_iconst (pc := 0) 0 X dX1_payFees_0 rfl ?_
  refine j_istore_n (pc := 1) (fun y => [(2, .int y), (0, .ref (Z.2.1 o)), (1, .int a1)]) X dX1_payFees_1 (by decide) (fun _ => rfl) hF (fun v1 hF => ?_)
  refine j_lv [(0, .ref (Z.2.1 o)), (1, .int a1), (2, .int v1)] [1, 2, 0] rfl ?_
  exact LX1_payFees_2 X E o ho hz FU a1 v1 h hF
theorem dX1_firstDue_0 : decode cX1_firstDue 0 = .ok (.iconst 0, 1) := by decide +kernel
theorem dX1_firstDue_1 : decode cX1_firstDue 1 = .ok (.istore_n 2, 1) := by decide +kernel
theorem dX1_firstDue_2 : decode cX1_firstDue 2 = .ok (.iload_n 2, 1) := by decide +kernel
theorem dX1_firstDue_3 : decode cX1_firstDue 3 = .ok (.aload_n 0, 1) := by decide +kernel
theorem dX1_firstDue_4 : decode cX1_firstDue 4 = .ok (.getfield 33, 3) := by decide +kernel
theorem dX1_firstDue_7 : decode cX1_firstDue 7 = .ok (.getfield 51, 3) := by decide +kernel
theorem dX1_firstDue_10 : decode cX1_firstDue 10 = .ok (.if_icmp .ge 89, 3) := by decide +kernel
theorem dX1_firstDue_13 : decode cX1_firstDue 13 = .ok (.aload_n 0, 1) := by decide +kernel
theorem dX1_firstDue_14 : decode cX1_firstDue 14 = .ok (.getfield 33, 3) := by decide +kernel
theorem dX1_firstDue_17 : decode cX1_firstDue 17 = .ok (.getfield 57, 3) := by decide +kernel
theorem dX1_firstDue_20 : decode cX1_firstDue 20 = .ok (.iload_n 2, 1) := by decide +kernel
theorem dX1_firstDue_21 : decode cX1_firstDue 21 = .ok (.aaload, 1) := by decide +kernel
theorem dX1_firstDue_22 : decode cX1_firstDue 22 = .ok (.astore_n 3, 1) := by decide +kernel
theorem dX1_firstDue_23 : decode cX1_firstDue 23 = .ok (.aload_n 0, 1) := by decide +kernel
theorem dX1_firstDue_24 : decode cX1_firstDue 24 = .ok (.getfield 9, 3) := by decide +kernel
theorem dX1_firstDue_27 : decode cX1_firstDue 27 = .ok (.iload_n 2, 1) := by decide +kernel
theorem dX1_firstDue_28 : decode cX1_firstDue 28 = .ok (.iaload, 1) := by decide +kernel
theorem dX1_firstDue_29 : decode cX1_firstDue 29 = .ok (.ifCond .ne 64, 3) := by decide +kernel
theorem dX1_firstDue_32 : decode cX1_firstDue 32 = .ok (.aload_n 0, 1) := by decide +kernel
theorem dX1_firstDue_33 : decode cX1_firstDue 33 = .ok (.getfield 21, 3) := by decide +kernel
theorem dX1_firstDue_36 : decode cX1_firstDue 36 = .ok (.iload_n 2, 1) := by decide +kernel
theorem dX1_firstDue_37 : decode cX1_firstDue 37 = .ok (.iaload, 1) := by decide +kernel
theorem dX1_firstDue_38 : decode cX1_firstDue 38 = .ok (.iload_n 1, 1) := by decide +kernel
theorem dX1_firstDue_39 : decode cX1_firstDue 39 = .ok (.if_icmp .gt 54, 3) := by decide +kernel
theorem dX1_firstDue_42 : decode cX1_firstDue 42 = .ok (.aload_n 0, 1) := by decide +kernel
theorem dX1_firstDue_43 : decode cX1_firstDue 43 = .ok (.getfield 69, 3) := by decide +kernel
theorem dX1_firstDue_46 : decode cX1_firstDue 46 = .ok (.aload_n 3, 1) := by decide +kernel
theorem dX1_firstDue_47 : decode cX1_firstDue 47 = .ok (.getfield 160, 3) := by decide +kernel
theorem dX1_firstDue_50 : decode cX1_firstDue 50 = .ok (.invokestatic 129, 3) := by decide +kernel
theorem dX1_firstDue_53 : decode cX1_firstDue 53 = .ok (.ifCond .ne 40, 3) := by decide +kernel
theorem dX1_firstDue_56 : decode cX1_firstDue 56 = .ok (.aload_n 0, 1) := by decide +kernel
theorem dX1_firstDue_57 : decode cX1_firstDue 57 = .ok (.getfield 33, 3) := by decide +kernel
theorem dX1_firstDue_60 : decode cX1_firstDue 60 = .ok (.iload_n 1, 1) := by decide +kernel
theorem dX1_firstDue_61 : decode cX1_firstDue 61 = .ok (.aload_n 3, 1) := by decide +kernel
theorem dX1_firstDue_62 : decode cX1_firstDue 62 = .ok (.getfield 160, 3) := by decide +kernel
theorem dX1_firstDue_65 : decode cX1_firstDue 65 = .ok (.invokevirtual 163, 3) := by decide +kernel
theorem dX1_firstDue_68 : decode cX1_firstDue 68 = .ok (.ifCond .eq 25, 3) := by decide +kernel
theorem dX1_firstDue_71 : decode cX1_firstDue 71 = .ok (.aload_n 0, 1) := by decide +kernel
theorem dX1_firstDue_72 : decode cX1_firstDue 72 = .ok (.getfield 41, 3) := by decide +kernel
theorem dX1_firstDue_75 : decode cX1_firstDue 75 = .ok (.aload_n 3, 1) := by decide +kernel
theorem dX1_firstDue_76 : decode cX1_firstDue 76 = .ok (.iload_n 1, 1) := by decide +kernel
theorem dX1_firstDue_77 : decode cX1_firstDue 77 = .ok (.aload_n 0, 1) := by decide +kernel
theorem dX1_firstDue_78 : decode cX1_firstDue 78 = .ok (.getfield 69, 3) := by decide +kernel
theorem dX1_firstDue_81 : decode cX1_firstDue 81 = .ok (.aload_n 0, 1) := by decide +kernel
theorem dX1_firstDue_82 : decode cX1_firstDue 82 = .ok (.getfield 72, 3) := by decide +kernel
theorem dX1_firstDue_85 : decode cX1_firstDue 85 = .ok (.invokevirtual 137, 3) := by decide +kernel
theorem dX1_firstDue_88 : decode cX1_firstDue 88 = .ok (.ifCond .eq 5, 3) := by decide +kernel
theorem dX1_firstDue_91 : decode cX1_firstDue 91 = .ok (.iload_n 2, 1) := by decide +kernel
theorem dX1_firstDue_92 : decode cX1_firstDue 92 = .ok (.ireturn, 1) := by decide +kernel
theorem dX1_firstDue_93 : decode cX1_firstDue 93 = .ok (.iinc 2 1, 3) := by decide +kernel
theorem dX1_firstDue_96 : decode cX1_firstDue 96 = .ok (.goto (-94), 3) := by decide +kernel
theorem dX1_firstDue_99 : decode cX1_firstDue 99 = .ok (.iconst (-1), 1) := by decide +kernel
theorem dX1_firstDue_100 : decode cX1_firstDue 100 = .ok (.ireturn, 1) := by decide +kernel
def bX1_firstDue_93 (o : Nat) (r2 : Int32 → Int32 → Hp → Option (Int32 × Hp)) (x1 : Int32) (x2 : Int32) (h : Hp) : Option (Int32 × Hp) := lt (x2 + 1) (fun v1 => r2 x1 v1 h)
set_option maxRecDepth 20000 in
theorem BX1_firstDue_93 {Z : ZT} {G : GT} {r : Int32} {hr : Hp} (X : CX Z G cX1_firstDue RX1 4 3) (E : RX Z G (some .int) (some (.int r)) hr) (o : Nat) (ho : isC o) (hz : HZ Z) (r2 : Int32 → Int32 → Hp → Option (Int32 × Hp)) (hr2 : ∀ (x1 : Int32) (x2 : Int32) (h : Hp), r2 x1 x2 h = some (r, hr) → J Z G 4 h 2 [(0, .ref (Z.2.1 o)), (1, .int x1), (2, .int x2)] []) (x1 : Int32) (x2 : Int32) (h : Hp) (hF : bX1_firstDue_93 o r2 x1 x2 h = some (r, hr)) : J Z G 4 h 93 [(0, .ref (Z.2.1 o)), (1, .int x1), (2, .int x2)] [] := by
  unfold bX1_firstDue_93 at hF
  refine j_iinc (pc := 93) 2 (x2 + 1) (fun y => [(2, .int y), (0, .ref (Z.2.1 o)), (1, .int x1)]) X dX1_firstDue_93 rfl rfl (by decide) (fun _ => rfl) hF (fun v1 hF => ?_)
  refine j_goto (pc := 96) 2 X dX1_firstDue_96 rfl ?_
  refine j_lv [(0, .ref (Z.2.1 o)), (1, .int x1), (2, .int v1)] [1, 2, 0] rfl ?_
  exact hr2 x1 v1 h hF
def bX1_firstDue_2 (o : Nat)  (r2 : Int32 → Int32 → Hp → Option (Int32 × Hp)) (x1 : Int32) (x2 : Int32) (h : Hp) : Option (Int32 × Hp) := (if (h.1 108 9) ≤ x2 then some ((-1), h) else ck (inb x2 10) (ck (inb x2 10) ((if (h.1 (o + 1) (ix x2)) = 0 then ck (inb x2 10) ((if x1 < (h.1 (o + 4) (ix x2)) then bX1_firstDue_93 o r2 x1 x2 h else bi (fX11_has (h.1 o 11) (h.1 (115 + ix x2) 1) h) (fun w3 h2 => (if w3 = 0 then bi (fX0_clerkMay x1 (h2.1 (115 + ix x2) 1) h2) (fun w5 h4 => (if w5 = 0 then bX1_firstDue_93 o r2 x1 x2 h4 else bi (fX6_holds (115 + ix x2) x1 (h4.1 o 11) (h4.1 o 12) h4) (fun w7 h6 => (if w7 = 0 then bX1_firstDue_93 o r2 x1 x2 h6 else some (x2, h6))))) else bX1_firstDue_93 o r2 x1 x2 h2)))) else bX1_firstDue_93 o r2 x1 x2 h))))
def lX1_firstDue_2 (o : Nat)  : Nat → Int32 → Int32 → Hp → Option (Int32 × Hp)
  | 0 => fun _ _ _ => none
  | n + 1 => bX1_firstDue_2 o  (lX1_firstDue_2 o  n)
set_option maxRecDepth 20000 in
theorem BX1_firstDue_2 {Z : ZT} {G : GT} {r : Int32} {hr : Hp} (X : CX Z G cX1_firstDue RX1 4 3) (E : RX Z G (some .int) (some (.int r)) hr) (o : Nat) (ho : isC o) (hz : HZ Z)  (r2 : Int32 → Int32 → Hp → Option (Int32 × Hp)) (hr2 : ∀ (x1 : Int32) (x2 : Int32) (h : Hp), r2 x1 x2 h = some (r, hr) → J Z G 4 h 2 [(0, .ref (Z.2.1 o)), (1, .int x1), (2, .int x2)] []) (x1 : Int32) (x2 : Int32) (h : Hp) (hF : bX1_firstDue_2 o  r2 x1 x2 h = some (r, hr)) : J Z G 4 h 2 [(0, .ref (Z.2.1 o)), (1, .int x1), (2, .int x2)] [] := by
  unfold bX1_firstDue_2 at hF
  refine j_iload_n (pc := 2) 2 X dX1_firstDue_2 rfl ?_
  refine j_aload_n (pc := 3) 0 X dX1_firstDue_3 rfl ?_
  refine j_getr (pc := 4) X dX1_firstDue_4 (hz _ (shC ho)) fl_X1_33 rfl ?_
  refine j_geti (pc := 7) X dX1_firstDue_7 (hz _ sh_108) fl_X1_51 rfl ?_
  refine j_icmp_ge (pc := 10) 99 X dX1_firstDue_10 rfl hF (fun hF => ?_) (fun hF => ?_)
  · refine j_iconst (pc := 99) (-1) X dX1_firstDue_99 rfl ?_
    exact j_iret (pc := 100) X E dX1_firstDue_100 hF
  · refine j_aload_n (pc := 13) 0 X dX1_firstDue_13 rfl ?_
    refine j_getr (pc := 14) X dX1_firstDue_14 (hz _ (shC ho)) fl_X1_33 rfl ?_
    refine j_getr (pc := 17) X dX1_firstDue_17 (hz _ sh_108) fl_X1_57 rfl ?_
    refine j_iload_n (pc := 20) 2 X dX1_firstDue_20 rfl ?_
    refine j_aald (pc := 21) (g := fun j => 115 + j) (C := "AfterOffice$Letter") X dX1_firstDue_21 (hz _ sh_111) (fun _ => rfl) rfl al_111 hF (fun hb1 hF => ?_)
    refine j_astore_n (pc := 22) [(3, .ref (Z.2.1 (115 + ix x2))), (0, .ref (Z.2.1 o)), (1, .int x1), (2, .int x2)] X dX1_firstDue_22 (by decide) rfl ?_
    refine j_aload_n (pc := 23) 1 X dX1_firstDue_23 rfl ?_
    refine j_getr (pc := 24) X dX1_firstDue_24 (hz _ (shC ho)) fl_X1_9 rfl ?_
    refine j_iload_n (pc := 27) 3 X dX1_firstDue_27 rfl ?_
    refine j_iald (pc := 28) X dX1_firstDue_28 (hz _ (shC_1 ho)) hF (fun hF => ?_)
    refine j_if_ne (pc := 29) 93 X dX1_firstDue_29 rfl hF (fun hF => ?_) (fun hF => ?_)
    · refine j_lv [(0, .ref (Z.2.1 o)), (1, .int x1), (2, .int x2)] [1, 2, 3] rfl ?_
      exact BX1_firstDue_93 X E o ho hz r2 hr2 x1 x2 h hF
    · refine j_aload_n (pc := 32) 1 X dX1_firstDue_32 rfl ?_
      refine j_getr (pc := 33) X dX1_firstDue_33 (hz _ (shC ho)) fl_X1_21 rfl ?_
      refine j_iload_n (pc := 36) 3 X dX1_firstDue_36 rfl ?_
      refine j_iald (pc := 37) X dX1_firstDue_37 (hz _ (shC_4 ho)) hF (fun hF => ?_)
      refine j_iload_n (pc := 38) 2 X dX1_firstDue_38 rfl ?_
      refine j_icmp_gt (pc := 39) 93 X dX1_firstDue_39 rfl hF (fun hF => ?_) (fun hF => ?_)
      · refine j_lv [(0, .ref (Z.2.1 o)), (1, .int x1), (2, .int x2)] [1, 2, 3] rfl ?_
        exact BX1_firstDue_93 X E o ho hz r2 hr2 x1 x2 h hF
      · refine j_aload_n (pc := 42) 1 X dX1_firstDue_42 rfl ?_
        refine j_geti (pc := 43) X dX1_firstDue_43 (hz _ (shC ho)) fl_X1_69 rfl ?_
        refine j_aload_n (pc := 46) 0 X dX1_firstDue_46 rfl ?_
        refine j_geti (pc := 47) X dX1_firstDue_47 (hz _ (shL (is_111 hb1))) fl_X1_160 rfl ?_
        refine j_cSNi (pc := 50) (As := [.int (h.1 o 11), .int (h.1 (115 + ix x2) 1)]) (rest := []) X dX1_firstDue_50 ml_X1_129 ck_X11_has sk_X11_has (Nat.le_of_ble_eq_true rfl) rfl (Nat.le_of_ble_eq_true rfl) rfl hF (tX11_has Z (h.1 o 11) (h.1 (115 + ix x2) 1) trivial h) (fun w3 h2 hF => ?_)
        refine j_if_ne (pc := 53) 93 X dX1_firstDue_53 rfl hF (fun hF => ?_) (fun hF => ?_)
        · refine j_lv [(0, .ref (Z.2.1 o)), (1, .int x1), (2, .int x2)] [1, 2, 3] rfl ?_
          exact BX1_firstDue_93 X E o ho hz r2 hr2 x1 x2 h2 hF
        · refine j_aload_n (pc := 56) 1 X dX1_firstDue_56 rfl ?_
          refine j_getr (pc := 57) X dX1_firstDue_57 (hz _ (shC ho)) fl_X1_33 rfl ?_
          refine j_iload_n (pc := 60) 2 X dX1_firstDue_60 rfl ?_
          refine j_aload_n (pc := 61) 0 X dX1_firstDue_61 rfl ?_
          refine j_geti (pc := 62) X dX1_firstDue_62 (hz _ (shL (is_111 hb1))) fl_X1_160 rfl ?_
          refine j_cVi (pc := 65) (As := [.int x1, .int (h2.1 (115 + ix x2) 1)]) (rest := []) X dX1_firstDue_65 ml_X1_163 ck_X0_clerkMay cv_X0_clerkMay (hz _ sh_108) rfl (Nat.le_of_ble_eq_true rfl) rfl (Nat.le_of_ble_eq_true rfl) rfl hF (tX0_clerkMay Z x1 (h2.1 (115 + ix x2) 1) hz h2) (fun w5 h4 hF => ?_)
          refine j_if_eq (pc := 68) 93 X dX1_firstDue_68 rfl hF (fun hF => ?_) (fun hF => ?_)
          · refine j_lv [(0, .ref (Z.2.1 o)), (1, .int x1), (2, .int x2)] [1, 2, 3] rfl ?_
            exact BX1_firstDue_93 X E o ho hz r2 hr2 x1 x2 h4 hF
          · refine j_aload_n (pc := 71) 1 X dX1_firstDue_71 rfl ?_
            refine j_getr (pc := 72) X dX1_firstDue_72 (hz _ (shC ho)) fl_X1_41 rfl ?_
            refine j_aload_n (pc := 75) 0 X dX1_firstDue_75 rfl ?_
            refine j_iload_n (pc := 76) 2 X dX1_firstDue_76 rfl ?_
            refine j_aload_n (pc := 77) 1 X dX1_firstDue_77 rfl ?_
            refine j_geti (pc := 78) X dX1_firstDue_78 (hz _ (shC ho)) fl_X1_69 rfl ?_
            refine j_aload_n (pc := 81) 1 X dX1_firstDue_81 rfl ?_
            refine j_geti (pc := 82) X dX1_firstDue_82 (hz _ (shC ho)) fl_X1_72 rfl ?_
            refine j_cVi (pc := 85) (As := [.ref (Z.2.1 (115 + ix x2)), .int x1, .int (h4.1 o 11), .int (h4.1 o 12)]) (rest := []) X dX1_firstDue_85 ml_X1_137 ck_X6_holds cv_X6_holds (hz _ sh_147) rfl (Nat.le_of_ble_eq_true rfl) rfl (Nat.le_of_ble_eq_true rfl) rfl hF (tX6_holds Z (115 + ix x2) (is_111 hb1) x1 (h4.1 o 11) (h4.1 o 12) hz h4) (fun w7 h6 hF => ?_)
            refine j_if_eq (pc := 88) 93 X dX1_firstDue_88 rfl hF (fun hF => ?_) (fun hF => ?_)
            · refine j_lv [(0, .ref (Z.2.1 o)), (1, .int x1), (2, .int x2)] [1, 2, 3] rfl ?_
              exact BX1_firstDue_93 X E o ho hz r2 hr2 x1 x2 h6 hF
            · refine j_iload_n (pc := 91) 3 X dX1_firstDue_91 rfl ?_
              exact j_iret (pc := 92) X E dX1_firstDue_92 hF
theorem LX1_firstDue_2 {Z : ZT} {G : GT} {r : Int32} {hr : Hp} (X : CX Z G cX1_firstDue RX1 4 3) (E : RX Z G (some .int) (some (.int r)) hr) (o : Nat) (ho : isC o) (hz : HZ Z)  : ∀ (n : Nat) (x1 : Int32) (x2 : Int32) (h : Hp), lX1_firstDue_2 o  n x1 x2 h = some (r, hr) → J Z G 4 h 2 [(0, .ref (Z.2.1 o)), (1, .int x1), (2, .int x2)] [] := by
  intro n
  induction n with
  | zero => intro x1 x2 h hF; cases hF
  | succ n ih => intro x1 x2 h hF; exact BX1_firstDue_2 X E o ho hz  (lX1_firstDue_2 o  n) ih x1 x2 h hF
def fX1_firstDue (o : Nat) (a1 : Int32) (h : Hp) : Option (Int32 × Hp) := lt 0 (fun v1 => lX1_firstDue_2 o FU a1 v1 h)
set_option maxRecDepth 20000 in
theorem tX1_firstDue (Z : ZT) (o : Nat) (ho : isC o) (a1 : Int32) (hz : HZ Z) (h : Hp) (r : Int32) (hr : Hp) (hF : fX1_firstDue o a1 h = some (r, hr)) : MC Z yX1_firstDue cX1_firstDue 4 (some .int) 3 [.ref (Z.2.1 o), .int a1] h (some (.int r)) hr := by
  unfold fX1_firstDue at hF
  refine mc_start (by decide) (Nat.le_of_ble_eq_true rfl) (fun G X E => ?_)
  refine j_iconst (pc := 0) 0 X dX1_firstDue_0 rfl ?_
  refine j_istore_n (pc := 1) (fun y => [(2, .int y), (0, .ref (Z.2.1 o)), (1, .int a1)]) X dX1_firstDue_1 (by decide) (fun _ => rfl) hF (fun v1 hF => ?_)
  refine j_lv [(0, .ref (Z.2.1 o)), (1, .int a1), (2, .int v1)] [1, 2, 0] rfl ?_
  exact LX1_firstDue_2 X E o ho hz FU a1 v1 h hF
theorem dX1_lookUp_0 : decode cX1_lookUp 0 = .ok (.iconst 0, 1) := by decide +kernel
theorem dX1_lookUp_1 : decode cX1_lookUp 1 = .ok (.istore_n 2, 1) := by decide +kernel
theorem dX1_lookUp_2 : decode cX1_lookUp 2 = .ok (.iload_n 2, 1) := by decide +kernel
theorem dX1_lookUp_3 : decode cX1_lookUp 3 = .ok (.bipush 10, 2) := by decide +kernel
theorem dX1_lookUp_5 : decode cX1_lookUp 5 = .ok (.if_icmp .ge 68, 3) := by decide +kernel
theorem dX1_lookUp_8 : decode cX1_lookUp 8 = .ok (.aload_n 0, 1) := by decide +kernel
theorem dX1_lookUp_9 : decode cX1_lookUp 9 = .ok (.iload_n 1, 1) := by decide +kernel
theorem dX1_lookUp_10 : decode cX1_lookUp 10 = .ok (.invokevirtual 156, 3) := by decide +kernel
theorem dX1_lookUp_13 : decode cX1_lookUp 13 = .ok (.istore_n 3, 1) := by decide +kernel
theorem dX1_lookUp_14 : decode cX1_lookUp 14 = .ok (.iload_n 3, 1) := by decide +kernel
theorem dX1_lookUp_15 : decode cX1_lookUp 15 = .ok (.ifCond .lt 12, 3) := by decide +kernel
theorem dX1_lookUp_18 : decode cX1_lookUp 18 = .ok (.aload_n 0, 1) := by decide +kernel
theorem dX1_lookUp_19 : decode cX1_lookUp 19 = .ok (.getfield 66, 3) := by decide +kernel
theorem dX1_lookUp_22 : decode cX1_lookUp 22 = .ok (.bipush 10, 2) := by decide +kernel
theorem dX1_lookUp_24 : decode cX1_lookUp 24 = .ok (.if_icmp .lt 4, 3) := by decide +kernel
theorem dX1_lookUp_27 : decode cX1_lookUp 27 = .ok (.return_, 1) := by decide +kernel
theorem dX1_lookUp_28 : decode cX1_lookUp 28 = .ok (.aload_n 0, 1) := by decide +kernel
theorem dX1_lookUp_29 : decode cX1_lookUp 29 = .ok (.iconst 1, 1) := by decide +kernel
theorem dX1_lookUp_30 : decode cX1_lookUp 30 = .ok (.iload_n 3, 1) := by decide +kernel
theorem dX1_lookUp_31 : decode cX1_lookUp 31 = .ok (.iload_n 1, 1) := by decide +kernel
theorem dX1_lookUp_32 : decode cX1_lookUp 32 = .ok (.invokevirtual 133, 3) := by decide +kernel
theorem dX1_lookUp_35 : decode cX1_lookUp 35 = .ok (.aload_n 0, 1) := by decide +kernel
theorem dX1_lookUp_36 : decode cX1_lookUp 36 = .ok (.dup, 1) := by decide +kernel
theorem dX1_lookUp_37 : decode cX1_lookUp 37 = .ok (.getfield 72, 3) := by decide +kernel
theorem dX1_lookUp_40 : decode cX1_lookUp 40 = .ok (.iconst 1, 1) := by decide +kernel
theorem dX1_lookUp_41 : decode cX1_lookUp 41 = .ok (.iload_n 3, 1) := by decide +kernel
theorem dX1_lookUp_42 : decode cX1_lookUp 42 = .ok (.ishl, 1) := by decide +kernel
theorem dX1_lookUp_43 : decode cX1_lookUp 43 = .ok (.ior, 1) := by decide +kernel
theorem dX1_lookUp_44 : decode cX1_lookUp 44 = .ok (.putfield 72, 3) := by decide +kernel
theorem dX1_lookUp_47 : decode cX1_lookUp 47 = .ok (.aload_n 0, 1) := by decide +kernel
theorem dX1_lookUp_48 : decode cX1_lookUp 48 = .ok (.getfield 24, 3) := by decide +kernel
theorem dX1_lookUp_51 : decode cX1_lookUp 51 = .ok (.aload_n 0, 1) := by decide +kernel
theorem dX1_lookUp_52 : decode cX1_lookUp 52 = .ok (.getfield 66, 3) := by decide +kernel
theorem dX1_lookUp_55 : decode cX1_lookUp 55 = .ok (.iload_n 3, 1) := by decide +kernel
theorem dX1_lookUp_56 : decode cX1_lookUp 56 = .ok (.iastore, 1) := by decide +kernel
theorem dX1_lookUp_57 : decode cX1_lookUp 57 = .ok (.aload_n 0, 1) := by decide +kernel
theorem dX1_lookUp_58 : decode cX1_lookUp 58 = .ok (.dup, 1) := by decide +kernel
theorem dX1_lookUp_59 : decode cX1_lookUp 59 = .ok (.getfield 66, 3) := by decide +kernel
theorem dX1_lookUp_62 : decode cX1_lookUp 62 = .ok (.iconst 1, 1) := by decide +kernel
theorem dX1_lookUp_63 : decode cX1_lookUp 63 = .ok (.iadd, 1) := by decide +kernel
theorem dX1_lookUp_64 : decode cX1_lookUp 64 = .ok (.putfield 66, 3) := by decide +kernel
theorem dX1_lookUp_67 : decode cX1_lookUp 67 = .ok (.iinc 2 1, 3) := by decide +kernel
theorem dX1_lookUp_70 : decode cX1_lookUp 70 = .ok (.goto (-68), 3) := by decide +kernel
theorem dX1_lookUp_73 : decode cX1_lookUp 73 = .ok (.return_, 1) := by decide +kernel
def bX1_lookUp_2 (o : Nat)  (r2 : Int32 → Int32 → Hp → Option (Hp)) (x1 : Int32) (x2 : Int32) (h : Hp) : Option (Hp) := (if 10 ≤ x2 then some h else bi (fX1_firstDue o x1 h) (fun w2 h1 => lt w2 (fun v3 => (if v3 < 0 then some h1 else (if (h1.1 o 10) < 10 then bv (fX1_endAs o 1 v3 x1 h1) (fun h4 => lt (wI h4 o 12 ((h4.1 o 12) ||| ((1 : Int32) <<< (v3 &&& 31)))) (fun h5 => ck (inb (h5.1 o 10) 10) (lt (wI h5 (o + 5) (ix (h5.1 o 10)) v3) (fun h6 => lt (wI h6 o 10 ((h6.1 o 10) + 1)) (fun h7 => lt (x2 + 1) (fun v8 => r2 x1 v8 h7)))))) else some h1)))))
def lX1_lookUp_2 (o : Nat)  : Nat → Int32 → Int32 → Hp → Option (Hp)
  | 0 => fun _ _ _ => none
  | n + 1 => bX1_lookUp_2 o  (lX1_lookUp_2 o  n)
set_option maxRecDepth 20000 in
theorem BX1_lookUp_2 {Z : ZT} {G : GT} {hr : Hp} (X : CX Z G cX1_lookUp RX1 4 4) (E : RX Z G none (none) hr) (o : Nat) (ho : isC o) (hz : HZ Z)  (r2 : Int32 → Int32 → Hp → Option (Hp)) (hr2 : ∀ (x1 : Int32) (x2 : Int32) (h : Hp), r2 x1 x2 h = some hr → J Z G 4 h 2 [(0, .ref (Z.2.1 o)), (1, .int x1), (2, .int x2)] []) (x1 : Int32) (x2 : Int32) (h : Hp) (hF : bX1_lookUp_2 o  r2 x1 x2 h = some hr) : J Z G 4 h 2 [(0, .ref (Z.2.1 o)), (1, .int x1), (2, .int x2)] [] := by
  unfold bX1_lookUp_2 at hF
  refine j_iload_n (pc := 2) 2 X dX1_lookUp_2 rfl ?_
  refine j_bipush (pc := 3) 10 X dX1_lookUp_3 rfl ?_
  refine j_icmp_ge (pc := 5) 73 X dX1_lookUp_5 rfl hF (fun hF => ?_) (fun hF => ?_)
  · exact j_vret (pc := 73) X E dX1_lookUp_73 hF
  · refine j_aload_n (pc := 8) 0 X dX1_lookUp_8 rfl ?_
    refine j_iload_n (pc := 9) 1 X dX1_lookUp_9 rfl ?_
    refine j_cVi (pc := 10) (As := [.int x1]) (rest := []) X dX1_lookUp_10 ml_X1_156 ck_X1_firstDue cv_X1_firstDue (hz _ (shC ho)) rfl (Nat.le_of_ble_eq_true rfl) rfl (Nat.le_of_ble_eq_true rfl) rfl hF (tX1_firstDue Z o ho x1 hz h) (fun w2 h1 hF => ?_)
    refine j_istore_n (pc := 13) (fun y => [(3, .int y), (0, .ref (Z.2.1 o)), (1, .int x1), (2, .int x2)]) X dX1_lookUp_13 (by decide) (fun _ => rfl) hF (fun v3 hF => ?_)
    refine j_iload_n (pc := 14) 0 X dX1_lookUp_14 rfl ?_
    refine j_if_lt (pc := 15) 27 X dX1_lookUp_15 rfl hF (fun hF => ?_) (fun hF => ?_)
    · exact j_vret (pc := 27) X E dX1_lookUp_27 hF
    · refine j_aload_n (pc := 18) 1 X dX1_lookUp_18 rfl ?_
      refine j_geti (pc := 19) X dX1_lookUp_19 (hz _ (shC ho)) fl_X1_66 rfl ?_
      refine j_bipush (pc := 22) 10 X dX1_lookUp_22 rfl ?_
      refine j_icmp_lt (pc := 24) 28 X dX1_lookUp_24 rfl hF (fun hF => ?_) (fun hF => ?_)
      · refine j_aload_n (pc := 28) 1 X dX1_lookUp_28 rfl ?_
        refine j_iconst (pc := 29) 1 X dX1_lookUp_29 rfl ?_
        refine j_iload_n (pc := 30) 0 X dX1_lookUp_30 rfl ?_
        refine j_iload_n (pc := 31) 2 X dX1_lookUp_31 rfl ?_
        refine j_cVv (pc := 32) (As := [.int 1, .int v3, .int x1]) (rest := []) X dX1_lookUp_32 ml_X1_133 ck_X1_endAs cv_X1_endAs (hz _ (shC ho)) rfl (Nat.le_of_ble_eq_true rfl) rfl (Nat.le_of_ble_eq_true rfl) rfl hF (tX1_endAs Z o ho 1 v3 x1 hz h1) (fun h4 hF => ?_)
        refine j_aload_n (pc := 35) 1 X dX1_lookUp_35 rfl ?_
        refine j_dup (pc := 36) X dX1_lookUp_36 rfl ?_
        refine j_geti (pc := 37) X dX1_lookUp_37 (hz _ (shC ho)) fl_X1_72 rfl ?_
        refine j_iconst (pc := 40) 1 X dX1_lookUp_40 rfl ?_
        refine j_iload_n (pc := 41) 0 X dX1_lookUp_41 rfl ?_
        refine j_ishl (pc := 42) X dX1_lookUp_42 ?_
        refine j_ior (pc := 43) X dX1_lookUp_43 ?_
        refine j_puti (pc := 44) X dX1_lookUp_44 (hz _ (shC ho)) fp_X1_72 rfl hF (fun h5 hF => ?_)
        refine j_aload_n (pc := 47) 1 X dX1_lookUp_47 rfl ?_
        refine j_getr (pc := 48) X dX1_lookUp_48 (hz _ (shC ho)) fl_X1_24 rfl ?_
        refine j_aload_n (pc := 51) 1 X dX1_lookUp_51 rfl ?_
        refine j_geti (pc := 52) X dX1_lookUp_52 (hz _ (shC ho)) fl_X1_66 rfl ?_
        refine j_iload_n (pc := 55) 0 X dX1_lookUp_55 rfl ?_
        refine j_iast (pc := 56) X dX1_lookUp_56 (hz _ (shC_5 ho)) hF (fun h6 hF => ?_)
        refine j_aload_n (pc := 57) 1 X dX1_lookUp_57 rfl ?_
        refine j_dup (pc := 58) X dX1_lookUp_58 rfl ?_
        refine j_geti (pc := 59) X dX1_lookUp_59 (hz _ (shC ho)) fl_X1_66 rfl ?_
        refine j_iconst (pc := 62) 1 X dX1_lookUp_62 rfl ?_
        refine j_iadd (pc := 63) X dX1_lookUp_63 ?_
        refine j_puti (pc := 64) X dX1_lookUp_64 (hz _ (shC ho)) fp_X1_66 rfl hF (fun h7 hF => ?_)
        refine j_iinc (pc := 67) 3 (x2 + 1) (fun y => [(2, .int y), (3, .int v3), (0, .ref (Z.2.1 o)), (1, .int x1)]) X dX1_lookUp_67 rfl rfl (by decide) (fun _ => rfl) hF (fun v8 hF => ?_)
        refine j_goto (pc := 70) 2 X dX1_lookUp_70 rfl ?_
        refine j_lv [(0, .ref (Z.2.1 o)), (1, .int x1), (2, .int v8)] [2, 3, 0] rfl ?_
        exact hr2 x1 v8 h7 hF
      · exact j_vret (pc := 27) X E dX1_lookUp_27 hF
theorem LX1_lookUp_2 {Z : ZT} {G : GT} {hr : Hp} (X : CX Z G cX1_lookUp RX1 4 4) (E : RX Z G none (none) hr) (o : Nat) (ho : isC o) (hz : HZ Z)  : ∀ (n : Nat) (x1 : Int32) (x2 : Int32) (h : Hp), lX1_lookUp_2 o  n x1 x2 h = some hr → J Z G 4 h 2 [(0, .ref (Z.2.1 o)), (1, .int x1), (2, .int x2)] [] := by
  intro n
  induction n with
  | zero => intro x1 x2 h hF; cases hF
  | succ n ih => intro x1 x2 h hF; exact BX1_lookUp_2 X E o ho hz  (lX1_lookUp_2 o  n) ih x1 x2 h hF
def fX1_lookUp (o : Nat) (a1 : Int32) (h : Hp) : Option (Hp) := lt 0 (fun v1 => lX1_lookUp_2 o FU a1 v1 h)
set_option maxRecDepth 20000 in
theorem tX1_lookUp (Z : ZT) (o : Nat) (ho : isC o) (a1 : Int32) (hz : HZ Z) (h : Hp) (hr : Hp) (hF : fX1_lookUp o a1 h = some hr) : MC Z yX1_lookUp cX1_lookUp 4 none 4 [.ref (Z.2.1 o), .int a1] h (none) hr := by
  unfold fX1_lookUp at hF
  refine mc_start (by decide) (Nat.le_of_ble_eq_true rfl) (fun G X E => ?_)
  refine j_iconst (pc := 0) 0 X dX1_lookUp_0 rfl ?_
  refine j_istore_n (pc := 1) (fun y => [(2, .int y), (0, .ref (Z.2.1 o)), (1, .int a1)]) X dX1_lookUp_1 (by decide) (fun _ => rfl) hF (fun v1 hF => ?_)
  refine j_lv [(0, .ref (Z.2.1 o)), (1, .int a1), (2, .int v1)] [1, 2, 0] rfl ?_
  exact LX1_lookUp_2 X E o ho hz FU a1 v1 h hF
theorem dX1_walk_0 : decode cX1_walk 0 = .ok (.aload_n 0, 1) := by decide +kernel
theorem dX1_walk_1 : decode cX1_walk 1 = .ok (.iload_n 3, 1) := by decide +kernel
theorem dX1_walk_2 : decode cX1_walk 2 = .ok (.invokevirtual 88, 3) := by decide +kernel
theorem dX1_walk_5 : decode cX1_walk 5 = .ok (.iconst 0, 1) := by decide +kernel
theorem dX1_walk_6 : decode cX1_walk 6 = .ok (.istore 4, 2) := by decide +kernel
theorem dX1_walk_8 : decode cX1_walk 8 = .ok (.iload 4, 2) := by decide +kernel
theorem dX1_walk_10 : decode cX1_walk 10 = .ok (.iload_n 2, 1) := by decide +kernel
theorem dX1_walk_11 : decode cX1_walk 11 = .ok (.if_icmp .gt 45, 3) := by decide +kernel
theorem dX1_walk_14 : decode cX1_walk 14 = .ok (.iload 4, 2) := by decide +kernel
theorem dX1_walk_16 : decode cX1_walk 16 = .ok (.bipush 60, 2) := by decide +kernel
theorem dX1_walk_18 : decode cX1_walk 18 = .ok (.if_icmp .ge 38, 3) := by decide +kernel
theorem dX1_walk_21 : decode cX1_walk 21 = .ok (.aload_n 0, 1) := by decide +kernel
theorem dX1_walk_22 : decode cX1_walk 22 = .ok (.iload 4, 2) := by decide +kernel
theorem dX1_walk_24 : decode cX1_walk 24 = .ok (.invokevirtual 92, 3) := by decide +kernel
theorem dX1_walk_27 : decode cX1_walk 27 = .ok (.aload_n 0, 1) := by decide +kernel
theorem dX1_walk_28 : decode cX1_walk 28 = .ok (.iload 4, 2) := by decide +kernel
theorem dX1_walk_30 : decode cX1_walk 30 = .ok (.invokevirtual 96, 3) := by decide +kernel
theorem dX1_walk_33 : decode cX1_walk 33 = .ok (.iload_n 1, 1) := by decide +kernel
theorem dX1_walk_34 : decode cX1_walk 34 = .ok (.ifCond .le 16, 3) := by decide +kernel
theorem dX1_walk_37 : decode cX1_walk 37 = .ok (.iload 4, 2) := by decide +kernel
theorem dX1_walk_39 : decode cX1_walk 39 = .ok (.iload_n 1, 1) := by decide +kernel
theorem dX1_walk_40 : decode cX1_walk 40 = .ok (.irem, 1) := by decide +kernel
theorem dX1_walk_41 : decode cX1_walk 41 = .ok (.ifCond .ne 9, 3) := by decide +kernel
theorem dX1_walk_44 : decode cX1_walk 44 = .ok (.aload_n 0, 1) := by decide +kernel
theorem dX1_walk_45 : decode cX1_walk 45 = .ok (.iload 4, 2) := by decide +kernel
theorem dX1_walk_47 : decode cX1_walk 47 = .ok (.invokevirtual 99, 3) := by decide +kernel
theorem dX1_walk_50 : decode cX1_walk 50 = .ok (.iinc 4 1, 3) := by decide +kernel
theorem dX1_walk_53 : decode cX1_walk 53 = .ok (.goto (-45), 3) := by decide +kernel
theorem dX1_walk_56 : decode cX1_walk 56 = .ok (.return_, 1) := by decide +kernel
def bX1_walk_50 (o : Nat) (r8 : Int32 → Int32 → Int32 → Hp → Option (Hp)) (x1 : Int32) (x2 : Int32) (x4 : Int32) (h : Hp) : Option (Hp) := lt (x4 + 1) (fun v1 => r8 x1 x2 v1 h)
set_option maxRecDepth 20000 in
theorem BX1_walk_50 {Z : ZT} {G : GT} {hr : Hp} (X : CX Z G cX1_walk RX1 5 5) (E : RX Z G none (none) hr) (o : Nat) (ho : isC o) (hz : HZ Z) (r8 : Int32 → Int32 → Int32 → Hp → Option (Hp)) (hr8 : ∀ (x1 : Int32) (x2 : Int32) (x4 : Int32) (h : Hp), r8 x1 x2 x4 h = some hr → J Z G 5 h 8 [(0, .ref (Z.2.1 o)), (1, .int x1), (2, .int x2), (4, .int x4)] []) (x1 : Int32) (x2 : Int32) (x4 : Int32) (h : Hp) (hF : bX1_walk_50 o r8 x1 x2 x4 h = some hr) : J Z G 5 h 50 [(0, .ref (Z.2.1 o)), (1, .int x1), (2, .int x2), (4, .int x4)] [] := by
  unfold bX1_walk_50 at hF
  refine j_iinc (pc := 50) 3 (x4 + 1) (fun y => [(4, .int y), (0, .ref (Z.2.1 o)), (1, .int x1), (2, .int x2)]) X dX1_walk_50 rfl rfl (by decide) (fun _ => rfl) hF (fun v1 hF => ?_)
  refine j_goto (pc := 53) 8 X dX1_walk_53 rfl ?_
  refine j_lv [(0, .ref (Z.2.1 o)), (1, .int x1), (2, .int x2), (4, .int v1)] [1, 2, 3, 0] rfl ?_
  exact hr8 x1 x2 v1 h hF
def bX1_walk_8 (o : Nat)  (r8 : Int32 → Int32 → Int32 → Hp → Option (Hp)) (x1 : Int32) (x2 : Int32) (x4 : Int32) (h : Hp) : Option (Hp) := (if x2 < x4 then some h else (if 60 ≤ x4 then some h else bv (fX1_takeFacts o x4 h) (fun h1 => bv (fX1_payFees o x4 h1) (fun h2 => (if x1 ≤ 0 then bX1_walk_50 o r8 x1 x2 x4 h2 else ck (nz x1) ((if (x4 - x4 / x1 * x1) = 0 then bv (fX1_lookUp o x4 h2) (fun h3 => bX1_walk_50 o r8 x1 x2 x4 h3) else bX1_walk_50 o r8 x1 x2 x4 h2)))))))
def lX1_walk_8 (o : Nat)  : Nat → Int32 → Int32 → Int32 → Hp → Option (Hp)
  | 0 => fun _ _ _ _ => none
  | n + 1 => bX1_walk_8 o  (lX1_walk_8 o  n)
set_option maxRecDepth 20000 in
theorem BX1_walk_8 {Z : ZT} {G : GT} {hr : Hp} (X : CX Z G cX1_walk RX1 5 5) (E : RX Z G none (none) hr) (o : Nat) (ho : isC o) (hz : HZ Z)  (r8 : Int32 → Int32 → Int32 → Hp → Option (Hp)) (hr8 : ∀ (x1 : Int32) (x2 : Int32) (x4 : Int32) (h : Hp), r8 x1 x2 x4 h = some hr → J Z G 5 h 8 [(0, .ref (Z.2.1 o)), (1, .int x1), (2, .int x2), (4, .int x4)] []) (x1 : Int32) (x2 : Int32) (x4 : Int32) (h : Hp) (hF : bX1_walk_8 o  r8 x1 x2 x4 h = some hr) : J Z G 5 h 8 [(0, .ref (Z.2.1 o)), (1, .int x1), (2, .int x2), (4, .int x4)] [] := by
  unfold bX1_walk_8 at hF
  refine j_iload (pc := 8) 3 X dX1_walk_8 rfl ?_
  refine j_iload_n (pc := 10) 2 X dX1_walk_10 rfl ?_
  refine j_icmp_gt (pc := 11) 56 X dX1_walk_11 rfl hF (fun hF => ?_) (fun hF => ?_)
  · exact j_vret (pc := 56) X E dX1_walk_56 hF
  · refine j_iload (pc := 14) 3 X dX1_walk_14 rfl ?_
    refine j_bipush (pc := 16) 60 X dX1_walk_16 rfl ?_
    refine j_icmp_ge (pc := 18) 56 X dX1_walk_18 rfl hF (fun hF => ?_) (fun hF => ?_)
    · exact j_vret (pc := 56) X E dX1_walk_56 hF
    · refine j_aload_n (pc := 21) 0 X dX1_walk_21 rfl ?_
      refine j_iload (pc := 22) 3 X dX1_walk_22 rfl ?_
      refine j_cVv (pc := 24) (As := [.int x4]) (rest := []) X dX1_walk_24 ml_X1_92 ck_X1_takeFacts cv_X1_takeFacts (hz _ (shC ho)) rfl (Nat.le_of_ble_eq_true rfl) rfl (Nat.le_of_ble_eq_true rfl) rfl hF (tX1_takeFacts Z o ho x4 hz h) (fun h1 hF => ?_)
      refine j_aload_n (pc := 27) 0 X dX1_walk_27 rfl ?_
      refine j_iload (pc := 28) 3 X dX1_walk_28 rfl ?_
      refine j_cVv (pc := 30) (As := [.int x4]) (rest := []) X dX1_walk_30 ml_X1_96 ck_X1_payFees cv_X1_payFees (hz _ (shC ho)) rfl (Nat.le_of_ble_eq_true rfl) rfl (Nat.le_of_ble_eq_true rfl) rfl hF (tX1_payFees Z o ho x4 hz h1) (fun h2 hF => ?_)
      refine j_iload_n (pc := 33) 1 X dX1_walk_33 rfl ?_
      refine j_if_le (pc := 34) 50 X dX1_walk_34 rfl hF (fun hF => ?_) (fun hF => ?_)
      · exact BX1_walk_50 X E o ho hz r8 hr8 x1 x2 x4 h2 hF
      · refine j_iload (pc := 37) 3 X dX1_walk_37 rfl ?_
        refine j_iload_n (pc := 39) 1 X dX1_walk_39 rfl ?_
        refine j_irem (pc := 40) X dX1_walk_40 hF (fun hF => ?_)
        refine j_if_ne (pc := 41) 50 X dX1_walk_41 rfl hF (fun hF => ?_) (fun hF => ?_)
        · exact BX1_walk_50 X E o ho hz r8 hr8 x1 x2 x4 h2 hF
        · refine j_aload_n (pc := 44) 0 X dX1_walk_44 rfl ?_
          refine j_iload (pc := 45) 3 X dX1_walk_45 rfl ?_
          refine j_cVv (pc := 47) (As := [.int x4]) (rest := []) X dX1_walk_47 ml_X1_99 ck_X1_lookUp cv_X1_lookUp (hz _ (shC ho)) rfl (Nat.le_of_ble_eq_true rfl) rfl (Nat.le_of_ble_eq_true rfl) rfl hF (tX1_lookUp Z o ho x4 hz h2) (fun h3 hF => ?_)
          exact BX1_walk_50 X E o ho hz r8 hr8 x1 x2 x4 h3 hF
theorem LX1_walk_8 {Z : ZT} {G : GT} {hr : Hp} (X : CX Z G cX1_walk RX1 5 5) (E : RX Z G none (none) hr) (o : Nat) (ho : isC o) (hz : HZ Z)  : ∀ (n : Nat) (x1 : Int32) (x2 : Int32) (x4 : Int32) (h : Hp), lX1_walk_8 o  n x1 x2 x4 h = some hr → J Z G 5 h 8 [(0, .ref (Z.2.1 o)), (1, .int x1), (2, .int x2), (4, .int x4)] [] := by
  intro n
  induction n with
  | zero => intro x1 x2 x4 h hF; cases hF
  | succ n ih => intro x1 x2 x4 h hF; exact BX1_walk_8 X E o ho hz  (lX1_walk_8 o  n) ih x1 x2 x4 h hF
def fX1_walk (o : Nat) (a1 : Int32) (a2 : Int32) (a3 : Int32) (h : Hp) : Option (Hp) := bv (fX1_begin o a3 h) (fun h1 => lt 0 (fun v2 => lX1_walk_8 o FU a1 a2 v2 h1))
set_option maxRecDepth 20000 in
theorem tX1_walk (Z : ZT) (o : Nat) (ho : isC o) (a1 : Int32) (a2 : Int32) (a3 : Int32) (hz : HZ Z) (h : Hp) (hr : Hp) (hF : fX1_walk o a1 a2 a3 h = some hr) : MC Z yX1_walk cX1_walk 5 none 5 [.ref (Z.2.1 o), .int a1, .int a2, .int a3] h (none) hr := by
  unfold fX1_walk at hF
  refine mc_start (by decide) (Nat.le_of_ble_eq_true rfl) (fun G X E => ?_)
  refine j_aload_n (pc := 0) 0 X dX1_walk_0 rfl ?_
  refine j_iload_n (pc := 1) 3 X dX1_walk_1 rfl ?_
  refine j_cVv (pc := 2) (As := [.int a3]) (rest := []) X dX1_walk_2 ml_X1_88 ck_X1_begin cv_X1_begin (hz _ (shC ho)) rfl (Nat.le_of_ble_eq_true rfl) rfl (Nat.le_of_ble_eq_true rfl) rfl hF (tX1_begin Z o ho a3 hz h) (fun h1 hF => ?_)
  refine j_iconst (pc := 5) 0 X dX1_walk_5 rfl ?_
  refine j_istore (pc := 6) (fun y => [(4, .int y), (0, .ref (Z.2.1 o)), (1, .int a1), (2, .int a2), (3, .int a3)]) X dX1_walk_6 (by decide) (fun _ => rfl) hF (fun v2 hF => ?_)
  refine j_lv [(0, .ref (Z.2.1 o)), (1, .int a1), (2, .int a2), (4, .int v2)] [1, 2, 3, 0] rfl ?_
  exact LX1_walk_8 X E o ho hz FU a1 a2 v2 h1 hF
theorem dX1_shutAgain_0 : decode cX1_shutAgain 0 = .ok (.iload_n 1, 1) := by decide +kernel
theorem dX1_shutAgain_1 : decode cX1_shutAgain 1 = .ok (.istore_n 3, 1) := by decide +kernel
theorem dX1_shutAgain_2 : decode cX1_shutAgain 2 = .ok (.iload_n 3, 1) := by decide +kernel
theorem dX1_shutAgain_3 : decode cX1_shutAgain 3 = .ok (.aload_n 0, 1) := by decide +kernel
theorem dX1_shutAgain_4 : decode cX1_shutAgain 4 = .ok (.getfield 66, 3) := by decide +kernel
theorem dX1_shutAgain_7 : decode cX1_shutAgain 7 = .ok (.if_icmp .ge 22, 3) := by decide +kernel
theorem dX1_shutAgain_10 : decode cX1_shutAgain 10 = .ok (.aload_n 0, 1) := by decide +kernel
theorem dX1_shutAgain_11 : decode cX1_shutAgain 11 = .ok (.iconst 0, 1) := by decide +kernel
theorem dX1_shutAgain_12 : decode cX1_shutAgain 12 = .ok (.aload_n 0, 1) := by decide +kernel
theorem dX1_shutAgain_13 : decode cX1_shutAgain 13 = .ok (.getfield 24, 3) := by decide +kernel
theorem dX1_shutAgain_16 : decode cX1_shutAgain 16 = .ok (.iload_n 3, 1) := by decide +kernel
theorem dX1_shutAgain_17 : decode cX1_shutAgain 17 = .ok (.iaload, 1) := by decide +kernel
theorem dX1_shutAgain_18 : decode cX1_shutAgain 18 = .ok (.bipush (-2), 2) := by decide +kernel
theorem dX1_shutAgain_20 : decode cX1_shutAgain 20 = .ok (.invokevirtual 133, 3) := by decide +kernel
theorem dX1_shutAgain_23 : decode cX1_shutAgain 23 = .ok (.iinc 3 1, 3) := by decide +kernel
theorem dX1_shutAgain_26 : decode cX1_shutAgain 26 = .ok (.goto (-24), 3) := by decide +kernel
theorem dX1_shutAgain_29 : decode cX1_shutAgain 29 = .ok (.aload_n 0, 1) := by decide +kernel
theorem dX1_shutAgain_30 : decode cX1_shutAgain 30 = .ok (.iload_n 1, 1) := by decide +kernel
theorem dX1_shutAgain_31 : decode cX1_shutAgain 31 = .ok (.putfield 66, 3) := by decide +kernel
theorem dX1_shutAgain_34 : decode cX1_shutAgain 34 = .ok (.aload_n 0, 1) := by decide +kernel
theorem dX1_shutAgain_35 : decode cX1_shutAgain 35 = .ok (.iload_n 2, 1) := by decide +kernel
theorem dX1_shutAgain_36 : decode cX1_shutAgain 36 = .ok (.putfield 72, 3) := by decide +kernel
theorem dX1_shutAgain_39 : decode cX1_shutAgain 39 = .ok (.return_, 1) := by decide +kernel
def bX1_shutAgain_2 (o : Nat)  (r2 : Int32 → Int32 → Int32 → Hp → Option (Hp)) (x1 : Int32) (x2 : Int32) (x3 : Int32) (h : Hp) : Option (Hp) := (if (h.1 o 10) ≤ x3 then lt (wI h o 10 x1) (fun h1 => lt (wI h1 o 12 x2) (fun h2 => some h2)) else ck (inb x3 10) (bv (fX1_endAs o 0 (h.1 (o + 5) (ix x3)) (-2) h) (fun h3 => lt (x3 + 1) (fun v4 => r2 x1 x2 v4 h3))))
def lX1_shutAgain_2 (o : Nat)  : Nat → Int32 → Int32 → Int32 → Hp → Option (Hp)
  | 0 => fun _ _ _ _ => none
  | n + 1 => bX1_shutAgain_2 o  (lX1_shutAgain_2 o  n)
set_option maxRecDepth 20000 in
theorem BX1_shutAgain_2 {Z : ZT} {G : GT} {hr : Hp} (X : CX Z G cX1_shutAgain RX1 4 1) (E : RX Z G none (none) hr) (o : Nat) (ho : isC o) (hz : HZ Z)  (r2 : Int32 → Int32 → Int32 → Hp → Option (Hp)) (hr2 : ∀ (x1 : Int32) (x2 : Int32) (x3 : Int32) (h : Hp), r2 x1 x2 x3 h = some hr → J Z G 4 h 2 [(0, .ref (Z.2.1 o)), (1, .int x1), (2, .int x2), (3, .int x3)] []) (x1 : Int32) (x2 : Int32) (x3 : Int32) (h : Hp) (hF : bX1_shutAgain_2 o  r2 x1 x2 x3 h = some hr) : J Z G 4 h 2 [(0, .ref (Z.2.1 o)), (1, .int x1), (2, .int x2), (3, .int x3)] [] := by
  unfold bX1_shutAgain_2 at hF
  refine j_iload_n (pc := 2) 3 X dX1_shutAgain_2 rfl ?_
  refine j_aload_n (pc := 3) 0 X dX1_shutAgain_3 rfl ?_
  refine j_geti (pc := 4) X dX1_shutAgain_4 (hz _ (shC ho)) fl_X1_66 rfl ?_
  refine j_icmp_ge (pc := 7) 29 X dX1_shutAgain_7 rfl hF (fun hF => ?_) (fun hF => ?_)
  · refine j_aload_n (pc := 29) 0 X dX1_shutAgain_29 rfl ?_
    refine j_iload_n (pc := 30) 1 X dX1_shutAgain_30 rfl ?_
    refine j_puti (pc := 31) X dX1_shutAgain_31 (hz _ (shC ho)) fp_X1_66 rfl hF (fun h1 hF => ?_)
    refine j_aload_n (pc := 34) 0 X dX1_shutAgain_34 rfl ?_
    refine j_iload_n (pc := 35) 2 X dX1_shutAgain_35 rfl ?_
    refine j_puti (pc := 36) X dX1_shutAgain_36 (hz _ (shC ho)) fp_X1_72 rfl hF (fun h2 hF => ?_)
    exact j_vret (pc := 39) X E dX1_shutAgain_39 hF
  · refine j_aload_n (pc := 10) 0 X dX1_shutAgain_10 rfl ?_
    refine j_iconst (pc := 11) 0 X dX1_shutAgain_11 rfl ?_
    refine j_aload_n (pc := 12) 0 X dX1_shutAgain_12 rfl ?_
    refine j_getr (pc := 13) X dX1_shutAgain_13 (hz _ (shC ho)) fl_X1_24 rfl ?_
    refine j_iload_n (pc := 16) 3 X dX1_shutAgain_16 rfl ?_
    refine j_iald (pc := 17) X dX1_shutAgain_17 (hz _ (shC_5 ho)) hF (fun hF => ?_)
    refine j_bipush (pc := 18) (-2) X dX1_shutAgain_18 rfl ?_
    refine j_cVv (pc := 20) (As := [.int 0, .int (h.1 (o + 5) (ix x3)), .int (-2)]) (rest := []) X dX1_shutAgain_20 ml_X1_133 ck_X1_endAs cv_X1_endAs (hz _ (shC ho)) rfl (Nat.le_of_ble_eq_true rfl) rfl (Nat.le_of_ble_eq_true rfl) rfl hF (tX1_endAs Z o ho 0 (h.1 (o + 5) (ix x3)) (-2) hz h) (fun h3 hF => ?_)
    refine j_iinc (pc := 23) 3 (x3 + 1) (fun y => [(3, .int y), (0, .ref (Z.2.1 o)), (1, .int x1), (2, .int x2)]) X dX1_shutAgain_23 rfl rfl (by decide) (fun _ => rfl) hF (fun v4 hF => ?_)
    refine j_goto (pc := 26) 2 X dX1_shutAgain_26 rfl ?_
    refine j_lv [(0, .ref (Z.2.1 o)), (1, .int x1), (2, .int x2), (3, .int v4)] [1, 2, 3, 0] rfl ?_
    exact hr2 x1 x2 v4 h3 hF
theorem LX1_shutAgain_2 {Z : ZT} {G : GT} {hr : Hp} (X : CX Z G cX1_shutAgain RX1 4 1) (E : RX Z G none (none) hr) (o : Nat) (ho : isC o) (hz : HZ Z)  : ∀ (n : Nat) (x1 : Int32) (x2 : Int32) (x3 : Int32) (h : Hp), lX1_shutAgain_2 o  n x1 x2 x3 h = some hr → J Z G 4 h 2 [(0, .ref (Z.2.1 o)), (1, .int x1), (2, .int x2), (3, .int x3)] [] := by
  intro n
  induction n with
  | zero => intro x1 x2 x3 h hF; cases hF
  | succ n ih => intro x1 x2 x3 h hF; exact BX1_shutAgain_2 X E o ho hz  (lX1_shutAgain_2 o  n) ih x1 x2 x3 h hF
def fX1_shutAgain (o : Nat) (a1 : Int32) (a2 : Int32) (h : Hp) : Option (Hp) := lt a1 (fun v1 => lX1_shutAgain_2 o FU a1 a2 v1 h)
set_option maxRecDepth 20000 in
theorem tX1_shutAgain (Z : ZT) (o : Nat) (ho : isC o) (a1 : Int32) (a2 : Int32) (hz : HZ Z) (h : Hp) (hr : Hp) (hF : fX1_shutAgain o a1 a2 h = some hr) : MC Z yX1_shutAgain cX1_shutAgain 4 none 1 [.ref (Z.2.1 o), .int a1, .int a2] h (none) hr := by
  unfold fX1_shutAgain at hF
  refine mc_start (by decide) (Nat.le_of_ble_eq_true rfl) (fun G X E => ?_)
  refine j_iload_n (pc := 0) 1 X dX1_shutAgain_0 rfl ?_
  refine j_istore_n (pc := 1) (fun y => [(3, .int y), (0, .ref (Z.2.1 o)), (1, .int a1), (2, .int a2)]) X dX1_shutAgain_1 (by decide) (fun _ => rfl) hF (fun v1 hF => ?_)
  refine j_lv [(0, .ref (Z.2.1 o)), (1, .int a1), (2, .int a2), (3, .int v1)] [1, 2, 3, 0] rfl ?_
  exact LX1_shutAgain_2 X E o ho hz FU a1 a2 v1 h hF
theorem dX1_openedAs_0 : decode cX1_openedAs 0 = .ok (.iconst 0, 1) := by decide +kernel
theorem dX1_openedAs_1 : decode cX1_openedAs 1 = .ok (.istore_n 3, 1) := by decide +kernel
theorem dX1_openedAs_2 : decode cX1_openedAs 2 = .ok (.iconst 0, 1) := by decide +kernel
theorem dX1_openedAs_3 : decode cX1_openedAs 3 = .ok (.istore 4, 2) := by decide +kernel
theorem dX1_openedAs_5 : decode cX1_openedAs 5 = .ok (.iload 4, 2) := by decide +kernel
theorem dX1_openedAs_7 : decode cX1_openedAs 7 = .ok (.aload_n 0, 1) := by decide +kernel
theorem dX1_openedAs_8 : decode cX1_openedAs 8 = .ok (.getfield 66, 3) := by decide +kernel
theorem dX1_openedAs_11 : decode cX1_openedAs 11 = .ok (.if_icmp .ge 41, 3) := by decide +kernel
theorem dX1_openedAs_14 : decode cX1_openedAs 14 = .ok (.aload_n 0, 1) := by decide +kernel
theorem dX1_openedAs_15 : decode cX1_openedAs 15 = .ok (.getfield 15, 3) := by decide +kernel
theorem dX1_openedAs_18 : decode cX1_openedAs 18 = .ok (.aload_n 0, 1) := by decide +kernel
theorem dX1_openedAs_19 : decode cX1_openedAs 19 = .ok (.getfield 24, 3) := by decide +kernel
theorem dX1_openedAs_22 : decode cX1_openedAs 22 = .ok (.iload 4, 2) := by decide +kernel
theorem dX1_openedAs_24 : decode cX1_openedAs 24 = .ok (.iaload, 1) := by decide +kernel
theorem dX1_openedAs_25 : decode cX1_openedAs 25 = .ok (.iaload, 1) := by decide +kernel
theorem dX1_openedAs_26 : decode cX1_openedAs 26 = .ok (.iload_n 1, 1) := by decide +kernel
theorem dX1_openedAs_27 : decode cX1_openedAs 27 = .ok (.if_icmp .ne 19, 3) := by decide +kernel
theorem dX1_openedAs_30 : decode cX1_openedAs 30 = .ok (.iload_n 3, 1) := by decide +kernel
theorem dX1_openedAs_31 : decode cX1_openedAs 31 = .ok (.iload_n 2, 1) := by decide +kernel
theorem dX1_openedAs_32 : decode cX1_openedAs 32 = .ok (.if_icmp .ne 11, 3) := by decide +kernel
theorem dX1_openedAs_35 : decode cX1_openedAs 35 = .ok (.aload_n 0, 1) := by decide +kernel
theorem dX1_openedAs_36 : decode cX1_openedAs 36 = .ok (.getfield 24, 3) := by decide +kernel
theorem dX1_openedAs_39 : decode cX1_openedAs 39 = .ok (.iload 4, 2) := by decide +kernel
theorem dX1_openedAs_41 : decode cX1_openedAs 41 = .ok (.iaload, 1) := by decide +kernel
theorem dX1_openedAs_42 : decode cX1_openedAs 42 = .ok (.ireturn, 1) := by decide +kernel
theorem dX1_openedAs_43 : decode cX1_openedAs 43 = .ok (.iinc 3 1, 3) := by decide +kernel
theorem dX1_openedAs_46 : decode cX1_openedAs 46 = .ok (.iinc 4 1, 3) := by decide +kernel
theorem dX1_openedAs_49 : decode cX1_openedAs 49 = .ok (.goto (-44), 3) := by decide +kernel
theorem dX1_openedAs_52 : decode cX1_openedAs 52 = .ok (.iconst (-1), 1) := by decide +kernel
theorem dX1_openedAs_53 : decode cX1_openedAs 53 = .ok (.ireturn, 1) := by decide +kernel
def bX1_openedAs_46 (o : Nat) (r5 : Int32 → Int32 → Int32 → Int32 → Hp → Option (Int32 × Hp)) (x1 : Int32) (x2 : Int32) (x3 : Int32) (x4 : Int32) (h : Hp) : Option (Int32 × Hp) := lt (x4 + 1) (fun v1 => r5 x1 x2 x3 v1 h)
set_option maxRecDepth 20000 in
theorem BX1_openedAs_46 {Z : ZT} {G : GT} {r : Int32} {hr : Hp} (X : CX Z G cX1_openedAs RX1 5 0) (E : RX Z G (some .int) (some (.int r)) hr) (o : Nat) (ho : isC o) (hz : HZ Z) (r5 : Int32 → Int32 → Int32 → Int32 → Hp → Option (Int32 × Hp)) (hr5 : ∀ (x1 : Int32) (x2 : Int32) (x3 : Int32) (x4 : Int32) (h : Hp), r5 x1 x2 x3 x4 h = some (r, hr) → J Z G 5 h 5 [(0, .ref (Z.2.1 o)), (1, .int x1), (2, .int x2), (3, .int x3), (4, .int x4)] []) (x1 : Int32) (x2 : Int32) (x3 : Int32) (x4 : Int32) (h : Hp) (hF : bX1_openedAs_46 o r5 x1 x2 x3 x4 h = some (r, hr)) : J Z G 5 h 46 [(0, .ref (Z.2.1 o)), (1, .int x1), (2, .int x2), (3, .int x3), (4, .int x4)] [] := by
  unfold bX1_openedAs_46 at hF
  refine j_iinc (pc := 46) 4 (x4 + 1) (fun y => [(4, .int y), (0, .ref (Z.2.1 o)), (1, .int x1), (2, .int x2), (3, .int x3)]) X dX1_openedAs_46 rfl rfl (by decide) (fun _ => rfl) hF (fun v1 hF => ?_)
  refine j_goto (pc := 49) 5 X dX1_openedAs_49 rfl ?_
  refine j_lv [(0, .ref (Z.2.1 o)), (1, .int x1), (2, .int x2), (3, .int x3), (4, .int v1)] [1, 2, 3, 4, 0] rfl ?_
  exact hr5 x1 x2 x3 v1 h hF
def bX1_openedAs_5 (o : Nat)  (r5 : Int32 → Int32 → Int32 → Int32 → Hp → Option (Int32 × Hp)) (x1 : Int32) (x2 : Int32) (x3 : Int32) (x4 : Int32) (h : Hp) : Option (Int32 × Hp) := (if (h.1 o 10) ≤ x4 then some ((-1), h) else ck (inb x4 10) (ck (inb (h.1 (o + 5) (ix x4)) 10) ((if (h.1 (o + 2) (ix (h.1 (o + 5) (ix x4)))) = x1 then (if x3 = x2 then ck (inb x4 10) (some ((h.1 (o + 5) (ix x4)), h)) else lt (x3 + 1) (fun v1 => bX1_openedAs_46 o r5 x1 x2 v1 x4 h)) else bX1_openedAs_46 o r5 x1 x2 x3 x4 h))))
def lX1_openedAs_5 (o : Nat)  : Nat → Int32 → Int32 → Int32 → Int32 → Hp → Option (Int32 × Hp)
  | 0 => fun _ _ _ _ _ => none
  | n + 1 => bX1_openedAs_5 o  (lX1_openedAs_5 o  n)
set_option maxRecDepth 20000 in
theorem BX1_openedAs_5 {Z : ZT} {G : GT} {r : Int32} {hr : Hp} (X : CX Z G cX1_openedAs RX1 5 0) (E : RX Z G (some .int) (some (.int r)) hr) (o : Nat) (ho : isC o) (hz : HZ Z)  (r5 : Int32 → Int32 → Int32 → Int32 → Hp → Option (Int32 × Hp)) (hr5 : ∀ (x1 : Int32) (x2 : Int32) (x3 : Int32) (x4 : Int32) (h : Hp), r5 x1 x2 x3 x4 h = some (r, hr) → J Z G 5 h 5 [(0, .ref (Z.2.1 o)), (1, .int x1), (2, .int x2), (3, .int x3), (4, .int x4)] []) (x1 : Int32) (x2 : Int32) (x3 : Int32) (x4 : Int32) (h : Hp) (hF : bX1_openedAs_5 o  r5 x1 x2 x3 x4 h = some (r, hr)) : J Z G 5 h 5 [(0, .ref (Z.2.1 o)), (1, .int x1), (2, .int x2), (3, .int x3), (4, .int x4)] [] := by
  unfold bX1_openedAs_5 at hF
  refine j_iload (pc := 5) 4 X dX1_openedAs_5 rfl ?_
  refine j_aload_n (pc := 7) 0 X dX1_openedAs_7 rfl ?_
  refine j_geti (pc := 8) X dX1_openedAs_8 (hz _ (shC ho)) fl_X1_66 rfl ?_
  refine j_icmp_ge (pc := 11) 52 X dX1_openedAs_11 rfl hF (fun hF => ?_) (fun hF => ?_)
  · refine j_iconst (pc := 52) (-1) X dX1_openedAs_52 rfl ?_
    exact j_iret (pc := 53) X E dX1_openedAs_53 hF
  · refine j_aload_n (pc := 14) 0 X dX1_openedAs_14 rfl ?_
    refine j_getr (pc := 15) X dX1_openedAs_15 (hz _ (shC ho)) fl_X1_15 rfl ?_
    refine j_aload_n (pc := 18) 0 X dX1_openedAs_18 rfl ?_
    refine j_getr (pc := 19) X dX1_openedAs_19 (hz _ (shC ho)) fl_X1_24 rfl ?_
    refine j_iload (pc := 22) 4 X dX1_openedAs_22 rfl ?_
    refine j_iald (pc := 24) X dX1_openedAs_24 (hz _ (shC_5 ho)) hF (fun hF => ?_)
    refine j_iald (pc := 25) X dX1_openedAs_25 (hz _ (shC_2 ho)) hF (fun hF => ?_)
    refine j_iload_n (pc := 26) 1 X dX1_openedAs_26 rfl ?_
    refine j_icmp_ne (pc := 27) 46 X dX1_openedAs_27 rfl hF (fun hF => ?_) (fun hF => ?_)
    · exact BX1_openedAs_46 X E o ho hz r5 hr5 x1 x2 x3 x4 h hF
    · refine j_iload_n (pc := 30) 3 X dX1_openedAs_30 rfl ?_
      refine j_iload_n (pc := 31) 2 X dX1_openedAs_31 rfl ?_
      refine j_icmp_ne (pc := 32) 43 X dX1_openedAs_32 rfl hF (fun hF => ?_) (fun hF => ?_)
      · refine j_iinc (pc := 43) 3 (x3 + 1) (fun y => [(3, .int y), (0, .ref (Z.2.1 o)), (1, .int x1), (2, .int x2), (4, .int x4)]) X dX1_openedAs_43 rfl rfl (by decide) (fun _ => rfl) hF (fun v1 hF => ?_)
        refine j_lv [(0, .ref (Z.2.1 o)), (1, .int x1), (2, .int x2), (3, .int v1), (4, .int x4)] [1, 2, 3, 0, 4] rfl ?_
        exact BX1_openedAs_46 X E o ho hz r5 hr5 x1 x2 v1 x4 h hF
      · refine j_aload_n (pc := 35) 0 X dX1_openedAs_35 rfl ?_
        refine j_getr (pc := 36) X dX1_openedAs_36 (hz _ (shC ho)) fl_X1_24 rfl ?_
        refine j_iload (pc := 39) 4 X dX1_openedAs_39 rfl ?_
        refine j_iald (pc := 41) X dX1_openedAs_41 (hz _ (shC_5 ho)) hF (fun hF => ?_)
        exact j_iret (pc := 42) X E dX1_openedAs_42 hF
theorem LX1_openedAs_5 {Z : ZT} {G : GT} {r : Int32} {hr : Hp} (X : CX Z G cX1_openedAs RX1 5 0) (E : RX Z G (some .int) (some (.int r)) hr) (o : Nat) (ho : isC o) (hz : HZ Z)  : ∀ (n : Nat) (x1 : Int32) (x2 : Int32) (x3 : Int32) (x4 : Int32) (h : Hp), lX1_openedAs_5 o  n x1 x2 x3 x4 h = some (r, hr) → J Z G 5 h 5 [(0, .ref (Z.2.1 o)), (1, .int x1), (2, .int x2), (3, .int x3), (4, .int x4)] [] := by
  intro n
  induction n with
  | zero => intro x1 x2 x3 x4 h hF; cases hF
  | succ n ih => intro x1 x2 x3 x4 h hF; exact BX1_openedAs_5 X E o ho hz  (lX1_openedAs_5 o  n) ih x1 x2 x3 x4 h hF
def fX1_openedAs (o : Nat) (a1 : Int32) (a2 : Int32) (h : Hp) : Option (Int32 × Hp) := lt 0 (fun v1 => lt 0 (fun v2 => lX1_openedAs_5 o FU a1 a2 v1 v2 h))
set_option maxRecDepth 20000 in
theorem tX1_openedAs (Z : ZT) (o : Nat) (ho : isC o) (a1 : Int32) (a2 : Int32) (hz : HZ Z) (h : Hp) (r : Int32) (hr : Hp) (hF : fX1_openedAs o a1 a2 h = some (r, hr)) : MC Z yX1_openedAs cX1_openedAs 5 (some .int) 0 [.ref (Z.2.1 o), .int a1, .int a2] h (some (.int r)) hr := by
  unfold fX1_openedAs at hF
  refine mc_start (by decide) (Nat.le_of_ble_eq_true rfl) (fun G X E => ?_)
  refine j_iconst (pc := 0) 0 X dX1_openedAs_0 rfl ?_
  refine j_istore_n (pc := 1) (fun y => [(3, .int y), (0, .ref (Z.2.1 o)), (1, .int a1), (2, .int a2)]) X dX1_openedAs_1 (by decide) (fun _ => rfl) hF (fun v1 hF => ?_)
  refine j_iconst (pc := 2) 0 X dX1_openedAs_2 rfl ?_
  refine j_istore (pc := 3) (fun y => [(4, .int y), (3, .int v1), (0, .ref (Z.2.1 o)), (1, .int a1), (2, .int a2)]) X dX1_openedAs_3 (by decide) (fun _ => rfl) hF (fun v2 hF => ?_)
  refine j_lv [(0, .ref (Z.2.1 o)), (1, .int a1), (2, .int a2), (3, .int v1), (4, .int v2)] [2, 3, 4, 1, 0] rfl ?_
  exact LX1_openedAs_5 X E o ho hz FU a1 a2 v1 v2 h hF
theorem dX1_hasBeenOpened_0 : decode cX1_hasBeenOpened 0 = .ok (.aload_n 0, 1) := by decide +kernel
theorem dX1_hasBeenOpened_1 : decode cX1_hasBeenOpened 1 = .ok (.getfield 9, 3) := by decide +kernel
theorem dX1_hasBeenOpened_4 : decode cX1_hasBeenOpened 4 = .ok (.iload_n 1, 1) := by decide +kernel
theorem dX1_hasBeenOpened_5 : decode cX1_hasBeenOpened 5 = .ok (.iaload, 1) := by decide +kernel
theorem dX1_hasBeenOpened_6 : decode cX1_hasBeenOpened 6 = .ok (.iconst 1, 1) := by decide +kernel
theorem dX1_hasBeenOpened_7 : decode cX1_hasBeenOpened 7 = .ok (.if_icmp .eq 13, 3) := by decide +kernel
theorem dX1_hasBeenOpened_10 : decode cX1_hasBeenOpened 10 = .ok (.aload_n 0, 1) := by decide +kernel
theorem dX1_hasBeenOpened_11 : decode cX1_hasBeenOpened 11 = .ok (.getfield 9, 3) := by decide +kernel
theorem dX1_hasBeenOpened_14 : decode cX1_hasBeenOpened 14 = .ok (.iload_n 1, 1) := by decide +kernel
theorem dX1_hasBeenOpened_15 : decode cX1_hasBeenOpened 15 = .ok (.iaload, 1) := by decide +kernel
theorem dX1_hasBeenOpened_16 : decode cX1_hasBeenOpened 16 = .ok (.iconst 2, 1) := by decide +kernel
theorem dX1_hasBeenOpened_17 : decode cX1_hasBeenOpened 17 = .ok (.if_icmp .ne 7, 3) := by decide +kernel
theorem dX1_hasBeenOpened_20 : decode cX1_hasBeenOpened 20 = .ok (.iconst 1, 1) := by decide +kernel
theorem dX1_hasBeenOpened_21 : decode cX1_hasBeenOpened 21 = .ok (.goto 4, 3) := by decide +kernel
theorem dX1_hasBeenOpened_24 : decode cX1_hasBeenOpened 24 = .ok (.iconst 0, 1) := by decide +kernel
theorem dX1_hasBeenOpened_25 : decode cX1_hasBeenOpened 25 = .ok (.ireturn, 1) := by decide +kernel
def fX1_hasBeenOpened (o : Nat) (a1 : Int32) (h : Hp) : Option (Int32 × Hp) := ck (inb a1 10) ((if (h.1 (o + 1) (ix a1)) = 1 then ck (zb 1) (some (1, h)) else ck (inb a1 10) ((if (h.1 (o + 1) (ix a1)) = 2 then ck (zb 1) (some (1, h)) else ck (zb 0) (some (0, h))))))
set_option maxRecDepth 20000 in
theorem tX1_hasBeenOpened (Z : ZT) (o : Nat) (ho : isC o) (a1 : Int32) (hz : HZ Z) (h : Hp) (r : Int32) (hr : Hp) (hF : fX1_hasBeenOpened o a1 h = some (r, hr)) : MC Z yX1_hasBeenOpened cX1_hasBeenOpened 2 (some .boolean) 0 [.ref (Z.2.1 o), .int a1] h (some (.int r)) hr := by
  unfold fX1_hasBeenOpened at hF
  refine mc_start (by decide) (Nat.le_of_ble_eq_true rfl) (fun G X E => ?_)
  refine j_aload_n (pc := 0) 0 X dX1_hasBeenOpened_0 rfl ?_
  refine j_getr (pc := 1) X dX1_hasBeenOpened_1 (hz _ (shC ho)) fl_X1_9 rfl ?_
  refine j_iload_n (pc := 4) 1 X dX1_hasBeenOpened_4 rfl ?_
  refine j_iald (pc := 5) X dX1_hasBeenOpened_5 (hz _ (shC_1 ho)) hF (fun hF => ?_)
  refine j_iconst (pc := 6) 1 X dX1_hasBeenOpened_6 rfl ?_
  refine j_icmp_eq (pc := 7) 20 X dX1_hasBeenOpened_7 rfl hF (fun hF => ?_) (fun hF => ?_)
  · refine j_iconst (pc := 20) 1 X dX1_hasBeenOpened_20 rfl ?_
    refine j_goto (pc := 21) 25 X dX1_hasBeenOpened_21 rfl ?_
    exact j_zret (pc := 25) X E dX1_hasBeenOpened_25 hF
  · refine j_aload_n (pc := 10) 0 X dX1_hasBeenOpened_10 rfl ?_
    refine j_getr (pc := 11) X dX1_hasBeenOpened_11 (hz _ (shC ho)) fl_X1_9 rfl ?_
    refine j_iload_n (pc := 14) 1 X dX1_hasBeenOpened_14 rfl ?_
    refine j_iald (pc := 15) X dX1_hasBeenOpened_15 (hz _ (shC_1 ho)) hF (fun hF => ?_)
    refine j_iconst (pc := 16) 2 X dX1_hasBeenOpened_16 rfl ?_
    refine j_icmp_ne (pc := 17) 24 X dX1_hasBeenOpened_17 rfl hF (fun hF => ?_) (fun hF => ?_)
    · refine j_iconst (pc := 24) 0 X dX1_hasBeenOpened_24 rfl ?_
      exact j_zret (pc := 25) X E dX1_hasBeenOpened_25 hF
    · refine j_iconst (pc := 20) 1 X dX1_hasBeenOpened_20 rfl ?_
      refine j_goto (pc := 21) 25 X dX1_hasBeenOpened_21 rfl ?_
      exact j_zret (pc := 25) X E dX1_hasBeenOpened_25 hF
