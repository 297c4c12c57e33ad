theorem dX12_tell_0 : decode cX12_tell 0 = .ok (.aload_n 0, 1) := by decide +kernel
theorem dX12_tell_1 : decode cX12_tell 1 = .ok (.getfield 20, 3) := by decide +kernel
theorem dX12_tell_4 : decode cX12_tell 4 = .ok (.aload_n 0, 1) := by decide +kernel
theorem dX12_tell_5 : decode cX12_tell 5 = .ok (.getfield 257, 3) := by decide +kernel
theorem dX12_tell_8 : decode cX12_tell 8 = .ok (.iaload, 1) := by decide +kernel
theorem dX12_tell_9 : decode cX12_tell 9 = .ok (.tableswitch 275 20 27 #[47, 80, 112, 145, 178, 206, 206, 206], 47) := by decide +kernel
theorem dX12_tell_56 : decode cX12_tell 56 = .ok (.aload_n 0, 1) := by decide +kernel
theorem dX12_tell_57 : decode cX12_tell 57 = .ok (.getfield 49, 3) := by decide +kernel
theorem dX12_tell_60 : decode cX12_tell 60 = .ok (.aload_n 0, 1) := by decide +kernel
theorem dX12_tell_61 : decode cX12_tell 61 = .ok (.getfield 287, 3) := by decide +kernel
theorem dX12_tell_64 : decode cX12_tell 64 = .ok (.iaload, 1) := by decide +kernel
theorem dX12_tell_65 : decode cX12_tell 65 = .ok (.bipush 10, 2) := by decide +kernel
theorem dX12_tell_67 : decode cX12_tell 67 = .ok (.if_icmp .ne 8, 3) := by decide +kernel
theorem dX12_tell_70 : decode cX12_tell 70 = .ok (.aload_n 0, 1) := by decide +kernel
theorem dX12_tell_71 : decode cX12_tell 71 = .ok (.iconst 2, 1) := by decide +kernel
theorem dX12_tell_72 : decode cX12_tell 72 = .ok (.invokevirtual 269, 3) := by decide +kernel
theorem dX12_tell_75 : decode cX12_tell 75 = .ok (.aload_n 0, 1) := by decide +kernel
theorem dX12_tell_76 : decode cX12_tell 76 = .ok (.getfield 254, 3) := by decide +kernel
theorem dX12_tell_79 : decode cX12_tell 79 = .ok (.ifCond .ne 210, 3) := by decide +kernel
theorem dX12_tell_82 : decode cX12_tell 82 = .ok (.aload_n 0, 1) := by decide +kernel
theorem dX12_tell_83 : decode cX12_tell 83 = .ok (.invokevirtual 316, 3) := by decide +kernel
theorem dX12_tell_86 : decode cX12_tell 86 = .ok (.goto 203, 3) := by decide +kernel
theorem dX12_tell_89 : decode cX12_tell 89 = .ok (.aload_n 0, 1) := by decide +kernel
theorem dX12_tell_90 : decode cX12_tell 90 = .ok (.getfield 55, 3) := by decide +kernel
theorem dX12_tell_93 : decode cX12_tell 93 = .ok (.aload_n 0, 1) := by decide +kernel
theorem dX12_tell_94 : decode cX12_tell 94 = .ok (.getfield 287, 3) := by decide +kernel
theorem dX12_tell_97 : decode cX12_tell 97 = .ok (.iaload, 1) := by decide +kernel
theorem dX12_tell_98 : decode cX12_tell 98 = .ok (.iconst 4, 1) := by decide +kernel
theorem dX12_tell_99 : decode cX12_tell 99 = .ok (.if_icmp .ne 8, 3) := by decide +kernel
theorem dX12_tell_102 : decode cX12_tell 102 = .ok (.aload_n 0, 1) := by decide +kernel
theorem dX12_tell_103 : decode cX12_tell 103 = .ok (.iconst 2, 1) := by decide +kernel
theorem dX12_tell_104 : decode cX12_tell 104 = .ok (.invokevirtual 269, 3) := by decide +kernel
theorem dX12_tell_107 : decode cX12_tell 107 = .ok (.aload_n 0, 1) := by decide +kernel
theorem dX12_tell_108 : decode cX12_tell 108 = .ok (.getfield 254, 3) := by decide +kernel
theorem dX12_tell_111 : decode cX12_tell 111 = .ok (.ifCond .ne 178, 3) := by decide +kernel
theorem dX12_tell_114 : decode cX12_tell 114 = .ok (.aload_n 0, 1) := by decide +kernel
theorem dX12_tell_115 : decode cX12_tell 115 = .ok (.invokevirtual 319, 3) := by decide +kernel
theorem dX12_tell_118 : decode cX12_tell 118 = .ok (.goto 171, 3) := by decide +kernel
theorem dX12_tell_121 : decode cX12_tell 121 = .ok (.aload_n 0, 1) := by decide +kernel
theorem dX12_tell_122 : decode cX12_tell 122 = .ok (.getfield 58, 3) := by decide +kernel
theorem dX12_tell_125 : decode cX12_tell 125 = .ok (.aload_n 0, 1) := by decide +kernel
theorem dX12_tell_126 : decode cX12_tell 126 = .ok (.getfield 287, 3) := by decide +kernel
theorem dX12_tell_129 : decode cX12_tell 129 = .ok (.iaload, 1) := by decide +kernel
theorem dX12_tell_130 : decode cX12_tell 130 = .ok (.bipush 12, 2) := by decide +kernel
theorem dX12_tell_132 : decode cX12_tell 132 = .ok (.if_icmp .ne 8, 3) := by decide +kernel
theorem dX12_tell_135 : decode cX12_tell 135 = .ok (.aload_n 0, 1) := by decide +kernel
theorem dX12_tell_136 : decode cX12_tell 136 = .ok (.iconst 2, 1) := by decide +kernel
theorem dX12_tell_137 : decode cX12_tell 137 = .ok (.invokevirtual 269, 3) := by decide +kernel
theorem dX12_tell_140 : decode cX12_tell 140 = .ok (.aload_n 0, 1) := by decide +kernel
theorem dX12_tell_141 : decode cX12_tell 141 = .ok (.getfield 254, 3) := by decide +kernel
theorem dX12_tell_144 : decode cX12_tell 144 = .ok (.ifCond .ne 145, 3) := by decide +kernel
theorem dX12_tell_147 : decode cX12_tell 147 = .ok (.aload_n 0, 1) := by decide +kernel
theorem dX12_tell_148 : decode cX12_tell 148 = .ok (.invokevirtual 322, 3) := by decide +kernel
theorem dX12_tell_151 : decode cX12_tell 151 = .ok (.goto 138, 3) := by decide +kernel
theorem dX12_tell_154 : decode cX12_tell 154 = .ok (.aload_n 0, 1) := by decide +kernel
theorem dX12_tell_155 : decode cX12_tell 155 = .ok (.getfield 67, 3) := by decide +kernel
theorem dX12_tell_158 : decode cX12_tell 158 = .ok (.aload_n 0, 1) := by decide +kernel
theorem dX12_tell_159 : decode cX12_tell 159 = .ok (.getfield 287, 3) := by decide +kernel
theorem dX12_tell_162 : decode cX12_tell 162 = .ok (.iaload, 1) := by decide +kernel
theorem dX12_tell_163 : decode cX12_tell 163 = .ok (.bipush 10, 2) := by decide +kernel
theorem dX12_tell_165 : decode cX12_tell 165 = .ok (.if_icmp .ne 8, 3) := by decide +kernel
theorem dX12_tell_168 : decode cX12_tell 168 = .ok (.aload_n 0, 1) := by decide +kernel
theorem dX12_tell_169 : decode cX12_tell 169 = .ok (.iconst 2, 1) := by decide +kernel
theorem dX12_tell_170 : decode cX12_tell 170 = .ok (.invokevirtual 269, 3) := by decide +kernel
theorem dX12_tell_173 : decode cX12_tell 173 = .ok (.aload_n 0, 1) := by decide +kernel
theorem dX12_tell_174 : decode cX12_tell 174 = .ok (.getfield 254, 3) := by decide +kernel
theorem dX12_tell_177 : decode cX12_tell 177 = .ok (.ifCond .ne 112, 3) := by decide +kernel
theorem dX12_tell_180 : decode cX12_tell 180 = .ok (.aload_n 0, 1) := by decide +kernel
theorem dX12_tell_181 : decode cX12_tell 181 = .ok (.invokevirtual 325, 3) := by decide +kernel
theorem dX12_tell_184 : decode cX12_tell 184 = .ok (.goto 105, 3) := by decide +kernel
theorem dX12_tell_187 : decode cX12_tell 187 = .ok (.aload_n 0, 1) := by decide +kernel
theorem dX12_tell_188 : decode cX12_tell 188 = .ok (.invokevirtual 275, 3) := by decide +kernel
theorem dX12_tell_191 : decode cX12_tell 191 = .ok (.aload_n 0, 1) := by decide +kernel
theorem dX12_tell_192 : decode cX12_tell 192 = .ok (.getfield 91, 3) := by decide +kernel
theorem dX12_tell_195 : decode cX12_tell 195 = .ok (.aload_n 0, 1) := by decide +kernel
theorem dX12_tell_196 : decode cX12_tell 196 = .ok (.getfield 287, 3) := by decide +kernel
theorem dX12_tell_199 : decode cX12_tell 199 = .ok (.aload_n 0, 1) := by decide +kernel
theorem dX12_tell_200 : decode cX12_tell 200 = .ok (.iconst 1, 1) := by decide +kernel
theorem dX12_tell_201 : decode cX12_tell 201 = .ok (.bipush 99, 2) := by decide +kernel
theorem dX12_tell_203 : decode cX12_tell 203 = .ok (.invokevirtual 328, 3) := by decide +kernel
theorem dX12_tell_206 : decode cX12_tell 206 = .ok (.iastore, 1) := by decide +kernel
theorem dX12_tell_207 : decode cX12_tell 207 = .ok (.aload_n 0, 1) := by decide +kernel
theorem dX12_tell_208 : decode cX12_tell 208 = .ok (.iconst 4, 1) := by decide +kernel
theorem dX12_tell_209 : decode cX12_tell 209 = .ok (.invokevirtual 331, 3) := by decide +kernel
theorem dX12_tell_212 : decode cX12_tell 212 = .ok (.goto 77, 3) := by decide +kernel
theorem dX12_tell_215 : decode cX12_tell 215 = .ok (.iconst 3, 1) := by decide +kernel
theorem dX12_tell_216 : decode cX12_tell 216 = .ok (.aload_n 0, 1) := by decide +kernel
theorem dX12_tell_217 : decode cX12_tell 217 = .ok (.getfield 287, 3) := by decide +kernel
theorem dX12_tell_220 : decode cX12_tell 220 = .ok (.imul, 1) := by decide +kernel
theorem dX12_tell_221 : decode cX12_tell 221 = .ok (.aload_n 0, 1) := by decide +kernel
theorem dX12_tell_222 : decode cX12_tell 222 = .ok (.getfield 20, 3) := by decide +kernel
theorem dX12_tell_225 : decode cX12_tell 225 = .ok (.aload_n 0, 1) := by decide +kernel
theorem dX12_tell_226 : decode cX12_tell 226 = .ok (.getfield 257, 3) := by decide +kernel
theorem dX12_tell_229 : decode cX12_tell 229 = .ok (.iaload, 1) := by decide +kernel
theorem dX12_tell_230 : decode cX12_tell 230 = .ok (.iadd, 1) := by decide +kernel
theorem dX12_tell_231 : decode cX12_tell 231 = .ok (.bipush 25, 2) := by decide +kernel
theorem dX12_tell_233 : decode cX12_tell 233 = .ok (.isub, 1) := by decide +kernel
theorem dX12_tell_234 : decode cX12_tell 234 = .ok (.istore_n 1, 1) := by decide +kernel
theorem dX12_tell_235 : decode cX12_tell 235 = .ok (.aload_n 0, 1) := by decide +kernel
theorem dX12_tell_236 : decode cX12_tell 236 = .ok (.invokevirtual 275, 3) := by decide +kernel
theorem dX12_tell_239 : decode cX12_tell 239 = .ok (.aload_n 0, 1) := by decide +kernel
theorem dX12_tell_240 : decode cX12_tell 240 = .ok (.bipush 16, 2) := by decide +kernel
theorem dX12_tell_242 : decode cX12_tell 242 = .ok (.invokevirtual 331, 3) := by decide +kernel
theorem dX12_tell_245 : decode cX12_tell 245 = .ok (.aload_n 0, 1) := by decide +kernel
theorem dX12_tell_246 : decode cX12_tell 246 = .ok (.getfield 94, 3) := by decide +kernel
theorem dX12_tell_249 : decode cX12_tell 249 = .ok (.iload_n 1, 1) := by decide +kernel
theorem dX12_tell_250 : decode cX12_tell 250 = .ok (.iconst 1, 1) := by decide +kernel
theorem dX12_tell_251 : decode cX12_tell 251 = .ok (.bastore, 1) := by decide +kernel
theorem dX12_tell_252 : decode cX12_tell 252 = .ok (.aload_n 0, 1) := by decide +kernel
theorem dX12_tell_253 : decode cX12_tell 253 = .ok (.getfield 98, 3) := by decide +kernel
theorem dX12_tell_256 : decode cX12_tell 256 = .ok (.iload_n 1, 1) := by decide +kernel
theorem dX12_tell_257 : decode cX12_tell 257 = .ok (.aload_n 0, 1) := by decide +kernel
theorem dX12_tell_258 : decode cX12_tell 258 = .ok (.getfield 296, 3) := by decide +kernel
theorem dX12_tell_261 : decode cX12_tell 261 = .ok (.iastore, 1) := by decide +kernel
theorem dX12_tell_262 : decode cX12_tell 262 = .ok (.aload_n 0, 1) := by decide +kernel
theorem dX12_tell_263 : decode cX12_tell 263 = .ok (.invokevirtual 334, 3) := by decide +kernel
theorem dX12_tell_266 : decode cX12_tell 266 = .ok (.aload_n 0, 1) := by decide +kernel
theorem dX12_tell_267 : decode cX12_tell 267 = .ok (.getfield 101, 3) := by decide +kernel
theorem dX12_tell_270 : decode cX12_tell 270 = .ok (.iload_n 1, 1) := by decide +kernel
theorem dX12_tell_271 : decode cX12_tell 271 = .ok (.aload_n 0, 1) := by decide +kernel
theorem dX12_tell_272 : decode cX12_tell 272 = .ok (.getfield 296, 3) := by decide +kernel
theorem dX12_tell_275 : decode cX12_tell 275 = .ok (.iastore, 1) := by decide +kernel
theorem dX12_tell_276 : decode cX12_tell 276 = .ok (.aload_n 0, 1) := by decide +kernel
theorem dX12_tell_277 : decode cX12_tell 277 = .ok (.iconst 4, 1) := by decide +kernel
theorem dX12_tell_278 : decode cX12_tell 278 = .ok (.invokevirtual 331, 3) := by decide +kernel
theorem dX12_tell_281 : decode cX12_tell 281 = .ok (.goto 8, 3) := by decide +kernel
theorem dX12_tell_284 : decode cX12_tell 284 = .ok (.aload_n 0, 1) := by decide +kernel
theorem dX12_tell_285 : decode cX12_tell 285 = .ok (.iconst 1, 1) := by decide +kernel
theorem dX12_tell_286 : decode cX12_tell 286 = .ok (.invokevirtual 269, 3) := by decide +kernel
theorem dX12_tell_289 : decode cX12_tell 289 = .ok (.return_, 1) := by decide +kernel
def bX12_tell_75    (h : Hp) : Option (Hp) := (if (h.1 0 13) = 0 then bv (fX12_tellPerson h) (fun h1 => some h1) else some h)
set_option maxRecDepth 20000 in
theorem BX12_tell_75 {Z : ZT} {G : GT} {hr : Hp} (X : CX Z G cX12_tell RX12 2 7) (E : RX Z G none (none) hr) (hz : HZM Z)   (h : Hp) (hF : bX12_tell_75    h = some hr) : J Z G 2 h 75 [(0, .ref (Z.2.1 0))] [] := by
  unfold bX12_tell_75 at hF
  refine j_aload_n (pc := 75) 0 X dX12_tell_75 rfl ?_
  refine j_geti (pc := 76) X dX12_tell_76 (hz _ sh_0) fl_X12_254 rfl ?_
  refine j_if_ne (pc := 79) 289 X dX12_tell_79 rfl hF (fun hF => ?_) (fun hF => ?_)
  · exact j_vret (pc := 289) X E dX12_tell_289 hF
  · refine j_aload_n (pc := 82) 0 X dX12_tell_82 rfl ?_
    refine j_cVv (pc := 83) (As := []) (rest := []) X dX12_tell_83 ml_X12_316 ck_X12_tellPerson cv_X12_tellPerson (hz _ sh_0) rfl (Nat.le_of_ble_eq_true rfl) rfl (Nat.le_of_ble_eq_true rfl) rfl hF (tX12_tellPerson Z hz h) (fun h1 hF => ?_)
    refine j_goto (pc := 86) 289 X dX12_tell_86 rfl ?_
    exact j_vret (pc := 289) X E dX12_tell_289 hF
def bX12_tell_107    (h : Hp) : Option (Hp) := (if (h.1 0 13) = 0 then bv (fX12_tellClerk h) (fun h1 => some h1) else some h)
set_option maxRecDepth 20000 in
theorem BX12_tell_107 {Z : ZT} {G : GT} {hr : Hp} (X : CX Z G cX12_tell RX12 2 7) (E : RX Z G none (none) hr) (hz : HZM Z)   (h : Hp) (hF : bX12_tell_107    h = some hr) : J Z G 2 h 107 [(0, .ref (Z.2.1 0))] [] := by
  unfold bX12_tell_107 at hF
  refine j_aload_n (pc := 107) 0 X dX12_tell_107 rfl ?_
  refine j_geti (pc := 108) X dX12_tell_108 (hz _ sh_0) fl_X12_254 rfl ?_
  refine j_if_ne (pc := 111) 289 X dX12_tell_111 rfl hF (fun hF => ?_) (fun hF => ?_)
  · exact j_vret (pc := 289) X E dX12_tell_289 hF
  · refine j_aload_n (pc := 114) 0 X dX12_tell_114 rfl ?_
    refine j_cVv (pc := 115) (As := []) (rest := []) X dX12_tell_115 ml_X12_319 ck_X12_tellClerk cv_X12_tellClerk (hz _ sh_0) rfl (Nat.le_of_ble_eq_true rfl) rfl (Nat.le_of_ble_eq_true rfl) rfl hF (tX12_tellClerk Z hz h) (fun h1 hF => ?_)
    refine j_goto (pc := 118) 289 X dX12_tell_118 rfl ?_
    exact j_vret (pc := 289) X E dX12_tell_289 hF
def bX12_tell_140    (h : Hp) : Option (Hp) := (if (h.1 0 13) = 0 then bv (fX12_tellBar h) (fun h1 => some h1) else some h)
set_option maxRecDepth 20000 in
theorem BX12_tell_140 {Z : ZT} {G : GT} {hr : Hp} (X : CX Z G cX12_tell RX12 2 7) (E : RX Z G none (none) hr) (hz : HZM Z)   (h : Hp) (hF : bX12_tell_140    h = some hr) : J Z G 2 h 140 [(0, .ref (Z.2.1 0))] [] := by
  unfold bX12_tell_140 at hF
  refine j_aload_n (pc := 140) 0 X dX12_tell_140 rfl ?_
  refine j_geti (pc := 141) X dX12_tell_141 (hz _ sh_0) fl_X12_254 rfl ?_
  refine j_if_ne (pc := 144) 289 X dX12_tell_144 rfl hF (fun hF => ?_) (fun hF => ?_)
  · exact j_vret (pc := 289) X E dX12_tell_289 hF
  · refine j_aload_n (pc := 147) 0 X dX12_tell_147 rfl ?_
    refine j_cVv (pc := 148) (As := []) (rest := []) X dX12_tell_148 ml_X12_322 ck_X12_tellBar cv_X12_tellBar (hz _ sh_0) rfl (Nat.le_of_ble_eq_true rfl) rfl (Nat.le_of_ble_eq_true rfl) rfl hF (tX12_tellBar Z hz h) (fun h1 hF => ?_)
    refine j_goto (pc := 151) 289 X dX12_tell_151 rfl ?_
    exact j_vret (pc := 289) X E dX12_tell_289 hF
def bX12_tell_173    (h : Hp) : Option (Hp) := (if (h.1 0 13) = 0 then bv (fX12_tellLetter h) (fun h1 => some h1) else some h)
set_option maxRecDepth 20000 in
theorem BX12_tell_173 {Z : ZT} {G : GT} {hr : Hp} (X : CX Z G cX12_tell RX12 2 7) (E : RX Z G none (none) hr) (hz : HZM Z)   (h : Hp) (hF : bX12_tell_173    h = some hr) : J Z G 2 h 173 [(0, .ref (Z.2.1 0))] [] := by
  unfold bX12_tell_173 at hF
  refine j_aload_n (pc := 173) 0 X dX12_tell_173 rfl ?_
  refine j_geti (pc := 174) X dX12_tell_174 (hz _ sh_0) fl_X12_254 rfl ?_
  refine j_if_ne (pc := 177) 289 X dX12_tell_177 rfl hF (fun hF => ?_) (fun hF => ?_)
  · exact j_vret (pc := 289) X E dX12_tell_289 hF
  · refine j_aload_n (pc := 180) 0 X dX12_tell_180 rfl ?_
    refine j_cVv (pc := 181) (As := []) (rest := []) X dX12_tell_181 ml_X12_325 ck_X12_tellLetter cv_X12_tellLetter (hz _ sh_0) rfl (Nat.le_of_ble_eq_true rfl) rfl (Nat.le_of_ble_eq_true rfl) rfl hF (tX12_tellLetter Z hz h) (fun h1 hF => ?_)
    refine j_goto (pc := 184) 289 X dX12_tell_184 rfl ?_
    exact j_vret (pc := 289) X E dX12_tell_289 hF
def fX12_tell  (h : Hp) : Option (Hp) := ck (inb (h.1 0 11) 403) ((if (h.1 3 (ix (h.1 0 11))).toInt < 20 ∨ 27 < (h.1 3 (ix (h.1 0 11))).toInt then bv (fX12_fail 1 h) (fun h1 => some h1) else if (h.1 3 (ix (h.1 0 11))) = 20 then ck (inb (h.1 0 19) 2) ((if (h.1 11 (ix (h.1 0 19))) = 10 then bv (fX12_fail 2 h) (fun h2 => bX12_tell_75 h2) else bX12_tell_75 h)) else if (h.1 3 (ix (h.1 0 11))) = 21 then ck (inb (h.1 0 19) 2) ((if (h.1 13 (ix (h.1 0 19))) = 4 then bv (fX12_fail 2 h) (fun h3 => bX12_tell_107 h3) else bX12_tell_107 h)) else if (h.1 3 (ix (h.1 0 11))) = 22 then ck (inb (h.1 0 19) 2) ((if (h.1 14 (ix (h.1 0 19))) = 12 then bv (fX12_fail 2 h) (fun h4 => bX12_tell_140 h4) else bX12_tell_140 h)) else if (h.1 3 (ix (h.1 0 11))) = 23 then ck (inb (h.1 0 19) 2) ((if (h.1 17 (ix (h.1 0 19))) = 10 then bv (fX12_fail 2 h) (fun h5 => bX12_tell_173 h5) else bX12_tell_173 h)) else if (h.1 3 (ix (h.1 0 11))) = 24 then bv (fX12_goesOn h) (fun h6 => bi (fX12_bounded 1 99 h6) (fun w8 h7 => ck (inb (h6.1 0 19) 2) (lt (wI h7 25 (ix (h6.1 0 19)) w8) (fun h9 => bv (fX12_must 4 h9) (fun h10 => some h10))))) else if (h.1 3 (ix (h.1 0 11))) = 25 then ck (inb (h.1 0 11) 403) (lt ((((3 : Int32) * (h.1 0 19)) + (h.1 3 (ix (h.1 0 11)))) - 25) (fun v11 => bv (fX12_goesOn h) (fun h12 => bv (fX12_must 16 h12) (fun h13 => ck (inb v11 6) (lt (wI h13 26 (ix v11) (vp_nar .boolean 1)) (fun h14 => ck (inb v11 6) (lt (wI h14 27 (ix v11) (h14.1 0 49)) (fun h15 => bv (fX12_expression h15) (fun h16 => ck (inb v11 6) (lt (wI h16 28 (ix v11) (h16.1 0 49)) (fun h17 => bv (fX12_must 4 h17) (fun h18 => some h18)))))))))))) else if (h.1 3 (ix (h.1 0 11))) = 26 then ck (inb (h.1 0 11) 403) (lt ((((3 : Int32) * (h.1 0 19)) + (h.1 3 (ix (h.1 0 11)))) - 25) (fun v19 => bv (fX12_goesOn h) (fun h20 => bv (fX12_must 16 h20) (fun h21 => ck (inb v19 6) (lt (wI h21 26 (ix v19) (vp_nar .boolean 1)) (fun h22 => ck (inb v19 6) (lt (wI h22 27 (ix v19) (h22.1 0 49)) (fun h23 => bv (fX12_expression h23) (fun h24 => ck (inb v19 6) (lt (wI h24 28 (ix v19) (h24.1 0 49)) (fun h25 => bv (fX12_must 4 h25) (fun h26 => some h26)))))))))))) else if (h.1 3 (ix (h.1 0 11))) = 27 then ck (inb (h.1 0 11) 403) (lt ((((3 : Int32) * (h.1 0 19)) + (h.1 3 (ix (h.1 0 11)))) - 25) (fun v27 => bv (fX12_goesOn h) (fun h28 => bv (fX12_must 16 h28) (fun h29 => ck (inb v27 6) (lt (wI h29 26 (ix v27) (vp_nar .boolean 1)) (fun h30 => ck (inb v27 6) (lt (wI h30 27 (ix v27) (h30.1 0 49)) (fun h31 => bv (fX12_expression h31) (fun h32 => ck (inb v27 6) (lt (wI h32 28 (ix v27) (h32.1 0 49)) (fun h33 => bv (fX12_must 4 h33) (fun h34 => some h34)))))))))))) else none))
set_option maxRecDepth 20000 in
theorem tX12_tell (Z : ZT)  (hz : HZM Z) (h : Hp) (hr : Hp) (hF : fX12_tell  h = some hr) : MC Z yX12_tell cX12_tell 2 none 7 [.ref (Z.2.1 0)] h (none) hr := by
  unfold fX12_tell at hF
  refine mc_start (by decide) (Nat.le_of_ble_eq_true rfl) (fun G X E => ?_)
  refine j_aload_n (pc := 0) 0 X dX12_tell_0 rfl ?_
  refine j_getr (pc := 1) X dX12_tell_1 (hz _ sh_0) fl_X12_20 rfl ?_
  refine j_aload_n (pc := 4) 0 X dX12_tell_4 rfl ?_
  refine j_geti (pc := 5) X dX12_tell_5 (hz _ sh_0) fl_X12_257 rfl ?_
  refine j_iald (pc := 8) X dX12_tell_8 (hz _ sh_3) hF (fun hF => ?_)
  refine j_tab (pc := 9) (tgt := 284) X dX12_tell_9 rfl hF (fun hF => ?_) (fun hF => ?_)
  · refine j_aload_n (pc := 284) 0 X dX12_tell_284 rfl ?_
    refine j_iconst (pc := 285) 1 X dX12_tell_285 rfl ?_
    refine j_cVv (pc := 286) (As := [.int 1]) (rest := []) X dX12_tell_286 ml_X12_269 ck_X12_fail cv_X12_fail (hz _ sh_0) rfl (Nat.le_of_ble_eq_true rfl) rfl (Nat.le_of_ble_eq_true rfl) rfl hF (tX12_fail Z 1 hz h) (fun h1 hF => ?_)
    exact j_vret (pc := 289) X E dX12_tell_289 hF
  refine j_tabi (pc := 9) (v := 20) (tgt := 56) X dX12_tell_9 rfl rfl rfl rfl hF (fun hF => ?_) (fun hF => ?_)
  · refine j_aload_n (pc := 56) 0 X dX12_tell_56 rfl ?_
    refine j_getr (pc := 57) X dX12_tell_57 (hz _ sh_0) fl_X12_49 rfl ?_
    refine j_aload_n (pc := 60) 0 X dX12_tell_60 rfl ?_
    refine j_geti (pc := 61) X dX12_tell_61 (hz _ sh_0) fl_X12_287 rfl ?_
    refine j_iald (pc := 64) X dX12_tell_64 (hz _ sh_11) hF (fun hF => ?_)
    refine j_bipush (pc := 65) 10 X dX12_tell_65 rfl ?_
    refine j_icmp_ne (pc := 67) 75 X dX12_tell_67 rfl hF (fun hF => ?_) (fun hF => ?_)
    · exact BX12_tell_75 X E hz h hF
    · refine j_aload_n (pc := 70) 0 X dX12_tell_70 rfl ?_
      refine j_iconst (pc := 71) 2 X dX12_tell_71 rfl ?_
      refine j_cVv (pc := 72) (As := [.int 2]) (rest := []) X dX12_tell_72 ml_X12_269 ck_X12_fail cv_X12_fail (hz _ sh_0) rfl (Nat.le_of_ble_eq_true rfl) rfl (Nat.le_of_ble_eq_true rfl) rfl hF (tX12_fail Z 2 hz h) (fun h2 hF => ?_)
      exact BX12_tell_75 X E hz h2 hF
  refine j_tabi (pc := 9) (v := 21) (tgt := 89) X dX12_tell_9 rfl rfl rfl rfl hF (fun hF => ?_) (fun hF => ?_)
  · refine j_aload_n (pc := 89) 0 X dX12_tell_89 rfl ?_
    refine j_getr (pc := 90) X dX12_tell_90 (hz _ sh_0) fl_X12_55 rfl ?_
    refine j_aload_n (pc := 93) 0 X dX12_tell_93 rfl ?_
    refine j_geti (pc := 94) X dX12_tell_94 (hz _ sh_0) fl_X12_287 rfl ?_
    refine j_iald (pc := 97) X dX12_tell_97 (hz _ sh_13) hF (fun hF => ?_)
    refine j_iconst (pc := 98) 4 X dX12_tell_98 rfl ?_
    refine j_icmp_ne (pc := 99) 107 X dX12_tell_99 rfl hF (fun hF => ?_) (fun hF => ?_)
    · exact BX12_tell_107 X E hz h hF
    · refine j_aload_n (pc := 102) 0 X dX12_tell_102 rfl ?_
      refine j_iconst (pc := 103) 2 X dX12_tell_103 rfl ?_
      refine j_cVv (pc := 104) (As := [.int 2]) (rest := []) X dX12_tell_104 ml_X12_269 ck_X12_fail cv_X12_fail (hz _ sh_0) rfl (Nat.le_of_ble_eq_true rfl) rfl (Nat.le_of_ble_eq_true rfl) rfl hF (tX12_fail Z 2 hz h) (fun h3 hF => ?_)
      exact BX12_tell_107 X E hz h3 hF
  refine j_tabi (pc := 9) (v := 22) (tgt := 121) X dX12_tell_9 rfl rfl rfl rfl hF (fun hF => ?_) (fun hF => ?_)
  · refine j_aload_n (pc := 121) 0 X dX12_tell_121 rfl ?_
    refine j_getr (pc := 122) X dX12_tell_122 (hz _ sh_0) fl_X12_58 rfl ?_
    refine j_aload_n (pc := 125) 0 X dX12_tell_125 rfl ?_
    refine j_geti (pc := 126) X dX12_tell_126 (hz _ sh_0) fl_X12_287 rfl ?_
    refine j_iald (pc := 129) X dX12_tell_129 (hz _ sh_14) hF (fun hF => ?_)
    refine j_bipush (pc := 130) 12 X dX12_tell_130 rfl ?_
    refine j_icmp_ne (pc := 132) 140 X dX12_tell_132 rfl hF (fun hF => ?_) (fun hF => ?_)
    · exact BX12_tell_140 X E hz h hF
    · refine j_aload_n (pc := 135) 0 X dX12_tell_135 rfl ?_
      refine j_iconst (pc := 136) 2 X dX12_tell_136 rfl ?_
      refine j_cVv (pc := 137) (As := [.int 2]) (rest := []) X dX12_tell_137 ml_X12_269 ck_X12_fail cv_X12_fail (hz _ sh_0) rfl (Nat.le_of_ble_eq_true rfl) rfl (Nat.le_of_ble_eq_true rfl) rfl hF (tX12_fail Z 2 hz h) (fun h4 hF => ?_)
      exact BX12_tell_140 X E hz h4 hF
  refine j_tabi (pc := 9) (v := 23) (tgt := 154) X dX12_tell_9 rfl rfl rfl rfl hF (fun hF => ?_) (fun hF => ?_)
  · refine j_aload_n (pc := 154) 0 X dX12_tell_154 rfl ?_
    refine j_getr (pc := 155) X dX12_tell_155 (hz _ sh_0) fl_X12_67 rfl ?_
    refine j_aload_n (pc := 158) 0 X dX12_tell_158 rfl ?_
    refine j_geti (pc := 159) X dX12_tell_159 (hz _ sh_0) fl_X12_287 rfl ?_
    refine j_iald (pc := 162) X dX12_tell_162 (hz _ sh_17) hF (fun hF => ?_)
    refine j_bipush (pc := 163) 10 X dX12_tell_163 rfl ?_
    refine j_icmp_ne (pc := 165) 173 X dX12_tell_165 rfl hF (fun hF => ?_) (fun hF => ?_)
    · exact BX12_tell_173 X E hz h hF
    · refine j_aload_n (pc := 168) 0 X dX12_tell_168 rfl ?_
      refine j_iconst (pc := 169) 2 X dX12_tell_169 rfl ?_
      refine j_cVv (pc := 170) (As := [.int 2]) (rest := []) X dX12_tell_170 ml_X12_269 ck_X12_fail cv_X12_fail (hz _ sh_0) rfl (Nat.le_of_ble_eq_true rfl) rfl (Nat.le_of_ble_eq_true rfl) rfl hF (tX12_fail Z 2 hz h) (fun h5 hF => ?_)
      exact BX12_tell_173 X E hz h5 hF
  refine j_tabi (pc := 9) (v := 24) (tgt := 187) X dX12_tell_9 rfl rfl rfl rfl hF (fun hF => ?_) (fun hF => ?_)
  · refine j_aload_n (pc := 187) 0 X dX12_tell_187 rfl ?_
    refine j_cVv (pc := 188) (As := []) (rest := []) X dX12_tell_188 ml_X12_275 ck_X12_goesOn cv_X12_goesOn (hz _ sh_0) rfl (Nat.le_of_ble_eq_true rfl) rfl (Nat.le_of_ble_eq_true rfl) rfl hF (tX12_goesOn Z hz h) (fun h6 hF => ?_)
    refine j_aload_n (pc := 191) 0 X dX12_tell_191 rfl ?_
    refine j_getr (pc := 192) X dX12_tell_192 (hz _ sh_0) fl_X12_91 rfl ?_
    refine j_aload_n (pc := 195) 0 X dX12_tell_195 rfl ?_
    refine j_geti (pc := 196) X dX12_tell_196 (hz _ sh_0) fl_X12_287 rfl ?_
    refine j_aload_n (pc := 199) 0 X dX12_tell_199 rfl ?_
    refine j_iconst (pc := 200) 1 X dX12_tell_200 rfl ?_
    refine j_bipush (pc := 201) 99 X dX12_tell_201 rfl ?_
    refine j_cVi (pc := 203) (As := [.int 1, .int 99]) (rest := [.int (h6.1 0 19), .ref (Z.2.1 25)]) X dX12_tell_203 ml_X12_328 ck_X12_bounded cv_X12_bounded (hz _ sh_0) rfl (Nat.le_of_ble_eq_true rfl) rfl (Nat.le_of_ble_eq_true rfl) rfl hF (tX12_bounded Z 1 99 hz h6) (fun w8 h7 hF => ?_)
    refine j_iast (pc := 206) X dX12_tell_206 (hz _ sh_25) hF (fun h9 hF => ?_)
    refine j_aload_n (pc := 207) 0 X dX12_tell_207 rfl ?_
    refine j_iconst (pc := 208) 4 X dX12_tell_208 rfl ?_
    refine j_cVv (pc := 209) (As := [.int 4]) (rest := []) X dX12_tell_209 ml_X12_331 ck_X12_must cv_X12_must (hz _ sh_0) rfl (Nat.le_of_ble_eq_true rfl) rfl (Nat.le_of_ble_eq_true rfl) rfl hF (tX12_must Z 4 hz h9) (fun h10 hF => ?_)
    refine j_goto (pc := 212) 289 X dX12_tell_212 rfl ?_
    exact j_vret (pc := 289) X E dX12_tell_289 hF
  refine j_tabi (pc := 9) (v := 25) (tgt := 215) X dX12_tell_9 rfl rfl rfl rfl hF (fun hF => ?_) (fun hF => ?_)
  · refine j_iconst (pc := 215) 3 X dX12_tell_215 rfl ?_
    refine j_aload_n (pc := 216) 0 X dX12_tell_216 rfl ?_
    refine j_geti (pc := 217) X dX12_tell_217 (hz _ sh_0) fl_X12_287 rfl ?_
    refine j_imul (pc := 220) X dX12_tell_220 ?_
    refine j_aload_n (pc := 221) 0 X dX12_tell_221 rfl ?_
    refine j_getr (pc := 222) X dX12_tell_222 (hz _ sh_0) fl_X12_20 rfl ?_
    refine j_aload_n (pc := 225) 0 X dX12_tell_225 rfl ?_
    refine j_geti (pc := 226) X dX12_tell_226 (hz _ sh_0) fl_X12_257 rfl ?_
    refine j_iald (pc := 229) X dX12_tell_229 (hz _ sh_3) hF (fun hF => ?_)
    refine j_iadd (pc := 230) X dX12_tell_230 ?_
    refine j_bipush (pc := 231) 25 X dX12_tell_231 rfl ?_
    refine j_isub (pc := 233) X dX12_tell_233 ?_
    refine j_istore_n (pc := 234) (fun y => [(1, .int y), (0, .ref (Z.2.1 0))]) X dX12_tell_234 (by decide) (fun _ => rfl) hF (fun v11 hF => ?_)
    refine j_aload_n (pc := 235) 1 X dX12_tell_235 rfl ?_
    refine j_cVv (pc := 236) (As := []) (rest := []) X dX12_tell_236 ml_X12_275 ck_X12_goesOn cv_X12_goesOn (hz _ sh_0) rfl (Nat.le_of_ble_eq_true rfl) rfl (Nat.le_of_ble_eq_true rfl) rfl hF (tX12_goesOn Z hz h) (fun h12 hF => ?_)
    refine j_aload_n (pc := 239) 1 X dX12_tell_239 rfl ?_
    refine j_bipush (pc := 240) 16 X dX12_tell_240 rfl ?_
    refine j_cVv (pc := 242) (As := [.int 16]) (rest := []) X dX12_tell_242 ml_X12_331 ck_X12_must cv_X12_must (hz _ sh_0) rfl (Nat.le_of_ble_eq_true rfl) rfl (Nat.le_of_ble_eq_true rfl) rfl hF (tX12_must Z 16 hz h12) (fun h13 hF => ?_)
    refine j_aload_n (pc := 245) 1 X dX12_tell_245 rfl ?_
    refine j_getr (pc := 246) X dX12_tell_246 (hz _ sh_0) fl_X12_94 rfl ?_
    refine j_iload_n (pc := 249) 0 X dX12_tell_249 rfl ?_
    refine j_iconst (pc := 250) 1 X dX12_tell_250 rfl ?_
    refine j_zast (pc := 251) X dX12_tell_251 (hz _ sh_26) hF (fun h14 hF => ?_)
    refine j_aload_n (pc := 252) 1 X dX12_tell_252 rfl ?_
    refine j_getr (pc := 253) X dX12_tell_253 (hz _ sh_0) fl_X12_98 rfl ?_
    refine j_iload_n (pc := 256) 0 X dX12_tell_256 rfl ?_
    refine j_aload_n (pc := 257) 1 X dX12_tell_257 rfl ?_
    refine j_geti (pc := 258) X dX12_tell_258 (hz _ sh_0) fl_X12_296 rfl ?_
    refine j_iast (pc := 261) X dX12_tell_261 (hz _ sh_27) hF (fun h15 hF => ?_)
    refine j_aload_n (pc := 262) 1 X dX12_tell_262 rfl ?_
    refine j_cVv (pc := 263) (As := []) (rest := []) X dX12_tell_263 ml_X12_334 ck_X12_expression cv_X12_expression (hz _ sh_0) rfl (Nat.le_of_ble_eq_true rfl) rfl (Nat.le_of_ble_eq_true rfl) rfl hF (tX12_expression Z hz h15) (fun h16 hF => ?_)
    refine j_aload_n (pc := 266) 1 X dX12_tell_266 rfl ?_
    refine j_getr (pc := 267) X dX12_tell_267 (hz _ sh_0) fl_X12_101 rfl ?_
    refine j_iload_n (pc := 270) 0 X dX12_tell_270 rfl ?_
    refine j_aload_n (pc := 271) 1 X dX12_tell_271 rfl ?_
    refine j_geti (pc := 272) X dX12_tell_272 (hz _ sh_0) fl_X12_296 rfl ?_
    refine j_iast (pc := 275) X dX12_tell_275 (hz _ sh_28) hF (fun h17 hF => ?_)
    refine j_aload_n (pc := 276) 1 X dX12_tell_276 rfl ?_
    refine j_iconst (pc := 277) 4 X dX12_tell_277 rfl ?_
    refine j_cVv (pc := 278) (As := [.int 4]) (rest := []) X dX12_tell_278 ml_X12_331 ck_X12_must cv_X12_must (hz _ sh_0) rfl (Nat.le_of_ble_eq_true rfl) rfl (Nat.le_of_ble_eq_true rfl) rfl hF (tX12_must Z 4 hz h17) (fun h18 hF => ?_)
    refine j_goto (pc := 281) 289 X dX12_tell_281 rfl ?_
    exact j_vret (pc := 289) X E dX12_tell_289 hF
  refine j_tabi (pc := 9) (v := 26) (tgt := 215) X dX12_tell_9 rfl rfl rfl rfl hF (fun hF => ?_) (fun hF => ?_)
  · refine j_iconst (pc := 215) 3 X dX12_tell_215 rfl ?_
    refine j_aload_n (pc := 216) 0 X dX12_tell_216 rfl ?_
    refine j_geti (pc := 217) X dX12_tell_217 (hz _ sh_0) fl_X12_287 rfl ?_
    refine j_imul (pc := 220) X dX12_tell_220 ?_
    refine j_aload_n (pc := 221) 0 X dX12_tell_221 rfl ?_
    refine j_getr (pc := 222) X dX12_tell_222 (hz _ sh_0) fl_X12_20 rfl ?_
    refine j_aload_n (pc := 225) 0 X dX12_tell_225 rfl ?_
    refine j_geti (pc := 226) X dX12_tell_226 (hz _ sh_0) fl_X12_257 rfl ?_
    refine j_iald (pc := 229) X dX12_tell_229 (hz _ sh_3) hF (fun hF => ?_)
    refine j_iadd (pc := 230) X dX12_tell_230 ?_
    refine j_bipush (pc := 231) 25 X dX12_tell_231 rfl ?_
    refine j_isub (pc := 233) X dX12_tell_233 ?_
    refine j_istore_n (pc := 234) (fun y => [(1, .int y), (0, .ref (Z.2.1 0))]) X dX12_tell_234 (by decide) (fun _ => rfl) hF (fun v19 hF => ?_)
    refine j_aload_n (pc := 235) 1 X dX12_tell_235 rfl ?_
    refine j_cVv (pc := 236) (As := []) (rest := []) X dX12_tell_236 ml_X12_275 ck_X12_goesOn cv_X12_goesOn (hz _ sh_0) rfl (Nat.le_of_ble_eq_true rfl) rfl (Nat.le_of_ble_eq_true rfl) rfl hF (tX12_goesOn Z hz h) (fun h20 hF => ?_)
    refine j_aload_n (pc := 239) 1 X dX12_tell_239 rfl ?_
    refine j_bipush (pc := 240) 16 X dX12_tell_240 rfl ?_
    refine j_cVv (pc := 242) (As := [.int 16]) (rest := []) X dX12_tell_242 ml_X12_331 ck_X12_must cv_X12_must (hz _ sh_0) rfl (Nat.le_of_ble_eq_true rfl) rfl (Nat.le_of_ble_eq_true rfl) rfl hF (tX12_must Z 16 hz h20) (fun h21 hF => ?_)
    refine j_aload_n (pc := 245) 1 X dX12_tell_245 rfl ?_
    refine j_getr (pc := 246) X dX12_tell_246 (hz _ sh_0) fl_X12_94 rfl ?_
    refine j_iload_n (pc := 249) 0 X dX12_tell_249 rfl ?_
    refine j_iconst (pc := 250) 1 X dX12_tell_250 rfl ?_
    refine j_zast (pc := 251) X dX12_tell_251 (hz _ sh_26) hF (fun h22 hF => ?_)
    refine j_aload_n (pc := 252) 1 X dX12_tell_252 rfl ?_
    refine j_getr (pc := 253) X dX12_tell_253 (hz _ sh_0) fl_X12_98 rfl ?_
    refine j_iload_n (pc := 256) 0 X dX12_tell_256 rfl ?_
    refine j_aload_n (pc := 257) 1 X dX12_tell_257 rfl ?_
    refine j_geti (pc := 258) X dX12_tell_258 (hz _ sh_0) fl_X12_296 rfl ?_
    refine j_iast (pc := 261) X dX12_tell_261 (hz _ sh_27) hF (fun h23 hF => ?_)
    refine j_aload_n (pc := 262) 1 X dX12_tell_262 rfl ?_
    refine j_cVv (pc := 263) (As := []) (rest := []) X dX12_tell_263 ml_X12_334 ck_X12_expression cv_X12_expression (hz _ sh_0) rfl (Nat.le_of_ble_eq_true rfl) rfl (Nat.le_of_ble_eq_true rfl) rfl hF (tX12_expression Z hz h23) (fun h24 hF => ?_)
    refine j_aload_n (pc := 266) 1 X dX12_tell_266 rfl ?_
    refine j_getr (pc := 267) X dX12_tell_267 (hz _ sh_0) fl_X12_101 rfl ?_
    refine j_iload_n (pc := 270) 0 X dX12_tell_270 rfl ?_
    refine j_aload_n (pc := 271) 1 X dX12_tell_271 rfl ?_
    refine j_geti (pc := 272) X dX12_tell_272 (hz _ sh_0) fl_X12_296 rfl ?_
    refine j_iast (pc := 275) X dX12_tell_275 (hz _ sh_28) hF (fun h25 hF => ?_)
    refine j_aload_n (pc := 276) 1 X dX12_tell_276 rfl ?_
    refine j_iconst (pc := 277) 4 X dX12_tell_277 rfl ?_
    refine j_cVv (pc := 278) (As := [.int 4]) (rest := []) X dX12_tell_278 ml_X12_331 ck_X12_must cv_X12_must (hz _ sh_0) rfl (Nat.le_of_ble_eq_true rfl) rfl (Nat.le_of_ble_eq_true rfl) rfl hF (tX12_must Z 4 hz h25) (fun h26 hF => ?_)
    refine j_goto (pc := 281) 289 X dX12_tell_281 rfl ?_
    exact j_vret (pc := 289) X E dX12_tell_289 hF
  refine j_tabi (pc := 9) (v := 27) (tgt := 215) X dX12_tell_9 rfl rfl rfl rfl hF (fun hF => ?_) (fun hF => ?_)
  · refine j_iconst (pc := 215) 3 X dX12_tell_215 rfl ?_
    refine j_aload_n (pc := 216) 0 X dX12_tell_216 rfl ?_
    refine j_geti (pc := 217) X dX12_tell_217 (hz _ sh_0) fl_X12_287 rfl ?_
    refine j_imul (pc := 220) X dX12_tell_220 ?_
    refine j_aload_n (pc := 221) 0 X dX12_tell_221 rfl ?_
    refine j_getr (pc := 222) X dX12_tell_222 (hz _ sh_0) fl_X12_20 rfl ?_
    refine j_aload_n (pc := 225) 0 X dX12_tell_225 rfl ?_
    refine j_geti (pc := 226) X dX12_tell_226 (hz _ sh_0) fl_X12_257 rfl ?_
    refine j_iald (pc := 229) X dX12_tell_229 (hz _ sh_3) hF (fun hF => ?_)
    refine j_iadd (pc := 230) X dX12_tell_230 ?_
    refine j_bipush (pc := 231) 25 X dX12_tell_231 rfl ?_
    refine j_isub (pc := 233) X dX12_tell_233 ?_
    refine j_istore_n (pc := 234) (fun y => [(1, .int y), (0, .ref (Z.2.1 0))]) X dX12_tell_234 (by decide) (fun _ => rfl) hF (fun v27 hF => ?_)
    refine j_aload_n (pc := 235) 1 X dX12_tell_235 rfl ?_
    refine j_cVv (pc := 236) (As := []) (rest := []) X dX12_tell_236 ml_X12_275 ck_X12_goesOn cv_X12_goesOn (hz _ sh_0) rfl (Nat.le_of_ble_eq_true rfl) rfl (Nat.le_of_ble_eq_true rfl) rfl hF (tX12_goesOn Z hz h) (fun h28 hF => ?_)
    refine j_aload_n (pc := 239) 1 X dX12_tell_239 rfl ?_
    refine j_bipush (pc := 240) 16 X dX12_tell_240 rfl ?_
    refine j_cVv (pc := 242) (As := [.int 16]) (rest := []) X dX12_tell_242 ml_X12_331 ck_X12_must cv_X12_must (hz _ sh_0) rfl (Nat.le_of_ble_eq_true rfl) rfl (Nat.le_of_ble_eq_true rfl) rfl hF (tX12_must Z 16 hz h28) (fun h29 hF => ?_)
    refine j_aload_n (pc := 245) 1 X dX12_tell_245 rfl ?_
    refine j_getr (pc := 246) X dX12_tell_246 (hz _ sh_0) fl_X12_94 rfl ?_
    refine j_iload_n (pc := 249) 0 X dX12_tell_249 rfl ?_
    refine j_iconst (pc := 250) 1 X dX12_tell_250 rfl ?_
    refine j_zast (pc := 251) X dX12_tell_251 (hz _ sh_26) hF (fun h30 hF => ?_)
    refine j_aload_n (pc := 252) 1 X dX12_tell_252 rfl ?_
    refine j_getr (pc := 253) X dX12_tell_253 (hz _ sh_0) fl_X12_98 rfl ?_
    refine j_iload_n (pc := 256) 0 X dX12_tell_256 rfl ?_
    refine j_aload_n (pc := 257) 1 X dX12_tell_257 rfl ?_
    refine j_geti (pc := 258) X dX12_tell_258 (hz _ sh_0) fl_X12_296 rfl ?_
    refine j_iast (pc := 261) X dX12_tell_261 (hz _ sh_27) hF (fun h31 hF => ?_)
    refine j_aload_n (pc := 262) 1 X dX12_tell_262 rfl ?_
    refine j_cVv (pc := 263) (As := []) (rest := []) X dX12_tell_263 ml_X12_334 ck_X12_expression cv_X12_expression (hz _ sh_0) rfl (Nat.le_of_ble_eq_true rfl) rfl (Nat.le_of_ble_eq_true rfl) rfl hF (tX12_expression Z hz h31) (fun h32 hF => ?_)
    refine j_aload_n (pc := 266) 1 X dX12_tell_266 rfl ?_
    refine j_getr (pc := 267) X dX12_tell_267 (hz _ sh_0) fl_X12_101 rfl ?_
    refine j_iload_n (pc := 270) 0 X dX12_tell_270 rfl ?_
    refine j_aload_n (pc := 271) 1 X dX12_tell_271 rfl ?_
    refine j_geti (pc := 272) X dX12_tell_272 (hz _ sh_0) fl_X12_296 rfl ?_
    refine j_iast (pc := 275) X dX12_tell_275 (hz _ sh_28) hF (fun h33 hF => ?_)
    refine j_aload_n (pc := 276) 1 X dX12_tell_276 rfl ?_
    refine j_iconst (pc := 277) 4 X dX12_tell_277 rfl ?_
    refine j_cVv (pc := 278) (As := [.int 4]) (rest := []) X dX12_tell_278 ml_X12_331 ck_X12_must cv_X12_must (hz _ sh_0) rfl (Nat.le_of_ble_eq_true rfl) rfl (Nat.le_of_ble_eq_true rfl) rfl hF (tX12_must Z 4 hz h33) (fun h34 hF => ?_)
    refine j_goto (pc := 281) 289 X dX12_tell_281 rfl ?_
    exact j_vret (pc := 289) X E dX12_tell_289 hF
  cases hF
theorem dX12_findsRead_0 : decode cX12_findsRead 0 = .ok (.sipush 150, 3) := by decide +kernel
theorem dX12_findsRead_3 : decode cX12_findsRead 3 = .ok (.aload_n 0, 1) := by decide +kernel
theorem dX12_findsRead_4 : decode cX12_findsRead 4 = .ok (.getfield 287, 3) := by decide +kernel
theorem dX12_findsRead_7 : decode cX12_findsRead 7 = .ok (.imul, 1) := by decide +kernel
theorem dX12_findsRead_8 : decode cX12_findsRead 8 = .ok (.istore_n 1, 1) := by decide +kernel
theorem dX12_findsRead_9 : decode cX12_findsRead 9 = .ok (.iload_n 1, 1) := by decide +kernel
theorem dX12_findsRead_10 : decode cX12_findsRead 10 = .ok (.aload_n 0, 1) := by decide +kernel
theorem dX12_findsRead_11 : decode cX12_findsRead 11 = .ok (.getfield 293, 3) := by decide +kernel
theorem dX12_findsRead_14 : decode cX12_findsRead 14 = .ok (.if_icmp .ge 57, 3) := by decide +kernel
theorem dX12_findsRead_17 : decode cX12_findsRead 17 = .ok (.aload_n 0, 1) := by decide +kernel
theorem dX12_findsRead_18 : decode cX12_findsRead 18 = .ok (.getfield 104, 3) := by decide +kernel
theorem dX12_findsRead_21 : decode cX12_findsRead 21 = .ok (.iload_n 1, 1) := by decide +kernel
theorem dX12_findsRead_22 : decode cX12_findsRead 22 = .ok (.iaload, 1) := by decide +kernel
theorem dX12_findsRead_23 : decode cX12_findsRead 23 = .ok (.iconst 5, 1) := by decide +kernel
theorem dX12_findsRead_24 : decode cX12_findsRead 24 = .ok (.if_icmp .eq 6, 3) := by decide +kernel
theorem dX12_findsRead_27 : decode cX12_findsRead 27 = .ok (.goto 38, 3) := by decide +kernel
theorem dX12_findsRead_30 : decode cX12_findsRead 30 = .ok (.aload_n 0, 1) := by decide +kernel
theorem dX12_findsRead_31 : decode cX12_findsRead 31 = .ok (.getfield 113, 3) := by decide +kernel
theorem dX12_findsRead_34 : decode cX12_findsRead 34 = .ok (.iload_n 1, 1) := by decide +kernel
theorem dX12_findsRead_35 : decode cX12_findsRead 35 = .ok (.iaload, 1) := by decide +kernel
theorem dX12_findsRead_36 : decode cX12_findsRead 36 = .ok (.istore_n 2, 1) := by decide +kernel
theorem dX12_findsRead_37 : decode cX12_findsRead 37 = .ok (.aload_n 0, 1) := by decide +kernel
theorem dX12_findsRead_38 : decode cX12_findsRead 38 = .ok (.getfield 113, 3) := by decide +kernel
theorem dX12_findsRead_41 : decode cX12_findsRead 41 = .ok (.iload_n 1, 1) := by decide +kernel
theorem dX12_findsRead_42 : decode cX12_findsRead 42 = .ok (.aload_n 0, 1) := by decide +kernel
theorem dX12_findsRead_43 : decode cX12_findsRead 43 = .ok (.iload_n 2, 1) := by decide +kernel
theorem dX12_findsRead_44 : decode cX12_findsRead 44 = .ok (.iconst 2, 1) := by decide +kernel
theorem dX12_findsRead_45 : decode cX12_findsRead 45 = .ok (.invokevirtual 308, 3) := by decide +kernel
theorem dX12_findsRead_48 : decode cX12_findsRead 48 = .ok (.iastore, 1) := by decide +kernel
theorem dX12_findsRead_49 : decode cX12_findsRead 49 = .ok (.aload_n 0, 1) := by decide +kernel
theorem dX12_findsRead_50 : decode cX12_findsRead 50 = .ok (.getfield 113, 3) := by decide +kernel
theorem dX12_findsRead_53 : decode cX12_findsRead 53 = .ok (.iload_n 1, 1) := by decide +kernel
theorem dX12_findsRead_54 : decode cX12_findsRead 54 = .ok (.iaload, 1) := by decide +kernel
theorem dX12_findsRead_55 : decode cX12_findsRead 55 = .ok (.iconst (-1), 1) := by decide +kernel
theorem dX12_findsRead_56 : decode cX12_findsRead 56 = .ok (.if_icmp .ne 9, 3) := by decide +kernel
theorem dX12_findsRead_59 : decode cX12_findsRead 59 = .ok (.aload_n 0, 1) := by decide +kernel
theorem dX12_findsRead_60 : decode cX12_findsRead 60 = .ok (.iconst 4, 1) := by decide +kernel
theorem dX12_findsRead_61 : decode cX12_findsRead 61 = .ok (.iload_n 2, 1) := by decide +kernel
theorem dX12_findsRead_62 : decode cX12_findsRead 62 = .ok (.invokevirtual 312, 3) := by decide +kernel
theorem dX12_findsRead_65 : decode cX12_findsRead 65 = .ok (.iinc 1 1, 3) := by decide +kernel
theorem dX12_findsRead_68 : decode cX12_findsRead 68 = .ok (.goto (-59), 3) := by decide +kernel
theorem dX12_findsRead_71 : decode cX12_findsRead 71 = .ok (.return_, 1) := by decide +kernel
def bX12_findsRead_65  (r9 : Int32 → Hp → Option (Hp)) (x1 : Int32) (h : Hp) : Option (Hp) := lt (x1 + 1) (fun v1 => r9 v1 h)
set_option maxRecDepth 20000 in
theorem BX12_findsRead_65 {Z : ZT} {G : GT} {hr : Hp} (X : CX Z G cX12_findsRead RX12 3 1) (E : RX Z G none (none) hr) (hz : HZM Z) (r9 : Int32 → Hp → Option (Hp)) (hr9 : ∀ (x1 : Int32) (h : Hp), r9 x1 h = some hr → J Z G 3 h 9 [(0, .ref (Z.2.1 0)), (1, .int x1)] []) (x1 : Int32) (h : Hp) (hF : bX12_findsRead_65  r9 x1 h = some hr) : J Z G 3 h 65 [(0, .ref (Z.2.1 0)), (1, .int x1)] [] := by
  unfold bX12_findsRead_65 at hF
  refine j_iinc (pc := 65) 1 (x1 + 1) (fun y => [(1, .int y), (0, .ref (Z.2.1 0))]) X dX12_findsRead_65 rfl rfl (by decide) (fun _ => rfl) hF (fun v1 hF => ?_)
  refine j_goto (pc := 68) 9 X dX12_findsRead_68 rfl ?_
  refine j_lv [(0, .ref (Z.2.1 0)), (1, .int v1)] [1, 0] rfl ?_
  exact hr9 v1 h hF
def bX12_findsRead_9   (r9 : Int32 → Hp → Option (Hp)) (x1 : Int32) (h : Hp) : Option (Hp) := (if (h.1 0 42) ≤ x1 then some h else ck (inb x1 300) ((if (h.1 29 (ix x1)) = 5 then ck (inb x1 300) (lt (h.1 32 (ix x1)) (fun v1 => bi (fX12_find v1 2 h) (fun w3 h2 => ck (inb x1 300) (lt (wI h2 32 (ix x1) w3) (fun h4 => ck (inb x1 300) ((if (h4.1 32 (ix x1)) = (-1) then bv (fX12_amiss 4 v1 h4) (fun h5 => bX12_findsRead_65 r9 x1 h5) else bX12_findsRead_65 r9 x1 h4))))))) else bX12_findsRead_65 r9 x1 h)))
def lX12_findsRead_9   : Nat → Int32 → Hp → Option (Hp)
  | 0 => fun _ _ => none
  | n + 1 => bX12_findsRead_9   (lX12_findsRead_9   n)
set_option maxRecDepth 20000 in
theorem BX12_findsRead_9 {Z : ZT} {G : GT} {hr : Hp} (X : CX Z G cX12_findsRead RX12 3 1) (E : RX Z G none (none) hr) (hz : HZM Z)  (r9 : Int32 → Hp → Option (Hp)) (hr9 : ∀ (x1 : Int32) (h : Hp), r9 x1 h = some hr → J Z G 3 h 9 [(0, .ref (Z.2.1 0)), (1, .int x1)] []) (x1 : Int32) (h : Hp) (hF : bX12_findsRead_9   r9 x1 h = some hr) : J Z G 3 h 9 [(0, .ref (Z.2.1 0)), (1, .int x1)] [] := by
  unfold bX12_findsRead_9 at hF
  refine j_iload_n (pc := 9) 1 X dX12_findsRead_9 rfl ?_
  refine j_aload_n (pc := 10) 0 X dX12_findsRead_10 rfl ?_
  refine j_geti (pc := 11) X dX12_findsRead_11 (hz _ sh_0) fl_X12_293 rfl ?_
  refine j_icmp_ge (pc := 14) 71 X dX12_findsRead_14 rfl hF (fun hF => ?_) (fun hF => ?_)
  · exact j_vret (pc := 71) X E dX12_findsRead_71 hF
  · refine j_aload_n (pc := 17) 0 X dX12_findsRead_17 rfl ?_
    refine j_getr (pc := 18) X dX12_findsRead_18 (hz _ sh_0) fl_X12_104 rfl ?_
    refine j_iload_n (pc := 21) 1 X dX12_findsRead_21 rfl ?_
    refine j_iald (pc := 22) X dX12_findsRead_22 (hz _ sh_29) hF (fun hF => ?_)
    refine j_iconst (pc := 23) 5 X dX12_findsRead_23 rfl ?_
    refine j_icmp_eq (pc := 24) 30 X dX12_findsRead_24 rfl hF (fun hF => ?_) (fun hF => ?_)
    · refine j_aload_n (pc := 30) 0 X dX12_findsRead_30 rfl ?_
      refine j_getr (pc := 31) X dX12_findsRead_31 (hz _ sh_0) fl_X12_113 rfl ?_
      refine j_iload_n (pc := 34) 1 X dX12_findsRead_34 rfl ?_
      refine j_iald (pc := 35) X dX12_findsRead_35 (hz _ sh_32) hF (fun hF => ?_)
      refine j_istore_n (pc := 36) (fun y => [(2, .int y), (0, .ref (Z.2.1 0)), (1, .int x1)]) X dX12_findsRead_36 (by decide) (fun _ => rfl) hF (fun v1 hF => ?_)
      refine j_aload_n (pc := 37) 1 X dX12_findsRead_37 rfl ?_
      refine j_getr (pc := 38) X dX12_findsRead_38 (hz _ sh_0) fl_X12_113 rfl ?_
      refine j_iload_n (pc := 41) 2 X dX12_findsRead_41 rfl ?_
      refine j_aload_n (pc := 42) 1 X dX12_findsRead_42 rfl ?_
      refine j_iload_n (pc := 43) 0 X dX12_findsRead_43 rfl ?_
      refine j_iconst (pc := 44) 2 X dX12_findsRead_44 rfl ?_
      refine j_cVi (pc := 45) (As := [.int v1, .int 2]) (rest := [.int x1, .ref (Z.2.1 32)]) X dX12_findsRead_45 ml_X12_308 ck_X12_find cv_X12_find (hz _ sh_0) rfl (Nat.le_of_ble_eq_true rfl) rfl (Nat.le_of_ble_eq_true rfl) rfl hF (tX12_find Z v1 2 hz h) (fun w3 h2 hF => ?_)
      refine j_iast (pc := 48) X dX12_findsRead_48 (hz _ sh_32) hF (fun h4 hF => ?_)
      refine j_aload_n (pc := 49) 1 X dX12_findsRead_49 rfl ?_
      refine j_getr (pc := 50) X dX12_findsRead_50 (hz _ sh_0) fl_X12_113 rfl ?_
      refine j_iload_n (pc := 53) 2 X dX12_findsRead_53 rfl ?_
      refine j_iald (pc := 54) X dX12_findsRead_54 (hz _ sh_32) hF (fun hF => ?_)
      refine j_iconst (pc := 55) (-1) X dX12_findsRead_55 rfl ?_
      refine j_icmp_ne (pc := 56) 65 X dX12_findsRead_56 rfl hF (fun hF => ?_) (fun hF => ?_)
      · refine j_lv [(0, .ref (Z.2.1 0)), (1, .int x1)] [1, 2] rfl ?_
        exact BX12_findsRead_65 X E hz r9 hr9 x1 h4 hF
      · refine j_aload_n (pc := 59) 1 X dX12_findsRead_59 rfl ?_
        refine j_iconst (pc := 60) 4 X dX12_findsRead_60 rfl ?_
        refine j_iload_n (pc := 61) 0 X dX12_findsRead_61 rfl ?_
        refine j_cVv (pc := 62) (As := [.int 4, .int v1]) (rest := []) X dX12_findsRead_62 ml_X12_312 ck_X12_amiss cv_X12_amiss (hz _ sh_0) rfl (Nat.le_of_ble_eq_true rfl) rfl (Nat.le_of_ble_eq_true rfl) rfl hF (tX12_amiss Z 4 v1 hz h4) (fun h5 hF => ?_)
        refine j_lv [(0, .ref (Z.2.1 0)), (1, .int x1)] [1, 2] rfl ?_
        exact BX12_findsRead_65 X E hz r9 hr9 x1 h5 hF
    · refine j_goto (pc := 27) 65 X dX12_findsRead_27 rfl ?_
      exact BX12_findsRead_65 X E hz r9 hr9 x1 h hF
theorem LX12_findsRead_9 {Z : ZT} {G : GT} {hr : Hp} (X : CX Z G cX12_findsRead RX12 3 1) (E : RX Z G none (none) hr) (hz : HZM Z)  : ∀ (n : Nat) (x1 : Int32) (h : Hp), lX12_findsRead_9   n x1 h = some hr → J Z G 3 h 9 [(0, .ref (Z.2.1 0)), (1, .int x1)] [] := by
  intro n
  induction n with
  | zero => intro x1 h hF; cases hF
  | succ n ih => intro x1 h hF; exact BX12_findsRead_9 X E hz  (lX12_findsRead_9   n) ih x1 h hF
def fX12_findsRead  (h : Hp) : Option (Hp) := lt ((150 : Int32) * (h.1 0 19)) (fun v1 => lX12_findsRead_9 FU v1 h)
set_option maxRecDepth 20000 in
theorem tX12_findsRead (Z : ZT)  (hz : HZM Z) (h : Hp) (hr : Hp) (hF : fX12_findsRead  h = some hr) : MC Z yX12_findsRead cX12_findsRead 3 none 1 [.ref (Z.2.1 0)] h (none) hr := by
  unfold fX12_findsRead at hF
  refine mc_start (by decide) (Nat.le_of_ble_eq_true rfl) (fun G X E => ?_)
  refine j_sipush (pc := 0) 150 X dX12_findsRead_0 rfl ?_
  refine j_aload_n (pc := 3) 0 X dX12_findsRead_3 rfl ?_
  refine j_geti (pc := 4) X dX12_findsRead_4 (hz _ sh_0) fl_X12_287 rfl ?_
  refine j_imul (pc := 7) X dX12_findsRead_7 ?_
  refine j_istore_n (pc := 8) (fun y => [(1, .int y), (0, .ref (Z.2.1 0))]) X dX12_findsRead_8 (by decide) (fun _ => rfl) hF (fun v1 hF => ?_)
  refine j_lv [(0, .ref (Z.2.1 0)), (1, .int v1)] [1, 0] rfl ?_
  exact LX12_findsRead_9 X E hz FU v1 h hF
theorem dX12_read_0 : decode cX12_read 0 = .ok (.aload_n 0, 1) := by decide +kernel
theorem dX12_read_1 : decode cX12_read 1 = .ok (.aload_n 0, 1) := by decide +kernel
theorem dX12_read_2 : decode cX12_read 2 = .ok (.getfield 216, 3) := by decide +kernel
theorem dX12_read_5 : decode cX12_read 5 = .ok (.putfield 223, 3) := by decide +kernel
theorem dX12_read_8 : decode cX12_read 8 = .ok (.iconst 0, 1) := by decide +kernel
theorem dX12_read_9 : decode cX12_read 9 = .ok (.istore_n 1, 1) := by decide +kernel
theorem dX12_read_10 : decode cX12_read 10 = .ok (.iload_n 1, 1) := by decide +kernel
theorem dX12_read_11 : decode cX12_read 11 = .ok (.aload_n 0, 1) := by decide +kernel
theorem dX12_read_12 : decode cX12_read 12 = .ok (.getfield 223, 3) := by decide +kernel
theorem dX12_read_15 : decode cX12_read 15 = .ok (.if_icmp .ge 21, 3) := by decide +kernel
theorem dX12_read_18 : decode cX12_read 18 = .ok (.aload_n 0, 1) := by decide +kernel
theorem dX12_read_19 : decode cX12_read 19 = .ok (.getfield 17, 3) := by decide +kernel
theorem dX12_read_22 : decode cX12_read 22 = .ok (.iload_n 1, 1) := by decide +kernel
theorem dX12_read_23 : decode cX12_read 23 = .ok (.aload_n 0, 1) := by decide +kernel
theorem dX12_read_24 : decode cX12_read 24 = .ok (.getfield 13, 3) := by decide +kernel
theorem dX12_read_27 : decode cX12_read 27 = .ok (.iload_n 1, 1) := by decide +kernel
theorem dX12_read_28 : decode cX12_read 28 = .ok (.baload, 1) := by decide +kernel
theorem dX12_read_29 : decode cX12_read 29 = .ok (.bastore, 1) := by decide +kernel
theorem dX12_read_30 : decode cX12_read 30 = .ok (.iinc 1 1, 3) := by decide +kernel
theorem dX12_read_33 : decode cX12_read 33 = .ok (.goto (-23), 3) := by decide +kernel
theorem dX12_read_36 : decode cX12_read 36 = .ok (.aload_n 0, 1) := by decide +kernel
theorem dX12_read_37 : decode cX12_read 37 = .ok (.iconst 0, 1) := by decide +kernel
theorem dX12_read_38 : decode cX12_read 38 = .ok (.putfield 216, 3) := by decide +kernel
theorem dX12_read_41 : decode cX12_read 41 = .ok (.aload_n 0, 1) := by decide +kernel
theorem dX12_read_42 : decode cX12_read 42 = .ok (.invokevirtual 278, 3) := by decide +kernel
theorem dX12_read_45 : decode cX12_read 45 = .ok (.aload_n 0, 1) := by decide +kernel
theorem dX12_read_46 : decode cX12_read 46 = .ok (.iconst 0, 1) := by decide +kernel
theorem dX12_read_47 : decode cX12_read 47 = .ok (.putfield 257, 3) := by decide +kernel
theorem dX12_read_50 : decode cX12_read 50 = .ok (.aload_n 0, 1) := by decide +kernel
theorem dX12_read_51 : decode cX12_read 51 = .ok (.iconst 0, 1) := by decide +kernel
theorem dX12_read_52 : decode cX12_read 52 = .ok (.putfield 281, 3) := by decide +kernel
theorem dX12_read_55 : decode cX12_read 55 = .ok (.aload_n 0, 1) := by decide +kernel
theorem dX12_read_56 : decode cX12_read 56 = .ok (.iconst 0, 1) := by decide +kernel
theorem dX12_read_57 : decode cX12_read 57 = .ok (.putfield 254, 3) := by decide +kernel
theorem dX12_read_60 : decode cX12_read 60 = .ok (.aload_n 0, 1) := by decide +kernel
theorem dX12_read_61 : decode cX12_read 61 = .ok (.iconst 0, 1) := by decide +kernel
theorem dX12_read_62 : decode cX12_read 62 = .ok (.putfield 263, 3) := by decide +kernel
theorem dX12_read_65 : decode cX12_read 65 = .ok (.aload_n 0, 1) := by decide +kernel
theorem dX12_read_66 : decode cX12_read 66 = .ok (.iconst 1, 1) := by decide +kernel
theorem dX12_read_67 : decode cX12_read 67 = .ok (.aload_n 0, 1) := by decide +kernel
theorem dX12_read_68 : decode cX12_read 68 = .ok (.getfield 284, 3) := by decide +kernel
theorem dX12_read_71 : decode cX12_read 71 = .ok (.isub, 1) := by decide +kernel
theorem dX12_read_72 : decode cX12_read 72 = .ok (.putfield 287, 3) := by decide +kernel
theorem dX12_read_75 : decode cX12_read 75 = .ok (.aload_n 0, 1) := by decide +kernel
theorem dX12_read_76 : decode cX12_read 76 = .ok (.iconst 0, 1) := by decide +kernel
theorem dX12_read_77 : decode cX12_read 77 = .ok (.putfield 290, 3) := by decide +kernel
theorem dX12_read_80 : decode cX12_read 80 = .ok (.aload_n 0, 1) := by decide +kernel
theorem dX12_read_81 : decode cX12_read 81 = .ok (.getfield 49, 3) := by decide +kernel
theorem dX12_read_84 : decode cX12_read 84 = .ok (.aload_n 0, 1) := by decide +kernel
theorem dX12_read_85 : decode cX12_read 85 = .ok (.getfield 287, 3) := by decide +kernel
theorem dX12_read_88 : decode cX12_read 88 = .ok (.iconst 0, 1) := by decide +kernel
theorem dX12_read_89 : decode cX12_read 89 = .ok (.iastore, 1) := by decide +kernel
theorem dX12_read_90 : decode cX12_read 90 = .ok (.aload_n 0, 1) := by decide +kernel
theorem dX12_read_91 : decode cX12_read 91 = .ok (.getfield 55, 3) := by decide +kernel
theorem dX12_read_94 : decode cX12_read 94 = .ok (.aload_n 0, 1) := by decide +kernel
theorem dX12_read_95 : decode cX12_read 95 = .ok (.getfield 287, 3) := by decide +kernel
theorem dX12_read_98 : decode cX12_read 98 = .ok (.iconst 0, 1) := by decide +kernel
theorem dX12_read_99 : decode cX12_read 99 = .ok (.iastore, 1) := by decide +kernel
theorem dX12_read_100 : decode cX12_read 100 = .ok (.aload_n 0, 1) := by decide +kernel
theorem dX12_read_101 : decode cX12_read 101 = .ok (.getfield 58, 3) := by decide +kernel
theorem dX12_read_104 : decode cX12_read 104 = .ok (.aload_n 0, 1) := by decide +kernel
theorem dX12_read_105 : decode cX12_read 105 = .ok (.getfield 287, 3) := by decide +kernel
theorem dX12_read_108 : decode cX12_read 108 = .ok (.iconst 0, 1) := by decide +kernel
theorem dX12_read_109 : decode cX12_read 109 = .ok (.iastore, 1) := by decide +kernel
theorem dX12_read_110 : decode cX12_read 110 = .ok (.aload_n 0, 1) := by decide +kernel
theorem dX12_read_111 : decode cX12_read 111 = .ok (.getfield 67, 3) := by decide +kernel
theorem dX12_read_114 : decode cX12_read 114 = .ok (.aload_n 0, 1) := by decide +kernel
theorem dX12_read_115 : decode cX12_read 115 = .ok (.getfield 287, 3) := by decide +kernel
theorem dX12_read_118 : decode cX12_read 118 = .ok (.iconst 0, 1) := by decide +kernel
theorem dX12_read_119 : decode cX12_read 119 = .ok (.iastore, 1) := by decide +kernel
theorem dX12_read_120 : decode cX12_read 120 = .ok (.aload_n 0, 1) := by decide +kernel
theorem dX12_read_121 : decode cX12_read 121 = .ok (.getfield 91, 3) := by decide +kernel
theorem dX12_read_124 : decode cX12_read 124 = .ok (.aload_n 0, 1) := by decide +kernel
theorem dX12_read_125 : decode cX12_read 125 = .ok (.getfield 287, 3) := by decide +kernel
theorem dX12_read_128 : decode cX12_read 128 = .ok (.bipush 10, 2) := by decide +kernel
theorem dX12_read_130 : decode cX12_read 130 = .ok (.iastore, 1) := by decide +kernel
theorem dX12_read_131 : decode cX12_read 131 = .ok (.iconst 0, 1) := by decide +kernel
theorem dX12_read_132 : decode cX12_read 132 = .ok (.istore_n 1, 1) := by decide +kernel
theorem dX12_read_133 : decode cX12_read 133 = .ok (.iload_n 1, 1) := by decide +kernel
theorem dX12_read_134 : decode cX12_read 134 = .ok (.iconst 3, 1) := by decide +kernel
theorem dX12_read_135 : decode cX12_read 135 = .ok (.if_icmp .ge 23, 3) := by decide +kernel
theorem dX12_read_138 : decode cX12_read 138 = .ok (.aload_n 0, 1) := by decide +kernel
theorem dX12_read_139 : decode cX12_read 139 = .ok (.getfield 94, 3) := by decide +kernel
theorem dX12_read_142 : decode cX12_read 142 = .ok (.iconst 3, 1) := by decide +kernel
theorem dX12_read_143 : decode cX12_read 143 = .ok (.aload_n 0, 1) := by decide +kernel
theorem dX12_read_144 : decode cX12_read 144 = .ok (.getfield 287, 3) := by decide +kernel
theorem dX12_read_147 : decode cX12_read 147 = .ok (.imul, 1) := by decide +kernel
theorem dX12_read_148 : decode cX12_read 148 = .ok (.iload_n 1, 1) := by decide +kernel
theorem dX12_read_149 : decode cX12_read 149 = .ok (.iadd, 1) := by decide +kernel
theorem dX12_read_150 : decode cX12_read 150 = .ok (.iconst 0, 1) := by decide +kernel
theorem dX12_read_151 : decode cX12_read 151 = .ok (.bastore, 1) := by decide +kernel
theorem dX12_read_152 : decode cX12_read 152 = .ok (.iinc 1 1, 3) := by decide +kernel
theorem dX12_read_155 : decode cX12_read 155 = .ok (.goto (-22), 3) := by decide +kernel
theorem dX12_read_158 : decode cX12_read 158 = .ok (.aload_n 0, 1) := by decide +kernel
theorem dX12_read_159 : decode cX12_read 159 = .ok (.sipush 150, 3) := by decide +kernel
theorem dX12_read_162 : decode cX12_read 162 = .ok (.aload_n 0, 1) := by decide +kernel
theorem dX12_read_163 : decode cX12_read 163 = .ok (.getfield 287, 3) := by decide +kernel
theorem dX12_read_166 : decode cX12_read 166 = .ok (.imul, 1) := by decide +kernel
theorem dX12_read_167 : decode cX12_read 167 = .ok (.putfield 293, 3) := by decide +kernel
theorem dX12_read_170 : decode cX12_read 170 = .ok (.aload_n 0, 1) := by decide +kernel
theorem dX12_read_171 : decode cX12_read 171 = .ok (.sipush 420, 3) := by decide +kernel
theorem dX12_read_174 : decode cX12_read 174 = .ok (.aload_n 0, 1) := by decide +kernel
theorem dX12_read_175 : decode cX12_read 175 = .ok (.getfield 287, 3) := by decide +kernel
theorem dX12_read_178 : decode cX12_read 178 = .ok (.imul, 1) := by decide +kernel
theorem dX12_read_179 : decode cX12_read 179 = .ok (.putfield 296, 3) := by decide +kernel
theorem dX12_read_182 : decode cX12_read 182 = .ok (.aload_n 0, 1) := by decide +kernel
theorem dX12_read_183 : decode cX12_read 183 = .ok (.getfield 254, 3) := by decide +kernel
theorem dX12_read_186 : decode cX12_read 186 = .ok (.ifCond .ne 18, 3) := by decide +kernel
theorem dX12_read_189 : decode cX12_read 189 = .ok (.aload_n 0, 1) := by decide +kernel
theorem dX12_read_190 : decode cX12_read 190 = .ok (.iconst 0, 1) := by decide +kernel
theorem dX12_read_191 : decode cX12_read 191 = .ok (.invokevirtual 272, 3) := by decide +kernel
theorem dX12_read_194 : decode cX12_read 194 = .ok (.ifCond .ne 10, 3) := by decide +kernel
theorem dX12_read_197 : decode cX12_read 197 = .ok (.aload_n 0, 1) := by decide +kernel
theorem dX12_read_198 : decode cX12_read 198 = .ok (.invokevirtual 299, 3) := by decide +kernel
theorem dX12_read_201 : decode cX12_read 201 = .ok (.goto (-19), 3) := by decide +kernel
theorem dX12_read_204 : decode cX12_read 204 = .ok (.aload_n 0, 1) := by decide +kernel
theorem dX12_read_205 : decode cX12_read 205 = .ok (.getfield 254, 3) := by decide +kernel
theorem dX12_read_208 : decode cX12_read 208 = .ok (.ifCond .ne 7, 3) := by decide +kernel
theorem dX12_read_211 : decode cX12_read 211 = .ok (.aload_n 0, 1) := by decide +kernel
theorem dX12_read_212 : decode cX12_read 212 = .ok (.invokevirtual 302, 3) := by decide +kernel
theorem dX12_read_215 : decode cX12_read 215 = .ok (.aload_n 0, 1) := by decide +kernel
theorem dX12_read_216 : decode cX12_read 216 = .ok (.aload_n 0, 1) := by decide +kernel
theorem dX12_read_217 : decode cX12_read 217 = .ok (.getfield 254, 3) := by decide +kernel
theorem dX12_read_220 : decode cX12_read 220 = .ok (.ifCond .le 10, 3) := by decide +kernel
theorem dX12_read_223 : decode cX12_read 223 = .ok (.aload_n 0, 1) := by decide +kernel
theorem dX12_read_224 : decode cX12_read 224 = .ok (.getfield 260, 3) := by decide +kernel
theorem dX12_read_227 : decode cX12_read 227 = .ok (.goto 18, 3) := by decide +kernel
theorem dX12_read_230 : decode cX12_read 230 = .ok (.aload_n 0, 1) := by decide +kernel
theorem dX12_read_231 : decode cX12_read 231 = .ok (.getfield 263, 3) := by decide +kernel
theorem dX12_read_234 : decode cX12_read 234 = .ok (.ifCond .le 10, 3) := by decide +kernel
theorem dX12_read_237 : decode cX12_read 237 = .ok (.aload_n 0, 1) := by decide +kernel
theorem dX12_read_238 : decode cX12_read 238 = .ok (.getfield 266, 3) := by decide +kernel
theorem dX12_read_241 : decode cX12_read 241 = .ok (.goto 4, 3) := by decide +kernel
theorem dX12_read_244 : decode cX12_read 244 = .ok (.iconst (-1), 1) := by decide +kernel
theorem dX12_read_245 : decode cX12_read 245 = .ok (.putfield 37, 3) := by decide +kernel
theorem dX12_read_248 : decode cX12_read 248 = .ok (.aload_n 0, 1) := by decide +kernel
theorem dX12_read_249 : decode cX12_read 249 = .ok (.getfield 254, 3) := by decide +kernel
theorem dX12_read_252 : decode cX12_read 252 = .ok (.ifCond .le 8, 3) := by decide +kernel
theorem dX12_read_255 : decode cX12_read 255 = .ok (.aload_n 0, 1) := by decide +kernel
theorem dX12_read_256 : decode cX12_read 256 = .ok (.getfield 254, 3) := by decide +kernel
theorem dX12_read_259 : decode cX12_read 259 = .ok (.ireturn, 1) := by decide +kernel
theorem dX12_read_260 : decode cX12_read 260 = .ok (.aload_n 0, 1) := by decide +kernel
theorem dX12_read_261 : decode cX12_read 261 = .ok (.getfield 263, 3) := by decide +kernel
theorem dX12_read_264 : decode cX12_read 264 = .ok (.ifCond .le 8, 3) := by decide +kernel
theorem dX12_read_267 : decode cX12_read 267 = .ok (.aload_n 0, 1) := by decide +kernel
theorem dX12_read_268 : decode cX12_read 268 = .ok (.getfield 263, 3) := by decide +kernel
theorem dX12_read_271 : decode cX12_read 271 = .ok (.ireturn, 1) := by decide +kernel
theorem dX12_read_272 : decode cX12_read 272 = .ok (.aload_n 0, 1) := by decide +kernel
theorem dX12_read_273 : decode cX12_read 273 = .ok (.aload_n 0, 1) := by decide +kernel
theorem dX12_read_274 : decode cX12_read 274 = .ok (.getfield 287, 3) := by decide +kernel
theorem dX12_read_277 : decode cX12_read 277 = .ok (.putfield 284, 3) := by decide +kernel
theorem dX12_read_280 : decode cX12_read 280 = .ok (.aload_n 0, 1) := by decide +kernel
theorem dX12_read_281 : decode cX12_read 281 = .ok (.iconst 0, 1) := by decide +kernel
theorem dX12_read_282 : decode cX12_read 282 = .ok (.putfield 305, 3) := by decide +kernel
theorem dX12_read_285 : decode cX12_read 285 = .ok (.iconst 0, 1) := by decide +kernel
theorem dX12_read_286 : decode cX12_read 286 = .ok (.istore_n 1, 1) := by decide +kernel
theorem dX12_read_287 : decode cX12_read 287 = .ok (.iload_n 1, 1) := by decide +kernel
theorem dX12_read_288 : decode cX12_read 288 = .ok (.iconst 3, 1) := by decide +kernel
theorem dX12_read_289 : decode cX12_read 289 = .ok (.if_icmp .ge 16, 3) := by decide +kernel
theorem dX12_read_292 : decode cX12_read 292 = .ok (.aload_n 0, 1) := by decide +kernel
theorem dX12_read_293 : decode cX12_read 293 = .ok (.getfield 197, 3) := by decide +kernel
theorem dX12_read_296 : decode cX12_read 296 = .ok (.iload_n 1, 1) := by decide +kernel
theorem dX12_read_297 : decode cX12_read 297 = .ok (.iconst (-1), 1) := by decide +kernel
theorem dX12_read_298 : decode cX12_read 298 = .ok (.iastore, 1) := by decide +kernel
theorem dX12_read_299 : decode cX12_read 299 = .ok (.iinc 1 1, 3) := by decide +kernel
theorem dX12_read_302 : decode cX12_read 302 = .ok (.goto (-15), 3) := by decide +kernel
theorem dX12_read_305 : decode cX12_read 305 = .ok (.iconst 0, 1) := by decide +kernel
theorem dX12_read_306 : decode cX12_read 306 = .ok (.ireturn, 1) := by decide +kernel
def bX12_read_287   (r287 : Int32 → Hp → Option (Int32 × Hp)) (x1 : Int32) (h : Hp) : Option (Int32 × Hp) := (if 3 ≤ x1 then some (0, h) else ck (inb x1 3) (lt (wI h 60 (ix x1) (-1)) (fun h1 => lt (x1 + 1) (fun v2 => r287 v2 h1))))
def lX12_read_287   : Nat → Int32 → Hp → Option (Int32 × Hp)
  | 0 => fun _ _ => none
  | n + 1 => bX12_read_287   (lX12_read_287   n)
set_option maxRecDepth 20000 in
theorem BX12_read_287 {Z : ZT} {G : GT} {r : Int32} {hr : Hp} (X : CX Z G cX12_read RX12 2 8) (E : RX Z G (some .int) (some (.int r)) hr) (hz : HZM Z)  (r287 : Int32 → Hp → Option (Int32 × Hp)) (hr287 : ∀ (x1 : Int32) (h : Hp), r287 x1 h = some (r, hr) → J Z G 2 h 287 [(0, .ref (Z.2.1 0)), (1, .int x1)] []) (x1 : Int32) (h : Hp) (hF : bX12_read_287   r287 x1 h = some (r, hr)) : J Z G 2 h 287 [(0, .ref (Z.2.1 0)), (1, .int x1)] [] := by
  unfold bX12_read_287 at hF
  refine j_iload_n (pc := 287) 1 X dX12_read_287 rfl ?_
  refine j_iconst (pc := 288) 3 X dX12_read_288 rfl ?_
  refine j_icmp_ge (pc := 289) 305 X dX12_read_289 rfl hF (fun hF => ?_) (fun hF => ?_)
  · refine j_iconst (pc := 305) 0 X dX12_read_305 rfl ?_
    exact j_iret (pc := 306) X E dX12_read_306 hF
  · refine j_aload_n (pc := 292) 0 X dX12_read_292 rfl ?_
    refine j_getr (pc := 293) X dX12_read_293 (hz _ sh_0) fl_X12_197 rfl ?_
    refine j_iload_n (pc := 296) 1 X dX12_read_296 rfl ?_
    refine j_iconst (pc := 297) (-1) X dX12_read_297 rfl ?_
    refine j_iast (pc := 298) X dX12_read_298 (hz _ sh_60) hF (fun h1 hF => ?_)
    refine j_iinc (pc := 299) 1 (x1 + 1) (fun y => [(1, .int y), (0, .ref (Z.2.1 0))]) X dX12_read_299 rfl rfl (by decide) (fun _ => rfl) hF (fun v2 hF => ?_)
    refine j_goto (pc := 302) 287 X dX12_read_302 rfl ?_
    refine j_lv [(0, .ref (Z.2.1 0)), (1, .int v2)] [1, 0] rfl ?_
    exact hr287 v2 h1 hF
theorem LX12_read_287 {Z : ZT} {G : GT} {r : Int32} {hr : Hp} (X : CX Z G cX12_read RX12 2 8) (E : RX Z G (some .int) (some (.int r)) hr) (hz : HZM Z)  : ∀ (n : Nat) (x1 : Int32) (h : Hp), lX12_read_287   n x1 h = some (r, hr) → J Z G 2 h 287 [(0, .ref (Z.2.1 0)), (1, .int x1)] [] := by
  intro n
  induction n with
  | zero => intro x1 h hF; cases hF
  | succ n ih => intro x1 h hF; exact BX12_read_287 X E hz  (lX12_read_287   n) ih x1 h hF
def bX12_read_245   (s0 : Int32) (h : Hp) : Option (Int32 × Hp) := lt (wI h 0 17 s0) (fun h1 => (if (h1.1 0 13) ≤ 0 then (if (h1.1 0 15) ≤ 0 then lt (wI h1 0 18 (h1.1 0 19)) (fun h2 => lt (wI h2 0 59 0) (fun h3 => lt 0 (fun v4 => lX12_read_287 FU v4 h3))) else some ((h1.1 0 15), h1)) else some ((h1.1 0 13), h1)))
set_option maxRecDepth 20000 in
theorem BX12_read_245 {Z : ZT} {G : GT} {r : Int32} {hr : Hp} (X : CX Z G cX12_read RX12 2 8) (E : RX Z G (some .int) (some (.int r)) hr) (hz : HZM Z)  (s0 : Int32) (h : Hp) (hF : bX12_read_245   s0 h = some (r, hr)) : J Z G 2 h 245 [(0, .ref (Z.2.1 0))] [.int s0, .ref (Z.2.1 0)] := by
  unfold bX12_read_245 at hF
  refine j_puti (pc := 245) X dX12_read_245 (hz _ sh_0) fp_X12_37 rfl hF (fun h1 hF => ?_)
  refine j_aload_n (pc := 248) 0 X dX12_read_248 rfl ?_
  refine j_geti (pc := 249) X dX12_read_249 (hz _ sh_0) fl_X12_254 rfl ?_
  refine j_if_le (pc := 252) 260 X dX12_read_252 rfl hF (fun hF => ?_) (fun hF => ?_)
  · refine j_aload_n (pc := 260) 0 X dX12_read_260 rfl ?_
    refine j_geti (pc := 261) X dX12_read_261 (hz _ sh_0) fl_X12_263 rfl ?_
    refine j_if_le (pc := 264) 272 X dX12_read_264 rfl hF (fun hF => ?_) (fun hF => ?_)
    · refine j_aload_n (pc := 272) 0 X dX12_read_272 rfl ?_
      refine j_aload_n (pc := 273) 0 X dX12_read_273 rfl ?_
      refine j_geti (pc := 274) X dX12_read_274 (hz _ sh_0) fl_X12_287 rfl ?_
      refine j_puti (pc := 277) X dX12_read_277 (hz _ sh_0) fp_X12_284 rfl hF (fun h2 hF => ?_)
      refine j_aload_n (pc := 280) 0 X dX12_read_280 rfl ?_
      refine j_iconst (pc := 281) 0 X dX12_read_281 rfl ?_
      refine j_puti (pc := 282) X dX12_read_282 (hz _ sh_0) fp_X12_305 rfl hF (fun h3 hF => ?_)
      refine j_iconst (pc := 285) 0 X dX12_read_285 rfl ?_
      refine j_istore_n (pc := 286) (fun y => [(1, .int y), (0, .ref (Z.2.1 0))]) X dX12_read_286 (by decide) (fun _ => rfl) hF (fun v4 hF => ?_)
      refine j_lv [(0, .ref (Z.2.1 0)), (1, .int v4)] [1, 0] rfl ?_
      exact LX12_read_287 X E hz FU v4 h3 hF
    · refine j_aload_n (pc := 267) 0 X dX12_read_267 rfl ?_
      refine j_geti (pc := 268) X dX12_read_268 (hz _ sh_0) fl_X12_263 rfl ?_
      exact j_iret (pc := 271) X E dX12_read_271 hF
  · refine j_aload_n (pc := 255) 0 X dX12_read_255 rfl ?_
    refine j_geti (pc := 256) X dX12_read_256 (hz _ sh_0) fl_X12_254 rfl ?_
    exact j_iret (pc := 259) X E dX12_read_259 hF
def bX12_read_215    (h : Hp) : Option (Int32 × Hp) := (if (h.1 0 13) ≤ 0 then (if (h.1 0 15) ≤ 0 then bX12_read_245 (-1) h else bX12_read_245 (h.1 0 16) h) else bX12_read_245 (h.1 0 14) h)
set_option maxRecDepth 20000 in
theorem BX12_read_215 {Z : ZT} {G : GT} {r : Int32} {hr : Hp} (X : CX Z G cX12_read RX12 2 8) (E : RX Z G (some .int) (some (.int r)) hr) (hz : HZM Z)   (h : Hp) (hF : bX12_read_215    h = some (r, hr)) : J Z G 2 h 215 [(0, .ref (Z.2.1 0))] [] := by
  unfold bX12_read_215 at hF
  refine j_aload_n (pc := 215) 0 X dX12_read_215 rfl ?_
  refine j_aload_n (pc := 216) 0 X dX12_read_216 rfl ?_
  refine j_geti (pc := 217) X dX12_read_217 (hz _ sh_0) fl_X12_254 rfl ?_
  refine j_if_le (pc := 220) 230 X dX12_read_220 rfl hF (fun hF => ?_) (fun hF => ?_)
  · refine j_aload_n (pc := 230) 0 X dX12_read_230 rfl ?_
    refine j_geti (pc := 231) X dX12_read_231 (hz _ sh_0) fl_X12_263 rfl ?_
    refine j_if_le (pc := 234) 244 X dX12_read_234 rfl hF (fun hF => ?_) (fun hF => ?_)
    · refine j_iconst (pc := 244) (-1) X dX12_read_244 rfl ?_
      exact BX12_read_245 X E hz (-1) h hF
    · refine j_aload_n (pc := 237) 0 X dX12_read_237 rfl ?_
      refine j_geti (pc := 238) X dX12_read_238 (hz _ sh_0) fl_X12_266 rfl ?_
      refine j_goto (pc := 241) 245 X dX12_read_241 rfl ?_
      exact BX12_read_245 X E hz (h.1 0 16) h hF
  · refine j_aload_n (pc := 223) 0 X dX12_read_223 rfl ?_
    refine j_geti (pc := 224) X dX12_read_224 (hz _ sh_0) fl_X12_260 rfl ?_
    refine j_goto (pc := 227) 245 X dX12_read_227 rfl ?_
    exact BX12_read_245 X E hz (h.1 0 14) h hF
def bX12_read_204    (h : Hp) : Option (Int32 × Hp) := (if (h.1 0 13) = 0 then bv (fX12_findsRead h) (fun h1 => bX12_read_215 h1) else bX12_read_215 h)
set_option maxRecDepth 20000 in
theorem BX12_read_204 {Z : ZT} {G : GT} {r : Int32} {hr : Hp} (X : CX Z G cX12_read RX12 2 8) (E : RX Z G (some .int) (some (.int r)) hr) (hz : HZM Z)   (h : Hp) (hF : bX12_read_204    h = some (r, hr)) : J Z G 2 h 204 [(0, .ref (Z.2.1 0))] [] := by
  unfold bX12_read_204 at hF
  refine j_aload_n (pc := 204) 0 X dX12_read_204 rfl ?_
  refine j_geti (pc := 205) X dX12_read_205 (hz _ sh_0) fl_X12_254 rfl ?_
  refine j_if_ne (pc := 208) 215 X dX12_read_208 rfl hF (fun hF => ?_) (fun hF => ?_)
  · exact BX12_read_215 X E hz h hF
  · refine j_aload_n (pc := 211) 0 X dX12_read_211 rfl ?_
    refine j_cVv (pc := 212) (As := []) (rest := []) X dX12_read_212 ml_X12_302 ck_X12_findsRead cv_X12_findsRead (hz _ sh_0) rfl (Nat.le_of_ble_eq_true rfl) rfl (Nat.le_of_ble_eq_true rfl) rfl hF (tX12_findsRead Z hz h) (fun h1 hF => ?_)
    exact BX12_read_215 X E hz h1 hF
def bX12_read_182   (r182 : Hp → Option (Int32 × Hp))  (h : Hp) : Option (Int32 × Hp) := (if (h.1 0 13) = 0 then bi (fX12_is 0 h) (fun w2 h1 => (if w2 = 0 then bv (fX12_tell h1) (fun h3 => r182 h3) else bX12_read_204 h1)) else bX12_read_204 h)
def lX12_read_182   : Nat → Hp → Option (Int32 × Hp)
  | 0 => fun  _ => none
  | n + 1 => bX12_read_182   (lX12_read_182   n)
set_option maxRecDepth 20000 in
theorem BX12_read_182 {Z : ZT} {G : GT} {r : Int32} {hr : Hp} (X : CX Z G cX12_read RX12 2 8) (E : RX Z G (some .int) (some (.int r)) hr) (hz : HZM Z)  (r182 : Hp → Option (Int32 × Hp)) (hr182 : ∀  (h : Hp), r182  h = some (r, hr) → J Z G 2 h 182 [(0, .ref (Z.2.1 0))] [])  (h : Hp) (hF : bX12_read_182   r182  h = some (r, hr)) : J Z G 2 h 182 [(0, .ref (Z.2.1 0))] [] := by
  unfold bX12_read_182 at hF
  refine j_aload_n (pc := 182) 0 X dX12_read_182 rfl ?_
  refine j_geti (pc := 183) X dX12_read_183 (hz _ sh_0) fl_X12_254 rfl ?_
  refine j_if_ne (pc := 186) 204 X dX12_read_186 rfl hF (fun hF => ?_) (fun hF => ?_)
  · exact BX12_read_204 X E hz h hF
  · refine j_aload_n (pc := 189) 0 X dX12_read_189 rfl ?_
    refine j_iconst (pc := 190) 0 X dX12_read_190 rfl ?_
    refine j_cVi (pc := 191) (As := [.int 0]) (rest := []) X dX12_read_191 ml_X12_272 ck_X12_is cv_X12_is (hz _ sh_0) rfl (Nat.le_of_ble_eq_true rfl) rfl (Nat.le_of_ble_eq_true rfl) rfl hF (tX12_is Z 0 hz h) (fun w2 h1 hF => ?_)
    refine j_if_ne (pc := 194) 204 X dX12_read_194 rfl hF (fun hF => ?_) (fun hF => ?_)
    · exact BX12_read_204 X E hz h1 hF
    · refine j_aload_n (pc := 197) 0 X dX12_read_197 rfl ?_
      refine j_cVv (pc := 198) (As := []) (rest := []) X dX12_read_198 ml_X12_299 ck_X12_tell cv_X12_tell (hz _ sh_0) rfl (Nat.le_of_ble_eq_true rfl) rfl (Nat.le_of_ble_eq_true rfl) rfl hF (tX12_tell Z hz h1) (fun h3 hF => ?_)
      refine j_goto (pc := 201) 182 X dX12_read_201 rfl ?_
      exact hr182 h3 hF
theorem LX12_read_182 {Z : ZT} {G : GT} {r : Int32} {hr : Hp} (X : CX Z G cX12_read RX12 2 8) (E : RX Z G (some .int) (some (.int r)) hr) (hz : HZM Z)  : ∀ (n : Nat)  (h : Hp), lX12_read_182   n  h = some (r, hr) → J Z G 2 h 182 [(0, .ref (Z.2.1 0))] [] := by
  intro n
  induction n with
  | zero => intro  h hF; cases hF
  | succ n ih => intro  h hF; exact BX12_read_182 X E hz  (lX12_read_182   n) ih  h hF
def bX12_read_133   (r133 : Int32 → Hp → Option (Int32 × Hp)) (x1 : Int32) (h : Hp) : Option (Int32 × Hp) := (if 3 ≤ x1 then lt (wI h 0 42 ((150 : Int32) * (h.1 0 19))) (fun h1 => lt (wI h1 0 49 ((420 : Int32) * (h1.1 0 19))) (fun h2 => lX12_read_182 FU h2)) else ck (inb (((3 : Int32) * (h.1 0 19)) + x1) 6) (lt (wI h 26 (ix (((3 : Int32) * (h.1 0 19)) + x1)) (vp_nar .boolean 0)) (fun h3 => lt (x1 + 1) (fun v4 => r133 v4 h3))))
def lX12_read_133   : Nat → Int32 → Hp → Option (Int32 × Hp)
  | 0 => fun _ _ => none
  | n + 1 => bX12_read_133   (lX12_read_133   n)
set_option maxRecDepth 20000 in
theorem BX12_read_133 {Z : ZT} {G : GT} {r : Int32} {hr : Hp} (X : CX Z G cX12_read RX12 2 8) (E : RX Z G (some .int) (some (.int r)) hr) (hz : HZM Z)  (r133 : Int32 → Hp → Option (Int32 × Hp)) (hr133 : ∀ (x1 : Int32) (h : Hp), r133 x1 h = some (r, hr) → J Z G 2 h 133 [(0, .ref (Z.2.1 0)), (1, .int x1)] []) (x1 : Int32) (h : Hp) (hF : bX12_read_133   r133 x1 h = some (r, hr)) : J Z G 2 h 133 [(0, .ref (Z.2.1 0)), (1, .int x1)] [] := by
  unfold bX12_read_133 at hF
  refine j_iload_n (pc := 133) 1 X dX12_read_133 rfl ?_
  refine j_iconst (pc := 134) 3 X dX12_read_134 rfl ?_
  refine j_icmp_ge (pc := 135) 158 X dX12_read_135 rfl hF (fun hF => ?_) (fun hF => ?_)
  · refine j_aload_n (pc := 158) 0 X dX12_read_158 rfl ?_
    refine j_sipush (pc := 159) 150 X dX12_read_159 rfl ?_
    refine j_aload_n (pc := 162) 0 X dX12_read_162 rfl ?_
    refine j_geti (pc := 163) X dX12_read_163 (hz _ sh_0) fl_X12_287 rfl ?_
    refine j_imul (pc := 166) X dX12_read_166 ?_
    refine j_puti (pc := 167) X dX12_read_167 (hz _ sh_0) fp_X12_293 rfl hF (fun h1 hF => ?_)
    refine j_aload_n (pc := 170) 0 X dX12_read_170 rfl ?_
    refine j_sipush (pc := 171) 420 X dX12_read_171 rfl ?_
    refine j_aload_n (pc := 174) 0 X dX12_read_174 rfl ?_
    refine j_geti (pc := 175) X dX12_read_175 (hz _ sh_0) fl_X12_287 rfl ?_
    refine j_imul (pc := 178) X dX12_read_178 ?_
    refine j_puti (pc := 179) X dX12_read_179 (hz _ sh_0) fp_X12_296 rfl hF (fun h2 hF => ?_)
    refine j_lv [(0, .ref (Z.2.1 0))] [0] rfl ?_
    exact LX12_read_182 X E hz FU h2 hF
  · refine j_aload_n (pc := 138) 0 X dX12_read_138 rfl ?_
    refine j_getr (pc := 139) X dX12_read_139 (hz _ sh_0) fl_X12_94 rfl ?_
    refine j_iconst (pc := 142) 3 X dX12_read_142 rfl ?_
    refine j_aload_n (pc := 143) 0 X dX12_read_143 rfl ?_
    refine j_geti (pc := 144) X dX12_read_144 (hz _ sh_0) fl_X12_287 rfl ?_
    refine j_imul (pc := 147) X dX12_read_147 ?_
    refine j_iload_n (pc := 148) 1 X dX12_read_148 rfl ?_
    refine j_iadd (pc := 149) X dX12_read_149 ?_
    refine j_iconst (pc := 150) 0 X dX12_read_150 rfl ?_
    refine j_zast (pc := 151) X dX12_read_151 (hz _ sh_26) hF (fun h3 hF => ?_)
    refine j_iinc (pc := 152) 1 (x1 + 1) (fun y => [(1, .int y), (0, .ref (Z.2.1 0))]) X dX12_read_152 rfl rfl (by decide) (fun _ => rfl) hF (fun v4 hF => ?_)
    refine j_goto (pc := 155) 133 X dX12_read_155 rfl ?_
    refine j_lv [(0, .ref (Z.2.1 0)), (1, .int v4)] [1, 0] rfl ?_
    exact hr133 v4 h3 hF
theorem LX12_read_133 {Z : ZT} {G : GT} {r : Int32} {hr : Hp} (X : CX Z G cX12_read RX12 2 8) (E : RX Z G (some .int) (some (.int r)) hr) (hz : HZM Z)  : ∀ (n : Nat) (x1 : Int32) (h : Hp), lX12_read_133   n x1 h = some (r, hr) → J Z G 2 h 133 [(0, .ref (Z.2.1 0)), (1, .int x1)] [] := by
  intro n
  induction n with
  | zero => intro x1 h hF; cases hF
  | succ n ih => intro x1 h hF; exact BX12_read_133 X E hz  (lX12_read_133   n) ih x1 h hF
def bX12_read_10   (r10 : Int32 → Hp → Option (Int32 × Hp)) (x1 : Int32) (h : Hp) : Option (Int32 × Hp) := (if (h.1 0 4) ≤ x1 then lt (wI h 0 2 0) (fun h1 => bv (fX12_cut h1) (fun h2 => lt (wI h2 0 11 0) (fun h3 => lt (wI h3 0 12 0) (fun h4 => lt (wI h4 0 13 0) (fun h5 => lt (wI h5 0 15 0) (fun h6 => lt (wI h6 0 19 ((1 : Int32) - (h6.1 0 18))) (fun h7 => lt (wI h7 0 20 0) (fun h8 => ck (inb (h8.1 0 19) 2) (lt (wI h8 11 (ix (h8.1 0 19)) 0) (fun h9 => ck (inb (h9.1 0 19) 2) (lt (wI h9 13 (ix (h9.1 0 19)) 0) (fun h10 => ck (inb (h10.1 0 19) 2) (lt (wI h10 14 (ix (h10.1 0 19)) 0) (fun h11 => ck (inb (h11.1 0 19) 2) (lt (wI h11 17 (ix (h11.1 0 19)) 0) (fun h12 => ck (inb (h12.1 0 19) 2) (lt (wI h12 25 (ix (h12.1 0 19)) 10) (fun h13 => lt 0 (fun v14 => lX12_read_133 FU v14 h13))))))))))))))))))) else ck (inb x1 2000) (ck (inb x1 2000) (lt (wI h 2 (ix x1) (vp_nar .byte (h.1 1 (ix x1)))) (fun h15 => lt (x1 + 1) (fun v16 => r10 v16 h15)))))
def lX12_read_10   : Nat → Int32 → Hp → Option (Int32 × Hp)
  | 0 => fun _ _ => none
  | n + 1 => bX12_read_10   (lX12_read_10   n)
set_option maxRecDepth 20000 in
theorem BX12_read_10 {Z : ZT} {G : GT} {r : Int32} {hr : Hp} (X : CX Z G cX12_read RX12 2 8) (E : RX Z G (some .int) (some (.int r)) hr) (hz : HZM Z)  (r10 : Int32 → Hp → Option (Int32 × Hp)) (hr10 : ∀ (x1 : Int32) (h : Hp), r10 x1 h = some (r, hr) → J Z G 2 h 10 [(0, .ref (Z.2.1 0)), (1, .int x1)] []) (x1 : Int32) (h : Hp) (hF : bX12_read_10   r10 x1 h = some (r, hr)) : J Z G 2 h 10 [(0, .ref (Z.2.1 0)), (1, .int x1)] [] := by
  unfold bX12_read_10 at hF
  refine j_iload_n (pc := 10) 1 X dX12_read_10 rfl ?_
  refine j_aload_n (pc := 11) 0 X dX12_read_11 rfl ?_
  refine j_geti (pc := 12) X dX12_read_12 (hz _ sh_0) fl_X12_223 rfl ?_
  refine j_icmp_ge (pc := 15) 36 X dX12_read_15 rfl hF (fun hF => ?_) (fun hF => ?_)
  · refine j_aload_n (pc := 36) 0 X dX12_read_36 rfl ?_
    refine j_iconst (pc := 37) 0 X dX12_read_37 rfl ?_
    refine j_puti (pc := 38) X dX12_read_38 (hz _ sh_0) fp_X12_216 rfl hF (fun h1 hF => ?_)
    refine j_aload_n (pc := 41) 0 X dX12_read_41 rfl ?_
    refine j_cVv (pc := 42) (As := []) (rest := []) X dX12_read_42 ml_X12_278 ck_X12_cut cv_X12_cut (hz _ sh_0) rfl (Nat.le_of_ble_eq_true rfl) rfl (Nat.le_of_ble_eq_true rfl) rfl hF (tX12_cut Z hz h1) (fun h2 hF => ?_)
    refine j_aload_n (pc := 45) 0 X dX12_read_45 rfl ?_
    refine j_iconst (pc := 46) 0 X dX12_read_46 rfl ?_
    refine j_puti (pc := 47) X dX12_read_47 (hz _ sh_0) fp_X12_257 rfl hF (fun h3 hF => ?_)
    refine j_aload_n (pc := 50) 0 X dX12_read_50 rfl ?_
    refine j_iconst (pc := 51) 0 X dX12_read_51 rfl ?_
    refine j_puti (pc := 52) X dX12_read_52 (hz _ sh_0) fp_X12_281 rfl hF (fun h4 hF => ?_)
    refine j_aload_n (pc := 55) 0 X dX12_read_55 rfl ?_
    refine j_iconst (pc := 56) 0 X dX12_read_56 rfl ?_
    refine j_puti (pc := 57) X dX12_read_57 (hz _ sh_0) fp_X12_254 rfl hF (fun h5 hF => ?_)
    refine j_aload_n (pc := 60) 0 X dX12_read_60 rfl ?_
    refine j_iconst (pc := 61) 0 X dX12_read_61 rfl ?_
    refine j_puti (pc := 62) X dX12_read_62 (hz _ sh_0) fp_X12_263 rfl hF (fun h6 hF => ?_)
    refine j_aload_n (pc := 65) 0 X dX12_read_65 rfl ?_
    refine j_iconst (pc := 66) 1 X dX12_read_66 rfl ?_
    refine j_aload_n (pc := 67) 0 X dX12_read_67 rfl ?_
    refine j_geti (pc := 68) X dX12_read_68 (hz _ sh_0) fl_X12_284 rfl ?_
    refine j_isub (pc := 71) X dX12_read_71 ?_
    refine j_puti (pc := 72) X dX12_read_72 (hz _ sh_0) fp_X12_287 rfl hF (fun h7 hF => ?_)
    refine j_aload_n (pc := 75) 0 X dX12_read_75 rfl ?_
    refine j_iconst (pc := 76) 0 X dX12_read_76 rfl ?_
    refine j_puti (pc := 77) X dX12_read_77 (hz _ sh_0) fp_X12_290 rfl hF (fun h8 hF => ?_)
    refine j_aload_n (pc := 80) 0 X dX12_read_80 rfl ?_
    refine j_getr (pc := 81) X dX12_read_81 (hz _ sh_0) fl_X12_49 rfl ?_
    refine j_aload_n (pc := 84) 0 X dX12_read_84 rfl ?_
    refine j_geti (pc := 85) X dX12_read_85 (hz _ sh_0) fl_X12_287 rfl ?_
    refine j_iconst (pc := 88) 0 X dX12_read_88 rfl ?_
    refine j_iast (pc := 89) X dX12_read_89 (hz _ sh_11) hF (fun h9 hF => ?_)
    refine j_aload_n (pc := 90) 0 X dX12_read_90 rfl ?_
    refine j_getr (pc := 91) X dX12_read_91 (hz _ sh_0) fl_X12_55 rfl ?_
    refine j_aload_n (pc := 94) 0 X dX12_read_94 rfl ?_
    refine j_geti (pc := 95) X dX12_read_95 (hz _ sh_0) fl_X12_287 rfl ?_
    refine j_iconst (pc := 98) 0 X dX12_read_98 rfl ?_
    refine j_iast (pc := 99) X dX12_read_99 (hz _ sh_13) hF (fun h10 hF => ?_)
    refine j_aload_n (pc := 100) 0 X dX12_read_100 rfl ?_
    refine j_getr (pc := 101) X dX12_read_101 (hz _ sh_0) fl_X12_58 rfl ?_
    refine j_aload_n (pc := 104) 0 X dX12_read_104 rfl ?_
    refine j_geti (pc := 105) X dX12_read_105 (hz _ sh_0) fl_X12_287 rfl ?_
    refine j_iconst (pc := 108) 0 X dX12_read_108 rfl ?_
    refine j_iast (pc := 109) X dX12_read_109 (hz _ sh_14) hF (fun h11 hF => ?_)
    refine j_aload_n (pc := 110) 0 X dX12_read_110 rfl ?_
    refine j_getr (pc := 111) X dX12_read_111 (hz _ sh_0) fl_X12_67 rfl ?_
    refine j_aload_n (pc := 114) 0 X dX12_read_114 rfl ?_
    refine j_geti (pc := 115) X dX12_read_115 (hz _ sh_0) fl_X12_287 rfl ?_
    refine j_iconst (pc := 118) 0 X dX12_read_118 rfl ?_
    refine j_iast (pc := 119) X dX12_read_119 (hz _ sh_17) hF (fun h12 hF => ?_)
    refine j_aload_n (pc := 120) 0 X dX12_read_120 rfl ?_
    refine j_getr (pc := 121) X dX12_read_121 (hz _ sh_0) fl_X12_91 rfl ?_
    refine j_aload_n (pc := 124) 0 X dX12_read_124 rfl ?_
    refine j_geti (pc := 125) X dX12_read_125 (hz _ sh_0) fl_X12_287 rfl ?_
    refine j_bipush (pc := 128) 10 X dX12_read_128 rfl ?_
    refine j_iast (pc := 130) X dX12_read_130 (hz _ sh_25) hF (fun h13 hF => ?_)
    refine j_iconst (pc := 131) 0 X dX12_read_131 rfl ?_
    refine j_istore_n (pc := 132) (fun y => [(1, .int y), (0, .ref (Z.2.1 0))]) X dX12_read_132 (by decide) (fun _ => rfl) hF (fun v14 hF => ?_)
    refine j_lv [(0, .ref (Z.2.1 0)), (1, .int v14)] [1, 0] rfl ?_
    exact LX12_read_133 X E hz FU v14 h13 hF
  · refine j_aload_n (pc := 18) 0 X dX12_read_18 rfl ?_
    refine j_getr (pc := 19) X dX12_read_19 (hz _ sh_0) fl_X12_17 rfl ?_
    refine j_iload_n (pc := 22) 1 X dX12_read_22 rfl ?_
    refine j_aload_n (pc := 23) 0 X dX12_read_23 rfl ?_
    refine j_getr (pc := 24) X dX12_read_24 (hz _ sh_0) fl_X12_13 rfl ?_
    refine j_iload_n (pc := 27) 1 X dX12_read_27 rfl ?_
    refine j_bald (pc := 28) X dX12_read_28 (hz _ sh_1) hF (fun hF => ?_)
    refine j_bast (pc := 29) X dX12_read_29 (hz _ sh_2) hF (fun h15 hF => ?_)
    refine j_iinc (pc := 30) 1 (x1 + 1) (fun y => [(1, .int y), (0, .ref (Z.2.1 0))]) X dX12_read_30 rfl rfl (by decide) (fun _ => rfl) hF (fun v16 hF => ?_)
    refine j_goto (pc := 33) 10 X dX12_read_33 rfl ?_
    refine j_lv [(0, .ref (Z.2.1 0)), (1, .int v16)] [1, 0] rfl ?_
    exact hr10 v16 h15 hF
theorem LX12_read_10 {Z : ZT} {G : GT} {r : Int32} {hr : Hp} (X : CX Z G cX12_read RX12 2 8) (E : RX Z G (some .int) (some (.int r)) hr) (hz : HZM Z)  : ∀ (n : Nat) (x1 : Int32) (h : Hp), lX12_read_10   n x1 h = some (r, hr) → J Z G 2 h 10 [(0, .ref (Z.2.1 0)), (1, .int x1)] [] := by
  intro n
  induction n with
  | zero => intro x1 h hF; cases hF
  | succ n ih => intro x1 h hF; exact BX12_read_10 X E hz  (lX12_read_10   n) ih x1 h hF
def fX12_read  (h : Hp) : Option (Int32 × Hp) := lt (wI h 0 4 (h.1 0 2)) (fun h1 => lt 0 (fun v2 => lX12_read_10 FU v2 h1))
set_option maxRecDepth 20000 in
theorem tX12_read (Z : ZT)  (hz : HZM Z) (h : Hp) (r : Int32) (hr : Hp) (hF : fX12_read  h = some (r, hr)) : MC Z yX12_read cX12_read 2 (some .int) 8 [.ref (Z.2.1 0)] h (some (.int r)) hr := by
  unfold fX12_read at hF
  refine mc_start (by decide) (Nat.le_of_ble_eq_true rfl) (fun G X E => ?_)
  refine j_aload_n (pc := 0) 0 X dX12_read_0 rfl ?_
  refine j_aload_n (pc := 1) 0 X dX12_read_1 rfl ?_
  refine j_geti (pc := 2) X dX12_read_2 (hz _ sh_0) fl_X12_216 rfl ?_
  refine j_puti (pc := 5) X dX12_read_5 (hz _ sh_0) fp_X12_223 rfl hF (fun h1 hF => ?_)
  refine j_iconst (pc := 8) 0 X dX12_read_8 rfl ?_
  refine j_istore_n (pc := 9) (fun y => [(1, .int y), (0, .ref (Z.2.1 0))]) X dX12_read_9 (by decide) (fun _ => rfl) hF (fun v2 hF => ?_)
  refine j_lv [(0, .ref (Z.2.1 0)), (1, .int v2)] [1, 0] rfl ?_
  exact LX12_read_10 X E hz FU v2 h1 hF
theorem dX12_place_0 : decode cX12_place 0 = .ok (.aload_n 0, 1) := by decide +kernel
theorem dX12_place_1 : decode cX12_place 1 = .ok (.getfield 37, 3) := by decide +kernel
theorem dX12_place_4 : decode cX12_place 4 = .ok (.ireturn, 1) := by decide +kernel
def fX12_place  (h : Hp) : Option (Int32 × Hp) := some ((h.1 0 17), h)
set_option maxRecDepth 20000 in
theorem tX12_place (Z : ZT)  (hz : HZM Z) (h : Hp) (r : Int32) (hr : Hp) (hF : fX12_place  h = some (r, hr)) : MC Z yX12_place cX12_place 1 (some .int) 0 [.ref (Z.2.1 0)] h (some (.int r)) hr := by
  unfold fX12_place at hF
  refine mc_start (by decide) (Nat.le_of_ble_eq_true rfl) (fun G X E => ?_)
  refine j_aload_n (pc := 0) 0 X dX12_place_0 rfl ?_
  refine j_geti (pc := 1) X dX12_place_1 (hz _ sh_0) fl_X12_37 rfl ?_
  exact j_iret (pc := 4) X E dX12_place_4 hF
theorem dX12_termOf_0 : decode cX12_termOf 0 = .ok (.iconst 0, 1) := by decide +kernel
theorem dX12_termOf_1 : decode cX12_termOf 1 = .ok (.istore_n 3, 1) := by decide +kernel
theorem dX12_termOf_2 : decode cX12_termOf 2 = .ok (.aload_n 0, 1) := by decide +kernel
theorem dX12_termOf_3 : decode cX12_termOf 3 = .ok (.iconst 0, 1) := by decide +kernel
theorem dX12_termOf_4 : decode cX12_termOf 4 = .ok (.putfield 367, 3) := by decide +kernel
theorem dX12_termOf_7 : decode cX12_termOf 7 = .ok (.iload_n 1, 1) := by decide +kernel
theorem dX12_termOf_8 : decode cX12_termOf 8 = .ok (.istore 4, 2) := by decide +kernel
theorem dX12_termOf_10 : decode cX12_termOf 10 = .ok (.iload 4, 2) := by decide +kernel
theorem dX12_termOf_12 : decode cX12_termOf 12 = .ok (.iload_n 2, 1) := by decide +kernel
theorem dX12_termOf_13 : decode cX12_termOf 13 = .ok (.if_icmp .ge 157, 3) := by decide +kernel
theorem dX12_termOf_16 : decode cX12_termOf 16 = .ok (.aload_n 0, 1) := by decide +kernel
theorem dX12_termOf_17 : decode cX12_termOf 17 = .ok (.getfield 122, 3) := by decide +kernel
theorem dX12_termOf_20 : decode cX12_termOf 20 = .ok (.iload 4, 2) := by decide +kernel
theorem dX12_termOf_22 : decode cX12_termOf 22 = .ok (.iaload, 1) := by decide +kernel
theorem dX12_termOf_23 : decode cX12_termOf 23 = .ok (.istore 5, 2) := by decide +kernel
theorem dX12_termOf_25 : decode cX12_termOf 25 = .ok (.iload 5, 2) := by decide +kernel
theorem dX12_termOf_27 : decode cX12_termOf 27 = .ok (.iconst 2, 1) := by decide +kernel
theorem dX12_termOf_28 : decode cX12_termOf 28 = .ok (.if_icmp .ge 42, 3) := by decide +kernel
theorem dX12_termOf_31 : decode cX12_termOf 31 = .ok (.aload_n 0, 1) := by decide +kernel
theorem dX12_termOf_32 : decode cX12_termOf 32 = .ok (.getfield 134, 3) := by decide +kernel
theorem dX12_termOf_35 : decode cX12_termOf 35 = .ok (.iload_n 3, 1) := by decide +kernel
theorem dX12_termOf_36 : decode cX12_termOf 36 = .ok (.iload 5, 2) := by decide +kernel
theorem dX12_termOf_38 : decode cX12_termOf 38 = .ok (.ifCond .ne 13, 3) := by decide +kernel
theorem dX12_termOf_41 : decode cX12_termOf 41 = .ok (.aload_n 0, 1) := by decide +kernel
theorem dX12_termOf_42 : decode cX12_termOf 42 = .ok (.getfield 125, 3) := by decide +kernel
theorem dX12_termOf_45 : decode cX12_termOf 45 = .ok (.iload 4, 2) := by decide +kernel
theorem dX12_termOf_47 : decode cX12_termOf 47 = .ok (.iaload, 1) := by decide +kernel
theorem dX12_termOf_48 : decode cX12_termOf 48 = .ok (.goto 15, 3) := by decide +kernel
theorem dX12_termOf_51 : decode cX12_termOf 51 = .ok (.aload_n 0, 1) := by decide +kernel
theorem dX12_termOf_52 : decode cX12_termOf 52 = .ok (.getfield 131, 3) := by decide +kernel
theorem dX12_termOf_55 : decode cX12_termOf 55 = .ok (.aload_n 0, 1) := by decide +kernel
theorem dX12_termOf_56 : decode cX12_termOf 56 = .ok (.getfield 125, 3) := by decide +kernel
theorem dX12_termOf_59 : decode cX12_termOf 59 = .ok (.iload 4, 2) := by decide +kernel
theorem dX12_termOf_61 : decode cX12_termOf 61 = .ok (.iaload, 1) := by decide +kernel
theorem dX12_termOf_62 : decode cX12_termOf 62 = .ok (.iaload, 1) := by decide +kernel
theorem dX12_termOf_63 : decode cX12_termOf 63 = .ok (.iastore, 1) := by decide +kernel
theorem dX12_termOf_64 : decode cX12_termOf 64 = .ok (.iinc 3 1, 3) := by decide +kernel
theorem dX12_termOf_67 : decode cX12_termOf 67 = .ok (.goto 97, 3) := by decide +kernel
theorem dX12_termOf_70 : decode cX12_termOf 70 = .ok (.iinc 3 (-1), 3) := by decide +kernel
theorem dX12_termOf_73 : decode cX12_termOf 73 = .ok (.aload_n 0, 1) := by decide +kernel
theorem dX12_termOf_74 : decode cX12_termOf 74 = .ok (.getfield 134, 3) := by decide +kernel
theorem dX12_termOf_77 : decode cX12_termOf 77 = .ok (.iload_n 3, 1) := by decide +kernel
theorem dX12_termOf_78 : decode cX12_termOf 78 = .ok (.iconst 1, 1) := by decide +kernel
theorem dX12_termOf_79 : decode cX12_termOf 79 = .ok (.isub, 1) := by decide +kernel
theorem dX12_termOf_80 : decode cX12_termOf 80 = .ok (.iaload, 1) := by decide +kernel
theorem dX12_termOf_81 : decode cX12_termOf 81 = .ok (.istore 6, 2) := by decide +kernel
theorem dX12_termOf_83 : decode cX12_termOf 83 = .ok (.aload_n 0, 1) := by decide +kernel
theorem dX12_termOf_84 : decode cX12_termOf 84 = .ok (.getfield 134, 3) := by decide +kernel
theorem dX12_termOf_87 : decode cX12_termOf 87 = .ok (.iload_n 3, 1) := by decide +kernel
theorem dX12_termOf_88 : decode cX12_termOf 88 = .ok (.iaload, 1) := by decide +kernel
theorem dX12_termOf_89 : decode cX12_termOf 89 = .ok (.istore 7, 2) := by decide +kernel
theorem dX12_termOf_91 : decode cX12_termOf 91 = .ok (.iload 5, 2) := by decide +kernel
theorem dX12_termOf_93 : decode cX12_termOf 93 = .ok (.iconst 5, 1) := by decide +kernel
theorem dX12_termOf_94 : decode cX12_termOf 94 = .ok (.if_icmp .ne 15, 3) := by decide +kernel
theorem dX12_termOf_97 : decode cX12_termOf 97 = .ok (.iload 7, 2) := by decide +kernel
theorem dX12_termOf_99 : decode cX12_termOf 99 = .ok (.ifCond .ne 10, 3) := by decide +kernel
theorem dX12_termOf_102 : decode cX12_termOf 102 = .ok (.aload_n 0, 1) := by decide +kernel
theorem dX12_termOf_103 : decode cX12_termOf 103 = .ok (.iconst 1, 1) := by decide +kernel
theorem dX12_termOf_104 : decode cX12_termOf 104 = .ok (.putfield 367, 3) := by decide +kernel
theorem dX12_termOf_107 : decode cX12_termOf 107 = .ok (.iconst 0, 1) := by decide +kernel
theorem dX12_termOf_108 : decode cX12_termOf 108 = .ok (.ireturn, 1) := by decide +kernel
theorem dX12_termOf_109 : decode cX12_termOf 109 = .ok (.aload_n 0, 1) := by decide +kernel
theorem dX12_termOf_110 : decode cX12_termOf 110 = .ok (.getfield 134, 3) := by decide +kernel
theorem dX12_termOf_113 : decode cX12_termOf 113 = .ok (.iload_n 3, 1) := by decide +kernel
theorem dX12_termOf_114 : decode cX12_termOf 114 = .ok (.iconst 1, 1) := by decide +kernel
theorem dX12_termOf_115 : decode cX12_termOf 115 = .ok (.isub, 1) := by decide +kernel
theorem dX12_termOf_116 : decode cX12_termOf 116 = .ok (.iload 5, 2) := by decide +kernel
theorem dX12_termOf_118 : decode cX12_termOf 118 = .ok (.iconst 2, 1) := by decide +kernel
theorem dX12_termOf_119 : decode cX12_termOf 119 = .ok (.if_icmp .ne 11, 3) := by decide +kernel
theorem dX12_termOf_122 : decode cX12_termOf 122 = .ok (.iload 6, 2) := by decide +kernel
theorem dX12_termOf_124 : decode cX12_termOf 124 = .ok (.iload 7, 2) := by decide +kernel
theorem dX12_termOf_126 : decode cX12_termOf 126 = .ok (.iadd, 1) := by decide +kernel
theorem dX12_termOf_127 : decode cX12_termOf 127 = .ok (.goto 36, 3) := by decide +kernel
theorem dX12_termOf_130 : decode cX12_termOf 130 = .ok (.iload 5, 2) := by decide +kernel
theorem dX12_termOf_132 : decode cX12_termOf 132 = .ok (.iconst 3, 1) := by decide +kernel
theorem dX12_termOf_133 : decode cX12_termOf 133 = .ok (.if_icmp .ne 11, 3) := by decide +kernel
theorem dX12_termOf_136 : decode cX12_termOf 136 = .ok (.iload 6, 2) := by decide +kernel
theorem dX12_termOf_138 : decode cX12_termOf 138 = .ok (.iload 7, 2) := by decide +kernel
theorem dX12_termOf_140 : decode cX12_termOf 140 = .ok (.isub, 1) := by decide +kernel
theorem dX12_termOf_141 : decode cX12_termOf 141 = .ok (.goto 22, 3) := by decide +kernel
theorem dX12_termOf_144 : decode cX12_termOf 144 = .ok (.iload 5, 2) := by decide +kernel
theorem dX12_termOf_146 : decode cX12_termOf 146 = .ok (.iconst 4, 1) := by decide +kernel
theorem dX12_termOf_147 : decode cX12_termOf 147 = .ok (.if_icmp .ne 11, 3) := by decide +kernel
theorem dX12_termOf_150 : decode cX12_termOf 150 = .ok (.iload 6, 2) := by decide +kernel
theorem dX12_termOf_152 : decode cX12_termOf 152 = .ok (.iload 7, 2) := by decide +kernel
theorem dX12_termOf_154 : decode cX12_termOf 154 = .ok (.imul, 1) := by decide +kernel
theorem dX12_termOf_155 : decode cX12_termOf 155 = .ok (.goto 8, 3) := by decide +kernel
theorem dX12_termOf_158 : decode cX12_termOf 158 = .ok (.iload 6, 2) := by decide +kernel
theorem dX12_termOf_160 : decode cX12_termOf 160 = .ok (.iload 7, 2) := by decide +kernel
theorem dX12_termOf_162 : decode cX12_termOf 162 = .ok (.idiv, 1) := by decide +kernel
theorem dX12_termOf_163 : decode cX12_termOf 163 = .ok (.iastore, 1) := by decide +kernel
theorem dX12_termOf_164 : decode cX12_termOf 164 = .ok (.iinc 4 1, 3) := by decide +kernel
theorem dX12_termOf_167 : decode cX12_termOf 167 = .ok (.goto (-157), 3) := by decide +kernel
theorem dX12_termOf_170 : decode cX12_termOf 170 = .ok (.aload_n 0, 1) := by decide +kernel
theorem dX12_termOf_171 : decode cX12_termOf 171 = .ok (.getfield 134, 3) := by decide +kernel
theorem dX12_termOf_174 : decode cX12_termOf 174 = .ok (.iconst 0, 1) := by decide +kernel
theorem dX12_termOf_175 : decode cX12_termOf 175 = .ok (.iaload, 1) := by decide +kernel
theorem dX12_termOf_176 : decode cX12_termOf 176 = .ok (.ireturn, 1) := by decide +kernel
def bX12_termOf_164  (r10 : Int32 → Int32 → Int32 → Hp → Option (Int32 × Hp)) (x2 : Int32) (x3 : Int32) (x4 : Int32) (h : Hp) : Option (Int32 × Hp) := lt (x4 + 1) (fun v1 => r10 x2 x3 v1 h)
set_option maxRecDepth 20000 in
theorem BX12_termOf_164 {Z : ZT} {G : GT} {r : Int32} {hr : Hp} (X : CX Z G cX12_termOf RX12 8 0) (E : RX Z G (some .int) (some (.int r)) hr) (hz : HZM Z) (r10 : Int32 → Int32 → Int32 → Hp → Option (Int32 × Hp)) (hr10 : ∀ (x2 : Int32) (x3 : Int32) (x4 : Int32) (h : Hp), r10 x2 x3 x4 h = some (r, hr) → J Z G 8 h 10 [(0, .ref (Z.2.1 0)), (2, .int x2), (3, .int x3), (4, .int x4)] []) (x2 : Int32) (x3 : Int32) (x4 : Int32) (h : Hp) (hF : bX12_termOf_164  r10 x2 x3 x4 h = some (r, hr)) : J Z G 8 h 164 [(0, .ref (Z.2.1 0)), (2, .int x2), (3, .int x3), (4, .int x4)] [] := by
  unfold bX12_termOf_164 at hF
  refine j_iinc (pc := 164) 3 (x4 + 1) (fun y => [(4, .int y), (0, .ref (Z.2.1 0)), (2, .int x2), (3, .int x3)]) X dX12_termOf_164 rfl rfl (by decide) (fun _ => rfl) hF (fun v1 hF => ?_)
  refine j_goto (pc := 167) 10 X dX12_termOf_167 rfl ?_
  refine j_lv [(0, .ref (Z.2.1 0)), (2, .int x2), (3, .int x3), (4, .int v1)] [1, 2, 3, 0] rfl ?_
  exact hr10 x2 x3 v1 h hF
def bX12_termOf_63  (r10 : Int32 → Int32 → Int32 → Hp → Option (Int32 × Hp)) (x2 : Int32) (x3 : Int32) (x4 : Int32) (s0 : Int32) (s1 : Int32) (h : Hp) : Option (Int32 × Hp) := ck (inb s1 400) (lt (wI h 39 (ix s1) s0) (fun h1 => lt (x3 + 1) (fun v2 => bX12_termOf_164 r10 x2 v2 x4 h1)))
set_option maxRecDepth 20000 in
theorem BX12_termOf_63 {Z : ZT} {G : GT} {r : Int32} {hr : Hp} (X : CX Z G cX12_termOf RX12 8 0) (E : RX Z G (some .int) (some (.int r)) hr) (hz : HZM Z) (r10 : Int32 → Int32 → Int32 → Hp → Option (Int32 × Hp)) (hr10 : ∀ (x2 : Int32) (x3 : Int32) (x4 : Int32) (h : Hp), r10 x2 x3 x4 h = some (r, hr) → J Z G 8 h 10 [(0, .ref (Z.2.1 0)), (2, .int x2), (3, .int x3), (4, .int x4)] []) (x2 : Int32) (x3 : Int32) (x4 : Int32) (s0 : Int32) (s1 : Int32) (h : Hp) (hF : bX12_termOf_63  r10 x2 x3 x4 s0 s1 h = some (r, hr)) : J Z G 8 h 63 [(0, .ref (Z.2.1 0)), (2, .int x2), (3, .int x3), (4, .int x4)] [.int s0, .int s1, .ref (Z.2.1 39)] := by
  unfold bX12_termOf_63 at hF
  refine j_iast (pc := 63) X dX12_termOf_63 (hz _ sh_39) hF (fun h1 hF => ?_)
  refine j_iinc (pc := 64) 2 (x3 + 1) (fun y => [(3, .int y), (0, .ref (Z.2.1 0)), (2, .int x2), (4, .int x4)]) X dX12_termOf_64 rfl rfl (by decide) (fun _ => rfl) hF (fun v2 hF => ?_)
  refine j_goto (pc := 67) 164 X dX12_termOf_67 rfl ?_
  refine j_lv [(0, .ref (Z.2.1 0)), (2, .int x2), (3, .int v2), (4, .int x4)] [1, 2, 0, 3] rfl ?_
  exact BX12_termOf_164 X E hz r10 hr10 x2 v2 x4 h1 hF
def bX12_termOf_163  (r10 : Int32 → Int32 → Int32 → Hp → Option (Int32 × Hp)) (x2 : Int32) (x3 : Int32) (x4 : Int32) (s0 : Int32) (s1 : Int32) (h : Hp) : Option (Int32 × Hp) := ck (inb s1 400) (lt (wI h 39 (ix s1) s0) (fun h1 => bX12_termOf_164 r10 x2 x3 x4 h1))
set_option maxRecDepth 20000 in
theorem BX12_termOf_163 {Z : ZT} {G : GT} {r : Int32} {hr : Hp} (X : CX Z G cX12_termOf RX12 8 0) (E : RX Z G (some .int) (some (.int r)) hr) (hz : HZM Z) (r10 : Int32 → Int32 → Int32 → Hp → Option (Int32 × Hp)) (hr10 : ∀ (x2 : Int32) (x3 : Int32) (x4 : Int32) (h : Hp), r10 x2 x3 x4 h = some (r, hr) → J Z G 8 h 10 [(0, .ref (Z.2.1 0)), (2, .int x2), (3, .int x3), (4, .int x4)] []) (x2 : Int32) (x3 : Int32) (x4 : Int32) (s0 : Int32) (s1 : Int32) (h : Hp) (hF : bX12_termOf_163  r10 x2 x3 x4 s0 s1 h = some (r, hr)) : J Z G 8 h 163 [(0, .ref (Z.2.1 0)), (2, .int x2), (3, .int x3), (4, .int x4)] [.int s0, .int s1, .ref (Z.2.1 39)] := by
  unfold bX12_termOf_163 at hF
  refine j_iast (pc := 163) X dX12_termOf_163 (hz _ sh_39) hF (fun h1 hF => ?_)
  exact BX12_termOf_164 X E hz r10 hr10 x2 x3 x4 h1 hF
def bX12_termOf_109  (r10 : Int32 → Int32 → Int32 → Hp → Option (Int32 × Hp)) (x2 : Int32) (x3 : Int32) (x4 : Int32) (x5 : Int32) (x6 : Int32) (x7 : Int32) (h : Hp) : Option (Int32 × Hp) := (if x5 = 2 then bX12_termOf_163 r10 x2 x3 x4 (x6 + x7) (x3 - 1) h else (if x5 = 3 then bX12_termOf_163 r10 x2 x3 x4 (x6 - x7) (x3 - 1) h else (if x5 = 4 then bX12_termOf_163 r10 x2 x3 x4 (x6 * x7) (x3 - 1) h else ck (nz x7) (bX12_termOf_163 r10 x2 x3 x4 (x6 / x7) (x3 - 1) h))))
set_option maxRecDepth 20000 in
theorem BX12_termOf_109 {Z : ZT} {G : GT} {r : Int32} {hr : Hp} (X : CX Z G cX12_termOf RX12 8 0) (E : RX Z G (some .int) (some (.int r)) hr) (hz : HZM Z) (r10 : Int32 → Int32 → Int32 → Hp → Option (Int32 × Hp)) (hr10 : ∀ (x2 : Int32) (x3 : Int32) (x4 : Int32) (h : Hp), r10 x2 x3 x4 h = some (r, hr) → J Z G 8 h 10 [(0, .ref (Z.2.1 0)), (2, .int x2), (3, .int x3), (4, .int x4)] []) (x2 : Int32) (x3 : Int32) (x4 : Int32) (x5 : Int32) (x6 : Int32) (x7 : Int32) (h : Hp) (hF : bX12_termOf_109  r10 x2 x3 x4 x5 x6 x7 h = some (r, hr)) : J Z G 8 h 109 [(0, .ref (Z.2.1 0)), (2, .int x2), (3, .int x3), (4, .int x4), (5, .int x5), (6, .int x6), (7, .int x7)] [] := by
  unfold bX12_termOf_109 at hF
  refine j_aload_n (pc := 109) 0 X dX12_termOf_109 rfl ?_
  refine j_getr (pc := 110) X dX12_termOf_110 (hz _ sh_0) fl_X12_134 rfl ?_
  refine j_iload_n (pc := 113) 2 X dX12_termOf_113 rfl ?_
  refine j_iconst (pc := 114) 1 X dX12_termOf_114 rfl ?_
  refine j_isub (pc := 115) X dX12_termOf_115 ?_
  refine j_iload (pc := 116) 4 X dX12_termOf_116 rfl ?_
  refine j_iconst (pc := 118) 2 X dX12_termOf_118 rfl ?_
  refine j_icmp_ne (pc := 119) 130 X dX12_termOf_119 rfl hF (fun hF => ?_) (fun hF => ?_)
  · refine j_iload (pc := 130) 4 X dX12_termOf_130 rfl ?_
    refine j_iconst (pc := 132) 3 X dX12_termOf_132 rfl ?_
    refine j_icmp_ne (pc := 133) 144 X dX12_termOf_133 rfl hF (fun hF => ?_) (fun hF => ?_)
    · refine j_iload (pc := 144) 4 X dX12_termOf_144 rfl ?_
      refine j_iconst (pc := 146) 4 X dX12_termOf_146 rfl ?_
      refine j_icmp_ne (pc := 147) 158 X dX12_termOf_147 rfl hF (fun hF => ?_) (fun hF => ?_)
      · refine j_iload (pc := 158) 5 X dX12_termOf_158 rfl ?_
        refine j_iload (pc := 160) 6 X dX12_termOf_160 rfl ?_
        refine j_idiv (pc := 162) X dX12_termOf_162 hF (fun hF => ?_)
        refine j_lv [(0, .ref (Z.2.1 0)), (2, .int x2), (3, .int x3), (4, .int x4)] [0, 1, 2, 3] rfl ?_
        exact BX12_termOf_163 X E hz r10 hr10 x2 x3 x4 (x6 / x7) (x3 - 1) h hF
      · refine j_iload (pc := 150) 5 X dX12_termOf_150 rfl ?_
        refine j_iload (pc := 152) 6 X dX12_termOf_152 rfl ?_
        refine j_imul (pc := 154) X dX12_termOf_154 ?_
        refine j_goto (pc := 155) 163 X dX12_termOf_155 rfl ?_
        refine j_lv [(0, .ref (Z.2.1 0)), (2, .int x2), (3, .int x3), (4, .int x4)] [0, 1, 2, 3] rfl ?_
        exact BX12_termOf_163 X E hz r10 hr10 x2 x3 x4 (x6 * x7) (x3 - 1) h hF
    · refine j_iload (pc := 136) 5 X dX12_termOf_136 rfl ?_
      refine j_iload (pc := 138) 6 X dX12_termOf_138 rfl ?_
      refine j_isub (pc := 140) X dX12_termOf_140 ?_
      refine j_goto (pc := 141) 163 X dX12_termOf_141 rfl ?_
      refine j_lv [(0, .ref (Z.2.1 0)), (2, .int x2), (3, .int x3), (4, .int x4)] [0, 1, 2, 3] rfl ?_
      exact BX12_termOf_163 X E hz r10 hr10 x2 x3 x4 (x6 - x7) (x3 - 1) h hF
  · refine j_iload (pc := 122) 5 X dX12_termOf_122 rfl ?_
    refine j_iload (pc := 124) 6 X dX12_termOf_124 rfl ?_
    refine j_iadd (pc := 126) X dX12_termOf_126 ?_
    refine j_goto (pc := 127) 163 X dX12_termOf_127 rfl ?_
    refine j_lv [(0, .ref (Z.2.1 0)), (2, .int x2), (3, .int x3), (4, .int x4)] [0, 1, 2, 3] rfl ?_
    exact BX12_termOf_163 X E hz r10 hr10 x2 x3 x4 (x6 + x7) (x3 - 1) h hF
def bX12_termOf_10   (r10 : Int32 → Int32 → Int32 → Hp → Option (Int32 × Hp)) (x2 : Int32) (x3 : Int32) (x4 : Int32) (h : Hp) : Option (Int32 × Hp) := (if x2 ≤ x4 then ck (inb 0 400) (some ((h.1 39 (ix 0)), h)) else ck (inb x4 840) (lt (h.1 35 (ix x4)) (fun v1 => (if 2 ≤ v1 then lt (x3 + (-1)) (fun v2 => ck (inb (v2 - 1) 400) (lt (h.1 39 (ix (v2 - 1))) (fun v3 => ck (inb v2 400) (lt (h.1 39 (ix v2)) (fun v4 => (if v1 = 5 then (if v4 = 0 then ck (zb 1) (lt (wI h 0 56 1) (fun h5 => some (0, h5))) else bX12_termOf_109 r10 x2 v2 x4 v1 v3 v4 h) else bX12_termOf_109 r10 x2 v2 x4 v1 v3 v4 h)))))) else (if v1 = 0 then ck (inb x4 840) (bX12_termOf_63 r10 x2 x3 x4 (h.1 36 (ix x4)) x3 h) else ck (inb x4 840) (ck (inb (h.1 36 (ix x4)) 4) (bX12_termOf_63 r10 x2 x3 x4 (h.1 38 (ix (h.1 36 (ix x4)))) x3 h)))))))
def lX12_termOf_10   : Nat → Int32 → Int32 → Int32 → Hp → Option (Int32 × Hp)
  | 0 => fun _ _ _ _ => none
  | n + 1 => bX12_termOf_10   (lX12_termOf_10   n)
set_option maxRecDepth 20000 in
theorem BX12_termOf_10 {Z : ZT} {G : GT} {r : Int32} {hr : Hp} (X : CX Z G cX12_termOf RX12 8 0) (E : RX Z G (some .int) (some (.int r)) hr) (hz : HZM Z)  (r10 : Int32 → Int32 → Int32 → Hp → Option (Int32 × Hp)) (hr10 : ∀ (x2 : Int32) (x3 : Int32) (x4 : Int32) (h : Hp), r10 x2 x3 x4 h = some (r, hr) → J Z G 8 h 10 [(0, .ref (Z.2.1 0)), (2, .int x2), (3, .int x3), (4, .int x4)] []) (x2 : Int32) (x3 : Int32) (x4 : Int32) (h : Hp) (hF : bX12_termOf_10   r10 x2 x3 x4 h = some (r, hr)) : J Z G 8 h 10 [(0, .ref (Z.2.1 0)), (2, .int x2), (3, .int x3), (4, .int x4)] [] := by
  unfold bX12_termOf_10 at hF
  refine j_iload (pc := 10) 3 X dX12_termOf_10 rfl ?_
  refine j_iload_n (pc := 12) 1 X dX12_termOf_12 rfl ?_
  refine j_icmp_ge (pc := 13) 170 X dX12_termOf_13 rfl hF (fun hF => ?_) (fun hF => ?_)
  · refine j_aload_n (pc := 170) 0 X dX12_termOf_170 rfl ?_
    refine j_getr (pc := 171) X dX12_termOf_171 (hz _ sh_0) fl_X12_134 rfl ?_
    refine j_iconst (pc := 174) 0 X dX12_termOf_174 rfl ?_
    refine j_iald (pc := 175) X dX12_termOf_175 (hz _ sh_39) hF (fun hF => ?_)
    exact j_iret (pc := 176) X E dX12_termOf_176 hF
  · refine j_aload_n (pc := 16) 0 X dX12_termOf_16 rfl ?_
    refine j_getr (pc := 17) X dX12_termOf_17 (hz _ sh_0) fl_X12_122 rfl ?_
    refine j_iload (pc := 20) 3 X dX12_termOf_20 rfl ?_
    refine j_iald (pc := 22) X dX12_termOf_22 (hz _ sh_35) hF (fun hF => ?_)
    refine j_istore (pc := 23) (fun y => [(5, .int y), (0, .ref (Z.2.1 0)), (2, .int x2), (3, .int x3), (4, .int x4)]) X dX12_termOf_23 (by decide) (fun _ => rfl) hF (fun v1 hF => ?_)
    refine j_iload (pc := 25) 0 X dX12_termOf_25 rfl ?_
    refine j_iconst (pc := 27) 2 X dX12_termOf_27 rfl ?_
    refine j_icmp_ge (pc := 28) 70 X dX12_termOf_28 rfl hF (fun hF => ?_) (fun hF => ?_)
    · refine j_iinc (pc := 70) 3 (x3 + (-1)) (fun y => [(3, .int y), (5, .int v1), (0, .ref (Z.2.1 0)), (2, .int x2), (4, .int x4)]) X dX12_termOf_70 rfl rfl (by decide) (fun _ => rfl) hF (fun v2 hF => ?_)
      refine j_aload_n (pc := 73) 2 X dX12_termOf_73 rfl ?_
      refine j_getr (pc := 74) X dX12_termOf_74 (hz _ sh_0) fl_X12_134 rfl ?_
      refine j_iload_n (pc := 77) 0 X dX12_termOf_77 rfl ?_
      refine j_iconst (pc := 78) 1 X dX12_termOf_78 rfl ?_
      refine j_isub (pc := 79) X dX12_termOf_79 ?_
      refine j_iald (pc := 80) X dX12_termOf_80 (hz _ sh_39) hF (fun hF => ?_)
      refine j_istore (pc := 81) (fun y => [(6, .int y), (3, .int v2), (5, .int v1), (0, .ref (Z.2.1 0)), (2, .int x2), (4, .int x4)]) X dX12_termOf_81 (by decide) (fun _ => rfl) hF (fun v3 hF => ?_)
      refine j_aload_n (pc := 83) 3 X dX12_termOf_83 rfl ?_
      refine j_getr (pc := 84) X dX12_termOf_84 (hz _ sh_0) fl_X12_134 rfl ?_
      refine j_iload_n (pc := 87) 1 X dX12_termOf_87 rfl ?_
      refine j_iald (pc := 88) X dX12_termOf_88 (hz _ sh_39) hF (fun hF => ?_)
      refine j_istore (pc := 89) (fun y => [(7, .int y), (6, .int v3), (3, .int v2), (5, .int v1), (0, .ref (Z.2.1 0)), (2, .int x2), (4, .int x4)]) X dX12_termOf_89 (by decide) (fun _ => rfl) hF (fun v4 hF => ?_)
      refine j_iload (pc := 91) 3 X dX12_termOf_91 rfl ?_
      refine j_iconst (pc := 93) 5 X dX12_termOf_93 rfl ?_
      refine j_icmp_ne (pc := 94) 109 X dX12_termOf_94 rfl hF (fun hF => ?_) (fun hF => ?_)
      · refine j_lv [(0, .ref (Z.2.1 0)), (2, .int x2), (3, .int v2), (4, .int x4), (5, .int v1), (6, .int v3), (7, .int v4)] [4, 5, 2, 6, 3, 1, 0] rfl ?_
        exact BX12_termOf_109 X E hz r10 hr10 x2 v2 x4 v1 v3 v4 h hF
      · refine j_iload (pc := 97) 0 X dX12_termOf_97 rfl ?_
        refine j_if_ne (pc := 99) 109 X dX12_termOf_99 rfl hF (fun hF => ?_) (fun hF => ?_)
        · refine j_lv [(0, .ref (Z.2.1 0)), (2, .int x2), (3, .int v2), (4, .int x4), (5, .int v1), (6, .int v3), (7, .int v4)] [4, 5, 2, 6, 3, 1, 0] rfl ?_
          exact BX12_termOf_109 X E hz r10 hr10 x2 v2 x4 v1 v3 v4 h hF
        · refine j_aload_n (pc := 102) 4 X dX12_termOf_102 rfl ?_
          refine j_iconst (pc := 103) 1 X dX12_termOf_103 rfl ?_
          refine j_putz (pc := 104) X dX12_termOf_104 (hz _ sh_0) fp_X12_367 rfl hF (fun h5 hF => ?_)
          refine j_iconst (pc := 107) 0 X dX12_termOf_107 rfl ?_
          exact j_iret (pc := 108) X E dX12_termOf_108 hF
    · refine j_aload_n (pc := 31) 1 X dX12_termOf_31 rfl ?_
      refine j_getr (pc := 32) X dX12_termOf_32 (hz _ sh_0) fl_X12_134 rfl ?_
      refine j_iload_n (pc := 35) 3 X dX12_termOf_35 rfl ?_
      refine j_iload (pc := 36) 0 X dX12_termOf_36 rfl ?_
      refine j_if_ne (pc := 38) 51 X dX12_termOf_38 rfl hF (fun hF => ?_) (fun hF => ?_)
      · refine j_aload_n (pc := 51) 1 X dX12_termOf_51 rfl ?_
        refine j_getr (pc := 52) X dX12_termOf_52 (hz _ sh_0) fl_X12_131 rfl ?_
        refine j_aload_n (pc := 55) 1 X dX12_termOf_55 rfl ?_
        refine j_getr (pc := 56) X dX12_termOf_56 (hz _ sh_0) fl_X12_125 rfl ?_
        refine j_iload (pc := 59) 4 X dX12_termOf_59 rfl ?_
        refine j_iald (pc := 61) X dX12_termOf_61 (hz _ sh_36) hF (fun hF => ?_)
        refine j_iald (pc := 62) X dX12_termOf_62 (hz _ sh_38) hF (fun hF => ?_)
        refine j_lv [(0, .ref (Z.2.1 0)), (2, .int x2), (3, .int x3), (4, .int x4)] [1, 2, 3, 4] rfl ?_
        exact BX12_termOf_63 X E hz r10 hr10 x2 x3 x4 (h.1 38 (ix (h.1 36 (ix x4)))) x3 h hF
      · refine j_aload_n (pc := 41) 1 X dX12_termOf_41 rfl ?_
        refine j_getr (pc := 42) X dX12_termOf_42 (hz _ sh_0) fl_X12_125 rfl ?_
        refine j_iload (pc := 45) 4 X dX12_termOf_45 rfl ?_
        refine j_iald (pc := 47) X dX12_termOf_47 (hz _ sh_36) hF (fun hF => ?_)
        refine j_goto (pc := 48) 63 X dX12_termOf_48 rfl ?_
        refine j_lv [(0, .ref (Z.2.1 0)), (2, .int x2), (3, .int x3), (4, .int x4)] [1, 2, 3, 4] rfl ?_
        exact BX12_termOf_63 X E hz r10 hr10 x2 x3 x4 (h.1 36 (ix x4)) x3 h hF
theorem LX12_termOf_10 {Z : ZT} {G : GT} {r : Int32} {hr : Hp} (X : CX Z G cX12_termOf RX12 8 0) (E : RX Z G (some .int) (some (.int r)) hr) (hz : HZM Z)  : ∀ (n : Nat) (x2 : Int32) (x3 : Int32) (x4 : Int32) (h : Hp), lX12_termOf_10   n x2 x3 x4 h = some (r, hr) → J Z G 8 h 10 [(0, .ref (Z.2.1 0)), (2, .int x2), (3, .int x3), (4, .int x4)] [] := by
  intro n
  induction n with
  | zero => intro x2 x3 x4 h hF; cases hF
  | succ n ih => intro x2 x3 x4 h hF; exact BX12_termOf_10 X E hz  (lX12_termOf_10   n) ih x2 x3 x4 h hF
def fX12_termOf (a1 : Int32) (a2 : Int32) (h : Hp) : Option (Int32 × Hp) := lt 0 (fun v1 => ck (zb 0) (lt (wI h 0 56 0) (fun h2 => lt a1 (fun v3 => lX12_termOf_10 FU a2 v1 v3 h2))))
set_option maxRecDepth 20000 in
theorem tX12_termOf (Z : ZT) (a1 : Int32) (a2 : Int32) (hz : HZM Z) (h : Hp) (r : Int32) (hr : Hp) (hF : fX12_termOf a1 a2 h = some (r, hr)) : MC Z yX12_termOf cX12_termOf 8 (some .int) 0 [.ref (Z.2.1 0), .int a1, .int a2] h (some (.int r)) hr := by
  unfold fX12_termOf at hF
  refine mc_start (by decide) (Nat.le_of_ble_eq_true rfl) (fun G X E => ?_)
  refine j_iconst (pc := 0) 0 X dX12_termOf_0 rfl ?_
  refine j_istore_n (pc := 1) (fun y => [(3, .int y), (0, .ref (Z.2.1 0)), (1, .int a1), (2, .int a2)]) X dX12_termOf_1 (by decide) (fun _ => rfl) hF (fun v1 hF => ?_)
  refine j_aload_n (pc := 2) 1 X dX12_termOf_2 rfl ?_
  refine j_iconst (pc := 3) 0 X dX12_termOf_3 rfl ?_
  refine j_putz (pc := 4) X dX12_termOf_4 (hz _ sh_0) fp_X12_367 rfl hF (fun h2 hF => ?_)
  refine j_iload_n (pc := 7) 2 X dX12_termOf_7 rfl ?_
  refine j_istore (pc := 8) (fun y => [(4, .int y), (3, .int v1), (0, .ref (Z.2.1 0)), (1, .int a1), (2, .int a2)]) X dX12_termOf_8 (by decide) (fun _ => rfl) hF (fun v3 hF => ?_)
  refine j_lv [(0, .ref (Z.2.1 0)), (2, .int a2), (3, .int v1), (4, .int v3)] [2, 4, 1, 0] rfl ?_
  exact LX12_termOf_10 X E hz FU a2 v1 v3 h2 hF
theorem dX12_isTrue_0 : decode cX12_isTrue 0 = .ok (.aload_n 0, 1) := by decide +kernel
theorem dX12_isTrue_1 : decode cX12_isTrue 1 = .ok (.getfield 104, 3) := by decide +kernel
theorem dX12_isTrue_4 : decode cX12_isTrue 4 = .ok (.iload_n 1, 1) := by decide +kernel
theorem dX12_isTrue_5 : decode cX12_isTrue 5 = .ok (.iaload, 1) := by decide +kernel
theorem dX12_isTrue_6 : decode cX12_isTrue 6 = .ok (.iconst 4, 1) := by decide +kernel
theorem dX12_isTrue_7 : decode cX12_isTrue 7 = .ok (.if_icmp .ne 40, 3) := by decide +kernel
theorem dX12_isTrue_10 : decode cX12_isTrue 10 = .ok (.aload_n 0, 1) := by decide +kernel
theorem dX12_isTrue_11 : decode cX12_isTrue 11 = .ok (.getfield 371, 3) := by decide +kernel
theorem dX12_isTrue_14 : decode cX12_isTrue 14 = .ok (.aload_n 0, 1) := by decide +kernel
theorem dX12_isTrue_15 : decode cX12_isTrue 15 = .ok (.getfield 113, 3) := by decide +kernel
theorem dX12_isTrue_18 : decode cX12_isTrue 18 = .ok (.iload_n 1, 1) := by decide +kernel
theorem dX12_isTrue_19 : decode cX12_isTrue 19 = .ok (.iaload, 1) := by decide +kernel
theorem dX12_isTrue_20 : decode cX12_isTrue 20 = .ok (.ishr, 1) := by decide +kernel
theorem dX12_isTrue_21 : decode cX12_isTrue 21 = .ok (.iconst 1, 1) := by decide +kernel
theorem dX12_isTrue_22 : decode cX12_isTrue 22 = .ok (.iand, 1) := by decide +kernel
theorem dX12_isTrue_23 : decode cX12_isTrue 23 = .ok (.iconst 1, 1) := by decide +kernel
theorem dX12_isTrue_24 : decode cX12_isTrue 24 = .ok (.if_icmp .ne 7, 3) := by decide +kernel
theorem dX12_isTrue_27 : decode cX12_isTrue 27 = .ok (.iconst 1, 1) := by decide +kernel
theorem dX12_isTrue_28 : decode cX12_isTrue 28 = .ok (.goto 4, 3) := by decide +kernel
theorem dX12_isTrue_31 : decode cX12_isTrue 31 = .ok (.iconst 0, 1) := by decide +kernel
theorem dX12_isTrue_32 : decode cX12_isTrue 32 = .ok (.aload_n 0, 1) := by decide +kernel
theorem dX12_isTrue_33 : decode cX12_isTrue 33 = .ok (.getfield 107, 3) := by decide +kernel
theorem dX12_isTrue_36 : decode cX12_isTrue 36 = .ok (.iload_n 1, 1) := by decide +kernel
theorem dX12_isTrue_37 : decode cX12_isTrue 37 = .ok (.baload, 1) := by decide +kernel
theorem dX12_isTrue_38 : decode cX12_isTrue 38 = .ok (.if_icmp .eq 7, 3) := by decide +kernel
theorem dX12_isTrue_41 : decode cX12_isTrue 41 = .ok (.iconst 1, 1) := by decide +kernel
theorem dX12_isTrue_42 : decode cX12_isTrue 42 = .ok (.goto 4, 3) := by decide +kernel
theorem dX12_isTrue_45 : decode cX12_isTrue 45 = .ok (.iconst 0, 1) := by decide +kernel
theorem dX12_isTrue_46 : decode cX12_isTrue 46 = .ok (.ireturn, 1) := by decide +kernel
theorem dX12_isTrue_47 : decode cX12_isTrue 47 = .ok (.aload_n 0, 1) := by decide +kernel
theorem dX12_isTrue_48 : decode cX12_isTrue 48 = .ok (.getfield 104, 3) := by decide +kernel
theorem dX12_isTrue_51 : decode cX12_isTrue 51 = .ok (.iload_n 1, 1) := by decide +kernel
theorem dX12_isTrue_52 : decode cX12_isTrue 52 = .ok (.iaload, 1) := by decide +kernel
theorem dX12_isTrue_53 : decode cX12_isTrue 53 = .ok (.iconst 5, 1) := by decide +kernel
theorem dX12_isTrue_54 : decode cX12_isTrue 54 = .ok (.if_icmp .ne 40, 3) := by decide +kernel
theorem dX12_isTrue_57 : decode cX12_isTrue 57 = .ok (.aload_n 0, 1) := by decide +kernel
theorem dX12_isTrue_58 : decode cX12_isTrue 58 = .ok (.getfield 374, 3) := by decide +kernel
theorem dX12_isTrue_61 : decode cX12_isTrue 61 = .ok (.aload_n 0, 1) := by decide +kernel
theorem dX12_isTrue_62 : decode cX12_isTrue 62 = .ok (.getfield 113, 3) := by decide +kernel
theorem dX12_isTrue_65 : decode cX12_isTrue 65 = .ok (.iload_n 1, 1) := by decide +kernel
theorem dX12_isTrue_66 : decode cX12_isTrue 66 = .ok (.iaload, 1) := by decide +kernel
theorem dX12_isTrue_67 : decode cX12_isTrue 67 = .ok (.ishr, 1) := by decide +kernel
theorem dX12_isTrue_68 : decode cX12_isTrue 68 = .ok (.iconst 1, 1) := by decide +kernel
theorem dX12_isTrue_69 : decode cX12_isTrue 69 = .ok (.iand, 1) := by decide +kernel
theorem dX12_isTrue_70 : decode cX12_isTrue 70 = .ok (.iconst 1, 1) := by decide +kernel
theorem dX12_isTrue_71 : decode cX12_isTrue 71 = .ok (.if_icmp .ne 7, 3) := by decide +kernel
theorem dX12_isTrue_74 : decode cX12_isTrue 74 = .ok (.iconst 1, 1) := by decide +kernel
theorem dX12_isTrue_75 : decode cX12_isTrue 75 = .ok (.goto 4, 3) := by decide +kernel
theorem dX12_isTrue_78 : decode cX12_isTrue 78 = .ok (.iconst 0, 1) := by decide +kernel
theorem dX12_isTrue_79 : decode cX12_isTrue 79 = .ok (.aload_n 0, 1) := by decide +kernel
theorem dX12_isTrue_80 : decode cX12_isTrue 80 = .ok (.getfield 107, 3) := by decide +kernel
theorem dX12_isTrue_83 : decode cX12_isTrue 83 = .ok (.iload_n 1, 1) := by decide +kernel
theorem dX12_isTrue_84 : decode cX12_isTrue 84 = .ok (.baload, 1) := by decide +kernel
theorem dX12_isTrue_85 : decode cX12_isTrue 85 = .ok (.if_icmp .eq 7, 3) := by decide +kernel
theorem dX12_isTrue_88 : decode cX12_isTrue 88 = .ok (.iconst 1, 1) := by decide +kernel
theorem dX12_isTrue_89 : decode cX12_isTrue 89 = .ok (.goto 4, 3) := by decide +kernel
theorem dX12_isTrue_92 : decode cX12_isTrue 92 = .ok (.iconst 0, 1) := by decide +kernel
theorem dX12_isTrue_93 : decode cX12_isTrue 93 = .ok (.ireturn, 1) := by decide +kernel
theorem dX12_isTrue_94 : decode cX12_isTrue 94 = .ok (.aload_n 0, 1) := by decide +kernel
theorem dX12_isTrue_95 : decode cX12_isTrue 95 = .ok (.aload_n 0, 1) := by decide +kernel
theorem dX12_isTrue_96 : decode cX12_isTrue 96 = .ok (.getfield 113, 3) := by decide +kernel
theorem dX12_isTrue_99 : decode cX12_isTrue 99 = .ok (.iload_n 1, 1) := by decide +kernel
theorem dX12_isTrue_100 : decode cX12_isTrue 100 = .ok (.iaload, 1) := by decide +kernel
theorem dX12_isTrue_101 : decode cX12_isTrue 101 = .ok (.aload_n 0, 1) := by decide +kernel
theorem dX12_isTrue_102 : decode cX12_isTrue 102 = .ok (.getfield 116, 3) := by decide +kernel
theorem dX12_isTrue_105 : decode cX12_isTrue 105 = .ok (.iload_n 1, 1) := by decide +kernel
theorem dX12_isTrue_106 : decode cX12_isTrue 106 = .ok (.iaload, 1) := by decide +kernel
theorem dX12_isTrue_107 : decode cX12_isTrue 107 = .ok (.invokevirtual 377, 3) := by decide +kernel
theorem dX12_isTrue_110 : decode cX12_isTrue 110 = .ok (.istore_n 2, 1) := by decide +kernel
theorem dX12_isTrue_111 : decode cX12_isTrue 111 = .ok (.aload_n 0, 1) := by decide +kernel
theorem dX12_isTrue_112 : decode cX12_isTrue 112 = .ok (.getfield 367, 3) := by decide +kernel
theorem dX12_isTrue_115 : decode cX12_isTrue 115 = .ok (.istore_n 3, 1) := by decide +kernel
theorem dX12_isTrue_116 : decode cX12_isTrue 116 = .ok (.aload_n 0, 1) := by decide +kernel
theorem dX12_isTrue_117 : decode cX12_isTrue 117 = .ok (.aload_n 0, 1) := by decide +kernel
theorem dX12_isTrue_118 : decode cX12_isTrue 118 = .ok (.getfield 116, 3) := by decide +kernel
theorem dX12_isTrue_121 : decode cX12_isTrue 121 = .ok (.iload_n 1, 1) := by decide +kernel
theorem dX12_isTrue_122 : decode cX12_isTrue 122 = .ok (.iaload, 1) := by decide +kernel
theorem dX12_isTrue_123 : decode cX12_isTrue 123 = .ok (.aload_n 0, 1) := by decide +kernel
theorem dX12_isTrue_124 : decode cX12_isTrue 124 = .ok (.getfield 119, 3) := by decide +kernel
theorem dX12_isTrue_127 : decode cX12_isTrue 127 = .ok (.iload_n 1, 1) := by decide +kernel
theorem dX12_isTrue_128 : decode cX12_isTrue 128 = .ok (.iaload, 1) := by decide +kernel
theorem dX12_isTrue_129 : decode cX12_isTrue 129 = .ok (.invokevirtual 377, 3) := by decide +kernel
theorem dX12_isTrue_132 : decode cX12_isTrue 132 = .ok (.istore 4, 2) := by decide +kernel
theorem dX12_isTrue_134 : decode cX12_isTrue 134 = .ok (.iload_n 3, 1) := by decide +kernel
theorem dX12_isTrue_135 : decode cX12_isTrue 135 = .ok (.ifCond .ne 10, 3) := by decide +kernel
theorem dX12_isTrue_138 : decode cX12_isTrue 138 = .ok (.aload_n 0, 1) := by decide +kernel
theorem dX12_isTrue_139 : decode cX12_isTrue 139 = .ok (.getfield 367, 3) := by decide +kernel
theorem dX12_isTrue_142 : decode cX12_isTrue 142 = .ok (.ifCond .eq 7, 3) := by decide +kernel
theorem dX12_isTrue_145 : decode cX12_isTrue 145 = .ok (.iconst 1, 1) := by decide +kernel
theorem dX12_isTrue_146 : decode cX12_isTrue 146 = .ok (.goto 4, 3) := by decide +kernel
theorem dX12_isTrue_149 : decode cX12_isTrue 149 = .ok (.iconst 0, 1) := by decide +kernel
theorem dX12_isTrue_150 : decode cX12_isTrue 150 = .ok (.istore_n 3, 1) := by decide +kernel
theorem dX12_isTrue_151 : decode cX12_isTrue 151 = .ok (.aload_n 0, 1) := by decide +kernel
theorem dX12_isTrue_152 : decode cX12_isTrue 152 = .ok (.getfield 104, 3) := by decide +kernel
theorem dX12_isTrue_155 : decode cX12_isTrue 155 = .ok (.iload_n 1, 1) := by decide +kernel
theorem dX12_isTrue_156 : decode cX12_isTrue 156 = .ok (.iaload, 1) := by decide +kernel
theorem dX12_isTrue_157 : decode cX12_isTrue 157 = .ok (.ifCond .ne 17, 3) := by decide +kernel
theorem dX12_isTrue_160 : decode cX12_isTrue 160 = .ok (.iload_n 2, 1) := by decide +kernel
theorem dX12_isTrue_161 : decode cX12_isTrue 161 = .ok (.iload 4, 2) := by decide +kernel
theorem dX12_isTrue_163 : decode cX12_isTrue 163 = .ok (.if_icmp .ne 7, 3) := by decide +kernel
theorem dX12_isTrue_166 : decode cX12_isTrue 166 = .ok (.iconst 1, 1) := by decide +kernel
theorem dX12_isTrue_167 : decode cX12_isTrue 167 = .ok (.goto 66, 3) := by decide +kernel
theorem dX12_isTrue_170 : decode cX12_isTrue 170 = .ok (.iconst 0, 1) := by decide +kernel
theorem dX12_isTrue_171 : decode cX12_isTrue 171 = .ok (.goto 62, 3) := by decide +kernel
theorem dX12_isTrue_174 : decode cX12_isTrue 174 = .ok (.aload_n 0, 1) := by decide +kernel
theorem dX12_isTrue_175 : decode cX12_isTrue 175 = .ok (.getfield 104, 3) := by decide +kernel
theorem dX12_isTrue_178 : decode cX12_isTrue 178 = .ok (.iload_n 1, 1) := by decide +kernel
theorem dX12_isTrue_179 : decode cX12_isTrue 179 = .ok (.iaload, 1) := by decide +kernel
theorem dX12_isTrue_180 : decode cX12_isTrue 180 = .ok (.iconst 1, 1) := by decide +kernel
theorem dX12_isTrue_181 : decode cX12_isTrue 181 = .ok (.if_icmp .ne 17, 3) := by decide +kernel
theorem dX12_isTrue_184 : decode cX12_isTrue 184 = .ok (.iload_n 2, 1) := by decide +kernel
theorem dX12_isTrue_185 : decode cX12_isTrue 185 = .ok (.iload 4, 2) := by decide +kernel
theorem dX12_isTrue_187 : decode cX12_isTrue 187 = .ok (.if_icmp .eq 7, 3) := by decide +kernel
theorem dX12_isTrue_190 : decode cX12_isTrue 190 = .ok (.iconst 1, 1) := by decide +kernel
theorem dX12_isTrue_191 : decode cX12_isTrue 191 = .ok (.goto 42, 3) := by decide +kernel
theorem dX12_isTrue_194 : decode cX12_isTrue 194 = .ok (.iconst 0, 1) := by decide +kernel
theorem dX12_isTrue_195 : decode cX12_isTrue 195 = .ok (.goto 38, 3) := by decide +kernel
theorem dX12_isTrue_198 : decode cX12_isTrue 198 = .ok (.aload_n 0, 1) := by decide +kernel
theorem dX12_isTrue_199 : decode cX12_isTrue 199 = .ok (.getfield 104, 3) := by decide +kernel
theorem dX12_isTrue_202 : decode cX12_isTrue 202 = .ok (.iload_n 1, 1) := by decide +kernel
theorem dX12_isTrue_203 : decode cX12_isTrue 203 = .ok (.iaload, 1) := by decide +kernel
theorem dX12_isTrue_204 : decode cX12_isTrue 204 = .ok (.iconst 2, 1) := by decide +kernel
theorem dX12_isTrue_205 : decode cX12_isTrue 205 = .ok (.if_icmp .ne 17, 3) := by decide +kernel
theorem dX12_isTrue_208 : decode cX12_isTrue 208 = .ok (.iload_n 2, 1) := by decide +kernel
theorem dX12_isTrue_209 : decode cX12_isTrue 209 = .ok (.iload 4, 2) := by decide +kernel
theorem dX12_isTrue_211 : decode cX12_isTrue 211 = .ok (.if_icmp .ge 7, 3) := by decide +kernel
theorem dX12_isTrue_214 : decode cX12_isTrue 214 = .ok (.iconst 1, 1) := by decide +kernel
theorem dX12_isTrue_215 : decode cX12_isTrue 215 = .ok (.goto 18, 3) := by decide +kernel
theorem dX12_isTrue_218 : decode cX12_isTrue 218 = .ok (.iconst 0, 1) := by decide +kernel
theorem dX12_isTrue_219 : decode cX12_isTrue 219 = .ok (.goto 14, 3) := by decide +kernel
theorem dX12_isTrue_222 : decode cX12_isTrue 222 = .ok (.iload_n 2, 1) := by decide +kernel
theorem dX12_isTrue_223 : decode cX12_isTrue 223 = .ok (.iload 4, 2) := by decide +kernel
theorem dX12_isTrue_225 : decode cX12_isTrue 225 = .ok (.if_icmp .gt 7, 3) := by decide +kernel
theorem dX12_isTrue_228 : decode cX12_isTrue 228 = .ok (.iconst 1, 1) := by decide +kernel
theorem dX12_isTrue_229 : decode cX12_isTrue 229 = .ok (.goto 4, 3) := by decide +kernel
theorem dX12_isTrue_232 : decode cX12_isTrue 232 = .ok (.iconst 0, 1) := by decide +kernel
theorem dX12_isTrue_233 : decode cX12_isTrue 233 = .ok (.istore 5, 2) := by decide +kernel
theorem dX12_isTrue_235 : decode cX12_isTrue 235 = .ok (.iload 5, 2) := by decide +kernel
theorem dX12_isTrue_237 : decode cX12_isTrue 237 = .ok (.ifCond .eq 11, 3) := by decide +kernel
theorem dX12_isTrue_240 : decode cX12_isTrue 240 = .ok (.iload_n 3, 1) := by decide +kernel
theorem dX12_isTrue_241 : decode cX12_isTrue 241 = .ok (.ifCond .ne 7, 3) := by decide +kernel
theorem dX12_isTrue_244 : decode cX12_isTrue 244 = .ok (.iconst 1, 1) := by decide +kernel
theorem dX12_isTrue_245 : decode cX12_isTrue 245 = .ok (.goto 4, 3) := by decide +kernel
theorem dX12_isTrue_248 : decode cX12_isTrue 248 = .ok (.iconst 0, 1) := by decide +kernel
theorem dX12_isTrue_249 : decode cX12_isTrue 249 = .ok (.aload_n 0, 1) := by decide +kernel
theorem dX12_isTrue_250 : decode cX12_isTrue 250 = .ok (.getfield 107, 3) := by decide +kernel
theorem dX12_isTrue_253 : decode cX12_isTrue 253 = .ok (.iload_n 1, 1) := by decide +kernel
theorem dX12_isTrue_254 : decode cX12_isTrue 254 = .ok (.baload, 1) := by decide +kernel
theorem dX12_isTrue_255 : decode cX12_isTrue 255 = .ok (.if_icmp .eq 7, 3) := by decide +kernel
theorem dX12_isTrue_258 : decode cX12_isTrue 258 = .ok (.iconst 1, 1) := by decide +kernel
theorem dX12_isTrue_259 : decode cX12_isTrue 259 = .ok (.goto 4, 3) := by decide +kernel
theorem dX12_isTrue_262 : decode cX12_isTrue 262 = .ok (.iconst 0, 1) := by decide +kernel
theorem dX12_isTrue_263 : decode cX12_isTrue 263 = .ok (.ireturn, 1) := by decide +kernel
def bX12_isTrue_32   (x1 : Int32) (s0 : Int32) (h : Hp) : Option (Int32 × Hp) := ck (inb x1 300) ((if s0 = (h.1 30 (ix x1)) then ck (zb 0) (some (0, h)) else ck (zb 1) (some (1, h))))
set_option maxRecDepth 20000 in
theorem BX12_isTrue_32 {Z : ZT} {G : GT} {r : Int32} {hr : Hp} (X : CX Z G cX12_isTrue RX12 6 1) (E : RX Z G (some .boolean) (some (.int r)) hr) (hz : HZM Z)  (x1 : Int32) (s0 : Int32) (h : Hp) (hF : bX12_isTrue_32   x1 s0 h = some (r, hr)) : J Z G 6 h 32 [(0, .ref (Z.2.1 0)), (1, .int x1)] [.int s0] := by
  unfold bX12_isTrue_32 at hF
  refine j_aload_n (pc := 32) 0 X dX12_isTrue_32 rfl ?_
  refine j_getr (pc := 33) X dX12_isTrue_33 (hz _ sh_0) fl_X12_107 rfl ?_
  refine j_iload_n (pc := 36) 1 X dX12_isTrue_36 rfl ?_
  refine j_zald (pc := 37) X dX12_isTrue_37 (hz _ sh_30) hF (fun hF => ?_)
  refine j_icmp_eq (pc := 38) 45 X dX12_isTrue_38 rfl hF (fun hF => ?_) (fun hF => ?_)
  · refine j_iconst (pc := 45) 0 X dX12_isTrue_45 rfl ?_
    exact j_zret (pc := 46) X E dX12_isTrue_46 hF
  · refine j_iconst (pc := 41) 1 X dX12_isTrue_41 rfl ?_
    refine j_goto (pc := 42) 46 X dX12_isTrue_42 rfl ?_
    exact j_zret (pc := 46) X E dX12_isTrue_46 hF
def bX12_isTrue_79   (x1 : Int32) (s0 : Int32) (h : Hp) : Option (Int32 × Hp) := ck (inb x1 300) ((if s0 = (h.1 30 (ix x1)) then ck (zb 0) (some (0, h)) else ck (zb 1) (some (1, h))))
set_option maxRecDepth 20000 in
theorem BX12_isTrue_79 {Z : ZT} {G : GT} {r : Int32} {hr : Hp} (X : CX Z G cX12_isTrue RX12 6 1) (E : RX Z G (some .boolean) (some (.int r)) hr) (hz : HZM Z)  (x1 : Int32) (s0 : Int32) (h : Hp) (hF : bX12_isTrue_79   x1 s0 h = some (r, hr)) : J Z G 6 h 79 [(0, .ref (Z.2.1 0)), (1, .int x1)] [.int s0] := by
  unfold bX12_isTrue_79 at hF
  refine j_aload_n (pc := 79) 0 X dX12_isTrue_79 rfl ?_
  refine j_getr (pc := 80) X dX12_isTrue_80 (hz _ sh_0) fl_X12_107 rfl ?_
  refine j_iload_n (pc := 83) 1 X dX12_isTrue_83 rfl ?_
  refine j_zald (pc := 84) X dX12_isTrue_84 (hz _ sh_30) hF (fun hF => ?_)
  refine j_icmp_eq (pc := 85) 92 X dX12_isTrue_85 rfl hF (fun hF => ?_) (fun hF => ?_)
  · refine j_iconst (pc := 92) 0 X dX12_isTrue_92 rfl ?_
    exact j_zret (pc := 93) X E dX12_isTrue_93 hF
  · refine j_iconst (pc := 88) 1 X dX12_isTrue_88 rfl ?_
    refine j_goto (pc := 89) 93 X dX12_isTrue_89 rfl ?_
    exact j_zret (pc := 93) X E dX12_isTrue_93 hF
def bX12_isTrue_249   (x1 : Int32) (s0 : Int32) (h : Hp) : Option (Int32 × Hp) := ck (inb x1 300) ((if s0 = (h.1 30 (ix x1)) then ck (zb 0) (some (0, h)) else ck (zb 1) (some (1, h))))
set_option maxRecDepth 20000 in
theorem BX12_isTrue_249 {Z : ZT} {G : GT} {r : Int32} {hr : Hp} (X : CX Z G cX12_isTrue RX12 6 1) (E : RX Z G (some .boolean) (some (.int r)) hr) (hz : HZM Z)  (x1 : Int32) (s0 : Int32) (h : Hp) (hF : bX12_isTrue_249   x1 s0 h = some (r, hr)) : J Z G 6 h 249 [(0, .ref (Z.2.1 0)), (1, .int x1)] [.int s0] := by
  unfold bX12_isTrue_249 at hF
  refine j_aload_n (pc := 249) 0 X dX12_isTrue_249 rfl ?_
  refine j_getr (pc := 250) X dX12_isTrue_250 (hz _ sh_0) fl_X12_107 rfl ?_
  refine j_iload_n (pc := 253) 1 X dX12_isTrue_253 rfl ?_
  refine j_zald (pc := 254) X dX12_isTrue_254 (hz _ sh_30) hF (fun hF => ?_)
  refine j_icmp_eq (pc := 255) 262 X dX12_isTrue_255 rfl hF (fun hF => ?_) (fun hF => ?_)
  · refine j_iconst (pc := 262) 0 X dX12_isTrue_262 rfl ?_
    exact j_zret (pc := 263) X E dX12_isTrue_263 hF
  · refine j_iconst (pc := 258) 1 X dX12_isTrue_258 rfl ?_
    refine j_goto (pc := 259) 263 X dX12_isTrue_259 rfl ?_
    exact j_zret (pc := 263) X E dX12_isTrue_263 hF
def bX12_isTrue_248   (x1 : Int32) (h : Hp) : Option (Int32 × Hp) := bX12_isTrue_249 x1 0 h
set_option maxRecDepth 20000 in
theorem BX12_isTrue_248 {Z : ZT} {G : GT} {r : Int32} {hr : Hp} (X : CX Z G cX12_isTrue RX12 6 1) (E : RX Z G (some .boolean) (some (.int r)) hr) (hz : HZM Z)  (x1 : Int32) (h : Hp) (hF : bX12_isTrue_248   x1 h = some (r, hr)) : J Z G 6 h 248 [(0, .ref (Z.2.1 0)), (1, .int x1)] [] := by
  unfold bX12_isTrue_248 at hF
  refine j_iconst (pc := 248) 0 X dX12_isTrue_248 rfl ?_
  exact BX12_isTrue_249 X E hz x1 0 h hF
def bX12_isTrue_233   (x1 : Int32) (x3 : Int32) (s0 : Int32) (h : Hp) : Option (Int32 × Hp) := lt s0 (fun v1 => (if v1 = 0 then bX12_isTrue_248 x1 h else (if x3 = 0 then bX12_isTrue_249 x1 1 h else bX12_isTrue_248 x1 h)))
set_option maxRecDepth 20000 in
theorem BX12_isTrue_233 {Z : ZT} {G : GT} {r : Int32} {hr : Hp} (X : CX Z G cX12_isTrue RX12 6 1) (E : RX Z G (some .boolean) (some (.int r)) hr) (hz : HZM Z)  (x1 : Int32) (x3 : Int32) (s0 : Int32) (h : Hp) (hF : bX12_isTrue_233   x1 x3 s0 h = some (r, hr)) : J Z G 6 h 233 [(0, .ref (Z.2.1 0)), (1, .int x1), (3, .int x3)] [.int s0] := by
  unfold bX12_isTrue_233 at hF
  refine j_istore (pc := 233) (fun y => [(5, .int y), (0, .ref (Z.2.1 0)), (1, .int x1), (3, .int x3)]) X dX12_isTrue_233 (by decide) (fun _ => rfl) hF (fun v1 hF => ?_)
  refine j_iload (pc := 235) 0 X dX12_isTrue_235 rfl ?_
  refine j_if_eq (pc := 237) 248 X dX12_isTrue_237 rfl hF (fun hF => ?_) (fun hF => ?_)
  · refine j_lv [(0, .ref (Z.2.1 0)), (1, .int x1)] [1, 2] rfl ?_
    exact BX12_isTrue_248 X E hz x1 h hF
  · refine j_iload_n (pc := 240) 3 X dX12_isTrue_240 rfl ?_
    refine j_if_ne (pc := 241) 248 X dX12_isTrue_241 rfl hF (fun hF => ?_) (fun hF => ?_)
    · refine j_lv [(0, .ref (Z.2.1 0)), (1, .int x1)] [1, 2] rfl ?_
      exact BX12_isTrue_248 X E hz x1 h hF
    · refine j_iconst (pc := 244) 1 X dX12_isTrue_244 rfl ?_
      refine j_goto (pc := 245) 249 X dX12_isTrue_245 rfl ?_
      refine j_lv [(0, .ref (Z.2.1 0)), (1, .int x1)] [1, 2] rfl ?_
      exact BX12_isTrue_249 X E hz x1 1 h hF
def bX12_isTrue_150   (x1 : Int32) (x2 : Int32) (x4 : Int32) (s0 : Int32) (h : Hp) : Option (Int32 × Hp) := lt s0 (fun v1 => ck (inb x1 300) ((if (h.1 29 (ix x1)) = 0 then (if x2 = x4 then bX12_isTrue_233 x1 v1 1 h else bX12_isTrue_233 x1 v1 0 h) else ck (inb x1 300) ((if (h.1 29 (ix x1)) = 1 then (if x2 = x4 then bX12_isTrue_233 x1 v1 0 h else bX12_isTrue_233 x1 v1 1 h) else ck (inb x1 300) ((if (h.1 29 (ix x1)) = 2 then (if x4 ≤ x2 then bX12_isTrue_233 x1 v1 0 h else bX12_isTrue_233 x1 v1 1 h) else (if x4 < x2 then bX12_isTrue_233 x1 v1 0 h else bX12_isTrue_233 x1 v1 1 h))))))))
set_option maxRecDepth 20000 in
theorem BX12_isTrue_150 {Z : ZT} {G : GT} {r : Int32} {hr : Hp} (X : CX Z G cX12_isTrue RX12 6 1) (E : RX Z G (some .boolean) (some (.int r)) hr) (hz : HZM Z)  (x1 : Int32) (x2 : Int32) (x4 : Int32) (s0 : Int32) (h : Hp) (hF : bX12_isTrue_150   x1 x2 x4 s0 h = some (r, hr)) : J Z G 6 h 150 [(0, .ref (Z.2.1 0)), (1, .int x1), (2, .int x2), (4, .int x4)] [.int s0] := by
  unfold bX12_isTrue_150 at hF
  refine j_istore_n (pc := 150) (fun y => [(3, .int y), (0, .ref (Z.2.1 0)), (1, .int x1), (2, .int x2), (4, .int x4)]) X dX12_isTrue_150 (by decide) (fun _ => rfl) hF (fun v1 hF => ?_)
  refine j_aload_n (pc := 151) 1 X dX12_isTrue_151 rfl ?_
  refine j_getr (pc := 152) X dX12_isTrue_152 (hz _ sh_0) fl_X12_104 rfl ?_
  refine j_iload_n (pc := 155) 2 X dX12_isTrue_155 rfl ?_
  refine j_iald (pc := 156) X dX12_isTrue_156 (hz _ sh_29) hF (fun hF => ?_)
  refine j_if_ne (pc := 157) 174 X dX12_isTrue_157 rfl hF (fun hF => ?_) (fun hF => ?_)
  · refine j_aload_n (pc := 174) 1 X dX12_isTrue_174 rfl ?_
    refine j_getr (pc := 175) X dX12_isTrue_175 (hz _ sh_0) fl_X12_104 rfl ?_
    refine j_iload_n (pc := 178) 2 X dX12_isTrue_178 rfl ?_
    refine j_iald (pc := 179) X dX12_isTrue_179 (hz _ sh_29) hF (fun hF => ?_)
    refine j_iconst (pc := 180) 1 X dX12_isTrue_180 rfl ?_
    refine j_icmp_ne (pc := 181) 198 X dX12_isTrue_181 rfl hF (fun hF => ?_) (fun hF => ?_)
    · refine j_aload_n (pc := 198) 1 X dX12_isTrue_198 rfl ?_
      refine j_getr (pc := 199) X dX12_isTrue_199 (hz _ sh_0) fl_X12_104 rfl ?_
      refine j_iload_n (pc := 202) 2 X dX12_isTrue_202 rfl ?_
      refine j_iald (pc := 203) X dX12_isTrue_203 (hz _ sh_29) hF (fun hF => ?_)
      refine j_iconst (pc := 204) 2 X dX12_isTrue_204 rfl ?_
      refine j_icmp_ne (pc := 205) 222 X dX12_isTrue_205 rfl hF (fun hF => ?_) (fun hF => ?_)
      · refine j_iload_n (pc := 222) 3 X dX12_isTrue_222 rfl ?_
        refine j_iload (pc := 223) 4 X dX12_isTrue_223 rfl ?_
        refine j_icmp_gt (pc := 225) 232 X dX12_isTrue_225 rfl hF (fun hF => ?_) (fun hF => ?_)
        · refine j_iconst (pc := 232) 0 X dX12_isTrue_232 rfl ?_
          refine j_lv [(0, .ref (Z.2.1 0)), (1, .int x1), (3, .int v1)] [1, 2, 0] rfl ?_
          exact BX12_isTrue_233 X E hz x1 v1 0 h hF
        · refine j_iconst (pc := 228) 1 X dX12_isTrue_228 rfl ?_
          refine j_goto (pc := 229) 233 X dX12_isTrue_229 rfl ?_
          refine j_lv [(0, .ref (Z.2.1 0)), (1, .int x1), (3, .int v1)] [1, 2, 0] rfl ?_
          exact BX12_isTrue_233 X E hz x1 v1 1 h hF
      · refine j_iload_n (pc := 208) 3 X dX12_isTrue_208 rfl ?_
        refine j_iload (pc := 209) 4 X dX12_isTrue_209 rfl ?_
        refine j_icmp_ge (pc := 211) 218 X dX12_isTrue_211 rfl hF (fun hF => ?_) (fun hF => ?_)
        · refine j_iconst (pc := 218) 0 X dX12_isTrue_218 rfl ?_
          refine j_goto (pc := 219) 233 X dX12_isTrue_219 rfl ?_
          refine j_lv [(0, .ref (Z.2.1 0)), (1, .int x1), (3, .int v1)] [1, 2, 0] rfl ?_
          exact BX12_isTrue_233 X E hz x1 v1 0 h hF
        · refine j_iconst (pc := 214) 1 X dX12_isTrue_214 rfl ?_
          refine j_goto (pc := 215) 233 X dX12_isTrue_215 rfl ?_
          refine j_lv [(0, .ref (Z.2.1 0)), (1, .int x1), (3, .int v1)] [1, 2, 0] rfl ?_
          exact BX12_isTrue_233 X E hz x1 v1 1 h hF
    · refine j_iload_n (pc := 184) 3 X dX12_isTrue_184 rfl ?_
      refine j_iload (pc := 185) 4 X dX12_isTrue_185 rfl ?_
      refine j_icmp_eq (pc := 187) 194 X dX12_isTrue_187 rfl hF (fun hF => ?_) (fun hF => ?_)
      · refine j_iconst (pc := 194) 0 X dX12_isTrue_194 rfl ?_
        refine j_goto (pc := 195) 233 X dX12_isTrue_195 rfl ?_
        refine j_lv [(0, .ref (Z.2.1 0)), (1, .int x1), (3, .int v1)] [1, 2, 0] rfl ?_
        exact BX12_isTrue_233 X E hz x1 v1 0 h hF
      · refine j_iconst (pc := 190) 1 X dX12_isTrue_190 rfl ?_
        refine j_goto (pc := 191) 233 X dX12_isTrue_191 rfl ?_
        refine j_lv [(0, .ref (Z.2.1 0)), (1, .int x1), (3, .int v1)] [1, 2, 0] rfl ?_
        exact BX12_isTrue_233 X E hz x1 v1 1 h hF
  · refine j_iload_n (pc := 160) 3 X dX12_isTrue_160 rfl ?_
    refine j_iload (pc := 161) 4 X dX12_isTrue_161 rfl ?_
    refine j_icmp_ne (pc := 163) 170 X dX12_isTrue_163 rfl hF (fun hF => ?_) (fun hF => ?_)
    · refine j_iconst (pc := 170) 0 X dX12_isTrue_170 rfl ?_
      refine j_goto (pc := 171) 233 X dX12_isTrue_171 rfl ?_
      refine j_lv [(0, .ref (Z.2.1 0)), (1, .int x1), (3, .int v1)] [1, 2, 0] rfl ?_
      exact BX12_isTrue_233 X E hz x1 v1 0 h hF
    · refine j_iconst (pc := 166) 1 X dX12_isTrue_166 rfl ?_
      refine j_goto (pc := 167) 233 X dX12_isTrue_167 rfl ?_
      refine j_lv [(0, .ref (Z.2.1 0)), (1, .int x1), (3, .int v1)] [1, 2, 0] rfl ?_
      exact BX12_isTrue_233 X E hz x1 v1 1 h hF
def bX12_isTrue_145   (x1 : Int32) (x2 : Int32) (x4 : Int32) (h : Hp) : Option (Int32 × Hp) := bX12_isTrue_150 x1 x2 x4 1 h
set_option maxRecDepth 20000 in
theorem BX12_isTrue_145 {Z : ZT} {G : GT} {r : Int32} {hr : Hp} (X : CX Z G cX12_isTrue RX12 6 1) (E : RX Z G (some .boolean) (some (.int r)) hr) (hz : HZM Z)  (x1 : Int32) (x2 : Int32) (x4 : Int32) (h : Hp) (hF : bX12_isTrue_145   x1 x2 x4 h = some (r, hr)) : J Z G 6 h 145 [(0, .ref (Z.2.1 0)), (1, .int x1), (2, .int x2), (4, .int x4)] [] := by
  unfold bX12_isTrue_145 at hF
  refine j_iconst (pc := 145) 1 X dX12_isTrue_145 rfl ?_
  refine j_goto (pc := 146) 150 X dX12_isTrue_146 rfl ?_
  exact BX12_isTrue_150 X E hz x1 x2 x4 1 h hF
def fX12_isTrue (a1 : Int32) (h : Hp) : Option (Int32 × Hp) := ck (inb a1 300) ((if (h.1 29 (ix a1)) = 4 then ck (inb a1 300) ((if (((h.1 0 57) >>> ((h.1 32 (ix a1)) &&& 31)) &&& 1) = 1 then bX12_isTrue_32 a1 1 h else bX12_isTrue_32 a1 0 h)) else ck (inb a1 300) ((if (h.1 29 (ix a1)) = 5 then ck (inb a1 300) ((if (((h.1 0 58) >>> ((h.1 32 (ix a1)) &&& 31)) &&& 1) = 1 then bX12_isTrue_79 a1 1 h else bX12_isTrue_79 a1 0 h)) else ck (inb a1 300) (ck (inb a1 300) (bi (fX12_termOf (h.1 32 (ix a1)) (h.1 33 (ix a1)) h) (fun w2 h1 => lt w2 (fun v3 => lt (h1.1 0 56) (fun v4 => ck (inb a1 300) (ck (inb a1 300) (bi (fX12_termOf (h1.1 33 (ix a1)) (h1.1 34 (ix a1)) h1) (fun w6 h5 => lt w6 (fun v7 => (if v4 = 0 then (if (h5.1 0 56) = 0 then bX12_isTrue_150 a1 v3 v7 0 h5 else bX12_isTrue_145 a1 v3 v7 h5) else bX12_isTrue_145 a1 v3 v7 h5))))))))))))))
set_option maxRecDepth 20000 in
theorem tX12_isTrue (Z : ZT) (a1 : Int32) (hz : HZM Z) (h : Hp) (r : Int32) (hr : Hp) (hF : fX12_isTrue a1 h = some (r, hr)) : MC Z yX12_isTrue cX12_isTrue 6 (some .boolean) 1 [.ref (Z.2.1 0), .int a1] h (some (.int r)) hr := by
  unfold fX12_isTrue at hF
  refine mc_start (by decide) (Nat.le_of_ble_eq_true rfl) (fun G X E => ?_)
  refine j_aload_n (pc := 0) 0 X dX12_isTrue_0 rfl ?_
  refine j_getr (pc := 1) X dX12_isTrue_1 (hz _ sh_0) fl_X12_104 rfl ?_
  refine j_iload_n (pc := 4) 1 X dX12_isTrue_4 rfl ?_
  refine j_iald (pc := 5) X dX12_isTrue_5 (hz _ sh_29) hF (fun hF => ?_)
  refine j_iconst (pc := 6) 4 X dX12_isTrue_6 rfl ?_
  refine j_icmp_ne (pc := 7) 47 X dX12_isTrue_7 rfl hF (fun hF => ?_) (fun hF => ?_)
  · refine j_aload_n (pc := 47) 0 X dX12_isTrue_47 rfl ?_
    refine j_getr (pc := 48) X dX12_isTrue_48 (hz _ sh_0) fl_X12_104 rfl ?_
    refine j_iload_n (pc := 51) 1 X dX12_isTrue_51 rfl ?_
    refine j_iald (pc := 52) X dX12_isTrue_52 (hz _ sh_29) hF (fun hF => ?_)
    refine j_iconst (pc := 53) 5 X dX12_isTrue_53 rfl ?_
    refine j_icmp_ne (pc := 54) 94 X dX12_isTrue_54 rfl hF (fun hF => ?_) (fun hF => ?_)
    · refine j_aload_n (pc := 94) 0 X dX12_isTrue_94 rfl ?_
      refine j_aload_n (pc := 95) 0 X dX12_isTrue_95 rfl ?_
      refine j_getr (pc := 96) X dX12_isTrue_96 (hz _ sh_0) fl_X12_113 rfl ?_
      refine j_iload_n (pc := 99) 1 X dX12_isTrue_99 rfl ?_
      refine j_iald (pc := 100) X dX12_isTrue_100 (hz _ sh_32) hF (fun hF => ?_)
      refine j_aload_n (pc := 101) 0 X dX12_isTrue_101 rfl ?_
      refine j_getr (pc := 102) X dX12_isTrue_102 (hz _ sh_0) fl_X12_116 rfl ?_
      refine j_iload_n (pc := 105) 1 X dX12_isTrue_105 rfl ?_
      refine j_iald (pc := 106) X dX12_isTrue_106 (hz _ sh_33) hF (fun hF => ?_)
      refine j_cVi (pc := 107) (As := [.int (h.1 32 (ix a1)), .int (h.1 33 (ix a1))]) (rest := []) X dX12_isTrue_107 ml_X12_377 ck_X12_termOf cv_X12_termOf (hz _ sh_0) rfl (Nat.le_of_ble_eq_true rfl) rfl (Nat.le_of_ble_eq_true rfl) rfl hF (tX12_termOf Z (h.1 32 (ix a1)) (h.1 33 (ix a1)) hz h) (fun w2 h1 hF => ?_)
      refine j_istore_n (pc := 110) (fun y => [(2, .int y), (0, .ref (Z.2.1 0)), (1, .int a1)]) X dX12_isTrue_110 (by decide) (fun _ => rfl) hF (fun v3 hF => ?_)
      refine j_aload_n (pc := 111) 1 X dX12_isTrue_111 rfl ?_
      refine j_geti (pc := 112) X dX12_isTrue_112 (hz _ sh_0) fl_X12_367 rfl ?_
      refine j_istore_n (pc := 115) (fun y => [(3, .int y), (2, .int v3), (0, .ref (Z.2.1 0)), (1, .int a1)]) X dX12_isTrue_115 (by decide) (fun _ => rfl) hF (fun v4 hF => ?_)
      refine j_aload_n (pc := 116) 2 X dX12_isTrue_116 rfl ?_
      refine j_aload_n (pc := 117) 2 X dX12_isTrue_117 rfl ?_
      refine j_getr (pc := 118) X dX12_isTrue_118 (hz _ sh_0) fl_X12_116 rfl ?_
      refine j_iload_n (pc := 121) 3 X dX12_isTrue_121 rfl ?_
      refine j_iald (pc := 122) X dX12_isTrue_122 (hz _ sh_33) hF (fun hF => ?_)
      refine j_aload_n (pc := 123) 2 X dX12_isTrue_123 rfl ?_
      refine j_getr (pc := 124) X dX12_isTrue_124 (hz _ sh_0) fl_X12_119 rfl ?_
      refine j_iload_n (pc := 127) 3 X dX12_isTrue_127 rfl ?_
      refine j_iald (pc := 128) X dX12_isTrue_128 (hz _ sh_34) hF (fun hF => ?_)
      refine j_cVi (pc := 129) (As := [.int (h1.1 33 (ix a1)), .int (h1.1 34 (ix a1))]) (rest := []) X dX12_isTrue_129 ml_X12_377 ck_X12_termOf cv_X12_termOf (hz _ sh_0) rfl (Nat.le_of_ble_eq_true rfl) rfl (Nat.le_of_ble_eq_true rfl) rfl hF (tX12_termOf Z (h1.1 33 (ix a1)) (h1.1 34 (ix a1)) hz h1) (fun w6 h5 hF => ?_)
      refine j_istore (pc := 132) (fun y => [(4, .int y), (3, .int v4), (2, .int v3), (0, .ref (Z.2.1 0)), (1, .int a1)]) X dX12_isTrue_132 (by decide) (fun _ => rfl) hF (fun v7 hF => ?_)
      refine j_iload_n (pc := 134) 1 X dX12_isTrue_134 rfl ?_
      refine j_if_ne (pc := 135) 145 X dX12_isTrue_135 rfl hF (fun hF => ?_) (fun hF => ?_)
      · refine j_lv [(0, .ref (Z.2.1 0)), (1, .int a1), (2, .int v3), (4, .int v7)] [3, 4, 2, 0] rfl ?_
        exact BX12_isTrue_145 X E hz a1 v3 v7 h5 hF
      · refine j_aload_n (pc := 138) 3 X dX12_isTrue_138 rfl ?_
        refine j_geti (pc := 139) X dX12_isTrue_139 (hz _ sh_0) fl_X12_367 rfl ?_
        refine j_if_eq (pc := 142) 149 X dX12_isTrue_142 rfl hF (fun hF => ?_) (fun hF => ?_)
        · refine j_iconst (pc := 149) 0 X dX12_isTrue_149 rfl ?_
          refine j_lv [(0, .ref (Z.2.1 0)), (1, .int a1), (2, .int v3), (4, .int v7)] [3, 4, 2, 0] rfl ?_
          exact BX12_isTrue_150 X E hz a1 v3 v7 0 h5 hF
        · refine j_lv [(0, .ref (Z.2.1 0)), (1, .int a1), (2, .int v3), (4, .int v7)] [3, 4, 2, 0] rfl ?_
          exact BX12_isTrue_145 X E hz a1 v3 v7 h5 hF
    · refine j_aload_n (pc := 57) 0 X dX12_isTrue_57 rfl ?_
      refine j_geti (pc := 58) X dX12_isTrue_58 (hz _ sh_0) fl_X12_374 rfl ?_
      refine j_aload_n (pc := 61) 0 X dX12_isTrue_61 rfl ?_
      refine j_getr (pc := 62) X dX12_isTrue_62 (hz _ sh_0) fl_X12_113 rfl ?_
      refine j_iload_n (pc := 65) 1 X dX12_isTrue_65 rfl ?_
      refine j_iald (pc := 66) X dX12_isTrue_66 (hz _ sh_32) hF (fun hF => ?_)
      refine j_ishr (pc := 67) X dX12_isTrue_67 ?_
      refine j_iconst (pc := 68) 1 X dX12_isTrue_68 rfl ?_
      refine j_iand (pc := 69) X dX12_isTrue_69 ?_
      refine j_iconst (pc := 70) 1 X dX12_isTrue_70 rfl ?_
      refine j_icmp_ne (pc := 71) 78 X dX12_isTrue_71 rfl hF (fun hF => ?_) (fun hF => ?_)
      · refine j_iconst (pc := 78) 0 X dX12_isTrue_78 rfl ?_
        exact BX12_isTrue_79 X E hz a1 0 h hF
      · refine j_iconst (pc := 74) 1 X dX12_isTrue_74 rfl ?_
        refine j_goto (pc := 75) 79 X dX12_isTrue_75 rfl ?_
        exact BX12_isTrue_79 X E hz a1 1 h hF
  · refine j_aload_n (pc := 10) 0 X dX12_isTrue_10 rfl ?_
    refine j_geti (pc := 11) X dX12_isTrue_11 (hz _ sh_0) fl_X12_371 rfl ?_
    refine j_aload_n (pc := 14) 0 X dX12_isTrue_14 rfl ?_
    refine j_getr (pc := 15) X dX12_isTrue_15 (hz _ sh_0) fl_X12_113 rfl ?_
    refine j_iload_n (pc := 18) 1 X dX12_isTrue_18 rfl ?_
    refine j_iald (pc := 19) X dX12_isTrue_19 (hz _ sh_32) hF (fun hF => ?_)
    refine j_ishr (pc := 20) X dX12_isTrue_20 ?_
    refine j_iconst (pc := 21) 1 X dX12_isTrue_21 rfl ?_
    refine j_iand (pc := 22) X dX12_isTrue_22 ?_
    refine j_iconst (pc := 23) 1 X dX12_isTrue_23 rfl ?_
    refine j_icmp_ne (pc := 24) 31 X dX12_isTrue_24 rfl hF (fun hF => ?_) (fun hF => ?_)
    · refine j_iconst (pc := 31) 0 X dX12_isTrue_31 rfl ?_
      exact BX12_isTrue_32 X E hz a1 0 h hF
    · refine j_iconst (pc := 27) 1 X dX12_isTrue_27 rfl ?_
      refine j_goto (pc := 28) 32 X dX12_isTrue_28 rfl ?_
      exact BX12_isTrue_32 X E hz a1 1 h hF
theorem dX12_holdsRule_0 : decode cX12_holdsRule 0 = .ok (.iconst 0, 1) := by decide +kernel
theorem dX12_holdsRule_1 : decode cX12_holdsRule 1 = .ok (.istore_n 2, 1) := by decide +kernel
theorem dX12_holdsRule_2 : decode cX12_holdsRule 2 = .ok (.aload_n 0, 1) := by decide +kernel
theorem dX12_holdsRule_3 : decode cX12_holdsRule 3 = .ok (.getfield 85, 3) := by decide +kernel
theorem dX12_holdsRule_6 : decode cX12_holdsRule 6 = .ok (.iload_n 1, 1) := by decide +kernel
theorem dX12_holdsRule_7 : decode cX12_holdsRule 7 = .ok (.iaload, 1) := by decide +kernel
theorem dX12_holdsRule_8 : decode cX12_holdsRule 8 = .ok (.istore_n 3, 1) := by decide +kernel
theorem dX12_holdsRule_9 : decode cX12_holdsRule 9 = .ok (.iload_n 3, 1) := by decide +kernel
theorem dX12_holdsRule_10 : decode cX12_holdsRule 10 = .ok (.aload_n 0, 1) := by decide +kernel
theorem dX12_holdsRule_11 : decode cX12_holdsRule 11 = .ok (.getfield 88, 3) := by decide +kernel
theorem dX12_holdsRule_14 : decode cX12_holdsRule 14 = .ok (.iload_n 1, 1) := by decide +kernel
theorem dX12_holdsRule_15 : decode cX12_holdsRule 15 = .ok (.iaload, 1) := by decide +kernel
theorem dX12_holdsRule_16 : decode cX12_holdsRule 16 = .ok (.if_icmp .ge 53, 3) := by decide +kernel
theorem dX12_holdsRule_19 : decode cX12_holdsRule 19 = .ok (.aload_n 0, 1) := by decide +kernel
theorem dX12_holdsRule_20 : decode cX12_holdsRule 20 = .ok (.getfield 110, 3) := by decide +kernel
theorem dX12_holdsRule_23 : decode cX12_holdsRule 23 = .ok (.iload_n 3, 1) := by decide +kernel
theorem dX12_holdsRule_24 : decode cX12_holdsRule 24 = .ok (.baload, 1) := by decide +kernel
theorem dX12_holdsRule_25 : decode cX12_holdsRule 25 = .ok (.ifCond .eq 9, 3) := by decide +kernel
theorem dX12_holdsRule_28 : decode cX12_holdsRule 28 = .ok (.iload_n 2, 1) := by decide +kernel
theorem dX12_holdsRule_29 : decode cX12_holdsRule 29 = .ok (.ifCond .eq 5, 3) := by decide +kernel
theorem dX12_holdsRule_32 : decode cX12_holdsRule 32 = .ok (.iconst 1, 1) := by decide +kernel
theorem dX12_holdsRule_33 : decode cX12_holdsRule 33 = .ok (.ireturn, 1) := by decide +kernel
theorem dX12_holdsRule_34 : decode cX12_holdsRule 34 = .ok (.aload_n 0, 1) := by decide +kernel
theorem dX12_holdsRule_35 : decode cX12_holdsRule 35 = .ok (.getfield 110, 3) := by decide +kernel
theorem dX12_holdsRule_38 : decode cX12_holdsRule 38 = .ok (.iload_n 3, 1) := by decide +kernel
theorem dX12_holdsRule_39 : decode cX12_holdsRule 39 = .ok (.baload, 1) := by decide +kernel
theorem dX12_holdsRule_40 : decode cX12_holdsRule 40 = .ok (.ifCond .eq 5, 3) := by decide +kernel
theorem dX12_holdsRule_43 : decode cX12_holdsRule 43 = .ok (.iconst 1, 1) := by decide +kernel
theorem dX12_holdsRule_44 : decode cX12_holdsRule 44 = .ok (.istore_n 2, 1) := by decide +kernel
theorem dX12_holdsRule_45 : decode cX12_holdsRule 45 = .ok (.iload_n 2, 1) := by decide +kernel
theorem dX12_holdsRule_46 : decode cX12_holdsRule 46 = .ok (.ifCond .eq 15, 3) := by decide +kernel
theorem dX12_holdsRule_49 : decode cX12_holdsRule 49 = .ok (.aload_n 0, 1) := by decide +kernel
theorem dX12_holdsRule_50 : decode cX12_holdsRule 50 = .ok (.iload_n 3, 1) := by decide +kernel
theorem dX12_holdsRule_51 : decode cX12_holdsRule 51 = .ok (.invokevirtual 380, 3) := by decide +kernel
theorem dX12_holdsRule_54 : decode cX12_holdsRule 54 = .ok (.ifCond .eq 7, 3) := by decide +kernel
theorem dX12_holdsRule_57 : decode cX12_holdsRule 57 = .ok (.iconst 1, 1) := by decide +kernel
theorem dX12_holdsRule_58 : decode cX12_holdsRule 58 = .ok (.goto 4, 3) := by decide +kernel
theorem dX12_holdsRule_61 : decode cX12_holdsRule 61 = .ok (.iconst 0, 1) := by decide +kernel
theorem dX12_holdsRule_62 : decode cX12_holdsRule 62 = .ok (.istore_n 2, 1) := by decide +kernel
theorem dX12_holdsRule_63 : decode cX12_holdsRule 63 = .ok (.iinc 3 1, 3) := by decide +kernel
theorem dX12_holdsRule_66 : decode cX12_holdsRule 66 = .ok (.goto (-57), 3) := by decide +kernel
theorem dX12_holdsRule_69 : decode cX12_holdsRule 69 = .ok (.iload_n 2, 1) := by decide +kernel
theorem dX12_holdsRule_70 : decode cX12_holdsRule 70 = .ok (.ireturn, 1) := by decide +kernel
def bX12_holdsRule_62  (r9 : Int32 → Int32 → Int32 → Hp → Option (Int32 × Hp)) (x1 : Int32) (x3 : Int32) (s0 : Int32) (h : Hp) : Option (Int32 × Hp) := lt s0 (fun v1 => lt (x3 + 1) (fun v2 => r9 x1 v1 v2 h))
set_option maxRecDepth 20000 in
theorem BX12_holdsRule_62 {Z : ZT} {G : GT} {r : Int32} {hr : Hp} (X : CX Z G cX12_holdsRule RX12 4 2) (E : RX Z G (some .boolean) (some (.int r)) hr) (hz : HZM Z) (r9 : Int32 → Int32 → Int32 → Hp → Option (Int32 × Hp)) (hr9 : ∀ (x1 : Int32) (x2 : Int32) (x3 : Int32) (h : Hp), r9 x1 x2 x3 h = some (r, hr) → J Z G 4 h 9 [(0, .ref (Z.2.1 0)), (1, .int x1), (2, .int x2), (3, .int x3)] []) (x1 : Int32) (x3 : Int32) (s0 : Int32) (h : Hp) (hF : bX12_holdsRule_62  r9 x1 x3 s0 h = some (r, hr)) : J Z G 4 h 62 [(0, .ref (Z.2.1 0)), (1, .int x1), (3, .int x3)] [.int s0] := by
  unfold bX12_holdsRule_62 at hF
  refine j_istore_n (pc := 62) (fun y => [(2, .int y), (0, .ref (Z.2.1 0)), (1, .int x1), (3, .int x3)]) X dX12_holdsRule_62 (by decide) (fun _ => rfl) hF (fun v1 hF => ?_)
  refine j_iinc (pc := 63) 3 (x3 + 1) (fun y => [(3, .int y), (2, .int v1), (0, .ref (Z.2.1 0)), (1, .int x1)]) X dX12_holdsRule_63 rfl rfl (by decide) (fun _ => rfl) hF (fun v2 hF => ?_)
  refine j_goto (pc := 66) 9 X dX12_holdsRule_66 rfl ?_
  refine j_lv [(0, .ref (Z.2.1 0)), (1, .int x1), (2, .int v1), (3, .int v2)] [2, 3, 1, 0] rfl ?_
  exact hr9 x1 v1 v2 h hF
def bX12_holdsRule_61  (r9 : Int32 → Int32 → Int32 → Hp → Option (Int32 × Hp)) (x1 : Int32) (x3 : Int32) (h : Hp) : Option (Int32 × Hp) := bX12_holdsRule_62 r9 x1 x3 0 h
set_option maxRecDepth 20000 in
theorem BX12_holdsRule_61 {Z : ZT} {G : GT} {r : Int32} {hr : Hp} (X : CX Z G cX12_holdsRule RX12 4 2) (E : RX Z G (some .boolean) (some (.int r)) hr) (hz : HZM Z) (r9 : Int32 → Int32 → Int32 → Hp → Option (Int32 × Hp)) (hr9 : ∀ (x1 : Int32) (x2 : Int32) (x3 : Int32) (h : Hp), r9 x1 x2 x3 h = some (r, hr) → J Z G 4 h 9 [(0, .ref (Z.2.1 0)), (1, .int x1), (2, .int x2), (3, .int x3)] []) (x1 : Int32) (x3 : Int32) (h : Hp) (hF : bX12_holdsRule_61  r9 x1 x3 h = some (r, hr)) : J Z G 4 h 61 [(0, .ref (Z.2.1 0)), (1, .int x1), (3, .int x3)] [] := by
  unfold bX12_holdsRule_61 at hF
  refine j_iconst (pc := 61) 0 X dX12_holdsRule_61 rfl ?_
  exact BX12_holdsRule_62 X E hz r9 hr9 x1 x3 0 h hF
def bX12_holdsRule_45  (r9 : Int32 → Int32 → Int32 → Hp → Option (Int32 × Hp)) (x1 : Int32) (x2 : Int32) (x3 : Int32) (h : Hp) : Option (Int32 × Hp) := (if x2 = 0 then bX12_holdsRule_61 r9 x1 x3 h else bi (fX12_isTrue x3 h) (fun w2 h1 => (if w2 = 0 then bX12_holdsRule_61 r9 x1 x3 h1 else bX12_holdsRule_62 r9 x1 x3 1 h1)))
set_option maxRecDepth 20000 in
theorem BX12_holdsRule_45 {Z : ZT} {G : GT} {r : Int32} {hr : Hp} (X : CX Z G cX12_holdsRule RX12 4 2) (E : RX Z G (some .boolean) (some (.int r)) hr) (hz : HZM Z) (r9 : Int32 → Int32 → Int32 → Hp → Option (Int32 × Hp)) (hr9 : ∀ (x1 : Int32) (x2 : Int32) (x3 : Int32) (h : Hp), r9 x1 x2 x3 h = some (r, hr) → J Z G 4 h 9 [(0, .ref (Z.2.1 0)), (1, .int x1), (2, .int x2), (3, .int x3)] []) (x1 : Int32) (x2 : Int32) (x3 : Int32) (h : Hp) (hF : bX12_holdsRule_45  r9 x1 x2 x3 h = some (r, hr)) : J Z G 4 h 45 [(0, .ref (Z.2.1 0)), (1, .int x1), (2, .int x2), (3, .int x3)] [] := by
  unfold bX12_holdsRule_45 at hF
  refine j_iload_n (pc := 45) 2 X dX12_holdsRule_45 rfl ?_
  refine j_if_eq (pc := 46) 61 X dX12_holdsRule_46 rfl hF (fun hF => ?_) (fun hF => ?_)
  · refine j_lv [(0, .ref (Z.2.1 0)), (1, .int x1), (3, .int x3)] [0, 1, 3] rfl ?_
    exact BX12_holdsRule_61 X E hz r9 hr9 x1 x3 h hF
  · refine j_aload_n (pc := 49) 0 X dX12_holdsRule_49 rfl ?_
    refine j_iload_n (pc := 50) 3 X dX12_holdsRule_50 rfl ?_
    refine j_cVi (pc := 51) (As := [.int x3]) (rest := []) X dX12_holdsRule_51 ml_X12_380 ck_X12_isTrue cv_X12_isTrue (hz _ sh_0) rfl (Nat.le_of_ble_eq_true rfl) rfl (Nat.le_of_ble_eq_true rfl) rfl hF (tX12_isTrue Z x3 hz h) (fun w2 h1 hF => ?_)
    refine j_if_eq (pc := 54) 61 X dX12_holdsRule_54 rfl hF (fun hF => ?_) (fun hF => ?_)
    · refine j_lv [(0, .ref (Z.2.1 0)), (1, .int x1), (3, .int x3)] [0, 1, 3] rfl ?_
      exact BX12_holdsRule_61 X E hz r9 hr9 x1 x3 h1 hF
    · refine j_iconst (pc := 57) 1 X dX12_holdsRule_57 rfl ?_
      refine j_goto (pc := 58) 62 X dX12_holdsRule_58 rfl ?_
      refine j_lv [(0, .ref (Z.2.1 0)), (1, .int x1), (3, .int x3)] [0, 1, 3] rfl ?_
      exact BX12_holdsRule_62 X E hz r9 hr9 x1 x3 1 h1 hF
def bX12_holdsRule_34  (r9 : Int32 → Int32 → Int32 → Hp → Option (Int32 × Hp)) (x1 : Int32) (x2 : Int32) (x3 : Int32) (h : Hp) : Option (Int32 × Hp) := ck (inb x3 300) ((if (h.1 31 (ix x3)) = 0 then bX12_holdsRule_45 r9 x1 x2 x3 h else lt 1 (fun v1 => bX12_holdsRule_45 r9 x1 v1 x3 h)))
set_option maxRecDepth 20000 in
theorem BX12_holdsRule_34 {Z : ZT} {G : GT} {r : Int32} {hr : Hp} (X : CX Z G cX12_holdsRule RX12 4 2) (E : RX Z G (some .boolean) (some (.int r)) hr) (hz : HZM Z) (r9 : Int32 → Int32 → Int32 → Hp → Option (Int32 × Hp)) (hr9 : ∀ (x1 : Int32) (x2 : Int32) (x3 : Int32) (h : Hp), r9 x1 x2 x3 h = some (r, hr) → J Z G 4 h 9 [(0, .ref (Z.2.1 0)), (1, .int x1), (2, .int x2), (3, .int x3)] []) (x1 : Int32) (x2 : Int32) (x3 : Int32) (h : Hp) (hF : bX12_holdsRule_34  r9 x1 x2 x3 h = some (r, hr)) : J Z G 4 h 34 [(0, .ref (Z.2.1 0)), (1, .int x1), (2, .int x2), (3, .int x3)] [] := by
  unfold bX12_holdsRule_34 at hF
  refine j_aload_n (pc := 34) 0 X dX12_holdsRule_34 rfl ?_
  refine j_getr (pc := 35) X dX12_holdsRule_35 (hz _ sh_0) fl_X12_110 rfl ?_
  refine j_iload_n (pc := 38) 3 X dX12_holdsRule_38 rfl ?_
  refine j_zald (pc := 39) X dX12_holdsRule_39 (hz _ sh_31) hF (fun hF => ?_)
  refine j_if_eq (pc := 40) 45 X dX12_holdsRule_40 rfl hF (fun hF => ?_) (fun hF => ?_)
  · exact BX12_holdsRule_45 X E hz r9 hr9 x1 x2 x3 h hF
  · refine j_iconst (pc := 43) 1 X dX12_holdsRule_43 rfl ?_
    refine j_istore_n (pc := 44) (fun y => [(2, .int y), (0, .ref (Z.2.1 0)), (1, .int x1), (3, .int x3)]) X dX12_holdsRule_44 (by decide) (fun _ => rfl) hF (fun v1 hF => ?_)
    refine j_lv [(0, .ref (Z.2.1 0)), (1, .int x1), (2, .int v1), (3, .int x3)] [1, 2, 0, 3] rfl ?_
    exact BX12_holdsRule_45 X E hz r9 hr9 x1 v1 x3 h hF
def bX12_holdsRule_9   (r9 : Int32 → Int32 → Int32 → Hp → Option (Int32 × Hp)) (x1 : Int32) (x2 : Int32) (x3 : Int32) (h : Hp) : Option (Int32 × Hp) := ck (inb x1 20) ((if (h.1 24 (ix x1)) ≤ x3 then ck (zb x2) (some (x2, h)) else ck (inb x3 300) ((if (h.1 31 (ix x3)) = 0 then bX12_holdsRule_34 r9 x1 x2 x3 h else (if x2 = 0 then bX12_holdsRule_34 r9 x1 x2 x3 h else ck (zb 1) (some (1, h)))))))
def lX12_holdsRule_9   : Nat → Int32 → Int32 → Int32 → Hp → Option (Int32 × Hp)
  | 0 => fun _ _ _ _ => none
  | n + 1 => bX12_holdsRule_9   (lX12_holdsRule_9   n)
set_option maxRecDepth 20000 in
theorem BX12_holdsRule_9 {Z : ZT} {G : GT} {r : Int32} {hr : Hp} (X : CX Z G cX12_holdsRule RX12 4 2) (E : RX Z G (some .boolean) (some (.int r)) hr) (hz : HZM Z)  (r9 : Int32 → Int32 → Int32 → Hp → Option (Int32 × Hp)) (hr9 : ∀ (x1 : Int32) (x2 : Int32) (x3 : Int32) (h : Hp), r9 x1 x2 x3 h = some (r, hr) → J Z G 4 h 9 [(0, .ref (Z.2.1 0)), (1, .int x1), (2, .int x2), (3, .int x3)] []) (x1 : Int32) (x2 : Int32) (x3 : Int32) (h : Hp) (hF : bX12_holdsRule_9   r9 x1 x2 x3 h = some (r, hr)) : J Z G 4 h 9 [(0, .ref (Z.2.1 0)), (1, .int x1), (2, .int x2), (3, .int x3)] [] := by
  unfold bX12_holdsRule_9 at hF
  refine j_iload_n (pc := 9) 3 X dX12_holdsRule_9 rfl ?_
  refine j_aload_n (pc := 10) 0 X dX12_holdsRule_10 rfl ?_
  refine j_getr (pc := 11) X dX12_holdsRule_11 (hz _ sh_0) fl_X12_88 rfl ?_
  refine j_iload_n (pc := 14) 1 X dX12_holdsRule_14 rfl ?_
  refine j_iald (pc := 15) X dX12_holdsRule_15 (hz _ sh_24) hF (fun hF => ?_)
  refine j_icmp_ge (pc := 16) 69 X dX12_holdsRule_16 rfl hF (fun hF => ?_) (fun hF => ?_)
  · refine j_iload_n (pc := 69) 2 X dX12_holdsRule_69 rfl ?_
    exact j_zret (pc := 70) X E dX12_holdsRule_70 hF
  · refine j_aload_n (pc := 19) 0 X dX12_holdsRule_19 rfl ?_
    refine j_getr (pc := 20) X dX12_holdsRule_20 (hz _ sh_0) fl_X12_110 rfl ?_
    refine j_iload_n (pc := 23) 3 X dX12_holdsRule_23 rfl ?_
    refine j_zald (pc := 24) X dX12_holdsRule_24 (hz _ sh_31) hF (fun hF => ?_)
    refine j_if_eq (pc := 25) 34 X dX12_holdsRule_25 rfl hF (fun hF => ?_) (fun hF => ?_)
    · exact BX12_holdsRule_34 X E hz r9 hr9 x1 x2 x3 h hF
    · refine j_iload_n (pc := 28) 2 X dX12_holdsRule_28 rfl ?_
      refine j_if_eq (pc := 29) 34 X dX12_holdsRule_29 rfl hF (fun hF => ?_) (fun hF => ?_)
      · exact BX12_holdsRule_34 X E hz r9 hr9 x1 x2 x3 h hF
      · refine j_iconst (pc := 32) 1 X dX12_holdsRule_32 rfl ?_
        exact j_zret (pc := 33) X E dX12_holdsRule_33 hF
theorem LX12_holdsRule_9 {Z : ZT} {G : GT} {r : Int32} {hr : Hp} (X : CX Z G cX12_holdsRule RX12 4 2) (E : RX Z G (some .boolean) (some (.int r)) hr) (hz : HZM Z)  : ∀ (n : Nat) (x1 : Int32) (x2 : Int32) (x3 : Int32) (h : Hp), lX12_holdsRule_9   n x1 x2 x3 h = some (r, hr) → J Z G 4 h 9 [(0, .ref (Z.2.1 0)), (1, .int x1), (2, .int x2), (3, .int x3)] [] := by
  intro n
  induction n with
  | zero => intro x1 x2 x3 h hF; cases hF
  | succ n ih => intro x1 x2 x3 h hF; exact BX12_holdsRule_9 X E hz  (lX12_holdsRule_9   n) ih x1 x2 x3 h hF
def fX12_holdsRule (a1 : Int32) (h : Hp) : Option (Int32 × Hp) := lt 0 (fun v1 => ck (inb a1 20) (lt (h.1 23 (ix a1)) (fun v2 => lX12_holdsRule_9 FU a1 v1 v2 h)))
set_option maxRecDepth 20000 in
theorem tX12_holdsRule (Z : ZT) (a1 : Int32) (hz : HZM Z) (h : Hp) (r : Int32) (hr : Hp) (hF : fX12_holdsRule a1 h = some (r, hr)) : MC Z yX12_holdsRule cX12_holdsRule 4 (some .boolean) 2 [.ref (Z.2.1 0), .int a1] h (some (.int r)) hr := by
  unfold fX12_holdsRule at hF
  refine mc_start (by decide) (Nat.le_of_ble_eq_true rfl) (fun G X E => ?_)
  refine j_iconst (pc := 0) 0 X dX12_holdsRule_0 rfl ?_
  refine j_istore_n (pc := 1) (fun y => [(2, .int y), (0, .ref (Z.2.1 0)), (1, .int a1)]) X dX12_holdsRule_1 (by decide) (fun _ => rfl) hF (fun v1 hF => ?_)
  refine j_aload_n (pc := 2) 1 X dX12_holdsRule_2 rfl ?_
  refine j_getr (pc := 3) X dX12_holdsRule_3 (hz _ sh_0) fl_X12_85 rfl ?_
  refine j_iload_n (pc := 6) 2 X dX12_holdsRule_6 rfl ?_
  refine j_iald (pc := 7) X dX12_holdsRule_7 (hz _ sh_23) hF (fun hF => ?_)
  refine j_istore_n (pc := 8) (fun y => [(3, .int y), (2, .int v1), (0, .ref (Z.2.1 0)), (1, .int a1)]) X dX12_holdsRule_8 (by decide) (fun _ => rfl) hF (fun v2 hF => ?_)
  refine j_lv [(0, .ref (Z.2.1 0)), (1, .int a1), (2, .int v1), (3, .int v2)] [2, 3, 1, 0] rfl ?_
  exact LX12_holdsRule_9 X E hz FU a1 v1 v2 h hF
theorem dX12_in_0 : decode cX12_in 0 = .ok (.iload_n 0, 1) := by decide +kernel
theorem dX12_in_1 : decode cX12_in 1 = .ok (.iload_n 1, 1) := by decide +kernel
theorem dX12_in_2 : decode cX12_in 2 = .ok (.if_icmp .lt 12, 3) := by decide +kernel
theorem dX12_in_5 : decode cX12_in 5 = .ok (.iload_n 0, 1) := by decide +kernel
theorem dX12_in_6 : decode cX12_in 6 = .ok (.iload_n 2, 1) := by decide +kernel
theorem dX12_in_7 : decode cX12_in 7 = .ok (.if_icmp .gt 7, 3) := by decide +kernel
theorem dX12_in_10 : decode cX12_in 10 = .ok (.iconst 1, 1) := by decide +kernel
theorem dX12_in_11 : decode cX12_in 11 = .ok (.goto 4, 3) := by decide +kernel
theorem dX12_in_14 : decode cX12_in 14 = .ok (.iconst 0, 1) := by decide +kernel
theorem dX12_in_15 : decode cX12_in 15 = .ok (.ireturn, 1) := by decide +kernel
def fX12_in (a1 : Int32) (a2 : Int32) (a3 : Int32) (h : Hp) : Option (Int32 × Hp) := (if a1 < a2 then ck (zb 0) (some (0, h)) else (if a3 < a1 then ck (zb 0) (some (0, h)) else ck (zb 1) (some (1, h))))
set_option maxRecDepth 20000 in
theorem tX12_in (Z : ZT) (a1 : Int32) (a2 : Int32) (a3 : Int32) (hz : True) (h : Hp) (r : Int32) (hr : Hp) (hF : fX12_in a1 a2 a3 h = some (r, hr)) : MC Z yX12_in cX12_in 3 (some .boolean) 0 [.int a1, .int a2, .int a3] h (some (.int r)) hr := by
  unfold fX12_in at hF
  refine mc_start (by decide) (Nat.le_of_ble_eq_true rfl) (fun G X E => ?_)
  refine j_iload_n (pc := 0) 0 X dX12_in_0 rfl ?_
  refine j_iload_n (pc := 1) 1 X dX12_in_1 rfl ?_
  refine j_icmp_lt (pc := 2) 14 X dX12_in_2 rfl hF (fun hF => ?_) (fun hF => ?_)
  · refine j_iconst (pc := 14) 0 X dX12_in_14 rfl ?_
    exact j_zret (pc := 15) X E dX12_in_15 hF
  · refine j_iload_n (pc := 5) 0 X dX12_in_5 rfl ?_
    refine j_iload_n (pc := 6) 2 X dX12_in_6 rfl ?_
    refine j_icmp_gt (pc := 7) 14 X dX12_in_7 rfl hF (fun hF => ?_) (fun hF => ?_)
    · refine j_iconst (pc := 14) 0 X dX12_in_14 rfl ?_
      exact j_zret (pc := 15) X E dX12_in_15 hF
    · refine j_iconst (pc := 10) 1 X dX12_in_10 rfl ?_
      refine j_goto (pc := 11) 15 X dX12_in_11 rfl ?_
      exact j_zret (pc := 15) X E dX12_in_15 hF
theorem dX12_held_0 : decode cX12_held 0 = .ok (.iload_n 0, 1) := by decide +kernel
theorem dX12_held_1 : decode cX12_held 1 = .ok (.ifCond .ge 7, 3) := by decide +kernel
theorem dX12_held_4 : decode cX12_held 4 = .ok (.iconst 0, 1) := by decide +kernel
theorem dX12_held_5 : decode cX12_held 5 = .ok (.goto 13, 3) := by decide +kernel
theorem dX12_held_8 : decode cX12_held 8 = .ok (.iload_n 0, 1) := by decide +kernel
theorem dX12_held_9 : decode cX12_held 9 = .ok (.iload_n 1, 1) := by decide +kernel
theorem dX12_held_10 : decode cX12_held 10 = .ok (.if_icmp .le 7, 3) := by decide +kernel
theorem dX12_held_13 : decode cX12_held 13 = .ok (.iload_n 1, 1) := by decide +kernel
theorem dX12_held_14 : decode cX12_held 14 = .ok (.goto 4, 3) := by decide +kernel
theorem dX12_held_17 : decode cX12_held 17 = .ok (.iload_n 0, 1) := by decide +kernel
theorem dX12_held_18 : decode cX12_held 18 = .ok (.ireturn, 1) := by decide +kernel
def fX12_held (a1 : Int32) (a2 : Int32) (h : Hp) : Option (Int32 × Hp) := (if 0 ≤ a1 then (if a1 ≤ a2 then some (a1, h) else some (a2, h)) else some (0, h))
set_option maxRecDepth 20000 in
theorem tX12_held (Z : ZT) (a1 : Int32) (a2 : Int32) (hz : True) (h : Hp) (r : Int32) (hr : Hp) (hF : fX12_held a1 a2 h = some (r, hr)) : MC Z yX12_held cX12_held 2 (some .int) 0 [.int a1, .int a2] h (some (.int r)) hr := by
  unfold fX12_held at hF
  refine mc_start (by decide) (Nat.le_of_ble_eq_true rfl) (fun G X E => ?_)
  refine j_iload_n (pc := 0) 0 X dX12_held_0 rfl ?_
  refine j_if_ge (pc := 1) 8 X dX12_held_1 rfl hF (fun hF => ?_) (fun hF => ?_)
  · refine j_iload_n (pc := 8) 0 X dX12_held_8 rfl ?_
    refine j_iload_n (pc := 9) 1 X dX12_held_9 rfl ?_
    refine j_icmp_le (pc := 10) 17 X dX12_held_10 rfl hF (fun hF => ?_) (fun hF => ?_)
    · refine j_iload_n (pc := 17) 0 X dX12_held_17 rfl ?_
      exact j_iret (pc := 18) X E dX12_held_18 hF
    · refine j_iload_n (pc := 13) 1 X dX12_held_13 rfl ?_
      refine j_goto (pc := 14) 18 X dX12_held_14 rfl ?_
      exact j_iret (pc := 18) X E dX12_held_18 hF
  · refine j_iconst (pc := 4) 0 X dX12_held_4 rfl ?_
    refine j_goto (pc := 5) 18 X dX12_held_5 rfl ?_
    exact j_iret (pc := 18) X E dX12_held_18 hF
theorem dX12_bits_0 : decode cX12_bits 0 = .ok (.iconst 0, 1) := by decide +kernel
theorem dX12_bits_1 : decode cX12_bits 1 = .ok (.istore_n 1, 1) := by decide +kernel
theorem dX12_bits_2 : decode cX12_bits 2 = .ok (.iconst 0, 1) := by decide +kernel
theorem dX12_bits_3 : decode cX12_bits 3 = .ok (.istore_n 2, 1) := by decide +kernel
theorem dX12_bits_4 : decode cX12_bits 4 = .ok (.iload_n 2, 1) := by decide +kernel
theorem dX12_bits_5 : decode cX12_bits 5 = .ok (.bipush 10, 2) := by decide +kernel
theorem dX12_bits_7 : decode cX12_bits 7 = .ok (.if_icmp .ge 17, 3) := by decide +kernel
theorem dX12_bits_10 : decode cX12_bits 10 = .ok (.iload_n 1, 1) := by decide +kernel
theorem dX12_bits_11 : decode cX12_bits 11 = .ok (.iload_n 0, 1) := by decide +kernel
theorem dX12_bits_12 : decode cX12_bits 12 = .ok (.iload_n 2, 1) := by decide +kernel
theorem dX12_bits_13 : decode cX12_bits 13 = .ok (.ishr, 1) := by decide +kernel
theorem dX12_bits_14 : decode cX12_bits 14 = .ok (.iconst 1, 1) := by decide +kernel
theorem dX12_bits_15 : decode cX12_bits 15 = .ok (.iand, 1) := by decide +kernel
theorem dX12_bits_16 : decode cX12_bits 16 = .ok (.iadd, 1) := by decide +kernel
theorem dX12_bits_17 : decode cX12_bits 17 = .ok (.istore_n 1, 1) := by decide +kernel
theorem dX12_bits_18 : decode cX12_bits 18 = .ok (.iinc 2 1, 3) := by decide +kernel
theorem dX12_bits_21 : decode cX12_bits 21 = .ok (.goto (-17), 3) := by decide +kernel
theorem dX12_bits_24 : decode cX12_bits 24 = .ok (.iload_n 1, 1) := by decide +kernel
theorem dX12_bits_25 : decode cX12_bits 25 = .ok (.ireturn, 1) := by decide +kernel
def bX12_bits_4   (r4 : Int32 → Int32 → Int32 → Hp → Option (Int32 × Hp)) (x0 : Int32) (x1 : Int32) (x2 : Int32) (h : Hp) : Option (Int32 × Hp) := (if 10 ≤ x2 then some (x1, h) else lt (x1 + ((x0 >>> (x2 &&& 31)) &&& 1)) (fun v1 => lt (x2 + 1) (fun v2 => r4 x0 v1 v2 h)))
def lX12_bits_4   : Nat → Int32 → Int32 → Int32 → Hp → Option (Int32 × Hp)
  | 0 => fun _ _ _ _ => none
  | n + 1 => bX12_bits_4   (lX12_bits_4   n)
set_option maxRecDepth 20000 in
theorem BX12_bits_4 {Z : ZT} {G : GT} {r : Int32} {hr : Hp} (X : CX Z G cX12_bits RX12 3 0) (E : RX Z G (some .int) (some (.int r)) hr) (hz : True)  (r4 : Int32 → Int32 → Int32 → Hp → Option (Int32 × Hp)) (hr4 : ∀ (x0 : Int32) (x1 : Int32) (x2 : Int32) (h : Hp), r4 x0 x1 x2 h = some (r, hr) → J Z G 3 h 4 [(0, .int x0), (1, .int x1), (2, .int x2)] []) (x0 : Int32) (x1 : Int32) (x2 : Int32) (h : Hp) (hF : bX12_bits_4   r4 x0 x1 x2 h = some (r, hr)) : J Z G 3 h 4 [(0, .int x0), (1, .int x1), (2, .int x2)] [] := by
  unfold bX12_bits_4 at hF
  refine j_iload_n (pc := 4) 2 X dX12_bits_4 rfl ?_
  refine j_bipush (pc := 5) 10 X dX12_bits_5 rfl ?_
  refine j_icmp_ge (pc := 7) 24 X dX12_bits_7 rfl hF (fun hF => ?_) (fun hF => ?_)
  · refine j_iload_n (pc := 24) 1 X dX12_bits_24 rfl ?_
    exact j_iret (pc := 25) X E dX12_bits_25 hF
  · refine j_iload_n (pc := 10) 1 X dX12_bits_10 rfl ?_
    refine j_iload_n (pc := 11) 0 X dX12_bits_11 rfl ?_
    refine j_iload_n (pc := 12) 2 X dX12_bits_12 rfl ?_
    refine j_ishr (pc := 13) X dX12_bits_13 ?_
    refine j_iconst (pc := 14) 1 X dX12_bits_14 rfl ?_
    refine j_iand (pc := 15) X dX12_bits_15 ?_
    refine j_iadd (pc := 16) X dX12_bits_16 ?_
    refine j_istore_n (pc := 17) (fun y => [(1, .int y), (0, .int x0), (2, .int x2)]) X dX12_bits_17 (by decide) (fun _ => rfl) hF (fun v1 hF => ?_)
    refine j_iinc (pc := 18) 2 (x2 + 1) (fun y => [(2, .int y), (1, .int v1), (0, .int x0)]) X dX12_bits_18 rfl rfl (by decide) (fun _ => rfl) hF (fun v2 hF => ?_)
    refine j_goto (pc := 21) 4 X dX12_bits_21 rfl ?_
    refine j_lv [(0, .int x0), (1, .int v1), (2, .int v2)] [2, 1, 0] rfl ?_
    exact hr4 x0 v1 v2 h hF
theorem LX12_bits_4 {Z : ZT} {G : GT} {r : Int32} {hr : Hp} (X : CX Z G cX12_bits RX12 3 0) (E : RX Z G (some .int) (some (.int r)) hr) (hz : True)  : ∀ (n : Nat) (x0 : Int32) (x1 : Int32) (x2 : Int32) (h : Hp), lX12_bits_4   n x0 x1 x2 h = some (r, hr) → J Z G 3 h 4 [(0, .int x0), (1, .int x1), (2, .int x2)] [] := by
  intro n
  induction n with
  | zero => intro x0 x1 x2 h hF; cases hF
  | succ n ih => intro x0 x1 x2 h hF; exact BX12_bits_4 X E hz  (lX12_bits_4   n) ih x0 x1 x2 h hF
def fX12_bits (a1 : Int32) (h : Hp) : Option (Int32 × Hp) := lt 0 (fun v1 => lt 0 (fun v2 => lX12_bits_4 FU a1 v1 v2 h))
set_option maxRecDepth 20000 in
theorem tX12_bits (Z : ZT) (a1 : Int32) (hz : True) (h : Hp) (r : Int32) (hr : Hp) (hF : fX12_bits a1 h = some (r, hr)) : MC Z yX12_bits cX12_bits 3 (some .int) 0 [.int a1] h (some (.int r)) hr := by
  unfold fX12_bits at hF
  refine mc_start (by decide) (Nat.le_of_ble_eq_true rfl) (fun G X E => ?_)
  refine j_iconst (pc := 0) 0 X dX12_bits_0 rfl ?_
  refine j_istore_n (pc := 1) (fun y => [(1, .int y), (0, .int a1)]) X dX12_bits_1 (by decide) (fun _ => rfl) hF (fun v1 hF => ?_)
  refine j_iconst (pc := 2) 0 X dX12_bits_2 rfl ?_
  refine j_istore_n (pc := 3) (fun y => [(2, .int y), (1, .int v1), (0, .int a1)]) X dX12_bits_3 (by decide) (fun _ => rfl) hF (fun v2 hF => ?_)
  refine j_lv [(0, .int a1), (1, .int v1), (2, .int v2)] [2, 1, 0] rfl ?_
  exact LX12_bits_4 X E hz FU a1 v1 v2 h hF
theorem dX12_isPerson_0 : decode cX12_isPerson 0 = .ok (.iload_n 1, 1) := by decide +kernel
theorem dX12_isPerson_1 : decode cX12_isPerson 1 = .ok (.iconst 0, 1) := by decide +kernel
theorem dX12_isPerson_2 : decode cX12_isPerson 2 = .ok (.aload_n 0, 1) := by decide +kernel
theorem dX12_isPerson_3 : decode cX12_isPerson 3 = .ok (.getfield 49, 3) := by decide +kernel
theorem dX12_isPerson_6 : decode cX12_isPerson 6 = .ok (.aload_n 0, 1) := by decide +kernel
theorem dX12_isPerson_7 : decode cX12_isPerson 7 = .ok (.getfield 284, 3) := by decide +kernel
theorem dX12_isPerson_10 : decode cX12_isPerson 10 = .ok (.iaload, 1) := by decide +kernel
theorem dX12_isPerson_11 : decode cX12_isPerson 11 = .ok (.iconst 1, 1) := by decide +kernel
theorem dX12_isPerson_12 : decode cX12_isPerson 12 = .ok (.isub, 1) := by decide +kernel
theorem dX12_isPerson_13 : decode cX12_isPerson 13 = .ok (.invokestatic 383, 3) := by decide +kernel
theorem dX12_isPerson_16 : decode cX12_isPerson 16 = .ok (.ireturn, 1) := by decide +kernel
def fX12_isPerson (a1 : Int32) (h : Hp) : Option (Int32 × Hp) := ck (inb (h.1 0 18) 2) (bi (fX12_in a1 0 ((h.1 11 (ix (h.1 0 18))) - 1) h) (fun w2 h1 => ck (zb w2) (some (w2, h1))))
set_option maxRecDepth 20000 in
theorem tX12_isPerson (Z : ZT) (a1 : Int32) (hz : HZM Z) (h : Hp) (r : Int32) (hr : Hp) (hF : fX12_isPerson a1 h = some (r, hr)) : MC Z yX12_isPerson cX12_isPerson 2 (some .boolean) 1 [.ref (Z.2.1 0), .int a1] h (some (.int r)) hr := by
  unfold fX12_isPerson at hF
  refine mc_start (by decide) (Nat.le_of_ble_eq_true rfl) (fun G X E => ?_)
  refine j_iload_n (pc := 0) 1 X dX12_isPerson_0 rfl ?_
  refine j_iconst (pc := 1) 0 X dX12_isPerson_1 rfl ?_
  refine j_aload_n (pc := 2) 0 X dX12_isPerson_2 rfl ?_
  refine j_getr (pc := 3) X dX12_isPerson_3 (hz _ sh_0) fl_X12_49 rfl ?_
  refine j_aload_n (pc := 6) 0 X dX12_isPerson_6 rfl ?_
  refine j_geti (pc := 7) X dX12_isPerson_7 (hz _ sh_0) fl_X12_284 rfl ?_
  refine j_iald (pc := 10) X dX12_isPerson_10 (hz _ sh_11) hF (fun hF => ?_)
  refine j_iconst (pc := 11) 1 X dX12_isPerson_11 rfl ?_
  refine j_isub (pc := 12) X dX12_isPerson_12 ?_
  refine j_cSi (pc := 13) (As := [.int a1, .int 0, .int ((h.1 11 (ix (h.1 0 18))) - 1)]) (rest := []) X dX12_isPerson_13 ml_X12_383 ck_X12_in sk_X12_in (Nat.le_of_ble_eq_true rfl) rfl (Nat.le_of_ble_eq_true rfl) rfl hF (tX12_in Z a1 0 ((h.1 11 (ix (h.1 0 18))) - 1) trivial h) (fun w2 h1 hF => ?_)
  exact j_zret (pc := 16) X E dX12_isPerson_16 hF
theorem dX12_hasLetter_0 : decode cX12_hasLetter 0 = .ok (.iload_n 1, 1) := by decide +kernel
theorem dX12_hasLetter_1 : decode cX12_hasLetter 1 = .ok (.iconst 0, 1) := by decide +kernel
theorem dX12_hasLetter_2 : decode cX12_hasLetter 2 = .ok (.aload_n 0, 1) := by decide +kernel
theorem dX12_hasLetter_3 : decode cX12_hasLetter 3 = .ok (.getfield 67, 3) := by decide +kernel
theorem dX12_hasLetter_6 : decode cX12_hasLetter 6 = .ok (.aload_n 0, 1) := by decide +kernel
theorem dX12_hasLetter_7 : decode cX12_hasLetter 7 = .ok (.getfield 284, 3) := by decide +kernel
theorem dX12_hasLetter_10 : decode cX12_hasLetter 10 = .ok (.iaload, 1) := by decide +kernel
theorem dX12_hasLetter_11 : decode cX12_hasLetter 11 = .ok (.iconst 1, 1) := by decide +kernel
theorem dX12_hasLetter_12 : decode cX12_hasLetter 12 = .ok (.isub, 1) := by decide +kernel
theorem dX12_hasLetter_13 : decode cX12_hasLetter 13 = .ok (.invokestatic 383, 3) := by decide +kernel
theorem dX12_hasLetter_16 : decode cX12_hasLetter 16 = .ok (.ireturn, 1) := by decide +kernel
def fX12_hasLetter (a1 : Int32) (h : Hp) : Option (Int32 × Hp) := ck (inb (h.1 0 18) 2) (bi (fX12_in a1 0 ((h.1 17 (ix (h.1 0 18))) - 1) h) (fun w2 h1 => ck (zb w2) (some (w2, h1))))
set_option maxRecDepth 20000 in
theorem tX12_hasLetter (Z : ZT) (a1 : Int32) (hz : HZM Z) (h : Hp) (r : Int32) (hr : Hp) (hF : fX12_hasLetter a1 h = some (r, hr)) : MC Z yX12_hasLetter cX12_hasLetter 2 (some .boolean) 1 [.ref (Z.2.1 0), .int a1] h (some (.int r)) hr := by
  unfold fX12_hasLetter at hF
  refine mc_start (by decide) (Nat.le_of_ble_eq_true rfl) (fun G X E => ?_)
  refine j_iload_n (pc := 0) 1 X dX12_hasLetter_0 rfl ?_
  refine j_iconst (pc := 1) 0 X dX12_hasLetter_1 rfl ?_
  refine j_aload_n (pc := 2) 0 X dX12_hasLetter_2 rfl ?_
  refine j_getr (pc := 3) X dX12_hasLetter_3 (hz _ sh_0) fl_X12_67 rfl ?_
  refine j_aload_n (pc := 6) 0 X dX12_hasLetter_6 rfl ?_
  refine j_geti (pc := 7) X dX12_hasLetter_7 (hz _ sh_0) fl_X12_284 rfl ?_
  refine j_iald (pc := 10) X dX12_hasLetter_10 (hz _ sh_17) hF (fun hF => ?_)
  refine j_iconst (pc := 11) 1 X dX12_hasLetter_11 rfl ?_
  refine j_isub (pc := 12) X dX12_hasLetter_12 ?_
  refine j_cSi (pc := 13) (As := [.int a1, .int 0, .int ((h.1 17 (ix (h.1 0 18))) - 1)]) (rest := []) X dX12_hasLetter_13 ml_X12_383 ck_X12_in sk_X12_in (Nat.le_of_ble_eq_true rfl) rfl (Nat.le_of_ble_eq_true rfl) rfl hF (tX12_in Z a1 0 ((h.1 17 (ix (h.1 0 18))) - 1) trivial h) (fun w2 h1 hF => ?_)
  exact j_zret (pc := 16) X E dX12_hasLetter_16 hF
