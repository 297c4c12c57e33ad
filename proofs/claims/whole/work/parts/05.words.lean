theorem tt_1 {w : Cond} (h : w ∈ tables_1_1) : w ∈ tables_1 := List.mem_append_left _ h
theorem tt_2 {w : Cond} (h : w ∈ tables_1_2) : w ∈ tables_1 := List.mem_append_right _ (List.mem_append_left _ h)
theorem tt_3 {w : Cond} (h : w ∈ tables_1_3) : w ∈ tables_1 := List.mem_append_right _ (List.mem_append_right _ (List.mem_append_left _ h))
theorem tt_4 {w : Cond} (h : w ∈ tables_1_4) : w ∈ tables_1 := List.mem_append_right _ (List.mem_append_right _ (List.mem_append_right _ (List.mem_append_left _ h)))
theorem tt_5 {w : Cond} (h : w ∈ tables_1_5) : w ∈ tables_1 := List.mem_append_right _ (List.mem_append_right _ (List.mem_append_right _ (List.mem_append_right _ (List.mem_append_left _ h))))
theorem tt_6 {w : Cond} (h : w ∈ tables_1_6) : w ∈ tables_1 := List.mem_append_right _ (List.mem_append_right _ (List.mem_append_right _ (List.mem_append_right _ (List.mem_append_right _ (List.mem_append_left _ h)))))
theorem tt_7 {w : Cond} (h : w ∈ tables_1_7) : w ∈ tables_1 := List.mem_append_right _ (List.mem_append_right _ (List.mem_append_right _ (List.mem_append_right _ (List.mem_append_right _ (List.mem_append_right _ (List.mem_append_left _ h))))))
theorem tt_8 {w : Cond} (h : w ∈ tables_1_8) : w ∈ tables_1 := List.mem_append_right _ (List.mem_append_right _ (List.mem_append_right _ (List.mem_append_right _ (List.mem_append_right _ (List.mem_append_right _ (List.mem_append_right _ (List.mem_append_left _ h)))))))
theorem tt_9 {w : Cond} (h : w ∈ tables_1_9) : w ∈ tables_1 := List.mem_append_right _ (List.mem_append_right _ (List.mem_append_right _ (List.mem_append_right _ (List.mem_append_right _ (List.mem_append_right _ (List.mem_append_right _ (List.mem_append_right _ (h))))))))
theorem tp_1 {w : MethodName × Nat} (h : w ∈ lw_privs_1) : w ∈ lw_privs := List.mem_append_left _ h
theorem tp_2 {w : MethodName × Nat} (h : w ∈ lw_privs_2) : w ∈ lw_privs := List.mem_append_right _ (List.mem_append_left _ h)
theorem tp_3 {w : MethodName × Nat} (h : w ∈ lw_privs_3) : w ∈ lw_privs := List.mem_append_right _ (List.mem_append_right _ (List.mem_append_left _ h))
theorem tp_4 {w : MethodName × Nat} (h : w ∈ lw_privs_4) : w ∈ lw_privs := List.mem_append_right _ (List.mem_append_right _ (List.mem_append_right _ (List.mem_append_left _ h)))
theorem tp_5 {w : MethodName × Nat} (h : w ∈ lw_privs_5) : w ∈ lw_privs := List.mem_append_right _ (List.mem_append_right _ (List.mem_append_right _ (List.mem_append_right _ (List.mem_append_left _ h))))
theorem tp_6 {w : MethodName × Nat} (h : w ∈ lw_privs_6) : w ∈ lw_privs := List.mem_append_right _ (List.mem_append_right _ (List.mem_append_right _ (List.mem_append_right _ (List.mem_append_right _ (List.mem_append_left _ h)))))
theorem tp_7 {w : MethodName × Nat} (h : w ∈ lw_privs_7) : w ∈ lw_privs := List.mem_append_right _ (List.mem_append_right _ (List.mem_append_right _ (List.mem_append_right _ (List.mem_append_right _ (List.mem_append_right _ (List.mem_append_left _ h))))))
theorem tp_8 {w : MethodName × Nat} (h : w ∈ lw_privs_8) : w ∈ lw_privs := List.mem_append_right _ (List.mem_append_right _ (List.mem_append_right _ (List.mem_append_right _ (List.mem_append_right _ (List.mem_append_right _ (List.mem_append_right _ (h)))))))
theorem inlX0 : ∀ w ∈ wsX00, w ∈ tables_1_2 := by decide +kernel
theorem ingX0 : ∀ w ∈ wsX00, goodWord w = true := by decide +kernel
theorem inX0 : ∀ w ∈ wsX00, w ∈ TB := fun w hw => tb_mem (tb_tab (have h := inlX0 w hw; tt_2 h)) (ingX0 w hw)
theorem inlX1 : ∀ w ∈ wsX10, w ∈ tables_1_2 := by decide +kernel
theorem ingX1 : ∀ w ∈ wsX10, goodWord w = true := by decide +kernel
theorem inX1 : ∀ w ∈ wsX10, w ∈ TB := fun w hw => tb_mem (tb_tab (have h := inlX1 w hw; tt_2 h)) (ingX1 w hw)
theorem inlX2 : ∀ w ∈ wsX20, w ∈ tables_1_2 := by decide +kernel
theorem ingX2 : ∀ w ∈ wsX20, goodWord w = true := by decide +kernel
theorem inX2 : ∀ w ∈ wsX20, w ∈ TB := fun w hw => tb_mem (tb_tab (have h := inlX2 w hw; tt_2 h)) (ingX2 w hw)
theorem inlX3 : ∀ w ∈ wsX30, w ∈ tables_1_2 := by decide +kernel
theorem ingX3 : ∀ w ∈ wsX30, goodWord w = true := by decide +kernel
theorem inX3 : ∀ w ∈ wsX30, w ∈ TB := fun w hw => tb_mem (tb_tab (have h := inlX3 w hw; tt_2 h)) (ingX3 w hw)
theorem inlX4 : ∀ w ∈ wsX40, w ∈ tables_1_1 := by decide +kernel
theorem ingX4 : ∀ w ∈ wsX40, goodWord w = true := by decide +kernel
theorem inX4 : ∀ w ∈ wsX40, w ∈ TB := fun w hw => tb_mem (tb_tab (have h := inlX4 w hw; tt_1 h)) (ingX4 w hw)
theorem inlX5 : ∀ w ∈ wsX50, w ∈ tables_1_2 := by decide +kernel
theorem ingX5 : ∀ w ∈ wsX50, goodWord w = true := by decide +kernel
theorem inX5 : ∀ w ∈ wsX50, w ∈ TB := fun w hw => tb_mem (tb_tab (have h := inlX5 w hw; tt_2 h)) (ingX5 w hw)
theorem inlX6 : ∀ w ∈ wsX60, w ∈ tables_1_2 := by decide +kernel
theorem ingX6 : ∀ w ∈ wsX60, goodWord w = true := by decide +kernel
theorem inX6 : ∀ w ∈ wsX60, w ∈ TB := fun w hw => tb_mem (tb_tab (have h := inlX6 w hw; tt_2 h)) (ingX6 w hw)
theorem inlX7 : ∀ w ∈ wsX70, w ∈ tables_1_3 := by decide +kernel
theorem ingX7 : ∀ w ∈ wsX70, goodWord w = true := by decide +kernel
theorem inX7 : ∀ w ∈ wsX70, w ∈ TB := fun w hw => tb_mem (tb_tab (have h := inlX7 w hw; tt_3 h)) (ingX7 w hw)
theorem inlX8 : ∀ w ∈ wsX80, w ∈ tables_1_1 := by decide +kernel
theorem ingX8 : ∀ w ∈ wsX80, goodWord w = true := by decide +kernel
theorem inX8 : ∀ w ∈ wsX80, w ∈ TB := fun w hw => tb_mem (tb_tab (have h := inlX8 w hw; tt_1 h)) (ingX8 w hw)
theorem inlX9 : ∀ w ∈ wsX90, w ∈ tables_1_1 := by decide +kernel
theorem ingX9 : ∀ w ∈ wsX90, goodWord w = true := by decide +kernel
theorem inX9 : ∀ w ∈ wsX90, w ∈ TB := fun w hw => tb_mem (tb_tab (have h := inlX9 w hw; tt_1 h)) (ingX9 w hw)
theorem inlX10 : ∀ w ∈ wsX100, w ∈ tables_1_3 := by decide +kernel
theorem ingX10 : ∀ w ∈ wsX100, goodWord w = true := by decide +kernel
theorem inX10 : ∀ w ∈ wsX100, w ∈ TB := fun w hw => tb_mem (tb_tab (have h := inlX10 w hw; tt_3 h)) (ingX10 w hw)
theorem inlX11 : ∀ w ∈ wsX110, w ∈ tables_1_3 := by decide +kernel
theorem ingX11 : ∀ w ∈ wsX110, goodWord w = true := by decide +kernel
theorem inX11 : ∀ w ∈ wsX110, w ∈ TB := fun w hw => tb_mem (tb_tab (have h := inlX11 w hw; tt_3 h)) (ingX11 w hw)
theorem inlX12 : ∀ w ∈ wsX120, w ∈ tables_1_6 ++ tables_1_7 := by decide +kernel
theorem ingX12 : ∀ w ∈ wsX120, goodWord w = true := by decide +kernel
theorem inX12 : ∀ w ∈ wsX120, w ∈ TB := fun w hw => tb_mem (tb_tab (have h := inlX12 w hw; (List.mem_append.mp h).elim (fun h => tt_6 h) (fun h => tt_7 h))) (ingX12 w hw)
def isC (o : Nat) : Prop := o = 182 ∨ o = 190 ∨ o = 198
theorem shC {o : Nat} (h : isC o) : (o, .inl (1, [some 108, some 152, some 147, some (o + 1), some (o + 2), some (o + 3), some (o + 4), some (o + 5), some (o + 6), some (o + 7), none, none, none, none, none])) ∈ shsC := by
  rcases h with rfl | rfl | rfl
  · exact sh_182
  · exact sh_190
  · exact sh_198
theorem shC_1 {o : Nat} (h : isC o) : (o + 1, .inr (.inl (0, 10))) ∈ shsC := by
  rcases h with rfl | rfl | rfl
  · exact sh_183
  · exact sh_191
  · exact sh_199
theorem shC_2 {o : Nat} (h : isC o) : (o + 2, .inr (.inl (0, 10))) ∈ shsC := by
  rcases h with rfl | rfl | rfl
  · exact sh_184
  · exact sh_192
  · exact sh_200
theorem shC_3 {o : Nat} (h : isC o) : (o + 3, .inr (.inl (0, 10))) ∈ shsC := by
  rcases h with rfl | rfl | rfl
  · exact sh_185
  · exact sh_193
  · exact sh_201
theorem shC_4 {o : Nat} (h : isC o) : (o + 4, .inr (.inl (0, 10))) ∈ shsC := by
  rcases h with rfl | rfl | rfl
  · exact sh_186
  · exact sh_194
  · exact sh_202
theorem shC_5 {o : Nat} (h : isC o) : (o + 5, .inr (.inl (0, 10))) ∈ shsC := by
  rcases h with rfl | rfl | rfl
  · exact sh_187
  · exact sh_195
  · exact sh_203
theorem shC_6 {o : Nat} (h : isC o) : (o + 6, .inr (.inl (0, 10))) ∈ shsC := by
  rcases h with rfl | rfl | rfl
  · exact sh_188
  · exact sh_196
  · exact sh_204
theorem shC_7 {o : Nat} (h : isC o) : (o + 7, .inr (.inl (0, 60))) ∈ shsC := by
  rcases h with rfl | rfl | rfl
  · exact sh_189
  · exact sh_197
  · exact sh_205
theorem isC_182 : isC 182 := by unfold isC; omega
theorem isC_190 : isC 190 := by unfold isC; omega
theorem isC_198 : isC 198 := by unfold isC; omega
def isF (o : Nat) : Prop := o = 152 ∨ o = 160 ∨ o = 167 ∨ o = 174
theorem shF {o : Nat} (h : isF o) : (o, .inl (3, [some (o + 1), some (o + 2), some (o + 3), some (o + 4), some (o + 5), some (o + 6), none])) ∈ shsC := by
  rcases h with rfl | rfl | rfl | rfl
  · exact sh_152
  · exact sh_160
  · exact sh_167
  · exact sh_174
theorem shF_1 {o : Nat} (h : isF o) : (o + 1, .inr (.inl (0, 60))) ∈ shsC := by
  rcases h with rfl | rfl | rfl | rfl
  · exact sh_153
  · exact sh_161
  · exact sh_168
  · exact sh_175
theorem shF_2 {o : Nat} (h : isF o) : (o + 2, .inr (.inl (0, 60))) ∈ shsC := by
  rcases h with rfl | rfl | rfl | rfl
  · exact sh_154
  · exact sh_162
  · exact sh_169
  · exact sh_176
theorem shF_3 {o : Nat} (h : isF o) : (o + 3, .inr (.inl (0, 60))) ∈ shsC := by
  rcases h with rfl | rfl | rfl | rfl
  · exact sh_155
  · exact sh_163
  · exact sh_170
  · exact sh_177
theorem shF_4 {o : Nat} (h : isF o) : (o + 4, .inr (.inl (0, 60))) ∈ shsC := by
  rcases h with rfl | rfl | rfl | rfl
  · exact sh_156
  · exact sh_164
  · exact sh_171
  · exact sh_178
theorem shF_5 {o : Nat} (h : isF o) : (o + 5, .inr (.inl (0, 60))) ∈ shsC := by
  rcases h with rfl | rfl | rfl | rfl
  · exact sh_157
  · exact sh_165
  · exact sh_172
  · exact sh_179
theorem shF_6 {o : Nat} (h : isF o) : (o + 6, .inr (.inl (0, 61))) ∈ shsC := by
  rcases h with rfl | rfl | rfl | rfl
  · exact sh_158
  · exact sh_166
  · exact sh_173
  · exact sh_180
theorem isF_152 : isF 152 := by unfold isF; omega
theorem isF_160 : isF 160 := by unfold isF; omega
theorem isF_167 : isF 167 := by unfold isF; omega
theorem isF_174 : isF 174 := by unfold isF; omega
def isL (o : Nat) : Prop := o = 115 ∨ o = 116 ∨ o = 117 ∨ o = 118 ∨ o = 119 ∨ o = 120 ∨ o = 121 ∨ o = 122 ∨ o = 123 ∨ o = 124 ∨ o = 132 ∨ o = 133 ∨ o = 134 ∨ o = 135 ∨ o = 136 ∨ o = 137 ∨ o = 138 ∨ o = 139 ∨ o = 140 ∨ o = 141
theorem shL {o : Nat} (h : isL o) : (o, .inl (4, [none, none, none, none, none, none, none, none])) ∈ shsC := by
  rcases h with rfl | rfl | rfl | rfl | rfl | rfl | rfl | rfl | rfl | rfl | rfl | rfl | rfl | rfl | rfl | rfl | rfl | rfl | rfl | rfl
  · exact sh_115
  · exact sh_116
  · exact sh_117
  · exact sh_118
  · exact sh_119
  · exact sh_120
  · exact sh_121
  · exact sh_122
  · exact sh_123
  · exact sh_124
  · exact sh_132
  · exact sh_133
  · exact sh_134
  · exact sh_135
  · exact sh_136
  · exact sh_137
  · exact sh_138
  · exact sh_139
  · exact sh_140
  · exact sh_141
theorem isL_115 : isL 115 := by unfold isL; omega
theorem isL_116 : isL 116 := by unfold isL; omega
theorem isL_117 : isL 117 := by unfold isL; omega
theorem isL_118 : isL 118 := by unfold isL; omega
theorem isL_119 : isL 119 := by unfold isL; omega
theorem isL_120 : isL 120 := by unfold isL; omega
theorem isL_121 : isL 121 := by unfold isL; omega
theorem isL_122 : isL 122 := by unfold isL; omega
theorem isL_123 : isL 123 := by unfold isL; omega
theorem isL_124 : isL 124 := by unfold isL; omega
theorem isL_132 : isL 132 := by unfold isL; omega
theorem isL_133 : isL 133 := by unfold isL; omega
theorem isL_134 : isL 134 := by unfold isL; omega
theorem isL_135 : isL 135 := by unfold isL; omega
theorem isL_136 : isL 136 := by unfold isL; omega
theorem isL_137 : isL 137 := by unfold isL; omega
theorem isL_138 : isL 138 := by unfold isL; omega
theorem isL_139 : isL 139 := by unfold isL; omega
theorem isL_140 : isL 140 := by unfold isL; omega
theorem isL_141 : isL 141 := by unfold isL; omega
theorem inb_lt {i : Int32} {n : Nat} (h : inb i n = true) : ix i < n := Nat.not_le.mp fun z => inb_in h (Or.inr z)
theorem al_111 : ∀ j, j < 10 → ([115, 116, 117, 118, 119, 120, 121, 122, 123, 124] : List Nat)[j]? = some (115 + j) := by
  intro j hj
  rcases (show j = 0 ∨ j = 1 ∨ j = 2 ∨ j = 3 ∨ j = 4 ∨ j = 5 ∨ j = 6 ∨ j = 7 ∨ j = 8 ∨ j = 9 by omega) with rfl | rfl | rfl | rfl | rfl | rfl | rfl | rfl | rfl | rfl <;> rfl
theorem is_111 {i : Int32} (h : inb i 10 = true) : isL (115 + ix i) := by
  have := inb_lt h
  unfold isL
  omega
theorem al_128 : ∀ j, j < 10 → ([132, 133, 134, 135, 136, 137, 138, 139, 140, 141] : List Nat)[j]? = some (132 + j) := by
  intro j hj
  rcases (show j = 0 ∨ j = 1 ∨ j = 2 ∨ j = 3 ∨ j = 4 ∨ j = 5 ∨ j = 6 ∨ j = 7 ∨ j = 8 ∨ j = 9 by omega) with rfl | rfl | rfl | rfl | rfl | rfl | rfl | rfl | rfl | rfl <;> rfl
theorem is_128 {i : Int32} (h : inb i 10 = true) : isL (132 + ix i) := by
  have := inb_lt h
  unfold isL
  omega
theorem al_159 : ∀ j, j < 3 → ([160, 167, 174] : List Nat)[j]? = some (160 + 7 * j) := by
  intro j hj
  rcases (show j = 0 ∨ j = 1 ∨ j = 2 by omega) with rfl | rfl | rfl <;> rfl
theorem is_159 {i : Int32} (h : inb i 3 = true) : isF (160 + 7 * ix i) := by
  have := inb_lt h
  unfold isF
  omega
def HZ (Z : ZT) : Prop := ∀ e, e ∈ shsC → e ∈ Z.2.2.2.2
def HZM (Z : ZT) : Prop := ∀ e, e ∈ shsM → e ∈ Z.2.2.2.2
def bkS (o : Nat) : List (Nat × Shp) := [(o, .inl (0, [some (o + 1), some (o + 2), some (o + 3), some (o + 4), some (o + 5), some (o + 6), none, none, none, none, none, none])), (o + 2, .inr (.inl (0, 4))), (o + 5, .inr (.inl (0, 3))), (o + 6, .inr (.inl (0, 3)))]
def HB (o : Nat) (Z : ZT) : Prop := ∀ e, e ∈ bkS o → e ∈ Z.2.2.2.2
theorem bS_0 (o : Nat) : (o, .inl (0, [some (o + 1), some (o + 2), some (o + 3), some (o + 4), some (o + 5), some (o + 6), none, none, none, none, none, none])) ∈ bkS o := List.mem_of_getElem? (i := 0) rfl
theorem bS_2 (o : Nat) : (o + 2, .inr (.inl (0, 4))) ∈ bkS o := List.mem_of_getElem? (i := 1) rfl
theorem bS_5 (o : Nat) : (o + 5, .inr (.inl (0, 3))) ∈ bkS o := List.mem_of_getElem? (i := 2) rfl
theorem bS_6 (o : Nat) : (o + 6, .inr (.inl (0, 3))) ∈ bkS o := List.mem_of_getElem? (i := 3) rfl
theorem isB_108 : ∀ e, e ∈ bkS 108 → e ∈ shsC := by
  intro e he
  simp only [bkS, List.mem_cons, List.not_mem_nil, or_false] at he
  rcases he with rfl | rfl | rfl | rfl
  · exact sh_108
  · exact sh_110
  · exact sh_113
  · exact sh_114
theorem isB_125 : ∀ e, e ∈ bkS 125 → e ∈ shsC := by
  intro e he
  simp only [bkS, List.mem_cons, List.not_mem_nil, or_false] at he
  rcases he with rfl | rfl | rfl | rfl
  · exact sh_125
  · exact sh_127
  · exact sh_130
  · exact sh_131
theorem HB_of {o : Nat} {Z : ZT} (hz : HZ Z) (h : ∀ e, e ∈ bkS o → e ∈ shsC) : HB o Z := fun e he => hz e (h e he)
def HW (Z : ZT) : Prop := ∀ e, e ∈ shsC → 206 ≤ e.1 → e.1 ≤ 208 → e ∈ Z.2.2.2.2
theorem ml_J13_311 : Cond.methodLink "java/lang/Long" 311 yJ6_numberOfTrailingZeros_0f7a4 ∈ TB := tb_mem (tb_tab (tt_5 (List.mem_of_getElem? (i := 197) rfl))) rfl
theorem ml_X0_56 : Cond.methodLink "AfterOffice$Book" 56 yJ7_fill_53178 ∈ TB := tb_mem (tb_tab (tt_1 (List.mem_of_getElem? (i := 190) rfl))) rfl
theorem ml_X0_62 : Cond.methodLink "AfterOffice$Book" 62 arraycopyName ∈ TB := tb_mem (tb_tab (tt_4 (List.mem_of_getElem? (i := 10) rfl))) rfl
theorem ml_X0_68 : Cond.methodLink "AfterOffice$Book" 68 yX4_become ∈ TB := tb_mem (tb_tab (tt_4 (List.mem_of_getElem? (i := 13) rfl))) rfl
theorem ml_X0_72 : Cond.methodLinkNest "AfterOffice$Book" 72 yX11_has "AfterOffice" ∈ lw_tbl := tb_tab (tt_4 (List.mem_of_getElem? (i := 221) rfl))
theorem ml_X10_102 : Cond.methodLink "AfterOffice$Ways" 102 yJ13_numberOfTrailingZeros_95d88 ∈ TB := tb_mem (tb_tab (tt_5 (List.mem_of_getElem? (i := 194) rfl))) rfl
theorem ml_X10_108 : Cond.methodLink "AfterOffice$Ways" 108 yX10_lookUp ∈ TB := tb_mem (tb_tab (tt_5 (List.mem_of_getElem? (i := 198) rfl))) rfl
theorem ml_X10_111 : Cond.methodLink "AfterOffice$Ways" 111 yX6_diesOf ∈ TB := tb_mem (tb_tab (tt_5 (List.mem_of_getElem? (i := 216) rfl))) rfl
theorem ml_X10_117 : Cond.methodLink "AfterOffice$Ways" 117 yX10_waysTo ∈ TB := tb_mem (tb_tab (tt_5 (List.mem_of_getElem? (i := 226) rfl))) rfl
theorem ml_X10_121 : Cond.methodLink "AfterOffice$Ways" 121 yX10_oddsOfNext ∈ TB := tb_mem (tb_tab (tt_5 (List.mem_of_getElem? (i := 231) rfl))) rfl
theorem ml_X10_33 : Cond.methodLink "AfterOffice$Ways" 33 yX10_seekNeedOf ∈ TB := tb_mem (tb_tab (tt_5 (List.mem_of_getElem? (i := 117) rfl))) rfl
theorem ml_X10_46 : Cond.methodLink "AfterOffice$Ways" 46 yX6_holds ∈ TB := tb_mem (tb_tab (tt_5 (List.mem_of_getElem? (i := 121) rfl))) rfl
theorem ml_X10_58 : Cond.methodLink "AfterOffice$Ways" 58 yX10_firstDue ∈ TB := tb_mem (tb_tab (tt_5 (List.mem_of_getElem? (i := 202) rfl))) rfl
theorem ml_X10_66 : Cond.methodLinkNest "AfterOffice$Ways" 66 yX11_has "AfterOffice" ∈ lw_tbl := tb_tab (tt_5 (List.mem_of_getElem? (i := 189) rfl))
theorem ml_X10_75 : Cond.methodLink "AfterOffice$Ways" 75 yX0_clerkMay ∈ TB := tb_mem (tb_tab (tt_5 (List.mem_of_getElem? (i := 206) rfl))) rfl
theorem ml_X10_78 : Cond.methodLink "AfterOffice$Ways" 78 yJ7_fill_d0a16 ∈ TB := tb_mem (tb_tab (tt_5 (List.mem_of_getElem? (i := 182) rfl))) rfl
theorem ml_X10_90 : Cond.methodLink "AfterOffice$Ways" 90 yX10_cameTo ∈ TB := tb_mem (tb_tab (tt_5 (List.mem_of_getElem? (i := 185) rfl))) rfl
theorem ml_X10_94 : Cond.methodLink "AfterOffice$Ways" 94 yX10_lookAtAll ∈ TB := tb_mem (tb_tab (tt_5 (List.mem_of_getElem? (i := 190) rfl))) rfl
theorem ml_X11_100 : Cond.methodLink "AfterOffice" 100 Lib.Math.max.name ∈ TB := tb_mem (tb_tab (tt_4 (List.mem_of_getElem? (i := 48) rfl))) rfl
theorem ml_X11_106 : Cond.methodLink "AfterOffice" 106 yX11_within ∈ TB := tb_mem (tb_tab (tt_3 (List.mem_of_getElem? (i := 108) rfl))) rfl
theorem ml_X11_116 : Cond.methodLink "AfterOffice" 116 yX8_hasRoom ∈ TB := tb_mem (tb_tab (tt_3 (List.mem_of_getElem? (i := 96) rfl))) rfl
theorem ml_X11_120 : Cond.methodLink "AfterOffice" 120 yX8_add ∈ TB := tb_mem (tb_tab (tt_3 (List.mem_of_getElem? (i := 100) rfl))) rfl
theorem ml_X11_125 : Cond.methodLink "AfterOffice" 125 yX9_scan ∈ TB := tb_mem (tb_tab (tt_3 (List.mem_of_getElem? (i := 115) rfl))) rfl
theorem ml_X11_129 : Cond.methodLink "AfterOffice" 129 yX5_begin ∈ TB := tb_mem (tb_tab (tt_3 (List.mem_of_getElem? (i := 147) rfl))) rfl
theorem ml_X11_132 : Cond.methodLink "AfterOffice" 132 yX5_tellAll ∈ TB := tb_mem (tb_tab (tt_3 (List.mem_of_getElem? (i := 152) rfl))) rfl
theorem ml_X11_135 : Cond.methodLink "AfterOffice" 135 yX5_settle ∈ TB := tb_mem (tb_tab (tt_3 (List.mem_of_getElem? (i := 238) rfl))) rfl
theorem ml_X11_142 : Cond.methodLink "AfterOffice" 142 yX0_become ∈ TB := tb_mem (tb_tab (tt_4 (List.mem_of_getElem? (i := 6) rfl))) rfl
theorem ml_X11_145 : Cond.methodLink "AfterOffice" 145 yX6_fillTables ∈ TB := tb_mem (tb_tab (tt_4 (List.mem_of_getElem? (i := 17) rfl))) rfl
theorem ml_X11_148 : Cond.methodLink "AfterOffice" 148 yX11_isLetter ∈ TB := tb_mem (tb_tab (tt_4 (List.mem_of_getElem? (i := 57) rfl))) rfl
theorem ml_X11_173 : Cond.methodLink "AfterOffice" 173 yX11_isPerson ∈ TB := tb_mem (tb_tab (tt_4 (List.mem_of_getElem? (i := 65) rfl))) rfl
theorem ml_X11_176 : Cond.methodLink "AfterOffice" 176 yX11_isYear ∈ TB := tb_mem (tb_tab (tt_4 (List.mem_of_getElem? (i := 69) rfl))) rfl
theorem ml_X11_179 : Cond.methodLink "AfterOffice" 179 yX6_diesOf ∈ TB := tb_mem (tb_tab (tt_4 (List.mem_of_getElem? (i := 73) rfl))) rfl
theorem ml_X11_182 : Cond.methodLink "AfterOffice" 182 yX6_feeOf ∈ TB := tb_mem (tb_tab (tt_4 (List.mem_of_getElem? (i := 81) rfl))) rfl
theorem ml_X11_185 : Cond.methodLink "AfterOffice" 185 yX0_clerkOf ∈ TB := tb_mem (tb_tab (tt_4 (List.mem_of_getElem? (i := 89) rfl))) rfl
theorem ml_X11_196 : Cond.methodLink "AfterOffice" 196 yX11_has ∈ TB := tb_mem (tb_tab (tt_4 (List.mem_of_getElem? (i := 97) rfl))) rfl
theorem ml_X11_200 : Cond.methodLink "AfterOffice" 200 yX3_add ∈ TB := tb_mem (tb_tab (tt_4 (List.mem_of_getElem? (i := 104) rfl))) rfl
theorem ml_X11_215 : Cond.methodLink "AfterOffice" 215 yX11_isKnown ∈ TB := tb_mem (tb_tab (tt_4 (List.mem_of_getElem? (i := 140) rfl))) rfl
theorem ml_X11_218 : Cond.methodLink "AfterOffice" 218 yX3_weightOf ∈ TB := tb_mem (tb_tab (tt_4 (List.mem_of_getElem? (i := 144) rfl))) rfl
theorem ml_X11_222 : Cond.methodLink "AfterOffice" 222 yX11_isLook ∈ TB := tb_mem (tb_tab (tt_4 (List.mem_of_getElem? (i := 161) rfl))) rfl
theorem ml_X11_225 : Cond.methodLink "AfterOffice" 225 yX2_runOf ∈ TB := tb_mem (tb_tab (tt_4 (List.mem_of_getElem? (i := 165) rfl))) rfl
theorem ml_X11_240 : Cond.methodLink "AfterOffice" 240 yX1_openedAs ∈ TB := tb_mem (tb_tab (tt_4 (List.mem_of_getElem? (i := 226) rfl))) rfl
theorem ml_X11_243 : Cond.methodLink "AfterOffice" 243 yX1_reasonOf ∈ TB := tb_mem (tb_tab (tt_4 (List.mem_of_getElem? (i := 234) rfl))) rfl
theorem ml_X11_249 : Cond.methodLink "AfterOffice" 249 yX2_soonerThanTruth ∈ TB := tb_mem (tb_tab (tt_5 (List.mem_of_getElem? (i := 10) rfl))) rfl
theorem ml_X11_255 : Cond.methodLink "AfterOffice" 255 yX3_diedBy ∈ TB := tb_mem (tb_tab (tt_5 (List.mem_of_getElem? (i := 18) rfl))) rfl
theorem ml_X11_258 : Cond.methodLink "AfterOffice" 258 yX2_walkBoth ∈ TB := tb_mem (tb_tab (tt_5 (List.mem_of_getElem? (i := 26) rfl))) rfl
theorem ml_X11_262 : Cond.methodLink "AfterOffice" 262 yX2_lateOf ∈ TB := tb_mem (tb_tab (tt_5 (List.mem_of_getElem? (i := 30) rfl))) rfl
theorem ml_X11_265 : Cond.methodLink "AfterOffice" 265 yX2_rarestLook ∈ TB := tb_mem (tb_tab (tt_5 (List.mem_of_getElem? (i := 42) rfl))) rfl
theorem ml_X11_268 : Cond.methodLink "AfterOffice" 268 yX2_gainsFrom ∈ TB := tb_mem (tb_tab (tt_5 (List.mem_of_getElem? (i := 55) rfl))) rfl
theorem ml_X11_271 : Cond.methodLink "AfterOffice" 271 yX1_paidFrom ∈ TB := tb_mem (tb_tab (tt_5 (List.mem_of_getElem? (i := 67) rfl))) rfl
theorem ml_X11_274 : Cond.methodLink "AfterOffice" 274 yX1_openingBehind ∈ TB := tb_mem (tb_tab (tt_5 (List.mem_of_getElem? (i := 75) rfl))) rfl
theorem ml_X11_277 : Cond.methodLink "AfterOffice" 277 yX2_seekTwoLooks ∈ TB := tb_mem (tb_tab (tt_5 (List.mem_of_getElem? (i := 83) rfl))) rfl
theorem ml_X11_289 : Cond.methodLink "AfterOffice" 289 yX11_areThere ∈ TB := tb_mem (tb_tab (tt_5 (List.mem_of_getElem? (i := 109) rfl))) rfl
theorem ml_X11_292 : Cond.methodLink "AfterOffice" 292 yX10_seekNeed ∈ TB := tb_mem (tb_tab (tt_5 (List.mem_of_getElem? (i := 113) rfl))) rfl
theorem ml_X11_299 : Cond.methodLink "AfterOffice" 299 yJ6_bitCount_0f7a4 ∈ TB := tb_mem (tb_tab (tt_5 (List.mem_of_getElem? (i := 122) rfl))) rfl
theorem ml_X11_310 : Cond.methodLink "AfterOffice" 310 yX7_ringOf ∈ TB := tb_mem (tb_tab (tt_5 (List.mem_of_getElem? (i := 136) rfl))) rfl
theorem ml_X11_313 : Cond.methodLink "AfterOffice" 313 yX7_howMany ∈ TB := tb_mem (tb_tab (tt_5 (List.mem_of_getElem? (i := 153) rfl))) rfl
theorem ml_X11_317 : Cond.methodLink "AfterOffice" 317 yX7_fewestToBurn ∈ TB := tb_mem (tb_tab (tt_5 (List.mem_of_getElem? (i := 165) rfl))) rfl
theorem ml_X11_320 : Cond.methodLink "AfterOffice" 320 yX10_foresee ∈ TB := tb_mem (tb_tab (tt_5 (List.mem_of_getElem? (i := 178) rfl))) rfl
theorem ml_X11_336 : Cond.methodLink "AfterOffice" 336 yX10_livesThrough ∈ TB := tb_mem (tb_tab (tt_5 (List.mem_of_getElem? (i := 212) rfl))) rfl
theorem ml_X11_342 : Cond.methodLink "AfterOffice" 342 yX10_oddsOf ∈ TB := tb_mem (tb_tab (tt_5 (List.mem_of_getElem? (i := 222) rfl))) rfl
theorem ml_X11_345 : Cond.methodLink "AfterOffice" 345 yX2_lifeOf ∈ TB := tb_mem (tb_tab (tt_5 (List.mem_of_getElem? (i := 239) rfl))) rfl
theorem ml_X11_349 : Cond.methodLink "AfterOffice" 349 yX1_lettersThatAre ∈ TB := tb_mem (tb_tab (tt_6 (List.mem_of_getElem? (i := 12) rfl))) rfl
theorem ml_X11_355 : Cond.methodLink "AfterOffice" 355 yX3_become ∈ TB := tb_mem (tb_tab (tt_6 (List.mem_of_getElem? (i := 24) rfl))) rfl
theorem ml_X11_94 : Cond.methodLink "AfterOffice" 94 Lib.Math.min.name ∈ TB := tb_mem (tb_tab (tt_4 (List.mem_of_getElem? (i := 45) rfl))) rfl
theorem ml_X12_219 : Cond.methodLink "AfterOfficeModel" 219 yX12_put ∈ TB := tb_mem (tb_tab (tt_7 (List.mem_of_getElem? (i := 91) rfl))) rfl
theorem ml_X12_228 : Cond.methodLink "AfterOfficeModel" 228 yX12_appends ∈ TB := tb_mem (tb_tab (tt_6 (List.mem_of_getElem? (i := 46) rfl))) rfl
theorem ml_X12_235 : Cond.methodLink "AfterOfficeModel" 235 yX12_byteAt ∈ TB := tb_mem (tb_tab (tt_7 (List.mem_of_getElem? (i := 107) rfl))) rfl
theorem ml_X12_239 : Cond.methodLink "AfterOfficeModel" 239 yX12_token ∈ TB := tb_mem (tb_tab (tt_7 (List.mem_of_getElem? (i := 111) rfl))) rfl
theorem ml_X12_243 : Cond.methodLink "AfterOfficeModel" 243 yX12_isLetter ∈ TB := tb_mem (tb_tab (tt_7 (List.mem_of_getElem? (i := 115) rfl))) rfl
theorem ml_X12_247 : Cond.methodLink "AfterOfficeModel" 247 yX12_isDigit ∈ TB := tb_mem (tb_tab (tt_7 (List.mem_of_getElem? (i := 118) rfl))) rfl
theorem ml_X12_250 : Cond.methodLink "AfterOfficeModel" 250 yX12_sign ∈ TB := tb_mem (tb_tab (tt_7 (List.mem_of_getElem? (i := 121) rfl))) rfl
theorem ml_X12_269 : Cond.methodLink "AfterOfficeModel" 269 yX12_fail ∈ TB := tb_mem (tb_tab (tt_7 (List.mem_of_getElem? (i := 133) rfl))) rfl
theorem ml_X12_272 : Cond.methodLink "AfterOfficeModel" 272 yX12_is ∈ TB := tb_mem (tb_tab (tt_7 (List.mem_of_getElem? (i := 125) rfl))) rfl
theorem ml_X12_275 : Cond.methodLink "AfterOfficeModel" 275 yX12_goesOn ∈ TB := tb_mem (tb_tab (tt_7 (List.mem_of_getElem? (i := 141) rfl))) rfl
theorem ml_X12_278 : Cond.methodLink "AfterOfficeModel" 278 yX12_cut ∈ TB := tb_mem (tb_tab (tt_7 (List.mem_of_getElem? (i := 103) rfl))) rfl
theorem ml_X12_299 : Cond.methodLink "AfterOfficeModel" 299 yX12_tell ∈ TB := tb_mem (tb_tab (tt_7 (List.mem_of_getElem? (i := 129) rfl))) rfl
theorem ml_X12_302 : Cond.methodLink "AfterOfficeModel" 302 yX12_findsRead ∈ TB := tb_mem (tb_tab (tt_7 (List.mem_of_getElem? (i := 209) rfl))) rfl
theorem ml_X12_308 : Cond.methodLink "AfterOfficeModel" 308 yX12_find ∈ TB := tb_mem (tb_tab (tt_7 (List.mem_of_getElem? (i := 177) rfl))) rfl
theorem ml_X12_312 : Cond.methodLink "AfterOfficeModel" 312 yX12_amiss ∈ TB := tb_mem (tb_tab (tt_7 (List.mem_of_getElem? (i := 153) rfl))) rfl
theorem ml_X12_316 : Cond.methodLink "AfterOfficeModel" 316 yX12_tellPerson ∈ TB := tb_mem (tb_tab (tt_7 (List.mem_of_getElem? (i := 137) rfl))) rfl
theorem ml_X12_319 : Cond.methodLink "AfterOfficeModel" 319 yX12_tellClerk ∈ TB := tb_mem (tb_tab (tt_7 (List.mem_of_getElem? (i := 165) rfl))) rfl
theorem ml_X12_322 : Cond.methodLink "AfterOfficeModel" 322 yX12_tellBar ∈ TB := tb_mem (tb_tab (tt_7 (List.mem_of_getElem? (i := 169) rfl))) rfl
theorem ml_X12_325 : Cond.methodLink "AfterOfficeModel" 325 yX12_tellLetter ∈ TB := tb_mem (tb_tab (tt_7 (List.mem_of_getElem? (i := 181) rfl))) rfl
theorem ml_X12_328 : Cond.methodLink "AfterOfficeModel" 328 yX12_bounded ∈ TB := tb_mem (tb_tab (tt_7 (List.mem_of_getElem? (i := 157) rfl))) rfl
theorem ml_X12_331 : Cond.methodLink "AfterOfficeModel" 331 yX12_must ∈ TB := tb_mem (tb_tab (tt_7 (List.mem_of_getElem? (i := 149) rfl))) rfl
theorem ml_X12_334 : Cond.methodLink "AfterOfficeModel" 334 yX12_expression ∈ TB := tb_mem (tb_tab (tt_7 (List.mem_of_getElem? (i := 193) rfl))) rfl
theorem ml_X12_337 : Cond.methodLink "AfterOfficeModel" 337 yX12_named ∈ TB := tb_mem (tb_tab (tt_7 (List.mem_of_getElem? (i := 145) rfl))) rfl
theorem ml_X12_341 : Cond.methodLink "AfterOfficeModel" 341 yX12_notes ∈ TB := tb_mem (tb_tab (tt_7 (List.mem_of_getElem? (i := 161) rfl))) rfl
theorem ml_X12_345 : Cond.methodLink "AfterOfficeModel" 345 yX12_known ∈ TB := tb_mem (tb_tab (tt_7 (List.mem_of_getElem? (i := 173) rfl))) rfl
theorem ml_X12_348 : Cond.methodLink "AfterOfficeModel" 348 yX12_condition ∈ TB := tb_mem (tb_tab (tt_7 (List.mem_of_getElem? (i := 185) rfl))) rfl
theorem ml_X12_351 : Cond.methodLink "AfterOfficeModel" 351 yX12_literal ∈ TB := tb_mem (tb_tab (tt_7 (List.mem_of_getElem? (i := 189) rfl))) rfl
theorem ml_X12_358 : Cond.methodLink "AfterOfficeModel" 358 yX12_emit ∈ TB := tb_mem (tb_tab (tt_7 (List.mem_of_getElem? (i := 201) rfl))) rfl
theorem ml_X12_361 : Cond.methodLink "AfterOfficeModel" 361 yX12_unit ∈ TB := tb_mem (tb_tab (tt_7 (List.mem_of_getElem? (i := 197) rfl))) rfl
theorem ml_X12_364 : Cond.methodLink "AfterOfficeModel" 364 yX12_comesOut ∈ TB := tb_mem (tb_tab (tt_7 (List.mem_of_getElem? (i := 205) rfl))) rfl
theorem ml_X12_377 : Cond.methodLink "AfterOfficeModel" 377 yX12_termOf ∈ TB := tb_mem (tb_tab (tt_8 (List.mem_of_getElem? (i := 19) rfl))) rfl
theorem ml_X12_380 : Cond.methodLink "AfterOfficeModel" 380 yX12_isTrue ∈ TB := tb_mem (tb_tab (tt_8 (List.mem_of_getElem? (i := 130) rfl))) rfl
theorem ml_X12_383 : Cond.methodLink "AfterOfficeModel" 383 yX12_in ∈ TB := tb_mem (tb_tab (tt_7 (List.mem_of_getElem? (i := 225) rfl))) rfl
theorem ml_X12_387 : Cond.methodLink "AfterOfficeModel" 387 yX12_held ∈ TB := tb_mem (tb_tab (tt_8 (List.mem_of_getElem? (i := 23) rfl))) rfl
theorem ml_X12_390 : Cond.methodLink "AfterOfficeModel" 390 yX12_sees ∈ TB := tb_mem (tb_tab (tt_8 (List.mem_of_getElem? (i := 11) rfl))) rfl
theorem ml_X12_394 : Cond.methodLink "AfterOfficeModel" 394 yX12_says ∈ TB := tb_mem (tb_tab (tt_8 (List.mem_of_getElem? (i := 15) rfl))) rfl
theorem ml_X12_397 : Cond.methodLink "AfterOfficeModel" 397 yX12_holdsRule ∈ TB := tb_mem (tb_tab (tt_8 (List.mem_of_getElem? (i := 126) rfl))) rfl
theorem ml_X12_400 : Cond.methodLink "AfterOfficeModel" 400 yX12_hasLetter ∈ TB := tb_mem (tb_tab (tt_7 (List.mem_of_getElem? (i := 221) rfl))) rfl
theorem ml_X12_403 : Cond.methodLink "AfterOfficeModel" 403 yX12_writer ∈ TB := tb_mem (tb_tab (tt_7 (List.mem_of_getElem? (i := 228) rfl))) rfl
theorem ml_X12_406 : Cond.methodLink "AfterOfficeModel" 406 yX12_reader ∈ TB := tb_mem (tb_tab (tt_7 (List.mem_of_getElem? (i := 232) rfl))) rfl
theorem ml_X12_409 : Cond.methodLink "AfterOfficeModel" 409 yX12_isPerson ∈ TB := tb_mem (tb_tab (tt_8 (List.mem_of_getElem? (i := 0) rfl))) rfl
theorem ml_X12_412 : Cond.methodLink "AfterOfficeModel" 412 yX12_isYear ∈ TB := tb_mem (tb_tab (tt_8 (List.mem_of_getElem? (i := 4) rfl))) rfl
theorem ml_X12_415 : Cond.methodLink "AfterOfficeModel" 415 yX12_diesBy ∈ TB := tb_mem (tb_tab (tt_8 (List.mem_of_getElem? (i := 7) rfl))) rfl
theorem ml_X12_418 : Cond.methodLink "AfterOfficeModel" 418 yX12_feeOf ∈ TB := tb_mem (tb_tab (tt_8 (List.mem_of_getElem? (i := 30) rfl))) rfl
theorem ml_X12_421 : Cond.methodLink "AfterOfficeModel" 421 yX12_isBarred ∈ TB := tb_mem (tb_tab (tt_8 (List.mem_of_getElem? (i := 42) rfl))) rfl
theorem ml_X12_425 : Cond.methodLink "AfterOfficeModel" 425 yX12_canCome ∈ TB := tb_mem (tb_tab (tt_8 (List.mem_of_getElem? (i := 50) rfl))) rfl
theorem ml_X12_428 : Cond.methodLink "AfterOfficeModel" 428 yX12_comes ∈ TB := tb_mem (tb_tab (tt_8 (List.mem_of_getElem? (i := 54) rfl))) rfl
theorem ml_X12_432 : Cond.methodLink "AfterOfficeModel" 432 yX12_counts ∈ TB := tb_mem (tb_tab (tt_8 (List.mem_of_getElem? (i := 98) rfl))) rfl
theorem ml_X12_435 : Cond.methodLink "AfterOfficeModel" 435 yX12_isKnown ∈ TB := tb_mem (tb_tab (tt_8 (List.mem_of_getElem? (i := 90) rfl))) rfl
theorem ml_X12_438 : Cond.methodLink "AfterOfficeModel" 438 yX12_weightOf ∈ TB := tb_mem (tb_tab (tt_8 (List.mem_of_getElem? (i := 94) rfl))) rfl
theorem ml_X12_453 : Cond.methodLink "AfterOfficeModel" 453 yX12_becomes ∈ TB := tb_mem (tb_tab (tt_8 (List.mem_of_getElem? (i := 118) rfl))) rfl
theorem ml_X12_456 : Cond.methodLink "AfterOfficeModel" 456 yX12_holdsFor ∈ TB := tb_mem (tb_tab (tt_8 (List.mem_of_getElem? (i := 122) rfl))) rfl
theorem ml_X12_460 : Cond.methodLink "AfterOfficeModel" 460 yX12_floods ∈ TB := tb_mem (tb_tab (tt_8 (List.mem_of_getElem? (i := 134) rfl))) rfl
theorem ml_X12_463 : Cond.methodLink "AfterOfficeModel" 463 yX12_isClerkBarred ∈ TB := tb_mem (tb_tab (tt_8 (List.mem_of_getElem? (i := 150) rfl))) rfl
theorem ml_X12_466 : Cond.methodLink "AfterOfficeModel" 466 yX12_isDue ∈ TB := tb_mem (tb_tab (tt_8 (List.mem_of_getElem? (i := 146) rfl))) rfl
theorem ml_X12_469 : Cond.methodLink "AfterOfficeModel" 469 yX12_starts ∈ TB := tb_mem (tb_tab (tt_8 (List.mem_of_getElem? (i := 110) rfl))) rfl
theorem ml_X12_472 : Cond.methodLink "AfterOfficeModel" 472 yX12_happens ∈ TB := tb_mem (tb_tab (tt_8 (List.mem_of_getElem? (i := 114) rfl))) rfl
theorem ml_X12_476 : Cond.methodLink "AfterOfficeModel" 476 yX12_pays ∈ TB := tb_mem (tb_tab (tt_8 (List.mem_of_getElem? (i := 138) rfl))) rfl
theorem ml_X12_479 : Cond.methodLink "AfterOfficeModel" 479 yX12_looksNow ∈ TB := tb_mem (tb_tab (tt_8 (List.mem_of_getElem? (i := 142) rfl))) rfl
theorem ml_X12_482 : Cond.methodLink "AfterOfficeModel" 482 yX12_runs ∈ TB := tb_mem (tb_tab (tt_8 (List.mem_of_getElem? (i := 106) rfl))) rfl
theorem ml_X12_486 : Cond.methodLink "AfterOfficeModel" 486 yX12_runsAll ∈ TB := tb_mem (tb_tab (tt_8 (List.mem_of_getElem? (i := 166) rfl))) rfl
theorem ml_X12_489 : Cond.methodLink "AfterOfficeModel" 489 yX12_keepsYearly ∈ TB := tb_mem (tb_tab (tt_8 (List.mem_of_getElem? (i := 174) rfl))) rfl
theorem ml_X12_492 : Cond.methodLink "AfterOfficeModel" 492 yX12_isEach ∈ TB := tb_mem (tb_tab (tt_8 (List.mem_of_getElem? (i := 186) rfl))) rfl
theorem ml_X12_495 : Cond.methodLink "AfterOfficeModel" 495 yX12_isWatched ∈ TB := tb_mem (tb_tab (tt_8 (List.mem_of_getElem? (i := 193) rfl))) rfl
theorem ml_X12_498 : Cond.methodLink "AfterOfficeModel" 498 yX12_goodOf ∈ TB := tb_mem (tb_tab (tt_8 (List.mem_of_getElem? (i := 205) rfl))) rfl
theorem ml_X12_501 : Cond.methodLink "AfterOfficeModel" 501 yX12_gains ∈ TB := tb_mem (tb_tab (tt_8 (List.mem_of_getElem? (i := 201) rfl))) rfl
theorem ml_X12_504 : Cond.methodLink "AfterOfficeModel" 504 yX12_asksOf ∈ TB := tb_mem (tb_tab (tt_8 (List.mem_of_getElem? (i := 225) rfl))) rfl
theorem ml_X12_507 : Cond.methodLink "AfterOfficeModel" 507 yX12_closes ∈ TB := tb_mem (tb_tab (tt_8 (List.mem_of_getElem? (i := 233) rfl))) rfl
theorem ml_X12_510 : Cond.methodLink "AfterOfficeModel" 510 yX12_ringOf ∈ TB := tb_mem (tb_tab (tt_8 (List.mem_of_getElem? (i := 237) rfl))) rfl
theorem ml_X12_513 : Cond.methodLink "AfterOfficeModel" 513 yX12_bits ∈ TB := tb_mem (tb_tab (tt_9 (List.mem_of_getElem? (i := 9) rfl))) rfl
theorem ml_X12_516 : Cond.methodLink "AfterOfficeModel" 516 yX12_hasRings ∈ TB := tb_mem (tb_tab (tt_9 (List.mem_of_getElem? (i := 12) rfl))) rfl
theorem ml_X12_528 : Cond.methodLink "AfterOfficeModel" 528 yX12_areSets ∈ TB := tb_mem (tb_tab (tt_9 (List.mem_of_getElem? (i := 20) rfl))) rfl
theorem ml_X12_531 : Cond.methodLink "AfterOfficeModel" 531 yX12_needs ∈ TB := tb_mem (tb_tab (tt_9 (List.mem_of_getElem? (i := 24) rfl))) rfl
theorem ml_X12_534 : Cond.methodLink "AfterOfficeModel" 534 yX12_mayBeOpened ∈ TB := tb_mem (tb_tab (tt_9 (List.mem_of_getElem? (i := 36) rfl))) rfl
theorem ml_X12_537 : Cond.methodLink "AfterOfficeModel" 537 yX12_fillLooks ∈ TB := tb_mem (tb_tab (tt_9 (List.mem_of_getElem? (i := 32) rfl))) rfl
theorem ml_X12_546 : Cond.methodLink "AfterOfficeModel" 546 yX12_waysOf ∈ TB := tb_mem (tb_tab (tt_9 (List.mem_of_getElem? (i := 50) rfl))) rfl
theorem ml_X12_550 : Cond.methodLink "AfterOfficeModel" 550 yX12_lookFrom ∈ TB := tb_mem (tb_tab (tt_9 (List.mem_of_getElem? (i := 55) rfl))) rfl
theorem ml_X12_554 : Cond.methodLink "AfterOfficeModel" 554 yX12_mixed ∈ TB := tb_mem (tb_tab (tt_9 (List.mem_of_getElem? (i := 70) rfl))) rfl
theorem ml_X12_557 : Cond.methodLink "AfterOfficeModel" 557 yX12_lot ∈ TB := tb_mem (tb_tab (tt_9 (List.mem_of_getElem? (i := 67) rfl))) rfl
theorem ml_X12_560 : Cond.methodLink "AfterOfficeModel" 560 yX12_livesBy ∈ TB := tb_mem (tb_tab (tt_9 (List.mem_of_getElem? (i := 63) rfl))) rfl
theorem ml_X12_563 : Cond.methodLink "AfterOfficeModel" 563 yX12_those ∈ TB := tb_mem (tb_tab (tt_9 (List.mem_of_getElem? (i := 74) rfl))) rfl
theorem ml_X1_110 : Cond.methodLink "AfterOffice$Course" 110 yX1_takeFact ∈ TB := tb_mem (tb_tab (tt_4 (List.mem_of_getElem? (i := 187) rfl))) rfl
theorem ml_X1_129 : Cond.methodLinkNest "AfterOffice$Course" 129 yX11_has "AfterOffice" ∈ lw_tbl := tb_tab (tt_4 (List.mem_of_getElem? (i := 191) rfl))
theorem ml_X1_133 : Cond.methodLink "AfterOffice$Course" 133 yX1_endAs ∈ TB := tb_mem (tb_tab (tt_4 (List.mem_of_getElem? (i := 192) rfl))) rfl
theorem ml_X1_137 : Cond.methodLink "AfterOffice$Course" 137 yX6_holds ∈ TB := tb_mem (tb_tab (tt_4 (List.mem_of_getElem? (i := 196) rfl))) rfl
theorem ml_X1_146 : Cond.methodLink "AfterOffice$Course" 146 yX1_floodShelf ∈ TB := tb_mem (tb_tab (tt_4 (List.mem_of_getElem? (i := 200) rfl))) rfl
theorem ml_X1_152 : Cond.methodLink "AfterOffice$Course" 152 yX6_feeOf ∈ TB := tb_mem (tb_tab (tt_4 (List.mem_of_getElem? (i := 208) rfl))) rfl
theorem ml_X1_156 : Cond.methodLink "AfterOffice$Course" 156 yX1_firstDue ∈ TB := tb_mem (tb_tab (tt_4 (List.mem_of_getElem? (i := 213) rfl))) rfl
theorem ml_X1_163 : Cond.methodLink "AfterOffice$Course" 163 yX0_clerkMay ∈ TB := tb_mem (tb_tab (tt_4 (List.mem_of_getElem? (i := 217) rfl))) rfl
theorem ml_X1_166 : Cond.methodLink "AfterOffice$Course" 166 yX1_hasBeenOpened ∈ TB := tb_mem (tb_tab (tt_4 (List.mem_of_getElem? (i := 238) rfl))) rfl
theorem ml_X1_173 : Cond.methodLink "AfterOffice$Course" 173 yX1_lot ∈ TB := tb_mem (tb_tab (tt_6 (List.mem_of_getElem? (i := 7) rfl))) rfl
theorem ml_X1_176 : Cond.methodLink "AfterOffice$Course" 176 yX6_diesOf ∈ TB := tb_mem (tb_tab (tt_6 (List.mem_of_getElem? (i := 11) rfl))) rfl
theorem ml_X1_45 : Cond.methodLink "AfterOffice$Course" 45 yJ7_fill_53178 ∈ TB := tb_mem (tb_tab (tt_4 (List.mem_of_getElem? (i := 182) rfl))) rfl
theorem ml_X1_82 : Cond.methodLink "AfterOffice$Course" 82 arraycopyName ∈ TB := tb_mem (tb_tab (tt_5 (List.mem_of_getElem? (i := 94) rfl))) rfl
theorem ml_X1_88 : Cond.methodLink "AfterOffice$Course" 88 yX1_begin ∈ TB := tb_mem (tb_tab (tt_4 (List.mem_of_getElem? (i := 178) rfl))) rfl
theorem ml_X1_92 : Cond.methodLink "AfterOffice$Course" 92 yX1_takeFacts ∈ TB := tb_mem (tb_tab (tt_4 (List.mem_of_getElem? (i := 183) rfl))) rfl
theorem ml_X1_96 : Cond.methodLink "AfterOffice$Course" 96 yX1_payFees ∈ TB := tb_mem (tb_tab (tt_4 (List.mem_of_getElem? (i := 204) rfl))) rfl
theorem ml_X1_99 : Cond.methodLink "AfterOffice$Course" 99 yX1_lookUp ∈ TB := tb_mem (tb_tab (tt_4 (List.mem_of_getElem? (i := 209) rfl))) rfl
theorem ml_X2_105 : Cond.methodLink "AfterOffice$Courses" 105 yX1_takeFacts ∈ TB := tb_mem (tb_tab (tt_5 (List.mem_of_getElem? (i := 88) rfl))) rfl
theorem ml_X2_108 : Cond.methodLink "AfterOffice$Courses" 108 yX1_payFees ∈ TB := tb_mem (tb_tab (tt_5 (List.mem_of_getElem? (i := 89) rfl))) rfl
theorem ml_X2_111 : Cond.methodLink "AfterOffice$Courses" 111 yX1_become ∈ TB := tb_mem (tb_tab (tt_5 (List.mem_of_getElem? (i := 90) rfl))) rfl
theorem ml_X2_115 : Cond.methodLink "AfterOffice$Courses" 115 yX1_lookUp ∈ TB := tb_mem (tb_tab (tt_5 (List.mem_of_getElem? (i := 95) rfl))) rfl
theorem ml_X2_118 : Cond.methodLink "AfterOffice$Courses" 118 yX2_trySecondLooks ∈ TB := tb_mem (tb_tab (tt_5 (List.mem_of_getElem? (i := 96) rfl))) rfl
theorem ml_X2_121 : Cond.methodLink "AfterOffice$Courses" 121 yX2_gainsFrom ∈ TB := tb_mem (tb_tab (tt_5 (List.mem_of_getElem? (i := 100) rfl))) rfl
theorem ml_X2_133 : Cond.methodLink "AfterOffice$Courses" 133 yX1_shutAgain ∈ TB := tb_mem (tb_tab (tt_5 (List.mem_of_getElem? (i := 101) rfl))) rfl
theorem ml_X2_38 : Cond.methodLink "AfterOffice$Courses" 38 yX3_arrange ∈ TB := tb_mem (tb_tab (tt_4 (List.mem_of_getElem? (i := 169) rfl))) rfl
theorem ml_X2_44 : Cond.methodLink "AfterOffice$Courses" 44 yX1_walk ∈ TB := tb_mem (tb_tab (tt_4 (List.mem_of_getElem? (i := 174) rfl))) rfl
theorem ml_X2_48 : Cond.methodLink "AfterOffice$Courses" 48 yX1_liveByLots ∈ TB := tb_mem (tb_tab (tt_6 (List.mem_of_getElem? (i := 3) rfl))) rfl
theorem ml_X2_65 : Cond.methodLink "AfterOffice$Courses" 65 yX2_bothHave ∈ TB := tb_mem (tb_tab (tt_5 (List.mem_of_getElem? (i := 34) rfl))) rfl
theorem ml_X2_69 : Cond.methodLink "AfterOffice$Courses" 69 yX2_allInTime ∈ TB := tb_mem (tb_tab (tt_5 (List.mem_of_getElem? (i := 46) rfl))) rfl
theorem ml_X2_73 : Cond.methodLink "AfterOffice$Courses" 73 yX2_lateOf ∈ TB := tb_mem (tb_tab (tt_5 (List.mem_of_getElem? (i := 50) rfl))) rfl
theorem ml_X2_92 : Cond.methodLink "AfterOffice$Courses" 92 yX6_gainIn ∈ TB := tb_mem (tb_tab (tt_5 (List.mem_of_getElem? (i := 59) rfl))) rfl
theorem ml_X2_98 : Cond.methodLink "AfterOffice$Courses" 98 yX1_begin ∈ TB := tb_mem (tb_tab (tt_5 (List.mem_of_getElem? (i := 87) rfl))) rfl
theorem ml_X3_34 : Cond.methodLink "AfterOffice$Facts" 34 arraycopyName ∈ TB := tb_mem (tb_tab (tt_6 (List.mem_of_getElem? (i := 28) rfl))) rfl
theorem ml_X3_40 : Cond.methodLinkNest "AfterOffice$Facts" 40 yX11_within "AfterOffice" ∈ lw_tbl := tb_tab (tt_4 (List.mem_of_getElem? (i := 156) rfl))
theorem ml_X3_44 : Cond.methodLink "AfterOffice$Facts" 44 yX3_annulledBy ∈ TB := tb_mem (tb_tab (tt_4 (List.mem_of_getElem? (i := 148) rfl))) rfl
theorem ml_X3_48 : Cond.methodLink "AfterOffice$Facts" 48 yJ7_fill_53178 ∈ TB := tb_mem (tb_tab (tt_4 (List.mem_of_getElem? (i := 173) rfl))) rfl
theorem ml_X3_54 : Cond.methodLink "AfterOffice$Facts" 54 yX3_counts ∈ TB := tb_mem (tb_tab (tt_4 (List.mem_of_getElem? (i := 152) rfl))) rfl
theorem ml_X5_104 : Cond.methodLink "AfterOffice$Parser" 104 yX5_mark ∈ TB := tb_mem (tb_tab (tt_3 (List.mem_of_getElem? (i := 179) rfl))) rfl
theorem ml_X5_108 : Cond.methodLinkNest "AfterOffice$Parser" 108 yX11_within "AfterOffice" ∈ lw_tbl := tb_tab (tt_3 (List.mem_of_getElem? (i := 187) rfl))
theorem ml_X5_112 : Cond.methodLink "AfterOffice$Parser" 112 yX5_takeNewName ∈ TB := tb_mem (tb_tab (tt_3 (List.mem_of_getElem? (i := 172) rfl))) rfl
theorem ml_X5_116 : Cond.methodLink "AfterOffice$Parser" 116 yX5_takeInt ∈ TB := tb_mem (tb_tab (tt_3 (List.mem_of_getElem? (i := 183) rfl))) rfl
theorem ml_X5_126 : Cond.methodLink "AfterOffice$Parser" 126 yX5_takeTold ∈ TB := tb_mem (tb_tab (tt_3 (List.mem_of_getElem? (i := 196) rfl))) rfl
theorem ml_X5_145 : Cond.methodLink "AfterOffice$Parser" 145 yX5_takeLetterInts ∈ TB := tb_mem (tb_tab (tt_3 (List.mem_of_getElem? (i := 204) rfl))) rfl
theorem ml_X5_155 : Cond.methodLink "AfterOffice$Parser" 155 yX5_condition ∈ TB := tb_mem (tb_tab (tt_3 (List.mem_of_getElem? (i := 208) rfl))) rfl
theorem ml_X5_173 : Cond.methodLink "AfterOffice$Parser" 173 yX5_expression ∈ TB := tb_mem (tb_tab (tt_3 (List.mem_of_getElem? (i := 220) rfl))) rfl
theorem ml_X5_185 : Cond.methodLink "AfterOffice$Parser" 185 yX5_literal ∈ TB := tb_mem (tb_tab (tt_3 (List.mem_of_getElem? (i := 212) rfl))) rfl
theorem ml_X5_188 : Cond.methodLink "AfterOffice$Parser" 188 yX5_emit ∈ TB := tb_mem (tb_tab (tt_3 (List.mem_of_getElem? (i := 216) rfl))) rfl
theorem ml_X5_191 : Cond.methodLink "AfterOffice$Parser" 191 yX5_closenessOf ∈ TB := tb_mem (tb_tab (tt_3 (List.mem_of_getElem? (i := 224) rfl))) rfl
theorem ml_X5_195 : Cond.methodLink "AfterOffice$Parser" 195 Lib.Math.max.name ∈ TB := tb_mem (tb_tab (tt_3 (List.mem_of_getElem? (i := 227) rfl))) rfl
theorem ml_X5_203 : Cond.methodLink "AfterOffice$Parser" 203 yX5_settleRead ∈ TB := tb_mem (tb_tab (tt_4 (List.mem_of_getElem? (i := 2) rfl))) rfl
theorem ml_X5_33 : Cond.methodLink "AfterOffice$Parser" 33 yX0_clear ∈ TB := tb_mem (tb_tab (tt_3 (List.mem_of_getElem? (i := 151) rfl))) rfl
theorem ml_X5_56 : Cond.methodLink "AfterOffice$Parser" 56 yX5_tell ∈ TB := tb_mem (tb_tab (tt_3 (List.mem_of_getElem? (i := 156) rfl))) rfl
theorem ml_X5_60 : Cond.methodLink "AfterOffice$Parser" 60 yX5_tellPerson ∈ TB := tb_mem (tb_tab (tt_3 (List.mem_of_getElem? (i := 160) rfl))) rfl
theorem ml_X5_63 : Cond.methodLink "AfterOffice$Parser" 63 yX5_tellClerk ∈ TB := tb_mem (tb_tab (tt_3 (List.mem_of_getElem? (i := 188) rfl))) rfl
theorem ml_X5_66 : Cond.methodLink "AfterOffice$Parser" 66 yX5_tellBarred ∈ TB := tb_mem (tb_tab (tt_3 (List.mem_of_getElem? (i := 192) rfl))) rfl
theorem ml_X5_69 : Cond.methodLink "AfterOffice$Parser" 69 yX5_tellLetter ∈ TB := tb_mem (tb_tab (tt_3 (List.mem_of_getElem? (i := 200) rfl))) rfl
theorem ml_X5_72 : Cond.methodLink "AfterOffice$Parser" 72 yX5_tellProof ∈ TB := tb_mem (tb_tab (tt_3 (List.mem_of_getElem? (i := 230) rfl))) rfl
theorem ml_X5_75 : Cond.methodLink "AfterOffice$Parser" 75 yX5_tellRule ∈ TB := tb_mem (tb_tab (tt_3 (List.mem_of_getElem? (i := 234) rfl))) rfl
theorem ml_X5_79 : Cond.methodLink "AfterOffice$Parser" 79 yX5_stop ∈ TB := tb_mem (tb_tab (tt_3 (List.mem_of_getElem? (i := 164) rfl))) rfl
theorem ml_X5_88 : Cond.methodLink "AfterOffice$Parser" 88 yX5_take ∈ TB := tb_mem (tb_tab (tt_3 (List.mem_of_getElem? (i := 168) rfl))) rfl
theorem ml_X5_94 : Cond.methodLink "AfterOffice$Parser" 94 yX5_find ∈ TB := tb_mem (tb_tab (tt_3 (List.mem_of_getElem? (i := 176) rfl))) rfl
theorem ml_X6_37 : Cond.methodLink "AfterOffice$Reckoner" 37 yX6_ruled ∈ TB := tb_mem (tb_tab (tt_4 (List.mem_of_getElem? (i := 21) rfl))) rfl
theorem ml_X6_41 : Cond.methodLinkNest "AfterOffice$Reckoner" 41 yX11_keepTo "AfterOffice" ∈ lw_tbl := tb_tab (tt_4 (List.mem_of_getElem? (i := 42) rfl))
theorem ml_X6_51 : Cond.methodLink "AfterOffice$Reckoner" 51 yX6_execute ∈ TB := tb_mem (tb_tab (tt_4 (List.mem_of_getElem? (i := 25) rfl))) rfl
theorem ml_X6_72 : Cond.methodLink "AfterOffice$Reckoner" 72 Lib.Math.max.name ∈ TB := tb_mem (tb_tab (tt_4 (List.mem_of_getElem? (i := 29) rfl))) rfl
theorem ml_X6_83 : Cond.methodLink "AfterOffice$Reckoner" 83 yX6_valueOf ∈ TB := tb_mem (tb_tab (tt_4 (List.mem_of_getElem? (i := 30) rfl))) rfl
theorem ml_X6_86 : Cond.methodLink "AfterOffice$Reckoner" 86 yX6_compared ∈ TB := tb_mem (tb_tab (tt_4 (List.mem_of_getElem? (i := 34) rfl))) rfl
theorem ml_X6_90 : Cond.methodLink "AfterOffice$Reckoner" 90 yX6_joined ∈ TB := tb_mem (tb_tab (tt_4 (List.mem_of_getElem? (i := 38) rfl))) rfl
theorem ml_X7_34 : Cond.methodLinkNest "AfterOffice$Rings" 34 yX11_has "AfterOffice" ∈ lw_tbl := tb_tab (tt_5 (List.mem_of_getElem? (i := 144) rfl))
theorem ml_X7_38 : Cond.methodLink "AfterOffice$Rings" 38 yX7_follow ∈ TB := tb_mem (tb_tab (tt_5 (List.mem_of_getElem? (i := 140) rfl))) rfl
theorem ml_X7_41 : Cond.methodLink "AfterOffice$Rings" 41 yX7_mutual ∈ TB := tb_mem (tb_tab (tt_5 (List.mem_of_getElem? (i := 145) rfl))) rfl
theorem ml_X7_45 : Cond.methodLink "AfterOffice$Rings" 45 yJ6_numberOfTrailingZeros_0f7a4 ∈ TB := tb_mem (tb_tab (tt_5 (List.mem_of_getElem? (i := 157) rfl))) rfl
theorem ml_X7_50 : Cond.methodLink "AfterOffice$Rings" 50 yJ6_bitCount_0f7a4 ∈ TB := tb_mem (tb_tab (tt_5 (List.mem_of_getElem? (i := 169) rfl))) rfl
theorem ml_X7_53 : Cond.methodLink "AfterOffice$Rings" 53 yX7_leavesRings ∈ TB := tb_mem (tb_tab (tt_5 (List.mem_of_getElem? (i := 170) rfl))) rfl
theorem ml_X8_19 : Cond.methodLinkNest "AfterOffice$Tape" 19 yX11_within "AfterOffice" ∈ lw_tbl := tb_tab (tt_3 (List.mem_of_getElem? (i := 123) rfl))
theorem ml_X9_44 : Cond.methodLink "AfterOffice$Tokens" 44 yX8_byteAt ∈ TB := tb_mem (tb_tab (tt_3 (List.mem_of_getElem? (i := 119) rfl))) rfl
theorem ml_X9_48 : Cond.methodLink "AfterOffice$Tokens" 48 yX9_isBlank ∈ TB := tb_mem (tb_tab (tt_3 (List.mem_of_getElem? (i := 124) rfl))) rfl
theorem ml_X9_52 : Cond.methodLink "AfterOffice$Tokens" 52 yX9_scanOne ∈ TB := tb_mem (tb_tab (tt_3 (List.mem_of_getElem? (i := 127) rfl))) rfl
theorem ml_X9_56 : Cond.methodLinkNest "AfterOffice$Tokens" 56 yX11_within "AfterOffice" ∈ lw_tbl := tb_tab (tt_3 (List.mem_of_getElem? (i := 131) rfl))
theorem ml_X9_60 : Cond.methodLink "AfterOffice$Tokens" 60 yX9_scanWord ∈ TB := tb_mem (tb_tab (tt_3 (List.mem_of_getElem? (i := 132) rfl))) rfl
theorem ml_X9_63 : Cond.methodLink "AfterOffice$Tokens" 63 yX9_scanInt ∈ TB := tb_mem (tb_tab (tt_3 (List.mem_of_getElem? (i := 140) rfl))) rfl
theorem ml_X9_66 : Cond.methodLink "AfterOffice$Tokens" 66 yX9_signKind ∈ TB := tb_mem (tb_tab (tt_3 (List.mem_of_getElem? (i := 144) rfl))) rfl
theorem ml_X9_70 : Cond.methodLink "AfterOffice$Tokens" 70 yX9_wordKind ∈ TB := tb_mem (tb_tab (tt_3 (List.mem_of_getElem? (i := 136) rfl))) rfl
theorem ck_J13_numberOfTrailingZeros_95d88 : CK yJ13_numberOfTrailingZeros_95d88 cJ13_numberOfTrailingZeros_95d88 3 (some .int) 1 := ⟨tb_mem (tb_tab (tt_5 (List.mem_of_getElem? (i := 196) rfl))) rfl, tb_mem (tb_tab (tt_1 (List.mem_of_getElem? (i := 23) rfl))) rfl, by decide, by decide⟩
theorem ck_J6_bitCount_0f7a4 : CK yJ6_bitCount_0f7a4 cJ6_bitCount_0f7a4 1 (some .int) 1 := ⟨tb_mem (tb_tab (tt_5 (List.mem_of_getElem? (i := 124) rfl))) rfl, tb_mem (tb_tab (tt_1 (List.mem_of_getElem? (i := 22) rfl))) rfl, by decide, by decide⟩
theorem ck_J6_numberOfTrailingZeros_0f7a4 : CK yJ6_numberOfTrailingZeros_0f7a4 cJ6_numberOfTrailingZeros_0f7a4 2 (some .int) 1 := ⟨tb_mem (tb_tab (tt_5 (List.mem_of_getElem? (i := 159) rfl))) rfl, tb_mem (tb_tab (tt_1 (List.mem_of_getElem? (i := 22) rfl))) rfl, by decide, by decide⟩
theorem ck_J7_fill_53178 : CK yJ7_fill_53178 cJ7_fill_53178 4 none 2 := ⟨tb_mem (tb_tab (tt_1 (List.mem_of_getElem? (i := 192) rfl))) rfl, tb_mem (tb_tab (tt_1 (List.mem_of_getElem? (i := 10) rfl))) rfl, by decide, by decide⟩
theorem ck_J7_fill_d0a16 : CK yJ7_fill_d0a16 cJ7_fill_d0a16 5 none 2 := ⟨tb_mem (tb_tab (tt_5 (List.mem_of_getElem? (i := 184) rfl))) rfl, tb_mem (tb_tab (tt_1 (List.mem_of_getElem? (i := 10) rfl))) rfl, by decide, by decide⟩
theorem ck_X0_become : CK yX0_become cX0_become 3 none 1 := ⟨tb_mem (tb_tab (tt_4 (List.mem_of_getElem? (i := 9) rfl))) rfl, tb_mem (tb_tab (tt_1 (List.mem_of_getElem? (i := 8) rfl))) rfl, by decide, by decide⟩
theorem ck_X0_clear : CK yX0_clear cX0_clear 1 none 0 := ⟨tb_mem (tb_tab (tt_1 (List.mem_of_getElem? (i := 189) rfl))) rfl, tb_mem (tb_tab (tt_1 (List.mem_of_getElem? (i := 8) rfl))) rfl, by decide, by decide⟩
theorem ck_X0_clerkMay : CK yX0_clerkMay cX0_clerkMay 3 (some .boolean) 2 := ⟨tb_mem (tb_tab (tt_4 (List.mem_of_getElem? (i := 220) rfl))) rfl, tb_mem (tb_tab (tt_1 (List.mem_of_getElem? (i := 8) rfl))) rfl, by decide, by decide⟩
theorem ck_X0_clerkOf : CK yX0_clerkOf cX0_clerkOf 2 (some .int) 1 := ⟨tb_mem (tb_tab (tt_4 (List.mem_of_getElem? (i := 92) rfl))) rfl, tb_mem (tb_tab (tt_1 (List.mem_of_getElem? (i := 8) rfl))) rfl, by decide, by decide⟩
theorem ck_X10_cameTo : CK yX10_cameTo cX10_cameTo 5 (some .long) 1 := ⟨tb_mem (tb_tab (tt_5 (List.mem_of_getElem? (i := 188) rfl))) rfl, tb_mem (tb_tab (tt_1 (List.mem_of_getElem? (i := 16) rfl))) rfl, by decide, by decide⟩
theorem ck_X10_firstDue : CK yX10_firstDue cX10_firstDue 6 (some .int) 3 := ⟨tb_mem (tb_tab (tt_5 (List.mem_of_getElem? (i := 205) rfl))) rfl, tb_mem (tb_tab (tt_1 (List.mem_of_getElem? (i := 16) rfl))) rfl, by decide, by decide⟩
theorem ck_X10_foresee : CK yX10_foresee cX10_foresee 7 none 4 := ⟨tb_mem (tb_tab (tt_5 (List.mem_of_getElem? (i := 181) rfl))) rfl, tb_mem (tb_tab (tt_1 (List.mem_of_getElem? (i := 16) rfl))) rfl, by decide, by decide⟩
theorem ck_X10_livesThrough : CK yX10_livesThrough cX10_livesThrough 7 (some .long) 3 := ⟨tb_mem (tb_tab (tt_5 (List.mem_of_getElem? (i := 215) rfl))) rfl, tb_mem (tb_tab (tt_1 (List.mem_of_getElem? (i := 16) rfl))) rfl, by decide, by decide⟩
theorem ck_X10_lookAtAll : CK yX10_lookAtAll cX10_lookAtAll 12 (some .long) 4 := ⟨tb_mem (tb_tab (tt_5 (List.mem_of_getElem? (i := 193) rfl))) rfl, tb_mem (tb_tab (tt_1 (List.mem_of_getElem? (i := 16) rfl))) rfl, by decide, by decide⟩
theorem ck_X10_lookUp : CK yX10_lookUp cX10_lookUp 7 (some .int) 3 := ⟨tb_mem (tb_tab (tt_5 (List.mem_of_getElem? (i := 201) rfl))) rfl, tb_mem (tb_tab (tt_1 (List.mem_of_getElem? (i := 16) rfl))) rfl, by decide, by decide⟩
theorem ck_X10_oddsOf : CK yX10_oddsOf cX10_oddsOf 11 (some .long) 3 := ⟨tb_mem (tb_tab (tt_5 (List.mem_of_getElem? (i := 225) rfl))) rfl, tb_mem (tb_tab (tt_1 (List.mem_of_getElem? (i := 16) rfl))) rfl, by decide, by decide⟩
theorem ck_X10_oddsOfNext : CK yX10_oddsOfNext cX10_oddsOfNext 10 (some .long) 4 := ⟨tb_mem (tb_tab (tt_5 (List.mem_of_getElem? (i := 234) rfl))) rfl, tb_mem (tb_tab (tt_1 (List.mem_of_getElem? (i := 16) rfl))) rfl, by decide, by decide⟩
theorem ck_X10_seekNeed : CK yX10_seekNeed cX10_seekNeed 7 (some .boolean) 4 := ⟨tb_mem (tb_tab (tt_5 (List.mem_of_getElem? (i := 116) rfl))) rfl, tb_mem (tb_tab (tt_1 (List.mem_of_getElem? (i := 16) rfl))) rfl, by decide, by decide⟩
theorem ck_X10_seekNeedOf : CK yX10_seekNeedOf cX10_seekNeedOf 12 (some .boolean) 6 := ⟨tb_mem (tb_tab (tt_5 (List.mem_of_getElem? (i := 120) rfl))) rfl, tb_mem (tb_tab (tt_1 (List.mem_of_getElem? (i := 16) rfl))) rfl, by decide, by decide⟩
theorem ck_X10_waysTo : CK yX10_waysTo cX10_waysTo 8 (some .long) 3 := ⟨tb_mem (tb_tab (tt_5 (List.mem_of_getElem? (i := 229) rfl))) rfl, tb_mem (tb_tab (tt_1 (List.mem_of_getElem? (i := 16) rfl))) rfl, by decide, by decide⟩
theorem ck_X11_areThere : CK yX11_areThere cX11_areThere 3 (some .boolean) 2 := ⟨tb_mem (tb_tab (tt_5 (List.mem_of_getElem? (i := 112) rfl))) rfl, tb_mem (tb_tab (tt_1 (List.mem_of_getElem? (i := 1) rfl))) rfl, by decide, by decide⟩
theorem ck_X11_has : CK yX11_has cX11_has 2 (some .boolean) 2 := ⟨tb_mem (tb_tab (tt_4 (List.mem_of_getElem? (i := 99) rfl))) rfl, tb_mem (tb_tab (tt_1 (List.mem_of_getElem? (i := 1) rfl))) rfl, by decide, by decide⟩
theorem ck_X11_isKnown : CK yX11_isKnown cX11_isKnown 2 (some .boolean) 1 := ⟨tb_mem (tb_tab (tt_4 (List.mem_of_getElem? (i := 143) rfl))) rfl, tb_mem (tb_tab (tt_1 (List.mem_of_getElem? (i := 1) rfl))) rfl, by decide, by decide⟩
theorem ck_X11_isLetter : CK yX11_isLetter cX11_isLetter 2 (some .boolean) 1 := ⟨tb_mem (tb_tab (tt_4 (List.mem_of_getElem? (i := 60) rfl))) rfl, tb_mem (tb_tab (tt_1 (List.mem_of_getElem? (i := 1) rfl))) rfl, by decide, by decide⟩
theorem ck_X11_isLook : CK yX11_isLook cX11_isLook 2 (some .boolean) 1 := ⟨tb_mem (tb_tab (tt_4 (List.mem_of_getElem? (i := 164) rfl))) rfl, tb_mem (tb_tab (tt_1 (List.mem_of_getElem? (i := 1) rfl))) rfl, by decide, by decide⟩
theorem ck_X11_isPerson : CK yX11_isPerson cX11_isPerson 2 (some .boolean) 1 := ⟨tb_mem (tb_tab (tt_4 (List.mem_of_getElem? (i := 68) rfl))) rfl, tb_mem (tb_tab (tt_1 (List.mem_of_getElem? (i := 1) rfl))) rfl, by decide, by decide⟩
theorem ck_X11_isYear : CK yX11_isYear cX11_isYear 2 (some .boolean) 1 := ⟨tb_mem (tb_tab (tt_4 (List.mem_of_getElem? (i := 72) rfl))) rfl, tb_mem (tb_tab (tt_1 (List.mem_of_getElem? (i := 1) rfl))) rfl, by decide, by decide⟩
theorem ck_X11_keepTo : CK yX11_keepTo cX11_keepTo 2 (some .int) 2 := ⟨tb_mem (tb_tab (tt_4 (List.mem_of_getElem? (i := 44) rfl))) rfl, tb_mem (tb_tab (tt_1 (List.mem_of_getElem? (i := 1) rfl))) rfl, by decide, by decide⟩
theorem ck_X11_within : CK yX11_within cX11_within 3 (some .boolean) 3 := ⟨tb_mem (tb_tab (tt_3 (List.mem_of_getElem? (i := 110) rfl))) rfl, tb_mem (tb_tab (tt_1 (List.mem_of_getElem? (i := 1) rfl))) rfl, by decide, by decide⟩
theorem ck_X12_amiss : CK yX12_amiss cX12_amiss 4 none 2 := ⟨tb_mem (tb_tab (tt_7 (List.mem_of_getElem? (i := 156) rfl))) rfl, tb_mem (tb_tab (tt_1 (List.mem_of_getElem? (i := 18) rfl))) rfl, by decide, by decide⟩
theorem ck_X12_appends : CK yX12_appends cX12_appends 3 (some .long) 2 := ⟨tb_mem (tb_tab (tt_6 (List.mem_of_getElem? (i := 48) rfl))) rfl, tb_mem (tb_tab (tt_1 (List.mem_of_getElem? (i := 18) rfl))) rfl, by decide, by decide⟩
theorem ck_X12_areSets : CK yX12_areSets cX12_areSets 3 (some .boolean) 2 := ⟨tb_mem (tb_tab (tt_9 (List.mem_of_getElem? (i := 23) rfl))) rfl, tb_mem (tb_tab (tt_1 (List.mem_of_getElem? (i := 18) rfl))) rfl, by decide, by decide⟩
theorem ck_X12_asksOf : CK yX12_asksOf cX12_asksOf 4 (some .int) 1 := ⟨tb_mem (tb_tab (tt_8 (List.mem_of_getElem? (i := 228) rfl))) rfl, tb_mem (tb_tab (tt_1 (List.mem_of_getElem? (i := 18) rfl))) rfl, by decide, by decide⟩
theorem ck_X12_becomes : CK yX12_becomes cX12_becomes 4 none 3 := ⟨tb_mem (tb_tab (tt_8 (List.mem_of_getElem? (i := 121) rfl))) rfl, tb_mem (tb_tab (tt_1 (List.mem_of_getElem? (i := 18) rfl))) rfl, by decide, by decide⟩
theorem ck_X12_bits : CK yX12_bits cX12_bits 3 (some .int) 1 := ⟨tb_mem (tb_tab (tt_9 (List.mem_of_getElem? (i := 11) rfl))) rfl, tb_mem (tb_tab (tt_1 (List.mem_of_getElem? (i := 18) rfl))) rfl, by decide, by decide⟩
theorem ck_X12_bounded : CK yX12_bounded cX12_bounded 4 (some .int) 2 := ⟨tb_mem (tb_tab (tt_7 (List.mem_of_getElem? (i := 160) rfl))) rfl, tb_mem (tb_tab (tt_1 (List.mem_of_getElem? (i := 18) rfl))) rfl, by decide, by decide⟩
theorem ck_X12_byteAt : CK yX12_byteAt cX12_byteAt 2 (some .int) 1 := ⟨tb_mem (tb_tab (tt_7 (List.mem_of_getElem? (i := 110) rfl))) rfl, tb_mem (tb_tab (tt_1 (List.mem_of_getElem? (i := 18) rfl))) rfl, by decide, by decide⟩
theorem ck_X12_canCome : CK yX12_canCome cX12_canCome 2 (some .boolean) 1 := ⟨tb_mem (tb_tab (tt_8 (List.mem_of_getElem? (i := 53) rfl))) rfl, tb_mem (tb_tab (tt_1 (List.mem_of_getElem? (i := 18) rfl))) rfl, by decide, by decide⟩
theorem ck_X12_closes : CK yX12_closes cX12_closes 4 none 1 := ⟨tb_mem (tb_tab (tt_8 (List.mem_of_getElem? (i := 236) rfl))) rfl, tb_mem (tb_tab (tt_1 (List.mem_of_getElem? (i := 18) rfl))) rfl, by decide, by decide⟩
theorem ck_X12_comes : CK yX12_comes cX12_comes 5 (some .int) 4 := ⟨tb_mem (tb_tab (tt_8 (List.mem_of_getElem? (i := 57) rfl))) rfl, tb_mem (tb_tab (tt_1 (List.mem_of_getElem? (i := 18) rfl))) rfl, by decide, by decide⟩
theorem ck_X12_comesOut : CK yX12_comesOut cX12_comesOut 3 none 1 := ⟨tb_mem (tb_tab (tt_7 (List.mem_of_getElem? (i := 208) rfl))) rfl, tb_mem (tb_tab (tt_1 (List.mem_of_getElem? (i := 18) rfl))) rfl, by decide, by decide⟩
theorem ck_X12_condition : CK yX12_condition cX12_condition 3 none 0 := ⟨tb_mem (tb_tab (tt_7 (List.mem_of_getElem? (i := 188) rfl))) rfl, tb_mem (tb_tab (tt_1 (List.mem_of_getElem? (i := 18) rfl))) rfl, by decide, by decide⟩
theorem ck_X12_counts : CK yX12_counts cX12_counts 4 (some .boolean) 2 := ⟨tb_mem (tb_tab (tt_8 (List.mem_of_getElem? (i := 101) rfl))) rfl, tb_mem (tb_tab (tt_1 (List.mem_of_getElem? (i := 18) rfl))) rfl, by decide, by decide⟩
theorem ck_X12_cut : CK yX12_cut cX12_cut 8 none 0 := ⟨tb_mem (tb_tab (tt_7 (List.mem_of_getElem? (i := 106) rfl))) rfl, tb_mem (tb_tab (tt_1 (List.mem_of_getElem? (i := 18) rfl))) rfl, by decide, by decide⟩
theorem ck_X12_diesBy : CK yX12_diesBy cX12_diesBy 3 (some .int) 2 := ⟨tb_mem (tb_tab (tt_8 (List.mem_of_getElem? (i := 10) rfl))) rfl, tb_mem (tb_tab (tt_1 (List.mem_of_getElem? (i := 18) rfl))) rfl, by decide, by decide⟩
theorem ck_X12_emit : CK yX12_emit cX12_emit 3 none 2 := ⟨tb_mem (tb_tab (tt_7 (List.mem_of_getElem? (i := 204) rfl))) rfl, tb_mem (tb_tab (tt_1 (List.mem_of_getElem? (i := 18) rfl))) rfl, by decide, by decide⟩
theorem ck_X12_expression : CK yX12_expression cX12_expression 3 none 0 := ⟨tb_mem (tb_tab (tt_7 (List.mem_of_getElem? (i := 196) rfl))) rfl, tb_mem (tb_tab (tt_1 (List.mem_of_getElem? (i := 18) rfl))) rfl, by decide, by decide⟩
theorem ck_X12_fail : CK yX12_fail cX12_fail 2 none 1 := ⟨tb_mem (tb_tab (tt_7 (List.mem_of_getElem? (i := 136) rfl))) rfl, tb_mem (tb_tab (tt_1 (List.mem_of_getElem? (i := 18) rfl))) rfl, by decide, by decide⟩
theorem ck_X12_feeOf : CK yX12_feeOf cX12_feeOf 3 (some .int) 2 := ⟨tb_mem (tb_tab (tt_8 (List.mem_of_getElem? (i := 33) rfl))) rfl, tb_mem (tb_tab (tt_1 (List.mem_of_getElem? (i := 18) rfl))) rfl, by decide, by decide⟩
theorem ck_X12_fillLooks : CK yX12_fillLooks cX12_fillLooks 6 none 1 := ⟨tb_mem (tb_tab (tt_9 (List.mem_of_getElem? (i := 35) rfl))) rfl, tb_mem (tb_tab (tt_1 (List.mem_of_getElem? (i := 18) rfl))) rfl, by decide, by decide⟩
theorem ck_X12_find : CK yX12_find cX12_find 4 (some .int) 2 := ⟨tb_mem (tb_tab (tt_7 (List.mem_of_getElem? (i := 180) rfl))) rfl, tb_mem (tb_tab (tt_1 (List.mem_of_getElem? (i := 18) rfl))) rfl, by decide, by decide⟩
theorem ck_X12_findsRead : CK yX12_findsRead cX12_findsRead 3 none 0 := ⟨tb_mem (tb_tab (tt_7 (List.mem_of_getElem? (i := 212) rfl))) rfl, tb_mem (tb_tab (tt_1 (List.mem_of_getElem? (i := 18) rfl))) rfl, by decide, by decide⟩
theorem ck_X12_floods : CK yX12_floods cX12_floods 4 none 2 := ⟨tb_mem (tb_tab (tt_8 (List.mem_of_getElem? (i := 137) rfl))) rfl, tb_mem (tb_tab (tt_1 (List.mem_of_getElem? (i := 18) rfl))) rfl, by decide, by decide⟩
theorem ck_X12_gains : CK yX12_gains cX12_gains 3 (some .int) 0 := ⟨tb_mem (tb_tab (tt_8 (List.mem_of_getElem? (i := 204) rfl))) rfl, tb_mem (tb_tab (tt_1 (List.mem_of_getElem? (i := 18) rfl))) rfl, by decide, by decide⟩
theorem ck_X12_goesOn : CK yX12_goesOn cX12_goesOn 1 none 0 := ⟨tb_mem (tb_tab (tt_7 (List.mem_of_getElem? (i := 144) rfl))) rfl, tb_mem (tb_tab (tt_1 (List.mem_of_getElem? (i := 18) rfl))) rfl, by decide, by decide⟩
theorem ck_X12_goodOf : CK yX12_goodOf cX12_goodOf 4 (some .int) 3 := ⟨tb_mem (tb_tab (tt_8 (List.mem_of_getElem? (i := 208) rfl))) rfl, tb_mem (tb_tab (tt_1 (List.mem_of_getElem? (i := 18) rfl))) rfl, by decide, by decide⟩
theorem ck_X12_happens : CK yX12_happens cX12_happens 5 none 2 := ⟨tb_mem (tb_tab (tt_8 (List.mem_of_getElem? (i := 117) rfl))) rfl, tb_mem (tb_tab (tt_1 (List.mem_of_getElem? (i := 18) rfl))) rfl, by decide, by decide⟩
theorem ck_X12_hasLetter : CK yX12_hasLetter cX12_hasLetter 2 (some .boolean) 1 := ⟨tb_mem (tb_tab (tt_7 (List.mem_of_getElem? (i := 224) rfl))) rfl, tb_mem (tb_tab (tt_1 (List.mem_of_getElem? (i := 18) rfl))) rfl, by decide, by decide⟩
theorem ck_X12_hasRings : CK yX12_hasRings cX12_hasRings 3 (some .boolean) 1 := ⟨tb_mem (tb_tab (tt_9 (List.mem_of_getElem? (i := 15) rfl))) rfl, tb_mem (tb_tab (tt_1 (List.mem_of_getElem? (i := 18) rfl))) rfl, by decide, by decide⟩
theorem ck_X12_held : CK yX12_held cX12_held 2 (some .int) 2 := ⟨tb_mem (tb_tab (tt_8 (List.mem_of_getElem? (i := 25) rfl))) rfl, tb_mem (tb_tab (tt_1 (List.mem_of_getElem? (i := 18) rfl))) rfl, by decide, by decide⟩
theorem ck_X12_holdsFor : CK yX12_holdsFor cX12_holdsFor 6 (some .boolean) 4 := ⟨tb_mem (tb_tab (tt_8 (List.mem_of_getElem? (i := 125) rfl))) rfl, tb_mem (tb_tab (tt_1 (List.mem_of_getElem? (i := 18) rfl))) rfl, by decide, by decide⟩
theorem ck_X12_holdsRule : CK yX12_holdsRule cX12_holdsRule 4 (some .boolean) 1 := ⟨tb_mem (tb_tab (tt_8 (List.mem_of_getElem? (i := 129) rfl))) rfl, tb_mem (tb_tab (tt_1 (List.mem_of_getElem? (i := 18) rfl))) rfl, by decide, by decide⟩
theorem ck_X12_in : CK yX12_in cX12_in 3 (some .boolean) 3 := ⟨tb_mem (tb_tab (tt_7 (List.mem_of_getElem? (i := 227) rfl))) rfl, tb_mem (tb_tab (tt_1 (List.mem_of_getElem? (i := 18) rfl))) rfl, by decide, by decide⟩
theorem ck_X12_is : CK yX12_is cX12_is 2 (some .boolean) 1 := ⟨tb_mem (tb_tab (tt_7 (List.mem_of_getElem? (i := 128) rfl))) rfl, tb_mem (tb_tab (tt_1 (List.mem_of_getElem? (i := 18) rfl))) rfl, by decide, by decide⟩
theorem ck_X12_isBarred : CK yX12_isBarred cX12_isBarred 4 (some .boolean) 2 := ⟨tb_mem (tb_tab (tt_8 (List.mem_of_getElem? (i := 45) rfl))) rfl, tb_mem (tb_tab (tt_1 (List.mem_of_getElem? (i := 18) rfl))) rfl, by decide, by decide⟩
theorem ck_X12_isClerkBarred : CK yX12_isClerkBarred cX12_isClerkBarred 3 (some .boolean) 2 := ⟨tb_mem (tb_tab (tt_8 (List.mem_of_getElem? (i := 153) rfl))) rfl, tb_mem (tb_tab (tt_1 (List.mem_of_getElem? (i := 18) rfl))) rfl, by decide, by decide⟩
theorem ck_X12_isDigit : CK yX12_isDigit cX12_isDigit 1 (some .boolean) 1 := ⟨tb_mem (tb_tab (tt_7 (List.mem_of_getElem? (i := 120) rfl))) rfl, tb_mem (tb_tab (tt_1 (List.mem_of_getElem? (i := 18) rfl))) rfl, by decide, by decide⟩
theorem ck_X12_isDue : CK yX12_isDue cX12_isDue 3 (some .boolean) 2 := ⟨tb_mem (tb_tab (tt_8 (List.mem_of_getElem? (i := 149) rfl))) rfl, tb_mem (tb_tab (tt_1 (List.mem_of_getElem? (i := 18) rfl))) rfl, by decide, by decide⟩
theorem ck_X12_isEach : CK yX12_isEach cX12_isEach 1 (some .boolean) 1 := ⟨tb_mem (tb_tab (tt_8 (List.mem_of_getElem? (i := 188) rfl))) rfl, tb_mem (tb_tab (tt_1 (List.mem_of_getElem? (i := 18) rfl))) rfl, by decide, by decide⟩
theorem ck_X12_isKnown : CK yX12_isKnown cX12_isKnown 2 (some .boolean) 1 := ⟨tb_mem (tb_tab (tt_8 (List.mem_of_getElem? (i := 93) rfl))) rfl, tb_mem (tb_tab (tt_1 (List.mem_of_getElem? (i := 18) rfl))) rfl, by decide, by decide⟩
theorem ck_X12_isLetter : CK yX12_isLetter cX12_isLetter 1 (some .boolean) 1 := ⟨tb_mem (tb_tab (tt_7 (List.mem_of_getElem? (i := 117) rfl))) rfl, tb_mem (tb_tab (tt_1 (List.mem_of_getElem? (i := 18) rfl))) rfl, by decide, by decide⟩
theorem ck_X12_isPerson : CK yX12_isPerson cX12_isPerson 2 (some .boolean) 1 := ⟨tb_mem (tb_tab (tt_8 (List.mem_of_getElem? (i := 3) rfl))) rfl, tb_mem (tb_tab (tt_1 (List.mem_of_getElem? (i := 18) rfl))) rfl, by decide, by decide⟩
theorem ck_X12_isTrue : CK yX12_isTrue cX12_isTrue 6 (some .boolean) 1 := ⟨tb_mem (tb_tab (tt_8 (List.mem_of_getElem? (i := 133) rfl))) rfl, tb_mem (tb_tab (tt_1 (List.mem_of_getElem? (i := 18) rfl))) rfl, by decide, by decide⟩
theorem ck_X12_isWatched : CK yX12_isWatched cX12_isWatched 3 (some .boolean) 1 := ⟨tb_mem (tb_tab (tt_8 (List.mem_of_getElem? (i := 196) rfl))) rfl, tb_mem (tb_tab (tt_1 (List.mem_of_getElem? (i := 18) rfl))) rfl, by decide, by decide⟩
theorem ck_X12_isYear : CK yX12_isYear cX12_isYear 1 (some .boolean) 1 := ⟨tb_mem (tb_tab (tt_8 (List.mem_of_getElem? (i := 6) rfl))) rfl, tb_mem (tb_tab (tt_1 (List.mem_of_getElem? (i := 18) rfl))) rfl, by decide, by decide⟩
theorem ck_X12_keepsYearly : CK yX12_keepsYearly cX12_keepsYearly 2 none 0 := ⟨tb_mem (tb_tab (tt_8 (List.mem_of_getElem? (i := 177) rfl))) rfl, tb_mem (tb_tab (tt_1 (List.mem_of_getElem? (i := 18) rfl))) rfl, by decide, by decide⟩
theorem ck_X12_known : CK yX12_known cX12_known 4 (some .int) 1 := ⟨tb_mem (tb_tab (tt_7 (List.mem_of_getElem? (i := 176) rfl))) rfl, tb_mem (tb_tab (tt_1 (List.mem_of_getElem? (i := 18) rfl))) rfl, by decide, by decide⟩
theorem ck_X12_literal : CK yX12_literal cX12_literal 6 none 1 := ⟨tb_mem (tb_tab (tt_7 (List.mem_of_getElem? (i := 192) rfl))) rfl, tb_mem (tb_tab (tt_1 (List.mem_of_getElem? (i := 18) rfl))) rfl, by decide, by decide⟩
theorem ck_X12_livesBy : CK yX12_livesBy cX12_livesBy 5 none 2 := ⟨tb_mem (tb_tab (tt_9 (List.mem_of_getElem? (i := 66) rfl))) rfl, tb_mem (tb_tab (tt_1 (List.mem_of_getElem? (i := 18) rfl))) rfl, by decide, by decide⟩
theorem ck_X12_lookFrom : CK yX12_lookFrom cX12_lookFrom 7 (some .int) 3 := ⟨tb_mem (tb_tab (tt_9 (List.mem_of_getElem? (i := 58) rfl))) rfl, tb_mem (tb_tab (tt_1 (List.mem_of_getElem? (i := 18) rfl))) rfl, by decide, by decide⟩
theorem ck_X12_looksNow : CK yX12_looksNow cX12_looksNow 4 none 1 := ⟨tb_mem (tb_tab (tt_8 (List.mem_of_getElem? (i := 145) rfl))) rfl, tb_mem (tb_tab (tt_1 (List.mem_of_getElem? (i := 18) rfl))) rfl, by decide, by decide⟩
theorem ck_X12_lot : CK yX12_lot cX12_lot 3 (some .int) 3 := ⟨tb_mem (tb_tab (tt_9 (List.mem_of_getElem? (i := 69) rfl))) rfl, tb_mem (tb_tab (tt_1 (List.mem_of_getElem? (i := 18) rfl))) rfl, by decide, by decide⟩
theorem ck_X12_mayBeOpened : CK yX12_mayBeOpened cX12_mayBeOpened 5 (some .boolean) 4 := ⟨tb_mem (tb_tab (tt_9 (List.mem_of_getElem? (i := 39) rfl))) rfl, tb_mem (tb_tab (tt_1 (List.mem_of_getElem? (i := 18) rfl))) rfl, by decide, by decide⟩
theorem ck_X12_mixed : CK yX12_mixed cX12_mixed 3 (some .int) 2 := ⟨tb_mem (tb_tab (tt_9 (List.mem_of_getElem? (i := 72) rfl))) rfl, tb_mem (tb_tab (tt_1 (List.mem_of_getElem? (i := 18) rfl))) rfl, by decide, by decide⟩
theorem ck_X12_must : CK yX12_must cX12_must 2 none 1 := ⟨tb_mem (tb_tab (tt_7 (List.mem_of_getElem? (i := 152) rfl))) rfl, tb_mem (tb_tab (tt_1 (List.mem_of_getElem? (i := 18) rfl))) rfl, by decide, by decide⟩
theorem ck_X12_named : CK yX12_named cX12_named 3 (some .int) 0 := ⟨tb_mem (tb_tab (tt_7 (List.mem_of_getElem? (i := 148) rfl))) rfl, tb_mem (tb_tab (tt_1 (List.mem_of_getElem? (i := 18) rfl))) rfl, by decide, by decide⟩
theorem ck_X12_needs : CK yX12_needs cX12_needs 8 none 4 := ⟨tb_mem (tb_tab (tt_9 (List.mem_of_getElem? (i := 27) rfl))) rfl, tb_mem (tb_tab (tt_1 (List.mem_of_getElem? (i := 18) rfl))) rfl, by decide, by decide⟩
theorem ck_X12_notes : CK yX12_notes cX12_notes 4 none 3 := ⟨tb_mem (tb_tab (tt_7 (List.mem_of_getElem? (i := 164) rfl))) rfl, tb_mem (tb_tab (tt_1 (List.mem_of_getElem? (i := 18) rfl))) rfl, by decide, by decide⟩
theorem ck_X12_pays : CK yX12_pays cX12_pays 4 none 1 := ⟨tb_mem (tb_tab (tt_8 (List.mem_of_getElem? (i := 141) rfl))) rfl, tb_mem (tb_tab (tt_1 (List.mem_of_getElem? (i := 18) rfl))) rfl, by decide, by decide⟩
theorem ck_X12_put : CK yX12_put cX12_put 3 none 1 := ⟨tb_mem (tb_tab (tt_7 (List.mem_of_getElem? (i := 94) rfl))) rfl, tb_mem (tb_tab (tt_1 (List.mem_of_getElem? (i := 18) rfl))) rfl, by decide, by decide⟩
theorem ck_X12_reader : CK yX12_reader cX12_reader 2 (some .int) 1 := ⟨tb_mem (tb_tab (tt_7 (List.mem_of_getElem? (i := 235) rfl))) rfl, tb_mem (tb_tab (tt_1 (List.mem_of_getElem? (i := 18) rfl))) rfl, by decide, by decide⟩
theorem ck_X12_ringOf : CK yX12_ringOf cX12_ringOf 4 (some .int) 1 := ⟨tb_mem (tb_tab (tt_9 (List.mem_of_getElem? (i := 0) rfl))) rfl, tb_mem (tb_tab (tt_1 (List.mem_of_getElem? (i := 18) rfl))) rfl, by decide, by decide⟩
theorem ck_X12_runs : CK yX12_runs cX12_runs 9 none 6 := ⟨tb_mem (tb_tab (tt_8 (List.mem_of_getElem? (i := 109) rfl))) rfl, tb_mem (tb_tab (tt_1 (List.mem_of_getElem? (i := 18) rfl))) rfl, by decide, by decide⟩
theorem ck_X12_runsAll : CK yX12_runsAll cX12_runsAll 2 none 1 := ⟨tb_mem (tb_tab (tt_8 (List.mem_of_getElem? (i := 169) rfl))) rfl, tb_mem (tb_tab (tt_1 (List.mem_of_getElem? (i := 18) rfl))) rfl, by decide, by decide⟩
theorem ck_X12_says : CK yX12_says cX12_says 6 (some .int) 3 := ⟨tb_mem (tb_tab (tt_8 (List.mem_of_getElem? (i := 18) rfl))) rfl, tb_mem (tb_tab (tt_1 (List.mem_of_getElem? (i := 18) rfl))) rfl, by decide, by decide⟩
theorem ck_X12_sees : CK yX12_sees cX12_sees 5 none 4 := ⟨tb_mem (tb_tab (tt_8 (List.mem_of_getElem? (i := 14) rfl))) rfl, tb_mem (tb_tab (tt_1 (List.mem_of_getElem? (i := 18) rfl))) rfl, by decide, by decide⟩
theorem ck_X12_sign : CK yX12_sign cX12_sign 6 (some .int) 3 := ⟨tb_mem (tb_tab (tt_7 (List.mem_of_getElem? (i := 124) rfl))) rfl, tb_mem (tb_tab (tt_1 (List.mem_of_getElem? (i := 18) rfl))) rfl, by decide, by decide⟩
theorem ck_X12_starts : CK yX12_starts cX12_starts 2 none 0 := ⟨tb_mem (tb_tab (tt_8 (List.mem_of_getElem? (i := 113) rfl))) rfl, tb_mem (tb_tab (tt_1 (List.mem_of_getElem? (i := 18) rfl))) rfl, by decide, by decide⟩
theorem ck_X12_tell : CK yX12_tell cX12_tell 2 none 0 := ⟨tb_mem (tb_tab (tt_7 (List.mem_of_getElem? (i := 132) rfl))) rfl, tb_mem (tb_tab (tt_1 (List.mem_of_getElem? (i := 18) rfl))) rfl, by decide, by decide⟩
theorem ck_X12_tellBar : CK yX12_tellBar cX12_tellBar 3 none 0 := ⟨tb_mem (tb_tab (tt_7 (List.mem_of_getElem? (i := 172) rfl))) rfl, tb_mem (tb_tab (tt_1 (List.mem_of_getElem? (i := 18) rfl))) rfl, by decide, by decide⟩
theorem ck_X12_tellClerk : CK yX12_tellClerk cX12_tellClerk 2 none 0 := ⟨tb_mem (tb_tab (tt_7 (List.mem_of_getElem? (i := 168) rfl))) rfl, tb_mem (tb_tab (tt_1 (List.mem_of_getElem? (i := 18) rfl))) rfl, by decide, by decide⟩
theorem ck_X12_tellLetter : CK yX12_tellLetter cX12_tellLetter 3 none 0 := ⟨tb_mem (tb_tab (tt_7 (List.mem_of_getElem? (i := 184) rfl))) rfl, tb_mem (tb_tab (tt_1 (List.mem_of_getElem? (i := 18) rfl))) rfl, by decide, by decide⟩
theorem ck_X12_tellPerson : CK yX12_tellPerson cX12_tellPerson 3 none 0 := ⟨tb_mem (tb_tab (tt_7 (List.mem_of_getElem? (i := 140) rfl))) rfl, tb_mem (tb_tab (tt_1 (List.mem_of_getElem? (i := 18) rfl))) rfl, by decide, by decide⟩
theorem ck_X12_termOf : CK yX12_termOf cX12_termOf 8 (some .int) 2 := ⟨tb_mem (tb_tab (tt_8 (List.mem_of_getElem? (i := 22) rfl))) rfl, tb_mem (tb_tab (tt_1 (List.mem_of_getElem? (i := 18) rfl))) rfl, by decide, by decide⟩
theorem ck_X12_those : CK yX12_those cX12_those 4 (some .int) 1 := ⟨tb_mem (tb_tab (tt_9 (List.mem_of_getElem? (i := 77) rfl))) rfl, tb_mem (tb_tab (tt_1 (List.mem_of_getElem? (i := 18) rfl))) rfl, by decide, by decide⟩
theorem ck_X12_token : CK yX12_token cX12_token 6 none 4 := ⟨tb_mem (tb_tab (tt_7 (List.mem_of_getElem? (i := 114) rfl))) rfl, tb_mem (tb_tab (tt_1 (List.mem_of_getElem? (i := 18) rfl))) rfl, by decide, by decide⟩
theorem ck_X12_unit : CK yX12_unit cX12_unit 1 none 0 := ⟨tb_mem (tb_tab (tt_7 (List.mem_of_getElem? (i := 200) rfl))) rfl, tb_mem (tb_tab (tt_1 (List.mem_of_getElem? (i := 18) rfl))) rfl, by decide, by decide⟩
theorem ck_X12_waysOf : CK yX12_waysOf cX12_waysOf 7 (some .long) 3 := ⟨tb_mem (tb_tab (tt_9 (List.mem_of_getElem? (i := 53) rfl))) rfl, tb_mem (tb_tab (tt_1 (List.mem_of_getElem? (i := 18) rfl))) rfl, by decide, by decide⟩
theorem ck_X12_weightOf : CK yX12_weightOf cX12_weightOf 6 (some .int) 3 := ⟨tb_mem (tb_tab (tt_8 (List.mem_of_getElem? (i := 97) rfl))) rfl, tb_mem (tb_tab (tt_1 (List.mem_of_getElem? (i := 18) rfl))) rfl, by decide, by decide⟩
theorem ck_X12_writer : CK yX12_writer cX12_writer 2 (some .int) 1 := ⟨tb_mem (tb_tab (tt_7 (List.mem_of_getElem? (i := 231) rfl))) rfl, tb_mem (tb_tab (tt_1 (List.mem_of_getElem? (i := 18) rfl))) rfl, by decide, by decide⟩
theorem ck_X1_become : CK yX1_become cX1_become 2 none 1 := ⟨tb_mem (tb_tab (tt_5 (List.mem_of_getElem? (i := 93) rfl))) rfl, tb_mem (tb_tab (tt_1 (List.mem_of_getElem? (i := 15) rfl))) rfl, by decide, by decide⟩
theorem ck_X1_begin : CK yX1_begin cX1_begin 3 none 1 := ⟨tb_mem (tb_tab (tt_4 (List.mem_of_getElem? (i := 181) rfl))) rfl, tb_mem (tb_tab (tt_1 (List.mem_of_getElem? (i := 15) rfl))) rfl, by decide, by decide⟩
theorem ck_X1_endAs : CK yX1_endAs cX1_endAs 4 none 3 := ⟨tb_mem (tb_tab (tt_4 (List.mem_of_getElem? (i := 195) rfl))) rfl, tb_mem (tb_tab (tt_1 (List.mem_of_getElem? (i := 15) rfl))) rfl, by decide, by decide⟩
theorem ck_X1_firstDue : CK yX1_firstDue cX1_firstDue 4 (some .int) 1 := ⟨tb_mem (tb_tab (tt_4 (List.mem_of_getElem? (i := 216) rfl))) rfl, tb_mem (tb_tab (tt_1 (List.mem_of_getElem? (i := 15) rfl))) rfl, by decide, by decide⟩
theorem ck_X1_floodShelf : CK yX1_floodShelf cX1_floodShelf 4 none 2 := ⟨tb_mem (tb_tab (tt_4 (List.mem_of_getElem? (i := 203) rfl))) rfl, tb_mem (tb_tab (tt_1 (List.mem_of_getElem? (i := 15) rfl))) rfl, by decide, by decide⟩
theorem ck_X1_hasBeenOpened : CK yX1_hasBeenOpened cX1_hasBeenOpened 2 (some .boolean) 1 := ⟨tb_mem (tb_tab (tt_5 (List.mem_of_getElem? (i := 1) rfl))) rfl, tb_mem (tb_tab (tt_1 (List.mem_of_getElem? (i := 15) rfl))) rfl, by decide, by decide⟩
theorem ck_X1_lettersThatAre : CK yX1_lettersThatAre cX1_lettersThatAre 4 (some .int) 1 := ⟨tb_mem (tb_tab (tt_6 (List.mem_of_getElem? (i := 15) rfl))) rfl, tb_mem (tb_tab (tt_1 (List.mem_of_getElem? (i := 15) rfl))) rfl, by decide, by decide⟩
theorem ck_X1_liveByLots : CK yX1_liveByLots cX1_liveByLots 5 none 2 := ⟨tb_mem (tb_tab (tt_6 (List.mem_of_getElem? (i := 6) rfl))) rfl, tb_mem (tb_tab (tt_1 (List.mem_of_getElem? (i := 15) rfl))) rfl, by decide, by decide⟩
theorem ck_X1_lookUp : CK yX1_lookUp cX1_lookUp 4 none 1 := ⟨tb_mem (tb_tab (tt_4 (List.mem_of_getElem? (i := 212) rfl))) rfl, tb_mem (tb_tab (tt_1 (List.mem_of_getElem? (i := 15) rfl))) rfl, by decide, by decide⟩
theorem ck_X1_lot : CK yX1_lot cX1_lot 3 (some .int) 2 := ⟨tb_mem (tb_tab (tt_6 (List.mem_of_getElem? (i := 9) rfl))) rfl, tb_mem (tb_tab (tt_1 (List.mem_of_getElem? (i := 15) rfl))) rfl, by decide, by decide⟩
theorem ck_X1_openedAs : CK yX1_openedAs cX1_openedAs 5 (some .int) 2 := ⟨tb_mem (tb_tab (tt_4 (List.mem_of_getElem? (i := 229) rfl))) rfl, tb_mem (tb_tab (tt_1 (List.mem_of_getElem? (i := 15) rfl))) rfl, by decide, by decide⟩
theorem ck_X1_openingBehind : CK yX1_openingBehind cX1_openingBehind 5 (some .int) 1 := ⟨tb_mem (tb_tab (tt_5 (List.mem_of_getElem? (i := 78) rfl))) rfl, tb_mem (tb_tab (tt_1 (List.mem_of_getElem? (i := 15) rfl))) rfl, by decide, by decide⟩
theorem ck_X1_paidFrom : CK yX1_paidFrom cX1_paidFrom 5 (some .int) 2 := ⟨tb_mem (tb_tab (tt_5 (List.mem_of_getElem? (i := 70) rfl))) rfl, tb_mem (tb_tab (tt_1 (List.mem_of_getElem? (i := 15) rfl))) rfl, by decide, by decide⟩
theorem ck_X1_payFees : CK yX1_payFees cX1_payFees 4 none 1 := ⟨tb_mem (tb_tab (tt_4 (List.mem_of_getElem? (i := 207) rfl))) rfl, tb_mem (tb_tab (tt_1 (List.mem_of_getElem? (i := 15) rfl))) rfl, by decide, by decide⟩
theorem ck_X1_reasonOf : CK yX1_reasonOf cX1_reasonOf 4 (some .int) 2 := ⟨tb_mem (tb_tab (tt_4 (List.mem_of_getElem? (i := 237) rfl))) rfl, tb_mem (tb_tab (tt_1 (List.mem_of_getElem? (i := 15) rfl))) rfl, by decide, by decide⟩
theorem ck_X1_shutAgain : CK yX1_shutAgain cX1_shutAgain 4 none 2 := ⟨tb_mem (tb_tab (tt_5 (List.mem_of_getElem? (i := 104) rfl))) rfl, tb_mem (tb_tab (tt_1 (List.mem_of_getElem? (i := 15) rfl))) rfl, by decide, by decide⟩
theorem ck_X1_takeFact : CK yX1_takeFact cX1_takeFact 5 none 2 := ⟨tb_mem (tb_tab (tt_4 (List.mem_of_getElem? (i := 190) rfl))) rfl, tb_mem (tb_tab (tt_1 (List.mem_of_getElem? (i := 15) rfl))) rfl, by decide, by decide⟩
theorem ck_X1_takeFacts : CK yX1_takeFacts cX1_takeFacts 3 none 1 := ⟨tb_mem (tb_tab (tt_4 (List.mem_of_getElem? (i := 186) rfl))) rfl, tb_mem (tb_tab (tt_1 (List.mem_of_getElem? (i := 15) rfl))) rfl, by decide, by decide⟩
theorem ck_X1_walk : CK yX1_walk cX1_walk 5 none 3 := ⟨tb_mem (tb_tab (tt_4 (List.mem_of_getElem? (i := 177) rfl))) rfl, tb_mem (tb_tab (tt_1 (List.mem_of_getElem? (i := 15) rfl))) rfl, by decide, by decide⟩
theorem ck_X2_allInTime : CK yX2_allInTime cX2_allInTime 4 (some .boolean) 1 := ⟨tb_mem (tb_tab (tt_5 (List.mem_of_getElem? (i := 49) rfl))) rfl, tb_mem (tb_tab (tt_1 (List.mem_of_getElem? (i := 14) rfl))) rfl, by decide, by decide⟩
theorem ck_X2_bothHave : CK yX2_bothHave cX2_bothHave 3 (some .boolean) 2 := ⟨tb_mem (tb_tab (tt_5 (List.mem_of_getElem? (i := 37) rfl))) rfl, tb_mem (tb_tab (tt_1 (List.mem_of_getElem? (i := 14) rfl))) rfl, by decide, by decide⟩
theorem ck_X2_gainsFrom : CK yX2_gainsFrom cX2_gainsFrom 5 (some .int) 1 := ⟨tb_mem (tb_tab (tt_5 (List.mem_of_getElem? (i := 58) rfl))) rfl, tb_mem (tb_tab (tt_1 (List.mem_of_getElem? (i := 14) rfl))) rfl, by decide, by decide⟩
theorem ck_X2_lateOf : CK yX2_lateOf cX2_lateOf 2 (some .int) 1 := ⟨tb_mem (tb_tab (tt_5 (List.mem_of_getElem? (i := 33) rfl))) rfl, tb_mem (tb_tab (tt_1 (List.mem_of_getElem? (i := 14) rfl))) rfl, by decide, by decide⟩
theorem ck_X2_lifeOf : CK yX2_lifeOf cX2_lifeOf 3 (some (.object "AfterOffice$Course")) 2 := ⟨tb_mem (tb_tab (tt_6 (List.mem_of_getElem? (i := 2) rfl))) rfl, tb_mem (tb_tab (tt_1 (List.mem_of_getElem? (i := 14) rfl))) rfl, by decide, by decide⟩
theorem ck_X2_rarestLook : CK yX2_rarestLook cX2_rarestLook 4 (some .int) 2 := ⟨tb_mem (tb_tab (tt_5 (List.mem_of_getElem? (i := 45) rfl))) rfl, tb_mem (tb_tab (tt_1 (List.mem_of_getElem? (i := 14) rfl))) rfl, by decide, by decide⟩
theorem ck_X2_runOf : CK yX2_runOf cX2_runOf 4 (some (.object "AfterOffice$Course")) 3 := ⟨tb_mem (tb_tab (tt_4 (List.mem_of_getElem? (i := 168) rfl))) rfl, tb_mem (tb_tab (tt_1 (List.mem_of_getElem? (i := 14) rfl))) rfl, by decide, by decide⟩
theorem ck_X2_seekTwoLooks : CK yX2_seekTwoLooks cX2_seekTwoLooks 3 none 1 := ⟨tb_mem (tb_tab (tt_5 (List.mem_of_getElem? (i := 86) rfl))) rfl, tb_mem (tb_tab (tt_1 (List.mem_of_getElem? (i := 14) rfl))) rfl, by decide, by decide⟩
theorem ck_X2_soonerThanTruth : CK yX2_soonerThanTruth cX2_soonerThanTruth 5 (some .int) 1 := ⟨tb_mem (tb_tab (tt_5 (List.mem_of_getElem? (i := 13) rfl))) rfl, tb_mem (tb_tab (tt_1 (List.mem_of_getElem? (i := 14) rfl))) rfl, by decide, by decide⟩
theorem ck_X2_trySecondLooks : CK yX2_trySecondLooks cX2_trySecondLooks 7 none 1 := ⟨tb_mem (tb_tab (tt_5 (List.mem_of_getElem? (i := 99) rfl))) rfl, tb_mem (tb_tab (tt_1 (List.mem_of_getElem? (i := 14) rfl))) rfl, by decide, by decide⟩
theorem ck_X2_walkBoth : CK yX2_walkBoth cX2_walkBoth 3 none 2 := ⟨tb_mem (tb_tab (tt_5 (List.mem_of_getElem? (i := 29) rfl))) rfl, tb_mem (tb_tab (tt_1 (List.mem_of_getElem? (i := 14) rfl))) rfl, by decide, by decide⟩
theorem ck_X3_add : CK yX3_add cX3_add 5 (some .int) 4 := ⟨tb_mem (tb_tab (tt_4 (List.mem_of_getElem? (i := 107) rfl))) rfl, tb_mem (tb_tab (tt_1 (List.mem_of_getElem? (i := 13) rfl))) rfl, by decide, by decide⟩
theorem ck_X3_annulledBy : CK yX3_annulledBy cX3_annulledBy 5 (some .long) 1 := ⟨tb_mem (tb_tab (tt_4 (List.mem_of_getElem? (i := 151) rfl))) rfl, tb_mem (tb_tab (tt_1 (List.mem_of_getElem? (i := 13) rfl))) rfl, by decide, by decide⟩
theorem ck_X3_arrange : CK yX3_arrange cX3_arrange 5 none 1 := ⟨tb_mem (tb_tab (tt_4 (List.mem_of_getElem? (i := 172) rfl))) rfl, tb_mem (tb_tab (tt_1 (List.mem_of_getElem? (i := 13) rfl))) rfl, by decide, by decide⟩
theorem ck_X3_become : CK yX3_become cX3_become 2 none 1 := ⟨tb_mem (tb_tab (tt_6 (List.mem_of_getElem? (i := 27) rfl))) rfl, tb_mem (tb_tab (tt_1 (List.mem_of_getElem? (i := 13) rfl))) rfl, by decide, by decide⟩
theorem ck_X3_counts : CK yX3_counts cX3_counts 4 (some .boolean) 2 := ⟨tb_mem (tb_tab (tt_4 (List.mem_of_getElem? (i := 155) rfl))) rfl, tb_mem (tb_tab (tt_1 (List.mem_of_getElem? (i := 13) rfl))) rfl, by decide, by decide⟩
theorem ck_X3_diedBy : CK yX3_diedBy cX3_diedBy 7 (some .int) 2 := ⟨tb_mem (tb_tab (tt_5 (List.mem_of_getElem? (i := 21) rfl))) rfl, tb_mem (tb_tab (tt_1 (List.mem_of_getElem? (i := 13) rfl))) rfl, by decide, by decide⟩
theorem ck_X3_weightOf : CK yX3_weightOf cX3_weightOf 8 (some .int) 3 := ⟨tb_mem (tb_tab (tt_4 (List.mem_of_getElem? (i := 147) rfl))) rfl, tb_mem (tb_tab (tt_1 (List.mem_of_getElem? (i := 13) rfl))) rfl, by decide, by decide⟩
theorem ck_X4_become : CK yX4_become cX4_become 2 none 1 := ⟨tb_mem (tb_tab (tt_4 (List.mem_of_getElem? (i := 16) rfl))) rfl, tb_mem (tb_tab (tt_1 (List.mem_of_getElem? (i := 9) rfl))) rfl, by decide, by decide⟩
theorem ck_X5_begin : CK yX5_begin cX5_begin 1 none 0 := ⟨tb_mem (tb_tab (tt_3 (List.mem_of_getElem? (i := 150) rfl))) rfl, tb_mem (tb_tab (tt_1 (List.mem_of_getElem? (i := 11) rfl))) rfl, by decide, by decide⟩
theorem ck_X5_closenessOf : CK yX5_closenessOf cX5_closenessOf 1 (some .int) 1 := ⟨tb_mem (tb_tab (tt_3 (List.mem_of_getElem? (i := 226) rfl))) rfl, tb_mem (tb_tab (tt_1 (List.mem_of_getElem? (i := 11) rfl))) rfl, by decide, by decide⟩
theorem ck_X5_condition : CK yX5_condition cX5_condition 4 (some .boolean) 0 := ⟨tb_mem (tb_tab (tt_3 (List.mem_of_getElem? (i := 211) rfl))) rfl, tb_mem (tb_tab (tt_1 (List.mem_of_getElem? (i := 11) rfl))) rfl, by decide, by decide⟩
theorem ck_X5_emit : CK yX5_emit cX5_emit 3 none 2 := ⟨tb_mem (tb_tab (tt_3 (List.mem_of_getElem? (i := 219) rfl))) rfl, tb_mem (tb_tab (tt_1 (List.mem_of_getElem? (i := 11) rfl))) rfl, by decide, by decide⟩
theorem ck_X5_expression : CK yX5_expression cX5_expression 7 (some .boolean) 0 := ⟨tb_mem (tb_tab (tt_3 (List.mem_of_getElem? (i := 223) rfl))) rfl, tb_mem (tb_tab (tt_1 (List.mem_of_getElem? (i := 11) rfl))) rfl, by decide, by decide⟩
theorem ck_X5_find : CK yX5_find cX5_find 5 (some .int) 3 := ⟨tb_mem (tb_tab (tt_3 (List.mem_of_getElem? (i := 178) rfl))) rfl, tb_mem (tb_tab (tt_1 (List.mem_of_getElem? (i := 11) rfl))) rfl, by decide, by decide⟩
theorem ck_X5_literal : CK yX5_literal cX5_literal 3 (some .boolean) 0 := ⟨tb_mem (tb_tab (tt_3 (List.mem_of_getElem? (i := 215) rfl))) rfl, tb_mem (tb_tab (tt_1 (List.mem_of_getElem? (i := 11) rfl))) rfl, by decide, by decide⟩
theorem ck_X5_mark : CK yX5_mark cX5_mark 4 none 2 := ⟨tb_mem (tb_tab (tt_3 (List.mem_of_getElem? (i := 182) rfl))) rfl, tb_mem (tb_tab (tt_1 (List.mem_of_getElem? (i := 11) rfl))) rfl, by decide, by decide⟩
theorem ck_X5_settle : CK yX5_settle cX5_settle 4 none 0 := ⟨tb_mem (tb_tab (tt_4 (List.mem_of_getElem? (i := 1) rfl))) rfl, tb_mem (tb_tab (tt_1 (List.mem_of_getElem? (i := 11) rfl))) rfl, by decide, by decide⟩
theorem ck_X5_settleRead : CK yX5_settleRead cX5_settleRead 5 none 2 := ⟨tb_mem (tb_tab (tt_4 (List.mem_of_getElem? (i := 5) rfl))) rfl, tb_mem (tb_tab (tt_1 (List.mem_of_getElem? (i := 11) rfl))) rfl, by decide, by decide⟩
theorem ck_X5_stop : CK yX5_stop cX5_stop 2 (some .boolean) 1 := ⟨tb_mem (tb_tab (tt_3 (List.mem_of_getElem? (i := 167) rfl))) rfl, tb_mem (tb_tab (tt_1 (List.mem_of_getElem? (i := 11) rfl))) rfl, by decide, by decide⟩
theorem ck_X5_take : CK yX5_take cX5_take 3 (some .boolean) 1 := ⟨tb_mem (tb_tab (tt_3 (List.mem_of_getElem? (i := 171) rfl))) rfl, tb_mem (tb_tab (tt_1 (List.mem_of_getElem? (i := 11) rfl))) rfl, by decide, by decide⟩
theorem ck_X5_takeInt : CK yX5_takeInt cX5_takeInt 5 (some .int) 2 := ⟨tb_mem (tb_tab (tt_3 (List.mem_of_getElem? (i := 186) rfl))) rfl, tb_mem (tb_tab (tt_1 (List.mem_of_getElem? (i := 11) rfl))) rfl, by decide, by decide⟩
theorem ck_X5_takeLetterInts : CK yX5_takeLetterInts cX5_takeLetterInts 2 (some .boolean) 1 := ⟨tb_mem (tb_tab (tt_3 (List.mem_of_getElem? (i := 207) rfl))) rfl, tb_mem (tb_tab (tt_1 (List.mem_of_getElem? (i := 11) rfl))) rfl, by decide, by decide⟩
theorem ck_X5_takeNewName : CK yX5_takeNewName cX5_takeNewName 7 (some .boolean) 2 := ⟨tb_mem (tb_tab (tt_3 (List.mem_of_getElem? (i := 175) rfl))) rfl, tb_mem (tb_tab (tt_1 (List.mem_of_getElem? (i := 11) rfl))) rfl, by decide, by decide⟩
theorem ck_X5_takeTold : CK yX5_takeTold cX5_takeTold 7 (some .int) 2 := ⟨tb_mem (tb_tab (tt_3 (List.mem_of_getElem? (i := 199) rfl))) rfl, tb_mem (tb_tab (tt_1 (List.mem_of_getElem? (i := 11) rfl))) rfl, by decide, by decide⟩
theorem ck_X5_tell : CK yX5_tell cX5_tell 1 (some .boolean) 0 := ⟨tb_mem (tb_tab (tt_3 (List.mem_of_getElem? (i := 159) rfl))) rfl, tb_mem (tb_tab (tt_1 (List.mem_of_getElem? (i := 11) rfl))) rfl, by decide, by decide⟩
theorem ck_X5_tellAll : CK yX5_tellAll cX5_tellAll 3 none 0 := ⟨tb_mem (tb_tab (tt_3 (List.mem_of_getElem? (i := 155) rfl))) rfl, tb_mem (tb_tab (tt_1 (List.mem_of_getElem? (i := 11) rfl))) rfl, by decide, by decide⟩
theorem ck_X5_tellBarred : CK yX5_tellBarred cX5_tellBarred 3 (some .boolean) 0 := ⟨tb_mem (tb_tab (tt_3 (List.mem_of_getElem? (i := 195) rfl))) rfl, tb_mem (tb_tab (tt_1 (List.mem_of_getElem? (i := 11) rfl))) rfl, by decide, by decide⟩
theorem ck_X5_tellClerk : CK yX5_tellClerk cX5_tellClerk 1 (some .boolean) 0 := ⟨tb_mem (tb_tab (tt_3 (List.mem_of_getElem? (i := 191) rfl))) rfl, tb_mem (tb_tab (tt_1 (List.mem_of_getElem? (i := 11) rfl))) rfl, by decide, by decide⟩
theorem ck_X5_tellLetter : CK yX5_tellLetter cX5_tellLetter 2 (some .boolean) 0 := ⟨tb_mem (tb_tab (tt_3 (List.mem_of_getElem? (i := 203) rfl))) rfl, tb_mem (tb_tab (tt_1 (List.mem_of_getElem? (i := 11) rfl))) rfl, by decide, by decide⟩
theorem ck_X5_tellPerson : CK yX5_tellPerson cX5_tellPerson 2 (some .boolean) 0 := ⟨tb_mem (tb_tab (tt_3 (List.mem_of_getElem? (i := 163) rfl))) rfl, tb_mem (tb_tab (tt_1 (List.mem_of_getElem? (i := 11) rfl))) rfl, by decide, by decide⟩
theorem ck_X5_tellProof : CK yX5_tellProof cX5_tellProof 1 (some .boolean) 0 := ⟨tb_mem (tb_tab (tt_3 (List.mem_of_getElem? (i := 233) rfl))) rfl, tb_mem (tb_tab (tt_1 (List.mem_of_getElem? (i := 11) rfl))) rfl, by decide, by decide⟩
theorem ck_X5_tellRule : CK yX5_tellRule cX5_tellRule 3 (some .boolean) 1 := ⟨tb_mem (tb_tab (tt_3 (List.mem_of_getElem? (i := 237) rfl))) rfl, tb_mem (tb_tab (tt_1 (List.mem_of_getElem? (i := 11) rfl))) rfl, by decide, by decide⟩
theorem ck_X6_compared : CK yX6_compared cX6_compared 6 (some .int) 3 := ⟨tb_mem (tb_tab (tt_4 (List.mem_of_getElem? (i := 37) rfl))) rfl, tb_mem (tb_tab (tt_1 (List.mem_of_getElem? (i := 12) rfl))) rfl, by decide, by decide⟩
theorem ck_X6_diesOf : CK yX6_diesOf cX6_diesOf 4 (some .int) 2 := ⟨tb_mem (tb_tab (tt_4 (List.mem_of_getElem? (i := 76) rfl))) rfl, tb_mem (tb_tab (tt_1 (List.mem_of_getElem? (i := 12) rfl))) rfl, by decide, by decide⟩
theorem ck_X6_execute : CK yX6_execute cX6_execute 11 (some .int) 2 := ⟨tb_mem (tb_tab (tt_4 (List.mem_of_getElem? (i := 28) rfl))) rfl, tb_mem (tb_tab (tt_1 (List.mem_of_getElem? (i := 12) rfl))) rfl, by decide, by decide⟩
theorem ck_X6_feeOf : CK yX6_feeOf cX6_feeOf 4 (some .int) 2 := ⟨tb_mem (tb_tab (tt_4 (List.mem_of_getElem? (i := 84) rfl))) rfl, tb_mem (tb_tab (tt_1 (List.mem_of_getElem? (i := 12) rfl))) rfl, by decide, by decide⟩
theorem ck_X6_fillTables : CK yX6_fillTables cX6_fillTables 4 none 0 := ⟨tb_mem (tb_tab (tt_4 (List.mem_of_getElem? (i := 20) rfl))) rfl, tb_mem (tb_tab (tt_1 (List.mem_of_getElem? (i := 12) rfl))) rfl, by decide, by decide⟩
theorem ck_X6_gainIn : CK yX6_gainIn cX6_gainIn 4 (some .int) 3 := ⟨tb_mem (tb_tab (tt_5 (List.mem_of_getElem? (i := 62) rfl))) rfl, tb_mem (tb_tab (tt_1 (List.mem_of_getElem? (i := 12) rfl))) rfl, by decide, by decide⟩
theorem ck_X6_holds : CK yX6_holds cX6_holds 5 (some .boolean) 4 := ⟨tb_mem (tb_tab (tt_4 (List.mem_of_getElem? (i := 199) rfl))) rfl, tb_mem (tb_tab (tt_1 (List.mem_of_getElem? (i := 12) rfl))) rfl, by decide, by decide⟩
theorem ck_X6_joined : CK yX6_joined cX6_joined 4 (some .int) 3 := ⟨tb_mem (tb_tab (tt_4 (List.mem_of_getElem? (i := 41) rfl))) rfl, tb_mem (tb_tab (tt_1 (List.mem_of_getElem? (i := 12) rfl))) rfl, by decide, by decide⟩
theorem ck_X6_ruled : CK yX6_ruled cX6_ruled 8 (some .int) 5 := ⟨tb_mem (tb_tab (tt_4 (List.mem_of_getElem? (i := 24) rfl))) rfl, tb_mem (tb_tab (tt_1 (List.mem_of_getElem? (i := 12) rfl))) rfl, by decide, by decide⟩
theorem ck_X6_valueOf : CK yX6_valueOf cX6_valueOf 3 (some .int) 2 := ⟨tb_mem (tb_tab (tt_4 (List.mem_of_getElem? (i := 33) rfl))) rfl, tb_mem (tb_tab (tt_1 (List.mem_of_getElem? (i := 12) rfl))) rfl, by decide, by decide⟩
theorem ck_X7_fewestToBurn : CK yX7_fewestToBurn cX7_fewestToBurn 4 (some .int) 0 := ⟨tb_mem (tb_tab (tt_5 (List.mem_of_getElem? (i := 168) rfl))) rfl, tb_mem (tb_tab (tt_1 (List.mem_of_getElem? (i := 17) rfl))) rfl, by decide, by decide⟩
theorem ck_X7_follow : CK yX7_follow cX7_follow 3 none 0 := ⟨tb_mem (tb_tab (tt_5 (List.mem_of_getElem? (i := 143) rfl))) rfl, tb_mem (tb_tab (tt_1 (List.mem_of_getElem? (i := 17) rfl))) rfl, by decide, by decide⟩
theorem ck_X7_howMany : CK yX7_howMany cX7_howMany 4 (some .int) 0 := ⟨tb_mem (tb_tab (tt_5 (List.mem_of_getElem? (i := 156) rfl))) rfl, tb_mem (tb_tab (tt_1 (List.mem_of_getElem? (i := 17) rfl))) rfl, by decide, by decide⟩
theorem ck_X7_leavesRings : CK yX7_leavesRings cX7_leavesRings 5 (some .boolean) 1 := ⟨tb_mem (tb_tab (tt_5 (List.mem_of_getElem? (i := 173) rfl))) rfl, tb_mem (tb_tab (tt_1 (List.mem_of_getElem? (i := 17) rfl))) rfl, by decide, by decide⟩
theorem ck_X7_mutual : CK yX7_mutual cX7_mutual 4 (some .int) 1 := ⟨tb_mem (tb_tab (tt_5 (List.mem_of_getElem? (i := 148) rfl))) rfl, tb_mem (tb_tab (tt_1 (List.mem_of_getElem? (i := 17) rfl))) rfl, by decide, by decide⟩
theorem ck_X7_ringOf : CK yX7_ringOf cX7_ringOf 2 (some .int) 1 := ⟨tb_mem (tb_tab (tt_5 (List.mem_of_getElem? (i := 139) rfl))) rfl, tb_mem (tb_tab (tt_1 (List.mem_of_getElem? (i := 17) rfl))) rfl, by decide, by decide⟩
theorem ck_X8_add : CK yX8_add cX8_add 3 none 1 := ⟨tb_mem (tb_tab (tt_3 (List.mem_of_getElem? (i := 103) rfl))) rfl, tb_mem (tb_tab (tt_1 (List.mem_of_getElem? (i := 2) rfl))) rfl, by decide, by decide⟩
theorem ck_X8_byteAt : CK yX8_byteAt cX8_byteAt 2 (some .int) 1 := ⟨tb_mem (tb_tab (tt_3 (List.mem_of_getElem? (i := 122) rfl))) rfl, tb_mem (tb_tab (tt_1 (List.mem_of_getElem? (i := 2) rfl))) rfl, by decide, by decide⟩
theorem ck_X8_hasRoom : CK yX8_hasRoom cX8_hasRoom 1 (some .boolean) 0 := ⟨tb_mem (tb_tab (tt_3 (List.mem_of_getElem? (i := 99) rfl))) rfl, tb_mem (tb_tab (tt_1 (List.mem_of_getElem? (i := 2) rfl))) rfl, by decide, by decide⟩
theorem ck_X9_isBlank : CK yX9_isBlank cX9_isBlank 1 (some .boolean) 1 := ⟨tb_mem (tb_tab (tt_3 (List.mem_of_getElem? (i := 126) rfl))) rfl, tb_mem (tb_tab (tt_1 (List.mem_of_getElem? (i := 3) rfl))) rfl, by decide, by decide⟩
theorem ck_X9_scan : CK yX9_scan cX9_scan 3 none 1 := ⟨tb_mem (tb_tab (tt_3 (List.mem_of_getElem? (i := 118) rfl))) rfl, tb_mem (tb_tab (tt_1 (List.mem_of_getElem? (i := 3) rfl))) rfl, by decide, by decide⟩
theorem ck_X9_scanInt : CK yX9_scanInt cX9_scanInt 5 (some .int) 2 := ⟨tb_mem (tb_tab (tt_3 (List.mem_of_getElem? (i := 143) rfl))) rfl, tb_mem (tb_tab (tt_1 (List.mem_of_getElem? (i := 3) rfl))) rfl, by decide, by decide⟩
theorem ck_X9_scanOne : CK yX9_scanOne cX9_scanOne 5 (some .int) 2 := ⟨tb_mem (tb_tab (tt_3 (List.mem_of_getElem? (i := 130) rfl))) rfl, tb_mem (tb_tab (tt_1 (List.mem_of_getElem? (i := 3) rfl))) rfl, by decide, by decide⟩
theorem ck_X9_scanWord : CK yX9_scanWord cX9_scanWord 6 (some .int) 2 := ⟨tb_mem (tb_tab (tt_3 (List.mem_of_getElem? (i := 135) rfl))) rfl, tb_mem (tb_tab (tt_1 (List.mem_of_getElem? (i := 3) rfl))) rfl, by decide, by decide⟩
theorem ck_X9_signKind : CK yX9_signKind cX9_signKind 2 (some .int) 2 := ⟨tb_mem (tb_tab (tt_3 (List.mem_of_getElem? (i := 146) rfl))) rfl, tb_mem (tb_tab (tt_1 (List.mem_of_getElem? (i := 3) rfl))) rfl, by decide, by decide⟩
theorem ck_X9_wordKind : CK yX9_wordKind cX9_wordKind 4 (some .int) 1 := ⟨tb_mem (tb_tab (tt_3 (List.mem_of_getElem? (i := 139) rfl))) rfl, tb_mem (tb_tab (tt_1 (List.mem_of_getElem? (i := 3) rfl))) rfl, by decide, by decide⟩
theorem cv_X0_become : CV yX0_become := ⟨tb_mem (tb_tab (tt_4 (List.mem_of_getElem? (i := 7) rfl))) rfl, tb_mem (tb_tab (tt_4 (List.mem_of_getElem? (i := 8) rfl))) rfl⟩
theorem cv_X0_clear : CV yX0_clear := ⟨tb_mem (tb_tab (tt_1 (List.mem_of_getElem? (i := 187) rfl))) rfl, tb_mem (tb_tab (tt_1 (List.mem_of_getElem? (i := 188) rfl))) rfl⟩
theorem cv_X0_clerkMay : CV yX0_clerkMay := ⟨tb_mem (tb_tab (tt_4 (List.mem_of_getElem? (i := 218) rfl))) rfl, tb_mem (tb_tab (tt_4 (List.mem_of_getElem? (i := 219) rfl))) rfl⟩
theorem cv_X0_clerkOf : CV yX0_clerkOf := ⟨tb_mem (tb_tab (tt_4 (List.mem_of_getElem? (i := 90) rfl))) rfl, tb_mem (tb_tab (tt_4 (List.mem_of_getElem? (i := 91) rfl))) rfl⟩
theorem cv_X10_cameTo : CV yX10_cameTo := ⟨tb_mem (tb_tab (tt_5 (List.mem_of_getElem? (i := 187) rfl))) rfl, tb_mem (tb_sel (List.mem_map_of_mem (f := fun q : MethodName × Nat => Cond.selects q.1.cls q.1 q.1) (tp_4 (List.mem_of_getElem? (i := 0) rfl)))) rfl⟩
theorem cv_X10_firstDue : CV yX10_firstDue := ⟨tb_mem (tb_tab (tt_5 (List.mem_of_getElem? (i := 204) rfl))) rfl, tb_mem (tb_sel (List.mem_map_of_mem (f := fun q : MethodName × Nat => Cond.selects q.1.cls q.1 q.1) (tp_4 (List.mem_of_getElem? (i := 3) rfl)))) rfl⟩
theorem cv_X10_foresee : CV yX10_foresee := ⟨tb_mem (tb_tab (tt_5 (List.mem_of_getElem? (i := 179) rfl))) rfl, tb_mem (tb_tab (tt_5 (List.mem_of_getElem? (i := 180) rfl))) rfl⟩
theorem cv_X10_livesThrough : CV yX10_livesThrough := ⟨tb_mem (tb_tab (tt_5 (List.mem_of_getElem? (i := 213) rfl))) rfl, tb_mem (tb_tab (tt_5 (List.mem_of_getElem? (i := 214) rfl))) rfl⟩
theorem cv_X10_lookAtAll : CV yX10_lookAtAll := ⟨tb_mem (tb_tab (tt_5 (List.mem_of_getElem? (i := 192) rfl))) rfl, tb_mem (tb_sel (List.mem_map_of_mem (f := fun q : MethodName × Nat => Cond.selects q.1.cls q.1 q.1) (tp_4 (List.mem_of_getElem? (i := 1) rfl)))) rfl⟩
theorem cv_X10_lookUp : CV yX10_lookUp := ⟨tb_mem (tb_tab (tt_5 (List.mem_of_getElem? (i := 200) rfl))) rfl, tb_mem (tb_sel (List.mem_map_of_mem (f := fun q : MethodName × Nat => Cond.selects q.1.cls q.1 q.1) (tp_4 (List.mem_of_getElem? (i := 2) rfl)))) rfl⟩
theorem cv_X10_oddsOf : CV yX10_oddsOf := ⟨tb_mem (tb_tab (tt_5 (List.mem_of_getElem? (i := 223) rfl))) rfl, tb_mem (tb_tab (tt_5 (List.mem_of_getElem? (i := 224) rfl))) rfl⟩
theorem cv_X10_oddsOfNext : CV yX10_oddsOfNext := ⟨tb_mem (tb_tab (tt_5 (List.mem_of_getElem? (i := 233) rfl))) rfl, tb_mem (tb_sel (List.mem_map_of_mem (f := fun q : MethodName × Nat => Cond.selects q.1.cls q.1 q.1) (tp_4 (List.mem_of_getElem? (i := 5) rfl)))) rfl⟩
theorem cv_X10_seekNeed : CV yX10_seekNeed := ⟨tb_mem (tb_tab (tt_5 (List.mem_of_getElem? (i := 114) rfl))) rfl, tb_mem (tb_tab (tt_5 (List.mem_of_getElem? (i := 115) rfl))) rfl⟩
theorem cv_X10_seekNeedOf : CV yX10_seekNeedOf := ⟨tb_mem (tb_tab (tt_5 (List.mem_of_getElem? (i := 119) rfl))) rfl, tb_mem (tb_sel (List.mem_map_of_mem (f := fun q : MethodName × Nat => Cond.selects q.1.cls q.1 q.1) (tp_3 (List.mem_of_getElem? (i := 12) rfl)))) rfl⟩
theorem cv_X10_waysTo : CV yX10_waysTo := ⟨tb_mem (tb_tab (tt_5 (List.mem_of_getElem? (i := 228) rfl))) rfl, tb_mem (tb_sel (List.mem_map_of_mem (f := fun q : MethodName × Nat => Cond.selects q.1.cls q.1 q.1) (tp_4 (List.mem_of_getElem? (i := 4) rfl)))) rfl⟩
theorem cv_X11_areThere : CV yX11_areThere := ⟨tb_mem (tb_tab (tt_5 (List.mem_of_getElem? (i := 111) rfl))) rfl, tb_mem (tb_sel (List.mem_map_of_mem (f := fun q : MethodName × Nat => Cond.selects q.1.cls q.1 q.1) (tp_3 (List.mem_of_getElem? (i := 11) rfl)))) rfl⟩
theorem cv_X11_isKnown : CV yX11_isKnown := ⟨tb_mem (tb_tab (tt_4 (List.mem_of_getElem? (i := 142) rfl))) rfl, tb_mem (tb_sel (List.mem_map_of_mem (f := fun q : MethodName × Nat => Cond.selects q.1.cls q.1 q.1) (tp_3 (List.mem_of_getElem? (i := 0) rfl)))) rfl⟩
theorem cv_X11_isLetter : CV yX11_isLetter := ⟨tb_mem (tb_tab (tt_4 (List.mem_of_getElem? (i := 59) rfl))) rfl, tb_mem (tb_sel (List.mem_map_of_mem (f := fun q : MethodName × Nat => Cond.selects q.1.cls q.1 q.1) (tp_2 (List.mem_of_getElem? (i := 13) rfl)))) rfl⟩
theorem cv_X11_isLook : CV yX11_isLook := ⟨tb_mem (tb_tab (tt_4 (List.mem_of_getElem? (i := 163) rfl))) rfl, tb_mem (tb_sel (List.mem_map_of_mem (f := fun q : MethodName × Nat => Cond.selects q.1.cls q.1 q.1) (tp_3 (List.mem_of_getElem? (i := 3) rfl)))) rfl⟩
theorem cv_X11_isPerson : CV yX11_isPerson := ⟨tb_mem (tb_tab (tt_4 (List.mem_of_getElem? (i := 67) rfl))) rfl, tb_mem (tb_sel (List.mem_map_of_mem (f := fun q : MethodName × Nat => Cond.selects q.1.cls q.1 q.1) (tp_2 (List.mem_of_getElem? (i := 14) rfl)))) rfl⟩
theorem cv_X11_isYear : CV yX11_isYear := ⟨tb_mem (tb_tab (tt_4 (List.mem_of_getElem? (i := 71) rfl))) rfl, tb_mem (tb_sel (List.mem_map_of_mem (f := fun q : MethodName × Nat => Cond.selects q.1.cls q.1 q.1) (tp_2 (List.mem_of_getElem? (i := 15) rfl)))) rfl⟩
theorem cv_X12_amiss : CV yX12_amiss := ⟨tb_mem (tb_tab (tt_7 (List.mem_of_getElem? (i := 155) rfl))) rfl, tb_mem (tb_sel (List.mem_map_of_mem (f := fun q : MethodName × Nat => Cond.selects q.1.cls q.1 q.1) (tp_5 (List.mem_of_getElem? (i := 2) rfl)))) rfl⟩
theorem cv_X12_areSets : CV yX12_areSets := ⟨tb_mem (tb_tab (tt_9 (List.mem_of_getElem? (i := 22) rfl))) rfl, tb_mem (tb_sel (List.mem_map_of_mem (f := fun q : MethodName × Nat => Cond.selects q.1.cls q.1 q.1) (tp_8 (List.mem_of_getElem? (i := 5) rfl)))) rfl⟩
theorem cv_X12_asksOf : CV yX12_asksOf := ⟨tb_mem (tb_tab (tt_8 (List.mem_of_getElem? (i := 227) rfl))) rfl, tb_mem (tb_sel (List.mem_map_of_mem (f := fun q : MethodName × Nat => Cond.selects q.1.cls q.1 q.1) (tp_8 (List.mem_of_getElem? (i := 1) rfl)))) rfl⟩
theorem cv_X12_becomes : CV yX12_becomes := ⟨tb_mem (tb_tab (tt_8 (List.mem_of_getElem? (i := 120) rfl))) rfl, tb_mem (tb_sel (List.mem_map_of_mem (f := fun q : MethodName × Nat => Cond.selects q.1.cls q.1 q.1) (tp_7 (List.mem_of_getElem? (i := 3) rfl)))) rfl⟩
theorem cv_X12_bounded : CV yX12_bounded := ⟨tb_mem (tb_tab (tt_7 (List.mem_of_getElem? (i := 159) rfl))) rfl, tb_mem (tb_sel (List.mem_map_of_mem (f := fun q : MethodName × Nat => Cond.selects q.1.cls q.1 q.1) (tp_5 (List.mem_of_getElem? (i := 3) rfl)))) rfl⟩
theorem cv_X12_byteAt : CV yX12_byteAt := ⟨tb_mem (tb_tab (tt_7 (List.mem_of_getElem? (i := 109) rfl))) rfl, tb_mem (tb_sel (List.mem_map_of_mem (f := fun q : MethodName × Nat => Cond.selects q.1.cls q.1 q.1) (tp_4 (List.mem_of_getElem? (i := 8) rfl)))) rfl⟩
theorem cv_X12_canCome : CV yX12_canCome := ⟨tb_mem (tb_tab (tt_8 (List.mem_of_getElem? (i := 52) rfl))) rfl, tb_mem (tb_sel (List.mem_map_of_mem (f := fun q : MethodName × Nat => Cond.selects q.1.cls q.1 q.1) (tp_6 (List.mem_of_getElem? (i := 11) rfl)))) rfl⟩
theorem cv_X12_closes : CV yX12_closes := ⟨tb_mem (tb_tab (tt_8 (List.mem_of_getElem? (i := 235) rfl))) rfl, tb_mem (tb_sel (List.mem_map_of_mem (f := fun q : MethodName × Nat => Cond.selects q.1.cls q.1 q.1) (tp_8 (List.mem_of_getElem? (i := 2) rfl)))) rfl⟩
theorem cv_X12_comes : CV yX12_comes := ⟨tb_mem (tb_tab (tt_8 (List.mem_of_getElem? (i := 56) rfl))) rfl, tb_mem (tb_sel (List.mem_map_of_mem (f := fun q : MethodName × Nat => Cond.selects q.1.cls q.1 q.1) (tp_6 (List.mem_of_getElem? (i := 12) rfl)))) rfl⟩
theorem cv_X12_comesOut : CV yX12_comesOut := ⟨tb_mem (tb_tab (tt_7 (List.mem_of_getElem? (i := 207) rfl))) rfl, tb_mem (tb_sel (List.mem_map_of_mem (f := fun q : MethodName × Nat => Cond.selects q.1.cls q.1 q.1) (tp_5 (List.mem_of_getElem? (i := 15) rfl)))) rfl⟩
theorem cv_X12_condition : CV yX12_condition := ⟨tb_mem (tb_tab (tt_7 (List.mem_of_getElem? (i := 187) rfl))) rfl, tb_mem (tb_sel (List.mem_map_of_mem (f := fun q : MethodName × Nat => Cond.selects q.1.cls q.1 q.1) (tp_5 (List.mem_of_getElem? (i := 10) rfl)))) rfl⟩
theorem cv_X12_counts : CV yX12_counts := ⟨tb_mem (tb_tab (tt_8 (List.mem_of_getElem? (i := 100) rfl))) rfl, tb_mem (tb_sel (List.mem_map_of_mem (f := fun q : MethodName × Nat => Cond.selects q.1.cls q.1 q.1) (tp_6 (List.mem_of_getElem? (i := 15) rfl)))) rfl⟩
theorem cv_X12_cut : CV yX12_cut := ⟨tb_mem (tb_tab (tt_7 (List.mem_of_getElem? (i := 105) rfl))) rfl, tb_mem (tb_sel (List.mem_map_of_mem (f := fun q : MethodName × Nat => Cond.selects q.1.cls q.1 q.1) (tp_4 (List.mem_of_getElem? (i := 7) rfl)))) rfl⟩
theorem cv_X12_diesBy : CV yX12_diesBy := ⟨tb_mem (tb_tab (tt_8 (List.mem_of_getElem? (i := 9) rfl))) rfl, tb_mem (tb_sel (List.mem_map_of_mem (f := fun q : MethodName × Nat => Cond.selects q.1.cls q.1 q.1) (tp_6 (List.mem_of_getElem? (i := 5) rfl)))) rfl⟩
theorem cv_X12_emit : CV yX12_emit := ⟨tb_mem (tb_tab (tt_7 (List.mem_of_getElem? (i := 203) rfl))) rfl, tb_mem (tb_sel (List.mem_map_of_mem (f := fun q : MethodName × Nat => Cond.selects q.1.cls q.1 q.1) (tp_5 (List.mem_of_getElem? (i := 14) rfl)))) rfl⟩
theorem cv_X12_expression : CV yX12_expression := ⟨tb_mem (tb_tab (tt_7 (List.mem_of_getElem? (i := 195) rfl))) rfl, tb_mem (tb_sel (List.mem_map_of_mem (f := fun q : MethodName × Nat => Cond.selects q.1.cls q.1 q.1) (tp_5 (List.mem_of_getElem? (i := 12) rfl)))) rfl⟩
theorem cv_X12_fail : CV yX12_fail := ⟨tb_mem (tb_tab (tt_7 (List.mem_of_getElem? (i := 135) rfl))) rfl, tb_mem (tb_sel (List.mem_map_of_mem (f := fun q : MethodName × Nat => Cond.selects q.1.cls q.1 q.1) (tp_4 (List.mem_of_getElem? (i := 13) rfl)))) rfl⟩
theorem cv_X12_feeOf : CV yX12_feeOf := ⟨tb_mem (tb_tab (tt_8 (List.mem_of_getElem? (i := 32) rfl))) rfl, tb_mem (tb_sel (List.mem_map_of_mem (f := fun q : MethodName × Nat => Cond.selects q.1.cls q.1 q.1) (tp_6 (List.mem_of_getElem? (i := 9) rfl)))) rfl⟩
theorem cv_X12_fillLooks : CV yX12_fillLooks := ⟨tb_mem (tb_tab (tt_9 (List.mem_of_getElem? (i := 34) rfl))) rfl, tb_mem (tb_sel (List.mem_map_of_mem (f := fun q : MethodName × Nat => Cond.selects q.1.cls q.1 q.1) (tp_8 (List.mem_of_getElem? (i := 7) rfl)))) rfl⟩
theorem cv_X12_find : CV yX12_find := ⟨tb_mem (tb_tab (tt_7 (List.mem_of_getElem? (i := 179) rfl))) rfl, tb_mem (tb_sel (List.mem_map_of_mem (f := fun q : MethodName × Nat => Cond.selects q.1.cls q.1 q.1) (tp_5 (List.mem_of_getElem? (i := 8) rfl)))) rfl⟩
theorem cv_X12_findsRead : CV yX12_findsRead := ⟨tb_mem (tb_tab (tt_7 (List.mem_of_getElem? (i := 211) rfl))) rfl, tb_mem (tb_sel (List.mem_map_of_mem (f := fun q : MethodName × Nat => Cond.selects q.1.cls q.1 q.1) (tp_6 (List.mem_of_getElem? (i := 0) rfl)))) rfl⟩
theorem cv_X12_floods : CV yX12_floods := ⟨tb_mem (tb_tab (tt_8 (List.mem_of_getElem? (i := 136) rfl))) rfl, tb_mem (tb_sel (List.mem_map_of_mem (f := fun q : MethodName × Nat => Cond.selects q.1.cls q.1 q.1) (tp_7 (List.mem_of_getElem? (i := 7) rfl)))) rfl⟩
theorem cv_X12_gains : CV yX12_gains := ⟨tb_mem (tb_tab (tt_8 (List.mem_of_getElem? (i := 203) rfl))) rfl, tb_mem (tb_sel (List.mem_map_of_mem (f := fun q : MethodName × Nat => Cond.selects q.1.cls q.1 q.1) (tp_7 (List.mem_of_getElem? (i := 15) rfl)))) rfl⟩
theorem cv_X12_goesOn : CV yX12_goesOn := ⟨tb_mem (tb_tab (tt_7 (List.mem_of_getElem? (i := 143) rfl))) rfl, tb_mem (tb_sel (List.mem_map_of_mem (f := fun q : MethodName × Nat => Cond.selects q.1.cls q.1 q.1) (tp_4 (List.mem_of_getElem? (i := 15) rfl)))) rfl⟩
theorem cv_X12_goodOf : CV yX12_goodOf := ⟨tb_mem (tb_tab (tt_8 (List.mem_of_getElem? (i := 207) rfl))) rfl, tb_mem (tb_sel (List.mem_map_of_mem (f := fun q : MethodName × Nat => Cond.selects q.1.cls q.1 q.1) (tp_8 (List.mem_of_getElem? (i := 0) rfl)))) rfl⟩
theorem cv_X12_happens : CV yX12_happens := ⟨tb_mem (tb_tab (tt_8 (List.mem_of_getElem? (i := 116) rfl))) rfl, tb_mem (tb_sel (List.mem_map_of_mem (f := fun q : MethodName × Nat => Cond.selects q.1.cls q.1 q.1) (tp_7 (List.mem_of_getElem? (i := 2) rfl)))) rfl⟩
theorem cv_X12_hasLetter : CV yX12_hasLetter := ⟨tb_mem (tb_tab (tt_7 (List.mem_of_getElem? (i := 223) rfl))) rfl, tb_mem (tb_sel (List.mem_map_of_mem (f := fun q : MethodName × Nat => Cond.selects q.1.cls q.1 q.1) (tp_6 (List.mem_of_getElem? (i := 1) rfl)))) rfl⟩
theorem cv_X12_hasRings : CV yX12_hasRings := ⟨tb_mem (tb_tab (tt_9 (List.mem_of_getElem? (i := 14) rfl))) rfl, tb_mem (tb_sel (List.mem_map_of_mem (f := fun q : MethodName × Nat => Cond.selects q.1.cls q.1 q.1) (tp_8 (List.mem_of_getElem? (i := 4) rfl)))) rfl⟩
theorem cv_X12_holdsFor : CV yX12_holdsFor := ⟨tb_mem (tb_tab (tt_8 (List.mem_of_getElem? (i := 124) rfl))) rfl, tb_mem (tb_sel (List.mem_map_of_mem (f := fun q : MethodName × Nat => Cond.selects q.1.cls q.1 q.1) (tp_7 (List.mem_of_getElem? (i := 4) rfl)))) rfl⟩
theorem cv_X12_holdsRule : CV yX12_holdsRule := ⟨tb_mem (tb_tab (tt_8 (List.mem_of_getElem? (i := 128) rfl))) rfl, tb_mem (tb_sel (List.mem_map_of_mem (f := fun q : MethodName × Nat => Cond.selects q.1.cls q.1 q.1) (tp_7 (List.mem_of_getElem? (i := 5) rfl)))) rfl⟩
theorem cv_X12_is : CV yX12_is := ⟨tb_mem (tb_tab (tt_7 (List.mem_of_getElem? (i := 127) rfl))) rfl, tb_mem (tb_sel (List.mem_map_of_mem (f := fun q : MethodName × Nat => Cond.selects q.1.cls q.1 q.1) (tp_4 (List.mem_of_getElem? (i := 11) rfl)))) rfl⟩
theorem cv_X12_isBarred : CV yX12_isBarred := ⟨tb_mem (tb_tab (tt_8 (List.mem_of_getElem? (i := 44) rfl))) rfl, tb_mem (tb_sel (List.mem_map_of_mem (f := fun q : MethodName × Nat => Cond.selects q.1.cls q.1 q.1) (tp_6 (List.mem_of_getElem? (i := 10) rfl)))) rfl⟩
theorem cv_X12_isClerkBarred : CV yX12_isClerkBarred := ⟨tb_mem (tb_tab (tt_8 (List.mem_of_getElem? (i := 152) rfl))) rfl, tb_mem (tb_sel (List.mem_map_of_mem (f := fun q : MethodName × Nat => Cond.selects q.1.cls q.1 q.1) (tp_7 (List.mem_of_getElem? (i := 11) rfl)))) rfl⟩
theorem cv_X12_isDue : CV yX12_isDue := ⟨tb_mem (tb_tab (tt_8 (List.mem_of_getElem? (i := 148) rfl))) rfl, tb_mem (tb_sel (List.mem_map_of_mem (f := fun q : MethodName × Nat => Cond.selects q.1.cls q.1 q.1) (tp_7 (List.mem_of_getElem? (i := 10) rfl)))) rfl⟩
theorem cv_X12_isKnown : CV yX12_isKnown := ⟨tb_mem (tb_tab (tt_8 (List.mem_of_getElem? (i := 92) rfl))) rfl, tb_mem (tb_sel (List.mem_map_of_mem (f := fun q : MethodName × Nat => Cond.selects q.1.cls q.1 q.1) (tp_6 (List.mem_of_getElem? (i := 13) rfl)))) rfl⟩
theorem cv_X12_isPerson : CV yX12_isPerson := ⟨tb_mem (tb_tab (tt_8 (List.mem_of_getElem? (i := 2) rfl))) rfl, tb_mem (tb_sel (List.mem_map_of_mem (f := fun q : MethodName × Nat => Cond.selects q.1.cls q.1 q.1) (tp_6 (List.mem_of_getElem? (i := 4) rfl)))) rfl⟩
theorem cv_X12_isTrue : CV yX12_isTrue := ⟨tb_mem (tb_tab (tt_8 (List.mem_of_getElem? (i := 132) rfl))) rfl, tb_mem (tb_sel (List.mem_map_of_mem (f := fun q : MethodName × Nat => Cond.selects q.1.cls q.1 q.1) (tp_7 (List.mem_of_getElem? (i := 6) rfl)))) rfl⟩
theorem cv_X12_isWatched : CV yX12_isWatched := ⟨tb_mem (tb_tab (tt_8 (List.mem_of_getElem? (i := 195) rfl))) rfl, tb_mem (tb_sel (List.mem_map_of_mem (f := fun q : MethodName × Nat => Cond.selects q.1.cls q.1 q.1) (tp_7 (List.mem_of_getElem? (i := 14) rfl)))) rfl⟩
theorem cv_X12_keepsYearly : CV yX12_keepsYearly := ⟨tb_mem (tb_tab (tt_8 (List.mem_of_getElem? (i := 176) rfl))) rfl, tb_mem (tb_sel (List.mem_map_of_mem (f := fun q : MethodName × Nat => Cond.selects q.1.cls q.1 q.1) (tp_7 (List.mem_of_getElem? (i := 13) rfl)))) rfl⟩
theorem cv_X12_known : CV yX12_known := ⟨tb_mem (tb_tab (tt_7 (List.mem_of_getElem? (i := 175) rfl))) rfl, tb_mem (tb_sel (List.mem_map_of_mem (f := fun q : MethodName × Nat => Cond.selects q.1.cls q.1 q.1) (tp_5 (List.mem_of_getElem? (i := 7) rfl)))) rfl⟩
theorem cv_X12_literal : CV yX12_literal := ⟨tb_mem (tb_tab (tt_7 (List.mem_of_getElem? (i := 191) rfl))) rfl, tb_mem (tb_sel (List.mem_map_of_mem (f := fun q : MethodName × Nat => Cond.selects q.1.cls q.1 q.1) (tp_5 (List.mem_of_getElem? (i := 11) rfl)))) rfl⟩
theorem cv_X12_livesBy : CV yX12_livesBy := ⟨tb_mem (tb_tab (tt_9 (List.mem_of_getElem? (i := 65) rfl))) rfl, tb_mem (tb_sel (List.mem_map_of_mem (f := fun q : MethodName × Nat => Cond.selects q.1.cls q.1 q.1) (tp_8 (List.mem_of_getElem? (i := 11) rfl)))) rfl⟩
theorem cv_X12_lookFrom : CV yX12_lookFrom := ⟨tb_mem (tb_tab (tt_9 (List.mem_of_getElem? (i := 57) rfl))) rfl, tb_mem (tb_sel (List.mem_map_of_mem (f := fun q : MethodName × Nat => Cond.selects q.1.cls q.1 q.1) (tp_8 (List.mem_of_getElem? (i := 10) rfl)))) rfl⟩
theorem cv_X12_looksNow : CV yX12_looksNow := ⟨tb_mem (tb_tab (tt_8 (List.mem_of_getElem? (i := 144) rfl))) rfl, tb_mem (tb_sel (List.mem_map_of_mem (f := fun q : MethodName × Nat => Cond.selects q.1.cls q.1 q.1) (tp_7 (List.mem_of_getElem? (i := 9) rfl)))) rfl⟩
theorem cv_X12_mayBeOpened : CV yX12_mayBeOpened := ⟨tb_mem (tb_tab (tt_9 (List.mem_of_getElem? (i := 38) rfl))) rfl, tb_mem (tb_sel (List.mem_map_of_mem (f := fun q : MethodName × Nat => Cond.selects q.1.cls q.1 q.1) (tp_8 (List.mem_of_getElem? (i := 8) rfl)))) rfl⟩
theorem cv_X12_must : CV yX12_must := ⟨tb_mem (tb_tab (tt_7 (List.mem_of_getElem? (i := 151) rfl))) rfl, tb_mem (tb_sel (List.mem_map_of_mem (f := fun q : MethodName × Nat => Cond.selects q.1.cls q.1 q.1) (tp_5 (List.mem_of_getElem? (i := 1) rfl)))) rfl⟩
theorem cv_X12_named : CV yX12_named := ⟨tb_mem (tb_tab (tt_7 (List.mem_of_getElem? (i := 147) rfl))) rfl, tb_mem (tb_sel (List.mem_map_of_mem (f := fun q : MethodName × Nat => Cond.selects q.1.cls q.1 q.1) (tp_5 (List.mem_of_getElem? (i := 0) rfl)))) rfl⟩
theorem cv_X12_needs : CV yX12_needs := ⟨tb_mem (tb_tab (tt_9 (List.mem_of_getElem? (i := 26) rfl))) rfl, tb_mem (tb_sel (List.mem_map_of_mem (f := fun q : MethodName × Nat => Cond.selects q.1.cls q.1 q.1) (tp_8 (List.mem_of_getElem? (i := 6) rfl)))) rfl⟩
theorem cv_X12_notes : CV yX12_notes := ⟨tb_mem (tb_tab (tt_7 (List.mem_of_getElem? (i := 163) rfl))) rfl, tb_mem (tb_sel (List.mem_map_of_mem (f := fun q : MethodName × Nat => Cond.selects q.1.cls q.1 q.1) (tp_5 (List.mem_of_getElem? (i := 4) rfl)))) rfl⟩
theorem cv_X12_pays : CV yX12_pays := ⟨tb_mem (tb_tab (tt_8 (List.mem_of_getElem? (i := 140) rfl))) rfl, tb_mem (tb_sel (List.mem_map_of_mem (f := fun q : MethodName × Nat => Cond.selects q.1.cls q.1 q.1) (tp_7 (List.mem_of_getElem? (i := 8) rfl)))) rfl⟩
theorem cv_X12_put : CV yX12_put := ⟨tb_mem (tb_tab (tt_7 (List.mem_of_getElem? (i := 93) rfl))) rfl, tb_mem (tb_sel (List.mem_map_of_mem (f := fun q : MethodName × Nat => Cond.selects q.1.cls q.1 q.1) (tp_4 (List.mem_of_getElem? (i := 6) rfl)))) rfl⟩
theorem cv_X12_reader : CV yX12_reader := ⟨tb_mem (tb_tab (tt_7 (List.mem_of_getElem? (i := 234) rfl))) rfl, tb_mem (tb_sel (List.mem_map_of_mem (f := fun q : MethodName × Nat => Cond.selects q.1.cls q.1 q.1) (tp_6 (List.mem_of_getElem? (i := 3) rfl)))) rfl⟩
theorem cv_X12_ringOf : CV yX12_ringOf := ⟨tb_mem (tb_tab (tt_8 (List.mem_of_getElem? (i := 239) rfl))) rfl, tb_mem (tb_sel (List.mem_map_of_mem (f := fun q : MethodName × Nat => Cond.selects q.1.cls q.1 q.1) (tp_8 (List.mem_of_getElem? (i := 3) rfl)))) rfl⟩
theorem cv_X12_runs : CV yX12_runs := ⟨tb_mem (tb_tab (tt_8 (List.mem_of_getElem? (i := 108) rfl))) rfl, tb_mem (tb_sel (List.mem_map_of_mem (f := fun q : MethodName × Nat => Cond.selects q.1.cls q.1 q.1) (tp_7 (List.mem_of_getElem? (i := 0) rfl)))) rfl⟩
theorem cv_X12_runsAll : CV yX12_runsAll := ⟨tb_mem (tb_tab (tt_8 (List.mem_of_getElem? (i := 168) rfl))) rfl, tb_mem (tb_sel (List.mem_map_of_mem (f := fun q : MethodName × Nat => Cond.selects q.1.cls q.1 q.1) (tp_7 (List.mem_of_getElem? (i := 12) rfl)))) rfl⟩
theorem cv_X12_says : CV yX12_says := ⟨tb_mem (tb_tab (tt_8 (List.mem_of_getElem? (i := 17) rfl))) rfl, tb_mem (tb_sel (List.mem_map_of_mem (f := fun q : MethodName × Nat => Cond.selects q.1.cls q.1 q.1) (tp_6 (List.mem_of_getElem? (i := 7) rfl)))) rfl⟩
theorem cv_X12_sees : CV yX12_sees := ⟨tb_mem (tb_tab (tt_8 (List.mem_of_getElem? (i := 13) rfl))) rfl, tb_mem (tb_sel (List.mem_map_of_mem (f := fun q : MethodName × Nat => Cond.selects q.1.cls q.1 q.1) (tp_6 (List.mem_of_getElem? (i := 6) rfl)))) rfl⟩
theorem cv_X12_sign : CV yX12_sign := ⟨tb_mem (tb_tab (tt_7 (List.mem_of_getElem? (i := 123) rfl))) rfl, tb_mem (tb_sel (List.mem_map_of_mem (f := fun q : MethodName × Nat => Cond.selects q.1.cls q.1 q.1) (tp_4 (List.mem_of_getElem? (i := 10) rfl)))) rfl⟩
theorem cv_X12_starts : CV yX12_starts := ⟨tb_mem (tb_tab (tt_8 (List.mem_of_getElem? (i := 112) rfl))) rfl, tb_mem (tb_sel (List.mem_map_of_mem (f := fun q : MethodName × Nat => Cond.selects q.1.cls q.1 q.1) (tp_7 (List.mem_of_getElem? (i := 1) rfl)))) rfl⟩
theorem cv_X12_tell : CV yX12_tell := ⟨tb_mem (tb_tab (tt_7 (List.mem_of_getElem? (i := 131) rfl))) rfl, tb_mem (tb_sel (List.mem_map_of_mem (f := fun q : MethodName × Nat => Cond.selects q.1.cls q.1 q.1) (tp_4 (List.mem_of_getElem? (i := 12) rfl)))) rfl⟩
theorem cv_X12_tellBar : CV yX12_tellBar := ⟨tb_mem (tb_tab (tt_7 (List.mem_of_getElem? (i := 171) rfl))) rfl, tb_mem (tb_sel (List.mem_map_of_mem (f := fun q : MethodName × Nat => Cond.selects q.1.cls q.1 q.1) (tp_5 (List.mem_of_getElem? (i := 6) rfl)))) rfl⟩
theorem cv_X12_tellClerk : CV yX12_tellClerk := ⟨tb_mem (tb_tab (tt_7 (List.mem_of_getElem? (i := 167) rfl))) rfl, tb_mem (tb_sel (List.mem_map_of_mem (f := fun q : MethodName × Nat => Cond.selects q.1.cls q.1 q.1) (tp_5 (List.mem_of_getElem? (i := 5) rfl)))) rfl⟩
theorem cv_X12_tellLetter : CV yX12_tellLetter := ⟨tb_mem (tb_tab (tt_7 (List.mem_of_getElem? (i := 183) rfl))) rfl, tb_mem (tb_sel (List.mem_map_of_mem (f := fun q : MethodName × Nat => Cond.selects q.1.cls q.1 q.1) (tp_5 (List.mem_of_getElem? (i := 9) rfl)))) rfl⟩
theorem cv_X12_tellPerson : CV yX12_tellPerson := ⟨tb_mem (tb_tab (tt_7 (List.mem_of_getElem? (i := 139) rfl))) rfl, tb_mem (tb_sel (List.mem_map_of_mem (f := fun q : MethodName × Nat => Cond.selects q.1.cls q.1 q.1) (tp_4 (List.mem_of_getElem? (i := 14) rfl)))) rfl⟩
theorem cv_X12_termOf : CV yX12_termOf := ⟨tb_mem (tb_tab (tt_8 (List.mem_of_getElem? (i := 21) rfl))) rfl, tb_mem (tb_sel (List.mem_map_of_mem (f := fun q : MethodName × Nat => Cond.selects q.1.cls q.1 q.1) (tp_6 (List.mem_of_getElem? (i := 8) rfl)))) rfl⟩
theorem cv_X12_those : CV yX12_those := ⟨tb_mem (tb_tab (tt_9 (List.mem_of_getElem? (i := 76) rfl))) rfl, tb_mem (tb_sel (List.mem_map_of_mem (f := fun q : MethodName × Nat => Cond.selects q.1.cls q.1 q.1) (tp_8 (List.mem_of_getElem? (i := 12) rfl)))) rfl⟩
theorem cv_X12_token : CV yX12_token := ⟨tb_mem (tb_tab (tt_7 (List.mem_of_getElem? (i := 113) rfl))) rfl, tb_mem (tb_sel (List.mem_map_of_mem (f := fun q : MethodName × Nat => Cond.selects q.1.cls q.1 q.1) (tp_4 (List.mem_of_getElem? (i := 9) rfl)))) rfl⟩
theorem cv_X12_unit : CV yX12_unit := ⟨tb_mem (tb_tab (tt_7 (List.mem_of_getElem? (i := 199) rfl))) rfl, tb_mem (tb_sel (List.mem_map_of_mem (f := fun q : MethodName × Nat => Cond.selects q.1.cls q.1 q.1) (tp_5 (List.mem_of_getElem? (i := 13) rfl)))) rfl⟩
theorem cv_X12_waysOf : CV yX12_waysOf := ⟨tb_mem (tb_tab (tt_9 (List.mem_of_getElem? (i := 52) rfl))) rfl, tb_mem (tb_sel (List.mem_map_of_mem (f := fun q : MethodName × Nat => Cond.selects q.1.cls q.1 q.1) (tp_8 (List.mem_of_getElem? (i := 9) rfl)))) rfl⟩
theorem cv_X12_weightOf : CV yX12_weightOf := ⟨tb_mem (tb_tab (tt_8 (List.mem_of_getElem? (i := 96) rfl))) rfl, tb_mem (tb_sel (List.mem_map_of_mem (f := fun q : MethodName × Nat => Cond.selects q.1.cls q.1 q.1) (tp_6 (List.mem_of_getElem? (i := 14) rfl)))) rfl⟩
theorem cv_X12_writer : CV yX12_writer := ⟨tb_mem (tb_tab (tt_7 (List.mem_of_getElem? (i := 230) rfl))) rfl, tb_mem (tb_sel (List.mem_map_of_mem (f := fun q : MethodName × Nat => Cond.selects q.1.cls q.1 q.1) (tp_6 (List.mem_of_getElem? (i := 2) rfl)))) rfl⟩
theorem cv_X1_become : CV yX1_become := ⟨tb_mem (tb_tab (tt_5 (List.mem_of_getElem? (i := 91) rfl))) rfl, tb_mem (tb_tab (tt_5 (List.mem_of_getElem? (i := 92) rfl))) rfl⟩
theorem cv_X1_begin : CV yX1_begin := ⟨tb_mem (tb_tab (tt_4 (List.mem_of_getElem? (i := 179) rfl))) rfl, tb_mem (tb_tab (tt_4 (List.mem_of_getElem? (i := 180) rfl))) rfl⟩
theorem cv_X1_endAs : CV yX1_endAs := ⟨tb_mem (tb_tab (tt_4 (List.mem_of_getElem? (i := 194) rfl))) rfl, tb_mem (tb_sel (List.mem_map_of_mem (f := fun q : MethodName × Nat => Cond.selects q.1.cls q.1 q.1) (tp_3 (List.mem_of_getElem? (i := 5) rfl)))) rfl⟩
theorem cv_X1_firstDue : CV yX1_firstDue := ⟨tb_mem (tb_tab (tt_4 (List.mem_of_getElem? (i := 215) rfl))) rfl, tb_mem (tb_sel (List.mem_map_of_mem (f := fun q : MethodName × Nat => Cond.selects q.1.cls q.1 q.1) (tp_3 (List.mem_of_getElem? (i := 7) rfl)))) rfl⟩
theorem cv_X1_floodShelf : CV yX1_floodShelf := ⟨tb_mem (tb_tab (tt_4 (List.mem_of_getElem? (i := 202) rfl))) rfl, tb_mem (tb_sel (List.mem_map_of_mem (f := fun q : MethodName × Nat => Cond.selects q.1.cls q.1 q.1) (tp_3 (List.mem_of_getElem? (i := 6) rfl)))) rfl⟩
theorem cv_X1_hasBeenOpened : CV yX1_hasBeenOpened := ⟨tb_mem (tb_tab (tt_4 (List.mem_of_getElem? (i := 239) rfl))) rfl, tb_mem (tb_tab (tt_5 (List.mem_of_getElem? (i := 0) rfl))) rfl⟩
theorem cv_X1_lettersThatAre : CV yX1_lettersThatAre := ⟨tb_mem (tb_tab (tt_6 (List.mem_of_getElem? (i := 13) rfl))) rfl, tb_mem (tb_tab (tt_6 (List.mem_of_getElem? (i := 14) rfl))) rfl⟩
theorem cv_X1_liveByLots : CV yX1_liveByLots := ⟨tb_mem (tb_tab (tt_6 (List.mem_of_getElem? (i := 4) rfl))) rfl, tb_mem (tb_tab (tt_6 (List.mem_of_getElem? (i := 5) rfl))) rfl⟩
theorem cv_X1_lookUp : CV yX1_lookUp := ⟨tb_mem (tb_tab (tt_4 (List.mem_of_getElem? (i := 210) rfl))) rfl, tb_mem (tb_tab (tt_4 (List.mem_of_getElem? (i := 211) rfl))) rfl⟩
theorem cv_X1_openedAs : CV yX1_openedAs := ⟨tb_mem (tb_tab (tt_4 (List.mem_of_getElem? (i := 227) rfl))) rfl, tb_mem (tb_tab (tt_4 (List.mem_of_getElem? (i := 228) rfl))) rfl⟩
theorem cv_X1_openingBehind : CV yX1_openingBehind := ⟨tb_mem (tb_tab (tt_5 (List.mem_of_getElem? (i := 76) rfl))) rfl, tb_mem (tb_tab (tt_5 (List.mem_of_getElem? (i := 77) rfl))) rfl⟩
theorem cv_X1_paidFrom : CV yX1_paidFrom := ⟨tb_mem (tb_tab (tt_5 (List.mem_of_getElem? (i := 68) rfl))) rfl, tb_mem (tb_tab (tt_5 (List.mem_of_getElem? (i := 69) rfl))) rfl⟩
theorem cv_X1_payFees : CV yX1_payFees := ⟨tb_mem (tb_tab (tt_4 (List.mem_of_getElem? (i := 205) rfl))) rfl, tb_mem (tb_tab (tt_4 (List.mem_of_getElem? (i := 206) rfl))) rfl⟩
theorem cv_X1_reasonOf : CV yX1_reasonOf := ⟨tb_mem (tb_tab (tt_4 (List.mem_of_getElem? (i := 235) rfl))) rfl, tb_mem (tb_tab (tt_4 (List.mem_of_getElem? (i := 236) rfl))) rfl⟩
theorem cv_X1_shutAgain : CV yX1_shutAgain := ⟨tb_mem (tb_tab (tt_5 (List.mem_of_getElem? (i := 102) rfl))) rfl, tb_mem (tb_tab (tt_5 (List.mem_of_getElem? (i := 103) rfl))) rfl⟩
theorem cv_X1_takeFact : CV yX1_takeFact := ⟨tb_mem (tb_tab (tt_4 (List.mem_of_getElem? (i := 189) rfl))) rfl, tb_mem (tb_sel (List.mem_map_of_mem (f := fun q : MethodName × Nat => Cond.selects q.1.cls q.1 q.1) (tp_3 (List.mem_of_getElem? (i := 4) rfl)))) rfl⟩
theorem cv_X1_takeFacts : CV yX1_takeFacts := ⟨tb_mem (tb_tab (tt_4 (List.mem_of_getElem? (i := 184) rfl))) rfl, tb_mem (tb_tab (tt_4 (List.mem_of_getElem? (i := 185) rfl))) rfl⟩
theorem cv_X1_walk : CV yX1_walk := ⟨tb_mem (tb_tab (tt_4 (List.mem_of_getElem? (i := 175) rfl))) rfl, tb_mem (tb_tab (tt_4 (List.mem_of_getElem? (i := 176) rfl))) rfl⟩
theorem cv_X2_allInTime : CV yX2_allInTime := ⟨tb_mem (tb_tab (tt_5 (List.mem_of_getElem? (i := 48) rfl))) rfl, tb_mem (tb_sel (List.mem_map_of_mem (f := fun q : MethodName × Nat => Cond.selects q.1.cls q.1 q.1) (tp_3 (List.mem_of_getElem? (i := 9) rfl)))) rfl⟩
theorem cv_X2_bothHave : CV yX2_bothHave := ⟨tb_mem (tb_tab (tt_5 (List.mem_of_getElem? (i := 36) rfl))) rfl, tb_mem (tb_sel (List.mem_map_of_mem (f := fun q : MethodName × Nat => Cond.selects q.1.cls q.1 q.1) (tp_3 (List.mem_of_getElem? (i := 8) rfl)))) rfl⟩
theorem cv_X2_gainsFrom : CV yX2_gainsFrom := ⟨tb_mem (tb_tab (tt_5 (List.mem_of_getElem? (i := 56) rfl))) rfl, tb_mem (tb_tab (tt_5 (List.mem_of_getElem? (i := 57) rfl))) rfl⟩
theorem cv_X2_lateOf : CV yX2_lateOf := ⟨tb_mem (tb_tab (tt_5 (List.mem_of_getElem? (i := 31) rfl))) rfl, tb_mem (tb_tab (tt_5 (List.mem_of_getElem? (i := 32) rfl))) rfl⟩
theorem cv_X2_lifeOf : CV yX2_lifeOf := ⟨tb_mem (tb_tab (tt_6 (List.mem_of_getElem? (i := 0) rfl))) rfl, tb_mem (tb_tab (tt_6 (List.mem_of_getElem? (i := 1) rfl))) rfl⟩
theorem cv_X2_rarestLook : CV yX2_rarestLook := ⟨tb_mem (tb_tab (tt_5 (List.mem_of_getElem? (i := 43) rfl))) rfl, tb_mem (tb_tab (tt_5 (List.mem_of_getElem? (i := 44) rfl))) rfl⟩
theorem cv_X2_runOf : CV yX2_runOf := ⟨tb_mem (tb_tab (tt_4 (List.mem_of_getElem? (i := 166) rfl))) rfl, tb_mem (tb_tab (tt_4 (List.mem_of_getElem? (i := 167) rfl))) rfl⟩
theorem cv_X2_seekTwoLooks : CV yX2_seekTwoLooks := ⟨tb_mem (tb_tab (tt_5 (List.mem_of_getElem? (i := 84) rfl))) rfl, tb_mem (tb_tab (tt_5 (List.mem_of_getElem? (i := 85) rfl))) rfl⟩
theorem cv_X2_soonerThanTruth : CV yX2_soonerThanTruth := ⟨tb_mem (tb_tab (tt_5 (List.mem_of_getElem? (i := 11) rfl))) rfl, tb_mem (tb_tab (tt_5 (List.mem_of_getElem? (i := 12) rfl))) rfl⟩
theorem cv_X2_trySecondLooks : CV yX2_trySecondLooks := ⟨tb_mem (tb_tab (tt_5 (List.mem_of_getElem? (i := 98) rfl))) rfl, tb_mem (tb_sel (List.mem_map_of_mem (f := fun q : MethodName × Nat => Cond.selects q.1.cls q.1 q.1) (tp_3 (List.mem_of_getElem? (i := 10) rfl)))) rfl⟩
theorem cv_X2_walkBoth : CV yX2_walkBoth := ⟨tb_mem (tb_tab (tt_5 (List.mem_of_getElem? (i := 27) rfl))) rfl, tb_mem (tb_tab (tt_5 (List.mem_of_getElem? (i := 28) rfl))) rfl⟩
theorem cv_X3_add : CV yX3_add := ⟨tb_mem (tb_tab (tt_4 (List.mem_of_getElem? (i := 105) rfl))) rfl, tb_mem (tb_tab (tt_4 (List.mem_of_getElem? (i := 106) rfl))) rfl⟩
theorem cv_X3_annulledBy : CV yX3_annulledBy := ⟨tb_mem (tb_tab (tt_4 (List.mem_of_getElem? (i := 150) rfl))) rfl, tb_mem (tb_sel (List.mem_map_of_mem (f := fun q : MethodName × Nat => Cond.selects q.1.cls q.1 q.1) (tp_3 (List.mem_of_getElem? (i := 1) rfl)))) rfl⟩
theorem cv_X3_arrange : CV yX3_arrange := ⟨tb_mem (tb_tab (tt_4 (List.mem_of_getElem? (i := 170) rfl))) rfl, tb_mem (tb_tab (tt_4 (List.mem_of_getElem? (i := 171) rfl))) rfl⟩
theorem cv_X3_become : CV yX3_become := ⟨tb_mem (tb_tab (tt_6 (List.mem_of_getElem? (i := 25) rfl))) rfl, tb_mem (tb_tab (tt_6 (List.mem_of_getElem? (i := 26) rfl))) rfl⟩
theorem cv_X3_counts : CV yX3_counts := ⟨tb_mem (tb_tab (tt_4 (List.mem_of_getElem? (i := 154) rfl))) rfl, tb_mem (tb_sel (List.mem_map_of_mem (f := fun q : MethodName × Nat => Cond.selects q.1.cls q.1 q.1) (tp_3 (List.mem_of_getElem? (i := 2) rfl)))) rfl⟩
theorem cv_X3_diedBy : CV yX3_diedBy := ⟨tb_mem (tb_tab (tt_5 (List.mem_of_getElem? (i := 19) rfl))) rfl, tb_mem (tb_tab (tt_5 (List.mem_of_getElem? (i := 20) rfl))) rfl⟩
theorem cv_X3_weightOf : CV yX3_weightOf := ⟨tb_mem (tb_tab (tt_4 (List.mem_of_getElem? (i := 145) rfl))) rfl, tb_mem (tb_tab (tt_4 (List.mem_of_getElem? (i := 146) rfl))) rfl⟩
theorem cv_X4_become : CV yX4_become := ⟨tb_mem (tb_tab (tt_4 (List.mem_of_getElem? (i := 14) rfl))) rfl, tb_mem (tb_tab (tt_4 (List.mem_of_getElem? (i := 15) rfl))) rfl⟩
theorem cv_X5_begin : CV yX5_begin := ⟨tb_mem (tb_tab (tt_3 (List.mem_of_getElem? (i := 148) rfl))) rfl, tb_mem (tb_tab (tt_3 (List.mem_of_getElem? (i := 149) rfl))) rfl⟩
theorem cv_X5_condition : CV yX5_condition := ⟨tb_mem (tb_tab (tt_3 (List.mem_of_getElem? (i := 210) rfl))) rfl, tb_mem (tb_sel (List.mem_map_of_mem (f := fun q : MethodName × Nat => Cond.selects q.1.cls q.1 q.1) (tp_2 (List.mem_of_getElem? (i := 1) rfl)))) rfl⟩
theorem cv_X5_emit : CV yX5_emit := ⟨tb_mem (tb_tab (tt_3 (List.mem_of_getElem? (i := 218) rfl))) rfl, tb_mem (tb_sel (List.mem_map_of_mem (f := fun q : MethodName × Nat => Cond.selects q.1.cls q.1 q.1) (tp_2 (List.mem_of_getElem? (i := 3) rfl)))) rfl⟩
theorem cv_X5_expression : CV yX5_expression := ⟨tb_mem (tb_tab (tt_3 (List.mem_of_getElem? (i := 222) rfl))) rfl, tb_mem (tb_sel (List.mem_map_of_mem (f := fun q : MethodName × Nat => Cond.selects q.1.cls q.1 q.1) (tp_2 (List.mem_of_getElem? (i := 4) rfl)))) rfl⟩
theorem cv_X5_literal : CV yX5_literal := ⟨tb_mem (tb_tab (tt_3 (List.mem_of_getElem? (i := 214) rfl))) rfl, tb_mem (tb_sel (List.mem_map_of_mem (f := fun q : MethodName × Nat => Cond.selects q.1.cls q.1 q.1) (tp_2 (List.mem_of_getElem? (i := 2) rfl)))) rfl⟩
theorem cv_X5_mark : CV yX5_mark := ⟨tb_mem (tb_tab (tt_3 (List.mem_of_getElem? (i := 181) rfl))) rfl, tb_mem (tb_sel (List.mem_map_of_mem (f := fun q : MethodName × Nat => Cond.selects q.1.cls q.1 q.1) (tp_1 (List.mem_of_getElem? (i := 10) rfl)))) rfl⟩
theorem cv_X5_settle : CV yX5_settle := ⟨tb_mem (tb_tab (tt_3 (List.mem_of_getElem? (i := 239) rfl))) rfl, tb_mem (tb_tab (tt_4 (List.mem_of_getElem? (i := 0) rfl))) rfl⟩
theorem cv_X5_settleRead : CV yX5_settleRead := ⟨tb_mem (tb_tab (tt_4 (List.mem_of_getElem? (i := 4) rfl))) rfl, tb_mem (tb_sel (List.mem_map_of_mem (f := fun q : MethodName × Nat => Cond.selects q.1.cls q.1 q.1) (tp_2 (List.mem_of_getElem? (i := 7) rfl)))) rfl⟩
theorem cv_X5_stop : CV yX5_stop := ⟨tb_mem (tb_tab (tt_3 (List.mem_of_getElem? (i := 166) rfl))) rfl, tb_mem (tb_sel (List.mem_map_of_mem (f := fun q : MethodName × Nat => Cond.selects q.1.cls q.1 q.1) (tp_1 (List.mem_of_getElem? (i := 7) rfl)))) rfl⟩
theorem cv_X5_take : CV yX5_take := ⟨tb_mem (tb_tab (tt_3 (List.mem_of_getElem? (i := 170) rfl))) rfl, tb_mem (tb_sel (List.mem_map_of_mem (f := fun q : MethodName × Nat => Cond.selects q.1.cls q.1 q.1) (tp_1 (List.mem_of_getElem? (i := 8) rfl)))) rfl⟩
theorem cv_X5_takeInt : CV yX5_takeInt := ⟨tb_mem (tb_tab (tt_3 (List.mem_of_getElem? (i := 185) rfl))) rfl, tb_mem (tb_sel (List.mem_map_of_mem (f := fun q : MethodName × Nat => Cond.selects q.1.cls q.1 q.1) (tp_1 (List.mem_of_getElem? (i := 11) rfl)))) rfl⟩
theorem cv_X5_takeLetterInts : CV yX5_takeLetterInts := ⟨tb_mem (tb_tab (tt_3 (List.mem_of_getElem? (i := 206) rfl))) rfl, tb_mem (tb_sel (List.mem_map_of_mem (f := fun q : MethodName × Nat => Cond.selects q.1.cls q.1 q.1) (tp_2 (List.mem_of_getElem? (i := 0) rfl)))) rfl⟩
theorem cv_X5_takeNewName : CV yX5_takeNewName := ⟨tb_mem (tb_tab (tt_3 (List.mem_of_getElem? (i := 174) rfl))) rfl, tb_mem (tb_sel (List.mem_map_of_mem (f := fun q : MethodName × Nat => Cond.selects q.1.cls q.1 q.1) (tp_1 (List.mem_of_getElem? (i := 9) rfl)))) rfl⟩
theorem cv_X5_takeTold : CV yX5_takeTold := ⟨tb_mem (tb_tab (tt_3 (List.mem_of_getElem? (i := 198) rfl))) rfl, tb_mem (tb_sel (List.mem_map_of_mem (f := fun q : MethodName × Nat => Cond.selects q.1.cls q.1 q.1) (tp_1 (List.mem_of_getElem? (i := 14) rfl)))) rfl⟩
theorem cv_X5_tell : CV yX5_tell := ⟨tb_mem (tb_tab (tt_3 (List.mem_of_getElem? (i := 158) rfl))) rfl, tb_mem (tb_sel (List.mem_map_of_mem (f := fun q : MethodName × Nat => Cond.selects q.1.cls q.1 q.1) (tp_1 (List.mem_of_getElem? (i := 5) rfl)))) rfl⟩
theorem cv_X5_tellAll : CV yX5_tellAll := ⟨tb_mem (tb_tab (tt_3 (List.mem_of_getElem? (i := 153) rfl))) rfl, tb_mem (tb_tab (tt_3 (List.mem_of_getElem? (i := 154) rfl))) rfl⟩
theorem cv_X5_tellBarred : CV yX5_tellBarred := ⟨tb_mem (tb_tab (tt_3 (List.mem_of_getElem? (i := 194) rfl))) rfl, tb_mem (tb_sel (List.mem_map_of_mem (f := fun q : MethodName × Nat => Cond.selects q.1.cls q.1 q.1) (tp_1 (List.mem_of_getElem? (i := 13) rfl)))) rfl⟩
theorem cv_X5_tellClerk : CV yX5_tellClerk := ⟨tb_mem (tb_tab (tt_3 (List.mem_of_getElem? (i := 190) rfl))) rfl, tb_mem (tb_sel (List.mem_map_of_mem (f := fun q : MethodName × Nat => Cond.selects q.1.cls q.1 q.1) (tp_1 (List.mem_of_getElem? (i := 12) rfl)))) rfl⟩
theorem cv_X5_tellLetter : CV yX5_tellLetter := ⟨tb_mem (tb_tab (tt_3 (List.mem_of_getElem? (i := 202) rfl))) rfl, tb_mem (tb_sel (List.mem_map_of_mem (f := fun q : MethodName × Nat => Cond.selects q.1.cls q.1 q.1) (tp_1 (List.mem_of_getElem? (i := 15) rfl)))) rfl⟩
theorem cv_X5_tellPerson : CV yX5_tellPerson := ⟨tb_mem (tb_tab (tt_3 (List.mem_of_getElem? (i := 162) rfl))) rfl, tb_mem (tb_sel (List.mem_map_of_mem (f := fun q : MethodName × Nat => Cond.selects q.1.cls q.1 q.1) (tp_1 (List.mem_of_getElem? (i := 6) rfl)))) rfl⟩
theorem cv_X5_tellProof : CV yX5_tellProof := ⟨tb_mem (tb_tab (tt_3 (List.mem_of_getElem? (i := 232) rfl))) rfl, tb_mem (tb_sel (List.mem_map_of_mem (f := fun q : MethodName × Nat => Cond.selects q.1.cls q.1 q.1) (tp_2 (List.mem_of_getElem? (i := 5) rfl)))) rfl⟩
theorem cv_X5_tellRule : CV yX5_tellRule := ⟨tb_mem (tb_tab (tt_3 (List.mem_of_getElem? (i := 236) rfl))) rfl, tb_mem (tb_sel (List.mem_map_of_mem (f := fun q : MethodName × Nat => Cond.selects q.1.cls q.1 q.1) (tp_2 (List.mem_of_getElem? (i := 6) rfl)))) rfl⟩
theorem cv_X6_compared : CV yX6_compared := ⟨tb_mem (tb_tab (tt_4 (List.mem_of_getElem? (i := 36) rfl))) rfl, tb_mem (tb_sel (List.mem_map_of_mem (f := fun q : MethodName × Nat => Cond.selects q.1.cls q.1 q.1) (tp_2 (List.mem_of_getElem? (i := 11) rfl)))) rfl⟩
theorem cv_X6_diesOf : CV yX6_diesOf := ⟨tb_mem (tb_tab (tt_4 (List.mem_of_getElem? (i := 74) rfl))) rfl, tb_mem (tb_tab (tt_4 (List.mem_of_getElem? (i := 75) rfl))) rfl⟩
theorem cv_X6_execute : CV yX6_execute := ⟨tb_mem (tb_tab (tt_4 (List.mem_of_getElem? (i := 27) rfl))) rfl, tb_mem (tb_sel (List.mem_map_of_mem (f := fun q : MethodName × Nat => Cond.selects q.1.cls q.1 q.1) (tp_2 (List.mem_of_getElem? (i := 9) rfl)))) rfl⟩
theorem cv_X6_feeOf : CV yX6_feeOf := ⟨tb_mem (tb_tab (tt_4 (List.mem_of_getElem? (i := 82) rfl))) rfl, tb_mem (tb_tab (tt_4 (List.mem_of_getElem? (i := 83) rfl))) rfl⟩
theorem cv_X6_fillTables : CV yX6_fillTables := ⟨tb_mem (tb_tab (tt_4 (List.mem_of_getElem? (i := 18) rfl))) rfl, tb_mem (tb_tab (tt_4 (List.mem_of_getElem? (i := 19) rfl))) rfl⟩
theorem cv_X6_gainIn : CV yX6_gainIn := ⟨tb_mem (tb_tab (tt_5 (List.mem_of_getElem? (i := 60) rfl))) rfl, tb_mem (tb_tab (tt_5 (List.mem_of_getElem? (i := 61) rfl))) rfl⟩
theorem cv_X6_holds : CV yX6_holds := ⟨tb_mem (tb_tab (tt_4 (List.mem_of_getElem? (i := 197) rfl))) rfl, tb_mem (tb_tab (tt_4 (List.mem_of_getElem? (i := 198) rfl))) rfl⟩
theorem cv_X6_joined : CV yX6_joined := ⟨tb_mem (tb_tab (tt_4 (List.mem_of_getElem? (i := 40) rfl))) rfl, tb_mem (tb_sel (List.mem_map_of_mem (f := fun q : MethodName × Nat => Cond.selects q.1.cls q.1 q.1) (tp_2 (List.mem_of_getElem? (i := 12) rfl)))) rfl⟩
theorem cv_X6_ruled : CV yX6_ruled := ⟨tb_mem (tb_tab (tt_4 (List.mem_of_getElem? (i := 23) rfl))) rfl, tb_mem (tb_sel (List.mem_map_of_mem (f := fun q : MethodName × Nat => Cond.selects q.1.cls q.1 q.1) (tp_2 (List.mem_of_getElem? (i := 8) rfl)))) rfl⟩
theorem cv_X6_valueOf : CV yX6_valueOf := ⟨tb_mem (tb_tab (tt_4 (List.mem_of_getElem? (i := 32) rfl))) rfl, tb_mem (tb_sel (List.mem_map_of_mem (f := fun q : MethodName × Nat => Cond.selects q.1.cls q.1 q.1) (tp_2 (List.mem_of_getElem? (i := 10) rfl)))) rfl⟩
theorem cv_X7_fewestToBurn : CV yX7_fewestToBurn := ⟨tb_mem (tb_tab (tt_5 (List.mem_of_getElem? (i := 166) rfl))) rfl, tb_mem (tb_tab (tt_5 (List.mem_of_getElem? (i := 167) rfl))) rfl⟩
theorem cv_X7_follow : CV yX7_follow := ⟨tb_mem (tb_tab (tt_5 (List.mem_of_getElem? (i := 142) rfl))) rfl, tb_mem (tb_sel (List.mem_map_of_mem (f := fun q : MethodName × Nat => Cond.selects q.1.cls q.1 q.1) (tp_3 (List.mem_of_getElem? (i := 13) rfl)))) rfl⟩
theorem cv_X7_howMany : CV yX7_howMany := ⟨tb_mem (tb_tab (tt_5 (List.mem_of_getElem? (i := 154) rfl))) rfl, tb_mem (tb_tab (tt_5 (List.mem_of_getElem? (i := 155) rfl))) rfl⟩
theorem cv_X7_leavesRings : CV yX7_leavesRings := ⟨tb_mem (tb_tab (tt_5 (List.mem_of_getElem? (i := 172) rfl))) rfl, tb_mem (tb_sel (List.mem_map_of_mem (f := fun q : MethodName × Nat => Cond.selects q.1.cls q.1 q.1) (tp_3 (List.mem_of_getElem? (i := 15) rfl)))) rfl⟩
theorem cv_X7_mutual : CV yX7_mutual := ⟨tb_mem (tb_tab (tt_5 (List.mem_of_getElem? (i := 147) rfl))) rfl, tb_mem (tb_sel (List.mem_map_of_mem (f := fun q : MethodName × Nat => Cond.selects q.1.cls q.1 q.1) (tp_3 (List.mem_of_getElem? (i := 14) rfl)))) rfl⟩
theorem cv_X7_ringOf : CV yX7_ringOf := ⟨tb_mem (tb_tab (tt_5 (List.mem_of_getElem? (i := 137) rfl))) rfl, tb_mem (tb_tab (tt_5 (List.mem_of_getElem? (i := 138) rfl))) rfl⟩
theorem cv_X8_add : CV yX8_add := ⟨tb_mem (tb_tab (tt_3 (List.mem_of_getElem? (i := 101) rfl))) rfl, tb_mem (tb_tab (tt_3 (List.mem_of_getElem? (i := 102) rfl))) rfl⟩
theorem cv_X8_byteAt : CV yX8_byteAt := ⟨tb_mem (tb_tab (tt_3 (List.mem_of_getElem? (i := 120) rfl))) rfl, tb_mem (tb_tab (tt_3 (List.mem_of_getElem? (i := 121) rfl))) rfl⟩
theorem cv_X8_hasRoom : CV yX8_hasRoom := ⟨tb_mem (tb_tab (tt_3 (List.mem_of_getElem? (i := 97) rfl))) rfl, tb_mem (tb_tab (tt_3 (List.mem_of_getElem? (i := 98) rfl))) rfl⟩
theorem cv_X9_scan : CV yX9_scan := ⟨tb_mem (tb_tab (tt_3 (List.mem_of_getElem? (i := 116) rfl))) rfl, tb_mem (tb_tab (tt_3 (List.mem_of_getElem? (i := 117) rfl))) rfl⟩
theorem cv_X9_scanInt : CV yX9_scanInt := ⟨tb_mem (tb_tab (tt_3 (List.mem_of_getElem? (i := 142) rfl))) rfl, tb_mem (tb_sel (List.mem_map_of_mem (f := fun q : MethodName × Nat => Cond.selects q.1.cls q.1 q.1) (tp_1 (List.mem_of_getElem? (i := 4) rfl)))) rfl⟩
theorem cv_X9_scanOne : CV yX9_scanOne := ⟨tb_mem (tb_tab (tt_3 (List.mem_of_getElem? (i := 129) rfl))) rfl, tb_mem (tb_sel (List.mem_map_of_mem (f := fun q : MethodName × Nat => Cond.selects q.1.cls q.1 q.1) (tp_1 (List.mem_of_getElem? (i := 1) rfl)))) rfl⟩
theorem cv_X9_scanWord : CV yX9_scanWord := ⟨tb_mem (tb_tab (tt_3 (List.mem_of_getElem? (i := 134) rfl))) rfl, tb_mem (tb_sel (List.mem_map_of_mem (f := fun q : MethodName × Nat => Cond.selects q.1.cls q.1 q.1) (tp_1 (List.mem_of_getElem? (i := 2) rfl)))) rfl⟩
theorem cv_X9_wordKind : CV yX9_wordKind := ⟨tb_mem (tb_tab (tt_3 (List.mem_of_getElem? (i := 138) rfl))) rfl, tb_mem (tb_sel (List.mem_map_of_mem (f := fun q : MethodName × Nat => Cond.selects q.1.cls q.1 q.1) (tp_1 (List.mem_of_getElem? (i := 3) rfl)))) rfl⟩
theorem sk_J13_numberOfTrailingZeros_95d88 : Cond.static yJ13_numberOfTrailingZeros_95d88 ∈ TB := tb_mem (tb_tab (tt_5 (List.mem_of_getElem? (i := 195) rfl))) rfl
theorem sk_J6_bitCount_0f7a4 : Cond.static yJ6_bitCount_0f7a4 ∈ TB := tb_mem (tb_tab (tt_5 (List.mem_of_getElem? (i := 123) rfl))) rfl
theorem sk_J6_numberOfTrailingZeros_0f7a4 : Cond.static yJ6_numberOfTrailingZeros_0f7a4 ∈ TB := tb_mem (tb_tab (tt_5 (List.mem_of_getElem? (i := 158) rfl))) rfl
theorem sk_J7_fill_53178 : Cond.static yJ7_fill_53178 ∈ TB := tb_mem (tb_tab (tt_1 (List.mem_of_getElem? (i := 191) rfl))) rfl
theorem sk_J7_fill_d0a16 : Cond.static yJ7_fill_d0a16 ∈ TB := tb_mem (tb_tab (tt_5 (List.mem_of_getElem? (i := 183) rfl))) rfl
theorem sk_X11_has : Cond.static yX11_has ∈ TB := tb_mem (tb_tab (tt_4 (List.mem_of_getElem? (i := 98) rfl))) rfl
theorem sk_X11_keepTo : Cond.static yX11_keepTo ∈ TB := tb_mem (tb_tab (tt_4 (List.mem_of_getElem? (i := 43) rfl))) rfl
theorem sk_X11_within : Cond.static yX11_within ∈ TB := tb_mem (tb_tab (tt_3 (List.mem_of_getElem? (i := 109) rfl))) rfl
theorem sk_X12_appends : Cond.static yX12_appends ∈ TB := tb_mem (tb_tab (tt_6 (List.mem_of_getElem? (i := 47) rfl))) rfl
theorem sk_X12_bits : Cond.static yX12_bits ∈ TB := tb_mem (tb_tab (tt_9 (List.mem_of_getElem? (i := 10) rfl))) rfl
theorem sk_X12_held : Cond.static yX12_held ∈ TB := tb_mem (tb_tab (tt_8 (List.mem_of_getElem? (i := 24) rfl))) rfl
theorem sk_X12_in : Cond.static yX12_in ∈ TB := tb_mem (tb_tab (tt_7 (List.mem_of_getElem? (i := 226) rfl))) rfl
theorem sk_X12_isDigit : Cond.static yX12_isDigit ∈ TB := tb_mem (tb_tab (tt_7 (List.mem_of_getElem? (i := 119) rfl))) rfl
theorem sk_X12_isEach : Cond.static yX12_isEach ∈ TB := tb_mem (tb_tab (tt_8 (List.mem_of_getElem? (i := 187) rfl))) rfl
theorem sk_X12_isLetter : Cond.static yX12_isLetter ∈ TB := tb_mem (tb_tab (tt_7 (List.mem_of_getElem? (i := 116) rfl))) rfl
theorem sk_X12_isYear : Cond.static yX12_isYear ∈ TB := tb_mem (tb_tab (tt_8 (List.mem_of_getElem? (i := 5) rfl))) rfl
theorem sk_X12_lot : Cond.static yX12_lot ∈ TB := tb_mem (tb_tab (tt_9 (List.mem_of_getElem? (i := 68) rfl))) rfl
theorem sk_X12_mixed : Cond.static yX12_mixed ∈ TB := tb_mem (tb_tab (tt_9 (List.mem_of_getElem? (i := 71) rfl))) rfl
theorem sk_X1_lot : Cond.static yX1_lot ∈ TB := tb_mem (tb_tab (tt_6 (List.mem_of_getElem? (i := 8) rfl))) rfl
theorem sk_X5_closenessOf : Cond.static yX5_closenessOf ∈ TB := tb_mem (tb_tab (tt_3 (List.mem_of_getElem? (i := 225) rfl))) rfl
theorem sk_X5_find : Cond.static yX5_find ∈ TB := tb_mem (tb_tab (tt_3 (List.mem_of_getElem? (i := 177) rfl))) rfl
theorem sk_X9_isBlank : Cond.static yX9_isBlank ∈ TB := tb_mem (tb_tab (tt_3 (List.mem_of_getElem? (i := 125) rfl))) rfl
theorem sk_X9_signKind : Cond.static yX9_signKind ∈ TB := tb_mem (tb_tab (tt_3 (List.mem_of_getElem? (i := 145) rfl))) rfl
theorem fl_X0_15 : FL "AfterOffice$Book" 15 0 1 := ⟨_, _, _, rfl, inX0, by decide, tb_mem (tb_tab (tt_1 (List.mem_of_getElem? (i := 196) rfl))) rfl, rfl⟩
theorem fl_X0_20 : FL "AfterOffice$Book" 20 0 2 := ⟨_, _, _, rfl, inX0, by decide, tb_mem (tb_tab (tt_1 (List.mem_of_getElem? (i := 199) rfl))) rfl, rfl⟩
theorem fl_X0_24 : FL "AfterOffice$Book" 24 0 3 := ⟨_, _, _, rfl, inX0, by decide, tb_mem (tb_tab (tt_1 (List.mem_of_getElem? (i := 206) rfl))) rfl, rfl⟩
theorem fl_X0_27 : FL "AfterOffice$Book" 27 0 4 := ⟨_, _, _, rfl, inX0, by decide, tb_mem (tb_tab (tt_1 (List.mem_of_getElem? (i := 209) rfl))) rfl, rfl⟩
theorem fl_X0_30 : FL "AfterOffice$Book" 30 0 5 := ⟨_, _, _, rfl, inX0, by decide, tb_mem (tb_tab (tt_1 (List.mem_of_getElem? (i := 212) rfl))) rfl, rfl⟩
theorem fl_X0_37 : FL "AfterOffice$Book" 37 0 6 := ⟨_, _, _, rfl, inX0, by decide, tb_mem (tb_tab (tt_1 (List.mem_of_getElem? (i := 215) rfl))) rfl, rfl⟩
theorem fl_X0_41 : FL "AfterOffice$Book" 41 0 7 := ⟨_, _, _, rfl, inX0, by decide, tb_mem (tb_tab (tt_1 (List.mem_of_getElem? (i := 221) rfl))) rfl, rfl⟩
theorem fl_X0_44 : FL "AfterOffice$Book" 44 0 8 := ⟨_, _, _, rfl, inX0, by decide, tb_mem (tb_tab (tt_1 (List.mem_of_getElem? (i := 224) rfl))) rfl, rfl⟩
theorem fl_X0_47 : FL "AfterOffice$Book" 47 0 9 := ⟨_, _, _, rfl, inX0, by decide, tb_mem (tb_tab (tt_1 (List.mem_of_getElem? (i := 228) rfl))) rfl, rfl⟩
theorem fl_X0_50 : FL "AfterOffice$Book" 50 0 10 := ⟨_, _, _, rfl, inX0, by decide, tb_mem (tb_tab (tt_1 (List.mem_of_getElem? (i := 234) rfl))) rfl, rfl⟩
theorem fl_X0_53 : FL "AfterOffice$Book" 53 0 11 := ⟨_, _, _, rfl, inX0, by decide, tb_mem (tb_tab (tt_1 (List.mem_of_getElem? (i := 238) rfl))) rfl, rfl⟩
theorem fl_X0_9 : FL "AfterOffice$Book" 9 0 0 := ⟨_, _, _, rfl, inX0, by decide, tb_mem (tb_tab (tt_1 (List.mem_of_getElem? (i := 193) rfl))) rfl, rfl⟩
theorem fl_X10_15 : FL "AfterOffice$Ways" 15 10 3 := ⟨_, _, _, rfl, inX10, by decide, tb_mem (tb_tab (tt_3 (List.mem_of_getElem? (i := 9) rfl))) rfl, rfl⟩
theorem fl_X10_19 : FL "AfterOffice$Ways" 19 10 0 := ⟨_, _, _, rfl, inX10, by decide, tb_mem (tb_tab (tt_3 (List.mem_of_getElem? (i := 6) rfl))) rfl, rfl⟩
theorem fl_X10_23 : FL "AfterOffice$Ways" 23 10 1 := ⟨_, _, _, rfl, inX10, by decide, tb_mem (tb_tab (tt_3 (List.mem_of_getElem? (i := 7) rfl))) rfl, rfl⟩
theorem fl_X10_37 : FL "AfterOffice$Ways" 37 0 6 := ⟨_, _, _, rfl, inX0, by decide, tb_mem (tb_tab (tt_1 (List.mem_of_getElem? (i := 217) rfl))) rfl, rfl⟩
theorem fl_X10_43 : FL "AfterOffice$Ways" 43 0 9 := ⟨_, _, _, rfl, inX0, by decide, tb_mem (tb_tab (tt_1 (List.mem_of_getElem? (i := 231) rfl))) rfl, rfl⟩
theorem fl_X10_62 : FL "AfterOffice$Ways" 62 0 2 := ⟨_, _, _, rfl, inX0, by decide, tb_mem (tb_tab (tt_1 (List.mem_of_getElem? (i := 202) rfl))) rfl, rfl⟩
theorem fl_X10_70 : FL "AfterOffice$Ways" 70 4 1 := ⟨_, _, _, rfl, inX4, by decide, tb_mem (tb_tab (tt_1 (List.mem_of_getElem? (i := 142) rfl))) rfl, rfl⟩
theorem fl_X10_84 : FL "AfterOffice$Ways" 84 10 6 := ⟨_, _, _, rfl, inX10, by decide, tb_mem (tb_tab (tt_3 (List.mem_of_getElem? (i := 14) rfl))) rfl, rfl⟩
theorem fl_X10_9 : FL "AfterOffice$Ways" 9 10 2 := ⟨_, _, _, rfl, inX10, by decide, tb_mem (tb_tab (tt_3 (List.mem_of_getElem? (i := 8) rfl))) rfl, rfl⟩
theorem fl_X10_98 : FL "AfterOffice$Ways" 98 10 8 := ⟨_, _, _, rfl, inX10, by decide, tb_mem (tb_tab (tt_3 (List.mem_of_getElem? (i := 18) rfl))) rfl, rfl⟩
theorem fl_X11_10 : FL "AfterOffice" 10 11 0 := ⟨_, _, _, rfl, inX11, by decide, tb_mem (tb_tab (tt_3 (List.mem_of_getElem? (i := 52) rfl))) rfl, rfl⟩
theorem fl_X11_103 : FL "AfterOffice" 103 0 6 := ⟨_, _, _, rfl, inX0, by decide, tb_mem (tb_tab (tt_1 (List.mem_of_getElem? (i := 218) rfl))) rfl, rfl⟩
theorem fl_X11_110 : FL "AfterOffice" 110 0 9 := ⟨_, _, _, rfl, inX0, by decide, tb_mem (tb_tab (tt_1 (List.mem_of_getElem? (i := 232) rfl))) rfl, rfl⟩
theorem fl_X11_113 : FL "AfterOffice" 113 3 6 := ⟨_, _, _, rfl, inX3, by decide, tb_mem (tb_tab (tt_2 (List.mem_of_getElem? (i := 118) rfl))) rfl, rfl⟩
theorem fl_X11_124 : FL "AfterOffice" 124 8 1 := ⟨_, _, _, rfl, inX8, by decide, tb_mem (tb_tab (tt_1 (List.mem_of_getElem? (i := 41) rfl))) rfl, rfl⟩
theorem fl_X11_138 : FL "AfterOffice" 138 5 9 := ⟨_, _, _, rfl, inX5, by decide, tb_mem (tb_tab (tt_2 (List.mem_of_getElem? (i := 43) rfl))) rfl, rfl⟩
theorem fl_X11_139 : FL "AfterOffice" 139 5 8 := ⟨_, _, _, rfl, inX5, by decide, tb_mem (tb_tab (tt_2 (List.mem_of_getElem? (i := 41) rfl))) rfl, rfl⟩
theorem fl_X11_152 : FL "AfterOffice" 152 0 2 := ⟨_, _, _, rfl, inX0, by decide, tb_mem (tb_tab (tt_1 (List.mem_of_getElem? (i := 204) rfl))) rfl, rfl⟩
theorem fl_X11_156 : FL "AfterOffice" 156 4 0 := ⟨_, _, _, rfl, inX4, by decide, tb_mem (tb_tab (tt_1 (List.mem_of_getElem? (i := 139) rfl))) rfl, rfl⟩
theorem fl_X11_161 : FL "AfterOffice" 161 4 1 := ⟨_, _, _, rfl, inX4, by decide, tb_mem (tb_tab (tt_1 (List.mem_of_getElem? (i := 144) rfl))) rfl, rfl⟩
theorem fl_X11_164 : FL "AfterOffice" 164 4 2 := ⟨_, _, _, rfl, inX4, by decide, tb_mem (tb_tab (tt_1 (List.mem_of_getElem? (i := 149) rfl))) rfl, rfl⟩
theorem fl_X11_167 : FL "AfterOffice" 167 4 3 := ⟨_, _, _, rfl, inX4, by decide, tb_mem (tb_tab (tt_1 (List.mem_of_getElem? (i := 153) rfl))) rfl, rfl⟩
theorem fl_X11_170 : FL "AfterOffice" 170 4 4 := ⟨_, _, _, rfl, inX4, by decide, tb_mem (tb_tab (tt_1 (List.mem_of_getElem? (i := 157) rfl))) rfl, rfl⟩
theorem fl_X11_189 : FL "AfterOffice" 189 0 7 := ⟨_, _, _, rfl, inX0, by decide, tb_mem (tb_tab (tt_1 (List.mem_of_getElem? (i := 223) rfl))) rfl, rfl⟩
theorem fl_X11_19 : FL "AfterOffice" 19 11 1 := ⟨_, _, _, rfl, inX11, by decide, tb_mem (tb_tab (tt_3 (List.mem_of_getElem? (i := 53) rfl))) rfl, rfl⟩
theorem fl_X11_192 : FL "AfterOffice" 192 0 1 := ⟨_, _, _, rfl, inX0, by decide, tb_mem (tb_tab (tt_1 (List.mem_of_getElem? (i := 198) rfl))) rfl, rfl⟩
theorem fl_X11_203 : FL "AfterOffice" 203 3 0 := ⟨_, _, _, rfl, inX3, by decide, tb_mem (tb_tab (tt_2 (List.mem_of_getElem? (i := 104) rfl))) rfl, rfl⟩
theorem fl_X11_206 : FL "AfterOffice" 206 3 1 := ⟨_, _, _, rfl, inX3, by decide, tb_mem (tb_tab (tt_2 (List.mem_of_getElem? (i := 106) rfl))) rfl, rfl⟩
theorem fl_X11_209 : FL "AfterOffice" 209 3 2 := ⟨_, _, _, rfl, inX3, by decide, tb_mem (tb_tab (tt_2 (List.mem_of_getElem? (i := 109) rfl))) rfl, rfl⟩
theorem fl_X11_212 : FL "AfterOffice" 212 3 3 := ⟨_, _, _, rfl, inX3, by decide, tb_mem (tb_tab (tt_2 (List.mem_of_getElem? (i := 112) rfl))) rfl, rfl⟩
theorem fl_X11_229 : FL "AfterOffice" 229 1 3 := ⟨_, _, _, rfl, inX1, by decide, tb_mem (tb_tab (tt_2 (List.mem_of_getElem? (i := 152) rfl))) rfl, rfl⟩
theorem fl_X11_234 : FL "AfterOffice" 234 1 4 := ⟨_, _, _, rfl, inX1, by decide, tb_mem (tb_tab (tt_2 (List.mem_of_getElem? (i := 155) rfl))) rfl, rfl⟩
theorem fl_X11_237 : FL "AfterOffice" 237 1 5 := ⟨_, _, _, rfl, inX1, by decide, tb_mem (tb_tab (tt_2 (List.mem_of_getElem? (i := 157) rfl))) rfl, rfl⟩
theorem fl_X11_246 : FL "AfterOffice" 246 1 13 := ⟨_, _, _, rfl, inX1, by decide, tb_mem (tb_tab (tt_2 (List.mem_of_getElem? (i := 170) rfl))) rfl, rfl⟩
theorem fl_X11_252 : FL "AfterOffice" 252 0 10 := ⟨_, _, _, rfl, inX0, by decide, tb_mem (tb_tab (tt_1 (List.mem_of_getElem? (i := 237) rfl))) rfl, rfl⟩
theorem fl_X11_26 : FL "AfterOffice" 26 11 2 := ⟨_, _, _, rfl, inX11, by decide, tb_mem (tb_tab (tt_3 (List.mem_of_getElem? (i := 54) rfl))) rfl, rfl⟩
theorem fl_X11_280 : FL "AfterOffice" 280 2 6 := ⟨_, _, _, rfl, inX2, by decide, tb_mem (tb_tab (tt_2 (List.mem_of_getElem? (i := 210) rfl))) rfl, rfl⟩
theorem fl_X11_283 : FL "AfterOffice" 283 2 7 := ⟨_, _, _, rfl, inX2, by decide, tb_mem (tb_tab (tt_2 (List.mem_of_getElem? (i := 212) rfl))) rfl, rfl⟩
theorem fl_X11_286 : FL "AfterOffice" 286 2 8 := ⟨_, _, _, rfl, inX2, by decide, tb_mem (tb_tab (tt_2 (List.mem_of_getElem? (i := 214) rfl))) rfl, rfl⟩
theorem fl_X11_296 : FL "AfterOffice" 296 10 4 := ⟨_, _, _, rfl, inX10, by decide, tb_mem (tb_tab (tt_3 (List.mem_of_getElem? (i := 11) rfl))) rfl, rfl⟩
theorem fl_X11_30 : FL "AfterOffice" 30 11 3 := ⟨_, _, _, rfl, inX11, by decide, tb_mem (tb_tab (tt_3 (List.mem_of_getElem? (i := 55) rfl))) rfl, rfl⟩
theorem fl_X11_304 : FL "AfterOffice" 304 10 5 := ⟨_, _, _, rfl, inX10, by decide, tb_mem (tb_tab (tt_3 (List.mem_of_getElem? (i := 13) rfl))) rfl, rfl⟩
theorem fl_X11_307 : FL "AfterOffice" 307 4 7 := ⟨_, _, _, rfl, inX4, by decide, tb_mem (tb_tab (tt_1 (List.mem_of_getElem? (i := 168) rfl))) rfl, rfl⟩
theorem fl_X11_324 : FL "AfterOffice" 324 10 6 := ⟨_, _, _, rfl, inX10, by decide, tb_mem (tb_tab (tt_3 (List.mem_of_getElem? (i := 15) rfl))) rfl, rfl⟩
theorem fl_X11_327 : FL "AfterOffice" 327 10 7 := ⟨_, _, _, rfl, inX10, by decide, tb_mem (tb_tab (tt_3 (List.mem_of_getElem? (i := 17) rfl))) rfl, rfl⟩
theorem fl_X11_330 : FL "AfterOffice" 330 10 8 := ⟨_, _, _, rfl, inX10, by decide, tb_mem (tb_tab (tt_3 (List.mem_of_getElem? (i := 19) rfl))) rfl, rfl⟩
theorem fl_X11_352 : FL "AfterOffice" 352 1 11 := ⟨_, _, _, rfl, inX1, by decide, tb_mem (tb_tab (tt_2 (List.mem_of_getElem? (i := 166) rfl))) rfl, rfl⟩
theorem fl_X11_358 : FL "AfterOffice" 358 0 8 := ⟨_, _, _, rfl, inX0, by decide, tb_mem (tb_tab (tt_1 (List.mem_of_getElem? (i := 226) rfl))) rfl, rfl⟩
theorem fl_X11_38 : FL "AfterOffice" 38 11 4 := ⟨_, _, _, rfl, inX11, by decide, tb_mem (tb_tab (tt_3 (List.mem_of_getElem? (i := 56) rfl))) rfl, rfl⟩
theorem fl_X11_47 : FL "AfterOffice" 47 11 5 := ⟨_, _, _, rfl, inX11, by decide, tb_mem (tb_tab (tt_3 (List.mem_of_getElem? (i := 57) rfl))) rfl, rfl⟩
theorem fl_X11_54 : FL "AfterOffice" 54 11 6 := ⟨_, _, _, rfl, inX11, by decide, tb_mem (tb_tab (tt_3 (List.mem_of_getElem? (i := 58) rfl))) rfl, rfl⟩
theorem fl_X11_58 : FL "AfterOffice" 58 11 7 := ⟨_, _, _, rfl, inX11, by decide, tb_mem (tb_tab (tt_3 (List.mem_of_getElem? (i := 59) rfl))) rfl, rfl⟩
theorem fl_X11_67 : FL "AfterOffice" 67 11 8 := ⟨_, _, _, rfl, inX11, by decide, tb_mem (tb_tab (tt_3 (List.mem_of_getElem? (i := 60) rfl))) rfl, rfl⟩
theorem fl_X11_76 : FL "AfterOffice" 76 11 9 := ⟨_, _, _, rfl, inX11, by decide, tb_mem (tb_tab (tt_3 (List.mem_of_getElem? (i := 61) rfl))) rfl, rfl⟩
theorem fl_X11_83 : FL "AfterOffice" 83 11 10 := ⟨_, _, _, rfl, inX11, by decide, tb_mem (tb_tab (tt_3 (List.mem_of_getElem? (i := 62) rfl))) rfl, rfl⟩
theorem fl_X11_87 : FL "AfterOffice" 87 11 11 := ⟨_, _, _, rfl, inX11, by decide, tb_mem (tb_tab (tt_3 (List.mem_of_getElem? (i := 63) rfl))) rfl, rfl⟩
theorem fl_X11_91 : FL "AfterOffice" 91 11 12 := ⟨_, _, _, rfl, inX11, by decide, tb_mem (tb_tab (tt_3 (List.mem_of_getElem? (i := 64) rfl))) rfl, rfl⟩
theorem fl_X12_101 : FL "AfterOfficeModel" 101 12 41 := ⟨_, _, _, rfl, inX12, by decide, tb_mem (tb_tab (tt_6 (List.mem_of_getElem? (i := 90) rfl))) rfl, rfl⟩
theorem fl_X12_104 : FL "AfterOfficeModel" 104 12 43 := ⟨_, _, _, rfl, inX12, by decide, tb_mem (tb_tab (tt_6 (List.mem_of_getElem? (i := 92) rfl))) rfl, rfl⟩
theorem fl_X12_107 : FL "AfterOfficeModel" 107 12 44 := ⟨_, _, _, rfl, inX12, by decide, tb_mem (tb_tab (tt_6 (List.mem_of_getElem? (i := 93) rfl))) rfl, rfl⟩
theorem fl_X12_110 : FL "AfterOfficeModel" 110 12 45 := ⟨_, _, _, rfl, inX12, by decide, tb_mem (tb_tab (tt_6 (List.mem_of_getElem? (i := 94) rfl))) rfl, rfl⟩
theorem fl_X12_113 : FL "AfterOfficeModel" 113 12 46 := ⟨_, _, _, rfl, inX12, by decide, tb_mem (tb_tab (tt_6 (List.mem_of_getElem? (i := 95) rfl))) rfl, rfl⟩
theorem fl_X12_116 : FL "AfterOfficeModel" 116 12 47 := ⟨_, _, _, rfl, inX12, by decide, tb_mem (tb_tab (tt_6 (List.mem_of_getElem? (i := 96) rfl))) rfl, rfl⟩
theorem fl_X12_119 : FL "AfterOfficeModel" 119 12 48 := ⟨_, _, _, rfl, inX12, by decide, tb_mem (tb_tab (tt_6 (List.mem_of_getElem? (i := 97) rfl))) rfl, rfl⟩
theorem fl_X12_122 : FL "AfterOfficeModel" 122 12 50 := ⟨_, _, _, rfl, inX12, by decide, tb_mem (tb_tab (tt_6 (List.mem_of_getElem? (i := 99) rfl))) rfl, rfl⟩
theorem fl_X12_125 : FL "AfterOfficeModel" 125 12 51 := ⟨_, _, _, rfl, inX12, by decide, tb_mem (tb_tab (tt_6 (List.mem_of_getElem? (i := 100) rfl))) rfl, rfl⟩
theorem fl_X12_128 : FL "AfterOfficeModel" 128 12 52 := ⟨_, _, _, rfl, inX12, by decide, tb_mem (tb_tab (tt_6 (List.mem_of_getElem? (i := 101) rfl))) rfl, rfl⟩
theorem fl_X12_13 : FL "AfterOfficeModel" 13 12 1 := ⟨_, _, _, rfl, inX12, by decide, tb_mem (tb_tab (tt_6 (List.mem_of_getElem? (i := 50) rfl))) rfl, rfl⟩
theorem fl_X12_131 : FL "AfterOfficeModel" 131 12 54 := ⟨_, _, _, rfl, inX12, by decide, tb_mem (tb_tab (tt_6 (List.mem_of_getElem? (i := 103) rfl))) rfl, rfl⟩
theorem fl_X12_134 : FL "AfterOfficeModel" 134 12 55 := ⟨_, _, _, rfl, inX12, by decide, tb_mem (tb_tab (tt_6 (List.mem_of_getElem? (i := 104) rfl))) rfl, rfl⟩
theorem fl_X12_137 : FL "AfterOfficeModel" 137 12 60 := ⟨_, _, _, rfl, inX12, by decide, tb_mem (tb_tab (tt_6 (List.mem_of_getElem? (i := 109) rfl))) rfl, rfl⟩
theorem fl_X12_140 : FL "AfterOfficeModel" 140 12 61 := ⟨_, _, _, rfl, inX12, by decide, tb_mem (tb_tab (tt_6 (List.mem_of_getElem? (i := 110) rfl))) rfl, rfl⟩
theorem fl_X12_143 : FL "AfterOfficeModel" 143 12 62 := ⟨_, _, _, rfl, inX12, by decide, tb_mem (tb_tab (tt_6 (List.mem_of_getElem? (i := 111) rfl))) rfl, rfl⟩
theorem fl_X12_146 : FL "AfterOfficeModel" 146 12 63 := ⟨_, _, _, rfl, inX12, by decide, tb_mem (tb_tab (tt_6 (List.mem_of_getElem? (i := 112) rfl))) rfl, rfl⟩
theorem fl_X12_149 : FL "AfterOfficeModel" 149 12 64 := ⟨_, _, _, rfl, inX12, by decide, tb_mem (tb_tab (tt_6 (List.mem_of_getElem? (i := 113) rfl))) rfl, rfl⟩
theorem fl_X12_152 : FL "AfterOfficeModel" 152 12 65 := ⟨_, _, _, rfl, inX12, by decide, tb_mem (tb_tab (tt_6 (List.mem_of_getElem? (i := 114) rfl))) rfl, rfl⟩
theorem fl_X12_155 : FL "AfterOfficeModel" 155 12 66 := ⟨_, _, _, rfl, inX12, by decide, tb_mem (tb_tab (tt_6 (List.mem_of_getElem? (i := 115) rfl))) rfl, rfl⟩
theorem fl_X12_158 : FL "AfterOfficeModel" 158 12 67 := ⟨_, _, _, rfl, inX12, by decide, tb_mem (tb_tab (tt_6 (List.mem_of_getElem? (i := 116) rfl))) rfl, rfl⟩
theorem fl_X12_161 : FL "AfterOfficeModel" 161 12 68 := ⟨_, _, _, rfl, inX12, by decide, tb_mem (tb_tab (tt_6 (List.mem_of_getElem? (i := 117) rfl))) rfl, rfl⟩
theorem fl_X12_164 : FL "AfterOfficeModel" 164 12 72 := ⟨_, _, _, rfl, inX12, by decide, tb_mem (tb_tab (tt_6 (List.mem_of_getElem? (i := 121) rfl))) rfl, rfl⟩
theorem fl_X12_167 : FL "AfterOfficeModel" 167 12 74 := ⟨_, _, _, rfl, inX12, by decide, tb_mem (tb_tab (tt_6 (List.mem_of_getElem? (i := 123) rfl))) rfl, rfl⟩
theorem fl_X12_17 : FL "AfterOfficeModel" 17 12 3 := ⟨_, _, _, rfl, inX12, by decide, tb_mem (tb_tab (tt_6 (List.mem_of_getElem? (i := 52) rfl))) rfl, rfl⟩
theorem fl_X12_170 : FL "AfterOfficeModel" 170 12 75 := ⟨_, _, _, rfl, inX12, by decide, tb_mem (tb_tab (tt_6 (List.mem_of_getElem? (i := 124) rfl))) rfl, rfl⟩
theorem fl_X12_173 : FL "AfterOfficeModel" 173 12 76 := ⟨_, _, _, rfl, inX12, by decide, tb_mem (tb_tab (tt_6 (List.mem_of_getElem? (i := 125) rfl))) rfl, rfl⟩
theorem fl_X12_176 : FL "AfterOfficeModel" 176 12 77 := ⟨_, _, _, rfl, inX12, by decide, tb_mem (tb_tab (tt_6 (List.mem_of_getElem? (i := 126) rfl))) rfl, rfl⟩
theorem fl_X12_179 : FL "AfterOfficeModel" 179 12 78 := ⟨_, _, _, rfl, inX12, by decide, tb_mem (tb_tab (tt_6 (List.mem_of_getElem? (i := 127) rfl))) rfl, rfl⟩
theorem fl_X12_182 : FL "AfterOfficeModel" 182 12 82 := ⟨_, _, _, rfl, inX12, by decide, tb_mem (tb_tab (tt_6 (List.mem_of_getElem? (i := 131) rfl))) rfl, rfl⟩
theorem fl_X12_185 : FL "AfterOfficeModel" 185 12 83 := ⟨_, _, _, rfl, inX12, by decide, tb_mem (tb_tab (tt_6 (List.mem_of_getElem? (i := 132) rfl))) rfl, rfl⟩
theorem fl_X12_188 : FL "AfterOfficeModel" 188 12 84 := ⟨_, _, _, rfl, inX12, by decide, tb_mem (tb_tab (tt_6 (List.mem_of_getElem? (i := 133) rfl))) rfl, rfl⟩
theorem fl_X12_191 : FL "AfterOfficeModel" 191 12 85 := ⟨_, _, _, rfl, inX12, by decide, tb_mem (tb_tab (tt_6 (List.mem_of_getElem? (i := 134) rfl))) rfl, rfl⟩
theorem fl_X12_194 : FL "AfterOfficeModel" 194 12 86 := ⟨_, _, _, rfl, inX12, by decide, tb_mem (tb_tab (tt_6 (List.mem_of_getElem? (i := 135) rfl))) rfl, rfl⟩
theorem fl_X12_197 : FL "AfterOfficeModel" 197 12 87 := ⟨_, _, _, rfl, inX12, by decide, tb_mem (tb_tab (tt_6 (List.mem_of_getElem? (i := 136) rfl))) rfl, rfl⟩
theorem fl_X12_20 : FL "AfterOfficeModel" 20 12 5 := ⟨_, _, _, rfl, inX12, by decide, tb_mem (tb_tab (tt_6 (List.mem_of_getElem? (i := 54) rfl))) rfl, rfl⟩
theorem fl_X12_200 : FL "AfterOfficeModel" 200 12 88 := ⟨_, _, _, rfl, inX12, by decide, tb_mem (tb_tab (tt_6 (List.mem_of_getElem? (i := 137) rfl))) rfl, rfl⟩
theorem fl_X12_203 : FL "AfterOfficeModel" 203 12 89 := ⟨_, _, _, rfl, inX12, by decide, tb_mem (tb_tab (tt_6 (List.mem_of_getElem? (i := 138) rfl))) rfl, rfl⟩
theorem fl_X12_206 : FL "AfterOfficeModel" 206 12 90 := ⟨_, _, _, rfl, inX12, by decide, tb_mem (tb_tab (tt_6 (List.mem_of_getElem? (i := 139) rfl))) rfl, rfl⟩
theorem fl_X12_209 : FL "AfterOfficeModel" 209 12 91 := ⟨_, _, _, rfl, inX12, by decide, tb_mem (tb_tab (tt_6 (List.mem_of_getElem? (i := 140) rfl))) rfl, rfl⟩
theorem fl_X12_216 : FL "AfterOfficeModel" 216 12 2 := ⟨_, _, _, rfl, inX12, by decide, tb_mem (tb_tab (tt_6 (List.mem_of_getElem? (i := 51) rfl))) rfl, rfl⟩
theorem fl_X12_223 : FL "AfterOfficeModel" 223 12 4 := ⟨_, _, _, rfl, inX12, by decide, tb_mem (tb_tab (tt_6 (List.mem_of_getElem? (i := 53) rfl))) rfl, rfl⟩
theorem fl_X12_232 : FL "AfterOfficeModel" 232 12 10 := ⟨_, _, _, rfl, inX12, by decide, tb_mem (tb_tab (tt_6 (List.mem_of_getElem? (i := 59) rfl))) rfl, rfl⟩
theorem fl_X12_24 : FL "AfterOfficeModel" 24 12 6 := ⟨_, _, _, rfl, inX12, by decide, tb_mem (tb_tab (tt_6 (List.mem_of_getElem? (i := 55) rfl))) rfl, rfl⟩
theorem fl_X12_254 : FL "AfterOfficeModel" 254 12 13 := ⟨_, _, _, rfl, inX12, by decide, tb_mem (tb_tab (tt_6 (List.mem_of_getElem? (i := 62) rfl))) rfl, rfl⟩
theorem fl_X12_257 : FL "AfterOfficeModel" 257 12 11 := ⟨_, _, _, rfl, inX12, by decide, tb_mem (tb_tab (tt_6 (List.mem_of_getElem? (i := 60) rfl))) rfl, rfl⟩
theorem fl_X12_260 : FL "AfterOfficeModel" 260 12 14 := ⟨_, _, _, rfl, inX12, by decide, tb_mem (tb_tab (tt_6 (List.mem_of_getElem? (i := 63) rfl))) rfl, rfl⟩
theorem fl_X12_263 : FL "AfterOfficeModel" 263 12 15 := ⟨_, _, _, rfl, inX12, by decide, tb_mem (tb_tab (tt_6 (List.mem_of_getElem? (i := 64) rfl))) rfl, rfl⟩
theorem fl_X12_266 : FL "AfterOfficeModel" 266 12 16 := ⟨_, _, _, rfl, inX12, by decide, tb_mem (tb_tab (tt_6 (List.mem_of_getElem? (i := 65) rfl))) rfl, rfl⟩
theorem fl_X12_27 : FL "AfterOfficeModel" 27 12 7 := ⟨_, _, _, rfl, inX12, by decide, tb_mem (tb_tab (tt_6 (List.mem_of_getElem? (i := 56) rfl))) rfl, rfl⟩
theorem fl_X12_281 : FL "AfterOfficeModel" 281 12 12 := ⟨_, _, _, rfl, inX12, by decide, tb_mem (tb_tab (tt_6 (List.mem_of_getElem? (i := 61) rfl))) rfl, rfl⟩
theorem fl_X12_284 : FL "AfterOfficeModel" 284 12 18 := ⟨_, _, _, rfl, inX12, by decide, tb_mem (tb_tab (tt_6 (List.mem_of_getElem? (i := 67) rfl))) rfl, rfl⟩
theorem fl_X12_287 : FL "AfterOfficeModel" 287 12 19 := ⟨_, _, _, rfl, inX12, by decide, tb_mem (tb_tab (tt_6 (List.mem_of_getElem? (i := 68) rfl))) rfl, rfl⟩
theorem fl_X12_290 : FL "AfterOfficeModel" 290 12 20 := ⟨_, _, _, rfl, inX12, by decide, tb_mem (tb_tab (tt_6 (List.mem_of_getElem? (i := 69) rfl))) rfl, rfl⟩
theorem fl_X12_293 : FL "AfterOfficeModel" 293 12 42 := ⟨_, _, _, rfl, inX12, by decide, tb_mem (tb_tab (tt_6 (List.mem_of_getElem? (i := 91) rfl))) rfl, rfl⟩
theorem fl_X12_296 : FL "AfterOfficeModel" 296 12 49 := ⟨_, _, _, rfl, inX12, by decide, tb_mem (tb_tab (tt_6 (List.mem_of_getElem? (i := 98) rfl))) rfl, rfl⟩
theorem fl_X12_30 : FL "AfterOfficeModel" 30 12 8 := ⟨_, _, _, rfl, inX12, by decide, tb_mem (tb_tab (tt_6 (List.mem_of_getElem? (i := 57) rfl))) rfl, rfl⟩
theorem fl_X12_305 : FL "AfterOfficeModel" 305 12 59 := ⟨_, _, _, rfl, inX12, by decide, tb_mem (tb_tab (tt_6 (List.mem_of_getElem? (i := 108) rfl))) rfl, rfl⟩
theorem fl_X12_34 : FL "AfterOfficeModel" 34 12 9 := ⟨_, _, _, rfl, inX12, by decide, tb_mem (tb_tab (tt_6 (List.mem_of_getElem? (i := 58) rfl))) rfl, rfl⟩
theorem fl_X12_355 : FL "AfterOfficeModel" 355 12 53 := ⟨_, _, _, rfl, inX12, by decide, tb_mem (tb_tab (tt_6 (List.mem_of_getElem? (i := 102) rfl))) rfl, rfl⟩
theorem fl_X12_367 : FL "AfterOfficeModel" 367 12 56 := ⟨_, _, _, rfl, inX12, by decide, tb_mem (tb_tab (tt_6 (List.mem_of_getElem? (i := 105) rfl))) rfl, rfl⟩
theorem fl_X12_37 : FL "AfterOfficeModel" 37 12 17 := ⟨_, _, _, rfl, inX12, by decide, tb_mem (tb_tab (tt_6 (List.mem_of_getElem? (i := 66) rfl))) rfl, rfl⟩
theorem fl_X12_371 : FL "AfterOfficeModel" 371 12 57 := ⟨_, _, _, rfl, inX12, by decide, tb_mem (tb_tab (tt_6 (List.mem_of_getElem? (i := 106) rfl))) rfl, rfl⟩
theorem fl_X12_374 : FL "AfterOfficeModel" 374 12 58 := ⟨_, _, _, rfl, inX12, by decide, tb_mem (tb_tab (tt_6 (List.mem_of_getElem? (i := 107) rfl))) rfl, rfl⟩
theorem fl_X12_40 : FL "AfterOfficeModel" 40 12 21 := ⟨_, _, _, rfl, inX12, by decide, tb_mem (tb_tab (tt_6 (List.mem_of_getElem? (i := 70) rfl))) rfl, rfl⟩
theorem fl_X12_43 : FL "AfterOfficeModel" 43 12 22 := ⟨_, _, _, rfl, inX12, by decide, tb_mem (tb_tab (tt_6 (List.mem_of_getElem? (i := 71) rfl))) rfl, rfl⟩
theorem fl_X12_441 : FL "AfterOfficeModel" 441 12 69 := ⟨_, _, _, rfl, inX12, by decide, tb_mem (tb_tab (tt_6 (List.mem_of_getElem? (i := 118) rfl))) rfl, rfl⟩
theorem fl_X12_444 : FL "AfterOfficeModel" 444 12 70 := ⟨_, _, _, rfl, inX12, by decide, tb_mem (tb_tab (tt_6 (List.mem_of_getElem? (i := 119) rfl))) rfl, rfl⟩
theorem fl_X12_447 : FL "AfterOfficeModel" 447 12 71 := ⟨_, _, _, rfl, inX12, by decide, tb_mem (tb_tab (tt_6 (List.mem_of_getElem? (i := 120) rfl))) rfl, rfl⟩
theorem fl_X12_450 : FL "AfterOfficeModel" 450 12 73 := ⟨_, _, _, rfl, inX12, by decide, tb_mem (tb_tab (tt_6 (List.mem_of_getElem? (i := 122) rfl))) rfl, rfl⟩
theorem fl_X12_46 : FL "AfterOfficeModel" 46 12 23 := ⟨_, _, _, rfl, inX12, by decide, tb_mem (tb_tab (tt_6 (List.mem_of_getElem? (i := 72) rfl))) rfl, rfl⟩
theorem fl_X12_49 : FL "AfterOfficeModel" 49 12 24 := ⟨_, _, _, rfl, inX12, by decide, tb_mem (tb_tab (tt_6 (List.mem_of_getElem? (i := 73) rfl))) rfl, rfl⟩
theorem fl_X12_519 : FL "AfterOfficeModel" 519 12 79 := ⟨_, _, _, rfl, inX12, by decide, tb_mem (tb_tab (tt_6 (List.mem_of_getElem? (i := 128) rfl))) rfl, rfl⟩
theorem fl_X12_52 : FL "AfterOfficeModel" 52 12 25 := ⟨_, _, _, rfl, inX12, by decide, tb_mem (tb_tab (tt_6 (List.mem_of_getElem? (i := 74) rfl))) rfl, rfl⟩
theorem fl_X12_522 : FL "AfterOfficeModel" 522 12 80 := ⟨_, _, _, rfl, inX12, by decide, tb_mem (tb_tab (tt_6 (List.mem_of_getElem? (i := 129) rfl))) rfl, rfl⟩
theorem fl_X12_525 : FL "AfterOfficeModel" 525 12 81 := ⟨_, _, _, rfl, inX12, by decide, tb_mem (tb_tab (tt_6 (List.mem_of_getElem? (i := 130) rfl))) rfl, rfl⟩
theorem fl_X12_55 : FL "AfterOfficeModel" 55 12 26 := ⟨_, _, _, rfl, inX12, by decide, tb_mem (tb_tab (tt_6 (List.mem_of_getElem? (i := 75) rfl))) rfl, rfl⟩
theorem fl_X12_58 : FL "AfterOfficeModel" 58 12 27 := ⟨_, _, _, rfl, inX12, by decide, tb_mem (tb_tab (tt_6 (List.mem_of_getElem? (i := 76) rfl))) rfl, rfl⟩
theorem fl_X12_61 : FL "AfterOfficeModel" 61 12 28 := ⟨_, _, _, rfl, inX12, by decide, tb_mem (tb_tab (tt_6 (List.mem_of_getElem? (i := 77) rfl))) rfl, rfl⟩
theorem fl_X12_64 : FL "AfterOfficeModel" 64 12 29 := ⟨_, _, _, rfl, inX12, by decide, tb_mem (tb_tab (tt_6 (List.mem_of_getElem? (i := 78) rfl))) rfl, rfl⟩
theorem fl_X12_67 : FL "AfterOfficeModel" 67 12 30 := ⟨_, _, _, rfl, inX12, by decide, tb_mem (tb_tab (tt_6 (List.mem_of_getElem? (i := 79) rfl))) rfl, rfl⟩
theorem fl_X12_70 : FL "AfterOfficeModel" 70 12 31 := ⟨_, _, _, rfl, inX12, by decide, tb_mem (tb_tab (tt_6 (List.mem_of_getElem? (i := 80) rfl))) rfl, rfl⟩
theorem fl_X12_73 : FL "AfterOfficeModel" 73 12 32 := ⟨_, _, _, rfl, inX12, by decide, tb_mem (tb_tab (tt_6 (List.mem_of_getElem? (i := 81) rfl))) rfl, rfl⟩
theorem fl_X12_76 : FL "AfterOfficeModel" 76 12 33 := ⟨_, _, _, rfl, inX12, by decide, tb_mem (tb_tab (tt_6 (List.mem_of_getElem? (i := 82) rfl))) rfl, rfl⟩
theorem fl_X12_79 : FL "AfterOfficeModel" 79 12 34 := ⟨_, _, _, rfl, inX12, by decide, tb_mem (tb_tab (tt_6 (List.mem_of_getElem? (i := 83) rfl))) rfl, rfl⟩
theorem fl_X12_82 : FL "AfterOfficeModel" 82 12 35 := ⟨_, _, _, rfl, inX12, by decide, tb_mem (tb_tab (tt_6 (List.mem_of_getElem? (i := 84) rfl))) rfl, rfl⟩
theorem fl_X12_85 : FL "AfterOfficeModel" 85 12 36 := ⟨_, _, _, rfl, inX12, by decide, tb_mem (tb_tab (tt_6 (List.mem_of_getElem? (i := 85) rfl))) rfl, rfl⟩
theorem fl_X12_88 : FL "AfterOfficeModel" 88 12 37 := ⟨_, _, _, rfl, inX12, by decide, tb_mem (tb_tab (tt_6 (List.mem_of_getElem? (i := 86) rfl))) rfl, rfl⟩
theorem fl_X12_91 : FL "AfterOfficeModel" 91 12 38 := ⟨_, _, _, rfl, inX12, by decide, tb_mem (tb_tab (tt_6 (List.mem_of_getElem? (i := 87) rfl))) rfl, rfl⟩
theorem fl_X12_94 : FL "AfterOfficeModel" 94 12 39 := ⟨_, _, _, rfl, inX12, by decide, tb_mem (tb_tab (tt_6 (List.mem_of_getElem? (i := 88) rfl))) rfl, rfl⟩
theorem fl_X12_98 : FL "AfterOfficeModel" 98 12 40 := ⟨_, _, _, rfl, inX12, by decide, tb_mem (tb_tab (tt_6 (List.mem_of_getElem? (i := 89) rfl))) rfl, rfl⟩
theorem fl_X1_102 : FL "AfterOffice$Course" 102 3 5 := ⟨_, _, _, rfl, inX3, by decide, tb_mem (tb_tab (tt_2 (List.mem_of_getElem? (i := 116) rfl))) rfl, rfl⟩
theorem fl_X1_107 : FL "AfterOffice$Course" 107 3 4 := ⟨_, _, _, rfl, inX3, by decide, tb_mem (tb_tab (tt_2 (List.mem_of_getElem? (i := 114) rfl))) rfl, rfl⟩
theorem fl_X1_114 : FL "AfterOffice$Course" 114 3 2 := ⟨_, _, _, rfl, inX3, by decide, tb_mem (tb_tab (tt_2 (List.mem_of_getElem? (i := 108) rfl))) rfl, rfl⟩
theorem fl_X1_117 : FL "AfterOffice$Course" 117 3 0 := ⟨_, _, _, rfl, inX3, by decide, tb_mem (tb_tab (tt_2 (List.mem_of_getElem? (i := 103) rfl))) rfl, rfl⟩
theorem fl_X1_120 : FL "AfterOffice$Course" 120 3 3 := ⟨_, _, _, rfl, inX3, by decide, tb_mem (tb_tab (tt_2 (List.mem_of_getElem? (i := 111) rfl))) rfl, rfl⟩
theorem fl_X1_123 : FL "AfterOffice$Course" 123 0 10 := ⟨_, _, _, rfl, inX0, by decide, tb_mem (tb_tab (tt_1 (List.mem_of_getElem? (i := 235) rfl))) rfl, rfl⟩
theorem fl_X1_126 : FL "AfterOffice$Course" 126 4 0 := ⟨_, _, _, rfl, inX4, by decide, tb_mem (tb_tab (tt_1 (List.mem_of_getElem? (i := 138) rfl))) rfl, rfl⟩
theorem fl_X1_143 : FL "AfterOffice$Course" 143 4 4 := ⟨_, _, _, rfl, inX4, by decide, tb_mem (tb_tab (tt_1 (List.mem_of_getElem? (i := 156) rfl))) rfl, rfl⟩
theorem fl_X1_149 : FL "AfterOffice$Course" 149 4 2 := ⟨_, _, _, rfl, inX4, by decide, tb_mem (tb_tab (tt_1 (List.mem_of_getElem? (i := 147) rfl))) rfl, rfl⟩
theorem fl_X1_15 : FL "AfterOffice$Course" 15 1 4 := ⟨_, _, _, rfl, inX1, by decide, tb_mem (tb_tab (tt_2 (List.mem_of_getElem? (i := 153) rfl))) rfl, rfl⟩
theorem fl_X1_160 : FL "AfterOffice$Course" 160 4 1 := ⟨_, _, _, rfl, inX4, by decide, tb_mem (tb_tab (tt_1 (List.mem_of_getElem? (i := 143) rfl))) rfl, rfl⟩
theorem fl_X1_170 : FL "AfterOffice$Course" 170 0 6 := ⟨_, _, _, rfl, inX0, by decide, tb_mem (tb_tab (tt_1 (List.mem_of_getElem? (i := 220) rfl))) rfl, rfl⟩
theorem fl_X1_18 : FL "AfterOffice$Course" 18 1 5 := ⟨_, _, _, rfl, inX1, by decide, tb_mem (tb_tab (tt_2 (List.mem_of_getElem? (i := 156) rfl))) rfl, rfl⟩
theorem fl_X1_21 : FL "AfterOffice$Course" 21 1 6 := ⟨_, _, _, rfl, inX1, by decide, tb_mem (tb_tab (tt_2 (List.mem_of_getElem? (i := 158) rfl))) rfl, rfl⟩
theorem fl_X1_24 : FL "AfterOffice$Course" 24 1 7 := ⟨_, _, _, rfl, inX1, by decide, tb_mem (tb_tab (tt_2 (List.mem_of_getElem? (i := 159) rfl))) rfl, rfl⟩
theorem fl_X1_27 : FL "AfterOffice$Course" 27 1 8 := ⟨_, _, _, rfl, inX1, by decide, tb_mem (tb_tab (tt_2 (List.mem_of_getElem? (i := 161) rfl))) rfl, rfl⟩
theorem fl_X1_30 : FL "AfterOffice$Course" 30 1 9 := ⟨_, _, _, rfl, inX1, by decide, tb_mem (tb_tab (tt_2 (List.mem_of_getElem? (i := 162) rfl))) rfl, rfl⟩
theorem fl_X1_33 : FL "AfterOffice$Course" 33 1 0 := ⟨_, _, _, rfl, inX1, by decide, tb_mem (tb_tab (tt_2 (List.mem_of_getElem? (i := 147) rfl))) rfl, rfl⟩
theorem fl_X1_37 : FL "AfterOffice$Course" 37 1 1 := ⟨_, _, _, rfl, inX1, by decide, tb_mem (tb_tab (tt_2 (List.mem_of_getElem? (i := 148) rfl))) rfl, rfl⟩
theorem fl_X1_41 : FL "AfterOffice$Course" 41 1 2 := ⟨_, _, _, rfl, inX1, by decide, tb_mem (tb_tab (tt_2 (List.mem_of_getElem? (i := 149) rfl))) rfl, rfl⟩
theorem fl_X1_51 : FL "AfterOffice$Course" 51 0 9 := ⟨_, _, _, rfl, inX0, by decide, tb_mem (tb_tab (tt_1 (List.mem_of_getElem? (i := 229) rfl))) rfl, rfl⟩
theorem fl_X1_57 : FL "AfterOffice$Course" 57 0 2 := ⟨_, _, _, rfl, inX0, by decide, tb_mem (tb_tab (tt_1 (List.mem_of_getElem? (i := 201) rfl))) rfl, rfl⟩
theorem fl_X1_61 : FL "AfterOffice$Course" 61 4 3 := ⟨_, _, _, rfl, inX4, by decide, tb_mem (tb_tab (tt_1 (List.mem_of_getElem? (i := 152) rfl))) rfl, rfl⟩
theorem fl_X1_66 : FL "AfterOffice$Course" 66 1 10 := ⟨_, _, _, rfl, inX1, by decide, tb_mem (tb_tab (tt_2 (List.mem_of_getElem? (i := 163) rfl))) rfl, rfl⟩
theorem fl_X1_69 : FL "AfterOffice$Course" 69 1 11 := ⟨_, _, _, rfl, inX1, by decide, tb_mem (tb_tab (tt_2 (List.mem_of_getElem? (i := 165) rfl))) rfl, rfl⟩
theorem fl_X1_72 : FL "AfterOffice$Course" 72 1 12 := ⟨_, _, _, rfl, inX1, by decide, tb_mem (tb_tab (tt_2 (List.mem_of_getElem? (i := 167) rfl))) rfl, rfl⟩
theorem fl_X1_75 : FL "AfterOffice$Course" 75 1 13 := ⟨_, _, _, rfl, inX1, by decide, tb_mem (tb_tab (tt_2 (List.mem_of_getElem? (i := 169) rfl))) rfl, rfl⟩
theorem fl_X1_78 : FL "AfterOffice$Course" 78 1 14 := ⟨_, _, _, rfl, inX1, by decide, tb_mem (tb_tab (tt_2 (List.mem_of_getElem? (i := 171) rfl))) rfl, rfl⟩
theorem fl_X1_9 : FL "AfterOffice$Course" 9 1 3 := ⟨_, _, _, rfl, inX1, by decide, tb_mem (tb_tab (tt_2 (List.mem_of_getElem? (i := 150) rfl))) rfl, rfl⟩
theorem fl_X2_102 : FL "AfterOffice$Courses" 102 2 8 := ⟨_, _, _, rfl, inX2, by decide, tb_mem (tb_tab (tt_2 (List.mem_of_getElem? (i := 213) rfl))) rfl, rfl⟩
theorem fl_X2_124 : FL "AfterOffice$Courses" 124 1 12 := ⟨_, _, _, rfl, inX1, by decide, tb_mem (tb_tab (tt_2 (List.mem_of_getElem? (i := 168) rfl))) rfl, rfl⟩
theorem fl_X2_15 : FL "AfterOffice$Courses" 15 2 1 := ⟨_, _, _, rfl, inX2, by decide, tb_mem (tb_tab (tt_2 (List.mem_of_getElem? (i := 204) rfl))) rfl, rfl⟩
theorem fl_X2_19 : FL "AfterOffice$Courses" 19 2 2 := ⟨_, _, _, rfl, inX2, by decide, tb_mem (tb_tab (tt_2 (List.mem_of_getElem? (i := 205) rfl))) rfl, rfl⟩
theorem fl_X2_28 : FL "AfterOffice$Courses" 28 2 3 := ⟨_, _, _, rfl, inX2, by decide, tb_mem (tb_tab (tt_2 (List.mem_of_getElem? (i := 206) rfl))) rfl, rfl⟩
theorem fl_X2_32 : FL "AfterOffice$Courses" 32 2 4 := ⟨_, _, _, rfl, inX2, by decide, tb_mem (tb_tab (tt_2 (List.mem_of_getElem? (i := 207) rfl))) rfl, rfl⟩
theorem fl_X2_35 : FL "AfterOffice$Courses" 35 2 5 := ⟨_, _, _, rfl, inX2, by decide, tb_mem (tb_tab (tt_2 (List.mem_of_getElem? (i := 208) rfl))) rfl, rfl⟩
theorem fl_X2_52 : FL "AfterOffice$Courses" 52 0 9 := ⟨_, _, _, rfl, inX0, by decide, tb_mem (tb_tab (tt_1 (List.mem_of_getElem? (i := 230) rfl))) rfl, rfl⟩
theorem fl_X2_58 : FL "AfterOffice$Courses" 58 1 3 := ⟨_, _, _, rfl, inX1, by decide, tb_mem (tb_tab (tt_2 (List.mem_of_getElem? (i := 151) rfl))) rfl, rfl⟩
theorem fl_X2_62 : FL "AfterOffice$Courses" 62 1 4 := ⟨_, _, _, rfl, inX1, by decide, tb_mem (tb_tab (tt_2 (List.mem_of_getElem? (i := 154) rfl))) rfl, rfl⟩
theorem fl_X2_77 : FL "AfterOffice$Courses" 77 1 10 := ⟨_, _, _, rfl, inX1, by decide, tb_mem (tb_tab (tt_2 (List.mem_of_getElem? (i := 164) rfl))) rfl, rfl⟩
theorem fl_X2_80 : FL "AfterOffice$Courses" 80 1 7 := ⟨_, _, _, rfl, inX1, by decide, tb_mem (tb_tab (tt_2 (List.mem_of_getElem? (i := 160) rfl))) rfl, rfl⟩
theorem fl_X2_83 : FL "AfterOffice$Courses" 83 0 2 := ⟨_, _, _, rfl, inX0, by decide, tb_mem (tb_tab (tt_1 (List.mem_of_getElem? (i := 203) rfl))) rfl, rfl⟩
theorem fl_X2_87 : FL "AfterOffice$Courses" 87 4 2 := ⟨_, _, _, rfl, inX4, by decide, tb_mem (tb_tab (tt_1 (List.mem_of_getElem? (i := 148) rfl))) rfl, rfl⟩
theorem fl_X2_9 : FL "AfterOffice$Courses" 9 2 0 := ⟨_, _, _, rfl, inX2, by decide, tb_mem (tb_tab (tt_2 (List.mem_of_getElem? (i := 203) rfl))) rfl, rfl⟩
theorem fl_X3_15 : FL "AfterOffice$Facts" 15 3 1 := ⟨_, _, _, rfl, inX3, by decide, tb_mem (tb_tab (tt_2 (List.mem_of_getElem? (i := 105) rfl))) rfl, rfl⟩
theorem fl_X3_18 : FL "AfterOffice$Facts" 18 3 2 := ⟨_, _, _, rfl, inX3, by decide, tb_mem (tb_tab (tt_2 (List.mem_of_getElem? (i := 107) rfl))) rfl, rfl⟩
theorem fl_X3_21 : FL "AfterOffice$Facts" 21 3 3 := ⟨_, _, _, rfl, inX3, by decide, tb_mem (tb_tab (tt_2 (List.mem_of_getElem? (i := 110) rfl))) rfl, rfl⟩
theorem fl_X3_24 : FL "AfterOffice$Facts" 24 3 4 := ⟨_, _, _, rfl, inX3, by decide, tb_mem (tb_tab (tt_2 (List.mem_of_getElem? (i := 113) rfl))) rfl, rfl⟩
theorem fl_X3_27 : FL "AfterOffice$Facts" 27 3 5 := ⟨_, _, _, rfl, inX3, by decide, tb_mem (tb_tab (tt_2 (List.mem_of_getElem? (i := 115) rfl))) rfl, rfl⟩
theorem fl_X3_30 : FL "AfterOffice$Facts" 30 3 6 := ⟨_, _, _, rfl, inX3, by decide, tb_mem (tb_tab (tt_2 (List.mem_of_getElem? (i := 117) rfl))) rfl, rfl⟩
theorem fl_X3_9 : FL "AfterOffice$Facts" 9 3 0 := ⟨_, _, _, rfl, inX3, by decide, tb_mem (tb_tab (tt_2 (List.mem_of_getElem? (i := 102) rfl))) rfl, rfl⟩
theorem fl_X4_13 : FL "AfterOffice$Letter" 13 4 1 := ⟨_, _, _, rfl, inX4, by decide, tb_mem (tb_tab (tt_1 (List.mem_of_getElem? (i := 141) rfl))) rfl, rfl⟩
theorem fl_X4_16 : FL "AfterOffice$Letter" 16 4 2 := ⟨_, _, _, rfl, inX4, by decide, tb_mem (tb_tab (tt_1 (List.mem_of_getElem? (i := 146) rfl))) rfl, rfl⟩
theorem fl_X4_19 : FL "AfterOffice$Letter" 19 4 3 := ⟨_, _, _, rfl, inX4, by decide, tb_mem (tb_tab (tt_1 (List.mem_of_getElem? (i := 151) rfl))) rfl, rfl⟩
theorem fl_X4_22 : FL "AfterOffice$Letter" 22 4 4 := ⟨_, _, _, rfl, inX4, by decide, tb_mem (tb_tab (tt_1 (List.mem_of_getElem? (i := 155) rfl))) rfl, rfl⟩
theorem fl_X4_25 : FL "AfterOffice$Letter" 25 4 5 := ⟨_, _, _, rfl, inX4, by decide, tb_mem (tb_tab (tt_1 (List.mem_of_getElem? (i := 159) rfl))) rfl, rfl⟩
theorem fl_X4_28 : FL "AfterOffice$Letter" 28 4 6 := ⟨_, _, _, rfl, inX4, by decide, tb_mem (tb_tab (tt_1 (List.mem_of_getElem? (i := 162) rfl))) rfl, rfl⟩
theorem fl_X4_31 : FL "AfterOffice$Letter" 31 4 7 := ⟨_, _, _, rfl, inX4, by decide, tb_mem (tb_tab (tt_1 (List.mem_of_getElem? (i := 166) rfl))) rfl, rfl⟩
theorem fl_X4_7 : FL "AfterOffice$Letter" 7 4 0 := ⟨_, _, _, rfl, inX4, by decide, tb_mem (tb_tab (tt_1 (List.mem_of_getElem? (i := 137) rfl))) rfl, rfl⟩
theorem fl_X5_101 : FL "AfterOffice$Parser" 101 0 9 := ⟨_, _, _, rfl, inX0, by decide, tb_mem (tb_tab (tt_1 (List.mem_of_getElem? (i := 233) rfl))) rfl, rfl⟩
theorem fl_X5_120 : FL "AfterOffice$Parser" 120 0 0 := ⟨_, _, _, rfl, inX0, by decide, tb_mem (tb_tab (tt_1 (List.mem_of_getElem? (i := 195) rfl))) rfl, rfl⟩
theorem fl_X5_123 : FL "AfterOffice$Parser" 123 0 8 := ⟨_, _, _, rfl, inX0, by decide, tb_mem (tb_tab (tt_1 (List.mem_of_getElem? (i := 225) rfl))) rfl, rfl⟩
theorem fl_X5_130 : FL "AfterOffice$Parser" 130 0 1 := ⟨_, _, _, rfl, inX0, by decide, tb_mem (tb_tab (tt_1 (List.mem_of_getElem? (i := 197) rfl))) rfl, rfl⟩
theorem fl_X5_133 : FL "AfterOffice$Parser" 133 0 2 := ⟨_, _, _, rfl, inX0, by decide, tb_mem (tb_tab (tt_1 (List.mem_of_getElem? (i := 205) rfl))) rfl, rfl⟩
theorem fl_X5_137 : FL "AfterOffice$Parser" 137 4 0 := ⟨_, _, _, rfl, inX4, by decide, tb_mem (tb_tab (tt_1 (List.mem_of_getElem? (i := 140) rfl))) rfl, rfl⟩
theorem fl_X5_142 : FL "AfterOffice$Parser" 142 4 1 := ⟨_, _, _, rfl, inX4, by decide, tb_mem (tb_tab (tt_1 (List.mem_of_getElem? (i := 145) rfl))) rfl, rfl⟩
theorem fl_X5_149 : FL "AfterOffice$Parser" 149 0 11 := ⟨_, _, _, rfl, inX0, by decide, tb_mem (tb_tab (tt_2 (List.mem_of_getElem? (i := 0) rfl))) rfl, rfl⟩
theorem fl_X5_15 : FL "AfterOffice$Parser" 15 5 3 := ⟨_, _, _, rfl, inX5, by decide, tb_mem (tb_tab (tt_2 (List.mem_of_getElem? (i := 35) rfl))) rfl, rfl⟩
theorem fl_X5_152 : FL "AfterOffice$Parser" 152 4 5 := ⟨_, _, _, rfl, inX4, by decide, tb_mem (tb_tab (tt_1 (List.mem_of_getElem? (i := 161) rfl))) rfl, rfl⟩
theorem fl_X5_158 : FL "AfterOffice$Parser" 158 4 6 := ⟨_, _, _, rfl, inX4, by decide, tb_mem (tb_tab (tt_1 (List.mem_of_getElem? (i := 164) rfl))) rfl, rfl⟩
theorem fl_X5_161 : FL "AfterOffice$Parser" 161 4 2 := ⟨_, _, _, rfl, inX4, by decide, tb_mem (tb_tab (tt_1 (List.mem_of_getElem? (i := 150) rfl))) rfl, rfl⟩
theorem fl_X5_164 : FL "AfterOffice$Parser" 164 4 3 := ⟨_, _, _, rfl, inX4, by decide, tb_mem (tb_tab (tt_1 (List.mem_of_getElem? (i := 154) rfl))) rfl, rfl⟩
theorem fl_X5_167 : FL "AfterOffice$Parser" 167 4 4 := ⟨_, _, _, rfl, inX4, by decide, tb_mem (tb_tab (tt_1 (List.mem_of_getElem? (i := 158) rfl))) rfl, rfl⟩
theorem fl_X5_170 : FL "AfterOffice$Parser" 170 0 10 := ⟨_, _, _, rfl, inX0, by decide, tb_mem (tb_tab (tt_1 (List.mem_of_getElem? (i := 236) rfl))) rfl, rfl⟩
theorem fl_X5_176 : FL "AfterOffice$Parser" 176 0 4 := ⟨_, _, _, rfl, inX0, by decide, tb_mem (tb_tab (tt_1 (List.mem_of_getElem? (i := 211) rfl))) rfl, rfl⟩
theorem fl_X5_179 : FL "AfterOffice$Parser" 179 0 5 := ⟨_, _, _, rfl, inX0, by decide, tb_mem (tb_tab (tt_1 (List.mem_of_getElem? (i := 214) rfl))) rfl, rfl⟩
theorem fl_X5_18 : FL "AfterOffice$Parser" 18 5 4 := ⟨_, _, _, rfl, inX5, by decide, tb_mem (tb_tab (tt_2 (List.mem_of_getElem? (i := 36) rfl))) rfl, rfl⟩
theorem fl_X5_182 : FL "AfterOffice$Parser" 182 0 3 := ⟨_, _, _, rfl, inX0, by decide, tb_mem (tb_tab (tt_1 (List.mem_of_getElem? (i := 208) rfl))) rfl, rfl⟩
theorem fl_X5_200 : FL "AfterOffice$Parser" 200 4 7 := ⟨_, _, _, rfl, inX4, by decide, tb_mem (tb_tab (tt_1 (List.mem_of_getElem? (i := 167) rfl))) rfl, rfl⟩
theorem fl_X5_21 : FL "AfterOffice$Parser" 21 5 5 := ⟨_, _, _, rfl, inX5, by decide, tb_mem (tb_tab (tt_2 (List.mem_of_getElem? (i := 37) rfl))) rfl, rfl⟩
theorem fl_X5_25 : FL "AfterOffice$Parser" 25 5 0 := ⟨_, _, _, rfl, inX5, by decide, tb_mem (tb_tab (tt_2 (List.mem_of_getElem? (i := 32) rfl))) rfl, rfl⟩
theorem fl_X5_29 : FL "AfterOffice$Parser" 29 5 1 := ⟨_, _, _, rfl, inX5, by decide, tb_mem (tb_tab (tt_2 (List.mem_of_getElem? (i := 33) rfl))) rfl, rfl⟩
theorem fl_X5_38 : FL "AfterOffice$Parser" 38 5 6 := ⟨_, _, _, rfl, inX5, by decide, tb_mem (tb_tab (tt_2 (List.mem_of_getElem? (i := 38) rfl))) rfl, rfl⟩
theorem fl_X5_42 : FL "AfterOffice$Parser" 42 9 0 := ⟨_, _, _, rfl, inX9, by decide, tb_mem (tb_tab (tt_1 (List.mem_of_getElem? (i := 104) rfl))) rfl, rfl⟩
theorem fl_X5_47 : FL "AfterOffice$Parser" 47 5 7 := ⟨_, _, _, rfl, inX5, by decide, tb_mem (tb_tab (tt_2 (List.mem_of_getElem? (i := 39) rfl))) rfl, rfl⟩
theorem fl_X5_50 : FL "AfterOffice$Parser" 50 5 8 := ⟨_, _, _, rfl, inX5, by decide, tb_mem (tb_tab (tt_2 (List.mem_of_getElem? (i := 40) rfl))) rfl, rfl⟩
theorem fl_X5_53 : FL "AfterOffice$Parser" 53 5 9 := ⟨_, _, _, rfl, inX5, by decide, tb_mem (tb_tab (tt_2 (List.mem_of_getElem? (i := 42) rfl))) rfl, rfl⟩
theorem fl_X5_82 : FL "AfterOffice$Parser" 82 9 1 := ⟨_, _, _, rfl, inX9, by decide, tb_mem (tb_tab (tt_1 (List.mem_of_getElem? (i := 106) rfl))) rfl, rfl⟩
theorem fl_X5_85 : FL "AfterOffice$Parser" 85 9 2 := ⟨_, _, _, rfl, inX9, by decide, tb_mem (tb_tab (tt_1 (List.mem_of_getElem? (i := 108) rfl))) rfl, rfl⟩
theorem fl_X5_9 : FL "AfterOffice$Parser" 9 5 2 := ⟨_, _, _, rfl, inX5, by decide, tb_mem (tb_tab (tt_2 (List.mem_of_getElem? (i := 34) rfl))) rfl, rfl⟩
theorem fl_X5_91 : FL "AfterOffice$Parser" 91 0 6 := ⟨_, _, _, rfl, inX0, by decide, tb_mem (tb_tab (tt_1 (List.mem_of_getElem? (i := 219) rfl))) rfl, rfl⟩
theorem fl_X5_98 : FL "AfterOffice$Parser" 98 0 7 := ⟨_, _, _, rfl, inX0, by decide, tb_mem (tb_tab (tt_1 (List.mem_of_getElem? (i := 222) rfl))) rfl, rfl⟩
theorem fl_X6_15 : FL "AfterOffice$Reckoner" 15 6 2 := ⟨_, _, _, rfl, inX6, by decide, tb_mem (tb_tab (tt_2 (List.mem_of_getElem? (i := 73) rfl))) rfl, rfl⟩
theorem fl_X6_18 : FL "AfterOffice$Reckoner" 18 6 3 := ⟨_, _, _, rfl, inX6, by decide, tb_mem (tb_tab (tt_2 (List.mem_of_getElem? (i := 74) rfl))) rfl, rfl⟩
theorem fl_X6_21 : FL "AfterOffice$Reckoner" 21 6 4 := ⟨_, _, _, rfl, inX6, by decide, tb_mem (tb_tab (tt_2 (List.mem_of_getElem? (i := 75) rfl))) rfl, rfl⟩
theorem fl_X6_24 : FL "AfterOffice$Reckoner" 24 6 0 := ⟨_, _, _, rfl, inX6, by decide, tb_mem (tb_tab (tt_2 (List.mem_of_getElem? (i := 71) rfl))) rfl, rfl⟩
theorem fl_X6_28 : FL "AfterOffice$Reckoner" 28 0 6 := ⟨_, _, _, rfl, inX0, by decide, tb_mem (tb_tab (tt_1 (List.mem_of_getElem? (i := 216) rfl))) rfl, rfl⟩
theorem fl_X6_34 : FL "AfterOffice$Reckoner" 34 0 0 := ⟨_, _, _, rfl, inX0, by decide, tb_mem (tb_tab (tt_1 (List.mem_of_getElem? (i := 194) rfl))) rfl, rfl⟩
theorem fl_X6_45 : FL "AfterOffice$Reckoner" 45 0 4 := ⟨_, _, _, rfl, inX0, by decide, tb_mem (tb_tab (tt_1 (List.mem_of_getElem? (i := 210) rfl))) rfl, rfl⟩
theorem fl_X6_48 : FL "AfterOffice$Reckoner" 48 0 5 := ⟨_, _, _, rfl, inX0, by decide, tb_mem (tb_tab (tt_1 (List.mem_of_getElem? (i := 213) rfl))) rfl, rfl⟩
theorem fl_X6_54 : FL "AfterOffice$Reckoner" 54 6 7 := ⟨_, _, _, rfl, inX6, by decide, tb_mem (tb_tab (tt_2 (List.mem_of_getElem? (i := 78) rfl))) rfl, rfl⟩
theorem fl_X6_58 : FL "AfterOffice$Reckoner" 58 4 5 := ⟨_, _, _, rfl, inX4, by decide, tb_mem (tb_tab (tt_1 (List.mem_of_getElem? (i := 160) rfl))) rfl, rfl⟩
theorem fl_X6_63 : FL "AfterOffice$Reckoner" 63 4 6 := ⟨_, _, _, rfl, inX4, by decide, tb_mem (tb_tab (tt_1 (List.mem_of_getElem? (i := 163) rfl))) rfl, rfl⟩
theorem fl_X6_66 : FL "AfterOffice$Reckoner" 66 6 5 := ⟨_, _, _, rfl, inX6, by decide, tb_mem (tb_tab (tt_2 (List.mem_of_getElem? (i := 76) rfl))) rfl, rfl⟩
theorem fl_X6_69 : FL "AfterOffice$Reckoner" 69 6 6 := ⟨_, _, _, rfl, inX6, by decide, tb_mem (tb_tab (tt_2 (List.mem_of_getElem? (i := 77) rfl))) rfl, rfl⟩
theorem fl_X6_77 : FL "AfterOffice$Reckoner" 77 0 11 := ⟨_, _, _, rfl, inX0, by decide, tb_mem (tb_tab (tt_1 (List.mem_of_getElem? (i := 239) rfl))) rfl, rfl⟩
theorem fl_X6_80 : FL "AfterOffice$Reckoner" 80 0 3 := ⟨_, _, _, rfl, inX0, by decide, tb_mem (tb_tab (tt_1 (List.mem_of_getElem? (i := 207) rfl))) rfl, rfl⟩
theorem fl_X6_9 : FL "AfterOffice$Reckoner" 9 6 1 := ⟨_, _, _, rfl, inX6, by decide, tb_mem (tb_tab (tt_2 (List.mem_of_getElem? (i := 72) rfl))) rfl, rfl⟩
theorem fl_X7_15 : FL "AfterOffice$Rings" 15 7 0 := ⟨_, _, _, rfl, inX7, by decide, tb_mem (tb_tab (tt_3 (List.mem_of_getElem? (i := 45) rfl))) rfl, rfl⟩
theorem fl_X7_19 : FL "AfterOffice$Rings" 19 0 9 := ⟨_, _, _, rfl, inX0, by decide, tb_mem (tb_tab (tt_1 (List.mem_of_getElem? (i := 227) rfl))) rfl, rfl⟩
theorem fl_X7_25 : FL "AfterOffice$Rings" 25 0 2 := ⟨_, _, _, rfl, inX0, by decide, tb_mem (tb_tab (tt_1 (List.mem_of_getElem? (i := 200) rfl))) rfl, rfl⟩
theorem fl_X7_29 : FL "AfterOffice$Rings" 29 4 7 := ⟨_, _, _, rfl, inX4, by decide, tb_mem (tb_tab (tt_1 (List.mem_of_getElem? (i := 165) rfl))) rfl, rfl⟩
theorem fl_X7_9 : FL "AfterOffice$Rings" 9 7 1 := ⟨_, _, _, rfl, inX7, by decide, tb_mem (tb_tab (tt_3 (List.mem_of_getElem? (i := 46) rfl))) rfl, rfl⟩
theorem fl_X8_15 : FL "AfterOffice$Tape" 15 8 1 := ⟨_, _, _, rfl, inX8, by decide, tb_mem (tb_tab (tt_1 (List.mem_of_getElem? (i := 39) rfl))) rfl, rfl⟩
theorem fl_X8_9 : FL "AfterOffice$Tape" 9 8 0 := ⟨_, _, _, rfl, inX8, by decide, tb_mem (tb_tab (tt_1 (List.mem_of_getElem? (i := 38) rfl))) rfl, rfl⟩
theorem fl_X9_15 : FL "AfterOffice$Tokens" 15 9 1 := ⟨_, _, _, rfl, inX9, by decide, tb_mem (tb_tab (tt_1 (List.mem_of_getElem? (i := 105) rfl))) rfl, rfl⟩
theorem fl_X9_18 : FL "AfterOffice$Tokens" 18 9 2 := ⟨_, _, _, rfl, inX9, by decide, tb_mem (tb_tab (tt_1 (List.mem_of_getElem? (i := 107) rfl))) rfl, rfl⟩
theorem fl_X9_22 : FL "AfterOffice$Tokens" 22 9 3 := ⟨_, _, _, rfl, inX9, by decide, tb_mem (tb_tab (tt_1 (List.mem_of_getElem? (i := 109) rfl))) rfl, rfl⟩
theorem fl_X9_37 : FL "AfterOffice$Tokens" 37 9 4 := ⟨_, _, _, rfl, inX9, by decide, tb_mem (tb_tab (tt_1 (List.mem_of_getElem? (i := 110) rfl))) rfl, rfl⟩
theorem fl_X9_41 : FL "AfterOffice$Tokens" 41 8 1 := ⟨_, _, _, rfl, inX8, by decide, tb_mem (tb_tab (tt_1 (List.mem_of_getElem? (i := 40) rfl))) rfl, rfl⟩
theorem fl_X9_9 : FL "AfterOffice$Tokens" 9 9 0 := ⟨_, _, _, rfl, inX9, by decide, tb_mem (tb_tab (tt_1 (List.mem_of_getElem? (i := 103) rfl))) rfl, rfl⟩
theorem fp_X0_37 : FP "AfterOffice$Book" 37 0 6 .int := ⟨_, _, _, tyX0, rfl, inX0, by decide, tb_mem (tb_tab (tt_1 (List.mem_of_getElem? (i := 215) rfl))) rfl, rfl, tyX0_ok, nmX0, rfl, by decide⟩
theorem fp_X0_41 : FP "AfterOffice$Book" 41 0 7 .int := ⟨_, _, _, tyX0, rfl, inX0, by decide, tb_mem (tb_tab (tt_1 (List.mem_of_getElem? (i := 221) rfl))) rfl, rfl, tyX0_ok, nmX0, rfl, by decide⟩
theorem fp_X0_44 : FP "AfterOffice$Book" 44 0 8 .int := ⟨_, _, _, tyX0, rfl, inX0, by decide, tb_mem (tb_tab (tt_1 (List.mem_of_getElem? (i := 224) rfl))) rfl, rfl, tyX0_ok, nmX0, rfl, by decide⟩
theorem fp_X0_47 : FP "AfterOffice$Book" 47 0 9 .int := ⟨_, _, _, tyX0, rfl, inX0, by decide, tb_mem (tb_tab (tt_1 (List.mem_of_getElem? (i := 228) rfl))) rfl, rfl, tyX0_ok, nmX0, rfl, by decide⟩
theorem fp_X0_50 : FP "AfterOffice$Book" 50 0 10 .int := ⟨_, _, _, tyX0, rfl, inX0, by decide, tb_mem (tb_tab (tt_1 (List.mem_of_getElem? (i := 234) rfl))) rfl, rfl, tyX0_ok, nmX0, rfl, by decide⟩
theorem fp_X0_53 : FP "AfterOffice$Book" 53 0 11 .int := ⟨_, _, _, tyX0, rfl, inX0, by decide, tb_mem (tb_tab (tt_1 (List.mem_of_getElem? (i := 238) rfl))) rfl, rfl, tyX0_ok, nmX0, rfl, by decide⟩
theorem fp_X10_52 : FP "AfterOffice$Ways" 52 10 4 .int := ⟨_, _, _, tyX10, rfl, inX10, by decide, tb_mem (tb_tab (tt_3 (List.mem_of_getElem? (i := 10) rfl))) rfl, rfl, tyX10_ok, nmX10, rfl, by decide⟩
theorem fp_X10_55 : FP "AfterOffice$Ways" 55 10 5 .int := ⟨_, _, _, tyX10, rfl, inX10, by decide, tb_mem (tb_tab (tt_3 (List.mem_of_getElem? (i := 12) rfl))) rfl, rfl, tyX10_ok, nmX10, rfl, by decide⟩
theorem fp_X10_84 : FP "AfterOffice$Ways" 84 10 6 .int := ⟨_, _, _, tyX10, rfl, inX10, by decide, tb_mem (tb_tab (tt_3 (List.mem_of_getElem? (i := 14) rfl))) rfl, rfl, tyX10_ok, nmX10, rfl, by decide⟩
theorem fp_X10_87 : FP "AfterOffice$Ways" 87 10 7 .int := ⟨_, _, _, tyX10, rfl, inX10, by decide, tb_mem (tb_tab (tt_3 (List.mem_of_getElem? (i := 16) rfl))) rfl, rfl, tyX10_ok, nmX10, rfl, by decide⟩
theorem fp_X10_98 : FP "AfterOffice$Ways" 98 10 8 .boolean := ⟨_, _, _, tyX10, rfl, inX10, by decide, tb_mem (tb_tab (tt_3 (List.mem_of_getElem? (i := 18) rfl))) rfl, rfl, tyX10_ok, nmX10, rfl, by decide⟩
theorem fp_X11_113 : FP "AfterOffice" 113 3 6 .int := ⟨_, _, _, tyX3, rfl, inX3, by decide, tb_mem (tb_tab (tt_2 (List.mem_of_getElem? (i := 118) rfl))) rfl, rfl, tyX3_ok, nmX3, rfl, by decide⟩
theorem fp_X11_124 : FP "AfterOffice" 124 8 1 .int := ⟨_, _, _, tyX8, rfl, inX8, by decide, tb_mem (tb_tab (tt_1 (List.mem_of_getElem? (i := 41) rfl))) rfl, rfl, tyX8_ok, nmX8, rfl, by decide⟩
theorem fp_X11_87 : FP "AfterOffice" 87 11 11 .int := ⟨_, _, _, tyX11, rfl, inX11, by decide, tb_mem (tb_tab (tt_3 (List.mem_of_getElem? (i := 63) rfl))) rfl, rfl, tyX11_ok, nmX11, rfl, by decide⟩
theorem fp_X11_91 : FP "AfterOffice" 91 11 12 .int := ⟨_, _, _, tyX11, rfl, inX11, by decide, tb_mem (tb_tab (tt_3 (List.mem_of_getElem? (i := 64) rfl))) rfl, rfl, tyX11_ok, nmX11, rfl, by decide⟩
theorem fp_X12_216 : FP "AfterOfficeModel" 216 12 2 .int := ⟨_, _, _, tyX12, rfl, inX12, by decide, tb_mem (tb_tab (tt_6 (List.mem_of_getElem? (i := 51) rfl))) rfl, rfl, tyX12_ok, nmX12, rfl, by decide⟩
theorem fp_X12_223 : FP "AfterOfficeModel" 223 12 4 .int := ⟨_, _, _, tyX12, rfl, inX12, by decide, tb_mem (tb_tab (tt_6 (List.mem_of_getElem? (i := 53) rfl))) rfl, rfl, tyX12_ok, nmX12, rfl, by decide⟩
theorem fp_X12_232 : FP "AfterOfficeModel" 232 12 10 .int := ⟨_, _, _, tyX12, rfl, inX12, by decide, tb_mem (tb_tab (tt_6 (List.mem_of_getElem? (i := 59) rfl))) rfl, rfl, tyX12_ok, nmX12, rfl, by decide⟩
theorem fp_X12_254 : FP "AfterOfficeModel" 254 12 13 .int := ⟨_, _, _, tyX12, rfl, inX12, by decide, tb_mem (tb_tab (tt_6 (List.mem_of_getElem? (i := 62) rfl))) rfl, rfl, tyX12_ok, nmX12, rfl, by decide⟩
theorem fp_X12_257 : FP "AfterOfficeModel" 257 12 11 .int := ⟨_, _, _, tyX12, rfl, inX12, by decide, tb_mem (tb_tab (tt_6 (List.mem_of_getElem? (i := 60) rfl))) rfl, rfl, tyX12_ok, nmX12, rfl, by decide⟩
theorem fp_X12_260 : FP "AfterOfficeModel" 260 12 14 .int := ⟨_, _, _, tyX12, rfl, inX12, by decide, tb_mem (tb_tab (tt_6 (List.mem_of_getElem? (i := 63) rfl))) rfl, rfl, tyX12_ok, nmX12, rfl, by decide⟩
theorem fp_X12_263 : FP "AfterOfficeModel" 263 12 15 .int := ⟨_, _, _, tyX12, rfl, inX12, by decide, tb_mem (tb_tab (tt_6 (List.mem_of_getElem? (i := 64) rfl))) rfl, rfl, tyX12_ok, nmX12, rfl, by decide⟩
theorem fp_X12_266 : FP "AfterOfficeModel" 266 12 16 .int := ⟨_, _, _, tyX12, rfl, inX12, by decide, tb_mem (tb_tab (tt_6 (List.mem_of_getElem? (i := 65) rfl))) rfl, rfl, tyX12_ok, nmX12, rfl, by decide⟩
theorem fp_X12_281 : FP "AfterOfficeModel" 281 12 12 .int := ⟨_, _, _, tyX12, rfl, inX12, by decide, tb_mem (tb_tab (tt_6 (List.mem_of_getElem? (i := 61) rfl))) rfl, rfl, tyX12_ok, nmX12, rfl, by decide⟩
theorem fp_X12_284 : FP "AfterOfficeModel" 284 12 18 .int := ⟨_, _, _, tyX12, rfl, inX12, by decide, tb_mem (tb_tab (tt_6 (List.mem_of_getElem? (i := 67) rfl))) rfl, rfl, tyX12_ok, nmX12, rfl, by decide⟩
theorem fp_X12_287 : FP "AfterOfficeModel" 287 12 19 .int := ⟨_, _, _, tyX12, rfl, inX12, by decide, tb_mem (tb_tab (tt_6 (List.mem_of_getElem? (i := 68) rfl))) rfl, rfl, tyX12_ok, nmX12, rfl, by decide⟩
theorem fp_X12_290 : FP "AfterOfficeModel" 290 12 20 .int := ⟨_, _, _, tyX12, rfl, inX12, by decide, tb_mem (tb_tab (tt_6 (List.mem_of_getElem? (i := 69) rfl))) rfl, rfl, tyX12_ok, nmX12, rfl, by decide⟩
theorem fp_X12_293 : FP "AfterOfficeModel" 293 12 42 .int := ⟨_, _, _, tyX12, rfl, inX12, by decide, tb_mem (tb_tab (tt_6 (List.mem_of_getElem? (i := 91) rfl))) rfl, rfl, tyX12_ok, nmX12, rfl, by decide⟩
theorem fp_X12_296 : FP "AfterOfficeModel" 296 12 49 .int := ⟨_, _, _, tyX12, rfl, inX12, by decide, tb_mem (tb_tab (tt_6 (List.mem_of_getElem? (i := 98) rfl))) rfl, rfl, tyX12_ok, nmX12, rfl, by decide⟩
theorem fp_X12_305 : FP "AfterOfficeModel" 305 12 59 .int := ⟨_, _, _, tyX12, rfl, inX12, by decide, tb_mem (tb_tab (tt_6 (List.mem_of_getElem? (i := 108) rfl))) rfl, rfl, tyX12_ok, nmX12, rfl, by decide⟩
theorem fp_X12_355 : FP "AfterOfficeModel" 355 12 53 .int := ⟨_, _, _, tyX12, rfl, inX12, by decide, tb_mem (tb_tab (tt_6 (List.mem_of_getElem? (i := 102) rfl))) rfl, rfl, tyX12_ok, nmX12, rfl, by decide⟩
theorem fp_X12_367 : FP "AfterOfficeModel" 367 12 56 .boolean := ⟨_, _, _, tyX12, rfl, inX12, by decide, tb_mem (tb_tab (tt_6 (List.mem_of_getElem? (i := 105) rfl))) rfl, rfl, tyX12_ok, nmX12, rfl, by decide⟩
theorem fp_X12_37 : FP "AfterOfficeModel" 37 12 17 .int := ⟨_, _, _, tyX12, rfl, inX12, by decide, tb_mem (tb_tab (tt_6 (List.mem_of_getElem? (i := 66) rfl))) rfl, rfl, tyX12_ok, nmX12, rfl, by decide⟩
theorem fp_X12_371 : FP "AfterOfficeModel" 371 12 57 .int := ⟨_, _, _, tyX12, rfl, inX12, by decide, tb_mem (tb_tab (tt_6 (List.mem_of_getElem? (i := 106) rfl))) rfl, rfl, tyX12_ok, nmX12, rfl, by decide⟩
theorem fp_X12_374 : FP "AfterOfficeModel" 374 12 58 .int := ⟨_, _, _, tyX12, rfl, inX12, by decide, tb_mem (tb_tab (tt_6 (List.mem_of_getElem? (i := 107) rfl))) rfl, rfl, tyX12_ok, nmX12, rfl, by decide⟩
theorem fp_X12_441 : FP "AfterOfficeModel" 441 12 69 .int := ⟨_, _, _, tyX12, rfl, inX12, by decide, tb_mem (tb_tab (tt_6 (List.mem_of_getElem? (i := 118) rfl))) rfl, rfl, tyX12_ok, nmX12, rfl, by decide⟩
theorem fp_X12_444 : FP "AfterOfficeModel" 444 12 70 .int := ⟨_, _, _, tyX12, rfl, inX12, by decide, tb_mem (tb_tab (tt_6 (List.mem_of_getElem? (i := 119) rfl))) rfl, rfl, tyX12_ok, nmX12, rfl, by decide⟩
theorem fp_X12_447 : FP "AfterOfficeModel" 447 12 71 .int := ⟨_, _, _, tyX12, rfl, inX12, by decide, tb_mem (tb_tab (tt_6 (List.mem_of_getElem? (i := 120) rfl))) rfl, rfl, tyX12_ok, nmX12, rfl, by decide⟩
theorem fp_X12_450 : FP "AfterOfficeModel" 450 12 73 .int := ⟨_, _, _, tyX12, rfl, inX12, by decide, tb_mem (tb_tab (tt_6 (List.mem_of_getElem? (i := 122) rfl))) rfl, rfl, tyX12_ok, nmX12, rfl, by decide⟩
theorem fp_X12_519 : FP "AfterOfficeModel" 519 12 79 .int := ⟨_, _, _, tyX12, rfl, inX12, by decide, tb_mem (tb_tab (tt_6 (List.mem_of_getElem? (i := 128) rfl))) rfl, rfl, tyX12_ok, nmX12, rfl, by decide⟩
theorem fp_X12_522 : FP "AfterOfficeModel" 522 12 80 .int := ⟨_, _, _, tyX12, rfl, inX12, by decide, tb_mem (tb_tab (tt_6 (List.mem_of_getElem? (i := 129) rfl))) rfl, rfl, tyX12_ok, nmX12, rfl, by decide⟩
theorem fp_X12_525 : FP "AfterOfficeModel" 525 12 81 .int := ⟨_, _, _, tyX12, rfl, inX12, by decide, tb_mem (tb_tab (tt_6 (List.mem_of_getElem? (i := 130) rfl))) rfl, rfl, tyX12_ok, nmX12, rfl, by decide⟩
theorem fp_X1_66 : FP "AfterOffice$Course" 66 1 10 .int := ⟨_, _, _, tyX1, rfl, inX1, by decide, tb_mem (tb_tab (tt_2 (List.mem_of_getElem? (i := 163) rfl))) rfl, rfl, tyX1_ok, nmX1, rfl, by decide⟩
theorem fp_X1_69 : FP "AfterOffice$Course" 69 1 11 .int := ⟨_, _, _, tyX1, rfl, inX1, by decide, tb_mem (tb_tab (tt_2 (List.mem_of_getElem? (i := 165) rfl))) rfl, rfl, tyX1_ok, nmX1, rfl, by decide⟩
theorem fp_X1_72 : FP "AfterOffice$Course" 72 1 12 .int := ⟨_, _, _, tyX1, rfl, inX1, by decide, tb_mem (tb_tab (tt_2 (List.mem_of_getElem? (i := 167) rfl))) rfl, rfl, tyX1_ok, nmX1, rfl, by decide⟩
theorem fp_X1_75 : FP "AfterOffice$Course" 75 1 13 .int := ⟨_, _, _, tyX1, rfl, inX1, by decide, tb_mem (tb_tab (tt_2 (List.mem_of_getElem? (i := 169) rfl))) rfl, rfl, tyX1_ok, nmX1, rfl, by decide⟩
theorem fp_X1_78 : FP "AfterOffice$Course" 78 1 14 .boolean := ⟨_, _, _, tyX1, rfl, inX1, by decide, tb_mem (tb_tab (tt_2 (List.mem_of_getElem? (i := 171) rfl))) rfl, rfl, tyX1_ok, nmX1, rfl, by decide⟩
theorem fp_X2_102 : FP "AfterOffice$Courses" 102 2 8 .int := ⟨_, _, _, tyX2, rfl, inX2, by decide, tb_mem (tb_tab (tt_2 (List.mem_of_getElem? (i := 213) rfl))) rfl, rfl, tyX2_ok, nmX2, rfl, by decide⟩
theorem fp_X2_127 : FP "AfterOffice$Courses" 127 2 6 .int := ⟨_, _, _, tyX2, rfl, inX2, by decide, tb_mem (tb_tab (tt_2 (List.mem_of_getElem? (i := 209) rfl))) rfl, rfl, tyX2_ok, nmX2, rfl, by decide⟩
theorem fp_X2_130 : FP "AfterOffice$Courses" 130 2 7 .int := ⟨_, _, _, tyX2, rfl, inX2, by decide, tb_mem (tb_tab (tt_2 (List.mem_of_getElem? (i := 211) rfl))) rfl, rfl, tyX2_ok, nmX2, rfl, by decide⟩
theorem fp_X3_30 : FP "AfterOffice$Facts" 30 3 6 .int := ⟨_, _, _, tyX3, rfl, inX3, by decide, tb_mem (tb_tab (tt_2 (List.mem_of_getElem? (i := 117) rfl))) rfl, rfl, tyX3_ok, nmX3, rfl, by decide⟩
theorem fp_X4_13 : FP "AfterOffice$Letter" 13 4 1 .int := ⟨_, _, _, tyX4, rfl, inX4, by decide, tb_mem (tb_tab (tt_1 (List.mem_of_getElem? (i := 141) rfl))) rfl, rfl, tyX4_ok, nmX4, rfl, by decide⟩
theorem fp_X4_16 : FP "AfterOffice$Letter" 16 4 2 .int := ⟨_, _, _, tyX4, rfl, inX4, by decide, tb_mem (tb_tab (tt_1 (List.mem_of_getElem? (i := 146) rfl))) rfl, rfl, tyX4_ok, nmX4, rfl, by decide⟩
theorem fp_X4_19 : FP "AfterOffice$Letter" 19 4 3 .int := ⟨_, _, _, tyX4, rfl, inX4, by decide, tb_mem (tb_tab (tt_1 (List.mem_of_getElem? (i := 151) rfl))) rfl, rfl, tyX4_ok, nmX4, rfl, by decide⟩
theorem fp_X4_22 : FP "AfterOffice$Letter" 22 4 4 .int := ⟨_, _, _, tyX4, rfl, inX4, by decide, tb_mem (tb_tab (tt_1 (List.mem_of_getElem? (i := 155) rfl))) rfl, rfl, tyX4_ok, nmX4, rfl, by decide⟩
theorem fp_X4_25 : FP "AfterOffice$Letter" 25 4 5 .int := ⟨_, _, _, tyX4, rfl, inX4, by decide, tb_mem (tb_tab (tt_1 (List.mem_of_getElem? (i := 159) rfl))) rfl, rfl, tyX4_ok, nmX4, rfl, by decide⟩
theorem fp_X4_28 : FP "AfterOffice$Letter" 28 4 6 .int := ⟨_, _, _, tyX4, rfl, inX4, by decide, tb_mem (tb_tab (tt_1 (List.mem_of_getElem? (i := 162) rfl))) rfl, rfl, tyX4_ok, nmX4, rfl, by decide⟩
theorem fp_X4_31 : FP "AfterOffice$Letter" 31 4 7 .int := ⟨_, _, _, tyX4, rfl, inX4, by decide, tb_mem (tb_tab (tt_1 (List.mem_of_getElem? (i := 166) rfl))) rfl, rfl, tyX4_ok, nmX4, rfl, by decide⟩
theorem fp_X4_7 : FP "AfterOffice$Letter" 7 4 0 .int := ⟨_, _, _, tyX4, rfl, inX4, by decide, tb_mem (tb_tab (tt_1 (List.mem_of_getElem? (i := 137) rfl))) rfl, rfl, tyX4_ok, nmX4, rfl, by decide⟩
theorem fp_X5_101 : FP "AfterOffice$Parser" 101 0 9 .int := ⟨_, _, _, tyX0, rfl, inX0, by decide, tb_mem (tb_tab (tt_1 (List.mem_of_getElem? (i := 233) rfl))) rfl, rfl, tyX0_ok, nmX0, rfl, by decide⟩
theorem fp_X5_123 : FP "AfterOffice$Parser" 123 0 8 .int := ⟨_, _, _, tyX0, rfl, inX0, by decide, tb_mem (tb_tab (tt_1 (List.mem_of_getElem? (i := 225) rfl))) rfl, rfl, tyX0_ok, nmX0, rfl, by decide⟩
theorem fp_X5_137 : FP "AfterOffice$Parser" 137 4 0 .int := ⟨_, _, _, tyX4, rfl, inX4, by decide, tb_mem (tb_tab (tt_1 (List.mem_of_getElem? (i := 140) rfl))) rfl, rfl, tyX4_ok, nmX4, rfl, by decide⟩
theorem fp_X5_142 : FP "AfterOffice$Parser" 142 4 1 .int := ⟨_, _, _, tyX4, rfl, inX4, by decide, tb_mem (tb_tab (tt_1 (List.mem_of_getElem? (i := 145) rfl))) rfl, rfl, tyX4_ok, nmX4, rfl, by decide⟩
theorem fp_X5_149 : FP "AfterOffice$Parser" 149 0 11 .int := ⟨_, _, _, tyX0, rfl, inX0, by decide, tb_mem (tb_tab (tt_2 (List.mem_of_getElem? (i := 0) rfl))) rfl, rfl, tyX0_ok, nmX0, rfl, by decide⟩
theorem fp_X5_152 : FP "AfterOffice$Parser" 152 4 5 .int := ⟨_, _, _, tyX4, rfl, inX4, by decide, tb_mem (tb_tab (tt_1 (List.mem_of_getElem? (i := 161) rfl))) rfl, rfl, tyX4_ok, nmX4, rfl, by decide⟩
theorem fp_X5_158 : FP "AfterOffice$Parser" 158 4 6 .int := ⟨_, _, _, tyX4, rfl, inX4, by decide, tb_mem (tb_tab (tt_1 (List.mem_of_getElem? (i := 164) rfl))) rfl, rfl, tyX4_ok, nmX4, rfl, by decide⟩
theorem fp_X5_161 : FP "AfterOffice$Parser" 161 4 2 .int := ⟨_, _, _, tyX4, rfl, inX4, by decide, tb_mem (tb_tab (tt_1 (List.mem_of_getElem? (i := 150) rfl))) rfl, rfl, tyX4_ok, nmX4, rfl, by decide⟩
theorem fp_X5_164 : FP "AfterOffice$Parser" 164 4 3 .int := ⟨_, _, _, tyX4, rfl, inX4, by decide, tb_mem (tb_tab (tt_1 (List.mem_of_getElem? (i := 154) rfl))) rfl, rfl, tyX4_ok, nmX4, rfl, by decide⟩
theorem fp_X5_167 : FP "AfterOffice$Parser" 167 4 4 .int := ⟨_, _, _, tyX4, rfl, inX4, by decide, tb_mem (tb_tab (tt_1 (List.mem_of_getElem? (i := 158) rfl))) rfl, rfl, tyX4_ok, nmX4, rfl, by decide⟩
theorem fp_X5_170 : FP "AfterOffice$Parser" 170 0 10 .int := ⟨_, _, _, tyX0, rfl, inX0, by decide, tb_mem (tb_tab (tt_1 (List.mem_of_getElem? (i := 236) rfl))) rfl, rfl, tyX0_ok, nmX0, rfl, by decide⟩
theorem fp_X5_200 : FP "AfterOffice$Parser" 200 4 7 .int := ⟨_, _, _, tyX4, rfl, inX4, by decide, tb_mem (tb_tab (tt_1 (List.mem_of_getElem? (i := 167) rfl))) rfl, rfl, tyX4_ok, nmX4, rfl, by decide⟩
theorem fp_X5_38 : FP "AfterOffice$Parser" 38 5 6 .int := ⟨_, _, _, tyX5, rfl, inX5, by decide, tb_mem (tb_tab (tt_2 (List.mem_of_getElem? (i := 38) rfl))) rfl, rfl, tyX5_ok, nmX5, rfl, by decide⟩
theorem fp_X5_47 : FP "AfterOffice$Parser" 47 5 7 .int := ⟨_, _, _, tyX5, rfl, inX5, by decide, tb_mem (tb_tab (tt_2 (List.mem_of_getElem? (i := 39) rfl))) rfl, rfl, tyX5_ok, nmX5, rfl, by decide⟩
theorem fp_X5_50 : FP "AfterOffice$Parser" 50 5 8 .int := ⟨_, _, _, tyX5, rfl, inX5, by decide, tb_mem (tb_tab (tt_2 (List.mem_of_getElem? (i := 40) rfl))) rfl, rfl, tyX5_ok, nmX5, rfl, by decide⟩
theorem fp_X5_53 : FP "AfterOffice$Parser" 53 5 9 .int := ⟨_, _, _, tyX5, rfl, inX5, by decide, tb_mem (tb_tab (tt_2 (List.mem_of_getElem? (i := 42) rfl))) rfl, rfl, tyX5_ok, nmX5, rfl, by decide⟩
theorem fp_X5_91 : FP "AfterOffice$Parser" 91 0 6 .int := ⟨_, _, _, tyX0, rfl, inX0, by decide, tb_mem (tb_tab (tt_1 (List.mem_of_getElem? (i := 219) rfl))) rfl, rfl, tyX0_ok, nmX0, rfl, by decide⟩
theorem fp_X5_98 : FP "AfterOffice$Parser" 98 0 7 .int := ⟨_, _, _, tyX0, rfl, inX0, by decide, tb_mem (tb_tab (tt_1 (List.mem_of_getElem? (i := 222) rfl))) rfl, rfl, tyX0_ok, nmX0, rfl, by decide⟩
theorem fp_X6_54 : FP "AfterOffice$Reckoner" 54 6 7 .boolean := ⟨_, _, _, tyX6, rfl, inX6, by decide, tb_mem (tb_tab (tt_2 (List.mem_of_getElem? (i := 78) rfl))) rfl, rfl, tyX6_ok, nmX6, rfl, by decide⟩
theorem fp_X6_66 : FP "AfterOffice$Reckoner" 66 6 5 .int := ⟨_, _, _, tyX6, rfl, inX6, by decide, tb_mem (tb_tab (tt_2 (List.mem_of_getElem? (i := 76) rfl))) rfl, rfl, tyX6_ok, nmX6, rfl, by decide⟩
theorem fp_X6_69 : FP "AfterOffice$Reckoner" 69 6 6 .int := ⟨_, _, _, tyX6, rfl, inX6, by decide, tb_mem (tb_tab (tt_2 (List.mem_of_getElem? (i := 77) rfl))) rfl, rfl, tyX6_ok, nmX6, rfl, by decide⟩
theorem fp_X8_15 : FP "AfterOffice$Tape" 15 8 1 .int := ⟨_, _, _, tyX8, rfl, inX8, by decide, tb_mem (tb_tab (tt_1 (List.mem_of_getElem? (i := 39) rfl))) rfl, rfl, tyX8_ok, nmX8, rfl, by decide⟩
theorem fp_X9_37 : FP "AfterOffice$Tokens" 37 9 4 .int := ⟨_, _, _, tyX9, rfl, inX9, by decide, tb_mem (tb_tab (tt_1 (List.mem_of_getElem? (i := 110) rfl))) rfl, rfl, tyX9_ok, nmX9, rfl, by decide⟩
theorem gs_X10_30 : Cond.fieldLinkNest "AfterOffice$Ways" 30 "AfterOffice" "FEW_STARTS" "[I" "AfterOffice" ∈ lw_tbl := tb_tab (tt_3 (List.mem_of_getElem? (i := 4) rfl))
theorem mm_max : Cond.static Lib.Math.max.name ∈ TB ∧ Cond.initialized "java/lang/Math" ∈ TB ∧ Cond.code Lib.Math.max.name Lib.Math.max.code 2 (some .int) ∈ TB := ⟨tb_mem (tb_tab (tt_3 (List.mem_of_getElem? (i := 228) rfl))) rfl, tb_mem (tb_tab (tt_1 (List.mem_of_getElem? (i := 19) rfl))) rfl, tb_mem (tb_tab (tt_3 (List.mem_of_getElem? (i := 229) rfl))) rfl⟩
theorem mm_min : Cond.static Lib.Math.min.name ∈ TB ∧ Cond.initialized "java/lang/Math" ∈ TB ∧ Cond.code Lib.Math.min.name Lib.Math.min.code 2 (some .int) ∈ TB := ⟨tb_mem (tb_tab (tt_4 (List.mem_of_getElem? (i := 46) rfl))) rfl, tb_mem (tb_tab (tt_1 (List.mem_of_getElem? (i := 19) rfl))) rfl, tb_mem (tb_tab (tt_4 (List.mem_of_getElem? (i := 47) rfl))) rfl⟩
theorem ac_nat : Cond.native arraycopyName ∈ TB := tb_mem (tb_tab (tt_4 (List.mem_of_getElem? (i := 12) rfl))) rfl
theorem ac_stat : Cond.static arraycopyName ∈ TB := tb_mem (tb_tab (tt_4 (List.mem_of_getElem? (i := 11) rfl))) rfl
theorem ac_ini : Cond.initialized "java/lang/System" ∈ TB := tb_mem (tb_tab (tt_1 (List.mem_of_getElem? (i := 20) rfl))) rfl
theorem k_J6_264 : Cond.constant "java/lang/Integer" 264 65536 ∈ TB := tb_mem (tb_tab (tt_5 (List.mem_of_getElem? (i := 160) rfl))) rfl
theorem k_J6_265 : Cond.constant "java/lang/Integer" 265 1431655765 ∈ TB := tb_mem (tb_tab (tt_5 (List.mem_of_getElem? (i := 125) rfl))) rfl
theorem k_J6_266 : Cond.constant "java/lang/Integer" 266 858993459 ∈ TB := tb_mem (tb_tab (tt_5 (List.mem_of_getElem? (i := 126) rfl))) rfl
theorem k_J6_267 : Cond.constant "java/lang/Integer" 267 252645135 ∈ TB := tb_mem (tb_tab (tt_5 (List.mem_of_getElem? (i := 127) rfl))) rfl
theorem k_X10_115 : Cond.constantLong "AfterOffice$Ways" 115 100 ∈ TB := tb_mem (tb_tab (tt_5 (List.mem_of_getElem? (i := 230) rfl))) rfl
theorem k_X11_334 : Cond.constantLong "AfterOffice" 334 (-1) ∈ TB := tb_mem (tb_tab (tt_5 (List.mem_of_getElem? (i := 211) rfl))) rfl
theorem k_X11_340 : Cond.constantLong "AfterOffice" 340 (-2) ∈ TB := tb_mem (tb_tab (tt_5 (List.mem_of_getElem? (i := 221) rfl))) rfl
theorem k_X12_226 : Cond.constantLong "AfterOfficeModel" 226 27 ∈ TB := tb_mem (tb_tab (tt_6 (List.mem_of_getElem? (i := 49) rfl))) rfl
theorem k_X12_540 : Cond.constantLong "AfterOfficeModel" 540 (-1) ∈ TB := tb_mem (tb_tab (tt_9 (List.mem_of_getElem? (i := 44) rfl))) rfl
theorem k_X12_542 : Cond.constantLong "AfterOfficeModel" 542 100 ∈ TB := tb_mem (tb_tab (tt_9 (List.mem_of_getElem? (i := 54) rfl))) rfl
theorem k_X12_544 : Cond.constantLong "AfterOfficeModel" 544 (-2) ∈ TB := tb_mem (tb_tab (tt_9 (List.mem_of_getElem? (i := 49) rfl))) rfl
theorem k_X12_553 : Cond.constant "AfterOfficeModel" 553 1103515245 ∈ TB := tb_mem (tb_tab (tt_9 (List.mem_of_getElem? (i := 73) rfl))) rfl
theorem k_X1_179 : Cond.constant "AfterOffice$Course" 179 1103515245 ∈ TB := tb_mem (tb_tab (tt_6 (List.mem_of_getElem? (i := 10) rfl))) rfl
