theorem ml_L_102 : Cond.methodLink "AfterOfficeLaw" 102 yX12_why ∈ TB := tb_mem (tb_tab (tt_8 (List.mem_of_getElem? (i := 158) rfl))) rfl
theorem ml_L_103 : Cond.methodLink "AfterOfficeLaw" 103 yX11_harm ∈ TB := tb_mem (tb_tab (tt_5 (List.mem_of_getElem? (i := 2) rfl))) rfl
theorem ml_L_106 : Cond.methodLink "AfterOfficeLaw" 106 yX12_harm ∈ TB := tb_mem (tb_tab (tt_8 (List.mem_of_getElem? (i := 162) rfl))) rfl
theorem ml_L_107 : Cond.methodLink "AfterOfficeLaw" 107 yX11_tooSoon ∈ TB := tb_mem (tb_tab (tt_5 (List.mem_of_getElem? (i := 6) rfl))) rfl
theorem ml_L_110 : Cond.methodLink "AfterOfficeLaw" 110 yX12_tooSoon ∈ TB := tb_mem (tb_tab (tt_8 (List.mem_of_getElem? (i := 170) rfl))) rfl
theorem ml_L_111 : Cond.methodLink "AfterOfficeLaw" 111 yX11_wrong ∈ TB := tb_mem (tb_tab (tt_5 (List.mem_of_getElem? (i := 14) rfl))) rfl
theorem ml_L_114 : Cond.methodLink "AfterOfficeLaw" 114 yX12_wrong ∈ TB := tb_mem (tb_tab (tt_8 (List.mem_of_getElem? (i := 178) rfl))) rfl
theorem ml_L_115 : Cond.methodLink "AfterOfficeLaw" 115 yX11_late ∈ TB := tb_mem (tb_tab (tt_5 (List.mem_of_getElem? (i := 22) rfl))) rfl
theorem ml_L_118 : Cond.methodLink "AfterOfficeLaw" 118 yX12_late ∈ TB := tb_mem (tb_tab (tt_8 (List.mem_of_getElem? (i := 182) rfl))) rfl
theorem ml_L_119 : Cond.methodLink "AfterOfficeLaw" 119 yX11_watch ∈ TB := tb_mem (tb_tab (tt_5 (List.mem_of_getElem? (i := 38) rfl))) rfl
theorem ml_L_122 : Cond.methodLink "AfterOfficeLaw" 122 yX12_watch ∈ TB := tb_mem (tb_tab (tt_8 (List.mem_of_getElem? (i := 189) rfl))) rfl
theorem ml_L_123 : Cond.methodLink "AfterOfficeLaw" 123 yX11_gain ∈ TB := tb_mem (tb_tab (tt_5 (List.mem_of_getElem? (i := 51) rfl))) rfl
theorem ml_L_126 : Cond.methodLink "AfterOfficeLaw" 126 yX12_gain ∈ TB := tb_mem (tb_tab (tt_8 (List.mem_of_getElem? (i := 197) rfl))) rfl
theorem ml_L_127 : Cond.methodLink "AfterOfficeLaw" 127 yX11_income ∈ TB := tb_mem (tb_tab (tt_5 (List.mem_of_getElem? (i := 63) rfl))) rfl
theorem ml_L_13 : Cond.methodLink "AfterOfficeLaw" 13 yX11_feed ∈ TB := tb_mem (tb_tab (tt_3 (List.mem_of_getElem? (i := 92) rfl))) rfl
theorem ml_L_130 : Cond.methodLink "AfterOfficeLaw" 130 yX12_income ∈ TB := tb_mem (tb_tab (tt_8 (List.mem_of_getElem? (i := 213) rfl))) rfl
theorem ml_L_131 : Cond.methodLink "AfterOfficeLaw" 131 yX11_next ∈ TB := tb_mem (tb_tab (tt_5 (List.mem_of_getElem? (i := 71) rfl))) rfl
theorem ml_L_134 : Cond.methodLink "AfterOfficeLaw" 134 yX12_next ∈ TB := tb_mem (tb_tab (tt_8 (List.mem_of_getElem? (i := 217) rfl))) rfl
theorem ml_L_135 : Cond.methodLink "AfterOfficeLaw" 135 yX11_looks ∈ TB := tb_mem (tb_tab (tt_5 (List.mem_of_getElem? (i := 79) rfl))) rfl
theorem ml_L_138 : Cond.methodLink "AfterOfficeLaw" 138 yX12_looks ∈ TB := tb_mem (tb_tab (tt_8 (List.mem_of_getElem? (i := 209) rfl))) rfl
theorem ml_L_139 : Cond.methodLink "AfterOfficeLaw" 139 yX11_need ∈ TB := tb_mem (tb_tab (tt_5 (List.mem_of_getElem? (i := 105) rfl))) rfl
theorem ml_L_142 : Cond.methodLink "AfterOfficeLaw" 142 yX12_need ∈ TB := tb_mem (tb_tab (tt_9 (List.mem_of_getElem? (i := 16) rfl))) rfl
theorem ml_L_143 : Cond.methodLink "AfterOfficeLaw" 143 yX11_asks ∈ TB := tb_mem (tb_tab (tt_5 (List.mem_of_getElem? (i := 128) rfl))) rfl
theorem ml_L_146 : Cond.methodLink "AfterOfficeLaw" 146 yX12_asks ∈ TB := tb_mem (tb_tab (tt_8 (List.mem_of_getElem? (i := 221) rfl))) rfl
theorem ml_L_147 : Cond.methodLink "AfterOfficeLaw" 147 yX11_ring ∈ TB := tb_mem (tb_tab (tt_5 (List.mem_of_getElem? (i := 132) rfl))) rfl
theorem ml_L_150 : Cond.methodLink "AfterOfficeLaw" 150 yX12_ring ∈ TB := tb_mem (tb_tab (tt_8 (List.mem_of_getElem? (i := 229) rfl))) rfl
theorem ml_L_151 : Cond.methodLink "AfterOfficeLaw" 151 yX11_rings ∈ TB := tb_mem (tb_tab (tt_5 (List.mem_of_getElem? (i := 149) rfl))) rfl
theorem ml_L_154 : Cond.methodLink "AfterOfficeLaw" 154 yX12_rings ∈ TB := tb_mem (tb_tab (tt_9 (List.mem_of_getElem? (i := 1) rfl))) rfl
theorem ml_L_155 : Cond.methodLink "AfterOfficeLaw" 155 yX11_burn ∈ TB := tb_mem (tb_tab (tt_5 (List.mem_of_getElem? (i := 161) rfl))) rfl
theorem ml_L_158 : Cond.methodLink "AfterOfficeLaw" 158 yX12_burn ∈ TB := tb_mem (tb_tab (tt_9 (List.mem_of_getElem? (i := 5) rfl))) rfl
theorem ml_L_159 : Cond.methodLink "AfterOfficeLaw" 159 yX11_future ∈ TB := tb_mem (tb_tab (tt_5 (List.mem_of_getElem? (i := 174) rfl))) rfl
theorem ml_L_162 : Cond.methodLink "AfterOfficeLaw" 162 yX12_future ∈ TB := tb_mem (tb_tab (tt_9 (List.mem_of_getElem? (i := 28) rfl))) rfl
theorem ml_L_163 : Cond.methodLink "AfterOfficeLaw" 163 yX11_lives ∈ TB := tb_mem (tb_tab (tt_5 (List.mem_of_getElem? (i := 207) rfl))) rfl
theorem ml_L_167 : Cond.methodLink "AfterOfficeLaw" 167 yX12_lives ∈ TB := tb_mem (tb_tab (tt_9 (List.mem_of_getElem? (i := 40) rfl))) rfl
theorem ml_L_168 : Cond.methodLink "AfterOfficeLaw" 168 yX11_odds ∈ TB := tb_mem (tb_tab (tt_5 (List.mem_of_getElem? (i := 217) rfl))) rfl
theorem ml_L_17 : Cond.methodLink "AfterOfficeLaw" 17 yX12_feed ∈ TB := tb_mem (tb_tab (tt_7 (List.mem_of_getElem? (i := 87) rfl))) rfl
theorem ml_L_171 : Cond.methodLink "AfterOfficeLaw" 171 yX12_odds ∈ TB := tb_mem (tb_tab (tt_9 (List.mem_of_getElem? (i := 45) rfl))) rfl
theorem ml_L_172 : Cond.methodLink "AfterOfficeLaw" 172 yX11_life ∈ TB := tb_mem (tb_tab (tt_5 (List.mem_of_getElem? (i := 235) rfl))) rfl
theorem ml_L_175 : Cond.methodLink "AfterOfficeLaw" 175 yX12_life ∈ TB := tb_mem (tb_tab (tt_9 (List.mem_of_getElem? (i := 59) rfl))) rfl
theorem ml_L_176 : Cond.methodLink "AfterOfficeLaw" 176 yX11_chance ∈ TB := tb_mem (tb_tab (tt_6 (List.mem_of_getElem? (i := 16) rfl))) rfl
theorem ml_L_179 : Cond.methodLink "AfterOfficeLaw" 179 yX12_chance ∈ TB := tb_mem (tb_tab (tt_9 (List.mem_of_getElem? (i := 78) rfl))) rfl
theorem ml_L_18 : Cond.methodLink "AfterOfficeLaw" 18 yX11_back ∈ TB := tb_mem (tb_tab (tt_3 (List.mem_of_getElem? (i := 104) rfl))) rfl
theorem ml_L_180 : Cond.methodLink "AfterOfficeLaw" 180 yX11_hold ∈ TB := tb_mem (tb_tab (tt_6 (List.mem_of_getElem? (i := 20) rfl))) rfl
theorem ml_L_184 : Cond.methodLink "AfterOfficeLaw" 184 yX12_hold ∈ TB := tb_mem (tb_tab (tt_9 (List.mem_of_getElem? (i := 82) rfl))) rfl
theorem ml_L_185 : Cond.methodLink "AfterOfficeLaw" 185 yX11_restore ∈ TB := tb_mem (tb_tab (tt_6 (List.mem_of_getElem? (i := 29) rfl))) rfl
theorem ml_L_188 : Cond.methodLink "AfterOfficeLaw" 188 yX12_restore ∈ TB := tb_mem (tb_tab (tt_9 (List.mem_of_getElem? (i := 86) rfl))) rfl
theorem ml_L_189 : Cond.methodLink "AfterOfficeLaw" 189 yX11_count ∈ TB := tb_mem (tb_tab (tt_6 (List.mem_of_getElem? (i := 33) rfl))) rfl
theorem ml_L_192 : Cond.methodLink "AfterOfficeLaw" 192 yX12_count ∈ TB := tb_mem (tb_tab (tt_9 (List.mem_of_getElem? (i := 90) rfl))) rfl
theorem ml_L_22 : Cond.methodLink "AfterOfficeLaw" 22 yX12_back ∈ TB := tb_mem (tb_tab (tt_7 (List.mem_of_getElem? (i := 95) rfl))) rfl
theorem ml_L_23 : Cond.methodLink "AfterOfficeLaw" 23 yX11_read ∈ TB := tb_mem (tb_tab (tt_3 (List.mem_of_getElem? (i := 111) rfl))) rfl
theorem ml_L_27 : Cond.methodLink "AfterOfficeLaw" 27 yX12_read ∈ TB := tb_mem (tb_tab (tt_7 (List.mem_of_getElem? (i := 99) rfl))) rfl
theorem ml_L_28 : Cond.methodLink "AfterOfficeLaw" 28 yX11_place ∈ TB := tb_mem (tb_tab (tt_4 (List.mem_of_getElem? (i := 49) rfl))) rfl
theorem ml_L_31 : Cond.methodLink "AfterOfficeLaw" 31 yX12_place ∈ TB := tb_mem (tb_tab (tt_7 (List.mem_of_getElem? (i := 213) rfl))) rfl
theorem ml_L_32 : Cond.methodLink "AfterOfficeLaw" 32 yX11_letter ∈ TB := tb_mem (tb_tab (tt_4 (List.mem_of_getElem? (i := 53) rfl))) rfl
theorem ml_L_36 : Cond.methodLink "AfterOfficeLaw" 36 yX12_letter ∈ TB := tb_mem (tb_tab (tt_7 (List.mem_of_getElem? (i := 217) rfl))) rfl
theorem ml_L_37 : Cond.methodLink "AfterOfficeLaw" 37 yX11_dies ∈ TB := tb_mem (tb_tab (tt_4 (List.mem_of_getElem? (i := 61) rfl))) rfl
theorem ml_L_40 : Cond.methodLink "AfterOfficeLaw" 40 yX12_dies ∈ TB := tb_mem (tb_tab (tt_7 (List.mem_of_getElem? (i := 236) rfl))) rfl
theorem ml_L_41 : Cond.methodLink "AfterOfficeLaw" 41 yX11_fee ∈ TB := tb_mem (tb_tab (tt_4 (List.mem_of_getElem? (i := 77) rfl))) rfl
theorem ml_L_44 : Cond.methodLink "AfterOfficeLaw" 44 yX12_fee ∈ TB := tb_mem (tb_tab (tt_8 (List.mem_of_getElem? (i := 26) rfl))) rfl
theorem ml_L_45 : Cond.methodLink "AfterOfficeLaw" 45 yX11_clerk ∈ TB := tb_mem (tb_tab (tt_4 (List.mem_of_getElem? (i := 85) rfl))) rfl
theorem ml_L_48 : Cond.methodLink "AfterOfficeLaw" 48 yX12_clerk ∈ TB := tb_mem (tb_tab (tt_8 (List.mem_of_getElem? (i := 34) rfl))) rfl
theorem ml_L_49 : Cond.methodLink "AfterOfficeLaw" 49 yX11_barred ∈ TB := tb_mem (tb_tab (tt_4 (List.mem_of_getElem? (i := 93) rfl))) rfl
theorem ml_L_52 : Cond.methodLink "AfterOfficeLaw" 52 yX12_barred ∈ TB := tb_mem (tb_tab (tt_8 (List.mem_of_getElem? (i := 38) rfl))) rfl
theorem ml_L_53 : Cond.methodLink "AfterOfficeLaw" 53 yX11_rumour ∈ TB := tb_mem (tb_tab (tt_4 (List.mem_of_getElem? (i := 100) rfl))) rfl
theorem ml_L_57 : Cond.methodLink "AfterOfficeLaw" 57 yX12_rumour ∈ TB := tb_mem (tb_tab (tt_8 (List.mem_of_getElem? (i := 46) rfl))) rfl
theorem ml_L_58 : Cond.methodLink "AfterOfficeLaw" 58 yX11_death ∈ TB := tb_mem (tb_tab (tt_4 (List.mem_of_getElem? (i := 108) rfl))) rfl
theorem ml_L_61 : Cond.methodLink "AfterOfficeLaw" 61 yX12_death ∈ TB := tb_mem (tb_tab (tt_8 (List.mem_of_getElem? (i := 58) rfl))) rfl
theorem ml_L_62 : Cond.methodLink "AfterOfficeLaw" 62 yX11_takeBack ∈ TB := tb_mem (tb_tab (tt_4 (List.mem_of_getElem? (i := 112) rfl))) rfl
theorem ml_L_65 : Cond.methodLink "AfterOfficeLaw" 65 yX12_takeBack ∈ TB := tb_mem (tb_tab (tt_8 (List.mem_of_getElem? (i := 62) rfl))) rfl
theorem ml_L_66 : Cond.methodLink "AfterOfficeLaw" 66 yX11_early ∈ TB := tb_mem (tb_tab (tt_4 (List.mem_of_getElem? (i := 116) rfl))) rfl
theorem ml_L_69 : Cond.methodLink "AfterOfficeLaw" 69 yX12_early ∈ TB := tb_mem (tb_tab (tt_8 (List.mem_of_getElem? (i := 66) rfl))) rfl
theorem ml_L_70 : Cond.methodLink "AfterOfficeLaw" 70 yX11_date ∈ TB := tb_mem (tb_tab (tt_4 (List.mem_of_getElem? (i := 120) rfl))) rfl
theorem ml_L_73 : Cond.methodLink "AfterOfficeLaw" 73 yX12_date ∈ TB := tb_mem (tb_tab (tt_8 (List.mem_of_getElem? (i := 70) rfl))) rfl
theorem ml_L_74 : Cond.methodLink "AfterOfficeLaw" 74 yX11_flood ∈ TB := tb_mem (tb_tab (tt_4 (List.mem_of_getElem? (i := 124) rfl))) rfl
theorem ml_L_77 : Cond.methodLink "AfterOfficeLaw" 77 yX12_flood ∈ TB := tb_mem (tb_tab (tt_8 (List.mem_of_getElem? (i := 74) rfl))) rfl
theorem ml_L_78 : Cond.methodLink "AfterOfficeLaw" 78 yX11_annul ∈ TB := tb_mem (tb_tab (tt_4 (List.mem_of_getElem? (i := 128) rfl))) rfl
theorem ml_L_81 : Cond.methodLink "AfterOfficeLaw" 81 yX12_annul ∈ TB := tb_mem (tb_tab (tt_8 (List.mem_of_getElem? (i := 78) rfl))) rfl
theorem ml_L_82 : Cond.methodLink "AfterOfficeLaw" 82 yX11_fact ∈ TB := tb_mem (tb_tab (tt_4 (List.mem_of_getElem? (i := 132) rfl))) rfl
theorem ml_L_85 : Cond.methodLink "AfterOfficeLaw" 85 yX12_fact ∈ TB := tb_mem (tb_tab (tt_8 (List.mem_of_getElem? (i := 82) rfl))) rfl
theorem ml_L_86 : Cond.methodLink "AfterOfficeLaw" 86 yX11_weighs ∈ TB := tb_mem (tb_tab (tt_4 (List.mem_of_getElem? (i := 136) rfl))) rfl
theorem ml_L_89 : Cond.methodLink "AfterOfficeLaw" 89 yX12_weighs ∈ TB := tb_mem (tb_tab (tt_8 (List.mem_of_getElem? (i := 86) rfl))) rfl
theorem ml_L_90 : Cond.methodLink "AfterOfficeLaw" 90 yX11_run ∈ TB := tb_mem (tb_tab (tt_4 (List.mem_of_getElem? (i := 157) rfl))) rfl
theorem ml_L_94 : Cond.methodLink "AfterOfficeLaw" 94 yX12_run ∈ TB := tb_mem (tb_tab (tt_8 (List.mem_of_getElem? (i := 102) rfl))) rfl
theorem ml_L_95 : Cond.methodLink "AfterOfficeLaw" 95 yX11_opened ∈ TB := tb_mem (tb_tab (tt_4 (List.mem_of_getElem? (i := 222) rfl))) rfl
theorem ml_L_98 : Cond.methodLink "AfterOfficeLaw" 98 yX12_opened ∈ TB := tb_mem (tb_tab (tt_8 (List.mem_of_getElem? (i := 154) rfl))) rfl
theorem ml_L_99 : Cond.methodLink "AfterOfficeLaw" 99 yX11_why ∈ TB := tb_mem (tb_tab (tt_4 (List.mem_of_getElem? (i := 230) rfl))) rfl
theorem ck_X11_annul : CK yX11_annul cX11_annul 2 (some .int) 1 := ⟨tb_mem (tb_tab (tt_4 (List.mem_of_getElem? (i := 131) rfl))) rfl, tb_mem (tb_tab (tt_1 (List.mem_of_getElem? (i := 1) rfl))) rfl, by decide, by decide⟩
theorem ck_X11_asks : CK yX11_asks cX11_asks 2 (some .int) 1 := ⟨tb_mem (tb_tab (tt_5 (List.mem_of_getElem? (i := 131) rfl))) rfl, tb_mem (tb_tab (tt_1 (List.mem_of_getElem? (i := 1) rfl))) rfl, by decide, by decide⟩
theorem ck_X11_back : CK yX11_back cX11_back 2 (some .int) 1 := ⟨tb_mem (tb_tab (tt_3 (List.mem_of_getElem? (i := 107) rfl))) rfl, tb_mem (tb_tab (tt_1 (List.mem_of_getElem? (i := 1) rfl))) rfl, by decide, by decide⟩
theorem ck_X11_barred : CK yX11_barred cX11_barred 3 (some .int) 2 := ⟨tb_mem (tb_tab (tt_4 (List.mem_of_getElem? (i := 96) rfl))) rfl, tb_mem (tb_tab (tt_1 (List.mem_of_getElem? (i := 1) rfl))) rfl, by decide, by decide⟩
theorem ck_X11_burn : CK yX11_burn cX11_burn 1 (some .int) 0 := ⟨tb_mem (tb_tab (tt_5 (List.mem_of_getElem? (i := 164) rfl))) rfl, tb_mem (tb_tab (tt_1 (List.mem_of_getElem? (i := 1) rfl))) rfl, by decide, by decide⟩
theorem ck_X11_chance : CK yX11_chance cX11_chance 7 (some .int) 4 := ⟨tb_mem (tb_tab (tt_6 (List.mem_of_getElem? (i := 19) rfl))) rfl, tb_mem (tb_tab (tt_1 (List.mem_of_getElem? (i := 1) rfl))) rfl, by decide, by decide⟩
theorem ck_X11_clerk : CK yX11_clerk cX11_clerk 2 (some .int) 1 := ⟨tb_mem (tb_tab (tt_4 (List.mem_of_getElem? (i := 88) rfl))) rfl, tb_mem (tb_tab (tt_1 (List.mem_of_getElem? (i := 1) rfl))) rfl, by decide, by decide⟩
theorem ck_X11_count : CK yX11_count cX11_count 2 (some .int) 1 := ⟨tb_mem (tb_tab (tt_6 (List.mem_of_getElem? (i := 36) rfl))) rfl, tb_mem (tb_tab (tt_1 (List.mem_of_getElem? (i := 1) rfl))) rfl, by decide, by decide⟩
theorem ck_X11_date : CK yX11_date cX11_date 4 (some .int) 3 := ⟨tb_mem (tb_tab (tt_4 (List.mem_of_getElem? (i := 123) rfl))) rfl, tb_mem (tb_tab (tt_1 (List.mem_of_getElem? (i := 1) rfl))) rfl, by decide, by decide⟩
theorem ck_X11_death : CK yX11_death cX11_death 3 (some .int) 2 := ⟨tb_mem (tb_tab (tt_4 (List.mem_of_getElem? (i := 111) rfl))) rfl, tb_mem (tb_tab (tt_1 (List.mem_of_getElem? (i := 1) rfl))) rfl, by decide, by decide⟩
theorem ck_X11_dies : CK yX11_dies cX11_dies 3 (some .int) 2 := ⟨tb_mem (tb_tab (tt_4 (List.mem_of_getElem? (i := 64) rfl))) rfl, tb_mem (tb_tab (tt_1 (List.mem_of_getElem? (i := 1) rfl))) rfl, by decide, by decide⟩
theorem ck_X11_early : CK yX11_early cX11_early 3 (some .int) 2 := ⟨tb_mem (tb_tab (tt_4 (List.mem_of_getElem? (i := 119) rfl))) rfl, tb_mem (tb_tab (tt_1 (List.mem_of_getElem? (i := 1) rfl))) rfl, by decide, by decide⟩
theorem ck_X11_fact : CK yX11_fact cX11_fact 3 (some .int) 2 := ⟨tb_mem (tb_tab (tt_4 (List.mem_of_getElem? (i := 135) rfl))) rfl, tb_mem (tb_tab (tt_1 (List.mem_of_getElem? (i := 1) rfl))) rfl, by decide, by decide⟩
theorem ck_X11_fee : CK yX11_fee cX11_fee 3 (some .int) 2 := ⟨tb_mem (tb_tab (tt_4 (List.mem_of_getElem? (i := 80) rfl))) rfl, tb_mem (tb_tab (tt_1 (List.mem_of_getElem? (i := 1) rfl))) rfl, by decide, by decide⟩
theorem ck_X11_feed : CK yX11_feed cX11_feed 6 (some .int) 5 := ⟨tb_mem (tb_tab (tt_3 (List.mem_of_getElem? (i := 95) rfl))) rfl, tb_mem (tb_tab (tt_1 (List.mem_of_getElem? (i := 1) rfl))) rfl, by decide, by decide⟩
theorem ck_X11_flood : CK yX11_flood cX11_flood 3 (some .int) 2 := ⟨tb_mem (tb_tab (tt_4 (List.mem_of_getElem? (i := 127) rfl))) rfl, tb_mem (tb_tab (tt_1 (List.mem_of_getElem? (i := 1) rfl))) rfl, by decide, by decide⟩
theorem ck_X11_future : CK yX11_future cX11_future 7 (some .int) 5 := ⟨tb_mem (tb_tab (tt_5 (List.mem_of_getElem? (i := 177) rfl))) rfl, tb_mem (tb_tab (tt_1 (List.mem_of_getElem? (i := 1) rfl))) rfl, by decide, by decide⟩
theorem ck_X11_gain : CK yX11_gain cX11_gain 3 (some .int) 2 := ⟨tb_mem (tb_tab (tt_5 (List.mem_of_getElem? (i := 54) rfl))) rfl, tb_mem (tb_tab (tt_1 (List.mem_of_getElem? (i := 1) rfl))) rfl, by decide, by decide⟩
theorem ck_X11_harm : CK yX11_harm cX11_harm 2 (some .int) 1 := ⟨tb_mem (tb_tab (tt_5 (List.mem_of_getElem? (i := 5) rfl))) rfl, tb_mem (tb_tab (tt_1 (List.mem_of_getElem? (i := 1) rfl))) rfl, by decide, by decide⟩
theorem ck_X11_hold : CK yX11_hold cX11_hold 2 (some .boolean) 1 := ⟨tb_mem (tb_tab (tt_6 (List.mem_of_getElem? (i := 23) rfl))) rfl, tb_mem (tb_tab (tt_1 (List.mem_of_getElem? (i := 1) rfl))) rfl, by decide, by decide⟩
theorem ck_X11_income : CK yX11_income cX11_income 4 (some .int) 3 := ⟨tb_mem (tb_tab (tt_5 (List.mem_of_getElem? (i := 66) rfl))) rfl, tb_mem (tb_tab (tt_1 (List.mem_of_getElem? (i := 1) rfl))) rfl, by decide, by decide⟩
theorem ck_X11_late : CK yX11_late cX11_late 4 (some .int) 3 := ⟨tb_mem (tb_tab (tt_5 (List.mem_of_getElem? (i := 25) rfl))) rfl, tb_mem (tb_tab (tt_1 (List.mem_of_getElem? (i := 1) rfl))) rfl, by decide, by decide⟩
theorem ck_X11_letter : CK yX11_letter cX11_letter 4 (some .int) 2 := ⟨tb_mem (tb_tab (tt_4 (List.mem_of_getElem? (i := 56) rfl))) rfl, tb_mem (tb_tab (tt_1 (List.mem_of_getElem? (i := 1) rfl))) rfl, by decide, by decide⟩
theorem ck_X11_life : CK yX11_life cX11_life 5 (some .int) 3 := ⟨tb_mem (tb_tab (tt_5 (List.mem_of_getElem? (i := 238) rfl))) rfl, tb_mem (tb_tab (tt_1 (List.mem_of_getElem? (i := 1) rfl))) rfl, by decide, by decide⟩
theorem ck_X11_lives : CK yX11_lives cX11_lives 4 (some .long) 3 := ⟨tb_mem (tb_tab (tt_5 (List.mem_of_getElem? (i := 210) rfl))) rfl, tb_mem (tb_tab (tt_1 (List.mem_of_getElem? (i := 1) rfl))) rfl, by decide, by decide⟩
theorem ck_X11_looks : CK yX11_looks cX11_looks 3 (some .int) 2 := ⟨tb_mem (tb_tab (tt_5 (List.mem_of_getElem? (i := 82) rfl))) rfl, tb_mem (tb_tab (tt_1 (List.mem_of_getElem? (i := 1) rfl))) rfl, by decide, by decide⟩
theorem ck_X11_need : CK yX11_need cX11_need 6 (some .int) 5 := ⟨tb_mem (tb_tab (tt_5 (List.mem_of_getElem? (i := 108) rfl))) rfl, tb_mem (tb_tab (tt_1 (List.mem_of_getElem? (i := 1) rfl))) rfl, by decide, by decide⟩
theorem ck_X11_next : CK yX11_next cX11_next 3 (some .int) 2 := ⟨tb_mem (tb_tab (tt_5 (List.mem_of_getElem? (i := 74) rfl))) rfl, tb_mem (tb_tab (tt_1 (List.mem_of_getElem? (i := 1) rfl))) rfl, by decide, by decide⟩
theorem ck_X11_odds : CK yX11_odds cX11_odds 4 (some .long) 3 := ⟨tb_mem (tb_tab (tt_5 (List.mem_of_getElem? (i := 220) rfl))) rfl, tb_mem (tb_tab (tt_1 (List.mem_of_getElem? (i := 1) rfl))) rfl, by decide, by decide⟩
theorem ck_X11_opened : CK yX11_opened cX11_opened 4 (some .int) 3 := ⟨tb_mem (tb_tab (tt_4 (List.mem_of_getElem? (i := 225) rfl))) rfl, tb_mem (tb_tab (tt_1 (List.mem_of_getElem? (i := 1) rfl))) rfl, by decide, by decide⟩
theorem ck_X11_place : CK yX11_place cX11_place 1 (some .int) 0 := ⟨tb_mem (tb_tab (tt_4 (List.mem_of_getElem? (i := 52) rfl))) rfl, tb_mem (tb_tab (tt_1 (List.mem_of_getElem? (i := 1) rfl))) rfl, by decide, by decide⟩
theorem ck_X11_read : CK yX11_read cX11_read 1 (some .int) 0 := ⟨tb_mem (tb_tab (tt_3 (List.mem_of_getElem? (i := 114) rfl))) rfl, tb_mem (tb_tab (tt_1 (List.mem_of_getElem? (i := 1) rfl))) rfl, by decide, by decide⟩
theorem ck_X11_restore : CK yX11_restore cX11_restore 2 (some .boolean) 1 := ⟨tb_mem (tb_tab (tt_6 (List.mem_of_getElem? (i := 32) rfl))) rfl, tb_mem (tb_tab (tt_1 (List.mem_of_getElem? (i := 1) rfl))) rfl, by decide, by decide⟩
theorem ck_X11_ring : CK yX11_ring cX11_ring 2 (some .int) 1 := ⟨tb_mem (tb_tab (tt_5 (List.mem_of_getElem? (i := 135) rfl))) rfl, tb_mem (tb_tab (tt_1 (List.mem_of_getElem? (i := 1) rfl))) rfl, by decide, by decide⟩
theorem ck_X11_rings : CK yX11_rings cX11_rings 1 (some .int) 0 := ⟨tb_mem (tb_tab (tt_5 (List.mem_of_getElem? (i := 152) rfl))) rfl, tb_mem (tb_tab (tt_1 (List.mem_of_getElem? (i := 1) rfl))) rfl, by decide, by decide⟩
theorem ck_X11_rumour : CK yX11_rumour cX11_rumour 5 (some .int) 3 := ⟨tb_mem (tb_tab (tt_4 (List.mem_of_getElem? (i := 103) rfl))) rfl, tb_mem (tb_tab (tt_1 (List.mem_of_getElem? (i := 1) rfl))) rfl, by decide, by decide⟩
theorem ck_X11_run : CK yX11_run cX11_run 6 (some .int) 4 := ⟨tb_mem (tb_tab (tt_4 (List.mem_of_getElem? (i := 160) rfl))) rfl, tb_mem (tb_tab (tt_1 (List.mem_of_getElem? (i := 1) rfl))) rfl, by decide, by decide⟩
theorem ck_X11_takeBack : CK yX11_takeBack cX11_takeBack 3 (some .int) 2 := ⟨tb_mem (tb_tab (tt_4 (List.mem_of_getElem? (i := 115) rfl))) rfl, tb_mem (tb_tab (tt_1 (List.mem_of_getElem? (i := 1) rfl))) rfl, by decide, by decide⟩
theorem ck_X11_tooSoon : CK yX11_tooSoon cX11_tooSoon 2 (some .int) 1 := ⟨tb_mem (tb_tab (tt_5 (List.mem_of_getElem? (i := 9) rfl))) rfl, tb_mem (tb_tab (tt_1 (List.mem_of_getElem? (i := 1) rfl))) rfl, by decide, by decide⟩
theorem ck_X11_watch : CK yX11_watch cX11_watch 3 (some .int) 2 := ⟨tb_mem (tb_tab (tt_5 (List.mem_of_getElem? (i := 41) rfl))) rfl, tb_mem (tb_tab (tt_1 (List.mem_of_getElem? (i := 1) rfl))) rfl, by decide, by decide⟩
theorem ck_X11_weighs : CK yX11_weighs cX11_weighs 4 (some .int) 3 := ⟨tb_mem (tb_tab (tt_4 (List.mem_of_getElem? (i := 139) rfl))) rfl, tb_mem (tb_tab (tt_1 (List.mem_of_getElem? (i := 1) rfl))) rfl, by decide, by decide⟩
theorem ck_X11_why : CK yX11_why cX11_why 4 (some .int) 3 := ⟨tb_mem (tb_tab (tt_4 (List.mem_of_getElem? (i := 233) rfl))) rfl, tb_mem (tb_tab (tt_1 (List.mem_of_getElem? (i := 1) rfl))) rfl, by decide, by decide⟩
theorem ck_X11_wrong : CK yX11_wrong cX11_wrong 6 (some .int) 3 := ⟨tb_mem (tb_tab (tt_5 (List.mem_of_getElem? (i := 17) rfl))) rfl, tb_mem (tb_tab (tt_1 (List.mem_of_getElem? (i := 1) rfl))) rfl, by decide, by decide⟩
theorem ck_X12_annul : CK yX12_annul cX12_annul 2 (some .int) 1 := ⟨tb_mem (tb_tab (tt_8 (List.mem_of_getElem? (i := 81) rfl))) rfl, tb_mem (tb_tab (tt_1 (List.mem_of_getElem? (i := 18) rfl))) rfl, by decide, by decide⟩
theorem ck_X12_asks : CK yX12_asks cX12_asks 2 (some .int) 1 := ⟨tb_mem (tb_tab (tt_8 (List.mem_of_getElem? (i := 224) rfl))) rfl, tb_mem (tb_tab (tt_1 (List.mem_of_getElem? (i := 18) rfl))) rfl, by decide, by decide⟩
theorem ck_X12_back : CK yX12_back cX12_back 2 (some .int) 1 := ⟨tb_mem (tb_tab (tt_7 (List.mem_of_getElem? (i := 98) rfl))) rfl, tb_mem (tb_tab (tt_1 (List.mem_of_getElem? (i := 18) rfl))) rfl, by decide, by decide⟩
theorem ck_X12_barred : CK yX12_barred cX12_barred 3 (some .int) 2 := ⟨tb_mem (tb_tab (tt_8 (List.mem_of_getElem? (i := 41) rfl))) rfl, tb_mem (tb_tab (tt_1 (List.mem_of_getElem? (i := 18) rfl))) rfl, by decide, by decide⟩
theorem ck_X12_burn : CK yX12_burn cX12_burn 3 (some .int) 0 := ⟨tb_mem (tb_tab (tt_9 (List.mem_of_getElem? (i := 8) rfl))) rfl, tb_mem (tb_tab (tt_1 (List.mem_of_getElem? (i := 18) rfl))) rfl, by decide, by decide⟩
theorem ck_X12_chance : CK yX12_chance cX12_chance 7 (some .int) 4 := ⟨tb_mem (tb_tab (tt_9 (List.mem_of_getElem? (i := 81) rfl))) rfl, tb_mem (tb_tab (tt_1 (List.mem_of_getElem? (i := 18) rfl))) rfl, by decide, by decide⟩
theorem ck_X12_clerk : CK yX12_clerk cX12_clerk 2 (some .int) 1 := ⟨tb_mem (tb_tab (tt_8 (List.mem_of_getElem? (i := 37) rfl))) rfl, tb_mem (tb_tab (tt_1 (List.mem_of_getElem? (i := 18) rfl))) rfl, by decide, by decide⟩
theorem ck_X12_count : CK yX12_count cX12_count 2 (some .int) 1 := ⟨tb_mem (tb_tab (tt_9 (List.mem_of_getElem? (i := 93) rfl))) rfl, tb_mem (tb_tab (tt_1 (List.mem_of_getElem? (i := 18) rfl))) rfl, by decide, by decide⟩
theorem ck_X12_date : CK yX12_date cX12_date 4 (some .int) 3 := ⟨tb_mem (tb_tab (tt_8 (List.mem_of_getElem? (i := 73) rfl))) rfl, tb_mem (tb_tab (tt_1 (List.mem_of_getElem? (i := 18) rfl))) rfl, by decide, by decide⟩
theorem ck_X12_death : CK yX12_death cX12_death 3 (some .int) 2 := ⟨tb_mem (tb_tab (tt_8 (List.mem_of_getElem? (i := 61) rfl))) rfl, tb_mem (tb_tab (tt_1 (List.mem_of_getElem? (i := 18) rfl))) rfl, by decide, by decide⟩
theorem ck_X12_dies : CK yX12_dies cX12_dies 3 (some .int) 2 := ⟨tb_mem (tb_tab (tt_7 (List.mem_of_getElem? (i := 239) rfl))) rfl, tb_mem (tb_tab (tt_1 (List.mem_of_getElem? (i := 18) rfl))) rfl, by decide, by decide⟩
theorem ck_X12_early : CK yX12_early cX12_early 3 (some .int) 2 := ⟨tb_mem (tb_tab (tt_8 (List.mem_of_getElem? (i := 69) rfl))) rfl, tb_mem (tb_tab (tt_1 (List.mem_of_getElem? (i := 18) rfl))) rfl, by decide, by decide⟩
theorem ck_X12_fact : CK yX12_fact cX12_fact 3 (some .int) 2 := ⟨tb_mem (tb_tab (tt_8 (List.mem_of_getElem? (i := 85) rfl))) rfl, tb_mem (tb_tab (tt_1 (List.mem_of_getElem? (i := 18) rfl))) rfl, by decide, by decide⟩
theorem ck_X12_fee : CK yX12_fee cX12_fee 3 (some .int) 2 := ⟨tb_mem (tb_tab (tt_8 (List.mem_of_getElem? (i := 29) rfl))) rfl, tb_mem (tb_tab (tt_1 (List.mem_of_getElem? (i := 18) rfl))) rfl, by decide, by decide⟩
theorem ck_X12_feed : CK yX12_feed cX12_feed 6 (some .int) 5 := ⟨tb_mem (tb_tab (tt_7 (List.mem_of_getElem? (i := 90) rfl))) rfl, tb_mem (tb_tab (tt_1 (List.mem_of_getElem? (i := 18) rfl))) rfl, by decide, by decide⟩
theorem ck_X12_flood : CK yX12_flood cX12_flood 3 (some .int) 2 := ⟨tb_mem (tb_tab (tt_8 (List.mem_of_getElem? (i := 77) rfl))) rfl, tb_mem (tb_tab (tt_1 (List.mem_of_getElem? (i := 18) rfl))) rfl, by decide, by decide⟩
theorem ck_X12_future : CK yX12_future cX12_future 13 (some .int) 5 := ⟨tb_mem (tb_tab (tt_9 (List.mem_of_getElem? (i := 31) rfl))) rfl, tb_mem (tb_tab (tt_1 (List.mem_of_getElem? (i := 18) rfl))) rfl, by decide, by decide⟩
theorem ck_X12_gain : CK yX12_gain cX12_gain 3 (some .int) 2 := ⟨tb_mem (tb_tab (tt_8 (List.mem_of_getElem? (i := 200) rfl))) rfl, tb_mem (tb_tab (tt_1 (List.mem_of_getElem? (i := 18) rfl))) rfl, by decide, by decide⟩
theorem ck_X12_harm : CK yX12_harm cX12_harm 2 (some .int) 1 := ⟨tb_mem (tb_tab (tt_8 (List.mem_of_getElem? (i := 165) rfl))) rfl, tb_mem (tb_tab (tt_1 (List.mem_of_getElem? (i := 18) rfl))) rfl, by decide, by decide⟩
theorem ck_X12_hold : CK yX12_hold cX12_hold 3 (some .boolean) 1 := ⟨tb_mem (tb_tab (tt_9 (List.mem_of_getElem? (i := 85) rfl))) rfl, tb_mem (tb_tab (tt_1 (List.mem_of_getElem? (i := 18) rfl))) rfl, by decide, by decide⟩
theorem ck_X12_income : CK yX12_income cX12_income 6 (some .int) 3 := ⟨tb_mem (tb_tab (tt_8 (List.mem_of_getElem? (i := 216) rfl))) rfl, tb_mem (tb_tab (tt_1 (List.mem_of_getElem? (i := 18) rfl))) rfl, by decide, by decide⟩
theorem ck_X12_late : CK yX12_late cX12_late 4 (some .int) 3 := ⟨tb_mem (tb_tab (tt_8 (List.mem_of_getElem? (i := 185) rfl))) rfl, tb_mem (tb_tab (tt_1 (List.mem_of_getElem? (i := 18) rfl))) rfl, by decide, by decide⟩
theorem ck_X12_letter : CK yX12_letter cX12_letter 3 (some .int) 2 := ⟨tb_mem (tb_tab (tt_7 (List.mem_of_getElem? (i := 220) rfl))) rfl, tb_mem (tb_tab (tt_1 (List.mem_of_getElem? (i := 18) rfl))) rfl, by decide, by decide⟩
theorem ck_X12_life : CK yX12_life cX12_life 6 (some .int) 3 := ⟨tb_mem (tb_tab (tt_9 (List.mem_of_getElem? (i := 62) rfl))) rfl, tb_mem (tb_tab (tt_1 (List.mem_of_getElem? (i := 18) rfl))) rfl, by decide, by decide⟩
theorem ck_X12_lives : CK yX12_lives cX12_lives 7 (some .long) 3 := ⟨tb_mem (tb_tab (tt_9 (List.mem_of_getElem? (i := 43) rfl))) rfl, tb_mem (tb_tab (tt_1 (List.mem_of_getElem? (i := 18) rfl))) rfl, by decide, by decide⟩
theorem ck_X12_looks : CK yX12_looks cX12_looks 9 (some .int) 2 := ⟨tb_mem (tb_tab (tt_8 (List.mem_of_getElem? (i := 212) rfl))) rfl, tb_mem (tb_tab (tt_1 (List.mem_of_getElem? (i := 18) rfl))) rfl, by decide, by decide⟩
theorem ck_X12_need : CK yX12_need cX12_need 6 (some .int) 5 := ⟨tb_mem (tb_tab (tt_9 (List.mem_of_getElem? (i := 19) rfl))) rfl, tb_mem (tb_tab (tt_1 (List.mem_of_getElem? (i := 18) rfl))) rfl, by decide, by decide⟩
theorem ck_X12_next : CK yX12_next cX12_next 5 (some .int) 2 := ⟨tb_mem (tb_tab (tt_8 (List.mem_of_getElem? (i := 220) rfl))) rfl, tb_mem (tb_tab (tt_1 (List.mem_of_getElem? (i := 18) rfl))) rfl, by decide, by decide⟩
theorem ck_X12_odds : CK yX12_odds cX12_odds 10 (some .long) 3 := ⟨tb_mem (tb_tab (tt_9 (List.mem_of_getElem? (i := 48) rfl))) rfl, tb_mem (tb_tab (tt_1 (List.mem_of_getElem? (i := 18) rfl))) rfl, by decide, by decide⟩
theorem ck_X12_opened : CK yX12_opened cX12_opened 4 (some .int) 3 := ⟨tb_mem (tb_tab (tt_8 (List.mem_of_getElem? (i := 157) rfl))) rfl, tb_mem (tb_tab (tt_1 (List.mem_of_getElem? (i := 18) rfl))) rfl, by decide, by decide⟩
theorem ck_X12_place : CK yX12_place cX12_place 1 (some .int) 0 := ⟨tb_mem (tb_tab (tt_7 (List.mem_of_getElem? (i := 216) rfl))) rfl, tb_mem (tb_tab (tt_1 (List.mem_of_getElem? (i := 18) rfl))) rfl, by decide, by decide⟩
theorem ck_X12_read : CK yX12_read cX12_read 2 (some .int) 0 := ⟨tb_mem (tb_tab (tt_7 (List.mem_of_getElem? (i := 102) rfl))) rfl, tb_mem (tb_tab (tt_1 (List.mem_of_getElem? (i := 18) rfl))) rfl, by decide, by decide⟩
theorem ck_X12_restore : CK yX12_restore cX12_restore 3 (some .boolean) 1 := ⟨tb_mem (tb_tab (tt_9 (List.mem_of_getElem? (i := 89) rfl))) rfl, tb_mem (tb_tab (tt_1 (List.mem_of_getElem? (i := 18) rfl))) rfl, by decide, by decide⟩
theorem ck_X12_ring : CK yX12_ring cX12_ring 2 (some .int) 1 := ⟨tb_mem (tb_tab (tt_8 (List.mem_of_getElem? (i := 232) rfl))) rfl, tb_mem (tb_tab (tt_1 (List.mem_of_getElem? (i := 18) rfl))) rfl, by decide, by decide⟩
theorem ck_X12_rings : CK yX12_rings cX12_rings 4 (some .int) 0 := ⟨tb_mem (tb_tab (tt_9 (List.mem_of_getElem? (i := 4) rfl))) rfl, tb_mem (tb_tab (tt_1 (List.mem_of_getElem? (i := 18) rfl))) rfl, by decide, by decide⟩
theorem ck_X12_rumour : CK yX12_rumour cX12_rumour 4 (some .int) 3 := ⟨tb_mem (tb_tab (tt_8 (List.mem_of_getElem? (i := 49) rfl))) rfl, tb_mem (tb_tab (tt_1 (List.mem_of_getElem? (i := 18) rfl))) rfl, by decide, by decide⟩
theorem ck_X12_run : CK yX12_run cX12_run 5 (some .int) 4 := ⟨tb_mem (tb_tab (tt_8 (List.mem_of_getElem? (i := 105) rfl))) rfl, tb_mem (tb_tab (tt_1 (List.mem_of_getElem? (i := 18) rfl))) rfl, by decide, by decide⟩
theorem ck_X12_takeBack : CK yX12_takeBack cX12_takeBack 3 (some .int) 2 := ⟨tb_mem (tb_tab (tt_8 (List.mem_of_getElem? (i := 65) rfl))) rfl, tb_mem (tb_tab (tt_1 (List.mem_of_getElem? (i := 18) rfl))) rfl, by decide, by decide⟩
theorem ck_X12_tooSoon : CK yX12_tooSoon cX12_tooSoon 4 (some .int) 1 := ⟨tb_mem (tb_tab (tt_8 (List.mem_of_getElem? (i := 173) rfl))) rfl, tb_mem (tb_tab (tt_1 (List.mem_of_getElem? (i := 18) rfl))) rfl, by decide, by decide⟩
theorem ck_X12_watch : CK yX12_watch cX12_watch 4 (some .int) 2 := ⟨tb_mem (tb_tab (tt_8 (List.mem_of_getElem? (i := 192) rfl))) rfl, tb_mem (tb_tab (tt_1 (List.mem_of_getElem? (i := 18) rfl))) rfl, by decide, by decide⟩
theorem ck_X12_weighs : CK yX12_weighs cX12_weighs 4 (some .int) 3 := ⟨tb_mem (tb_tab (tt_8 (List.mem_of_getElem? (i := 89) rfl))) rfl, tb_mem (tb_tab (tt_1 (List.mem_of_getElem? (i := 18) rfl))) rfl, by decide, by decide⟩
theorem ck_X12_why : CK yX12_why cX12_why 4 (some .int) 3 := ⟨tb_mem (tb_tab (tt_8 (List.mem_of_getElem? (i := 161) rfl))) rfl, tb_mem (tb_tab (tt_1 (List.mem_of_getElem? (i := 18) rfl))) rfl, by decide, by decide⟩
theorem ck_X12_wrong : CK yX12_wrong cX12_wrong 9 (some .int) 3 := ⟨tb_mem (tb_tab (tt_8 (List.mem_of_getElem? (i := 181) rfl))) rfl, tb_mem (tb_tab (tt_1 (List.mem_of_getElem? (i := 18) rfl))) rfl, by decide, by decide⟩
theorem cv_X11_annul : CV yX11_annul := ⟨tb_mem (tb_tab (tt_4 (List.mem_of_getElem? (i := 129) rfl))) rfl, tb_mem (tb_tab (tt_4 (List.mem_of_getElem? (i := 130) rfl))) rfl⟩
theorem cv_X11_asks : CV yX11_asks := ⟨tb_mem (tb_tab (tt_5 (List.mem_of_getElem? (i := 129) rfl))) rfl, tb_mem (tb_tab (tt_5 (List.mem_of_getElem? (i := 130) rfl))) rfl⟩
theorem cv_X11_back : CV yX11_back := ⟨tb_mem (tb_tab (tt_3 (List.mem_of_getElem? (i := 105) rfl))) rfl, tb_mem (tb_tab (tt_3 (List.mem_of_getElem? (i := 106) rfl))) rfl⟩
theorem cv_X11_barred : CV yX11_barred := ⟨tb_mem (tb_tab (tt_4 (List.mem_of_getElem? (i := 94) rfl))) rfl, tb_mem (tb_tab (tt_4 (List.mem_of_getElem? (i := 95) rfl))) rfl⟩
theorem cv_X11_burn : CV yX11_burn := ⟨tb_mem (tb_tab (tt_5 (List.mem_of_getElem? (i := 162) rfl))) rfl, tb_mem (tb_tab (tt_5 (List.mem_of_getElem? (i := 163) rfl))) rfl⟩
theorem cv_X11_chance : CV yX11_chance := ⟨tb_mem (tb_tab (tt_6 (List.mem_of_getElem? (i := 17) rfl))) rfl, tb_mem (tb_tab (tt_6 (List.mem_of_getElem? (i := 18) rfl))) rfl⟩
theorem cv_X11_clerk : CV yX11_clerk := ⟨tb_mem (tb_tab (tt_4 (List.mem_of_getElem? (i := 86) rfl))) rfl, tb_mem (tb_tab (tt_4 (List.mem_of_getElem? (i := 87) rfl))) rfl⟩
theorem cv_X11_count : CV yX11_count := ⟨tb_mem (tb_tab (tt_6 (List.mem_of_getElem? (i := 34) rfl))) rfl, tb_mem (tb_tab (tt_6 (List.mem_of_getElem? (i := 35) rfl))) rfl⟩
theorem cv_X11_date : CV yX11_date := ⟨tb_mem (tb_tab (tt_4 (List.mem_of_getElem? (i := 121) rfl))) rfl, tb_mem (tb_tab (tt_4 (List.mem_of_getElem? (i := 122) rfl))) rfl⟩
theorem cv_X11_death : CV yX11_death := ⟨tb_mem (tb_tab (tt_4 (List.mem_of_getElem? (i := 109) rfl))) rfl, tb_mem (tb_tab (tt_4 (List.mem_of_getElem? (i := 110) rfl))) rfl⟩
theorem cv_X11_dies : CV yX11_dies := ⟨tb_mem (tb_tab (tt_4 (List.mem_of_getElem? (i := 62) rfl))) rfl, tb_mem (tb_tab (tt_4 (List.mem_of_getElem? (i := 63) rfl))) rfl⟩
theorem cv_X11_early : CV yX11_early := ⟨tb_mem (tb_tab (tt_4 (List.mem_of_getElem? (i := 117) rfl))) rfl, tb_mem (tb_tab (tt_4 (List.mem_of_getElem? (i := 118) rfl))) rfl⟩
theorem cv_X11_fact : CV yX11_fact := ⟨tb_mem (tb_tab (tt_4 (List.mem_of_getElem? (i := 133) rfl))) rfl, tb_mem (tb_tab (tt_4 (List.mem_of_getElem? (i := 134) rfl))) rfl⟩
theorem cv_X11_fee : CV yX11_fee := ⟨tb_mem (tb_tab (tt_4 (List.mem_of_getElem? (i := 78) rfl))) rfl, tb_mem (tb_tab (tt_4 (List.mem_of_getElem? (i := 79) rfl))) rfl⟩
theorem cv_X11_feed : CV yX11_feed := ⟨tb_mem (tb_tab (tt_3 (List.mem_of_getElem? (i := 93) rfl))) rfl, tb_mem (tb_tab (tt_3 (List.mem_of_getElem? (i := 94) rfl))) rfl⟩
theorem cv_X11_flood : CV yX11_flood := ⟨tb_mem (tb_tab (tt_4 (List.mem_of_getElem? (i := 125) rfl))) rfl, tb_mem (tb_tab (tt_4 (List.mem_of_getElem? (i := 126) rfl))) rfl⟩
theorem cv_X11_future : CV yX11_future := ⟨tb_mem (tb_tab (tt_5 (List.mem_of_getElem? (i := 175) rfl))) rfl, tb_mem (tb_tab (tt_5 (List.mem_of_getElem? (i := 176) rfl))) rfl⟩
theorem cv_X11_gain : CV yX11_gain := ⟨tb_mem (tb_tab (tt_5 (List.mem_of_getElem? (i := 52) rfl))) rfl, tb_mem (tb_tab (tt_5 (List.mem_of_getElem? (i := 53) rfl))) rfl⟩
theorem cv_X11_harm : CV yX11_harm := ⟨tb_mem (tb_tab (tt_5 (List.mem_of_getElem? (i := 3) rfl))) rfl, tb_mem (tb_tab (tt_5 (List.mem_of_getElem? (i := 4) rfl))) rfl⟩
theorem cv_X11_hold : CV yX11_hold := ⟨tb_mem (tb_tab (tt_6 (List.mem_of_getElem? (i := 21) rfl))) rfl, tb_mem (tb_tab (tt_6 (List.mem_of_getElem? (i := 22) rfl))) rfl⟩
theorem cv_X11_income : CV yX11_income := ⟨tb_mem (tb_tab (tt_5 (List.mem_of_getElem? (i := 64) rfl))) rfl, tb_mem (tb_tab (tt_5 (List.mem_of_getElem? (i := 65) rfl))) rfl⟩
theorem cv_X11_late : CV yX11_late := ⟨tb_mem (tb_tab (tt_5 (List.mem_of_getElem? (i := 23) rfl))) rfl, tb_mem (tb_tab (tt_5 (List.mem_of_getElem? (i := 24) rfl))) rfl⟩
theorem cv_X11_letter : CV yX11_letter := ⟨tb_mem (tb_tab (tt_4 (List.mem_of_getElem? (i := 54) rfl))) rfl, tb_mem (tb_tab (tt_4 (List.mem_of_getElem? (i := 55) rfl))) rfl⟩
theorem cv_X11_life : CV yX11_life := ⟨tb_mem (tb_tab (tt_5 (List.mem_of_getElem? (i := 236) rfl))) rfl, tb_mem (tb_tab (tt_5 (List.mem_of_getElem? (i := 237) rfl))) rfl⟩
theorem cv_X11_lives : CV yX11_lives := ⟨tb_mem (tb_tab (tt_5 (List.mem_of_getElem? (i := 208) rfl))) rfl, tb_mem (tb_tab (tt_5 (List.mem_of_getElem? (i := 209) rfl))) rfl⟩
theorem cv_X11_looks : CV yX11_looks := ⟨tb_mem (tb_tab (tt_5 (List.mem_of_getElem? (i := 80) rfl))) rfl, tb_mem (tb_tab (tt_5 (List.mem_of_getElem? (i := 81) rfl))) rfl⟩
theorem cv_X11_need : CV yX11_need := ⟨tb_mem (tb_tab (tt_5 (List.mem_of_getElem? (i := 106) rfl))) rfl, tb_mem (tb_tab (tt_5 (List.mem_of_getElem? (i := 107) rfl))) rfl⟩
theorem cv_X11_next : CV yX11_next := ⟨tb_mem (tb_tab (tt_5 (List.mem_of_getElem? (i := 72) rfl))) rfl, tb_mem (tb_tab (tt_5 (List.mem_of_getElem? (i := 73) rfl))) rfl⟩
theorem cv_X11_odds : CV yX11_odds := ⟨tb_mem (tb_tab (tt_5 (List.mem_of_getElem? (i := 218) rfl))) rfl, tb_mem (tb_tab (tt_5 (List.mem_of_getElem? (i := 219) rfl))) rfl⟩
theorem cv_X11_opened : CV yX11_opened := ⟨tb_mem (tb_tab (tt_4 (List.mem_of_getElem? (i := 223) rfl))) rfl, tb_mem (tb_tab (tt_4 (List.mem_of_getElem? (i := 224) rfl))) rfl⟩
theorem cv_X11_place : CV yX11_place := ⟨tb_mem (tb_tab (tt_4 (List.mem_of_getElem? (i := 50) rfl))) rfl, tb_mem (tb_tab (tt_4 (List.mem_of_getElem? (i := 51) rfl))) rfl⟩
theorem cv_X11_read : CV yX11_read := ⟨tb_mem (tb_tab (tt_3 (List.mem_of_getElem? (i := 112) rfl))) rfl, tb_mem (tb_tab (tt_3 (List.mem_of_getElem? (i := 113) rfl))) rfl⟩
theorem cv_X11_restore : CV yX11_restore := ⟨tb_mem (tb_tab (tt_6 (List.mem_of_getElem? (i := 30) rfl))) rfl, tb_mem (tb_tab (tt_6 (List.mem_of_getElem? (i := 31) rfl))) rfl⟩
theorem cv_X11_ring : CV yX11_ring := ⟨tb_mem (tb_tab (tt_5 (List.mem_of_getElem? (i := 133) rfl))) rfl, tb_mem (tb_tab (tt_5 (List.mem_of_getElem? (i := 134) rfl))) rfl⟩
theorem cv_X11_rings : CV yX11_rings := ⟨tb_mem (tb_tab (tt_5 (List.mem_of_getElem? (i := 150) rfl))) rfl, tb_mem (tb_tab (tt_5 (List.mem_of_getElem? (i := 151) rfl))) rfl⟩
theorem cv_X11_rumour : CV yX11_rumour := ⟨tb_mem (tb_tab (tt_4 (List.mem_of_getElem? (i := 101) rfl))) rfl, tb_mem (tb_tab (tt_4 (List.mem_of_getElem? (i := 102) rfl))) rfl⟩
theorem cv_X11_run : CV yX11_run := ⟨tb_mem (tb_tab (tt_4 (List.mem_of_getElem? (i := 158) rfl))) rfl, tb_mem (tb_tab (tt_4 (List.mem_of_getElem? (i := 159) rfl))) rfl⟩
theorem cv_X11_takeBack : CV yX11_takeBack := ⟨tb_mem (tb_tab (tt_4 (List.mem_of_getElem? (i := 113) rfl))) rfl, tb_mem (tb_tab (tt_4 (List.mem_of_getElem? (i := 114) rfl))) rfl⟩
theorem cv_X11_tooSoon : CV yX11_tooSoon := ⟨tb_mem (tb_tab (tt_5 (List.mem_of_getElem? (i := 7) rfl))) rfl, tb_mem (tb_tab (tt_5 (List.mem_of_getElem? (i := 8) rfl))) rfl⟩
theorem cv_X11_watch : CV yX11_watch := ⟨tb_mem (tb_tab (tt_5 (List.mem_of_getElem? (i := 39) rfl))) rfl, tb_mem (tb_tab (tt_5 (List.mem_of_getElem? (i := 40) rfl))) rfl⟩
theorem cv_X11_weighs : CV yX11_weighs := ⟨tb_mem (tb_tab (tt_4 (List.mem_of_getElem? (i := 137) rfl))) rfl, tb_mem (tb_tab (tt_4 (List.mem_of_getElem? (i := 138) rfl))) rfl⟩
theorem cv_X11_why : CV yX11_why := ⟨tb_mem (tb_tab (tt_4 (List.mem_of_getElem? (i := 231) rfl))) rfl, tb_mem (tb_tab (tt_4 (List.mem_of_getElem? (i := 232) rfl))) rfl⟩
theorem cv_X11_wrong : CV yX11_wrong := ⟨tb_mem (tb_tab (tt_5 (List.mem_of_getElem? (i := 15) rfl))) rfl, tb_mem (tb_tab (tt_5 (List.mem_of_getElem? (i := 16) rfl))) rfl⟩
theorem cv_X12_annul : CV yX12_annul := ⟨tb_mem (tb_tab (tt_8 (List.mem_of_getElem? (i := 79) rfl))) rfl, tb_mem (tb_tab (tt_8 (List.mem_of_getElem? (i := 80) rfl))) rfl⟩
theorem cv_X12_asks : CV yX12_asks := ⟨tb_mem (tb_tab (tt_8 (List.mem_of_getElem? (i := 222) rfl))) rfl, tb_mem (tb_tab (tt_8 (List.mem_of_getElem? (i := 223) rfl))) rfl⟩
theorem cv_X12_back : CV yX12_back := ⟨tb_mem (tb_tab (tt_7 (List.mem_of_getElem? (i := 96) rfl))) rfl, tb_mem (tb_tab (tt_7 (List.mem_of_getElem? (i := 97) rfl))) rfl⟩
theorem cv_X12_barred : CV yX12_barred := ⟨tb_mem (tb_tab (tt_8 (List.mem_of_getElem? (i := 39) rfl))) rfl, tb_mem (tb_tab (tt_8 (List.mem_of_getElem? (i := 40) rfl))) rfl⟩
theorem cv_X12_burn : CV yX12_burn := ⟨tb_mem (tb_tab (tt_9 (List.mem_of_getElem? (i := 6) rfl))) rfl, tb_mem (tb_tab (tt_9 (List.mem_of_getElem? (i := 7) rfl))) rfl⟩
theorem cv_X12_chance : CV yX12_chance := ⟨tb_mem (tb_tab (tt_9 (List.mem_of_getElem? (i := 79) rfl))) rfl, tb_mem (tb_tab (tt_9 (List.mem_of_getElem? (i := 80) rfl))) rfl⟩
theorem cv_X12_clerk : CV yX12_clerk := ⟨tb_mem (tb_tab (tt_8 (List.mem_of_getElem? (i := 35) rfl))) rfl, tb_mem (tb_tab (tt_8 (List.mem_of_getElem? (i := 36) rfl))) rfl⟩
theorem cv_X12_count : CV yX12_count := ⟨tb_mem (tb_tab (tt_9 (List.mem_of_getElem? (i := 91) rfl))) rfl, tb_mem (tb_tab (tt_9 (List.mem_of_getElem? (i := 92) rfl))) rfl⟩
theorem cv_X12_date : CV yX12_date := ⟨tb_mem (tb_tab (tt_8 (List.mem_of_getElem? (i := 71) rfl))) rfl, tb_mem (tb_tab (tt_8 (List.mem_of_getElem? (i := 72) rfl))) rfl⟩
theorem cv_X12_death : CV yX12_death := ⟨tb_mem (tb_tab (tt_8 (List.mem_of_getElem? (i := 59) rfl))) rfl, tb_mem (tb_tab (tt_8 (List.mem_of_getElem? (i := 60) rfl))) rfl⟩
theorem cv_X12_dies : CV yX12_dies := ⟨tb_mem (tb_tab (tt_7 (List.mem_of_getElem? (i := 237) rfl))) rfl, tb_mem (tb_tab (tt_7 (List.mem_of_getElem? (i := 238) rfl))) rfl⟩
theorem cv_X12_early : CV yX12_early := ⟨tb_mem (tb_tab (tt_8 (List.mem_of_getElem? (i := 67) rfl))) rfl, tb_mem (tb_tab (tt_8 (List.mem_of_getElem? (i := 68) rfl))) rfl⟩
theorem cv_X12_fact : CV yX12_fact := ⟨tb_mem (tb_tab (tt_8 (List.mem_of_getElem? (i := 83) rfl))) rfl, tb_mem (tb_tab (tt_8 (List.mem_of_getElem? (i := 84) rfl))) rfl⟩
theorem cv_X12_fee : CV yX12_fee := ⟨tb_mem (tb_tab (tt_8 (List.mem_of_getElem? (i := 27) rfl))) rfl, tb_mem (tb_tab (tt_8 (List.mem_of_getElem? (i := 28) rfl))) rfl⟩
theorem cv_X12_feed : CV yX12_feed := ⟨tb_mem (tb_tab (tt_7 (List.mem_of_getElem? (i := 88) rfl))) rfl, tb_mem (tb_tab (tt_7 (List.mem_of_getElem? (i := 89) rfl))) rfl⟩
theorem cv_X12_flood : CV yX12_flood := ⟨tb_mem (tb_tab (tt_8 (List.mem_of_getElem? (i := 75) rfl))) rfl, tb_mem (tb_tab (tt_8 (List.mem_of_getElem? (i := 76) rfl))) rfl⟩
theorem cv_X12_future : CV yX12_future := ⟨tb_mem (tb_tab (tt_9 (List.mem_of_getElem? (i := 29) rfl))) rfl, tb_mem (tb_tab (tt_9 (List.mem_of_getElem? (i := 30) rfl))) rfl⟩
theorem cv_X12_gain : CV yX12_gain := ⟨tb_mem (tb_tab (tt_8 (List.mem_of_getElem? (i := 198) rfl))) rfl, tb_mem (tb_tab (tt_8 (List.mem_of_getElem? (i := 199) rfl))) rfl⟩
theorem cv_X12_harm : CV yX12_harm := ⟨tb_mem (tb_tab (tt_8 (List.mem_of_getElem? (i := 163) rfl))) rfl, tb_mem (tb_tab (tt_8 (List.mem_of_getElem? (i := 164) rfl))) rfl⟩
theorem cv_X12_hold : CV yX12_hold := ⟨tb_mem (tb_tab (tt_9 (List.mem_of_getElem? (i := 83) rfl))) rfl, tb_mem (tb_tab (tt_9 (List.mem_of_getElem? (i := 84) rfl))) rfl⟩
theorem cv_X12_income : CV yX12_income := ⟨tb_mem (tb_tab (tt_8 (List.mem_of_getElem? (i := 214) rfl))) rfl, tb_mem (tb_tab (tt_8 (List.mem_of_getElem? (i := 215) rfl))) rfl⟩
theorem cv_X12_late : CV yX12_late := ⟨tb_mem (tb_tab (tt_8 (List.mem_of_getElem? (i := 183) rfl))) rfl, tb_mem (tb_tab (tt_8 (List.mem_of_getElem? (i := 184) rfl))) rfl⟩
theorem cv_X12_letter : CV yX12_letter := ⟨tb_mem (tb_tab (tt_7 (List.mem_of_getElem? (i := 218) rfl))) rfl, tb_mem (tb_tab (tt_7 (List.mem_of_getElem? (i := 219) rfl))) rfl⟩
theorem cv_X12_life : CV yX12_life := ⟨tb_mem (tb_tab (tt_9 (List.mem_of_getElem? (i := 60) rfl))) rfl, tb_mem (tb_tab (tt_9 (List.mem_of_getElem? (i := 61) rfl))) rfl⟩
theorem cv_X12_lives : CV yX12_lives := ⟨tb_mem (tb_tab (tt_9 (List.mem_of_getElem? (i := 41) rfl))) rfl, tb_mem (tb_tab (tt_9 (List.mem_of_getElem? (i := 42) rfl))) rfl⟩
theorem cv_X12_looks : CV yX12_looks := ⟨tb_mem (tb_tab (tt_8 (List.mem_of_getElem? (i := 210) rfl))) rfl, tb_mem (tb_tab (tt_8 (List.mem_of_getElem? (i := 211) rfl))) rfl⟩
theorem cv_X12_need : CV yX12_need := ⟨tb_mem (tb_tab (tt_9 (List.mem_of_getElem? (i := 17) rfl))) rfl, tb_mem (tb_tab (tt_9 (List.mem_of_getElem? (i := 18) rfl))) rfl⟩
theorem cv_X12_next : CV yX12_next := ⟨tb_mem (tb_tab (tt_8 (List.mem_of_getElem? (i := 218) rfl))) rfl, tb_mem (tb_tab (tt_8 (List.mem_of_getElem? (i := 219) rfl))) rfl⟩
theorem cv_X12_odds : CV yX12_odds := ⟨tb_mem (tb_tab (tt_9 (List.mem_of_getElem? (i := 46) rfl))) rfl, tb_mem (tb_tab (tt_9 (List.mem_of_getElem? (i := 47) rfl))) rfl⟩
theorem cv_X12_opened : CV yX12_opened := ⟨tb_mem (tb_tab (tt_8 (List.mem_of_getElem? (i := 155) rfl))) rfl, tb_mem (tb_tab (tt_8 (List.mem_of_getElem? (i := 156) rfl))) rfl⟩
theorem cv_X12_place : CV yX12_place := ⟨tb_mem (tb_tab (tt_7 (List.mem_of_getElem? (i := 214) rfl))) rfl, tb_mem (tb_tab (tt_7 (List.mem_of_getElem? (i := 215) rfl))) rfl⟩
theorem cv_X12_read : CV yX12_read := ⟨tb_mem (tb_tab (tt_7 (List.mem_of_getElem? (i := 100) rfl))) rfl, tb_mem (tb_tab (tt_7 (List.mem_of_getElem? (i := 101) rfl))) rfl⟩
theorem cv_X12_restore : CV yX12_restore := ⟨tb_mem (tb_tab (tt_9 (List.mem_of_getElem? (i := 87) rfl))) rfl, tb_mem (tb_tab (tt_9 (List.mem_of_getElem? (i := 88) rfl))) rfl⟩
theorem cv_X12_ring : CV yX12_ring := ⟨tb_mem (tb_tab (tt_8 (List.mem_of_getElem? (i := 230) rfl))) rfl, tb_mem (tb_tab (tt_8 (List.mem_of_getElem? (i := 231) rfl))) rfl⟩
theorem cv_X12_rings : CV yX12_rings := ⟨tb_mem (tb_tab (tt_9 (List.mem_of_getElem? (i := 2) rfl))) rfl, tb_mem (tb_tab (tt_9 (List.mem_of_getElem? (i := 3) rfl))) rfl⟩
theorem cv_X12_rumour : CV yX12_rumour := ⟨tb_mem (tb_tab (tt_8 (List.mem_of_getElem? (i := 47) rfl))) rfl, tb_mem (tb_tab (tt_8 (List.mem_of_getElem? (i := 48) rfl))) rfl⟩
theorem cv_X12_run : CV yX12_run := ⟨tb_mem (tb_tab (tt_8 (List.mem_of_getElem? (i := 103) rfl))) rfl, tb_mem (tb_tab (tt_8 (List.mem_of_getElem? (i := 104) rfl))) rfl⟩
theorem cv_X12_takeBack : CV yX12_takeBack := ⟨tb_mem (tb_tab (tt_8 (List.mem_of_getElem? (i := 63) rfl))) rfl, tb_mem (tb_tab (tt_8 (List.mem_of_getElem? (i := 64) rfl))) rfl⟩
theorem cv_X12_tooSoon : CV yX12_tooSoon := ⟨tb_mem (tb_tab (tt_8 (List.mem_of_getElem? (i := 171) rfl))) rfl, tb_mem (tb_tab (tt_8 (List.mem_of_getElem? (i := 172) rfl))) rfl⟩
theorem cv_X12_watch : CV yX12_watch := ⟨tb_mem (tb_tab (tt_8 (List.mem_of_getElem? (i := 190) rfl))) rfl, tb_mem (tb_tab (tt_8 (List.mem_of_getElem? (i := 191) rfl))) rfl⟩
theorem cv_X12_weighs : CV yX12_weighs := ⟨tb_mem (tb_tab (tt_8 (List.mem_of_getElem? (i := 87) rfl))) rfl, tb_mem (tb_tab (tt_8 (List.mem_of_getElem? (i := 88) rfl))) rfl⟩
theorem cv_X12_why : CV yX12_why := ⟨tb_mem (tb_tab (tt_8 (List.mem_of_getElem? (i := 159) rfl))) rfl, tb_mem (tb_tab (tt_8 (List.mem_of_getElem? (i := 160) rfl))) rfl⟩
theorem cv_X12_wrong : CV yX12_wrong := ⟨tb_mem (tb_tab (tt_8 (List.mem_of_getElem? (i := 179) rfl))) rfl, tb_mem (tb_tab (tt_8 (List.mem_of_getElem? (i := 180) rfl))) rfl⟩
/-! THE CLAIM OUT OF ONE WALK OF THE LAW'S BODY. Your part is whole_start (and what it stands on); all else here is the same for every law, but numbers. -/
def R_law : String := "AfterOfficeLaw"
def lw_P (b : Addr) (xs : List Int32) (args : Array Value) (s : State) : Prop := args = #[.ref b] ∧ s.IntsAt b xs ∧ xs.length ≤ 3072 ∧ (Jvm.Cond.and given_1 narrow_1).before args s = true
def lw_Q (_ : Array Value) (s : State) (o : Outcome) (t : State) : Prop := o = .returned (some (.int 1)) ∧ Framed s o t [] 600000 7302250
def lw_Z (below : List Frame) (a : Array Value) (s : State) : State → Prop := fun t => ∃ o, t.status = .running ∧ Ended t below o ∧ lw_Q a s o t
/-- the law's own end, with 1 on the stack, nothing written that was there before, its room as the claim has it -/
theorem lw_ret {p : Program} {l : Launch} {e : Env} {s : State} {m : MethodId} {below : List Frame} {meth : Method} {c : Code} {b : Nat} (hx : p.tables.exec = Jvm.exec) (hb : c.code = code) (hr : meth.sig.returnType = ret) (hlocks : meth.locks = false) {pc : Nat} {H : Heap} {ls : Array Slot} (hdg : decode code pc = .ok (.ireturn, 1)) : W p l e room_1 s m #[Value.ref b] below meth c H [] 600000 7302250 (lw_Z below #[Value.ref b] s) (F0 m pc ls [.int 1]) := by
  intro T hT X
  obtain ⟨fs, hret, hrun, hended, hW, hframe⟩ := X.leave (v := some (.int 1)) (hlocks := hlocks) (fun h => by rw [hr] at h; cases h)
  have hmeth' : T.vm.method? m = some meth := X.method'
  refine ⟨T.setFrames fs, ?_, .returned (some (.int 1)), hrun, hended, rfl, ⟨_, rfl⟩, hW, hframe⟩
  jvm_step X.here [X.here.top, hx, hb, hdg, hmeth', hr, ret, narrow_b1]
  (try refine ⟨rfl, ?_⟩); (try refine ⟨rfl, ?_⟩)
  first | (intro acts; rw [hret _ acts rfl rfl rfl]) | rw [hret _ _ rfl rfl rfl]
  exact Steps.refl _
/-- what holds at the law's entry: the machine, the code, the tables' words (any of lw_tbl by 'hts w (by decide +kernel)'), the script of L ints xs at the cell b, what the Statement gives of the start (any of its parts by flat_of_before) -/
def lw_At (p : Program) (s : State) (m : MethodId) (meth : Method) (c : Code) (b L : Nat) (xs : Nat → Int32) : Prop :=
  p.tables.exec = Jvm.exec ∧ c.code = code ∧ meth.sig.returnType = ret ∧ c.maxLocals = 4 ∧ s.vm.findClass R_law = some m.cls ∧ (∀ w ∈ lw_tbl, w.before #[Value.ref b] s = true) ∧ va_X b L xs s s.heap ∧ b < s.heap.size ∧ meth.locks = false ∧ (Jvm.Cond.and given_1 narrow_1).before #[Value.ref b] s = true
abbrev QT : Type := Launch × (Nat → Nat) × va_G × (Nat → ClassId)
abbrev ZO (Y : QT) (S : List (Nat × Shp)) : ZT := (Y.1, Y.2.1, Y.2.2.1, Y.2.2.2, S)
def W2 (Y : QT) (S1 S2 : List (Nat × Shp)) (h1 h2 : Hp) (H : Heap) : Prop := va_P Y.2.2.1 vwCl (WD S1 Y.2.1 Y.2.2.2 h1) H ∧ va_P Y.2.2.1 vwCl (WD S2 Y.2.1 Y.2.2.2 h2) H
def CL (Y : QT) (G : GT) (b L : Nat) (xs : Nat → Int32) : Prop :=
  CW G cL_law RL 4 ∧ va_K Y.2.2.1 vwCl (tyl Y.2.2.2) G.1.2.2.2.1 ∧ (qi shsC Y.2.1 ∧ qi shsM Y.2.1 ∧ ∀ a, AA shsC Y.2.1 a → ¬ AA shsM Y.2.1 a) ∧ ((∀ a, AA shsC Y.2.1 a → G.2.2.1 a) ∧ ∀ a, AA shsM Y.2.1 a → G.2.2.1 a) ∧ SX Y.2.1 G.2.2.1 G.1.2.2.2.1 G.1.2.2.2.1.heap ∧ (va_X b L xs G.1.2.2.2.1 G.1.2.2.2.1.heap ∧ b < G.1.2.2.2.1.heap.size ∧ ¬ G.2.2.1 b) ∧ (G.1.2.2.1 = room_1 ∧ G.2.1.2.2.1.sig.returnType = ret ∧ G.2.1.2.2.1.locks = false)
section LAWRULES
variable {Y : QT} {G : GT} {b L : Nat} {xs : Nat → Int32} {ca sl pc : Nat} {lv : List (Nat × Value)} {st : List Value} {Wp : Heap → Prop}
theorem wl_sld {i : Int32} (X : CL Y G b L xs) (d : decode cL_law pc = .ok (.iaload, 1)) (hi : inb i L = true) (k : JW Wp Y.1 G ca sl 4 (pc + 1) lv (.int (xs (ix i)) :: st)) : JW Wp Y.1 G ca sl 4 pc lv (.int i :: .ref b :: st) := fun H locs ls hP hS hl => va_sld X.1.1 X.1.2.1 X.2.2.2.2.2.1.1 X.2.2.2.2.2.1.2.1 X.2.2.2.2.2.1.2.2 hS (inb_in hi) d (k H locs ls hP hS hl)
theorem wl_slen (X : CL Y G b L xs) (d : decode cL_law pc = .ok (.arraylength, 1)) (k : JW Wp Y.1 G ca sl 4 (pc + 1) lv (.int (Int32.ofNat L) :: st)) : JW Wp Y.1 G ca sl 4 pc lv (.ref b :: st) := fun H locs ls hP hS hl => va_slen X.1.1 X.1.2.1 X.2.2.2.2.2.1.1 X.2.2.2.2.2.1.2.1 X.2.2.2.2.2.1.2.2 hS d (k H locs ls hP hS hl)
theorem W2_kept {S : List (Nat × Shp)} {q : Nat → Nat} {cy : Nat → ClassId} {D : va_G} {h : Hp} {A : Nat → Prop} {H H1 : Heap} (hP : va_P D vwCl (WD S q cy h) H) (hd : ∀ a, AA S q a → ¬ A a) (hk : ∀ a : Nat, a < H.size → ¬ A a → H1[a]? = H[a]?) : va_P D vwCl (WD S q cy h) H1 := by
  refine hP.kept (fun k x hx => ?_)
  have hlt := (hP k x hx).lt
  refine hk _ hlt (hd _ ?_)
  unfold WD at hx
  rw [List.getElem?_map] at hx
  cases hi : S[k]? with
  | none => rw [hi] at hx; cases hx
  | some e =>
    rw [hi] at hx
    cases hx
    exact ⟨e.1, List.mem_map_of_mem (List.mem_of_getElem? hi), rfl⟩
theorem wl_call {S1 S2 : List (Nat × Shp)} {h1 h2 : Hp} {y : MethodName} {cc' : ByteArray} {mL np n' k ci idx : Nat} {ret' : Option FieldType} {As rest : List Value} {ov : Option Value} {h' : Hp} {fs : List (Option Nat)} {TT : u_T} {N : Nat} (X : CL Y G b L xs) (hn1 : nd S1) (hq1 : qi S1 Y.2.1) (hdis : ∀ a, AA S2 Y.2.1 a → ¬ AA S1 Y.2.1 a) (hA1 : ∀ a, AA S1 Y.2.1 a → G.2.2.1 a) (d : decode cL_law pc = .ok (.invokevirtual idx, 3)) (hm : Cond.methodLink RL idx y ∈ TB) (hc : CK y cc' mL ret' np) (hv : CV y) (hk : (k, .inl (ci, fs)) ∈ S1) (hci : vwCl[ci]? = some (y.cls, TT, N)) (hn : n' ≤ 9) (hcs : ca ≤ 600000 ∧ sl ≤ 7302250) (hAs : As.length = np) (hrest : (rest.map fun v => v.category).sum ≤ 8) (hst : st = As.reverse ++ .ref (Y.2.1 k) :: rest)
    (hM : MC (ZO Y S1) y cc' mL ret' n' (.ref (Y.2.1 k) :: As) h1 ov h') (kk : JW (W2 Y S1 S2 h' h2) Y.1 G ca sl 4 (pc + 3) lv (ov.toList ++ rest)) : JW (W2 Y S1 S2 h1 h2) Y.1 G ca sl 4 pc lv st := fun H locs ls hP hS hl => by
  subst hst
  obtain ⟨hP1, hP2⟩ := hP
  obtain ⟨p, hp, hw⟩ := WD_at (q := Y.2.1) (cy := Y.2.2.2) (h := h1) hk
  have hmL := hc.2.2.2
  have hR : G.1.2.2.1 = room_1 := X.2.2.2.2.2.2.1
  have hr := va_runV (p := G.1.1) (l := Y.1) (e := G.1.2.1) (R := G.1.2.2.1) (s := G.1.2.2.2.1) (m := G.1.2.2.2.2) (args := G.2.1.1) (below := G.2.1.2.1) (meth := G.2.1.2.2.1) (c := G.2.1.2.2.2) (H := H) (locs := locs) (cells := ca) (slots := sl) (As := As) (rest := rest) (Ts := TB) (g := F0 G.1.2.2.2.2 pc ls (As.reverse ++ .ref (Y.2.1 k) :: rest)) ⟨X.1.1, X.1.2.1, X.1.2.2.1, X.1.2.2.2.1, X.1.2.2.2.2⟩ hM ⟨callB_of np X.1.2.2.2.2 (gTB hc.1) rfl rfl rfl (X.1.2.2.2.2 _ hc.2.1) (X.1.2.2.2.2 _ hm) hc.2.2.1 ⟨by rw [hR]; show n' + 1 ≤ 11; omega, by rw [hR]; show 8 + (mL + 11) + 40 * n' ≤ 446; omega⟩, X.1.2.2.2.2 _ hv.1, X.1.2.2.2.2 _ hv.2⟩ ⟨PC_blind, va_recv X.2.1 hP1 hci hw, fun U hU hW => ⟨rfl, by rw [hU]; exact hP1, va_K.moved hW.alike X.2.1, hq1, by rw [hU]; exact ((X.2.2.2.2.1.moved hW).kept hS.2.1).narrow hA1, hn1⟩⟩ rfl hAs hl.1 rfl (lv_room hrest) d ⟨by rw [hR]; exact hcs.1, by rw [hR]; exact hcs.2⟩
  intro T hT XX
  obtain ⟨v, st₀, t, T', L', h0, X', hL, e1, e2, ⟨hv', ⟨hP', -⟩, hz, hkk⟩, stt⟩ := hr T hT XX
  cases hv'
  rw [h0] at hz hkk
  obtain ⟨t2, a1, b1⟩ := kk T'.heap (locs ++ L') ls ⟨by rw [e1]; exact hP', by rw [e1]; exact W2_kept hP2 hdis hkk⟩
    ⟨Nat.le_trans hS.1 (by rw [e1]; exact hz), fun q h1 h2 => by rw [e1, hkk q (Nat.lt_of_lt_of_le h1 hS.1) (fun z => h2 (hA1 q z))]; exact hS.2.1 q h1 h2, fun q hq => by
      rcases List.mem_append.mp hq with h | h
      · exact hS.2.2 q h
      · exact hA1 _ (hL q h)⟩ hl T' rfl X'
  exact ⟨t2, stt t2 a1, b1⟩
end LAWRULES
theorem lg_cmp_rr (r : Int64) : lg_cmp r r = 0 := by unfold lg_cmp; simp
def Sim_feed (Rel : Hp → Hp → Prop) : Prop := ∀ (a1 a2 a3 a4 a5 : Int32) (hC hM : Hp), Rel hC hM → ∃ (r : Int32) (hC1 hM1 : Hp), fX11_feed a1 a2 a3 a4 a5 hC = some (r, hC1) ∧ fX12_feed a1 a2 a3 a4 a5 hM = some (r, hM1) ∧ Rel hC1 hM1
def Sim_back (Rel : Hp → Hp → Prop) : Prop := ∀ (a1 : Int32) (hC hM : Hp), Rel hC hM → ∃ (r : Int32) (hC1 hM1 : Hp), fX11_back a1 hC = some (r, hC1) ∧ fX12_back a1 hM = some (r, hM1) ∧ Rel hC1 hM1
def Sim_read (Rel : Hp → Hp → Prop) : Prop := ∀ (hC hM : Hp), Rel hC hM → ∃ (r : Int32) (hC1 hM1 : Hp), fX11_read  hC = some (r, hC1) ∧ fX12_read  hM = some (r, hM1) ∧ Rel hC1 hM1
def Sim_place (Rel : Hp → Hp → Prop) : Prop := ∀ (hC hM : Hp), Rel hC hM → ∃ (r : Int32) (hC1 hM1 : Hp), fX11_place  hC = some (r, hC1) ∧ fX12_place  hM = some (r, hM1) ∧ Rel hC1 hM1
def Sim_letter (Rel : Hp → Hp → Prop) : Prop := ∀ (a1 a2 : Int32) (hC hM : Hp), Rel hC hM → ∃ (r : Int32) (hC1 hM1 : Hp), fX11_letter a1 a2 hC = some (r, hC1) ∧ fX12_letter a1 a2 hM = some (r, hM1) ∧ Rel hC1 hM1
def Sim_dies (Rel : Hp → Hp → Prop) : Prop := ∀ (a1 a2 : Int32) (hC hM : Hp), Rel hC hM → ∃ (r : Int32) (hC1 hM1 : Hp), fX11_dies a1 a2 hC = some (r, hC1) ∧ fX12_dies a1 a2 hM = some (r, hM1) ∧ Rel hC1 hM1
def Sim_fee (Rel : Hp → Hp → Prop) : Prop := ∀ (a1 a2 : Int32) (hC hM : Hp), Rel hC hM → ∃ (r : Int32) (hC1 hM1 : Hp), fX11_fee a1 a2 hC = some (r, hC1) ∧ fX12_fee a1 a2 hM = some (r, hM1) ∧ Rel hC1 hM1
def Sim_clerk (Rel : Hp → Hp → Prop) : Prop := ∀ (a1 : Int32) (hC hM : Hp), Rel hC hM → ∃ (r : Int32) (hC1 hM1 : Hp), fX11_clerk a1 hC = some (r, hC1) ∧ fX12_clerk a1 hM = some (r, hM1) ∧ Rel hC1 hM1
def Sim_barred (Rel : Hp → Hp → Prop) : Prop := ∀ (a1 a2 : Int32) (hC hM : Hp), Rel hC hM → ∃ (r : Int32) (hC1 hM1 : Hp), fX11_barred a1 a2 hC = some (r, hC1) ∧ fX12_barred a1 a2 hM = some (r, hM1) ∧ Rel hC1 hM1
def Sim_rumour (Rel : Hp → Hp → Prop) : Prop := ∀ (a1 a2 a3 : Int32) (hC hM : Hp), Rel hC hM → ∃ (r : Int32) (hC1 hM1 : Hp), fX11_rumour a1 a2 a3 hC = some (r, hC1) ∧ fX12_rumour a1 a2 a3 hM = some (r, hM1) ∧ Rel hC1 hM1
def Sim_death (Rel : Hp → Hp → Prop) : Prop := ∀ (a1 a2 : Int32) (hC hM : Hp), Rel hC hM → ∃ (r : Int32) (hC1 hM1 : Hp), fX11_death a1 a2 hC = some (r, hC1) ∧ fX12_death a1 a2 hM = some (r, hM1) ∧ Rel hC1 hM1
def Sim_takeBack (Rel : Hp → Hp → Prop) : Prop := ∀ (a1 a2 : Int32) (hC hM : Hp), Rel hC hM → ∃ (r : Int32) (hC1 hM1 : Hp), fX11_takeBack a1 a2 hC = some (r, hC1) ∧ fX12_takeBack a1 a2 hM = some (r, hM1) ∧ Rel hC1 hM1
def Sim_early (Rel : Hp → Hp → Prop) : Prop := ∀ (a1 a2 : Int32) (hC hM : Hp), Rel hC hM → ∃ (r : Int32) (hC1 hM1 : Hp), fX11_early a1 a2 hC = some (r, hC1) ∧ fX12_early a1 a2 hM = some (r, hM1) ∧ Rel hC1 hM1
def Sim_date (Rel : Hp → Hp → Prop) : Prop := ∀ (a1 a2 a3 : Int32) (hC hM : Hp), Rel hC hM → ∃ (r : Int32) (hC1 hM1 : Hp), fX11_date a1 a2 a3 hC = some (r, hC1) ∧ fX12_date a1 a2 a3 hM = some (r, hM1) ∧ Rel hC1 hM1
def Sim_flood (Rel : Hp → Hp → Prop) : Prop := ∀ (a1 a2 : Int32) (hC hM : Hp), Rel hC hM → ∃ (r : Int32) (hC1 hM1 : Hp), fX11_flood a1 a2 hC = some (r, hC1) ∧ fX12_flood a1 a2 hM = some (r, hM1) ∧ Rel hC1 hM1
def Sim_annul (Rel : Hp → Hp → Prop) : Prop := ∀ (a1 : Int32) (hC hM : Hp), Rel hC hM → ∃ (r : Int32) (hC1 hM1 : Hp), fX11_annul a1 hC = some (r, hC1) ∧ fX12_annul a1 hM = some (r, hM1) ∧ Rel hC1 hM1
def Sim_fact (Rel : Hp → Hp → Prop) : Prop := ∀ (a1 a2 : Int32) (hC hM : Hp), Rel hC hM → ∃ (r : Int32) (hC1 hM1 : Hp), fX11_fact a1 a2 hC = some (r, hC1) ∧ fX12_fact a1 a2 hM = some (r, hM1) ∧ Rel hC1 hM1
def Sim_weighs (Rel : Hp → Hp → Prop) : Prop := ∀ (a1 a2 a3 : Int32) (hC hM : Hp), Rel hC hM → ∃ (r : Int32) (hC1 hM1 : Hp), fX11_weighs a1 a2 a3 hC = some (r, hC1) ∧ fX12_weighs a1 a2 a3 hM = some (r, hM1) ∧ Rel hC1 hM1
def Sim_run (Rel : Hp → Hp → Prop) : Prop := ∀ (a1 a2 a3 a4 : Int32) (hC hM : Hp), Rel hC hM → ∃ (r : Int32) (hC1 hM1 : Hp), fX11_run a1 a2 a3 a4 hC = some (r, hC1) ∧ fX12_run a1 a2 a3 a4 hM = some (r, hM1) ∧ Rel hC1 hM1
def Sim_opened (Rel : Hp → Hp → Prop) : Prop := ∀ (a1 a2 a3 : Int32) (hC hM : Hp), Rel hC hM → ∃ (r : Int32) (hC1 hM1 : Hp), fX11_opened a1 a2 a3 hC = some (r, hC1) ∧ fX12_opened a1 a2 a3 hM = some (r, hM1) ∧ Rel hC1 hM1
def Sim_why (Rel : Hp → Hp → Prop) : Prop := ∀ (a1 a2 a3 : Int32) (hC hM : Hp), Rel hC hM → ∃ (r : Int32) (hC1 hM1 : Hp), fX11_why a1 a2 a3 hC = some (r, hC1) ∧ fX12_why a1 a2 a3 hM = some (r, hM1) ∧ Rel hC1 hM1
def Sim_harm (Rel : Hp → Hp → Prop) : Prop := ∀ (a1 : Int32) (hC hM : Hp), Rel hC hM → ∃ (r : Int32) (hC1 hM1 : Hp), fX11_harm a1 hC = some (r, hC1) ∧ fX12_harm a1 hM = some (r, hM1) ∧ Rel hC1 hM1
def Sim_tooSoon (Rel : Hp → Hp → Prop) : Prop := ∀ (a1 : Int32) (hC hM : Hp), Rel hC hM → ∃ (r : Int32) (hC1 hM1 : Hp), fX11_tooSoon a1 hC = some (r, hC1) ∧ fX12_tooSoon a1 hM = some (r, hM1) ∧ Rel hC1 hM1
def Sim_wrong (Rel : Hp → Hp → Prop) : Prop := ∀ (a1 a2 a3 : Int32) (hC hM : Hp), Rel hC hM → ∃ (r : Int32) (hC1 hM1 : Hp), fX11_wrong a1 a2 a3 hC = some (r, hC1) ∧ fX12_wrong a1 a2 a3 hM = some (r, hM1) ∧ Rel hC1 hM1
def Sim_late (Rel : Hp → Hp → Prop) : Prop := ∀ (a1 a2 a3 : Int32) (hC hM : Hp), Rel hC hM → ∃ (r : Int32) (hC1 hM1 : Hp), fX11_late a1 a2 a3 hC = some (r, hC1) ∧ fX12_late a1 a2 a3 hM = some (r, hM1) ∧ Rel hC1 hM1
def Sim_watch (Rel : Hp → Hp → Prop) : Prop := ∀ (a1 a2 : Int32) (hC hM : Hp), Rel hC hM → ∃ (r : Int32) (hC1 hM1 : Hp), fX11_watch a1 a2 hC = some (r, hC1) ∧ fX12_watch a1 a2 hM = some (r, hM1) ∧ Rel hC1 hM1
def Sim_gain (Rel : Hp → Hp → Prop) : Prop := ∀ (a1 a2 : Int32) (hC hM : Hp), Rel hC hM → ∃ (r : Int32) (hC1 hM1 : Hp), fX11_gain a1 a2 hC = some (r, hC1) ∧ fX12_gain a1 a2 hM = some (r, hM1) ∧ Rel hC1 hM1
def Sim_income (Rel : Hp → Hp → Prop) : Prop := ∀ (a1 a2 a3 : Int32) (hC hM : Hp), Rel hC hM → ∃ (r : Int32) (hC1 hM1 : Hp), fX11_income a1 a2 a3 hC = some (r, hC1) ∧ fX12_income a1 a2 a3 hM = some (r, hM1) ∧ Rel hC1 hM1
def Sim_next (Rel : Hp → Hp → Prop) : Prop := ∀ (a1 a2 : Int32) (hC hM : Hp), Rel hC hM → ∃ (r : Int32) (hC1 hM1 : Hp), fX11_next a1 a2 hC = some (r, hC1) ∧ fX12_next a1 a2 hM = some (r, hM1) ∧ Rel hC1 hM1
def Sim_looks (Rel : Hp → Hp → Prop) : Prop := ∀ (a1 a2 : Int32) (hC hM : Hp), Rel hC hM → ∃ (r : Int32) (hC1 hM1 : Hp), fX11_looks a1 a2 hC = some (r, hC1) ∧ fX12_looks a1 a2 hM = some (r, hM1) ∧ Rel hC1 hM1
def Sim_need (Rel : Hp → Hp → Prop) : Prop := ∀ (a1 a2 a3 a4 a5 : Int32) (hC hM : Hp), Rel hC hM → ∃ (r : Int32) (hC1 hM1 : Hp), fX11_need a1 a2 a3 a4 a5 hC = some (r, hC1) ∧ fX12_need a1 a2 a3 a4 a5 hM = some (r, hM1) ∧ Rel hC1 hM1
def Sim_asks (Rel : Hp → Hp → Prop) : Prop := ∀ (a1 : Int32) (hC hM : Hp), Rel hC hM → ∃ (r : Int32) (hC1 hM1 : Hp), fX11_asks a1 hC = some (r, hC1) ∧ fX12_asks a1 hM = some (r, hM1) ∧ Rel hC1 hM1
def Sim_ring (Rel : Hp → Hp → Prop) : Prop := ∀ (a1 : Int32) (hC hM : Hp), Rel hC hM → ∃ (r : Int32) (hC1 hM1 : Hp), fX11_ring a1 hC = some (r, hC1) ∧ fX12_ring a1 hM = some (r, hM1) ∧ Rel hC1 hM1
def Sim_rings (Rel : Hp → Hp → Prop) : Prop := ∀ (hC hM : Hp), Rel hC hM → ∃ (r : Int32) (hC1 hM1 : Hp), fX11_rings  hC = some (r, hC1) ∧ fX12_rings  hM = some (r, hM1) ∧ Rel hC1 hM1
def Sim_burn (Rel : Hp → Hp → Prop) : Prop := ∀ (hC hM : Hp), Rel hC hM → ∃ (r : Int32) (hC1 hM1 : Hp), fX11_burn  hC = some (r, hC1) ∧ fX12_burn  hM = some (r, hM1) ∧ Rel hC1 hM1
def Sim_future (Rel : Hp → Hp → Prop) : Prop := ∀ (a1 a2 a3 a4 a5 : Int32) (hC hM : Hp), Rel hC hM → ∃ (r : Int32) (hC1 hM1 : Hp), fX11_future a1 a2 a3 a4 a5 hC = some (r, hC1) ∧ fX12_future a1 a2 a3 a4 a5 hM = some (r, hM1) ∧ Rel hC1 hM1
def Sim_lives (Rel : Hp → Hp → Prop) : Prop := ∀ (a1 a2 a3 : Int32) (hC hM : Hp), Rel hC hM → ∃ (r : Int64) (hC1 hM1 : Hp), fX11_lives a1 a2 a3 hC = some (r, hC1) ∧ fX12_lives a1 a2 a3 hM = some (r, hM1) ∧ Rel hC1 hM1
def Sim_odds (Rel : Hp → Hp → Prop) : Prop := ∀ (a1 a2 a3 : Int32) (hC hM : Hp), Rel hC hM → ∃ (r : Int64) (hC1 hM1 : Hp), fX11_odds a1 a2 a3 hC = some (r, hC1) ∧ fX12_odds a1 a2 a3 hM = some (r, hM1) ∧ Rel hC1 hM1
def Sim_life (Rel : Hp → Hp → Prop) : Prop := ∀ (a1 a2 a3 : Int32) (hC hM : Hp), Rel hC hM → ∃ (r : Int32) (hC1 hM1 : Hp), fX11_life a1 a2 a3 hC = some (r, hC1) ∧ fX12_life a1 a2 a3 hM = some (r, hM1) ∧ Rel hC1 hM1
def Sim_chance (Rel : Hp → Hp → Prop) : Prop := ∀ (a1 a2 a3 a4 : Int32) (hC hM : Hp), Rel hC hM → ∃ (r : Int32) (hC1 hM1 : Hp), fX11_chance a1 a2 a3 a4 hC = some (r, hC1) ∧ fX12_chance a1 a2 a3 a4 hM = some (r, hM1) ∧ Rel hC1 hM1
def Sim_hold (Rel : Hp → Hp → Prop) : Prop := ∀ (a1 : Int32) (hC hM : Hp), Rel hC hM → ∃ (r : Int32) (hC1 hM1 : Hp), fX11_hold a1 hC = some (r, hC1) ∧ fX12_hold a1 hM = some (r, hM1) ∧ Rel hC1 hM1
def Sim_restore (Rel : Hp → Hp → Prop) : Prop := ∀ (a1 : Int32) (hC hM : Hp), Rel hC hM → ∃ (r : Int32) (hC1 hM1 : Hp), fX11_restore a1 hC = some (r, hC1) ∧ fX12_restore a1 hM = some (r, hM1) ∧ Rel hC1 hM1
def Sim_count (Rel : Hp → Hp → Prop) : Prop := ∀ (a1 : Int32) (hC hM : Hp), Rel hC hM → ∃ (r : Int32) (hC1 hM1 : Hp), fX11_count a1 hC = some (r, hC1) ∧ fX12_count a1 hM = some (r, hM1) ∧ Rel hC1 hM1
set_option maxRecDepth 20000 in
theorem law_feed {Y : QT} {G : GT} {b L : Nat} {xs : Nat → Int32} {ca sl : Nat} {Rel : Hp → Hp → Prop} (X : CL Y G b L xs) (hcs : ca ≤ 600000 ∧ sl ≤ 7302250) (hs : Sim_feed Rel) (i : Int32) (hin : ∀ k : Nat, k < 6 → inb (i + Int32.ofNat k) L = true) (hC hM : Hp) (hR : Rel hC hM) (kk : ∀ hC hM, Rel hC hM → JW (W2 Y shsC shsM hC hM) Y.1 G ca sl 4 1701 [(0, .ref b), (1, .ref (Y.2.1 100)), (2, .ref (Y.2.1 0)), (3, .int i)] []) : JW (W2 Y shsC shsM hC hM) Y.1 G ca sl 4 220 [(0, .ref b), (1, .ref (Y.2.1 100)), (2, .ref (Y.2.1 0)), (3, .int i)] [] := by
  obtain ⟨r, hC1, hM1, e1, e2, hR⟩ := hs (xs (ix (i + 1))) (xs (ix (i + 2))) (xs (ix (i + 3))) (xs (ix (i + 4))) (xs (ix (i + 5))) hC hM hR
  refine w_aload_n (pc := 220) 1 X.1 dL_law_220 rfl ?_
  refine w_aload_n (pc := 221) 0 X.1 dL_law_221 rfl ?_
  refine w_iload_n (pc := 222) 3 X.1 dL_law_222 rfl ?_
  refine w_iconst (pc := 223) 1 X.1 dL_law_223 rfl ?_
  refine w_iadd (pc := 224) X.1 dL_law_224 ?_
  refine wl_sld (pc := 225) X dL_law_225 (hin 1 (by decide)) ?_
  refine w_aload_n (pc := 226) 0 X.1 dL_law_226 rfl ?_
  refine w_iload_n (pc := 227) 3 X.1 dL_law_227 rfl ?_
  refine w_iconst (pc := 228) 2 X.1 dL_law_228 rfl ?_
  refine w_iadd (pc := 229) X.1 dL_law_229 ?_
  refine wl_sld (pc := 230) X dL_law_230 (hin 2 (by decide)) ?_
  refine w_aload_n (pc := 231) 0 X.1 dL_law_231 rfl ?_
  refine w_iload_n (pc := 232) 3 X.1 dL_law_232 rfl ?_
  refine w_iconst (pc := 233) 3 X.1 dL_law_233 rfl ?_
  refine w_iadd (pc := 234) X.1 dL_law_234 ?_
  refine wl_sld (pc := 235) X dL_law_235 (hin 3 (by decide)) ?_
  refine w_aload_n (pc := 236) 0 X.1 dL_law_236 rfl ?_
  refine w_iload_n (pc := 237) 3 X.1 dL_law_237 rfl ?_
  refine w_iconst (pc := 238) 4 X.1 dL_law_238 rfl ?_
  refine w_iadd (pc := 239) X.1 dL_law_239 ?_
  refine wl_sld (pc := 240) X dL_law_240 (hin 4 (by decide)) ?_
  refine w_aload_n (pc := 241) 0 X.1 dL_law_241 rfl ?_
  refine w_iload_n (pc := 242) 3 X.1 dL_law_242 rfl ?_
  refine w_iconst (pc := 243) 5 X.1 dL_law_243 rfl ?_
  refine w_iadd (pc := 244) X.1 dL_law_244 ?_
  refine wl_sld (pc := 245) X dL_law_245 (hin 5 (by decide)) ?_
  refine wl_call (pc := 246) (As := [.int (xs (ix (i + 1))), .int (xs (ix (i + 2))), .int (xs (ix (i + 3))), .int (xs (ix (i + 4))), .int (xs (ix (i + 5)))]) (rest := []) X shsC_nd X.2.2.1.1 (fun a h1 h2 => X.2.2.1.2.2 a h2 h1) X.2.2.2.1.1 dL_law_246 ml_L_13 ck_X11_feed cv_X11_feed sh_100 rfl (Nat.le_of_ble_eq_true rfl) hcs rfl (Nat.le_of_ble_eq_true rfl) rfl (tX11_feed (ZO Y shsC) (xs (ix (i + 1))) (xs (ix (i + 2))) (xs (ix (i + 3))) (xs (ix (i + 4))) (xs (ix (i + 5))) (fun _ h => h) hC _ _ e1) ?_
  refine w_aload_n (pc := 249) 2 X.1 dL_law_249 rfl ?_
  refine w_aload_n (pc := 250) 0 X.1 dL_law_250 rfl ?_
  refine w_iload_n (pc := 251) 3 X.1 dL_law_251 rfl ?_
  refine w_iconst (pc := 252) 1 X.1 dL_law_252 rfl ?_
  refine w_iadd (pc := 253) X.1 dL_law_253 ?_
  refine wl_sld (pc := 254) X dL_law_254 (hin 1 (by decide)) ?_
  refine w_aload_n (pc := 255) 0 X.1 dL_law_255 rfl ?_
  refine w_iload_n (pc := 256) 3 X.1 dL_law_256 rfl ?_
  refine w_iconst (pc := 257) 2 X.1 dL_law_257 rfl ?_
  refine w_iadd (pc := 258) X.1 dL_law_258 ?_
  refine wl_sld (pc := 259) X dL_law_259 (hin 2 (by decide)) ?_
  refine w_aload_n (pc := 260) 0 X.1 dL_law_260 rfl ?_
  refine w_iload_n (pc := 261) 3 X.1 dL_law_261 rfl ?_
  refine w_iconst (pc := 262) 3 X.1 dL_law_262 rfl ?_
  refine w_iadd (pc := 263) X.1 dL_law_263 ?_
  refine wl_sld (pc := 264) X dL_law_264 (hin 3 (by decide)) ?_
  refine w_aload_n (pc := 265) 0 X.1 dL_law_265 rfl ?_
  refine w_iload_n (pc := 266) 3 X.1 dL_law_266 rfl ?_
  refine w_iconst (pc := 267) 4 X.1 dL_law_267 rfl ?_
  refine w_iadd (pc := 268) X.1 dL_law_268 ?_
  refine wl_sld (pc := 269) X dL_law_269 (hin 4 (by decide)) ?_
  refine w_aload_n (pc := 270) 0 X.1 dL_law_270 rfl ?_
  refine w_iload_n (pc := 271) 3 X.1 dL_law_271 rfl ?_
  refine w_iconst (pc := 272) 5 X.1 dL_law_272 rfl ?_
  refine w_iadd (pc := 273) X.1 dL_law_273 ?_
  refine wl_sld (pc := 274) X dL_law_274 (hin 5 (by decide)) ?_
  refine w_imp (fun H h => ⟨h.2, h.1⟩) (Wq := W2 Y shsM shsC hM hC1) ?_
  refine wl_call (pc := 275) (As := [.int (xs (ix (i + 1))), .int (xs (ix (i + 2))), .int (xs (ix (i + 3))), .int (xs (ix (i + 4))), .int (xs (ix (i + 5)))]) (rest := [.int r]) X shsM_nd X.2.2.1.2.1 X.2.2.1.2.2 X.2.2.2.1.2 dL_law_275 ml_L_17 ck_X12_feed cv_X12_feed sh_0 rfl (Nat.le_of_ble_eq_true rfl) hcs rfl (Nat.le_of_ble_eq_true rfl) rfl (tX12_feed (ZO Y shsM) (xs (ix (i + 1))) (xs (ix (i + 2))) (xs (ix (i + 3))) (xs (ix (i + 4))) (xs (ix (i + 5))) (fun _ h => h) hM _ _ e2) ?_
  refine w_imp (fun H h => ⟨h.2, h.1⟩) (Wq := W2 Y shsC shsM hC1 hM1) ?_
  refine w_icmp_eq (pc := 278) 1701 X.1 dL_law_278 rfl (fun _ => ?_) (fun c => absurd rfl c)
  exact kk hC1 hM1 hR
set_option maxRecDepth 20000 in
theorem law_back {Y : QT} {G : GT} {b L : Nat} {xs : Nat → Int32} {ca sl : Nat} {Rel : Hp → Hp → Prop} (X : CL Y G b L xs) (hcs : ca ≤ 600000 ∧ sl ≤ 7302250) (hs : Sim_back Rel) (i : Int32) (hin : ∀ k : Nat, k < 6 → inb (i + Int32.ofNat k) L = true) (hC hM : Hp) (hR : Rel hC hM) (kk : ∀ hC hM, Rel hC hM → JW (W2 Y shsC shsM hC hM) Y.1 G ca sl 4 1701 [(0, .ref b), (1, .ref (Y.2.1 100)), (2, .ref (Y.2.1 0)), (3, .int i)] []) : JW (W2 Y shsC shsM hC hM) Y.1 G ca sl 4 283 [(0, .ref b), (1, .ref (Y.2.1 100)), (2, .ref (Y.2.1 0)), (3, .int i)] [] := by
  obtain ⟨r, hC1, hM1, e1, e2, hR⟩ := hs (xs (ix (i + 1))) hC hM hR
  refine w_aload_n (pc := 283) 1 X.1 dL_law_283 rfl ?_
  refine w_aload_n (pc := 284) 0 X.1 dL_law_284 rfl ?_
  refine w_iload_n (pc := 285) 3 X.1 dL_law_285 rfl ?_
  refine w_iconst (pc := 286) 1 X.1 dL_law_286 rfl ?_
  refine w_iadd (pc := 287) X.1 dL_law_287 ?_
  refine wl_sld (pc := 288) X dL_law_288 (hin 1 (by decide)) ?_
  refine wl_call (pc := 289) (As := [.int (xs (ix (i + 1)))]) (rest := []) X shsC_nd X.2.2.1.1 (fun a h1 h2 => X.2.2.1.2.2 a h2 h1) X.2.2.2.1.1 dL_law_289 ml_L_18 ck_X11_back cv_X11_back sh_100 rfl (Nat.le_of_ble_eq_true rfl) hcs rfl (Nat.le_of_ble_eq_true rfl) rfl (tX11_back (ZO Y shsC) (xs (ix (i + 1))) (fun _ h => h) hC _ _ e1) ?_
  refine w_aload_n (pc := 292) 2 X.1 dL_law_292 rfl ?_
  refine w_aload_n (pc := 293) 0 X.1 dL_law_293 rfl ?_
  refine w_iload_n (pc := 294) 3 X.1 dL_law_294 rfl ?_
  refine w_iconst (pc := 295) 1 X.1 dL_law_295 rfl ?_
  refine w_iadd (pc := 296) X.1 dL_law_296 ?_
  refine wl_sld (pc := 297) X dL_law_297 (hin 1 (by decide)) ?_
  refine w_imp (fun H h => ⟨h.2, h.1⟩) (Wq := W2 Y shsM shsC hM hC1) ?_
  refine wl_call (pc := 298) (As := [.int (xs (ix (i + 1)))]) (rest := [.int r]) X shsM_nd X.2.2.1.2.1 X.2.2.1.2.2 X.2.2.2.1.2 dL_law_298 ml_L_22 ck_X12_back cv_X12_back sh_0 rfl (Nat.le_of_ble_eq_true rfl) hcs rfl (Nat.le_of_ble_eq_true rfl) rfl (tX12_back (ZO Y shsM) (xs (ix (i + 1))) (fun _ h => h) hM _ _ e2) ?_
  refine w_imp (fun H h => ⟨h.2, h.1⟩) (Wq := W2 Y shsC shsM hC1 hM1) ?_
  refine w_icmp_eq (pc := 301) 1701 X.1 dL_law_301 rfl (fun _ => ?_) (fun c => absurd rfl c)
  exact kk hC1 hM1 hR
set_option maxRecDepth 20000 in
theorem law_read {Y : QT} {G : GT} {b L : Nat} {xs : Nat → Int32} {ca sl : Nat} {Rel : Hp → Hp → Prop} (X : CL Y G b L xs) (hcs : ca ≤ 600000 ∧ sl ≤ 7302250) (hs : Sim_read Rel) (i : Int32) (hin : ∀ k : Nat, k < 6 → inb (i + Int32.ofNat k) L = true) (hC hM : Hp) (hR : Rel hC hM) (kk : ∀ hC hM, Rel hC hM → JW (W2 Y shsC shsM hC hM) Y.1 G ca sl 4 1701 [(0, .ref b), (1, .ref (Y.2.1 100)), (2, .ref (Y.2.1 0)), (3, .int i)] []) : JW (W2 Y shsC shsM hC hM) Y.1 G ca sl 4 306 [(0, .ref b), (1, .ref (Y.2.1 100)), (2, .ref (Y.2.1 0)), (3, .int i)] [] := by
  obtain ⟨r, hC1, hM1, e1, e2, hR⟩ := hs  hC hM hR
  refine w_aload_n (pc := 306) 1 X.1 dL_law_306 rfl ?_
  refine wl_call (pc := 307) (As := []) (rest := []) X shsC_nd X.2.2.1.1 (fun a h1 h2 => X.2.2.1.2.2 a h2 h1) X.2.2.2.1.1 dL_law_307 ml_L_23 ck_X11_read cv_X11_read sh_100 rfl (Nat.le_of_ble_eq_true rfl) hcs rfl (Nat.le_of_ble_eq_true rfl) rfl (tX11_read (ZO Y shsC)  (fun _ h => h) hC _ _ e1) ?_
  refine w_aload_n (pc := 310) 2 X.1 dL_law_310 rfl ?_
  refine w_imp (fun H h => ⟨h.2, h.1⟩) (Wq := W2 Y shsM shsC hM hC1) ?_
  refine wl_call (pc := 311) (As := []) (rest := [.int r]) X shsM_nd X.2.2.1.2.1 X.2.2.1.2.2 X.2.2.2.1.2 dL_law_311 ml_L_27 ck_X12_read cv_X12_read sh_0 rfl (Nat.le_of_ble_eq_true rfl) hcs rfl (Nat.le_of_ble_eq_true rfl) rfl (tX12_read (ZO Y shsM)  (fun _ h => h) hM _ _ e2) ?_
  refine w_imp (fun H h => ⟨h.2, h.1⟩) (Wq := W2 Y shsC shsM hC1 hM1) ?_
  refine w_icmp_eq (pc := 314) 1701 X.1 dL_law_314 rfl (fun _ => ?_) (fun c => absurd rfl c)
  exact kk hC1 hM1 hR
set_option maxRecDepth 20000 in
theorem law_place {Y : QT} {G : GT} {b L : Nat} {xs : Nat → Int32} {ca sl : Nat} {Rel : Hp → Hp → Prop} (X : CL Y G b L xs) (hcs : ca ≤ 600000 ∧ sl ≤ 7302250) (hs : Sim_place Rel) (i : Int32) (hin : ∀ k : Nat, k < 6 → inb (i + Int32.ofNat k) L = true) (hC hM : Hp) (hR : Rel hC hM) (kk : ∀ hC hM, Rel hC hM → JW (W2 Y shsC shsM hC hM) Y.1 G ca sl 4 1701 [(0, .ref b), (1, .ref (Y.2.1 100)), (2, .ref (Y.2.1 0)), (3, .int i)] []) : JW (W2 Y shsC shsM hC hM) Y.1 G ca sl 4 319 [(0, .ref b), (1, .ref (Y.2.1 100)), (2, .ref (Y.2.1 0)), (3, .int i)] [] := by
  obtain ⟨r, hC1, hM1, e1, e2, hR⟩ := hs  hC hM hR
  refine w_aload_n (pc := 319) 1 X.1 dL_law_319 rfl ?_
  refine wl_call (pc := 320) (As := []) (rest := []) X shsC_nd X.2.2.1.1 (fun a h1 h2 => X.2.2.1.2.2 a h2 h1) X.2.2.2.1.1 dL_law_320 ml_L_28 ck_X11_place cv_X11_place sh_100 rfl (Nat.le_of_ble_eq_true rfl) hcs rfl (Nat.le_of_ble_eq_true rfl) rfl (tX11_place (ZO Y shsC)  (fun _ h => h) hC _ _ e1) ?_
  refine w_aload_n (pc := 323) 2 X.1 dL_law_323 rfl ?_
  refine w_imp (fun H h => ⟨h.2, h.1⟩) (Wq := W2 Y shsM shsC hM hC1) ?_
  refine wl_call (pc := 324) (As := []) (rest := [.int r]) X shsM_nd X.2.2.1.2.1 X.2.2.1.2.2 X.2.2.2.1.2 dL_law_324 ml_L_31 ck_X12_place cv_X12_place sh_0 rfl (Nat.le_of_ble_eq_true rfl) hcs rfl (Nat.le_of_ble_eq_true rfl) rfl (tX12_place (ZO Y shsM)  (fun _ h => h) hM _ _ e2) ?_
  refine w_imp (fun H h => ⟨h.2, h.1⟩) (Wq := W2 Y shsC shsM hC1 hM1) ?_
  refine w_icmp_eq (pc := 327) 1701 X.1 dL_law_327 rfl (fun _ => ?_) (fun c => absurd rfl c)
  exact kk hC1 hM1 hR
set_option maxRecDepth 20000 in
theorem law_letter {Y : QT} {G : GT} {b L : Nat} {xs : Nat → Int32} {ca sl : Nat} {Rel : Hp → Hp → Prop} (X : CL Y G b L xs) (hcs : ca ≤ 600000 ∧ sl ≤ 7302250) (hs : Sim_letter Rel) (i : Int32) (hin : ∀ k : Nat, k < 6 → inb (i + Int32.ofNat k) L = true) (hC hM : Hp) (hR : Rel hC hM) (kk : ∀ hC hM, Rel hC hM → JW (W2 Y shsC shsM hC hM) Y.1 G ca sl 4 1701 [(0, .ref b), (1, .ref (Y.2.1 100)), (2, .ref (Y.2.1 0)), (3, .int i)] []) : JW (W2 Y shsC shsM hC hM) Y.1 G ca sl 4 332 [(0, .ref b), (1, .ref (Y.2.1 100)), (2, .ref (Y.2.1 0)), (3, .int i)] [] := by
  obtain ⟨r, hC1, hM1, e1, e2, hR⟩ := hs (xs (ix (i + 1))) (xs (ix (i + 2))) hC hM hR
  refine w_aload_n (pc := 332) 1 X.1 dL_law_332 rfl ?_
  refine w_aload_n (pc := 333) 0 X.1 dL_law_333 rfl ?_
  refine w_iload_n (pc := 334) 3 X.1 dL_law_334 rfl ?_
  refine w_iconst (pc := 335) 1 X.1 dL_law_335 rfl ?_
  refine w_iadd (pc := 336) X.1 dL_law_336 ?_
  refine wl_sld (pc := 337) X dL_law_337 (hin 1 (by decide)) ?_
  refine w_aload_n (pc := 338) 0 X.1 dL_law_338 rfl ?_
  refine w_iload_n (pc := 339) 3 X.1 dL_law_339 rfl ?_
  refine w_iconst (pc := 340) 2 X.1 dL_law_340 rfl ?_
  refine w_iadd (pc := 341) X.1 dL_law_341 ?_
  refine wl_sld (pc := 342) X dL_law_342 (hin 2 (by decide)) ?_
  refine wl_call (pc := 343) (As := [.int (xs (ix (i + 1))), .int (xs (ix (i + 2)))]) (rest := []) X shsC_nd X.2.2.1.1 (fun a h1 h2 => X.2.2.1.2.2 a h2 h1) X.2.2.2.1.1 dL_law_343 ml_L_32 ck_X11_letter cv_X11_letter sh_100 rfl (Nat.le_of_ble_eq_true rfl) hcs rfl (Nat.le_of_ble_eq_true rfl) rfl (tX11_letter (ZO Y shsC) (xs (ix (i + 1))) (xs (ix (i + 2))) (fun _ h => h) hC _ _ e1) ?_
  refine w_aload_n (pc := 346) 2 X.1 dL_law_346 rfl ?_
  refine w_aload_n (pc := 347) 0 X.1 dL_law_347 rfl ?_
  refine w_iload_n (pc := 348) 3 X.1 dL_law_348 rfl ?_
  refine w_iconst (pc := 349) 1 X.1 dL_law_349 rfl ?_
  refine w_iadd (pc := 350) X.1 dL_law_350 ?_
  refine wl_sld (pc := 351) X dL_law_351 (hin 1 (by decide)) ?_
  refine w_aload_n (pc := 352) 0 X.1 dL_law_352 rfl ?_
  refine w_iload_n (pc := 353) 3 X.1 dL_law_353 rfl ?_
  refine w_iconst (pc := 354) 2 X.1 dL_law_354 rfl ?_
  refine w_iadd (pc := 355) X.1 dL_law_355 ?_
  refine wl_sld (pc := 356) X dL_law_356 (hin 2 (by decide)) ?_
  refine w_imp (fun H h => ⟨h.2, h.1⟩) (Wq := W2 Y shsM shsC hM hC1) ?_
  refine wl_call (pc := 357) (As := [.int (xs (ix (i + 1))), .int (xs (ix (i + 2)))]) (rest := [.int r]) X shsM_nd X.2.2.1.2.1 X.2.2.1.2.2 X.2.2.2.1.2 dL_law_357 ml_L_36 ck_X12_letter cv_X12_letter sh_0 rfl (Nat.le_of_ble_eq_true rfl) hcs rfl (Nat.le_of_ble_eq_true rfl) rfl (tX12_letter (ZO Y shsM) (xs (ix (i + 1))) (xs (ix (i + 2))) (fun _ h => h) hM _ _ e2) ?_
  refine w_imp (fun H h => ⟨h.2, h.1⟩) (Wq := W2 Y shsC shsM hC1 hM1) ?_
  refine w_icmp_eq (pc := 360) 1701 X.1 dL_law_360 rfl (fun _ => ?_) (fun c => absurd rfl c)
  exact kk hC1 hM1 hR
set_option maxRecDepth 20000 in
theorem law_dies {Y : QT} {G : GT} {b L : Nat} {xs : Nat → Int32} {ca sl : Nat} {Rel : Hp → Hp → Prop} (X : CL Y G b L xs) (hcs : ca ≤ 600000 ∧ sl ≤ 7302250) (hs : Sim_dies Rel) (i : Int32) (hin : ∀ k : Nat, k < 6 → inb (i + Int32.ofNat k) L = true) (hC hM : Hp) (hR : Rel hC hM) (kk : ∀ hC hM, Rel hC hM → JW (W2 Y shsC shsM hC hM) Y.1 G ca sl 4 1701 [(0, .ref b), (1, .ref (Y.2.1 100)), (2, .ref (Y.2.1 0)), (3, .int i)] []) : JW (W2 Y shsC shsM hC hM) Y.1 G ca sl 4 365 [(0, .ref b), (1, .ref (Y.2.1 100)), (2, .ref (Y.2.1 0)), (3, .int i)] [] := by
  obtain ⟨r, hC1, hM1, e1, e2, hR⟩ := hs (xs (ix (i + 1))) (xs (ix (i + 2))) hC hM hR
  refine w_aload_n (pc := 365) 1 X.1 dL_law_365 rfl ?_
  refine w_aload_n (pc := 366) 0 X.1 dL_law_366 rfl ?_
  refine w_iload_n (pc := 367) 3 X.1 dL_law_367 rfl ?_
  refine w_iconst (pc := 368) 1 X.1 dL_law_368 rfl ?_
  refine w_iadd (pc := 369) X.1 dL_law_369 ?_
  refine wl_sld (pc := 370) X dL_law_370 (hin 1 (by decide)) ?_
  refine w_aload_n (pc := 371) 0 X.1 dL_law_371 rfl ?_
  refine w_iload_n (pc := 372) 3 X.1 dL_law_372 rfl ?_
  refine w_iconst (pc := 373) 2 X.1 dL_law_373 rfl ?_
  refine w_iadd (pc := 374) X.1 dL_law_374 ?_
  refine wl_sld (pc := 375) X dL_law_375 (hin 2 (by decide)) ?_
  refine wl_call (pc := 376) (As := [.int (xs (ix (i + 1))), .int (xs (ix (i + 2)))]) (rest := []) X shsC_nd X.2.2.1.1 (fun a h1 h2 => X.2.2.1.2.2 a h2 h1) X.2.2.2.1.1 dL_law_376 ml_L_37 ck_X11_dies cv_X11_dies sh_100 rfl (Nat.le_of_ble_eq_true rfl) hcs rfl (Nat.le_of_ble_eq_true rfl) rfl (tX11_dies (ZO Y shsC) (xs (ix (i + 1))) (xs (ix (i + 2))) (fun _ h => h) hC _ _ e1) ?_
  refine w_aload_n (pc := 379) 2 X.1 dL_law_379 rfl ?_
  refine w_aload_n (pc := 380) 0 X.1 dL_law_380 rfl ?_
  refine w_iload_n (pc := 381) 3 X.1 dL_law_381 rfl ?_
  refine w_iconst (pc := 382) 1 X.1 dL_law_382 rfl ?_
  refine w_iadd (pc := 383) X.1 dL_law_383 ?_
  refine wl_sld (pc := 384) X dL_law_384 (hin 1 (by decide)) ?_
  refine w_aload_n (pc := 385) 0 X.1 dL_law_385 rfl ?_
  refine w_iload_n (pc := 386) 3 X.1 dL_law_386 rfl ?_
  refine w_iconst (pc := 387) 2 X.1 dL_law_387 rfl ?_
  refine w_iadd (pc := 388) X.1 dL_law_388 ?_
  refine wl_sld (pc := 389) X dL_law_389 (hin 2 (by decide)) ?_
  refine w_imp (fun H h => ⟨h.2, h.1⟩) (Wq := W2 Y shsM shsC hM hC1) ?_
  refine wl_call (pc := 390) (As := [.int (xs (ix (i + 1))), .int (xs (ix (i + 2)))]) (rest := [.int r]) X shsM_nd X.2.2.1.2.1 X.2.2.1.2.2 X.2.2.2.1.2 dL_law_390 ml_L_40 ck_X12_dies cv_X12_dies sh_0 rfl (Nat.le_of_ble_eq_true rfl) hcs rfl (Nat.le_of_ble_eq_true rfl) rfl (tX12_dies (ZO Y shsM) (xs (ix (i + 1))) (xs (ix (i + 2))) (fun _ h => h) hM _ _ e2) ?_
  refine w_imp (fun H h => ⟨h.2, h.1⟩) (Wq := W2 Y shsC shsM hC1 hM1) ?_
  refine w_icmp_eq (pc := 393) 1701 X.1 dL_law_393 rfl (fun _ => ?_) (fun c => absurd rfl c)
  exact kk hC1 hM1 hR
set_option maxRecDepth 20000 in
theorem law_fee {Y : QT} {G : GT} {b L : Nat} {xs : Nat → Int32} {ca sl : Nat} {Rel : Hp → Hp → Prop} (X : CL Y G b L xs) (hcs : ca ≤ 600000 ∧ sl ≤ 7302250) (hs : Sim_fee Rel) (i : Int32) (hin : ∀ k : Nat, k < 6 → inb (i + Int32.ofNat k) L = true) (hC hM : Hp) (hR : Rel hC hM) (kk : ∀ hC hM, Rel hC hM → JW (W2 Y shsC shsM hC hM) Y.1 G ca sl 4 1701 [(0, .ref b), (1, .ref (Y.2.1 100)), (2, .ref (Y.2.1 0)), (3, .int i)] []) : JW (W2 Y shsC shsM hC hM) Y.1 G ca sl 4 398 [(0, .ref b), (1, .ref (Y.2.1 100)), (2, .ref (Y.2.1 0)), (3, .int i)] [] := by
  obtain ⟨r, hC1, hM1, e1, e2, hR⟩ := hs (xs (ix (i + 1))) (xs (ix (i + 2))) hC hM hR
  refine w_aload_n (pc := 398) 1 X.1 dL_law_398 rfl ?_
  refine w_aload_n (pc := 399) 0 X.1 dL_law_399 rfl ?_
  refine w_iload_n (pc := 400) 3 X.1 dL_law_400 rfl ?_
  refine w_iconst (pc := 401) 1 X.1 dL_law_401 rfl ?_
  refine w_iadd (pc := 402) X.1 dL_law_402 ?_
  refine wl_sld (pc := 403) X dL_law_403 (hin 1 (by decide)) ?_
  refine w_aload_n (pc := 404) 0 X.1 dL_law_404 rfl ?_
  refine w_iload_n (pc := 405) 3 X.1 dL_law_405 rfl ?_
  refine w_iconst (pc := 406) 2 X.1 dL_law_406 rfl ?_
  refine w_iadd (pc := 407) X.1 dL_law_407 ?_
  refine wl_sld (pc := 408) X dL_law_408 (hin 2 (by decide)) ?_
  refine wl_call (pc := 409) (As := [.int (xs (ix (i + 1))), .int (xs (ix (i + 2)))]) (rest := []) X shsC_nd X.2.2.1.1 (fun a h1 h2 => X.2.2.1.2.2 a h2 h1) X.2.2.2.1.1 dL_law_409 ml_L_41 ck_X11_fee cv_X11_fee sh_100 rfl (Nat.le_of_ble_eq_true rfl) hcs rfl (Nat.le_of_ble_eq_true rfl) rfl (tX11_fee (ZO Y shsC) (xs (ix (i + 1))) (xs (ix (i + 2))) (fun _ h => h) hC _ _ e1) ?_
  refine w_aload_n (pc := 412) 2 X.1 dL_law_412 rfl ?_
  refine w_aload_n (pc := 413) 0 X.1 dL_law_413 rfl ?_
  refine w_iload_n (pc := 414) 3 X.1 dL_law_414 rfl ?_
  refine w_iconst (pc := 415) 1 X.1 dL_law_415 rfl ?_
  refine w_iadd (pc := 416) X.1 dL_law_416 ?_
  refine wl_sld (pc := 417) X dL_law_417 (hin 1 (by decide)) ?_
  refine w_aload_n (pc := 418) 0 X.1 dL_law_418 rfl ?_
  refine w_iload_n (pc := 419) 3 X.1 dL_law_419 rfl ?_
  refine w_iconst (pc := 420) 2 X.1 dL_law_420 rfl ?_
  refine w_iadd (pc := 421) X.1 dL_law_421 ?_
  refine wl_sld (pc := 422) X dL_law_422 (hin 2 (by decide)) ?_
  refine w_imp (fun H h => ⟨h.2, h.1⟩) (Wq := W2 Y shsM shsC hM hC1) ?_
  refine wl_call (pc := 423) (As := [.int (xs (ix (i + 1))), .int (xs (ix (i + 2)))]) (rest := [.int r]) X shsM_nd X.2.2.1.2.1 X.2.2.1.2.2 X.2.2.2.1.2 dL_law_423 ml_L_44 ck_X12_fee cv_X12_fee sh_0 rfl (Nat.le_of_ble_eq_true rfl) hcs rfl (Nat.le_of_ble_eq_true rfl) rfl (tX12_fee (ZO Y shsM) (xs (ix (i + 1))) (xs (ix (i + 2))) (fun _ h => h) hM _ _ e2) ?_
  refine w_imp (fun H h => ⟨h.2, h.1⟩) (Wq := W2 Y shsC shsM hC1 hM1) ?_
  refine w_icmp_eq (pc := 426) 1701 X.1 dL_law_426 rfl (fun _ => ?_) (fun c => absurd rfl c)
  exact kk hC1 hM1 hR
set_option maxRecDepth 20000 in
theorem law_clerk {Y : QT} {G : GT} {b L : Nat} {xs : Nat → Int32} {ca sl : Nat} {Rel : Hp → Hp → Prop} (X : CL Y G b L xs) (hcs : ca ≤ 600000 ∧ sl ≤ 7302250) (hs : Sim_clerk Rel) (i : Int32) (hin : ∀ k : Nat, k < 6 → inb (i + Int32.ofNat k) L = true) (hC hM : Hp) (hR : Rel hC hM) (kk : ∀ hC hM, Rel hC hM → JW (W2 Y shsC shsM hC hM) Y.1 G ca sl 4 1701 [(0, .ref b), (1, .ref (Y.2.1 100)), (2, .ref (Y.2.1 0)), (3, .int i)] []) : JW (W2 Y shsC shsM hC hM) Y.1 G ca sl 4 431 [(0, .ref b), (1, .ref (Y.2.1 100)), (2, .ref (Y.2.1 0)), (3, .int i)] [] := by
  obtain ⟨r, hC1, hM1, e1, e2, hR⟩ := hs (xs (ix (i + 1))) hC hM hR
  refine w_aload_n (pc := 431) 1 X.1 dL_law_431 rfl ?_
  refine w_aload_n (pc := 432) 0 X.1 dL_law_432 rfl ?_
  refine w_iload_n (pc := 433) 3 X.1 dL_law_433 rfl ?_
  refine w_iconst (pc := 434) 1 X.1 dL_law_434 rfl ?_
  refine w_iadd (pc := 435) X.1 dL_law_435 ?_
  refine wl_sld (pc := 436) X dL_law_436 (hin 1 (by decide)) ?_
  refine wl_call (pc := 437) (As := [.int (xs (ix (i + 1)))]) (rest := []) X shsC_nd X.2.2.1.1 (fun a h1 h2 => X.2.2.1.2.2 a h2 h1) X.2.2.2.1.1 dL_law_437 ml_L_45 ck_X11_clerk cv_X11_clerk sh_100 rfl (Nat.le_of_ble_eq_true rfl) hcs rfl (Nat.le_of_ble_eq_true rfl) rfl (tX11_clerk (ZO Y shsC) (xs (ix (i + 1))) (fun _ h => h) hC _ _ e1) ?_
  refine w_aload_n (pc := 440) 2 X.1 dL_law_440 rfl ?_
  refine w_aload_n (pc := 441) 0 X.1 dL_law_441 rfl ?_
  refine w_iload_n (pc := 442) 3 X.1 dL_law_442 rfl ?_
  refine w_iconst (pc := 443) 1 X.1 dL_law_443 rfl ?_
  refine w_iadd (pc := 444) X.1 dL_law_444 ?_
  refine wl_sld (pc := 445) X dL_law_445 (hin 1 (by decide)) ?_
  refine w_imp (fun H h => ⟨h.2, h.1⟩) (Wq := W2 Y shsM shsC hM hC1) ?_
  refine wl_call (pc := 446) (As := [.int (xs (ix (i + 1)))]) (rest := [.int r]) X shsM_nd X.2.2.1.2.1 X.2.2.1.2.2 X.2.2.2.1.2 dL_law_446 ml_L_48 ck_X12_clerk cv_X12_clerk sh_0 rfl (Nat.le_of_ble_eq_true rfl) hcs rfl (Nat.le_of_ble_eq_true rfl) rfl (tX12_clerk (ZO Y shsM) (xs (ix (i + 1))) (fun _ h => h) hM _ _ e2) ?_
  refine w_imp (fun H h => ⟨h.2, h.1⟩) (Wq := W2 Y shsC shsM hC1 hM1) ?_
  refine w_icmp_eq (pc := 449) 1701 X.1 dL_law_449 rfl (fun _ => ?_) (fun c => absurd rfl c)
  exact kk hC1 hM1 hR
set_option maxRecDepth 20000 in
theorem law_barred {Y : QT} {G : GT} {b L : Nat} {xs : Nat → Int32} {ca sl : Nat} {Rel : Hp → Hp → Prop} (X : CL Y G b L xs) (hcs : ca ≤ 600000 ∧ sl ≤ 7302250) (hs : Sim_barred Rel) (i : Int32) (hin : ∀ k : Nat, k < 6 → inb (i + Int32.ofNat k) L = true) (hC hM : Hp) (hR : Rel hC hM) (kk : ∀ hC hM, Rel hC hM → JW (W2 Y shsC shsM hC hM) Y.1 G ca sl 4 1701 [(0, .ref b), (1, .ref (Y.2.1 100)), (2, .ref (Y.2.1 0)), (3, .int i)] []) : JW (W2 Y shsC shsM hC hM) Y.1 G ca sl 4 454 [(0, .ref b), (1, .ref (Y.2.1 100)), (2, .ref (Y.2.1 0)), (3, .int i)] [] := by
  obtain ⟨r, hC1, hM1, e1, e2, hR⟩ := hs (xs (ix (i + 1))) (xs (ix (i + 2))) hC hM hR
  refine w_aload_n (pc := 454) 1 X.1 dL_law_454 rfl ?_
  refine w_aload_n (pc := 455) 0 X.1 dL_law_455 rfl ?_
  refine w_iload_n (pc := 456) 3 X.1 dL_law_456 rfl ?_
  refine w_iconst (pc := 457) 1 X.1 dL_law_457 rfl ?_
  refine w_iadd (pc := 458) X.1 dL_law_458 ?_
  refine wl_sld (pc := 459) X dL_law_459 (hin 1 (by decide)) ?_
  refine w_aload_n (pc := 460) 0 X.1 dL_law_460 rfl ?_
  refine w_iload_n (pc := 461) 3 X.1 dL_law_461 rfl ?_
  refine w_iconst (pc := 462) 2 X.1 dL_law_462 rfl ?_
  refine w_iadd (pc := 463) X.1 dL_law_463 ?_
  refine wl_sld (pc := 464) X dL_law_464 (hin 2 (by decide)) ?_
  refine wl_call (pc := 465) (As := [.int (xs (ix (i + 1))), .int (xs (ix (i + 2)))]) (rest := []) X shsC_nd X.2.2.1.1 (fun a h1 h2 => X.2.2.1.2.2 a h2 h1) X.2.2.2.1.1 dL_law_465 ml_L_49 ck_X11_barred cv_X11_barred sh_100 rfl (Nat.le_of_ble_eq_true rfl) hcs rfl (Nat.le_of_ble_eq_true rfl) rfl (tX11_barred (ZO Y shsC) (xs (ix (i + 1))) (xs (ix (i + 2))) (fun _ h => h) hC _ _ e1) ?_
  refine w_aload_n (pc := 468) 2 X.1 dL_law_468 rfl ?_
  refine w_aload_n (pc := 469) 0 X.1 dL_law_469 rfl ?_
  refine w_iload_n (pc := 470) 3 X.1 dL_law_470 rfl ?_
  refine w_iconst (pc := 471) 1 X.1 dL_law_471 rfl ?_
  refine w_iadd (pc := 472) X.1 dL_law_472 ?_
  refine wl_sld (pc := 473) X dL_law_473 (hin 1 (by decide)) ?_
  refine w_aload_n (pc := 474) 0 X.1 dL_law_474 rfl ?_
  refine w_iload_n (pc := 475) 3 X.1 dL_law_475 rfl ?_
  refine w_iconst (pc := 476) 2 X.1 dL_law_476 rfl ?_
  refine w_iadd (pc := 477) X.1 dL_law_477 ?_
  refine wl_sld (pc := 478) X dL_law_478 (hin 2 (by decide)) ?_
  refine w_imp (fun H h => ⟨h.2, h.1⟩) (Wq := W2 Y shsM shsC hM hC1) ?_
  refine wl_call (pc := 479) (As := [.int (xs (ix (i + 1))), .int (xs (ix (i + 2)))]) (rest := [.int r]) X shsM_nd X.2.2.1.2.1 X.2.2.1.2.2 X.2.2.2.1.2 dL_law_479 ml_L_52 ck_X12_barred cv_X12_barred sh_0 rfl (Nat.le_of_ble_eq_true rfl) hcs rfl (Nat.le_of_ble_eq_true rfl) rfl (tX12_barred (ZO Y shsM) (xs (ix (i + 1))) (xs (ix (i + 2))) (fun _ h => h) hM _ _ e2) ?_
  refine w_imp (fun H h => ⟨h.2, h.1⟩) (Wq := W2 Y shsC shsM hC1 hM1) ?_
  refine w_icmp_eq (pc := 482) 1701 X.1 dL_law_482 rfl (fun _ => ?_) (fun c => absurd rfl c)
  exact kk hC1 hM1 hR
set_option maxRecDepth 20000 in
theorem law_rumour {Y : QT} {G : GT} {b L : Nat} {xs : Nat → Int32} {ca sl : Nat} {Rel : Hp → Hp → Prop} (X : CL Y G b L xs) (hcs : ca ≤ 600000 ∧ sl ≤ 7302250) (hs : Sim_rumour Rel) (i : Int32) (hin : ∀ k : Nat, k < 6 → inb (i + Int32.ofNat k) L = true) (hC hM : Hp) (hR : Rel hC hM) (kk : ∀ hC hM, Rel hC hM → JW (W2 Y shsC shsM hC hM) Y.1 G ca sl 4 1701 [(0, .ref b), (1, .ref (Y.2.1 100)), (2, .ref (Y.2.1 0)), (3, .int i)] []) : JW (W2 Y shsC shsM hC hM) Y.1 G ca sl 4 487 [(0, .ref b), (1, .ref (Y.2.1 100)), (2, .ref (Y.2.1 0)), (3, .int i)] [] := by
  obtain ⟨r, hC1, hM1, e1, e2, hR⟩ := hs (xs (ix (i + 1))) (xs (ix (i + 2))) (xs (ix (i + 3))) hC hM hR
  refine w_aload_n (pc := 487) 1 X.1 dL_law_487 rfl ?_
  refine w_aload_n (pc := 488) 0 X.1 dL_law_488 rfl ?_
  refine w_iload_n (pc := 489) 3 X.1 dL_law_489 rfl ?_
  refine w_iconst (pc := 490) 1 X.1 dL_law_490 rfl ?_
  refine w_iadd (pc := 491) X.1 dL_law_491 ?_
  refine wl_sld (pc := 492) X dL_law_492 (hin 1 (by decide)) ?_
  refine w_aload_n (pc := 493) 0 X.1 dL_law_493 rfl ?_
  refine w_iload_n (pc := 494) 3 X.1 dL_law_494 rfl ?_
  refine w_iconst (pc := 495) 2 X.1 dL_law_495 rfl ?_
  refine w_iadd (pc := 496) X.1 dL_law_496 ?_
  refine wl_sld (pc := 497) X dL_law_497 (hin 2 (by decide)) ?_
  refine w_aload_n (pc := 498) 0 X.1 dL_law_498 rfl ?_
  refine w_iload_n (pc := 499) 3 X.1 dL_law_499 rfl ?_
  refine w_iconst (pc := 500) 3 X.1 dL_law_500 rfl ?_
  refine w_iadd (pc := 501) X.1 dL_law_501 ?_
  refine wl_sld (pc := 502) X dL_law_502 (hin 3 (by decide)) ?_
  refine wl_call (pc := 503) (As := [.int (xs (ix (i + 1))), .int (xs (ix (i + 2))), .int (xs (ix (i + 3)))]) (rest := []) X shsC_nd X.2.2.1.1 (fun a h1 h2 => X.2.2.1.2.2 a h2 h1) X.2.2.2.1.1 dL_law_503 ml_L_53 ck_X11_rumour cv_X11_rumour sh_100 rfl (Nat.le_of_ble_eq_true rfl) hcs rfl (Nat.le_of_ble_eq_true rfl) rfl (tX11_rumour (ZO Y shsC) (xs (ix (i + 1))) (xs (ix (i + 2))) (xs (ix (i + 3))) (fun _ h => h) hC _ _ e1) ?_
  refine w_aload_n (pc := 506) 2 X.1 dL_law_506 rfl ?_
  refine w_aload_n (pc := 507) 0 X.1 dL_law_507 rfl ?_
  refine w_iload_n (pc := 508) 3 X.1 dL_law_508 rfl ?_
  refine w_iconst (pc := 509) 1 X.1 dL_law_509 rfl ?_
  refine w_iadd (pc := 510) X.1 dL_law_510 ?_
  refine wl_sld (pc := 511) X dL_law_511 (hin 1 (by decide)) ?_
  refine w_aload_n (pc := 512) 0 X.1 dL_law_512 rfl ?_
  refine w_iload_n (pc := 513) 3 X.1 dL_law_513 rfl ?_
  refine w_iconst (pc := 514) 2 X.1 dL_law_514 rfl ?_
  refine w_iadd (pc := 515) X.1 dL_law_515 ?_
  refine wl_sld (pc := 516) X dL_law_516 (hin 2 (by decide)) ?_
  refine w_aload_n (pc := 517) 0 X.1 dL_law_517 rfl ?_
  refine w_iload_n (pc := 518) 3 X.1 dL_law_518 rfl ?_
  refine w_iconst (pc := 519) 3 X.1 dL_law_519 rfl ?_
  refine w_iadd (pc := 520) X.1 dL_law_520 ?_
  refine wl_sld (pc := 521) X dL_law_521 (hin 3 (by decide)) ?_
  refine w_imp (fun H h => ⟨h.2, h.1⟩) (Wq := W2 Y shsM shsC hM hC1) ?_
  refine wl_call (pc := 522) (As := [.int (xs (ix (i + 1))), .int (xs (ix (i + 2))), .int (xs (ix (i + 3)))]) (rest := [.int r]) X shsM_nd X.2.2.1.2.1 X.2.2.1.2.2 X.2.2.2.1.2 dL_law_522 ml_L_57 ck_X12_rumour cv_X12_rumour sh_0 rfl (Nat.le_of_ble_eq_true rfl) hcs rfl (Nat.le_of_ble_eq_true rfl) rfl (tX12_rumour (ZO Y shsM) (xs (ix (i + 1))) (xs (ix (i + 2))) (xs (ix (i + 3))) (fun _ h => h) hM _ _ e2) ?_
  refine w_imp (fun H h => ⟨h.2, h.1⟩) (Wq := W2 Y shsC shsM hC1 hM1) ?_
  refine w_icmp_eq (pc := 525) 1701 X.1 dL_law_525 rfl (fun _ => ?_) (fun c => absurd rfl c)
  exact kk hC1 hM1 hR
set_option maxRecDepth 20000 in
theorem law_death {Y : QT} {G : GT} {b L : Nat} {xs : Nat → Int32} {ca sl : Nat} {Rel : Hp → Hp → Prop} (X : CL Y G b L xs) (hcs : ca ≤ 600000 ∧ sl ≤ 7302250) (hs : Sim_death Rel) (i : Int32) (hin : ∀ k : Nat, k < 6 → inb (i + Int32.ofNat k) L = true) (hC hM : Hp) (hR : Rel hC hM) (kk : ∀ hC hM, Rel hC hM → JW (W2 Y shsC shsM hC hM) Y.1 G ca sl 4 1701 [(0, .ref b), (1, .ref (Y.2.1 100)), (2, .ref (Y.2.1 0)), (3, .int i)] []) : JW (W2 Y shsC shsM hC hM) Y.1 G ca sl 4 530 [(0, .ref b), (1, .ref (Y.2.1 100)), (2, .ref (Y.2.1 0)), (3, .int i)] [] := by
  obtain ⟨r, hC1, hM1, e1, e2, hR⟩ := hs (xs (ix (i + 1))) (xs (ix (i + 2))) hC hM hR
  refine w_aload_n (pc := 530) 1 X.1 dL_law_530 rfl ?_
  refine w_aload_n (pc := 531) 0 X.1 dL_law_531 rfl ?_
  refine w_iload_n (pc := 532) 3 X.1 dL_law_532 rfl ?_
  refine w_iconst (pc := 533) 1 X.1 dL_law_533 rfl ?_
  refine w_iadd (pc := 534) X.1 dL_law_534 ?_
  refine wl_sld (pc := 535) X dL_law_535 (hin 1 (by decide)) ?_
  refine w_aload_n (pc := 536) 0 X.1 dL_law_536 rfl ?_
  refine w_iload_n (pc := 537) 3 X.1 dL_law_537 rfl ?_
  refine w_iconst (pc := 538) 2 X.1 dL_law_538 rfl ?_
  refine w_iadd (pc := 539) X.1 dL_law_539 ?_
  refine wl_sld (pc := 540) X dL_law_540 (hin 2 (by decide)) ?_
  refine wl_call (pc := 541) (As := [.int (xs (ix (i + 1))), .int (xs (ix (i + 2)))]) (rest := []) X shsC_nd X.2.2.1.1 (fun a h1 h2 => X.2.2.1.2.2 a h2 h1) X.2.2.2.1.1 dL_law_541 ml_L_58 ck_X11_death cv_X11_death sh_100 rfl (Nat.le_of_ble_eq_true rfl) hcs rfl (Nat.le_of_ble_eq_true rfl) rfl (tX11_death (ZO Y shsC) (xs (ix (i + 1))) (xs (ix (i + 2))) (fun _ h => h) hC _ _ e1) ?_
  refine w_aload_n (pc := 544) 2 X.1 dL_law_544 rfl ?_
  refine w_aload_n (pc := 545) 0 X.1 dL_law_545 rfl ?_
  refine w_iload_n (pc := 546) 3 X.1 dL_law_546 rfl ?_
  refine w_iconst (pc := 547) 1 X.1 dL_law_547 rfl ?_
  refine w_iadd (pc := 548) X.1 dL_law_548 ?_
  refine wl_sld (pc := 549) X dL_law_549 (hin 1 (by decide)) ?_
  refine w_aload_n (pc := 550) 0 X.1 dL_law_550 rfl ?_
  refine w_iload_n (pc := 551) 3 X.1 dL_law_551 rfl ?_
  refine w_iconst (pc := 552) 2 X.1 dL_law_552 rfl ?_
  refine w_iadd (pc := 553) X.1 dL_law_553 ?_
  refine wl_sld (pc := 554) X dL_law_554 (hin 2 (by decide)) ?_
  refine w_imp (fun H h => ⟨h.2, h.1⟩) (Wq := W2 Y shsM shsC hM hC1) ?_
  refine wl_call (pc := 555) (As := [.int (xs (ix (i + 1))), .int (xs (ix (i + 2)))]) (rest := [.int r]) X shsM_nd X.2.2.1.2.1 X.2.2.1.2.2 X.2.2.2.1.2 dL_law_555 ml_L_61 ck_X12_death cv_X12_death sh_0 rfl (Nat.le_of_ble_eq_true rfl) hcs rfl (Nat.le_of_ble_eq_true rfl) rfl (tX12_death (ZO Y shsM) (xs (ix (i + 1))) (xs (ix (i + 2))) (fun _ h => h) hM _ _ e2) ?_
  refine w_imp (fun H h => ⟨h.2, h.1⟩) (Wq := W2 Y shsC shsM hC1 hM1) ?_
  refine w_icmp_eq (pc := 558) 1701 X.1 dL_law_558 rfl (fun _ => ?_) (fun c => absurd rfl c)
  exact kk hC1 hM1 hR
set_option maxRecDepth 20000 in
theorem law_takeBack {Y : QT} {G : GT} {b L : Nat} {xs : Nat → Int32} {ca sl : Nat} {Rel : Hp → Hp → Prop} (X : CL Y G b L xs) (hcs : ca ≤ 600000 ∧ sl ≤ 7302250) (hs : Sim_takeBack Rel) (i : Int32) (hin : ∀ k : Nat, k < 6 → inb (i + Int32.ofNat k) L = true) (hC hM : Hp) (hR : Rel hC hM) (kk : ∀ hC hM, Rel hC hM → JW (W2 Y shsC shsM hC hM) Y.1 G ca sl 4 1701 [(0, .ref b), (1, .ref (Y.2.1 100)), (2, .ref (Y.2.1 0)), (3, .int i)] []) : JW (W2 Y shsC shsM hC hM) Y.1 G ca sl 4 563 [(0, .ref b), (1, .ref (Y.2.1 100)), (2, .ref (Y.2.1 0)), (3, .int i)] [] := by
  obtain ⟨r, hC1, hM1, e1, e2, hR⟩ := hs (xs (ix (i + 1))) (xs (ix (i + 2))) hC hM hR
  refine w_aload_n (pc := 563) 1 X.1 dL_law_563 rfl ?_
  refine w_aload_n (pc := 564) 0 X.1 dL_law_564 rfl ?_
  refine w_iload_n (pc := 565) 3 X.1 dL_law_565 rfl ?_
  refine w_iconst (pc := 566) 1 X.1 dL_law_566 rfl ?_
  refine w_iadd (pc := 567) X.1 dL_law_567 ?_
  refine wl_sld (pc := 568) X dL_law_568 (hin 1 (by decide)) ?_
  refine w_aload_n (pc := 569) 0 X.1 dL_law_569 rfl ?_
  refine w_iload_n (pc := 570) 3 X.1 dL_law_570 rfl ?_
  refine w_iconst (pc := 571) 2 X.1 dL_law_571 rfl ?_
  refine w_iadd (pc := 572) X.1 dL_law_572 ?_
  refine wl_sld (pc := 573) X dL_law_573 (hin 2 (by decide)) ?_
  refine wl_call (pc := 574) (As := [.int (xs (ix (i + 1))), .int (xs (ix (i + 2)))]) (rest := []) X shsC_nd X.2.2.1.1 (fun a h1 h2 => X.2.2.1.2.2 a h2 h1) X.2.2.2.1.1 dL_law_574 ml_L_62 ck_X11_takeBack cv_X11_takeBack sh_100 rfl (Nat.le_of_ble_eq_true rfl) hcs rfl (Nat.le_of_ble_eq_true rfl) rfl (tX11_takeBack (ZO Y shsC) (xs (ix (i + 1))) (xs (ix (i + 2))) (fun _ h => h) hC _ _ e1) ?_
  refine w_aload_n (pc := 577) 2 X.1 dL_law_577 rfl ?_
  refine w_aload_n (pc := 578) 0 X.1 dL_law_578 rfl ?_
  refine w_iload_n (pc := 579) 3 X.1 dL_law_579 rfl ?_
  refine w_iconst (pc := 580) 1 X.1 dL_law_580 rfl ?_
  refine w_iadd (pc := 581) X.1 dL_law_581 ?_
  refine wl_sld (pc := 582) X dL_law_582 (hin 1 (by decide)) ?_
  refine w_aload_n (pc := 583) 0 X.1 dL_law_583 rfl ?_
  refine w_iload_n (pc := 584) 3 X.1 dL_law_584 rfl ?_
  refine w_iconst (pc := 585) 2 X.1 dL_law_585 rfl ?_
  refine w_iadd (pc := 586) X.1 dL_law_586 ?_
  refine wl_sld (pc := 587) X dL_law_587 (hin 2 (by decide)) ?_
  refine w_imp (fun H h => ⟨h.2, h.1⟩) (Wq := W2 Y shsM shsC hM hC1) ?_
  refine wl_call (pc := 588) (As := [.int (xs (ix (i + 1))), .int (xs (ix (i + 2)))]) (rest := [.int r]) X shsM_nd X.2.2.1.2.1 X.2.2.1.2.2 X.2.2.2.1.2 dL_law_588 ml_L_65 ck_X12_takeBack cv_X12_takeBack sh_0 rfl (Nat.le_of_ble_eq_true rfl) hcs rfl (Nat.le_of_ble_eq_true rfl) rfl (tX12_takeBack (ZO Y shsM) (xs (ix (i + 1))) (xs (ix (i + 2))) (fun _ h => h) hM _ _ e2) ?_
  refine w_imp (fun H h => ⟨h.2, h.1⟩) (Wq := W2 Y shsC shsM hC1 hM1) ?_
  refine w_icmp_eq (pc := 591) 1701 X.1 dL_law_591 rfl (fun _ => ?_) (fun c => absurd rfl c)
  exact kk hC1 hM1 hR
set_option maxRecDepth 20000 in
theorem law_early {Y : QT} {G : GT} {b L : Nat} {xs : Nat → Int32} {ca sl : Nat} {Rel : Hp → Hp → Prop} (X : CL Y G b L xs) (hcs : ca ≤ 600000 ∧ sl ≤ 7302250) (hs : Sim_early Rel) (i : Int32) (hin : ∀ k : Nat, k < 6 → inb (i + Int32.ofNat k) L = true) (hC hM : Hp) (hR : Rel hC hM) (kk : ∀ hC hM, Rel hC hM → JW (W2 Y shsC shsM hC hM) Y.1 G ca sl 4 1701 [(0, .ref b), (1, .ref (Y.2.1 100)), (2, .ref (Y.2.1 0)), (3, .int i)] []) : JW (W2 Y shsC shsM hC hM) Y.1 G ca sl 4 596 [(0, .ref b), (1, .ref (Y.2.1 100)), (2, .ref (Y.2.1 0)), (3, .int i)] [] := by
  obtain ⟨r, hC1, hM1, e1, e2, hR⟩ := hs (xs (ix (i + 1))) (xs (ix (i + 2))) hC hM hR
  refine w_aload_n (pc := 596) 1 X.1 dL_law_596 rfl ?_
  refine w_aload_n (pc := 597) 0 X.1 dL_law_597 rfl ?_
  refine w_iload_n (pc := 598) 3 X.1 dL_law_598 rfl ?_
  refine w_iconst (pc := 599) 1 X.1 dL_law_599 rfl ?_
  refine w_iadd (pc := 600) X.1 dL_law_600 ?_
  refine wl_sld (pc := 601) X dL_law_601 (hin 1 (by decide)) ?_
  refine w_aload_n (pc := 602) 0 X.1 dL_law_602 rfl ?_
  refine w_iload_n (pc := 603) 3 X.1 dL_law_603 rfl ?_
  refine w_iconst (pc := 604) 2 X.1 dL_law_604 rfl ?_
  refine w_iadd (pc := 605) X.1 dL_law_605 ?_
  refine wl_sld (pc := 606) X dL_law_606 (hin 2 (by decide)) ?_
  refine wl_call (pc := 607) (As := [.int (xs (ix (i + 1))), .int (xs (ix (i + 2)))]) (rest := []) X shsC_nd X.2.2.1.1 (fun a h1 h2 => X.2.2.1.2.2 a h2 h1) X.2.2.2.1.1 dL_law_607 ml_L_66 ck_X11_early cv_X11_early sh_100 rfl (Nat.le_of_ble_eq_true rfl) hcs rfl (Nat.le_of_ble_eq_true rfl) rfl (tX11_early (ZO Y shsC) (xs (ix (i + 1))) (xs (ix (i + 2))) (fun _ h => h) hC _ _ e1) ?_
  refine w_aload_n (pc := 610) 2 X.1 dL_law_610 rfl ?_
  refine w_aload_n (pc := 611) 0 X.1 dL_law_611 rfl ?_
  refine w_iload_n (pc := 612) 3 X.1 dL_law_612 rfl ?_
  refine w_iconst (pc := 613) 1 X.1 dL_law_613 rfl ?_
  refine w_iadd (pc := 614) X.1 dL_law_614 ?_
  refine wl_sld (pc := 615) X dL_law_615 (hin 1 (by decide)) ?_
  refine w_aload_n (pc := 616) 0 X.1 dL_law_616 rfl ?_
  refine w_iload_n (pc := 617) 3 X.1 dL_law_617 rfl ?_
  refine w_iconst (pc := 618) 2 X.1 dL_law_618 rfl ?_
  refine w_iadd (pc := 619) X.1 dL_law_619 ?_
  refine wl_sld (pc := 620) X dL_law_620 (hin 2 (by decide)) ?_
  refine w_imp (fun H h => ⟨h.2, h.1⟩) (Wq := W2 Y shsM shsC hM hC1) ?_
  refine wl_call (pc := 621) (As := [.int (xs (ix (i + 1))), .int (xs (ix (i + 2)))]) (rest := [.int r]) X shsM_nd X.2.2.1.2.1 X.2.2.1.2.2 X.2.2.2.1.2 dL_law_621 ml_L_69 ck_X12_early cv_X12_early sh_0 rfl (Nat.le_of_ble_eq_true rfl) hcs rfl (Nat.le_of_ble_eq_true rfl) rfl (tX12_early (ZO Y shsM) (xs (ix (i + 1))) (xs (ix (i + 2))) (fun _ h => h) hM _ _ e2) ?_
  refine w_imp (fun H h => ⟨h.2, h.1⟩) (Wq := W2 Y shsC shsM hC1 hM1) ?_
  refine w_icmp_eq (pc := 624) 1701 X.1 dL_law_624 rfl (fun _ => ?_) (fun c => absurd rfl c)
  exact kk hC1 hM1 hR
set_option maxRecDepth 20000 in
theorem law_date {Y : QT} {G : GT} {b L : Nat} {xs : Nat → Int32} {ca sl : Nat} {Rel : Hp → Hp → Prop} (X : CL Y G b L xs) (hcs : ca ≤ 600000 ∧ sl ≤ 7302250) (hs : Sim_date Rel) (i : Int32) (hin : ∀ k : Nat, k < 6 → inb (i + Int32.ofNat k) L = true) (hC hM : Hp) (hR : Rel hC hM) (kk : ∀ hC hM, Rel hC hM → JW (W2 Y shsC shsM hC hM) Y.1 G ca sl 4 1701 [(0, .ref b), (1, .ref (Y.2.1 100)), (2, .ref (Y.2.1 0)), (3, .int i)] []) : JW (W2 Y shsC shsM hC hM) Y.1 G ca sl 4 629 [(0, .ref b), (1, .ref (Y.2.1 100)), (2, .ref (Y.2.1 0)), (3, .int i)] [] := by
  obtain ⟨r, hC1, hM1, e1, e2, hR⟩ := hs (xs (ix (i + 1))) (xs (ix (i + 2))) (xs (ix (i + 3))) hC hM hR
  refine w_aload_n (pc := 629) 1 X.1 dL_law_629 rfl ?_
  refine w_aload_n (pc := 630) 0 X.1 dL_law_630 rfl ?_
  refine w_iload_n (pc := 631) 3 X.1 dL_law_631 rfl ?_
  refine w_iconst (pc := 632) 1 X.1 dL_law_632 rfl ?_
  refine w_iadd (pc := 633) X.1 dL_law_633 ?_
  refine wl_sld (pc := 634) X dL_law_634 (hin 1 (by decide)) ?_
  refine w_aload_n (pc := 635) 0 X.1 dL_law_635 rfl ?_
  refine w_iload_n (pc := 636) 3 X.1 dL_law_636 rfl ?_
  refine w_iconst (pc := 637) 2 X.1 dL_law_637 rfl ?_
  refine w_iadd (pc := 638) X.1 dL_law_638 ?_
  refine wl_sld (pc := 639) X dL_law_639 (hin 2 (by decide)) ?_
  refine w_aload_n (pc := 640) 0 X.1 dL_law_640 rfl ?_
  refine w_iload_n (pc := 641) 3 X.1 dL_law_641 rfl ?_
  refine w_iconst (pc := 642) 3 X.1 dL_law_642 rfl ?_
  refine w_iadd (pc := 643) X.1 dL_law_643 ?_
  refine wl_sld (pc := 644) X dL_law_644 (hin 3 (by decide)) ?_
  refine wl_call (pc := 645) (As := [.int (xs (ix (i + 1))), .int (xs (ix (i + 2))), .int (xs (ix (i + 3)))]) (rest := []) X shsC_nd X.2.2.1.1 (fun a h1 h2 => X.2.2.1.2.2 a h2 h1) X.2.2.2.1.1 dL_law_645 ml_L_70 ck_X11_date cv_X11_date sh_100 rfl (Nat.le_of_ble_eq_true rfl) hcs rfl (Nat.le_of_ble_eq_true rfl) rfl (tX11_date (ZO Y shsC) (xs (ix (i + 1))) (xs (ix (i + 2))) (xs (ix (i + 3))) (fun _ h => h) hC _ _ e1) ?_
  refine w_aload_n (pc := 648) 2 X.1 dL_law_648 rfl ?_
  refine w_aload_n (pc := 649) 0 X.1 dL_law_649 rfl ?_
  refine w_iload_n (pc := 650) 3 X.1 dL_law_650 rfl ?_
  refine w_iconst (pc := 651) 1 X.1 dL_law_651 rfl ?_
  refine w_iadd (pc := 652) X.1 dL_law_652 ?_
  refine wl_sld (pc := 653) X dL_law_653 (hin 1 (by decide)) ?_
  refine w_aload_n (pc := 654) 0 X.1 dL_law_654 rfl ?_
  refine w_iload_n (pc := 655) 3 X.1 dL_law_655 rfl ?_
  refine w_iconst (pc := 656) 2 X.1 dL_law_656 rfl ?_
  refine w_iadd (pc := 657) X.1 dL_law_657 ?_
  refine wl_sld (pc := 658) X dL_law_658 (hin 2 (by decide)) ?_
  refine w_aload_n (pc := 659) 0 X.1 dL_law_659 rfl ?_
  refine w_iload_n (pc := 660) 3 X.1 dL_law_660 rfl ?_
  refine w_iconst (pc := 661) 3 X.1 dL_law_661 rfl ?_
  refine w_iadd (pc := 662) X.1 dL_law_662 ?_
  refine wl_sld (pc := 663) X dL_law_663 (hin 3 (by decide)) ?_
  refine w_imp (fun H h => ⟨h.2, h.1⟩) (Wq := W2 Y shsM shsC hM hC1) ?_
  refine wl_call (pc := 664) (As := [.int (xs (ix (i + 1))), .int (xs (ix (i + 2))), .int (xs (ix (i + 3)))]) (rest := [.int r]) X shsM_nd X.2.2.1.2.1 X.2.2.1.2.2 X.2.2.2.1.2 dL_law_664 ml_L_73 ck_X12_date cv_X12_date sh_0 rfl (Nat.le_of_ble_eq_true rfl) hcs rfl (Nat.le_of_ble_eq_true rfl) rfl (tX12_date (ZO Y shsM) (xs (ix (i + 1))) (xs (ix (i + 2))) (xs (ix (i + 3))) (fun _ h => h) hM _ _ e2) ?_
  refine w_imp (fun H h => ⟨h.2, h.1⟩) (Wq := W2 Y shsC shsM hC1 hM1) ?_
  refine w_icmp_eq (pc := 667) 1701 X.1 dL_law_667 rfl (fun _ => ?_) (fun c => absurd rfl c)
  exact kk hC1 hM1 hR
set_option maxRecDepth 20000 in
theorem law_flood {Y : QT} {G : GT} {b L : Nat} {xs : Nat → Int32} {ca sl : Nat} {Rel : Hp → Hp → Prop} (X : CL Y G b L xs) (hcs : ca ≤ 600000 ∧ sl ≤ 7302250) (hs : Sim_flood Rel) (i : Int32) (hin : ∀ k : Nat, k < 6 → inb (i + Int32.ofNat k) L = true) (hC hM : Hp) (hR : Rel hC hM) (kk : ∀ hC hM, Rel hC hM → JW (W2 Y shsC shsM hC hM) Y.1 G ca sl 4 1701 [(0, .ref b), (1, .ref (Y.2.1 100)), (2, .ref (Y.2.1 0)), (3, .int i)] []) : JW (W2 Y shsC shsM hC hM) Y.1 G ca sl 4 672 [(0, .ref b), (1, .ref (Y.2.1 100)), (2, .ref (Y.2.1 0)), (3, .int i)] [] := by
  obtain ⟨r, hC1, hM1, e1, e2, hR⟩ := hs (xs (ix (i + 1))) (xs (ix (i + 2))) hC hM hR
  refine w_aload_n (pc := 672) 1 X.1 dL_law_672 rfl ?_
  refine w_aload_n (pc := 673) 0 X.1 dL_law_673 rfl ?_
  refine w_iload_n (pc := 674) 3 X.1 dL_law_674 rfl ?_
  refine w_iconst (pc := 675) 1 X.1 dL_law_675 rfl ?_
  refine w_iadd (pc := 676) X.1 dL_law_676 ?_
  refine wl_sld (pc := 677) X dL_law_677 (hin 1 (by decide)) ?_
  refine w_aload_n (pc := 678) 0 X.1 dL_law_678 rfl ?_
  refine w_iload_n (pc := 679) 3 X.1 dL_law_679 rfl ?_
  refine w_iconst (pc := 680) 2 X.1 dL_law_680 rfl ?_
  refine w_iadd (pc := 681) X.1 dL_law_681 ?_
  refine wl_sld (pc := 682) X dL_law_682 (hin 2 (by decide)) ?_
  refine wl_call (pc := 683) (As := [.int (xs (ix (i + 1))), .int (xs (ix (i + 2)))]) (rest := []) X shsC_nd X.2.2.1.1 (fun a h1 h2 => X.2.2.1.2.2 a h2 h1) X.2.2.2.1.1 dL_law_683 ml_L_74 ck_X11_flood cv_X11_flood sh_100 rfl (Nat.le_of_ble_eq_true rfl) hcs rfl (Nat.le_of_ble_eq_true rfl) rfl (tX11_flood (ZO Y shsC) (xs (ix (i + 1))) (xs (ix (i + 2))) (fun _ h => h) hC _ _ e1) ?_
  refine w_aload_n (pc := 686) 2 X.1 dL_law_686 rfl ?_
  refine w_aload_n (pc := 687) 0 X.1 dL_law_687 rfl ?_
  refine w_iload_n (pc := 688) 3 X.1 dL_law_688 rfl ?_
  refine w_iconst (pc := 689) 1 X.1 dL_law_689 rfl ?_
  refine w_iadd (pc := 690) X.1 dL_law_690 ?_
  refine wl_sld (pc := 691) X dL_law_691 (hin 1 (by decide)) ?_
  refine w_aload_n (pc := 692) 0 X.1 dL_law_692 rfl ?_
  refine w_iload_n (pc := 693) 3 X.1 dL_law_693 rfl ?_
  refine w_iconst (pc := 694) 2 X.1 dL_law_694 rfl ?_
  refine w_iadd (pc := 695) X.1 dL_law_695 ?_
  refine wl_sld (pc := 696) X dL_law_696 (hin 2 (by decide)) ?_
  refine w_imp (fun H h => ⟨h.2, h.1⟩) (Wq := W2 Y shsM shsC hM hC1) ?_
  refine wl_call (pc := 697) (As := [.int (xs (ix (i + 1))), .int (xs (ix (i + 2)))]) (rest := [.int r]) X shsM_nd X.2.2.1.2.1 X.2.2.1.2.2 X.2.2.2.1.2 dL_law_697 ml_L_77 ck_X12_flood cv_X12_flood sh_0 rfl (Nat.le_of_ble_eq_true rfl) hcs rfl (Nat.le_of_ble_eq_true rfl) rfl (tX12_flood (ZO Y shsM) (xs (ix (i + 1))) (xs (ix (i + 2))) (fun _ h => h) hM _ _ e2) ?_
  refine w_imp (fun H h => ⟨h.2, h.1⟩) (Wq := W2 Y shsC shsM hC1 hM1) ?_
  refine w_icmp_eq (pc := 700) 1701 X.1 dL_law_700 rfl (fun _ => ?_) (fun c => absurd rfl c)
  exact kk hC1 hM1 hR
set_option maxRecDepth 20000 in
theorem law_annul {Y : QT} {G : GT} {b L : Nat} {xs : Nat → Int32} {ca sl : Nat} {Rel : Hp → Hp → Prop} (X : CL Y G b L xs) (hcs : ca ≤ 600000 ∧ sl ≤ 7302250) (hs : Sim_annul Rel) (i : Int32) (hin : ∀ k : Nat, k < 6 → inb (i + Int32.ofNat k) L = true) (hC hM : Hp) (hR : Rel hC hM) (kk : ∀ hC hM, Rel hC hM → JW (W2 Y shsC shsM hC hM) Y.1 G ca sl 4 1701 [(0, .ref b), (1, .ref (Y.2.1 100)), (2, .ref (Y.2.1 0)), (3, .int i)] []) : JW (W2 Y shsC shsM hC hM) Y.1 G ca sl 4 705 [(0, .ref b), (1, .ref (Y.2.1 100)), (2, .ref (Y.2.1 0)), (3, .int i)] [] := by
  obtain ⟨r, hC1, hM1, e1, e2, hR⟩ := hs (xs (ix (i + 1))) hC hM hR
  refine w_aload_n (pc := 705) 1 X.1 dL_law_705 rfl ?_
  refine w_aload_n (pc := 706) 0 X.1 dL_law_706 rfl ?_
  refine w_iload_n (pc := 707) 3 X.1 dL_law_707 rfl ?_
  refine w_iconst (pc := 708) 1 X.1 dL_law_708 rfl ?_
  refine w_iadd (pc := 709) X.1 dL_law_709 ?_
  refine wl_sld (pc := 710) X dL_law_710 (hin 1 (by decide)) ?_
  refine wl_call (pc := 711) (As := [.int (xs (ix (i + 1)))]) (rest := []) X shsC_nd X.2.2.1.1 (fun a h1 h2 => X.2.2.1.2.2 a h2 h1) X.2.2.2.1.1 dL_law_711 ml_L_78 ck_X11_annul cv_X11_annul sh_100 rfl (Nat.le_of_ble_eq_true rfl) hcs rfl (Nat.le_of_ble_eq_true rfl) rfl (tX11_annul (ZO Y shsC) (xs (ix (i + 1))) (fun _ h => h) hC _ _ e1) ?_
  refine w_aload_n (pc := 714) 2 X.1 dL_law_714 rfl ?_
  refine w_aload_n (pc := 715) 0 X.1 dL_law_715 rfl ?_
  refine w_iload_n (pc := 716) 3 X.1 dL_law_716 rfl ?_
  refine w_iconst (pc := 717) 1 X.1 dL_law_717 rfl ?_
  refine w_iadd (pc := 718) X.1 dL_law_718 ?_
  refine wl_sld (pc := 719) X dL_law_719 (hin 1 (by decide)) ?_
  refine w_imp (fun H h => ⟨h.2, h.1⟩) (Wq := W2 Y shsM shsC hM hC1) ?_
  refine wl_call (pc := 720) (As := [.int (xs (ix (i + 1)))]) (rest := [.int r]) X shsM_nd X.2.2.1.2.1 X.2.2.1.2.2 X.2.2.2.1.2 dL_law_720 ml_L_81 ck_X12_annul cv_X12_annul sh_0 rfl (Nat.le_of_ble_eq_true rfl) hcs rfl (Nat.le_of_ble_eq_true rfl) rfl (tX12_annul (ZO Y shsM) (xs (ix (i + 1))) (fun _ h => h) hM _ _ e2) ?_
  refine w_imp (fun H h => ⟨h.2, h.1⟩) (Wq := W2 Y shsC shsM hC1 hM1) ?_
  refine w_icmp_eq (pc := 723) 1701 X.1 dL_law_723 rfl (fun _ => ?_) (fun c => absurd rfl c)
  exact kk hC1 hM1 hR
set_option maxRecDepth 20000 in
theorem law_fact {Y : QT} {G : GT} {b L : Nat} {xs : Nat → Int32} {ca sl : Nat} {Rel : Hp → Hp → Prop} (X : CL Y G b L xs) (hcs : ca ≤ 600000 ∧ sl ≤ 7302250) (hs : Sim_fact Rel) (i : Int32) (hin : ∀ k : Nat, k < 6 → inb (i + Int32.ofNat k) L = true) (hC hM : Hp) (hR : Rel hC hM) (kk : ∀ hC hM, Rel hC hM → JW (W2 Y shsC shsM hC hM) Y.1 G ca sl 4 1701 [(0, .ref b), (1, .ref (Y.2.1 100)), (2, .ref (Y.2.1 0)), (3, .int i)] []) : JW (W2 Y shsC shsM hC hM) Y.1 G ca sl 4 728 [(0, .ref b), (1, .ref (Y.2.1 100)), (2, .ref (Y.2.1 0)), (3, .int i)] [] := by
  obtain ⟨r, hC1, hM1, e1, e2, hR⟩ := hs (xs (ix (i + 1))) (xs (ix (i + 2))) hC hM hR
  refine w_aload_n (pc := 728) 1 X.1 dL_law_728 rfl ?_
  refine w_aload_n (pc := 729) 0 X.1 dL_law_729 rfl ?_
  refine w_iload_n (pc := 730) 3 X.1 dL_law_730 rfl ?_
  refine w_iconst (pc := 731) 1 X.1 dL_law_731 rfl ?_
  refine w_iadd (pc := 732) X.1 dL_law_732 ?_
  refine wl_sld (pc := 733) X dL_law_733 (hin 1 (by decide)) ?_
  refine w_aload_n (pc := 734) 0 X.1 dL_law_734 rfl ?_
  refine w_iload_n (pc := 735) 3 X.1 dL_law_735 rfl ?_
  refine w_iconst (pc := 736) 2 X.1 dL_law_736 rfl ?_
  refine w_iadd (pc := 737) X.1 dL_law_737 ?_
  refine wl_sld (pc := 738) X dL_law_738 (hin 2 (by decide)) ?_
  refine wl_call (pc := 739) (As := [.int (xs (ix (i + 1))), .int (xs (ix (i + 2)))]) (rest := []) X shsC_nd X.2.2.1.1 (fun a h1 h2 => X.2.2.1.2.2 a h2 h1) X.2.2.2.1.1 dL_law_739 ml_L_82 ck_X11_fact cv_X11_fact sh_100 rfl (Nat.le_of_ble_eq_true rfl) hcs rfl (Nat.le_of_ble_eq_true rfl) rfl (tX11_fact (ZO Y shsC) (xs (ix (i + 1))) (xs (ix (i + 2))) (fun _ h => h) hC _ _ e1) ?_
  refine w_aload_n (pc := 742) 2 X.1 dL_law_742 rfl ?_
  refine w_aload_n (pc := 743) 0 X.1 dL_law_743 rfl ?_
  refine w_iload_n (pc := 744) 3 X.1 dL_law_744 rfl ?_
  refine w_iconst (pc := 745) 1 X.1 dL_law_745 rfl ?_
  refine w_iadd (pc := 746) X.1 dL_law_746 ?_
  refine wl_sld (pc := 747) X dL_law_747 (hin 1 (by decide)) ?_
  refine w_aload_n (pc := 748) 0 X.1 dL_law_748 rfl ?_
  refine w_iload_n (pc := 749) 3 X.1 dL_law_749 rfl ?_
  refine w_iconst (pc := 750) 2 X.1 dL_law_750 rfl ?_
  refine w_iadd (pc := 751) X.1 dL_law_751 ?_
  refine wl_sld (pc := 752) X dL_law_752 (hin 2 (by decide)) ?_
  refine w_imp (fun H h => ⟨h.2, h.1⟩) (Wq := W2 Y shsM shsC hM hC1) ?_
  refine wl_call (pc := 753) (As := [.int (xs (ix (i + 1))), .int (xs (ix (i + 2)))]) (rest := [.int r]) X shsM_nd X.2.2.1.2.1 X.2.2.1.2.2 X.2.2.2.1.2 dL_law_753 ml_L_85 ck_X12_fact cv_X12_fact sh_0 rfl (Nat.le_of_ble_eq_true rfl) hcs rfl (Nat.le_of_ble_eq_true rfl) rfl (tX12_fact (ZO Y shsM) (xs (ix (i + 1))) (xs (ix (i + 2))) (fun _ h => h) hM _ _ e2) ?_
  refine w_imp (fun H h => ⟨h.2, h.1⟩) (Wq := W2 Y shsC shsM hC1 hM1) ?_
  refine w_icmp_eq (pc := 756) 1701 X.1 dL_law_756 rfl (fun _ => ?_) (fun c => absurd rfl c)
  exact kk hC1 hM1 hR
set_option maxRecDepth 20000 in
theorem law_weighs {Y : QT} {G : GT} {b L : Nat} {xs : Nat → Int32} {ca sl : Nat} {Rel : Hp → Hp → Prop} (X : CL Y G b L xs) (hcs : ca ≤ 600000 ∧ sl ≤ 7302250) (hs : Sim_weighs Rel) (i : Int32) (hin : ∀ k : Nat, k < 6 → inb (i + Int32.ofNat k) L = true) (hC hM : Hp) (hR : Rel hC hM) (kk : ∀ hC hM, Rel hC hM → JW (W2 Y shsC shsM hC hM) Y.1 G ca sl 4 1701 [(0, .ref b), (1, .ref (Y.2.1 100)), (2, .ref (Y.2.1 0)), (3, .int i)] []) : JW (W2 Y shsC shsM hC hM) Y.1 G ca sl 4 761 [(0, .ref b), (1, .ref (Y.2.1 100)), (2, .ref (Y.2.1 0)), (3, .int i)] [] := by
  obtain ⟨r, hC1, hM1, e1, e2, hR⟩ := hs (xs (ix (i + 1))) (xs (ix (i + 2))) (xs (ix (i + 3))) hC hM hR
  refine w_aload_n (pc := 761) 1 X.1 dL_law_761 rfl ?_
  refine w_aload_n (pc := 762) 0 X.1 dL_law_762 rfl ?_
  refine w_iload_n (pc := 763) 3 X.1 dL_law_763 rfl ?_
  refine w_iconst (pc := 764) 1 X.1 dL_law_764 rfl ?_
  refine w_iadd (pc := 765) X.1 dL_law_765 ?_
  refine wl_sld (pc := 766) X dL_law_766 (hin 1 (by decide)) ?_
  refine w_aload_n (pc := 767) 0 X.1 dL_law_767 rfl ?_
  refine w_iload_n (pc := 768) 3 X.1 dL_law_768 rfl ?_
  refine w_iconst (pc := 769) 2 X.1 dL_law_769 rfl ?_
  refine w_iadd (pc := 770) X.1 dL_law_770 ?_
  refine wl_sld (pc := 771) X dL_law_771 (hin 2 (by decide)) ?_
  refine w_aload_n (pc := 772) 0 X.1 dL_law_772 rfl ?_
  refine w_iload_n (pc := 773) 3 X.1 dL_law_773 rfl ?_
  refine w_iconst (pc := 774) 3 X.1 dL_law_774 rfl ?_
  refine w_iadd (pc := 775) X.1 dL_law_775 ?_
  refine wl_sld (pc := 776) X dL_law_776 (hin 3 (by decide)) ?_
  refine wl_call (pc := 777) (As := [.int (xs (ix (i + 1))), .int (xs (ix (i + 2))), .int (xs (ix (i + 3)))]) (rest := []) X shsC_nd X.2.2.1.1 (fun a h1 h2 => X.2.2.1.2.2 a h2 h1) X.2.2.2.1.1 dL_law_777 ml_L_86 ck_X11_weighs cv_X11_weighs sh_100 rfl (Nat.le_of_ble_eq_true rfl) hcs rfl (Nat.le_of_ble_eq_true rfl) rfl (tX11_weighs (ZO Y shsC) (xs (ix (i + 1))) (xs (ix (i + 2))) (xs (ix (i + 3))) (fun _ h => h) hC _ _ e1) ?_
  refine w_aload_n (pc := 780) 2 X.1 dL_law_780 rfl ?_
  refine w_aload_n (pc := 781) 0 X.1 dL_law_781 rfl ?_
  refine w_iload_n (pc := 782) 3 X.1 dL_law_782 rfl ?_
  refine w_iconst (pc := 783) 1 X.1 dL_law_783 rfl ?_
  refine w_iadd (pc := 784) X.1 dL_law_784 ?_
  refine wl_sld (pc := 785) X dL_law_785 (hin 1 (by decide)) ?_
  refine w_aload_n (pc := 786) 0 X.1 dL_law_786 rfl ?_
  refine w_iload_n (pc := 787) 3 X.1 dL_law_787 rfl ?_
  refine w_iconst (pc := 788) 2 X.1 dL_law_788 rfl ?_
  refine w_iadd (pc := 789) X.1 dL_law_789 ?_
  refine wl_sld (pc := 790) X dL_law_790 (hin 2 (by decide)) ?_
  refine w_aload_n (pc := 791) 0 X.1 dL_law_791 rfl ?_
  refine w_iload_n (pc := 792) 3 X.1 dL_law_792 rfl ?_
  refine w_iconst (pc := 793) 3 X.1 dL_law_793 rfl ?_
  refine w_iadd (pc := 794) X.1 dL_law_794 ?_
  refine wl_sld (pc := 795) X dL_law_795 (hin 3 (by decide)) ?_
  refine w_imp (fun H h => ⟨h.2, h.1⟩) (Wq := W2 Y shsM shsC hM hC1) ?_
  refine wl_call (pc := 796) (As := [.int (xs (ix (i + 1))), .int (xs (ix (i + 2))), .int (xs (ix (i + 3)))]) (rest := [.int r]) X shsM_nd X.2.2.1.2.1 X.2.2.1.2.2 X.2.2.2.1.2 dL_law_796 ml_L_89 ck_X12_weighs cv_X12_weighs sh_0 rfl (Nat.le_of_ble_eq_true rfl) hcs rfl (Nat.le_of_ble_eq_true rfl) rfl (tX12_weighs (ZO Y shsM) (xs (ix (i + 1))) (xs (ix (i + 2))) (xs (ix (i + 3))) (fun _ h => h) hM _ _ e2) ?_
  refine w_imp (fun H h => ⟨h.2, h.1⟩) (Wq := W2 Y shsC shsM hC1 hM1) ?_
  refine w_icmp_eq (pc := 799) 1701 X.1 dL_law_799 rfl (fun _ => ?_) (fun c => absurd rfl c)
  exact kk hC1 hM1 hR
set_option maxRecDepth 20000 in
theorem law_run {Y : QT} {G : GT} {b L : Nat} {xs : Nat → Int32} {ca sl : Nat} {Rel : Hp → Hp → Prop} (X : CL Y G b L xs) (hcs : ca ≤ 600000 ∧ sl ≤ 7302250) (hs : Sim_run Rel) (i : Int32) (hin : ∀ k : Nat, k < 6 → inb (i + Int32.ofNat k) L = true) (hC hM : Hp) (hR : Rel hC hM) (kk : ∀ hC hM, Rel hC hM → JW (W2 Y shsC shsM hC hM) Y.1 G ca sl 4 1701 [(0, .ref b), (1, .ref (Y.2.1 100)), (2, .ref (Y.2.1 0)), (3, .int i)] []) : JW (W2 Y shsC shsM hC hM) Y.1 G ca sl 4 804 [(0, .ref b), (1, .ref (Y.2.1 100)), (2, .ref (Y.2.1 0)), (3, .int i)] [] := by
  obtain ⟨r, hC1, hM1, e1, e2, hR⟩ := hs (xs (ix (i + 1))) (xs (ix (i + 2))) (xs (ix (i + 3))) (xs (ix (i + 4))) hC hM hR
  refine w_aload_n (pc := 804) 1 X.1 dL_law_804 rfl ?_
  refine w_aload_n (pc := 805) 0 X.1 dL_law_805 rfl ?_
  refine w_iload_n (pc := 806) 3 X.1 dL_law_806 rfl ?_
  refine w_iconst (pc := 807) 1 X.1 dL_law_807 rfl ?_
  refine w_iadd (pc := 808) X.1 dL_law_808 ?_
  refine wl_sld (pc := 809) X dL_law_809 (hin 1 (by decide)) ?_
  refine w_aload_n (pc := 810) 0 X.1 dL_law_810 rfl ?_
  refine w_iload_n (pc := 811) 3 X.1 dL_law_811 rfl ?_
  refine w_iconst (pc := 812) 2 X.1 dL_law_812 rfl ?_
  refine w_iadd (pc := 813) X.1 dL_law_813 ?_
  refine wl_sld (pc := 814) X dL_law_814 (hin 2 (by decide)) ?_
  refine w_aload_n (pc := 815) 0 X.1 dL_law_815 rfl ?_
  refine w_iload_n (pc := 816) 3 X.1 dL_law_816 rfl ?_
  refine w_iconst (pc := 817) 3 X.1 dL_law_817 rfl ?_
  refine w_iadd (pc := 818) X.1 dL_law_818 ?_
  refine wl_sld (pc := 819) X dL_law_819 (hin 3 (by decide)) ?_
  refine w_aload_n (pc := 820) 0 X.1 dL_law_820 rfl ?_
  refine w_iload_n (pc := 821) 3 X.1 dL_law_821 rfl ?_
  refine w_iconst (pc := 822) 4 X.1 dL_law_822 rfl ?_
  refine w_iadd (pc := 823) X.1 dL_law_823 ?_
  refine wl_sld (pc := 824) X dL_law_824 (hin 4 (by decide)) ?_
  refine wl_call (pc := 825) (As := [.int (xs (ix (i + 1))), .int (xs (ix (i + 2))), .int (xs (ix (i + 3))), .int (xs (ix (i + 4)))]) (rest := []) X shsC_nd X.2.2.1.1 (fun a h1 h2 => X.2.2.1.2.2 a h2 h1) X.2.2.2.1.1 dL_law_825 ml_L_90 ck_X11_run cv_X11_run sh_100 rfl (Nat.le_of_ble_eq_true rfl) hcs rfl (Nat.le_of_ble_eq_true rfl) rfl (tX11_run (ZO Y shsC) (xs (ix (i + 1))) (xs (ix (i + 2))) (xs (ix (i + 3))) (xs (ix (i + 4))) (fun _ h => h) hC _ _ e1) ?_
  refine w_aload_n (pc := 828) 2 X.1 dL_law_828 rfl ?_
  refine w_aload_n (pc := 829) 0 X.1 dL_law_829 rfl ?_
  refine w_iload_n (pc := 830) 3 X.1 dL_law_830 rfl ?_
  refine w_iconst (pc := 831) 1 X.1 dL_law_831 rfl ?_
  refine w_iadd (pc := 832) X.1 dL_law_832 ?_
  refine wl_sld (pc := 833) X dL_law_833 (hin 1 (by decide)) ?_
  refine w_aload_n (pc := 834) 0 X.1 dL_law_834 rfl ?_
  refine w_iload_n (pc := 835) 3 X.1 dL_law_835 rfl ?_
  refine w_iconst (pc := 836) 2 X.1 dL_law_836 rfl ?_
  refine w_iadd (pc := 837) X.1 dL_law_837 ?_
  refine wl_sld (pc := 838) X dL_law_838 (hin 2 (by decide)) ?_
  refine w_aload_n (pc := 839) 0 X.1 dL_law_839 rfl ?_
  refine w_iload_n (pc := 840) 3 X.1 dL_law_840 rfl ?_
  refine w_iconst (pc := 841) 3 X.1 dL_law_841 rfl ?_
  refine w_iadd (pc := 842) X.1 dL_law_842 ?_
  refine wl_sld (pc := 843) X dL_law_843 (hin 3 (by decide)) ?_
  refine w_aload_n (pc := 844) 0 X.1 dL_law_844 rfl ?_
  refine w_iload_n (pc := 845) 3 X.1 dL_law_845 rfl ?_
  refine w_iconst (pc := 846) 4 X.1 dL_law_846 rfl ?_
  refine w_iadd (pc := 847) X.1 dL_law_847 ?_
  refine wl_sld (pc := 848) X dL_law_848 (hin 4 (by decide)) ?_
  refine w_imp (fun H h => ⟨h.2, h.1⟩) (Wq := W2 Y shsM shsC hM hC1) ?_
  refine wl_call (pc := 849) (As := [.int (xs (ix (i + 1))), .int (xs (ix (i + 2))), .int (xs (ix (i + 3))), .int (xs (ix (i + 4)))]) (rest := [.int r]) X shsM_nd X.2.2.1.2.1 X.2.2.1.2.2 X.2.2.2.1.2 dL_law_849 ml_L_94 ck_X12_run cv_X12_run sh_0 rfl (Nat.le_of_ble_eq_true rfl) hcs rfl (Nat.le_of_ble_eq_true rfl) rfl (tX12_run (ZO Y shsM) (xs (ix (i + 1))) (xs (ix (i + 2))) (xs (ix (i + 3))) (xs (ix (i + 4))) (fun _ h => h) hM _ _ e2) ?_
  refine w_imp (fun H h => ⟨h.2, h.1⟩) (Wq := W2 Y shsC shsM hC1 hM1) ?_
  refine w_icmp_eq (pc := 852) 1701 X.1 dL_law_852 rfl (fun _ => ?_) (fun c => absurd rfl c)
  exact kk hC1 hM1 hR
set_option maxRecDepth 20000 in
theorem law_opened {Y : QT} {G : GT} {b L : Nat} {xs : Nat → Int32} {ca sl : Nat} {Rel : Hp → Hp → Prop} (X : CL Y G b L xs) (hcs : ca ≤ 600000 ∧ sl ≤ 7302250) (hs : Sim_opened Rel) (i : Int32) (hin : ∀ k : Nat, k < 6 → inb (i + Int32.ofNat k) L = true) (hC hM : Hp) (hR : Rel hC hM) (kk : ∀ hC hM, Rel hC hM → JW (W2 Y shsC shsM hC hM) Y.1 G ca sl 4 1701 [(0, .ref b), (1, .ref (Y.2.1 100)), (2, .ref (Y.2.1 0)), (3, .int i)] []) : JW (W2 Y shsC shsM hC hM) Y.1 G ca sl 4 857 [(0, .ref b), (1, .ref (Y.2.1 100)), (2, .ref (Y.2.1 0)), (3, .int i)] [] := by
  obtain ⟨r, hC1, hM1, e1, e2, hR⟩ := hs (xs (ix (i + 1))) (xs (ix (i + 2))) (xs (ix (i + 3))) hC hM hR
  refine w_aload_n (pc := 857) 1 X.1 dL_law_857 rfl ?_
  refine w_aload_n (pc := 858) 0 X.1 dL_law_858 rfl ?_
  refine w_iload_n (pc := 859) 3 X.1 dL_law_859 rfl ?_
  refine w_iconst (pc := 860) 1 X.1 dL_law_860 rfl ?_
  refine w_iadd (pc := 861) X.1 dL_law_861 ?_
  refine wl_sld (pc := 862) X dL_law_862 (hin 1 (by decide)) ?_
  refine w_aload_n (pc := 863) 0 X.1 dL_law_863 rfl ?_
  refine w_iload_n (pc := 864) 3 X.1 dL_law_864 rfl ?_
  refine w_iconst (pc := 865) 2 X.1 dL_law_865 rfl ?_
  refine w_iadd (pc := 866) X.1 dL_law_866 ?_
  refine wl_sld (pc := 867) X dL_law_867 (hin 2 (by decide)) ?_
  refine w_aload_n (pc := 868) 0 X.1 dL_law_868 rfl ?_
  refine w_iload_n (pc := 869) 3 X.1 dL_law_869 rfl ?_
  refine w_iconst (pc := 870) 3 X.1 dL_law_870 rfl ?_
  refine w_iadd (pc := 871) X.1 dL_law_871 ?_
  refine wl_sld (pc := 872) X dL_law_872 (hin 3 (by decide)) ?_
  refine wl_call (pc := 873) (As := [.int (xs (ix (i + 1))), .int (xs (ix (i + 2))), .int (xs (ix (i + 3)))]) (rest := []) X shsC_nd X.2.2.1.1 (fun a h1 h2 => X.2.2.1.2.2 a h2 h1) X.2.2.2.1.1 dL_law_873 ml_L_95 ck_X11_opened cv_X11_opened sh_100 rfl (Nat.le_of_ble_eq_true rfl) hcs rfl (Nat.le_of_ble_eq_true rfl) rfl (tX11_opened (ZO Y shsC) (xs (ix (i + 1))) (xs (ix (i + 2))) (xs (ix (i + 3))) (fun _ h => h) hC _ _ e1) ?_
  refine w_aload_n (pc := 876) 2 X.1 dL_law_876 rfl ?_
  refine w_aload_n (pc := 877) 0 X.1 dL_law_877 rfl ?_
  refine w_iload_n (pc := 878) 3 X.1 dL_law_878 rfl ?_
  refine w_iconst (pc := 879) 1 X.1 dL_law_879 rfl ?_
  refine w_iadd (pc := 880) X.1 dL_law_880 ?_
  refine wl_sld (pc := 881) X dL_law_881 (hin 1 (by decide)) ?_
  refine w_aload_n (pc := 882) 0 X.1 dL_law_882 rfl ?_
  refine w_iload_n (pc := 883) 3 X.1 dL_law_883 rfl ?_
  refine w_iconst (pc := 884) 2 X.1 dL_law_884 rfl ?_
  refine w_iadd (pc := 885) X.1 dL_law_885 ?_
  refine wl_sld (pc := 886) X dL_law_886 (hin 2 (by decide)) ?_
  refine w_aload_n (pc := 887) 0 X.1 dL_law_887 rfl ?_
  refine w_iload_n (pc := 888) 3 X.1 dL_law_888 rfl ?_
  refine w_iconst (pc := 889) 3 X.1 dL_law_889 rfl ?_
  refine w_iadd (pc := 890) X.1 dL_law_890 ?_
  refine wl_sld (pc := 891) X dL_law_891 (hin 3 (by decide)) ?_
  refine w_imp (fun H h => ⟨h.2, h.1⟩) (Wq := W2 Y shsM shsC hM hC1) ?_
  refine wl_call (pc := 892) (As := [.int (xs (ix (i + 1))), .int (xs (ix (i + 2))), .int (xs (ix (i + 3)))]) (rest := [.int r]) X shsM_nd X.2.2.1.2.1 X.2.2.1.2.2 X.2.2.2.1.2 dL_law_892 ml_L_98 ck_X12_opened cv_X12_opened sh_0 rfl (Nat.le_of_ble_eq_true rfl) hcs rfl (Nat.le_of_ble_eq_true rfl) rfl (tX12_opened (ZO Y shsM) (xs (ix (i + 1))) (xs (ix (i + 2))) (xs (ix (i + 3))) (fun _ h => h) hM _ _ e2) ?_
  refine w_imp (fun H h => ⟨h.2, h.1⟩) (Wq := W2 Y shsC shsM hC1 hM1) ?_
  refine w_icmp_eq (pc := 895) 1701 X.1 dL_law_895 rfl (fun _ => ?_) (fun c => absurd rfl c)
  exact kk hC1 hM1 hR
set_option maxRecDepth 20000 in
theorem law_why {Y : QT} {G : GT} {b L : Nat} {xs : Nat → Int32} {ca sl : Nat} {Rel : Hp → Hp → Prop} (X : CL Y G b L xs) (hcs : ca ≤ 600000 ∧ sl ≤ 7302250) (hs : Sim_why Rel) (i : Int32) (hin : ∀ k : Nat, k < 6 → inb (i + Int32.ofNat k) L = true) (hC hM : Hp) (hR : Rel hC hM) (kk : ∀ hC hM, Rel hC hM → JW (W2 Y shsC shsM hC hM) Y.1 G ca sl 4 1701 [(0, .ref b), (1, .ref (Y.2.1 100)), (2, .ref (Y.2.1 0)), (3, .int i)] []) : JW (W2 Y shsC shsM hC hM) Y.1 G ca sl 4 900 [(0, .ref b), (1, .ref (Y.2.1 100)), (2, .ref (Y.2.1 0)), (3, .int i)] [] := by
  obtain ⟨r, hC1, hM1, e1, e2, hR⟩ := hs (xs (ix (i + 1))) (xs (ix (i + 2))) (xs (ix (i + 3))) hC hM hR
  refine w_aload_n (pc := 900) 1 X.1 dL_law_900 rfl ?_
  refine w_aload_n (pc := 901) 0 X.1 dL_law_901 rfl ?_
  refine w_iload_n (pc := 902) 3 X.1 dL_law_902 rfl ?_
  refine w_iconst (pc := 903) 1 X.1 dL_law_903 rfl ?_
  refine w_iadd (pc := 904) X.1 dL_law_904 ?_
  refine wl_sld (pc := 905) X dL_law_905 (hin 1 (by decide)) ?_
  refine w_aload_n (pc := 906) 0 X.1 dL_law_906 rfl ?_
  refine w_iload_n (pc := 907) 3 X.1 dL_law_907 rfl ?_
  refine w_iconst (pc := 908) 2 X.1 dL_law_908 rfl ?_
  refine w_iadd (pc := 909) X.1 dL_law_909 ?_
  refine wl_sld (pc := 910) X dL_law_910 (hin 2 (by decide)) ?_
  refine w_aload_n (pc := 911) 0 X.1 dL_law_911 rfl ?_
  refine w_iload_n (pc := 912) 3 X.1 dL_law_912 rfl ?_
  refine w_iconst (pc := 913) 3 X.1 dL_law_913 rfl ?_
  refine w_iadd (pc := 914) X.1 dL_law_914 ?_
  refine wl_sld (pc := 915) X dL_law_915 (hin 3 (by decide)) ?_
  refine wl_call (pc := 916) (As := [.int (xs (ix (i + 1))), .int (xs (ix (i + 2))), .int (xs (ix (i + 3)))]) (rest := []) X shsC_nd X.2.2.1.1 (fun a h1 h2 => X.2.2.1.2.2 a h2 h1) X.2.2.2.1.1 dL_law_916 ml_L_99 ck_X11_why cv_X11_why sh_100 rfl (Nat.le_of_ble_eq_true rfl) hcs rfl (Nat.le_of_ble_eq_true rfl) rfl (tX11_why (ZO Y shsC) (xs (ix (i + 1))) (xs (ix (i + 2))) (xs (ix (i + 3))) (fun _ h => h) hC _ _ e1) ?_
  refine w_aload_n (pc := 919) 2 X.1 dL_law_919 rfl ?_
  refine w_aload_n (pc := 920) 0 X.1 dL_law_920 rfl ?_
  refine w_iload_n (pc := 921) 3 X.1 dL_law_921 rfl ?_
  refine w_iconst (pc := 922) 1 X.1 dL_law_922 rfl ?_
  refine w_iadd (pc := 923) X.1 dL_law_923 ?_
  refine wl_sld (pc := 924) X dL_law_924 (hin 1 (by decide)) ?_
  refine w_aload_n (pc := 925) 0 X.1 dL_law_925 rfl ?_
  refine w_iload_n (pc := 926) 3 X.1 dL_law_926 rfl ?_
  refine w_iconst (pc := 927) 2 X.1 dL_law_927 rfl ?_
  refine w_iadd (pc := 928) X.1 dL_law_928 ?_
  refine wl_sld (pc := 929) X dL_law_929 (hin 2 (by decide)) ?_
  refine w_aload_n (pc := 930) 0 X.1 dL_law_930 rfl ?_
  refine w_iload_n (pc := 931) 3 X.1 dL_law_931 rfl ?_
  refine w_iconst (pc := 932) 3 X.1 dL_law_932 rfl ?_
  refine w_iadd (pc := 933) X.1 dL_law_933 ?_
  refine wl_sld (pc := 934) X dL_law_934 (hin 3 (by decide)) ?_
  refine w_imp (fun H h => ⟨h.2, h.1⟩) (Wq := W2 Y shsM shsC hM hC1) ?_
  refine wl_call (pc := 935) (As := [.int (xs (ix (i + 1))), .int (xs (ix (i + 2))), .int (xs (ix (i + 3)))]) (rest := [.int r]) X shsM_nd X.2.2.1.2.1 X.2.2.1.2.2 X.2.2.2.1.2 dL_law_935 ml_L_102 ck_X12_why cv_X12_why sh_0 rfl (Nat.le_of_ble_eq_true rfl) hcs rfl (Nat.le_of_ble_eq_true rfl) rfl (tX12_why (ZO Y shsM) (xs (ix (i + 1))) (xs (ix (i + 2))) (xs (ix (i + 3))) (fun _ h => h) hM _ _ e2) ?_
  refine w_imp (fun H h => ⟨h.2, h.1⟩) (Wq := W2 Y shsC shsM hC1 hM1) ?_
  refine w_icmp_eq (pc := 938) 1701 X.1 dL_law_938 rfl (fun _ => ?_) (fun c => absurd rfl c)
  exact kk hC1 hM1 hR
set_option maxRecDepth 20000 in
theorem law_harm {Y : QT} {G : GT} {b L : Nat} {xs : Nat → Int32} {ca sl : Nat} {Rel : Hp → Hp → Prop} (X : CL Y G b L xs) (hcs : ca ≤ 600000 ∧ sl ≤ 7302250) (hs : Sim_harm Rel) (i : Int32) (hin : ∀ k : Nat, k < 6 → inb (i + Int32.ofNat k) L = true) (hC hM : Hp) (hR : Rel hC hM) (kk : ∀ hC hM, Rel hC hM → JW (W2 Y shsC shsM hC hM) Y.1 G ca sl 4 1701 [(0, .ref b), (1, .ref (Y.2.1 100)), (2, .ref (Y.2.1 0)), (3, .int i)] []) : JW (W2 Y shsC shsM hC hM) Y.1 G ca sl 4 943 [(0, .ref b), (1, .ref (Y.2.1 100)), (2, .ref (Y.2.1 0)), (3, .int i)] [] := by
  obtain ⟨r, hC1, hM1, e1, e2, hR⟩ := hs (xs (ix (i + 1))) hC hM hR
  refine w_aload_n (pc := 943) 1 X.1 dL_law_943 rfl ?_
  refine w_aload_n (pc := 944) 0 X.1 dL_law_944 rfl ?_
  refine w_iload_n (pc := 945) 3 X.1 dL_law_945 rfl ?_
  refine w_iconst (pc := 946) 1 X.1 dL_law_946 rfl ?_
  refine w_iadd (pc := 947) X.1 dL_law_947 ?_
  refine wl_sld (pc := 948) X dL_law_948 (hin 1 (by decide)) ?_
  refine wl_call (pc := 949) (As := [.int (xs (ix (i + 1)))]) (rest := []) X shsC_nd X.2.2.1.1 (fun a h1 h2 => X.2.2.1.2.2 a h2 h1) X.2.2.2.1.1 dL_law_949 ml_L_103 ck_X11_harm cv_X11_harm sh_100 rfl (Nat.le_of_ble_eq_true rfl) hcs rfl (Nat.le_of_ble_eq_true rfl) rfl (tX11_harm (ZO Y shsC) (xs (ix (i + 1))) (fun _ h => h) hC _ _ e1) ?_
  refine w_aload_n (pc := 952) 2 X.1 dL_law_952 rfl ?_
  refine w_aload_n (pc := 953) 0 X.1 dL_law_953 rfl ?_
  refine w_iload_n (pc := 954) 3 X.1 dL_law_954 rfl ?_
  refine w_iconst (pc := 955) 1 X.1 dL_law_955 rfl ?_
  refine w_iadd (pc := 956) X.1 dL_law_956 ?_
  refine wl_sld (pc := 957) X dL_law_957 (hin 1 (by decide)) ?_
  refine w_imp (fun H h => ⟨h.2, h.1⟩) (Wq := W2 Y shsM shsC hM hC1) ?_
  refine wl_call (pc := 958) (As := [.int (xs (ix (i + 1)))]) (rest := [.int r]) X shsM_nd X.2.2.1.2.1 X.2.2.1.2.2 X.2.2.2.1.2 dL_law_958 ml_L_106 ck_X12_harm cv_X12_harm sh_0 rfl (Nat.le_of_ble_eq_true rfl) hcs rfl (Nat.le_of_ble_eq_true rfl) rfl (tX12_harm (ZO Y shsM) (xs (ix (i + 1))) (fun _ h => h) hM _ _ e2) ?_
  refine w_imp (fun H h => ⟨h.2, h.1⟩) (Wq := W2 Y shsC shsM hC1 hM1) ?_
  refine w_icmp_eq (pc := 961) 1701 X.1 dL_law_961 rfl (fun _ => ?_) (fun c => absurd rfl c)
  exact kk hC1 hM1 hR
set_option maxRecDepth 20000 in
theorem law_tooSoon {Y : QT} {G : GT} {b L : Nat} {xs : Nat → Int32} {ca sl : Nat} {Rel : Hp → Hp → Prop} (X : CL Y G b L xs) (hcs : ca ≤ 600000 ∧ sl ≤ 7302250) (hs : Sim_tooSoon Rel) (i : Int32) (hin : ∀ k : Nat, k < 6 → inb (i + Int32.ofNat k) L = true) (hC hM : Hp) (hR : Rel hC hM) (kk : ∀ hC hM, Rel hC hM → JW (W2 Y shsC shsM hC hM) Y.1 G ca sl 4 1701 [(0, .ref b), (1, .ref (Y.2.1 100)), (2, .ref (Y.2.1 0)), (3, .int i)] []) : JW (W2 Y shsC shsM hC hM) Y.1 G ca sl 4 966 [(0, .ref b), (1, .ref (Y.2.1 100)), (2, .ref (Y.2.1 0)), (3, .int i)] [] := by
  obtain ⟨r, hC1, hM1, e1, e2, hR⟩ := hs (xs (ix (i + 1))) hC hM hR
  refine w_aload_n (pc := 966) 1 X.1 dL_law_966 rfl ?_
  refine w_aload_n (pc := 967) 0 X.1 dL_law_967 rfl ?_
  refine w_iload_n (pc := 968) 3 X.1 dL_law_968 rfl ?_
  refine w_iconst (pc := 969) 1 X.1 dL_law_969 rfl ?_
  refine w_iadd (pc := 970) X.1 dL_law_970 ?_
  refine wl_sld (pc := 971) X dL_law_971 (hin 1 (by decide)) ?_
  refine wl_call (pc := 972) (As := [.int (xs (ix (i + 1)))]) (rest := []) X shsC_nd X.2.2.1.1 (fun a h1 h2 => X.2.2.1.2.2 a h2 h1) X.2.2.2.1.1 dL_law_972 ml_L_107 ck_X11_tooSoon cv_X11_tooSoon sh_100 rfl (Nat.le_of_ble_eq_true rfl) hcs rfl (Nat.le_of_ble_eq_true rfl) rfl (tX11_tooSoon (ZO Y shsC) (xs (ix (i + 1))) (fun _ h => h) hC _ _ e1) ?_
  refine w_aload_n (pc := 975) 2 X.1 dL_law_975 rfl ?_
  refine w_aload_n (pc := 976) 0 X.1 dL_law_976 rfl ?_
  refine w_iload_n (pc := 977) 3 X.1 dL_law_977 rfl ?_
  refine w_iconst (pc := 978) 1 X.1 dL_law_978 rfl ?_
  refine w_iadd (pc := 979) X.1 dL_law_979 ?_
  refine wl_sld (pc := 980) X dL_law_980 (hin 1 (by decide)) ?_
  refine w_imp (fun H h => ⟨h.2, h.1⟩) (Wq := W2 Y shsM shsC hM hC1) ?_
  refine wl_call (pc := 981) (As := [.int (xs (ix (i + 1)))]) (rest := [.int r]) X shsM_nd X.2.2.1.2.1 X.2.2.1.2.2 X.2.2.2.1.2 dL_law_981 ml_L_110 ck_X12_tooSoon cv_X12_tooSoon sh_0 rfl (Nat.le_of_ble_eq_true rfl) hcs rfl (Nat.le_of_ble_eq_true rfl) rfl (tX12_tooSoon (ZO Y shsM) (xs (ix (i + 1))) (fun _ h => h) hM _ _ e2) ?_
  refine w_imp (fun H h => ⟨h.2, h.1⟩) (Wq := W2 Y shsC shsM hC1 hM1) ?_
  refine w_icmp_eq (pc := 984) 1701 X.1 dL_law_984 rfl (fun _ => ?_) (fun c => absurd rfl c)
  exact kk hC1 hM1 hR
set_option maxRecDepth 20000 in
theorem law_wrong {Y : QT} {G : GT} {b L : Nat} {xs : Nat → Int32} {ca sl : Nat} {Rel : Hp → Hp → Prop} (X : CL Y G b L xs) (hcs : ca ≤ 600000 ∧ sl ≤ 7302250) (hs : Sim_wrong Rel) (i : Int32) (hin : ∀ k : Nat, k < 6 → inb (i + Int32.ofNat k) L = true) (hC hM : Hp) (hR : Rel hC hM) (kk : ∀ hC hM, Rel hC hM → JW (W2 Y shsC shsM hC hM) Y.1 G ca sl 4 1701 [(0, .ref b), (1, .ref (Y.2.1 100)), (2, .ref (Y.2.1 0)), (3, .int i)] []) : JW (W2 Y shsC shsM hC hM) Y.1 G ca sl 4 989 [(0, .ref b), (1, .ref (Y.2.1 100)), (2, .ref (Y.2.1 0)), (3, .int i)] [] := by
  obtain ⟨r, hC1, hM1, e1, e2, hR⟩ := hs (xs (ix (i + 1))) (xs (ix (i + 2))) (xs (ix (i + 3))) hC hM hR
  refine w_aload_n (pc := 989) 1 X.1 dL_law_989 rfl ?_
  refine w_aload_n (pc := 990) 0 X.1 dL_law_990 rfl ?_
  refine w_iload_n (pc := 991) 3 X.1 dL_law_991 rfl ?_
  refine w_iconst (pc := 992) 1 X.1 dL_law_992 rfl ?_
  refine w_iadd (pc := 993) X.1 dL_law_993 ?_
  refine wl_sld (pc := 994) X dL_law_994 (hin 1 (by decide)) ?_
  refine w_aload_n (pc := 995) 0 X.1 dL_law_995 rfl ?_
  refine w_iload_n (pc := 996) 3 X.1 dL_law_996 rfl ?_
  refine w_iconst (pc := 997) 2 X.1 dL_law_997 rfl ?_
  refine w_iadd (pc := 998) X.1 dL_law_998 ?_
  refine wl_sld (pc := 999) X dL_law_999 (hin 2 (by decide)) ?_
  refine w_aload_n (pc := 1000) 0 X.1 dL_law_1000 rfl ?_
  refine w_iload_n (pc := 1001) 3 X.1 dL_law_1001 rfl ?_
  refine w_iconst (pc := 1002) 3 X.1 dL_law_1002 rfl ?_
  refine w_iadd (pc := 1003) X.1 dL_law_1003 ?_
  refine wl_sld (pc := 1004) X dL_law_1004 (hin 3 (by decide)) ?_
  refine wl_call (pc := 1005) (As := [.int (xs (ix (i + 1))), .int (xs (ix (i + 2))), .int (xs (ix (i + 3)))]) (rest := []) X shsC_nd X.2.2.1.1 (fun a h1 h2 => X.2.2.1.2.2 a h2 h1) X.2.2.2.1.1 dL_law_1005 ml_L_111 ck_X11_wrong cv_X11_wrong sh_100 rfl (Nat.le_of_ble_eq_true rfl) hcs rfl (Nat.le_of_ble_eq_true rfl) rfl (tX11_wrong (ZO Y shsC) (xs (ix (i + 1))) (xs (ix (i + 2))) (xs (ix (i + 3))) (fun _ h => h) hC _ _ e1) ?_
  refine w_aload_n (pc := 1008) 2 X.1 dL_law_1008 rfl ?_
  refine w_aload_n (pc := 1009) 0 X.1 dL_law_1009 rfl ?_
  refine w_iload_n (pc := 1010) 3 X.1 dL_law_1010 rfl ?_
  refine w_iconst (pc := 1011) 1 X.1 dL_law_1011 rfl ?_
  refine w_iadd (pc := 1012) X.1 dL_law_1012 ?_
  refine wl_sld (pc := 1013) X dL_law_1013 (hin 1 (by decide)) ?_
  refine w_aload_n (pc := 1014) 0 X.1 dL_law_1014 rfl ?_
  refine w_iload_n (pc := 1015) 3 X.1 dL_law_1015 rfl ?_
  refine w_iconst (pc := 1016) 2 X.1 dL_law_1016 rfl ?_
  refine w_iadd (pc := 1017) X.1 dL_law_1017 ?_
  refine wl_sld (pc := 1018) X dL_law_1018 (hin 2 (by decide)) ?_
  refine w_aload_n (pc := 1019) 0 X.1 dL_law_1019 rfl ?_
  refine w_iload_n (pc := 1020) 3 X.1 dL_law_1020 rfl ?_
  refine w_iconst (pc := 1021) 3 X.1 dL_law_1021 rfl ?_
  refine w_iadd (pc := 1022) X.1 dL_law_1022 ?_
  refine wl_sld (pc := 1023) X dL_law_1023 (hin 3 (by decide)) ?_
  refine w_imp (fun H h => ⟨h.2, h.1⟩) (Wq := W2 Y shsM shsC hM hC1) ?_
  refine wl_call (pc := 1024) (As := [.int (xs (ix (i + 1))), .int (xs (ix (i + 2))), .int (xs (ix (i + 3)))]) (rest := [.int r]) X shsM_nd X.2.2.1.2.1 X.2.2.1.2.2 X.2.2.2.1.2 dL_law_1024 ml_L_114 ck_X12_wrong cv_X12_wrong sh_0 rfl (Nat.le_of_ble_eq_true rfl) hcs rfl (Nat.le_of_ble_eq_true rfl) rfl (tX12_wrong (ZO Y shsM) (xs (ix (i + 1))) (xs (ix (i + 2))) (xs (ix (i + 3))) (fun _ h => h) hM _ _ e2) ?_
  refine w_imp (fun H h => ⟨h.2, h.1⟩) (Wq := W2 Y shsC shsM hC1 hM1) ?_
  refine w_icmp_eq (pc := 1027) 1701 X.1 dL_law_1027 rfl (fun _ => ?_) (fun c => absurd rfl c)
  exact kk hC1 hM1 hR
set_option maxRecDepth 20000 in
theorem law_late {Y : QT} {G : GT} {b L : Nat} {xs : Nat → Int32} {ca sl : Nat} {Rel : Hp → Hp → Prop} (X : CL Y G b L xs) (hcs : ca ≤ 600000 ∧ sl ≤ 7302250) (hs : Sim_late Rel) (i : Int32) (hin : ∀ k : Nat, k < 6 → inb (i + Int32.ofNat k) L = true) (hC hM : Hp) (hR : Rel hC hM) (kk : ∀ hC hM, Rel hC hM → JW (W2 Y shsC shsM hC hM) Y.1 G ca sl 4 1701 [(0, .ref b), (1, .ref (Y.2.1 100)), (2, .ref (Y.2.1 0)), (3, .int i)] []) : JW (W2 Y shsC shsM hC hM) Y.1 G ca sl 4 1032 [(0, .ref b), (1, .ref (Y.2.1 100)), (2, .ref (Y.2.1 0)), (3, .int i)] [] := by
  obtain ⟨r, hC1, hM1, e1, e2, hR⟩ := hs (xs (ix (i + 1))) (xs (ix (i + 2))) (xs (ix (i + 3))) hC hM hR
  refine w_aload_n (pc := 1032) 1 X.1 dL_law_1032 rfl ?_
  refine w_aload_n (pc := 1033) 0 X.1 dL_law_1033 rfl ?_
  refine w_iload_n (pc := 1034) 3 X.1 dL_law_1034 rfl ?_
  refine w_iconst (pc := 1035) 1 X.1 dL_law_1035 rfl ?_
  refine w_iadd (pc := 1036) X.1 dL_law_1036 ?_
  refine wl_sld (pc := 1037) X dL_law_1037 (hin 1 (by decide)) ?_
  refine w_aload_n (pc := 1038) 0 X.1 dL_law_1038 rfl ?_
  refine w_iload_n (pc := 1039) 3 X.1 dL_law_1039 rfl ?_
  refine w_iconst (pc := 1040) 2 X.1 dL_law_1040 rfl ?_
  refine w_iadd (pc := 1041) X.1 dL_law_1041 ?_
  refine wl_sld (pc := 1042) X dL_law_1042 (hin 2 (by decide)) ?_
  refine w_aload_n (pc := 1043) 0 X.1 dL_law_1043 rfl ?_
  refine w_iload_n (pc := 1044) 3 X.1 dL_law_1044 rfl ?_
  refine w_iconst (pc := 1045) 3 X.1 dL_law_1045 rfl ?_
  refine w_iadd (pc := 1046) X.1 dL_law_1046 ?_
  refine wl_sld (pc := 1047) X dL_law_1047 (hin 3 (by decide)) ?_
  refine wl_call (pc := 1048) (As := [.int (xs (ix (i + 1))), .int (xs (ix (i + 2))), .int (xs (ix (i + 3)))]) (rest := []) X shsC_nd X.2.2.1.1 (fun a h1 h2 => X.2.2.1.2.2 a h2 h1) X.2.2.2.1.1 dL_law_1048 ml_L_115 ck_X11_late cv_X11_late sh_100 rfl (Nat.le_of_ble_eq_true rfl) hcs rfl (Nat.le_of_ble_eq_true rfl) rfl (tX11_late (ZO Y shsC) (xs (ix (i + 1))) (xs (ix (i + 2))) (xs (ix (i + 3))) (fun _ h => h) hC _ _ e1) ?_
  refine w_aload_n (pc := 1051) 2 X.1 dL_law_1051 rfl ?_
  refine w_aload_n (pc := 1052) 0 X.1 dL_law_1052 rfl ?_
  refine w_iload_n (pc := 1053) 3 X.1 dL_law_1053 rfl ?_
  refine w_iconst (pc := 1054) 1 X.1 dL_law_1054 rfl ?_
  refine w_iadd (pc := 1055) X.1 dL_law_1055 ?_
  refine wl_sld (pc := 1056) X dL_law_1056 (hin 1 (by decide)) ?_
  refine w_aload_n (pc := 1057) 0 X.1 dL_law_1057 rfl ?_
  refine w_iload_n (pc := 1058) 3 X.1 dL_law_1058 rfl ?_
  refine w_iconst (pc := 1059) 2 X.1 dL_law_1059 rfl ?_
  refine w_iadd (pc := 1060) X.1 dL_law_1060 ?_
  refine wl_sld (pc := 1061) X dL_law_1061 (hin 2 (by decide)) ?_
  refine w_aload_n (pc := 1062) 0 X.1 dL_law_1062 rfl ?_
  refine w_iload_n (pc := 1063) 3 X.1 dL_law_1063 rfl ?_
  refine w_iconst (pc := 1064) 3 X.1 dL_law_1064 rfl ?_
  refine w_iadd (pc := 1065) X.1 dL_law_1065 ?_
  refine wl_sld (pc := 1066) X dL_law_1066 (hin 3 (by decide)) ?_
  refine w_imp (fun H h => ⟨h.2, h.1⟩) (Wq := W2 Y shsM shsC hM hC1) ?_
  refine wl_call (pc := 1067) (As := [.int (xs (ix (i + 1))), .int (xs (ix (i + 2))), .int (xs (ix (i + 3)))]) (rest := [.int r]) X shsM_nd X.2.2.1.2.1 X.2.2.1.2.2 X.2.2.2.1.2 dL_law_1067 ml_L_118 ck_X12_late cv_X12_late sh_0 rfl (Nat.le_of_ble_eq_true rfl) hcs rfl (Nat.le_of_ble_eq_true rfl) rfl (tX12_late (ZO Y shsM) (xs (ix (i + 1))) (xs (ix (i + 2))) (xs (ix (i + 3))) (fun _ h => h) hM _ _ e2) ?_
  refine w_imp (fun H h => ⟨h.2, h.1⟩) (Wq := W2 Y shsC shsM hC1 hM1) ?_
  refine w_icmp_eq (pc := 1070) 1701 X.1 dL_law_1070 rfl (fun _ => ?_) (fun c => absurd rfl c)
  exact kk hC1 hM1 hR
set_option maxRecDepth 20000 in
theorem law_watch {Y : QT} {G : GT} {b L : Nat} {xs : Nat → Int32} {ca sl : Nat} {Rel : Hp → Hp → Prop} (X : CL Y G b L xs) (hcs : ca ≤ 600000 ∧ sl ≤ 7302250) (hs : Sim_watch Rel) (i : Int32) (hin : ∀ k : Nat, k < 6 → inb (i + Int32.ofNat k) L = true) (hC hM : Hp) (hR : Rel hC hM) (kk : ∀ hC hM, Rel hC hM → JW (W2 Y shsC shsM hC hM) Y.1 G ca sl 4 1701 [(0, .ref b), (1, .ref (Y.2.1 100)), (2, .ref (Y.2.1 0)), (3, .int i)] []) : JW (W2 Y shsC shsM hC hM) Y.1 G ca sl 4 1075 [(0, .ref b), (1, .ref (Y.2.1 100)), (2, .ref (Y.2.1 0)), (3, .int i)] [] := by
  obtain ⟨r, hC1, hM1, e1, e2, hR⟩ := hs (xs (ix (i + 1))) (xs (ix (i + 2))) hC hM hR
  refine w_aload_n (pc := 1075) 1 X.1 dL_law_1075 rfl ?_
  refine w_aload_n (pc := 1076) 0 X.1 dL_law_1076 rfl ?_
  refine w_iload_n (pc := 1077) 3 X.1 dL_law_1077 rfl ?_
  refine w_iconst (pc := 1078) 1 X.1 dL_law_1078 rfl ?_
  refine w_iadd (pc := 1079) X.1 dL_law_1079 ?_
  refine wl_sld (pc := 1080) X dL_law_1080 (hin 1 (by decide)) ?_
  refine w_aload_n (pc := 1081) 0 X.1 dL_law_1081 rfl ?_
  refine w_iload_n (pc := 1082) 3 X.1 dL_law_1082 rfl ?_
  refine w_iconst (pc := 1083) 2 X.1 dL_law_1083 rfl ?_
  refine w_iadd (pc := 1084) X.1 dL_law_1084 ?_
  refine wl_sld (pc := 1085) X dL_law_1085 (hin 2 (by decide)) ?_
  refine wl_call (pc := 1086) (As := [.int (xs (ix (i + 1))), .int (xs (ix (i + 2)))]) (rest := []) X shsC_nd X.2.2.1.1 (fun a h1 h2 => X.2.2.1.2.2 a h2 h1) X.2.2.2.1.1 dL_law_1086 ml_L_119 ck_X11_watch cv_X11_watch sh_100 rfl (Nat.le_of_ble_eq_true rfl) hcs rfl (Nat.le_of_ble_eq_true rfl) rfl (tX11_watch (ZO Y shsC) (xs (ix (i + 1))) (xs (ix (i + 2))) (fun _ h => h) hC _ _ e1) ?_
  refine w_aload_n (pc := 1089) 2 X.1 dL_law_1089 rfl ?_
  refine w_aload_n (pc := 1090) 0 X.1 dL_law_1090 rfl ?_
  refine w_iload_n (pc := 1091) 3 X.1 dL_law_1091 rfl ?_
  refine w_iconst (pc := 1092) 1 X.1 dL_law_1092 rfl ?_
  refine w_iadd (pc := 1093) X.1 dL_law_1093 ?_
  refine wl_sld (pc := 1094) X dL_law_1094 (hin 1 (by decide)) ?_
  refine w_aload_n (pc := 1095) 0 X.1 dL_law_1095 rfl ?_
  refine w_iload_n (pc := 1096) 3 X.1 dL_law_1096 rfl ?_
  refine w_iconst (pc := 1097) 2 X.1 dL_law_1097 rfl ?_
  refine w_iadd (pc := 1098) X.1 dL_law_1098 ?_
  refine wl_sld (pc := 1099) X dL_law_1099 (hin 2 (by decide)) ?_
  refine w_imp (fun H h => ⟨h.2, h.1⟩) (Wq := W2 Y shsM shsC hM hC1) ?_
  refine wl_call (pc := 1100) (As := [.int (xs (ix (i + 1))), .int (xs (ix (i + 2)))]) (rest := [.int r]) X shsM_nd X.2.2.1.2.1 X.2.2.1.2.2 X.2.2.2.1.2 dL_law_1100 ml_L_122 ck_X12_watch cv_X12_watch sh_0 rfl (Nat.le_of_ble_eq_true rfl) hcs rfl (Nat.le_of_ble_eq_true rfl) rfl (tX12_watch (ZO Y shsM) (xs (ix (i + 1))) (xs (ix (i + 2))) (fun _ h => h) hM _ _ e2) ?_
  refine w_imp (fun H h => ⟨h.2, h.1⟩) (Wq := W2 Y shsC shsM hC1 hM1) ?_
  refine w_icmp_eq (pc := 1103) 1701 X.1 dL_law_1103 rfl (fun _ => ?_) (fun c => absurd rfl c)
  exact kk hC1 hM1 hR
set_option maxRecDepth 20000 in
theorem law_gain {Y : QT} {G : GT} {b L : Nat} {xs : Nat → Int32} {ca sl : Nat} {Rel : Hp → Hp → Prop} (X : CL Y G b L xs) (hcs : ca ≤ 600000 ∧ sl ≤ 7302250) (hs : Sim_gain Rel) (i : Int32) (hin : ∀ k : Nat, k < 6 → inb (i + Int32.ofNat k) L = true) (hC hM : Hp) (hR : Rel hC hM) (kk : ∀ hC hM, Rel hC hM → JW (W2 Y shsC shsM hC hM) Y.1 G ca sl 4 1701 [(0, .ref b), (1, .ref (Y.2.1 100)), (2, .ref (Y.2.1 0)), (3, .int i)] []) : JW (W2 Y shsC shsM hC hM) Y.1 G ca sl 4 1108 [(0, .ref b), (1, .ref (Y.2.1 100)), (2, .ref (Y.2.1 0)), (3, .int i)] [] := by
  obtain ⟨r, hC1, hM1, e1, e2, hR⟩ := hs (xs (ix (i + 1))) (xs (ix (i + 2))) hC hM hR
  refine w_aload_n (pc := 1108) 1 X.1 dL_law_1108 rfl ?_
  refine w_aload_n (pc := 1109) 0 X.1 dL_law_1109 rfl ?_
  refine w_iload_n (pc := 1110) 3 X.1 dL_law_1110 rfl ?_
  refine w_iconst (pc := 1111) 1 X.1 dL_law_1111 rfl ?_
  refine w_iadd (pc := 1112) X.1 dL_law_1112 ?_
  refine wl_sld (pc := 1113) X dL_law_1113 (hin 1 (by decide)) ?_
  refine w_aload_n (pc := 1114) 0 X.1 dL_law_1114 rfl ?_
  refine w_iload_n (pc := 1115) 3 X.1 dL_law_1115 rfl ?_
  refine w_iconst (pc := 1116) 2 X.1 dL_law_1116 rfl ?_
  refine w_iadd (pc := 1117) X.1 dL_law_1117 ?_
  refine wl_sld (pc := 1118) X dL_law_1118 (hin 2 (by decide)) ?_
  refine wl_call (pc := 1119) (As := [.int (xs (ix (i + 1))), .int (xs (ix (i + 2)))]) (rest := []) X shsC_nd X.2.2.1.1 (fun a h1 h2 => X.2.2.1.2.2 a h2 h1) X.2.2.2.1.1 dL_law_1119 ml_L_123 ck_X11_gain cv_X11_gain sh_100 rfl (Nat.le_of_ble_eq_true rfl) hcs rfl (Nat.le_of_ble_eq_true rfl) rfl (tX11_gain (ZO Y shsC) (xs (ix (i + 1))) (xs (ix (i + 2))) (fun _ h => h) hC _ _ e1) ?_
  refine w_aload_n (pc := 1122) 2 X.1 dL_law_1122 rfl ?_
  refine w_aload_n (pc := 1123) 0 X.1 dL_law_1123 rfl ?_
  refine w_iload_n (pc := 1124) 3 X.1 dL_law_1124 rfl ?_
  refine w_iconst (pc := 1125) 1 X.1 dL_law_1125 rfl ?_
  refine w_iadd (pc := 1126) X.1 dL_law_1126 ?_
  refine wl_sld (pc := 1127) X dL_law_1127 (hin 1 (by decide)) ?_
  refine w_aload_n (pc := 1128) 0 X.1 dL_law_1128 rfl ?_
  refine w_iload_n (pc := 1129) 3 X.1 dL_law_1129 rfl ?_
  refine w_iconst (pc := 1130) 2 X.1 dL_law_1130 rfl ?_
  refine w_iadd (pc := 1131) X.1 dL_law_1131 ?_
  refine wl_sld (pc := 1132) X dL_law_1132 (hin 2 (by decide)) ?_
  refine w_imp (fun H h => ⟨h.2, h.1⟩) (Wq := W2 Y shsM shsC hM hC1) ?_
  refine wl_call (pc := 1133) (As := [.int (xs (ix (i + 1))), .int (xs (ix (i + 2)))]) (rest := [.int r]) X shsM_nd X.2.2.1.2.1 X.2.2.1.2.2 X.2.2.2.1.2 dL_law_1133 ml_L_126 ck_X12_gain cv_X12_gain sh_0 rfl (Nat.le_of_ble_eq_true rfl) hcs rfl (Nat.le_of_ble_eq_true rfl) rfl (tX12_gain (ZO Y shsM) (xs (ix (i + 1))) (xs (ix (i + 2))) (fun _ h => h) hM _ _ e2) ?_
  refine w_imp (fun H h => ⟨h.2, h.1⟩) (Wq := W2 Y shsC shsM hC1 hM1) ?_
  refine w_icmp_eq (pc := 1136) 1701 X.1 dL_law_1136 rfl (fun _ => ?_) (fun c => absurd rfl c)
  exact kk hC1 hM1 hR
set_option maxRecDepth 20000 in
theorem law_income {Y : QT} {G : GT} {b L : Nat} {xs : Nat → Int32} {ca sl : Nat} {Rel : Hp → Hp → Prop} (X : CL Y G b L xs) (hcs : ca ≤ 600000 ∧ sl ≤ 7302250) (hs : Sim_income Rel) (i : Int32) (hin : ∀ k : Nat, k < 6 → inb (i + Int32.ofNat k) L = true) (hC hM : Hp) (hR : Rel hC hM) (kk : ∀ hC hM, Rel hC hM → JW (W2 Y shsC shsM hC hM) Y.1 G ca sl 4 1701 [(0, .ref b), (1, .ref (Y.2.1 100)), (2, .ref (Y.2.1 0)), (3, .int i)] []) : JW (W2 Y shsC shsM hC hM) Y.1 G ca sl 4 1141 [(0, .ref b), (1, .ref (Y.2.1 100)), (2, .ref (Y.2.1 0)), (3, .int i)] [] := by
  obtain ⟨r, hC1, hM1, e1, e2, hR⟩ := hs (xs (ix (i + 1))) (xs (ix (i + 2))) (xs (ix (i + 3))) hC hM hR
  refine w_aload_n (pc := 1141) 1 X.1 dL_law_1141 rfl ?_
  refine w_aload_n (pc := 1142) 0 X.1 dL_law_1142 rfl ?_
  refine w_iload_n (pc := 1143) 3 X.1 dL_law_1143 rfl ?_
  refine w_iconst (pc := 1144) 1 X.1 dL_law_1144 rfl ?_
  refine w_iadd (pc := 1145) X.1 dL_law_1145 ?_
  refine wl_sld (pc := 1146) X dL_law_1146 (hin 1 (by decide)) ?_
  refine w_aload_n (pc := 1147) 0 X.1 dL_law_1147 rfl ?_
  refine w_iload_n (pc := 1148) 3 X.1 dL_law_1148 rfl ?_
  refine w_iconst (pc := 1149) 2 X.1 dL_law_1149 rfl ?_
  refine w_iadd (pc := 1150) X.1 dL_law_1150 ?_
  refine wl_sld (pc := 1151) X dL_law_1151 (hin 2 (by decide)) ?_
  refine w_aload_n (pc := 1152) 0 X.1 dL_law_1152 rfl ?_
  refine w_iload_n (pc := 1153) 3 X.1 dL_law_1153 rfl ?_
  refine w_iconst (pc := 1154) 3 X.1 dL_law_1154 rfl ?_
  refine w_iadd (pc := 1155) X.1 dL_law_1155 ?_
  refine wl_sld (pc := 1156) X dL_law_1156 (hin 3 (by decide)) ?_
  refine wl_call (pc := 1157) (As := [.int (xs (ix (i + 1))), .int (xs (ix (i + 2))), .int (xs (ix (i + 3)))]) (rest := []) X shsC_nd X.2.2.1.1 (fun a h1 h2 => X.2.2.1.2.2 a h2 h1) X.2.2.2.1.1 dL_law_1157 ml_L_127 ck_X11_income cv_X11_income sh_100 rfl (Nat.le_of_ble_eq_true rfl) hcs rfl (Nat.le_of_ble_eq_true rfl) rfl (tX11_income (ZO Y shsC) (xs (ix (i + 1))) (xs (ix (i + 2))) (xs (ix (i + 3))) (fun _ h => h) hC _ _ e1) ?_
  refine w_aload_n (pc := 1160) 2 X.1 dL_law_1160 rfl ?_
  refine w_aload_n (pc := 1161) 0 X.1 dL_law_1161 rfl ?_
  refine w_iload_n (pc := 1162) 3 X.1 dL_law_1162 rfl ?_
  refine w_iconst (pc := 1163) 1 X.1 dL_law_1163 rfl ?_
  refine w_iadd (pc := 1164) X.1 dL_law_1164 ?_
  refine wl_sld (pc := 1165) X dL_law_1165 (hin 1 (by decide)) ?_
  refine w_aload_n (pc := 1166) 0 X.1 dL_law_1166 rfl ?_
  refine w_iload_n (pc := 1167) 3 X.1 dL_law_1167 rfl ?_
  refine w_iconst (pc := 1168) 2 X.1 dL_law_1168 rfl ?_
  refine w_iadd (pc := 1169) X.1 dL_law_1169 ?_
  refine wl_sld (pc := 1170) X dL_law_1170 (hin 2 (by decide)) ?_
  refine w_aload_n (pc := 1171) 0 X.1 dL_law_1171 rfl ?_
  refine w_iload_n (pc := 1172) 3 X.1 dL_law_1172 rfl ?_
  refine w_iconst (pc := 1173) 3 X.1 dL_law_1173 rfl ?_
  refine w_iadd (pc := 1174) X.1 dL_law_1174 ?_
  refine wl_sld (pc := 1175) X dL_law_1175 (hin 3 (by decide)) ?_
  refine w_imp (fun H h => ⟨h.2, h.1⟩) (Wq := W2 Y shsM shsC hM hC1) ?_
  refine wl_call (pc := 1176) (As := [.int (xs (ix (i + 1))), .int (xs (ix (i + 2))), .int (xs (ix (i + 3)))]) (rest := [.int r]) X shsM_nd X.2.2.1.2.1 X.2.2.1.2.2 X.2.2.2.1.2 dL_law_1176 ml_L_130 ck_X12_income cv_X12_income sh_0 rfl (Nat.le_of_ble_eq_true rfl) hcs rfl (Nat.le_of_ble_eq_true rfl) rfl (tX12_income (ZO Y shsM) (xs (ix (i + 1))) (xs (ix (i + 2))) (xs (ix (i + 3))) (fun _ h => h) hM _ _ e2) ?_
  refine w_imp (fun H h => ⟨h.2, h.1⟩) (Wq := W2 Y shsC shsM hC1 hM1) ?_
  refine w_icmp_eq (pc := 1179) 1701 X.1 dL_law_1179 rfl (fun _ => ?_) (fun c => absurd rfl c)
  exact kk hC1 hM1 hR
set_option maxRecDepth 20000 in
theorem law_next {Y : QT} {G : GT} {b L : Nat} {xs : Nat → Int32} {ca sl : Nat} {Rel : Hp → Hp → Prop} (X : CL Y G b L xs) (hcs : ca ≤ 600000 ∧ sl ≤ 7302250) (hs : Sim_next Rel) (i : Int32) (hin : ∀ k : Nat, k < 6 → inb (i + Int32.ofNat k) L = true) (hC hM : Hp) (hR : Rel hC hM) (kk : ∀ hC hM, Rel hC hM → JW (W2 Y shsC shsM hC hM) Y.1 G ca sl 4 1701 [(0, .ref b), (1, .ref (Y.2.1 100)), (2, .ref (Y.2.1 0)), (3, .int i)] []) : JW (W2 Y shsC shsM hC hM) Y.1 G ca sl 4 1184 [(0, .ref b), (1, .ref (Y.2.1 100)), (2, .ref (Y.2.1 0)), (3, .int i)] [] := by
  obtain ⟨r, hC1, hM1, e1, e2, hR⟩ := hs (xs (ix (i + 1))) (xs (ix (i + 2))) hC hM hR
  refine w_aload_n (pc := 1184) 1 X.1 dL_law_1184 rfl ?_
  refine w_aload_n (pc := 1185) 0 X.1 dL_law_1185 rfl ?_
  refine w_iload_n (pc := 1186) 3 X.1 dL_law_1186 rfl ?_
  refine w_iconst (pc := 1187) 1 X.1 dL_law_1187 rfl ?_
  refine w_iadd (pc := 1188) X.1 dL_law_1188 ?_
  refine wl_sld (pc := 1189) X dL_law_1189 (hin 1 (by decide)) ?_
  refine w_aload_n (pc := 1190) 0 X.1 dL_law_1190 rfl ?_
  refine w_iload_n (pc := 1191) 3 X.1 dL_law_1191 rfl ?_
  refine w_iconst (pc := 1192) 2 X.1 dL_law_1192 rfl ?_
  refine w_iadd (pc := 1193) X.1 dL_law_1193 ?_
  refine wl_sld (pc := 1194) X dL_law_1194 (hin 2 (by decide)) ?_
  refine wl_call (pc := 1195) (As := [.int (xs (ix (i + 1))), .int (xs (ix (i + 2)))]) (rest := []) X shsC_nd X.2.2.1.1 (fun a h1 h2 => X.2.2.1.2.2 a h2 h1) X.2.2.2.1.1 dL_law_1195 ml_L_131 ck_X11_next cv_X11_next sh_100 rfl (Nat.le_of_ble_eq_true rfl) hcs rfl (Nat.le_of_ble_eq_true rfl) rfl (tX11_next (ZO Y shsC) (xs (ix (i + 1))) (xs (ix (i + 2))) (fun _ h => h) hC _ _ e1) ?_
  refine w_aload_n (pc := 1198) 2 X.1 dL_law_1198 rfl ?_
  refine w_aload_n (pc := 1199) 0 X.1 dL_law_1199 rfl ?_
  refine w_iload_n (pc := 1200) 3 X.1 dL_law_1200 rfl ?_
  refine w_iconst (pc := 1201) 1 X.1 dL_law_1201 rfl ?_
  refine w_iadd (pc := 1202) X.1 dL_law_1202 ?_
  refine wl_sld (pc := 1203) X dL_law_1203 (hin 1 (by decide)) ?_
  refine w_aload_n (pc := 1204) 0 X.1 dL_law_1204 rfl ?_
  refine w_iload_n (pc := 1205) 3 X.1 dL_law_1205 rfl ?_
  refine w_iconst (pc := 1206) 2 X.1 dL_law_1206 rfl ?_
  refine w_iadd (pc := 1207) X.1 dL_law_1207 ?_
  refine wl_sld (pc := 1208) X dL_law_1208 (hin 2 (by decide)) ?_
  refine w_imp (fun H h => ⟨h.2, h.1⟩) (Wq := W2 Y shsM shsC hM hC1) ?_
  refine wl_call (pc := 1209) (As := [.int (xs (ix (i + 1))), .int (xs (ix (i + 2)))]) (rest := [.int r]) X shsM_nd X.2.2.1.2.1 X.2.2.1.2.2 X.2.2.2.1.2 dL_law_1209 ml_L_134 ck_X12_next cv_X12_next sh_0 rfl (Nat.le_of_ble_eq_true rfl) hcs rfl (Nat.le_of_ble_eq_true rfl) rfl (tX12_next (ZO Y shsM) (xs (ix (i + 1))) (xs (ix (i + 2))) (fun _ h => h) hM _ _ e2) ?_
  refine w_imp (fun H h => ⟨h.2, h.1⟩) (Wq := W2 Y shsC shsM hC1 hM1) ?_
  refine w_icmp_eq (pc := 1212) 1701 X.1 dL_law_1212 rfl (fun _ => ?_) (fun c => absurd rfl c)
  exact kk hC1 hM1 hR
set_option maxRecDepth 20000 in
theorem law_looks {Y : QT} {G : GT} {b L : Nat} {xs : Nat → Int32} {ca sl : Nat} {Rel : Hp → Hp → Prop} (X : CL Y G b L xs) (hcs : ca ≤ 600000 ∧ sl ≤ 7302250) (hs : Sim_looks Rel) (i : Int32) (hin : ∀ k : Nat, k < 6 → inb (i + Int32.ofNat k) L = true) (hC hM : Hp) (hR : Rel hC hM) (kk : ∀ hC hM, Rel hC hM → JW (W2 Y shsC shsM hC hM) Y.1 G ca sl 4 1701 [(0, .ref b), (1, .ref (Y.2.1 100)), (2, .ref (Y.2.1 0)), (3, .int i)] []) : JW (W2 Y shsC shsM hC hM) Y.1 G ca sl 4 1217 [(0, .ref b), (1, .ref (Y.2.1 100)), (2, .ref (Y.2.1 0)), (3, .int i)] [] := by
  obtain ⟨r, hC1, hM1, e1, e2, hR⟩ := hs (xs (ix (i + 1))) (xs (ix (i + 2))) hC hM hR
  refine w_aload_n (pc := 1217) 1 X.1 dL_law_1217 rfl ?_
  refine w_aload_n (pc := 1218) 0 X.1 dL_law_1218 rfl ?_
  refine w_iload_n (pc := 1219) 3 X.1 dL_law_1219 rfl ?_
  refine w_iconst (pc := 1220) 1 X.1 dL_law_1220 rfl ?_
  refine w_iadd (pc := 1221) X.1 dL_law_1221 ?_
  refine wl_sld (pc := 1222) X dL_law_1222 (hin 1 (by decide)) ?_
  refine w_aload_n (pc := 1223) 0 X.1 dL_law_1223 rfl ?_
  refine w_iload_n (pc := 1224) 3 X.1 dL_law_1224 rfl ?_
  refine w_iconst (pc := 1225) 2 X.1 dL_law_1225 rfl ?_
  refine w_iadd (pc := 1226) X.1 dL_law_1226 ?_
  refine wl_sld (pc := 1227) X dL_law_1227 (hin 2 (by decide)) ?_
  refine wl_call (pc := 1228) (As := [.int (xs (ix (i + 1))), .int (xs (ix (i + 2)))]) (rest := []) X shsC_nd X.2.2.1.1 (fun a h1 h2 => X.2.2.1.2.2 a h2 h1) X.2.2.2.1.1 dL_law_1228 ml_L_135 ck_X11_looks cv_X11_looks sh_100 rfl (Nat.le_of_ble_eq_true rfl) hcs rfl (Nat.le_of_ble_eq_true rfl) rfl (tX11_looks (ZO Y shsC) (xs (ix (i + 1))) (xs (ix (i + 2))) (fun _ h => h) hC _ _ e1) ?_
  refine w_aload_n (pc := 1231) 2 X.1 dL_law_1231 rfl ?_
  refine w_aload_n (pc := 1232) 0 X.1 dL_law_1232 rfl ?_
  refine w_iload_n (pc := 1233) 3 X.1 dL_law_1233 rfl ?_
  refine w_iconst (pc := 1234) 1 X.1 dL_law_1234 rfl ?_
  refine w_iadd (pc := 1235) X.1 dL_law_1235 ?_
  refine wl_sld (pc := 1236) X dL_law_1236 (hin 1 (by decide)) ?_
  refine w_aload_n (pc := 1237) 0 X.1 dL_law_1237 rfl ?_
  refine w_iload_n (pc := 1238) 3 X.1 dL_law_1238 rfl ?_
  refine w_iconst (pc := 1239) 2 X.1 dL_law_1239 rfl ?_
  refine w_iadd (pc := 1240) X.1 dL_law_1240 ?_
  refine wl_sld (pc := 1241) X dL_law_1241 (hin 2 (by decide)) ?_
  refine w_imp (fun H h => ⟨h.2, h.1⟩) (Wq := W2 Y shsM shsC hM hC1) ?_
  refine wl_call (pc := 1242) (As := [.int (xs (ix (i + 1))), .int (xs (ix (i + 2)))]) (rest := [.int r]) X shsM_nd X.2.2.1.2.1 X.2.2.1.2.2 X.2.2.2.1.2 dL_law_1242 ml_L_138 ck_X12_looks cv_X12_looks sh_0 rfl (Nat.le_of_ble_eq_true rfl) hcs rfl (Nat.le_of_ble_eq_true rfl) rfl (tX12_looks (ZO Y shsM) (xs (ix (i + 1))) (xs (ix (i + 2))) (fun _ h => h) hM _ _ e2) ?_
  refine w_imp (fun H h => ⟨h.2, h.1⟩) (Wq := W2 Y shsC shsM hC1 hM1) ?_
  refine w_icmp_eq (pc := 1245) 1701 X.1 dL_law_1245 rfl (fun _ => ?_) (fun c => absurd rfl c)
  exact kk hC1 hM1 hR
set_option maxRecDepth 20000 in
theorem law_need {Y : QT} {G : GT} {b L : Nat} {xs : Nat → Int32} {ca sl : Nat} {Rel : Hp → Hp → Prop} (X : CL Y G b L xs) (hcs : ca ≤ 600000 ∧ sl ≤ 7302250) (hs : Sim_need Rel) (i : Int32) (hin : ∀ k : Nat, k < 6 → inb (i + Int32.ofNat k) L = true) (hC hM : Hp) (hR : Rel hC hM) (kk : ∀ hC hM, Rel hC hM → JW (W2 Y shsC shsM hC hM) Y.1 G ca sl 4 1701 [(0, .ref b), (1, .ref (Y.2.1 100)), (2, .ref (Y.2.1 0)), (3, .int i)] []) : JW (W2 Y shsC shsM hC hM) Y.1 G ca sl 4 1250 [(0, .ref b), (1, .ref (Y.2.1 100)), (2, .ref (Y.2.1 0)), (3, .int i)] [] := by
  obtain ⟨r, hC1, hM1, e1, e2, hR⟩ := hs (xs (ix (i + 1))) (xs (ix (i + 2))) (xs (ix (i + 3))) (xs (ix (i + 4))) (xs (ix (i + 5))) hC hM hR
  refine w_aload_n (pc := 1250) 1 X.1 dL_law_1250 rfl ?_
  refine w_aload_n (pc := 1251) 0 X.1 dL_law_1251 rfl ?_
  refine w_iload_n (pc := 1252) 3 X.1 dL_law_1252 rfl ?_
  refine w_iconst (pc := 1253) 1 X.1 dL_law_1253 rfl ?_
  refine w_iadd (pc := 1254) X.1 dL_law_1254 ?_
  refine wl_sld (pc := 1255) X dL_law_1255 (hin 1 (by decide)) ?_
  refine w_aload_n (pc := 1256) 0 X.1 dL_law_1256 rfl ?_
  refine w_iload_n (pc := 1257) 3 X.1 dL_law_1257 rfl ?_
  refine w_iconst (pc := 1258) 2 X.1 dL_law_1258 rfl ?_
  refine w_iadd (pc := 1259) X.1 dL_law_1259 ?_
  refine wl_sld (pc := 1260) X dL_law_1260 (hin 2 (by decide)) ?_
  refine w_aload_n (pc := 1261) 0 X.1 dL_law_1261 rfl ?_
  refine w_iload_n (pc := 1262) 3 X.1 dL_law_1262 rfl ?_
  refine w_iconst (pc := 1263) 3 X.1 dL_law_1263 rfl ?_
  refine w_iadd (pc := 1264) X.1 dL_law_1264 ?_
  refine wl_sld (pc := 1265) X dL_law_1265 (hin 3 (by decide)) ?_
  refine w_aload_n (pc := 1266) 0 X.1 dL_law_1266 rfl ?_
  refine w_iload_n (pc := 1267) 3 X.1 dL_law_1267 rfl ?_
  refine w_iconst (pc := 1268) 4 X.1 dL_law_1268 rfl ?_
  refine w_iadd (pc := 1269) X.1 dL_law_1269 ?_
  refine wl_sld (pc := 1270) X dL_law_1270 (hin 4 (by decide)) ?_
  refine w_aload_n (pc := 1271) 0 X.1 dL_law_1271 rfl ?_
  refine w_iload_n (pc := 1272) 3 X.1 dL_law_1272 rfl ?_
  refine w_iconst (pc := 1273) 5 X.1 dL_law_1273 rfl ?_
  refine w_iadd (pc := 1274) X.1 dL_law_1274 ?_
  refine wl_sld (pc := 1275) X dL_law_1275 (hin 5 (by decide)) ?_
  refine wl_call (pc := 1276) (As := [.int (xs (ix (i + 1))), .int (xs (ix (i + 2))), .int (xs (ix (i + 3))), .int (xs (ix (i + 4))), .int (xs (ix (i + 5)))]) (rest := []) X shsC_nd X.2.2.1.1 (fun a h1 h2 => X.2.2.1.2.2 a h2 h1) X.2.2.2.1.1 dL_law_1276 ml_L_139 ck_X11_need cv_X11_need sh_100 rfl (Nat.le_of_ble_eq_true rfl) hcs rfl (Nat.le_of_ble_eq_true rfl) rfl (tX11_need (ZO Y shsC) (xs (ix (i + 1))) (xs (ix (i + 2))) (xs (ix (i + 3))) (xs (ix (i + 4))) (xs (ix (i + 5))) (fun _ h => h) hC _ _ e1) ?_
  refine w_aload_n (pc := 1279) 2 X.1 dL_law_1279 rfl ?_
  refine w_aload_n (pc := 1280) 0 X.1 dL_law_1280 rfl ?_
  refine w_iload_n (pc := 1281) 3 X.1 dL_law_1281 rfl ?_
  refine w_iconst (pc := 1282) 1 X.1 dL_law_1282 rfl ?_
  refine w_iadd (pc := 1283) X.1 dL_law_1283 ?_
  refine wl_sld (pc := 1284) X dL_law_1284 (hin 1 (by decide)) ?_
  refine w_aload_n (pc := 1285) 0 X.1 dL_law_1285 rfl ?_
  refine w_iload_n (pc := 1286) 3 X.1 dL_law_1286 rfl ?_
  refine w_iconst (pc := 1287) 2 X.1 dL_law_1287 rfl ?_
  refine w_iadd (pc := 1288) X.1 dL_law_1288 ?_
  refine wl_sld (pc := 1289) X dL_law_1289 (hin 2 (by decide)) ?_
  refine w_aload_n (pc := 1290) 0 X.1 dL_law_1290 rfl ?_
  refine w_iload_n (pc := 1291) 3 X.1 dL_law_1291 rfl ?_
  refine w_iconst (pc := 1292) 3 X.1 dL_law_1292 rfl ?_
  refine w_iadd (pc := 1293) X.1 dL_law_1293 ?_
  refine wl_sld (pc := 1294) X dL_law_1294 (hin 3 (by decide)) ?_
  refine w_aload_n (pc := 1295) 0 X.1 dL_law_1295 rfl ?_
  refine w_iload_n (pc := 1296) 3 X.1 dL_law_1296 rfl ?_
  refine w_iconst (pc := 1297) 4 X.1 dL_law_1297 rfl ?_
  refine w_iadd (pc := 1298) X.1 dL_law_1298 ?_
  refine wl_sld (pc := 1299) X dL_law_1299 (hin 4 (by decide)) ?_
  refine w_aload_n (pc := 1300) 0 X.1 dL_law_1300 rfl ?_
  refine w_iload_n (pc := 1301) 3 X.1 dL_law_1301 rfl ?_
  refine w_iconst (pc := 1302) 5 X.1 dL_law_1302 rfl ?_
  refine w_iadd (pc := 1303) X.1 dL_law_1303 ?_
  refine wl_sld (pc := 1304) X dL_law_1304 (hin 5 (by decide)) ?_
  refine w_imp (fun H h => ⟨h.2, h.1⟩) (Wq := W2 Y shsM shsC hM hC1) ?_
  refine wl_call (pc := 1305) (As := [.int (xs (ix (i + 1))), .int (xs (ix (i + 2))), .int (xs (ix (i + 3))), .int (xs (ix (i + 4))), .int (xs (ix (i + 5)))]) (rest := [.int r]) X shsM_nd X.2.2.1.2.1 X.2.2.1.2.2 X.2.2.2.1.2 dL_law_1305 ml_L_142 ck_X12_need cv_X12_need sh_0 rfl (Nat.le_of_ble_eq_true rfl) hcs rfl (Nat.le_of_ble_eq_true rfl) rfl (tX12_need (ZO Y shsM) (xs (ix (i + 1))) (xs (ix (i + 2))) (xs (ix (i + 3))) (xs (ix (i + 4))) (xs (ix (i + 5))) (fun _ h => h) hM _ _ e2) ?_
  refine w_imp (fun H h => ⟨h.2, h.1⟩) (Wq := W2 Y shsC shsM hC1 hM1) ?_
  refine w_icmp_eq (pc := 1308) 1701 X.1 dL_law_1308 rfl (fun _ => ?_) (fun c => absurd rfl c)
  exact kk hC1 hM1 hR
set_option maxRecDepth 20000 in
theorem law_asks {Y : QT} {G : GT} {b L : Nat} {xs : Nat → Int32} {ca sl : Nat} {Rel : Hp → Hp → Prop} (X : CL Y G b L xs) (hcs : ca ≤ 600000 ∧ sl ≤ 7302250) (hs : Sim_asks Rel) (i : Int32) (hin : ∀ k : Nat, k < 6 → inb (i + Int32.ofNat k) L = true) (hC hM : Hp) (hR : Rel hC hM) (kk : ∀ hC hM, Rel hC hM → JW (W2 Y shsC shsM hC hM) Y.1 G ca sl 4 1701 [(0, .ref b), (1, .ref (Y.2.1 100)), (2, .ref (Y.2.1 0)), (3, .int i)] []) : JW (W2 Y shsC shsM hC hM) Y.1 G ca sl 4 1313 [(0, .ref b), (1, .ref (Y.2.1 100)), (2, .ref (Y.2.1 0)), (3, .int i)] [] := by
  obtain ⟨r, hC1, hM1, e1, e2, hR⟩ := hs (xs (ix (i + 1))) hC hM hR
  refine w_aload_n (pc := 1313) 1 X.1 dL_law_1313 rfl ?_
  refine w_aload_n (pc := 1314) 0 X.1 dL_law_1314 rfl ?_
  refine w_iload_n (pc := 1315) 3 X.1 dL_law_1315 rfl ?_
  refine w_iconst (pc := 1316) 1 X.1 dL_law_1316 rfl ?_
  refine w_iadd (pc := 1317) X.1 dL_law_1317 ?_
  refine wl_sld (pc := 1318) X dL_law_1318 (hin 1 (by decide)) ?_
  refine wl_call (pc := 1319) (As := [.int (xs (ix (i + 1)))]) (rest := []) X shsC_nd X.2.2.1.1 (fun a h1 h2 => X.2.2.1.2.2 a h2 h1) X.2.2.2.1.1 dL_law_1319 ml_L_143 ck_X11_asks cv_X11_asks sh_100 rfl (Nat.le_of_ble_eq_true rfl) hcs rfl (Nat.le_of_ble_eq_true rfl) rfl (tX11_asks (ZO Y shsC) (xs (ix (i + 1))) (fun _ h => h) hC _ _ e1) ?_
  refine w_aload_n (pc := 1322) 2 X.1 dL_law_1322 rfl ?_
  refine w_aload_n (pc := 1323) 0 X.1 dL_law_1323 rfl ?_
  refine w_iload_n (pc := 1324) 3 X.1 dL_law_1324 rfl ?_
  refine w_iconst (pc := 1325) 1 X.1 dL_law_1325 rfl ?_
  refine w_iadd (pc := 1326) X.1 dL_law_1326 ?_
  refine wl_sld (pc := 1327) X dL_law_1327 (hin 1 (by decide)) ?_
  refine w_imp (fun H h => ⟨h.2, h.1⟩) (Wq := W2 Y shsM shsC hM hC1) ?_
  refine wl_call (pc := 1328) (As := [.int (xs (ix (i + 1)))]) (rest := [.int r]) X shsM_nd X.2.2.1.2.1 X.2.2.1.2.2 X.2.2.2.1.2 dL_law_1328 ml_L_146 ck_X12_asks cv_X12_asks sh_0 rfl (Nat.le_of_ble_eq_true rfl) hcs rfl (Nat.le_of_ble_eq_true rfl) rfl (tX12_asks (ZO Y shsM) (xs (ix (i + 1))) (fun _ h => h) hM _ _ e2) ?_
  refine w_imp (fun H h => ⟨h.2, h.1⟩) (Wq := W2 Y shsC shsM hC1 hM1) ?_
  refine w_icmp_eq (pc := 1331) 1701 X.1 dL_law_1331 rfl (fun _ => ?_) (fun c => absurd rfl c)
  exact kk hC1 hM1 hR
set_option maxRecDepth 20000 in
theorem law_ring {Y : QT} {G : GT} {b L : Nat} {xs : Nat → Int32} {ca sl : Nat} {Rel : Hp → Hp → Prop} (X : CL Y G b L xs) (hcs : ca ≤ 600000 ∧ sl ≤ 7302250) (hs : Sim_ring Rel) (i : Int32) (hin : ∀ k : Nat, k < 6 → inb (i + Int32.ofNat k) L = true) (hC hM : Hp) (hR : Rel hC hM) (kk : ∀ hC hM, Rel hC hM → JW (W2 Y shsC shsM hC hM) Y.1 G ca sl 4 1701 [(0, .ref b), (1, .ref (Y.2.1 100)), (2, .ref (Y.2.1 0)), (3, .int i)] []) : JW (W2 Y shsC shsM hC hM) Y.1 G ca sl 4 1336 [(0, .ref b), (1, .ref (Y.2.1 100)), (2, .ref (Y.2.1 0)), (3, .int i)] [] := by
  obtain ⟨r, hC1, hM1, e1, e2, hR⟩ := hs (xs (ix (i + 1))) hC hM hR
  refine w_aload_n (pc := 1336) 1 X.1 dL_law_1336 rfl ?_
  refine w_aload_n (pc := 1337) 0 X.1 dL_law_1337 rfl ?_
  refine w_iload_n (pc := 1338) 3 X.1 dL_law_1338 rfl ?_
  refine w_iconst (pc := 1339) 1 X.1 dL_law_1339 rfl ?_
  refine w_iadd (pc := 1340) X.1 dL_law_1340 ?_
  refine wl_sld (pc := 1341) X dL_law_1341 (hin 1 (by decide)) ?_
  refine wl_call (pc := 1342) (As := [.int (xs (ix (i + 1)))]) (rest := []) X shsC_nd X.2.2.1.1 (fun a h1 h2 => X.2.2.1.2.2 a h2 h1) X.2.2.2.1.1 dL_law_1342 ml_L_147 ck_X11_ring cv_X11_ring sh_100 rfl (Nat.le_of_ble_eq_true rfl) hcs rfl (Nat.le_of_ble_eq_true rfl) rfl (tX11_ring (ZO Y shsC) (xs (ix (i + 1))) (fun _ h => h) hC _ _ e1) ?_
  refine w_aload_n (pc := 1345) 2 X.1 dL_law_1345 rfl ?_
  refine w_aload_n (pc := 1346) 0 X.1 dL_law_1346 rfl ?_
  refine w_iload_n (pc := 1347) 3 X.1 dL_law_1347 rfl ?_
  refine w_iconst (pc := 1348) 1 X.1 dL_law_1348 rfl ?_
  refine w_iadd (pc := 1349) X.1 dL_law_1349 ?_
  refine wl_sld (pc := 1350) X dL_law_1350 (hin 1 (by decide)) ?_
  refine w_imp (fun H h => ⟨h.2, h.1⟩) (Wq := W2 Y shsM shsC hM hC1) ?_
  refine wl_call (pc := 1351) (As := [.int (xs (ix (i + 1)))]) (rest := [.int r]) X shsM_nd X.2.2.1.2.1 X.2.2.1.2.2 X.2.2.2.1.2 dL_law_1351 ml_L_150 ck_X12_ring cv_X12_ring sh_0 rfl (Nat.le_of_ble_eq_true rfl) hcs rfl (Nat.le_of_ble_eq_true rfl) rfl (tX12_ring (ZO Y shsM) (xs (ix (i + 1))) (fun _ h => h) hM _ _ e2) ?_
  refine w_imp (fun H h => ⟨h.2, h.1⟩) (Wq := W2 Y shsC shsM hC1 hM1) ?_
  refine w_icmp_eq (pc := 1354) 1701 X.1 dL_law_1354 rfl (fun _ => ?_) (fun c => absurd rfl c)
  exact kk hC1 hM1 hR
set_option maxRecDepth 20000 in
theorem law_rings {Y : QT} {G : GT} {b L : Nat} {xs : Nat → Int32} {ca sl : Nat} {Rel : Hp → Hp → Prop} (X : CL Y G b L xs) (hcs : ca ≤ 600000 ∧ sl ≤ 7302250) (hs : Sim_rings Rel) (i : Int32) (hin : ∀ k : Nat, k < 6 → inb (i + Int32.ofNat k) L = true) (hC hM : Hp) (hR : Rel hC hM) (kk : ∀ hC hM, Rel hC hM → JW (W2 Y shsC shsM hC hM) Y.1 G ca sl 4 1701 [(0, .ref b), (1, .ref (Y.2.1 100)), (2, .ref (Y.2.1 0)), (3, .int i)] []) : JW (W2 Y shsC shsM hC hM) Y.1 G ca sl 4 1359 [(0, .ref b), (1, .ref (Y.2.1 100)), (2, .ref (Y.2.1 0)), (3, .int i)] [] := by
  obtain ⟨r, hC1, hM1, e1, e2, hR⟩ := hs  hC hM hR
  refine w_aload_n (pc := 1359) 1 X.1 dL_law_1359 rfl ?_
  refine wl_call (pc := 1360) (As := []) (rest := []) X shsC_nd X.2.2.1.1 (fun a h1 h2 => X.2.2.1.2.2 a h2 h1) X.2.2.2.1.1 dL_law_1360 ml_L_151 ck_X11_rings cv_X11_rings sh_100 rfl (Nat.le_of_ble_eq_true rfl) hcs rfl (Nat.le_of_ble_eq_true rfl) rfl (tX11_rings (ZO Y shsC)  (fun _ h => h) hC _ _ e1) ?_
  refine w_aload_n (pc := 1363) 2 X.1 dL_law_1363 rfl ?_
  refine w_imp (fun H h => ⟨h.2, h.1⟩) (Wq := W2 Y shsM shsC hM hC1) ?_
  refine wl_call (pc := 1364) (As := []) (rest := [.int r]) X shsM_nd X.2.2.1.2.1 X.2.2.1.2.2 X.2.2.2.1.2 dL_law_1364 ml_L_154 ck_X12_rings cv_X12_rings sh_0 rfl (Nat.le_of_ble_eq_true rfl) hcs rfl (Nat.le_of_ble_eq_true rfl) rfl (tX12_rings (ZO Y shsM)  (fun _ h => h) hM _ _ e2) ?_
  refine w_imp (fun H h => ⟨h.2, h.1⟩) (Wq := W2 Y shsC shsM hC1 hM1) ?_
  refine w_icmp_eq (pc := 1367) 1701 X.1 dL_law_1367 rfl (fun _ => ?_) (fun c => absurd rfl c)
  exact kk hC1 hM1 hR
set_option maxRecDepth 20000 in
theorem law_burn {Y : QT} {G : GT} {b L : Nat} {xs : Nat → Int32} {ca sl : Nat} {Rel : Hp → Hp → Prop} (X : CL Y G b L xs) (hcs : ca ≤ 600000 ∧ sl ≤ 7302250) (hs : Sim_burn Rel) (i : Int32) (hin : ∀ k : Nat, k < 6 → inb (i + Int32.ofNat k) L = true) (hC hM : Hp) (hR : Rel hC hM) (kk : ∀ hC hM, Rel hC hM → JW (W2 Y shsC shsM hC hM) Y.1 G ca sl 4 1701 [(0, .ref b), (1, .ref (Y.2.1 100)), (2, .ref (Y.2.1 0)), (3, .int i)] []) : JW (W2 Y shsC shsM hC hM) Y.1 G ca sl 4 1372 [(0, .ref b), (1, .ref (Y.2.1 100)), (2, .ref (Y.2.1 0)), (3, .int i)] [] := by
  obtain ⟨r, hC1, hM1, e1, e2, hR⟩ := hs  hC hM hR
  refine w_aload_n (pc := 1372) 1 X.1 dL_law_1372 rfl ?_
  refine wl_call (pc := 1373) (As := []) (rest := []) X shsC_nd X.2.2.1.1 (fun a h1 h2 => X.2.2.1.2.2 a h2 h1) X.2.2.2.1.1 dL_law_1373 ml_L_155 ck_X11_burn cv_X11_burn sh_100 rfl (Nat.le_of_ble_eq_true rfl) hcs rfl (Nat.le_of_ble_eq_true rfl) rfl (tX11_burn (ZO Y shsC)  (fun _ h => h) hC _ _ e1) ?_
  refine w_aload_n (pc := 1376) 2 X.1 dL_law_1376 rfl ?_
  refine w_imp (fun H h => ⟨h.2, h.1⟩) (Wq := W2 Y shsM shsC hM hC1) ?_
  refine wl_call (pc := 1377) (As := []) (rest := [.int r]) X shsM_nd X.2.2.1.2.1 X.2.2.1.2.2 X.2.2.2.1.2 dL_law_1377 ml_L_158 ck_X12_burn cv_X12_burn sh_0 rfl (Nat.le_of_ble_eq_true rfl) hcs rfl (Nat.le_of_ble_eq_true rfl) rfl (tX12_burn (ZO Y shsM)  (fun _ h => h) hM _ _ e2) ?_
  refine w_imp (fun H h => ⟨h.2, h.1⟩) (Wq := W2 Y shsC shsM hC1 hM1) ?_
  refine w_icmp_eq (pc := 1380) 1701 X.1 dL_law_1380 rfl (fun _ => ?_) (fun c => absurd rfl c)
  exact kk hC1 hM1 hR
set_option maxRecDepth 20000 in
theorem law_future {Y : QT} {G : GT} {b L : Nat} {xs : Nat → Int32} {ca sl : Nat} {Rel : Hp → Hp → Prop} (X : CL Y G b L xs) (hcs : ca ≤ 600000 ∧ sl ≤ 7302250) (hs : Sim_future Rel) (i : Int32) (hin : ∀ k : Nat, k < 6 → inb (i + Int32.ofNat k) L = true) (hC hM : Hp) (hR : Rel hC hM) (kk : ∀ hC hM, Rel hC hM → JW (W2 Y shsC shsM hC hM) Y.1 G ca sl 4 1701 [(0, .ref b), (1, .ref (Y.2.1 100)), (2, .ref (Y.2.1 0)), (3, .int i)] []) : JW (W2 Y shsC shsM hC hM) Y.1 G ca sl 4 1385 [(0, .ref b), (1, .ref (Y.2.1 100)), (2, .ref (Y.2.1 0)), (3, .int i)] [] := by
  obtain ⟨r, hC1, hM1, e1, e2, hR⟩ := hs (xs (ix (i + 1))) (xs (ix (i + 2))) (xs (ix (i + 3))) (xs (ix (i + 4))) (xs (ix (i + 5))) hC hM hR
  refine w_aload_n (pc := 1385) 1 X.1 dL_law_1385 rfl ?_
  refine w_aload_n (pc := 1386) 0 X.1 dL_law_1386 rfl ?_
  refine w_iload_n (pc := 1387) 3 X.1 dL_law_1387 rfl ?_
  refine w_iconst (pc := 1388) 1 X.1 dL_law_1388 rfl ?_
  refine w_iadd (pc := 1389) X.1 dL_law_1389 ?_
  refine wl_sld (pc := 1390) X dL_law_1390 (hin 1 (by decide)) ?_
  refine w_aload_n (pc := 1391) 0 X.1 dL_law_1391 rfl ?_
  refine w_iload_n (pc := 1392) 3 X.1 dL_law_1392 rfl ?_
  refine w_iconst (pc := 1393) 2 X.1 dL_law_1393 rfl ?_
  refine w_iadd (pc := 1394) X.1 dL_law_1394 ?_
  refine wl_sld (pc := 1395) X dL_law_1395 (hin 2 (by decide)) ?_
  refine w_aload_n (pc := 1396) 0 X.1 dL_law_1396 rfl ?_
  refine w_iload_n (pc := 1397) 3 X.1 dL_law_1397 rfl ?_
  refine w_iconst (pc := 1398) 3 X.1 dL_law_1398 rfl ?_
  refine w_iadd (pc := 1399) X.1 dL_law_1399 ?_
  refine wl_sld (pc := 1400) X dL_law_1400 (hin 3 (by decide)) ?_
  refine w_aload_n (pc := 1401) 0 X.1 dL_law_1401 rfl ?_
  refine w_iload_n (pc := 1402) 3 X.1 dL_law_1402 rfl ?_
  refine w_iconst (pc := 1403) 4 X.1 dL_law_1403 rfl ?_
  refine w_iadd (pc := 1404) X.1 dL_law_1404 ?_
  refine wl_sld (pc := 1405) X dL_law_1405 (hin 4 (by decide)) ?_
  refine w_aload_n (pc := 1406) 0 X.1 dL_law_1406 rfl ?_
  refine w_iload_n (pc := 1407) 3 X.1 dL_law_1407 rfl ?_
  refine w_iconst (pc := 1408) 5 X.1 dL_law_1408 rfl ?_
  refine w_iadd (pc := 1409) X.1 dL_law_1409 ?_
  refine wl_sld (pc := 1410) X dL_law_1410 (hin 5 (by decide)) ?_
  refine wl_call (pc := 1411) (As := [.int (xs (ix (i + 1))), .int (xs (ix (i + 2))), .int (xs (ix (i + 3))), .int (xs (ix (i + 4))), .int (xs (ix (i + 5)))]) (rest := []) X shsC_nd X.2.2.1.1 (fun a h1 h2 => X.2.2.1.2.2 a h2 h1) X.2.2.2.1.1 dL_law_1411 ml_L_159 ck_X11_future cv_X11_future sh_100 rfl (Nat.le_of_ble_eq_true rfl) hcs rfl (Nat.le_of_ble_eq_true rfl) rfl (tX11_future (ZO Y shsC) (xs (ix (i + 1))) (xs (ix (i + 2))) (xs (ix (i + 3))) (xs (ix (i + 4))) (xs (ix (i + 5))) (fun _ h => h) hC _ _ e1) ?_
  refine w_aload_n (pc := 1414) 2 X.1 dL_law_1414 rfl ?_
  refine w_aload_n (pc := 1415) 0 X.1 dL_law_1415 rfl ?_
  refine w_iload_n (pc := 1416) 3 X.1 dL_law_1416 rfl ?_
  refine w_iconst (pc := 1417) 1 X.1 dL_law_1417 rfl ?_
  refine w_iadd (pc := 1418) X.1 dL_law_1418 ?_
  refine wl_sld (pc := 1419) X dL_law_1419 (hin 1 (by decide)) ?_
  refine w_aload_n (pc := 1420) 0 X.1 dL_law_1420 rfl ?_
  refine w_iload_n (pc := 1421) 3 X.1 dL_law_1421 rfl ?_
  refine w_iconst (pc := 1422) 2 X.1 dL_law_1422 rfl ?_
  refine w_iadd (pc := 1423) X.1 dL_law_1423 ?_
  refine wl_sld (pc := 1424) X dL_law_1424 (hin 2 (by decide)) ?_
  refine w_aload_n (pc := 1425) 0 X.1 dL_law_1425 rfl ?_
  refine w_iload_n (pc := 1426) 3 X.1 dL_law_1426 rfl ?_
  refine w_iconst (pc := 1427) 3 X.1 dL_law_1427 rfl ?_
  refine w_iadd (pc := 1428) X.1 dL_law_1428 ?_
  refine wl_sld (pc := 1429) X dL_law_1429 (hin 3 (by decide)) ?_
  refine w_aload_n (pc := 1430) 0 X.1 dL_law_1430 rfl ?_
  refine w_iload_n (pc := 1431) 3 X.1 dL_law_1431 rfl ?_
  refine w_iconst (pc := 1432) 4 X.1 dL_law_1432 rfl ?_
  refine w_iadd (pc := 1433) X.1 dL_law_1433 ?_
  refine wl_sld (pc := 1434) X dL_law_1434 (hin 4 (by decide)) ?_
  refine w_aload_n (pc := 1435) 0 X.1 dL_law_1435 rfl ?_
  refine w_iload_n (pc := 1436) 3 X.1 dL_law_1436 rfl ?_
  refine w_iconst (pc := 1437) 5 X.1 dL_law_1437 rfl ?_
  refine w_iadd (pc := 1438) X.1 dL_law_1438 ?_
  refine wl_sld (pc := 1439) X dL_law_1439 (hin 5 (by decide)) ?_
  refine w_imp (fun H h => ⟨h.2, h.1⟩) (Wq := W2 Y shsM shsC hM hC1) ?_
  refine wl_call (pc := 1440) (As := [.int (xs (ix (i + 1))), .int (xs (ix (i + 2))), .int (xs (ix (i + 3))), .int (xs (ix (i + 4))), .int (xs (ix (i + 5)))]) (rest := [.int r]) X shsM_nd X.2.2.1.2.1 X.2.2.1.2.2 X.2.2.2.1.2 dL_law_1440 ml_L_162 ck_X12_future cv_X12_future sh_0 rfl (Nat.le_of_ble_eq_true rfl) hcs rfl (Nat.le_of_ble_eq_true rfl) rfl (tX12_future (ZO Y shsM) (xs (ix (i + 1))) (xs (ix (i + 2))) (xs (ix (i + 3))) (xs (ix (i + 4))) (xs (ix (i + 5))) (fun _ h => h) hM _ _ e2) ?_
  refine w_imp (fun H h => ⟨h.2, h.1⟩) (Wq := W2 Y shsC shsM hC1 hM1) ?_
  refine w_icmp_eq (pc := 1443) 1701 X.1 dL_law_1443 rfl (fun _ => ?_) (fun c => absurd rfl c)
  exact kk hC1 hM1 hR
set_option maxRecDepth 20000 in
theorem law_lives {Y : QT} {G : GT} {b L : Nat} {xs : Nat → Int32} {ca sl : Nat} {Rel : Hp → Hp → Prop} (X : CL Y G b L xs) (hcs : ca ≤ 600000 ∧ sl ≤ 7302250) (hs : Sim_lives Rel) (i : Int32) (hin : ∀ k : Nat, k < 6 → inb (i + Int32.ofNat k) L = true) (hC hM : Hp) (hR : Rel hC hM) (kk : ∀ hC hM, Rel hC hM → JW (W2 Y shsC shsM hC hM) Y.1 G ca sl 4 1701 [(0, .ref b), (1, .ref (Y.2.1 100)), (2, .ref (Y.2.1 0)), (3, .int i)] []) : JW (W2 Y shsC shsM hC hM) Y.1 G ca sl 4 1448 [(0, .ref b), (1, .ref (Y.2.1 100)), (2, .ref (Y.2.1 0)), (3, .int i)] [] := by
  obtain ⟨r, hC1, hM1, e1, e2, hR⟩ := hs (xs (ix (i + 1))) (xs (ix (i + 2))) (xs (ix (i + 3))) hC hM hR
  refine w_aload_n (pc := 1448) 1 X.1 dL_law_1448 rfl ?_
  refine w_aload_n (pc := 1449) 0 X.1 dL_law_1449 rfl ?_
  refine w_iload_n (pc := 1450) 3 X.1 dL_law_1450 rfl ?_
  refine w_iconst (pc := 1451) 1 X.1 dL_law_1451 rfl ?_
  refine w_iadd (pc := 1452) X.1 dL_law_1452 ?_
  refine wl_sld (pc := 1453) X dL_law_1453 (hin 1 (by decide)) ?_
  refine w_aload_n (pc := 1454) 0 X.1 dL_law_1454 rfl ?_
  refine w_iload_n (pc := 1455) 3 X.1 dL_law_1455 rfl ?_
  refine w_iconst (pc := 1456) 2 X.1 dL_law_1456 rfl ?_
  refine w_iadd (pc := 1457) X.1 dL_law_1457 ?_
  refine wl_sld (pc := 1458) X dL_law_1458 (hin 2 (by decide)) ?_
  refine w_aload_n (pc := 1459) 0 X.1 dL_law_1459 rfl ?_
  refine w_iload_n (pc := 1460) 3 X.1 dL_law_1460 rfl ?_
  refine w_iconst (pc := 1461) 3 X.1 dL_law_1461 rfl ?_
  refine w_iadd (pc := 1462) X.1 dL_law_1462 ?_
  refine wl_sld (pc := 1463) X dL_law_1463 (hin 3 (by decide)) ?_
  refine wl_call (pc := 1464) (As := [.int (xs (ix (i + 1))), .int (xs (ix (i + 2))), .int (xs (ix (i + 3)))]) (rest := []) X shsC_nd X.2.2.1.1 (fun a h1 h2 => X.2.2.1.2.2 a h2 h1) X.2.2.2.1.1 dL_law_1464 ml_L_163 ck_X11_lives cv_X11_lives sh_100 rfl (Nat.le_of_ble_eq_true rfl) hcs rfl (Nat.le_of_ble_eq_true rfl) rfl (tX11_lives (ZO Y shsC) (xs (ix (i + 1))) (xs (ix (i + 2))) (xs (ix (i + 3))) (fun _ h => h) hC _ _ e1) ?_
  refine w_aload_n (pc := 1467) 2 X.1 dL_law_1467 rfl ?_
  refine w_aload_n (pc := 1468) 0 X.1 dL_law_1468 rfl ?_
  refine w_iload_n (pc := 1469) 3 X.1 dL_law_1469 rfl ?_
  refine w_iconst (pc := 1470) 1 X.1 dL_law_1470 rfl ?_
  refine w_iadd (pc := 1471) X.1 dL_law_1471 ?_
  refine wl_sld (pc := 1472) X dL_law_1472 (hin 1 (by decide)) ?_
  refine w_aload_n (pc := 1473) 0 X.1 dL_law_1473 rfl ?_
  refine w_iload_n (pc := 1474) 3 X.1 dL_law_1474 rfl ?_
  refine w_iconst (pc := 1475) 2 X.1 dL_law_1475 rfl ?_
  refine w_iadd (pc := 1476) X.1 dL_law_1476 ?_
  refine wl_sld (pc := 1477) X dL_law_1477 (hin 2 (by decide)) ?_
  refine w_aload_n (pc := 1478) 0 X.1 dL_law_1478 rfl ?_
  refine w_iload_n (pc := 1479) 3 X.1 dL_law_1479 rfl ?_
  refine w_iconst (pc := 1480) 3 X.1 dL_law_1480 rfl ?_
  refine w_iadd (pc := 1481) X.1 dL_law_1481 ?_
  refine wl_sld (pc := 1482) X dL_law_1482 (hin 3 (by decide)) ?_
  refine w_imp (fun H h => ⟨h.2, h.1⟩) (Wq := W2 Y shsM shsC hM hC1) ?_
  refine wl_call (pc := 1483) (As := [.int (xs (ix (i + 1))), .int (xs (ix (i + 2))), .int (xs (ix (i + 3)))]) (rest := [.long r]) X shsM_nd X.2.2.1.2.1 X.2.2.1.2.2 X.2.2.2.1.2 dL_law_1483 ml_L_167 ck_X12_lives cv_X12_lives sh_0 rfl (Nat.le_of_ble_eq_true rfl) hcs rfl (Nat.le_of_ble_eq_true rfl) rfl (tX12_lives (ZO Y shsM) (xs (ix (i + 1))) (xs (ix (i + 2))) (xs (ix (i + 3))) (fun _ h => h) hM _ _ e2) ?_
  refine w_imp (fun H h => ⟨h.2, h.1⟩) (Wq := W2 Y shsC shsM hC1 hM1) ?_
  refine w_lcmp (pc := 1486) X.1 dL_law_1486 ?_
  refine w_if_eq (pc := 1487) 1701 X.1 dL_law_1487 rfl (fun _ => ?_) (fun c => absurd (lg_cmp_rr r) c)
  exact kk hC1 hM1 hR
set_option maxRecDepth 20000 in
theorem law_odds {Y : QT} {G : GT} {b L : Nat} {xs : Nat → Int32} {ca sl : Nat} {Rel : Hp → Hp → Prop} (X : CL Y G b L xs) (hcs : ca ≤ 600000 ∧ sl ≤ 7302250) (hs : Sim_odds Rel) (i : Int32) (hin : ∀ k : Nat, k < 6 → inb (i + Int32.ofNat k) L = true) (hC hM : Hp) (hR : Rel hC hM) (kk : ∀ hC hM, Rel hC hM → JW (W2 Y shsC shsM hC hM) Y.1 G ca sl 4 1701 [(0, .ref b), (1, .ref (Y.2.1 100)), (2, .ref (Y.2.1 0)), (3, .int i)] []) : JW (W2 Y shsC shsM hC hM) Y.1 G ca sl 4 1492 [(0, .ref b), (1, .ref (Y.2.1 100)), (2, .ref (Y.2.1 0)), (3, .int i)] [] := by
  obtain ⟨r, hC1, hM1, e1, e2, hR⟩ := hs (xs (ix (i + 1))) (xs (ix (i + 2))) (xs (ix (i + 3))) hC hM hR
  refine w_aload_n (pc := 1492) 1 X.1 dL_law_1492 rfl ?_
  refine w_aload_n (pc := 1493) 0 X.1 dL_law_1493 rfl ?_
  refine w_iload_n (pc := 1494) 3 X.1 dL_law_1494 rfl ?_
  refine w_iconst (pc := 1495) 1 X.1 dL_law_1495 rfl ?_
  refine w_iadd (pc := 1496) X.1 dL_law_1496 ?_
  refine wl_sld (pc := 1497) X dL_law_1497 (hin 1 (by decide)) ?_
  refine w_aload_n (pc := 1498) 0 X.1 dL_law_1498 rfl ?_
  refine w_iload_n (pc := 1499) 3 X.1 dL_law_1499 rfl ?_
  refine w_iconst (pc := 1500) 2 X.1 dL_law_1500 rfl ?_
  refine w_iadd (pc := 1501) X.1 dL_law_1501 ?_
  refine wl_sld (pc := 1502) X dL_law_1502 (hin 2 (by decide)) ?_
  refine w_aload_n (pc := 1503) 0 X.1 dL_law_1503 rfl ?_
  refine w_iload_n (pc := 1504) 3 X.1 dL_law_1504 rfl ?_
  refine w_iconst (pc := 1505) 3 X.1 dL_law_1505 rfl ?_
  refine w_iadd (pc := 1506) X.1 dL_law_1506 ?_
  refine wl_sld (pc := 1507) X dL_law_1507 (hin 3 (by decide)) ?_
  refine wl_call (pc := 1508) (As := [.int (xs (ix (i + 1))), .int (xs (ix (i + 2))), .int (xs (ix (i + 3)))]) (rest := []) X shsC_nd X.2.2.1.1 (fun a h1 h2 => X.2.2.1.2.2 a h2 h1) X.2.2.2.1.1 dL_law_1508 ml_L_168 ck_X11_odds cv_X11_odds sh_100 rfl (Nat.le_of_ble_eq_true rfl) hcs rfl (Nat.le_of_ble_eq_true rfl) rfl (tX11_odds (ZO Y shsC) (xs (ix (i + 1))) (xs (ix (i + 2))) (xs (ix (i + 3))) (fun _ h => h) hC _ _ e1) ?_
  refine w_aload_n (pc := 1511) 2 X.1 dL_law_1511 rfl ?_
  refine w_aload_n (pc := 1512) 0 X.1 dL_law_1512 rfl ?_
  refine w_iload_n (pc := 1513) 3 X.1 dL_law_1513 rfl ?_
  refine w_iconst (pc := 1514) 1 X.1 dL_law_1514 rfl ?_
  refine w_iadd (pc := 1515) X.1 dL_law_1515 ?_
  refine wl_sld (pc := 1516) X dL_law_1516 (hin 1 (by decide)) ?_
  refine w_aload_n (pc := 1517) 0 X.1 dL_law_1517 rfl ?_
  refine w_iload_n (pc := 1518) 3 X.1 dL_law_1518 rfl ?_
  refine w_iconst (pc := 1519) 2 X.1 dL_law_1519 rfl ?_
  refine w_iadd (pc := 1520) X.1 dL_law_1520 ?_
  refine wl_sld (pc := 1521) X dL_law_1521 (hin 2 (by decide)) ?_
  refine w_aload_n (pc := 1522) 0 X.1 dL_law_1522 rfl ?_
  refine w_iload_n (pc := 1523) 3 X.1 dL_law_1523 rfl ?_
  refine w_iconst (pc := 1524) 3 X.1 dL_law_1524 rfl ?_
  refine w_iadd (pc := 1525) X.1 dL_law_1525 ?_
  refine wl_sld (pc := 1526) X dL_law_1526 (hin 3 (by decide)) ?_
  refine w_imp (fun H h => ⟨h.2, h.1⟩) (Wq := W2 Y shsM shsC hM hC1) ?_
  refine wl_call (pc := 1527) (As := [.int (xs (ix (i + 1))), .int (xs (ix (i + 2))), .int (xs (ix (i + 3)))]) (rest := [.long r]) X shsM_nd X.2.2.1.2.1 X.2.2.1.2.2 X.2.2.2.1.2 dL_law_1527 ml_L_171 ck_X12_odds cv_X12_odds sh_0 rfl (Nat.le_of_ble_eq_true rfl) hcs rfl (Nat.le_of_ble_eq_true rfl) rfl (tX12_odds (ZO Y shsM) (xs (ix (i + 1))) (xs (ix (i + 2))) (xs (ix (i + 3))) (fun _ h => h) hM _ _ e2) ?_
  refine w_imp (fun H h => ⟨h.2, h.1⟩) (Wq := W2 Y shsC shsM hC1 hM1) ?_
  refine w_lcmp (pc := 1530) X.1 dL_law_1530 ?_
  refine w_if_eq (pc := 1531) 1701 X.1 dL_law_1531 rfl (fun _ => ?_) (fun c => absurd (lg_cmp_rr r) c)
  exact kk hC1 hM1 hR
set_option maxRecDepth 20000 in
theorem law_life {Y : QT} {G : GT} {b L : Nat} {xs : Nat → Int32} {ca sl : Nat} {Rel : Hp → Hp → Prop} (X : CL Y G b L xs) (hcs : ca ≤ 600000 ∧ sl ≤ 7302250) (hs : Sim_life Rel) (i : Int32) (hin : ∀ k : Nat, k < 6 → inb (i + Int32.ofNat k) L = true) (hC hM : Hp) (hR : Rel hC hM) (kk : ∀ hC hM, Rel hC hM → JW (W2 Y shsC shsM hC hM) Y.1 G ca sl 4 1701 [(0, .ref b), (1, .ref (Y.2.1 100)), (2, .ref (Y.2.1 0)), (3, .int i)] []) : JW (W2 Y shsC shsM hC hM) Y.1 G ca sl 4 1536 [(0, .ref b), (1, .ref (Y.2.1 100)), (2, .ref (Y.2.1 0)), (3, .int i)] [] := by
  obtain ⟨r, hC1, hM1, e1, e2, hR⟩ := hs (xs (ix (i + 1))) (xs (ix (i + 2))) (xs (ix (i + 3))) hC hM hR
  refine w_aload_n (pc := 1536) 1 X.1 dL_law_1536 rfl ?_
  refine w_aload_n (pc := 1537) 0 X.1 dL_law_1537 rfl ?_
  refine w_iload_n (pc := 1538) 3 X.1 dL_law_1538 rfl ?_
  refine w_iconst (pc := 1539) 1 X.1 dL_law_1539 rfl ?_
  refine w_iadd (pc := 1540) X.1 dL_law_1540 ?_
  refine wl_sld (pc := 1541) X dL_law_1541 (hin 1 (by decide)) ?_
  refine w_aload_n (pc := 1542) 0 X.1 dL_law_1542 rfl ?_
  refine w_iload_n (pc := 1543) 3 X.1 dL_law_1543 rfl ?_
  refine w_iconst (pc := 1544) 2 X.1 dL_law_1544 rfl ?_
  refine w_iadd (pc := 1545) X.1 dL_law_1545 ?_
  refine wl_sld (pc := 1546) X dL_law_1546 (hin 2 (by decide)) ?_
  refine w_aload_n (pc := 1547) 0 X.1 dL_law_1547 rfl ?_
  refine w_iload_n (pc := 1548) 3 X.1 dL_law_1548 rfl ?_
  refine w_iconst (pc := 1549) 3 X.1 dL_law_1549 rfl ?_
  refine w_iadd (pc := 1550) X.1 dL_law_1550 ?_
  refine wl_sld (pc := 1551) X dL_law_1551 (hin 3 (by decide)) ?_
  refine wl_call (pc := 1552) (As := [.int (xs (ix (i + 1))), .int (xs (ix (i + 2))), .int (xs (ix (i + 3)))]) (rest := []) X shsC_nd X.2.2.1.1 (fun a h1 h2 => X.2.2.1.2.2 a h2 h1) X.2.2.2.1.1 dL_law_1552 ml_L_172 ck_X11_life cv_X11_life sh_100 rfl (Nat.le_of_ble_eq_true rfl) hcs rfl (Nat.le_of_ble_eq_true rfl) rfl (tX11_life (ZO Y shsC) (xs (ix (i + 1))) (xs (ix (i + 2))) (xs (ix (i + 3))) (fun _ h => h) hC _ _ e1) ?_
  refine w_aload_n (pc := 1555) 2 X.1 dL_law_1555 rfl ?_
  refine w_aload_n (pc := 1556) 0 X.1 dL_law_1556 rfl ?_
  refine w_iload_n (pc := 1557) 3 X.1 dL_law_1557 rfl ?_
  refine w_iconst (pc := 1558) 1 X.1 dL_law_1558 rfl ?_
  refine w_iadd (pc := 1559) X.1 dL_law_1559 ?_
  refine wl_sld (pc := 1560) X dL_law_1560 (hin 1 (by decide)) ?_
  refine w_aload_n (pc := 1561) 0 X.1 dL_law_1561 rfl ?_
  refine w_iload_n (pc := 1562) 3 X.1 dL_law_1562 rfl ?_
  refine w_iconst (pc := 1563) 2 X.1 dL_law_1563 rfl ?_
  refine w_iadd (pc := 1564) X.1 dL_law_1564 ?_
  refine wl_sld (pc := 1565) X dL_law_1565 (hin 2 (by decide)) ?_
  refine w_aload_n (pc := 1566) 0 X.1 dL_law_1566 rfl ?_
  refine w_iload_n (pc := 1567) 3 X.1 dL_law_1567 rfl ?_
  refine w_iconst (pc := 1568) 3 X.1 dL_law_1568 rfl ?_
  refine w_iadd (pc := 1569) X.1 dL_law_1569 ?_
  refine wl_sld (pc := 1570) X dL_law_1570 (hin 3 (by decide)) ?_
  refine w_imp (fun H h => ⟨h.2, h.1⟩) (Wq := W2 Y shsM shsC hM hC1) ?_
  refine wl_call (pc := 1571) (As := [.int (xs (ix (i + 1))), .int (xs (ix (i + 2))), .int (xs (ix (i + 3)))]) (rest := [.int r]) X shsM_nd X.2.2.1.2.1 X.2.2.1.2.2 X.2.2.2.1.2 dL_law_1571 ml_L_175 ck_X12_life cv_X12_life sh_0 rfl (Nat.le_of_ble_eq_true rfl) hcs rfl (Nat.le_of_ble_eq_true rfl) rfl (tX12_life (ZO Y shsM) (xs (ix (i + 1))) (xs (ix (i + 2))) (xs (ix (i + 3))) (fun _ h => h) hM _ _ e2) ?_
  refine w_imp (fun H h => ⟨h.2, h.1⟩) (Wq := W2 Y shsC shsM hC1 hM1) ?_
  refine w_icmp_eq (pc := 1574) 1701 X.1 dL_law_1574 rfl (fun _ => ?_) (fun c => absurd rfl c)
  exact kk hC1 hM1 hR
set_option maxRecDepth 20000 in
theorem law_chance {Y : QT} {G : GT} {b L : Nat} {xs : Nat → Int32} {ca sl : Nat} {Rel : Hp → Hp → Prop} (X : CL Y G b L xs) (hcs : ca ≤ 600000 ∧ sl ≤ 7302250) (hs : Sim_chance Rel) (i : Int32) (hin : ∀ k : Nat, k < 6 → inb (i + Int32.ofNat k) L = true) (hC hM : Hp) (hR : Rel hC hM) (kk : ∀ hC hM, Rel hC hM → JW (W2 Y shsC shsM hC hM) Y.1 G ca sl 4 1701 [(0, .ref b), (1, .ref (Y.2.1 100)), (2, .ref (Y.2.1 0)), (3, .int i)] []) : JW (W2 Y shsC shsM hC hM) Y.1 G ca sl 4 1579 [(0, .ref b), (1, .ref (Y.2.1 100)), (2, .ref (Y.2.1 0)), (3, .int i)] [] := by
  obtain ⟨r, hC1, hM1, e1, e2, hR⟩ := hs (xs (ix (i + 1))) (xs (ix (i + 2))) (xs (ix (i + 3))) (xs (ix (i + 4))) hC hM hR
  refine w_aload_n (pc := 1579) 1 X.1 dL_law_1579 rfl ?_
  refine w_aload_n (pc := 1580) 0 X.1 dL_law_1580 rfl ?_
  refine w_iload_n (pc := 1581) 3 X.1 dL_law_1581 rfl ?_
  refine w_iconst (pc := 1582) 1 X.1 dL_law_1582 rfl ?_
  refine w_iadd (pc := 1583) X.1 dL_law_1583 ?_
  refine wl_sld (pc := 1584) X dL_law_1584 (hin 1 (by decide)) ?_
  refine w_aload_n (pc := 1585) 0 X.1 dL_law_1585 rfl ?_
  refine w_iload_n (pc := 1586) 3 X.1 dL_law_1586 rfl ?_
  refine w_iconst (pc := 1587) 2 X.1 dL_law_1587 rfl ?_
  refine w_iadd (pc := 1588) X.1 dL_law_1588 ?_
  refine wl_sld (pc := 1589) X dL_law_1589 (hin 2 (by decide)) ?_
  refine w_aload_n (pc := 1590) 0 X.1 dL_law_1590 rfl ?_
  refine w_iload_n (pc := 1591) 3 X.1 dL_law_1591 rfl ?_
  refine w_iconst (pc := 1592) 3 X.1 dL_law_1592 rfl ?_
  refine w_iadd (pc := 1593) X.1 dL_law_1593 ?_
  refine wl_sld (pc := 1594) X dL_law_1594 (hin 3 (by decide)) ?_
  refine w_aload_n (pc := 1595) 0 X.1 dL_law_1595 rfl ?_
  refine w_iload_n (pc := 1596) 3 X.1 dL_law_1596 rfl ?_
  refine w_iconst (pc := 1597) 4 X.1 dL_law_1597 rfl ?_
  refine w_iadd (pc := 1598) X.1 dL_law_1598 ?_
  refine wl_sld (pc := 1599) X dL_law_1599 (hin 4 (by decide)) ?_
  refine wl_call (pc := 1600) (As := [.int (xs (ix (i + 1))), .int (xs (ix (i + 2))), .int (xs (ix (i + 3))), .int (xs (ix (i + 4)))]) (rest := []) X shsC_nd X.2.2.1.1 (fun a h1 h2 => X.2.2.1.2.2 a h2 h1) X.2.2.2.1.1 dL_law_1600 ml_L_176 ck_X11_chance cv_X11_chance sh_100 rfl (Nat.le_of_ble_eq_true rfl) hcs rfl (Nat.le_of_ble_eq_true rfl) rfl (tX11_chance (ZO Y shsC) (xs (ix (i + 1))) (xs (ix (i + 2))) (xs (ix (i + 3))) (xs (ix (i + 4))) (fun _ h => h) hC _ _ e1) ?_
  refine w_aload_n (pc := 1603) 2 X.1 dL_law_1603 rfl ?_
  refine w_aload_n (pc := 1604) 0 X.1 dL_law_1604 rfl ?_
  refine w_iload_n (pc := 1605) 3 X.1 dL_law_1605 rfl ?_
  refine w_iconst (pc := 1606) 1 X.1 dL_law_1606 rfl ?_
  refine w_iadd (pc := 1607) X.1 dL_law_1607 ?_
  refine wl_sld (pc := 1608) X dL_law_1608 (hin 1 (by decide)) ?_
  refine w_aload_n (pc := 1609) 0 X.1 dL_law_1609 rfl ?_
  refine w_iload_n (pc := 1610) 3 X.1 dL_law_1610 rfl ?_
  refine w_iconst (pc := 1611) 2 X.1 dL_law_1611 rfl ?_
  refine w_iadd (pc := 1612) X.1 dL_law_1612 ?_
  refine wl_sld (pc := 1613) X dL_law_1613 (hin 2 (by decide)) ?_
  refine w_aload_n (pc := 1614) 0 X.1 dL_law_1614 rfl ?_
  refine w_iload_n (pc := 1615) 3 X.1 dL_law_1615 rfl ?_
  refine w_iconst (pc := 1616) 3 X.1 dL_law_1616 rfl ?_
  refine w_iadd (pc := 1617) X.1 dL_law_1617 ?_
  refine wl_sld (pc := 1618) X dL_law_1618 (hin 3 (by decide)) ?_
  refine w_aload_n (pc := 1619) 0 X.1 dL_law_1619 rfl ?_
  refine w_iload_n (pc := 1620) 3 X.1 dL_law_1620 rfl ?_
  refine w_iconst (pc := 1621) 4 X.1 dL_law_1621 rfl ?_
  refine w_iadd (pc := 1622) X.1 dL_law_1622 ?_
  refine wl_sld (pc := 1623) X dL_law_1623 (hin 4 (by decide)) ?_
  refine w_imp (fun H h => ⟨h.2, h.1⟩) (Wq := W2 Y shsM shsC hM hC1) ?_
  refine wl_call (pc := 1624) (As := [.int (xs (ix (i + 1))), .int (xs (ix (i + 2))), .int (xs (ix (i + 3))), .int (xs (ix (i + 4)))]) (rest := [.int r]) X shsM_nd X.2.2.1.2.1 X.2.2.1.2.2 X.2.2.2.1.2 dL_law_1624 ml_L_179 ck_X12_chance cv_X12_chance sh_0 rfl (Nat.le_of_ble_eq_true rfl) hcs rfl (Nat.le_of_ble_eq_true rfl) rfl (tX12_chance (ZO Y shsM) (xs (ix (i + 1))) (xs (ix (i + 2))) (xs (ix (i + 3))) (xs (ix (i + 4))) (fun _ h => h) hM _ _ e2) ?_
  refine w_imp (fun H h => ⟨h.2, h.1⟩) (Wq := W2 Y shsC shsM hC1 hM1) ?_
  refine w_icmp_eq (pc := 1627) 1701 X.1 dL_law_1627 rfl (fun _ => ?_) (fun c => absurd rfl c)
  exact kk hC1 hM1 hR
set_option maxRecDepth 20000 in
theorem law_hold {Y : QT} {G : GT} {b L : Nat} {xs : Nat → Int32} {ca sl : Nat} {Rel : Hp → Hp → Prop} (X : CL Y G b L xs) (hcs : ca ≤ 600000 ∧ sl ≤ 7302250) (hs : Sim_hold Rel) (i : Int32) (hin : ∀ k : Nat, k < 6 → inb (i + Int32.ofNat k) L = true) (hC hM : Hp) (hR : Rel hC hM) (kk : ∀ hC hM, Rel hC hM → JW (W2 Y shsC shsM hC hM) Y.1 G ca sl 4 1701 [(0, .ref b), (1, .ref (Y.2.1 100)), (2, .ref (Y.2.1 0)), (3, .int i)] []) : JW (W2 Y shsC shsM hC hM) Y.1 G ca sl 4 1632 [(0, .ref b), (1, .ref (Y.2.1 100)), (2, .ref (Y.2.1 0)), (3, .int i)] [] := by
  obtain ⟨r, hC1, hM1, e1, e2, hR⟩ := hs (xs (ix (i + 1))) hC hM hR
  refine w_aload_n (pc := 1632) 1 X.1 dL_law_1632 rfl ?_
  refine w_aload_n (pc := 1633) 0 X.1 dL_law_1633 rfl ?_
  refine w_iload_n (pc := 1634) 3 X.1 dL_law_1634 rfl ?_
  refine w_iconst (pc := 1635) 1 X.1 dL_law_1635 rfl ?_
  refine w_iadd (pc := 1636) X.1 dL_law_1636 ?_
  refine wl_sld (pc := 1637) X dL_law_1637 (hin 1 (by decide)) ?_
  refine wl_call (pc := 1638) (As := [.int (xs (ix (i + 1)))]) (rest := []) X shsC_nd X.2.2.1.1 (fun a h1 h2 => X.2.2.1.2.2 a h2 h1) X.2.2.2.1.1 dL_law_1638 ml_L_180 ck_X11_hold cv_X11_hold sh_100 rfl (Nat.le_of_ble_eq_true rfl) hcs rfl (Nat.le_of_ble_eq_true rfl) rfl (tX11_hold (ZO Y shsC) (xs (ix (i + 1))) (fun _ h => h) hC _ _ e1) ?_
  refine w_aload_n (pc := 1641) 2 X.1 dL_law_1641 rfl ?_
  refine w_aload_n (pc := 1642) 0 X.1 dL_law_1642 rfl ?_
  refine w_iload_n (pc := 1643) 3 X.1 dL_law_1643 rfl ?_
  refine w_iconst (pc := 1644) 1 X.1 dL_law_1644 rfl ?_
  refine w_iadd (pc := 1645) X.1 dL_law_1645 ?_
  refine wl_sld (pc := 1646) X dL_law_1646 (hin 1 (by decide)) ?_
  refine w_imp (fun H h => ⟨h.2, h.1⟩) (Wq := W2 Y shsM shsC hM hC1) ?_
  refine wl_call (pc := 1647) (As := [.int (xs (ix (i + 1)))]) (rest := [.int r]) X shsM_nd X.2.2.1.2.1 X.2.2.1.2.2 X.2.2.2.1.2 dL_law_1647 ml_L_184 ck_X12_hold cv_X12_hold sh_0 rfl (Nat.le_of_ble_eq_true rfl) hcs rfl (Nat.le_of_ble_eq_true rfl) rfl (tX12_hold (ZO Y shsM) (xs (ix (i + 1))) (fun _ h => h) hM _ _ e2) ?_
  refine w_imp (fun H h => ⟨h.2, h.1⟩) (Wq := W2 Y shsC shsM hC1 hM1) ?_
  refine w_icmp_eq (pc := 1650) 1701 X.1 dL_law_1650 rfl (fun _ => ?_) (fun c => absurd rfl c)
  exact kk hC1 hM1 hR
set_option maxRecDepth 20000 in
theorem law_restore {Y : QT} {G : GT} {b L : Nat} {xs : Nat → Int32} {ca sl : Nat} {Rel : Hp → Hp → Prop} (X : CL Y G b L xs) (hcs : ca ≤ 600000 ∧ sl ≤ 7302250) (hs : Sim_restore Rel) (i : Int32) (hin : ∀ k : Nat, k < 6 → inb (i + Int32.ofNat k) L = true) (hC hM : Hp) (hR : Rel hC hM) (kk : ∀ hC hM, Rel hC hM → JW (W2 Y shsC shsM hC hM) Y.1 G ca sl 4 1701 [(0, .ref b), (1, .ref (Y.2.1 100)), (2, .ref (Y.2.1 0)), (3, .int i)] []) : JW (W2 Y shsC shsM hC hM) Y.1 G ca sl 4 1655 [(0, .ref b), (1, .ref (Y.2.1 100)), (2, .ref (Y.2.1 0)), (3, .int i)] [] := by
  obtain ⟨r, hC1, hM1, e1, e2, hR⟩ := hs (xs (ix (i + 1))) hC hM hR
  refine w_aload_n (pc := 1655) 1 X.1 dL_law_1655 rfl ?_
  refine w_aload_n (pc := 1656) 0 X.1 dL_law_1656 rfl ?_
  refine w_iload_n (pc := 1657) 3 X.1 dL_law_1657 rfl ?_
  refine w_iconst (pc := 1658) 1 X.1 dL_law_1658 rfl ?_
  refine w_iadd (pc := 1659) X.1 dL_law_1659 ?_
  refine wl_sld (pc := 1660) X dL_law_1660 (hin 1 (by decide)) ?_
  refine wl_call (pc := 1661) (As := [.int (xs (ix (i + 1)))]) (rest := []) X shsC_nd X.2.2.1.1 (fun a h1 h2 => X.2.2.1.2.2 a h2 h1) X.2.2.2.1.1 dL_law_1661 ml_L_185 ck_X11_restore cv_X11_restore sh_100 rfl (Nat.le_of_ble_eq_true rfl) hcs rfl (Nat.le_of_ble_eq_true rfl) rfl (tX11_restore (ZO Y shsC) (xs (ix (i + 1))) (fun _ h => h) hC _ _ e1) ?_
  refine w_aload_n (pc := 1664) 2 X.1 dL_law_1664 rfl ?_
  refine w_aload_n (pc := 1665) 0 X.1 dL_law_1665 rfl ?_
  refine w_iload_n (pc := 1666) 3 X.1 dL_law_1666 rfl ?_
  refine w_iconst (pc := 1667) 1 X.1 dL_law_1667 rfl ?_
  refine w_iadd (pc := 1668) X.1 dL_law_1668 ?_
  refine wl_sld (pc := 1669) X dL_law_1669 (hin 1 (by decide)) ?_
  refine w_imp (fun H h => ⟨h.2, h.1⟩) (Wq := W2 Y shsM shsC hM hC1) ?_
  refine wl_call (pc := 1670) (As := [.int (xs (ix (i + 1)))]) (rest := [.int r]) X shsM_nd X.2.2.1.2.1 X.2.2.1.2.2 X.2.2.2.1.2 dL_law_1670 ml_L_188 ck_X12_restore cv_X12_restore sh_0 rfl (Nat.le_of_ble_eq_true rfl) hcs rfl (Nat.le_of_ble_eq_true rfl) rfl (tX12_restore (ZO Y shsM) (xs (ix (i + 1))) (fun _ h => h) hM _ _ e2) ?_
  refine w_imp (fun H h => ⟨h.2, h.1⟩) (Wq := W2 Y shsC shsM hC1 hM1) ?_
  refine w_icmp_eq (pc := 1673) 1701 X.1 dL_law_1673 rfl (fun _ => ?_) (fun c => absurd rfl c)
  exact kk hC1 hM1 hR
set_option maxRecDepth 20000 in
theorem law_count {Y : QT} {G : GT} {b L : Nat} {xs : Nat → Int32} {ca sl : Nat} {Rel : Hp → Hp → Prop} (X : CL Y G b L xs) (hcs : ca ≤ 600000 ∧ sl ≤ 7302250) (hs : Sim_count Rel) (i : Int32) (hin : ∀ k : Nat, k < 6 → inb (i + Int32.ofNat k) L = true) (hC hM : Hp) (hR : Rel hC hM) (kk : ∀ hC hM, Rel hC hM → JW (W2 Y shsC shsM hC hM) Y.1 G ca sl 4 1701 [(0, .ref b), (1, .ref (Y.2.1 100)), (2, .ref (Y.2.1 0)), (3, .int i)] []) : JW (W2 Y shsC shsM hC hM) Y.1 G ca sl 4 1678 [(0, .ref b), (1, .ref (Y.2.1 100)), (2, .ref (Y.2.1 0)), (3, .int i)] [] := by
  obtain ⟨r, hC1, hM1, e1, e2, hR⟩ := hs (xs (ix (i + 1))) hC hM hR
  refine w_aload_n (pc := 1678) 1 X.1 dL_law_1678 rfl ?_
  refine w_aload_n (pc := 1679) 0 X.1 dL_law_1679 rfl ?_
  refine w_iload_n (pc := 1680) 3 X.1 dL_law_1680 rfl ?_
  refine w_iconst (pc := 1681) 1 X.1 dL_law_1681 rfl ?_
  refine w_iadd (pc := 1682) X.1 dL_law_1682 ?_
  refine wl_sld (pc := 1683) X dL_law_1683 (hin 1 (by decide)) ?_
  refine wl_call (pc := 1684) (As := [.int (xs (ix (i + 1)))]) (rest := []) X shsC_nd X.2.2.1.1 (fun a h1 h2 => X.2.2.1.2.2 a h2 h1) X.2.2.2.1.1 dL_law_1684 ml_L_189 ck_X11_count cv_X11_count sh_100 rfl (Nat.le_of_ble_eq_true rfl) hcs rfl (Nat.le_of_ble_eq_true rfl) rfl (tX11_count (ZO Y shsC) (xs (ix (i + 1))) (fun _ h => h) hC _ _ e1) ?_
  refine w_aload_n (pc := 1687) 2 X.1 dL_law_1687 rfl ?_
  refine w_aload_n (pc := 1688) 0 X.1 dL_law_1688 rfl ?_
  refine w_iload_n (pc := 1689) 3 X.1 dL_law_1689 rfl ?_
  refine w_iconst (pc := 1690) 1 X.1 dL_law_1690 rfl ?_
  refine w_iadd (pc := 1691) X.1 dL_law_1691 ?_
  refine wl_sld (pc := 1692) X dL_law_1692 (hin 1 (by decide)) ?_
  refine w_imp (fun H h => ⟨h.2, h.1⟩) (Wq := W2 Y shsM shsC hM hC1) ?_
  refine wl_call (pc := 1693) (As := [.int (xs (ix (i + 1)))]) (rest := [.int r]) X shsM_nd X.2.2.1.2.1 X.2.2.1.2.2 X.2.2.2.1.2 dL_law_1693 ml_L_192 ck_X12_count cv_X12_count sh_0 rfl (Nat.le_of_ble_eq_true rfl) hcs rfl (Nat.le_of_ble_eq_true rfl) rfl (tX12_count (ZO Y shsM) (xs (ix (i + 1))) (fun _ h => h) hM _ _ e2) ?_
  refine w_imp (fun H h => ⟨h.2, h.1⟩) (Wq := W2 Y shsC shsM hC1 hM1) ?_
  refine w_icmp_eq (pc := 1696) 1701 X.1 dL_law_1696 rfl (fun _ => ?_) (fun c => absurd rfl c)
  exact kk hC1 hM1 hR
def Sims (Rel : Hp → Hp → Prop) : Prop := Sim_feed Rel ∧ Sim_back Rel ∧ Sim_read Rel ∧ Sim_place Rel ∧ Sim_letter Rel ∧ Sim_dies Rel ∧ Sim_fee Rel ∧ Sim_clerk Rel ∧ Sim_barred Rel ∧ Sim_rumour Rel ∧ Sim_death Rel ∧ Sim_takeBack Rel ∧ Sim_early Rel ∧ Sim_date Rel ∧ Sim_flood Rel ∧ Sim_annul Rel ∧ Sim_fact Rel ∧ Sim_weighs Rel ∧ Sim_run Rel ∧ Sim_opened Rel ∧ Sim_why Rel ∧ Sim_harm Rel ∧ Sim_tooSoon Rel ∧ Sim_wrong Rel ∧ Sim_late Rel ∧ Sim_watch Rel ∧ Sim_gain Rel ∧ Sim_income Rel ∧ Sim_next Rel ∧ Sim_looks Rel ∧ Sim_need Rel ∧ Sim_asks Rel ∧ Sim_ring Rel ∧ Sim_rings Rel ∧ Sim_burn Rel ∧ Sim_future Rel ∧ Sim_lives Rel ∧ Sim_odds Rel ∧ Sim_life Rel ∧ Sim_chance Rel ∧ Sim_hold Rel ∧ Sim_restore Rel ∧ Sim_count Rel
theorem law_cases (x : Int32) (h : ¬ (x.toInt < 0 ∨ 42 < x.toInt)) : x = 0 ∨ x = 1 ∨ x = 2 ∨ x = 3 ∨ x = 4 ∨ x = 5 ∨ x = 6 ∨ x = 7 ∨ x = 8 ∨ x = 9 ∨ x = 10 ∨ x = 11 ∨ x = 12 ∨ x = 13 ∨ x = 14 ∨ x = 15 ∨ x = 16 ∨ x = 17 ∨ x = 18 ∨ x = 19 ∨ x = 20 ∨ x = 21 ∨ x = 22 ∨ x = 23 ∨ x = 24 ∨ x = 25 ∨ x = 26 ∨ x = 27 ∨ x = 28 ∨ x = 29 ∨ x = 30 ∨ x = 31 ∨ x = 32 ∨ x = 33 ∨ x = 34 ∨ x = 35 ∨ x = 36 ∨ x = 37 ∨ x = 38 ∨ x = 39 ∨ x = 40 ∨ x = 41 ∨ x = 42 := by
  have hx : ∀ k : Int32, x.toInt = k.toInt → x = k := fun k e => Int32.toInt_inj.mp e
  obtain ⟨n, hn⟩ : ∃ n : Nat, x.toInt = (n : Int) := ⟨x.toInt.toNat, by omega⟩
  have hn42 : n ≤ 42 := by omega
  have key : x = Int32.ofNat n := hx _ (by rw [hn]; exact (nI_toInt (by omega)).symm)
  rcases (show n = 0 ∨ n = 1 ∨ n = 2 ∨ n = 3 ∨ n = 4 ∨ n = 5 ∨ n = 6 ∨ n = 7 ∨ n = 8 ∨ n = 9 ∨ n = 10 ∨ n = 11 ∨ n = 12 ∨ n = 13 ∨ n = 14 ∨ n = 15 ∨ n = 16 ∨ n = 17 ∨ n = 18 ∨ n = 19 ∨ n = 20 ∨ n = 21 ∨ n = 22 ∨ n = 23 ∨ n = 24 ∨ n = 25 ∨ n = 26 ∨ n = 27 ∨ n = 28 ∨ n = 29 ∨ n = 30 ∨ n = 31 ∨ n = 32 ∨ n = 33 ∨ n = 34 ∨ n = 35 ∨ n = 36 ∨ n = 37 ∨ n = 38 ∨ n = 39 ∨ n = 40 ∨ n = 41 ∨ n = 42 by omega) with rfl | rfl | rfl | rfl | rfl | rfl | rfl | rfl | rfl | rfl | rfl | rfl | rfl | rfl | rfl | rfl | rfl | rfl | rfl | rfl | rfl | rfl | rfl | rfl | rfl | rfl | rfl | rfl | rfl | rfl | rfl | rfl | rfl | rfl | rfl | rfl | rfl | rfl | rfl | rfl | rfl | rfl | rfl <;> simp [key]
theorem law_gt {L j : Nat} (hL : L ≤ 3072) (hj : j ≤ L + 6) (h : L < j + 6) : Int32.ofNat L - 6 < nI j := by
  rw [Int32.lt_iff_toInt_lt]
  have e1 : (Int32.ofNat L - 6).toInt = (L : Int) - 6 := pk_sub_toInt (a := L) (b := 6) (by omega) (by omega)
  have e2 : (nI j).toInt = (j : Int) := nI_toInt (by omega)
  rw [e1, e2]
  omega
theorem inb_law {L i : Nat} (hL : L ≤ 3072) (h : i + 6 ≤ L) : ∀ k : Nat, k < 6 → inb (nI i + Int32.ofNat k) L = true := by
  intro k hk
  have e : nI i + Int32.ofNat k = nI (i + k) := nI_add i k
  rw [e]
  have := vp_in_iff.mp (vp_in_nI (show i + k < L by omega) (by omega))
  exact decide_eq_true this
theorem law_end {Y : QT} {G : GT} {b L : Nat} {xs : Nat → Int32} {ca sl : Nat} {hC hM : Hp} (X : CL Y G b L xs) (hcs : ca ≤ 600000 ∧ sl ≤ 7302250) (hA : ∀ a, G.2.2.1 a ↔ G.1.2.2.2.1.heap.size ≤ a) (hQ : G.2.2.2.2.2 = lw_Z G.2.1.2.1 #[Value.ref b] G.1.2.2.2.1) (hargs : G.2.1.1 = #[Value.ref b]) {lv : List (Nat × Value)} : JW (W2 Y shsC shsM hC hM) Y.1 G ca sl 4 1707 lv [] := by
  refine w_iconst (pc := 1707) 1 X.1 dL_law_1707 rfl ?_
  intro H locs ls hP hS hl
  obtain ⟨hRm, hret, hlk⟩ := X.2.2.2.2.2.2
  rw [hQ, hargs, hRm]
  refine va_forget (fun q hq => (hA _).mp (hS.2.2 q hq)) ?_
  refine W.widen (k := 600000) (n := 7302250) hcs.1 hcs.2 ?_
  exact lw_ret X.1.1 X.1.2.1 hret hlk dL_law_1708
set_option maxRecDepth 20000 in
theorem law_loop {Y : QT} {G : GT} {b L : Nat} {xs : Nat → Int32} {ca sl : Nat} {Rel : Hp → Hp → Prop} (hL : L ≤ 3072) (X : CL Y G b L xs) (hcs : ca ≤ 600000 ∧ sl ≤ 7302250) (hA : ∀ a, G.2.2.1 a ↔ G.1.2.2.2.1.heap.size ≤ a) (hQ : G.2.2.2.2.2 = lw_Z G.2.1.2.1 #[Value.ref b] G.1.2.2.2.1) (hargs : G.2.1.1 = #[Value.ref b]) (hs : Sims Rel) : ∀ (n j : Nat), j ≤ L + 6 → L + 6 - j < n → ∀ hC hM, Rel hC hM → JW (W2 Y shsC shsM hC hM) Y.1 G ca sl 4 18 [(0, .ref b), (1, .ref (Y.2.1 100)), (2, .ref (Y.2.1 0)), (3, .int (nI j))] [] := by
  intro n
  induction n with
  | zero => intro j _ hn; omega
  | succ n ih =>
    intro j hj hn hC hM hR
    generalize hi : nI j = i
    refine w_iload_n (pc := 18) 3 X.1 dL_law_18 rfl ?_
    refine w_aload_n (pc := 19) 0 X.1 dL_law_19 rfl ?_
    refine wl_slen (pc := 20) X dL_law_20 ?_
    refine w_bipush (pc := 21) 6 X.1 dL_law_21 rfl ?_
    refine w_isub (pc := 23) X.1 dL_law_23 ?_
    refine w_icmp_gt (pc := 24) 1707 X.1 dL_law_24 rfl (fun _ => law_end X hcs hA hQ hargs) (fun c => ?_)
    have hjl : j + 6 ≤ L := by
      rcases Nat.lt_or_ge L (j + 6) with q | q
      · refine absurd ?_ c
        rw [← hi]
        exact law_gt hL hj q
      · exact q
    have hin : ∀ k : Nat, k < 6 → inb (i + Int32.ofNat k) L = true := by rw [← hi]; exact inb_law hL hjl
    have h0 : inb i L = true := by
      have := hin 0 (by decide)
      rwa [show i + Int32.ofNat 0 = i by simp] at this
    have next : ∀ hC hM, Rel hC hM → JW (W2 Y shsC shsM hC hM) Y.1 G ca sl 4 1701 [(0, .ref b), (1, .ref (Y.2.1 100)), (2, .ref (Y.2.1 0)), (3, .int i)] [] := by
      intro hC hM hR
      refine w_iinc (pc := 1701) 3 (i + 6) [(3, .int (i + 6)), (0, .ref b), (1, .ref (Y.2.1 100)), (2, .ref (Y.2.1 0))] X.1 dL_law_1701 rfl rfl (by decide) rfl ?_
      refine w_goto (pc := 1704) 18 X.1 dL_law_1704 rfl ?_
      refine w_lv [(0, .ref b), (1, .ref (Y.2.1 100)), (2, .ref (Y.2.1 0)), (3, .int (i + 6))] [1, 2, 3, 0] rfl ?_
      have e : i + 6 = nI (j + 6) := by rw [← hi]; exact nI_add j 6
      rw [e]
      exact ih (j + 6) (by omega) (by omega) hC hM hR
    refine w_aload_n (pc := 27) 0 X.1 dL_law_27 rfl ?_
    refine w_iload_n (pc := 28) 3 X.1 dL_law_28 rfl ?_
    refine wl_sld (pc := 29) X dL_law_29 h0 ?_
    refine w_bipush (pc := 30) 63 X.1 dL_law_30 rfl ?_
    refine w_iand (pc := 32) X.1 dL_law_32 ?_
    by_cases c0 : xs (ix i) &&& 63 = 0
    · refine w_tabi (pc := 33) (off := 187) (tgt := 220) X.1 dL_law_33 (by rw [c0]; decide) (by rw [c0]; decide) (by rw [c0]; rfl) rfl ?_
      exact law_feed X hcs hs.1 i hin hC hM hR (fun hC hM hR => next hC hM hR)
    by_cases c1 : xs (ix i) &&& 63 = 1
    · refine w_tabi (pc := 33) (off := 250) (tgt := 283) X.1 dL_law_33 (by rw [c1]; decide) (by rw [c1]; decide) (by rw [c1]; rfl) rfl ?_
      exact law_back X hcs hs.2.1 i hin hC hM hR (fun hC hM hR => next hC hM hR)
    by_cases c2 : xs (ix i) &&& 63 = 2
    · refine w_tabi (pc := 33) (off := 273) (tgt := 306) X.1 dL_law_33 (by rw [c2]; decide) (by rw [c2]; decide) (by rw [c2]; rfl) rfl ?_
      exact law_read X hcs hs.2.2.1 i hin hC hM hR (fun hC hM hR => next hC hM hR)
    by_cases c3 : xs (ix i) &&& 63 = 3
    · refine w_tabi (pc := 33) (off := 286) (tgt := 319) X.1 dL_law_33 (by rw [c3]; decide) (by rw [c3]; decide) (by rw [c3]; rfl) rfl ?_
      exact law_place X hcs hs.2.2.2.1 i hin hC hM hR (fun hC hM hR => next hC hM hR)
    by_cases c4 : xs (ix i) &&& 63 = 4
    · refine w_tabi (pc := 33) (off := 299) (tgt := 332) X.1 dL_law_33 (by rw [c4]; decide) (by rw [c4]; decide) (by rw [c4]; rfl) rfl ?_
      exact law_letter X hcs hs.2.2.2.2.1 i hin hC hM hR (fun hC hM hR => next hC hM hR)
    by_cases c5 : xs (ix i) &&& 63 = 5
    · refine w_tabi (pc := 33) (off := 332) (tgt := 365) X.1 dL_law_33 (by rw [c5]; decide) (by rw [c5]; decide) (by rw [c5]; rfl) rfl ?_
      exact law_dies X hcs hs.2.2.2.2.2.1 i hin hC hM hR (fun hC hM hR => next hC hM hR)
    by_cases c6 : xs (ix i) &&& 63 = 6
    · refine w_tabi (pc := 33) (off := 365) (tgt := 398) X.1 dL_law_33 (by rw [c6]; decide) (by rw [c6]; decide) (by rw [c6]; rfl) rfl ?_
      exact law_fee X hcs hs.2.2.2.2.2.2.1 i hin hC hM hR (fun hC hM hR => next hC hM hR)
    by_cases c7 : xs (ix i) &&& 63 = 7
    · refine w_tabi (pc := 33) (off := 398) (tgt := 431) X.1 dL_law_33 (by rw [c7]; decide) (by rw [c7]; decide) (by rw [c7]; rfl) rfl ?_
      exact law_clerk X hcs hs.2.2.2.2.2.2.2.1 i hin hC hM hR (fun hC hM hR => next hC hM hR)
    by_cases c8 : xs (ix i) &&& 63 = 8
    · refine w_tabi (pc := 33) (off := 421) (tgt := 454) X.1 dL_law_33 (by rw [c8]; decide) (by rw [c8]; decide) (by rw [c8]; rfl) rfl ?_
      exact law_barred X hcs hs.2.2.2.2.2.2.2.2.1 i hin hC hM hR (fun hC hM hR => next hC hM hR)
    by_cases c9 : xs (ix i) &&& 63 = 9
    · refine w_tabi (pc := 33) (off := 454) (tgt := 487) X.1 dL_law_33 (by rw [c9]; decide) (by rw [c9]; decide) (by rw [c9]; rfl) rfl ?_
      exact law_rumour X hcs hs.2.2.2.2.2.2.2.2.2.1 i hin hC hM hR (fun hC hM hR => next hC hM hR)
    by_cases c10 : xs (ix i) &&& 63 = 10
    · refine w_tabi (pc := 33) (off := 497) (tgt := 530) X.1 dL_law_33 (by rw [c10]; decide) (by rw [c10]; decide) (by rw [c10]; rfl) rfl ?_
      exact law_death X hcs hs.2.2.2.2.2.2.2.2.2.2.1 i hin hC hM hR (fun hC hM hR => next hC hM hR)
    by_cases c11 : xs (ix i) &&& 63 = 11
    · refine w_tabi (pc := 33) (off := 530) (tgt := 563) X.1 dL_law_33 (by rw [c11]; decide) (by rw [c11]; decide) (by rw [c11]; rfl) rfl ?_
      exact law_takeBack X hcs hs.2.2.2.2.2.2.2.2.2.2.2.1 i hin hC hM hR (fun hC hM hR => next hC hM hR)
    by_cases c12 : xs (ix i) &&& 63 = 12
    · refine w_tabi (pc := 33) (off := 563) (tgt := 596) X.1 dL_law_33 (by rw [c12]; decide) (by rw [c12]; decide) (by rw [c12]; rfl) rfl ?_
      exact law_early X hcs hs.2.2.2.2.2.2.2.2.2.2.2.2.1 i hin hC hM hR (fun hC hM hR => next hC hM hR)
    by_cases c13 : xs (ix i) &&& 63 = 13
    · refine w_tabi (pc := 33) (off := 596) (tgt := 629) X.1 dL_law_33 (by rw [c13]; decide) (by rw [c13]; decide) (by rw [c13]; rfl) rfl ?_
      exact law_date X hcs hs.2.2.2.2.2.2.2.2.2.2.2.2.2.1 i hin hC hM hR (fun hC hM hR => next hC hM hR)
    by_cases c14 : xs (ix i) &&& 63 = 14
    · refine w_tabi (pc := 33) (off := 639) (tgt := 672) X.1 dL_law_33 (by rw [c14]; decide) (by rw [c14]; decide) (by rw [c14]; rfl) rfl ?_
      exact law_flood X hcs hs.2.2.2.2.2.2.2.2.2.2.2.2.2.2.1 i hin hC hM hR (fun hC hM hR => next hC hM hR)
    by_cases c15 : xs (ix i) &&& 63 = 15
    · refine w_tabi (pc := 33) (off := 672) (tgt := 705) X.1 dL_law_33 (by rw [c15]; decide) (by rw [c15]; decide) (by rw [c15]; rfl) rfl ?_
      exact law_annul X hcs hs.2.2.2.2.2.2.2.2.2.2.2.2.2.2.2.1 i hin hC hM hR (fun hC hM hR => next hC hM hR)
    by_cases c16 : xs (ix i) &&& 63 = 16
    · refine w_tabi (pc := 33) (off := 695) (tgt := 728) X.1 dL_law_33 (by rw [c16]; decide) (by rw [c16]; decide) (by rw [c16]; rfl) rfl ?_
      exact law_fact X hcs hs.2.2.2.2.2.2.2.2.2.2.2.2.2.2.2.2.1 i hin hC hM hR (fun hC hM hR => next hC hM hR)
    by_cases c17 : xs (ix i) &&& 63 = 17
    · refine w_tabi (pc := 33) (off := 728) (tgt := 761) X.1 dL_law_33 (by rw [c17]; decide) (by rw [c17]; decide) (by rw [c17]; rfl) rfl ?_
      exact law_weighs X hcs hs.2.2.2.2.2.2.2.2.2.2.2.2.2.2.2.2.2.1 i hin hC hM hR (fun hC hM hR => next hC hM hR)
    by_cases c18 : xs (ix i) &&& 63 = 18
    · refine w_tabi (pc := 33) (off := 771) (tgt := 804) X.1 dL_law_33 (by rw [c18]; decide) (by rw [c18]; decide) (by rw [c18]; rfl) rfl ?_
      exact law_run X hcs hs.2.2.2.2.2.2.2.2.2.2.2.2.2.2.2.2.2.2.1 i hin hC hM hR (fun hC hM hR => next hC hM hR)
    by_cases c19 : xs (ix i) &&& 63 = 19
    · refine w_tabi (pc := 33) (off := 824) (tgt := 857) X.1 dL_law_33 (by rw [c19]; decide) (by rw [c19]; decide) (by rw [c19]; rfl) rfl ?_
      exact law_opened X hcs hs.2.2.2.2.2.2.2.2.2.2.2.2.2.2.2.2.2.2.2.1 i hin hC hM hR (fun hC hM hR => next hC hM hR)
    by_cases c20 : xs (ix i) &&& 63 = 20
    · refine w_tabi (pc := 33) (off := 867) (tgt := 900) X.1 dL_law_33 (by rw [c20]; decide) (by rw [c20]; decide) (by rw [c20]; rfl) rfl ?_
      exact law_why X hcs hs.2.2.2.2.2.2.2.2.2.2.2.2.2.2.2.2.2.2.2.2.1 i hin hC hM hR (fun hC hM hR => next hC hM hR)
    by_cases c21 : xs (ix i) &&& 63 = 21
    · refine w_tabi (pc := 33) (off := 910) (tgt := 943) X.1 dL_law_33 (by rw [c21]; decide) (by rw [c21]; decide) (by rw [c21]; rfl) rfl ?_
      exact law_harm X hcs hs.2.2.2.2.2.2.2.2.2.2.2.2.2.2.2.2.2.2.2.2.2.1 i hin hC hM hR (fun hC hM hR => next hC hM hR)
    by_cases c22 : xs (ix i) &&& 63 = 22
    · refine w_tabi (pc := 33) (off := 933) (tgt := 966) X.1 dL_law_33 (by rw [c22]; decide) (by rw [c22]; decide) (by rw [c22]; rfl) rfl ?_
      exact law_tooSoon X hcs hs.2.2.2.2.2.2.2.2.2.2.2.2.2.2.2.2.2.2.2.2.2.2.1 i hin hC hM hR (fun hC hM hR => next hC hM hR)
    by_cases c23 : xs (ix i) &&& 63 = 23
    · refine w_tabi (pc := 33) (off := 956) (tgt := 989) X.1 dL_law_33 (by rw [c23]; decide) (by rw [c23]; decide) (by rw [c23]; rfl) rfl ?_
      exact law_wrong X hcs hs.2.2.2.2.2.2.2.2.2.2.2.2.2.2.2.2.2.2.2.2.2.2.2.1 i hin hC hM hR (fun hC hM hR => next hC hM hR)
    by_cases c24 : xs (ix i) &&& 63 = 24
    · refine w_tabi (pc := 33) (off := 999) (tgt := 1032) X.1 dL_law_33 (by rw [c24]; decide) (by rw [c24]; decide) (by rw [c24]; rfl) rfl ?_
      exact law_late X hcs hs.2.2.2.2.2.2.2.2.2.2.2.2.2.2.2.2.2.2.2.2.2.2.2.2.1 i hin hC hM hR (fun hC hM hR => next hC hM hR)
    by_cases c25 : xs (ix i) &&& 63 = 25
    · refine w_tabi (pc := 33) (off := 1042) (tgt := 1075) X.1 dL_law_33 (by rw [c25]; decide) (by rw [c25]; decide) (by rw [c25]; rfl) rfl ?_
      exact law_watch X hcs hs.2.2.2.2.2.2.2.2.2.2.2.2.2.2.2.2.2.2.2.2.2.2.2.2.2.1 i hin hC hM hR (fun hC hM hR => next hC hM hR)
    by_cases c26 : xs (ix i) &&& 63 = 26
    · refine w_tabi (pc := 33) (off := 1075) (tgt := 1108) X.1 dL_law_33 (by rw [c26]; decide) (by rw [c26]; decide) (by rw [c26]; rfl) rfl ?_
      exact law_gain X hcs hs.2.2.2.2.2.2.2.2.2.2.2.2.2.2.2.2.2.2.2.2.2.2.2.2.2.2.1 i hin hC hM hR (fun hC hM hR => next hC hM hR)
    by_cases c27 : xs (ix i) &&& 63 = 27
    · refine w_tabi (pc := 33) (off := 1108) (tgt := 1141) X.1 dL_law_33 (by rw [c27]; decide) (by rw [c27]; decide) (by rw [c27]; rfl) rfl ?_
      exact law_income X hcs hs.2.2.2.2.2.2.2.2.2.2.2.2.2.2.2.2.2.2.2.2.2.2.2.2.2.2.2.1 i hin hC hM hR (fun hC hM hR => next hC hM hR)
    by_cases c28 : xs (ix i) &&& 63 = 28
    · refine w_tabi (pc := 33) (off := 1151) (tgt := 1184) X.1 dL_law_33 (by rw [c28]; decide) (by rw [c28]; decide) (by rw [c28]; rfl) rfl ?_
      exact law_next X hcs hs.2.2.2.2.2.2.2.2.2.2.2.2.2.2.2.2.2.2.2.2.2.2.2.2.2.2.2.2.1 i hin hC hM hR (fun hC hM hR => next hC hM hR)
    by_cases c29 : xs (ix i) &&& 63 = 29
    · refine w_tabi (pc := 33) (off := 1184) (tgt := 1217) X.1 dL_law_33 (by rw [c29]; decide) (by rw [c29]; decide) (by rw [c29]; rfl) rfl ?_
      exact law_looks X hcs hs.2.2.2.2.2.2.2.2.2.2.2.2.2.2.2.2.2.2.2.2.2.2.2.2.2.2.2.2.2.1 i hin hC hM hR (fun hC hM hR => next hC hM hR)
    by_cases c30 : xs (ix i) &&& 63 = 30
    · refine w_tabi (pc := 33) (off := 1217) (tgt := 1250) X.1 dL_law_33 (by rw [c30]; decide) (by rw [c30]; decide) (by rw [c30]; rfl) rfl ?_
      exact law_need X hcs hs.2.2.2.2.2.2.2.2.2.2.2.2.2.2.2.2.2.2.2.2.2.2.2.2.2.2.2.2.2.2.1 i hin hC hM hR (fun hC hM hR => next hC hM hR)
    by_cases c31 : xs (ix i) &&& 63 = 31
    · refine w_tabi (pc := 33) (off := 1280) (tgt := 1313) X.1 dL_law_33 (by rw [c31]; decide) (by rw [c31]; decide) (by rw [c31]; rfl) rfl ?_
      exact law_asks X hcs hs.2.2.2.2.2.2.2.2.2.2.2.2.2.2.2.2.2.2.2.2.2.2.2.2.2.2.2.2.2.2.2.1 i hin hC hM hR (fun hC hM hR => next hC hM hR)
    by_cases c32 : xs (ix i) &&& 63 = 32
    · refine w_tabi (pc := 33) (off := 1303) (tgt := 1336) X.1 dL_law_33 (by rw [c32]; decide) (by rw [c32]; decide) (by rw [c32]; rfl) rfl ?_
      exact law_ring X hcs hs.2.2.2.2.2.2.2.2.2.2.2.2.2.2.2.2.2.2.2.2.2.2.2.2.2.2.2.2.2.2.2.2.1 i hin hC hM hR (fun hC hM hR => next hC hM hR)
    by_cases c33 : xs (ix i) &&& 63 = 33
    · refine w_tabi (pc := 33) (off := 1326) (tgt := 1359) X.1 dL_law_33 (by rw [c33]; decide) (by rw [c33]; decide) (by rw [c33]; rfl) rfl ?_
      exact law_rings X hcs hs.2.2.2.2.2.2.2.2.2.2.2.2.2.2.2.2.2.2.2.2.2.2.2.2.2.2.2.2.2.2.2.2.2.1 i hin hC hM hR (fun hC hM hR => next hC hM hR)
    by_cases c34 : xs (ix i) &&& 63 = 34
    · refine w_tabi (pc := 33) (off := 1339) (tgt := 1372) X.1 dL_law_33 (by rw [c34]; decide) (by rw [c34]; decide) (by rw [c34]; rfl) rfl ?_
      exact law_burn X hcs hs.2.2.2.2.2.2.2.2.2.2.2.2.2.2.2.2.2.2.2.2.2.2.2.2.2.2.2.2.2.2.2.2.2.2.1 i hin hC hM hR (fun hC hM hR => next hC hM hR)
    by_cases c35 : xs (ix i) &&& 63 = 35
    · refine w_tabi (pc := 33) (off := 1352) (tgt := 1385) X.1 dL_law_33 (by rw [c35]; decide) (by rw [c35]; decide) (by rw [c35]; rfl) rfl ?_
      exact law_future X hcs hs.2.2.2.2.2.2.2.2.2.2.2.2.2.2.2.2.2.2.2.2.2.2.2.2.2.2.2.2.2.2.2.2.2.2.2.1 i hin hC hM hR (fun hC hM hR => next hC hM hR)
    by_cases c36 : xs (ix i) &&& 63 = 36
    · refine w_tabi (pc := 33) (off := 1415) (tgt := 1448) X.1 dL_law_33 (by rw [c36]; decide) (by rw [c36]; decide) (by rw [c36]; rfl) rfl ?_
      exact law_lives X hcs hs.2.2.2.2.2.2.2.2.2.2.2.2.2.2.2.2.2.2.2.2.2.2.2.2.2.2.2.2.2.2.2.2.2.2.2.2.1 i hin hC hM hR (fun hC hM hR => next hC hM hR)
    by_cases c37 : xs (ix i) &&& 63 = 37
    · refine w_tabi (pc := 33) (off := 1459) (tgt := 1492) X.1 dL_law_33 (by rw [c37]; decide) (by rw [c37]; decide) (by rw [c37]; rfl) rfl ?_
      exact law_odds X hcs hs.2.2.2.2.2.2.2.2.2.2.2.2.2.2.2.2.2.2.2.2.2.2.2.2.2.2.2.2.2.2.2.2.2.2.2.2.2.1 i hin hC hM hR (fun hC hM hR => next hC hM hR)
    by_cases c38 : xs (ix i) &&& 63 = 38
    · refine w_tabi (pc := 33) (off := 1503) (tgt := 1536) X.1 dL_law_33 (by rw [c38]; decide) (by rw [c38]; decide) (by rw [c38]; rfl) rfl ?_
      exact law_life X hcs hs.2.2.2.2.2.2.2.2.2.2.2.2.2.2.2.2.2.2.2.2.2.2.2.2.2.2.2.2.2.2.2.2.2.2.2.2.2.2.1 i hin hC hM hR (fun hC hM hR => next hC hM hR)
    by_cases c39 : xs (ix i) &&& 63 = 39
    · refine w_tabi (pc := 33) (off := 1546) (tgt := 1579) X.1 dL_law_33 (by rw [c39]; decide) (by rw [c39]; decide) (by rw [c39]; rfl) rfl ?_
      exact law_chance X hcs hs.2.2.2.2.2.2.2.2.2.2.2.2.2.2.2.2.2.2.2.2.2.2.2.2.2.2.2.2.2.2.2.2.2.2.2.2.2.2.2.1 i hin hC hM hR (fun hC hM hR => next hC hM hR)
    by_cases c40 : xs (ix i) &&& 63 = 40
    · refine w_tabi (pc := 33) (off := 1599) (tgt := 1632) X.1 dL_law_33 (by rw [c40]; decide) (by rw [c40]; decide) (by rw [c40]; rfl) rfl ?_
      exact law_hold X hcs hs.2.2.2.2.2.2.2.2.2.2.2.2.2.2.2.2.2.2.2.2.2.2.2.2.2.2.2.2.2.2.2.2.2.2.2.2.2.2.2.2.1 i hin hC hM hR (fun hC hM hR => next hC hM hR)
    by_cases c41 : xs (ix i) &&& 63 = 41
    · refine w_tabi (pc := 33) (off := 1622) (tgt := 1655) X.1 dL_law_33 (by rw [c41]; decide) (by rw [c41]; decide) (by rw [c41]; rfl) rfl ?_
      exact law_restore X hcs hs.2.2.2.2.2.2.2.2.2.2.2.2.2.2.2.2.2.2.2.2.2.2.2.2.2.2.2.2.2.2.2.2.2.2.2.2.2.2.2.2.2.1 i hin hC hM hR (fun hC hM hR => next hC hM hR)
    by_cases c42 : xs (ix i) &&& 63 = 42
    · refine w_tabi (pc := 33) (off := 1645) (tgt := 1678) X.1 dL_law_33 (by rw [c42]; decide) (by rw [c42]; decide) (by rw [c42]; rfl) rfl ?_
      exact law_count X hcs hs.2.2.2.2.2.2.2.2.2.2.2.2.2.2.2.2.2.2.2.2.2.2.2.2.2.2.2.2.2.2.2.2.2.2.2.2.2.2.2.2.2.2 i hin hC hM hR (fun hC hM hR => next hC hM hR)
    by_cases co : (xs (ix i) &&& 63).toInt < 0 ∨ 42 < (xs (ix i) &&& 63).toInt
    · exact w_tabo (pc := 33) X.1 dL_law_33 rfl co (next hC hM hR)
    · refine absurd (law_cases (xs (ix i) &&& 63) co) ?_
      simp only [not_or]
      exact ⟨c0, c1, c2, c3, c4, c5, c6, c7, c8, c9, c10, c11, c12, c13, c14, c15, c16, c17, c18, c19, c20, c21, c22, c23, c24, c25, c26, c27, c28, c29, c30, c31, c32, c33, c34, c35, c36, c37, c38, c39, c40, c41, c42⟩
