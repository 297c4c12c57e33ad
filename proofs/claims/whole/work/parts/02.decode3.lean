theorem dX12_put_0 : decode cX12_put 0 = .ok (.bipush 24, 2) := by decide +kernel
theorem dX12_put_2 : decode cX12_put 2 = .ok (.istore_n 2, 1) := by decide +kernel
theorem dX12_put_3 : decode cX12_put 3 = .ok (.iload_n 2, 1) := by decide +kernel
theorem dX12_put_4 : decode cX12_put 4 = .ok (.ifCond .lt 32, 3) := by decide +kernel
theorem dX12_put_7 : decode cX12_put 7 = .ok (.aload_n 0, 1) := by decide +kernel
theorem dX12_put_8 : decode cX12_put 8 = .ok (.getfield 13, 3) := by decide +kernel
theorem dX12_put_11 : decode cX12_put 11 = .ok (.aload_n 0, 1) := by decide +kernel
theorem dX12_put_12 : decode cX12_put 12 = .ok (.getfield 216, 3) := by decide +kernel
theorem dX12_put_15 : decode cX12_put 15 = .ok (.iload_n 1, 1) := by decide +kernel
theorem dX12_put_16 : decode cX12_put 16 = .ok (.iload_n 2, 1) := by decide +kernel
theorem dX12_put_17 : decode cX12_put 17 = .ok (.ishr, 1) := by decide +kernel
theorem dX12_put_18 : decode cX12_put 18 = .ok (.i2b, 1) := by decide +kernel
theorem dX12_put_19 : decode cX12_put 19 = .ok (.bastore, 1) := by decide +kernel
theorem dX12_put_20 : decode cX12_put 20 = .ok (.aload_n 0, 1) := by decide +kernel
theorem dX12_put_21 : decode cX12_put 21 = .ok (.dup, 1) := by decide +kernel
theorem dX12_put_22 : decode cX12_put 22 = .ok (.getfield 216, 3) := by decide +kernel
theorem dX12_put_25 : decode cX12_put 25 = .ok (.iconst 1, 1) := by decide +kernel
theorem dX12_put_26 : decode cX12_put 26 = .ok (.iadd, 1) := by decide +kernel
theorem dX12_put_27 : decode cX12_put 27 = .ok (.putfield 216, 3) := by decide +kernel
theorem dX12_put_30 : decode cX12_put 30 = .ok (.iinc 2 (-8), 3) := by decide +kernel
theorem dX12_put_33 : decode cX12_put 33 = .ok (.goto (-30), 3) := by decide +kernel
theorem dX12_put_36 : decode cX12_put 36 = .ok (.return_, 1) := by decide +kernel
theorem dX12_back_0 : decode cX12_back 0 = .ok (.iload_n 1, 1) := by decide +kernel
theorem dX12_back_1 : decode cX12_back 1 = .ok (.ifCond .lt 11, 3) := by decide +kernel
theorem dX12_back_4 : decode cX12_back 4 = .ok (.iload_n 1, 1) := by decide +kernel
theorem dX12_back_5 : decode cX12_back 5 = .ok (.aload_n 0, 1) := by decide +kernel
theorem dX12_back_6 : decode cX12_back 6 = .ok (.getfield 216, 3) := by decide +kernel
theorem dX12_back_9 : decode cX12_back 9 = .ok (.if_icmp .le 5, 3) := by decide +kernel
theorem dX12_back_12 : decode cX12_back 12 = .ok (.iconst (-1), 1) := by decide +kernel
theorem dX12_back_13 : decode cX12_back 13 = .ok (.ireturn, 1) := by decide +kernel
theorem dX12_back_14 : decode cX12_back 14 = .ok (.aload_n 0, 1) := by decide +kernel
theorem dX12_back_15 : decode cX12_back 15 = .ok (.dup, 1) := by decide +kernel
theorem dX12_back_16 : decode cX12_back 16 = .ok (.getfield 216, 3) := by decide +kernel
theorem dX12_back_19 : decode cX12_back 19 = .ok (.iload_n 1, 1) := by decide +kernel
theorem dX12_back_20 : decode cX12_back 20 = .ok (.isub, 1) := by decide +kernel
theorem dX12_back_21 : decode cX12_back 21 = .ok (.putfield 216, 3) := by decide +kernel
theorem dX12_back_24 : decode cX12_back 24 = .ok (.aload_n 0, 1) := by decide +kernel
theorem dX12_back_25 : decode cX12_back 25 = .ok (.getfield 216, 3) := by decide +kernel
theorem dX12_back_28 : decode cX12_back 28 = .ok (.ireturn, 1) := by decide +kernel
theorem dX12_byteAt_0 : decode cX12_byteAt 0 = .ok (.iload_n 1, 1) := by decide +kernel
theorem dX12_byteAt_1 : decode cX12_byteAt 1 = .ok (.aload_n 0, 1) := by decide +kernel
theorem dX12_byteAt_2 : decode cX12_byteAt 2 = .ok (.getfield 223, 3) := by decide +kernel
theorem dX12_byteAt_5 : decode cX12_byteAt 5 = .ok (.if_icmp .ge 16, 3) := by decide +kernel
theorem dX12_byteAt_8 : decode cX12_byteAt 8 = .ok (.aload_n 0, 1) := by decide +kernel
theorem dX12_byteAt_9 : decode cX12_byteAt 9 = .ok (.getfield 17, 3) := by decide +kernel
theorem dX12_byteAt_12 : decode cX12_byteAt 12 = .ok (.iload_n 1, 1) := by decide +kernel
theorem dX12_byteAt_13 : decode cX12_byteAt 13 = .ok (.baload, 1) := by decide +kernel
theorem dX12_byteAt_14 : decode cX12_byteAt 14 = .ok (.sipush 255, 3) := by decide +kernel
theorem dX12_byteAt_17 : decode cX12_byteAt 17 = .ok (.iand, 1) := by decide +kernel
theorem dX12_byteAt_18 : decode cX12_byteAt 18 = .ok (.goto 4, 3) := by decide +kernel
theorem dX12_byteAt_21 : decode cX12_byteAt 21 = .ok (.iconst 0, 1) := by decide +kernel
theorem dX12_byteAt_22 : decode cX12_byteAt 22 = .ok (.ireturn, 1) := by decide +kernel
theorem dX12_isDigit_0 : decode cX12_isDigit 0 = .ok (.iload_n 0, 1) := by decide +kernel
theorem dX12_isDigit_1 : decode cX12_isDigit 1 = .ok (.bipush 48, 2) := by decide +kernel
theorem dX12_isDigit_3 : decode cX12_isDigit 3 = .ok (.if_icmp .lt 13, 3) := by decide +kernel
theorem dX12_isDigit_6 : decode cX12_isDigit 6 = .ok (.iload_n 0, 1) := by decide +kernel
theorem dX12_isDigit_7 : decode cX12_isDigit 7 = .ok (.bipush 57, 2) := by decide +kernel
theorem dX12_isDigit_9 : decode cX12_isDigit 9 = .ok (.if_icmp .gt 7, 3) := by decide +kernel
theorem dX12_isDigit_12 : decode cX12_isDigit 12 = .ok (.iconst 1, 1) := by decide +kernel
theorem dX12_isDigit_13 : decode cX12_isDigit 13 = .ok (.goto 4, 3) := by decide +kernel
theorem dX12_isDigit_16 : decode cX12_isDigit 16 = .ok (.iconst 0, 1) := by decide +kernel
theorem dX12_isDigit_17 : decode cX12_isDigit 17 = .ok (.ireturn, 1) := by decide +kernel
theorem dX12_isLetter_0 : decode cX12_isLetter 0 = .ok (.iload_n 0, 1) := by decide +kernel
theorem dX12_isLetter_1 : decode cX12_isLetter 1 = .ok (.bipush 97, 2) := by decide +kernel
theorem dX12_isLetter_3 : decode cX12_isLetter 3 = .ok (.if_icmp .lt 13, 3) := by decide +kernel
theorem dX12_isLetter_6 : decode cX12_isLetter 6 = .ok (.iload_n 0, 1) := by decide +kernel
theorem dX12_isLetter_7 : decode cX12_isLetter 7 = .ok (.bipush 122, 2) := by decide +kernel
theorem dX12_isLetter_9 : decode cX12_isLetter 9 = .ok (.if_icmp .gt 7, 3) := by decide +kernel
theorem dX12_isLetter_12 : decode cX12_isLetter 12 = .ok (.iconst 1, 1) := by decide +kernel
theorem dX12_isLetter_13 : decode cX12_isLetter 13 = .ok (.goto 4, 3) := by decide +kernel
theorem dX12_isLetter_16 : decode cX12_isLetter 16 = .ok (.iconst 0, 1) := by decide +kernel
theorem dX12_isLetter_17 : decode cX12_isLetter 17 = .ok (.ireturn, 1) := by decide +kernel
theorem dX12_appends_0 : decode cX12_appends 0 = .ok (.iload_n 2, 1) := by decide +kernel
theorem dX12_appends_1 : decode cX12_appends 1 = .ok (.ifCond .ne 7, 3) := by decide +kernel
theorem dX12_appends_4 : decode cX12_appends 4 = .ok (.lload_n 0, 1) := by decide +kernel
theorem dX12_appends_5 : decode cX12_appends 5 = .ok (.goto 16, 3) := by decide +kernel
theorem dX12_appends_8 : decode cX12_appends 8 = .ok (.ldc2_w 226, 3) := by decide +kernel
theorem dX12_appends_11 : decode cX12_appends 11 = .ok (.lload_n 0, 1) := by decide +kernel
theorem dX12_appends_12 : decode cX12_appends 12 = .ok (.lmul, 1) := by decide +kernel
theorem dX12_appends_13 : decode cX12_appends 13 = .ok (.iload_n 2, 1) := by decide +kernel
theorem dX12_appends_14 : decode cX12_appends 14 = .ok (.bipush 97, 2) := by decide +kernel
theorem dX12_appends_16 : decode cX12_appends 16 = .ok (.isub, 1) := by decide +kernel
theorem dX12_appends_17 : decode cX12_appends 17 = .ok (.iconst 1, 1) := by decide +kernel
theorem dX12_appends_18 : decode cX12_appends 18 = .ok (.iadd, 1) := by decide +kernel
theorem dX12_appends_19 : decode cX12_appends 19 = .ok (.i2l, 1) := by decide +kernel
theorem dX12_appends_20 : decode cX12_appends 20 = .ok (.ladd, 1) := by decide +kernel
theorem dX12_appends_21 : decode cX12_appends 21 = .ok (.lreturn, 1) := by decide +kernel
theorem dX12_word_0 : decode cX12_word 0 = .ok (.lconst 0, 1) := by decide +kernel
theorem dX12_word_1 : decode cX12_word 1 = .ok (.iload_n 0, 1) := by decide +kernel
theorem dX12_word_2 : decode cX12_word 2 = .ok (.invokestatic 228, 3) := by decide +kernel
theorem dX12_word_5 : decode cX12_word 5 = .ok (.iload_n 1, 1) := by decide +kernel
theorem dX12_word_6 : decode cX12_word 6 = .ok (.invokestatic 228, 3) := by decide +kernel
theorem dX12_word_9 : decode cX12_word 9 = .ok (.iload_n 2, 1) := by decide +kernel
theorem dX12_word_10 : decode cX12_word 10 = .ok (.invokestatic 228, 3) := by decide +kernel
theorem dX12_word_13 : decode cX12_word 13 = .ok (.iload_n 3, 1) := by decide +kernel
theorem dX12_word_14 : decode cX12_word 14 = .ok (.invokestatic 228, 3) := by decide +kernel
theorem dX12_word_17 : decode cX12_word 17 = .ok (.iload 4, 2) := by decide +kernel
theorem dX12_word_19 : decode cX12_word 19 = .ok (.invokestatic 228, 3) := by decide +kernel
theorem dX12_word_22 : decode cX12_word 22 = .ok (.iload 5, 2) := by decide +kernel
theorem dX12_word_24 : decode cX12_word 24 = .ok (.invokestatic 228, 3) := by decide +kernel
theorem dX12_word_27 : decode cX12_word 27 = .ok (.iload 6, 2) := by decide +kernel
theorem dX12_word_29 : decode cX12_word 29 = .ok (.invokestatic 228, 3) := by decide +kernel
theorem dX12_word_32 : decode cX12_word 32 = .ok (.lreturn, 1) := by decide +kernel
theorem dX12_token_0 : decode cX12_token 0 = .ok (.aload_n 0, 1) := by decide +kernel
theorem dX12_token_1 : decode cX12_token 1 = .ok (.getfield 20, 3) := by decide +kernel
theorem dX12_token_4 : decode cX12_token 4 = .ok (.aload_n 0, 1) := by decide +kernel
theorem dX12_token_5 : decode cX12_token 5 = .ok (.getfield 232, 3) := by decide +kernel
theorem dX12_token_8 : decode cX12_token 8 = .ok (.iload_n 1, 1) := by decide +kernel
theorem dX12_token_9 : decode cX12_token 9 = .ok (.iastore, 1) := by decide +kernel
theorem dX12_token_10 : decode cX12_token 10 = .ok (.aload_n 0, 1) := by decide +kernel
theorem dX12_token_11 : decode cX12_token 11 = .ok (.getfield 24, 3) := by decide +kernel
theorem dX12_token_14 : decode cX12_token 14 = .ok (.aload_n 0, 1) := by decide +kernel
theorem dX12_token_15 : decode cX12_token 15 = .ok (.getfield 232, 3) := by decide +kernel
theorem dX12_token_18 : decode cX12_token 18 = .ok (.iload_n 2, 1) := by decide +kernel
theorem dX12_token_19 : decode cX12_token 19 = .ok (.iastore, 1) := by decide +kernel
theorem dX12_token_20 : decode cX12_token 20 = .ok (.aload_n 0, 1) := by decide +kernel
theorem dX12_token_21 : decode cX12_token 21 = .ok (.getfield 27, 3) := by decide +kernel
theorem dX12_token_24 : decode cX12_token 24 = .ok (.aload_n 0, 1) := by decide +kernel
theorem dX12_token_25 : decode cX12_token 25 = .ok (.getfield 232, 3) := by decide +kernel
theorem dX12_token_28 : decode cX12_token 28 = .ok (.iload_n 3, 1) := by decide +kernel
theorem dX12_token_29 : decode cX12_token 29 = .ok (.iastore, 1) := by decide +kernel
theorem dX12_token_30 : decode cX12_token 30 = .ok (.aload_n 0, 1) := by decide +kernel
theorem dX12_token_31 : decode cX12_token 31 = .ok (.getfield 30, 3) := by decide +kernel
theorem dX12_token_34 : decode cX12_token 34 = .ok (.aload_n 0, 1) := by decide +kernel
theorem dX12_token_35 : decode cX12_token 35 = .ok (.getfield 232, 3) := by decide +kernel
theorem dX12_token_38 : decode cX12_token 38 = .ok (.lload 4, 2) := by decide +kernel
theorem dX12_token_40 : decode cX12_token 40 = .ok (.lastore, 1) := by decide +kernel
theorem dX12_token_41 : decode cX12_token 41 = .ok (.aload_n 0, 1) := by decide +kernel
theorem dX12_token_42 : decode cX12_token 42 = .ok (.dup, 1) := by decide +kernel
theorem dX12_token_43 : decode cX12_token 43 = .ok (.getfield 232, 3) := by decide +kernel
theorem dX12_token_46 : decode cX12_token 46 = .ok (.iconst 1, 1) := by decide +kernel
theorem dX12_token_47 : decode cX12_token 47 = .ok (.iadd, 1) := by decide +kernel
theorem dX12_token_48 : decode cX12_token 48 = .ok (.putfield 232, 3) := by decide +kernel
theorem dX12_token_51 : decode cX12_token 51 = .ok (.return_, 1) := by decide +kernel
theorem dX12_cut_0 : decode cX12_cut 0 = .ok (.aload_n 0, 1) := by decide +kernel
theorem dX12_cut_1 : decode cX12_cut 1 = .ok (.iconst 0, 1) := by decide +kernel
theorem dX12_cut_2 : decode cX12_cut 2 = .ok (.putfield 232, 3) := by decide +kernel
theorem dX12_cut_5 : decode cX12_cut 5 = .ok (.iconst 0, 1) := by decide +kernel
theorem dX12_cut_6 : decode cX12_cut 6 = .ok (.istore_n 1, 1) := by decide +kernel
theorem dX12_cut_7 : decode cX12_cut 7 = .ok (.aload_n 0, 1) := by decide +kernel
theorem dX12_cut_8 : decode cX12_cut 8 = .ok (.getfield 232, 3) := by decide +kernel
theorem dX12_cut_11 : decode cX12_cut 11 = .ok (.sipush 400, 3) := by decide +kernel
theorem dX12_cut_14 : decode cX12_cut 14 = .ok (.if_icmp .gt 280, 3) := by decide +kernel
theorem dX12_cut_17 : decode cX12_cut 17 = .ok (.aload_n 0, 1) := by decide +kernel
theorem dX12_cut_18 : decode cX12_cut 18 = .ok (.iload_n 1, 1) := by decide +kernel
theorem dX12_cut_19 : decode cX12_cut 19 = .ok (.invokevirtual 235, 3) := by decide +kernel
theorem dX12_cut_22 : decode cX12_cut 22 = .ok (.istore_n 2, 1) := by decide +kernel
theorem dX12_cut_23 : decode cX12_cut 23 = .ok (.iload_n 1, 1) := by decide +kernel
theorem dX12_cut_24 : decode cX12_cut 24 = .ok (.aload_n 0, 1) := by decide +kernel
theorem dX12_cut_25 : decode cX12_cut 25 = .ok (.getfield 223, 3) := by decide +kernel
theorem dX12_cut_28 : decode cX12_cut 28 = .ok (.if_icmp .lt 15, 3) := by decide +kernel
theorem dX12_cut_31 : decode cX12_cut 31 = .ok (.aload_n 0, 1) := by decide +kernel
theorem dX12_cut_32 : decode cX12_cut 32 = .ok (.iconst 0, 1) := by decide +kernel
theorem dX12_cut_33 : decode cX12_cut 33 = .ok (.aload_n 0, 1) := by decide +kernel
theorem dX12_cut_34 : decode cX12_cut 34 = .ok (.getfield 223, 3) := by decide +kernel
theorem dX12_cut_37 : decode cX12_cut 37 = .ok (.iconst 0, 1) := by decide +kernel
theorem dX12_cut_38 : decode cX12_cut 38 = .ok (.lconst 0, 1) := by decide +kernel
theorem dX12_cut_39 : decode cX12_cut 39 = .ok (.invokevirtual 239, 3) := by decide +kernel
theorem dX12_cut_42 : decode cX12_cut 42 = .ok (.return_, 1) := by decide +kernel
theorem dX12_cut_43 : decode cX12_cut 43 = .ok (.iload_n 2, 1) := by decide +kernel
theorem dX12_cut_44 : decode cX12_cut 44 = .ok (.bipush 9, 2) := by decide +kernel
theorem dX12_cut_46 : decode cX12_cut 46 = .ok (.if_icmp .eq 21, 3) := by decide +kernel
theorem dX12_cut_49 : decode cX12_cut 49 = .ok (.iload_n 2, 1) := by decide +kernel
theorem dX12_cut_50 : decode cX12_cut 50 = .ok (.bipush 10, 2) := by decide +kernel
theorem dX12_cut_52 : decode cX12_cut 52 = .ok (.if_icmp .eq 15, 3) := by decide +kernel
theorem dX12_cut_55 : decode cX12_cut 55 = .ok (.iload_n 2, 1) := by decide +kernel
theorem dX12_cut_56 : decode cX12_cut 56 = .ok (.bipush 13, 2) := by decide +kernel
theorem dX12_cut_58 : decode cX12_cut 58 = .ok (.if_icmp .eq 9, 3) := by decide +kernel
theorem dX12_cut_61 : decode cX12_cut 61 = .ok (.iload_n 2, 1) := by decide +kernel
theorem dX12_cut_62 : decode cX12_cut 62 = .ok (.bipush 32, 2) := by decide +kernel
theorem dX12_cut_64 : decode cX12_cut 64 = .ok (.if_icmp .ne 9, 3) := by decide +kernel
theorem dX12_cut_67 : decode cX12_cut 67 = .ok (.iinc 1 1, 3) := by decide +kernel
theorem dX12_cut_70 : decode cX12_cut 70 = .ok (.goto 221, 3) := by decide +kernel
theorem dX12_cut_73 : decode cX12_cut 73 = .ok (.iload_n 2, 1) := by decide +kernel
theorem dX12_cut_74 : decode cX12_cut 74 = .ok (.invokestatic 243, 3) := by decide +kernel
theorem dX12_cut_77 : decode cX12_cut 77 = .ok (.ifCond .eq 119, 3) := by decide +kernel
theorem dX12_cut_80 : decode cX12_cut 80 = .ok (.iconst 0, 1) := by decide +kernel
theorem dX12_cut_81 : decode cX12_cut 81 = .ok (.istore_n 3, 1) := by decide +kernel
theorem dX12_cut_82 : decode cX12_cut 82 = .ok (.lconst 0, 1) := by decide +kernel
theorem dX12_cut_83 : decode cX12_cut 83 = .ok (.lstore 4, 2) := by decide +kernel
theorem dX12_cut_85 : decode cX12_cut 85 = .ok (.aload_n 0, 1) := by decide +kernel
theorem dX12_cut_86 : decode cX12_cut 86 = .ok (.iload_n 1, 1) := by decide +kernel
theorem dX12_cut_87 : decode cX12_cut 87 = .ok (.iload_n 3, 1) := by decide +kernel
theorem dX12_cut_88 : decode cX12_cut 88 = .ok (.iadd, 1) := by decide +kernel
theorem dX12_cut_89 : decode cX12_cut 89 = .ok (.invokevirtual 235, 3) := by decide +kernel
theorem dX12_cut_92 : decode cX12_cut 92 = .ok (.invokestatic 243, 3) := by decide +kernel
theorem dX12_cut_95 : decode cX12_cut 95 = .ok (.ifCond .eq 29, 3) := by decide +kernel
theorem dX12_cut_98 : decode cX12_cut 98 = .ok (.iload_n 3, 1) := by decide +kernel
theorem dX12_cut_99 : decode cX12_cut 99 = .ok (.bipush 8, 2) := by decide +kernel
theorem dX12_cut_101 : decode cX12_cut 101 = .ok (.if_icmp .ge 17, 3) := by decide +kernel
theorem dX12_cut_104 : decode cX12_cut 104 = .ok (.lload 4, 2) := by decide +kernel
theorem dX12_cut_106 : decode cX12_cut 106 = .ok (.aload_n 0, 1) := by decide +kernel
theorem dX12_cut_107 : decode cX12_cut 107 = .ok (.iload_n 1, 1) := by decide +kernel
theorem dX12_cut_108 : decode cX12_cut 108 = .ok (.iload_n 3, 1) := by decide +kernel
theorem dX12_cut_109 : decode cX12_cut 109 = .ok (.iadd, 1) := by decide +kernel
theorem dX12_cut_110 : decode cX12_cut 110 = .ok (.invokevirtual 235, 3) := by decide +kernel
theorem dX12_cut_113 : decode cX12_cut 113 = .ok (.invokestatic 228, 3) := by decide +kernel
theorem dX12_cut_116 : decode cX12_cut 116 = .ok (.lstore 4, 2) := by decide +kernel
theorem dX12_cut_118 : decode cX12_cut 118 = .ok (.iinc 3 1, 3) := by decide +kernel
theorem dX12_cut_121 : decode cX12_cut 121 = .ok (.goto (-36), 3) := by decide +kernel
theorem dX12_cut_124 : decode cX12_cut 124 = .ok (.iload_n 3, 1) := by decide +kernel
theorem dX12_cut_125 : decode cX12_cut 125 = .ok (.bipush 8, 2) := by decide +kernel
theorem dX12_cut_127 : decode cX12_cut 127 = .ok (.if_icmp .le 7, 3) := by decide +kernel
theorem dX12_cut_130 : decode cX12_cut 130 = .ok (.iconst 3, 1) := by decide +kernel
theorem dX12_cut_131 : decode cX12_cut 131 = .ok (.goto 4, 3) := by decide +kernel
theorem dX12_cut_134 : decode cX12_cut 134 = .ok (.iconst 1, 1) := by decide +kernel
theorem dX12_cut_135 : decode cX12_cut 135 = .ok (.istore 6, 2) := by decide +kernel
theorem dX12_cut_137 : decode cX12_cut 137 = .ok (.iload_n 3, 1) := by decide +kernel
theorem dX12_cut_138 : decode cX12_cut 138 = .ok (.bipush 7, 2) := by decide +kernel
theorem dX12_cut_140 : decode cX12_cut 140 = .ok (.if_icmp .gt 39, 3) := by decide +kernel
theorem dX12_cut_143 : decode cX12_cut 143 = .ok (.iconst 0, 1) := by decide +kernel
theorem dX12_cut_144 : decode cX12_cut 144 = .ok (.istore 7, 2) := by decide +kernel
theorem dX12_cut_146 : decode cX12_cut 146 = .ok (.iload 7, 2) := by decide +kernel
theorem dX12_cut_148 : decode cX12_cut 148 = .ok (.bipush 18, 2) := by decide +kernel
theorem dX12_cut_150 : decode cX12_cut 150 = .ok (.if_icmp .ge 29, 3) := by decide +kernel
theorem dX12_cut_153 : decode cX12_cut 153 = .ok (.aload_n 0, 1) := by decide +kernel
theorem dX12_cut_154 : decode cX12_cut 154 = .ok (.getfield 34, 3) := by decide +kernel
theorem dX12_cut_157 : decode cX12_cut 157 = .ok (.iload 7, 2) := by decide +kernel
theorem dX12_cut_159 : decode cX12_cut 159 = .ok (.laload, 1) := by decide +kernel
theorem dX12_cut_160 : decode cX12_cut 160 = .ok (.lload 4, 2) := by decide +kernel
theorem dX12_cut_162 : decode cX12_cut 162 = .ok (.lcmp, 1) := by decide +kernel
theorem dX12_cut_163 : decode cX12_cut 163 = .ok (.ifCond .ne 10, 3) := by decide +kernel
theorem dX12_cut_166 : decode cX12_cut 166 = .ok (.bipush 20, 2) := by decide +kernel
theorem dX12_cut_168 : decode cX12_cut 168 = .ok (.iload 7, 2) := by decide +kernel
theorem dX12_cut_170 : decode cX12_cut 170 = .ok (.iadd, 1) := by decide +kernel
theorem dX12_cut_171 : decode cX12_cut 171 = .ok (.istore 6, 2) := by decide +kernel
theorem dX12_cut_173 : decode cX12_cut 173 = .ok (.iinc 7 1, 3) := by decide +kernel
theorem dX12_cut_176 : decode cX12_cut 176 = .ok (.goto (-30), 3) := by decide +kernel
theorem dX12_cut_179 : decode cX12_cut 179 = .ok (.aload_n 0, 1) := by decide +kernel
theorem dX12_cut_180 : decode cX12_cut 180 = .ok (.iload 6, 2) := by decide +kernel
theorem dX12_cut_182 : decode cX12_cut 182 = .ok (.iload_n 1, 1) := by decide +kernel
theorem dX12_cut_183 : decode cX12_cut 183 = .ok (.iconst 0, 1) := by decide +kernel
theorem dX12_cut_184 : decode cX12_cut 184 = .ok (.lload 4, 2) := by decide +kernel
theorem dX12_cut_186 : decode cX12_cut 186 = .ok (.invokevirtual 239, 3) := by decide +kernel
theorem dX12_cut_189 : decode cX12_cut 189 = .ok (.iload_n 1, 1) := by decide +kernel
theorem dX12_cut_190 : decode cX12_cut 190 = .ok (.iload_n 3, 1) := by decide +kernel
theorem dX12_cut_191 : decode cX12_cut 191 = .ok (.iadd, 1) := by decide +kernel
theorem dX12_cut_192 : decode cX12_cut 192 = .ok (.istore_n 1, 1) := by decide +kernel
theorem dX12_cut_193 : decode cX12_cut 193 = .ok (.goto 98, 3) := by decide +kernel
theorem dX12_cut_196 : decode cX12_cut 196 = .ok (.iload_n 2, 1) := by decide +kernel
theorem dX12_cut_197 : decode cX12_cut 197 = .ok (.invokestatic 247, 3) := by decide +kernel
theorem dX12_cut_200 : decode cX12_cut 200 = .ok (.ifCond .eq 75, 3) := by decide +kernel
theorem dX12_cut_203 : decode cX12_cut 203 = .ok (.iconst 0, 1) := by decide +kernel
theorem dX12_cut_204 : decode cX12_cut 204 = .ok (.istore_n 3, 1) := by decide +kernel
theorem dX12_cut_205 : decode cX12_cut 205 = .ok (.iconst 0, 1) := by decide +kernel
theorem dX12_cut_206 : decode cX12_cut 206 = .ok (.istore 4, 2) := by decide +kernel
theorem dX12_cut_208 : decode cX12_cut 208 = .ok (.aload_n 0, 1) := by decide +kernel
theorem dX12_cut_209 : decode cX12_cut 209 = .ok (.iload_n 1, 1) := by decide +kernel
theorem dX12_cut_210 : decode cX12_cut 210 = .ok (.iload_n 3, 1) := by decide +kernel
theorem dX12_cut_211 : decode cX12_cut 211 = .ok (.iadd, 1) := by decide +kernel
theorem dX12_cut_212 : decode cX12_cut 212 = .ok (.invokevirtual 235, 3) := by decide +kernel
theorem dX12_cut_215 : decode cX12_cut 215 = .ok (.invokestatic 247, 3) := by decide +kernel
theorem dX12_cut_218 : decode cX12_cut 218 = .ok (.ifCond .eq 32, 3) := by decide +kernel
theorem dX12_cut_221 : decode cX12_cut 221 = .ok (.iload_n 3, 1) := by decide +kernel
theorem dX12_cut_222 : decode cX12_cut 222 = .ok (.iconst 4, 1) := by decide +kernel
theorem dX12_cut_223 : decode cX12_cut 223 = .ok (.if_icmp .ge 21, 3) := by decide +kernel
theorem dX12_cut_226 : decode cX12_cut 226 = .ok (.bipush 10, 2) := by decide +kernel
theorem dX12_cut_228 : decode cX12_cut 228 = .ok (.iload 4, 2) := by decide +kernel
theorem dX12_cut_230 : decode cX12_cut 230 = .ok (.imul, 1) := by decide +kernel
theorem dX12_cut_231 : decode cX12_cut 231 = .ok (.aload_n 0, 1) := by decide +kernel
theorem dX12_cut_232 : decode cX12_cut 232 = .ok (.iload_n 1, 1) := by decide +kernel
theorem dX12_cut_233 : decode cX12_cut 233 = .ok (.iload_n 3, 1) := by decide +kernel
theorem dX12_cut_234 : decode cX12_cut 234 = .ok (.iadd, 1) := by decide +kernel
theorem dX12_cut_235 : decode cX12_cut 235 = .ok (.invokevirtual 235, 3) := by decide +kernel
theorem dX12_cut_238 : decode cX12_cut 238 = .ok (.iadd, 1) := by decide +kernel
theorem dX12_cut_239 : decode cX12_cut 239 = .ok (.bipush 48, 2) := by decide +kernel
theorem dX12_cut_241 : decode cX12_cut 241 = .ok (.isub, 1) := by decide +kernel
theorem dX12_cut_242 : decode cX12_cut 242 = .ok (.istore 4, 2) := by decide +kernel
theorem dX12_cut_244 : decode cX12_cut 244 = .ok (.iinc 3 1, 3) := by decide +kernel
theorem dX12_cut_247 : decode cX12_cut 247 = .ok (.goto (-39), 3) := by decide +kernel
theorem dX12_cut_250 : decode cX12_cut 250 = .ok (.aload_n 0, 1) := by decide +kernel
theorem dX12_cut_251 : decode cX12_cut 251 = .ok (.iload_n 3, 1) := by decide +kernel
theorem dX12_cut_252 : decode cX12_cut 252 = .ok (.iconst 4, 1) := by decide +kernel
theorem dX12_cut_253 : decode cX12_cut 253 = .ok (.if_icmp .le 7, 3) := by decide +kernel
theorem dX12_cut_256 : decode cX12_cut 256 = .ok (.iconst 3, 1) := by decide +kernel
theorem dX12_cut_257 : decode cX12_cut 257 = .ok (.goto 4, 3) := by decide +kernel
theorem dX12_cut_260 : decode cX12_cut 260 = .ok (.iconst 2, 1) := by decide +kernel
theorem dX12_cut_261 : decode cX12_cut 261 = .ok (.iload_n 1, 1) := by decide +kernel
theorem dX12_cut_262 : decode cX12_cut 262 = .ok (.iload 4, 2) := by decide +kernel
theorem dX12_cut_264 : decode cX12_cut 264 = .ok (.lconst 0, 1) := by decide +kernel
theorem dX12_cut_265 : decode cX12_cut 265 = .ok (.invokevirtual 239, 3) := by decide +kernel
theorem dX12_cut_268 : decode cX12_cut 268 = .ok (.iload_n 1, 1) := by decide +kernel
theorem dX12_cut_269 : decode cX12_cut 269 = .ok (.iload_n 3, 1) := by decide +kernel
theorem dX12_cut_270 : decode cX12_cut 270 = .ok (.iadd, 1) := by decide +kernel
theorem dX12_cut_271 : decode cX12_cut 271 = .ok (.istore_n 1, 1) := by decide +kernel
theorem dX12_cut_272 : decode cX12_cut 272 = .ok (.goto 19, 3) := by decide +kernel
theorem dX12_cut_275 : decode cX12_cut 275 = .ok (.iload_n 1, 1) := by decide +kernel
theorem dX12_cut_276 : decode cX12_cut 276 = .ok (.aload_n 0, 1) := by decide +kernel
theorem dX12_cut_277 : decode cX12_cut 277 = .ok (.iload_n 1, 1) := by decide +kernel
theorem dX12_cut_278 : decode cX12_cut 278 = .ok (.iload_n 2, 1) := by decide +kernel
theorem dX12_cut_279 : decode cX12_cut 279 = .ok (.aload_n 0, 1) := by decide +kernel
theorem dX12_cut_280 : decode cX12_cut 280 = .ok (.iload_n 1, 1) := by decide +kernel
theorem dX12_cut_281 : decode cX12_cut 281 = .ok (.iconst 1, 1) := by decide +kernel
theorem dX12_cut_282 : decode cX12_cut 282 = .ok (.iadd, 1) := by decide +kernel
theorem dX12_cut_283 : decode cX12_cut 283 = .ok (.invokevirtual 235, 3) := by decide +kernel
theorem dX12_cut_286 : decode cX12_cut 286 = .ok (.invokevirtual 250, 3) := by decide +kernel
theorem dX12_cut_289 : decode cX12_cut 289 = .ok (.iadd, 1) := by decide +kernel
theorem dX12_cut_290 : decode cX12_cut 290 = .ok (.istore_n 1, 1) := by decide +kernel
theorem dX12_cut_291 : decode cX12_cut 291 = .ok (.goto (-284), 3) := by decide +kernel
theorem dX12_cut_294 : decode cX12_cut 294 = .ok (.return_, 1) := by decide +kernel
theorem dX12_sign_0 : decode cX12_sign 0 = .ok (.iload_n 3, 1) := by decide +kernel
theorem dX12_sign_1 : decode cX12_sign 1 = .ok (.bipush 61, 2) := by decide +kernel
theorem dX12_sign_3 : decode cX12_sign 3 = .ok (.if_icmp .eq 7, 3) := by decide +kernel
theorem dX12_sign_6 : decode cX12_sign 6 = .ok (.iconst 0, 1) := by decide +kernel
theorem dX12_sign_7 : decode cX12_sign 7 = .ok (.goto 37, 3) := by decide +kernel
theorem dX12_sign_10 : decode cX12_sign 10 = .ok (.iload_n 2, 1) := by decide +kernel
theorem dX12_sign_11 : decode cX12_sign 11 = .ok (.bipush 61, 2) := by decide +kernel
theorem dX12_sign_13 : decode cX12_sign 13 = .ok (.if_icmp .ne 8, 3) := by decide +kernel
theorem dX12_sign_16 : decode cX12_sign 16 = .ok (.bipush 11, 2) := by decide +kernel
theorem dX12_sign_18 : decode cX12_sign 18 = .ok (.goto 26, 3) := by decide +kernel
theorem dX12_sign_21 : decode cX12_sign 21 = .ok (.iload_n 2, 1) := by decide +kernel
theorem dX12_sign_22 : decode cX12_sign 22 = .ok (.bipush 33, 2) := by decide +kernel
theorem dX12_sign_24 : decode cX12_sign 24 = .ok (.if_icmp .ne 8, 3) := by decide +kernel
theorem dX12_sign_27 : decode cX12_sign 27 = .ok (.bipush 12, 2) := by decide +kernel
theorem dX12_sign_29 : decode cX12_sign 29 = .ok (.goto 15, 3) := by decide +kernel
theorem dX12_sign_32 : decode cX12_sign 32 = .ok (.iload_n 2, 1) := by decide +kernel
theorem dX12_sign_33 : decode cX12_sign 33 = .ok (.bipush 60, 2) := by decide +kernel
theorem dX12_sign_35 : decode cX12_sign 35 = .ok (.if_icmp .ne 8, 3) := by decide +kernel
theorem dX12_sign_38 : decode cX12_sign 38 = .ok (.bipush 14, 2) := by decide +kernel
theorem dX12_sign_40 : decode cX12_sign 40 = .ok (.goto 4, 3) := by decide +kernel
theorem dX12_sign_43 : decode cX12_sign 43 = .ok (.iconst 0, 1) := by decide +kernel
theorem dX12_sign_44 : decode cX12_sign 44 = .ok (.istore 4, 2) := by decide +kernel
theorem dX12_sign_46 : decode cX12_sign 46 = .ok (.iconst 3, 1) := by decide +kernel
theorem dX12_sign_47 : decode cX12_sign 47 = .ok (.istore 5, 2) := by decide +kernel
theorem dX12_sign_49 : decode cX12_sign 49 = .ok (.iload 4, 2) := by decide +kernel
theorem dX12_sign_51 : decode cX12_sign 51 = .ok (.ifCond .le 10, 3) := by decide +kernel
theorem dX12_sign_54 : decode cX12_sign 54 = .ok (.iload 4, 2) := by decide +kernel
theorem dX12_sign_56 : decode cX12_sign 56 = .ok (.istore 5, 2) := by decide +kernel
theorem dX12_sign_58 : decode cX12_sign 58 = .ok (.goto 116, 3) := by decide +kernel
theorem dX12_sign_61 : decode cX12_sign 61 = .ok (.iload_n 2, 1) := by decide +kernel
theorem dX12_sign_62 : decode cX12_sign 62 = .ok (.bipush 59, 2) := by decide +kernel
theorem dX12_sign_64 : decode cX12_sign 64 = .ok (.if_icmp .ne 9, 3) := by decide +kernel
theorem dX12_sign_67 : decode cX12_sign 67 = .ok (.iconst 4, 1) := by decide +kernel
theorem dX12_sign_68 : decode cX12_sign 68 = .ok (.istore 5, 2) := by decide +kernel
theorem dX12_sign_70 : decode cX12_sign 70 = .ok (.goto 104, 3) := by decide +kernel
theorem dX12_sign_73 : decode cX12_sign 73 = .ok (.iload_n 2, 1) := by decide +kernel
theorem dX12_sign_74 : decode cX12_sign 74 = .ok (.bipush 40, 2) := by decide +kernel
theorem dX12_sign_76 : decode cX12_sign 76 = .ok (.if_icmp .ne 10, 3) := by decide +kernel
theorem dX12_sign_79 : decode cX12_sign 79 = .ok (.bipush 6, 2) := by decide +kernel
theorem dX12_sign_81 : decode cX12_sign 81 = .ok (.istore 5, 2) := by decide +kernel
theorem dX12_sign_83 : decode cX12_sign 83 = .ok (.goto 91, 3) := by decide +kernel
theorem dX12_sign_86 : decode cX12_sign 86 = .ok (.iload_n 2, 1) := by decide +kernel
theorem dX12_sign_87 : decode cX12_sign 87 = .ok (.bipush 41, 2) := by decide +kernel
theorem dX12_sign_89 : decode cX12_sign 89 = .ok (.if_icmp .ne 10, 3) := by decide +kernel
theorem dX12_sign_92 : decode cX12_sign 92 = .ok (.bipush 7, 2) := by decide +kernel
theorem dX12_sign_94 : decode cX12_sign 94 = .ok (.istore 5, 2) := by decide +kernel
theorem dX12_sign_96 : decode cX12_sign 96 = .ok (.goto 78, 3) := by decide +kernel
theorem dX12_sign_99 : decode cX12_sign 99 = .ok (.iload_n 2, 1) := by decide +kernel
theorem dX12_sign_100 : decode cX12_sign 100 = .ok (.bipush 43, 2) := by decide +kernel
theorem dX12_sign_102 : decode cX12_sign 102 = .ok (.if_icmp .ne 10, 3) := by decide +kernel
theorem dX12_sign_105 : decode cX12_sign 105 = .ok (.bipush 8, 2) := by decide +kernel
theorem dX12_sign_107 : decode cX12_sign 107 = .ok (.istore 5, 2) := by decide +kernel
theorem dX12_sign_109 : decode cX12_sign 109 = .ok (.goto 65, 3) := by decide +kernel
theorem dX12_sign_112 : decode cX12_sign 112 = .ok (.iload_n 2, 1) := by decide +kernel
theorem dX12_sign_113 : decode cX12_sign 113 = .ok (.bipush 45, 2) := by decide +kernel
theorem dX12_sign_115 : decode cX12_sign 115 = .ok (.if_icmp .ne 10, 3) := by decide +kernel
theorem dX12_sign_118 : decode cX12_sign 118 = .ok (.bipush 9, 2) := by decide +kernel
theorem dX12_sign_120 : decode cX12_sign 120 = .ok (.istore 5, 2) := by decide +kernel
theorem dX12_sign_122 : decode cX12_sign 122 = .ok (.goto 52, 3) := by decide +kernel
theorem dX12_sign_125 : decode cX12_sign 125 = .ok (.iload_n 2, 1) := by decide +kernel
theorem dX12_sign_126 : decode cX12_sign 126 = .ok (.bipush 42, 2) := by decide +kernel
theorem dX12_sign_128 : decode cX12_sign 128 = .ok (.if_icmp .ne 10, 3) := by decide +kernel
theorem dX12_sign_131 : decode cX12_sign 131 = .ok (.bipush 10, 2) := by decide +kernel
theorem dX12_sign_133 : decode cX12_sign 133 = .ok (.istore 5, 2) := by decide +kernel
theorem dX12_sign_135 : decode cX12_sign 135 = .ok (.goto 39, 3) := by decide +kernel
theorem dX12_sign_138 : decode cX12_sign 138 = .ok (.iload_n 2, 1) := by decide +kernel
theorem dX12_sign_139 : decode cX12_sign 139 = .ok (.bipush 60, 2) := by decide +kernel
theorem dX12_sign_141 : decode cX12_sign 141 = .ok (.if_icmp .ne 10, 3) := by decide +kernel
theorem dX12_sign_144 : decode cX12_sign 144 = .ok (.bipush 13, 2) := by decide +kernel
theorem dX12_sign_146 : decode cX12_sign 146 = .ok (.istore 5, 2) := by decide +kernel
theorem dX12_sign_148 : decode cX12_sign 148 = .ok (.goto 26, 3) := by decide +kernel
theorem dX12_sign_151 : decode cX12_sign 151 = .ok (.iload_n 2, 1) := by decide +kernel
theorem dX12_sign_152 : decode cX12_sign 152 = .ok (.bipush 47, 2) := by decide +kernel
theorem dX12_sign_154 : decode cX12_sign 154 = .ok (.if_icmp .ne 10, 3) := by decide +kernel
theorem dX12_sign_157 : decode cX12_sign 157 = .ok (.bipush 15, 2) := by decide +kernel
theorem dX12_sign_159 : decode cX12_sign 159 = .ok (.istore 5, 2) := by decide +kernel
theorem dX12_sign_161 : decode cX12_sign 161 = .ok (.goto 13, 3) := by decide +kernel
theorem dX12_sign_164 : decode cX12_sign 164 = .ok (.iload_n 2, 1) := by decide +kernel
theorem dX12_sign_165 : decode cX12_sign 165 = .ok (.bipush 61, 2) := by decide +kernel
theorem dX12_sign_167 : decode cX12_sign 167 = .ok (.if_icmp .ne 7, 3) := by decide +kernel
theorem dX12_sign_170 : decode cX12_sign 170 = .ok (.bipush 16, 2) := by decide +kernel
theorem dX12_sign_172 : decode cX12_sign 172 = .ok (.istore 5, 2) := by decide +kernel
theorem dX12_sign_174 : decode cX12_sign 174 = .ok (.aload_n 0, 1) := by decide +kernel
theorem dX12_sign_175 : decode cX12_sign 175 = .ok (.iload 5, 2) := by decide +kernel
theorem dX12_sign_177 : decode cX12_sign 177 = .ok (.iload_n 1, 1) := by decide +kernel
theorem dX12_sign_178 : decode cX12_sign 178 = .ok (.iconst 0, 1) := by decide +kernel
theorem dX12_sign_179 : decode cX12_sign 179 = .ok (.lconst 0, 1) := by decide +kernel
theorem dX12_sign_180 : decode cX12_sign 180 = .ok (.invokevirtual 239, 3) := by decide +kernel
theorem dX12_sign_183 : decode cX12_sign 183 = .ok (.iload 4, 2) := by decide +kernel
theorem dX12_sign_185 : decode cX12_sign 185 = .ok (.ifCond .le 7, 3) := by decide +kernel
theorem dX12_sign_188 : decode cX12_sign 188 = .ok (.iconst 2, 1) := by decide +kernel
theorem dX12_sign_189 : decode cX12_sign 189 = .ok (.goto 4, 3) := by decide +kernel
theorem dX12_sign_192 : decode cX12_sign 192 = .ok (.iconst 1, 1) := by decide +kernel
theorem dX12_sign_193 : decode cX12_sign 193 = .ok (.ireturn, 1) := by decide +kernel
theorem dX12_is_0 : decode cX12_is 0 = .ok (.aload_n 0, 1) := by decide +kernel
theorem dX12_is_1 : decode cX12_is 1 = .ok (.getfield 254, 3) := by decide +kernel
theorem dX12_is_4 : decode cX12_is 4 = .ok (.ifCond .ne 20, 3) := by decide +kernel
theorem dX12_is_7 : decode cX12_is 7 = .ok (.aload_n 0, 1) := by decide +kernel
theorem dX12_is_8 : decode cX12_is 8 = .ok (.getfield 20, 3) := by decide +kernel
theorem dX12_is_11 : decode cX12_is 11 = .ok (.aload_n 0, 1) := by decide +kernel
theorem dX12_is_12 : decode cX12_is 12 = .ok (.getfield 257, 3) := by decide +kernel
theorem dX12_is_15 : decode cX12_is 15 = .ok (.iaload, 1) := by decide +kernel
theorem dX12_is_16 : decode cX12_is 16 = .ok (.iload_n 1, 1) := by decide +kernel
theorem dX12_is_17 : decode cX12_is 17 = .ok (.if_icmp .ne 7, 3) := by decide +kernel
theorem dX12_is_20 : decode cX12_is 20 = .ok (.iconst 1, 1) := by decide +kernel
theorem dX12_is_21 : decode cX12_is 21 = .ok (.goto 4, 3) := by decide +kernel
theorem dX12_is_24 : decode cX12_is 24 = .ok (.iconst 0, 1) := by decide +kernel
theorem dX12_is_25 : decode cX12_is 25 = .ok (.ireturn, 1) := by decide +kernel
theorem dX12_fail_0 : decode cX12_fail 0 = .ok (.aload_n 0, 1) := by decide +kernel
theorem dX12_fail_1 : decode cX12_fail 1 = .ok (.getfield 254, 3) := by decide +kernel
theorem dX12_fail_4 : decode cX12_fail 4 = .ok (.ifCond .le 4, 3) := by decide +kernel
theorem dX12_fail_7 : decode cX12_fail 7 = .ok (.return_, 1) := by decide +kernel
theorem dX12_fail_8 : decode cX12_fail 8 = .ok (.aload_n 0, 1) := by decide +kernel
theorem dX12_fail_9 : decode cX12_fail 9 = .ok (.iload_n 1, 1) := by decide +kernel
theorem dX12_fail_10 : decode cX12_fail 10 = .ok (.putfield 254, 3) := by decide +kernel
theorem dX12_fail_13 : decode cX12_fail 13 = .ok (.aload_n 0, 1) := by decide +kernel
theorem dX12_fail_14 : decode cX12_fail 14 = .ok (.aload_n 0, 1) := by decide +kernel
theorem dX12_fail_15 : decode cX12_fail 15 = .ok (.getfield 24, 3) := by decide +kernel
theorem dX12_fail_18 : decode cX12_fail 18 = .ok (.aload_n 0, 1) := by decide +kernel
theorem dX12_fail_19 : decode cX12_fail 19 = .ok (.getfield 257, 3) := by decide +kernel
theorem dX12_fail_22 : decode cX12_fail 22 = .ok (.iaload, 1) := by decide +kernel
theorem dX12_fail_23 : decode cX12_fail 23 = .ok (.putfield 260, 3) := by decide +kernel
theorem dX12_fail_26 : decode cX12_fail 26 = .ok (.return_, 1) := by decide +kernel
theorem dX12_amiss_0 : decode cX12_amiss 0 = .ok (.aload_n 0, 1) := by decide +kernel
theorem dX12_amiss_1 : decode cX12_amiss 1 = .ok (.getfield 24, 3) := by decide +kernel
theorem dX12_amiss_4 : decode cX12_amiss 4 = .ok (.iload_n 2, 1) := by decide +kernel
theorem dX12_amiss_5 : decode cX12_amiss 5 = .ok (.iaload, 1) := by decide +kernel
theorem dX12_amiss_6 : decode cX12_amiss 6 = .ok (.istore_n 3, 1) := by decide +kernel
theorem dX12_amiss_7 : decode cX12_amiss 7 = .ok (.aload_n 0, 1) := by decide +kernel
theorem dX12_amiss_8 : decode cX12_amiss 8 = .ok (.getfield 254, 3) := by decide +kernel
theorem dX12_amiss_11 : decode cX12_amiss 11 = .ok (.ifCond .gt 34, 3) := by decide +kernel
theorem dX12_amiss_14 : decode cX12_amiss 14 = .ok (.aload_n 0, 1) := by decide +kernel
theorem dX12_amiss_15 : decode cX12_amiss 15 = .ok (.getfield 263, 3) := by decide +kernel
theorem dX12_amiss_18 : decode cX12_amiss 18 = .ok (.ifCond .eq 28, 3) := by decide +kernel
theorem dX12_amiss_21 : decode cX12_amiss 21 = .ok (.iload_n 3, 1) := by decide +kernel
theorem dX12_amiss_22 : decode cX12_amiss 22 = .ok (.aload_n 0, 1) := by decide +kernel
theorem dX12_amiss_23 : decode cX12_amiss 23 = .ok (.getfield 266, 3) := by decide +kernel
theorem dX12_amiss_26 : decode cX12_amiss 26 = .ok (.if_icmp .gt 19, 3) := by decide +kernel
theorem dX12_amiss_29 : decode cX12_amiss 29 = .ok (.iload_n 3, 1) := by decide +kernel
theorem dX12_amiss_30 : decode cX12_amiss 30 = .ok (.aload_n 0, 1) := by decide +kernel
theorem dX12_amiss_31 : decode cX12_amiss 31 = .ok (.getfield 266, 3) := by decide +kernel
theorem dX12_amiss_34 : decode cX12_amiss 34 = .ok (.if_icmp .ne 12, 3) := by decide +kernel
theorem dX12_amiss_37 : decode cX12_amiss 37 = .ok (.iload_n 1, 1) := by decide +kernel
theorem dX12_amiss_38 : decode cX12_amiss 38 = .ok (.aload_n 0, 1) := by decide +kernel
theorem dX12_amiss_39 : decode cX12_amiss 39 = .ok (.getfield 263, 3) := by decide +kernel
theorem dX12_amiss_42 : decode cX12_amiss 42 = .ok (.if_icmp .lt 4, 3) := by decide +kernel
theorem dX12_amiss_45 : decode cX12_amiss 45 = .ok (.return_, 1) := by decide +kernel
theorem dX12_amiss_46 : decode cX12_amiss 46 = .ok (.aload_n 0, 1) := by decide +kernel
theorem dX12_amiss_47 : decode cX12_amiss 47 = .ok (.iload_n 1, 1) := by decide +kernel
theorem dX12_amiss_48 : decode cX12_amiss 48 = .ok (.putfield 263, 3) := by decide +kernel
theorem dX12_amiss_51 : decode cX12_amiss 51 = .ok (.aload_n 0, 1) := by decide +kernel
theorem dX12_amiss_52 : decode cX12_amiss 52 = .ok (.iload_n 3, 1) := by decide +kernel
theorem dX12_amiss_53 : decode cX12_amiss 53 = .ok (.putfield 266, 3) := by decide +kernel
theorem dX12_amiss_56 : decode cX12_amiss 56 = .ok (.return_, 1) := by decide +kernel
theorem dX12_goesOn_0 : decode cX12_goesOn 0 = .ok (.aload_n 0, 1) := by decide +kernel
theorem dX12_goesOn_1 : decode cX12_goesOn 1 = .ok (.getfield 257, 3) := by decide +kernel
theorem dX12_goesOn_4 : decode cX12_goesOn 4 = .ok (.sipush 400, 3) := by decide +kernel
theorem dX12_goesOn_7 : decode cX12_goesOn 7 = .ok (.if_icmp .ne 11, 3) := by decide +kernel
theorem dX12_goesOn_10 : decode cX12_goesOn 10 = .ok (.aload_n 0, 1) := by decide +kernel
theorem dX12_goesOn_11 : decode cX12_goesOn 11 = .ok (.iconst 2, 1) := by decide +kernel
theorem dX12_goesOn_12 : decode cX12_goesOn 12 = .ok (.invokevirtual 269, 3) := by decide +kernel
theorem dX12_goesOn_15 : decode cX12_goesOn 15 = .ok (.goto 13, 3) := by decide +kernel
theorem dX12_goesOn_18 : decode cX12_goesOn 18 = .ok (.aload_n 0, 1) := by decide +kernel
theorem dX12_goesOn_19 : decode cX12_goesOn 19 = .ok (.dup, 1) := by decide +kernel
theorem dX12_goesOn_20 : decode cX12_goesOn 20 = .ok (.getfield 257, 3) := by decide +kernel
theorem dX12_goesOn_23 : decode cX12_goesOn 23 = .ok (.iconst 1, 1) := by decide +kernel
theorem dX12_goesOn_24 : decode cX12_goesOn 24 = .ok (.iadd, 1) := by decide +kernel
theorem dX12_goesOn_25 : decode cX12_goesOn 25 = .ok (.putfield 257, 3) := by decide +kernel
theorem dX12_goesOn_28 : decode cX12_goesOn 28 = .ok (.return_, 1) := by decide +kernel
theorem dX12_must_0 : decode cX12_must 0 = .ok (.aload_n 0, 1) := by decide +kernel
theorem dX12_must_1 : decode cX12_must 1 = .ok (.iload_n 1, 1) := by decide +kernel
theorem dX12_must_2 : decode cX12_must 2 = .ok (.invokevirtual 272, 3) := by decide +kernel
theorem dX12_must_5 : decode cX12_must 5 = .ok (.ifCond .eq 10, 3) := by decide +kernel
theorem dX12_must_8 : decode cX12_must 8 = .ok (.aload_n 0, 1) := by decide +kernel
theorem dX12_must_9 : decode cX12_must 9 = .ok (.invokevirtual 275, 3) := by decide +kernel
theorem dX12_must_12 : decode cX12_must 12 = .ok (.goto 8, 3) := by decide +kernel
theorem dX12_must_15 : decode cX12_must 15 = .ok (.aload_n 0, 1) := by decide +kernel
theorem dX12_must_16 : decode cX12_must 16 = .ok (.iconst 1, 1) := by decide +kernel
theorem dX12_must_17 : decode cX12_must 17 = .ok (.invokevirtual 269, 3) := by decide +kernel
theorem dX12_must_20 : decode cX12_must 20 = .ok (.return_, 1) := by decide +kernel
theorem dX12_read_0 : decode cX12_read 0 = .ok (.aload_n 0, 1) := by decide +kernel
theorem dX12_read_1 : decode cX12_read 1 = .ok (.aload_n 0, 1) := by decide +kernel
theorem dX12_read_2 : decode cX12_read 2 = .ok (.getfield 216, 3) := by decide +kernel
theorem dX12_read_5 : decode cX12_read 5 = .ok (.putfield 223, 3) := by decide +kernel
theorem dX12_read_8 : decode cX12_read 8 = .ok (.iconst 0, 1) := by decide +kernel
theorem dX12_read_9 : decode cX12_read 9 = .ok (.istore_n 1, 1) := by decide +kernel
theorem dX12_read_10 : decode cX12_read 10 = .ok (.iload_n 1, 1) := by decide +kernel
theorem dX12_read_11 : decode cX12_read 11 = .ok (.aload_n 0, 1) := by decide +kernel
theorem dX12_read_12 : decode cX12_read 12 = .ok (.getfield 223, 3) := by decide +kernel
theorem dX12_read_15 : decode cX12_read 15 = .ok (.if_icmp .ge 21, 3) := by decide +kernel
theorem dX12_read_18 : decode cX12_read 18 = .ok (.aload_n 0, 1) := by decide +kernel
theorem dX12_read_19 : decode cX12_read 19 = .ok (.getfield 17, 3) := by decide +kernel
theorem dX12_read_22 : decode cX12_read 22 = .ok (.iload_n 1, 1) := by decide +kernel
theorem dX12_read_23 : decode cX12_read 23 = .ok (.aload_n 0, 1) := by decide +kernel
theorem dX12_read_24 : decode cX12_read 24 = .ok (.getfield 13, 3) := by decide +kernel
theorem dX12_read_27 : decode cX12_read 27 = .ok (.iload_n 1, 1) := by decide +kernel
theorem dX12_read_28 : decode cX12_read 28 = .ok (.baload, 1) := by decide +kernel
theorem dX12_read_29 : decode cX12_read 29 = .ok (.bastore, 1) := by decide +kernel
theorem dX12_read_30 : decode cX12_read 30 = .ok (.iinc 1 1, 3) := by decide +kernel
theorem dX12_read_33 : decode cX12_read 33 = .ok (.goto (-23), 3) := by decide +kernel
theorem dX12_read_36 : decode cX12_read 36 = .ok (.aload_n 0, 1) := by decide +kernel
theorem dX12_read_37 : decode cX12_read 37 = .ok (.iconst 0, 1) := by decide +kernel
theorem dX12_read_38 : decode cX12_read 38 = .ok (.putfield 216, 3) := by decide +kernel
theorem dX12_read_41 : decode cX12_read 41 = .ok (.aload_n 0, 1) := by decide +kernel
theorem dX12_read_42 : decode cX12_read 42 = .ok (.invokevirtual 278, 3) := by decide +kernel
theorem dX12_read_45 : decode cX12_read 45 = .ok (.aload_n 0, 1) := by decide +kernel
theorem dX12_read_46 : decode cX12_read 46 = .ok (.iconst 0, 1) := by decide +kernel
theorem dX12_read_47 : decode cX12_read 47 = .ok (.putfield 257, 3) := by decide +kernel
theorem dX12_read_50 : decode cX12_read 50 = .ok (.aload_n 0, 1) := by decide +kernel
theorem dX12_read_51 : decode cX12_read 51 = .ok (.iconst 0, 1) := by decide +kernel
theorem dX12_read_52 : decode cX12_read 52 = .ok (.putfield 281, 3) := by decide +kernel
theorem dX12_read_55 : decode cX12_read 55 = .ok (.aload_n 0, 1) := by decide +kernel
theorem dX12_read_56 : decode cX12_read 56 = .ok (.iconst 0, 1) := by decide +kernel
theorem dX12_read_57 : decode cX12_read 57 = .ok (.putfield 254, 3) := by decide +kernel
theorem dX12_read_60 : decode cX12_read 60 = .ok (.aload_n 0, 1) := by decide +kernel
theorem dX12_read_61 : decode cX12_read 61 = .ok (.iconst 0, 1) := by decide +kernel
theorem dX12_read_62 : decode cX12_read 62 = .ok (.putfield 263, 3) := by decide +kernel
theorem dX12_read_65 : decode cX12_read 65 = .ok (.aload_n 0, 1) := by decide +kernel
theorem dX12_read_66 : decode cX12_read 66 = .ok (.iconst 1, 1) := by decide +kernel
theorem dX12_read_67 : decode cX12_read 67 = .ok (.aload_n 0, 1) := by decide +kernel
theorem dX12_read_68 : decode cX12_read 68 = .ok (.getfield 284, 3) := by decide +kernel
theorem dX12_read_71 : decode cX12_read 71 = .ok (.isub, 1) := by decide +kernel
theorem dX12_read_72 : decode cX12_read 72 = .ok (.putfield 287, 3) := by decide +kernel
theorem dX12_read_75 : decode cX12_read 75 = .ok (.aload_n 0, 1) := by decide +kernel
theorem dX12_read_76 : decode cX12_read 76 = .ok (.iconst 0, 1) := by decide +kernel
theorem dX12_read_77 : decode cX12_read 77 = .ok (.putfield 290, 3) := by decide +kernel
theorem dX12_read_80 : decode cX12_read 80 = .ok (.aload_n 0, 1) := by decide +kernel
theorem dX12_read_81 : decode cX12_read 81 = .ok (.getfield 49, 3) := by decide +kernel
theorem dX12_read_84 : decode cX12_read 84 = .ok (.aload_n 0, 1) := by decide +kernel
theorem dX12_read_85 : decode cX12_read 85 = .ok (.getfield 287, 3) := by decide +kernel
theorem dX12_read_88 : decode cX12_read 88 = .ok (.iconst 0, 1) := by decide +kernel
theorem dX12_read_89 : decode cX12_read 89 = .ok (.iastore, 1) := by decide +kernel
theorem dX12_read_90 : decode cX12_read 90 = .ok (.aload_n 0, 1) := by decide +kernel
theorem dX12_read_91 : decode cX12_read 91 = .ok (.getfield 55, 3) := by decide +kernel
theorem dX12_read_94 : decode cX12_read 94 = .ok (.aload_n 0, 1) := by decide +kernel
theorem dX12_read_95 : decode cX12_read 95 = .ok (.getfield 287, 3) := by decide +kernel
theorem dX12_read_98 : decode cX12_read 98 = .ok (.iconst 0, 1) := by decide +kernel
theorem dX12_read_99 : decode cX12_read 99 = .ok (.iastore, 1) := by decide +kernel
theorem dX12_read_100 : decode cX12_read 100 = .ok (.aload_n 0, 1) := by decide +kernel
theorem dX12_read_101 : decode cX12_read 101 = .ok (.getfield 58, 3) := by decide +kernel
theorem dX12_read_104 : decode cX12_read 104 = .ok (.aload_n 0, 1) := by decide +kernel
theorem dX12_read_105 : decode cX12_read 105 = .ok (.getfield 287, 3) := by decide +kernel
theorem dX12_read_108 : decode cX12_read 108 = .ok (.iconst 0, 1) := by decide +kernel
theorem dX12_read_109 : decode cX12_read 109 = .ok (.iastore, 1) := by decide +kernel
theorem dX12_read_110 : decode cX12_read 110 = .ok (.aload_n 0, 1) := by decide +kernel
theorem dX12_read_111 : decode cX12_read 111 = .ok (.getfield 67, 3) := by decide +kernel
theorem dX12_read_114 : decode cX12_read 114 = .ok (.aload_n 0, 1) := by decide +kernel
theorem dX12_read_115 : decode cX12_read 115 = .ok (.getfield 287, 3) := by decide +kernel
theorem dX12_read_118 : decode cX12_read 118 = .ok (.iconst 0, 1) := by decide +kernel
theorem dX12_read_119 : decode cX12_read 119 = .ok (.iastore, 1) := by decide +kernel
theorem dX12_read_120 : decode cX12_read 120 = .ok (.aload_n 0, 1) := by decide +kernel
theorem dX12_read_121 : decode cX12_read 121 = .ok (.getfield 91, 3) := by decide +kernel
theorem dX12_read_124 : decode cX12_read 124 = .ok (.aload_n 0, 1) := by decide +kernel
theorem dX12_read_125 : decode cX12_read 125 = .ok (.getfield 287, 3) := by decide +kernel
theorem dX12_read_128 : decode cX12_read 128 = .ok (.bipush 10, 2) := by decide +kernel
theorem dX12_read_130 : decode cX12_read 130 = .ok (.iastore, 1) := by decide +kernel
theorem dX12_read_131 : decode cX12_read 131 = .ok (.iconst 0, 1) := by decide +kernel
theorem dX12_read_132 : decode cX12_read 132 = .ok (.istore_n 1, 1) := by decide +kernel
theorem dX12_read_133 : decode cX12_read 133 = .ok (.iload_n 1, 1) := by decide +kernel
theorem dX12_read_134 : decode cX12_read 134 = .ok (.iconst 3, 1) := by decide +kernel
theorem dX12_read_135 : decode cX12_read 135 = .ok (.if_icmp .ge 23, 3) := by decide +kernel
theorem dX12_read_138 : decode cX12_read 138 = .ok (.aload_n 0, 1) := by decide +kernel
theorem dX12_read_139 : decode cX12_read 139 = .ok (.getfield 94, 3) := by decide +kernel
theorem dX12_read_142 : decode cX12_read 142 = .ok (.iconst 3, 1) := by decide +kernel
theorem dX12_read_143 : decode cX12_read 143 = .ok (.aload_n 0, 1) := by decide +kernel
theorem dX12_read_144 : decode cX12_read 144 = .ok (.getfield 287, 3) := by decide +kernel
theorem dX12_read_147 : decode cX12_read 147 = .ok (.imul, 1) := by decide +kernel
theorem dX12_read_148 : decode cX12_read 148 = .ok (.iload_n 1, 1) := by decide +kernel
theorem dX12_read_149 : decode cX12_read 149 = .ok (.iadd, 1) := by decide +kernel
theorem dX12_read_150 : decode cX12_read 150 = .ok (.iconst 0, 1) := by decide +kernel
theorem dX12_read_151 : decode cX12_read 151 = .ok (.bastore, 1) := by decide +kernel
theorem dX12_read_152 : decode cX12_read 152 = .ok (.iinc 1 1, 3) := by decide +kernel
theorem dX12_read_155 : decode cX12_read 155 = .ok (.goto (-22), 3) := by decide +kernel
theorem dX12_read_158 : decode cX12_read 158 = .ok (.aload_n 0, 1) := by decide +kernel
theorem dX12_read_159 : decode cX12_read 159 = .ok (.sipush 150, 3) := by decide +kernel
theorem dX12_read_162 : decode cX12_read 162 = .ok (.aload_n 0, 1) := by decide +kernel
theorem dX12_read_163 : decode cX12_read 163 = .ok (.getfield 287, 3) := by decide +kernel
theorem dX12_read_166 : decode cX12_read 166 = .ok (.imul, 1) := by decide +kernel
theorem dX12_read_167 : decode cX12_read 167 = .ok (.putfield 293, 3) := by decide +kernel
theorem dX12_read_170 : decode cX12_read 170 = .ok (.aload_n 0, 1) := by decide +kernel
theorem dX12_read_171 : decode cX12_read 171 = .ok (.sipush 420, 3) := by decide +kernel
theorem dX12_read_174 : decode cX12_read 174 = .ok (.aload_n 0, 1) := by decide +kernel
theorem dX12_read_175 : decode cX12_read 175 = .ok (.getfield 287, 3) := by decide +kernel
theorem dX12_read_178 : decode cX12_read 178 = .ok (.imul, 1) := by decide +kernel
theorem dX12_read_179 : decode cX12_read 179 = .ok (.putfield 296, 3) := by decide +kernel
theorem dX12_read_182 : decode cX12_read 182 = .ok (.aload_n 0, 1) := by decide +kernel
theorem dX12_read_183 : decode cX12_read 183 = .ok (.getfield 254, 3) := by decide +kernel
theorem dX12_read_186 : decode cX12_read 186 = .ok (.ifCond .ne 18, 3) := by decide +kernel
theorem dX12_read_189 : decode cX12_read 189 = .ok (.aload_n 0, 1) := by decide +kernel
theorem dX12_read_190 : decode cX12_read 190 = .ok (.iconst 0, 1) := by decide +kernel
theorem dX12_read_191 : decode cX12_read 191 = .ok (.invokevirtual 272, 3) := by decide +kernel
theorem dX12_read_194 : decode cX12_read 194 = .ok (.ifCond .ne 10, 3) := by decide +kernel
theorem dX12_read_197 : decode cX12_read 197 = .ok (.aload_n 0, 1) := by decide +kernel
theorem dX12_read_198 : decode cX12_read 198 = .ok (.invokevirtual 299, 3) := by decide +kernel
theorem dX12_read_201 : decode cX12_read 201 = .ok (.goto (-19), 3) := by decide +kernel
theorem dX12_read_204 : decode cX12_read 204 = .ok (.aload_n 0, 1) := by decide +kernel
theorem dX12_read_205 : decode cX12_read 205 = .ok (.getfield 254, 3) := by decide +kernel
theorem dX12_read_208 : decode cX12_read 208 = .ok (.ifCond .ne 7, 3) := by decide +kernel
theorem dX12_read_211 : decode cX12_read 211 = .ok (.aload_n 0, 1) := by decide +kernel
theorem dX12_read_212 : decode cX12_read 212 = .ok (.invokevirtual 302, 3) := by decide +kernel
theorem dX12_read_215 : decode cX12_read 215 = .ok (.aload_n 0, 1) := by decide +kernel
theorem dX12_read_216 : decode cX12_read 216 = .ok (.aload_n 0, 1) := by decide +kernel
theorem dX12_read_217 : decode cX12_read 217 = .ok (.getfield 254, 3) := by decide +kernel
theorem dX12_read_220 : decode cX12_read 220 = .ok (.ifCond .le 10, 3) := by decide +kernel
theorem dX12_read_223 : decode cX12_read 223 = .ok (.aload_n 0, 1) := by decide +kernel
theorem dX12_read_224 : decode cX12_read 224 = .ok (.getfield 260, 3) := by decide +kernel
theorem dX12_read_227 : decode cX12_read 227 = .ok (.goto 18, 3) := by decide +kernel
theorem dX12_read_230 : decode cX12_read 230 = .ok (.aload_n 0, 1) := by decide +kernel
theorem dX12_read_231 : decode cX12_read 231 = .ok (.getfield 263, 3) := by decide +kernel
theorem dX12_read_234 : decode cX12_read 234 = .ok (.ifCond .le 10, 3) := by decide +kernel
theorem dX12_read_237 : decode cX12_read 237 = .ok (.aload_n 0, 1) := by decide +kernel
theorem dX12_read_238 : decode cX12_read 238 = .ok (.getfield 266, 3) := by decide +kernel
theorem dX12_read_241 : decode cX12_read 241 = .ok (.goto 4, 3) := by decide +kernel
theorem dX12_read_244 : decode cX12_read 244 = .ok (.iconst (-1), 1) := by decide +kernel
theorem dX12_read_245 : decode cX12_read 245 = .ok (.putfield 37, 3) := by decide +kernel
theorem dX12_read_248 : decode cX12_read 248 = .ok (.aload_n 0, 1) := by decide +kernel
theorem dX12_read_249 : decode cX12_read 249 = .ok (.getfield 254, 3) := by decide +kernel
theorem dX12_read_252 : decode cX12_read 252 = .ok (.ifCond .le 8, 3) := by decide +kernel
theorem dX12_read_255 : decode cX12_read 255 = .ok (.aload_n 0, 1) := by decide +kernel
theorem dX12_read_256 : decode cX12_read 256 = .ok (.getfield 254, 3) := by decide +kernel
theorem dX12_read_259 : decode cX12_read 259 = .ok (.ireturn, 1) := by decide +kernel
theorem dX12_read_260 : decode cX12_read 260 = .ok (.aload_n 0, 1) := by decide +kernel
theorem dX12_read_261 : decode cX12_read 261 = .ok (.getfield 263, 3) := by decide +kernel
theorem dX12_read_264 : decode cX12_read 264 = .ok (.ifCond .le 8, 3) := by decide +kernel
theorem dX12_read_267 : decode cX12_read 267 = .ok (.aload_n 0, 1) := by decide +kernel
theorem dX12_read_268 : decode cX12_read 268 = .ok (.getfield 263, 3) := by decide +kernel
theorem dX12_read_271 : decode cX12_read 271 = .ok (.ireturn, 1) := by decide +kernel
theorem dX12_read_272 : decode cX12_read 272 = .ok (.aload_n 0, 1) := by decide +kernel
theorem dX12_read_273 : decode cX12_read 273 = .ok (.aload_n 0, 1) := by decide +kernel
theorem dX12_read_274 : decode cX12_read 274 = .ok (.getfield 287, 3) := by decide +kernel
theorem dX12_read_277 : decode cX12_read 277 = .ok (.putfield 284, 3) := by decide +kernel
theorem dX12_read_280 : decode cX12_read 280 = .ok (.aload_n 0, 1) := by decide +kernel
theorem dX12_read_281 : decode cX12_read 281 = .ok (.iconst 0, 1) := by decide +kernel
theorem dX12_read_282 : decode cX12_read 282 = .ok (.putfield 305, 3) := by decide +kernel
theorem dX12_read_285 : decode cX12_read 285 = .ok (.iconst 0, 1) := by decide +kernel
theorem dX12_read_286 : decode cX12_read 286 = .ok (.istore_n 1, 1) := by decide +kernel
theorem dX12_read_287 : decode cX12_read 287 = .ok (.iload_n 1, 1) := by decide +kernel
theorem dX12_read_288 : decode cX12_read 288 = .ok (.iconst 3, 1) := by decide +kernel
theorem dX12_read_289 : decode cX12_read 289 = .ok (.if_icmp .ge 16, 3) := by decide +kernel
theorem dX12_read_292 : decode cX12_read 292 = .ok (.aload_n 0, 1) := by decide +kernel
theorem dX12_read_293 : decode cX12_read 293 = .ok (.getfield 197, 3) := by decide +kernel
theorem dX12_read_296 : decode cX12_read 296 = .ok (.iload_n 1, 1) := by decide +kernel
theorem dX12_read_297 : decode cX12_read 297 = .ok (.iconst (-1), 1) := by decide +kernel
theorem dX12_read_298 : decode cX12_read 298 = .ok (.iastore, 1) := by decide +kernel
theorem dX12_read_299 : decode cX12_read 299 = .ok (.iinc 1 1, 3) := by decide +kernel
theorem dX12_read_302 : decode cX12_read 302 = .ok (.goto (-15), 3) := by decide +kernel
theorem dX12_read_305 : decode cX12_read 305 = .ok (.iconst 0, 1) := by decide +kernel
theorem dX12_read_306 : decode cX12_read 306 = .ok (.ireturn, 1) := by decide +kernel
theorem dX12_place_0 : decode cX12_place 0 = .ok (.aload_n 0, 1) := by decide +kernel
theorem dX12_place_1 : decode cX12_place 1 = .ok (.getfield 37, 3) := by decide +kernel
theorem dX12_place_4 : decode cX12_place 4 = .ok (.ireturn, 1) := by decide +kernel
theorem dX12_findsRead_0 : decode cX12_findsRead 0 = .ok (.sipush 150, 3) := by decide +kernel
theorem dX12_findsRead_3 : decode cX12_findsRead 3 = .ok (.aload_n 0, 1) := by decide +kernel
theorem dX12_findsRead_4 : decode cX12_findsRead 4 = .ok (.getfield 287, 3) := by decide +kernel
theorem dX12_findsRead_7 : decode cX12_findsRead 7 = .ok (.imul, 1) := by decide +kernel
theorem dX12_findsRead_8 : decode cX12_findsRead 8 = .ok (.istore_n 1, 1) := by decide +kernel
theorem dX12_findsRead_9 : decode cX12_findsRead 9 = .ok (.iload_n 1, 1) := by decide +kernel
theorem dX12_findsRead_10 : decode cX12_findsRead 10 = .ok (.aload_n 0, 1) := by decide +kernel
theorem dX12_findsRead_11 : decode cX12_findsRead 11 = .ok (.getfield 293, 3) := by decide +kernel
theorem dX12_findsRead_14 : decode cX12_findsRead 14 = .ok (.if_icmp .ge 57, 3) := by decide +kernel
theorem dX12_findsRead_17 : decode cX12_findsRead 17 = .ok (.aload_n 0, 1) := by decide +kernel
theorem dX12_findsRead_18 : decode cX12_findsRead 18 = .ok (.getfield 104, 3) := by decide +kernel
theorem dX12_findsRead_21 : decode cX12_findsRead 21 = .ok (.iload_n 1, 1) := by decide +kernel
theorem dX12_findsRead_22 : decode cX12_findsRead 22 = .ok (.iaload, 1) := by decide +kernel
theorem dX12_findsRead_23 : decode cX12_findsRead 23 = .ok (.iconst 5, 1) := by decide +kernel
theorem dX12_findsRead_24 : decode cX12_findsRead 24 = .ok (.if_icmp .eq 6, 3) := by decide +kernel
theorem dX12_findsRead_27 : decode cX12_findsRead 27 = .ok (.goto 38, 3) := by decide +kernel
theorem dX12_findsRead_30 : decode cX12_findsRead 30 = .ok (.aload_n 0, 1) := by decide +kernel
theorem dX12_findsRead_31 : decode cX12_findsRead 31 = .ok (.getfield 113, 3) := by decide +kernel
theorem dX12_findsRead_34 : decode cX12_findsRead 34 = .ok (.iload_n 1, 1) := by decide +kernel
theorem dX12_findsRead_35 : decode cX12_findsRead 35 = .ok (.iaload, 1) := by decide +kernel
theorem dX12_findsRead_36 : decode cX12_findsRead 36 = .ok (.istore_n 2, 1) := by decide +kernel
theorem dX12_findsRead_37 : decode cX12_findsRead 37 = .ok (.aload_n 0, 1) := by decide +kernel
theorem dX12_findsRead_38 : decode cX12_findsRead 38 = .ok (.getfield 113, 3) := by decide +kernel
theorem dX12_findsRead_41 : decode cX12_findsRead 41 = .ok (.iload_n 1, 1) := by decide +kernel
theorem dX12_findsRead_42 : decode cX12_findsRead 42 = .ok (.aload_n 0, 1) := by decide +kernel
theorem dX12_findsRead_43 : decode cX12_findsRead 43 = .ok (.iload_n 2, 1) := by decide +kernel
theorem dX12_findsRead_44 : decode cX12_findsRead 44 = .ok (.iconst 2, 1) := by decide +kernel
theorem dX12_findsRead_45 : decode cX12_findsRead 45 = .ok (.invokevirtual 308, 3) := by decide +kernel
theorem dX12_findsRead_48 : decode cX12_findsRead 48 = .ok (.iastore, 1) := by decide +kernel
theorem dX12_findsRead_49 : decode cX12_findsRead 49 = .ok (.aload_n 0, 1) := by decide +kernel
theorem dX12_findsRead_50 : decode cX12_findsRead 50 = .ok (.getfield 113, 3) := by decide +kernel
theorem dX12_findsRead_53 : decode cX12_findsRead 53 = .ok (.iload_n 1, 1) := by decide +kernel
theorem dX12_findsRead_54 : decode cX12_findsRead 54 = .ok (.iaload, 1) := by decide +kernel
theorem dX12_findsRead_55 : decode cX12_findsRead 55 = .ok (.iconst (-1), 1) := by decide +kernel
theorem dX12_findsRead_56 : decode cX12_findsRead 56 = .ok (.if_icmp .ne 9, 3) := by decide +kernel
theorem dX12_findsRead_59 : decode cX12_findsRead 59 = .ok (.aload_n 0, 1) := by decide +kernel
theorem dX12_findsRead_60 : decode cX12_findsRead 60 = .ok (.iconst 4, 1) := by decide +kernel
theorem dX12_findsRead_61 : decode cX12_findsRead 61 = .ok (.iload_n 2, 1) := by decide +kernel
theorem dX12_findsRead_62 : decode cX12_findsRead 62 = .ok (.invokevirtual 312, 3) := by decide +kernel
theorem dX12_findsRead_65 : decode cX12_findsRead 65 = .ok (.iinc 1 1, 3) := by decide +kernel
theorem dX12_findsRead_68 : decode cX12_findsRead 68 = .ok (.goto (-59), 3) := by decide +kernel
theorem dX12_findsRead_71 : decode cX12_findsRead 71 = .ok (.return_, 1) := by decide +kernel
theorem dX12_tell_0 : decode cX12_tell 0 = .ok (.aload_n 0, 1) := by decide +kernel
theorem dX12_tell_1 : decode cX12_tell 1 = .ok (.getfield 20, 3) := by decide +kernel
theorem dX12_tell_4 : decode cX12_tell 4 = .ok (.aload_n 0, 1) := by decide +kernel
theorem dX12_tell_5 : decode cX12_tell 5 = .ok (.getfield 257, 3) := by decide +kernel
theorem dX12_tell_8 : decode cX12_tell 8 = .ok (.iaload, 1) := by decide +kernel
theorem dX12_tell_9 : decode cX12_tell 9 = .ok (.tableswitch 275 20 27 #[47, 80, 112, 145, 178, 206, 206, 206], 47) := by decide +kernel
theorem dX12_tell_56 : decode cX12_tell 56 = .ok (.aload_n 0, 1) := by decide +kernel
theorem dX12_tell_57 : decode cX12_tell 57 = .ok (.getfield 49, 3) := by decide +kernel
theorem dX12_tell_60 : decode cX12_tell 60 = .ok (.aload_n 0, 1) := by decide +kernel
theorem dX12_tell_61 : decode cX12_tell 61 = .ok (.getfield 287, 3) := by decide +kernel
theorem dX12_tell_64 : decode cX12_tell 64 = .ok (.iaload, 1) := by decide +kernel
theorem dX12_tell_65 : decode cX12_tell 65 = .ok (.bipush 10, 2) := by decide +kernel
theorem dX12_tell_67 : decode cX12_tell 67 = .ok (.if_icmp .ne 8, 3) := by decide +kernel
theorem dX12_tell_70 : decode cX12_tell 70 = .ok (.aload_n 0, 1) := by decide +kernel
theorem dX12_tell_71 : decode cX12_tell 71 = .ok (.iconst 2, 1) := by decide +kernel
theorem dX12_tell_72 : decode cX12_tell 72 = .ok (.invokevirtual 269, 3) := by decide +kernel
theorem dX12_tell_75 : decode cX12_tell 75 = .ok (.aload_n 0, 1) := by decide +kernel
theorem dX12_tell_76 : decode cX12_tell 76 = .ok (.getfield 254, 3) := by decide +kernel
theorem dX12_tell_79 : decode cX12_tell 79 = .ok (.ifCond .ne 210, 3) := by decide +kernel
theorem dX12_tell_82 : decode cX12_tell 82 = .ok (.aload_n 0, 1) := by decide +kernel
theorem dX12_tell_83 : decode cX12_tell 83 = .ok (.invokevirtual 316, 3) := by decide +kernel
theorem dX12_tell_86 : decode cX12_tell 86 = .ok (.goto 203, 3) := by decide +kernel
theorem dX12_tell_89 : decode cX12_tell 89 = .ok (.aload_n 0, 1) := by decide +kernel
theorem dX12_tell_90 : decode cX12_tell 90 = .ok (.getfield 55, 3) := by decide +kernel
theorem dX12_tell_93 : decode cX12_tell 93 = .ok (.aload_n 0, 1) := by decide +kernel
theorem dX12_tell_94 : decode cX12_tell 94 = .ok (.getfield 287, 3) := by decide +kernel
theorem dX12_tell_97 : decode cX12_tell 97 = .ok (.iaload, 1) := by decide +kernel
theorem dX12_tell_98 : decode cX12_tell 98 = .ok (.iconst 4, 1) := by decide +kernel
theorem dX12_tell_99 : decode cX12_tell 99 = .ok (.if_icmp .ne 8, 3) := by decide +kernel
theorem dX12_tell_102 : decode cX12_tell 102 = .ok (.aload_n 0, 1) := by decide +kernel
theorem dX12_tell_103 : decode cX12_tell 103 = .ok (.iconst 2, 1) := by decide +kernel
theorem dX12_tell_104 : decode cX12_tell 104 = .ok (.invokevirtual 269, 3) := by decide +kernel
theorem dX12_tell_107 : decode cX12_tell 107 = .ok (.aload_n 0, 1) := by decide +kernel
theorem dX12_tell_108 : decode cX12_tell 108 = .ok (.getfield 254, 3) := by decide +kernel
theorem dX12_tell_111 : decode cX12_tell 111 = .ok (.ifCond .ne 178, 3) := by decide +kernel
theorem dX12_tell_114 : decode cX12_tell 114 = .ok (.aload_n 0, 1) := by decide +kernel
theorem dX12_tell_115 : decode cX12_tell 115 = .ok (.invokevirtual 319, 3) := by decide +kernel
theorem dX12_tell_118 : decode cX12_tell 118 = .ok (.goto 171, 3) := by decide +kernel
theorem dX12_tell_121 : decode cX12_tell 121 = .ok (.aload_n 0, 1) := by decide +kernel
theorem dX12_tell_122 : decode cX12_tell 122 = .ok (.getfield 58, 3) := by decide +kernel
theorem dX12_tell_125 : decode cX12_tell 125 = .ok (.aload_n 0, 1) := by decide +kernel
theorem dX12_tell_126 : decode cX12_tell 126 = .ok (.getfield 287, 3) := by decide +kernel
theorem dX12_tell_129 : decode cX12_tell 129 = .ok (.iaload, 1) := by decide +kernel
theorem dX12_tell_130 : decode cX12_tell 130 = .ok (.bipush 12, 2) := by decide +kernel
theorem dX12_tell_132 : decode cX12_tell 132 = .ok (.if_icmp .ne 8, 3) := by decide +kernel
theorem dX12_tell_135 : decode cX12_tell 135 = .ok (.aload_n 0, 1) := by decide +kernel
theorem dX12_tell_136 : decode cX12_tell 136 = .ok (.iconst 2, 1) := by decide +kernel
theorem dX12_tell_137 : decode cX12_tell 137 = .ok (.invokevirtual 269, 3) := by decide +kernel
theorem dX12_tell_140 : decode cX12_tell 140 = .ok (.aload_n 0, 1) := by decide +kernel
theorem dX12_tell_141 : decode cX12_tell 141 = .ok (.getfield 254, 3) := by decide +kernel
theorem dX12_tell_144 : decode cX12_tell 144 = .ok (.ifCond .ne 145, 3) := by decide +kernel
theorem dX12_tell_147 : decode cX12_tell 147 = .ok (.aload_n 0, 1) := by decide +kernel
theorem dX12_tell_148 : decode cX12_tell 148 = .ok (.invokevirtual 322, 3) := by decide +kernel
theorem dX12_tell_151 : decode cX12_tell 151 = .ok (.goto 138, 3) := by decide +kernel
theorem dX12_tell_154 : decode cX12_tell 154 = .ok (.aload_n 0, 1) := by decide +kernel
theorem dX12_tell_155 : decode cX12_tell 155 = .ok (.getfield 67, 3) := by decide +kernel
theorem dX12_tell_158 : decode cX12_tell 158 = .ok (.aload_n 0, 1) := by decide +kernel
theorem dX12_tell_159 : decode cX12_tell 159 = .ok (.getfield 287, 3) := by decide +kernel
theorem dX12_tell_162 : decode cX12_tell 162 = .ok (.iaload, 1) := by decide +kernel
theorem dX12_tell_163 : decode cX12_tell 163 = .ok (.bipush 10, 2) := by decide +kernel
theorem dX12_tell_165 : decode cX12_tell 165 = .ok (.if_icmp .ne 8, 3) := by decide +kernel
theorem dX12_tell_168 : decode cX12_tell 168 = .ok (.aload_n 0, 1) := by decide +kernel
theorem dX12_tell_169 : decode cX12_tell 169 = .ok (.iconst 2, 1) := by decide +kernel
theorem dX12_tell_170 : decode cX12_tell 170 = .ok (.invokevirtual 269, 3) := by decide +kernel
theorem dX12_tell_173 : decode cX12_tell 173 = .ok (.aload_n 0, 1) := by decide +kernel
theorem dX12_tell_174 : decode cX12_tell 174 = .ok (.getfield 254, 3) := by decide +kernel
theorem dX12_tell_177 : decode cX12_tell 177 = .ok (.ifCond .ne 112, 3) := by decide +kernel
theorem dX12_tell_180 : decode cX12_tell 180 = .ok (.aload_n 0, 1) := by decide +kernel
theorem dX12_tell_181 : decode cX12_tell 181 = .ok (.invokevirtual 325, 3) := by decide +kernel
theorem dX12_tell_184 : decode cX12_tell 184 = .ok (.goto 105, 3) := by decide +kernel
theorem dX12_tell_187 : decode cX12_tell 187 = .ok (.aload_n 0, 1) := by decide +kernel
theorem dX12_tell_188 : decode cX12_tell 188 = .ok (.invokevirtual 275, 3) := by decide +kernel
theorem dX12_tell_191 : decode cX12_tell 191 = .ok (.aload_n 0, 1) := by decide +kernel
theorem dX12_tell_192 : decode cX12_tell 192 = .ok (.getfield 91, 3) := by decide +kernel
theorem dX12_tell_195 : decode cX12_tell 195 = .ok (.aload_n 0, 1) := by decide +kernel
theorem dX12_tell_196 : decode cX12_tell 196 = .ok (.getfield 287, 3) := by decide +kernel
theorem dX12_tell_199 : decode cX12_tell 199 = .ok (.aload_n 0, 1) := by decide +kernel
theorem dX12_tell_200 : decode cX12_tell 200 = .ok (.iconst 1, 1) := by decide +kernel
theorem dX12_tell_201 : decode cX12_tell 201 = .ok (.bipush 99, 2) := by decide +kernel
theorem dX12_tell_203 : decode cX12_tell 203 = .ok (.invokevirtual 328, 3) := by decide +kernel
theorem dX12_tell_206 : decode cX12_tell 206 = .ok (.iastore, 1) := by decide +kernel
theorem dX12_tell_207 : decode cX12_tell 207 = .ok (.aload_n 0, 1) := by decide +kernel
theorem dX12_tell_208 : decode cX12_tell 208 = .ok (.iconst 4, 1) := by decide +kernel
theorem dX12_tell_209 : decode cX12_tell 209 = .ok (.invokevirtual 331, 3) := by decide +kernel
theorem dX12_tell_212 : decode cX12_tell 212 = .ok (.goto 77, 3) := by decide +kernel
theorem dX12_tell_215 : decode cX12_tell 215 = .ok (.iconst 3, 1) := by decide +kernel
theorem dX12_tell_216 : decode cX12_tell 216 = .ok (.aload_n 0, 1) := by decide +kernel
theorem dX12_tell_217 : decode cX12_tell 217 = .ok (.getfield 287, 3) := by decide +kernel
theorem dX12_tell_220 : decode cX12_tell 220 = .ok (.imul, 1) := by decide +kernel
theorem dX12_tell_221 : decode cX12_tell 221 = .ok (.aload_n 0, 1) := by decide +kernel
theorem dX12_tell_222 : decode cX12_tell 222 = .ok (.getfield 20, 3) := by decide +kernel
theorem dX12_tell_225 : decode cX12_tell 225 = .ok (.aload_n 0, 1) := by decide +kernel
theorem dX12_tell_226 : decode cX12_tell 226 = .ok (.getfield 257, 3) := by decide +kernel
theorem dX12_tell_229 : decode cX12_tell 229 = .ok (.iaload, 1) := by decide +kernel
theorem dX12_tell_230 : decode cX12_tell 230 = .ok (.iadd, 1) := by decide +kernel
theorem dX12_tell_231 : decode cX12_tell 231 = .ok (.bipush 25, 2) := by decide +kernel
theorem dX12_tell_233 : decode cX12_tell 233 = .ok (.isub, 1) := by decide +kernel
theorem dX12_tell_234 : decode cX12_tell 234 = .ok (.istore_n 1, 1) := by decide +kernel
theorem dX12_tell_235 : decode cX12_tell 235 = .ok (.aload_n 0, 1) := by decide +kernel
theorem dX12_tell_236 : decode cX12_tell 236 = .ok (.invokevirtual 275, 3) := by decide +kernel
theorem dX12_tell_239 : decode cX12_tell 239 = .ok (.aload_n 0, 1) := by decide +kernel
theorem dX12_tell_240 : decode cX12_tell 240 = .ok (.bipush 16, 2) := by decide +kernel
theorem dX12_tell_242 : decode cX12_tell 242 = .ok (.invokevirtual 331, 3) := by decide +kernel
theorem dX12_tell_245 : decode cX12_tell 245 = .ok (.aload_n 0, 1) := by decide +kernel
theorem dX12_tell_246 : decode cX12_tell 246 = .ok (.getfield 94, 3) := by decide +kernel
theorem dX12_tell_249 : decode cX12_tell 249 = .ok (.iload_n 1, 1) := by decide +kernel
theorem dX12_tell_250 : decode cX12_tell 250 = .ok (.iconst 1, 1) := by decide +kernel
theorem dX12_tell_251 : decode cX12_tell 251 = .ok (.bastore, 1) := by decide +kernel
theorem dX12_tell_252 : decode cX12_tell 252 = .ok (.aload_n 0, 1) := by decide +kernel
theorem dX12_tell_253 : decode cX12_tell 253 = .ok (.getfield 98, 3) := by decide +kernel
theorem dX12_tell_256 : decode cX12_tell 256 = .ok (.iload_n 1, 1) := by decide +kernel
theorem dX12_tell_257 : decode cX12_tell 257 = .ok (.aload_n 0, 1) := by decide +kernel
theorem dX12_tell_258 : decode cX12_tell 258 = .ok (.getfield 296, 3) := by decide +kernel
theorem dX12_tell_261 : decode cX12_tell 261 = .ok (.iastore, 1) := by decide +kernel
theorem dX12_tell_262 : decode cX12_tell 262 = .ok (.aload_n 0, 1) := by decide +kernel
theorem dX12_tell_263 : decode cX12_tell 263 = .ok (.invokevirtual 334, 3) := by decide +kernel
theorem dX12_tell_266 : decode cX12_tell 266 = .ok (.aload_n 0, 1) := by decide +kernel
theorem dX12_tell_267 : decode cX12_tell 267 = .ok (.getfield 101, 3) := by decide +kernel
theorem dX12_tell_270 : decode cX12_tell 270 = .ok (.iload_n 1, 1) := by decide +kernel
theorem dX12_tell_271 : decode cX12_tell 271 = .ok (.aload_n 0, 1) := by decide +kernel
theorem dX12_tell_272 : decode cX12_tell 272 = .ok (.getfield 296, 3) := by decide +kernel
theorem dX12_tell_275 : decode cX12_tell 275 = .ok (.iastore, 1) := by decide +kernel
theorem dX12_tell_276 : decode cX12_tell 276 = .ok (.aload_n 0, 1) := by decide +kernel
theorem dX12_tell_277 : decode cX12_tell 277 = .ok (.iconst 4, 1) := by decide +kernel
theorem dX12_tell_278 : decode cX12_tell 278 = .ok (.invokevirtual 331, 3) := by decide +kernel
theorem dX12_tell_281 : decode cX12_tell 281 = .ok (.goto 8, 3) := by decide +kernel
theorem dX12_tell_284 : decode cX12_tell 284 = .ok (.aload_n 0, 1) := by decide +kernel
theorem dX12_tell_285 : decode cX12_tell 285 = .ok (.iconst 1, 1) := by decide +kernel
theorem dX12_tell_286 : decode cX12_tell 286 = .ok (.invokevirtual 269, 3) := by decide +kernel
theorem dX12_tell_289 : decode cX12_tell 289 = .ok (.return_, 1) := by decide +kernel
theorem dX12_named_0 : decode cX12_named 0 = .ok (.aload_n 0, 1) := by decide +kernel
theorem dX12_named_1 : decode cX12_named 1 = .ok (.getfield 257, 3) := by decide +kernel
theorem dX12_named_4 : decode cX12_named 4 = .ok (.istore_n 1, 1) := by decide +kernel
theorem dX12_named_5 : decode cX12_named 5 = .ok (.aload_n 0, 1) := by decide +kernel
theorem dX12_named_6 : decode cX12_named 6 = .ok (.iconst 1, 1) := by decide +kernel
theorem dX12_named_7 : decode cX12_named 7 = .ok (.invokevirtual 331, 3) := by decide +kernel
theorem dX12_named_10 : decode cX12_named 10 = .ok (.iconst 0, 1) := by decide +kernel
theorem dX12_named_11 : decode cX12_named 11 = .ok (.istore_n 2, 1) := by decide +kernel
theorem dX12_named_12 : decode cX12_named 12 = .ok (.iload_n 2, 1) := by decide +kernel
theorem dX12_named_13 : decode cX12_named 13 = .ok (.aload_n 0, 1) := by decide +kernel
theorem dX12_named_14 : decode cX12_named 14 = .ok (.getfield 290, 3) := by decide +kernel
theorem dX12_named_17 : decode cX12_named 17 = .ok (.if_icmp .ge 38, 3) := by decide +kernel
theorem dX12_named_20 : decode cX12_named 20 = .ok (.aload_n 0, 1) := by decide +kernel
theorem dX12_named_21 : decode cX12_named 21 = .ok (.getfield 254, 3) := by decide +kernel
theorem dX12_named_24 : decode cX12_named 24 = .ok (.ifCond .ne 31, 3) := by decide +kernel
theorem dX12_named_27 : decode cX12_named 27 = .ok (.aload_n 0, 1) := by decide +kernel
theorem dX12_named_28 : decode cX12_named 28 = .ok (.getfield 40, 3) := by decide +kernel
theorem dX12_named_31 : decode cX12_named 31 = .ok (.iload_n 2, 1) := by decide +kernel
theorem dX12_named_32 : decode cX12_named 32 = .ok (.laload, 1) := by decide +kernel
theorem dX12_named_33 : decode cX12_named 33 = .ok (.aload_n 0, 1) := by decide +kernel
theorem dX12_named_34 : decode cX12_named 34 = .ok (.getfield 30, 3) := by decide +kernel
theorem dX12_named_37 : decode cX12_named 37 = .ok (.iload_n 1, 1) := by decide +kernel
theorem dX12_named_38 : decode cX12_named 38 = .ok (.laload, 1) := by decide +kernel
theorem dX12_named_39 : decode cX12_named 39 = .ok (.lcmp, 1) := by decide +kernel
theorem dX12_named_40 : decode cX12_named 40 = .ok (.ifCond .ne 9, 3) := by decide +kernel
theorem dX12_named_43 : decode cX12_named 43 = .ok (.aload_n 0, 1) := by decide +kernel
theorem dX12_named_44 : decode cX12_named 44 = .ok (.iconst 3, 1) := by decide +kernel
theorem dX12_named_45 : decode cX12_named 45 = .ok (.iload_n 1, 1) := by decide +kernel
theorem dX12_named_46 : decode cX12_named 46 = .ok (.invokevirtual 312, 3) := by decide +kernel
theorem dX12_named_49 : decode cX12_named 49 = .ok (.iinc 2 1, 3) := by decide +kernel
theorem dX12_named_52 : decode cX12_named 52 = .ok (.goto (-40), 3) := by decide +kernel
theorem dX12_named_55 : decode cX12_named 55 = .ok (.iload_n 1, 1) := by decide +kernel
theorem dX12_named_56 : decode cX12_named 56 = .ok (.ireturn, 1) := by decide +kernel
theorem dX12_notes_0 : decode cX12_notes 0 = .ok (.aload_n 0, 1) := by decide +kernel
theorem dX12_notes_1 : decode cX12_notes 1 = .ok (.getfield 40, 3) := by decide +kernel
theorem dX12_notes_4 : decode cX12_notes 4 = .ok (.aload_n 0, 1) := by decide +kernel
theorem dX12_notes_5 : decode cX12_notes 5 = .ok (.getfield 290, 3) := by decide +kernel
theorem dX12_notes_8 : decode cX12_notes 8 = .ok (.aload_n 0, 1) := by decide +kernel
theorem dX12_notes_9 : decode cX12_notes 9 = .ok (.getfield 30, 3) := by decide +kernel
theorem dX12_notes_12 : decode cX12_notes 12 = .ok (.iload_n 1, 1) := by decide +kernel
theorem dX12_notes_13 : decode cX12_notes 13 = .ok (.laload, 1) := by decide +kernel
theorem dX12_notes_14 : decode cX12_notes 14 = .ok (.lastore, 1) := by decide +kernel
theorem dX12_notes_15 : decode cX12_notes 15 = .ok (.aload_n 0, 1) := by decide +kernel
theorem dX12_notes_16 : decode cX12_notes 16 = .ok (.getfield 43, 3) := by decide +kernel
theorem dX12_notes_19 : decode cX12_notes 19 = .ok (.aload_n 0, 1) := by decide +kernel
theorem dX12_notes_20 : decode cX12_notes 20 = .ok (.getfield 290, 3) := by decide +kernel
theorem dX12_notes_23 : decode cX12_notes 23 = .ok (.iload_n 2, 1) := by decide +kernel
theorem dX12_notes_24 : decode cX12_notes 24 = .ok (.iastore, 1) := by decide +kernel
theorem dX12_notes_25 : decode cX12_notes 25 = .ok (.aload_n 0, 1) := by decide +kernel
theorem dX12_notes_26 : decode cX12_notes 26 = .ok (.getfield 46, 3) := by decide +kernel
theorem dX12_notes_29 : decode cX12_notes 29 = .ok (.aload_n 0, 1) := by decide +kernel
theorem dX12_notes_30 : decode cX12_notes 30 = .ok (.getfield 290, 3) := by decide +kernel
theorem dX12_notes_33 : decode cX12_notes 33 = .ok (.iload_n 3, 1) := by decide +kernel
theorem dX12_notes_34 : decode cX12_notes 34 = .ok (.iastore, 1) := by decide +kernel
theorem dX12_notes_35 : decode cX12_notes 35 = .ok (.aload_n 0, 1) := by decide +kernel
theorem dX12_notes_36 : decode cX12_notes 36 = .ok (.dup, 1) := by decide +kernel
theorem dX12_notes_37 : decode cX12_notes 37 = .ok (.getfield 290, 3) := by decide +kernel
theorem dX12_notes_40 : decode cX12_notes 40 = .ok (.iconst 1, 1) := by decide +kernel
theorem dX12_notes_41 : decode cX12_notes 41 = .ok (.iadd, 1) := by decide +kernel
theorem dX12_notes_42 : decode cX12_notes 42 = .ok (.putfield 290, 3) := by decide +kernel
theorem dX12_notes_45 : decode cX12_notes 45 = .ok (.return_, 1) := by decide +kernel
theorem dX12_find_0 : decode cX12_find 0 = .ok (.iconst 0, 1) := by decide +kernel
theorem dX12_find_1 : decode cX12_find 1 = .ok (.istore_n 3, 1) := by decide +kernel
theorem dX12_find_2 : decode cX12_find 2 = .ok (.iload_n 3, 1) := by decide +kernel
theorem dX12_find_3 : decode cX12_find 3 = .ok (.aload_n 0, 1) := by decide +kernel
theorem dX12_find_4 : decode cX12_find 4 = .ok (.getfield 290, 3) := by decide +kernel
theorem dX12_find_7 : decode cX12_find 7 = .ok (.if_icmp .ge 42, 3) := by decide +kernel
theorem dX12_find_10 : decode cX12_find 10 = .ok (.aload_n 0, 1) := by decide +kernel
theorem dX12_find_11 : decode cX12_find 11 = .ok (.getfield 40, 3) := by decide +kernel
theorem dX12_find_14 : decode cX12_find 14 = .ok (.iload_n 3, 1) := by decide +kernel
theorem dX12_find_15 : decode cX12_find 15 = .ok (.laload, 1) := by decide +kernel
theorem dX12_find_16 : decode cX12_find 16 = .ok (.aload_n 0, 1) := by decide +kernel
theorem dX12_find_17 : decode cX12_find 17 = .ok (.getfield 30, 3) := by decide +kernel
theorem dX12_find_20 : decode cX12_find 20 = .ok (.iload_n 1, 1) := by decide +kernel
theorem dX12_find_21 : decode cX12_find 21 = .ok (.laload, 1) := by decide +kernel
theorem dX12_find_22 : decode cX12_find 22 = .ok (.lcmp, 1) := by decide +kernel
theorem dX12_find_23 : decode cX12_find 23 = .ok (.ifCond .ne 20, 3) := by decide +kernel
theorem dX12_find_26 : decode cX12_find 26 = .ok (.aload_n 0, 1) := by decide +kernel
theorem dX12_find_27 : decode cX12_find 27 = .ok (.getfield 43, 3) := by decide +kernel
theorem dX12_find_30 : decode cX12_find 30 = .ok (.iload_n 3, 1) := by decide +kernel
theorem dX12_find_31 : decode cX12_find 31 = .ok (.iaload, 1) := by decide +kernel
theorem dX12_find_32 : decode cX12_find 32 = .ok (.iload_n 2, 1) := by decide +kernel
theorem dX12_find_33 : decode cX12_find 33 = .ok (.if_icmp .ne 10, 3) := by decide +kernel
theorem dX12_find_36 : decode cX12_find 36 = .ok (.aload_n 0, 1) := by decide +kernel
theorem dX12_find_37 : decode cX12_find 37 = .ok (.getfield 46, 3) := by decide +kernel
theorem dX12_find_40 : decode cX12_find 40 = .ok (.iload_n 3, 1) := by decide +kernel
theorem dX12_find_41 : decode cX12_find 41 = .ok (.iaload, 1) := by decide +kernel
theorem dX12_find_42 : decode cX12_find 42 = .ok (.ireturn, 1) := by decide +kernel
theorem dX12_find_43 : decode cX12_find 43 = .ok (.iinc 3 1, 3) := by decide +kernel
theorem dX12_find_46 : decode cX12_find 46 = .ok (.goto (-44), 3) := by decide +kernel
theorem dX12_find_49 : decode cX12_find 49 = .ok (.iconst (-1), 1) := by decide +kernel
theorem dX12_find_50 : decode cX12_find 50 = .ok (.ireturn, 1) := by decide +kernel
theorem dX12_known_0 : decode cX12_known 0 = .ok (.aload_n 0, 1) := by decide +kernel
theorem dX12_known_1 : decode cX12_known 1 = .ok (.getfield 257, 3) := by decide +kernel
theorem dX12_known_4 : decode cX12_known 4 = .ok (.istore_n 2, 1) := by decide +kernel
theorem dX12_known_5 : decode cX12_known 5 = .ok (.aload_n 0, 1) := by decide +kernel
theorem dX12_known_6 : decode cX12_known 6 = .ok (.iconst 1, 1) := by decide +kernel
theorem dX12_known_7 : decode cX12_known 7 = .ok (.invokevirtual 331, 3) := by decide +kernel
theorem dX12_known_10 : decode cX12_known 10 = .ok (.aload_n 0, 1) := by decide +kernel
theorem dX12_known_11 : decode cX12_known 11 = .ok (.getfield 254, 3) := by decide +kernel
theorem dX12_known_14 : decode cX12_known 14 = .ok (.ifCond .le 5, 3) := by decide +kernel
theorem dX12_known_17 : decode cX12_known 17 = .ok (.iconst (-1), 1) := by decide +kernel
theorem dX12_known_18 : decode cX12_known 18 = .ok (.ireturn, 1) := by decide +kernel
theorem dX12_known_19 : decode cX12_known 19 = .ok (.aload_n 0, 1) := by decide +kernel
theorem dX12_known_20 : decode cX12_known 20 = .ok (.iload_n 2, 1) := by decide +kernel
theorem dX12_known_21 : decode cX12_known 21 = .ok (.iload_n 1, 1) := by decide +kernel
theorem dX12_known_22 : decode cX12_known 22 = .ok (.invokevirtual 308, 3) := by decide +kernel
theorem dX12_known_25 : decode cX12_known 25 = .ok (.istore_n 3, 1) := by decide +kernel
theorem dX12_known_26 : decode cX12_known 26 = .ok (.iload_n 3, 1) := by decide +kernel
theorem dX12_known_27 : decode cX12_known 27 = .ok (.iconst (-1), 1) := by decide +kernel
theorem dX12_known_28 : decode cX12_known 28 = .ok (.if_icmp .ne 9, 3) := by decide +kernel
theorem dX12_known_31 : decode cX12_known 31 = .ok (.aload_n 0, 1) := by decide +kernel
theorem dX12_known_32 : decode cX12_known 32 = .ok (.iconst 4, 1) := by decide +kernel
theorem dX12_known_33 : decode cX12_known 33 = .ok (.iload_n 2, 1) := by decide +kernel
theorem dX12_known_34 : decode cX12_known 34 = .ok (.invokevirtual 312, 3) := by decide +kernel
theorem dX12_known_37 : decode cX12_known 37 = .ok (.iload_n 3, 1) := by decide +kernel
theorem dX12_known_38 : decode cX12_known 38 = .ok (.ireturn, 1) := by decide +kernel
theorem dX12_bounded_0 : decode cX12_bounded 0 = .ok (.aload_n 0, 1) := by decide +kernel
theorem dX12_bounded_1 : decode cX12_bounded 1 = .ok (.getfield 254, 3) := by decide +kernel
theorem dX12_bounded_4 : decode cX12_bounded 4 = .ok (.ifCond .gt 11, 3) := by decide +kernel
theorem dX12_bounded_7 : decode cX12_bounded 7 = .ok (.aload_n 0, 1) := by decide +kernel
theorem dX12_bounded_8 : decode cX12_bounded 8 = .ok (.iconst 2, 1) := by decide +kernel
theorem dX12_bounded_9 : decode cX12_bounded 9 = .ok (.invokevirtual 272, 3) := by decide +kernel
theorem dX12_bounded_12 : decode cX12_bounded 12 = .ok (.ifCond .ne 10, 3) := by decide +kernel
theorem dX12_bounded_15 : decode cX12_bounded 15 = .ok (.aload_n 0, 1) := by decide +kernel
theorem dX12_bounded_16 : decode cX12_bounded 16 = .ok (.iconst 1, 1) := by decide +kernel
theorem dX12_bounded_17 : decode cX12_bounded 17 = .ok (.invokevirtual 269, 3) := by decide +kernel
theorem dX12_bounded_20 : decode cX12_bounded 20 = .ok (.iload_n 1, 1) := by decide +kernel
theorem dX12_bounded_21 : decode cX12_bounded 21 = .ok (.ireturn, 1) := by decide +kernel
theorem dX12_bounded_22 : decode cX12_bounded 22 = .ok (.aload_n 0, 1) := by decide +kernel
theorem dX12_bounded_23 : decode cX12_bounded 23 = .ok (.getfield 27, 3) := by decide +kernel
theorem dX12_bounded_26 : decode cX12_bounded 26 = .ok (.aload_n 0, 1) := by decide +kernel
theorem dX12_bounded_27 : decode cX12_bounded 27 = .ok (.getfield 257, 3) := by decide +kernel
theorem dX12_bounded_30 : decode cX12_bounded 30 = .ok (.iaload, 1) := by decide +kernel
theorem dX12_bounded_31 : decode cX12_bounded 31 = .ok (.istore_n 3, 1) := by decide +kernel
theorem dX12_bounded_32 : decode cX12_bounded 32 = .ok (.iload_n 3, 1) := by decide +kernel
theorem dX12_bounded_33 : decode cX12_bounded 33 = .ok (.iload_n 1, 1) := by decide +kernel
theorem dX12_bounded_34 : decode cX12_bounded 34 = .ok (.if_icmp .lt 8, 3) := by decide +kernel
theorem dX12_bounded_37 : decode cX12_bounded 37 = .ok (.iload_n 3, 1) := by decide +kernel
theorem dX12_bounded_38 : decode cX12_bounded 38 = .ok (.iload_n 2, 1) := by decide +kernel
theorem dX12_bounded_39 : decode cX12_bounded 39 = .ok (.if_icmp .le 12, 3) := by decide +kernel
theorem dX12_bounded_42 : decode cX12_bounded 42 = .ok (.aload_n 0, 1) := by decide +kernel
theorem dX12_bounded_43 : decode cX12_bounded 43 = .ok (.iconst 5, 1) := by decide +kernel
theorem dX12_bounded_44 : decode cX12_bounded 44 = .ok (.aload_n 0, 1) := by decide +kernel
theorem dX12_bounded_45 : decode cX12_bounded 45 = .ok (.getfield 257, 3) := by decide +kernel
theorem dX12_bounded_48 : decode cX12_bounded 48 = .ok (.invokevirtual 312, 3) := by decide +kernel
theorem dX12_bounded_51 : decode cX12_bounded 51 = .ok (.aload_n 0, 1) := by decide +kernel
theorem dX12_bounded_52 : decode cX12_bounded 52 = .ok (.invokevirtual 275, 3) := by decide +kernel
theorem dX12_bounded_55 : decode cX12_bounded 55 = .ok (.iload_n 3, 1) := by decide +kernel
theorem dX12_bounded_56 : decode cX12_bounded 56 = .ok (.ireturn, 1) := by decide +kernel
theorem dX12_tellPerson_0 : decode cX12_tellPerson 0 = .ok (.aload_n 0, 1) := by decide +kernel
theorem dX12_tellPerson_1 : decode cX12_tellPerson 1 = .ok (.invokevirtual 275, 3) := by decide +kernel
theorem dX12_tellPerson_4 : decode cX12_tellPerson 4 = .ok (.aload_n 0, 1) := by decide +kernel
theorem dX12_tellPerson_5 : decode cX12_tellPerson 5 = .ok (.invokevirtual 337, 3) := by decide +kernel
theorem dX12_tellPerson_8 : decode cX12_tellPerson 8 = .ok (.istore_n 1, 1) := by decide +kernel
theorem dX12_tellPerson_9 : decode cX12_tellPerson 9 = .ok (.aload_n 0, 1) := by decide +kernel
theorem dX12_tellPerson_10 : decode cX12_tellPerson 10 = .ok (.iconst 0, 1) := by decide +kernel
theorem dX12_tellPerson_11 : decode cX12_tellPerson 11 = .ok (.bipush 99, 2) := by decide +kernel
theorem dX12_tellPerson_13 : decode cX12_tellPerson 13 = .ok (.invokevirtual 328, 3) := by decide +kernel
theorem dX12_tellPerson_16 : decode cX12_tellPerson 16 = .ok (.istore_n 2, 1) := by decide +kernel
theorem dX12_tellPerson_17 : decode cX12_tellPerson 17 = .ok (.aload_n 0, 1) := by decide +kernel
theorem dX12_tellPerson_18 : decode cX12_tellPerson 18 = .ok (.iconst 4, 1) := by decide +kernel
theorem dX12_tellPerson_19 : decode cX12_tellPerson 19 = .ok (.invokevirtual 331, 3) := by decide +kernel
theorem dX12_tellPerson_22 : decode cX12_tellPerson 22 = .ok (.aload_n 0, 1) := by decide +kernel
theorem dX12_tellPerson_23 : decode cX12_tellPerson 23 = .ok (.getfield 254, 3) := by decide +kernel
theorem dX12_tellPerson_26 : decode cX12_tellPerson 26 = .ok (.ifCond .le 4, 3) := by decide +kernel
theorem dX12_tellPerson_29 : decode cX12_tellPerson 29 = .ok (.return_, 1) := by decide +kernel
theorem dX12_tellPerson_30 : decode cX12_tellPerson 30 = .ok (.aload_n 0, 1) := by decide +kernel
theorem dX12_tellPerson_31 : decode cX12_tellPerson 31 = .ok (.getfield 52, 3) := by decide +kernel
theorem dX12_tellPerson_34 : decode cX12_tellPerson 34 = .ok (.bipush 10, 2) := by decide +kernel
theorem dX12_tellPerson_36 : decode cX12_tellPerson 36 = .ok (.aload_n 0, 1) := by decide +kernel
theorem dX12_tellPerson_37 : decode cX12_tellPerson 37 = .ok (.getfield 287, 3) := by decide +kernel
theorem dX12_tellPerson_40 : decode cX12_tellPerson 40 = .ok (.imul, 1) := by decide +kernel
theorem dX12_tellPerson_41 : decode cX12_tellPerson 41 = .ok (.aload_n 0, 1) := by decide +kernel
theorem dX12_tellPerson_42 : decode cX12_tellPerson 42 = .ok (.getfield 49, 3) := by decide +kernel
theorem dX12_tellPerson_45 : decode cX12_tellPerson 45 = .ok (.aload_n 0, 1) := by decide +kernel
theorem dX12_tellPerson_46 : decode cX12_tellPerson 46 = .ok (.getfield 287, 3) := by decide +kernel
theorem dX12_tellPerson_49 : decode cX12_tellPerson 49 = .ok (.iaload, 1) := by decide +kernel
theorem dX12_tellPerson_50 : decode cX12_tellPerson 50 = .ok (.iadd, 1) := by decide +kernel
theorem dX12_tellPerson_51 : decode cX12_tellPerson 51 = .ok (.iload_n 2, 1) := by decide +kernel
theorem dX12_tellPerson_52 : decode cX12_tellPerson 52 = .ok (.iastore, 1) := by decide +kernel
theorem dX12_tellPerson_53 : decode cX12_tellPerson 53 = .ok (.aload_n 0, 1) := by decide +kernel
theorem dX12_tellPerson_54 : decode cX12_tellPerson 54 = .ok (.iload_n 1, 1) := by decide +kernel
theorem dX12_tellPerson_55 : decode cX12_tellPerson 55 = .ok (.iconst 0, 1) := by decide +kernel
theorem dX12_tellPerson_56 : decode cX12_tellPerson 56 = .ok (.aload_n 0, 1) := by decide +kernel
theorem dX12_tellPerson_57 : decode cX12_tellPerson 57 = .ok (.getfield 49, 3) := by decide +kernel
theorem dX12_tellPerson_60 : decode cX12_tellPerson 60 = .ok (.aload_n 0, 1) := by decide +kernel
theorem dX12_tellPerson_61 : decode cX12_tellPerson 61 = .ok (.getfield 287, 3) := by decide +kernel
theorem dX12_tellPerson_64 : decode cX12_tellPerson 64 = .ok (.iaload, 1) := by decide +kernel
theorem dX12_tellPerson_65 : decode cX12_tellPerson 65 = .ok (.invokevirtual 341, 3) := by decide +kernel
theorem dX12_tellPerson_68 : decode cX12_tellPerson 68 = .ok (.aload_n 0, 1) := by decide +kernel
theorem dX12_tellPerson_69 : decode cX12_tellPerson 69 = .ok (.getfield 49, 3) := by decide +kernel
theorem dX12_tellPerson_72 : decode cX12_tellPerson 72 = .ok (.aload_n 0, 1) := by decide +kernel
theorem dX12_tellPerson_73 : decode cX12_tellPerson 73 = .ok (.getfield 287, 3) := by decide +kernel
theorem dX12_tellPerson_76 : decode cX12_tellPerson 76 = .ok (.dup2, 1) := by decide +kernel
theorem dX12_tellPerson_77 : decode cX12_tellPerson 77 = .ok (.iaload, 1) := by decide +kernel
theorem dX12_tellPerson_78 : decode cX12_tellPerson 78 = .ok (.iconst 1, 1) := by decide +kernel
theorem dX12_tellPerson_79 : decode cX12_tellPerson 79 = .ok (.iadd, 1) := by decide +kernel
theorem dX12_tellPerson_80 : decode cX12_tellPerson 80 = .ok (.iastore, 1) := by decide +kernel
theorem dX12_tellPerson_81 : decode cX12_tellPerson 81 = .ok (.return_, 1) := by decide +kernel
theorem dX12_tellClerk_0 : decode cX12_tellClerk 0 = .ok (.aload_n 0, 1) := by decide +kernel
theorem dX12_tellClerk_1 : decode cX12_tellClerk 1 = .ok (.invokevirtual 275, 3) := by decide +kernel
theorem dX12_tellClerk_4 : decode cX12_tellClerk 4 = .ok (.aload_n 0, 1) := by decide +kernel
theorem dX12_tellClerk_5 : decode cX12_tellClerk 5 = .ok (.invokevirtual 337, 3) := by decide +kernel
theorem dX12_tellClerk_8 : decode cX12_tellClerk 8 = .ok (.istore_n 1, 1) := by decide +kernel
theorem dX12_tellClerk_9 : decode cX12_tellClerk 9 = .ok (.aload_n 0, 1) := by decide +kernel
theorem dX12_tellClerk_10 : decode cX12_tellClerk 10 = .ok (.iconst 4, 1) := by decide +kernel
theorem dX12_tellClerk_11 : decode cX12_tellClerk 11 = .ok (.invokevirtual 331, 3) := by decide +kernel
theorem dX12_tellClerk_14 : decode cX12_tellClerk 14 = .ok (.aload_n 0, 1) := by decide +kernel
theorem dX12_tellClerk_15 : decode cX12_tellClerk 15 = .ok (.getfield 254, 3) := by decide +kernel
theorem dX12_tellClerk_18 : decode cX12_tellClerk 18 = .ok (.ifCond .le 4, 3) := by decide +kernel
theorem dX12_tellClerk_21 : decode cX12_tellClerk 21 = .ok (.return_, 1) := by decide +kernel
theorem dX12_tellClerk_22 : decode cX12_tellClerk 22 = .ok (.aload_n 0, 1) := by decide +kernel
theorem dX12_tellClerk_23 : decode cX12_tellClerk 23 = .ok (.iload_n 1, 1) := by decide +kernel
theorem dX12_tellClerk_24 : decode cX12_tellClerk 24 = .ok (.iconst 1, 1) := by decide +kernel
theorem dX12_tellClerk_25 : decode cX12_tellClerk 25 = .ok (.aload_n 0, 1) := by decide +kernel
theorem dX12_tellClerk_26 : decode cX12_tellClerk 26 = .ok (.getfield 55, 3) := by decide +kernel
theorem dX12_tellClerk_29 : decode cX12_tellClerk 29 = .ok (.aload_n 0, 1) := by decide +kernel
theorem dX12_tellClerk_30 : decode cX12_tellClerk 30 = .ok (.getfield 287, 3) := by decide +kernel
theorem dX12_tellClerk_33 : decode cX12_tellClerk 33 = .ok (.iaload, 1) := by decide +kernel
theorem dX12_tellClerk_34 : decode cX12_tellClerk 34 = .ok (.invokevirtual 341, 3) := by decide +kernel
theorem dX12_tellClerk_37 : decode cX12_tellClerk 37 = .ok (.aload_n 0, 1) := by decide +kernel
theorem dX12_tellClerk_38 : decode cX12_tellClerk 38 = .ok (.getfield 55, 3) := by decide +kernel
theorem dX12_tellClerk_41 : decode cX12_tellClerk 41 = .ok (.aload_n 0, 1) := by decide +kernel
theorem dX12_tellClerk_42 : decode cX12_tellClerk 42 = .ok (.getfield 287, 3) := by decide +kernel
theorem dX12_tellClerk_45 : decode cX12_tellClerk 45 = .ok (.dup2, 1) := by decide +kernel
theorem dX12_tellClerk_46 : decode cX12_tellClerk 46 = .ok (.iaload, 1) := by decide +kernel
theorem dX12_tellClerk_47 : decode cX12_tellClerk 47 = .ok (.iconst 1, 1) := by decide +kernel
theorem dX12_tellClerk_48 : decode cX12_tellClerk 48 = .ok (.iadd, 1) := by decide +kernel
theorem dX12_tellClerk_49 : decode cX12_tellClerk 49 = .ok (.iastore, 1) := by decide +kernel
theorem dX12_tellClerk_50 : decode cX12_tellClerk 50 = .ok (.return_, 1) := by decide +kernel
theorem dX12_tellBar_0 : decode cX12_tellBar 0 = .ok (.aload_n 0, 1) := by decide +kernel
theorem dX12_tellBar_1 : decode cX12_tellBar 1 = .ok (.invokevirtual 275, 3) := by decide +kernel
theorem dX12_tellBar_4 : decode cX12_tellBar 4 = .ok (.aload_n 0, 1) := by decide +kernel
theorem dX12_tellBar_5 : decode cX12_tellBar 5 = .ok (.iconst 1, 1) := by decide +kernel
theorem dX12_tellBar_6 : decode cX12_tellBar 6 = .ok (.invokevirtual 345, 3) := by decide +kernel
theorem dX12_tellBar_9 : decode cX12_tellBar 9 = .ok (.istore_n 1, 1) := by decide +kernel
theorem dX12_tellBar_10 : decode cX12_tellBar 10 = .ok (.aload_n 0, 1) := by decide +kernel
theorem dX12_tellBar_11 : decode cX12_tellBar 11 = .ok (.iconst 0, 1) := by decide +kernel
theorem dX12_tellBar_12 : decode cX12_tellBar 12 = .ok (.invokevirtual 345, 3) := by decide +kernel
theorem dX12_tellBar_15 : decode cX12_tellBar 15 = .ok (.istore_n 2, 1) := by decide +kernel
theorem dX12_tellBar_16 : decode cX12_tellBar 16 = .ok (.aload_n 0, 1) := by decide +kernel
theorem dX12_tellBar_17 : decode cX12_tellBar 17 = .ok (.iconst 4, 1) := by decide +kernel
theorem dX12_tellBar_18 : decode cX12_tellBar 18 = .ok (.invokevirtual 331, 3) := by decide +kernel
theorem dX12_tellBar_21 : decode cX12_tellBar 21 = .ok (.aload_n 0, 1) := by decide +kernel
theorem dX12_tellBar_22 : decode cX12_tellBar 22 = .ok (.getfield 254, 3) := by decide +kernel
theorem dX12_tellBar_25 : decode cX12_tellBar 25 = .ok (.ifCond .le 4, 3) := by decide +kernel
theorem dX12_tellBar_28 : decode cX12_tellBar 28 = .ok (.return_, 1) := by decide +kernel
theorem dX12_tellBar_29 : decode cX12_tellBar 29 = .ok (.aload_n 0, 1) := by decide +kernel
theorem dX12_tellBar_30 : decode cX12_tellBar 30 = .ok (.getfield 61, 3) := by decide +kernel
theorem dX12_tellBar_33 : decode cX12_tellBar 33 = .ok (.bipush 12, 2) := by decide +kernel
theorem dX12_tellBar_35 : decode cX12_tellBar 35 = .ok (.aload_n 0, 1) := by decide +kernel
theorem dX12_tellBar_36 : decode cX12_tellBar 36 = .ok (.getfield 287, 3) := by decide +kernel
theorem dX12_tellBar_39 : decode cX12_tellBar 39 = .ok (.imul, 1) := by decide +kernel
theorem dX12_tellBar_40 : decode cX12_tellBar 40 = .ok (.aload_n 0, 1) := by decide +kernel
theorem dX12_tellBar_41 : decode cX12_tellBar 41 = .ok (.getfield 58, 3) := by decide +kernel
theorem dX12_tellBar_44 : decode cX12_tellBar 44 = .ok (.aload_n 0, 1) := by decide +kernel
theorem dX12_tellBar_45 : decode cX12_tellBar 45 = .ok (.getfield 287, 3) := by decide +kernel
theorem dX12_tellBar_48 : decode cX12_tellBar 48 = .ok (.iaload, 1) := by decide +kernel
theorem dX12_tellBar_49 : decode cX12_tellBar 49 = .ok (.iadd, 1) := by decide +kernel
theorem dX12_tellBar_50 : decode cX12_tellBar 50 = .ok (.iload_n 1, 1) := by decide +kernel
theorem dX12_tellBar_51 : decode cX12_tellBar 51 = .ok (.iastore, 1) := by decide +kernel
theorem dX12_tellBar_52 : decode cX12_tellBar 52 = .ok (.aload_n 0, 1) := by decide +kernel
theorem dX12_tellBar_53 : decode cX12_tellBar 53 = .ok (.getfield 64, 3) := by decide +kernel
theorem dX12_tellBar_56 : decode cX12_tellBar 56 = .ok (.bipush 12, 2) := by decide +kernel
theorem dX12_tellBar_58 : decode cX12_tellBar 58 = .ok (.aload_n 0, 1) := by decide +kernel
theorem dX12_tellBar_59 : decode cX12_tellBar 59 = .ok (.getfield 287, 3) := by decide +kernel
theorem dX12_tellBar_62 : decode cX12_tellBar 62 = .ok (.imul, 1) := by decide +kernel
theorem dX12_tellBar_63 : decode cX12_tellBar 63 = .ok (.aload_n 0, 1) := by decide +kernel
theorem dX12_tellBar_64 : decode cX12_tellBar 64 = .ok (.getfield 58, 3) := by decide +kernel
theorem dX12_tellBar_67 : decode cX12_tellBar 67 = .ok (.aload_n 0, 1) := by decide +kernel
theorem dX12_tellBar_68 : decode cX12_tellBar 68 = .ok (.getfield 287, 3) := by decide +kernel
theorem dX12_tellBar_71 : decode cX12_tellBar 71 = .ok (.iaload, 1) := by decide +kernel
theorem dX12_tellBar_72 : decode cX12_tellBar 72 = .ok (.iadd, 1) := by decide +kernel
theorem dX12_tellBar_73 : decode cX12_tellBar 73 = .ok (.iload_n 2, 1) := by decide +kernel
theorem dX12_tellBar_74 : decode cX12_tellBar 74 = .ok (.iastore, 1) := by decide +kernel
theorem dX12_tellBar_75 : decode cX12_tellBar 75 = .ok (.aload_n 0, 1) := by decide +kernel
theorem dX12_tellBar_76 : decode cX12_tellBar 76 = .ok (.getfield 58, 3) := by decide +kernel
theorem dX12_tellBar_79 : decode cX12_tellBar 79 = .ok (.aload_n 0, 1) := by decide +kernel
theorem dX12_tellBar_80 : decode cX12_tellBar 80 = .ok (.getfield 287, 3) := by decide +kernel
theorem dX12_tellBar_83 : decode cX12_tellBar 83 = .ok (.dup2, 1) := by decide +kernel
theorem dX12_tellBar_84 : decode cX12_tellBar 84 = .ok (.iaload, 1) := by decide +kernel
theorem dX12_tellBar_85 : decode cX12_tellBar 85 = .ok (.iconst 1, 1) := by decide +kernel
theorem dX12_tellBar_86 : decode cX12_tellBar 86 = .ok (.iadd, 1) := by decide +kernel
theorem dX12_tellBar_87 : decode cX12_tellBar 87 = .ok (.iastore, 1) := by decide +kernel
theorem dX12_tellBar_88 : decode cX12_tellBar 88 = .ok (.return_, 1) := by decide +kernel
theorem dX12_tellLetter_0 : decode cX12_tellLetter 0 = .ok (.bipush 10, 2) := by decide +kernel
theorem dX12_tellLetter_2 : decode cX12_tellLetter 2 = .ok (.aload_n 0, 1) := by decide +kernel
theorem dX12_tellLetter_3 : decode cX12_tellLetter 3 = .ok (.getfield 287, 3) := by decide +kernel
theorem dX12_tellLetter_6 : decode cX12_tellLetter 6 = .ok (.imul, 1) := by decide +kernel
theorem dX12_tellLetter_7 : decode cX12_tellLetter 7 = .ok (.aload_n 0, 1) := by decide +kernel
theorem dX12_tellLetter_8 : decode cX12_tellLetter 8 = .ok (.getfield 67, 3) := by decide +kernel
theorem dX12_tellLetter_11 : decode cX12_tellLetter 11 = .ok (.aload_n 0, 1) := by decide +kernel
theorem dX12_tellLetter_12 : decode cX12_tellLetter 12 = .ok (.getfield 287, 3) := by decide +kernel
theorem dX12_tellLetter_15 : decode cX12_tellLetter 15 = .ok (.iaload, 1) := by decide +kernel
theorem dX12_tellLetter_16 : decode cX12_tellLetter 16 = .ok (.iadd, 1) := by decide +kernel
theorem dX12_tellLetter_17 : decode cX12_tellLetter 17 = .ok (.istore_n 1, 1) := by decide +kernel
theorem dX12_tellLetter_18 : decode cX12_tellLetter 18 = .ok (.aload_n 0, 1) := by decide +kernel
theorem dX12_tellLetter_19 : decode cX12_tellLetter 19 = .ok (.invokevirtual 275, 3) := by decide +kernel
theorem dX12_tellLetter_22 : decode cX12_tellLetter 22 = .ok (.aload_n 0, 1) := by decide +kernel
theorem dX12_tellLetter_23 : decode cX12_tellLetter 23 = .ok (.invokevirtual 337, 3) := by decide +kernel
theorem dX12_tellLetter_26 : decode cX12_tellLetter 26 = .ok (.istore_n 2, 1) := by decide +kernel
theorem dX12_tellLetter_27 : decode cX12_tellLetter 27 = .ok (.aload_n 0, 1) := by decide +kernel
theorem dX12_tellLetter_28 : decode cX12_tellLetter 28 = .ok (.getfield 70, 3) := by decide +kernel
theorem dX12_tellLetter_31 : decode cX12_tellLetter 31 = .ok (.iload_n 1, 1) := by decide +kernel
theorem dX12_tellLetter_32 : decode cX12_tellLetter 32 = .ok (.aload_n 0, 1) := by decide +kernel
theorem dX12_tellLetter_33 : decode cX12_tellLetter 33 = .ok (.iconst 0, 1) := by decide +kernel
theorem dX12_tellLetter_34 : decode cX12_tellLetter 34 = .ok (.invokevirtual 345, 3) := by decide +kernel
theorem dX12_tellLetter_37 : decode cX12_tellLetter 37 = .ok (.iastore, 1) := by decide +kernel
theorem dX12_tellLetter_38 : decode cX12_tellLetter 38 = .ok (.aload_n 0, 1) := by decide +kernel
theorem dX12_tellLetter_39 : decode cX12_tellLetter 39 = .ok (.getfield 73, 3) := by decide +kernel
theorem dX12_tellLetter_42 : decode cX12_tellLetter 42 = .ok (.iload_n 1, 1) := by decide +kernel
theorem dX12_tellLetter_43 : decode cX12_tellLetter 43 = .ok (.aload_n 0, 1) := by decide +kernel
theorem dX12_tellLetter_44 : decode cX12_tellLetter 44 = .ok (.iconst 0, 1) := by decide +kernel
theorem dX12_tellLetter_45 : decode cX12_tellLetter 45 = .ok (.invokevirtual 345, 3) := by decide +kernel
theorem dX12_tellLetter_48 : decode cX12_tellLetter 48 = .ok (.iastore, 1) := by decide +kernel
theorem dX12_tellLetter_49 : decode cX12_tellLetter 49 = .ok (.aload_n 0, 1) := by decide +kernel
theorem dX12_tellLetter_50 : decode cX12_tellLetter 50 = .ok (.getfield 76, 3) := by decide +kernel
theorem dX12_tellLetter_53 : decode cX12_tellLetter 53 = .ok (.iload_n 1, 1) := by decide +kernel
theorem dX12_tellLetter_54 : decode cX12_tellLetter 54 = .ok (.aload_n 0, 1) := by decide +kernel
theorem dX12_tellLetter_55 : decode cX12_tellLetter 55 = .ok (.iconst 0, 1) := by decide +kernel
theorem dX12_tellLetter_56 : decode cX12_tellLetter 56 = .ok (.iconst 3, 1) := by decide +kernel
theorem dX12_tellLetter_57 : decode cX12_tellLetter 57 = .ok (.invokevirtual 328, 3) := by decide +kernel
theorem dX12_tellLetter_60 : decode cX12_tellLetter 60 = .ok (.iastore, 1) := by decide +kernel
theorem dX12_tellLetter_61 : decode cX12_tellLetter 61 = .ok (.aload_n 0, 1) := by decide +kernel
theorem dX12_tellLetter_62 : decode cX12_tellLetter 62 = .ok (.getfield 79, 3) := by decide +kernel
theorem dX12_tellLetter_65 : decode cX12_tellLetter 65 = .ok (.iload_n 1, 1) := by decide +kernel
theorem dX12_tellLetter_66 : decode cX12_tellLetter 66 = .ok (.aload_n 0, 1) := by decide +kernel
theorem dX12_tellLetter_67 : decode cX12_tellLetter 67 = .ok (.iconst 0, 1) := by decide +kernel
theorem dX12_tellLetter_68 : decode cX12_tellLetter 68 = .ok (.sipush 999, 3) := by decide +kernel
theorem dX12_tellLetter_71 : decode cX12_tellLetter 71 = .ok (.invokevirtual 328, 3) := by decide +kernel
theorem dX12_tellLetter_74 : decode cX12_tellLetter 74 = .ok (.iastore, 1) := by decide +kernel
theorem dX12_tellLetter_75 : decode cX12_tellLetter 75 = .ok (.aload_n 0, 1) := by decide +kernel
theorem dX12_tellLetter_76 : decode cX12_tellLetter 76 = .ok (.getfield 82, 3) := by decide +kernel
theorem dX12_tellLetter_79 : decode cX12_tellLetter 79 = .ok (.iload_n 1, 1) := by decide +kernel
theorem dX12_tellLetter_80 : decode cX12_tellLetter 80 = .ok (.aload_n 0, 1) := by decide +kernel
theorem dX12_tellLetter_81 : decode cX12_tellLetter 81 = .ok (.iconst 0, 1) := by decide +kernel
theorem dX12_tellLetter_82 : decode cX12_tellLetter 82 = .ok (.bipush 99, 2) := by decide +kernel
theorem dX12_tellLetter_84 : decode cX12_tellLetter 84 = .ok (.invokevirtual 328, 3) := by decide +kernel
theorem dX12_tellLetter_87 : decode cX12_tellLetter 87 = .ok (.iastore, 1) := by decide +kernel
theorem dX12_tellLetter_88 : decode cX12_tellLetter 88 = .ok (.aload_n 0, 1) := by decide +kernel
theorem dX12_tellLetter_89 : decode cX12_tellLetter 89 = .ok (.getfield 85, 3) := by decide +kernel
theorem dX12_tellLetter_92 : decode cX12_tellLetter 92 = .ok (.iload_n 1, 1) := by decide +kernel
theorem dX12_tellLetter_93 : decode cX12_tellLetter 93 = .ok (.aload_n 0, 1) := by decide +kernel
theorem dX12_tellLetter_94 : decode cX12_tellLetter 94 = .ok (.getfield 293, 3) := by decide +kernel
theorem dX12_tellLetter_97 : decode cX12_tellLetter 97 = .ok (.iastore, 1) := by decide +kernel
theorem dX12_tellLetter_98 : decode cX12_tellLetter 98 = .ok (.aload_n 0, 1) := by decide +kernel
theorem dX12_tellLetter_99 : decode cX12_tellLetter 99 = .ok (.getfield 254, 3) := by decide +kernel
theorem dX12_tellLetter_102 : decode cX12_tellLetter 102 = .ok (.ifCond .ne 16, 3) := by decide +kernel
theorem dX12_tellLetter_105 : decode cX12_tellLetter 105 = .ok (.aload_n 0, 1) := by decide +kernel
theorem dX12_tellLetter_106 : decode cX12_tellLetter 106 = .ok (.bipush 28, 2) := by decide +kernel
theorem dX12_tellLetter_108 : decode cX12_tellLetter 108 = .ok (.invokevirtual 272, 3) := by decide +kernel
theorem dX12_tellLetter_111 : decode cX12_tellLetter 111 = .ok (.ifCond .eq 7, 3) := by decide +kernel
theorem dX12_tellLetter_114 : decode cX12_tellLetter 114 = .ok (.aload_n 0, 1) := by decide +kernel
theorem dX12_tellLetter_115 : decode cX12_tellLetter 115 = .ok (.invokevirtual 348, 3) := by decide +kernel
theorem dX12_tellLetter_118 : decode cX12_tellLetter 118 = .ok (.aload_n 0, 1) := by decide +kernel
theorem dX12_tellLetter_119 : decode cX12_tellLetter 119 = .ok (.getfield 88, 3) := by decide +kernel
theorem dX12_tellLetter_122 : decode cX12_tellLetter 122 = .ok (.iload_n 1, 1) := by decide +kernel
theorem dX12_tellLetter_123 : decode cX12_tellLetter 123 = .ok (.aload_n 0, 1) := by decide +kernel
theorem dX12_tellLetter_124 : decode cX12_tellLetter 124 = .ok (.getfield 293, 3) := by decide +kernel
theorem dX12_tellLetter_127 : decode cX12_tellLetter 127 = .ok (.iastore, 1) := by decide +kernel
theorem dX12_tellLetter_128 : decode cX12_tellLetter 128 = .ok (.aload_n 0, 1) := by decide +kernel
theorem dX12_tellLetter_129 : decode cX12_tellLetter 129 = .ok (.iconst 4, 1) := by decide +kernel
theorem dX12_tellLetter_130 : decode cX12_tellLetter 130 = .ok (.invokevirtual 331, 3) := by decide +kernel
theorem dX12_tellLetter_133 : decode cX12_tellLetter 133 = .ok (.aload_n 0, 1) := by decide +kernel
theorem dX12_tellLetter_134 : decode cX12_tellLetter 134 = .ok (.getfield 254, 3) := by decide +kernel
theorem dX12_tellLetter_137 : decode cX12_tellLetter 137 = .ok (.ifCond .le 4, 3) := by decide +kernel
theorem dX12_tellLetter_140 : decode cX12_tellLetter 140 = .ok (.return_, 1) := by decide +kernel
theorem dX12_tellLetter_141 : decode cX12_tellLetter 141 = .ok (.aload_n 0, 1) := by decide +kernel
theorem dX12_tellLetter_142 : decode cX12_tellLetter 142 = .ok (.iload_n 2, 1) := by decide +kernel
theorem dX12_tellLetter_143 : decode cX12_tellLetter 143 = .ok (.iconst 2, 1) := by decide +kernel
theorem dX12_tellLetter_144 : decode cX12_tellLetter 144 = .ok (.aload_n 0, 1) := by decide +kernel
theorem dX12_tellLetter_145 : decode cX12_tellLetter 145 = .ok (.getfield 67, 3) := by decide +kernel
theorem dX12_tellLetter_148 : decode cX12_tellLetter 148 = .ok (.aload_n 0, 1) := by decide +kernel
theorem dX12_tellLetter_149 : decode cX12_tellLetter 149 = .ok (.getfield 287, 3) := by decide +kernel
theorem dX12_tellLetter_152 : decode cX12_tellLetter 152 = .ok (.iaload, 1) := by decide +kernel
theorem dX12_tellLetter_153 : decode cX12_tellLetter 153 = .ok (.invokevirtual 341, 3) := by decide +kernel
theorem dX12_tellLetter_156 : decode cX12_tellLetter 156 = .ok (.aload_n 0, 1) := by decide +kernel
theorem dX12_tellLetter_157 : decode cX12_tellLetter 157 = .ok (.getfield 67, 3) := by decide +kernel
theorem dX12_tellLetter_160 : decode cX12_tellLetter 160 = .ok (.aload_n 0, 1) := by decide +kernel
theorem dX12_tellLetter_161 : decode cX12_tellLetter 161 = .ok (.getfield 287, 3) := by decide +kernel
theorem dX12_tellLetter_164 : decode cX12_tellLetter 164 = .ok (.dup2, 1) := by decide +kernel
theorem dX12_tellLetter_165 : decode cX12_tellLetter 165 = .ok (.iaload, 1) := by decide +kernel
theorem dX12_tellLetter_166 : decode cX12_tellLetter 166 = .ok (.iconst 1, 1) := by decide +kernel
theorem dX12_tellLetter_167 : decode cX12_tellLetter 167 = .ok (.iadd, 1) := by decide +kernel
theorem dX12_tellLetter_168 : decode cX12_tellLetter 168 = .ok (.iastore, 1) := by decide +kernel
theorem dX12_tellLetter_169 : decode cX12_tellLetter 169 = .ok (.return_, 1) := by decide +kernel
theorem dX12_condition_0 : decode cX12_condition 0 = .ok (.aload_n 0, 1) := by decide +kernel
theorem dX12_condition_1 : decode cX12_condition 1 = .ok (.invokevirtual 275, 3) := by decide +kernel
theorem dX12_condition_4 : decode cX12_condition 4 = .ok (.iconst 1, 1) := by decide +kernel
theorem dX12_condition_5 : decode cX12_condition 5 = .ok (.istore_n 1, 1) := by decide +kernel
theorem dX12_condition_6 : decode cX12_condition 6 = .ok (.iconst 1, 1) := by decide +kernel
theorem dX12_condition_7 : decode cX12_condition 7 = .ok (.istore_n 2, 1) := by decide +kernel
theorem dX12_condition_8 : decode cX12_condition 8 = .ok (.iload_n 2, 1) := by decide +kernel
theorem dX12_condition_9 : decode cX12_condition 9 = .ok (.ifCond .eq 52, 3) := by decide +kernel
theorem dX12_condition_12 : decode cX12_condition 12 = .ok (.aload_n 0, 1) := by decide +kernel
theorem dX12_condition_13 : decode cX12_condition 13 = .ok (.getfield 254, 3) := by decide +kernel
theorem dX12_condition_16 : decode cX12_condition 16 = .ok (.ifCond .ne 45, 3) := by decide +kernel
theorem dX12_condition_19 : decode cX12_condition 19 = .ok (.aload_n 0, 1) := by decide +kernel
theorem dX12_condition_20 : decode cX12_condition 20 = .ok (.iload_n 1, 1) := by decide +kernel
theorem dX12_condition_21 : decode cX12_condition 21 = .ok (.invokevirtual 351, 3) := by decide +kernel
theorem dX12_condition_24 : decode cX12_condition 24 = .ok (.aload_n 0, 1) := by decide +kernel
theorem dX12_condition_25 : decode cX12_condition 25 = .ok (.bipush 29, 2) := by decide +kernel
theorem dX12_condition_27 : decode cX12_condition 27 = .ok (.invokevirtual 272, 3) := by decide +kernel
theorem dX12_condition_30 : decode cX12_condition 30 = .ok (.istore_n 1, 1) := by decide +kernel
theorem dX12_condition_31 : decode cX12_condition 31 = .ok (.iload_n 1, 1) := by decide +kernel
theorem dX12_condition_32 : decode cX12_condition 32 = .ok (.ifCond .ne 12, 3) := by decide +kernel
theorem dX12_condition_35 : decode cX12_condition 35 = .ok (.aload_n 0, 1) := by decide +kernel
theorem dX12_condition_36 : decode cX12_condition 36 = .ok (.bipush 30, 2) := by decide +kernel
theorem dX12_condition_38 : decode cX12_condition 38 = .ok (.invokevirtual 272, 3) := by decide +kernel
theorem dX12_condition_41 : decode cX12_condition 41 = .ok (.ifCond .eq 7, 3) := by decide +kernel
theorem dX12_condition_44 : decode cX12_condition 44 = .ok (.iconst 1, 1) := by decide +kernel
theorem dX12_condition_45 : decode cX12_condition 45 = .ok (.goto 4, 3) := by decide +kernel
theorem dX12_condition_48 : decode cX12_condition 48 = .ok (.iconst 0, 1) := by decide +kernel
theorem dX12_condition_49 : decode cX12_condition 49 = .ok (.istore_n 2, 1) := by decide +kernel
theorem dX12_condition_50 : decode cX12_condition 50 = .ok (.iload_n 2, 1) := by decide +kernel
theorem dX12_condition_51 : decode cX12_condition 51 = .ok (.ifCond .eq (-43), 3) := by decide +kernel
theorem dX12_condition_54 : decode cX12_condition 54 = .ok (.aload_n 0, 1) := by decide +kernel
theorem dX12_condition_55 : decode cX12_condition 55 = .ok (.invokevirtual 275, 3) := by decide +kernel
theorem dX12_condition_58 : decode cX12_condition 58 = .ok (.goto (-50), 3) := by decide +kernel
theorem dX12_condition_61 : decode cX12_condition 61 = .ok (.return_, 1) := by decide +kernel
theorem dX12_literal_0 : decode cX12_literal 0 = .ok (.iconst 0, 1) := by decide +kernel
theorem dX12_literal_1 : decode cX12_literal 1 = .ok (.istore_n 2, 1) := by decide +kernel
theorem dX12_literal_2 : decode cX12_literal 2 = .ok (.aload_n 0, 1) := by decide +kernel
theorem dX12_literal_3 : decode cX12_literal 3 = .ok (.bipush 31, 2) := by decide +kernel
theorem dX12_literal_5 : decode cX12_literal 5 = .ok (.invokevirtual 272, 3) := by decide +kernel
theorem dX12_literal_8 : decode cX12_literal 8 = .ok (.ifCond .eq 20, 3) := by decide +kernel
theorem dX12_literal_11 : decode cX12_literal 11 = .ok (.iload_n 2, 1) := by decide +kernel
theorem dX12_literal_12 : decode cX12_literal 12 = .ok (.ifCond .ne 7, 3) := by decide +kernel
theorem dX12_literal_15 : decode cX12_literal 15 = .ok (.iconst 1, 1) := by decide +kernel
theorem dX12_literal_16 : decode cX12_literal 16 = .ok (.goto 4, 3) := by decide +kernel
theorem dX12_literal_19 : decode cX12_literal 19 = .ok (.iconst 0, 1) := by decide +kernel
theorem dX12_literal_20 : decode cX12_literal 20 = .ok (.istore_n 2, 1) := by decide +kernel
theorem dX12_literal_21 : decode cX12_literal 21 = .ok (.aload_n 0, 1) := by decide +kernel
theorem dX12_literal_22 : decode cX12_literal 22 = .ok (.invokevirtual 275, 3) := by decide +kernel
theorem dX12_literal_25 : decode cX12_literal 25 = .ok (.goto (-23), 3) := by decide +kernel
theorem dX12_literal_28 : decode cX12_literal 28 = .ok (.aload_n 0, 1) := by decide +kernel
theorem dX12_literal_29 : decode cX12_literal 29 = .ok (.bipush 32, 2) := by decide +kernel
theorem dX12_literal_31 : decode cX12_literal 31 = .ok (.invokevirtual 272, 3) := by decide +kernel
theorem dX12_literal_34 : decode cX12_literal 34 = .ok (.ifCond .ne 12, 3) := by decide +kernel
theorem dX12_literal_37 : decode cX12_literal 37 = .ok (.aload_n 0, 1) := by decide +kernel
theorem dX12_literal_38 : decode cX12_literal 38 = .ok (.bipush 33, 2) := by decide +kernel
theorem dX12_literal_40 : decode cX12_literal 40 = .ok (.invokevirtual 272, 3) := by decide +kernel
theorem dX12_literal_43 : decode cX12_literal 43 = .ok (.ifCond .eq 132, 3) := by decide +kernel
theorem dX12_literal_46 : decode cX12_literal 46 = .ok (.aload_n 0, 1) := by decide +kernel
theorem dX12_literal_47 : decode cX12_literal 47 = .ok (.bipush 32, 2) := by decide +kernel
theorem dX12_literal_49 : decode cX12_literal 49 = .ok (.invokevirtual 272, 3) := by decide +kernel
theorem dX12_literal_52 : decode cX12_literal 52 = .ok (.istore_n 3, 1) := by decide +kernel
theorem dX12_literal_53 : decode cX12_literal 53 = .ok (.aload_n 0, 1) := by decide +kernel
theorem dX12_literal_54 : decode cX12_literal 54 = .ok (.invokevirtual 275, 3) := by decide +kernel
theorem dX12_literal_57 : decode cX12_literal 57 = .ok (.aload_n 0, 1) := by decide +kernel
theorem dX12_literal_58 : decode cX12_literal 58 = .ok (.getfield 257, 3) := by decide +kernel
theorem dX12_literal_61 : decode cX12_literal 61 = .ok (.istore 4, 2) := by decide +kernel
theorem dX12_literal_63 : decode cX12_literal 63 = .ok (.aload_n 0, 1) := by decide +kernel
theorem dX12_literal_64 : decode cX12_literal 64 = .ok (.iconst 1, 1) := by decide +kernel
theorem dX12_literal_65 : decode cX12_literal 65 = .ok (.invokevirtual 331, 3) := by decide +kernel
theorem dX12_literal_68 : decode cX12_literal 68 = .ok (.aload_n 0, 1) := by decide +kernel
theorem dX12_literal_69 : decode cX12_literal 69 = .ok (.getfield 254, 3) := by decide +kernel
theorem dX12_literal_72 : decode cX12_literal 72 = .ok (.ifCond .le 4, 3) := by decide +kernel
theorem dX12_literal_75 : decode cX12_literal 75 = .ok (.return_, 1) := by decide +kernel
theorem dX12_literal_76 : decode cX12_literal 76 = .ok (.iload_n 3, 1) := by decide +kernel
theorem dX12_literal_77 : decode cX12_literal 77 = .ok (.ifCond .eq 13, 3) := by decide +kernel
theorem dX12_literal_80 : decode cX12_literal 80 = .ok (.aload_n 0, 1) := by decide +kernel
theorem dX12_literal_81 : decode cX12_literal 81 = .ok (.iload 4, 2) := by decide +kernel
theorem dX12_literal_83 : decode cX12_literal 83 = .ok (.iconst 0, 1) := by decide +kernel
theorem dX12_literal_84 : decode cX12_literal 84 = .ok (.invokevirtual 308, 3) := by decide +kernel
theorem dX12_literal_87 : decode cX12_literal 87 = .ok (.goto 4, 3) := by decide +kernel
theorem dX12_literal_90 : decode cX12_literal 90 = .ok (.iconst 0, 1) := by decide +kernel
theorem dX12_literal_91 : decode cX12_literal 91 = .ok (.istore 5, 2) := by decide +kernel
theorem dX12_literal_93 : decode cX12_literal 93 = .ok (.iload 5, 2) := by decide +kernel
theorem dX12_literal_95 : decode cX12_literal 95 = .ok (.iconst (-1), 1) := by decide +kernel
theorem dX12_literal_96 : decode cX12_literal 96 = .ok (.if_icmp .ne 10, 3) := by decide +kernel
theorem dX12_literal_99 : decode cX12_literal 99 = .ok (.aload_n 0, 1) := by decide +kernel
theorem dX12_literal_100 : decode cX12_literal 100 = .ok (.iconst 4, 1) := by decide +kernel
theorem dX12_literal_101 : decode cX12_literal 101 = .ok (.iload 4, 2) := by decide +kernel
theorem dX12_literal_103 : decode cX12_literal 103 = .ok (.invokevirtual 312, 3) := by decide +kernel
theorem dX12_literal_106 : decode cX12_literal 106 = .ok (.aload_n 0, 1) := by decide +kernel
theorem dX12_literal_107 : decode cX12_literal 107 = .ok (.getfield 104, 3) := by decide +kernel
theorem dX12_literal_110 : decode cX12_literal 110 = .ok (.aload_n 0, 1) := by decide +kernel
theorem dX12_literal_111 : decode cX12_literal 111 = .ok (.getfield 293, 3) := by decide +kernel
theorem dX12_literal_114 : decode cX12_literal 114 = .ok (.iload_n 3, 1) := by decide +kernel
theorem dX12_literal_115 : decode cX12_literal 115 = .ok (.ifCond .eq 7, 3) := by decide +kernel
theorem dX12_literal_118 : decode cX12_literal 118 = .ok (.iconst 4, 1) := by decide +kernel
theorem dX12_literal_119 : decode cX12_literal 119 = .ok (.goto 4, 3) := by decide +kernel
theorem dX12_literal_122 : decode cX12_literal 122 = .ok (.iconst 5, 1) := by decide +kernel
theorem dX12_literal_123 : decode cX12_literal 123 = .ok (.iastore, 1) := by decide +kernel
theorem dX12_literal_124 : decode cX12_literal 124 = .ok (.aload_n 0, 1) := by decide +kernel
theorem dX12_literal_125 : decode cX12_literal 125 = .ok (.getfield 107, 3) := by decide +kernel
theorem dX12_literal_128 : decode cX12_literal 128 = .ok (.aload_n 0, 1) := by decide +kernel
theorem dX12_literal_129 : decode cX12_literal 129 = .ok (.getfield 293, 3) := by decide +kernel
theorem dX12_literal_132 : decode cX12_literal 132 = .ok (.iload_n 2, 1) := by decide +kernel
theorem dX12_literal_133 : decode cX12_literal 133 = .ok (.bastore, 1) := by decide +kernel
theorem dX12_literal_134 : decode cX12_literal 134 = .ok (.aload_n 0, 1) := by decide +kernel
theorem dX12_literal_135 : decode cX12_literal 135 = .ok (.getfield 110, 3) := by decide +kernel
theorem dX12_literal_138 : decode cX12_literal 138 = .ok (.aload_n 0, 1) := by decide +kernel
theorem dX12_literal_139 : decode cX12_literal 139 = .ok (.getfield 293, 3) := by decide +kernel
theorem dX12_literal_142 : decode cX12_literal 142 = .ok (.iload_n 1, 1) := by decide +kernel
theorem dX12_literal_143 : decode cX12_literal 143 = .ok (.bastore, 1) := by decide +kernel
theorem dX12_literal_144 : decode cX12_literal 144 = .ok (.aload_n 0, 1) := by decide +kernel
theorem dX12_literal_145 : decode cX12_literal 145 = .ok (.getfield 113, 3) := by decide +kernel
theorem dX12_literal_148 : decode cX12_literal 148 = .ok (.aload_n 0, 1) := by decide +kernel
theorem dX12_literal_149 : decode cX12_literal 149 = .ok (.getfield 293, 3) := by decide +kernel
theorem dX12_literal_152 : decode cX12_literal 152 = .ok (.iload_n 3, 1) := by decide +kernel
theorem dX12_literal_153 : decode cX12_literal 153 = .ok (.ifCond .eq 8, 3) := by decide +kernel
theorem dX12_literal_156 : decode cX12_literal 156 = .ok (.iload 5, 2) := by decide +kernel
theorem dX12_literal_158 : decode cX12_literal 158 = .ok (.goto 5, 3) := by decide +kernel
theorem dX12_literal_161 : decode cX12_literal 161 = .ok (.iload 4, 2) := by decide +kernel
theorem dX12_literal_163 : decode cX12_literal 163 = .ok (.iastore, 1) := by decide +kernel
theorem dX12_literal_164 : decode cX12_literal 164 = .ok (.aload_n 0, 1) := by decide +kernel
theorem dX12_literal_165 : decode cX12_literal 165 = .ok (.dup, 1) := by decide +kernel
theorem dX12_literal_166 : decode cX12_literal 166 = .ok (.getfield 293, 3) := by decide +kernel
theorem dX12_literal_169 : decode cX12_literal 169 = .ok (.iconst 1, 1) := by decide +kernel
theorem dX12_literal_170 : decode cX12_literal 170 = .ok (.iadd, 1) := by decide +kernel
theorem dX12_literal_171 : decode cX12_literal 171 = .ok (.putfield 293, 3) := by decide +kernel
theorem dX12_literal_174 : decode cX12_literal 174 = .ok (.return_, 1) := by decide +kernel
theorem dX12_literal_175 : decode cX12_literal 175 = .ok (.aload_n 0, 1) := by decide +kernel
theorem dX12_literal_176 : decode cX12_literal 176 = .ok (.getfield 296, 3) := by decide +kernel
theorem dX12_literal_179 : decode cX12_literal 179 = .ok (.istore_n 3, 1) := by decide +kernel
theorem dX12_literal_180 : decode cX12_literal 180 = .ok (.aload_n 0, 1) := by decide +kernel
theorem dX12_literal_181 : decode cX12_literal 181 = .ok (.invokevirtual 334, 3) := by decide +kernel
theorem dX12_literal_184 : decode cX12_literal 184 = .ok (.aload_n 0, 1) := by decide +kernel
theorem dX12_literal_185 : decode cX12_literal 185 = .ok (.getfield 254, 3) := by decide +kernel
theorem dX12_literal_188 : decode cX12_literal 188 = .ok (.ifCond .le 7, 3) := by decide +kernel
theorem dX12_literal_191 : decode cX12_literal 191 = .ok (.iconst 0, 1) := by decide +kernel
theorem dX12_literal_192 : decode cX12_literal 192 = .ok (.goto 15, 3) := by decide +kernel
theorem dX12_literal_195 : decode cX12_literal 195 = .ok (.aload_n 0, 1) := by decide +kernel
theorem dX12_literal_196 : decode cX12_literal 196 = .ok (.getfield 20, 3) := by decide +kernel
theorem dX12_literal_199 : decode cX12_literal 199 = .ok (.aload_n 0, 1) := by decide +kernel
theorem dX12_literal_200 : decode cX12_literal 200 = .ok (.getfield 257, 3) := by decide +kernel
theorem dX12_literal_203 : decode cX12_literal 203 = .ok (.iaload, 1) := by decide +kernel
theorem dX12_literal_204 : decode cX12_literal 204 = .ok (.bipush 11, 2) := by decide +kernel
theorem dX12_literal_206 : decode cX12_literal 206 = .ok (.isub, 1) := by decide +kernel
theorem dX12_literal_207 : decode cX12_literal 207 = .ok (.istore 4, 2) := by decide +kernel
theorem dX12_literal_209 : decode cX12_literal 209 = .ok (.aload_n 0, 1) := by decide +kernel
theorem dX12_literal_210 : decode cX12_literal 210 = .ok (.getfield 254, 3) := by decide +kernel
theorem dX12_literal_213 : decode cX12_literal 213 = .ok (.ifCond .ne 19, 3) := by decide +kernel
theorem dX12_literal_216 : decode cX12_literal 216 = .ok (.iload 4, 2) := by decide +kernel
theorem dX12_literal_218 : decode cX12_literal 218 = .ok (.ifCond .lt 9, 3) := by decide +kernel
theorem dX12_literal_221 : decode cX12_literal 221 = .ok (.iload 4, 2) := by decide +kernel
theorem dX12_literal_223 : decode cX12_literal 223 = .ok (.iconst 3, 1) := by decide +kernel
theorem dX12_literal_224 : decode cX12_literal 224 = .ok (.if_icmp .le 8, 3) := by decide +kernel
theorem dX12_literal_227 : decode cX12_literal 227 = .ok (.aload_n 0, 1) := by decide +kernel
theorem dX12_literal_228 : decode cX12_literal 228 = .ok (.iconst 1, 1) := by decide +kernel
theorem dX12_literal_229 : decode cX12_literal 229 = .ok (.invokevirtual 269, 3) := by decide +kernel
theorem dX12_literal_232 : decode cX12_literal 232 = .ok (.aload_n 0, 1) := by decide +kernel
theorem dX12_literal_233 : decode cX12_literal 233 = .ok (.invokevirtual 275, 3) := by decide +kernel
theorem dX12_literal_236 : decode cX12_literal 236 = .ok (.aload_n 0, 1) := by decide +kernel
theorem dX12_literal_237 : decode cX12_literal 237 = .ok (.getfield 296, 3) := by decide +kernel
theorem dX12_literal_240 : decode cX12_literal 240 = .ok (.istore 5, 2) := by decide +kernel
theorem dX12_literal_242 : decode cX12_literal 242 = .ok (.aload_n 0, 1) := by decide +kernel
theorem dX12_literal_243 : decode cX12_literal 243 = .ok (.invokevirtual 334, 3) := by decide +kernel
theorem dX12_literal_246 : decode cX12_literal 246 = .ok (.aload_n 0, 1) := by decide +kernel
theorem dX12_literal_247 : decode cX12_literal 247 = .ok (.getfield 254, 3) := by decide +kernel
theorem dX12_literal_250 : decode cX12_literal 250 = .ok (.ifCond .le 4, 3) := by decide +kernel
theorem dX12_literal_253 : decode cX12_literal 253 = .ok (.return_, 1) := by decide +kernel
theorem dX12_literal_254 : decode cX12_literal 254 = .ok (.aload_n 0, 1) := by decide +kernel
theorem dX12_literal_255 : decode cX12_literal 255 = .ok (.getfield 104, 3) := by decide +kernel
theorem dX12_literal_258 : decode cX12_literal 258 = .ok (.aload_n 0, 1) := by decide +kernel
theorem dX12_literal_259 : decode cX12_literal 259 = .ok (.getfield 293, 3) := by decide +kernel
theorem dX12_literal_262 : decode cX12_literal 262 = .ok (.iload 4, 2) := by decide +kernel
theorem dX12_literal_264 : decode cX12_literal 264 = .ok (.iastore, 1) := by decide +kernel
theorem dX12_literal_265 : decode cX12_literal 265 = .ok (.aload_n 0, 1) := by decide +kernel
theorem dX12_literal_266 : decode cX12_literal 266 = .ok (.getfield 107, 3) := by decide +kernel
theorem dX12_literal_269 : decode cX12_literal 269 = .ok (.aload_n 0, 1) := by decide +kernel
theorem dX12_literal_270 : decode cX12_literal 270 = .ok (.getfield 293, 3) := by decide +kernel
theorem dX12_literal_273 : decode cX12_literal 273 = .ok (.iload_n 2, 1) := by decide +kernel
theorem dX12_literal_274 : decode cX12_literal 274 = .ok (.bastore, 1) := by decide +kernel
theorem dX12_literal_275 : decode cX12_literal 275 = .ok (.aload_n 0, 1) := by decide +kernel
theorem dX12_literal_276 : decode cX12_literal 276 = .ok (.getfield 110, 3) := by decide +kernel
theorem dX12_literal_279 : decode cX12_literal 279 = .ok (.aload_n 0, 1) := by decide +kernel
theorem dX12_literal_280 : decode cX12_literal 280 = .ok (.getfield 293, 3) := by decide +kernel
theorem dX12_literal_283 : decode cX12_literal 283 = .ok (.iload_n 1, 1) := by decide +kernel
theorem dX12_literal_284 : decode cX12_literal 284 = .ok (.bastore, 1) := by decide +kernel
theorem dX12_literal_285 : decode cX12_literal 285 = .ok (.aload_n 0, 1) := by decide +kernel
theorem dX12_literal_286 : decode cX12_literal 286 = .ok (.getfield 113, 3) := by decide +kernel
theorem dX12_literal_289 : decode cX12_literal 289 = .ok (.aload_n 0, 1) := by decide +kernel
theorem dX12_literal_290 : decode cX12_literal 290 = .ok (.getfield 293, 3) := by decide +kernel
theorem dX12_literal_293 : decode cX12_literal 293 = .ok (.iload_n 3, 1) := by decide +kernel
theorem dX12_literal_294 : decode cX12_literal 294 = .ok (.iastore, 1) := by decide +kernel
theorem dX12_literal_295 : decode cX12_literal 295 = .ok (.aload_n 0, 1) := by decide +kernel
theorem dX12_literal_296 : decode cX12_literal 296 = .ok (.getfield 116, 3) := by decide +kernel
theorem dX12_literal_299 : decode cX12_literal 299 = .ok (.aload_n 0, 1) := by decide +kernel
theorem dX12_literal_300 : decode cX12_literal 300 = .ok (.getfield 293, 3) := by decide +kernel
theorem dX12_literal_303 : decode cX12_literal 303 = .ok (.iload 5, 2) := by decide +kernel
theorem dX12_literal_305 : decode cX12_literal 305 = .ok (.iastore, 1) := by decide +kernel
theorem dX12_literal_306 : decode cX12_literal 306 = .ok (.aload_n 0, 1) := by decide +kernel
theorem dX12_literal_307 : decode cX12_literal 307 = .ok (.getfield 119, 3) := by decide +kernel
theorem dX12_literal_310 : decode cX12_literal 310 = .ok (.aload_n 0, 1) := by decide +kernel
theorem dX12_literal_311 : decode cX12_literal 311 = .ok (.getfield 293, 3) := by decide +kernel
theorem dX12_literal_314 : decode cX12_literal 314 = .ok (.aload_n 0, 1) := by decide +kernel
theorem dX12_literal_315 : decode cX12_literal 315 = .ok (.getfield 296, 3) := by decide +kernel
theorem dX12_literal_318 : decode cX12_literal 318 = .ok (.iastore, 1) := by decide +kernel
theorem dX12_literal_319 : decode cX12_literal 319 = .ok (.aload_n 0, 1) := by decide +kernel
theorem dX12_literal_320 : decode cX12_literal 320 = .ok (.dup, 1) := by decide +kernel
theorem dX12_literal_321 : decode cX12_literal 321 = .ok (.getfield 293, 3) := by decide +kernel
theorem dX12_literal_324 : decode cX12_literal 324 = .ok (.iconst 1, 1) := by decide +kernel
theorem dX12_literal_325 : decode cX12_literal 325 = .ok (.iadd, 1) := by decide +kernel
theorem dX12_literal_326 : decode cX12_literal 326 = .ok (.putfield 293, 3) := by decide +kernel
theorem dX12_literal_329 : decode cX12_literal 329 = .ok (.return_, 1) := by decide +kernel
theorem dX12_emit_0 : decode cX12_emit 0 = .ok (.aload_n 0, 1) := by decide +kernel
theorem dX12_emit_1 : decode cX12_emit 1 = .ok (.getfield 122, 3) := by decide +kernel
theorem dX12_emit_4 : decode cX12_emit 4 = .ok (.aload_n 0, 1) := by decide +kernel
theorem dX12_emit_5 : decode cX12_emit 5 = .ok (.getfield 296, 3) := by decide +kernel
theorem dX12_emit_8 : decode cX12_emit 8 = .ok (.iload_n 1, 1) := by decide +kernel
theorem dX12_emit_9 : decode cX12_emit 9 = .ok (.iastore, 1) := by decide +kernel
theorem dX12_emit_10 : decode cX12_emit 10 = .ok (.aload_n 0, 1) := by decide +kernel
theorem dX12_emit_11 : decode cX12_emit 11 = .ok (.getfield 125, 3) := by decide +kernel
theorem dX12_emit_14 : decode cX12_emit 14 = .ok (.aload_n 0, 1) := by decide +kernel
theorem dX12_emit_15 : decode cX12_emit 15 = .ok (.getfield 296, 3) := by decide +kernel
theorem dX12_emit_18 : decode cX12_emit 18 = .ok (.iload_n 2, 1) := by decide +kernel
theorem dX12_emit_19 : decode cX12_emit 19 = .ok (.iastore, 1) := by decide +kernel
theorem dX12_emit_20 : decode cX12_emit 20 = .ok (.aload_n 0, 1) := by decide +kernel
theorem dX12_emit_21 : decode cX12_emit 21 = .ok (.dup, 1) := by decide +kernel
theorem dX12_emit_22 : decode cX12_emit 22 = .ok (.getfield 296, 3) := by decide +kernel
theorem dX12_emit_25 : decode cX12_emit 25 = .ok (.iconst 1, 1) := by decide +kernel
theorem dX12_emit_26 : decode cX12_emit 26 = .ok (.iadd, 1) := by decide +kernel
theorem dX12_emit_27 : decode cX12_emit 27 = .ok (.putfield 296, 3) := by decide +kernel
theorem dX12_emit_30 : decode cX12_emit 30 = .ok (.return_, 1) := by decide +kernel
theorem dX12_comesOut_0 : decode cX12_comesOut 0 = .ok (.aload_n 0, 1) := by decide +kernel
theorem dX12_comesOut_1 : decode cX12_comesOut 1 = .ok (.getfield 355, 3) := by decide +kernel
theorem dX12_comesOut_4 : decode cX12_comesOut 4 = .ok (.ifCond .le 87, 3) := by decide +kernel
theorem dX12_comesOut_7 : decode cX12_comesOut 7 = .ok (.aload_n 0, 1) := by decide +kernel
theorem dX12_comesOut_8 : decode cX12_comesOut 8 = .ok (.getfield 128, 3) := by decide +kernel
theorem dX12_comesOut_11 : decode cX12_comesOut 11 = .ok (.aload_n 0, 1) := by decide +kernel
theorem dX12_comesOut_12 : decode cX12_comesOut 12 = .ok (.getfield 355, 3) := by decide +kernel
theorem dX12_comesOut_15 : decode cX12_comesOut 15 = .ok (.iconst 1, 1) := by decide +kernel
theorem dX12_comesOut_16 : decode cX12_comesOut 16 = .ok (.isub, 1) := by decide +kernel
theorem dX12_comesOut_17 : decode cX12_comesOut 17 = .ok (.iaload, 1) := by decide +kernel
theorem dX12_comesOut_18 : decode cX12_comesOut 18 = .ok (.istore_n 2, 1) := by decide +kernel
theorem dX12_comesOut_19 : decode cX12_comesOut 19 = .ok (.iload_n 2, 1) := by decide +kernel
theorem dX12_comesOut_20 : decode cX12_comesOut 20 = .ok (.bipush 6, 2) := by decide +kernel
theorem dX12_comesOut_22 : decode cX12_comesOut 22 = .ok (.if_icmp .eq 19, 3) := by decide +kernel
theorem dX12_comesOut_25 : decode cX12_comesOut 25 = .ok (.iload_n 1, 1) := by decide +kernel
theorem dX12_comesOut_26 : decode cX12_comesOut 26 = .ok (.ifCond .eq 16, 3) := by decide +kernel
theorem dX12_comesOut_29 : decode cX12_comesOut 29 = .ok (.iload_n 2, 1) := by decide +kernel
theorem dX12_comesOut_30 : decode cX12_comesOut 30 = .ok (.bipush 8, 2) := by decide +kernel
theorem dX12_comesOut_32 : decode cX12_comesOut 32 = .ok (.if_icmp .eq 9, 3) := by decide +kernel
theorem dX12_comesOut_35 : decode cX12_comesOut 35 = .ok (.iload_n 2, 1) := by decide +kernel
theorem dX12_comesOut_36 : decode cX12_comesOut 36 = .ok (.bipush 9, 2) := by decide +kernel
theorem dX12_comesOut_38 : decode cX12_comesOut 38 = .ok (.if_icmp .ne 4, 3) := by decide +kernel
theorem dX12_comesOut_41 : decode cX12_comesOut 41 = .ok (.return_, 1) := by decide +kernel
theorem dX12_comesOut_42 : decode cX12_comesOut 42 = .ok (.aload_n 0, 1) := by decide +kernel
theorem dX12_comesOut_43 : decode cX12_comesOut 43 = .ok (.dup, 1) := by decide +kernel
theorem dX12_comesOut_44 : decode cX12_comesOut 44 = .ok (.getfield 355, 3) := by decide +kernel
theorem dX12_comesOut_47 : decode cX12_comesOut 47 = .ok (.iconst 1, 1) := by decide +kernel
theorem dX12_comesOut_48 : decode cX12_comesOut 48 = .ok (.isub, 1) := by decide +kernel
theorem dX12_comesOut_49 : decode cX12_comesOut 49 = .ok (.putfield 355, 3) := by decide +kernel
theorem dX12_comesOut_52 : decode cX12_comesOut 52 = .ok (.aload_n 0, 1) := by decide +kernel
theorem dX12_comesOut_53 : decode cX12_comesOut 53 = .ok (.iload_n 2, 1) := by decide +kernel
theorem dX12_comesOut_54 : decode cX12_comesOut 54 = .ok (.bipush 8, 2) := by decide +kernel
theorem dX12_comesOut_56 : decode cX12_comesOut 56 = .ok (.if_icmp .ne 7, 3) := by decide +kernel
theorem dX12_comesOut_59 : decode cX12_comesOut 59 = .ok (.iconst 2, 1) := by decide +kernel
theorem dX12_comesOut_60 : decode cX12_comesOut 60 = .ok (.goto 24, 3) := by decide +kernel
theorem dX12_comesOut_63 : decode cX12_comesOut 63 = .ok (.iload_n 2, 1) := by decide +kernel
theorem dX12_comesOut_64 : decode cX12_comesOut 64 = .ok (.bipush 9, 2) := by decide +kernel
theorem dX12_comesOut_66 : decode cX12_comesOut 66 = .ok (.if_icmp .ne 7, 3) := by decide +kernel
theorem dX12_comesOut_69 : decode cX12_comesOut 69 = .ok (.iconst 3, 1) := by decide +kernel
theorem dX12_comesOut_70 : decode cX12_comesOut 70 = .ok (.goto 14, 3) := by decide +kernel
theorem dX12_comesOut_73 : decode cX12_comesOut 73 = .ok (.iload_n 2, 1) := by decide +kernel
theorem dX12_comesOut_74 : decode cX12_comesOut 74 = .ok (.bipush 10, 2) := by decide +kernel
theorem dX12_comesOut_76 : decode cX12_comesOut 76 = .ok (.if_icmp .ne 7, 3) := by decide +kernel
theorem dX12_comesOut_79 : decode cX12_comesOut 79 = .ok (.iconst 4, 1) := by decide +kernel
theorem dX12_comesOut_80 : decode cX12_comesOut 80 = .ok (.goto 4, 3) := by decide +kernel
theorem dX12_comesOut_83 : decode cX12_comesOut 83 = .ok (.iconst 5, 1) := by decide +kernel
theorem dX12_comesOut_84 : decode cX12_comesOut 84 = .ok (.iconst 0, 1) := by decide +kernel
theorem dX12_comesOut_85 : decode cX12_comesOut 85 = .ok (.invokevirtual 358, 3) := by decide +kernel
theorem dX12_comesOut_88 : decode cX12_comesOut 88 = .ok (.goto (-88), 3) := by decide +kernel
theorem dX12_comesOut_91 : decode cX12_comesOut 91 = .ok (.return_, 1) := by decide +kernel
theorem dX12_expression_0 : decode cX12_expression 0 = .ok (.aload_n 0, 1) := by decide +kernel
theorem dX12_expression_1 : decode cX12_expression 1 = .ok (.iconst 0, 1) := by decide +kernel
theorem dX12_expression_2 : decode cX12_expression 2 = .ok (.putfield 355, 3) := by decide +kernel
theorem dX12_expression_5 : decode cX12_expression 5 = .ok (.aload_n 0, 1) := by decide +kernel
theorem dX12_expression_6 : decode cX12_expression 6 = .ok (.getfield 281, 3) := by decide +kernel
theorem dX12_expression_9 : decode cX12_expression 9 = .ok (.istore_n 1, 1) := by decide +kernel
theorem dX12_expression_10 : decode cX12_expression 10 = .ok (.iconst 1, 1) := by decide +kernel
theorem dX12_expression_11 : decode cX12_expression 11 = .ok (.istore_n 2, 1) := by decide +kernel
theorem dX12_expression_12 : decode cX12_expression 12 = .ok (.iload_n 2, 1) := by decide +kernel
theorem dX12_expression_13 : decode cX12_expression 13 = .ok (.ifCond .eq 259, 3) := by decide +kernel
theorem dX12_expression_16 : decode cX12_expression 16 = .ok (.aload_n 0, 1) := by decide +kernel
theorem dX12_expression_17 : decode cX12_expression 17 = .ok (.getfield 254, 3) := by decide +kernel
theorem dX12_expression_20 : decode cX12_expression 20 = .ok (.ifCond .ne 252, 3) := by decide +kernel
theorem dX12_expression_23 : decode cX12_expression 23 = .ok (.aload_n 0, 1) := by decide +kernel
theorem dX12_expression_24 : decode cX12_expression 24 = .ok (.bipush 6, 2) := by decide +kernel
theorem dX12_expression_26 : decode cX12_expression 26 = .ok (.invokevirtual 272, 3) := by decide +kernel
theorem dX12_expression_29 : decode cX12_expression 29 = .ok (.ifCond .eq 55, 3) := by decide +kernel
theorem dX12_expression_32 : decode cX12_expression 32 = .ok (.aload_n 0, 1) := by decide +kernel
theorem dX12_expression_33 : decode cX12_expression 33 = .ok (.getfield 281, 3) := by decide +kernel
theorem dX12_expression_36 : decode cX12_expression 36 = .ok (.bipush 6, 2) := by decide +kernel
theorem dX12_expression_38 : decode cX12_expression 38 = .ok (.if_icmp .ne 8, 3) := by decide +kernel
theorem dX12_expression_41 : decode cX12_expression 41 = .ok (.aload_n 0, 1) := by decide +kernel
theorem dX12_expression_42 : decode cX12_expression 42 = .ok (.iconst 2, 1) := by decide +kernel
theorem dX12_expression_43 : decode cX12_expression 43 = .ok (.invokevirtual 269, 3) := by decide +kernel
theorem dX12_expression_46 : decode cX12_expression 46 = .ok (.aload_n 0, 1) := by decide +kernel
theorem dX12_expression_47 : decode cX12_expression 47 = .ok (.dup, 1) := by decide +kernel
theorem dX12_expression_48 : decode cX12_expression 48 = .ok (.getfield 281, 3) := by decide +kernel
theorem dX12_expression_51 : decode cX12_expression 51 = .ok (.iconst 1, 1) := by decide +kernel
theorem dX12_expression_52 : decode cX12_expression 52 = .ok (.iadd, 1) := by decide +kernel
theorem dX12_expression_53 : decode cX12_expression 53 = .ok (.putfield 281, 3) := by decide +kernel
theorem dX12_expression_56 : decode cX12_expression 56 = .ok (.aload_n 0, 1) := by decide +kernel
theorem dX12_expression_57 : decode cX12_expression 57 = .ok (.invokevirtual 275, 3) := by decide +kernel
theorem dX12_expression_60 : decode cX12_expression 60 = .ok (.aload_n 0, 1) := by decide +kernel
theorem dX12_expression_61 : decode cX12_expression 61 = .ok (.getfield 128, 3) := by decide +kernel
theorem dX12_expression_64 : decode cX12_expression 64 = .ok (.aload_n 0, 1) := by decide +kernel
theorem dX12_expression_65 : decode cX12_expression 65 = .ok (.getfield 355, 3) := by decide +kernel
theorem dX12_expression_68 : decode cX12_expression 68 = .ok (.bipush 6, 2) := by decide +kernel
theorem dX12_expression_70 : decode cX12_expression 70 = .ok (.iastore, 1) := by decide +kernel
theorem dX12_expression_71 : decode cX12_expression 71 = .ok (.aload_n 0, 1) := by decide +kernel
theorem dX12_expression_72 : decode cX12_expression 72 = .ok (.dup, 1) := by decide +kernel
theorem dX12_expression_73 : decode cX12_expression 73 = .ok (.getfield 355, 3) := by decide +kernel
theorem dX12_expression_76 : decode cX12_expression 76 = .ok (.iconst 1, 1) := by decide +kernel
theorem dX12_expression_77 : decode cX12_expression 77 = .ok (.iadd, 1) := by decide +kernel
theorem dX12_expression_78 : decode cX12_expression 78 = .ok (.putfield 355, 3) := by decide +kernel
theorem dX12_expression_81 : decode cX12_expression 81 = .ok (.goto (-58), 3) := by decide +kernel
theorem dX12_expression_84 : decode cX12_expression 84 = .ok (.aload_n 0, 1) := by decide +kernel
theorem dX12_expression_85 : decode cX12_expression 85 = .ok (.invokevirtual 361, 3) := by decide +kernel
theorem dX12_expression_88 : decode cX12_expression 88 = .ok (.aload_n 0, 1) := by decide +kernel
theorem dX12_expression_89 : decode cX12_expression 89 = .ok (.getfield 254, 3) := by decide +kernel
theorem dX12_expression_92 : decode cX12_expression 92 = .ok (.ifCond .le 4, 3) := by decide +kernel
theorem dX12_expression_95 : decode cX12_expression 95 = .ok (.return_, 1) := by decide +kernel
theorem dX12_expression_96 : decode cX12_expression 96 = .ok (.aload_n 0, 1) := by decide +kernel
theorem dX12_expression_97 : decode cX12_expression 97 = .ok (.bipush 7, 2) := by decide +kernel
theorem dX12_expression_99 : decode cX12_expression 99 = .ok (.invokevirtual 272, 3) := by decide +kernel
theorem dX12_expression_102 : decode cX12_expression 102 = .ok (.ifCond .eq 43, 3) := by decide +kernel
theorem dX12_expression_105 : decode cX12_expression 105 = .ok (.aload_n 0, 1) := by decide +kernel
theorem dX12_expression_106 : decode cX12_expression 106 = .ok (.getfield 281, 3) := by decide +kernel
theorem dX12_expression_109 : decode cX12_expression 109 = .ok (.iload_n 1, 1) := by decide +kernel
theorem dX12_expression_110 : decode cX12_expression 110 = .ok (.if_icmp .le 35, 3) := by decide +kernel
theorem dX12_expression_113 : decode cX12_expression 113 = .ok (.aload_n 0, 1) := by decide +kernel
theorem dX12_expression_114 : decode cX12_expression 114 = .ok (.iconst 0, 1) := by decide +kernel
theorem dX12_expression_115 : decode cX12_expression 115 = .ok (.invokevirtual 364, 3) := by decide +kernel
theorem dX12_expression_118 : decode cX12_expression 118 = .ok (.aload_n 0, 1) := by decide +kernel
theorem dX12_expression_119 : decode cX12_expression 119 = .ok (.dup, 1) := by decide +kernel
theorem dX12_expression_120 : decode cX12_expression 120 = .ok (.getfield 355, 3) := by decide +kernel
theorem dX12_expression_123 : decode cX12_expression 123 = .ok (.iconst 1, 1) := by decide +kernel
theorem dX12_expression_124 : decode cX12_expression 124 = .ok (.isub, 1) := by decide +kernel
theorem dX12_expression_125 : decode cX12_expression 125 = .ok (.putfield 355, 3) := by decide +kernel
theorem dX12_expression_128 : decode cX12_expression 128 = .ok (.aload_n 0, 1) := by decide +kernel
theorem dX12_expression_129 : decode cX12_expression 129 = .ok (.dup, 1) := by decide +kernel
theorem dX12_expression_130 : decode cX12_expression 130 = .ok (.getfield 281, 3) := by decide +kernel
theorem dX12_expression_133 : decode cX12_expression 133 = .ok (.iconst 1, 1) := by decide +kernel
theorem dX12_expression_134 : decode cX12_expression 134 = .ok (.isub, 1) := by decide +kernel
theorem dX12_expression_135 : decode cX12_expression 135 = .ok (.putfield 281, 3) := by decide +kernel
theorem dX12_expression_138 : decode cX12_expression 138 = .ok (.aload_n 0, 1) := by decide +kernel
theorem dX12_expression_139 : decode cX12_expression 139 = .ok (.invokevirtual 275, 3) := by decide +kernel
theorem dX12_expression_142 : decode cX12_expression 142 = .ok (.goto (-46), 3) := by decide +kernel
theorem dX12_expression_145 : decode cX12_expression 145 = .ok (.aload_n 0, 1) := by decide +kernel
theorem dX12_expression_146 : decode cX12_expression 146 = .ok (.bipush 8, 2) := by decide +kernel
theorem dX12_expression_148 : decode cX12_expression 148 = .ok (.invokevirtual 272, 3) := by decide +kernel
theorem dX12_expression_151 : decode cX12_expression 151 = .ok (.ifCond .ne 30, 3) := by decide +kernel
theorem dX12_expression_154 : decode cX12_expression 154 = .ok (.aload_n 0, 1) := by decide +kernel
theorem dX12_expression_155 : decode cX12_expression 155 = .ok (.bipush 9, 2) := by decide +kernel
theorem dX12_expression_157 : decode cX12_expression 157 = .ok (.invokevirtual 272, 3) := by decide +kernel
theorem dX12_expression_160 : decode cX12_expression 160 = .ok (.ifCond .ne 21, 3) := by decide +kernel
theorem dX12_expression_163 : decode cX12_expression 163 = .ok (.aload_n 0, 1) := by decide +kernel
theorem dX12_expression_164 : decode cX12_expression 164 = .ok (.bipush 10, 2) := by decide +kernel
theorem dX12_expression_166 : decode cX12_expression 166 = .ok (.invokevirtual 272, 3) := by decide +kernel
theorem dX12_expression_169 : decode cX12_expression 169 = .ok (.ifCond .ne 12, 3) := by decide +kernel
theorem dX12_expression_172 : decode cX12_expression 172 = .ok (.aload_n 0, 1) := by decide +kernel
theorem dX12_expression_173 : decode cX12_expression 173 = .ok (.bipush 15, 2) := by decide +kernel
theorem dX12_expression_175 : decode cX12_expression 175 = .ok (.invokevirtual 272, 3) := by decide +kernel
theorem dX12_expression_178 : decode cX12_expression 178 = .ok (.ifCond .eq 7, 3) := by decide +kernel
theorem dX12_expression_181 : decode cX12_expression 181 = .ok (.iconst 1, 1) := by decide +kernel
theorem dX12_expression_182 : decode cX12_expression 182 = .ok (.goto 4, 3) := by decide +kernel
theorem dX12_expression_185 : decode cX12_expression 185 = .ok (.iconst 0, 1) := by decide +kernel
theorem dX12_expression_186 : decode cX12_expression 186 = .ok (.istore_n 2, 1) := by decide +kernel
theorem dX12_expression_187 : decode cX12_expression 187 = .ok (.iload_n 2, 1) := by decide +kernel
theorem dX12_expression_188 : decode cX12_expression 188 = .ok (.ifCond .ne 22, 3) := by decide +kernel
theorem dX12_expression_191 : decode cX12_expression 191 = .ok (.aload_n 0, 1) := by decide +kernel
theorem dX12_expression_192 : decode cX12_expression 192 = .ok (.getfield 281, 3) := by decide +kernel
theorem dX12_expression_195 : decode cX12_expression 195 = .ok (.iload_n 1, 1) := by decide +kernel
theorem dX12_expression_196 : decode cX12_expression 196 = .ok (.if_icmp .le 8, 3) := by decide +kernel
theorem dX12_expression_199 : decode cX12_expression 199 = .ok (.aload_n 0, 1) := by decide +kernel
theorem dX12_expression_200 : decode cX12_expression 200 = .ok (.iconst 1, 1) := by decide +kernel
theorem dX12_expression_201 : decode cX12_expression 201 = .ok (.invokevirtual 269, 3) := by decide +kernel
theorem dX12_expression_204 : decode cX12_expression 204 = .ok (.aload_n 0, 1) := by decide +kernel
theorem dX12_expression_205 : decode cX12_expression 205 = .ok (.iconst 0, 1) := by decide +kernel
theorem dX12_expression_206 : decode cX12_expression 206 = .ok (.invokevirtual 364, 3) := by decide +kernel
theorem dX12_expression_209 : decode cX12_expression 209 = .ok (.return_, 1) := by decide +kernel
theorem dX12_expression_210 : decode cX12_expression 210 = .ok (.aload_n 0, 1) := by decide +kernel
theorem dX12_expression_211 : decode cX12_expression 211 = .ok (.aload_n 0, 1) := by decide +kernel
theorem dX12_expression_212 : decode cX12_expression 212 = .ok (.bipush 10, 2) := by decide +kernel
theorem dX12_expression_214 : decode cX12_expression 214 = .ok (.invokevirtual 272, 3) := by decide +kernel
theorem dX12_expression_217 : decode cX12_expression 217 = .ok (.ifCond .ne 12, 3) := by decide +kernel
theorem dX12_expression_220 : decode cX12_expression 220 = .ok (.aload_n 0, 1) := by decide +kernel
theorem dX12_expression_221 : decode cX12_expression 221 = .ok (.bipush 15, 2) := by decide +kernel
theorem dX12_expression_223 : decode cX12_expression 223 = .ok (.invokevirtual 272, 3) := by decide +kernel
theorem dX12_expression_226 : decode cX12_expression 226 = .ok (.ifCond .eq 7, 3) := by decide +kernel
theorem dX12_expression_229 : decode cX12_expression 229 = .ok (.iconst 1, 1) := by decide +kernel
theorem dX12_expression_230 : decode cX12_expression 230 = .ok (.goto 4, 3) := by decide +kernel
theorem dX12_expression_233 : decode cX12_expression 233 = .ok (.iconst 0, 1) := by decide +kernel
theorem dX12_expression_234 : decode cX12_expression 234 = .ok (.invokevirtual 364, 3) := by decide +kernel
theorem dX12_expression_237 : decode cX12_expression 237 = .ok (.aload_n 0, 1) := by decide +kernel
theorem dX12_expression_238 : decode cX12_expression 238 = .ok (.getfield 128, 3) := by decide +kernel
theorem dX12_expression_241 : decode cX12_expression 241 = .ok (.aload_n 0, 1) := by decide +kernel
theorem dX12_expression_242 : decode cX12_expression 242 = .ok (.getfield 355, 3) := by decide +kernel
theorem dX12_expression_245 : decode cX12_expression 245 = .ok (.aload_n 0, 1) := by decide +kernel
theorem dX12_expression_246 : decode cX12_expression 246 = .ok (.getfield 20, 3) := by decide +kernel
theorem dX12_expression_249 : decode cX12_expression 249 = .ok (.aload_n 0, 1) := by decide +kernel
theorem dX12_expression_250 : decode cX12_expression 250 = .ok (.getfield 257, 3) := by decide +kernel
theorem dX12_expression_253 : decode cX12_expression 253 = .ok (.iaload, 1) := by decide +kernel
theorem dX12_expression_254 : decode cX12_expression 254 = .ok (.iastore, 1) := by decide +kernel
theorem dX12_expression_255 : decode cX12_expression 255 = .ok (.aload_n 0, 1) := by decide +kernel
theorem dX12_expression_256 : decode cX12_expression 256 = .ok (.dup, 1) := by decide +kernel
theorem dX12_expression_257 : decode cX12_expression 257 = .ok (.getfield 355, 3) := by decide +kernel
theorem dX12_expression_260 : decode cX12_expression 260 = .ok (.iconst 1, 1) := by decide +kernel
theorem dX12_expression_261 : decode cX12_expression 261 = .ok (.iadd, 1) := by decide +kernel
theorem dX12_expression_262 : decode cX12_expression 262 = .ok (.putfield 355, 3) := by decide +kernel
theorem dX12_expression_265 : decode cX12_expression 265 = .ok (.aload_n 0, 1) := by decide +kernel
theorem dX12_expression_266 : decode cX12_expression 266 = .ok (.invokevirtual 275, 3) := by decide +kernel
theorem dX12_expression_269 : decode cX12_expression 269 = .ok (.goto (-257), 3) := by decide +kernel
theorem dX12_expression_272 : decode cX12_expression 272 = .ok (.return_, 1) := by decide +kernel
theorem dX12_unit_0 : decode cX12_unit 0 = .ok (.aload_n 0, 1) := by decide +kernel
theorem dX12_unit_1 : decode cX12_unit 1 = .ok (.iconst 2, 1) := by decide +kernel
theorem dX12_unit_2 : decode cX12_unit 2 = .ok (.invokevirtual 272, 3) := by decide +kernel
theorem dX12_unit_5 : decode cX12_unit 5 = .ok (.ifCond .eq 24, 3) := by decide +kernel
theorem dX12_unit_8 : decode cX12_unit 8 = .ok (.aload_n 0, 1) := by decide +kernel
theorem dX12_unit_9 : decode cX12_unit 9 = .ok (.iconst 0, 1) := by decide +kernel
theorem dX12_unit_10 : decode cX12_unit 10 = .ok (.aload_n 0, 1) := by decide +kernel
theorem dX12_unit_11 : decode cX12_unit 11 = .ok (.getfield 27, 3) := by decide +kernel
theorem dX12_unit_14 : decode cX12_unit 14 = .ok (.aload_n 0, 1) := by decide +kernel
theorem dX12_unit_15 : decode cX12_unit 15 = .ok (.getfield 257, 3) := by decide +kernel
theorem dX12_unit_18 : decode cX12_unit 18 = .ok (.iaload, 1) := by decide +kernel
theorem dX12_unit_19 : decode cX12_unit 19 = .ok (.invokevirtual 358, 3) := by decide +kernel
theorem dX12_unit_22 : decode cX12_unit 22 = .ok (.aload_n 0, 1) := by decide +kernel
theorem dX12_unit_23 : decode cX12_unit 23 = .ok (.invokevirtual 275, 3) := by decide +kernel
theorem dX12_unit_26 : decode cX12_unit 26 = .ok (.goto 67, 3) := by decide +kernel
theorem dX12_unit_29 : decode cX12_unit 29 = .ok (.aload_n 0, 1) := by decide +kernel
theorem dX12_unit_30 : decode cX12_unit 30 = .ok (.getfield 254, 3) := by decide +kernel
theorem dX12_unit_33 : decode cX12_unit 33 = .ok (.ifCond .ne 55, 3) := by decide +kernel
theorem dX12_unit_36 : decode cX12_unit 36 = .ok (.aload_n 0, 1) := by decide +kernel
theorem dX12_unit_37 : decode cX12_unit 37 = .ok (.getfield 20, 3) := by decide +kernel
theorem dX12_unit_40 : decode cX12_unit 40 = .ok (.aload_n 0, 1) := by decide +kernel
theorem dX12_unit_41 : decode cX12_unit 41 = .ok (.getfield 257, 3) := by decide +kernel
theorem dX12_unit_44 : decode cX12_unit 44 = .ok (.iaload, 1) := by decide +kernel
theorem dX12_unit_45 : decode cX12_unit 45 = .ok (.bipush 34, 2) := by decide +kernel
theorem dX12_unit_47 : decode cX12_unit 47 = .ok (.if_icmp .lt 41, 3) := by decide +kernel
theorem dX12_unit_50 : decode cX12_unit 50 = .ok (.aload_n 0, 1) := by decide +kernel
theorem dX12_unit_51 : decode cX12_unit 51 = .ok (.getfield 20, 3) := by decide +kernel
theorem dX12_unit_54 : decode cX12_unit 54 = .ok (.aload_n 0, 1) := by decide +kernel
theorem dX12_unit_55 : decode cX12_unit 55 = .ok (.getfield 257, 3) := by decide +kernel
theorem dX12_unit_58 : decode cX12_unit 58 = .ok (.iaload, 1) := by decide +kernel
theorem dX12_unit_59 : decode cX12_unit 59 = .ok (.bipush 37, 2) := by decide +kernel
theorem dX12_unit_61 : decode cX12_unit 61 = .ok (.if_icmp .gt 27, 3) := by decide +kernel
theorem dX12_unit_64 : decode cX12_unit 64 = .ok (.aload_n 0, 1) := by decide +kernel
theorem dX12_unit_65 : decode cX12_unit 65 = .ok (.iconst 1, 1) := by decide +kernel
theorem dX12_unit_66 : decode cX12_unit 66 = .ok (.aload_n 0, 1) := by decide +kernel
theorem dX12_unit_67 : decode cX12_unit 67 = .ok (.getfield 20, 3) := by decide +kernel
theorem dX12_unit_70 : decode cX12_unit 70 = .ok (.aload_n 0, 1) := by decide +kernel
theorem dX12_unit_71 : decode cX12_unit 71 = .ok (.getfield 257, 3) := by decide +kernel
theorem dX12_unit_74 : decode cX12_unit 74 = .ok (.iaload, 1) := by decide +kernel
theorem dX12_unit_75 : decode cX12_unit 75 = .ok (.bipush 34, 2) := by decide +kernel
theorem dX12_unit_77 : decode cX12_unit 77 = .ok (.isub, 1) := by decide +kernel
theorem dX12_unit_78 : decode cX12_unit 78 = .ok (.invokevirtual 358, 3) := by decide +kernel
theorem dX12_unit_81 : decode cX12_unit 81 = .ok (.aload_n 0, 1) := by decide +kernel
theorem dX12_unit_82 : decode cX12_unit 82 = .ok (.invokevirtual 275, 3) := by decide +kernel
theorem dX12_unit_85 : decode cX12_unit 85 = .ok (.goto 8, 3) := by decide +kernel
theorem dX12_unit_88 : decode cX12_unit 88 = .ok (.aload_n 0, 1) := by decide +kernel
theorem dX12_unit_89 : decode cX12_unit 89 = .ok (.iconst 1, 1) := by decide +kernel
theorem dX12_unit_90 : decode cX12_unit 90 = .ok (.invokevirtual 269, 3) := by decide +kernel
theorem dX12_unit_93 : decode cX12_unit 93 = .ok (.return_, 1) := by decide +kernel
theorem dX12_termOf_0 : decode cX12_termOf 0 = .ok (.iconst 0, 1) := by decide +kernel
theorem dX12_termOf_1 : decode cX12_termOf 1 = .ok (.istore_n 3, 1) := by decide +kernel
theorem dX12_termOf_2 : decode cX12_termOf 2 = .ok (.aload_n 0, 1) := by decide +kernel
theorem dX12_termOf_3 : decode cX12_termOf 3 = .ok (.iconst 0, 1) := by decide +kernel
theorem dX12_termOf_4 : decode cX12_termOf 4 = .ok (.putfield 367, 3) := by decide +kernel
theorem dX12_termOf_7 : decode cX12_termOf 7 = .ok (.iload_n 1, 1) := by decide +kernel
theorem dX12_termOf_8 : decode cX12_termOf 8 = .ok (.istore 4, 2) := by decide +kernel
theorem dX12_termOf_10 : decode cX12_termOf 10 = .ok (.iload 4, 2) := by decide +kernel
theorem dX12_termOf_12 : decode cX12_termOf 12 = .ok (.iload_n 2, 1) := by decide +kernel
theorem dX12_termOf_13 : decode cX12_termOf 13 = .ok (.if_icmp .ge 157, 3) := by decide +kernel
theorem dX12_termOf_16 : decode cX12_termOf 16 = .ok (.aload_n 0, 1) := by decide +kernel
theorem dX12_termOf_17 : decode cX12_termOf 17 = .ok (.getfield 122, 3) := by decide +kernel
theorem dX12_termOf_20 : decode cX12_termOf 20 = .ok (.iload 4, 2) := by decide +kernel
theorem dX12_termOf_22 : decode cX12_termOf 22 = .ok (.iaload, 1) := by decide +kernel
theorem dX12_termOf_23 : decode cX12_termOf 23 = .ok (.istore 5, 2) := by decide +kernel
theorem dX12_termOf_25 : decode cX12_termOf 25 = .ok (.iload 5, 2) := by decide +kernel
theorem dX12_termOf_27 : decode cX12_termOf 27 = .ok (.iconst 2, 1) := by decide +kernel
theorem dX12_termOf_28 : decode cX12_termOf 28 = .ok (.if_icmp .ge 42, 3) := by decide +kernel
theorem dX12_termOf_31 : decode cX12_termOf 31 = .ok (.aload_n 0, 1) := by decide +kernel
theorem dX12_termOf_32 : decode cX12_termOf 32 = .ok (.getfield 134, 3) := by decide +kernel
theorem dX12_termOf_35 : decode cX12_termOf 35 = .ok (.iload_n 3, 1) := by decide +kernel
theorem dX12_termOf_36 : decode cX12_termOf 36 = .ok (.iload 5, 2) := by decide +kernel
theorem dX12_termOf_38 : decode cX12_termOf 38 = .ok (.ifCond .ne 13, 3) := by decide +kernel
theorem dX12_termOf_41 : decode cX12_termOf 41 = .ok (.aload_n 0, 1) := by decide +kernel
theorem dX12_termOf_42 : decode cX12_termOf 42 = .ok (.getfield 125, 3) := by decide +kernel
theorem dX12_termOf_45 : decode cX12_termOf 45 = .ok (.iload 4, 2) := by decide +kernel
theorem dX12_termOf_47 : decode cX12_termOf 47 = .ok (.iaload, 1) := by decide +kernel
theorem dX12_termOf_48 : decode cX12_termOf 48 = .ok (.goto 15, 3) := by decide +kernel
theorem dX12_termOf_51 : decode cX12_termOf 51 = .ok (.aload_n 0, 1) := by decide +kernel
theorem dX12_termOf_52 : decode cX12_termOf 52 = .ok (.getfield 131, 3) := by decide +kernel
theorem dX12_termOf_55 : decode cX12_termOf 55 = .ok (.aload_n 0, 1) := by decide +kernel
theorem dX12_termOf_56 : decode cX12_termOf 56 = .ok (.getfield 125, 3) := by decide +kernel
theorem dX12_termOf_59 : decode cX12_termOf 59 = .ok (.iload 4, 2) := by decide +kernel
theorem dX12_termOf_61 : decode cX12_termOf 61 = .ok (.iaload, 1) := by decide +kernel
theorem dX12_termOf_62 : decode cX12_termOf 62 = .ok (.iaload, 1) := by decide +kernel
theorem dX12_termOf_63 : decode cX12_termOf 63 = .ok (.iastore, 1) := by decide +kernel
theorem dX12_termOf_64 : decode cX12_termOf 64 = .ok (.iinc 3 1, 3) := by decide +kernel
theorem dX12_termOf_67 : decode cX12_termOf 67 = .ok (.goto 97, 3) := by decide +kernel
theorem dX12_termOf_70 : decode cX12_termOf 70 = .ok (.iinc 3 (-1), 3) := by decide +kernel
theorem dX12_termOf_73 : decode cX12_termOf 73 = .ok (.aload_n 0, 1) := by decide +kernel
theorem dX12_termOf_74 : decode cX12_termOf 74 = .ok (.getfield 134, 3) := by decide +kernel
theorem dX12_termOf_77 : decode cX12_termOf 77 = .ok (.iload_n 3, 1) := by decide +kernel
theorem dX12_termOf_78 : decode cX12_termOf 78 = .ok (.iconst 1, 1) := by decide +kernel
theorem dX12_termOf_79 : decode cX12_termOf 79 = .ok (.isub, 1) := by decide +kernel
theorem dX12_termOf_80 : decode cX12_termOf 80 = .ok (.iaload, 1) := by decide +kernel
theorem dX12_termOf_81 : decode cX12_termOf 81 = .ok (.istore 6, 2) := by decide +kernel
theorem dX12_termOf_83 : decode cX12_termOf 83 = .ok (.aload_n 0, 1) := by decide +kernel
theorem dX12_termOf_84 : decode cX12_termOf 84 = .ok (.getfield 134, 3) := by decide +kernel
theorem dX12_termOf_87 : decode cX12_termOf 87 = .ok (.iload_n 3, 1) := by decide +kernel
theorem dX12_termOf_88 : decode cX12_termOf 88 = .ok (.iaload, 1) := by decide +kernel
theorem dX12_termOf_89 : decode cX12_termOf 89 = .ok (.istore 7, 2) := by decide +kernel
theorem dX12_termOf_91 : decode cX12_termOf 91 = .ok (.iload 5, 2) := by decide +kernel
theorem dX12_termOf_93 : decode cX12_termOf 93 = .ok (.iconst 5, 1) := by decide +kernel
theorem dX12_termOf_94 : decode cX12_termOf 94 = .ok (.if_icmp .ne 15, 3) := by decide +kernel
theorem dX12_termOf_97 : decode cX12_termOf 97 = .ok (.iload 7, 2) := by decide +kernel
theorem dX12_termOf_99 : decode cX12_termOf 99 = .ok (.ifCond .ne 10, 3) := by decide +kernel
theorem dX12_termOf_102 : decode cX12_termOf 102 = .ok (.aload_n 0, 1) := by decide +kernel
theorem dX12_termOf_103 : decode cX12_termOf 103 = .ok (.iconst 1, 1) := by decide +kernel
theorem dX12_termOf_104 : decode cX12_termOf 104 = .ok (.putfield 367, 3) := by decide +kernel
theorem dX12_termOf_107 : decode cX12_termOf 107 = .ok (.iconst 0, 1) := by decide +kernel
theorem dX12_termOf_108 : decode cX12_termOf 108 = .ok (.ireturn, 1) := by decide +kernel
theorem dX12_termOf_109 : decode cX12_termOf 109 = .ok (.aload_n 0, 1) := by decide +kernel
theorem dX12_termOf_110 : decode cX12_termOf 110 = .ok (.getfield 134, 3) := by decide +kernel
theorem dX12_termOf_113 : decode cX12_termOf 113 = .ok (.iload_n 3, 1) := by decide +kernel
theorem dX12_termOf_114 : decode cX12_termOf 114 = .ok (.iconst 1, 1) := by decide +kernel
theorem dX12_termOf_115 : decode cX12_termOf 115 = .ok (.isub, 1) := by decide +kernel
theorem dX12_termOf_116 : decode cX12_termOf 116 = .ok (.iload 5, 2) := by decide +kernel
theorem dX12_termOf_118 : decode cX12_termOf 118 = .ok (.iconst 2, 1) := by decide +kernel
theorem dX12_termOf_119 : decode cX12_termOf 119 = .ok (.if_icmp .ne 11, 3) := by decide +kernel
theorem dX12_termOf_122 : decode cX12_termOf 122 = .ok (.iload 6, 2) := by decide +kernel
theorem dX12_termOf_124 : decode cX12_termOf 124 = .ok (.iload 7, 2) := by decide +kernel
theorem dX12_termOf_126 : decode cX12_termOf 126 = .ok (.iadd, 1) := by decide +kernel
theorem dX12_termOf_127 : decode cX12_termOf 127 = .ok (.goto 36, 3) := by decide +kernel
theorem dX12_termOf_130 : decode cX12_termOf 130 = .ok (.iload 5, 2) := by decide +kernel
theorem dX12_termOf_132 : decode cX12_termOf 132 = .ok (.iconst 3, 1) := by decide +kernel
theorem dX12_termOf_133 : decode cX12_termOf 133 = .ok (.if_icmp .ne 11, 3) := by decide +kernel
theorem dX12_termOf_136 : decode cX12_termOf 136 = .ok (.iload 6, 2) := by decide +kernel
theorem dX12_termOf_138 : decode cX12_termOf 138 = .ok (.iload 7, 2) := by decide +kernel
theorem dX12_termOf_140 : decode cX12_termOf 140 = .ok (.isub, 1) := by decide +kernel
theorem dX12_termOf_141 : decode cX12_termOf 141 = .ok (.goto 22, 3) := by decide +kernel
theorem dX12_termOf_144 : decode cX12_termOf 144 = .ok (.iload 5, 2) := by decide +kernel
theorem dX12_termOf_146 : decode cX12_termOf 146 = .ok (.iconst 4, 1) := by decide +kernel
theorem dX12_termOf_147 : decode cX12_termOf 147 = .ok (.if_icmp .ne 11, 3) := by decide +kernel
theorem dX12_termOf_150 : decode cX12_termOf 150 = .ok (.iload 6, 2) := by decide +kernel
theorem dX12_termOf_152 : decode cX12_termOf 152 = .ok (.iload 7, 2) := by decide +kernel
theorem dX12_termOf_154 : decode cX12_termOf 154 = .ok (.imul, 1) := by decide +kernel
theorem dX12_termOf_155 : decode cX12_termOf 155 = .ok (.goto 8, 3) := by decide +kernel
theorem dX12_termOf_158 : decode cX12_termOf 158 = .ok (.iload 6, 2) := by decide +kernel
theorem dX12_termOf_160 : decode cX12_termOf 160 = .ok (.iload 7, 2) := by decide +kernel
theorem dX12_termOf_162 : decode cX12_termOf 162 = .ok (.idiv, 1) := by decide +kernel
theorem dX12_termOf_163 : decode cX12_termOf 163 = .ok (.iastore, 1) := by decide +kernel
theorem dX12_termOf_164 : decode cX12_termOf 164 = .ok (.iinc 4 1, 3) := by decide +kernel
theorem dX12_termOf_167 : decode cX12_termOf 167 = .ok (.goto (-157), 3) := by decide +kernel
theorem dX12_termOf_170 : decode cX12_termOf 170 = .ok (.aload_n 0, 1) := by decide +kernel
theorem dX12_termOf_171 : decode cX12_termOf 171 = .ok (.getfield 134, 3) := by decide +kernel
theorem dX12_termOf_174 : decode cX12_termOf 174 = .ok (.iconst 0, 1) := by decide +kernel
theorem dX12_termOf_175 : decode cX12_termOf 175 = .ok (.iaload, 1) := by decide +kernel
theorem dX12_termOf_176 : decode cX12_termOf 176 = .ok (.ireturn, 1) := by decide +kernel
theorem dX12_isTrue_0 : decode cX12_isTrue 0 = .ok (.aload_n 0, 1) := by decide +kernel
theorem dX12_isTrue_1 : decode cX12_isTrue 1 = .ok (.getfield 104, 3) := by decide +kernel
theorem dX12_isTrue_4 : decode cX12_isTrue 4 = .ok (.iload_n 1, 1) := by decide +kernel
theorem dX12_isTrue_5 : decode cX12_isTrue 5 = .ok (.iaload, 1) := by decide +kernel
theorem dX12_isTrue_6 : decode cX12_isTrue 6 = .ok (.iconst 4, 1) := by decide +kernel
theorem dX12_isTrue_7 : decode cX12_isTrue 7 = .ok (.if_icmp .ne 40, 3) := by decide +kernel
theorem dX12_isTrue_10 : decode cX12_isTrue 10 = .ok (.aload_n 0, 1) := by decide +kernel
theorem dX12_isTrue_11 : decode cX12_isTrue 11 = .ok (.getfield 371, 3) := by decide +kernel
theorem dX12_isTrue_14 : decode cX12_isTrue 14 = .ok (.aload_n 0, 1) := by decide +kernel
theorem dX12_isTrue_15 : decode cX12_isTrue 15 = .ok (.getfield 113, 3) := by decide +kernel
theorem dX12_isTrue_18 : decode cX12_isTrue 18 = .ok (.iload_n 1, 1) := by decide +kernel
theorem dX12_isTrue_19 : decode cX12_isTrue 19 = .ok (.iaload, 1) := by decide +kernel
theorem dX12_isTrue_20 : decode cX12_isTrue 20 = .ok (.ishr, 1) := by decide +kernel
theorem dX12_isTrue_21 : decode cX12_isTrue 21 = .ok (.iconst 1, 1) := by decide +kernel
theorem dX12_isTrue_22 : decode cX12_isTrue 22 = .ok (.iand, 1) := by decide +kernel
theorem dX12_isTrue_23 : decode cX12_isTrue 23 = .ok (.iconst 1, 1) := by decide +kernel
theorem dX12_isTrue_24 : decode cX12_isTrue 24 = .ok (.if_icmp .ne 7, 3) := by decide +kernel
theorem dX12_isTrue_27 : decode cX12_isTrue 27 = .ok (.iconst 1, 1) := by decide +kernel
theorem dX12_isTrue_28 : decode cX12_isTrue 28 = .ok (.goto 4, 3) := by decide +kernel
theorem dX12_isTrue_31 : decode cX12_isTrue 31 = .ok (.iconst 0, 1) := by decide +kernel
theorem dX12_isTrue_32 : decode cX12_isTrue 32 = .ok (.aload_n 0, 1) := by decide +kernel
theorem dX12_isTrue_33 : decode cX12_isTrue 33 = .ok (.getfield 107, 3) := by decide +kernel
theorem dX12_isTrue_36 : decode cX12_isTrue 36 = .ok (.iload_n 1, 1) := by decide +kernel
theorem dX12_isTrue_37 : decode cX12_isTrue 37 = .ok (.baload, 1) := by decide +kernel
theorem dX12_isTrue_38 : decode cX12_isTrue 38 = .ok (.if_icmp .eq 7, 3) := by decide +kernel
theorem dX12_isTrue_41 : decode cX12_isTrue 41 = .ok (.iconst 1, 1) := by decide +kernel
theorem dX12_isTrue_42 : decode cX12_isTrue 42 = .ok (.goto 4, 3) := by decide +kernel
theorem dX12_isTrue_45 : decode cX12_isTrue 45 = .ok (.iconst 0, 1) := by decide +kernel
theorem dX12_isTrue_46 : decode cX12_isTrue 46 = .ok (.ireturn, 1) := by decide +kernel
theorem dX12_isTrue_47 : decode cX12_isTrue 47 = .ok (.aload_n 0, 1) := by decide +kernel
theorem dX12_isTrue_48 : decode cX12_isTrue 48 = .ok (.getfield 104, 3) := by decide +kernel
theorem dX12_isTrue_51 : decode cX12_isTrue 51 = .ok (.iload_n 1, 1) := by decide +kernel
theorem dX12_isTrue_52 : decode cX12_isTrue 52 = .ok (.iaload, 1) := by decide +kernel
theorem dX12_isTrue_53 : decode cX12_isTrue 53 = .ok (.iconst 5, 1) := by decide +kernel
theorem dX12_isTrue_54 : decode cX12_isTrue 54 = .ok (.if_icmp .ne 40, 3) := by decide +kernel
theorem dX12_isTrue_57 : decode cX12_isTrue 57 = .ok (.aload_n 0, 1) := by decide +kernel
theorem dX12_isTrue_58 : decode cX12_isTrue 58 = .ok (.getfield 374, 3) := by decide +kernel
theorem dX12_isTrue_61 : decode cX12_isTrue 61 = .ok (.aload_n 0, 1) := by decide +kernel
theorem dX12_isTrue_62 : decode cX12_isTrue 62 = .ok (.getfield 113, 3) := by decide +kernel
theorem dX12_isTrue_65 : decode cX12_isTrue 65 = .ok (.iload_n 1, 1) := by decide +kernel
theorem dX12_isTrue_66 : decode cX12_isTrue 66 = .ok (.iaload, 1) := by decide +kernel
theorem dX12_isTrue_67 : decode cX12_isTrue 67 = .ok (.ishr, 1) := by decide +kernel
theorem dX12_isTrue_68 : decode cX12_isTrue 68 = .ok (.iconst 1, 1) := by decide +kernel
theorem dX12_isTrue_69 : decode cX12_isTrue 69 = .ok (.iand, 1) := by decide +kernel
theorem dX12_isTrue_70 : decode cX12_isTrue 70 = .ok (.iconst 1, 1) := by decide +kernel
theorem dX12_isTrue_71 : decode cX12_isTrue 71 = .ok (.if_icmp .ne 7, 3) := by decide +kernel
theorem dX12_isTrue_74 : decode cX12_isTrue 74 = .ok (.iconst 1, 1) := by decide +kernel
theorem dX12_isTrue_75 : decode cX12_isTrue 75 = .ok (.goto 4, 3) := by decide +kernel
theorem dX12_isTrue_78 : decode cX12_isTrue 78 = .ok (.iconst 0, 1) := by decide +kernel
theorem dX12_isTrue_79 : decode cX12_isTrue 79 = .ok (.aload_n 0, 1) := by decide +kernel
theorem dX12_isTrue_80 : decode cX12_isTrue 80 = .ok (.getfield 107, 3) := by decide +kernel
theorem dX12_isTrue_83 : decode cX12_isTrue 83 = .ok (.iload_n 1, 1) := by decide +kernel
theorem dX12_isTrue_84 : decode cX12_isTrue 84 = .ok (.baload, 1) := by decide +kernel
theorem dX12_isTrue_85 : decode cX12_isTrue 85 = .ok (.if_icmp .eq 7, 3) := by decide +kernel
theorem dX12_isTrue_88 : decode cX12_isTrue 88 = .ok (.iconst 1, 1) := by decide +kernel
theorem dX12_isTrue_89 : decode cX12_isTrue 89 = .ok (.goto 4, 3) := by decide +kernel
theorem dX12_isTrue_92 : decode cX12_isTrue 92 = .ok (.iconst 0, 1) := by decide +kernel
theorem dX12_isTrue_93 : decode cX12_isTrue 93 = .ok (.ireturn, 1) := by decide +kernel
theorem dX12_isTrue_94 : decode cX12_isTrue 94 = .ok (.aload_n 0, 1) := by decide +kernel
theorem dX12_isTrue_95 : decode cX12_isTrue 95 = .ok (.aload_n 0, 1) := by decide +kernel
theorem dX12_isTrue_96 : decode cX12_isTrue 96 = .ok (.getfield 113, 3) := by decide +kernel
theorem dX12_isTrue_99 : decode cX12_isTrue 99 = .ok (.iload_n 1, 1) := by decide +kernel
theorem dX12_isTrue_100 : decode cX12_isTrue 100 = .ok (.iaload, 1) := by decide +kernel
theorem dX12_isTrue_101 : decode cX12_isTrue 101 = .ok (.aload_n 0, 1) := by decide +kernel
theorem dX12_isTrue_102 : decode cX12_isTrue 102 = .ok (.getfield 116, 3) := by decide +kernel
theorem dX12_isTrue_105 : decode cX12_isTrue 105 = .ok (.iload_n 1, 1) := by decide +kernel
theorem dX12_isTrue_106 : decode cX12_isTrue 106 = .ok (.iaload, 1) := by decide +kernel
theorem dX12_isTrue_107 : decode cX12_isTrue 107 = .ok (.invokevirtual 377, 3) := by decide +kernel
theorem dX12_isTrue_110 : decode cX12_isTrue 110 = .ok (.istore_n 2, 1) := by decide +kernel
theorem dX12_isTrue_111 : decode cX12_isTrue 111 = .ok (.aload_n 0, 1) := by decide +kernel
theorem dX12_isTrue_112 : decode cX12_isTrue 112 = .ok (.getfield 367, 3) := by decide +kernel
theorem dX12_isTrue_115 : decode cX12_isTrue 115 = .ok (.istore_n 3, 1) := by decide +kernel
theorem dX12_isTrue_116 : decode cX12_isTrue 116 = .ok (.aload_n 0, 1) := by decide +kernel
theorem dX12_isTrue_117 : decode cX12_isTrue 117 = .ok (.aload_n 0, 1) := by decide +kernel
theorem dX12_isTrue_118 : decode cX12_isTrue 118 = .ok (.getfield 116, 3) := by decide +kernel
theorem dX12_isTrue_121 : decode cX12_isTrue 121 = .ok (.iload_n 1, 1) := by decide +kernel
theorem dX12_isTrue_122 : decode cX12_isTrue 122 = .ok (.iaload, 1) := by decide +kernel
theorem dX12_isTrue_123 : decode cX12_isTrue 123 = .ok (.aload_n 0, 1) := by decide +kernel
theorem dX12_isTrue_124 : decode cX12_isTrue 124 = .ok (.getfield 119, 3) := by decide +kernel
theorem dX12_isTrue_127 : decode cX12_isTrue 127 = .ok (.iload_n 1, 1) := by decide +kernel
theorem dX12_isTrue_128 : decode cX12_isTrue 128 = .ok (.iaload, 1) := by decide +kernel
theorem dX12_isTrue_129 : decode cX12_isTrue 129 = .ok (.invokevirtual 377, 3) := by decide +kernel
theorem dX12_isTrue_132 : decode cX12_isTrue 132 = .ok (.istore 4, 2) := by decide +kernel
theorem dX12_isTrue_134 : decode cX12_isTrue 134 = .ok (.iload_n 3, 1) := by decide +kernel
theorem dX12_isTrue_135 : decode cX12_isTrue 135 = .ok (.ifCond .ne 10, 3) := by decide +kernel
theorem dX12_isTrue_138 : decode cX12_isTrue 138 = .ok (.aload_n 0, 1) := by decide +kernel
theorem dX12_isTrue_139 : decode cX12_isTrue 139 = .ok (.getfield 367, 3) := by decide +kernel
theorem dX12_isTrue_142 : decode cX12_isTrue 142 = .ok (.ifCond .eq 7, 3) := by decide +kernel
theorem dX12_isTrue_145 : decode cX12_isTrue 145 = .ok (.iconst 1, 1) := by decide +kernel
theorem dX12_isTrue_146 : decode cX12_isTrue 146 = .ok (.goto 4, 3) := by decide +kernel
theorem dX12_isTrue_149 : decode cX12_isTrue 149 = .ok (.iconst 0, 1) := by decide +kernel
theorem dX12_isTrue_150 : decode cX12_isTrue 150 = .ok (.istore_n 3, 1) := by decide +kernel
theorem dX12_isTrue_151 : decode cX12_isTrue 151 = .ok (.aload_n 0, 1) := by decide +kernel
theorem dX12_isTrue_152 : decode cX12_isTrue 152 = .ok (.getfield 104, 3) := by decide +kernel
theorem dX12_isTrue_155 : decode cX12_isTrue 155 = .ok (.iload_n 1, 1) := by decide +kernel
theorem dX12_isTrue_156 : decode cX12_isTrue 156 = .ok (.iaload, 1) := by decide +kernel
theorem dX12_isTrue_157 : decode cX12_isTrue 157 = .ok (.ifCond .ne 17, 3) := by decide +kernel
theorem dX12_isTrue_160 : decode cX12_isTrue 160 = .ok (.iload_n 2, 1) := by decide +kernel
theorem dX12_isTrue_161 : decode cX12_isTrue 161 = .ok (.iload 4, 2) := by decide +kernel
theorem dX12_isTrue_163 : decode cX12_isTrue 163 = .ok (.if_icmp .ne 7, 3) := by decide +kernel
theorem dX12_isTrue_166 : decode cX12_isTrue 166 = .ok (.iconst 1, 1) := by decide +kernel
theorem dX12_isTrue_167 : decode cX12_isTrue 167 = .ok (.goto 66, 3) := by decide +kernel
theorem dX12_isTrue_170 : decode cX12_isTrue 170 = .ok (.iconst 0, 1) := by decide +kernel
theorem dX12_isTrue_171 : decode cX12_isTrue 171 = .ok (.goto 62, 3) := by decide +kernel
theorem dX12_isTrue_174 : decode cX12_isTrue 174 = .ok (.aload_n 0, 1) := by decide +kernel
theorem dX12_isTrue_175 : decode cX12_isTrue 175 = .ok (.getfield 104, 3) := by decide +kernel
theorem dX12_isTrue_178 : decode cX12_isTrue 178 = .ok (.iload_n 1, 1) := by decide +kernel
theorem dX12_isTrue_179 : decode cX12_isTrue 179 = .ok (.iaload, 1) := by decide +kernel
theorem dX12_isTrue_180 : decode cX12_isTrue 180 = .ok (.iconst 1, 1) := by decide +kernel
theorem dX12_isTrue_181 : decode cX12_isTrue 181 = .ok (.if_icmp .ne 17, 3) := by decide +kernel
theorem dX12_isTrue_184 : decode cX12_isTrue 184 = .ok (.iload_n 2, 1) := by decide +kernel
theorem dX12_isTrue_185 : decode cX12_isTrue 185 = .ok (.iload 4, 2) := by decide +kernel
theorem dX12_isTrue_187 : decode cX12_isTrue 187 = .ok (.if_icmp .eq 7, 3) := by decide +kernel
theorem dX12_isTrue_190 : decode cX12_isTrue 190 = .ok (.iconst 1, 1) := by decide +kernel
theorem dX12_isTrue_191 : decode cX12_isTrue 191 = .ok (.goto 42, 3) := by decide +kernel
theorem dX12_isTrue_194 : decode cX12_isTrue 194 = .ok (.iconst 0, 1) := by decide +kernel
theorem dX12_isTrue_195 : decode cX12_isTrue 195 = .ok (.goto 38, 3) := by decide +kernel
theorem dX12_isTrue_198 : decode cX12_isTrue 198 = .ok (.aload_n 0, 1) := by decide +kernel
theorem dX12_isTrue_199 : decode cX12_isTrue 199 = .ok (.getfield 104, 3) := by decide +kernel
theorem dX12_isTrue_202 : decode cX12_isTrue 202 = .ok (.iload_n 1, 1) := by decide +kernel
theorem dX12_isTrue_203 : decode cX12_isTrue 203 = .ok (.iaload, 1) := by decide +kernel
theorem dX12_isTrue_204 : decode cX12_isTrue 204 = .ok (.iconst 2, 1) := by decide +kernel
theorem dX12_isTrue_205 : decode cX12_isTrue 205 = .ok (.if_icmp .ne 17, 3) := by decide +kernel
theorem dX12_isTrue_208 : decode cX12_isTrue 208 = .ok (.iload_n 2, 1) := by decide +kernel
theorem dX12_isTrue_209 : decode cX12_isTrue 209 = .ok (.iload 4, 2) := by decide +kernel
theorem dX12_isTrue_211 : decode cX12_isTrue 211 = .ok (.if_icmp .ge 7, 3) := by decide +kernel
theorem dX12_isTrue_214 : decode cX12_isTrue 214 = .ok (.iconst 1, 1) := by decide +kernel
theorem dX12_isTrue_215 : decode cX12_isTrue 215 = .ok (.goto 18, 3) := by decide +kernel
theorem dX12_isTrue_218 : decode cX12_isTrue 218 = .ok (.iconst 0, 1) := by decide +kernel
theorem dX12_isTrue_219 : decode cX12_isTrue 219 = .ok (.goto 14, 3) := by decide +kernel
theorem dX12_isTrue_222 : decode cX12_isTrue 222 = .ok (.iload_n 2, 1) := by decide +kernel
theorem dX12_isTrue_223 : decode cX12_isTrue 223 = .ok (.iload 4, 2) := by decide +kernel
theorem dX12_isTrue_225 : decode cX12_isTrue 225 = .ok (.if_icmp .gt 7, 3) := by decide +kernel
theorem dX12_isTrue_228 : decode cX12_isTrue 228 = .ok (.iconst 1, 1) := by decide +kernel
theorem dX12_isTrue_229 : decode cX12_isTrue 229 = .ok (.goto 4, 3) := by decide +kernel
theorem dX12_isTrue_232 : decode cX12_isTrue 232 = .ok (.iconst 0, 1) := by decide +kernel
theorem dX12_isTrue_233 : decode cX12_isTrue 233 = .ok (.istore 5, 2) := by decide +kernel
theorem dX12_isTrue_235 : decode cX12_isTrue 235 = .ok (.iload 5, 2) := by decide +kernel
theorem dX12_isTrue_237 : decode cX12_isTrue 237 = .ok (.ifCond .eq 11, 3) := by decide +kernel
theorem dX12_isTrue_240 : decode cX12_isTrue 240 = .ok (.iload_n 3, 1) := by decide +kernel
theorem dX12_isTrue_241 : decode cX12_isTrue 241 = .ok (.ifCond .ne 7, 3) := by decide +kernel
theorem dX12_isTrue_244 : decode cX12_isTrue 244 = .ok (.iconst 1, 1) := by decide +kernel
theorem dX12_isTrue_245 : decode cX12_isTrue 245 = .ok (.goto 4, 3) := by decide +kernel
theorem dX12_isTrue_248 : decode cX12_isTrue 248 = .ok (.iconst 0, 1) := by decide +kernel
theorem dX12_isTrue_249 : decode cX12_isTrue 249 = .ok (.aload_n 0, 1) := by decide +kernel
theorem dX12_isTrue_250 : decode cX12_isTrue 250 = .ok (.getfield 107, 3) := by decide +kernel
theorem dX12_isTrue_253 : decode cX12_isTrue 253 = .ok (.iload_n 1, 1) := by decide +kernel
theorem dX12_isTrue_254 : decode cX12_isTrue 254 = .ok (.baload, 1) := by decide +kernel
theorem dX12_isTrue_255 : decode cX12_isTrue 255 = .ok (.if_icmp .eq 7, 3) := by decide +kernel
theorem dX12_isTrue_258 : decode cX12_isTrue 258 = .ok (.iconst 1, 1) := by decide +kernel
theorem dX12_isTrue_259 : decode cX12_isTrue 259 = .ok (.goto 4, 3) := by decide +kernel
theorem dX12_isTrue_262 : decode cX12_isTrue 262 = .ok (.iconst 0, 1) := by decide +kernel
theorem dX12_isTrue_263 : decode cX12_isTrue 263 = .ok (.ireturn, 1) := by decide +kernel
theorem dX12_holdsRule_0 : decode cX12_holdsRule 0 = .ok (.iconst 0, 1) := by decide +kernel
theorem dX12_holdsRule_1 : decode cX12_holdsRule 1 = .ok (.istore_n 2, 1) := by decide +kernel
theorem dX12_holdsRule_2 : decode cX12_holdsRule 2 = .ok (.aload_n 0, 1) := by decide +kernel
theorem dX12_holdsRule_3 : decode cX12_holdsRule 3 = .ok (.getfield 85, 3) := by decide +kernel
theorem dX12_holdsRule_6 : decode cX12_holdsRule 6 = .ok (.iload_n 1, 1) := by decide +kernel
theorem dX12_holdsRule_7 : decode cX12_holdsRule 7 = .ok (.iaload, 1) := by decide +kernel
theorem dX12_holdsRule_8 : decode cX12_holdsRule 8 = .ok (.istore_n 3, 1) := by decide +kernel
theorem dX12_holdsRule_9 : decode cX12_holdsRule 9 = .ok (.iload_n 3, 1) := by decide +kernel
theorem dX12_holdsRule_10 : decode cX12_holdsRule 10 = .ok (.aload_n 0, 1) := by decide +kernel
theorem dX12_holdsRule_11 : decode cX12_holdsRule 11 = .ok (.getfield 88, 3) := by decide +kernel
theorem dX12_holdsRule_14 : decode cX12_holdsRule 14 = .ok (.iload_n 1, 1) := by decide +kernel
theorem dX12_holdsRule_15 : decode cX12_holdsRule 15 = .ok (.iaload, 1) := by decide +kernel
theorem dX12_holdsRule_16 : decode cX12_holdsRule 16 = .ok (.if_icmp .ge 53, 3) := by decide +kernel
theorem dX12_holdsRule_19 : decode cX12_holdsRule 19 = .ok (.aload_n 0, 1) := by decide +kernel
theorem dX12_holdsRule_20 : decode cX12_holdsRule 20 = .ok (.getfield 110, 3) := by decide +kernel
theorem dX12_holdsRule_23 : decode cX12_holdsRule 23 = .ok (.iload_n 3, 1) := by decide +kernel
theorem dX12_holdsRule_24 : decode cX12_holdsRule 24 = .ok (.baload, 1) := by decide +kernel
theorem dX12_holdsRule_25 : decode cX12_holdsRule 25 = .ok (.ifCond .eq 9, 3) := by decide +kernel
theorem dX12_holdsRule_28 : decode cX12_holdsRule 28 = .ok (.iload_n 2, 1) := by decide +kernel
theorem dX12_holdsRule_29 : decode cX12_holdsRule 29 = .ok (.ifCond .eq 5, 3) := by decide +kernel
theorem dX12_holdsRule_32 : decode cX12_holdsRule 32 = .ok (.iconst 1, 1) := by decide +kernel
theorem dX12_holdsRule_33 : decode cX12_holdsRule 33 = .ok (.ireturn, 1) := by decide +kernel
theorem dX12_holdsRule_34 : decode cX12_holdsRule 34 = .ok (.aload_n 0, 1) := by decide +kernel
theorem dX12_holdsRule_35 : decode cX12_holdsRule 35 = .ok (.getfield 110, 3) := by decide +kernel
theorem dX12_holdsRule_38 : decode cX12_holdsRule 38 = .ok (.iload_n 3, 1) := by decide +kernel
theorem dX12_holdsRule_39 : decode cX12_holdsRule 39 = .ok (.baload, 1) := by decide +kernel
theorem dX12_holdsRule_40 : decode cX12_holdsRule 40 = .ok (.ifCond .eq 5, 3) := by decide +kernel
theorem dX12_holdsRule_43 : decode cX12_holdsRule 43 = .ok (.iconst 1, 1) := by decide +kernel
theorem dX12_holdsRule_44 : decode cX12_holdsRule 44 = .ok (.istore_n 2, 1) := by decide +kernel
theorem dX12_holdsRule_45 : decode cX12_holdsRule 45 = .ok (.iload_n 2, 1) := by decide +kernel
theorem dX12_holdsRule_46 : decode cX12_holdsRule 46 = .ok (.ifCond .eq 15, 3) := by decide +kernel
theorem dX12_holdsRule_49 : decode cX12_holdsRule 49 = .ok (.aload_n 0, 1) := by decide +kernel
theorem dX12_holdsRule_50 : decode cX12_holdsRule 50 = .ok (.iload_n 3, 1) := by decide +kernel
theorem dX12_holdsRule_51 : decode cX12_holdsRule 51 = .ok (.invokevirtual 380, 3) := by decide +kernel
theorem dX12_holdsRule_54 : decode cX12_holdsRule 54 = .ok (.ifCond .eq 7, 3) := by decide +kernel
theorem dX12_holdsRule_57 : decode cX12_holdsRule 57 = .ok (.iconst 1, 1) := by decide +kernel
theorem dX12_holdsRule_58 : decode cX12_holdsRule 58 = .ok (.goto 4, 3) := by decide +kernel
theorem dX12_holdsRule_61 : decode cX12_holdsRule 61 = .ok (.iconst 0, 1) := by decide +kernel
theorem dX12_holdsRule_62 : decode cX12_holdsRule 62 = .ok (.istore_n 2, 1) := by decide +kernel
theorem dX12_holdsRule_63 : decode cX12_holdsRule 63 = .ok (.iinc 3 1, 3) := by decide +kernel
theorem dX12_holdsRule_66 : decode cX12_holdsRule 66 = .ok (.goto (-57), 3) := by decide +kernel
theorem dX12_holdsRule_69 : decode cX12_holdsRule 69 = .ok (.iload_n 2, 1) := by decide +kernel
theorem dX12_holdsRule_70 : decode cX12_holdsRule 70 = .ok (.ireturn, 1) := by decide +kernel
theorem dX12_in_0 : decode cX12_in 0 = .ok (.iload_n 0, 1) := by decide +kernel
theorem dX12_in_1 : decode cX12_in 1 = .ok (.iload_n 1, 1) := by decide +kernel
theorem dX12_in_2 : decode cX12_in 2 = .ok (.if_icmp .lt 12, 3) := by decide +kernel
theorem dX12_in_5 : decode cX12_in 5 = .ok (.iload_n 0, 1) := by decide +kernel
theorem dX12_in_6 : decode cX12_in 6 = .ok (.iload_n 2, 1) := by decide +kernel
theorem dX12_in_7 : decode cX12_in 7 = .ok (.if_icmp .gt 7, 3) := by decide +kernel
theorem dX12_in_10 : decode cX12_in 10 = .ok (.iconst 1, 1) := by decide +kernel
theorem dX12_in_11 : decode cX12_in 11 = .ok (.goto 4, 3) := by decide +kernel
theorem dX12_in_14 : decode cX12_in 14 = .ok (.iconst 0, 1) := by decide +kernel
theorem dX12_in_15 : decode cX12_in 15 = .ok (.ireturn, 1) := by decide +kernel
theorem dX12_held_0 : decode cX12_held 0 = .ok (.iload_n 0, 1) := by decide +kernel
theorem dX12_held_1 : decode cX12_held 1 = .ok (.ifCond .ge 7, 3) := by decide +kernel
theorem dX12_held_4 : decode cX12_held 4 = .ok (.iconst 0, 1) := by decide +kernel
theorem dX12_held_5 : decode cX12_held 5 = .ok (.goto 13, 3) := by decide +kernel
theorem dX12_held_8 : decode cX12_held 8 = .ok (.iload_n 0, 1) := by decide +kernel
theorem dX12_held_9 : decode cX12_held 9 = .ok (.iload_n 1, 1) := by decide +kernel
theorem dX12_held_10 : decode cX12_held 10 = .ok (.if_icmp .le 7, 3) := by decide +kernel
theorem dX12_held_13 : decode cX12_held 13 = .ok (.iload_n 1, 1) := by decide +kernel
theorem dX12_held_14 : decode cX12_held 14 = .ok (.goto 4, 3) := by decide +kernel
theorem dX12_held_17 : decode cX12_held 17 = .ok (.iload_n 0, 1) := by decide +kernel
theorem dX12_held_18 : decode cX12_held 18 = .ok (.ireturn, 1) := by decide +kernel
theorem dX12_bits_0 : decode cX12_bits 0 = .ok (.iconst 0, 1) := by decide +kernel
theorem dX12_bits_1 : decode cX12_bits 1 = .ok (.istore_n 1, 1) := by decide +kernel
theorem dX12_bits_2 : decode cX12_bits 2 = .ok (.iconst 0, 1) := by decide +kernel
theorem dX12_bits_3 : decode cX12_bits 3 = .ok (.istore_n 2, 1) := by decide +kernel
theorem dX12_bits_4 : decode cX12_bits 4 = .ok (.iload_n 2, 1) := by decide +kernel
theorem dX12_bits_5 : decode cX12_bits 5 = .ok (.bipush 10, 2) := by decide +kernel
theorem dX12_bits_7 : decode cX12_bits 7 = .ok (.if_icmp .ge 17, 3) := by decide +kernel
theorem dX12_bits_10 : decode cX12_bits 10 = .ok (.iload_n 1, 1) := by decide +kernel
theorem dX12_bits_11 : decode cX12_bits 11 = .ok (.iload_n 0, 1) := by decide +kernel
theorem dX12_bits_12 : decode cX12_bits 12 = .ok (.iload_n 2, 1) := by decide +kernel
theorem dX12_bits_13 : decode cX12_bits 13 = .ok (.ishr, 1) := by decide +kernel
theorem dX12_bits_14 : decode cX12_bits 14 = .ok (.iconst 1, 1) := by decide +kernel
theorem dX12_bits_15 : decode cX12_bits 15 = .ok (.iand, 1) := by decide +kernel
theorem dX12_bits_16 : decode cX12_bits 16 = .ok (.iadd, 1) := by decide +kernel
theorem dX12_bits_17 : decode cX12_bits 17 = .ok (.istore_n 1, 1) := by decide +kernel
theorem dX12_bits_18 : decode cX12_bits 18 = .ok (.iinc 2 1, 3) := by decide +kernel
theorem dX12_bits_21 : decode cX12_bits 21 = .ok (.goto (-17), 3) := by decide +kernel
theorem dX12_bits_24 : decode cX12_bits 24 = .ok (.iload_n 1, 1) := by decide +kernel
theorem dX12_bits_25 : decode cX12_bits 25 = .ok (.ireturn, 1) := by decide +kernel
theorem dX12_isPerson_0 : decode cX12_isPerson 0 = .ok (.iload_n 1, 1) := by decide +kernel
theorem dX12_isPerson_1 : decode cX12_isPerson 1 = .ok (.iconst 0, 1) := by decide +kernel
theorem dX12_isPerson_2 : decode cX12_isPerson 2 = .ok (.aload_n 0, 1) := by decide +kernel
theorem dX12_isPerson_3 : decode cX12_isPerson 3 = .ok (.getfield 49, 3) := by decide +kernel
theorem dX12_isPerson_6 : decode cX12_isPerson 6 = .ok (.aload_n 0, 1) := by decide +kernel
theorem dX12_isPerson_7 : decode cX12_isPerson 7 = .ok (.getfield 284, 3) := by decide +kernel
theorem dX12_isPerson_10 : decode cX12_isPerson 10 = .ok (.iaload, 1) := by decide +kernel
theorem dX12_isPerson_11 : decode cX12_isPerson 11 = .ok (.iconst 1, 1) := by decide +kernel
theorem dX12_isPerson_12 : decode cX12_isPerson 12 = .ok (.isub, 1) := by decide +kernel
theorem dX12_isPerson_13 : decode cX12_isPerson 13 = .ok (.invokestatic 383, 3) := by decide +kernel
theorem dX12_isPerson_16 : decode cX12_isPerson 16 = .ok (.ireturn, 1) := by decide +kernel
theorem dX12_hasLetter_0 : decode cX12_hasLetter 0 = .ok (.iload_n 1, 1) := by decide +kernel
theorem dX12_hasLetter_1 : decode cX12_hasLetter 1 = .ok (.iconst 0, 1) := by decide +kernel
theorem dX12_hasLetter_2 : decode cX12_hasLetter 2 = .ok (.aload_n 0, 1) := by decide +kernel
theorem dX12_hasLetter_3 : decode cX12_hasLetter 3 = .ok (.getfield 67, 3) := by decide +kernel
theorem dX12_hasLetter_6 : decode cX12_hasLetter 6 = .ok (.aload_n 0, 1) := by decide +kernel
theorem dX12_hasLetter_7 : decode cX12_hasLetter 7 = .ok (.getfield 284, 3) := by decide +kernel
theorem dX12_hasLetter_10 : decode cX12_hasLetter 10 = .ok (.iaload, 1) := by decide +kernel
theorem dX12_hasLetter_11 : decode cX12_hasLetter 11 = .ok (.iconst 1, 1) := by decide +kernel
theorem dX12_hasLetter_12 : decode cX12_hasLetter 12 = .ok (.isub, 1) := by decide +kernel
theorem dX12_hasLetter_13 : decode cX12_hasLetter 13 = .ok (.invokestatic 383, 3) := by decide +kernel
theorem dX12_hasLetter_16 : decode cX12_hasLetter 16 = .ok (.ireturn, 1) := by decide +kernel
theorem dX12_isYear_0 : decode cX12_isYear 0 = .ok (.iload_n 0, 1) := by decide +kernel
theorem dX12_isYear_1 : decode cX12_isYear 1 = .ok (.iconst 0, 1) := by decide +kernel
theorem dX12_isYear_2 : decode cX12_isYear 2 = .ok (.bipush 59, 2) := by decide +kernel
theorem dX12_isYear_4 : decode cX12_isYear 4 = .ok (.invokestatic 383, 3) := by decide +kernel
theorem dX12_isYear_7 : decode cX12_isYear 7 = .ok (.ireturn, 1) := by decide +kernel
theorem dX12_writer_0 : decode cX12_writer 0 = .ok (.aload_n 0, 1) := by decide +kernel
theorem dX12_writer_1 : decode cX12_writer 1 = .ok (.getfield 70, 3) := by decide +kernel
theorem dX12_writer_4 : decode cX12_writer 4 = .ok (.bipush 10, 2) := by decide +kernel
theorem dX12_writer_6 : decode cX12_writer 6 = .ok (.aload_n 0, 1) := by decide +kernel
theorem dX12_writer_7 : decode cX12_writer 7 = .ok (.getfield 284, 3) := by decide +kernel
theorem dX12_writer_10 : decode cX12_writer 10 = .ok (.imul, 1) := by decide +kernel
theorem dX12_writer_11 : decode cX12_writer 11 = .ok (.iload_n 1, 1) := by decide +kernel
theorem dX12_writer_12 : decode cX12_writer 12 = .ok (.iadd, 1) := by decide +kernel
theorem dX12_writer_13 : decode cX12_writer 13 = .ok (.iaload, 1) := by decide +kernel
theorem dX12_writer_14 : decode cX12_writer 14 = .ok (.ireturn, 1) := by decide +kernel
theorem dX12_reader_0 : decode cX12_reader 0 = .ok (.aload_n 0, 1) := by decide +kernel
theorem dX12_reader_1 : decode cX12_reader 1 = .ok (.getfield 73, 3) := by decide +kernel
theorem dX12_reader_4 : decode cX12_reader 4 = .ok (.bipush 10, 2) := by decide +kernel
theorem dX12_reader_6 : decode cX12_reader 6 = .ok (.aload_n 0, 1) := by decide +kernel
theorem dX12_reader_7 : decode cX12_reader 7 = .ok (.getfield 284, 3) := by decide +kernel
theorem dX12_reader_10 : decode cX12_reader 10 = .ok (.imul, 1) := by decide +kernel
theorem dX12_reader_11 : decode cX12_reader 11 = .ok (.iload_n 1, 1) := by decide +kernel
theorem dX12_reader_12 : decode cX12_reader 12 = .ok (.iadd, 1) := by decide +kernel
theorem dX12_reader_13 : decode cX12_reader 13 = .ok (.iaload, 1) := by decide +kernel
theorem dX12_reader_14 : decode cX12_reader 14 = .ok (.ireturn, 1) := by decide +kernel
theorem dX12_says_0 : decode cX12_says 0 = .ok (.iconst 3, 1) := by decide +kernel
theorem dX12_says_1 : decode cX12_says 1 = .ok (.aload_n 0, 1) := by decide +kernel
theorem dX12_says_2 : decode cX12_says 2 = .ok (.getfield 284, 3) := by decide +kernel
theorem dX12_says_5 : decode cX12_says 5 = .ok (.imul, 1) := by decide +kernel
theorem dX12_says_6 : decode cX12_says 6 = .ok (.iload_n 1, 1) := by decide +kernel
theorem dX12_says_7 : decode cX12_says 7 = .ok (.iadd, 1) := by decide +kernel
theorem dX12_says_8 : decode cX12_says 8 = .ok (.istore 4, 2) := by decide +kernel
theorem dX12_says_10 : decode cX12_says 10 = .ok (.aload_n 0, 1) := by decide +kernel
theorem dX12_says_11 : decode cX12_says 11 = .ok (.getfield 94, 3) := by decide +kernel
theorem dX12_says_14 : decode cX12_says 14 = .ok (.iload 4, 2) := by decide +kernel
theorem dX12_says_16 : decode cX12_says 16 = .ok (.baload, 1) := by decide +kernel
theorem dX12_says_17 : decode cX12_says 17 = .ok (.ifCond .ne 5, 3) := by decide +kernel
theorem dX12_says_20 : decode cX12_says 20 = .ok (.iload_n 2, 1) := by decide +kernel
theorem dX12_says_21 : decode cX12_says 21 = .ok (.ireturn, 1) := by decide +kernel
theorem dX12_says_22 : decode cX12_says 22 = .ok (.aload_n 0, 1) := by decide +kernel
theorem dX12_says_23 : decode cX12_says 23 = .ok (.aload_n 0, 1) := by decide +kernel
theorem dX12_says_24 : decode cX12_says 24 = .ok (.getfield 98, 3) := by decide +kernel
theorem dX12_says_27 : decode cX12_says 27 = .ok (.iload 4, 2) := by decide +kernel
theorem dX12_says_29 : decode cX12_says 29 = .ok (.iaload, 1) := by decide +kernel
theorem dX12_says_30 : decode cX12_says 30 = .ok (.aload_n 0, 1) := by decide +kernel
theorem dX12_says_31 : decode cX12_says 31 = .ok (.getfield 101, 3) := by decide +kernel
theorem dX12_says_34 : decode cX12_says 34 = .ok (.iload 4, 2) := by decide +kernel
theorem dX12_says_36 : decode cX12_says 36 = .ok (.iaload, 1) := by decide +kernel
theorem dX12_says_37 : decode cX12_says 37 = .ok (.invokevirtual 377, 3) := by decide +kernel
theorem dX12_says_40 : decode cX12_says 40 = .ok (.istore 5, 2) := by decide +kernel
theorem dX12_says_42 : decode cX12_says 42 = .ok (.aload_n 0, 1) := by decide +kernel
theorem dX12_says_43 : decode cX12_says 43 = .ok (.getfield 367, 3) := by decide +kernel
theorem dX12_says_46 : decode cX12_says 46 = .ok (.ifCond .eq 7, 3) := by decide +kernel
theorem dX12_says_49 : decode cX12_says 49 = .ok (.iconst 0, 1) := by decide +kernel
theorem dX12_says_50 : decode cX12_says 50 = .ok (.goto 9, 3) := by decide +kernel
theorem dX12_says_53 : decode cX12_says 53 = .ok (.iload 5, 2) := by decide +kernel
theorem dX12_says_55 : decode cX12_says 55 = .ok (.iload_n 3, 1) := by decide +kernel
theorem dX12_says_56 : decode cX12_says 56 = .ok (.invokestatic 387, 3) := by decide +kernel
theorem dX12_says_59 : decode cX12_says 59 = .ok (.ireturn, 1) := by decide +kernel
theorem dX12_sees_0 : decode cX12_sees 0 = .ok (.aload_n 0, 1) := by decide +kernel
theorem dX12_sees_1 : decode cX12_sees 1 = .ok (.getfield 131, 3) := by decide +kernel
theorem dX12_sees_4 : decode cX12_sees 4 = .ok (.iconst 0, 1) := by decide +kernel
theorem dX12_sees_5 : decode cX12_sees 5 = .ok (.iload_n 1, 1) := by decide +kernel
theorem dX12_sees_6 : decode cX12_sees 6 = .ok (.iastore, 1) := by decide +kernel
theorem dX12_sees_7 : decode cX12_sees 7 = .ok (.aload_n 0, 1) := by decide +kernel
theorem dX12_sees_8 : decode cX12_sees 8 = .ok (.getfield 131, 3) := by decide +kernel
theorem dX12_sees_11 : decode cX12_sees 11 = .ok (.iconst 1, 1) := by decide +kernel
theorem dX12_sees_12 : decode cX12_sees 12 = .ok (.iload_n 2, 1) := by decide +kernel
theorem dX12_sees_13 : decode cX12_sees 13 = .ok (.iastore, 1) := by decide +kernel
theorem dX12_sees_14 : decode cX12_sees 14 = .ok (.aload_n 0, 1) := by decide +kernel
theorem dX12_sees_15 : decode cX12_sees 15 = .ok (.getfield 131, 3) := by decide +kernel
theorem dX12_sees_18 : decode cX12_sees 18 = .ok (.iconst 2, 1) := by decide +kernel
theorem dX12_sees_19 : decode cX12_sees 19 = .ok (.iload_n 3, 1) := by decide +kernel
theorem dX12_sees_20 : decode cX12_sees 20 = .ok (.iastore, 1) := by decide +kernel
theorem dX12_sees_21 : decode cX12_sees 21 = .ok (.aload_n 0, 1) := by decide +kernel
theorem dX12_sees_22 : decode cX12_sees 22 = .ok (.getfield 131, 3) := by decide +kernel
theorem dX12_sees_25 : decode cX12_sees 25 = .ok (.iconst 3, 1) := by decide +kernel
theorem dX12_sees_26 : decode cX12_sees 26 = .ok (.iload 4, 2) := by decide +kernel
theorem dX12_sees_28 : decode cX12_sees 28 = .ok (.iastore, 1) := by decide +kernel
theorem dX12_sees_29 : decode cX12_sees 29 = .ok (.return_, 1) := by decide +kernel
theorem dX12_diesBy_0 : decode cX12_diesBy 0 = .ok (.aload_n 0, 1) := by decide +kernel
theorem dX12_diesBy_1 : decode cX12_diesBy 1 = .ok (.iload_n 2, 1) := by decide +kernel
theorem dX12_diesBy_2 : decode cX12_diesBy 2 = .ok (.aload_n 0, 1) := by decide +kernel
theorem dX12_diesBy_3 : decode cX12_diesBy 3 = .ok (.getfield 52, 3) := by decide +kernel
theorem dX12_diesBy_6 : decode cX12_diesBy 6 = .ok (.bipush 10, 2) := by decide +kernel
theorem dX12_diesBy_8 : decode cX12_diesBy 8 = .ok (.aload_n 0, 1) := by decide +kernel
theorem dX12_diesBy_9 : decode cX12_diesBy 9 = .ok (.getfield 284, 3) := by decide +kernel
theorem dX12_diesBy_12 : decode cX12_diesBy 12 = .ok (.imul, 1) := by decide +kernel
theorem dX12_diesBy_13 : decode cX12_diesBy 13 = .ok (.iload_n 1, 1) := by decide +kernel
theorem dX12_diesBy_14 : decode cX12_diesBy 14 = .ok (.iadd, 1) := by decide +kernel
theorem dX12_diesBy_15 : decode cX12_diesBy 15 = .ok (.iaload, 1) := by decide +kernel
theorem dX12_diesBy_16 : decode cX12_diesBy 16 = .ok (.iload_n 2, 1) := by decide +kernel
theorem dX12_diesBy_17 : decode cX12_diesBy 17 = .ok (.iadd, 1) := by decide +kernel
theorem dX12_diesBy_18 : decode cX12_diesBy 18 = .ok (.iconst 0, 1) := by decide +kernel
theorem dX12_diesBy_19 : decode cX12_diesBy 19 = .ok (.iconst 0, 1) := by decide +kernel
theorem dX12_diesBy_20 : decode cX12_diesBy 20 = .ok (.invokevirtual 390, 3) := by decide +kernel
theorem dX12_diesBy_23 : decode cX12_diesBy 23 = .ok (.aload_n 0, 1) := by decide +kernel
theorem dX12_diesBy_24 : decode cX12_diesBy 24 = .ok (.iconst 0, 1) := by decide +kernel
theorem dX12_diesBy_25 : decode cX12_diesBy 25 = .ok (.iconst 0, 1) := by decide +kernel
theorem dX12_diesBy_26 : decode cX12_diesBy 26 = .ok (.bipush 100, 2) := by decide +kernel
theorem dX12_diesBy_28 : decode cX12_diesBy 28 = .ok (.invokevirtual 394, 3) := by decide +kernel
theorem dX12_diesBy_31 : decode cX12_diesBy 31 = .ok (.ireturn, 1) := by decide +kernel
theorem dX12_feeOf_0 : decode cX12_feeOf 0 = .ok (.aload_n 0, 1) := by decide +kernel
theorem dX12_feeOf_1 : decode cX12_feeOf 1 = .ok (.iload_n 2, 1) := by decide +kernel
theorem dX12_feeOf_2 : decode cX12_feeOf 2 = .ok (.iconst 0, 1) := by decide +kernel
theorem dX12_feeOf_3 : decode cX12_feeOf 3 = .ok (.aload_n 0, 1) := by decide +kernel
theorem dX12_feeOf_4 : decode cX12_feeOf 4 = .ok (.getfield 76, 3) := by decide +kernel
theorem dX12_feeOf_7 : decode cX12_feeOf 7 = .ok (.bipush 10, 2) := by decide +kernel
theorem dX12_feeOf_9 : decode cX12_feeOf 9 = .ok (.aload_n 0, 1) := by decide +kernel
theorem dX12_feeOf_10 : decode cX12_feeOf 10 = .ok (.getfield 284, 3) := by decide +kernel
theorem dX12_feeOf_13 : decode cX12_feeOf 13 = .ok (.imul, 1) := by decide +kernel
theorem dX12_feeOf_14 : decode cX12_feeOf 14 = .ok (.iload_n 1, 1) := by decide +kernel
theorem dX12_feeOf_15 : decode cX12_feeOf 15 = .ok (.iadd, 1) := by decide +kernel
theorem dX12_feeOf_16 : decode cX12_feeOf 16 = .ok (.iaload, 1) := by decide +kernel
theorem dX12_feeOf_17 : decode cX12_feeOf 17 = .ok (.iconst 0, 1) := by decide +kernel
theorem dX12_feeOf_18 : decode cX12_feeOf 18 = .ok (.invokevirtual 390, 3) := by decide +kernel
theorem dX12_feeOf_21 : decode cX12_feeOf 21 = .ok (.aload_n 0, 1) := by decide +kernel
theorem dX12_feeOf_22 : decode cX12_feeOf 22 = .ok (.iconst 1, 1) := by decide +kernel
theorem dX12_feeOf_23 : decode cX12_feeOf 23 = .ok (.iconst 1, 1) := by decide +kernel
theorem dX12_feeOf_24 : decode cX12_feeOf 24 = .ok (.sipush 999, 3) := by decide +kernel
theorem dX12_feeOf_27 : decode cX12_feeOf 27 = .ok (.invokevirtual 394, 3) := by decide +kernel
theorem dX12_feeOf_30 : decode cX12_feeOf 30 = .ok (.ireturn, 1) := by decide +kernel
theorem dX12_goodOf_0 : decode cX12_goodOf 0 = .ok (.aload_n 0, 1) := by decide +kernel
theorem dX12_goodOf_1 : decode cX12_goodOf 1 = .ok (.iload_n 2, 1) := by decide +kernel
theorem dX12_goodOf_2 : decode cX12_goodOf 2 = .ok (.iconst 0, 1) := by decide +kernel
theorem dX12_goodOf_3 : decode cX12_goodOf 3 = .ok (.aload_n 0, 1) := by decide +kernel
theorem dX12_goodOf_4 : decode cX12_goodOf 4 = .ok (.getfield 76, 3) := by decide +kernel
theorem dX12_goodOf_7 : decode cX12_goodOf 7 = .ok (.bipush 10, 2) := by decide +kernel
theorem dX12_goodOf_9 : decode cX12_goodOf 9 = .ok (.aload_n 0, 1) := by decide +kernel
theorem dX12_goodOf_10 : decode cX12_goodOf 10 = .ok (.getfield 284, 3) := by decide +kernel
theorem dX12_goodOf_13 : decode cX12_goodOf 13 = .ok (.imul, 1) := by decide +kernel
theorem dX12_goodOf_14 : decode cX12_goodOf 14 = .ok (.iload_n 1, 1) := by decide +kernel
theorem dX12_goodOf_15 : decode cX12_goodOf 15 = .ok (.iadd, 1) := by decide +kernel
theorem dX12_goodOf_16 : decode cX12_goodOf 16 = .ok (.iaload, 1) := by decide +kernel
theorem dX12_goodOf_17 : decode cX12_goodOf 17 = .ok (.iload_n 3, 1) := by decide +kernel
theorem dX12_goodOf_18 : decode cX12_goodOf 18 = .ok (.invokevirtual 390, 3) := by decide +kernel
theorem dX12_goodOf_21 : decode cX12_goodOf 21 = .ok (.aload_n 0, 1) := by decide +kernel
theorem dX12_goodOf_22 : decode cX12_goodOf 22 = .ok (.iconst 2, 1) := by decide +kernel
theorem dX12_goodOf_23 : decode cX12_goodOf 23 = .ok (.iconst 0, 1) := by decide +kernel
theorem dX12_goodOf_24 : decode cX12_goodOf 24 = .ok (.sipush 999, 3) := by decide +kernel
theorem dX12_goodOf_27 : decode cX12_goodOf 27 = .ok (.invokevirtual 394, 3) := by decide +kernel
theorem dX12_goodOf_30 : decode cX12_goodOf 30 = .ok (.ireturn, 1) := by decide +kernel
theorem dX12_holdsFor_0 : decode cX12_holdsFor 0 = .ok (.bipush 10, 2) := by decide +kernel
theorem dX12_holdsFor_2 : decode cX12_holdsFor 2 = .ok (.aload_n 0, 1) := by decide +kernel
theorem dX12_holdsFor_3 : decode cX12_holdsFor 3 = .ok (.getfield 284, 3) := by decide +kernel
theorem dX12_holdsFor_6 : decode cX12_holdsFor 6 = .ok (.imul, 1) := by decide +kernel
theorem dX12_holdsFor_7 : decode cX12_holdsFor 7 = .ok (.iload_n 1, 1) := by decide +kernel
theorem dX12_holdsFor_8 : decode cX12_holdsFor 8 = .ok (.iadd, 1) := by decide +kernel
theorem dX12_holdsFor_9 : decode cX12_holdsFor 9 = .ok (.istore 5, 2) := by decide +kernel
theorem dX12_holdsFor_11 : decode cX12_holdsFor 11 = .ok (.aload_n 0, 1) := by decide +kernel
theorem dX12_holdsFor_12 : decode cX12_holdsFor 12 = .ok (.getfield 85, 3) := by decide +kernel
theorem dX12_holdsFor_15 : decode cX12_holdsFor 15 = .ok (.iload 5, 2) := by decide +kernel
theorem dX12_holdsFor_17 : decode cX12_holdsFor 17 = .ok (.iaload, 1) := by decide +kernel
theorem dX12_holdsFor_18 : decode cX12_holdsFor 18 = .ok (.aload_n 0, 1) := by decide +kernel
theorem dX12_holdsFor_19 : decode cX12_holdsFor 19 = .ok (.getfield 88, 3) := by decide +kernel
theorem dX12_holdsFor_22 : decode cX12_holdsFor 22 = .ok (.iload 5, 2) := by decide +kernel
theorem dX12_holdsFor_24 : decode cX12_holdsFor 24 = .ok (.iaload, 1) := by decide +kernel
theorem dX12_holdsFor_25 : decode cX12_holdsFor 25 = .ok (.if_icmp .ne 5, 3) := by decide +kernel
theorem dX12_holdsFor_28 : decode cX12_holdsFor 28 = .ok (.iconst 1, 1) := by decide +kernel
theorem dX12_holdsFor_29 : decode cX12_holdsFor 29 = .ok (.ireturn, 1) := by decide +kernel
theorem dX12_holdsFor_30 : decode cX12_holdsFor 30 = .ok (.aload_n 0, 1) := by decide +kernel
theorem dX12_holdsFor_31 : decode cX12_holdsFor 31 = .ok (.iload_n 2, 1) := by decide +kernel
theorem dX12_holdsFor_32 : decode cX12_holdsFor 32 = .ok (.iconst 0, 1) := by decide +kernel
theorem dX12_holdsFor_33 : decode cX12_holdsFor 33 = .ok (.iconst 0, 1) := by decide +kernel
theorem dX12_holdsFor_34 : decode cX12_holdsFor 34 = .ok (.iconst 0, 1) := by decide +kernel
theorem dX12_holdsFor_35 : decode cX12_holdsFor 35 = .ok (.invokevirtual 390, 3) := by decide +kernel
theorem dX12_holdsFor_38 : decode cX12_holdsFor 38 = .ok (.aload_n 0, 1) := by decide +kernel
theorem dX12_holdsFor_39 : decode cX12_holdsFor 39 = .ok (.iload_n 3, 1) := by decide +kernel
theorem dX12_holdsFor_40 : decode cX12_holdsFor 40 = .ok (.putfield 371, 3) := by decide +kernel
theorem dX12_holdsFor_43 : decode cX12_holdsFor 43 = .ok (.aload_n 0, 1) := by decide +kernel
theorem dX12_holdsFor_44 : decode cX12_holdsFor 44 = .ok (.iload 4, 2) := by decide +kernel
theorem dX12_holdsFor_46 : decode cX12_holdsFor 46 = .ok (.putfield 374, 3) := by decide +kernel
theorem dX12_holdsFor_49 : decode cX12_holdsFor 49 = .ok (.aload_n 0, 1) := by decide +kernel
theorem dX12_holdsFor_50 : decode cX12_holdsFor 50 = .ok (.iload 5, 2) := by decide +kernel
theorem dX12_holdsFor_52 : decode cX12_holdsFor 52 = .ok (.invokevirtual 397, 3) := by decide +kernel
theorem dX12_holdsFor_55 : decode cX12_holdsFor 55 = .ok (.ireturn, 1) := by decide +kernel
theorem dX12_letter_0 : decode cX12_letter 0 = .ok (.aload_n 0, 1) := by decide +kernel
theorem dX12_letter_1 : decode cX12_letter 1 = .ok (.iload_n 1, 1) := by decide +kernel
theorem dX12_letter_2 : decode cX12_letter 2 = .ok (.invokevirtual 400, 3) := by decide +kernel
theorem dX12_letter_5 : decode cX12_letter 5 = .ok (.ifCond .ne 5, 3) := by decide +kernel
theorem dX12_letter_8 : decode cX12_letter 8 = .ok (.iconst (-1), 1) := by decide +kernel
theorem dX12_letter_9 : decode cX12_letter 9 = .ok (.ireturn, 1) := by decide +kernel
theorem dX12_letter_10 : decode cX12_letter 10 = .ok (.iload_n 2, 1) := by decide +kernel
theorem dX12_letter_11 : decode cX12_letter 11 = .ok (.tableswitch 90 0 4 #[33, 39, 45, 60, 75], 33) := by decide +kernel
theorem dX12_letter_44 : decode cX12_letter 44 = .ok (.aload_n 0, 1) := by decide +kernel
theorem dX12_letter_45 : decode cX12_letter 45 = .ok (.iload_n 1, 1) := by decide +kernel
theorem dX12_letter_46 : decode cX12_letter 46 = .ok (.invokevirtual 403, 3) := by decide +kernel
theorem dX12_letter_49 : decode cX12_letter 49 = .ok (.ireturn, 1) := by decide +kernel
theorem dX12_letter_50 : decode cX12_letter 50 = .ok (.aload_n 0, 1) := by decide +kernel
theorem dX12_letter_51 : decode cX12_letter 51 = .ok (.iload_n 1, 1) := by decide +kernel
theorem dX12_letter_52 : decode cX12_letter 52 = .ok (.invokevirtual 406, 3) := by decide +kernel
theorem dX12_letter_55 : decode cX12_letter 55 = .ok (.ireturn, 1) := by decide +kernel
theorem dX12_letter_56 : decode cX12_letter 56 = .ok (.aload_n 0, 1) := by decide +kernel
theorem dX12_letter_57 : decode cX12_letter 57 = .ok (.getfield 76, 3) := by decide +kernel
theorem dX12_letter_60 : decode cX12_letter 60 = .ok (.bipush 10, 2) := by decide +kernel
theorem dX12_letter_62 : decode cX12_letter 62 = .ok (.aload_n 0, 1) := by decide +kernel
theorem dX12_letter_63 : decode cX12_letter 63 = .ok (.getfield 284, 3) := by decide +kernel
theorem dX12_letter_66 : decode cX12_letter 66 = .ok (.imul, 1) := by decide +kernel
theorem dX12_letter_67 : decode cX12_letter 67 = .ok (.iload_n 1, 1) := by decide +kernel
theorem dX12_letter_68 : decode cX12_letter 68 = .ok (.iadd, 1) := by decide +kernel
theorem dX12_letter_69 : decode cX12_letter 69 = .ok (.iaload, 1) := by decide +kernel
theorem dX12_letter_70 : decode cX12_letter 70 = .ok (.ireturn, 1) := by decide +kernel
theorem dX12_letter_71 : decode cX12_letter 71 = .ok (.aload_n 0, 1) := by decide +kernel
theorem dX12_letter_72 : decode cX12_letter 72 = .ok (.getfield 79, 3) := by decide +kernel
theorem dX12_letter_75 : decode cX12_letter 75 = .ok (.bipush 10, 2) := by decide +kernel
theorem dX12_letter_77 : decode cX12_letter 77 = .ok (.aload_n 0, 1) := by decide +kernel
theorem dX12_letter_78 : decode cX12_letter 78 = .ok (.getfield 284, 3) := by decide +kernel
theorem dX12_letter_81 : decode cX12_letter 81 = .ok (.imul, 1) := by decide +kernel
theorem dX12_letter_82 : decode cX12_letter 82 = .ok (.iload_n 1, 1) := by decide +kernel
theorem dX12_letter_83 : decode cX12_letter 83 = .ok (.iadd, 1) := by decide +kernel
theorem dX12_letter_84 : decode cX12_letter 84 = .ok (.iaload, 1) := by decide +kernel
theorem dX12_letter_85 : decode cX12_letter 85 = .ok (.ireturn, 1) := by decide +kernel
theorem dX12_letter_86 : decode cX12_letter 86 = .ok (.aload_n 0, 1) := by decide +kernel
theorem dX12_letter_87 : decode cX12_letter 87 = .ok (.getfield 82, 3) := by decide +kernel
theorem dX12_letter_90 : decode cX12_letter 90 = .ok (.bipush 10, 2) := by decide +kernel
theorem dX12_letter_92 : decode cX12_letter 92 = .ok (.aload_n 0, 1) := by decide +kernel
theorem dX12_letter_93 : decode cX12_letter 93 = .ok (.getfield 284, 3) := by decide +kernel
theorem dX12_letter_96 : decode cX12_letter 96 = .ok (.imul, 1) := by decide +kernel
theorem dX12_letter_97 : decode cX12_letter 97 = .ok (.iload_n 1, 1) := by decide +kernel
theorem dX12_letter_98 : decode cX12_letter 98 = .ok (.iadd, 1) := by decide +kernel
theorem dX12_letter_99 : decode cX12_letter 99 = .ok (.iaload, 1) := by decide +kernel
theorem dX12_letter_100 : decode cX12_letter 100 = .ok (.ireturn, 1) := by decide +kernel
theorem dX12_letter_101 : decode cX12_letter 101 = .ok (.iconst (-1), 1) := by decide +kernel
theorem dX12_letter_102 : decode cX12_letter 102 = .ok (.ireturn, 1) := by decide +kernel
theorem dX12_dies_0 : decode cX12_dies 0 = .ok (.aload_n 0, 1) := by decide +kernel
theorem dX12_dies_1 : decode cX12_dies 1 = .ok (.iload_n 1, 1) := by decide +kernel
theorem dX12_dies_2 : decode cX12_dies 2 = .ok (.invokevirtual 409, 3) := by decide +kernel
theorem dX12_dies_5 : decode cX12_dies 5 = .ok (.ifCond .eq 19, 3) := by decide +kernel
theorem dX12_dies_8 : decode cX12_dies 8 = .ok (.iload_n 2, 1) := by decide +kernel
theorem dX12_dies_9 : decode cX12_dies 9 = .ok (.invokestatic 412, 3) := by decide +kernel
theorem dX12_dies_12 : decode cX12_dies 12 = .ok (.ifCond .eq 12, 3) := by decide +kernel
theorem dX12_dies_15 : decode cX12_dies 15 = .ok (.aload_n 0, 1) := by decide +kernel
theorem dX12_dies_16 : decode cX12_dies 16 = .ok (.iload_n 1, 1) := by decide +kernel
theorem dX12_dies_17 : decode cX12_dies 17 = .ok (.iload_n 2, 1) := by decide +kernel
theorem dX12_dies_18 : decode cX12_dies 18 = .ok (.invokevirtual 415, 3) := by decide +kernel
theorem dX12_dies_21 : decode cX12_dies 21 = .ok (.goto 4, 3) := by decide +kernel
theorem dX12_dies_24 : decode cX12_dies 24 = .ok (.iconst (-1), 1) := by decide +kernel
theorem dX12_dies_25 : decode cX12_dies 25 = .ok (.ireturn, 1) := by decide +kernel
theorem dX12_fee_0 : decode cX12_fee 0 = .ok (.aload_n 0, 1) := by decide +kernel
theorem dX12_fee_1 : decode cX12_fee 1 = .ok (.iload_n 1, 1) := by decide +kernel
theorem dX12_fee_2 : decode cX12_fee 2 = .ok (.invokevirtual 400, 3) := by decide +kernel
theorem dX12_fee_5 : decode cX12_fee 5 = .ok (.ifCond .eq 19, 3) := by decide +kernel
theorem dX12_fee_8 : decode cX12_fee 8 = .ok (.iload_n 2, 1) := by decide +kernel
theorem dX12_fee_9 : decode cX12_fee 9 = .ok (.invokestatic 412, 3) := by decide +kernel
theorem dX12_fee_12 : decode cX12_fee 12 = .ok (.ifCond .eq 12, 3) := by decide +kernel
theorem dX12_fee_15 : decode cX12_fee 15 = .ok (.aload_n 0, 1) := by decide +kernel
theorem dX12_fee_16 : decode cX12_fee 16 = .ok (.iload_n 1, 1) := by decide +kernel
theorem dX12_fee_17 : decode cX12_fee 17 = .ok (.iload_n 2, 1) := by decide +kernel
theorem dX12_fee_18 : decode cX12_fee 18 = .ok (.invokevirtual 418, 3) := by decide +kernel
theorem dX12_fee_21 : decode cX12_fee 21 = .ok (.goto 4, 3) := by decide +kernel
theorem dX12_fee_24 : decode cX12_fee 24 = .ok (.iconst (-1), 1) := by decide +kernel
theorem dX12_fee_25 : decode cX12_fee 25 = .ok (.ireturn, 1) := by decide +kernel
theorem dX12_clerk_0 : decode cX12_clerk 0 = .ok (.iload_n 1, 1) := by decide +kernel
theorem dX12_clerk_1 : decode cX12_clerk 1 = .ok (.invokestatic 412, 3) := by decide +kernel
theorem dX12_clerk_4 : decode cX12_clerk 4 = .ok (.ifCond .ne 7, 3) := by decide +kernel
theorem dX12_clerk_7 : decode cX12_clerk 7 = .ok (.iconst (-1), 1) := by decide +kernel
theorem dX12_clerk_8 : decode cX12_clerk 8 = .ok (.goto 31, 3) := by decide +kernel
theorem dX12_clerk_11 : decode cX12_clerk 11 = .ok (.aload_n 0, 1) := by decide +kernel
theorem dX12_clerk_12 : decode cX12_clerk 12 = .ok (.getfield 55, 3) := by decide +kernel
theorem dX12_clerk_15 : decode cX12_clerk 15 = .ok (.aload_n 0, 1) := by decide +kernel
theorem dX12_clerk_16 : decode cX12_clerk 16 = .ok (.getfield 284, 3) := by decide +kernel
theorem dX12_clerk_19 : decode cX12_clerk 19 = .ok (.iaload, 1) := by decide +kernel
theorem dX12_clerk_20 : decode cX12_clerk 20 = .ok (.ifCond .ne 8, 3) := by decide +kernel
theorem dX12_clerk_23 : decode cX12_clerk 23 = .ok (.bipush (-2), 2) := by decide +kernel
theorem dX12_clerk_25 : decode cX12_clerk 25 = .ok (.goto 14, 3) := by decide +kernel
theorem dX12_clerk_28 : decode cX12_clerk 28 = .ok (.iload_n 1, 1) := by decide +kernel
theorem dX12_clerk_29 : decode cX12_clerk 29 = .ok (.aload_n 0, 1) := by decide +kernel
theorem dX12_clerk_30 : decode cX12_clerk 30 = .ok (.getfield 55, 3) := by decide +kernel
theorem dX12_clerk_33 : decode cX12_clerk 33 = .ok (.aload_n 0, 1) := by decide +kernel
theorem dX12_clerk_34 : decode cX12_clerk 34 = .ok (.getfield 284, 3) := by decide +kernel
theorem dX12_clerk_37 : decode cX12_clerk 37 = .ok (.iaload, 1) := by decide +kernel
theorem dX12_clerk_38 : decode cX12_clerk 38 = .ok (.irem, 1) := by decide +kernel
theorem dX12_clerk_39 : decode cX12_clerk 39 = .ok (.ireturn, 1) := by decide +kernel
theorem dX12_isBarred_0 : decode cX12_isBarred 0 = .ok (.iconst 0, 1) := by decide +kernel
theorem dX12_isBarred_1 : decode cX12_isBarred 1 = .ok (.istore_n 3, 1) := by decide +kernel
theorem dX12_isBarred_2 : decode cX12_isBarred 2 = .ok (.iload_n 3, 1) := by decide +kernel
theorem dX12_isBarred_3 : decode cX12_isBarred 3 = .ok (.aload_n 0, 1) := by decide +kernel
theorem dX12_isBarred_4 : decode cX12_isBarred 4 = .ok (.getfield 58, 3) := by decide +kernel
theorem dX12_isBarred_7 : decode cX12_isBarred 7 = .ok (.aload_n 0, 1) := by decide +kernel
theorem dX12_isBarred_8 : decode cX12_isBarred 8 = .ok (.getfield 284, 3) := by decide +kernel
theorem dX12_isBarred_11 : decode cX12_isBarred 11 = .ok (.iaload, 1) := by decide +kernel
theorem dX12_isBarred_12 : decode cX12_isBarred 12 = .ok (.if_icmp .ge 47, 3) := by decide +kernel
theorem dX12_isBarred_15 : decode cX12_isBarred 15 = .ok (.aload_n 0, 1) := by decide +kernel
theorem dX12_isBarred_16 : decode cX12_isBarred 16 = .ok (.getfield 61, 3) := by decide +kernel
theorem dX12_isBarred_19 : decode cX12_isBarred 19 = .ok (.bipush 12, 2) := by decide +kernel
theorem dX12_isBarred_21 : decode cX12_isBarred 21 = .ok (.aload_n 0, 1) := by decide +kernel
theorem dX12_isBarred_22 : decode cX12_isBarred 22 = .ok (.getfield 284, 3) := by decide +kernel
theorem dX12_isBarred_25 : decode cX12_isBarred 25 = .ok (.imul, 1) := by decide +kernel
theorem dX12_isBarred_26 : decode cX12_isBarred 26 = .ok (.iload_n 3, 1) := by decide +kernel
theorem dX12_isBarred_27 : decode cX12_isBarred 27 = .ok (.iadd, 1) := by decide +kernel
theorem dX12_isBarred_28 : decode cX12_isBarred 28 = .ok (.iaload, 1) := by decide +kernel
theorem dX12_isBarred_29 : decode cX12_isBarred 29 = .ok (.iload_n 1, 1) := by decide +kernel
theorem dX12_isBarred_30 : decode cX12_isBarred 30 = .ok (.if_icmp .ne 23, 3) := by decide +kernel
theorem dX12_isBarred_33 : decode cX12_isBarred 33 = .ok (.aload_n 0, 1) := by decide +kernel
theorem dX12_isBarred_34 : decode cX12_isBarred 34 = .ok (.getfield 64, 3) := by decide +kernel
theorem dX12_isBarred_37 : decode cX12_isBarred 37 = .ok (.bipush 12, 2) := by decide +kernel
theorem dX12_isBarred_39 : decode cX12_isBarred 39 = .ok (.aload_n 0, 1) := by decide +kernel
theorem dX12_isBarred_40 : decode cX12_isBarred 40 = .ok (.getfield 284, 3) := by decide +kernel
theorem dX12_isBarred_43 : decode cX12_isBarred 43 = .ok (.imul, 1) := by decide +kernel
theorem dX12_isBarred_44 : decode cX12_isBarred 44 = .ok (.iload_n 3, 1) := by decide +kernel
theorem dX12_isBarred_45 : decode cX12_isBarred 45 = .ok (.iadd, 1) := by decide +kernel
theorem dX12_isBarred_46 : decode cX12_isBarred 46 = .ok (.iaload, 1) := by decide +kernel
theorem dX12_isBarred_47 : decode cX12_isBarred 47 = .ok (.iload_n 2, 1) := by decide +kernel
theorem dX12_isBarred_48 : decode cX12_isBarred 48 = .ok (.if_icmp .ne 5, 3) := by decide +kernel
theorem dX12_isBarred_51 : decode cX12_isBarred 51 = .ok (.iconst 1, 1) := by decide +kernel
theorem dX12_isBarred_52 : decode cX12_isBarred 52 = .ok (.ireturn, 1) := by decide +kernel
theorem dX12_isBarred_53 : decode cX12_isBarred 53 = .ok (.iinc 3 1, 3) := by decide +kernel
theorem dX12_isBarred_56 : decode cX12_isBarred 56 = .ok (.goto (-54), 3) := by decide +kernel
theorem dX12_isBarred_59 : decode cX12_isBarred 59 = .ok (.iconst 0, 1) := by decide +kernel
theorem dX12_isBarred_60 : decode cX12_isBarred 60 = .ok (.ireturn, 1) := by decide +kernel
theorem dX12_barred_0 : decode cX12_barred 0 = .ok (.iload_n 1, 1) := by decide +kernel
theorem dX12_barred_1 : decode cX12_barred 1 = .ok (.iconst 0, 1) := by decide +kernel
theorem dX12_barred_2 : decode cX12_barred 2 = .ok (.aload_n 0, 1) := by decide +kernel
theorem dX12_barred_3 : decode cX12_barred 3 = .ok (.getfield 55, 3) := by decide +kernel
theorem dX12_barred_6 : decode cX12_barred 6 = .ok (.aload_n 0, 1) := by decide +kernel
theorem dX12_barred_7 : decode cX12_barred 7 = .ok (.getfield 284, 3) := by decide +kernel
theorem dX12_barred_10 : decode cX12_barred 10 = .ok (.iaload, 1) := by decide +kernel
theorem dX12_barred_11 : decode cX12_barred 11 = .ok (.iconst 1, 1) := by decide +kernel
theorem dX12_barred_12 : decode cX12_barred 12 = .ok (.isub, 1) := by decide +kernel
theorem dX12_barred_13 : decode cX12_barred 13 = .ok (.invokestatic 383, 3) := by decide +kernel
theorem dX12_barred_16 : decode cX12_barred 16 = .ok (.ifCond .eq 28, 3) := by decide +kernel
theorem dX12_barred_19 : decode cX12_barred 19 = .ok (.aload_n 0, 1) := by decide +kernel
theorem dX12_barred_20 : decode cX12_barred 20 = .ok (.iload_n 2, 1) := by decide +kernel
theorem dX12_barred_21 : decode cX12_barred 21 = .ok (.invokevirtual 409, 3) := by decide +kernel
theorem dX12_barred_24 : decode cX12_barred 24 = .ok (.ifCond .eq 20, 3) := by decide +kernel
theorem dX12_barred_27 : decode cX12_barred 27 = .ok (.aload_n 0, 1) := by decide +kernel
theorem dX12_barred_28 : decode cX12_barred 28 = .ok (.iload_n 1, 1) := by decide +kernel
theorem dX12_barred_29 : decode cX12_barred 29 = .ok (.iload_n 2, 1) := by decide +kernel
theorem dX12_barred_30 : decode cX12_barred 30 = .ok (.invokevirtual 421, 3) := by decide +kernel
theorem dX12_barred_33 : decode cX12_barred 33 = .ok (.ifCond .eq 7, 3) := by decide +kernel
theorem dX12_barred_36 : decode cX12_barred 36 = .ok (.iconst 1, 1) := by decide +kernel
theorem dX12_barred_37 : decode cX12_barred 37 = .ok (.goto 8, 3) := by decide +kernel
theorem dX12_barred_40 : decode cX12_barred 40 = .ok (.iconst 0, 1) := by decide +kernel
theorem dX12_barred_41 : decode cX12_barred 41 = .ok (.goto 4, 3) := by decide +kernel
theorem dX12_barred_44 : decode cX12_barred 44 = .ok (.iconst (-1), 1) := by decide +kernel
theorem dX12_barred_45 : decode cX12_barred 45 = .ok (.ireturn, 1) := by decide +kernel
theorem dX12_isClerkBarred_0 : decode cX12_isClerkBarred 0 = .ok (.aload_n 0, 1) := by decide +kernel
theorem dX12_isClerkBarred_1 : decode cX12_isClerkBarred 1 = .ok (.getfield 55, 3) := by decide +kernel
theorem dX12_isClerkBarred_4 : decode cX12_isClerkBarred 4 = .ok (.aload_n 0, 1) := by decide +kernel
theorem dX12_isClerkBarred_5 : decode cX12_isClerkBarred 5 = .ok (.getfield 284, 3) := by decide +kernel
theorem dX12_isClerkBarred_8 : decode cX12_isClerkBarred 8 = .ok (.iaload, 1) := by decide +kernel
theorem dX12_isClerkBarred_9 : decode cX12_isClerkBarred 9 = .ok (.ifCond .le 30, 3) := by decide +kernel
theorem dX12_isClerkBarred_12 : decode cX12_isClerkBarred 12 = .ok (.aload_n 0, 1) := by decide +kernel
theorem dX12_isClerkBarred_13 : decode cX12_isClerkBarred 13 = .ok (.iload_n 2, 1) := by decide +kernel
theorem dX12_isClerkBarred_14 : decode cX12_isClerkBarred 14 = .ok (.aload_n 0, 1) := by decide +kernel
theorem dX12_isClerkBarred_15 : decode cX12_isClerkBarred 15 = .ok (.getfield 55, 3) := by decide +kernel
theorem dX12_isClerkBarred_18 : decode cX12_isClerkBarred 18 = .ok (.aload_n 0, 1) := by decide +kernel
theorem dX12_isClerkBarred_19 : decode cX12_isClerkBarred 19 = .ok (.getfield 284, 3) := by decide +kernel
theorem dX12_isClerkBarred_22 : decode cX12_isClerkBarred 22 = .ok (.iaload, 1) := by decide +kernel
theorem dX12_isClerkBarred_23 : decode cX12_isClerkBarred 23 = .ok (.irem, 1) := by decide +kernel
theorem dX12_isClerkBarred_24 : decode cX12_isClerkBarred 24 = .ok (.aload_n 0, 1) := by decide +kernel
theorem dX12_isClerkBarred_25 : decode cX12_isClerkBarred 25 = .ok (.iload_n 1, 1) := by decide +kernel
theorem dX12_isClerkBarred_26 : decode cX12_isClerkBarred 26 = .ok (.invokevirtual 406, 3) := by decide +kernel
theorem dX12_isClerkBarred_29 : decode cX12_isClerkBarred 29 = .ok (.invokevirtual 421, 3) := by decide +kernel
theorem dX12_isClerkBarred_32 : decode cX12_isClerkBarred 32 = .ok (.ifCond .eq 7, 3) := by decide +kernel
theorem dX12_isClerkBarred_35 : decode cX12_isClerkBarred 35 = .ok (.iconst 1, 1) := by decide +kernel
theorem dX12_isClerkBarred_36 : decode cX12_isClerkBarred 36 = .ok (.goto 4, 3) := by decide +kernel
theorem dX12_isClerkBarred_39 : decode cX12_isClerkBarred 39 = .ok (.iconst 0, 1) := by decide +kernel
theorem dX12_isClerkBarred_40 : decode cX12_isClerkBarred 40 = .ok (.ireturn, 1) := by decide +kernel
theorem dX12_comes_0 : decode cX12_comes 0 = .ok (.aload_n 0, 1) := by decide +kernel
theorem dX12_comes_1 : decode cX12_comes 1 = .ok (.getfield 137, 3) := by decide +kernel
theorem dX12_comes_4 : decode cX12_comes 4 = .ok (.aload_n 0, 1) := by decide +kernel
theorem dX12_comes_5 : decode cX12_comes 5 = .ok (.getfield 305, 3) := by decide +kernel
theorem dX12_comes_8 : decode cX12_comes 8 = .ok (.iload_n 1, 1) := by decide +kernel
theorem dX12_comes_9 : decode cX12_comes 9 = .ok (.iastore, 1) := by decide +kernel
theorem dX12_comes_10 : decode cX12_comes 10 = .ok (.aload_n 0, 1) := by decide +kernel
theorem dX12_comes_11 : decode cX12_comes 11 = .ok (.getfield 140, 3) := by decide +kernel
theorem dX12_comes_14 : decode cX12_comes 14 = .ok (.aload_n 0, 1) := by decide +kernel
theorem dX12_comes_15 : decode cX12_comes 15 = .ok (.getfield 305, 3) := by decide +kernel
theorem dX12_comes_18 : decode cX12_comes 18 = .ok (.iload_n 2, 1) := by decide +kernel
theorem dX12_comes_19 : decode cX12_comes 19 = .ok (.iastore, 1) := by decide +kernel
theorem dX12_comes_20 : decode cX12_comes 20 = .ok (.aload_n 0, 1) := by decide +kernel
theorem dX12_comes_21 : decode cX12_comes 21 = .ok (.getfield 143, 3) := by decide +kernel
theorem dX12_comes_24 : decode cX12_comes 24 = .ok (.aload_n 0, 1) := by decide +kernel
theorem dX12_comes_25 : decode cX12_comes 25 = .ok (.getfield 305, 3) := by decide +kernel
theorem dX12_comes_28 : decode cX12_comes 28 = .ok (.iload_n 3, 1) := by decide +kernel
theorem dX12_comes_29 : decode cX12_comes 29 = .ok (.iastore, 1) := by decide +kernel
theorem dX12_comes_30 : decode cX12_comes 30 = .ok (.aload_n 0, 1) := by decide +kernel
theorem dX12_comes_31 : decode cX12_comes 31 = .ok (.getfield 146, 3) := by decide +kernel
theorem dX12_comes_34 : decode cX12_comes 34 = .ok (.aload_n 0, 1) := by decide +kernel
theorem dX12_comes_35 : decode cX12_comes 35 = .ok (.getfield 305, 3) := by decide +kernel
theorem dX12_comes_38 : decode cX12_comes 38 = .ok (.iload 4, 2) := by decide +kernel
theorem dX12_comes_40 : decode cX12_comes 40 = .ok (.iastore, 1) := by decide +kernel
theorem dX12_comes_41 : decode cX12_comes 41 = .ok (.aload_n 0, 1) := by decide +kernel
theorem dX12_comes_42 : decode cX12_comes 42 = .ok (.dup, 1) := by decide +kernel
theorem dX12_comes_43 : decode cX12_comes 43 = .ok (.getfield 305, 3) := by decide +kernel
theorem dX12_comes_46 : decode cX12_comes 46 = .ok (.iconst 1, 1) := by decide +kernel
theorem dX12_comes_47 : decode cX12_comes 47 = .ok (.iadd, 1) := by decide +kernel
theorem dX12_comes_48 : decode cX12_comes 48 = .ok (.putfield 305, 3) := by decide +kernel
theorem dX12_comes_51 : decode cX12_comes 51 = .ok (.aload_n 0, 1) := by decide +kernel
theorem dX12_comes_52 : decode cX12_comes 52 = .ok (.getfield 305, 3) := by decide +kernel
theorem dX12_comes_55 : decode cX12_comes 55 = .ok (.iconst 1, 1) := by decide +kernel
theorem dX12_comes_56 : decode cX12_comes 56 = .ok (.isub, 1) := by decide +kernel
theorem dX12_comes_57 : decode cX12_comes 57 = .ok (.ireturn, 1) := by decide +kernel
theorem dX12_canCome_0 : decode cX12_canCome 0 = .ok (.aload_n 0, 1) := by decide +kernel
theorem dX12_canCome_1 : decode cX12_canCome 1 = .ok (.getfield 305, 3) := by decide +kernel
theorem dX12_canCome_4 : decode cX12_canCome 4 = .ok (.bipush 60, 2) := by decide +kernel
theorem dX12_canCome_6 : decode cX12_canCome 6 = .ok (.if_icmp .ge 14, 3) := by decide +kernel
theorem dX12_canCome_9 : decode cX12_canCome 9 = .ok (.iload_n 1, 1) := by decide +kernel
theorem dX12_canCome_10 : decode cX12_canCome 10 = .ok (.invokestatic 412, 3) := by decide +kernel
theorem dX12_canCome_13 : decode cX12_canCome 13 = .ok (.ifCond .eq 7, 3) := by decide +kernel
theorem dX12_canCome_16 : decode cX12_canCome 16 = .ok (.iconst 1, 1) := by decide +kernel
theorem dX12_canCome_17 : decode cX12_canCome 17 = .ok (.goto 4, 3) := by decide +kernel
theorem dX12_canCome_20 : decode cX12_canCome 20 = .ok (.iconst 0, 1) := by decide +kernel
theorem dX12_canCome_21 : decode cX12_canCome 21 = .ok (.ireturn, 1) := by decide +kernel
theorem dX12_rumour_0 : decode cX12_rumour 0 = .ok (.aload_n 0, 1) := by decide +kernel
theorem dX12_rumour_1 : decode cX12_rumour 1 = .ok (.iload_n 1, 1) := by decide +kernel
theorem dX12_rumour_2 : decode cX12_rumour 2 = .ok (.invokevirtual 425, 3) := by decide +kernel
theorem dX12_rumour_5 : decode cX12_rumour 5 = .ok (.ifCond .eq 32, 3) := by decide +kernel
theorem dX12_rumour_8 : decode cX12_rumour 8 = .ok (.aload_n 0, 1) := by decide +kernel
theorem dX12_rumour_9 : decode cX12_rumour 9 = .ok (.iload_n 2, 1) := by decide +kernel
theorem dX12_rumour_10 : decode cX12_rumour 10 = .ok (.invokevirtual 409, 3) := by decide +kernel
theorem dX12_rumour_13 : decode cX12_rumour 13 = .ok (.ifCond .eq 24, 3) := by decide +kernel
theorem dX12_rumour_16 : decode cX12_rumour 16 = .ok (.iload_n 3, 1) := by decide +kernel
theorem dX12_rumour_17 : decode cX12_rumour 17 = .ok (.iconst 1, 1) := by decide +kernel
theorem dX12_rumour_18 : decode cX12_rumour 18 = .ok (.bipush 20, 2) := by decide +kernel
theorem dX12_rumour_20 : decode cX12_rumour 20 = .ok (.invokestatic 383, 3) := by decide +kernel
theorem dX12_rumour_23 : decode cX12_rumour 23 = .ok (.ifCond .eq 14, 3) := by decide +kernel
theorem dX12_rumour_26 : decode cX12_rumour 26 = .ok (.aload_n 0, 1) := by decide +kernel
theorem dX12_rumour_27 : decode cX12_rumour 27 = .ok (.iconst 0, 1) := by decide +kernel
theorem dX12_rumour_28 : decode cX12_rumour 28 = .ok (.iload_n 1, 1) := by decide +kernel
theorem dX12_rumour_29 : decode cX12_rumour 29 = .ok (.iload_n 2, 1) := by decide +kernel
theorem dX12_rumour_30 : decode cX12_rumour 30 = .ok (.iload_n 3, 1) := by decide +kernel
theorem dX12_rumour_31 : decode cX12_rumour 31 = .ok (.invokevirtual 428, 3) := by decide +kernel
theorem dX12_rumour_34 : decode cX12_rumour 34 = .ok (.goto 4, 3) := by decide +kernel
theorem dX12_rumour_37 : decode cX12_rumour 37 = .ok (.iconst (-1), 1) := by decide +kernel
theorem dX12_rumour_38 : decode cX12_rumour 38 = .ok (.ireturn, 1) := by decide +kernel
theorem dX12_death_0 : decode cX12_death 0 = .ok (.aload_n 0, 1) := by decide +kernel
theorem dX12_death_1 : decode cX12_death 1 = .ok (.iload_n 1, 1) := by decide +kernel
theorem dX12_death_2 : decode cX12_death 2 = .ok (.invokevirtual 425, 3) := by decide +kernel
theorem dX12_death_5 : decode cX12_death 5 = .ok (.ifCond .eq 22, 3) := by decide +kernel
theorem dX12_death_8 : decode cX12_death 8 = .ok (.aload_n 0, 1) := by decide +kernel
theorem dX12_death_9 : decode cX12_death 9 = .ok (.iload_n 2, 1) := by decide +kernel
theorem dX12_death_10 : decode cX12_death 10 = .ok (.invokevirtual 409, 3) := by decide +kernel
theorem dX12_death_13 : decode cX12_death 13 = .ok (.ifCond .eq 14, 3) := by decide +kernel
theorem dX12_death_16 : decode cX12_death 16 = .ok (.aload_n 0, 1) := by decide +kernel
theorem dX12_death_17 : decode cX12_death 17 = .ok (.iconst 1, 1) := by decide +kernel
theorem dX12_death_18 : decode cX12_death 18 = .ok (.iload_n 1, 1) := by decide +kernel
theorem dX12_death_19 : decode cX12_death 19 = .ok (.iload_n 2, 1) := by decide +kernel
theorem dX12_death_20 : decode cX12_death 20 = .ok (.iconst (-1), 1) := by decide +kernel
theorem dX12_death_21 : decode cX12_death 21 = .ok (.invokevirtual 428, 3) := by decide +kernel
theorem dX12_death_24 : decode cX12_death 24 = .ok (.goto 4, 3) := by decide +kernel
theorem dX12_death_27 : decode cX12_death 27 = .ok (.iconst (-1), 1) := by decide +kernel
theorem dX12_death_28 : decode cX12_death 28 = .ok (.ireturn, 1) := by decide +kernel
theorem dX12_takeBack_0 : decode cX12_takeBack 0 = .ok (.aload_n 0, 1) := by decide +kernel
theorem dX12_takeBack_1 : decode cX12_takeBack 1 = .ok (.iload_n 1, 1) := by decide +kernel
theorem dX12_takeBack_2 : decode cX12_takeBack 2 = .ok (.invokevirtual 425, 3) := by decide +kernel
theorem dX12_takeBack_5 : decode cX12_takeBack 5 = .ok (.ifCond .eq 22, 3) := by decide +kernel
theorem dX12_takeBack_8 : decode cX12_takeBack 8 = .ok (.aload_n 0, 1) := by decide +kernel
theorem dX12_takeBack_9 : decode cX12_takeBack 9 = .ok (.iload_n 2, 1) := by decide +kernel
theorem dX12_takeBack_10 : decode cX12_takeBack 10 = .ok (.invokevirtual 400, 3) := by decide +kernel
theorem dX12_takeBack_13 : decode cX12_takeBack 13 = .ok (.ifCond .eq 14, 3) := by decide +kernel
theorem dX12_takeBack_16 : decode cX12_takeBack 16 = .ok (.aload_n 0, 1) := by decide +kernel
theorem dX12_takeBack_17 : decode cX12_takeBack 17 = .ok (.iconst 2, 1) := by decide +kernel
theorem dX12_takeBack_18 : decode cX12_takeBack 18 = .ok (.iload_n 1, 1) := by decide +kernel
theorem dX12_takeBack_19 : decode cX12_takeBack 19 = .ok (.iload_n 2, 1) := by decide +kernel
theorem dX12_takeBack_20 : decode cX12_takeBack 20 = .ok (.iconst (-1), 1) := by decide +kernel
theorem dX12_takeBack_21 : decode cX12_takeBack 21 = .ok (.invokevirtual 428, 3) := by decide +kernel
theorem dX12_takeBack_24 : decode cX12_takeBack 24 = .ok (.goto 4, 3) := by decide +kernel
theorem dX12_takeBack_27 : decode cX12_takeBack 27 = .ok (.iconst (-1), 1) := by decide +kernel
theorem dX12_takeBack_28 : decode cX12_takeBack 28 = .ok (.ireturn, 1) := by decide +kernel
theorem dX12_early_0 : decode cX12_early 0 = .ok (.aload_n 0, 1) := by decide +kernel
theorem dX12_early_1 : decode cX12_early 1 = .ok (.iload_n 1, 1) := by decide +kernel
theorem dX12_early_2 : decode cX12_early 2 = .ok (.invokevirtual 425, 3) := by decide +kernel
theorem dX12_early_5 : decode cX12_early 5 = .ok (.ifCond .eq 22, 3) := by decide +kernel
theorem dX12_early_8 : decode cX12_early 8 = .ok (.aload_n 0, 1) := by decide +kernel
theorem dX12_early_9 : decode cX12_early 9 = .ok (.iload_n 2, 1) := by decide +kernel
theorem dX12_early_10 : decode cX12_early 10 = .ok (.invokevirtual 400, 3) := by decide +kernel
theorem dX12_early_13 : decode cX12_early 13 = .ok (.ifCond .eq 14, 3) := by decide +kernel
theorem dX12_early_16 : decode cX12_early 16 = .ok (.aload_n 0, 1) := by decide +kernel
theorem dX12_early_17 : decode cX12_early 17 = .ok (.iconst 3, 1) := by decide +kernel
theorem dX12_early_18 : decode cX12_early 18 = .ok (.iload_n 1, 1) := by decide +kernel
theorem dX12_early_19 : decode cX12_early 19 = .ok (.iload_n 2, 1) := by decide +kernel
theorem dX12_early_20 : decode cX12_early 20 = .ok (.iconst (-1), 1) := by decide +kernel
theorem dX12_early_21 : decode cX12_early 21 = .ok (.invokevirtual 428, 3) := by decide +kernel
theorem dX12_early_24 : decode cX12_early 24 = .ok (.goto 4, 3) := by decide +kernel
theorem dX12_early_27 : decode cX12_early 27 = .ok (.iconst (-1), 1) := by decide +kernel
theorem dX12_early_28 : decode cX12_early 28 = .ok (.ireturn, 1) := by decide +kernel
theorem dX12_date_0 : decode cX12_date 0 = .ok (.aload_n 0, 1) := by decide +kernel
theorem dX12_date_1 : decode cX12_date 1 = .ok (.iload_n 1, 1) := by decide +kernel
theorem dX12_date_2 : decode cX12_date 2 = .ok (.invokevirtual 425, 3) := by decide +kernel
theorem dX12_date_5 : decode cX12_date 5 = .ok (.ifCond .eq 29, 3) := by decide +kernel
theorem dX12_date_8 : decode cX12_date 8 = .ok (.aload_n 0, 1) := by decide +kernel
theorem dX12_date_9 : decode cX12_date 9 = .ok (.iload_n 2, 1) := by decide +kernel
theorem dX12_date_10 : decode cX12_date 10 = .ok (.invokevirtual 400, 3) := by decide +kernel
theorem dX12_date_13 : decode cX12_date 13 = .ok (.ifCond .eq 21, 3) := by decide +kernel
theorem dX12_date_16 : decode cX12_date 16 = .ok (.iload_n 3, 1) := by decide +kernel
theorem dX12_date_17 : decode cX12_date 17 = .ok (.invokestatic 412, 3) := by decide +kernel
theorem dX12_date_20 : decode cX12_date 20 = .ok (.ifCond .eq 14, 3) := by decide +kernel
theorem dX12_date_23 : decode cX12_date 23 = .ok (.aload_n 0, 1) := by decide +kernel
theorem dX12_date_24 : decode cX12_date 24 = .ok (.iconst 4, 1) := by decide +kernel
theorem dX12_date_25 : decode cX12_date 25 = .ok (.iload_n 1, 1) := by decide +kernel
theorem dX12_date_26 : decode cX12_date 26 = .ok (.iload_n 2, 1) := by decide +kernel
theorem dX12_date_27 : decode cX12_date 27 = .ok (.iload_n 3, 1) := by decide +kernel
theorem dX12_date_28 : decode cX12_date 28 = .ok (.invokevirtual 428, 3) := by decide +kernel
theorem dX12_date_31 : decode cX12_date 31 = .ok (.goto 4, 3) := by decide +kernel
theorem dX12_date_34 : decode cX12_date 34 = .ok (.iconst (-1), 1) := by decide +kernel
theorem dX12_date_35 : decode cX12_date 35 = .ok (.ireturn, 1) := by decide +kernel
theorem dX12_flood_0 : decode cX12_flood 0 = .ok (.aload_n 0, 1) := by decide +kernel
theorem dX12_flood_1 : decode cX12_flood 1 = .ok (.iload_n 1, 1) := by decide +kernel
theorem dX12_flood_2 : decode cX12_flood 2 = .ok (.invokevirtual 425, 3) := by decide +kernel
theorem dX12_flood_5 : decode cX12_flood 5 = .ok (.ifCond .eq 23, 3) := by decide +kernel
theorem dX12_flood_8 : decode cX12_flood 8 = .ok (.iload_n 2, 1) := by decide +kernel
theorem dX12_flood_9 : decode cX12_flood 9 = .ok (.iconst 0, 1) := by decide +kernel
theorem dX12_flood_10 : decode cX12_flood 10 = .ok (.iconst 3, 1) := by decide +kernel
theorem dX12_flood_11 : decode cX12_flood 11 = .ok (.invokestatic 383, 3) := by decide +kernel
theorem dX12_flood_14 : decode cX12_flood 14 = .ok (.ifCond .eq 14, 3) := by decide +kernel
theorem dX12_flood_17 : decode cX12_flood 17 = .ok (.aload_n 0, 1) := by decide +kernel
theorem dX12_flood_18 : decode cX12_flood 18 = .ok (.iconst 5, 1) := by decide +kernel
theorem dX12_flood_19 : decode cX12_flood 19 = .ok (.iload_n 1, 1) := by decide +kernel
theorem dX12_flood_20 : decode cX12_flood 20 = .ok (.iload_n 2, 1) := by decide +kernel
theorem dX12_flood_21 : decode cX12_flood 21 = .ok (.iconst (-1), 1) := by decide +kernel
theorem dX12_flood_22 : decode cX12_flood 22 = .ok (.invokevirtual 428, 3) := by decide +kernel
theorem dX12_flood_25 : decode cX12_flood 25 = .ok (.goto 4, 3) := by decide +kernel
theorem dX12_flood_28 : decode cX12_flood 28 = .ok (.iconst (-1), 1) := by decide +kernel
theorem dX12_flood_29 : decode cX12_flood 29 = .ok (.ireturn, 1) := by decide +kernel
theorem dX12_annul_0 : decode cX12_annul 0 = .ok (.aload_n 0, 1) := by decide +kernel
theorem dX12_annul_1 : decode cX12_annul 1 = .ok (.getfield 305, 3) := by decide +kernel
theorem dX12_annul_4 : decode cX12_annul 4 = .ok (.bipush 60, 2) := by decide +kernel
theorem dX12_annul_6 : decode cX12_annul 6 = .ok (.if_icmp .eq 28, 3) := by decide +kernel
theorem dX12_annul_9 : decode cX12_annul 9 = .ok (.iload_n 1, 1) := by decide +kernel
theorem dX12_annul_10 : decode cX12_annul 10 = .ok (.iconst 0, 1) := by decide +kernel
theorem dX12_annul_11 : decode cX12_annul 11 = .ok (.aload_n 0, 1) := by decide +kernel
theorem dX12_annul_12 : decode cX12_annul 12 = .ok (.getfield 305, 3) := by decide +kernel
theorem dX12_annul_15 : decode cX12_annul 15 = .ok (.iconst 1, 1) := by decide +kernel
theorem dX12_annul_16 : decode cX12_annul 16 = .ok (.isub, 1) := by decide +kernel
theorem dX12_annul_17 : decode cX12_annul 17 = .ok (.invokestatic 383, 3) := by decide +kernel
theorem dX12_annul_20 : decode cX12_annul 20 = .ok (.ifCond .eq 14, 3) := by decide +kernel
theorem dX12_annul_23 : decode cX12_annul 23 = .ok (.aload_n 0, 1) := by decide +kernel
theorem dX12_annul_24 : decode cX12_annul 24 = .ok (.getfield 137, 3) := by decide +kernel
theorem dX12_annul_27 : decode cX12_annul 27 = .ok (.iload_n 1, 1) := by decide +kernel
theorem dX12_annul_28 : decode cX12_annul 28 = .ok (.iaload, 1) := by decide +kernel
theorem dX12_annul_29 : decode cX12_annul 29 = .ok (.bipush 6, 2) := by decide +kernel
theorem dX12_annul_31 : decode cX12_annul 31 = .ok (.if_icmp .ne 7, 3) := by decide +kernel
theorem dX12_annul_34 : decode cX12_annul 34 = .ok (.iconst (-1), 1) := by decide +kernel
theorem dX12_annul_35 : decode cX12_annul 35 = .ok (.goto 12, 3) := by decide +kernel
theorem dX12_annul_38 : decode cX12_annul 38 = .ok (.aload_n 0, 1) := by decide +kernel
theorem dX12_annul_39 : decode cX12_annul 39 = .ok (.bipush 6, 2) := by decide +kernel
theorem dX12_annul_41 : decode cX12_annul 41 = .ok (.iconst (-1), 1) := by decide +kernel
theorem dX12_annul_42 : decode cX12_annul 42 = .ok (.iload_n 1, 1) := by decide +kernel
theorem dX12_annul_43 : decode cX12_annul 43 = .ok (.iconst (-1), 1) := by decide +kernel
theorem dX12_annul_44 : decode cX12_annul 44 = .ok (.invokevirtual 428, 3) := by decide +kernel
theorem dX12_annul_47 : decode cX12_annul 47 = .ok (.ireturn, 1) := by decide +kernel
theorem dX12_fact_0 : decode cX12_fact 0 = .ok (.iload_n 1, 1) := by decide +kernel
theorem dX12_fact_1 : decode cX12_fact 1 = .ok (.iconst 0, 1) := by decide +kernel
theorem dX12_fact_2 : decode cX12_fact 2 = .ok (.aload_n 0, 1) := by decide +kernel
theorem dX12_fact_3 : decode cX12_fact 3 = .ok (.getfield 305, 3) := by decide +kernel
theorem dX12_fact_6 : decode cX12_fact 6 = .ok (.iconst 1, 1) := by decide +kernel
theorem dX12_fact_7 : decode cX12_fact 7 = .ok (.isub, 1) := by decide +kernel
theorem dX12_fact_8 : decode cX12_fact 8 = .ok (.invokestatic 383, 3) := by decide +kernel
theorem dX12_fact_11 : decode cX12_fact 11 = .ok (.ifCond .ne 5, 3) := by decide +kernel
theorem dX12_fact_14 : decode cX12_fact 14 = .ok (.iconst (-1), 1) := by decide +kernel
theorem dX12_fact_15 : decode cX12_fact 15 = .ok (.ireturn, 1) := by decide +kernel
theorem dX12_fact_16 : decode cX12_fact 16 = .ok (.iload_n 2, 1) := by decide +kernel
theorem dX12_fact_17 : decode cX12_fact 17 = .ok (.tableswitch 59 0 3 #[31, 38, 45, 52], 31) := by decide +kernel
theorem dX12_fact_48 : decode cX12_fact 48 = .ok (.aload_n 0, 1) := by decide +kernel
theorem dX12_fact_49 : decode cX12_fact 49 = .ok (.getfield 137, 3) := by decide +kernel
theorem dX12_fact_52 : decode cX12_fact 52 = .ok (.iload_n 1, 1) := by decide +kernel
theorem dX12_fact_53 : decode cX12_fact 53 = .ok (.iaload, 1) := by decide +kernel
theorem dX12_fact_54 : decode cX12_fact 54 = .ok (.ireturn, 1) := by decide +kernel
theorem dX12_fact_55 : decode cX12_fact 55 = .ok (.aload_n 0, 1) := by decide +kernel
theorem dX12_fact_56 : decode cX12_fact 56 = .ok (.getfield 140, 3) := by decide +kernel
theorem dX12_fact_59 : decode cX12_fact 59 = .ok (.iload_n 1, 1) := by decide +kernel
theorem dX12_fact_60 : decode cX12_fact 60 = .ok (.iaload, 1) := by decide +kernel
theorem dX12_fact_61 : decode cX12_fact 61 = .ok (.ireturn, 1) := by decide +kernel
theorem dX12_fact_62 : decode cX12_fact 62 = .ok (.aload_n 0, 1) := by decide +kernel
theorem dX12_fact_63 : decode cX12_fact 63 = .ok (.getfield 143, 3) := by decide +kernel
theorem dX12_fact_66 : decode cX12_fact 66 = .ok (.iload_n 1, 1) := by decide +kernel
theorem dX12_fact_67 : decode cX12_fact 67 = .ok (.iaload, 1) := by decide +kernel
theorem dX12_fact_68 : decode cX12_fact 68 = .ok (.ireturn, 1) := by decide +kernel
theorem dX12_fact_69 : decode cX12_fact 69 = .ok (.aload_n 0, 1) := by decide +kernel
theorem dX12_fact_70 : decode cX12_fact 70 = .ok (.getfield 146, 3) := by decide +kernel
theorem dX12_fact_73 : decode cX12_fact 73 = .ok (.iload_n 1, 1) := by decide +kernel
theorem dX12_fact_74 : decode cX12_fact 74 = .ok (.iaload, 1) := by decide +kernel
theorem dX12_fact_75 : decode cX12_fact 75 = .ok (.ireturn, 1) := by decide +kernel
theorem dX12_fact_76 : decode cX12_fact 76 = .ok (.iconst (-1), 1) := by decide +kernel
theorem dX12_fact_77 : decode cX12_fact 77 = .ok (.ireturn, 1) := by decide +kernel
theorem dX12_isKnown_0 : decode cX12_isKnown 0 = .ok (.iload_n 1, 1) := by decide +kernel
theorem dX12_isKnown_1 : decode cX12_isKnown 1 = .ok (.iconst 0, 1) := by decide +kernel
theorem dX12_isKnown_2 : decode cX12_isKnown 2 = .ok (.aload_n 0, 1) := by decide +kernel
theorem dX12_isKnown_3 : decode cX12_isKnown 3 = .ok (.getfield 305, 3) := by decide +kernel
theorem dX12_isKnown_6 : decode cX12_isKnown 6 = .ok (.invokestatic 383, 3) := by decide +kernel
theorem dX12_isKnown_9 : decode cX12_isKnown 9 = .ok (.ireturn, 1) := by decide +kernel
theorem dX12_counts_0 : decode cX12_counts 0 = .ok (.aload_n 0, 1) := by decide +kernel
theorem dX12_counts_1 : decode cX12_counts 1 = .ok (.getfield 137, 3) := by decide +kernel
theorem dX12_counts_4 : decode cX12_counts 4 = .ok (.iload_n 1, 1) := by decide +kernel
theorem dX12_counts_5 : decode cX12_counts 5 = .ok (.iaload, 1) := by decide +kernel
theorem dX12_counts_6 : decode cX12_counts 6 = .ok (.bipush 6, 2) := by decide +kernel
theorem dX12_counts_8 : decode cX12_counts 8 = .ok (.if_icmp .ne 5, 3) := by decide +kernel
theorem dX12_counts_11 : decode cX12_counts 11 = .ok (.iconst 0, 1) := by decide +kernel
theorem dX12_counts_12 : decode cX12_counts 12 = .ok (.ireturn, 1) := by decide +kernel
theorem dX12_counts_13 : decode cX12_counts 13 = .ok (.iload_n 1, 1) := by decide +kernel
theorem dX12_counts_14 : decode cX12_counts 14 = .ok (.iconst 1, 1) := by decide +kernel
theorem dX12_counts_15 : decode cX12_counts 15 = .ok (.iadd, 1) := by decide +kernel
theorem dX12_counts_16 : decode cX12_counts 16 = .ok (.istore_n 3, 1) := by decide +kernel
theorem dX12_counts_17 : decode cX12_counts 17 = .ok (.iload_n 3, 1) := by decide +kernel
theorem dX12_counts_18 : decode cX12_counts 18 = .ok (.iload_n 2, 1) := by decide +kernel
theorem dX12_counts_19 : decode cX12_counts 19 = .ok (.if_icmp .ge 32, 3) := by decide +kernel
theorem dX12_counts_22 : decode cX12_counts 22 = .ok (.aload_n 0, 1) := by decide +kernel
theorem dX12_counts_23 : decode cX12_counts 23 = .ok (.getfield 137, 3) := by decide +kernel
theorem dX12_counts_26 : decode cX12_counts 26 = .ok (.iload_n 3, 1) := by decide +kernel
theorem dX12_counts_27 : decode cX12_counts 27 = .ok (.iaload, 1) := by decide +kernel
theorem dX12_counts_28 : decode cX12_counts 28 = .ok (.bipush 6, 2) := by decide +kernel
theorem dX12_counts_30 : decode cX12_counts 30 = .ok (.if_icmp .ne 15, 3) := by decide +kernel
theorem dX12_counts_33 : decode cX12_counts 33 = .ok (.aload_n 0, 1) := by decide +kernel
theorem dX12_counts_34 : decode cX12_counts 34 = .ok (.getfield 143, 3) := by decide +kernel
theorem dX12_counts_37 : decode cX12_counts 37 = .ok (.iload_n 3, 1) := by decide +kernel
theorem dX12_counts_38 : decode cX12_counts 38 = .ok (.iaload, 1) := by decide +kernel
theorem dX12_counts_39 : decode cX12_counts 39 = .ok (.iload_n 1, 1) := by decide +kernel
theorem dX12_counts_40 : decode cX12_counts 40 = .ok (.if_icmp .ne 5, 3) := by decide +kernel
theorem dX12_counts_43 : decode cX12_counts 43 = .ok (.iconst 0, 1) := by decide +kernel
theorem dX12_counts_44 : decode cX12_counts 44 = .ok (.ireturn, 1) := by decide +kernel
theorem dX12_counts_45 : decode cX12_counts 45 = .ok (.iinc 3 1, 3) := by decide +kernel
theorem dX12_counts_48 : decode cX12_counts 48 = .ok (.goto (-31), 3) := by decide +kernel
theorem dX12_counts_51 : decode cX12_counts 51 = .ok (.iconst 1, 1) := by decide +kernel
theorem dX12_counts_52 : decode cX12_counts 52 = .ok (.ireturn, 1) := by decide +kernel
theorem dX12_weightOf_0 : decode cX12_weightOf 0 = .ok (.iconst 0, 1) := by decide +kernel
theorem dX12_weightOf_1 : decode cX12_weightOf 1 = .ok (.istore 4, 2) := by decide +kernel
theorem dX12_weightOf_3 : decode cX12_weightOf 3 = .ok (.iconst 0, 1) := by decide +kernel
theorem dX12_weightOf_4 : decode cX12_weightOf 4 = .ok (.istore 5, 2) := by decide +kernel
theorem dX12_weightOf_6 : decode cX12_weightOf 6 = .ok (.iload 5, 2) := by decide +kernel
theorem dX12_weightOf_8 : decode cX12_weightOf 8 = .ok (.iload_n 3, 1) := by decide +kernel
theorem dX12_weightOf_9 : decode cX12_weightOf 9 = .ok (.if_icmp .ge 63, 3) := by decide +kernel
theorem dX12_weightOf_12 : decode cX12_weightOf 12 = .ok (.aload_n 0, 1) := by decide +kernel
theorem dX12_weightOf_13 : decode cX12_weightOf 13 = .ok (.getfield 137, 3) := by decide +kernel
theorem dX12_weightOf_16 : decode cX12_weightOf 16 = .ok (.iload 5, 2) := by decide +kernel
theorem dX12_weightOf_18 : decode cX12_weightOf 18 = .ok (.iaload, 1) := by decide +kernel
theorem dX12_weightOf_19 : decode cX12_weightOf 19 = .ok (.ifCond .ne 47, 3) := by decide +kernel
theorem dX12_weightOf_22 : decode cX12_weightOf 22 = .ok (.aload_n 0, 1) := by decide +kernel
theorem dX12_weightOf_23 : decode cX12_weightOf 23 = .ok (.getfield 143, 3) := by decide +kernel
theorem dX12_weightOf_26 : decode cX12_weightOf 26 = .ok (.iload 5, 2) := by decide +kernel
theorem dX12_weightOf_28 : decode cX12_weightOf 28 = .ok (.iaload, 1) := by decide +kernel
theorem dX12_weightOf_29 : decode cX12_weightOf 29 = .ok (.iload_n 1, 1) := by decide +kernel
theorem dX12_weightOf_30 : decode cX12_weightOf 30 = .ok (.if_icmp .ne 36, 3) := by decide +kernel
theorem dX12_weightOf_33 : decode cX12_weightOf 33 = .ok (.aload_n 0, 1) := by decide +kernel
theorem dX12_weightOf_34 : decode cX12_weightOf 34 = .ok (.getfield 140, 3) := by decide +kernel
theorem dX12_weightOf_37 : decode cX12_weightOf 37 = .ok (.iload 5, 2) := by decide +kernel
theorem dX12_weightOf_39 : decode cX12_weightOf 39 = .ok (.iaload, 1) := by decide +kernel
theorem dX12_weightOf_40 : decode cX12_weightOf 40 = .ok (.iload_n 2, 1) := by decide +kernel
theorem dX12_weightOf_41 : decode cX12_weightOf 41 = .ok (.if_icmp .gt 25, 3) := by decide +kernel
theorem dX12_weightOf_44 : decode cX12_weightOf 44 = .ok (.aload_n 0, 1) := by decide +kernel
theorem dX12_weightOf_45 : decode cX12_weightOf 45 = .ok (.iload 5, 2) := by decide +kernel
theorem dX12_weightOf_47 : decode cX12_weightOf 47 = .ok (.iload_n 3, 1) := by decide +kernel
theorem dX12_weightOf_48 : decode cX12_weightOf 48 = .ok (.invokevirtual 432, 3) := by decide +kernel
theorem dX12_weightOf_51 : decode cX12_weightOf 51 = .ok (.ifCond .eq 15, 3) := by decide +kernel
theorem dX12_weightOf_54 : decode cX12_weightOf 54 = .ok (.iload 4, 2) := by decide +kernel
theorem dX12_weightOf_56 : decode cX12_weightOf 56 = .ok (.aload_n 0, 1) := by decide +kernel
theorem dX12_weightOf_57 : decode cX12_weightOf 57 = .ok (.getfield 146, 3) := by decide +kernel
theorem dX12_weightOf_60 : decode cX12_weightOf 60 = .ok (.iload 5, 2) := by decide +kernel
theorem dX12_weightOf_62 : decode cX12_weightOf 62 = .ok (.iaload, 1) := by decide +kernel
theorem dX12_weightOf_63 : decode cX12_weightOf 63 = .ok (.iadd, 1) := by decide +kernel
theorem dX12_weightOf_64 : decode cX12_weightOf 64 = .ok (.istore 4, 2) := by decide +kernel
theorem dX12_weightOf_66 : decode cX12_weightOf 66 = .ok (.iinc 5 1, 3) := by decide +kernel
theorem dX12_weightOf_69 : decode cX12_weightOf 69 = .ok (.goto (-63), 3) := by decide +kernel
theorem dX12_weightOf_72 : decode cX12_weightOf 72 = .ok (.iload 4, 2) := by decide +kernel
theorem dX12_weightOf_74 : decode cX12_weightOf 74 = .ok (.ireturn, 1) := by decide +kernel
theorem dX12_weighs_0 : decode cX12_weighs 0 = .ok (.aload_n 0, 1) := by decide +kernel
theorem dX12_weighs_1 : decode cX12_weighs 1 = .ok (.iload_n 1, 1) := by decide +kernel
theorem dX12_weighs_2 : decode cX12_weighs 2 = .ok (.invokevirtual 409, 3) := by decide +kernel
theorem dX12_weighs_5 : decode cX12_weighs 5 = .ok (.ifCond .eq 28, 3) := by decide +kernel
theorem dX12_weighs_8 : decode cX12_weighs 8 = .ok (.iload_n 2, 1) := by decide +kernel
theorem dX12_weighs_9 : decode cX12_weighs 9 = .ok (.invokestatic 412, 3) := by decide +kernel
theorem dX12_weighs_12 : decode cX12_weighs 12 = .ok (.ifCond .eq 21, 3) := by decide +kernel
theorem dX12_weighs_15 : decode cX12_weighs 15 = .ok (.aload_n 0, 1) := by decide +kernel
theorem dX12_weighs_16 : decode cX12_weighs 16 = .ok (.iload_n 3, 1) := by decide +kernel
theorem dX12_weighs_17 : decode cX12_weighs 17 = .ok (.invokevirtual 435, 3) := by decide +kernel
theorem dX12_weighs_20 : decode cX12_weighs 20 = .ok (.ifCond .eq 13, 3) := by decide +kernel
theorem dX12_weighs_23 : decode cX12_weighs 23 = .ok (.aload_n 0, 1) := by decide +kernel
theorem dX12_weighs_24 : decode cX12_weighs 24 = .ok (.iload_n 1, 1) := by decide +kernel
theorem dX12_weighs_25 : decode cX12_weighs 25 = .ok (.iload_n 2, 1) := by decide +kernel
theorem dX12_weighs_26 : decode cX12_weighs 26 = .ok (.iload_n 3, 1) := by decide +kernel
theorem dX12_weighs_27 : decode cX12_weighs 27 = .ok (.invokevirtual 438, 3) := by decide +kernel
theorem dX12_weighs_30 : decode cX12_weighs 30 = .ok (.goto 4, 3) := by decide +kernel
theorem dX12_weighs_33 : decode cX12_weighs 33 = .ok (.iconst (-1), 1) := by decide +kernel
theorem dX12_weighs_34 : decode cX12_weighs 34 = .ok (.ireturn, 1) := by decide +kernel
theorem dX12_starts_0 : decode cX12_starts 0 = .ok (.iconst 0, 1) := by decide +kernel
theorem dX12_starts_1 : decode cX12_starts 1 = .ok (.istore_n 1, 1) := by decide +kernel
theorem dX12_starts_2 : decode cX12_starts 2 = .ok (.iload_n 1, 1) := by decide +kernel
theorem dX12_starts_3 : decode cX12_starts 3 = .ok (.bipush 10, 2) := by decide +kernel
theorem dX12_starts_5 : decode cX12_starts 5 = .ok (.if_icmp .ge 58, 3) := by decide +kernel
theorem dX12_starts_8 : decode cX12_starts 8 = .ok (.aload_n 0, 1) := by decide +kernel
theorem dX12_starts_9 : decode cX12_starts 9 = .ok (.getfield 149, 3) := by decide +kernel
theorem dX12_starts_12 : decode cX12_starts 12 = .ok (.iload_n 1, 1) := by decide +kernel
theorem dX12_starts_13 : decode cX12_starts 13 = .ok (.iconst 0, 1) := by decide +kernel
theorem dX12_starts_14 : decode cX12_starts 14 = .ok (.iastore, 1) := by decide +kernel
theorem dX12_starts_15 : decode cX12_starts 15 = .ok (.aload_n 0, 1) := by decide +kernel
theorem dX12_starts_16 : decode cX12_starts 16 = .ok (.getfield 152, 3) := by decide +kernel
theorem dX12_starts_19 : decode cX12_starts 19 = .ok (.iload_n 1, 1) := by decide +kernel
theorem dX12_starts_20 : decode cX12_starts 20 = .ok (.bipush (-2), 2) := by decide +kernel
theorem dX12_starts_22 : decode cX12_starts 22 = .ok (.iastore, 1) := by decide +kernel
theorem dX12_starts_23 : decode cX12_starts 23 = .ok (.aload_n 0, 1) := by decide +kernel
theorem dX12_starts_24 : decode cX12_starts 24 = .ok (.getfield 155, 3) := by decide +kernel
theorem dX12_starts_27 : decode cX12_starts 27 = .ok (.iload_n 1, 1) := by decide +kernel
theorem dX12_starts_28 : decode cX12_starts 28 = .ok (.aload_n 0, 1) := by decide +kernel
theorem dX12_starts_29 : decode cX12_starts 29 = .ok (.getfield 79, 3) := by decide +kernel
theorem dX12_starts_32 : decode cX12_starts 32 = .ok (.bipush 10, 2) := by decide +kernel
theorem dX12_starts_34 : decode cX12_starts 34 = .ok (.aload_n 0, 1) := by decide +kernel
theorem dX12_starts_35 : decode cX12_starts 35 = .ok (.getfield 284, 3) := by decide +kernel
theorem dX12_starts_38 : decode cX12_starts 38 = .ok (.imul, 1) := by decide +kernel
theorem dX12_starts_39 : decode cX12_starts 39 = .ok (.iload_n 1, 1) := by decide +kernel
theorem dX12_starts_40 : decode cX12_starts 40 = .ok (.iadd, 1) := by decide +kernel
theorem dX12_starts_41 : decode cX12_starts 41 = .ok (.iaload, 1) := by decide +kernel
theorem dX12_starts_42 : decode cX12_starts 42 = .ok (.iastore, 1) := by decide +kernel
theorem dX12_starts_43 : decode cX12_starts 43 = .ok (.aload_n 0, 1) := by decide +kernel
theorem dX12_starts_44 : decode cX12_starts 44 = .ok (.getfield 158, 3) := by decide +kernel
theorem dX12_starts_47 : decode cX12_starts 47 = .ok (.iload_n 1, 1) := by decide +kernel
theorem dX12_starts_48 : decode cX12_starts 48 = .ok (.iconst 0, 1) := by decide +kernel
theorem dX12_starts_49 : decode cX12_starts 49 = .ok (.iastore, 1) := by decide +kernel
theorem dX12_starts_50 : decode cX12_starts 50 = .ok (.aload_n 0, 1) := by decide +kernel
theorem dX12_starts_51 : decode cX12_starts 51 = .ok (.getfield 161, 3) := by decide +kernel
theorem dX12_starts_54 : decode cX12_starts 54 = .ok (.iload_n 1, 1) := by decide +kernel
theorem dX12_starts_55 : decode cX12_starts 55 = .ok (.iconst 0, 1) := by decide +kernel
theorem dX12_starts_56 : decode cX12_starts 56 = .ok (.iastore, 1) := by decide +kernel
theorem dX12_starts_57 : decode cX12_starts 57 = .ok (.iinc 1 1, 3) := by decide +kernel
theorem dX12_starts_60 : decode cX12_starts 60 = .ok (.goto (-58), 3) := by decide +kernel
theorem dX12_starts_63 : decode cX12_starts 63 = .ok (.iconst 0, 1) := by decide +kernel
theorem dX12_starts_64 : decode cX12_starts 64 = .ok (.istore_n 1, 1) := by decide +kernel
theorem dX12_starts_65 : decode cX12_starts 65 = .ok (.iload_n 1, 1) := by decide +kernel
theorem dX12_starts_66 : decode cX12_starts 66 = .ok (.bipush 60, 2) := by decide +kernel
theorem dX12_starts_68 : decode cX12_starts 68 = .ok (.if_icmp .ge 16, 3) := by decide +kernel
theorem dX12_starts_71 : decode cX12_starts 71 = .ok (.aload_n 0, 1) := by decide +kernel
theorem dX12_starts_72 : decode cX12_starts 72 = .ok (.getfield 164, 3) := by decide +kernel
theorem dX12_starts_75 : decode cX12_starts 75 = .ok (.iload_n 1, 1) := by decide +kernel
theorem dX12_starts_76 : decode cX12_starts 76 = .ok (.iconst 0, 1) := by decide +kernel
theorem dX12_starts_77 : decode cX12_starts 77 = .ok (.iastore, 1) := by decide +kernel
theorem dX12_starts_78 : decode cX12_starts 78 = .ok (.iinc 1 1, 3) := by decide +kernel
theorem dX12_starts_81 : decode cX12_starts 81 = .ok (.goto (-16), 3) := by decide +kernel
theorem dX12_starts_84 : decode cX12_starts 84 = .ok (.aload_n 0, 1) := by decide +kernel
theorem dX12_starts_85 : decode cX12_starts 85 = .ok (.iconst 0, 1) := by decide +kernel
theorem dX12_starts_86 : decode cX12_starts 86 = .ok (.putfield 441, 3) := by decide +kernel
theorem dX12_starts_89 : decode cX12_starts 89 = .ok (.aload_n 0, 1) := by decide +kernel
theorem dX12_starts_90 : decode cX12_starts 90 = .ok (.iconst 0, 1) := by decide +kernel
theorem dX12_starts_91 : decode cX12_starts 91 = .ok (.putfield 444, 3) := by decide +kernel
theorem dX12_starts_94 : decode cX12_starts 94 = .ok (.aload_n 0, 1) := by decide +kernel
theorem dX12_starts_95 : decode cX12_starts 95 = .ok (.iconst 0, 1) := by decide +kernel
theorem dX12_starts_96 : decode cX12_starts 96 = .ok (.putfield 447, 3) := by decide +kernel
theorem dX12_starts_99 : decode cX12_starts 99 = .ok (.aload_n 0, 1) := by decide +kernel
theorem dX12_starts_100 : decode cX12_starts 100 = .ok (.iconst 0, 1) := by decide +kernel
theorem dX12_starts_101 : decode cX12_starts 101 = .ok (.putfield 450, 3) := by decide +kernel
theorem dX12_starts_104 : decode cX12_starts 104 = .ok (.return_, 1) := by decide +kernel
theorem dX12_becomes_0 : decode cX12_becomes 0 = .ok (.aload_n 0, 1) := by decide +kernel
theorem dX12_becomes_1 : decode cX12_becomes 1 = .ok (.getfield 149, 3) := by decide +kernel
theorem dX12_becomes_4 : decode cX12_becomes 4 = .ok (.iload_n 1, 1) := by decide +kernel
theorem dX12_becomes_5 : decode cX12_becomes 5 = .ok (.iload_n 2, 1) := by decide +kernel
theorem dX12_becomes_6 : decode cX12_becomes 6 = .ok (.iastore, 1) := by decide +kernel
theorem dX12_becomes_7 : decode cX12_becomes 7 = .ok (.aload_n 0, 1) := by decide +kernel
theorem dX12_becomes_8 : decode cX12_becomes 8 = .ok (.getfield 152, 3) := by decide +kernel
theorem dX12_becomes_11 : decode cX12_becomes 11 = .ok (.iload_n 1, 1) := by decide +kernel
theorem dX12_becomes_12 : decode cX12_becomes 12 = .ok (.iload_n 3, 1) := by decide +kernel
theorem dX12_becomes_13 : decode cX12_becomes 13 = .ok (.iastore, 1) := by decide +kernel
theorem dX12_becomes_14 : decode cX12_becomes 14 = .ok (.iload_n 2, 1) := by decide +kernel
theorem dX12_becomes_15 : decode cX12_becomes 15 = .ok (.iconst 1, 1) := by decide +kernel
theorem dX12_becomes_16 : decode cX12_becomes 16 = .ok (.if_icmp .eq 8, 3) := by decide +kernel
theorem dX12_becomes_19 : decode cX12_becomes 19 = .ok (.iload_n 2, 1) := by decide +kernel
theorem dX12_becomes_20 : decode cX12_becomes 20 = .ok (.iconst 2, 1) := by decide +kernel
theorem dX12_becomes_21 : decode cX12_becomes 21 = .ok (.if_icmp .ne 15, 3) := by decide +kernel
theorem dX12_becomes_24 : decode cX12_becomes 24 = .ok (.aload_n 0, 1) := by decide +kernel
theorem dX12_becomes_25 : decode cX12_becomes 25 = .ok (.dup, 1) := by decide +kernel
theorem dX12_becomes_26 : decode cX12_becomes 26 = .ok (.getfield 444, 3) := by decide +kernel
theorem dX12_becomes_29 : decode cX12_becomes 29 = .ok (.iconst 1, 1) := by decide +kernel
theorem dX12_becomes_30 : decode cX12_becomes 30 = .ok (.iload_n 1, 1) := by decide +kernel
theorem dX12_becomes_31 : decode cX12_becomes 31 = .ok (.ishl, 1) := by decide +kernel
theorem dX12_becomes_32 : decode cX12_becomes 32 = .ok (.ior, 1) := by decide +kernel
theorem dX12_becomes_33 : decode cX12_becomes 33 = .ok (.putfield 444, 3) := by decide +kernel
theorem dX12_becomes_36 : decode cX12_becomes 36 = .ok (.return_, 1) := by decide +kernel
theorem dX12_happens_0 : decode cX12_happens 0 = .ok (.aload_n 0, 1) := by decide +kernel
theorem dX12_happens_1 : decode cX12_happens 1 = .ok (.getfield 143, 3) := by decide +kernel
theorem dX12_happens_4 : decode cX12_happens 4 = .ok (.iload_n 1, 1) := by decide +kernel
theorem dX12_happens_5 : decode cX12_happens 5 = .ok (.iaload, 1) := by decide +kernel
theorem dX12_happens_6 : decode cX12_happens 6 = .ok (.istore_n 3, 1) := by decide +kernel
theorem dX12_happens_7 : decode cX12_happens 7 = .ok (.aload_n 0, 1) := by decide +kernel
theorem dX12_happens_8 : decode cX12_happens 8 = .ok (.getfield 140, 3) := by decide +kernel
theorem dX12_happens_11 : decode cX12_happens 11 = .ok (.iload_n 1, 1) := by decide +kernel
theorem dX12_happens_12 : decode cX12_happens 12 = .ok (.iaload, 1) := by decide +kernel
theorem dX12_happens_13 : decode cX12_happens 13 = .ok (.istore 4, 2) := by decide +kernel
theorem dX12_happens_15 : decode cX12_happens 15 = .ok (.aload_n 0, 1) := by decide +kernel
theorem dX12_happens_16 : decode cX12_happens 16 = .ok (.getfield 137, 3) := by decide +kernel
theorem dX12_happens_19 : decode cX12_happens 19 = .ok (.iload_n 1, 1) := by decide +kernel
theorem dX12_happens_20 : decode cX12_happens 20 = .ok (.iaload, 1) := by decide +kernel
theorem dX12_happens_21 : decode cX12_happens 21 = .ok (.tableswitch 218 0 4 #[35, 87, 106, 141, 203], 35) := by decide +kernel
theorem dX12_happens_56 : decode cX12_happens 56 = .ok (.aload_n 0, 1) := by decide +kernel
theorem dX12_happens_57 : decode cX12_happens 57 = .ok (.getfield 161, 3) := by decide +kernel
theorem dX12_happens_60 : decode cX12_happens 60 = .ok (.iload_n 3, 1) := by decide +kernel
theorem dX12_happens_61 : decode cX12_happens 61 = .ok (.dup2, 1) := by decide +kernel
theorem dX12_happens_62 : decode cX12_happens 62 = .ok (.iaload, 1) := by decide +kernel
theorem dX12_happens_63 : decode cX12_happens 63 = .ok (.aload_n 0, 1) := by decide +kernel
theorem dX12_happens_64 : decode cX12_happens 64 = .ok (.getfield 146, 3) := by decide +kernel
theorem dX12_happens_67 : decode cX12_happens 67 = .ok (.iload_n 1, 1) := by decide +kernel
theorem dX12_happens_68 : decode cX12_happens 68 = .ok (.iaload, 1) := by decide +kernel
theorem dX12_happens_69 : decode cX12_happens 69 = .ok (.iadd, 1) := by decide +kernel
theorem dX12_happens_70 : decode cX12_happens 70 = .ok (.iastore, 1) := by decide +kernel
theorem dX12_happens_71 : decode cX12_happens 71 = .ok (.iload_n 2, 1) := by decide +kernel
theorem dX12_happens_72 : decode cX12_happens 72 = .ok (.ifCond .ne 174, 3) := by decide +kernel
theorem dX12_happens_75 : decode cX12_happens 75 = .ok (.aload_n 0, 1) := by decide +kernel
theorem dX12_happens_76 : decode cX12_happens 76 = .ok (.getfield 161, 3) := by decide +kernel
theorem dX12_happens_79 : decode cX12_happens 79 = .ok (.iload_n 3, 1) := by decide +kernel
theorem dX12_happens_80 : decode cX12_happens 80 = .ok (.iaload, 1) := by decide +kernel
theorem dX12_happens_81 : decode cX12_happens 81 = .ok (.aload_n 0, 1) := by decide +kernel
theorem dX12_happens_82 : decode cX12_happens 82 = .ok (.getfield 91, 3) := by decide +kernel
theorem dX12_happens_85 : decode cX12_happens 85 = .ok (.aload_n 0, 1) := by decide +kernel
theorem dX12_happens_86 : decode cX12_happens 86 = .ok (.getfield 284, 3) := by decide +kernel
theorem dX12_happens_89 : decode cX12_happens 89 = .ok (.iaload, 1) := by decide +kernel
theorem dX12_happens_90 : decode cX12_happens 90 = .ok (.if_icmp .lt 156, 3) := by decide +kernel
theorem dX12_happens_93 : decode cX12_happens 93 = .ok (.aload_n 0, 1) := by decide +kernel
theorem dX12_happens_94 : decode cX12_happens 94 = .ok (.dup, 1) := by decide +kernel
theorem dX12_happens_95 : decode cX12_happens 95 = .ok (.getfield 441, 3) := by decide +kernel
theorem dX12_happens_98 : decode cX12_happens 98 = .ok (.iconst 1, 1) := by decide +kernel
theorem dX12_happens_99 : decode cX12_happens 99 = .ok (.iload_n 3, 1) := by decide +kernel
theorem dX12_happens_100 : decode cX12_happens 100 = .ok (.ishl, 1) := by decide +kernel
theorem dX12_happens_101 : decode cX12_happens 101 = .ok (.ior, 1) := by decide +kernel
theorem dX12_happens_102 : decode cX12_happens 102 = .ok (.putfield 441, 3) := by decide +kernel
theorem dX12_happens_105 : decode cX12_happens 105 = .ok (.goto 141, 3) := by decide +kernel
theorem dX12_happens_108 : decode cX12_happens 108 = .ok (.iload_n 2, 1) := by decide +kernel
theorem dX12_happens_109 : decode cX12_happens 109 = .ok (.ifCond .eq 137, 3) := by decide +kernel
theorem dX12_happens_112 : decode cX12_happens 112 = .ok (.aload_n 0, 1) := by decide +kernel
theorem dX12_happens_113 : decode cX12_happens 113 = .ok (.dup, 1) := by decide +kernel
theorem dX12_happens_114 : decode cX12_happens 114 = .ok (.getfield 441, 3) := by decide +kernel
theorem dX12_happens_117 : decode cX12_happens 117 = .ok (.iconst 1, 1) := by decide +kernel
theorem dX12_happens_118 : decode cX12_happens 118 = .ok (.iload_n 3, 1) := by decide +kernel
theorem dX12_happens_119 : decode cX12_happens 119 = .ok (.ishl, 1) := by decide +kernel
theorem dX12_happens_120 : decode cX12_happens 120 = .ok (.ior, 1) := by decide +kernel
theorem dX12_happens_121 : decode cX12_happens 121 = .ok (.putfield 441, 3) := by decide +kernel
theorem dX12_happens_124 : decode cX12_happens 124 = .ok (.goto 122, 3) := by decide +kernel
theorem dX12_happens_127 : decode cX12_happens 127 = .ok (.aload_n 0, 1) := by decide +kernel
theorem dX12_happens_128 : decode cX12_happens 128 = .ok (.getfield 149, 3) := by decide +kernel
theorem dX12_happens_131 : decode cX12_happens 131 = .ok (.iload_n 3, 1) := by decide +kernel
theorem dX12_happens_132 : decode cX12_happens 132 = .ok (.iaload, 1) := by decide +kernel
theorem dX12_happens_133 : decode cX12_happens 133 = .ok (.ifCond .ne 113, 3) := by decide +kernel
theorem dX12_happens_136 : decode cX12_happens 136 = .ok (.aload_n 0, 1) := by decide +kernel
theorem dX12_happens_137 : decode cX12_happens 137 = .ok (.getfield 441, 3) := by decide +kernel
theorem dX12_happens_140 : decode cX12_happens 140 = .ok (.aload_n 0, 1) := by decide +kernel
theorem dX12_happens_141 : decode cX12_happens 141 = .ok (.iload_n 3, 1) := by decide +kernel
theorem dX12_happens_142 : decode cX12_happens 142 = .ok (.invokevirtual 403, 3) := by decide +kernel
theorem dX12_happens_145 : decode cX12_happens 145 = .ok (.ishr, 1) := by decide +kernel
theorem dX12_happens_146 : decode cX12_happens 146 = .ok (.iconst 1, 1) := by decide +kernel
theorem dX12_happens_147 : decode cX12_happens 147 = .ok (.iand, 1) := by decide +kernel
theorem dX12_happens_148 : decode cX12_happens 148 = .ok (.ifCond .ne 98, 3) := by decide +kernel
theorem dX12_happens_151 : decode cX12_happens 151 = .ok (.aload_n 0, 1) := by decide +kernel
theorem dX12_happens_152 : decode cX12_happens 152 = .ok (.iload_n 3, 1) := by decide +kernel
theorem dX12_happens_153 : decode cX12_happens 153 = .ok (.iconst 3, 1) := by decide +kernel
theorem dX12_happens_154 : decode cX12_happens 154 = .ok (.iload 4, 2) := by decide +kernel
theorem dX12_happens_156 : decode cX12_happens 156 = .ok (.invokevirtual 453, 3) := by decide +kernel
theorem dX12_happens_159 : decode cX12_happens 159 = .ok (.goto 87, 3) := by decide +kernel
theorem dX12_happens_162 : decode cX12_happens 162 = .ok (.aload_n 0, 1) := by decide +kernel
theorem dX12_happens_163 : decode cX12_happens 163 = .ok (.getfield 149, 3) := by decide +kernel
theorem dX12_happens_166 : decode cX12_happens 166 = .ok (.iload_n 3, 1) := by decide +kernel
theorem dX12_happens_167 : decode cX12_happens 167 = .ok (.iaload, 1) := by decide +kernel
theorem dX12_happens_168 : decode cX12_happens 168 = .ok (.ifCond .eq 4, 3) := by decide +kernel
theorem dX12_happens_171 : decode cX12_happens 171 = .ok (.return_, 1) := by decide +kernel
theorem dX12_happens_172 : decode cX12_happens 172 = .ok (.aload_n 0, 1) := by decide +kernel
theorem dX12_happens_173 : decode cX12_happens 173 = .ok (.iload_n 3, 1) := by decide +kernel
theorem dX12_happens_174 : decode cX12_happens 174 = .ok (.iload 4, 2) := by decide +kernel
theorem dX12_happens_176 : decode cX12_happens 176 = .ok (.aload_n 0, 1) := by decide +kernel
theorem dX12_happens_177 : decode cX12_happens 177 = .ok (.getfield 441, 3) := by decide +kernel
theorem dX12_happens_180 : decode cX12_happens 180 = .ok (.aload_n 0, 1) := by decide +kernel
theorem dX12_happens_181 : decode cX12_happens 181 = .ok (.getfield 444, 3) := by decide +kernel
theorem dX12_happens_184 : decode cX12_happens 184 = .ok (.invokevirtual 456, 3) := by decide +kernel
theorem dX12_happens_187 : decode cX12_happens 187 = .ok (.ifCond .ne 26, 3) := by decide +kernel
theorem dX12_happens_190 : decode cX12_happens 190 = .ok (.aload_n 0, 1) := by decide +kernel
theorem dX12_happens_191 : decode cX12_happens 191 = .ok (.dup, 1) := by decide +kernel
theorem dX12_happens_192 : decode cX12_happens 192 = .ok (.getfield 447, 3) := by decide +kernel
theorem dX12_happens_195 : decode cX12_happens 195 = .ok (.aload_n 0, 1) := by decide +kernel
theorem dX12_happens_196 : decode cX12_happens 196 = .ok (.getfield 82, 3) := by decide +kernel
theorem dX12_happens_199 : decode cX12_happens 199 = .ok (.bipush 10, 2) := by decide +kernel
theorem dX12_happens_201 : decode cX12_happens 201 = .ok (.aload_n 0, 1) := by decide +kernel
theorem dX12_happens_202 : decode cX12_happens 202 = .ok (.getfield 284, 3) := by decide +kernel
theorem dX12_happens_205 : decode cX12_happens 205 = .ok (.imul, 1) := by decide +kernel
theorem dX12_happens_206 : decode cX12_happens 206 = .ok (.iload_n 3, 1) := by decide +kernel
theorem dX12_happens_207 : decode cX12_happens 207 = .ok (.iadd, 1) := by decide +kernel
theorem dX12_happens_208 : decode cX12_happens 208 = .ok (.iaload, 1) := by decide +kernel
theorem dX12_happens_209 : decode cX12_happens 209 = .ok (.iadd, 1) := by decide +kernel
theorem dX12_happens_210 : decode cX12_happens 210 = .ok (.putfield 447, 3) := by decide +kernel
theorem dX12_happens_213 : decode cX12_happens 213 = .ok (.aload_n 0, 1) := by decide +kernel
theorem dX12_happens_214 : decode cX12_happens 214 = .ok (.iload_n 3, 1) := by decide +kernel
theorem dX12_happens_215 : decode cX12_happens 215 = .ok (.iconst 2, 1) := by decide +kernel
theorem dX12_happens_216 : decode cX12_happens 216 = .ok (.iload 4, 2) := by decide +kernel
theorem dX12_happens_218 : decode cX12_happens 218 = .ok (.invokevirtual 453, 3) := by decide +kernel
theorem dX12_happens_221 : decode cX12_happens 221 = .ok (.goto 25, 3) := by decide +kernel
theorem dX12_happens_224 : decode cX12_happens 224 = .ok (.aload_n 0, 1) := by decide +kernel
theorem dX12_happens_225 : decode cX12_happens 225 = .ok (.getfield 158, 3) := by decide +kernel
theorem dX12_happens_228 : decode cX12_happens 228 = .ok (.iload_n 3, 1) := by decide +kernel
theorem dX12_happens_229 : decode cX12_happens 229 = .ok (.aload_n 0, 1) := by decide +kernel
theorem dX12_happens_230 : decode cX12_happens 230 = .ok (.getfield 146, 3) := by decide +kernel
theorem dX12_happens_233 : decode cX12_happens 233 = .ok (.iload_n 1, 1) := by decide +kernel
theorem dX12_happens_234 : decode cX12_happens 234 = .ok (.iaload, 1) := by decide +kernel
theorem dX12_happens_235 : decode cX12_happens 235 = .ok (.iastore, 1) := by decide +kernel
theorem dX12_happens_236 : decode cX12_happens 236 = .ok (.goto 10, 3) := by decide +kernel
theorem dX12_happens_239 : decode cX12_happens 239 = .ok (.aload_n 0, 1) := by decide +kernel
theorem dX12_happens_240 : decode cX12_happens 240 = .ok (.iload_n 3, 1) := by decide +kernel
theorem dX12_happens_241 : decode cX12_happens 241 = .ok (.iload 4, 2) := by decide +kernel
theorem dX12_happens_243 : decode cX12_happens 243 = .ok (.invokevirtual 460, 3) := by decide +kernel
theorem dX12_happens_246 : decode cX12_happens 246 = .ok (.return_, 1) := by decide +kernel
theorem dX12_floods_0 : decode cX12_floods 0 = .ok (.iconst 0, 1) := by decide +kernel
theorem dX12_floods_1 : decode cX12_floods 1 = .ok (.istore_n 3, 1) := by decide +kernel
theorem dX12_floods_2 : decode cX12_floods 2 = .ok (.iload_n 3, 1) := by decide +kernel
theorem dX12_floods_3 : decode cX12_floods 3 = .ok (.aload_n 0, 1) := by decide +kernel
theorem dX12_floods_4 : decode cX12_floods 4 = .ok (.getfield 67, 3) := by decide +kernel
theorem dX12_floods_7 : decode cX12_floods 7 = .ok (.aload_n 0, 1) := by decide +kernel
theorem dX12_floods_8 : decode cX12_floods 8 = .ok (.getfield 284, 3) := by decide +kernel
theorem dX12_floods_11 : decode cX12_floods 11 = .ok (.iaload, 1) := by decide +kernel
theorem dX12_floods_12 : decode cX12_floods 12 = .ok (.if_icmp .ge 43, 3) := by decide +kernel
theorem dX12_floods_15 : decode cX12_floods 15 = .ok (.aload_n 0, 1) := by decide +kernel
theorem dX12_floods_16 : decode cX12_floods 16 = .ok (.getfield 149, 3) := by decide +kernel
theorem dX12_floods_19 : decode cX12_floods 19 = .ok (.iload_n 3, 1) := by decide +kernel
theorem dX12_floods_20 : decode cX12_floods 20 = .ok (.iaload, 1) := by decide +kernel
theorem dX12_floods_21 : decode cX12_floods 21 = .ok (.ifCond .ne 28, 3) := by decide +kernel
theorem dX12_floods_24 : decode cX12_floods 24 = .ok (.aload_n 0, 1) := by decide +kernel
theorem dX12_floods_25 : decode cX12_floods 25 = .ok (.getfield 76, 3) := by decide +kernel
theorem dX12_floods_28 : decode cX12_floods 28 = .ok (.bipush 10, 2) := by decide +kernel
theorem dX12_floods_30 : decode cX12_floods 30 = .ok (.aload_n 0, 1) := by decide +kernel
theorem dX12_floods_31 : decode cX12_floods 31 = .ok (.getfield 284, 3) := by decide +kernel
theorem dX12_floods_34 : decode cX12_floods 34 = .ok (.imul, 1) := by decide +kernel
theorem dX12_floods_35 : decode cX12_floods 35 = .ok (.iload_n 3, 1) := by decide +kernel
theorem dX12_floods_36 : decode cX12_floods 36 = .ok (.iadd, 1) := by decide +kernel
theorem dX12_floods_37 : decode cX12_floods 37 = .ok (.iaload, 1) := by decide +kernel
theorem dX12_floods_38 : decode cX12_floods 38 = .ok (.iload_n 1, 1) := by decide +kernel
theorem dX12_floods_39 : decode cX12_floods 39 = .ok (.if_icmp .ne 10, 3) := by decide +kernel
theorem dX12_floods_42 : decode cX12_floods 42 = .ok (.aload_n 0, 1) := by decide +kernel
theorem dX12_floods_43 : decode cX12_floods 43 = .ok (.iload_n 3, 1) := by decide +kernel
theorem dX12_floods_44 : decode cX12_floods 44 = .ok (.iconst 4, 1) := by decide +kernel
theorem dX12_floods_45 : decode cX12_floods 45 = .ok (.iload_n 2, 1) := by decide +kernel
theorem dX12_floods_46 : decode cX12_floods 46 = .ok (.invokevirtual 453, 3) := by decide +kernel
theorem dX12_floods_49 : decode cX12_floods 49 = .ok (.iinc 3 1, 3) := by decide +kernel
theorem dX12_floods_52 : decode cX12_floods 52 = .ok (.goto (-50), 3) := by decide +kernel
theorem dX12_floods_55 : decode cX12_floods 55 = .ok (.return_, 1) := by decide +kernel
theorem dX12_pays_0 : decode cX12_pays 0 = .ok (.iconst 0, 1) := by decide +kernel
theorem dX12_pays_1 : decode cX12_pays 1 = .ok (.istore_n 2, 1) := by decide +kernel
theorem dX12_pays_2 : decode cX12_pays 2 = .ok (.iload_n 2, 1) := by decide +kernel
theorem dX12_pays_3 : decode cX12_pays 3 = .ok (.aload_n 0, 1) := by decide +kernel
theorem dX12_pays_4 : decode cX12_pays 4 = .ok (.getfield 67, 3) := by decide +kernel
theorem dX12_pays_7 : decode cX12_pays 7 = .ok (.aload_n 0, 1) := by decide +kernel
theorem dX12_pays_8 : decode cX12_pays 8 = .ok (.getfield 284, 3) := by decide +kernel
theorem dX12_pays_11 : decode cX12_pays 11 = .ok (.iaload, 1) := by decide +kernel
theorem dX12_pays_12 : decode cX12_pays 12 = .ok (.if_icmp .ge 118, 3) := by decide +kernel
theorem dX12_pays_15 : decode cX12_pays 15 = .ok (.aload_n 0, 1) := by decide +kernel
theorem dX12_pays_16 : decode cX12_pays 16 = .ok (.getfield 149, 3) := by decide +kernel
theorem dX12_pays_19 : decode cX12_pays 19 = .ok (.iload_n 2, 1) := by decide +kernel
theorem dX12_pays_20 : decode cX12_pays 20 = .ok (.iaload, 1) := by decide +kernel
theorem dX12_pays_21 : decode cX12_pays 21 = .ok (.ifCond .eq 6, 3) := by decide +kernel
theorem dX12_pays_24 : decode cX12_pays 24 = .ok (.goto 100, 3) := by decide +kernel
theorem dX12_pays_27 : decode cX12_pays 27 = .ok (.aload_n 0, 1) := by decide +kernel
theorem dX12_pays_28 : decode cX12_pays 28 = .ok (.iload_n 2, 1) := by decide +kernel
theorem dX12_pays_29 : decode cX12_pays 29 = .ok (.iload_n 1, 1) := by decide +kernel
theorem dX12_pays_30 : decode cX12_pays 30 = .ok (.invokevirtual 418, 3) := by decide +kernel
theorem dX12_pays_33 : decode cX12_pays 33 = .ok (.istore_n 3, 1) := by decide +kernel
theorem dX12_pays_34 : decode cX12_pays 34 = .ok (.aload_n 0, 1) := by decide +kernel
theorem dX12_pays_35 : decode cX12_pays 35 = .ok (.getfield 441, 3) := by decide +kernel
theorem dX12_pays_38 : decode cX12_pays 38 = .ok (.aload_n 0, 1) := by decide +kernel
theorem dX12_pays_39 : decode cX12_pays 39 = .ok (.iload_n 2, 1) := by decide +kernel
theorem dX12_pays_40 : decode cX12_pays 40 = .ok (.invokevirtual 403, 3) := by decide +kernel
theorem dX12_pays_43 : decode cX12_pays 43 = .ok (.ishr, 1) := by decide +kernel
theorem dX12_pays_44 : decode cX12_pays 44 = .ok (.iconst 1, 1) := by decide +kernel
theorem dX12_pays_45 : decode cX12_pays 45 = .ok (.iand, 1) := by decide +kernel
theorem dX12_pays_46 : decode cX12_pays 46 = .ok (.ifCond .ne 16, 3) := by decide +kernel
theorem dX12_pays_49 : decode cX12_pays 49 = .ok (.aload_n 0, 1) := by decide +kernel
theorem dX12_pays_50 : decode cX12_pays 50 = .ok (.getfield 164, 3) := by decide +kernel
theorem dX12_pays_53 : decode cX12_pays 53 = .ok (.iload_n 1, 1) := by decide +kernel
theorem dX12_pays_54 : decode cX12_pays 54 = .ok (.dup2, 1) := by decide +kernel
theorem dX12_pays_55 : decode cX12_pays 55 = .ok (.iaload, 1) := by decide +kernel
theorem dX12_pays_56 : decode cX12_pays 56 = .ok (.iload_n 3, 1) := by decide +kernel
theorem dX12_pays_57 : decode cX12_pays 57 = .ok (.iadd, 1) := by decide +kernel
theorem dX12_pays_58 : decode cX12_pays 58 = .ok (.iastore, 1) := by decide +kernel
theorem dX12_pays_59 : decode cX12_pays 59 = .ok (.goto 65, 3) := by decide +kernel
theorem dX12_pays_62 : decode cX12_pays 62 = .ok (.aload_n 0, 1) := by decide +kernel
theorem dX12_pays_63 : decode cX12_pays 63 = .ok (.getfield 155, 3) := by decide +kernel
theorem dX12_pays_66 : decode cX12_pays 66 = .ok (.iload_n 2, 1) := by decide +kernel
theorem dX12_pays_67 : decode cX12_pays 67 = .ok (.iaload, 1) := by decide +kernel
theorem dX12_pays_68 : decode cX12_pays 68 = .ok (.iload_n 3, 1) := by decide +kernel
theorem dX12_pays_69 : decode cX12_pays 69 = .ok (.if_icmp .ge 35, 3) := by decide +kernel
theorem dX12_pays_72 : decode cX12_pays 72 = .ok (.aload_n 0, 1) := by decide +kernel
theorem dX12_pays_73 : decode cX12_pays 73 = .ok (.getfield 164, 3) := by decide +kernel
theorem dX12_pays_76 : decode cX12_pays 76 = .ok (.iload_n 1, 1) := by decide +kernel
theorem dX12_pays_77 : decode cX12_pays 77 = .ok (.dup2, 1) := by decide +kernel
theorem dX12_pays_78 : decode cX12_pays 78 = .ok (.iaload, 1) := by decide +kernel
theorem dX12_pays_79 : decode cX12_pays 79 = .ok (.aload_n 0, 1) := by decide +kernel
theorem dX12_pays_80 : decode cX12_pays 80 = .ok (.getfield 155, 3) := by decide +kernel
theorem dX12_pays_83 : decode cX12_pays 83 = .ok (.iload_n 2, 1) := by decide +kernel
theorem dX12_pays_84 : decode cX12_pays 84 = .ok (.iaload, 1) := by decide +kernel
theorem dX12_pays_85 : decode cX12_pays 85 = .ok (.iadd, 1) := by decide +kernel
theorem dX12_pays_86 : decode cX12_pays 86 = .ok (.iastore, 1) := by decide +kernel
theorem dX12_pays_87 : decode cX12_pays 87 = .ok (.aload_n 0, 1) := by decide +kernel
theorem dX12_pays_88 : decode cX12_pays 88 = .ok (.getfield 155, 3) := by decide +kernel
theorem dX12_pays_91 : decode cX12_pays 91 = .ok (.iload_n 2, 1) := by decide +kernel
theorem dX12_pays_92 : decode cX12_pays 92 = .ok (.iconst 0, 1) := by decide +kernel
theorem dX12_pays_93 : decode cX12_pays 93 = .ok (.iastore, 1) := by decide +kernel
theorem dX12_pays_94 : decode cX12_pays 94 = .ok (.aload_n 0, 1) := by decide +kernel
theorem dX12_pays_95 : decode cX12_pays 95 = .ok (.iload_n 2, 1) := by decide +kernel
theorem dX12_pays_96 : decode cX12_pays 96 = .ok (.iconst 5, 1) := by decide +kernel
theorem dX12_pays_97 : decode cX12_pays 97 = .ok (.iload_n 1, 1) := by decide +kernel
theorem dX12_pays_98 : decode cX12_pays 98 = .ok (.invokevirtual 453, 3) := by decide +kernel
theorem dX12_pays_101 : decode cX12_pays 101 = .ok (.goto 23, 3) := by decide +kernel
theorem dX12_pays_104 : decode cX12_pays 104 = .ok (.aload_n 0, 1) := by decide +kernel
theorem dX12_pays_105 : decode cX12_pays 105 = .ok (.getfield 164, 3) := by decide +kernel
theorem dX12_pays_108 : decode cX12_pays 108 = .ok (.iload_n 1, 1) := by decide +kernel
theorem dX12_pays_109 : decode cX12_pays 109 = .ok (.dup2, 1) := by decide +kernel
theorem dX12_pays_110 : decode cX12_pays 110 = .ok (.iaload, 1) := by decide +kernel
theorem dX12_pays_111 : decode cX12_pays 111 = .ok (.iload_n 3, 1) := by decide +kernel
theorem dX12_pays_112 : decode cX12_pays 112 = .ok (.iadd, 1) := by decide +kernel
theorem dX12_pays_113 : decode cX12_pays 113 = .ok (.iastore, 1) := by decide +kernel
theorem dX12_pays_114 : decode cX12_pays 114 = .ok (.aload_n 0, 1) := by decide +kernel
theorem dX12_pays_115 : decode cX12_pays 115 = .ok (.getfield 155, 3) := by decide +kernel
theorem dX12_pays_118 : decode cX12_pays 118 = .ok (.iload_n 2, 1) := by decide +kernel
theorem dX12_pays_119 : decode cX12_pays 119 = .ok (.dup2, 1) := by decide +kernel
theorem dX12_pays_120 : decode cX12_pays 120 = .ok (.iaload, 1) := by decide +kernel
theorem dX12_pays_121 : decode cX12_pays 121 = .ok (.iload_n 3, 1) := by decide +kernel
theorem dX12_pays_122 : decode cX12_pays 122 = .ok (.isub, 1) := by decide +kernel
theorem dX12_pays_123 : decode cX12_pays 123 = .ok (.iastore, 1) := by decide +kernel
theorem dX12_pays_124 : decode cX12_pays 124 = .ok (.iinc 2 1, 3) := by decide +kernel
theorem dX12_pays_127 : decode cX12_pays 127 = .ok (.goto (-125), 3) := by decide +kernel
theorem dX12_pays_130 : decode cX12_pays 130 = .ok (.return_, 1) := by decide +kernel
theorem dX12_isDue_0 : decode cX12_isDue 0 = .ok (.aload_n 0, 1) := by decide +kernel
theorem dX12_isDue_1 : decode cX12_isDue 1 = .ok (.getfield 149, 3) := by decide +kernel
theorem dX12_isDue_4 : decode cX12_isDue 4 = .ok (.iload_n 1, 1) := by decide +kernel
theorem dX12_isDue_5 : decode cX12_isDue 5 = .ok (.iaload, 1) := by decide +kernel
theorem dX12_isDue_6 : decode cX12_isDue 6 = .ok (.ifCond .ne 58, 3) := by decide +kernel
theorem dX12_isDue_9 : decode cX12_isDue 9 = .ok (.aload_n 0, 1) := by decide +kernel
theorem dX12_isDue_10 : decode cX12_isDue 10 = .ok (.iload_n 1, 1) := by decide +kernel
theorem dX12_isDue_11 : decode cX12_isDue 11 = .ok (.iload_n 2, 1) := by decide +kernel
theorem dX12_isDue_12 : decode cX12_isDue 12 = .ok (.aload_n 0, 1) := by decide +kernel
theorem dX12_isDue_13 : decode cX12_isDue 13 = .ok (.getfield 441, 3) := by decide +kernel
theorem dX12_isDue_16 : decode cX12_isDue 16 = .ok (.aload_n 0, 1) := by decide +kernel
theorem dX12_isDue_17 : decode cX12_isDue 17 = .ok (.getfield 444, 3) := by decide +kernel
theorem dX12_isDue_20 : decode cX12_isDue 20 = .ok (.invokevirtual 456, 3) := by decide +kernel
theorem dX12_isDue_23 : decode cX12_isDue 23 = .ok (.ifCond .eq 41, 3) := by decide +kernel
theorem dX12_isDue_26 : decode cX12_isDue 26 = .ok (.aload_n 0, 1) := by decide +kernel
theorem dX12_isDue_27 : decode cX12_isDue 27 = .ok (.getfield 158, 3) := by decide +kernel
theorem dX12_isDue_30 : decode cX12_isDue 30 = .ok (.iload_n 1, 1) := by decide +kernel
theorem dX12_isDue_31 : decode cX12_isDue 31 = .ok (.iaload, 1) := by decide +kernel
theorem dX12_isDue_32 : decode cX12_isDue 32 = .ok (.iload_n 2, 1) := by decide +kernel
theorem dX12_isDue_33 : decode cX12_isDue 33 = .ok (.if_icmp .gt 31, 3) := by decide +kernel
theorem dX12_isDue_36 : decode cX12_isDue 36 = .ok (.aload_n 0, 1) := by decide +kernel
theorem dX12_isDue_37 : decode cX12_isDue 37 = .ok (.getfield 441, 3) := by decide +kernel
theorem dX12_isDue_40 : decode cX12_isDue 40 = .ok (.aload_n 0, 1) := by decide +kernel
theorem dX12_isDue_41 : decode cX12_isDue 41 = .ok (.iload_n 1, 1) := by decide +kernel
theorem dX12_isDue_42 : decode cX12_isDue 42 = .ok (.invokevirtual 406, 3) := by decide +kernel
theorem dX12_isDue_45 : decode cX12_isDue 45 = .ok (.ishr, 1) := by decide +kernel
theorem dX12_isDue_46 : decode cX12_isDue 46 = .ok (.iconst 1, 1) := by decide +kernel
theorem dX12_isDue_47 : decode cX12_isDue 47 = .ok (.iand, 1) := by decide +kernel
theorem dX12_isDue_48 : decode cX12_isDue 48 = .ok (.ifCond .ne 16, 3) := by decide +kernel
theorem dX12_isDue_51 : decode cX12_isDue 51 = .ok (.aload_n 0, 1) := by decide +kernel
theorem dX12_isDue_52 : decode cX12_isDue 52 = .ok (.iload_n 1, 1) := by decide +kernel
theorem dX12_isDue_53 : decode cX12_isDue 53 = .ok (.iload_n 2, 1) := by decide +kernel
theorem dX12_isDue_54 : decode cX12_isDue 54 = .ok (.invokevirtual 463, 3) := by decide +kernel
theorem dX12_isDue_57 : decode cX12_isDue 57 = .ok (.ifCond .ne 7, 3) := by decide +kernel
theorem dX12_isDue_60 : decode cX12_isDue 60 = .ok (.iconst 1, 1) := by decide +kernel
theorem dX12_isDue_61 : decode cX12_isDue 61 = .ok (.goto 4, 3) := by decide +kernel
theorem dX12_isDue_64 : decode cX12_isDue 64 = .ok (.iconst 0, 1) := by decide +kernel
theorem dX12_isDue_65 : decode cX12_isDue 65 = .ok (.ireturn, 1) := by decide +kernel
theorem dX12_looksNow_0 : decode cX12_looksNow 0 = .ok (.aload_n 0, 1) := by decide +kernel
theorem dX12_looksNow_1 : decode cX12_looksNow 1 = .ok (.iconst 0, 1) := by decide +kernel
theorem dX12_looksNow_2 : decode cX12_looksNow 2 = .ok (.putfield 450, 3) := by decide +kernel
theorem dX12_looksNow_5 : decode cX12_looksNow 5 = .ok (.iconst 1, 1) := by decide +kernel
theorem dX12_looksNow_6 : decode cX12_looksNow 6 = .ok (.istore_n 2, 1) := by decide +kernel
theorem dX12_looksNow_7 : decode cX12_looksNow 7 = .ok (.iload_n 2, 1) := by decide +kernel
theorem dX12_looksNow_8 : decode cX12_looksNow 8 = .ok (.ifCond .eq 74, 3) := by decide +kernel
theorem dX12_looksNow_11 : decode cX12_looksNow 11 = .ok (.iconst 0, 1) := by decide +kernel
theorem dX12_looksNow_12 : decode cX12_looksNow 12 = .ok (.istore_n 2, 1) := by decide +kernel
theorem dX12_looksNow_13 : decode cX12_looksNow 13 = .ok (.iconst 0, 1) := by decide +kernel
theorem dX12_looksNow_14 : decode cX12_looksNow 14 = .ok (.istore_n 3, 1) := by decide +kernel
theorem dX12_looksNow_15 : decode cX12_looksNow 15 = .ok (.iload_n 3, 1) := by decide +kernel
theorem dX12_looksNow_16 : decode cX12_looksNow 16 = .ok (.aload_n 0, 1) := by decide +kernel
theorem dX12_looksNow_17 : decode cX12_looksNow 17 = .ok (.getfield 67, 3) := by decide +kernel
theorem dX12_looksNow_20 : decode cX12_looksNow 20 = .ok (.aload_n 0, 1) := by decide +kernel
theorem dX12_looksNow_21 : decode cX12_looksNow 21 = .ok (.getfield 284, 3) := by decide +kernel
theorem dX12_looksNow_24 : decode cX12_looksNow 24 = .ok (.iaload, 1) := by decide +kernel
theorem dX12_looksNow_25 : decode cX12_looksNow 25 = .ok (.if_icmp .ge 54, 3) := by decide +kernel
theorem dX12_looksNow_28 : decode cX12_looksNow 28 = .ok (.iload_n 2, 1) := by decide +kernel
theorem dX12_looksNow_29 : decode cX12_looksNow 29 = .ok (.ifCond .ne 50, 3) := by decide +kernel
theorem dX12_looksNow_32 : decode cX12_looksNow 32 = .ok (.aload_n 0, 1) := by decide +kernel
theorem dX12_looksNow_33 : decode cX12_looksNow 33 = .ok (.iload_n 3, 1) := by decide +kernel
theorem dX12_looksNow_34 : decode cX12_looksNow 34 = .ok (.iload_n 1, 1) := by decide +kernel
theorem dX12_looksNow_35 : decode cX12_looksNow 35 = .ok (.invokevirtual 466, 3) := by decide +kernel
theorem dX12_looksNow_38 : decode cX12_looksNow 38 = .ok (.ifCond .ne 6, 3) := by decide +kernel
theorem dX12_looksNow_41 : decode cX12_looksNow 41 = .ok (.goto 32, 3) := by decide +kernel
theorem dX12_looksNow_44 : decode cX12_looksNow 44 = .ok (.aload_n 0, 1) := by decide +kernel
theorem dX12_looksNow_45 : decode cX12_looksNow 45 = .ok (.iload_n 3, 1) := by decide +kernel
theorem dX12_looksNow_46 : decode cX12_looksNow 46 = .ok (.iconst 1, 1) := by decide +kernel
theorem dX12_looksNow_47 : decode cX12_looksNow 47 = .ok (.iload_n 1, 1) := by decide +kernel
theorem dX12_looksNow_48 : decode cX12_looksNow 48 = .ok (.invokevirtual 453, 3) := by decide +kernel
theorem dX12_looksNow_51 : decode cX12_looksNow 51 = .ok (.aload_n 0, 1) := by decide +kernel
theorem dX12_looksNow_52 : decode cX12_looksNow 52 = .ok (.getfield 167, 3) := by decide +kernel
theorem dX12_looksNow_55 : decode cX12_looksNow 55 = .ok (.aload_n 0, 1) := by decide +kernel
theorem dX12_looksNow_56 : decode cX12_looksNow 56 = .ok (.getfield 450, 3) := by decide +kernel
theorem dX12_looksNow_59 : decode cX12_looksNow 59 = .ok (.iload_n 3, 1) := by decide +kernel
theorem dX12_looksNow_60 : decode cX12_looksNow 60 = .ok (.iastore, 1) := by decide +kernel
theorem dX12_looksNow_61 : decode cX12_looksNow 61 = .ok (.aload_n 0, 1) := by decide +kernel
theorem dX12_looksNow_62 : decode cX12_looksNow 62 = .ok (.dup, 1) := by decide +kernel
theorem dX12_looksNow_63 : decode cX12_looksNow 63 = .ok (.getfield 450, 3) := by decide +kernel
theorem dX12_looksNow_66 : decode cX12_looksNow 66 = .ok (.iconst 1, 1) := by decide +kernel
theorem dX12_looksNow_67 : decode cX12_looksNow 67 = .ok (.iadd, 1) := by decide +kernel
theorem dX12_looksNow_68 : decode cX12_looksNow 68 = .ok (.putfield 450, 3) := by decide +kernel
theorem dX12_looksNow_71 : decode cX12_looksNow 71 = .ok (.iconst 1, 1) := by decide +kernel
theorem dX12_looksNow_72 : decode cX12_looksNow 72 = .ok (.istore_n 2, 1) := by decide +kernel
theorem dX12_looksNow_73 : decode cX12_looksNow 73 = .ok (.iinc 3 1, 3) := by decide +kernel
theorem dX12_looksNow_76 : decode cX12_looksNow 76 = .ok (.goto (-61), 3) := by decide +kernel
theorem dX12_looksNow_79 : decode cX12_looksNow 79 = .ok (.goto (-72), 3) := by decide +kernel
theorem dX12_looksNow_82 : decode cX12_looksNow 82 = .ok (.return_, 1) := by decide +kernel
theorem dX12_runs_0 : decode cX12_runs 0 = .ok (.aload_n 0, 1) := by decide +kernel
theorem dX12_runs_1 : decode cX12_runs 1 = .ok (.invokevirtual 469, 3) := by decide +kernel
theorem dX12_runs_4 : decode cX12_runs 4 = .ok (.iconst 0, 1) := by decide +kernel
theorem dX12_runs_5 : decode cX12_runs 5 = .ok (.istore 7, 2) := by decide +kernel
theorem dX12_runs_7 : decode cX12_runs 7 = .ok (.iload 7, 2) := by decide +kernel
theorem dX12_runs_9 : decode cX12_runs 9 = .ok (.iload_n 1, 1) := by decide +kernel
theorem dX12_runs_10 : decode cX12_runs 10 = .ok (.if_icmp .ge 23, 3) := by decide +kernel
theorem dX12_runs_13 : decode cX12_runs 13 = .ok (.aload_n 0, 1) := by decide +kernel
theorem dX12_runs_14 : decode cX12_runs 14 = .ok (.getfield 170, 3) := by decide +kernel
theorem dX12_runs_17 : decode cX12_runs 17 = .ok (.iload 7, 2) := by decide +kernel
theorem dX12_runs_19 : decode cX12_runs 19 = .ok (.aload_n 0, 1) := by decide +kernel
theorem dX12_runs_20 : decode cX12_runs 20 = .ok (.iload 7, 2) := by decide +kernel
theorem dX12_runs_22 : decode cX12_runs 22 = .ok (.iload_n 1, 1) := by decide +kernel
theorem dX12_runs_23 : decode cX12_runs 23 = .ok (.invokevirtual 432, 3) := by decide +kernel
theorem dX12_runs_26 : decode cX12_runs 26 = .ok (.bastore, 1) := by decide +kernel
theorem dX12_runs_27 : decode cX12_runs 27 = .ok (.iinc 7 1, 3) := by decide +kernel
theorem dX12_runs_30 : decode cX12_runs 30 = .ok (.goto (-23), 3) := by decide +kernel
theorem dX12_runs_33 : decode cX12_runs 33 = .ok (.iconst 0, 1) := by decide +kernel
theorem dX12_runs_34 : decode cX12_runs 34 = .ok (.istore 7, 2) := by decide +kernel
theorem dX12_runs_36 : decode cX12_runs 36 = .ok (.iload 7, 2) := by decide +kernel
theorem dX12_runs_38 : decode cX12_runs 38 = .ok (.iload 6, 2) := by decide +kernel
theorem dX12_runs_40 : decode cX12_runs 40 = .ok (.if_icmp .gt 98, 3) := by decide +kernel
theorem dX12_runs_43 : decode cX12_runs 43 = .ok (.iconst 0, 1) := by decide +kernel
theorem dX12_runs_44 : decode cX12_runs 44 = .ok (.istore 8, 2) := by decide +kernel
theorem dX12_runs_46 : decode cX12_runs 46 = .ok (.iload 8, 2) := by decide +kernel
theorem dX12_runs_48 : decode cX12_runs 48 = .ok (.iload_n 1, 1) := by decide +kernel
theorem dX12_runs_49 : decode cX12_runs 49 = .ok (.if_icmp .ge 39, 3) := by decide +kernel
theorem dX12_runs_52 : decode cX12_runs 52 = .ok (.aload_n 0, 1) := by decide +kernel
theorem dX12_runs_53 : decode cX12_runs 53 = .ok (.getfield 170, 3) := by decide +kernel
theorem dX12_runs_56 : decode cX12_runs 56 = .ok (.iload 8, 2) := by decide +kernel
theorem dX12_runs_58 : decode cX12_runs 58 = .ok (.baload, 1) := by decide +kernel
theorem dX12_runs_59 : decode cX12_runs 59 = .ok (.ifCond .eq 23, 3) := by decide +kernel
theorem dX12_runs_62 : decode cX12_runs 62 = .ok (.aload_n 0, 1) := by decide +kernel
theorem dX12_runs_63 : decode cX12_runs 63 = .ok (.getfield 140, 3) := by decide +kernel
theorem dX12_runs_66 : decode cX12_runs 66 = .ok (.iload 8, 2) := by decide +kernel
theorem dX12_runs_68 : decode cX12_runs 68 = .ok (.iaload, 1) := by decide +kernel
theorem dX12_runs_69 : decode cX12_runs 69 = .ok (.iload 7, 2) := by decide +kernel
theorem dX12_runs_71 : decode cX12_runs 71 = .ok (.if_icmp .ne 11, 3) := by decide +kernel
theorem dX12_runs_74 : decode cX12_runs 74 = .ok (.aload_n 0, 1) := by decide +kernel
theorem dX12_runs_75 : decode cX12_runs 75 = .ok (.iload 8, 2) := by decide +kernel
theorem dX12_runs_77 : decode cX12_runs 77 = .ok (.iload 5, 2) := by decide +kernel
theorem dX12_runs_79 : decode cX12_runs 79 = .ok (.invokevirtual 472, 3) := by decide +kernel
theorem dX12_runs_82 : decode cX12_runs 82 = .ok (.iinc 8 1, 3) := by decide +kernel
theorem dX12_runs_85 : decode cX12_runs 85 = .ok (.goto (-39), 3) := by decide +kernel
theorem dX12_runs_88 : decode cX12_runs 88 = .ok (.aload_n 0, 1) := by decide +kernel
theorem dX12_runs_89 : decode cX12_runs 89 = .ok (.iload 7, 2) := by decide +kernel
theorem dX12_runs_91 : decode cX12_runs 91 = .ok (.invokevirtual 476, 3) := by decide +kernel
theorem dX12_runs_94 : decode cX12_runs 94 = .ok (.aload_n 0, 1) := by decide +kernel
theorem dX12_runs_95 : decode cX12_runs 95 = .ok (.iconst 0, 1) := by decide +kernel
theorem dX12_runs_96 : decode cX12_runs 96 = .ok (.putfield 450, 3) := by decide +kernel
theorem dX12_runs_99 : decode cX12_runs 99 = .ok (.iload_n 2, 1) := by decide +kernel
theorem dX12_runs_100 : decode cX12_runs 100 = .ok (.ifCond .ne 19, 3) := by decide +kernel
theorem dX12_runs_103 : decode cX12_runs 103 = .ok (.iload 7, 2) := by decide +kernel
theorem dX12_runs_105 : decode cX12_runs 105 = .ok (.iload_n 3, 1) := by decide +kernel
theorem dX12_runs_106 : decode cX12_runs 106 = .ok (.if_icmp .eq 20, 3) := by decide +kernel
theorem dX12_runs_109 : decode cX12_runs 109 = .ok (.iload 7, 2) := by decide +kernel
theorem dX12_runs_111 : decode cX12_runs 111 = .ok (.iload 4, 2) := by decide +kernel
theorem dX12_runs_113 : decode cX12_runs 113 = .ok (.if_icmp .ne 19, 3) := by decide +kernel
theorem dX12_runs_116 : decode cX12_runs 116 = .ok (.goto 10, 3) := by decide +kernel
theorem dX12_runs_119 : decode cX12_runs 119 = .ok (.iload 7, 2) := by decide +kernel
theorem dX12_runs_121 : decode cX12_runs 121 = .ok (.iload_n 2, 1) := by decide +kernel
theorem dX12_runs_122 : decode cX12_runs 122 = .ok (.irem, 1) := by decide +kernel
theorem dX12_runs_123 : decode cX12_runs 123 = .ok (.ifCond .ne 9, 3) := by decide +kernel
theorem dX12_runs_126 : decode cX12_runs 126 = .ok (.aload_n 0, 1) := by decide +kernel
theorem dX12_runs_127 : decode cX12_runs 127 = .ok (.iload 7, 2) := by decide +kernel
theorem dX12_runs_129 : decode cX12_runs 129 = .ok (.invokevirtual 479, 3) := by decide +kernel
theorem dX12_runs_132 : decode cX12_runs 132 = .ok (.iinc 7 1, 3) := by decide +kernel
theorem dX12_runs_135 : decode cX12_runs 135 = .ok (.goto (-99), 3) := by decide +kernel
theorem dX12_runs_138 : decode cX12_runs 138 = .ok (.return_, 1) := by decide +kernel
