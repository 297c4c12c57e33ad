theorem dX0_init_0 : decode cX0_init 0 = .ok (.aload_n 0, 1) := by decide +kernel
theorem dX0_init_1 : decode cX0_init 1 = .ok (.invokespecial 3, 3) := by decide +kernel
theorem dX0_init_4 : decode cX0_init 4 = .ok (.aload_n 0, 1) := by decide +kernel
theorem dX0_init_5 : decode cX0_init 5 = .ok (.bipush 10, 2) := by decide +kernel
theorem dX0_init_7 : decode cX0_init 7 = .ok (.newarray .int, 2) := by decide +kernel
theorem dX0_init_9 : decode cX0_init 9 = .ok (.putfield 9, 3) := by decide +kernel
theorem dX0_init_12 : decode cX0_init 12 = .ok (.aload_n 0, 1) := by decide +kernel
theorem dX0_init_13 : decode cX0_init 13 = .ok (.iconst 4, 1) := by decide +kernel
theorem dX0_init_14 : decode cX0_init 14 = .ok (.newarray .int, 2) := by decide +kernel
theorem dX0_init_16 : decode cX0_init 16 = .ok (.putfield 15, 3) := by decide +kernel
theorem dX0_init_19 : decode cX0_init 19 = .ok (.aload_n 0, 1) := by decide +kernel
theorem dX0_init_20 : decode cX0_init 20 = .ok (.bipush 10, 2) := by decide +kernel
theorem dX0_init_22 : decode cX0_init 22 = .ok (.anewarray 18, 3) := by decide +kernel
theorem dX0_init_25 : decode cX0_init 25 = .ok (.putfield 20, 3) := by decide +kernel
theorem dX0_init_28 : decode cX0_init 28 = .ok (.aload_n 0, 1) := by decide +kernel
theorem dX0_init_29 : decode cX0_init 29 = .ok (.sipush 400, 3) := by decide +kernel
theorem dX0_init_32 : decode cX0_init 32 = .ok (.newarray .int, 2) := by decide +kernel
theorem dX0_init_34 : decode cX0_init 34 = .ok (.putfield 24, 3) := by decide +kernel
theorem dX0_init_37 : decode cX0_init 37 = .ok (.aload_n 0, 1) := by decide +kernel
theorem dX0_init_38 : decode cX0_init 38 = .ok (.iconst 3, 1) := by decide +kernel
theorem dX0_init_39 : decode cX0_init 39 = .ok (.newarray .int, 2) := by decide +kernel
theorem dX0_init_41 : decode cX0_init 41 = .ok (.putfield 27, 3) := by decide +kernel
theorem dX0_init_44 : decode cX0_init 44 = .ok (.aload_n 0, 1) := by decide +kernel
theorem dX0_init_45 : decode cX0_init 45 = .ok (.iconst 3, 1) := by decide +kernel
theorem dX0_init_46 : decode cX0_init 46 = .ok (.newarray .int, 2) := by decide +kernel
theorem dX0_init_48 : decode cX0_init 48 = .ok (.putfield 30, 3) := by decide +kernel
theorem dX0_init_51 : decode cX0_init 51 = .ok (.iconst 0, 1) := by decide +kernel
theorem dX0_init_52 : decode cX0_init 52 = .ok (.istore_n 1, 1) := by decide +kernel
theorem dX0_init_53 : decode cX0_init 53 = .ok (.iload_n 1, 1) := by decide +kernel
theorem dX0_init_54 : decode cX0_init 54 = .ok (.bipush 10, 2) := by decide +kernel
theorem dX0_init_56 : decode cX0_init 56 = .ok (.if_icmp .ge 22, 3) := by decide +kernel
theorem dX0_init_59 : decode cX0_init 59 = .ok (.aload_n 0, 1) := by decide +kernel
theorem dX0_init_60 : decode cX0_init 60 = .ok (.getfield 20, 3) := by decide +kernel
theorem dX0_init_63 : decode cX0_init 63 = .ok (.iload_n 1, 1) := by decide +kernel
theorem dX0_init_64 : decode cX0_init 64 = .ok (.new 18, 3) := by decide +kernel
theorem dX0_init_67 : decode cX0_init 67 = .ok (.dup, 1) := by decide +kernel
theorem dX0_init_68 : decode cX0_init 68 = .ok (.invokespecial 33, 3) := by decide +kernel
theorem dX0_init_71 : decode cX0_init 71 = .ok (.aastore, 1) := by decide +kernel
theorem dX0_init_72 : decode cX0_init 72 = .ok (.iinc 1 1, 3) := by decide +kernel
theorem dX0_init_75 : decode cX0_init 75 = .ok (.goto (-22), 3) := by decide +kernel
theorem dX0_init_78 : decode cX0_init 78 = .ok (.aload_n 0, 1) := by decide +kernel
theorem dX0_init_79 : decode cX0_init 79 = .ok (.invokevirtual 34, 3) := by decide +kernel
theorem dX0_init_82 : decode cX0_init 82 = .ok (.return_, 1) := by decide +kernel
theorem dX0_clear_0 : decode cX0_clear 0 = .ok (.aload_n 0, 1) := by decide +kernel
theorem dX0_clear_1 : decode cX0_clear 1 = .ok (.iconst 0, 1) := by decide +kernel
theorem dX0_clear_2 : decode cX0_clear 2 = .ok (.putfield 37, 3) := by decide +kernel
theorem dX0_clear_5 : decode cX0_clear 5 = .ok (.aload_n 0, 1) := by decide +kernel
theorem dX0_clear_6 : decode cX0_clear 6 = .ok (.iconst 0, 1) := by decide +kernel
theorem dX0_clear_7 : decode cX0_clear 7 = .ok (.putfield 41, 3) := by decide +kernel
theorem dX0_clear_10 : decode cX0_clear 10 = .ok (.aload_n 0, 1) := by decide +kernel
theorem dX0_clear_11 : decode cX0_clear 11 = .ok (.iconst 0, 1) := by decide +kernel
theorem dX0_clear_12 : decode cX0_clear 12 = .ok (.putfield 44, 3) := by decide +kernel
theorem dX0_clear_15 : decode cX0_clear 15 = .ok (.aload_n 0, 1) := by decide +kernel
theorem dX0_clear_16 : decode cX0_clear 16 = .ok (.iconst 0, 1) := by decide +kernel
theorem dX0_clear_17 : decode cX0_clear 17 = .ok (.putfield 47, 3) := by decide +kernel
theorem dX0_clear_20 : decode cX0_clear 20 = .ok (.aload_n 0, 1) := by decide +kernel
theorem dX0_clear_21 : decode cX0_clear 21 = .ok (.bipush 10, 2) := by decide +kernel
theorem dX0_clear_23 : decode cX0_clear 23 = .ok (.putfield 50, 3) := by decide +kernel
theorem dX0_clear_26 : decode cX0_clear 26 = .ok (.aload_n 0, 1) := by decide +kernel
theorem dX0_clear_27 : decode cX0_clear 27 = .ok (.iconst 0, 1) := by decide +kernel
theorem dX0_clear_28 : decode cX0_clear 28 = .ok (.putfield 53, 3) := by decide +kernel
theorem dX0_clear_31 : decode cX0_clear 31 = .ok (.aload_n 0, 1) := by decide +kernel
theorem dX0_clear_32 : decode cX0_clear 32 = .ok (.getfield 15, 3) := by decide +kernel
theorem dX0_clear_35 : decode cX0_clear 35 = .ok (.iconst 0, 1) := by decide +kernel
theorem dX0_clear_36 : decode cX0_clear 36 = .ok (.invokestatic 56, 3) := by decide +kernel
theorem dX0_clear_39 : decode cX0_clear 39 = .ok (.aload_n 0, 1) := by decide +kernel
theorem dX0_clear_40 : decode cX0_clear 40 = .ok (.getfield 27, 3) := by decide +kernel
theorem dX0_clear_43 : decode cX0_clear 43 = .ok (.iconst (-1), 1) := by decide +kernel
theorem dX0_clear_44 : decode cX0_clear 44 = .ok (.invokestatic 56, 3) := by decide +kernel
theorem dX0_clear_47 : decode cX0_clear 47 = .ok (.aload_n 0, 1) := by decide +kernel
theorem dX0_clear_48 : decode cX0_clear 48 = .ok (.getfield 30, 3) := by decide +kernel
theorem dX0_clear_51 : decode cX0_clear 51 = .ok (.iconst (-1), 1) := by decide +kernel
theorem dX0_clear_52 : decode cX0_clear 52 = .ok (.invokestatic 56, 3) := by decide +kernel
theorem dX0_clear_55 : decode cX0_clear 55 = .ok (.return_, 1) := by decide +kernel
theorem dX0_become_0 : decode cX0_become 0 = .ok (.aload_n 0, 1) := by decide +kernel
theorem dX0_become_1 : decode cX0_become 1 = .ok (.aload_n 1, 1) := by decide +kernel
theorem dX0_become_2 : decode cX0_become 2 = .ok (.getfield 37, 3) := by decide +kernel
theorem dX0_become_5 : decode cX0_become 5 = .ok (.putfield 37, 3) := by decide +kernel
theorem dX0_become_8 : decode cX0_become 8 = .ok (.aload_n 0, 1) := by decide +kernel
theorem dX0_become_9 : decode cX0_become 9 = .ok (.aload_n 1, 1) := by decide +kernel
theorem dX0_become_10 : decode cX0_become 10 = .ok (.getfield 41, 3) := by decide +kernel
theorem dX0_become_13 : decode cX0_become 13 = .ok (.putfield 41, 3) := by decide +kernel
theorem dX0_become_16 : decode cX0_become 16 = .ok (.aload_n 0, 1) := by decide +kernel
theorem dX0_become_17 : decode cX0_become 17 = .ok (.aload_n 1, 1) := by decide +kernel
theorem dX0_become_18 : decode cX0_become 18 = .ok (.getfield 44, 3) := by decide +kernel
theorem dX0_become_21 : decode cX0_become 21 = .ok (.putfield 44, 3) := by decide +kernel
theorem dX0_become_24 : decode cX0_become 24 = .ok (.aload_n 0, 1) := by decide +kernel
theorem dX0_become_25 : decode cX0_become 25 = .ok (.aload_n 1, 1) := by decide +kernel
theorem dX0_become_26 : decode cX0_become 26 = .ok (.getfield 47, 3) := by decide +kernel
theorem dX0_become_29 : decode cX0_become 29 = .ok (.putfield 47, 3) := by decide +kernel
theorem dX0_become_32 : decode cX0_become 32 = .ok (.aload_n 0, 1) := by decide +kernel
theorem dX0_become_33 : decode cX0_become 33 = .ok (.aload_n 1, 1) := by decide +kernel
theorem dX0_become_34 : decode cX0_become 34 = .ok (.getfield 50, 3) := by decide +kernel
theorem dX0_become_37 : decode cX0_become 37 = .ok (.putfield 50, 3) := by decide +kernel
theorem dX0_become_40 : decode cX0_become 40 = .ok (.aload_n 0, 1) := by decide +kernel
theorem dX0_become_41 : decode cX0_become 41 = .ok (.aload_n 1, 1) := by decide +kernel
theorem dX0_become_42 : decode cX0_become 42 = .ok (.getfield 53, 3) := by decide +kernel
theorem dX0_become_45 : decode cX0_become 45 = .ok (.putfield 53, 3) := by decide +kernel
theorem dX0_become_48 : decode cX0_become 48 = .ok (.aload_n 1, 1) := by decide +kernel
theorem dX0_become_49 : decode cX0_become 49 = .ok (.getfield 9, 3) := by decide +kernel
theorem dX0_become_52 : decode cX0_become 52 = .ok (.iconst 0, 1) := by decide +kernel
theorem dX0_become_53 : decode cX0_become 53 = .ok (.aload_n 0, 1) := by decide +kernel
theorem dX0_become_54 : decode cX0_become 54 = .ok (.getfield 9, 3) := by decide +kernel
theorem dX0_become_57 : decode cX0_become 57 = .ok (.iconst 0, 1) := by decide +kernel
theorem dX0_become_58 : decode cX0_become 58 = .ok (.bipush 10, 2) := by decide +kernel
theorem dX0_become_60 : decode cX0_become 60 = .ok (.invokestatic 62, 3) := by decide +kernel
theorem dX0_become_63 : decode cX0_become 63 = .ok (.aload_n 1, 1) := by decide +kernel
theorem dX0_become_64 : decode cX0_become 64 = .ok (.getfield 15, 3) := by decide +kernel
theorem dX0_become_67 : decode cX0_become 67 = .ok (.iconst 0, 1) := by decide +kernel
theorem dX0_become_68 : decode cX0_become 68 = .ok (.aload_n 0, 1) := by decide +kernel
theorem dX0_become_69 : decode cX0_become 69 = .ok (.getfield 15, 3) := by decide +kernel
theorem dX0_become_72 : decode cX0_become 72 = .ok (.iconst 0, 1) := by decide +kernel
theorem dX0_become_73 : decode cX0_become 73 = .ok (.iconst 4, 1) := by decide +kernel
theorem dX0_become_74 : decode cX0_become 74 = .ok (.invokestatic 62, 3) := by decide +kernel
theorem dX0_become_77 : decode cX0_become 77 = .ok (.aload_n 1, 1) := by decide +kernel
theorem dX0_become_78 : decode cX0_become 78 = .ok (.getfield 24, 3) := by decide +kernel
theorem dX0_become_81 : decode cX0_become 81 = .ok (.iconst 0, 1) := by decide +kernel
theorem dX0_become_82 : decode cX0_become 82 = .ok (.aload_n 0, 1) := by decide +kernel
theorem dX0_become_83 : decode cX0_become 83 = .ok (.getfield 24, 3) := by decide +kernel
theorem dX0_become_86 : decode cX0_become 86 = .ok (.iconst 0, 1) := by decide +kernel
theorem dX0_become_87 : decode cX0_become 87 = .ok (.sipush 400, 3) := by decide +kernel
theorem dX0_become_90 : decode cX0_become 90 = .ok (.invokestatic 62, 3) := by decide +kernel
theorem dX0_become_93 : decode cX0_become 93 = .ok (.aload_n 1, 1) := by decide +kernel
theorem dX0_become_94 : decode cX0_become 94 = .ok (.getfield 27, 3) := by decide +kernel
theorem dX0_become_97 : decode cX0_become 97 = .ok (.iconst 0, 1) := by decide +kernel
theorem dX0_become_98 : decode cX0_become 98 = .ok (.aload_n 0, 1) := by decide +kernel
theorem dX0_become_99 : decode cX0_become 99 = .ok (.getfield 27, 3) := by decide +kernel
theorem dX0_become_102 : decode cX0_become 102 = .ok (.iconst 0, 1) := by decide +kernel
theorem dX0_become_103 : decode cX0_become 103 = .ok (.iconst 3, 1) := by decide +kernel
theorem dX0_become_104 : decode cX0_become 104 = .ok (.invokestatic 62, 3) := by decide +kernel
theorem dX0_become_107 : decode cX0_become 107 = .ok (.aload_n 1, 1) := by decide +kernel
theorem dX0_become_108 : decode cX0_become 108 = .ok (.getfield 30, 3) := by decide +kernel
theorem dX0_become_111 : decode cX0_become 111 = .ok (.iconst 0, 1) := by decide +kernel
theorem dX0_become_112 : decode cX0_become 112 = .ok (.aload_n 0, 1) := by decide +kernel
theorem dX0_become_113 : decode cX0_become 113 = .ok (.getfield 30, 3) := by decide +kernel
theorem dX0_become_116 : decode cX0_become 116 = .ok (.iconst 0, 1) := by decide +kernel
theorem dX0_become_117 : decode cX0_become 117 = .ok (.iconst 3, 1) := by decide +kernel
theorem dX0_become_118 : decode cX0_become 118 = .ok (.invokestatic 62, 3) := by decide +kernel
theorem dX0_become_121 : decode cX0_become 121 = .ok (.iconst 0, 1) := by decide +kernel
theorem dX0_become_122 : decode cX0_become 122 = .ok (.istore_n 2, 1) := by decide +kernel
theorem dX0_become_123 : decode cX0_become 123 = .ok (.iload_n 2, 1) := by decide +kernel
theorem dX0_become_124 : decode cX0_become 124 = .ok (.aload_n 0, 1) := by decide +kernel
theorem dX0_become_125 : decode cX0_become 125 = .ok (.getfield 47, 3) := by decide +kernel
theorem dX0_become_128 : decode cX0_become 128 = .ok (.if_icmp .ge 24, 3) := by decide +kernel
theorem dX0_become_131 : decode cX0_become 131 = .ok (.aload_n 0, 1) := by decide +kernel
theorem dX0_become_132 : decode cX0_become 132 = .ok (.getfield 20, 3) := by decide +kernel
theorem dX0_become_135 : decode cX0_become 135 = .ok (.iload_n 2, 1) := by decide +kernel
theorem dX0_become_136 : decode cX0_become 136 = .ok (.aaload, 1) := by decide +kernel
theorem dX0_become_137 : decode cX0_become 137 = .ok (.aload_n 1, 1) := by decide +kernel
theorem dX0_become_138 : decode cX0_become 138 = .ok (.getfield 20, 3) := by decide +kernel
theorem dX0_become_141 : decode cX0_become 141 = .ok (.iload_n 2, 1) := by decide +kernel
theorem dX0_become_142 : decode cX0_become 142 = .ok (.aaload, 1) := by decide +kernel
theorem dX0_become_143 : decode cX0_become 143 = .ok (.invokevirtual 68, 3) := by decide +kernel
theorem dX0_become_146 : decode cX0_become 146 = .ok (.iinc 2 1, 3) := by decide +kernel
theorem dX0_become_149 : decode cX0_become 149 = .ok (.goto (-26), 3) := by decide +kernel
theorem dX0_become_152 : decode cX0_become 152 = .ok (.return_, 1) := by decide +kernel
theorem dX0_clerkOf_0 : decode cX0_clerkOf 0 = .ok (.aload_n 0, 1) := by decide +kernel
theorem dX0_clerkOf_1 : decode cX0_clerkOf 1 = .ok (.getfield 41, 3) := by decide +kernel
theorem dX0_clerkOf_4 : decode cX0_clerkOf 4 = .ok (.ifCond .le 12, 3) := by decide +kernel
theorem dX0_clerkOf_7 : decode cX0_clerkOf 7 = .ok (.iload_n 1, 1) := by decide +kernel
theorem dX0_clerkOf_8 : decode cX0_clerkOf 8 = .ok (.aload_n 0, 1) := by decide +kernel
theorem dX0_clerkOf_9 : decode cX0_clerkOf 9 = .ok (.getfield 41, 3) := by decide +kernel
theorem dX0_clerkOf_12 : decode cX0_clerkOf 12 = .ok (.irem, 1) := by decide +kernel
theorem dX0_clerkOf_13 : decode cX0_clerkOf 13 = .ok (.goto 5, 3) := by decide +kernel
theorem dX0_clerkOf_16 : decode cX0_clerkOf 16 = .ok (.bipush (-2), 2) := by decide +kernel
theorem dX0_clerkOf_18 : decode cX0_clerkOf 18 = .ok (.ireturn, 1) := by decide +kernel
theorem dX0_clerkMay_0 : decode cX0_clerkMay 0 = .ok (.aload_n 0, 1) := by decide +kernel
theorem dX0_clerkMay_1 : decode cX0_clerkMay 1 = .ok (.getfield 41, 3) := by decide +kernel
theorem dX0_clerkMay_4 : decode cX0_clerkMay 4 = .ok (.ifCond .le 21, 3) := by decide +kernel
theorem dX0_clerkMay_7 : decode cX0_clerkMay 7 = .ok (.aload_n 0, 1) := by decide +kernel
theorem dX0_clerkMay_8 : decode cX0_clerkMay 8 = .ok (.getfield 15, 3) := by decide +kernel
theorem dX0_clerkMay_11 : decode cX0_clerkMay 11 = .ok (.iload_n 1, 1) := by decide +kernel
theorem dX0_clerkMay_12 : decode cX0_clerkMay 12 = .ok (.aload_n 0, 1) := by decide +kernel
theorem dX0_clerkMay_13 : decode cX0_clerkMay 13 = .ok (.getfield 41, 3) := by decide +kernel
theorem dX0_clerkMay_16 : decode cX0_clerkMay 16 = .ok (.irem, 1) := by decide +kernel
theorem dX0_clerkMay_17 : decode cX0_clerkMay 17 = .ok (.iaload, 1) := by decide +kernel
theorem dX0_clerkMay_18 : decode cX0_clerkMay 18 = .ok (.iload_n 2, 1) := by decide +kernel
theorem dX0_clerkMay_19 : decode cX0_clerkMay 19 = .ok (.invokestatic 72, 3) := by decide +kernel
theorem dX0_clerkMay_22 : decode cX0_clerkMay 22 = .ok (.ifCond .ne 7, 3) := by decide +kernel
theorem dX0_clerkMay_25 : decode cX0_clerkMay 25 = .ok (.iconst 1, 1) := by decide +kernel
theorem dX0_clerkMay_26 : decode cX0_clerkMay 26 = .ok (.goto 4, 3) := by decide +kernel
theorem dX0_clerkMay_29 : decode cX0_clerkMay 29 = .ok (.iconst 0, 1) := by decide +kernel
theorem dX0_clerkMay_30 : decode cX0_clerkMay 30 = .ok (.ireturn, 1) := by decide +kernel
theorem dX1_init_0 : decode cX1_init 0 = .ok (.aload_n 0, 1) := by decide +kernel
theorem dX1_init_1 : decode cX1_init 1 = .ok (.invokespecial 3, 3) := by decide +kernel
theorem dX1_init_4 : decode cX1_init 4 = .ok (.aload_n 0, 1) := by decide +kernel
theorem dX1_init_5 : decode cX1_init 5 = .ok (.bipush 10, 2) := by decide +kernel
theorem dX1_init_7 : decode cX1_init 7 = .ok (.newarray .int, 2) := by decide +kernel
theorem dX1_init_9 : decode cX1_init 9 = .ok (.putfield 9, 3) := by decide +kernel
theorem dX1_init_12 : decode cX1_init 12 = .ok (.aload_n 0, 1) := by decide +kernel
theorem dX1_init_13 : decode cX1_init 13 = .ok (.bipush 10, 2) := by decide +kernel
theorem dX1_init_15 : decode cX1_init 15 = .ok (.newarray .int, 2) := by decide +kernel
theorem dX1_init_17 : decode cX1_init 17 = .ok (.putfield 15, 3) := by decide +kernel
theorem dX1_init_20 : decode cX1_init 20 = .ok (.aload_n 0, 1) := by decide +kernel
theorem dX1_init_21 : decode cX1_init 21 = .ok (.bipush 10, 2) := by decide +kernel
theorem dX1_init_23 : decode cX1_init 23 = .ok (.newarray .int, 2) := by decide +kernel
theorem dX1_init_25 : decode cX1_init 25 = .ok (.putfield 18, 3) := by decide +kernel
theorem dX1_init_28 : decode cX1_init 28 = .ok (.aload_n 0, 1) := by decide +kernel
theorem dX1_init_29 : decode cX1_init 29 = .ok (.bipush 10, 2) := by decide +kernel
theorem dX1_init_31 : decode cX1_init 31 = .ok (.newarray .int, 2) := by decide +kernel
theorem dX1_init_33 : decode cX1_init 33 = .ok (.putfield 21, 3) := by decide +kernel
theorem dX1_init_36 : decode cX1_init 36 = .ok (.aload_n 0, 1) := by decide +kernel
theorem dX1_init_37 : decode cX1_init 37 = .ok (.bipush 10, 2) := by decide +kernel
theorem dX1_init_39 : decode cX1_init 39 = .ok (.newarray .int, 2) := by decide +kernel
theorem dX1_init_41 : decode cX1_init 41 = .ok (.putfield 24, 3) := by decide +kernel
theorem dX1_init_44 : decode cX1_init 44 = .ok (.aload_n 0, 1) := by decide +kernel
theorem dX1_init_45 : decode cX1_init 45 = .ok (.bipush 10, 2) := by decide +kernel
theorem dX1_init_47 : decode cX1_init 47 = .ok (.newarray .int, 2) := by decide +kernel
theorem dX1_init_49 : decode cX1_init 49 = .ok (.putfield 27, 3) := by decide +kernel
theorem dX1_init_52 : decode cX1_init 52 = .ok (.aload_n 0, 1) := by decide +kernel
theorem dX1_init_53 : decode cX1_init 53 = .ok (.bipush 60, 2) := by decide +kernel
theorem dX1_init_55 : decode cX1_init 55 = .ok (.newarray .int, 2) := by decide +kernel
theorem dX1_init_57 : decode cX1_init 57 = .ok (.putfield 30, 3) := by decide +kernel
theorem dX1_init_60 : decode cX1_init 60 = .ok (.aload_n 0, 1) := by decide +kernel
theorem dX1_init_61 : decode cX1_init 61 = .ok (.aload_n 1, 1) := by decide +kernel
theorem dX1_init_62 : decode cX1_init 62 = .ok (.putfield 33, 3) := by decide +kernel
theorem dX1_init_65 : decode cX1_init 65 = .ok (.aload_n 0, 1) := by decide +kernel
theorem dX1_init_66 : decode cX1_init 66 = .ok (.aload_n 2, 1) := by decide +kernel
theorem dX1_init_67 : decode cX1_init 67 = .ok (.putfield 37, 3) := by decide +kernel
theorem dX1_init_70 : decode cX1_init 70 = .ok (.aload_n 0, 1) := by decide +kernel
theorem dX1_init_71 : decode cX1_init 71 = .ok (.aload_n 3, 1) := by decide +kernel
theorem dX1_init_72 : decode cX1_init 72 = .ok (.putfield 41, 3) := by decide +kernel
theorem dX1_init_75 : decode cX1_init 75 = .ok (.return_, 1) := by decide +kernel
theorem dX1_begin_0 : decode cX1_begin 0 = .ok (.aload_n 0, 1) := by decide +kernel
theorem dX1_begin_1 : decode cX1_begin 1 = .ok (.getfield 9, 3) := by decide +kernel
theorem dX1_begin_4 : decode cX1_begin 4 = .ok (.iconst 0, 1) := by decide +kernel
theorem dX1_begin_5 : decode cX1_begin 5 = .ok (.invokestatic 45, 3) := by decide +kernel
theorem dX1_begin_8 : decode cX1_begin 8 = .ok (.aload_n 0, 1) := by decide +kernel
theorem dX1_begin_9 : decode cX1_begin 9 = .ok (.getfield 15, 3) := by decide +kernel
theorem dX1_begin_12 : decode cX1_begin 12 = .ok (.bipush (-2), 2) := by decide +kernel
theorem dX1_begin_14 : decode cX1_begin 14 = .ok (.invokestatic 45, 3) := by decide +kernel
theorem dX1_begin_17 : decode cX1_begin 17 = .ok (.aload_n 0, 1) := by decide +kernel
theorem dX1_begin_18 : decode cX1_begin 18 = .ok (.getfield 21, 3) := by decide +kernel
theorem dX1_begin_21 : decode cX1_begin 21 = .ok (.iconst 0, 1) := by decide +kernel
theorem dX1_begin_22 : decode cX1_begin 22 = .ok (.invokestatic 45, 3) := by decide +kernel
theorem dX1_begin_25 : decode cX1_begin 25 = .ok (.aload_n 0, 1) := by decide +kernel
theorem dX1_begin_26 : decode cX1_begin 26 = .ok (.getfield 27, 3) := by decide +kernel
theorem dX1_begin_29 : decode cX1_begin 29 = .ok (.iconst 0, 1) := by decide +kernel
theorem dX1_begin_30 : decode cX1_begin 30 = .ok (.invokestatic 45, 3) := by decide +kernel
theorem dX1_begin_33 : decode cX1_begin 33 = .ok (.aload_n 0, 1) := by decide +kernel
theorem dX1_begin_34 : decode cX1_begin 34 = .ok (.getfield 30, 3) := by decide +kernel
theorem dX1_begin_37 : decode cX1_begin 37 = .ok (.iconst 0, 1) := by decide +kernel
theorem dX1_begin_38 : decode cX1_begin 38 = .ok (.invokestatic 45, 3) := by decide +kernel
theorem dX1_begin_41 : decode cX1_begin 41 = .ok (.iconst 0, 1) := by decide +kernel
theorem dX1_begin_42 : decode cX1_begin 42 = .ok (.istore_n 2, 1) := by decide +kernel
theorem dX1_begin_43 : decode cX1_begin 43 = .ok (.iload_n 2, 1) := by decide +kernel
theorem dX1_begin_44 : decode cX1_begin 44 = .ok (.aload_n 0, 1) := by decide +kernel
theorem dX1_begin_45 : decode cX1_begin 45 = .ok (.getfield 33, 3) := by decide +kernel
theorem dX1_begin_48 : decode cX1_begin 48 = .ok (.getfield 51, 3) := by decide +kernel
theorem dX1_begin_51 : decode cX1_begin 51 = .ok (.if_icmp .ge 27, 3) := by decide +kernel
theorem dX1_begin_54 : decode cX1_begin 54 = .ok (.aload_n 0, 1) := by decide +kernel
theorem dX1_begin_55 : decode cX1_begin 55 = .ok (.getfield 18, 3) := by decide +kernel
theorem dX1_begin_58 : decode cX1_begin 58 = .ok (.iload_n 2, 1) := by decide +kernel
theorem dX1_begin_59 : decode cX1_begin 59 = .ok (.aload_n 0, 1) := by decide +kernel
theorem dX1_begin_60 : decode cX1_begin 60 = .ok (.getfield 33, 3) := by decide +kernel
theorem dX1_begin_63 : decode cX1_begin 63 = .ok (.getfield 57, 3) := by decide +kernel
theorem dX1_begin_66 : decode cX1_begin 66 = .ok (.iload_n 2, 1) := by decide +kernel
theorem dX1_begin_67 : decode cX1_begin 67 = .ok (.aaload, 1) := by decide +kernel
theorem dX1_begin_68 : decode cX1_begin 68 = .ok (.getfield 61, 3) := by decide +kernel
theorem dX1_begin_71 : decode cX1_begin 71 = .ok (.iastore, 1) := by decide +kernel
theorem dX1_begin_72 : decode cX1_begin 72 = .ok (.iinc 2 1, 3) := by decide +kernel
theorem dX1_begin_75 : decode cX1_begin 75 = .ok (.goto (-32), 3) := by decide +kernel
theorem dX1_begin_78 : decode cX1_begin 78 = .ok (.aload_n 0, 1) := by decide +kernel
theorem dX1_begin_79 : decode cX1_begin 79 = .ok (.iconst 0, 1) := by decide +kernel
theorem dX1_begin_80 : decode cX1_begin 80 = .ok (.putfield 66, 3) := by decide +kernel
theorem dX1_begin_83 : decode cX1_begin 83 = .ok (.aload_n 0, 1) := by decide +kernel
theorem dX1_begin_84 : decode cX1_begin 84 = .ok (.iconst 0, 1) := by decide +kernel
theorem dX1_begin_85 : decode cX1_begin 85 = .ok (.putfield 69, 3) := by decide +kernel
theorem dX1_begin_88 : decode cX1_begin 88 = .ok (.aload_n 0, 1) := by decide +kernel
theorem dX1_begin_89 : decode cX1_begin 89 = .ok (.iconst 0, 1) := by decide +kernel
theorem dX1_begin_90 : decode cX1_begin 90 = .ok (.putfield 72, 3) := by decide +kernel
theorem dX1_begin_93 : decode cX1_begin 93 = .ok (.aload_n 0, 1) := by decide +kernel
theorem dX1_begin_94 : decode cX1_begin 94 = .ok (.iconst 0, 1) := by decide +kernel
theorem dX1_begin_95 : decode cX1_begin 95 = .ok (.putfield 75, 3) := by decide +kernel
theorem dX1_begin_98 : decode cX1_begin 98 = .ok (.aload_n 0, 1) := by decide +kernel
theorem dX1_begin_99 : decode cX1_begin 99 = .ok (.iload_n 1, 1) := by decide +kernel
theorem dX1_begin_100 : decode cX1_begin 100 = .ok (.putfield 78, 3) := by decide +kernel
theorem dX1_begin_103 : decode cX1_begin 103 = .ok (.return_, 1) := by decide +kernel
theorem dX1_become_0 : decode cX1_become 0 = .ok (.aload_n 1, 1) := by decide +kernel
theorem dX1_become_1 : decode cX1_become 1 = .ok (.getfield 9, 3) := by decide +kernel
theorem dX1_become_4 : decode cX1_become 4 = .ok (.iconst 0, 1) := by decide +kernel
theorem dX1_become_5 : decode cX1_become 5 = .ok (.aload_n 0, 1) := by decide +kernel
theorem dX1_become_6 : decode cX1_become 6 = .ok (.getfield 9, 3) := by decide +kernel
theorem dX1_become_9 : decode cX1_become 9 = .ok (.iconst 0, 1) := by decide +kernel
theorem dX1_become_10 : decode cX1_become 10 = .ok (.bipush 10, 2) := by decide +kernel
theorem dX1_become_12 : decode cX1_become 12 = .ok (.invokestatic 82, 3) := by decide +kernel
theorem dX1_become_15 : decode cX1_become 15 = .ok (.aload_n 1, 1) := by decide +kernel
theorem dX1_become_16 : decode cX1_become 16 = .ok (.getfield 15, 3) := by decide +kernel
theorem dX1_become_19 : decode cX1_become 19 = .ok (.iconst 0, 1) := by decide +kernel
theorem dX1_become_20 : decode cX1_become 20 = .ok (.aload_n 0, 1) := by decide +kernel
theorem dX1_become_21 : decode cX1_become 21 = .ok (.getfield 15, 3) := by decide +kernel
theorem dX1_become_24 : decode cX1_become 24 = .ok (.iconst 0, 1) := by decide +kernel
theorem dX1_become_25 : decode cX1_become 25 = .ok (.bipush 10, 2) := by decide +kernel
theorem dX1_become_27 : decode cX1_become 27 = .ok (.invokestatic 82, 3) := by decide +kernel
theorem dX1_become_30 : decode cX1_become 30 = .ok (.aload_n 1, 1) := by decide +kernel
theorem dX1_become_31 : decode cX1_become 31 = .ok (.getfield 18, 3) := by decide +kernel
theorem dX1_become_34 : decode cX1_become 34 = .ok (.iconst 0, 1) := by decide +kernel
theorem dX1_become_35 : decode cX1_become 35 = .ok (.aload_n 0, 1) := by decide +kernel
theorem dX1_become_36 : decode cX1_become 36 = .ok (.getfield 18, 3) := by decide +kernel
theorem dX1_become_39 : decode cX1_become 39 = .ok (.iconst 0, 1) := by decide +kernel
theorem dX1_become_40 : decode cX1_become 40 = .ok (.bipush 10, 2) := by decide +kernel
theorem dX1_become_42 : decode cX1_become 42 = .ok (.invokestatic 82, 3) := by decide +kernel
theorem dX1_become_45 : decode cX1_become 45 = .ok (.aload_n 1, 1) := by decide +kernel
theorem dX1_become_46 : decode cX1_become 46 = .ok (.getfield 21, 3) := by decide +kernel
theorem dX1_become_49 : decode cX1_become 49 = .ok (.iconst 0, 1) := by decide +kernel
theorem dX1_become_50 : decode cX1_become 50 = .ok (.aload_n 0, 1) := by decide +kernel
theorem dX1_become_51 : decode cX1_become 51 = .ok (.getfield 21, 3) := by decide +kernel
theorem dX1_become_54 : decode cX1_become 54 = .ok (.iconst 0, 1) := by decide +kernel
theorem dX1_become_55 : decode cX1_become 55 = .ok (.bipush 10, 2) := by decide +kernel
theorem dX1_become_57 : decode cX1_become 57 = .ok (.invokestatic 82, 3) := by decide +kernel
theorem dX1_become_60 : decode cX1_become 60 = .ok (.aload_n 1, 1) := by decide +kernel
theorem dX1_become_61 : decode cX1_become 61 = .ok (.getfield 24, 3) := by decide +kernel
theorem dX1_become_64 : decode cX1_become 64 = .ok (.iconst 0, 1) := by decide +kernel
theorem dX1_become_65 : decode cX1_become 65 = .ok (.aload_n 0, 1) := by decide +kernel
theorem dX1_become_66 : decode cX1_become 66 = .ok (.getfield 24, 3) := by decide +kernel
theorem dX1_become_69 : decode cX1_become 69 = .ok (.iconst 0, 1) := by decide +kernel
theorem dX1_become_70 : decode cX1_become 70 = .ok (.bipush 10, 2) := by decide +kernel
theorem dX1_become_72 : decode cX1_become 72 = .ok (.invokestatic 82, 3) := by decide +kernel
theorem dX1_become_75 : decode cX1_become 75 = .ok (.aload_n 1, 1) := by decide +kernel
theorem dX1_become_76 : decode cX1_become 76 = .ok (.getfield 27, 3) := by decide +kernel
theorem dX1_become_79 : decode cX1_become 79 = .ok (.iconst 0, 1) := by decide +kernel
theorem dX1_become_80 : decode cX1_become 80 = .ok (.aload_n 0, 1) := by decide +kernel
theorem dX1_become_81 : decode cX1_become 81 = .ok (.getfield 27, 3) := by decide +kernel
theorem dX1_become_84 : decode cX1_become 84 = .ok (.iconst 0, 1) := by decide +kernel
theorem dX1_become_85 : decode cX1_become 85 = .ok (.bipush 10, 2) := by decide +kernel
theorem dX1_become_87 : decode cX1_become 87 = .ok (.invokestatic 82, 3) := by decide +kernel
theorem dX1_become_90 : decode cX1_become 90 = .ok (.aload_n 1, 1) := by decide +kernel
theorem dX1_become_91 : decode cX1_become 91 = .ok (.getfield 30, 3) := by decide +kernel
theorem dX1_become_94 : decode cX1_become 94 = .ok (.iconst 0, 1) := by decide +kernel
theorem dX1_become_95 : decode cX1_become 95 = .ok (.aload_n 0, 1) := by decide +kernel
theorem dX1_become_96 : decode cX1_become 96 = .ok (.getfield 30, 3) := by decide +kernel
theorem dX1_become_99 : decode cX1_become 99 = .ok (.iconst 0, 1) := by decide +kernel
theorem dX1_become_100 : decode cX1_become 100 = .ok (.bipush 60, 2) := by decide +kernel
theorem dX1_become_102 : decode cX1_become 102 = .ok (.invokestatic 82, 3) := by decide +kernel
theorem dX1_become_105 : decode cX1_become 105 = .ok (.aload_n 0, 1) := by decide +kernel
theorem dX1_become_106 : decode cX1_become 106 = .ok (.aload_n 1, 1) := by decide +kernel
theorem dX1_become_107 : decode cX1_become 107 = .ok (.getfield 66, 3) := by decide +kernel
theorem dX1_become_110 : decode cX1_become 110 = .ok (.putfield 66, 3) := by decide +kernel
theorem dX1_become_113 : decode cX1_become 113 = .ok (.aload_n 0, 1) := by decide +kernel
theorem dX1_become_114 : decode cX1_become 114 = .ok (.aload_n 1, 1) := by decide +kernel
theorem dX1_become_115 : decode cX1_become 115 = .ok (.getfield 69, 3) := by decide +kernel
theorem dX1_become_118 : decode cX1_become 118 = .ok (.putfield 69, 3) := by decide +kernel
theorem dX1_become_121 : decode cX1_become 121 = .ok (.aload_n 0, 1) := by decide +kernel
theorem dX1_become_122 : decode cX1_become 122 = .ok (.aload_n 1, 1) := by decide +kernel
theorem dX1_become_123 : decode cX1_become 123 = .ok (.getfield 72, 3) := by decide +kernel
theorem dX1_become_126 : decode cX1_become 126 = .ok (.putfield 72, 3) := by decide +kernel
theorem dX1_become_129 : decode cX1_become 129 = .ok (.aload_n 0, 1) := by decide +kernel
theorem dX1_become_130 : decode cX1_become 130 = .ok (.aload_n 1, 1) := by decide +kernel
theorem dX1_become_131 : decode cX1_become 131 = .ok (.getfield 75, 3) := by decide +kernel
theorem dX1_become_134 : decode cX1_become 134 = .ok (.putfield 75, 3) := by decide +kernel
theorem dX1_become_137 : decode cX1_become 137 = .ok (.aload_n 0, 1) := by decide +kernel
theorem dX1_become_138 : decode cX1_become 138 = .ok (.aload_n 1, 1) := by decide +kernel
theorem dX1_become_139 : decode cX1_become 139 = .ok (.getfield 78, 3) := by decide +kernel
theorem dX1_become_142 : decode cX1_become 142 = .ok (.putfield 78, 3) := by decide +kernel
theorem dX1_become_145 : decode cX1_become 145 = .ok (.return_, 1) := by decide +kernel
theorem dX1_walk_0 : decode cX1_walk 0 = .ok (.aload_n 0, 1) := by decide +kernel
theorem dX1_walk_1 : decode cX1_walk 1 = .ok (.iload_n 3, 1) := by decide +kernel
theorem dX1_walk_2 : decode cX1_walk 2 = .ok (.invokevirtual 88, 3) := by decide +kernel
theorem dX1_walk_5 : decode cX1_walk 5 = .ok (.iconst 0, 1) := by decide +kernel
theorem dX1_walk_6 : decode cX1_walk 6 = .ok (.istore 4, 2) := by decide +kernel
theorem dX1_walk_8 : decode cX1_walk 8 = .ok (.iload 4, 2) := by decide +kernel
theorem dX1_walk_10 : decode cX1_walk 10 = .ok (.iload_n 2, 1) := by decide +kernel
theorem dX1_walk_11 : decode cX1_walk 11 = .ok (.if_icmp .gt 45, 3) := by decide +kernel
theorem dX1_walk_14 : decode cX1_walk 14 = .ok (.iload 4, 2) := by decide +kernel
theorem dX1_walk_16 : decode cX1_walk 16 = .ok (.bipush 60, 2) := by decide +kernel
theorem dX1_walk_18 : decode cX1_walk 18 = .ok (.if_icmp .ge 38, 3) := by decide +kernel
theorem dX1_walk_21 : decode cX1_walk 21 = .ok (.aload_n 0, 1) := by decide +kernel
theorem dX1_walk_22 : decode cX1_walk 22 = .ok (.iload 4, 2) := by decide +kernel
theorem dX1_walk_24 : decode cX1_walk 24 = .ok (.invokevirtual 92, 3) := by decide +kernel
theorem dX1_walk_27 : decode cX1_walk 27 = .ok (.aload_n 0, 1) := by decide +kernel
theorem dX1_walk_28 : decode cX1_walk 28 = .ok (.iload 4, 2) := by decide +kernel
theorem dX1_walk_30 : decode cX1_walk 30 = .ok (.invokevirtual 96, 3) := by decide +kernel
theorem dX1_walk_33 : decode cX1_walk 33 = .ok (.iload_n 1, 1) := by decide +kernel
theorem dX1_walk_34 : decode cX1_walk 34 = .ok (.ifCond .le 16, 3) := by decide +kernel
theorem dX1_walk_37 : decode cX1_walk 37 = .ok (.iload 4, 2) := by decide +kernel
theorem dX1_walk_39 : decode cX1_walk 39 = .ok (.iload_n 1, 1) := by decide +kernel
theorem dX1_walk_40 : decode cX1_walk 40 = .ok (.irem, 1) := by decide +kernel
theorem dX1_walk_41 : decode cX1_walk 41 = .ok (.ifCond .ne 9, 3) := by decide +kernel
theorem dX1_walk_44 : decode cX1_walk 44 = .ok (.aload_n 0, 1) := by decide +kernel
theorem dX1_walk_45 : decode cX1_walk 45 = .ok (.iload 4, 2) := by decide +kernel
theorem dX1_walk_47 : decode cX1_walk 47 = .ok (.invokevirtual 99, 3) := by decide +kernel
theorem dX1_walk_50 : decode cX1_walk 50 = .ok (.iinc 4 1, 3) := by decide +kernel
theorem dX1_walk_53 : decode cX1_walk 53 = .ok (.goto (-45), 3) := by decide +kernel
theorem dX1_walk_56 : decode cX1_walk 56 = .ok (.return_, 1) := by decide +kernel
theorem dX1_takeFacts_0 : decode cX1_takeFacts 0 = .ok (.aload_n 0, 1) := by decide +kernel
theorem dX1_takeFacts_1 : decode cX1_takeFacts 1 = .ok (.getfield 37, 3) := by decide +kernel
theorem dX1_takeFacts_4 : decode cX1_takeFacts 4 = .ok (.getfield 102, 3) := by decide +kernel
theorem dX1_takeFacts_7 : decode cX1_takeFacts 7 = .ok (.iload_n 1, 1) := by decide +kernel
theorem dX1_takeFacts_8 : decode cX1_takeFacts 8 = .ok (.iaload, 1) := by decide +kernel
theorem dX1_takeFacts_9 : decode cX1_takeFacts 9 = .ok (.istore_n 2, 1) := by decide +kernel
theorem dX1_takeFacts_10 : decode cX1_takeFacts 10 = .ok (.iload_n 2, 1) := by decide +kernel
theorem dX1_takeFacts_11 : decode cX1_takeFacts 11 = .ok (.aload_n 0, 1) := by decide +kernel
theorem dX1_takeFacts_12 : decode cX1_takeFacts 12 = .ok (.getfield 37, 3) := by decide +kernel
theorem dX1_takeFacts_15 : decode cX1_takeFacts 15 = .ok (.getfield 102, 3) := by decide +kernel
theorem dX1_takeFacts_18 : decode cX1_takeFacts 18 = .ok (.iload_n 1, 1) := by decide +kernel
theorem dX1_takeFacts_19 : decode cX1_takeFacts 19 = .ok (.iconst 1, 1) := by decide +kernel
theorem dX1_takeFacts_20 : decode cX1_takeFacts 20 = .ok (.iadd, 1) := by decide +kernel
theorem dX1_takeFacts_21 : decode cX1_takeFacts 21 = .ok (.iaload, 1) := by decide +kernel
theorem dX1_takeFacts_22 : decode cX1_takeFacts 22 = .ok (.if_icmp .ge 23, 3) := by decide +kernel
theorem dX1_takeFacts_25 : decode cX1_takeFacts 25 = .ok (.aload_n 0, 1) := by decide +kernel
theorem dX1_takeFacts_26 : decode cX1_takeFacts 26 = .ok (.aload_n 0, 1) := by decide +kernel
theorem dX1_takeFacts_27 : decode cX1_takeFacts 27 = .ok (.getfield 37, 3) := by decide +kernel
theorem dX1_takeFacts_30 : decode cX1_takeFacts 30 = .ok (.getfield 107, 3) := by decide +kernel
theorem dX1_takeFacts_33 : decode cX1_takeFacts 33 = .ok (.iload_n 2, 1) := by decide +kernel
theorem dX1_takeFacts_34 : decode cX1_takeFacts 34 = .ok (.iaload, 1) := by decide +kernel
theorem dX1_takeFacts_35 : decode cX1_takeFacts 35 = .ok (.iload_n 1, 1) := by decide +kernel
theorem dX1_takeFacts_36 : decode cX1_takeFacts 36 = .ok (.invokevirtual 110, 3) := by decide +kernel
theorem dX1_takeFacts_39 : decode cX1_takeFacts 39 = .ok (.iinc 2 1, 3) := by decide +kernel
theorem dX1_takeFacts_42 : decode cX1_takeFacts 42 = .ok (.goto (-32), 3) := by decide +kernel
theorem dX1_takeFacts_45 : decode cX1_takeFacts 45 = .ok (.return_, 1) := by decide +kernel
theorem dX1_takeFact_0 : decode cX1_takeFact 0 = .ok (.aload_n 0, 1) := by decide +kernel
theorem dX1_takeFact_1 : decode cX1_takeFact 1 = .ok (.getfield 37, 3) := by decide +kernel
theorem dX1_takeFact_4 : decode cX1_takeFact 4 = .ok (.getfield 114, 3) := by decide +kernel
theorem dX1_takeFact_7 : decode cX1_takeFact 7 = .ok (.iload_n 1, 1) := by decide +kernel
theorem dX1_takeFact_8 : decode cX1_takeFact 8 = .ok (.iaload, 1) := by decide +kernel
theorem dX1_takeFact_9 : decode cX1_takeFact 9 = .ok (.istore_n 3, 1) := by decide +kernel
theorem dX1_takeFact_10 : decode cX1_takeFact 10 = .ok (.iload_n 3, 1) := by decide +kernel
theorem dX1_takeFact_11 : decode cX1_takeFact 11 = .ok (.ifCond .lt 15, 3) := by decide +kernel
theorem dX1_takeFact_14 : decode cX1_takeFact 14 = .ok (.iload_n 3, 1) := by decide +kernel
theorem dX1_takeFact_15 : decode cX1_takeFact 15 = .ok (.bipush 10, 2) := by decide +kernel
theorem dX1_takeFact_17 : decode cX1_takeFact 17 = .ok (.if_icmp .ge 9, 3) := by decide +kernel
theorem dX1_takeFact_20 : decode cX1_takeFact 20 = .ok (.iload_n 3, 1) := by decide +kernel
theorem dX1_takeFact_21 : decode cX1_takeFact 21 = .ok (.bipush 10, 2) := by decide +kernel
theorem dX1_takeFact_23 : decode cX1_takeFact 23 = .ok (.if_icmp .lt 4, 3) := by decide +kernel
theorem dX1_takeFact_26 : decode cX1_takeFact 26 = .ok (.return_, 1) := by decide +kernel
theorem dX1_takeFact_27 : decode cX1_takeFact 27 = .ok (.aload_n 0, 1) := by decide +kernel
theorem dX1_takeFact_28 : decode cX1_takeFact 28 = .ok (.getfield 37, 3) := by decide +kernel
theorem dX1_takeFact_31 : decode cX1_takeFact 31 = .ok (.getfield 117, 3) := by decide +kernel
theorem dX1_takeFact_34 : decode cX1_takeFact 34 = .ok (.iload_n 1, 1) := by decide +kernel
theorem dX1_takeFact_35 : decode cX1_takeFact 35 = .ok (.iaload, 1) := by decide +kernel
theorem dX1_takeFact_36 : decode cX1_takeFact 36 = .ok (.tableswitch 261 0 4 #[36, 92, 114, 155, 243], 36) := by decide +kernel
theorem dX1_takeFact_72 : decode cX1_takeFact 72 = .ok (.aload_n 0, 1) := by decide +kernel
theorem dX1_takeFact_73 : decode cX1_takeFact 73 = .ok (.getfield 27, 3) := by decide +kernel
theorem dX1_takeFact_76 : decode cX1_takeFact 76 = .ok (.iload_n 3, 1) := by decide +kernel
theorem dX1_takeFact_77 : decode cX1_takeFact 77 = .ok (.dup2, 1) := by decide +kernel
theorem dX1_takeFact_78 : decode cX1_takeFact 78 = .ok (.iaload, 1) := by decide +kernel
theorem dX1_takeFact_79 : decode cX1_takeFact 79 = .ok (.aload_n 0, 1) := by decide +kernel
theorem dX1_takeFact_80 : decode cX1_takeFact 80 = .ok (.getfield 37, 3) := by decide +kernel
theorem dX1_takeFact_83 : decode cX1_takeFact 83 = .ok (.getfield 120, 3) := by decide +kernel
theorem dX1_takeFact_86 : decode cX1_takeFact 86 = .ok (.iload_n 1, 1) := by decide +kernel
theorem dX1_takeFact_87 : decode cX1_takeFact 87 = .ok (.iaload, 1) := by decide +kernel
theorem dX1_takeFact_88 : decode cX1_takeFact 88 = .ok (.iadd, 1) := by decide +kernel
theorem dX1_takeFact_89 : decode cX1_takeFact 89 = .ok (.iastore, 1) := by decide +kernel
theorem dX1_takeFact_90 : decode cX1_takeFact 90 = .ok (.aload_n 0, 1) := by decide +kernel
theorem dX1_takeFact_91 : decode cX1_takeFact 91 = .ok (.getfield 78, 3) := by decide +kernel
theorem dX1_takeFact_94 : decode cX1_takeFact 94 = .ok (.ifCond .ne 209, 3) := by decide +kernel
theorem dX1_takeFact_97 : decode cX1_takeFact 97 = .ok (.aload_n 0, 1) := by decide +kernel
theorem dX1_takeFact_98 : decode cX1_takeFact 98 = .ok (.getfield 27, 3) := by decide +kernel
theorem dX1_takeFact_101 : decode cX1_takeFact 101 = .ok (.iload_n 3, 1) := by decide +kernel
theorem dX1_takeFact_102 : decode cX1_takeFact 102 = .ok (.iaload, 1) := by decide +kernel
theorem dX1_takeFact_103 : decode cX1_takeFact 103 = .ok (.aload_n 0, 1) := by decide +kernel
theorem dX1_takeFact_104 : decode cX1_takeFact 104 = .ok (.getfield 33, 3) := by decide +kernel
theorem dX1_takeFact_107 : decode cX1_takeFact 107 = .ok (.getfield 123, 3) := by decide +kernel
theorem dX1_takeFact_110 : decode cX1_takeFact 110 = .ok (.if_icmp .lt 193, 3) := by decide +kernel
theorem dX1_takeFact_113 : decode cX1_takeFact 113 = .ok (.aload_n 0, 1) := by decide +kernel
theorem dX1_takeFact_114 : decode cX1_takeFact 114 = .ok (.dup, 1) := by decide +kernel
theorem dX1_takeFact_115 : decode cX1_takeFact 115 = .ok (.getfield 69, 3) := by decide +kernel
theorem dX1_takeFact_118 : decode cX1_takeFact 118 = .ok (.iconst 1, 1) := by decide +kernel
theorem dX1_takeFact_119 : decode cX1_takeFact 119 = .ok (.iload_n 3, 1) := by decide +kernel
theorem dX1_takeFact_120 : decode cX1_takeFact 120 = .ok (.ishl, 1) := by decide +kernel
theorem dX1_takeFact_121 : decode cX1_takeFact 121 = .ok (.ior, 1) := by decide +kernel
theorem dX1_takeFact_122 : decode cX1_takeFact 122 = .ok (.putfield 69, 3) := by decide +kernel
theorem dX1_takeFact_125 : decode cX1_takeFact 125 = .ok (.goto 178, 3) := by decide +kernel
theorem dX1_takeFact_128 : decode cX1_takeFact 128 = .ok (.aload_n 0, 1) := by decide +kernel
theorem dX1_takeFact_129 : decode cX1_takeFact 129 = .ok (.getfield 78, 3) := by decide +kernel
theorem dX1_takeFact_132 : decode cX1_takeFact 132 = .ok (.ifCond .eq 171, 3) := by decide +kernel
theorem dX1_takeFact_135 : decode cX1_takeFact 135 = .ok (.aload_n 0, 1) := by decide +kernel
theorem dX1_takeFact_136 : decode cX1_takeFact 136 = .ok (.dup, 1) := by decide +kernel
theorem dX1_takeFact_137 : decode cX1_takeFact 137 = .ok (.getfield 69, 3) := by decide +kernel
theorem dX1_takeFact_140 : decode cX1_takeFact 140 = .ok (.iconst 1, 1) := by decide +kernel
theorem dX1_takeFact_141 : decode cX1_takeFact 141 = .ok (.iload_n 3, 1) := by decide +kernel
theorem dX1_takeFact_142 : decode cX1_takeFact 142 = .ok (.ishl, 1) := by decide +kernel
theorem dX1_takeFact_143 : decode cX1_takeFact 143 = .ok (.ior, 1) := by decide +kernel
theorem dX1_takeFact_144 : decode cX1_takeFact 144 = .ok (.putfield 69, 3) := by decide +kernel
theorem dX1_takeFact_147 : decode cX1_takeFact 147 = .ok (.goto 156, 3) := by decide +kernel
theorem dX1_takeFact_150 : decode cX1_takeFact 150 = .ok (.aload_n 0, 1) := by decide +kernel
theorem dX1_takeFact_151 : decode cX1_takeFact 151 = .ok (.getfield 9, 3) := by decide +kernel
theorem dX1_takeFact_154 : decode cX1_takeFact 154 = .ok (.iload_n 3, 1) := by decide +kernel
theorem dX1_takeFact_155 : decode cX1_takeFact 155 = .ok (.iaload, 1) := by decide +kernel
theorem dX1_takeFact_156 : decode cX1_takeFact 156 = .ok (.ifCond .ne 147, 3) := by decide +kernel
theorem dX1_takeFact_159 : decode cX1_takeFact 159 = .ok (.aload_n 0, 1) := by decide +kernel
theorem dX1_takeFact_160 : decode cX1_takeFact 160 = .ok (.getfield 69, 3) := by decide +kernel
theorem dX1_takeFact_163 : decode cX1_takeFact 163 = .ok (.aload_n 0, 1) := by decide +kernel
theorem dX1_takeFact_164 : decode cX1_takeFact 164 = .ok (.getfield 33, 3) := by decide +kernel
theorem dX1_takeFact_167 : decode cX1_takeFact 167 = .ok (.getfield 57, 3) := by decide +kernel
theorem dX1_takeFact_170 : decode cX1_takeFact 170 = .ok (.iload_n 3, 1) := by decide +kernel
theorem dX1_takeFact_171 : decode cX1_takeFact 171 = .ok (.aaload, 1) := by decide +kernel
theorem dX1_takeFact_172 : decode cX1_takeFact 172 = .ok (.getfield 126, 3) := by decide +kernel
theorem dX1_takeFact_175 : decode cX1_takeFact 175 = .ok (.invokestatic 129, 3) := by decide +kernel
theorem dX1_takeFact_178 : decode cX1_takeFact 178 = .ok (.ifCond .ne 125, 3) := by decide +kernel
theorem dX1_takeFact_181 : decode cX1_takeFact 181 = .ok (.aload_n 0, 1) := by decide +kernel
theorem dX1_takeFact_182 : decode cX1_takeFact 182 = .ok (.iconst 3, 1) := by decide +kernel
theorem dX1_takeFact_183 : decode cX1_takeFact 183 = .ok (.iload_n 3, 1) := by decide +kernel
theorem dX1_takeFact_184 : decode cX1_takeFact 184 = .ok (.iload_n 2, 1) := by decide +kernel
theorem dX1_takeFact_185 : decode cX1_takeFact 185 = .ok (.invokevirtual 133, 3) := by decide +kernel
theorem dX1_takeFact_188 : decode cX1_takeFact 188 = .ok (.goto 115, 3) := by decide +kernel
theorem dX1_takeFact_191 : decode cX1_takeFact 191 = .ok (.aload_n 0, 1) := by decide +kernel
theorem dX1_takeFact_192 : decode cX1_takeFact 192 = .ok (.getfield 9, 3) := by decide +kernel
theorem dX1_takeFact_195 : decode cX1_takeFact 195 = .ok (.iload_n 3, 1) := by decide +kernel
theorem dX1_takeFact_196 : decode cX1_takeFact 196 = .ok (.iaload, 1) := by decide +kernel
theorem dX1_takeFact_197 : decode cX1_takeFact 197 = .ok (.ifCond .ne 106, 3) := by decide +kernel
theorem dX1_takeFact_200 : decode cX1_takeFact 200 = .ok (.aload_n 0, 1) := by decide +kernel
theorem dX1_takeFact_201 : decode cX1_takeFact 201 = .ok (.getfield 41, 3) := by decide +kernel
theorem dX1_takeFact_204 : decode cX1_takeFact 204 = .ok (.aload_n 0, 1) := by decide +kernel
theorem dX1_takeFact_205 : decode cX1_takeFact 205 = .ok (.getfield 33, 3) := by decide +kernel
theorem dX1_takeFact_208 : decode cX1_takeFact 208 = .ok (.getfield 57, 3) := by decide +kernel
theorem dX1_takeFact_211 : decode cX1_takeFact 211 = .ok (.iload_n 3, 1) := by decide +kernel
theorem dX1_takeFact_212 : decode cX1_takeFact 212 = .ok (.aaload, 1) := by decide +kernel
theorem dX1_takeFact_213 : decode cX1_takeFact 213 = .ok (.iload_n 2, 1) := by decide +kernel
theorem dX1_takeFact_214 : decode cX1_takeFact 214 = .ok (.aload_n 0, 1) := by decide +kernel
theorem dX1_takeFact_215 : decode cX1_takeFact 215 = .ok (.getfield 69, 3) := by decide +kernel
theorem dX1_takeFact_218 : decode cX1_takeFact 218 = .ok (.aload_n 0, 1) := by decide +kernel
theorem dX1_takeFact_219 : decode cX1_takeFact 219 = .ok (.getfield 72, 3) := by decide +kernel
theorem dX1_takeFact_222 : decode cX1_takeFact 222 = .ok (.invokevirtual 137, 3) := by decide +kernel
theorem dX1_takeFact_225 : decode cX1_takeFact 225 = .ok (.istore 4, 2) := by decide +kernel
theorem dX1_takeFact_227 : decode cX1_takeFact 227 = .ok (.aload_n 0, 1) := by decide +kernel
theorem dX1_takeFact_228 : decode cX1_takeFact 228 = .ok (.dup, 1) := by decide +kernel
theorem dX1_takeFact_229 : decode cX1_takeFact 229 = .ok (.getfield 75, 3) := by decide +kernel
theorem dX1_takeFact_232 : decode cX1_takeFact 232 = .ok (.iload 4, 2) := by decide +kernel
theorem dX1_takeFact_234 : decode cX1_takeFact 234 = .ok (.ifCond .eq 7, 3) := by decide +kernel
theorem dX1_takeFact_237 : decode cX1_takeFact 237 = .ok (.iconst 0, 1) := by decide +kernel
theorem dX1_takeFact_238 : decode cX1_takeFact 238 = .ok (.goto 15, 3) := by decide +kernel
theorem dX1_takeFact_241 : decode cX1_takeFact 241 = .ok (.aload_n 0, 1) := by decide +kernel
theorem dX1_takeFact_242 : decode cX1_takeFact 242 = .ok (.getfield 33, 3) := by decide +kernel
theorem dX1_takeFact_245 : decode cX1_takeFact 245 = .ok (.getfield 57, 3) := by decide +kernel
theorem dX1_takeFact_248 : decode cX1_takeFact 248 = .ok (.iload_n 3, 1) := by decide +kernel
theorem dX1_takeFact_249 : decode cX1_takeFact 249 = .ok (.aaload, 1) := by decide +kernel
theorem dX1_takeFact_250 : decode cX1_takeFact 250 = .ok (.getfield 143, 3) := by decide +kernel
theorem dX1_takeFact_253 : decode cX1_takeFact 253 = .ok (.iadd, 1) := by decide +kernel
theorem dX1_takeFact_254 : decode cX1_takeFact 254 = .ok (.putfield 75, 3) := by decide +kernel
theorem dX1_takeFact_257 : decode cX1_takeFact 257 = .ok (.aload_n 0, 1) := by decide +kernel
theorem dX1_takeFact_258 : decode cX1_takeFact 258 = .ok (.iconst 2, 1) := by decide +kernel
theorem dX1_takeFact_259 : decode cX1_takeFact 259 = .ok (.iload_n 3, 1) := by decide +kernel
theorem dX1_takeFact_260 : decode cX1_takeFact 260 = .ok (.iload_n 2, 1) := by decide +kernel
theorem dX1_takeFact_261 : decode cX1_takeFact 261 = .ok (.invokevirtual 133, 3) := by decide +kernel
theorem dX1_takeFact_264 : decode cX1_takeFact 264 = .ok (.aload_n 0, 1) := by decide +kernel
theorem dX1_takeFact_265 : decode cX1_takeFact 265 = .ok (.dup, 1) := by decide +kernel
theorem dX1_takeFact_266 : decode cX1_takeFact 266 = .ok (.getfield 72, 3) := by decide +kernel
theorem dX1_takeFact_269 : decode cX1_takeFact 269 = .ok (.iconst 1, 1) := by decide +kernel
theorem dX1_takeFact_270 : decode cX1_takeFact 270 = .ok (.iload_n 3, 1) := by decide +kernel
theorem dX1_takeFact_271 : decode cX1_takeFact 271 = .ok (.ishl, 1) := by decide +kernel
theorem dX1_takeFact_272 : decode cX1_takeFact 272 = .ok (.ior, 1) := by decide +kernel
theorem dX1_takeFact_273 : decode cX1_takeFact 273 = .ok (.putfield 72, 3) := by decide +kernel
theorem dX1_takeFact_276 : decode cX1_takeFact 276 = .ok (.goto 27, 3) := by decide +kernel
theorem dX1_takeFact_279 : decode cX1_takeFact 279 = .ok (.aload_n 0, 1) := by decide +kernel
theorem dX1_takeFact_280 : decode cX1_takeFact 280 = .ok (.getfield 21, 3) := by decide +kernel
theorem dX1_takeFact_283 : decode cX1_takeFact 283 = .ok (.iload_n 3, 1) := by decide +kernel
theorem dX1_takeFact_284 : decode cX1_takeFact 284 = .ok (.aload_n 0, 1) := by decide +kernel
theorem dX1_takeFact_285 : decode cX1_takeFact 285 = .ok (.getfield 37, 3) := by decide +kernel
theorem dX1_takeFact_288 : decode cX1_takeFact 288 = .ok (.getfield 120, 3) := by decide +kernel
theorem dX1_takeFact_291 : decode cX1_takeFact 291 = .ok (.iload_n 1, 1) := by decide +kernel
theorem dX1_takeFact_292 : decode cX1_takeFact 292 = .ok (.iaload, 1) := by decide +kernel
theorem dX1_takeFact_293 : decode cX1_takeFact 293 = .ok (.iastore, 1) := by decide +kernel
theorem dX1_takeFact_294 : decode cX1_takeFact 294 = .ok (.goto 9, 3) := by decide +kernel
theorem dX1_takeFact_297 : decode cX1_takeFact 297 = .ok (.aload_n 0, 1) := by decide +kernel
theorem dX1_takeFact_298 : decode cX1_takeFact 298 = .ok (.iload_n 3, 1) := by decide +kernel
theorem dX1_takeFact_299 : decode cX1_takeFact 299 = .ok (.iload_n 2, 1) := by decide +kernel
theorem dX1_takeFact_300 : decode cX1_takeFact 300 = .ok (.invokevirtual 146, 3) := by decide +kernel
theorem dX1_takeFact_303 : decode cX1_takeFact 303 = .ok (.return_, 1) := by decide +kernel
theorem dX1_endAs_0 : decode cX1_endAs 0 = .ok (.aload_n 0, 1) := by decide +kernel
theorem dX1_endAs_1 : decode cX1_endAs 1 = .ok (.getfield 9, 3) := by decide +kernel
theorem dX1_endAs_4 : decode cX1_endAs 4 = .ok (.iload_n 2, 1) := by decide +kernel
theorem dX1_endAs_5 : decode cX1_endAs 5 = .ok (.iload_n 1, 1) := by decide +kernel
theorem dX1_endAs_6 : decode cX1_endAs 6 = .ok (.iastore, 1) := by decide +kernel
theorem dX1_endAs_7 : decode cX1_endAs 7 = .ok (.aload_n 0, 1) := by decide +kernel
theorem dX1_endAs_8 : decode cX1_endAs 8 = .ok (.getfield 15, 3) := by decide +kernel
theorem dX1_endAs_11 : decode cX1_endAs 11 = .ok (.iload_n 2, 1) := by decide +kernel
theorem dX1_endAs_12 : decode cX1_endAs 12 = .ok (.iload_n 3, 1) := by decide +kernel
theorem dX1_endAs_13 : decode cX1_endAs 13 = .ok (.iastore, 1) := by decide +kernel
theorem dX1_endAs_14 : decode cX1_endAs 14 = .ok (.return_, 1) := by decide +kernel
theorem dX1_floodShelf_0 : decode cX1_floodShelf 0 = .ok (.iconst 0, 1) := by decide +kernel
theorem dX1_floodShelf_1 : decode cX1_floodShelf 1 = .ok (.istore_n 3, 1) := by decide +kernel
theorem dX1_floodShelf_2 : decode cX1_floodShelf 2 = .ok (.iload_n 3, 1) := by decide +kernel
theorem dX1_floodShelf_3 : decode cX1_floodShelf 3 = .ok (.aload_n 0, 1) := by decide +kernel
theorem dX1_floodShelf_4 : decode cX1_floodShelf 4 = .ok (.getfield 33, 3) := by decide +kernel
theorem dX1_floodShelf_7 : decode cX1_floodShelf 7 = .ok (.getfield 51, 3) := by decide +kernel
theorem dX1_floodShelf_10 : decode cX1_floodShelf 10 = .ok (.if_icmp .ge 41, 3) := by decide +kernel
theorem dX1_floodShelf_13 : decode cX1_floodShelf 13 = .ok (.aload_n 0, 1) := by decide +kernel
theorem dX1_floodShelf_14 : decode cX1_floodShelf 14 = .ok (.getfield 9, 3) := by decide +kernel
theorem dX1_floodShelf_17 : decode cX1_floodShelf 17 = .ok (.iload_n 3, 1) := by decide +kernel
theorem dX1_floodShelf_18 : decode cX1_floodShelf 18 = .ok (.iaload, 1) := by decide +kernel
theorem dX1_floodShelf_19 : decode cX1_floodShelf 19 = .ok (.ifCond .ne 26, 3) := by decide +kernel
theorem dX1_floodShelf_22 : decode cX1_floodShelf 22 = .ok (.aload_n 0, 1) := by decide +kernel
theorem dX1_floodShelf_23 : decode cX1_floodShelf 23 = .ok (.getfield 33, 3) := by decide +kernel
theorem dX1_floodShelf_26 : decode cX1_floodShelf 26 = .ok (.getfield 57, 3) := by decide +kernel
theorem dX1_floodShelf_29 : decode cX1_floodShelf 29 = .ok (.iload_n 3, 1) := by decide +kernel
theorem dX1_floodShelf_30 : decode cX1_floodShelf 30 = .ok (.aaload, 1) := by decide +kernel
theorem dX1_floodShelf_31 : decode cX1_floodShelf 31 = .ok (.getfield 149, 3) := by decide +kernel
theorem dX1_floodShelf_34 : decode cX1_floodShelf 34 = .ok (.iload_n 1, 1) := by decide +kernel
theorem dX1_floodShelf_35 : decode cX1_floodShelf 35 = .ok (.if_icmp .ne 10, 3) := by decide +kernel
theorem dX1_floodShelf_38 : decode cX1_floodShelf 38 = .ok (.aload_n 0, 1) := by decide +kernel
theorem dX1_floodShelf_39 : decode cX1_floodShelf 39 = .ok (.iconst 4, 1) := by decide +kernel
theorem dX1_floodShelf_40 : decode cX1_floodShelf 40 = .ok (.iload_n 3, 1) := by decide +kernel
theorem dX1_floodShelf_41 : decode cX1_floodShelf 41 = .ok (.iload_n 2, 1) := by decide +kernel
theorem dX1_floodShelf_42 : decode cX1_floodShelf 42 = .ok (.invokevirtual 133, 3) := by decide +kernel
theorem dX1_floodShelf_45 : decode cX1_floodShelf 45 = .ok (.iinc 3 1, 3) := by decide +kernel
theorem dX1_floodShelf_48 : decode cX1_floodShelf 48 = .ok (.goto (-46), 3) := by decide +kernel
theorem dX1_floodShelf_51 : decode cX1_floodShelf 51 = .ok (.return_, 1) := by decide +kernel
theorem dX1_payFees_0 : decode cX1_payFees 0 = .ok (.iconst 0, 1) := by decide +kernel
theorem dX1_payFees_1 : decode cX1_payFees 1 = .ok (.istore_n 2, 1) := by decide +kernel
theorem dX1_payFees_2 : decode cX1_payFees 2 = .ok (.iload_n 2, 1) := by decide +kernel
theorem dX1_payFees_3 : decode cX1_payFees 3 = .ok (.aload_n 0, 1) := by decide +kernel
theorem dX1_payFees_4 : decode cX1_payFees 4 = .ok (.getfield 33, 3) := by decide +kernel
theorem dX1_payFees_7 : decode cX1_payFees 7 = .ok (.getfield 51, 3) := by decide +kernel
theorem dX1_payFees_10 : decode cX1_payFees 10 = .ok (.if_icmp .ge 108, 3) := by decide +kernel
theorem dX1_payFees_13 : decode cX1_payFees 13 = .ok (.aload_n 0, 1) := by decide +kernel
theorem dX1_payFees_14 : decode cX1_payFees 14 = .ok (.getfield 9, 3) := by decide +kernel
theorem dX1_payFees_17 : decode cX1_payFees 17 = .ok (.iload_n 2, 1) := by decide +kernel
theorem dX1_payFees_18 : decode cX1_payFees 18 = .ok (.iaload, 1) := by decide +kernel
theorem dX1_payFees_19 : decode cX1_payFees 19 = .ok (.ifCond .eq 6, 3) := by decide +kernel
theorem dX1_payFees_22 : decode cX1_payFees 22 = .ok (.goto 90, 3) := by decide +kernel
theorem dX1_payFees_25 : decode cX1_payFees 25 = .ok (.aload_n 0, 1) := by decide +kernel
theorem dX1_payFees_26 : decode cX1_payFees 26 = .ok (.getfield 41, 3) := by decide +kernel
theorem dX1_payFees_29 : decode cX1_payFees 29 = .ok (.aload_n 0, 1) := by decide +kernel
theorem dX1_payFees_30 : decode cX1_payFees 30 = .ok (.getfield 33, 3) := by decide +kernel
theorem dX1_payFees_33 : decode cX1_payFees 33 = .ok (.getfield 57, 3) := by decide +kernel
theorem dX1_payFees_36 : decode cX1_payFees 36 = .ok (.iload_n 2, 1) := by decide +kernel
theorem dX1_payFees_37 : decode cX1_payFees 37 = .ok (.aaload, 1) := by decide +kernel
theorem dX1_payFees_38 : decode cX1_payFees 38 = .ok (.getfield 149, 3) := by decide +kernel
theorem dX1_payFees_41 : decode cX1_payFees 41 = .ok (.iload_n 1, 1) := by decide +kernel
theorem dX1_payFees_42 : decode cX1_payFees 42 = .ok (.invokevirtual 152, 3) := by decide +kernel
theorem dX1_payFees_45 : decode cX1_payFees 45 = .ok (.istore_n 3, 1) := by decide +kernel
theorem dX1_payFees_46 : decode cX1_payFees 46 = .ok (.aload_n 0, 1) := by decide +kernel
theorem dX1_payFees_47 : decode cX1_payFees 47 = .ok (.getfield 69, 3) := by decide +kernel
theorem dX1_payFees_50 : decode cX1_payFees 50 = .ok (.aload_n 0, 1) := by decide +kernel
theorem dX1_payFees_51 : decode cX1_payFees 51 = .ok (.getfield 33, 3) := by decide +kernel
theorem dX1_payFees_54 : decode cX1_payFees 54 = .ok (.getfield 57, 3) := by decide +kernel
theorem dX1_payFees_57 : decode cX1_payFees 57 = .ok (.iload_n 2, 1) := by decide +kernel
theorem dX1_payFees_58 : decode cX1_payFees 58 = .ok (.aaload, 1) := by decide +kernel
theorem dX1_payFees_59 : decode cX1_payFees 59 = .ok (.getfield 126, 3) := by decide +kernel
theorem dX1_payFees_62 : decode cX1_payFees 62 = .ok (.invokestatic 129, 3) := by decide +kernel
theorem dX1_payFees_65 : decode cX1_payFees 65 = .ok (.ifCond .eq 37, 3) := by decide +kernel
theorem dX1_payFees_68 : decode cX1_payFees 68 = .ok (.aload_n 0, 1) := by decide +kernel
theorem dX1_payFees_69 : decode cX1_payFees 69 = .ok (.getfield 18, 3) := by decide +kernel
theorem dX1_payFees_72 : decode cX1_payFees 72 = .ok (.iload_n 2, 1) := by decide +kernel
theorem dX1_payFees_73 : decode cX1_payFees 73 = .ok (.iaload, 1) := by decide +kernel
theorem dX1_payFees_74 : decode cX1_payFees 74 = .ok (.iload_n 3, 1) := by decide +kernel
theorem dX1_payFees_75 : decode cX1_payFees 75 = .ok (.if_icmp .ge 17, 3) := by decide +kernel
theorem dX1_payFees_78 : decode cX1_payFees 78 = .ok (.aload_n 0, 1) := by decide +kernel
theorem dX1_payFees_79 : decode cX1_payFees 79 = .ok (.getfield 18, 3) := by decide +kernel
theorem dX1_payFees_82 : decode cX1_payFees 82 = .ok (.iload_n 2, 1) := by decide +kernel
theorem dX1_payFees_83 : decode cX1_payFees 83 = .ok (.iaload, 1) := by decide +kernel
theorem dX1_payFees_84 : decode cX1_payFees 84 = .ok (.istore_n 3, 1) := by decide +kernel
theorem dX1_payFees_85 : decode cX1_payFees 85 = .ok (.aload_n 0, 1) := by decide +kernel
theorem dX1_payFees_86 : decode cX1_payFees 86 = .ok (.iconst 5, 1) := by decide +kernel
theorem dX1_payFees_87 : decode cX1_payFees 87 = .ok (.iload_n 2, 1) := by decide +kernel
theorem dX1_payFees_88 : decode cX1_payFees 88 = .ok (.iload_n 1, 1) := by decide +kernel
theorem dX1_payFees_89 : decode cX1_payFees 89 = .ok (.invokevirtual 133, 3) := by decide +kernel
theorem dX1_payFees_92 : decode cX1_payFees 92 = .ok (.aload_n 0, 1) := by decide +kernel
theorem dX1_payFees_93 : decode cX1_payFees 93 = .ok (.getfield 18, 3) := by decide +kernel
theorem dX1_payFees_96 : decode cX1_payFees 96 = .ok (.iload_n 2, 1) := by decide +kernel
theorem dX1_payFees_97 : decode cX1_payFees 97 = .ok (.dup2, 1) := by decide +kernel
theorem dX1_payFees_98 : decode cX1_payFees 98 = .ok (.iaload, 1) := by decide +kernel
theorem dX1_payFees_99 : decode cX1_payFees 99 = .ok (.iload_n 3, 1) := by decide +kernel
theorem dX1_payFees_100 : decode cX1_payFees 100 = .ok (.isub, 1) := by decide +kernel
theorem dX1_payFees_101 : decode cX1_payFees 101 = .ok (.iastore, 1) := by decide +kernel
theorem dX1_payFees_102 : decode cX1_payFees 102 = .ok (.aload_n 0, 1) := by decide +kernel
theorem dX1_payFees_103 : decode cX1_payFees 103 = .ok (.getfield 30, 3) := by decide +kernel
theorem dX1_payFees_106 : decode cX1_payFees 106 = .ok (.iload_n 1, 1) := by decide +kernel
theorem dX1_payFees_107 : decode cX1_payFees 107 = .ok (.dup2, 1) := by decide +kernel
theorem dX1_payFees_108 : decode cX1_payFees 108 = .ok (.iaload, 1) := by decide +kernel
theorem dX1_payFees_109 : decode cX1_payFees 109 = .ok (.iload_n 3, 1) := by decide +kernel
theorem dX1_payFees_110 : decode cX1_payFees 110 = .ok (.iadd, 1) := by decide +kernel
theorem dX1_payFees_111 : decode cX1_payFees 111 = .ok (.iastore, 1) := by decide +kernel
theorem dX1_payFees_112 : decode cX1_payFees 112 = .ok (.iinc 2 1, 3) := by decide +kernel
theorem dX1_payFees_115 : decode cX1_payFees 115 = .ok (.goto (-113), 3) := by decide +kernel
theorem dX1_payFees_118 : decode cX1_payFees 118 = .ok (.return_, 1) := by decide +kernel
theorem dX1_lookUp_0 : decode cX1_lookUp 0 = .ok (.iconst 0, 1) := by decide +kernel
theorem dX1_lookUp_1 : decode cX1_lookUp 1 = .ok (.istore_n 2, 1) := by decide +kernel
theorem dX1_lookUp_2 : decode cX1_lookUp 2 = .ok (.iload_n 2, 1) := by decide +kernel
theorem dX1_lookUp_3 : decode cX1_lookUp 3 = .ok (.bipush 10, 2) := by decide +kernel
theorem dX1_lookUp_5 : decode cX1_lookUp 5 = .ok (.if_icmp .ge 68, 3) := by decide +kernel
theorem dX1_lookUp_8 : decode cX1_lookUp 8 = .ok (.aload_n 0, 1) := by decide +kernel
theorem dX1_lookUp_9 : decode cX1_lookUp 9 = .ok (.iload_n 1, 1) := by decide +kernel
theorem dX1_lookUp_10 : decode cX1_lookUp 10 = .ok (.invokevirtual 156, 3) := by decide +kernel
theorem dX1_lookUp_13 : decode cX1_lookUp 13 = .ok (.istore_n 3, 1) := by decide +kernel
theorem dX1_lookUp_14 : decode cX1_lookUp 14 = .ok (.iload_n 3, 1) := by decide +kernel
theorem dX1_lookUp_15 : decode cX1_lookUp 15 = .ok (.ifCond .lt 12, 3) := by decide +kernel
theorem dX1_lookUp_18 : decode cX1_lookUp 18 = .ok (.aload_n 0, 1) := by decide +kernel
theorem dX1_lookUp_19 : decode cX1_lookUp 19 = .ok (.getfield 66, 3) := by decide +kernel
theorem dX1_lookUp_22 : decode cX1_lookUp 22 = .ok (.bipush 10, 2) := by decide +kernel
theorem dX1_lookUp_24 : decode cX1_lookUp 24 = .ok (.if_icmp .lt 4, 3) := by decide +kernel
theorem dX1_lookUp_27 : decode cX1_lookUp 27 = .ok (.return_, 1) := by decide +kernel
theorem dX1_lookUp_28 : decode cX1_lookUp 28 = .ok (.aload_n 0, 1) := by decide +kernel
theorem dX1_lookUp_29 : decode cX1_lookUp 29 = .ok (.iconst 1, 1) := by decide +kernel
theorem dX1_lookUp_30 : decode cX1_lookUp 30 = .ok (.iload_n 3, 1) := by decide +kernel
theorem dX1_lookUp_31 : decode cX1_lookUp 31 = .ok (.iload_n 1, 1) := by decide +kernel
theorem dX1_lookUp_32 : decode cX1_lookUp 32 = .ok (.invokevirtual 133, 3) := by decide +kernel
theorem dX1_lookUp_35 : decode cX1_lookUp 35 = .ok (.aload_n 0, 1) := by decide +kernel
theorem dX1_lookUp_36 : decode cX1_lookUp 36 = .ok (.dup, 1) := by decide +kernel
theorem dX1_lookUp_37 : decode cX1_lookUp 37 = .ok (.getfield 72, 3) := by decide +kernel
theorem dX1_lookUp_40 : decode cX1_lookUp 40 = .ok (.iconst 1, 1) := by decide +kernel
theorem dX1_lookUp_41 : decode cX1_lookUp 41 = .ok (.iload_n 3, 1) := by decide +kernel
theorem dX1_lookUp_42 : decode cX1_lookUp 42 = .ok (.ishl, 1) := by decide +kernel
theorem dX1_lookUp_43 : decode cX1_lookUp 43 = .ok (.ior, 1) := by decide +kernel
theorem dX1_lookUp_44 : decode cX1_lookUp 44 = .ok (.putfield 72, 3) := by decide +kernel
theorem dX1_lookUp_47 : decode cX1_lookUp 47 = .ok (.aload_n 0, 1) := by decide +kernel
theorem dX1_lookUp_48 : decode cX1_lookUp 48 = .ok (.getfield 24, 3) := by decide +kernel
theorem dX1_lookUp_51 : decode cX1_lookUp 51 = .ok (.aload_n 0, 1) := by decide +kernel
theorem dX1_lookUp_52 : decode cX1_lookUp 52 = .ok (.getfield 66, 3) := by decide +kernel
theorem dX1_lookUp_55 : decode cX1_lookUp 55 = .ok (.iload_n 3, 1) := by decide +kernel
theorem dX1_lookUp_56 : decode cX1_lookUp 56 = .ok (.iastore, 1) := by decide +kernel
theorem dX1_lookUp_57 : decode cX1_lookUp 57 = .ok (.aload_n 0, 1) := by decide +kernel
theorem dX1_lookUp_58 : decode cX1_lookUp 58 = .ok (.dup, 1) := by decide +kernel
theorem dX1_lookUp_59 : decode cX1_lookUp 59 = .ok (.getfield 66, 3) := by decide +kernel
theorem dX1_lookUp_62 : decode cX1_lookUp 62 = .ok (.iconst 1, 1) := by decide +kernel
theorem dX1_lookUp_63 : decode cX1_lookUp 63 = .ok (.iadd, 1) := by decide +kernel
theorem dX1_lookUp_64 : decode cX1_lookUp 64 = .ok (.putfield 66, 3) := by decide +kernel
theorem dX1_lookUp_67 : decode cX1_lookUp 67 = .ok (.iinc 2 1, 3) := by decide +kernel
theorem dX1_lookUp_70 : decode cX1_lookUp 70 = .ok (.goto (-68), 3) := by decide +kernel
theorem dX1_lookUp_73 : decode cX1_lookUp 73 = .ok (.return_, 1) := by decide +kernel
theorem dX1_firstDue_0 : decode cX1_firstDue 0 = .ok (.iconst 0, 1) := by decide +kernel
theorem dX1_firstDue_1 : decode cX1_firstDue 1 = .ok (.istore_n 2, 1) := by decide +kernel
theorem dX1_firstDue_2 : decode cX1_firstDue 2 = .ok (.iload_n 2, 1) := by decide +kernel
theorem dX1_firstDue_3 : decode cX1_firstDue 3 = .ok (.aload_n 0, 1) := by decide +kernel
theorem dX1_firstDue_4 : decode cX1_firstDue 4 = .ok (.getfield 33, 3) := by decide +kernel
theorem dX1_firstDue_7 : decode cX1_firstDue 7 = .ok (.getfield 51, 3) := by decide +kernel
theorem dX1_firstDue_10 : decode cX1_firstDue 10 = .ok (.if_icmp .ge 89, 3) := by decide +kernel
theorem dX1_firstDue_13 : decode cX1_firstDue 13 = .ok (.aload_n 0, 1) := by decide +kernel
theorem dX1_firstDue_14 : decode cX1_firstDue 14 = .ok (.getfield 33, 3) := by decide +kernel
theorem dX1_firstDue_17 : decode cX1_firstDue 17 = .ok (.getfield 57, 3) := by decide +kernel
theorem dX1_firstDue_20 : decode cX1_firstDue 20 = .ok (.iload_n 2, 1) := by decide +kernel
theorem dX1_firstDue_21 : decode cX1_firstDue 21 = .ok (.aaload, 1) := by decide +kernel
theorem dX1_firstDue_22 : decode cX1_firstDue 22 = .ok (.astore_n 3, 1) := by decide +kernel
theorem dX1_firstDue_23 : decode cX1_firstDue 23 = .ok (.aload_n 0, 1) := by decide +kernel
theorem dX1_firstDue_24 : decode cX1_firstDue 24 = .ok (.getfield 9, 3) := by decide +kernel
theorem dX1_firstDue_27 : decode cX1_firstDue 27 = .ok (.iload_n 2, 1) := by decide +kernel
theorem dX1_firstDue_28 : decode cX1_firstDue 28 = .ok (.iaload, 1) := by decide +kernel
theorem dX1_firstDue_29 : decode cX1_firstDue 29 = .ok (.ifCond .ne 64, 3) := by decide +kernel
theorem dX1_firstDue_32 : decode cX1_firstDue 32 = .ok (.aload_n 0, 1) := by decide +kernel
theorem dX1_firstDue_33 : decode cX1_firstDue 33 = .ok (.getfield 21, 3) := by decide +kernel
theorem dX1_firstDue_36 : decode cX1_firstDue 36 = .ok (.iload_n 2, 1) := by decide +kernel
theorem dX1_firstDue_37 : decode cX1_firstDue 37 = .ok (.iaload, 1) := by decide +kernel
theorem dX1_firstDue_38 : decode cX1_firstDue 38 = .ok (.iload_n 1, 1) := by decide +kernel
theorem dX1_firstDue_39 : decode cX1_firstDue 39 = .ok (.if_icmp .gt 54, 3) := by decide +kernel
theorem dX1_firstDue_42 : decode cX1_firstDue 42 = .ok (.aload_n 0, 1) := by decide +kernel
theorem dX1_firstDue_43 : decode cX1_firstDue 43 = .ok (.getfield 69, 3) := by decide +kernel
theorem dX1_firstDue_46 : decode cX1_firstDue 46 = .ok (.aload_n 3, 1) := by decide +kernel
theorem dX1_firstDue_47 : decode cX1_firstDue 47 = .ok (.getfield 160, 3) := by decide +kernel
theorem dX1_firstDue_50 : decode cX1_firstDue 50 = .ok (.invokestatic 129, 3) := by decide +kernel
theorem dX1_firstDue_53 : decode cX1_firstDue 53 = .ok (.ifCond .ne 40, 3) := by decide +kernel
theorem dX1_firstDue_56 : decode cX1_firstDue 56 = .ok (.aload_n 0, 1) := by decide +kernel
theorem dX1_firstDue_57 : decode cX1_firstDue 57 = .ok (.getfield 33, 3) := by decide +kernel
theorem dX1_firstDue_60 : decode cX1_firstDue 60 = .ok (.iload_n 1, 1) := by decide +kernel
theorem dX1_firstDue_61 : decode cX1_firstDue 61 = .ok (.aload_n 3, 1) := by decide +kernel
theorem dX1_firstDue_62 : decode cX1_firstDue 62 = .ok (.getfield 160, 3) := by decide +kernel
theorem dX1_firstDue_65 : decode cX1_firstDue 65 = .ok (.invokevirtual 163, 3) := by decide +kernel
theorem dX1_firstDue_68 : decode cX1_firstDue 68 = .ok (.ifCond .eq 25, 3) := by decide +kernel
theorem dX1_firstDue_71 : decode cX1_firstDue 71 = .ok (.aload_n 0, 1) := by decide +kernel
theorem dX1_firstDue_72 : decode cX1_firstDue 72 = .ok (.getfield 41, 3) := by decide +kernel
theorem dX1_firstDue_75 : decode cX1_firstDue 75 = .ok (.aload_n 3, 1) := by decide +kernel
theorem dX1_firstDue_76 : decode cX1_firstDue 76 = .ok (.iload_n 1, 1) := by decide +kernel
theorem dX1_firstDue_77 : decode cX1_firstDue 77 = .ok (.aload_n 0, 1) := by decide +kernel
theorem dX1_firstDue_78 : decode cX1_firstDue 78 = .ok (.getfield 69, 3) := by decide +kernel
theorem dX1_firstDue_81 : decode cX1_firstDue 81 = .ok (.aload_n 0, 1) := by decide +kernel
theorem dX1_firstDue_82 : decode cX1_firstDue 82 = .ok (.getfield 72, 3) := by decide +kernel
theorem dX1_firstDue_85 : decode cX1_firstDue 85 = .ok (.invokevirtual 137, 3) := by decide +kernel
theorem dX1_firstDue_88 : decode cX1_firstDue 88 = .ok (.ifCond .eq 5, 3) := by decide +kernel
theorem dX1_firstDue_91 : decode cX1_firstDue 91 = .ok (.iload_n 2, 1) := by decide +kernel
theorem dX1_firstDue_92 : decode cX1_firstDue 92 = .ok (.ireturn, 1) := by decide +kernel
theorem dX1_firstDue_93 : decode cX1_firstDue 93 = .ok (.iinc 2 1, 3) := by decide +kernel
theorem dX1_firstDue_96 : decode cX1_firstDue 96 = .ok (.goto (-94), 3) := by decide +kernel
theorem dX1_firstDue_99 : decode cX1_firstDue 99 = .ok (.iconst (-1), 1) := by decide +kernel
theorem dX1_firstDue_100 : decode cX1_firstDue 100 = .ok (.ireturn, 1) := by decide +kernel
theorem dX1_shutAgain_0 : decode cX1_shutAgain 0 = .ok (.iload_n 1, 1) := by decide +kernel
theorem dX1_shutAgain_1 : decode cX1_shutAgain 1 = .ok (.istore_n 3, 1) := by decide +kernel
theorem dX1_shutAgain_2 : decode cX1_shutAgain 2 = .ok (.iload_n 3, 1) := by decide +kernel
theorem dX1_shutAgain_3 : decode cX1_shutAgain 3 = .ok (.aload_n 0, 1) := by decide +kernel
theorem dX1_shutAgain_4 : decode cX1_shutAgain 4 = .ok (.getfield 66, 3) := by decide +kernel
theorem dX1_shutAgain_7 : decode cX1_shutAgain 7 = .ok (.if_icmp .ge 22, 3) := by decide +kernel
theorem dX1_shutAgain_10 : decode cX1_shutAgain 10 = .ok (.aload_n 0, 1) := by decide +kernel
theorem dX1_shutAgain_11 : decode cX1_shutAgain 11 = .ok (.iconst 0, 1) := by decide +kernel
theorem dX1_shutAgain_12 : decode cX1_shutAgain 12 = .ok (.aload_n 0, 1) := by decide +kernel
theorem dX1_shutAgain_13 : decode cX1_shutAgain 13 = .ok (.getfield 24, 3) := by decide +kernel
theorem dX1_shutAgain_16 : decode cX1_shutAgain 16 = .ok (.iload_n 3, 1) := by decide +kernel
theorem dX1_shutAgain_17 : decode cX1_shutAgain 17 = .ok (.iaload, 1) := by decide +kernel
theorem dX1_shutAgain_18 : decode cX1_shutAgain 18 = .ok (.bipush (-2), 2) := by decide +kernel
theorem dX1_shutAgain_20 : decode cX1_shutAgain 20 = .ok (.invokevirtual 133, 3) := by decide +kernel
theorem dX1_shutAgain_23 : decode cX1_shutAgain 23 = .ok (.iinc 3 1, 3) := by decide +kernel
theorem dX1_shutAgain_26 : decode cX1_shutAgain 26 = .ok (.goto (-24), 3) := by decide +kernel
theorem dX1_shutAgain_29 : decode cX1_shutAgain 29 = .ok (.aload_n 0, 1) := by decide +kernel
theorem dX1_shutAgain_30 : decode cX1_shutAgain 30 = .ok (.iload_n 1, 1) := by decide +kernel
theorem dX1_shutAgain_31 : decode cX1_shutAgain 31 = .ok (.putfield 66, 3) := by decide +kernel
theorem dX1_shutAgain_34 : decode cX1_shutAgain 34 = .ok (.aload_n 0, 1) := by decide +kernel
theorem dX1_shutAgain_35 : decode cX1_shutAgain 35 = .ok (.iload_n 2, 1) := by decide +kernel
theorem dX1_shutAgain_36 : decode cX1_shutAgain 36 = .ok (.putfield 72, 3) := by decide +kernel
theorem dX1_shutAgain_39 : decode cX1_shutAgain 39 = .ok (.return_, 1) := by decide +kernel
theorem dX1_openedAs_0 : decode cX1_openedAs 0 = .ok (.iconst 0, 1) := by decide +kernel
theorem dX1_openedAs_1 : decode cX1_openedAs 1 = .ok (.istore_n 3, 1) := by decide +kernel
theorem dX1_openedAs_2 : decode cX1_openedAs 2 = .ok (.iconst 0, 1) := by decide +kernel
theorem dX1_openedAs_3 : decode cX1_openedAs 3 = .ok (.istore 4, 2) := by decide +kernel
theorem dX1_openedAs_5 : decode cX1_openedAs 5 = .ok (.iload 4, 2) := by decide +kernel
theorem dX1_openedAs_7 : decode cX1_openedAs 7 = .ok (.aload_n 0, 1) := by decide +kernel
theorem dX1_openedAs_8 : decode cX1_openedAs 8 = .ok (.getfield 66, 3) := by decide +kernel
theorem dX1_openedAs_11 : decode cX1_openedAs 11 = .ok (.if_icmp .ge 41, 3) := by decide +kernel
theorem dX1_openedAs_14 : decode cX1_openedAs 14 = .ok (.aload_n 0, 1) := by decide +kernel
theorem dX1_openedAs_15 : decode cX1_openedAs 15 = .ok (.getfield 15, 3) := by decide +kernel
theorem dX1_openedAs_18 : decode cX1_openedAs 18 = .ok (.aload_n 0, 1) := by decide +kernel
theorem dX1_openedAs_19 : decode cX1_openedAs 19 = .ok (.getfield 24, 3) := by decide +kernel
theorem dX1_openedAs_22 : decode cX1_openedAs 22 = .ok (.iload 4, 2) := by decide +kernel
theorem dX1_openedAs_24 : decode cX1_openedAs 24 = .ok (.iaload, 1) := by decide +kernel
theorem dX1_openedAs_25 : decode cX1_openedAs 25 = .ok (.iaload, 1) := by decide +kernel
theorem dX1_openedAs_26 : decode cX1_openedAs 26 = .ok (.iload_n 1, 1) := by decide +kernel
theorem dX1_openedAs_27 : decode cX1_openedAs 27 = .ok (.if_icmp .ne 19, 3) := by decide +kernel
theorem dX1_openedAs_30 : decode cX1_openedAs 30 = .ok (.iload_n 3, 1) := by decide +kernel
theorem dX1_openedAs_31 : decode cX1_openedAs 31 = .ok (.iload_n 2, 1) := by decide +kernel
theorem dX1_openedAs_32 : decode cX1_openedAs 32 = .ok (.if_icmp .ne 11, 3) := by decide +kernel
theorem dX1_openedAs_35 : decode cX1_openedAs 35 = .ok (.aload_n 0, 1) := by decide +kernel
theorem dX1_openedAs_36 : decode cX1_openedAs 36 = .ok (.getfield 24, 3) := by decide +kernel
theorem dX1_openedAs_39 : decode cX1_openedAs 39 = .ok (.iload 4, 2) := by decide +kernel
theorem dX1_openedAs_41 : decode cX1_openedAs 41 = .ok (.iaload, 1) := by decide +kernel
theorem dX1_openedAs_42 : decode cX1_openedAs 42 = .ok (.ireturn, 1) := by decide +kernel
theorem dX1_openedAs_43 : decode cX1_openedAs 43 = .ok (.iinc 3 1, 3) := by decide +kernel
theorem dX1_openedAs_46 : decode cX1_openedAs 46 = .ok (.iinc 4 1, 3) := by decide +kernel
theorem dX1_openedAs_49 : decode cX1_openedAs 49 = .ok (.goto (-44), 3) := by decide +kernel
theorem dX1_openedAs_52 : decode cX1_openedAs 52 = .ok (.iconst (-1), 1) := by decide +kernel
theorem dX1_openedAs_53 : decode cX1_openedAs 53 = .ok (.ireturn, 1) := by decide +kernel
theorem dX1_reasonOf_0 : decode cX1_reasonOf 0 = .ok (.aload_n 0, 1) := by decide +kernel
theorem dX1_reasonOf_1 : decode cX1_reasonOf 1 = .ok (.iload_n 1, 1) := by decide +kernel
theorem dX1_reasonOf_2 : decode cX1_reasonOf 2 = .ok (.invokevirtual 166, 3) := by decide +kernel
theorem dX1_reasonOf_5 : decode cX1_reasonOf 5 = .ok (.ifCond .eq 5, 3) := by decide +kernel
theorem dX1_reasonOf_8 : decode cX1_reasonOf 8 = .ok (.iconst 0, 1) := by decide +kernel
theorem dX1_reasonOf_9 : decode cX1_reasonOf 9 = .ok (.ireturn, 1) := by decide +kernel
theorem dX1_reasonOf_10 : decode cX1_reasonOf 10 = .ok (.aload_n 0, 1) := by decide +kernel
theorem dX1_reasonOf_11 : decode cX1_reasonOf 11 = .ok (.getfield 33, 3) := by decide +kernel
theorem dX1_reasonOf_14 : decode cX1_reasonOf 14 = .ok (.getfield 57, 3) := by decide +kernel
theorem dX1_reasonOf_17 : decode cX1_reasonOf 17 = .ok (.iload_n 1, 1) := by decide +kernel
theorem dX1_reasonOf_18 : decode cX1_reasonOf 18 = .ok (.aaload, 1) := by decide +kernel
theorem dX1_reasonOf_19 : decode cX1_reasonOf 19 = .ok (.astore_n 3, 1) := by decide +kernel
theorem dX1_reasonOf_20 : decode cX1_reasonOf 20 = .ok (.aload_n 0, 1) := by decide +kernel
theorem dX1_reasonOf_21 : decode cX1_reasonOf 21 = .ok (.getfield 9, 3) := by decide +kernel
theorem dX1_reasonOf_24 : decode cX1_reasonOf 24 = .ok (.iload_n 1, 1) := by decide +kernel
theorem dX1_reasonOf_25 : decode cX1_reasonOf 25 = .ok (.iaload, 1) := by decide +kernel
theorem dX1_reasonOf_26 : decode cX1_reasonOf 26 = .ok (.ifCond .eq 5, 3) := by decide +kernel
theorem dX1_reasonOf_29 : decode cX1_reasonOf 29 = .ok (.iconst 1, 1) := by decide +kernel
theorem dX1_reasonOf_30 : decode cX1_reasonOf 30 = .ok (.ireturn, 1) := by decide +kernel
theorem dX1_reasonOf_31 : decode cX1_reasonOf 31 = .ok (.aload_n 0, 1) := by decide +kernel
theorem dX1_reasonOf_32 : decode cX1_reasonOf 32 = .ok (.getfield 41, 3) := by decide +kernel
theorem dX1_reasonOf_35 : decode cX1_reasonOf 35 = .ok (.aload_n 3, 1) := by decide +kernel
theorem dX1_reasonOf_36 : decode cX1_reasonOf 36 = .ok (.iload_n 2, 1) := by decide +kernel
theorem dX1_reasonOf_37 : decode cX1_reasonOf 37 = .ok (.aload_n 0, 1) := by decide +kernel
theorem dX1_reasonOf_38 : decode cX1_reasonOf 38 = .ok (.getfield 69, 3) := by decide +kernel
theorem dX1_reasonOf_41 : decode cX1_reasonOf 41 = .ok (.aload_n 0, 1) := by decide +kernel
theorem dX1_reasonOf_42 : decode cX1_reasonOf 42 = .ok (.getfield 72, 3) := by decide +kernel
theorem dX1_reasonOf_45 : decode cX1_reasonOf 45 = .ok (.invokevirtual 137, 3) := by decide +kernel
theorem dX1_reasonOf_48 : decode cX1_reasonOf 48 = .ok (.ifCond .ne 5, 3) := by decide +kernel
theorem dX1_reasonOf_51 : decode cX1_reasonOf 51 = .ok (.iconst 2, 1) := by decide +kernel
theorem dX1_reasonOf_52 : decode cX1_reasonOf 52 = .ok (.ireturn, 1) := by decide +kernel
theorem dX1_reasonOf_53 : decode cX1_reasonOf 53 = .ok (.aload_n 0, 1) := by decide +kernel
theorem dX1_reasonOf_54 : decode cX1_reasonOf 54 = .ok (.getfield 21, 3) := by decide +kernel
theorem dX1_reasonOf_57 : decode cX1_reasonOf 57 = .ok (.iload_n 1, 1) := by decide +kernel
theorem dX1_reasonOf_58 : decode cX1_reasonOf 58 = .ok (.iaload, 1) := by decide +kernel
theorem dX1_reasonOf_59 : decode cX1_reasonOf 59 = .ok (.iload_n 2, 1) := by decide +kernel
theorem dX1_reasonOf_60 : decode cX1_reasonOf 60 = .ok (.if_icmp .le 5, 3) := by decide +kernel
theorem dX1_reasonOf_63 : decode cX1_reasonOf 63 = .ok (.iconst 3, 1) := by decide +kernel
theorem dX1_reasonOf_64 : decode cX1_reasonOf 64 = .ok (.ireturn, 1) := by decide +kernel
theorem dX1_reasonOf_65 : decode cX1_reasonOf 65 = .ok (.aload_n 0, 1) := by decide +kernel
theorem dX1_reasonOf_66 : decode cX1_reasonOf 66 = .ok (.getfield 69, 3) := by decide +kernel
theorem dX1_reasonOf_69 : decode cX1_reasonOf 69 = .ok (.aload_n 3, 1) := by decide +kernel
theorem dX1_reasonOf_70 : decode cX1_reasonOf 70 = .ok (.getfield 160, 3) := by decide +kernel
theorem dX1_reasonOf_73 : decode cX1_reasonOf 73 = .ok (.invokestatic 129, 3) := by decide +kernel
theorem dX1_reasonOf_76 : decode cX1_reasonOf 76 = .ok (.ifCond .eq 7, 3) := by decide +kernel
theorem dX1_reasonOf_79 : decode cX1_reasonOf 79 = .ok (.iconst 4, 1) := by decide +kernel
theorem dX1_reasonOf_80 : decode cX1_reasonOf 80 = .ok (.goto 4, 3) := by decide +kernel
theorem dX1_reasonOf_83 : decode cX1_reasonOf 83 = .ok (.iconst 5, 1) := by decide +kernel
theorem dX1_reasonOf_84 : decode cX1_reasonOf 84 = .ok (.ireturn, 1) := by decide +kernel
theorem dX1_hasBeenOpened_0 : decode cX1_hasBeenOpened 0 = .ok (.aload_n 0, 1) := by decide +kernel
theorem dX1_hasBeenOpened_1 : decode cX1_hasBeenOpened 1 = .ok (.getfield 9, 3) := by decide +kernel
theorem dX1_hasBeenOpened_4 : decode cX1_hasBeenOpened 4 = .ok (.iload_n 1, 1) := by decide +kernel
theorem dX1_hasBeenOpened_5 : decode cX1_hasBeenOpened 5 = .ok (.iaload, 1) := by decide +kernel
theorem dX1_hasBeenOpened_6 : decode cX1_hasBeenOpened 6 = .ok (.iconst 1, 1) := by decide +kernel
theorem dX1_hasBeenOpened_7 : decode cX1_hasBeenOpened 7 = .ok (.if_icmp .eq 13, 3) := by decide +kernel
theorem dX1_hasBeenOpened_10 : decode cX1_hasBeenOpened 10 = .ok (.aload_n 0, 1) := by decide +kernel
theorem dX1_hasBeenOpened_11 : decode cX1_hasBeenOpened 11 = .ok (.getfield 9, 3) := by decide +kernel
theorem dX1_hasBeenOpened_14 : decode cX1_hasBeenOpened 14 = .ok (.iload_n 1, 1) := by decide +kernel
theorem dX1_hasBeenOpened_15 : decode cX1_hasBeenOpened 15 = .ok (.iaload, 1) := by decide +kernel
theorem dX1_hasBeenOpened_16 : decode cX1_hasBeenOpened 16 = .ok (.iconst 2, 1) := by decide +kernel
theorem dX1_hasBeenOpened_17 : decode cX1_hasBeenOpened 17 = .ok (.if_icmp .ne 7, 3) := by decide +kernel
theorem dX1_hasBeenOpened_20 : decode cX1_hasBeenOpened 20 = .ok (.iconst 1, 1) := by decide +kernel
theorem dX1_hasBeenOpened_21 : decode cX1_hasBeenOpened 21 = .ok (.goto 4, 3) := by decide +kernel
theorem dX1_hasBeenOpened_24 : decode cX1_hasBeenOpened 24 = .ok (.iconst 0, 1) := by decide +kernel
theorem dX1_hasBeenOpened_25 : decode cX1_hasBeenOpened 25 = .ok (.ireturn, 1) := by decide +kernel
theorem dX1_paidFrom_0 : decode cX1_paidFrom 0 = .ok (.iconst 0, 1) := by decide +kernel
theorem dX1_paidFrom_1 : decode cX1_paidFrom 1 = .ok (.istore_n 3, 1) := by decide +kernel
theorem dX1_paidFrom_2 : decode cX1_paidFrom 2 = .ok (.iload_n 1, 1) := by decide +kernel
theorem dX1_paidFrom_3 : decode cX1_paidFrom 3 = .ok (.istore 4, 2) := by decide +kernel
theorem dX1_paidFrom_5 : decode cX1_paidFrom 5 = .ok (.iload 4, 2) := by decide +kernel
theorem dX1_paidFrom_7 : decode cX1_paidFrom 7 = .ok (.iload_n 2, 1) := by decide +kernel
theorem dX1_paidFrom_8 : decode cX1_paidFrom 8 = .ok (.if_icmp .gt 26, 3) := by decide +kernel
theorem dX1_paidFrom_11 : decode cX1_paidFrom 11 = .ok (.iload 4, 2) := by decide +kernel
theorem dX1_paidFrom_13 : decode cX1_paidFrom 13 = .ok (.bipush 60, 2) := by decide +kernel
theorem dX1_paidFrom_15 : decode cX1_paidFrom 15 = .ok (.if_icmp .ge 19, 3) := by decide +kernel
theorem dX1_paidFrom_18 : decode cX1_paidFrom 18 = .ok (.iload_n 3, 1) := by decide +kernel
theorem dX1_paidFrom_19 : decode cX1_paidFrom 19 = .ok (.aload_n 0, 1) := by decide +kernel
theorem dX1_paidFrom_20 : decode cX1_paidFrom 20 = .ok (.getfield 30, 3) := by decide +kernel
theorem dX1_paidFrom_23 : decode cX1_paidFrom 23 = .ok (.iload 4, 2) := by decide +kernel
theorem dX1_paidFrom_25 : decode cX1_paidFrom 25 = .ok (.iaload, 1) := by decide +kernel
theorem dX1_paidFrom_26 : decode cX1_paidFrom 26 = .ok (.iadd, 1) := by decide +kernel
theorem dX1_paidFrom_27 : decode cX1_paidFrom 27 = .ok (.istore_n 3, 1) := by decide +kernel
theorem dX1_paidFrom_28 : decode cX1_paidFrom 28 = .ok (.iinc 4 1, 3) := by decide +kernel
theorem dX1_paidFrom_31 : decode cX1_paidFrom 31 = .ok (.goto (-26), 3) := by decide +kernel
theorem dX1_paidFrom_34 : decode cX1_paidFrom 34 = .ok (.iload_n 3, 1) := by decide +kernel
theorem dX1_paidFrom_35 : decode cX1_paidFrom 35 = .ok (.ireturn, 1) := by decide +kernel
theorem dX1_openingBehind_0 : decode cX1_openingBehind 0 = .ok (.bipush 60, 2) := by decide +kernel
theorem dX1_openingBehind_2 : decode cX1_openingBehind 2 = .ok (.istore_n 2, 1) := by decide +kernel
theorem dX1_openingBehind_3 : decode cX1_openingBehind 3 = .ok (.iconst 0, 1) := by decide +kernel
theorem dX1_openingBehind_4 : decode cX1_openingBehind 4 = .ok (.istore_n 3, 1) := by decide +kernel
theorem dX1_openingBehind_5 : decode cX1_openingBehind 5 = .ok (.iload_n 3, 1) := by decide +kernel
theorem dX1_openingBehind_6 : decode cX1_openingBehind 6 = .ok (.aload_n 0, 1) := by decide +kernel
theorem dX1_openingBehind_7 : decode cX1_openingBehind 7 = .ok (.getfield 66, 3) := by decide +kernel
theorem dX1_openingBehind_10 : decode cX1_openingBehind 10 = .ok (.if_icmp .ge 37, 3) := by decide +kernel
theorem dX1_openingBehind_13 : decode cX1_openingBehind 13 = .ok (.aload_n 0, 1) := by decide +kernel
theorem dX1_openingBehind_14 : decode cX1_openingBehind 14 = .ok (.getfield 15, 3) := by decide +kernel
theorem dX1_openingBehind_17 : decode cX1_openingBehind 17 = .ok (.aload_n 0, 1) := by decide +kernel
theorem dX1_openingBehind_18 : decode cX1_openingBehind 18 = .ok (.getfield 24, 3) := by decide +kernel
theorem dX1_openingBehind_21 : decode cX1_openingBehind 21 = .ok (.iload_n 3, 1) := by decide +kernel
theorem dX1_openingBehind_22 : decode cX1_openingBehind 22 = .ok (.iaload, 1) := by decide +kernel
theorem dX1_openingBehind_23 : decode cX1_openingBehind 23 = .ok (.iaload, 1) := by decide +kernel
theorem dX1_openingBehind_24 : decode cX1_openingBehind 24 = .ok (.istore 4, 2) := by decide +kernel
theorem dX1_openingBehind_26 : decode cX1_openingBehind 26 = .ok (.iload 4, 2) := by decide +kernel
theorem dX1_openingBehind_28 : decode cX1_openingBehind 28 = .ok (.iload_n 1, 1) := by decide +kernel
theorem dX1_openingBehind_29 : decode cX1_openingBehind 29 = .ok (.if_icmp .le 12, 3) := by decide +kernel
theorem dX1_openingBehind_32 : decode cX1_openingBehind 32 = .ok (.iload 4, 2) := by decide +kernel
theorem dX1_openingBehind_34 : decode cX1_openingBehind 34 = .ok (.iload_n 2, 1) := by decide +kernel
theorem dX1_openingBehind_35 : decode cX1_openingBehind 35 = .ok (.if_icmp .ge 6, 3) := by decide +kernel
theorem dX1_openingBehind_38 : decode cX1_openingBehind 38 = .ok (.iload 4, 2) := by decide +kernel
theorem dX1_openingBehind_40 : decode cX1_openingBehind 40 = .ok (.istore_n 2, 1) := by decide +kernel
theorem dX1_openingBehind_41 : decode cX1_openingBehind 41 = .ok (.iinc 3 1, 3) := by decide +kernel
theorem dX1_openingBehind_44 : decode cX1_openingBehind 44 = .ok (.goto (-39), 3) := by decide +kernel
theorem dX1_openingBehind_47 : decode cX1_openingBehind 47 = .ok (.iload_n 2, 1) := by decide +kernel
theorem dX1_openingBehind_48 : decode cX1_openingBehind 48 = .ok (.bipush 60, 2) := by decide +kernel
theorem dX1_openingBehind_50 : decode cX1_openingBehind 50 = .ok (.if_icmp .ge 7, 3) := by decide +kernel
theorem dX1_openingBehind_53 : decode cX1_openingBehind 53 = .ok (.iload_n 2, 1) := by decide +kernel
theorem dX1_openingBehind_54 : decode cX1_openingBehind 54 = .ok (.goto 5, 3) := by decide +kernel
theorem dX1_openingBehind_57 : decode cX1_openingBehind 57 = .ok (.bipush (-2), 2) := by decide +kernel
theorem dX1_openingBehind_59 : decode cX1_openingBehind 59 = .ok (.ireturn, 1) := by decide +kernel
theorem dX1_lettersThatAre_0 : decode cX1_lettersThatAre 0 = .ok (.iconst 0, 1) := by decide +kernel
theorem dX1_lettersThatAre_1 : decode cX1_lettersThatAre 1 = .ok (.istore_n 2, 1) := by decide +kernel
theorem dX1_lettersThatAre_2 : decode cX1_lettersThatAre 2 = .ok (.iconst 0, 1) := by decide +kernel
theorem dX1_lettersThatAre_3 : decode cX1_lettersThatAre 3 = .ok (.istore_n 3, 1) := by decide +kernel
theorem dX1_lettersThatAre_4 : decode cX1_lettersThatAre 4 = .ok (.iload_n 3, 1) := by decide +kernel
theorem dX1_lettersThatAre_5 : decode cX1_lettersThatAre 5 = .ok (.aload_n 0, 1) := by decide +kernel
theorem dX1_lettersThatAre_6 : decode cX1_lettersThatAre 6 = .ok (.getfield 33, 3) := by decide +kernel
theorem dX1_lettersThatAre_9 : decode cX1_lettersThatAre 9 = .ok (.getfield 51, 3) := by decide +kernel
theorem dX1_lettersThatAre_12 : decode cX1_lettersThatAre 12 = .ok (.if_icmp .ge 25, 3) := by decide +kernel
theorem dX1_lettersThatAre_15 : decode cX1_lettersThatAre 15 = .ok (.aload_n 0, 1) := by decide +kernel
theorem dX1_lettersThatAre_16 : decode cX1_lettersThatAre 16 = .ok (.getfield 9, 3) := by decide +kernel
theorem dX1_lettersThatAre_19 : decode cX1_lettersThatAre 19 = .ok (.iload_n 3, 1) := by decide +kernel
theorem dX1_lettersThatAre_20 : decode cX1_lettersThatAre 20 = .ok (.iaload, 1) := by decide +kernel
theorem dX1_lettersThatAre_21 : decode cX1_lettersThatAre 21 = .ok (.iload_n 1, 1) := by decide +kernel
theorem dX1_lettersThatAre_22 : decode cX1_lettersThatAre 22 = .ok (.if_icmp .ne 9, 3) := by decide +kernel
theorem dX1_lettersThatAre_25 : decode cX1_lettersThatAre 25 = .ok (.iload_n 2, 1) := by decide +kernel
theorem dX1_lettersThatAre_26 : decode cX1_lettersThatAre 26 = .ok (.iconst 1, 1) := by decide +kernel
theorem dX1_lettersThatAre_27 : decode cX1_lettersThatAre 27 = .ok (.iload_n 3, 1) := by decide +kernel
theorem dX1_lettersThatAre_28 : decode cX1_lettersThatAre 28 = .ok (.ishl, 1) := by decide +kernel
theorem dX1_lettersThatAre_29 : decode cX1_lettersThatAre 29 = .ok (.ior, 1) := by decide +kernel
theorem dX1_lettersThatAre_30 : decode cX1_lettersThatAre 30 = .ok (.istore_n 2, 1) := by decide +kernel
theorem dX1_lettersThatAre_31 : decode cX1_lettersThatAre 31 = .ok (.iinc 3 1, 3) := by decide +kernel
theorem dX1_lettersThatAre_34 : decode cX1_lettersThatAre 34 = .ok (.goto (-30), 3) := by decide +kernel
theorem dX1_lettersThatAre_37 : decode cX1_lettersThatAre 37 = .ok (.iload_n 2, 1) := by decide +kernel
theorem dX1_lettersThatAre_38 : decode cX1_lettersThatAre 38 = .ok (.ireturn, 1) := by decide +kernel
theorem dX1_liveByLots_0 : decode cX1_liveByLots 0 = .ok (.aload_n 0, 1) := by decide +kernel
theorem dX1_liveByLots_1 : decode cX1_liveByLots 1 = .ok (.iconst 1, 1) := by decide +kernel
theorem dX1_liveByLots_2 : decode cX1_liveByLots 2 = .ok (.invokevirtual 88, 3) := by decide +kernel
theorem dX1_liveByLots_5 : decode cX1_liveByLots 5 = .ok (.iconst 0, 1) := by decide +kernel
theorem dX1_liveByLots_6 : decode cX1_liveByLots 6 = .ok (.istore_n 3, 1) := by decide +kernel
theorem dX1_liveByLots_7 : decode cX1_liveByLots 7 = .ok (.iload_n 3, 1) := by decide +kernel
theorem dX1_liveByLots_8 : decode cX1_liveByLots 8 = .ok (.bipush 60, 2) := by decide +kernel
theorem dX1_liveByLots_10 : decode cX1_liveByLots 10 = .ok (.if_icmp .ge 129, 3) := by decide +kernel
theorem dX1_liveByLots_13 : decode cX1_liveByLots 13 = .ok (.iconst 0, 1) := by decide +kernel
theorem dX1_liveByLots_14 : decode cX1_liveByLots 14 = .ok (.istore 4, 2) := by decide +kernel
theorem dX1_liveByLots_16 : decode cX1_liveByLots 16 = .ok (.iload 4, 2) := by decide +kernel
theorem dX1_liveByLots_18 : decode cX1_liveByLots 18 = .ok (.aload_n 0, 1) := by decide +kernel
theorem dX1_liveByLots_19 : decode cX1_liveByLots 19 = .ok (.getfield 33, 3) := by decide +kernel
theorem dX1_liveByLots_22 : decode cX1_liveByLots 22 = .ok (.getfield 170, 3) := by decide +kernel
theorem dX1_liveByLots_25 : decode cX1_liveByLots 25 = .ok (.if_icmp .ge 58, 3) := by decide +kernel
theorem dX1_liveByLots_28 : decode cX1_liveByLots 28 = .ok (.aload_n 0, 1) := by decide +kernel
theorem dX1_liveByLots_29 : decode cX1_liveByLots 29 = .ok (.getfield 69, 3) := by decide +kernel
theorem dX1_liveByLots_32 : decode cX1_liveByLots 32 = .ok (.iload 4, 2) := by decide +kernel
theorem dX1_liveByLots_34 : decode cX1_liveByLots 34 = .ok (.invokestatic 129, 3) := by decide +kernel
theorem dX1_liveByLots_37 : decode cX1_liveByLots 37 = .ok (.ifCond .ne 40, 3) := by decide +kernel
theorem dX1_liveByLots_40 : decode cX1_liveByLots 40 = .ok (.iload_n 1, 1) := by decide +kernel
theorem dX1_liveByLots_41 : decode cX1_liveByLots 41 = .ok (.bipush 100, 2) := by decide +kernel
theorem dX1_liveByLots_43 : decode cX1_liveByLots 43 = .ok (.iload_n 3, 1) := by decide +kernel
theorem dX1_liveByLots_44 : decode cX1_liveByLots 44 = .ok (.imul, 1) := by decide +kernel
theorem dX1_liveByLots_45 : decode cX1_liveByLots 45 = .ok (.iload 4, 2) := by decide +kernel
theorem dX1_liveByLots_47 : decode cX1_liveByLots 47 = .ok (.iadd, 1) := by decide +kernel
theorem dX1_liveByLots_48 : decode cX1_liveByLots 48 = .ok (.invokestatic 173, 3) := by decide +kernel
theorem dX1_liveByLots_51 : decode cX1_liveByLots 51 = .ok (.aload_n 0, 1) := by decide +kernel
theorem dX1_liveByLots_52 : decode cX1_liveByLots 52 = .ok (.getfield 41, 3) := by decide +kernel
theorem dX1_liveByLots_55 : decode cX1_liveByLots 55 = .ok (.iload 4, 2) := by decide +kernel
theorem dX1_liveByLots_57 : decode cX1_liveByLots 57 = .ok (.iload_n 3, 1) := by decide +kernel
theorem dX1_liveByLots_58 : decode cX1_liveByLots 58 = .ok (.invokevirtual 176, 3) := by decide +kernel
theorem dX1_liveByLots_61 : decode cX1_liveByLots 61 = .ok (.if_icmp .ge 16, 3) := by decide +kernel
theorem dX1_liveByLots_64 : decode cX1_liveByLots 64 = .ok (.aload_n 0, 1) := by decide +kernel
theorem dX1_liveByLots_65 : decode cX1_liveByLots 65 = .ok (.dup, 1) := by decide +kernel
theorem dX1_liveByLots_66 : decode cX1_liveByLots 66 = .ok (.getfield 69, 3) := by decide +kernel
theorem dX1_liveByLots_69 : decode cX1_liveByLots 69 = .ok (.iconst 1, 1) := by decide +kernel
theorem dX1_liveByLots_70 : decode cX1_liveByLots 70 = .ok (.iload 4, 2) := by decide +kernel
theorem dX1_liveByLots_72 : decode cX1_liveByLots 72 = .ok (.ishl, 1) := by decide +kernel
theorem dX1_liveByLots_73 : decode cX1_liveByLots 73 = .ok (.ior, 1) := by decide +kernel
theorem dX1_liveByLots_74 : decode cX1_liveByLots 74 = .ok (.putfield 69, 3) := by decide +kernel
theorem dX1_liveByLots_77 : decode cX1_liveByLots 77 = .ok (.iinc 4 1, 3) := by decide +kernel
theorem dX1_liveByLots_80 : decode cX1_liveByLots 80 = .ok (.goto (-64), 3) := by decide +kernel
theorem dX1_liveByLots_83 : decode cX1_liveByLots 83 = .ok (.iconst 0, 1) := by decide +kernel
theorem dX1_liveByLots_84 : decode cX1_liveByLots 84 = .ok (.istore 4, 2) := by decide +kernel
theorem dX1_liveByLots_86 : decode cX1_liveByLots 86 = .ok (.iload 4, 2) := by decide +kernel
theorem dX1_liveByLots_88 : decode cX1_liveByLots 88 = .ok (.iconst 4, 1) := by decide +kernel
theorem dX1_liveByLots_89 : decode cX1_liveByLots 89 = .ok (.if_icmp .ge 34, 3) := by decide +kernel
theorem dX1_liveByLots_92 : decode cX1_liveByLots 92 = .ok (.iload_n 1, 1) := by decide +kernel
theorem dX1_liveByLots_93 : decode cX1_liveByLots 93 = .ok (.bipush 100, 2) := by decide +kernel
theorem dX1_liveByLots_95 : decode cX1_liveByLots 95 = .ok (.iload_n 3, 1) := by decide +kernel
theorem dX1_liveByLots_96 : decode cX1_liveByLots 96 = .ok (.imul, 1) := by decide +kernel
theorem dX1_liveByLots_97 : decode cX1_liveByLots 97 = .ok (.bipush 50, 2) := by decide +kernel
theorem dX1_liveByLots_99 : decode cX1_liveByLots 99 = .ok (.iadd, 1) := by decide +kernel
theorem dX1_liveByLots_100 : decode cX1_liveByLots 100 = .ok (.iload 4, 2) := by decide +kernel
theorem dX1_liveByLots_102 : decode cX1_liveByLots 102 = .ok (.iadd, 1) := by decide +kernel
theorem dX1_liveByLots_103 : decode cX1_liveByLots 103 = .ok (.invokestatic 173, 3) := by decide +kernel
theorem dX1_liveByLots_106 : decode cX1_liveByLots 106 = .ok (.iload_n 2, 1) := by decide +kernel
theorem dX1_liveByLots_107 : decode cX1_liveByLots 107 = .ok (.if_icmp .ge 10, 3) := by decide +kernel
theorem dX1_liveByLots_110 : decode cX1_liveByLots 110 = .ok (.aload_n 0, 1) := by decide +kernel
theorem dX1_liveByLots_111 : decode cX1_liveByLots 111 = .ok (.iload 4, 2) := by decide +kernel
theorem dX1_liveByLots_113 : decode cX1_liveByLots 113 = .ok (.iload_n 3, 1) := by decide +kernel
theorem dX1_liveByLots_114 : decode cX1_liveByLots 114 = .ok (.invokevirtual 146, 3) := by decide +kernel
theorem dX1_liveByLots_117 : decode cX1_liveByLots 117 = .ok (.iinc 4 1, 3) := by decide +kernel
theorem dX1_liveByLots_120 : decode cX1_liveByLots 120 = .ok (.goto (-34), 3) := by decide +kernel
theorem dX1_liveByLots_123 : decode cX1_liveByLots 123 = .ok (.aload_n 0, 1) := by decide +kernel
theorem dX1_liveByLots_124 : decode cX1_liveByLots 124 = .ok (.iload_n 3, 1) := by decide +kernel
theorem dX1_liveByLots_125 : decode cX1_liveByLots 125 = .ok (.invokevirtual 96, 3) := by decide +kernel
theorem dX1_liveByLots_128 : decode cX1_liveByLots 128 = .ok (.aload_n 0, 1) := by decide +kernel
theorem dX1_liveByLots_129 : decode cX1_liveByLots 129 = .ok (.iload_n 3, 1) := by decide +kernel
theorem dX1_liveByLots_130 : decode cX1_liveByLots 130 = .ok (.invokevirtual 99, 3) := by decide +kernel
theorem dX1_liveByLots_133 : decode cX1_liveByLots 133 = .ok (.iinc 3 1, 3) := by decide +kernel
theorem dX1_liveByLots_136 : decode cX1_liveByLots 136 = .ok (.goto (-129), 3) := by decide +kernel
theorem dX1_liveByLots_139 : decode cX1_liveByLots 139 = .ok (.return_, 1) := by decide +kernel
theorem dX1_lot_0 : decode cX1_lot 0 = .ok (.iload_n 0, 1) := by decide +kernel
theorem dX1_lot_1 : decode cX1_lot 1 = .ok (.bipush 18, 2) := by decide +kernel
theorem dX1_lot_3 : decode cX1_lot 3 = .ok (.ixor, 1) := by decide +kernel
theorem dX1_lot_4 : decode cX1_lot 4 = .ok (.ldc 179, 2) := by decide +kernel
theorem dX1_lot_6 : decode cX1_lot 6 = .ok (.imul, 1) := by decide +kernel
theorem dX1_lot_7 : decode cX1_lot 7 = .ok (.sipush 12345, 3) := by decide +kernel
theorem dX1_lot_10 : decode cX1_lot 10 = .ok (.iadd, 1) := by decide +kernel
theorem dX1_lot_11 : decode cX1_lot 11 = .ok (.istore_n 2, 1) := by decide +kernel
theorem dX1_lot_12 : decode cX1_lot 12 = .ok (.iload_n 2, 1) := by decide +kernel
theorem dX1_lot_13 : decode cX1_lot 13 = .ok (.iload_n 2, 1) := by decide +kernel
theorem dX1_lot_14 : decode cX1_lot 14 = .ok (.bipush 15, 2) := by decide +kernel
theorem dX1_lot_16 : decode cX1_lot 16 = .ok (.iushr, 1) := by decide +kernel
theorem dX1_lot_17 : decode cX1_lot 17 = .ok (.ixor, 1) := by decide +kernel
theorem dX1_lot_18 : decode cX1_lot 18 = .ok (.istore_n 2, 1) := by decide +kernel
theorem dX1_lot_19 : decode cX1_lot 19 = .ok (.iload_n 2, 1) := by decide +kernel
theorem dX1_lot_20 : decode cX1_lot 20 = .ok (.iload_n 1, 1) := by decide +kernel
theorem dX1_lot_21 : decode cX1_lot 21 = .ok (.ixor, 1) := by decide +kernel
theorem dX1_lot_22 : decode cX1_lot 22 = .ok (.ldc 179, 2) := by decide +kernel
theorem dX1_lot_24 : decode cX1_lot 24 = .ok (.imul, 1) := by decide +kernel
theorem dX1_lot_25 : decode cX1_lot 25 = .ok (.sipush 12345, 3) := by decide +kernel
theorem dX1_lot_28 : decode cX1_lot 28 = .ok (.iadd, 1) := by decide +kernel
theorem dX1_lot_29 : decode cX1_lot 29 = .ok (.istore_n 2, 1) := by decide +kernel
theorem dX1_lot_30 : decode cX1_lot 30 = .ok (.iload_n 2, 1) := by decide +kernel
theorem dX1_lot_31 : decode cX1_lot 31 = .ok (.iload_n 2, 1) := by decide +kernel
theorem dX1_lot_32 : decode cX1_lot 32 = .ok (.bipush 15, 2) := by decide +kernel
theorem dX1_lot_34 : decode cX1_lot 34 = .ok (.iushr, 1) := by decide +kernel
theorem dX1_lot_35 : decode cX1_lot 35 = .ok (.ixor, 1) := by decide +kernel
theorem dX1_lot_36 : decode cX1_lot 36 = .ok (.istore_n 2, 1) := by decide +kernel
theorem dX1_lot_37 : decode cX1_lot 37 = .ok (.iload_n 2, 1) := by decide +kernel
theorem dX1_lot_38 : decode cX1_lot 38 = .ok (.iconst 1, 1) := by decide +kernel
theorem dX1_lot_39 : decode cX1_lot 39 = .ok (.iushr, 1) := by decide +kernel
theorem dX1_lot_40 : decode cX1_lot 40 = .ok (.bipush 100, 2) := by decide +kernel
theorem dX1_lot_42 : decode cX1_lot 42 = .ok (.irem, 1) := by decide +kernel
theorem dX1_lot_43 : decode cX1_lot 43 = .ok (.ireturn, 1) := by decide +kernel
theorem dX2_init_0 : decode cX2_init 0 = .ok (.aload_n 0, 1) := by decide +kernel
theorem dX2_init_1 : decode cX2_init 1 = .ok (.invokespecial 3, 3) := by decide +kernel
theorem dX2_init_4 : decode cX2_init 4 = .ok (.aload_n 0, 1) := by decide +kernel
theorem dX2_init_5 : decode cX2_init 5 = .ok (.aload_n 1, 1) := by decide +kernel
theorem dX2_init_6 : decode cX2_init 6 = .ok (.putfield 9, 3) := by decide +kernel
theorem dX2_init_9 : decode cX2_init 9 = .ok (.aload_n 0, 1) := by decide +kernel
theorem dX2_init_10 : decode cX2_init 10 = .ok (.aload_n 2, 1) := by decide +kernel
theorem dX2_init_11 : decode cX2_init 11 = .ok (.putfield 15, 3) := by decide +kernel
theorem dX2_init_14 : decode cX2_init 14 = .ok (.aload_n 0, 1) := by decide +kernel
theorem dX2_init_15 : decode cX2_init 15 = .ok (.aload_n 3, 1) := by decide +kernel
theorem dX2_init_16 : decode cX2_init 16 = .ok (.putfield 19, 3) := by decide +kernel
theorem dX2_init_19 : decode cX2_init 19 = .ok (.aload_n 0, 1) := by decide +kernel
theorem dX2_init_20 : decode cX2_init 20 = .ok (.new 23, 3) := by decide +kernel
theorem dX2_init_23 : decode cX2_init 23 = .ok (.dup, 1) := by decide +kernel
theorem dX2_init_24 : decode cX2_init 24 = .ok (.aload_n 1, 1) := by decide +kernel
theorem dX2_init_25 : decode cX2_init 25 = .ok (.aload_n 2, 1) := by decide +kernel
theorem dX2_init_26 : decode cX2_init 26 = .ok (.aload_n 3, 1) := by decide +kernel
theorem dX2_init_27 : decode cX2_init 27 = .ok (.invokespecial 25, 3) := by decide +kernel
theorem dX2_init_30 : decode cX2_init 30 = .ok (.putfield 28, 3) := by decide +kernel
theorem dX2_init_33 : decode cX2_init 33 = .ok (.aload_n 0, 1) := by decide +kernel
theorem dX2_init_34 : decode cX2_init 34 = .ok (.new 23, 3) := by decide +kernel
theorem dX2_init_37 : decode cX2_init 37 = .ok (.dup, 1) := by decide +kernel
theorem dX2_init_38 : decode cX2_init 38 = .ok (.aload_n 1, 1) := by decide +kernel
theorem dX2_init_39 : decode cX2_init 39 = .ok (.aload_n 2, 1) := by decide +kernel
theorem dX2_init_40 : decode cX2_init 40 = .ok (.aload_n 3, 1) := by decide +kernel
theorem dX2_init_41 : decode cX2_init 41 = .ok (.invokespecial 25, 3) := by decide +kernel
theorem dX2_init_44 : decode cX2_init 44 = .ok (.putfield 32, 3) := by decide +kernel
theorem dX2_init_47 : decode cX2_init 47 = .ok (.aload_n 0, 1) := by decide +kernel
theorem dX2_init_48 : decode cX2_init 48 = .ok (.new 23, 3) := by decide +kernel
theorem dX2_init_51 : decode cX2_init 51 = .ok (.dup, 1) := by decide +kernel
theorem dX2_init_52 : decode cX2_init 52 = .ok (.aload_n 1, 1) := by decide +kernel
theorem dX2_init_53 : decode cX2_init 53 = .ok (.aload_n 2, 1) := by decide +kernel
theorem dX2_init_54 : decode cX2_init 54 = .ok (.aload_n 3, 1) := by decide +kernel
theorem dX2_init_55 : decode cX2_init 55 = .ok (.invokespecial 25, 3) := by decide +kernel
theorem dX2_init_58 : decode cX2_init 58 = .ok (.putfield 35, 3) := by decide +kernel
theorem dX2_init_61 : decode cX2_init 61 = .ok (.return_, 1) := by decide +kernel
theorem dX2_runOf_0 : decode cX2_runOf 0 = .ok (.aload_n 0, 1) := by decide +kernel
theorem dX2_runOf_1 : decode cX2_runOf 1 = .ok (.getfield 15, 3) := by decide +kernel
theorem dX2_runOf_4 : decode cX2_runOf 4 = .ok (.iload_n 1, 1) := by decide +kernel
theorem dX2_runOf_5 : decode cX2_runOf 5 = .ok (.invokevirtual 38, 3) := by decide +kernel
theorem dX2_runOf_8 : decode cX2_runOf 8 = .ok (.aload_n 0, 1) := by decide +kernel
theorem dX2_runOf_9 : decode cX2_runOf 9 = .ok (.getfield 32, 3) := by decide +kernel
theorem dX2_runOf_12 : decode cX2_runOf 12 = .ok (.iload_n 2, 1) := by decide +kernel
theorem dX2_runOf_13 : decode cX2_runOf 13 = .ok (.iload_n 3, 1) := by decide +kernel
theorem dX2_runOf_14 : decode cX2_runOf 14 = .ok (.iconst 0, 1) := by decide +kernel
theorem dX2_runOf_15 : decode cX2_runOf 15 = .ok (.invokevirtual 44, 3) := by decide +kernel
theorem dX2_runOf_18 : decode cX2_runOf 18 = .ok (.aload_n 0, 1) := by decide +kernel
theorem dX2_runOf_19 : decode cX2_runOf 19 = .ok (.getfield 32, 3) := by decide +kernel
theorem dX2_runOf_22 : decode cX2_runOf 22 = .ok (.areturn, 1) := by decide +kernel
theorem dX2_lifeOf_0 : decode cX2_lifeOf 0 = .ok (.aload_n 0, 1) := by decide +kernel
theorem dX2_lifeOf_1 : decode cX2_lifeOf 1 = .ok (.getfield 32, 3) := by decide +kernel
theorem dX2_lifeOf_4 : decode cX2_lifeOf 4 = .ok (.iload_n 1, 1) := by decide +kernel
theorem dX2_lifeOf_5 : decode cX2_lifeOf 5 = .ok (.iload_n 2, 1) := by decide +kernel
theorem dX2_lifeOf_6 : decode cX2_lifeOf 6 = .ok (.invokevirtual 48, 3) := by decide +kernel
theorem dX2_lifeOf_9 : decode cX2_lifeOf 9 = .ok (.aload_n 0, 1) := by decide +kernel
theorem dX2_lifeOf_10 : decode cX2_lifeOf 10 = .ok (.getfield 32, 3) := by decide +kernel
theorem dX2_lifeOf_13 : decode cX2_lifeOf 13 = .ok (.areturn, 1) := by decide +kernel
theorem dX2_soonerThanTruth_0 : decode cX2_soonerThanTruth 0 = .ok (.aload_n 0, 1) := by decide +kernel
theorem dX2_soonerThanTruth_1 : decode cX2_soonerThanTruth 1 = .ok (.getfield 15, 3) := by decide +kernel
theorem dX2_soonerThanTruth_4 : decode cX2_soonerThanTruth 4 = .ok (.iload_n 1, 1) := by decide +kernel
theorem dX2_soonerThanTruth_5 : decode cX2_soonerThanTruth 5 = .ok (.invokevirtual 38, 3) := by decide +kernel
theorem dX2_soonerThanTruth_8 : decode cX2_soonerThanTruth 8 = .ok (.aload_n 0, 1) := by decide +kernel
theorem dX2_soonerThanTruth_9 : decode cX2_soonerThanTruth 9 = .ok (.getfield 28, 3) := by decide +kernel
theorem dX2_soonerThanTruth_12 : decode cX2_soonerThanTruth 12 = .ok (.iconst 1, 1) := by decide +kernel
theorem dX2_soonerThanTruth_13 : decode cX2_soonerThanTruth 13 = .ok (.bipush 59, 2) := by decide +kernel
theorem dX2_soonerThanTruth_15 : decode cX2_soonerThanTruth 15 = .ok (.iconst 0, 1) := by decide +kernel
theorem dX2_soonerThanTruth_16 : decode cX2_soonerThanTruth 16 = .ok (.invokevirtual 44, 3) := by decide +kernel
theorem dX2_soonerThanTruth_19 : decode cX2_soonerThanTruth 19 = .ok (.aload_n 0, 1) := by decide +kernel
theorem dX2_soonerThanTruth_20 : decode cX2_soonerThanTruth 20 = .ok (.getfield 32, 3) := by decide +kernel
theorem dX2_soonerThanTruth_23 : decode cX2_soonerThanTruth 23 = .ok (.iconst 1, 1) := by decide +kernel
theorem dX2_soonerThanTruth_24 : decode cX2_soonerThanTruth 24 = .ok (.bipush 59, 2) := by decide +kernel
theorem dX2_soonerThanTruth_26 : decode cX2_soonerThanTruth 26 = .ok (.iconst 1, 1) := by decide +kernel
theorem dX2_soonerThanTruth_27 : decode cX2_soonerThanTruth 27 = .ok (.invokevirtual 44, 3) := by decide +kernel
theorem dX2_soonerThanTruth_30 : decode cX2_soonerThanTruth 30 = .ok (.iconst 0, 1) := by decide +kernel
theorem dX2_soonerThanTruth_31 : decode cX2_soonerThanTruth 31 = .ok (.istore_n 2, 1) := by decide +kernel
theorem dX2_soonerThanTruth_32 : decode cX2_soonerThanTruth 32 = .ok (.iconst 0, 1) := by decide +kernel
theorem dX2_soonerThanTruth_33 : decode cX2_soonerThanTruth 33 = .ok (.istore_n 3, 1) := by decide +kernel
theorem dX2_soonerThanTruth_34 : decode cX2_soonerThanTruth 34 = .ok (.iload_n 3, 1) := by decide +kernel
theorem dX2_soonerThanTruth_35 : decode cX2_soonerThanTruth 35 = .ok (.aload_n 0, 1) := by decide +kernel
theorem dX2_soonerThanTruth_36 : decode cX2_soonerThanTruth 36 = .ok (.getfield 9, 3) := by decide +kernel
theorem dX2_soonerThanTruth_39 : decode cX2_soonerThanTruth 39 = .ok (.getfield 52, 3) := by decide +kernel
theorem dX2_soonerThanTruth_42 : decode cX2_soonerThanTruth 42 = .ok (.if_icmp .ge 72, 3) := by decide +kernel
theorem dX2_soonerThanTruth_45 : decode cX2_soonerThanTruth 45 = .ok (.aload_n 0, 1) := by decide +kernel
theorem dX2_soonerThanTruth_46 : decode cX2_soonerThanTruth 46 = .ok (.getfield 32, 3) := by decide +kernel
theorem dX2_soonerThanTruth_49 : decode cX2_soonerThanTruth 49 = .ok (.iload_n 3, 1) := by decide +kernel
theorem dX2_soonerThanTruth_50 : decode cX2_soonerThanTruth 50 = .ok (.invokevirtual 58, 3) := by decide +kernel
theorem dX2_soonerThanTruth_53 : decode cX2_soonerThanTruth 53 = .ok (.ifCond .eq 28, 3) := by decide +kernel
theorem dX2_soonerThanTruth_56 : decode cX2_soonerThanTruth 56 = .ok (.aload_n 0, 1) := by decide +kernel
theorem dX2_soonerThanTruth_57 : decode cX2_soonerThanTruth 57 = .ok (.getfield 32, 3) := by decide +kernel
theorem dX2_soonerThanTruth_60 : decode cX2_soonerThanTruth 60 = .ok (.getfield 62, 3) := by decide +kernel
theorem dX2_soonerThanTruth_63 : decode cX2_soonerThanTruth 63 = .ok (.iload_n 3, 1) := by decide +kernel
theorem dX2_soonerThanTruth_64 : decode cX2_soonerThanTruth 64 = .ok (.iaload, 1) := by decide +kernel
theorem dX2_soonerThanTruth_65 : decode cX2_soonerThanTruth 65 = .ok (.aload_n 0, 1) := by decide +kernel
theorem dX2_soonerThanTruth_66 : decode cX2_soonerThanTruth 66 = .ok (.getfield 28, 3) := by decide +kernel
theorem dX2_soonerThanTruth_69 : decode cX2_soonerThanTruth 69 = .ok (.getfield 62, 3) := by decide +kernel
theorem dX2_soonerThanTruth_72 : decode cX2_soonerThanTruth 72 = .ok (.iload_n 3, 1) := by decide +kernel
theorem dX2_soonerThanTruth_73 : decode cX2_soonerThanTruth 73 = .ok (.iaload, 1) := by decide +kernel
theorem dX2_soonerThanTruth_74 : decode cX2_soonerThanTruth 74 = .ok (.if_icmp .gt 7, 3) := by decide +kernel
theorem dX2_soonerThanTruth_77 : decode cX2_soonerThanTruth 77 = .ok (.iconst 1, 1) := by decide +kernel
theorem dX2_soonerThanTruth_78 : decode cX2_soonerThanTruth 78 = .ok (.goto 4, 3) := by decide +kernel
theorem dX2_soonerThanTruth_81 : decode cX2_soonerThanTruth 81 = .ok (.iconst 0, 1) := by decide +kernel
theorem dX2_soonerThanTruth_82 : decode cX2_soonerThanTruth 82 = .ok (.istore 4, 2) := by decide +kernel
theorem dX2_soonerThanTruth_84 : decode cX2_soonerThanTruth 84 = .ok (.aload_n 0, 1) := by decide +kernel
theorem dX2_soonerThanTruth_85 : decode cX2_soonerThanTruth 85 = .ok (.getfield 28, 3) := by decide +kernel
theorem dX2_soonerThanTruth_88 : decode cX2_soonerThanTruth 88 = .ok (.getfield 66, 3) := by decide +kernel
theorem dX2_soonerThanTruth_91 : decode cX2_soonerThanTruth 91 = .ok (.iload_n 3, 1) := by decide +kernel
theorem dX2_soonerThanTruth_92 : decode cX2_soonerThanTruth 92 = .ok (.iaload, 1) := by decide +kernel
theorem dX2_soonerThanTruth_93 : decode cX2_soonerThanTruth 93 = .ok (.iconst 1, 1) := by decide +kernel
theorem dX2_soonerThanTruth_94 : decode cX2_soonerThanTruth 94 = .ok (.if_icmp .ne 14, 3) := by decide +kernel
theorem dX2_soonerThanTruth_97 : decode cX2_soonerThanTruth 97 = .ok (.iload 4, 2) := by decide +kernel
theorem dX2_soonerThanTruth_99 : decode cX2_soonerThanTruth 99 = .ok (.ifCond .ne 9, 3) := by decide +kernel
theorem dX2_soonerThanTruth_102 : decode cX2_soonerThanTruth 102 = .ok (.iload_n 2, 1) := by decide +kernel
theorem dX2_soonerThanTruth_103 : decode cX2_soonerThanTruth 103 = .ok (.iconst 1, 1) := by decide +kernel
theorem dX2_soonerThanTruth_104 : decode cX2_soonerThanTruth 104 = .ok (.iload_n 3, 1) := by decide +kernel
theorem dX2_soonerThanTruth_105 : decode cX2_soonerThanTruth 105 = .ok (.ishl, 1) := by decide +kernel
theorem dX2_soonerThanTruth_106 : decode cX2_soonerThanTruth 106 = .ok (.ior, 1) := by decide +kernel
theorem dX2_soonerThanTruth_107 : decode cX2_soonerThanTruth 107 = .ok (.istore_n 2, 1) := by decide +kernel
theorem dX2_soonerThanTruth_108 : decode cX2_soonerThanTruth 108 = .ok (.iinc 3 1, 3) := by decide +kernel
theorem dX2_soonerThanTruth_111 : decode cX2_soonerThanTruth 111 = .ok (.goto (-77), 3) := by decide +kernel
theorem dX2_soonerThanTruth_114 : decode cX2_soonerThanTruth 114 = .ok (.iload_n 2, 1) := by decide +kernel
theorem dX2_soonerThanTruth_115 : decode cX2_soonerThanTruth 115 = .ok (.ireturn, 1) := by decide +kernel
theorem dX2_walkBoth_0 : decode cX2_walkBoth 0 = .ok (.aload_n 0, 1) := by decide +kernel
theorem dX2_walkBoth_1 : decode cX2_walkBoth 1 = .ok (.getfield 15, 3) := by decide +kernel
theorem dX2_walkBoth_4 : decode cX2_walkBoth 4 = .ok (.iload_n 1, 1) := by decide +kernel
theorem dX2_walkBoth_5 : decode cX2_walkBoth 5 = .ok (.invokevirtual 38, 3) := by decide +kernel
theorem dX2_walkBoth_8 : decode cX2_walkBoth 8 = .ok (.aload_n 0, 1) := by decide +kernel
theorem dX2_walkBoth_9 : decode cX2_walkBoth 9 = .ok (.getfield 28, 3) := by decide +kernel
theorem dX2_walkBoth_12 : decode cX2_walkBoth 12 = .ok (.iconst 1, 1) := by decide +kernel
theorem dX2_walkBoth_13 : decode cX2_walkBoth 13 = .ok (.bipush 59, 2) := by decide +kernel
theorem dX2_walkBoth_15 : decode cX2_walkBoth 15 = .ok (.iconst 0, 1) := by decide +kernel
theorem dX2_walkBoth_16 : decode cX2_walkBoth 16 = .ok (.invokevirtual 44, 3) := by decide +kernel
theorem dX2_walkBoth_19 : decode cX2_walkBoth 19 = .ok (.aload_n 0, 1) := by decide +kernel
theorem dX2_walkBoth_20 : decode cX2_walkBoth 20 = .ok (.getfield 32, 3) := by decide +kernel
theorem dX2_walkBoth_23 : decode cX2_walkBoth 23 = .ok (.iload_n 2, 1) := by decide +kernel
theorem dX2_walkBoth_24 : decode cX2_walkBoth 24 = .ok (.bipush 59, 2) := by decide +kernel
theorem dX2_walkBoth_26 : decode cX2_walkBoth 26 = .ok (.iconst 0, 1) := by decide +kernel
theorem dX2_walkBoth_27 : decode cX2_walkBoth 27 = .ok (.invokevirtual 44, 3) := by decide +kernel
theorem dX2_walkBoth_30 : decode cX2_walkBoth 30 = .ok (.return_, 1) := by decide +kernel
theorem dX2_yearsLate_0 : decode cX2_yearsLate 0 = .ok (.aload_n 0, 1) := by decide +kernel
theorem dX2_yearsLate_1 : decode cX2_yearsLate 1 = .ok (.getfield 28, 3) := by decide +kernel
theorem dX2_yearsLate_4 : decode cX2_yearsLate 4 = .ok (.getfield 66, 3) := by decide +kernel
theorem dX2_yearsLate_7 : decode cX2_yearsLate 7 = .ok (.iload_n 1, 1) := by decide +kernel
theorem dX2_yearsLate_8 : decode cX2_yearsLate 8 = .ok (.iaload, 1) := by decide +kernel
theorem dX2_yearsLate_9 : decode cX2_yearsLate 9 = .ok (.iconst 2, 1) := by decide +kernel
theorem dX2_yearsLate_10 : decode cX2_yearsLate 10 = .ok (.if_icmp .eq 16, 3) := by decide +kernel
theorem dX2_yearsLate_13 : decode cX2_yearsLate 13 = .ok (.aload_n 0, 1) := by decide +kernel
theorem dX2_yearsLate_14 : decode cX2_yearsLate 14 = .ok (.getfield 32, 3) := by decide +kernel
theorem dX2_yearsLate_17 : decode cX2_yearsLate 17 = .ok (.getfield 66, 3) := by decide +kernel
theorem dX2_yearsLate_20 : decode cX2_yearsLate 20 = .ok (.iload_n 1, 1) := by decide +kernel
theorem dX2_yearsLate_21 : decode cX2_yearsLate 21 = .ok (.iaload, 1) := by decide +kernel
theorem dX2_yearsLate_22 : decode cX2_yearsLate 22 = .ok (.iconst 2, 1) := by decide +kernel
theorem dX2_yearsLate_23 : decode cX2_yearsLate 23 = .ok (.if_icmp .ne 7, 3) := by decide +kernel
theorem dX2_yearsLate_26 : decode cX2_yearsLate 26 = .ok (.iconst 1, 1) := by decide +kernel
theorem dX2_yearsLate_27 : decode cX2_yearsLate 27 = .ok (.goto 4, 3) := by decide +kernel
theorem dX2_yearsLate_30 : decode cX2_yearsLate 30 = .ok (.iconst 0, 1) := by decide +kernel
theorem dX2_yearsLate_31 : decode cX2_yearsLate 31 = .ok (.istore_n 2, 1) := by decide +kernel
theorem dX2_yearsLate_32 : decode cX2_yearsLate 32 = .ok (.iload_n 2, 1) := by decide +kernel
theorem dX2_yearsLate_33 : decode cX2_yearsLate 33 = .ok (.ifCond .eq 7, 3) := by decide +kernel
theorem dX2_yearsLate_36 : decode cX2_yearsLate 36 = .ok (.iconst 0, 1) := by decide +kernel
theorem dX2_yearsLate_37 : decode cX2_yearsLate 37 = .ok (.goto 22, 3) := by decide +kernel
theorem dX2_yearsLate_40 : decode cX2_yearsLate 40 = .ok (.aload_n 0, 1) := by decide +kernel
theorem dX2_yearsLate_41 : decode cX2_yearsLate 41 = .ok (.getfield 32, 3) := by decide +kernel
theorem dX2_yearsLate_44 : decode cX2_yearsLate 44 = .ok (.getfield 62, 3) := by decide +kernel
theorem dX2_yearsLate_47 : decode cX2_yearsLate 47 = .ok (.iload_n 1, 1) := by decide +kernel
theorem dX2_yearsLate_48 : decode cX2_yearsLate 48 = .ok (.iaload, 1) := by decide +kernel
theorem dX2_yearsLate_49 : decode cX2_yearsLate 49 = .ok (.aload_n 0, 1) := by decide +kernel
theorem dX2_yearsLate_50 : decode cX2_yearsLate 50 = .ok (.getfield 28, 3) := by decide +kernel
theorem dX2_yearsLate_53 : decode cX2_yearsLate 53 = .ok (.getfield 62, 3) := by decide +kernel
theorem dX2_yearsLate_56 : decode cX2_yearsLate 56 = .ok (.iload_n 1, 1) := by decide +kernel
theorem dX2_yearsLate_57 : decode cX2_yearsLate 57 = .ok (.iaload, 1) := by decide +kernel
theorem dX2_yearsLate_58 : decode cX2_yearsLate 58 = .ok (.isub, 1) := by decide +kernel
theorem dX2_yearsLate_59 : decode cX2_yearsLate 59 = .ok (.ireturn, 1) := by decide +kernel
theorem dX2_bothOpen_0 : decode cX2_bothOpen 0 = .ok (.aload_n 0, 1) := by decide +kernel
theorem dX2_bothOpen_1 : decode cX2_bothOpen 1 = .ok (.getfield 28, 3) := by decide +kernel
theorem dX2_bothOpen_4 : decode cX2_bothOpen 4 = .ok (.iload_n 1, 1) := by decide +kernel
theorem dX2_bothOpen_5 : decode cX2_bothOpen 5 = .ok (.invokevirtual 58, 3) := by decide +kernel
theorem dX2_bothOpen_8 : decode cX2_bothOpen 8 = .ok (.ifCond .eq 18, 3) := by decide +kernel
theorem dX2_bothOpen_11 : decode cX2_bothOpen 11 = .ok (.aload_n 0, 1) := by decide +kernel
theorem dX2_bothOpen_12 : decode cX2_bothOpen 12 = .ok (.getfield 32, 3) := by decide +kernel
theorem dX2_bothOpen_15 : decode cX2_bothOpen 15 = .ok (.iload_n 1, 1) := by decide +kernel
theorem dX2_bothOpen_16 : decode cX2_bothOpen 16 = .ok (.invokevirtual 58, 3) := by decide +kernel
theorem dX2_bothOpen_19 : decode cX2_bothOpen 19 = .ok (.ifCond .eq 7, 3) := by decide +kernel
theorem dX2_bothOpen_22 : decode cX2_bothOpen 22 = .ok (.iconst 1, 1) := by decide +kernel
theorem dX2_bothOpen_23 : decode cX2_bothOpen 23 = .ok (.goto 4, 3) := by decide +kernel
theorem dX2_bothOpen_26 : decode cX2_bothOpen 26 = .ok (.iconst 0, 1) := by decide +kernel
theorem dX2_bothOpen_27 : decode cX2_bothOpen 27 = .ok (.ireturn, 1) := by decide +kernel
theorem dX2_lateOf_0 : decode cX2_lateOf 0 = .ok (.aload_n 0, 1) := by decide +kernel
theorem dX2_lateOf_1 : decode cX2_lateOf 1 = .ok (.iload_n 1, 1) := by decide +kernel
theorem dX2_lateOf_2 : decode cX2_lateOf 2 = .ok (.invokevirtual 69, 3) := by decide +kernel
theorem dX2_lateOf_5 : decode cX2_lateOf 5 = .ok (.ifCond .eq 11, 3) := by decide +kernel
theorem dX2_lateOf_8 : decode cX2_lateOf 8 = .ok (.aload_n 0, 1) := by decide +kernel
theorem dX2_lateOf_9 : decode cX2_lateOf 9 = .ok (.iload_n 1, 1) := by decide +kernel
theorem dX2_lateOf_10 : decode cX2_lateOf 10 = .ok (.invokevirtual 72, 3) := by decide +kernel
theorem dX2_lateOf_13 : decode cX2_lateOf 13 = .ok (.goto 5, 3) := by decide +kernel
theorem dX2_lateOf_16 : decode cX2_lateOf 16 = .ok (.bipush (-2), 2) := by decide +kernel
theorem dX2_lateOf_18 : decode cX2_lateOf 18 = .ok (.ireturn, 1) := by decide +kernel
theorem dX2_rarestLook_0 : decode cX2_rarestLook 0 = .ok (.aload_n 0, 1) := by decide +kernel
theorem dX2_rarestLook_1 : decode cX2_rarestLook 1 = .ok (.getfield 15, 3) := by decide +kernel
theorem dX2_rarestLook_4 : decode cX2_rarestLook 4 = .ok (.iload_n 1, 1) := by decide +kernel
theorem dX2_rarestLook_5 : decode cX2_rarestLook 5 = .ok (.invokevirtual 38, 3) := by decide +kernel
theorem dX2_rarestLook_8 : decode cX2_rarestLook 8 = .ok (.aload_n 0, 1) := by decide +kernel
theorem dX2_rarestLook_9 : decode cX2_rarestLook 9 = .ok (.getfield 28, 3) := by decide +kernel
theorem dX2_rarestLook_12 : decode cX2_rarestLook 12 = .ok (.iconst 1, 1) := by decide +kernel
theorem dX2_rarestLook_13 : decode cX2_rarestLook 13 = .ok (.bipush 59, 2) := by decide +kernel
theorem dX2_rarestLook_15 : decode cX2_rarestLook 15 = .ok (.iconst 0, 1) := by decide +kernel
theorem dX2_rarestLook_16 : decode cX2_rarestLook 16 = .ok (.invokevirtual 44, 3) := by decide +kernel
theorem dX2_rarestLook_19 : decode cX2_rarestLook 19 = .ok (.bipush 20, 2) := by decide +kernel
theorem dX2_rarestLook_21 : decode cX2_rarestLook 21 = .ok (.istore_n 3, 1) := by decide +kernel
theorem dX2_rarestLook_22 : decode cX2_rarestLook 22 = .ok (.iload_n 3, 1) := by decide +kernel
theorem dX2_rarestLook_23 : decode cX2_rarestLook 23 = .ok (.iconst 1, 1) := by decide +kernel
theorem dX2_rarestLook_24 : decode cX2_rarestLook 24 = .ok (.if_icmp .le 30, 3) := by decide +kernel
theorem dX2_rarestLook_27 : decode cX2_rarestLook 27 = .ok (.aload_n 0, 1) := by decide +kernel
theorem dX2_rarestLook_28 : decode cX2_rarestLook 28 = .ok (.getfield 32, 3) := by decide +kernel
theorem dX2_rarestLook_31 : decode cX2_rarestLook 31 = .ok (.iload_n 3, 1) := by decide +kernel
theorem dX2_rarestLook_32 : decode cX2_rarestLook 32 = .ok (.bipush 59, 2) := by decide +kernel
theorem dX2_rarestLook_34 : decode cX2_rarestLook 34 = .ok (.iconst 0, 1) := by decide +kernel
theorem dX2_rarestLook_35 : decode cX2_rarestLook 35 = .ok (.invokevirtual 44, 3) := by decide +kernel
theorem dX2_rarestLook_38 : decode cX2_rarestLook 38 = .ok (.aload_n 0, 1) := by decide +kernel
theorem dX2_rarestLook_39 : decode cX2_rarestLook 39 = .ok (.iload_n 2, 1) := by decide +kernel
theorem dX2_rarestLook_40 : decode cX2_rarestLook 40 = .ok (.invokevirtual 76, 3) := by decide +kernel
theorem dX2_rarestLook_43 : decode cX2_rarestLook 43 = .ok (.ifCond .eq 5, 3) := by decide +kernel
theorem dX2_rarestLook_46 : decode cX2_rarestLook 46 = .ok (.iload_n 3, 1) := by decide +kernel
theorem dX2_rarestLook_47 : decode cX2_rarestLook 47 = .ok (.ireturn, 1) := by decide +kernel
theorem dX2_rarestLook_48 : decode cX2_rarestLook 48 = .ok (.iinc 3 (-1), 3) := by decide +kernel
theorem dX2_rarestLook_51 : decode cX2_rarestLook 51 = .ok (.goto (-29), 3) := by decide +kernel
theorem dX2_rarestLook_54 : decode cX2_rarestLook 54 = .ok (.iconst 1, 1) := by decide +kernel
theorem dX2_rarestLook_55 : decode cX2_rarestLook 55 = .ok (.ireturn, 1) := by decide +kernel
theorem dX2_allInTime_0 : decode cX2_allInTime 0 = .ok (.iconst 0, 1) := by decide +kernel
theorem dX2_allInTime_1 : decode cX2_allInTime 1 = .ok (.istore_n 2, 1) := by decide +kernel
theorem dX2_allInTime_2 : decode cX2_allInTime 2 = .ok (.iload_n 2, 1) := by decide +kernel
theorem dX2_allInTime_3 : decode cX2_allInTime 3 = .ok (.aload_n 0, 1) := by decide +kernel
theorem dX2_allInTime_4 : decode cX2_allInTime 4 = .ok (.getfield 9, 3) := by decide +kernel
theorem dX2_allInTime_7 : decode cX2_allInTime 7 = .ok (.getfield 52, 3) := by decide +kernel
theorem dX2_allInTime_10 : decode cX2_allInTime 10 = .ok (.if_icmp .ge 41, 3) := by decide +kernel
theorem dX2_allInTime_13 : decode cX2_allInTime 13 = .ok (.aload_n 0, 1) := by decide +kernel
theorem dX2_allInTime_14 : decode cX2_allInTime 14 = .ok (.getfield 28, 3) := by decide +kernel
theorem dX2_allInTime_17 : decode cX2_allInTime 17 = .ok (.getfield 66, 3) := by decide +kernel
theorem dX2_allInTime_20 : decode cX2_allInTime 20 = .ok (.iload_n 2, 1) := by decide +kernel
theorem dX2_allInTime_21 : decode cX2_allInTime 21 = .ok (.iaload, 1) := by decide +kernel
theorem dX2_allInTime_22 : decode cX2_allInTime 22 = .ok (.iconst 1, 1) := by decide +kernel
theorem dX2_allInTime_23 : decode cX2_allInTime 23 = .ok (.if_icmp .ne 22, 3) := by decide +kernel
theorem dX2_allInTime_26 : decode cX2_allInTime 26 = .ok (.aload_n 0, 1) := by decide +kernel
theorem dX2_allInTime_27 : decode cX2_allInTime 27 = .ok (.iload_n 2, 1) := by decide +kernel
theorem dX2_allInTime_28 : decode cX2_allInTime 28 = .ok (.invokevirtual 69, 3) := by decide +kernel
theorem dX2_allInTime_31 : decode cX2_allInTime 31 = .ok (.ifCond .eq 12, 3) := by decide +kernel
theorem dX2_allInTime_34 : decode cX2_allInTime 34 = .ok (.aload_n 0, 1) := by decide +kernel
theorem dX2_allInTime_35 : decode cX2_allInTime 35 = .ok (.iload_n 2, 1) := by decide +kernel
theorem dX2_allInTime_36 : decode cX2_allInTime 36 = .ok (.invokevirtual 72, 3) := by decide +kernel
theorem dX2_allInTime_39 : decode cX2_allInTime 39 = .ok (.iload_n 1, 1) := by decide +kernel
theorem dX2_allInTime_40 : decode cX2_allInTime 40 = .ok (.if_icmp .le 5, 3) := by decide +kernel
theorem dX2_allInTime_43 : decode cX2_allInTime 43 = .ok (.iconst 0, 1) := by decide +kernel
theorem dX2_allInTime_44 : decode cX2_allInTime 44 = .ok (.ireturn, 1) := by decide +kernel
theorem dX2_allInTime_45 : decode cX2_allInTime 45 = .ok (.iinc 2 1, 3) := by decide +kernel
theorem dX2_allInTime_48 : decode cX2_allInTime 48 = .ok (.goto (-46), 3) := by decide +kernel
theorem dX2_allInTime_51 : decode cX2_allInTime 51 = .ok (.iconst 1, 1) := by decide +kernel
theorem dX2_allInTime_52 : decode cX2_allInTime 52 = .ok (.ireturn, 1) := by decide +kernel
theorem dX2_gainsFrom_0 : decode cX2_gainsFrom 0 = .ok (.iconst 0, 1) := by decide +kernel
theorem dX2_gainsFrom_1 : decode cX2_gainsFrom 1 = .ok (.istore_n 2, 1) := by decide +kernel
theorem dX2_gainsFrom_2 : decode cX2_gainsFrom 2 = .ok (.iload_n 1, 1) := by decide +kernel
theorem dX2_gainsFrom_3 : decode cX2_gainsFrom 3 = .ok (.istore_n 3, 1) := by decide +kernel
theorem dX2_gainsFrom_4 : decode cX2_gainsFrom 4 = .ok (.iload_n 3, 1) := by decide +kernel
theorem dX2_gainsFrom_5 : decode cX2_gainsFrom 5 = .ok (.aload_n 0, 1) := by decide +kernel
theorem dX2_gainsFrom_6 : decode cX2_gainsFrom 6 = .ok (.getfield 32, 3) := by decide +kernel
theorem dX2_gainsFrom_9 : decode cX2_gainsFrom 9 = .ok (.getfield 79, 3) := by decide +kernel
theorem dX2_gainsFrom_12 : decode cX2_gainsFrom 12 = .ok (.if_icmp .ge 80, 3) := by decide +kernel
theorem dX2_gainsFrom_15 : decode cX2_gainsFrom 15 = .ok (.aload_n 0, 1) := by decide +kernel
theorem dX2_gainsFrom_16 : decode cX2_gainsFrom 16 = .ok (.getfield 32, 3) := by decide +kernel
theorem dX2_gainsFrom_19 : decode cX2_gainsFrom 19 = .ok (.getfield 82, 3) := by decide +kernel
theorem dX2_gainsFrom_22 : decode cX2_gainsFrom 22 = .ok (.iload_n 3, 1) := by decide +kernel
theorem dX2_gainsFrom_23 : decode cX2_gainsFrom 23 = .ok (.iaload, 1) := by decide +kernel
theorem dX2_gainsFrom_24 : decode cX2_gainsFrom 24 = .ok (.istore 4, 2) := by decide +kernel
theorem dX2_gainsFrom_26 : decode cX2_gainsFrom 26 = .ok (.aload_n 0, 1) := by decide +kernel
theorem dX2_gainsFrom_27 : decode cX2_gainsFrom 27 = .ok (.getfield 28, 3) := by decide +kernel
theorem dX2_gainsFrom_30 : decode cX2_gainsFrom 30 = .ok (.iload 4, 2) := by decide +kernel
theorem dX2_gainsFrom_32 : decode cX2_gainsFrom 32 = .ok (.invokevirtual 58, 3) := by decide +kernel
theorem dX2_gainsFrom_35 : decode cX2_gainsFrom 35 = .ok (.ifCond .eq 12, 3) := by decide +kernel
theorem dX2_gainsFrom_38 : decode cX2_gainsFrom 38 = .ok (.aload_n 0, 1) := by decide +kernel
theorem dX2_gainsFrom_39 : decode cX2_gainsFrom 39 = .ok (.iload 4, 2) := by decide +kernel
theorem dX2_gainsFrom_41 : decode cX2_gainsFrom 41 = .ok (.invokevirtual 72, 3) := by decide +kernel
theorem dX2_gainsFrom_44 : decode cX2_gainsFrom 44 = .ok (.goto 5, 3) := by decide +kernel
theorem dX2_gainsFrom_47 : decode cX2_gainsFrom 47 = .ok (.bipush (-2), 2) := by decide +kernel
theorem dX2_gainsFrom_49 : decode cX2_gainsFrom 49 = .ok (.istore 5, 2) := by decide +kernel
theorem dX2_gainsFrom_51 : decode cX2_gainsFrom 51 = .ok (.iload_n 2, 1) := by decide +kernel
theorem dX2_gainsFrom_52 : decode cX2_gainsFrom 52 = .ok (.aload_n 0, 1) := by decide +kernel
theorem dX2_gainsFrom_53 : decode cX2_gainsFrom 53 = .ok (.getfield 19, 3) := by decide +kernel
theorem dX2_gainsFrom_56 : decode cX2_gainsFrom 56 = .ok (.aload_n 0, 1) := by decide +kernel
theorem dX2_gainsFrom_57 : decode cX2_gainsFrom 57 = .ok (.getfield 32, 3) := by decide +kernel
theorem dX2_gainsFrom_60 : decode cX2_gainsFrom 60 = .ok (.getfield 62, 3) := by decide +kernel
theorem dX2_gainsFrom_63 : decode cX2_gainsFrom 63 = .ok (.iload 4, 2) := by decide +kernel
theorem dX2_gainsFrom_65 : decode cX2_gainsFrom 65 = .ok (.iaload, 1) := by decide +kernel
theorem dX2_gainsFrom_66 : decode cX2_gainsFrom 66 = .ok (.aload_n 0, 1) := by decide +kernel
theorem dX2_gainsFrom_67 : decode cX2_gainsFrom 67 = .ok (.getfield 9, 3) := by decide +kernel
theorem dX2_gainsFrom_70 : decode cX2_gainsFrom 70 = .ok (.getfield 85, 3) := by decide +kernel
theorem dX2_gainsFrom_73 : decode cX2_gainsFrom 73 = .ok (.iload 4, 2) := by decide +kernel
theorem dX2_gainsFrom_75 : decode cX2_gainsFrom 75 = .ok (.aaload, 1) := by decide +kernel
theorem dX2_gainsFrom_76 : decode cX2_gainsFrom 76 = .ok (.getfield 89, 3) := by decide +kernel
theorem dX2_gainsFrom_79 : decode cX2_gainsFrom 79 = .ok (.iload 5, 2) := by decide +kernel
theorem dX2_gainsFrom_81 : decode cX2_gainsFrom 81 = .ok (.invokevirtual 94, 3) := by decide +kernel
theorem dX2_gainsFrom_84 : decode cX2_gainsFrom 84 = .ok (.iadd, 1) := by decide +kernel
theorem dX2_gainsFrom_85 : decode cX2_gainsFrom 85 = .ok (.istore_n 2, 1) := by decide +kernel
theorem dX2_gainsFrom_86 : decode cX2_gainsFrom 86 = .ok (.iinc 3 1, 3) := by decide +kernel
theorem dX2_gainsFrom_89 : decode cX2_gainsFrom 89 = .ok (.goto (-85), 3) := by decide +kernel
theorem dX2_gainsFrom_92 : decode cX2_gainsFrom 92 = .ok (.iload_n 2, 1) := by decide +kernel
theorem dX2_gainsFrom_93 : decode cX2_gainsFrom 93 = .ok (.ireturn, 1) := by decide +kernel
theorem dX2_seekTwoLooks_0 : decode cX2_seekTwoLooks 0 = .ok (.aload_n 0, 1) := by decide +kernel
theorem dX2_seekTwoLooks_1 : decode cX2_seekTwoLooks 1 = .ok (.getfield 15, 3) := by decide +kernel
theorem dX2_seekTwoLooks_4 : decode cX2_seekTwoLooks 4 = .ok (.iload_n 1, 1) := by decide +kernel
theorem dX2_seekTwoLooks_5 : decode cX2_seekTwoLooks 5 = .ok (.invokevirtual 38, 3) := by decide +kernel
theorem dX2_seekTwoLooks_8 : decode cX2_seekTwoLooks 8 = .ok (.aload_n 0, 1) := by decide +kernel
theorem dX2_seekTwoLooks_9 : decode cX2_seekTwoLooks 9 = .ok (.getfield 28, 3) := by decide +kernel
theorem dX2_seekTwoLooks_12 : decode cX2_seekTwoLooks 12 = .ok (.iconst 1, 1) := by decide +kernel
theorem dX2_seekTwoLooks_13 : decode cX2_seekTwoLooks 13 = .ok (.bipush 59, 2) := by decide +kernel
theorem dX2_seekTwoLooks_15 : decode cX2_seekTwoLooks 15 = .ok (.iconst 0, 1) := by decide +kernel
theorem dX2_seekTwoLooks_16 : decode cX2_seekTwoLooks 16 = .ok (.invokevirtual 44, 3) := by decide +kernel
theorem dX2_seekTwoLooks_19 : decode cX2_seekTwoLooks 19 = .ok (.aload_n 0, 1) := by decide +kernel
theorem dX2_seekTwoLooks_20 : decode cX2_seekTwoLooks 20 = .ok (.getfield 35, 3) := by decide +kernel
theorem dX2_seekTwoLooks_23 : decode cX2_seekTwoLooks 23 = .ok (.iconst 0, 1) := by decide +kernel
theorem dX2_seekTwoLooks_24 : decode cX2_seekTwoLooks 24 = .ok (.invokevirtual 100, 3) := by decide +kernel
theorem dX2_seekTwoLooks_27 : decode cX2_seekTwoLooks 27 = .ok (.aload_n 0, 1) := by decide +kernel
theorem dX2_seekTwoLooks_28 : decode cX2_seekTwoLooks 28 = .ok (.iconst (-1), 1) := by decide +kernel
theorem dX2_seekTwoLooks_29 : decode cX2_seekTwoLooks 29 = .ok (.putfield 104, 3) := by decide +kernel
theorem dX2_seekTwoLooks_32 : decode cX2_seekTwoLooks 32 = .ok (.iconst 0, 1) := by decide +kernel
theorem dX2_seekTwoLooks_33 : decode cX2_seekTwoLooks 33 = .ok (.istore_n 2, 1) := by decide +kernel
theorem dX2_seekTwoLooks_34 : decode cX2_seekTwoLooks 34 = .ok (.iload_n 2, 1) := by decide +kernel
theorem dX2_seekTwoLooks_35 : decode cX2_seekTwoLooks 35 = .ok (.bipush 59, 2) := by decide +kernel
theorem dX2_seekTwoLooks_37 : decode cX2_seekTwoLooks 37 = .ok (.if_icmp .ge 49, 3) := by decide +kernel
theorem dX2_seekTwoLooks_40 : decode cX2_seekTwoLooks 40 = .ok (.aload_n 0, 1) := by decide +kernel
theorem dX2_seekTwoLooks_41 : decode cX2_seekTwoLooks 41 = .ok (.getfield 35, 3) := by decide +kernel
theorem dX2_seekTwoLooks_44 : decode cX2_seekTwoLooks 44 = .ok (.iload_n 2, 1) := by decide +kernel
theorem dX2_seekTwoLooks_45 : decode cX2_seekTwoLooks 45 = .ok (.invokevirtual 107, 3) := by decide +kernel
theorem dX2_seekTwoLooks_48 : decode cX2_seekTwoLooks 48 = .ok (.aload_n 0, 1) := by decide +kernel
theorem dX2_seekTwoLooks_49 : decode cX2_seekTwoLooks 49 = .ok (.getfield 35, 3) := by decide +kernel
theorem dX2_seekTwoLooks_52 : decode cX2_seekTwoLooks 52 = .ok (.iload_n 2, 1) := by decide +kernel
theorem dX2_seekTwoLooks_53 : decode cX2_seekTwoLooks 53 = .ok (.invokevirtual 110, 3) := by decide +kernel
theorem dX2_seekTwoLooks_56 : decode cX2_seekTwoLooks 56 = .ok (.aload_n 0, 1) := by decide +kernel
theorem dX2_seekTwoLooks_57 : decode cX2_seekTwoLooks 57 = .ok (.getfield 32, 3) := by decide +kernel
theorem dX2_seekTwoLooks_60 : decode cX2_seekTwoLooks 60 = .ok (.aload_n 0, 1) := by decide +kernel
theorem dX2_seekTwoLooks_61 : decode cX2_seekTwoLooks 61 = .ok (.getfield 35, 3) := by decide +kernel
theorem dX2_seekTwoLooks_64 : decode cX2_seekTwoLooks 64 = .ok (.invokevirtual 113, 3) := by decide +kernel
theorem dX2_seekTwoLooks_67 : decode cX2_seekTwoLooks 67 = .ok (.aload_n 0, 1) := by decide +kernel
theorem dX2_seekTwoLooks_68 : decode cX2_seekTwoLooks 68 = .ok (.getfield 32, 3) := by decide +kernel
theorem dX2_seekTwoLooks_71 : decode cX2_seekTwoLooks 71 = .ok (.iload_n 2, 1) := by decide +kernel
theorem dX2_seekTwoLooks_72 : decode cX2_seekTwoLooks 72 = .ok (.invokevirtual 117, 3) := by decide +kernel
theorem dX2_seekTwoLooks_75 : decode cX2_seekTwoLooks 75 = .ok (.aload_n 0, 1) := by decide +kernel
theorem dX2_seekTwoLooks_76 : decode cX2_seekTwoLooks 76 = .ok (.iload_n 2, 1) := by decide +kernel
theorem dX2_seekTwoLooks_77 : decode cX2_seekTwoLooks 77 = .ok (.invokevirtual 120, 3) := by decide +kernel
theorem dX2_seekTwoLooks_80 : decode cX2_seekTwoLooks 80 = .ok (.iinc 2 1, 3) := by decide +kernel
theorem dX2_seekTwoLooks_83 : decode cX2_seekTwoLooks 83 = .ok (.goto (-49), 3) := by decide +kernel
theorem dX2_seekTwoLooks_86 : decode cX2_seekTwoLooks 86 = .ok (.return_, 1) := by decide +kernel
theorem dX2_trySecondLooks_0 : decode cX2_trySecondLooks 0 = .ok (.aload_n 0, 1) := by decide +kernel
theorem dX2_trySecondLooks_1 : decode cX2_trySecondLooks 1 = .ok (.iconst 0, 1) := by decide +kernel
theorem dX2_trySecondLooks_2 : decode cX2_trySecondLooks 2 = .ok (.invokevirtual 123, 3) := by decide +kernel
theorem dX2_trySecondLooks_5 : decode cX2_trySecondLooks 5 = .ok (.istore_n 2, 1) := by decide +kernel
theorem dX2_trySecondLooks_6 : decode cX2_trySecondLooks 6 = .ok (.aload_n 0, 1) := by decide +kernel
theorem dX2_trySecondLooks_7 : decode cX2_trySecondLooks 7 = .ok (.getfield 32, 3) := by decide +kernel
theorem dX2_trySecondLooks_10 : decode cX2_trySecondLooks 10 = .ok (.getfield 79, 3) := by decide +kernel
theorem dX2_trySecondLooks_13 : decode cX2_trySecondLooks 13 = .ok (.istore_n 3, 1) := by decide +kernel
theorem dX2_trySecondLooks_14 : decode cX2_trySecondLooks 14 = .ok (.iload_n 1, 1) := by decide +kernel
theorem dX2_trySecondLooks_15 : decode cX2_trySecondLooks 15 = .ok (.iconst 1, 1) := by decide +kernel
theorem dX2_trySecondLooks_16 : decode cX2_trySecondLooks 16 = .ok (.iadd, 1) := by decide +kernel
theorem dX2_trySecondLooks_17 : decode cX2_trySecondLooks 17 = .ok (.istore 4, 2) := by decide +kernel
theorem dX2_trySecondLooks_19 : decode cX2_trySecondLooks 19 = .ok (.iload 4, 2) := by decide +kernel
theorem dX2_trySecondLooks_21 : decode cX2_trySecondLooks 21 = .ok (.bipush 60, 2) := by decide +kernel
theorem dX2_trySecondLooks_23 : decode cX2_trySecondLooks 23 = .ok (.if_icmp .ge 90, 3) := by decide +kernel
theorem dX2_trySecondLooks_26 : decode cX2_trySecondLooks 26 = .ok (.aload_n 0, 1) := by decide +kernel
theorem dX2_trySecondLooks_27 : decode cX2_trySecondLooks 27 = .ok (.getfield 32, 3) := by decide +kernel
theorem dX2_trySecondLooks_30 : decode cX2_trySecondLooks 30 = .ok (.iload 4, 2) := by decide +kernel
theorem dX2_trySecondLooks_32 : decode cX2_trySecondLooks 32 = .ok (.invokevirtual 107, 3) := by decide +kernel
theorem dX2_trySecondLooks_35 : decode cX2_trySecondLooks 35 = .ok (.aload_n 0, 1) := by decide +kernel
theorem dX2_trySecondLooks_36 : decode cX2_trySecondLooks 36 = .ok (.getfield 32, 3) := by decide +kernel
theorem dX2_trySecondLooks_39 : decode cX2_trySecondLooks 39 = .ok (.iload 4, 2) := by decide +kernel
theorem dX2_trySecondLooks_41 : decode cX2_trySecondLooks 41 = .ok (.invokevirtual 110, 3) := by decide +kernel
theorem dX2_trySecondLooks_44 : decode cX2_trySecondLooks 44 = .ok (.aload_n 0, 1) := by decide +kernel
theorem dX2_trySecondLooks_45 : decode cX2_trySecondLooks 45 = .ok (.getfield 32, 3) := by decide +kernel
theorem dX2_trySecondLooks_48 : decode cX2_trySecondLooks 48 = .ok (.getfield 126, 3) := by decide +kernel
theorem dX2_trySecondLooks_51 : decode cX2_trySecondLooks 51 = .ok (.istore 5, 2) := by decide +kernel
theorem dX2_trySecondLooks_53 : decode cX2_trySecondLooks 53 = .ok (.aload_n 0, 1) := by decide +kernel
theorem dX2_trySecondLooks_54 : decode cX2_trySecondLooks 54 = .ok (.getfield 32, 3) := by decide +kernel
theorem dX2_trySecondLooks_57 : decode cX2_trySecondLooks 57 = .ok (.iload 4, 2) := by decide +kernel
theorem dX2_trySecondLooks_59 : decode cX2_trySecondLooks 59 = .ok (.invokevirtual 117, 3) := by decide +kernel
theorem dX2_trySecondLooks_62 : decode cX2_trySecondLooks 62 = .ok (.iload_n 2, 1) := by decide +kernel
theorem dX2_trySecondLooks_63 : decode cX2_trySecondLooks 63 = .ok (.aload_n 0, 1) := by decide +kernel
theorem dX2_trySecondLooks_64 : decode cX2_trySecondLooks 64 = .ok (.iload_n 3, 1) := by decide +kernel
theorem dX2_trySecondLooks_65 : decode cX2_trySecondLooks 65 = .ok (.invokevirtual 123, 3) := by decide +kernel
theorem dX2_trySecondLooks_68 : decode cX2_trySecondLooks 68 = .ok (.iadd, 1) := by decide +kernel
theorem dX2_trySecondLooks_69 : decode cX2_trySecondLooks 69 = .ok (.istore 6, 2) := by decide +kernel
theorem dX2_trySecondLooks_71 : decode cX2_trySecondLooks 71 = .ok (.iload 6, 2) := by decide +kernel
theorem dX2_trySecondLooks_73 : decode cX2_trySecondLooks 73 = .ok (.aload_n 0, 1) := by decide +kernel
theorem dX2_trySecondLooks_74 : decode cX2_trySecondLooks 74 = .ok (.getfield 104, 3) := by decide +kernel
theorem dX2_trySecondLooks_77 : decode cX2_trySecondLooks 77 = .ok (.if_icmp .le 20, 3) := by decide +kernel
theorem dX2_trySecondLooks_80 : decode cX2_trySecondLooks 80 = .ok (.aload_n 0, 1) := by decide +kernel
theorem dX2_trySecondLooks_81 : decode cX2_trySecondLooks 81 = .ok (.iload 6, 2) := by decide +kernel
theorem dX2_trySecondLooks_83 : decode cX2_trySecondLooks 83 = .ok (.putfield 104, 3) := by decide +kernel
theorem dX2_trySecondLooks_86 : decode cX2_trySecondLooks 86 = .ok (.aload_n 0, 1) := by decide +kernel
theorem dX2_trySecondLooks_87 : decode cX2_trySecondLooks 87 = .ok (.iload_n 1, 1) := by decide +kernel
theorem dX2_trySecondLooks_88 : decode cX2_trySecondLooks 88 = .ok (.putfield 129, 3) := by decide +kernel
theorem dX2_trySecondLooks_91 : decode cX2_trySecondLooks 91 = .ok (.aload_n 0, 1) := by decide +kernel
theorem dX2_trySecondLooks_92 : decode cX2_trySecondLooks 92 = .ok (.iload 4, 2) := by decide +kernel
theorem dX2_trySecondLooks_94 : decode cX2_trySecondLooks 94 = .ok (.putfield 132, 3) := by decide +kernel
theorem dX2_trySecondLooks_97 : decode cX2_trySecondLooks 97 = .ok (.aload_n 0, 1) := by decide +kernel
theorem dX2_trySecondLooks_98 : decode cX2_trySecondLooks 98 = .ok (.getfield 32, 3) := by decide +kernel
theorem dX2_trySecondLooks_101 : decode cX2_trySecondLooks 101 = .ok (.iload_n 3, 1) := by decide +kernel
theorem dX2_trySecondLooks_102 : decode cX2_trySecondLooks 102 = .ok (.iload 5, 2) := by decide +kernel
theorem dX2_trySecondLooks_104 : decode cX2_trySecondLooks 104 = .ok (.invokevirtual 135, 3) := by decide +kernel
theorem dX2_trySecondLooks_107 : decode cX2_trySecondLooks 107 = .ok (.iinc 4 1, 3) := by decide +kernel
theorem dX2_trySecondLooks_110 : decode cX2_trySecondLooks 110 = .ok (.goto (-91), 3) := by decide +kernel
theorem dX2_trySecondLooks_113 : decode cX2_trySecondLooks 113 = .ok (.return_, 1) := by decide +kernel
theorem dX3_init_0 : decode cX3_init 0 = .ok (.aload_n 0, 1) := by decide +kernel
theorem dX3_init_1 : decode cX3_init 1 = .ok (.invokespecial 3, 3) := by decide +kernel
theorem dX3_init_4 : decode cX3_init 4 = .ok (.aload_n 0, 1) := by decide +kernel
theorem dX3_init_5 : decode cX3_init 5 = .ok (.bipush 60, 2) := by decide +kernel
theorem dX3_init_7 : decode cX3_init 7 = .ok (.newarray .int, 2) := by decide +kernel
theorem dX3_init_9 : decode cX3_init 9 = .ok (.putfield 9, 3) := by decide +kernel
theorem dX3_init_12 : decode cX3_init 12 = .ok (.aload_n 0, 1) := by decide +kernel
theorem dX3_init_13 : decode cX3_init 13 = .ok (.bipush 60, 2) := by decide +kernel
theorem dX3_init_15 : decode cX3_init 15 = .ok (.newarray .int, 2) := by decide +kernel
theorem dX3_init_17 : decode cX3_init 17 = .ok (.putfield 15, 3) := by decide +kernel
theorem dX3_init_20 : decode cX3_init 20 = .ok (.aload_n 0, 1) := by decide +kernel
theorem dX3_init_21 : decode cX3_init 21 = .ok (.bipush 60, 2) := by decide +kernel
theorem dX3_init_23 : decode cX3_init 23 = .ok (.newarray .int, 2) := by decide +kernel
theorem dX3_init_25 : decode cX3_init 25 = .ok (.putfield 18, 3) := by decide +kernel
theorem dX3_init_28 : decode cX3_init 28 = .ok (.aload_n 0, 1) := by decide +kernel
theorem dX3_init_29 : decode cX3_init 29 = .ok (.bipush 60, 2) := by decide +kernel
theorem dX3_init_31 : decode cX3_init 31 = .ok (.newarray .int, 2) := by decide +kernel
theorem dX3_init_33 : decode cX3_init 33 = .ok (.putfield 21, 3) := by decide +kernel
theorem dX3_init_36 : decode cX3_init 36 = .ok (.aload_n 0, 1) := by decide +kernel
theorem dX3_init_37 : decode cX3_init 37 = .ok (.bipush 60, 2) := by decide +kernel
theorem dX3_init_39 : decode cX3_init 39 = .ok (.newarray .int, 2) := by decide +kernel
theorem dX3_init_41 : decode cX3_init 41 = .ok (.putfield 24, 3) := by decide +kernel
theorem dX3_init_44 : decode cX3_init 44 = .ok (.aload_n 0, 1) := by decide +kernel
theorem dX3_init_45 : decode cX3_init 45 = .ok (.bipush 61, 2) := by decide +kernel
theorem dX3_init_47 : decode cX3_init 47 = .ok (.newarray .int, 2) := by decide +kernel
theorem dX3_init_49 : decode cX3_init 49 = .ok (.putfield 27, 3) := by decide +kernel
theorem dX3_init_52 : decode cX3_init 52 = .ok (.return_, 1) := by decide +kernel
theorem dX3_add_0 : decode cX3_add 0 = .ok (.aload_n 0, 1) := by decide +kernel
theorem dX3_add_1 : decode cX3_add 1 = .ok (.getfield 30, 3) := by decide +kernel
theorem dX3_add_4 : decode cX3_add 4 = .ok (.bipush 60, 2) := by decide +kernel
theorem dX3_add_6 : decode cX3_add 6 = .ok (.if_icmp .lt 5, 3) := by decide +kernel
theorem dX3_add_9 : decode cX3_add 9 = .ok (.iconst (-1), 1) := by decide +kernel
theorem dX3_add_10 : decode cX3_add 10 = .ok (.ireturn, 1) := by decide +kernel
theorem dX3_add_11 : decode cX3_add 11 = .ok (.aload_n 0, 1) := by decide +kernel
theorem dX3_add_12 : decode cX3_add 12 = .ok (.getfield 9, 3) := by decide +kernel
theorem dX3_add_15 : decode cX3_add 15 = .ok (.aload_n 0, 1) := by decide +kernel
theorem dX3_add_16 : decode cX3_add 16 = .ok (.getfield 30, 3) := by decide +kernel
theorem dX3_add_19 : decode cX3_add 19 = .ok (.iload_n 1, 1) := by decide +kernel
theorem dX3_add_20 : decode cX3_add 20 = .ok (.iastore, 1) := by decide +kernel
theorem dX3_add_21 : decode cX3_add 21 = .ok (.aload_n 0, 1) := by decide +kernel
theorem dX3_add_22 : decode cX3_add 22 = .ok (.getfield 15, 3) := by decide +kernel
theorem dX3_add_25 : decode cX3_add 25 = .ok (.aload_n 0, 1) := by decide +kernel
theorem dX3_add_26 : decode cX3_add 26 = .ok (.getfield 30, 3) := by decide +kernel
theorem dX3_add_29 : decode cX3_add 29 = .ok (.iload_n 2, 1) := by decide +kernel
theorem dX3_add_30 : decode cX3_add 30 = .ok (.iastore, 1) := by decide +kernel
theorem dX3_add_31 : decode cX3_add 31 = .ok (.aload_n 0, 1) := by decide +kernel
theorem dX3_add_32 : decode cX3_add 32 = .ok (.getfield 18, 3) := by decide +kernel
theorem dX3_add_35 : decode cX3_add 35 = .ok (.aload_n 0, 1) := by decide +kernel
theorem dX3_add_36 : decode cX3_add 36 = .ok (.getfield 30, 3) := by decide +kernel
theorem dX3_add_39 : decode cX3_add 39 = .ok (.iload_n 3, 1) := by decide +kernel
theorem dX3_add_40 : decode cX3_add 40 = .ok (.iastore, 1) := by decide +kernel
theorem dX3_add_41 : decode cX3_add 41 = .ok (.aload_n 0, 1) := by decide +kernel
theorem dX3_add_42 : decode cX3_add 42 = .ok (.getfield 21, 3) := by decide +kernel
theorem dX3_add_45 : decode cX3_add 45 = .ok (.aload_n 0, 1) := by decide +kernel
theorem dX3_add_46 : decode cX3_add 46 = .ok (.getfield 30, 3) := by decide +kernel
theorem dX3_add_49 : decode cX3_add 49 = .ok (.iload 4, 2) := by decide +kernel
theorem dX3_add_51 : decode cX3_add 51 = .ok (.iastore, 1) := by decide +kernel
theorem dX3_add_52 : decode cX3_add 52 = .ok (.aload_n 0, 1) := by decide +kernel
theorem dX3_add_53 : decode cX3_add 53 = .ok (.dup, 1) := by decide +kernel
theorem dX3_add_54 : decode cX3_add 54 = .ok (.getfield 30, 3) := by decide +kernel
theorem dX3_add_57 : decode cX3_add 57 = .ok (.iconst 1, 1) := by decide +kernel
theorem dX3_add_58 : decode cX3_add 58 = .ok (.iadd, 1) := by decide +kernel
theorem dX3_add_59 : decode cX3_add 59 = .ok (.putfield 30, 3) := by decide +kernel
theorem dX3_add_62 : decode cX3_add 62 = .ok (.aload_n 0, 1) := by decide +kernel
theorem dX3_add_63 : decode cX3_add 63 = .ok (.getfield 30, 3) := by decide +kernel
theorem dX3_add_66 : decode cX3_add 66 = .ok (.iconst 1, 1) := by decide +kernel
theorem dX3_add_67 : decode cX3_add 67 = .ok (.isub, 1) := by decide +kernel
theorem dX3_add_68 : decode cX3_add 68 = .ok (.ireturn, 1) := by decide +kernel
theorem dX3_become_0 : decode cX3_become 0 = .ok (.aload_n 0, 1) := by decide +kernel
theorem dX3_become_1 : decode cX3_become 1 = .ok (.aload_n 1, 1) := by decide +kernel
theorem dX3_become_2 : decode cX3_become 2 = .ok (.getfield 30, 3) := by decide +kernel
theorem dX3_become_5 : decode cX3_become 5 = .ok (.putfield 30, 3) := by decide +kernel
theorem dX3_become_8 : decode cX3_become 8 = .ok (.aload_n 1, 1) := by decide +kernel
theorem dX3_become_9 : decode cX3_become 9 = .ok (.getfield 9, 3) := by decide +kernel
theorem dX3_become_12 : decode cX3_become 12 = .ok (.iconst 0, 1) := by decide +kernel
theorem dX3_become_13 : decode cX3_become 13 = .ok (.aload_n 0, 1) := by decide +kernel
theorem dX3_become_14 : decode cX3_become 14 = .ok (.getfield 9, 3) := by decide +kernel
theorem dX3_become_17 : decode cX3_become 17 = .ok (.iconst 0, 1) := by decide +kernel
theorem dX3_become_18 : decode cX3_become 18 = .ok (.aload_n 0, 1) := by decide +kernel
theorem dX3_become_19 : decode cX3_become 19 = .ok (.getfield 30, 3) := by decide +kernel
theorem dX3_become_22 : decode cX3_become 22 = .ok (.invokestatic 34, 3) := by decide +kernel
theorem dX3_become_25 : decode cX3_become 25 = .ok (.aload_n 1, 1) := by decide +kernel
theorem dX3_become_26 : decode cX3_become 26 = .ok (.getfield 15, 3) := by decide +kernel
theorem dX3_become_29 : decode cX3_become 29 = .ok (.iconst 0, 1) := by decide +kernel
theorem dX3_become_30 : decode cX3_become 30 = .ok (.aload_n 0, 1) := by decide +kernel
theorem dX3_become_31 : decode cX3_become 31 = .ok (.getfield 15, 3) := by decide +kernel
theorem dX3_become_34 : decode cX3_become 34 = .ok (.iconst 0, 1) := by decide +kernel
theorem dX3_become_35 : decode cX3_become 35 = .ok (.aload_n 0, 1) := by decide +kernel
theorem dX3_become_36 : decode cX3_become 36 = .ok (.getfield 30, 3) := by decide +kernel
theorem dX3_become_39 : decode cX3_become 39 = .ok (.invokestatic 34, 3) := by decide +kernel
theorem dX3_become_42 : decode cX3_become 42 = .ok (.aload_n 1, 1) := by decide +kernel
theorem dX3_become_43 : decode cX3_become 43 = .ok (.getfield 18, 3) := by decide +kernel
theorem dX3_become_46 : decode cX3_become 46 = .ok (.iconst 0, 1) := by decide +kernel
theorem dX3_become_47 : decode cX3_become 47 = .ok (.aload_n 0, 1) := by decide +kernel
theorem dX3_become_48 : decode cX3_become 48 = .ok (.getfield 18, 3) := by decide +kernel
theorem dX3_become_51 : decode cX3_become 51 = .ok (.iconst 0, 1) := by decide +kernel
theorem dX3_become_52 : decode cX3_become 52 = .ok (.aload_n 0, 1) := by decide +kernel
theorem dX3_become_53 : decode cX3_become 53 = .ok (.getfield 30, 3) := by decide +kernel
theorem dX3_become_56 : decode cX3_become 56 = .ok (.invokestatic 34, 3) := by decide +kernel
theorem dX3_become_59 : decode cX3_become 59 = .ok (.aload_n 1, 1) := by decide +kernel
theorem dX3_become_60 : decode cX3_become 60 = .ok (.getfield 21, 3) := by decide +kernel
theorem dX3_become_63 : decode cX3_become 63 = .ok (.iconst 0, 1) := by decide +kernel
theorem dX3_become_64 : decode cX3_become 64 = .ok (.aload_n 0, 1) := by decide +kernel
theorem dX3_become_65 : decode cX3_become 65 = .ok (.getfield 21, 3) := by decide +kernel
theorem dX3_become_68 : decode cX3_become 68 = .ok (.iconst 0, 1) := by decide +kernel
theorem dX3_become_69 : decode cX3_become 69 = .ok (.aload_n 0, 1) := by decide +kernel
theorem dX3_become_70 : decode cX3_become 70 = .ok (.getfield 30, 3) := by decide +kernel
theorem dX3_become_73 : decode cX3_become 73 = .ok (.invokestatic 34, 3) := by decide +kernel
theorem dX3_become_76 : decode cX3_become 76 = .ok (.return_, 1) := by decide +kernel
theorem dX3_annulledBy_0 : decode cX3_annulledBy 0 = .ok (.lconst 0, 1) := by decide +kernel
theorem dX3_annulledBy_1 : decode cX3_annulledBy 1 = .ok (.lstore_n 2, 1) := by decide +kernel
theorem dX3_annulledBy_2 : decode cX3_annulledBy 2 = .ok (.iconst 0, 1) := by decide +kernel
theorem dX3_annulledBy_3 : decode cX3_annulledBy 3 = .ok (.istore 4, 2) := by decide +kernel
theorem dX3_annulledBy_5 : decode cX3_annulledBy 5 = .ok (.iload 4, 2) := by decide +kernel
theorem dX3_annulledBy_7 : decode cX3_annulledBy 7 = .ok (.iload_n 1, 1) := by decide +kernel
theorem dX3_annulledBy_8 : decode cX3_annulledBy 8 = .ok (.if_icmp .ge 33, 3) := by decide +kernel
theorem dX3_annulledBy_11 : decode cX3_annulledBy 11 = .ok (.aload_n 0, 1) := by decide +kernel
theorem dX3_annulledBy_12 : decode cX3_annulledBy 12 = .ok (.getfield 9, 3) := by decide +kernel
theorem dX3_annulledBy_15 : decode cX3_annulledBy 15 = .ok (.iload 4, 2) := by decide +kernel
theorem dX3_annulledBy_17 : decode cX3_annulledBy 17 = .ok (.iaload, 1) := by decide +kernel
theorem dX3_annulledBy_18 : decode cX3_annulledBy 18 = .ok (.bipush 6, 2) := by decide +kernel
theorem dX3_annulledBy_20 : decode cX3_annulledBy 20 = .ok (.if_icmp .ne 15, 3) := by decide +kernel
theorem dX3_annulledBy_23 : decode cX3_annulledBy 23 = .ok (.lload_n 2, 1) := by decide +kernel
theorem dX3_annulledBy_24 : decode cX3_annulledBy 24 = .ok (.lconst 1, 1) := by decide +kernel
theorem dX3_annulledBy_25 : decode cX3_annulledBy 25 = .ok (.aload_n 0, 1) := by decide +kernel
theorem dX3_annulledBy_26 : decode cX3_annulledBy 26 = .ok (.getfield 18, 3) := by decide +kernel
theorem dX3_annulledBy_29 : decode cX3_annulledBy 29 = .ok (.iload 4, 2) := by decide +kernel
theorem dX3_annulledBy_31 : decode cX3_annulledBy 31 = .ok (.iaload, 1) := by decide +kernel
theorem dX3_annulledBy_32 : decode cX3_annulledBy 32 = .ok (.lshl, 1) := by decide +kernel
theorem dX3_annulledBy_33 : decode cX3_annulledBy 33 = .ok (.lor, 1) := by decide +kernel
theorem dX3_annulledBy_34 : decode cX3_annulledBy 34 = .ok (.lstore_n 2, 1) := by decide +kernel
theorem dX3_annulledBy_35 : decode cX3_annulledBy 35 = .ok (.iinc 4 1, 3) := by decide +kernel
theorem dX3_annulledBy_38 : decode cX3_annulledBy 38 = .ok (.goto (-33), 3) := by decide +kernel
theorem dX3_annulledBy_41 : decode cX3_annulledBy 41 = .ok (.lload_n 2, 1) := by decide +kernel
theorem dX3_annulledBy_42 : decode cX3_annulledBy 42 = .ok (.lreturn, 1) := by decide +kernel
theorem dX3_counts_0 : decode cX3_counts 0 = .ok (.aload_n 0, 1) := by decide +kernel
theorem dX3_counts_1 : decode cX3_counts 1 = .ok (.getfield 15, 3) := by decide +kernel
theorem dX3_counts_4 : decode cX3_counts 4 = .ok (.iload_n 1, 1) := by decide +kernel
theorem dX3_counts_5 : decode cX3_counts 5 = .ok (.iaload, 1) := by decide +kernel
theorem dX3_counts_6 : decode cX3_counts 6 = .ok (.iconst 0, 1) := by decide +kernel
theorem dX3_counts_7 : decode cX3_counts 7 = .ok (.bipush 59, 2) := by decide +kernel
theorem dX3_counts_9 : decode cX3_counts 9 = .ok (.invokestatic 40, 3) := by decide +kernel
theorem dX3_counts_12 : decode cX3_counts 12 = .ok (.ifCond .eq 17, 3) := by decide +kernel
theorem dX3_counts_15 : decode cX3_counts 15 = .ok (.lload_n 2, 1) := by decide +kernel
theorem dX3_counts_16 : decode cX3_counts 16 = .ok (.iload_n 1, 1) := by decide +kernel
theorem dX3_counts_17 : decode cX3_counts 17 = .ok (.lshr, 1) := by decide +kernel
theorem dX3_counts_18 : decode cX3_counts 18 = .ok (.lconst 1, 1) := by decide +kernel
theorem dX3_counts_19 : decode cX3_counts 19 = .ok (.land, 1) := by decide +kernel
theorem dX3_counts_20 : decode cX3_counts 20 = .ok (.lconst 0, 1) := by decide +kernel
theorem dX3_counts_21 : decode cX3_counts 21 = .ok (.lcmp, 1) := by decide +kernel
theorem dX3_counts_22 : decode cX3_counts 22 = .ok (.ifCond .ne 7, 3) := by decide +kernel
theorem dX3_counts_25 : decode cX3_counts 25 = .ok (.iconst 1, 1) := by decide +kernel
theorem dX3_counts_26 : decode cX3_counts 26 = .ok (.goto 4, 3) := by decide +kernel
theorem dX3_counts_29 : decode cX3_counts 29 = .ok (.iconst 0, 1) := by decide +kernel
theorem dX3_counts_30 : decode cX3_counts 30 = .ok (.ireturn, 1) := by decide +kernel
theorem dX3_arrange_0 : decode cX3_arrange 0 = .ok (.aload_n 0, 1) := by decide +kernel
theorem dX3_arrange_1 : decode cX3_arrange 1 = .ok (.iload_n 1, 1) := by decide +kernel
theorem dX3_arrange_2 : decode cX3_arrange 2 = .ok (.invokevirtual 44, 3) := by decide +kernel
theorem dX3_arrange_5 : decode cX3_arrange 5 = .ok (.lstore_n 2, 1) := by decide +kernel
theorem dX3_arrange_6 : decode cX3_arrange 6 = .ok (.aload_n 0, 1) := by decide +kernel
theorem dX3_arrange_7 : decode cX3_arrange 7 = .ok (.getfield 27, 3) := by decide +kernel
theorem dX3_arrange_10 : decode cX3_arrange 10 = .ok (.iconst 0, 1) := by decide +kernel
theorem dX3_arrange_11 : decode cX3_arrange 11 = .ok (.invokestatic 48, 3) := by decide +kernel
theorem dX3_arrange_14 : decode cX3_arrange 14 = .ok (.iconst 0, 1) := by decide +kernel
theorem dX3_arrange_15 : decode cX3_arrange 15 = .ok (.istore 4, 2) := by decide +kernel
theorem dX3_arrange_17 : decode cX3_arrange 17 = .ok (.iload 4, 2) := by decide +kernel
theorem dX3_arrange_19 : decode cX3_arrange 19 = .ok (.iload_n 1, 1) := by decide +kernel
theorem dX3_arrange_20 : decode cX3_arrange 20 = .ok (.if_icmp .ge 35, 3) := by decide +kernel
theorem dX3_arrange_23 : decode cX3_arrange 23 = .ok (.aload_n 0, 1) := by decide +kernel
theorem dX3_arrange_24 : decode cX3_arrange 24 = .ok (.iload 4, 2) := by decide +kernel
theorem dX3_arrange_26 : decode cX3_arrange 26 = .ok (.lload_n 2, 1) := by decide +kernel
theorem dX3_arrange_27 : decode cX3_arrange 27 = .ok (.invokevirtual 54, 3) := by decide +kernel
theorem dX3_arrange_30 : decode cX3_arrange 30 = .ok (.ifCond .eq 19, 3) := by decide +kernel
theorem dX3_arrange_33 : decode cX3_arrange 33 = .ok (.aload_n 0, 1) := by decide +kernel
theorem dX3_arrange_34 : decode cX3_arrange 34 = .ok (.getfield 27, 3) := by decide +kernel
theorem dX3_arrange_37 : decode cX3_arrange 37 = .ok (.aload_n 0, 1) := by decide +kernel
theorem dX3_arrange_38 : decode cX3_arrange 38 = .ok (.getfield 15, 3) := by decide +kernel
theorem dX3_arrange_41 : decode cX3_arrange 41 = .ok (.iload 4, 2) := by decide +kernel
theorem dX3_arrange_43 : decode cX3_arrange 43 = .ok (.iaload, 1) := by decide +kernel
theorem dX3_arrange_44 : decode cX3_arrange 44 = .ok (.dup2, 1) := by decide +kernel
theorem dX3_arrange_45 : decode cX3_arrange 45 = .ok (.iaload, 1) := by decide +kernel
theorem dX3_arrange_46 : decode cX3_arrange 46 = .ok (.iconst 1, 1) := by decide +kernel
theorem dX3_arrange_47 : decode cX3_arrange 47 = .ok (.iadd, 1) := by decide +kernel
theorem dX3_arrange_48 : decode cX3_arrange 48 = .ok (.iastore, 1) := by decide +kernel
theorem dX3_arrange_49 : decode cX3_arrange 49 = .ok (.iinc 4 1, 3) := by decide +kernel
theorem dX3_arrange_52 : decode cX3_arrange 52 = .ok (.goto (-35), 3) := by decide +kernel
theorem dX3_arrange_55 : decode cX3_arrange 55 = .ok (.iconst 1, 1) := by decide +kernel
theorem dX3_arrange_56 : decode cX3_arrange 56 = .ok (.istore 4, 2) := by decide +kernel
theorem dX3_arrange_58 : decode cX3_arrange 58 = .ok (.iload 4, 2) := by decide +kernel
theorem dX3_arrange_60 : decode cX3_arrange 60 = .ok (.bipush 60, 2) := by decide +kernel
theorem dX3_arrange_62 : decode cX3_arrange 62 = .ok (.if_icmp .gt 28, 3) := by decide +kernel
theorem dX3_arrange_65 : decode cX3_arrange 65 = .ok (.aload_n 0, 1) := by decide +kernel
theorem dX3_arrange_66 : decode cX3_arrange 66 = .ok (.getfield 27, 3) := by decide +kernel
theorem dX3_arrange_69 : decode cX3_arrange 69 = .ok (.iload 4, 2) := by decide +kernel
theorem dX3_arrange_71 : decode cX3_arrange 71 = .ok (.dup2, 1) := by decide +kernel
theorem dX3_arrange_72 : decode cX3_arrange 72 = .ok (.iaload, 1) := by decide +kernel
theorem dX3_arrange_73 : decode cX3_arrange 73 = .ok (.aload_n 0, 1) := by decide +kernel
theorem dX3_arrange_74 : decode cX3_arrange 74 = .ok (.getfield 27, 3) := by decide +kernel
theorem dX3_arrange_77 : decode cX3_arrange 77 = .ok (.iload 4, 2) := by decide +kernel
theorem dX3_arrange_79 : decode cX3_arrange 79 = .ok (.iconst 1, 1) := by decide +kernel
theorem dX3_arrange_80 : decode cX3_arrange 80 = .ok (.isub, 1) := by decide +kernel
theorem dX3_arrange_81 : decode cX3_arrange 81 = .ok (.iaload, 1) := by decide +kernel
theorem dX3_arrange_82 : decode cX3_arrange 82 = .ok (.iadd, 1) := by decide +kernel
theorem dX3_arrange_83 : decode cX3_arrange 83 = .ok (.iastore, 1) := by decide +kernel
theorem dX3_arrange_84 : decode cX3_arrange 84 = .ok (.iinc 4 1, 3) := by decide +kernel
theorem dX3_arrange_87 : decode cX3_arrange 87 = .ok (.goto (-29), 3) := by decide +kernel
theorem dX3_arrange_90 : decode cX3_arrange 90 = .ok (.iload_n 1, 1) := by decide +kernel
theorem dX3_arrange_91 : decode cX3_arrange 91 = .ok (.iconst 1, 1) := by decide +kernel
theorem dX3_arrange_92 : decode cX3_arrange 92 = .ok (.isub, 1) := by decide +kernel
theorem dX3_arrange_93 : decode cX3_arrange 93 = .ok (.istore 4, 2) := by decide +kernel
theorem dX3_arrange_95 : decode cX3_arrange 95 = .ok (.iload 4, 2) := by decide +kernel
theorem dX3_arrange_97 : decode cX3_arrange 97 = .ok (.ifCond .lt 54, 3) := by decide +kernel
theorem dX3_arrange_100 : decode cX3_arrange 100 = .ok (.aload_n 0, 1) := by decide +kernel
theorem dX3_arrange_101 : decode cX3_arrange 101 = .ok (.iload 4, 2) := by decide +kernel
theorem dX3_arrange_103 : decode cX3_arrange 103 = .ok (.lload_n 2, 1) := by decide +kernel
theorem dX3_arrange_104 : decode cX3_arrange 104 = .ok (.invokevirtual 54, 3) := by decide +kernel
theorem dX3_arrange_107 : decode cX3_arrange 107 = .ok (.ifCond .eq 38, 3) := by decide +kernel
theorem dX3_arrange_110 : decode cX3_arrange 110 = .ok (.aload_n 0, 1) := by decide +kernel
theorem dX3_arrange_111 : decode cX3_arrange 111 = .ok (.getfield 27, 3) := by decide +kernel
theorem dX3_arrange_114 : decode cX3_arrange 114 = .ok (.aload_n 0, 1) := by decide +kernel
theorem dX3_arrange_115 : decode cX3_arrange 115 = .ok (.getfield 15, 3) := by decide +kernel
theorem dX3_arrange_118 : decode cX3_arrange 118 = .ok (.iload 4, 2) := by decide +kernel
theorem dX3_arrange_120 : decode cX3_arrange 120 = .ok (.iaload, 1) := by decide +kernel
theorem dX3_arrange_121 : decode cX3_arrange 121 = .ok (.dup2, 1) := by decide +kernel
theorem dX3_arrange_122 : decode cX3_arrange 122 = .ok (.iaload, 1) := by decide +kernel
theorem dX3_arrange_123 : decode cX3_arrange 123 = .ok (.iconst 1, 1) := by decide +kernel
theorem dX3_arrange_124 : decode cX3_arrange 124 = .ok (.isub, 1) := by decide +kernel
theorem dX3_arrange_125 : decode cX3_arrange 125 = .ok (.iastore, 1) := by decide +kernel
theorem dX3_arrange_126 : decode cX3_arrange 126 = .ok (.aload_n 0, 1) := by decide +kernel
theorem dX3_arrange_127 : decode cX3_arrange 127 = .ok (.getfield 24, 3) := by decide +kernel
theorem dX3_arrange_130 : decode cX3_arrange 130 = .ok (.aload_n 0, 1) := by decide +kernel
theorem dX3_arrange_131 : decode cX3_arrange 131 = .ok (.getfield 27, 3) := by decide +kernel
theorem dX3_arrange_134 : decode cX3_arrange 134 = .ok (.aload_n 0, 1) := by decide +kernel
theorem dX3_arrange_135 : decode cX3_arrange 135 = .ok (.getfield 15, 3) := by decide +kernel
theorem dX3_arrange_138 : decode cX3_arrange 138 = .ok (.iload 4, 2) := by decide +kernel
theorem dX3_arrange_140 : decode cX3_arrange 140 = .ok (.iaload, 1) := by decide +kernel
theorem dX3_arrange_141 : decode cX3_arrange 141 = .ok (.iaload, 1) := by decide +kernel
theorem dX3_arrange_142 : decode cX3_arrange 142 = .ok (.iload 4, 2) := by decide +kernel
theorem dX3_arrange_144 : decode cX3_arrange 144 = .ok (.iastore, 1) := by decide +kernel
theorem dX3_arrange_145 : decode cX3_arrange 145 = .ok (.iinc 4 (-1), 3) := by decide +kernel
theorem dX3_arrange_148 : decode cX3_arrange 148 = .ok (.goto (-53), 3) := by decide +kernel
theorem dX3_arrange_151 : decode cX3_arrange 151 = .ok (.return_, 1) := by decide +kernel
theorem dX3_weightOf_0 : decode cX3_weightOf 0 = .ok (.aload_n 0, 1) := by decide +kernel
theorem dX3_weightOf_1 : decode cX3_weightOf 1 = .ok (.iload_n 3, 1) := by decide +kernel
theorem dX3_weightOf_2 : decode cX3_weightOf 2 = .ok (.invokevirtual 44, 3) := by decide +kernel
theorem dX3_weightOf_5 : decode cX3_weightOf 5 = .ok (.lstore 4, 2) := by decide +kernel
theorem dX3_weightOf_7 : decode cX3_weightOf 7 = .ok (.iconst 0, 1) := by decide +kernel
theorem dX3_weightOf_8 : decode cX3_weightOf 8 = .ok (.istore 6, 2) := by decide +kernel
theorem dX3_weightOf_10 : decode cX3_weightOf 10 = .ok (.iconst 0, 1) := by decide +kernel
theorem dX3_weightOf_11 : decode cX3_weightOf 11 = .ok (.istore 7, 2) := by decide +kernel
theorem dX3_weightOf_13 : decode cX3_weightOf 13 = .ok (.iload 7, 2) := by decide +kernel
theorem dX3_weightOf_15 : decode cX3_weightOf 15 = .ok (.iload_n 3, 1) := by decide +kernel
theorem dX3_weightOf_16 : decode cX3_weightOf 16 = .ok (.if_icmp .ge 64, 3) := by decide +kernel
theorem dX3_weightOf_19 : decode cX3_weightOf 19 = .ok (.aload_n 0, 1) := by decide +kernel
theorem dX3_weightOf_20 : decode cX3_weightOf 20 = .ok (.getfield 9, 3) := by decide +kernel
theorem dX3_weightOf_23 : decode cX3_weightOf 23 = .ok (.iload 7, 2) := by decide +kernel
theorem dX3_weightOf_25 : decode cX3_weightOf 25 = .ok (.iaload, 1) := by decide +kernel
theorem dX3_weightOf_26 : decode cX3_weightOf 26 = .ok (.ifCond .ne 48, 3) := by decide +kernel
theorem dX3_weightOf_29 : decode cX3_weightOf 29 = .ok (.aload_n 0, 1) := by decide +kernel
theorem dX3_weightOf_30 : decode cX3_weightOf 30 = .ok (.getfield 18, 3) := by decide +kernel
theorem dX3_weightOf_33 : decode cX3_weightOf 33 = .ok (.iload 7, 2) := by decide +kernel
theorem dX3_weightOf_35 : decode cX3_weightOf 35 = .ok (.iaload, 1) := by decide +kernel
theorem dX3_weightOf_36 : decode cX3_weightOf 36 = .ok (.iload_n 1, 1) := by decide +kernel
theorem dX3_weightOf_37 : decode cX3_weightOf 37 = .ok (.if_icmp .ne 37, 3) := by decide +kernel
theorem dX3_weightOf_40 : decode cX3_weightOf 40 = .ok (.aload_n 0, 1) := by decide +kernel
theorem dX3_weightOf_41 : decode cX3_weightOf 41 = .ok (.getfield 15, 3) := by decide +kernel
theorem dX3_weightOf_44 : decode cX3_weightOf 44 = .ok (.iload 7, 2) := by decide +kernel
theorem dX3_weightOf_46 : decode cX3_weightOf 46 = .ok (.iaload, 1) := by decide +kernel
theorem dX3_weightOf_47 : decode cX3_weightOf 47 = .ok (.iload_n 2, 1) := by decide +kernel
theorem dX3_weightOf_48 : decode cX3_weightOf 48 = .ok (.if_icmp .gt 26, 3) := by decide +kernel
theorem dX3_weightOf_51 : decode cX3_weightOf 51 = .ok (.aload_n 0, 1) := by decide +kernel
theorem dX3_weightOf_52 : decode cX3_weightOf 52 = .ok (.iload 7, 2) := by decide +kernel
theorem dX3_weightOf_54 : decode cX3_weightOf 54 = .ok (.lload 4, 2) := by decide +kernel
theorem dX3_weightOf_56 : decode cX3_weightOf 56 = .ok (.invokevirtual 54, 3) := by decide +kernel
theorem dX3_weightOf_59 : decode cX3_weightOf 59 = .ok (.ifCond .eq 15, 3) := by decide +kernel
theorem dX3_weightOf_62 : decode cX3_weightOf 62 = .ok (.iload 6, 2) := by decide +kernel
theorem dX3_weightOf_64 : decode cX3_weightOf 64 = .ok (.aload_n 0, 1) := by decide +kernel
theorem dX3_weightOf_65 : decode cX3_weightOf 65 = .ok (.getfield 21, 3) := by decide +kernel
theorem dX3_weightOf_68 : decode cX3_weightOf 68 = .ok (.iload 7, 2) := by decide +kernel
theorem dX3_weightOf_70 : decode cX3_weightOf 70 = .ok (.iaload, 1) := by decide +kernel
theorem dX3_weightOf_71 : decode cX3_weightOf 71 = .ok (.iadd, 1) := by decide +kernel
theorem dX3_weightOf_72 : decode cX3_weightOf 72 = .ok (.istore 6, 2) := by decide +kernel
theorem dX3_weightOf_74 : decode cX3_weightOf 74 = .ok (.iinc 7 1, 3) := by decide +kernel
theorem dX3_weightOf_77 : decode cX3_weightOf 77 = .ok (.goto (-64), 3) := by decide +kernel
theorem dX3_weightOf_80 : decode cX3_weightOf 80 = .ok (.iload 6, 2) := by decide +kernel
theorem dX3_weightOf_82 : decode cX3_weightOf 82 = .ok (.ireturn, 1) := by decide +kernel
theorem dX3_diedBy_0 : decode cX3_diedBy 0 = .ok (.aload_n 0, 1) := by decide +kernel
theorem dX3_diedBy_1 : decode cX3_diedBy 1 = .ok (.iload_n 2, 1) := by decide +kernel
theorem dX3_diedBy_2 : decode cX3_diedBy 2 = .ok (.invokevirtual 44, 3) := by decide +kernel
theorem dX3_diedBy_5 : decode cX3_diedBy 5 = .ok (.lstore_n 3, 1) := by decide +kernel
theorem dX3_diedBy_6 : decode cX3_diedBy 6 = .ok (.iconst 0, 1) := by decide +kernel
theorem dX3_diedBy_7 : decode cX3_diedBy 7 = .ok (.istore 5, 2) := by decide +kernel
theorem dX3_diedBy_9 : decode cX3_diedBy 9 = .ok (.iconst 0, 1) := by decide +kernel
theorem dX3_diedBy_10 : decode cX3_diedBy 10 = .ok (.istore 6, 2) := by decide +kernel
theorem dX3_diedBy_12 : decode cX3_diedBy 12 = .ok (.iload 6, 2) := by decide +kernel
theorem dX3_diedBy_14 : decode cX3_diedBy 14 = .ok (.iload_n 2, 1) := by decide +kernel
theorem dX3_diedBy_15 : decode cX3_diedBy 15 = .ok (.if_icmp .ge 55, 3) := by decide +kernel
theorem dX3_diedBy_18 : decode cX3_diedBy 18 = .ok (.aload_n 0, 1) := by decide +kernel
theorem dX3_diedBy_19 : decode cX3_diedBy 19 = .ok (.getfield 9, 3) := by decide +kernel
theorem dX3_diedBy_22 : decode cX3_diedBy 22 = .ok (.iload 6, 2) := by decide +kernel
theorem dX3_diedBy_24 : decode cX3_diedBy 24 = .ok (.iaload, 1) := by decide +kernel
theorem dX3_diedBy_25 : decode cX3_diedBy 25 = .ok (.iconst 1, 1) := by decide +kernel
theorem dX3_diedBy_26 : decode cX3_diedBy 26 = .ok (.if_icmp .ne 38, 3) := by decide +kernel
theorem dX3_diedBy_29 : decode cX3_diedBy 29 = .ok (.aload_n 0, 1) := by decide +kernel
theorem dX3_diedBy_30 : decode cX3_diedBy 30 = .ok (.getfield 15, 3) := by decide +kernel
theorem dX3_diedBy_33 : decode cX3_diedBy 33 = .ok (.iload 6, 2) := by decide +kernel
theorem dX3_diedBy_35 : decode cX3_diedBy 35 = .ok (.iaload, 1) := by decide +kernel
theorem dX3_diedBy_36 : decode cX3_diedBy 36 = .ok (.iload_n 1, 1) := by decide +kernel
theorem dX3_diedBy_37 : decode cX3_diedBy 37 = .ok (.if_icmp .gt 27, 3) := by decide +kernel
theorem dX3_diedBy_40 : decode cX3_diedBy 40 = .ok (.aload_n 0, 1) := by decide +kernel
theorem dX3_diedBy_41 : decode cX3_diedBy 41 = .ok (.iload 6, 2) := by decide +kernel
theorem dX3_diedBy_43 : decode cX3_diedBy 43 = .ok (.lload_n 3, 1) := by decide +kernel
theorem dX3_diedBy_44 : decode cX3_diedBy 44 = .ok (.invokevirtual 54, 3) := by decide +kernel
theorem dX3_diedBy_47 : decode cX3_diedBy 47 = .ok (.ifCond .eq 17, 3) := by decide +kernel
theorem dX3_diedBy_50 : decode cX3_diedBy 50 = .ok (.iload 5, 2) := by decide +kernel
theorem dX3_diedBy_52 : decode cX3_diedBy 52 = .ok (.iconst 1, 1) := by decide +kernel
theorem dX3_diedBy_53 : decode cX3_diedBy 53 = .ok (.aload_n 0, 1) := by decide +kernel
theorem dX3_diedBy_54 : decode cX3_diedBy 54 = .ok (.getfield 18, 3) := by decide +kernel
theorem dX3_diedBy_57 : decode cX3_diedBy 57 = .ok (.iload 6, 2) := by decide +kernel
theorem dX3_diedBy_59 : decode cX3_diedBy 59 = .ok (.iaload, 1) := by decide +kernel
theorem dX3_diedBy_60 : decode cX3_diedBy 60 = .ok (.ishl, 1) := by decide +kernel
theorem dX3_diedBy_61 : decode cX3_diedBy 61 = .ok (.ior, 1) := by decide +kernel
theorem dX3_diedBy_62 : decode cX3_diedBy 62 = .ok (.istore 5, 2) := by decide +kernel
theorem dX3_diedBy_64 : decode cX3_diedBy 64 = .ok (.iinc 6 1, 3) := by decide +kernel
theorem dX3_diedBy_67 : decode cX3_diedBy 67 = .ok (.goto (-55), 3) := by decide +kernel
theorem dX3_diedBy_70 : decode cX3_diedBy 70 = .ok (.iload 5, 2) := by decide +kernel
theorem dX3_diedBy_72 : decode cX3_diedBy 72 = .ok (.ireturn, 1) := by decide +kernel
theorem dX4_init_0 : decode cX4_init 0 = .ok (.aload_n 0, 1) := by decide +kernel
theorem dX4_init_1 : decode cX4_init 1 = .ok (.invokespecial 1, 3) := by decide +kernel
theorem dX4_init_4 : decode cX4_init 4 = .ok (.return_, 1) := by decide +kernel
theorem dX4_become_0 : decode cX4_become 0 = .ok (.aload_n 0, 1) := by decide +kernel
theorem dX4_become_1 : decode cX4_become 1 = .ok (.aload_n 1, 1) := by decide +kernel
theorem dX4_become_2 : decode cX4_become 2 = .ok (.getfield 7, 3) := by decide +kernel
theorem dX4_become_5 : decode cX4_become 5 = .ok (.putfield 7, 3) := by decide +kernel
theorem dX4_become_8 : decode cX4_become 8 = .ok (.aload_n 0, 1) := by decide +kernel
theorem dX4_become_9 : decode cX4_become 9 = .ok (.aload_n 1, 1) := by decide +kernel
theorem dX4_become_10 : decode cX4_become 10 = .ok (.getfield 13, 3) := by decide +kernel
theorem dX4_become_13 : decode cX4_become 13 = .ok (.putfield 13, 3) := by decide +kernel
theorem dX4_become_16 : decode cX4_become 16 = .ok (.aload_n 0, 1) := by decide +kernel
theorem dX4_become_17 : decode cX4_become 17 = .ok (.aload_n 1, 1) := by decide +kernel
theorem dX4_become_18 : decode cX4_become 18 = .ok (.getfield 16, 3) := by decide +kernel
theorem dX4_become_21 : decode cX4_become 21 = .ok (.putfield 16, 3) := by decide +kernel
theorem dX4_become_24 : decode cX4_become 24 = .ok (.aload_n 0, 1) := by decide +kernel
theorem dX4_become_25 : decode cX4_become 25 = .ok (.aload_n 1, 1) := by decide +kernel
theorem dX4_become_26 : decode cX4_become 26 = .ok (.getfield 19, 3) := by decide +kernel
theorem dX4_become_29 : decode cX4_become 29 = .ok (.putfield 19, 3) := by decide +kernel
theorem dX4_become_32 : decode cX4_become 32 = .ok (.aload_n 0, 1) := by decide +kernel
theorem dX4_become_33 : decode cX4_become 33 = .ok (.aload_n 1, 1) := by decide +kernel
theorem dX4_become_34 : decode cX4_become 34 = .ok (.getfield 22, 3) := by decide +kernel
theorem dX4_become_37 : decode cX4_become 37 = .ok (.putfield 22, 3) := by decide +kernel
theorem dX4_become_40 : decode cX4_become 40 = .ok (.aload_n 0, 1) := by decide +kernel
theorem dX4_become_41 : decode cX4_become 41 = .ok (.aload_n 1, 1) := by decide +kernel
theorem dX4_become_42 : decode cX4_become 42 = .ok (.getfield 25, 3) := by decide +kernel
theorem dX4_become_45 : decode cX4_become 45 = .ok (.putfield 25, 3) := by decide +kernel
theorem dX4_become_48 : decode cX4_become 48 = .ok (.aload_n 0, 1) := by decide +kernel
theorem dX4_become_49 : decode cX4_become 49 = .ok (.aload_n 1, 1) := by decide +kernel
theorem dX4_become_50 : decode cX4_become 50 = .ok (.getfield 28, 3) := by decide +kernel
theorem dX4_become_53 : decode cX4_become 53 = .ok (.putfield 28, 3) := by decide +kernel
theorem dX4_become_56 : decode cX4_become 56 = .ok (.aload_n 0, 1) := by decide +kernel
theorem dX4_become_57 : decode cX4_become 57 = .ok (.aload_n 1, 1) := by decide +kernel
theorem dX4_become_58 : decode cX4_become 58 = .ok (.getfield 31, 3) := by decide +kernel
theorem dX4_become_61 : decode cX4_become 61 = .ok (.putfield 31, 3) := by decide +kernel
theorem dX4_become_64 : decode cX4_become 64 = .ok (.return_, 1) := by decide +kernel
theorem dX5_init_0 : decode cX5_init 0 = .ok (.aload_n 0, 1) := by decide +kernel
theorem dX5_init_1 : decode cX5_init 1 = .ok (.invokespecial 3, 3) := by decide +kernel
theorem dX5_init_4 : decode cX5_init 4 = .ok (.aload_n 0, 1) := by decide +kernel
theorem dX5_init_5 : decode cX5_init 5 = .ok (.bipush 10, 2) := by decide +kernel
theorem dX5_init_7 : decode cX5_init 7 = .ok (.newarray .long, 2) := by decide +kernel
theorem dX5_init_9 : decode cX5_init 9 = .ok (.putfield 9, 3) := by decide +kernel
theorem dX5_init_12 : decode cX5_init 12 = .ok (.aload_n 0, 1) := by decide +kernel
theorem dX5_init_13 : decode cX5_init 13 = .ok (.iconst 4, 1) := by decide +kernel
theorem dX5_init_14 : decode cX5_init 14 = .ok (.newarray .long, 2) := by decide +kernel
theorem dX5_init_16 : decode cX5_init 16 = .ok (.putfield 15, 3) := by decide +kernel
theorem dX5_init_19 : decode cX5_init 19 = .ok (.aload_n 0, 1) := by decide +kernel
theorem dX5_init_20 : decode cX5_init 20 = .ok (.bipush 10, 2) := by decide +kernel
theorem dX5_init_22 : decode cX5_init 22 = .ok (.newarray .long, 2) := by decide +kernel
theorem dX5_init_24 : decode cX5_init 24 = .ok (.putfield 18, 3) := by decide +kernel
theorem dX5_init_27 : decode cX5_init 27 = .ok (.aload_n 0, 1) := by decide +kernel
theorem dX5_init_28 : decode cX5_init 28 = .ok (.bipush 64, 2) := by decide +kernel
theorem dX5_init_30 : decode cX5_init 30 = .ok (.newarray .int, 2) := by decide +kernel
theorem dX5_init_32 : decode cX5_init 32 = .ok (.putfield 21, 3) := by decide +kernel
theorem dX5_init_35 : decode cX5_init 35 = .ok (.aload_n 0, 1) := by decide +kernel
theorem dX5_init_36 : decode cX5_init 36 = .ok (.aload_n 1, 1) := by decide +kernel
theorem dX5_init_37 : decode cX5_init 37 = .ok (.putfield 25, 3) := by decide +kernel
theorem dX5_init_40 : decode cX5_init 40 = .ok (.aload_n 0, 1) := by decide +kernel
theorem dX5_init_41 : decode cX5_init 41 = .ok (.aload_n 2, 1) := by decide +kernel
theorem dX5_init_42 : decode cX5_init 42 = .ok (.putfield 29, 3) := by decide +kernel
theorem dX5_init_45 : decode cX5_init 45 = .ok (.return_, 1) := by decide +kernel
theorem dX5_begin_0 : decode cX5_begin 0 = .ok (.aload_n 0, 1) := by decide +kernel
theorem dX5_begin_1 : decode cX5_begin 1 = .ok (.getfield 29, 3) := by decide +kernel
theorem dX5_begin_4 : decode cX5_begin 4 = .ok (.invokevirtual 33, 3) := by decide +kernel
theorem dX5_begin_7 : decode cX5_begin 7 = .ok (.aload_n 0, 1) := by decide +kernel
theorem dX5_begin_8 : decode cX5_begin 8 = .ok (.iconst 0, 1) := by decide +kernel
theorem dX5_begin_9 : decode cX5_begin 9 = .ok (.putfield 38, 3) := by decide +kernel
theorem dX5_begin_12 : decode cX5_begin 12 = .ok (.aload_n 0, 1) := by decide +kernel
theorem dX5_begin_13 : decode cX5_begin 13 = .ok (.aload_n 0, 1) := by decide +kernel
theorem dX5_begin_14 : decode cX5_begin 14 = .ok (.getfield 25, 3) := by decide +kernel
theorem dX5_begin_17 : decode cX5_begin 17 = .ok (.getfield 42, 3) := by decide +kernel
theorem dX5_begin_20 : decode cX5_begin 20 = .ok (.iconst 0, 1) := by decide +kernel
theorem dX5_begin_21 : decode cX5_begin 21 = .ok (.iaload, 1) := by decide +kernel
theorem dX5_begin_22 : decode cX5_begin 22 = .ok (.putfield 47, 3) := by decide +kernel
theorem dX5_begin_25 : decode cX5_begin 25 = .ok (.aload_n 0, 1) := by decide +kernel
theorem dX5_begin_26 : decode cX5_begin 26 = .ok (.iconst 0, 1) := by decide +kernel
theorem dX5_begin_27 : decode cX5_begin 27 = .ok (.putfield 50, 3) := by decide +kernel
theorem dX5_begin_30 : decode cX5_begin 30 = .ok (.aload_n 0, 1) := by decide +kernel
theorem dX5_begin_31 : decode cX5_begin 31 = .ok (.iconst (-1), 1) := by decide +kernel
theorem dX5_begin_32 : decode cX5_begin 32 = .ok (.putfield 53, 3) := by decide +kernel
theorem dX5_begin_35 : decode cX5_begin 35 = .ok (.return_, 1) := by decide +kernel
theorem dX5_tellAll_0 : decode cX5_tellAll 0 = .ok (.iconst 1, 1) := by decide +kernel
theorem dX5_tellAll_1 : decode cX5_tellAll 1 = .ok (.istore_n 1, 1) := by decide +kernel
theorem dX5_tellAll_2 : decode cX5_tellAll 2 = .ok (.iconst 0, 1) := by decide +kernel
theorem dX5_tellAll_3 : decode cX5_tellAll 3 = .ok (.istore_n 2, 1) := by decide +kernel
theorem dX5_tellAll_4 : decode cX5_tellAll 4 = .ok (.iload_n 2, 1) := by decide +kernel
theorem dX5_tellAll_5 : decode cX5_tellAll 5 = .ok (.sipush 400, 3) := by decide +kernel
theorem dX5_tellAll_8 : decode cX5_tellAll 8 = .ok (.if_icmp .gt 25, 3) := by decide +kernel
theorem dX5_tellAll_11 : decode cX5_tellAll 11 = .ok (.iload_n 1, 1) := by decide +kernel
theorem dX5_tellAll_12 : decode cX5_tellAll 12 = .ok (.ifCond .eq 21, 3) := by decide +kernel
theorem dX5_tellAll_15 : decode cX5_tellAll 15 = .ok (.aload_n 0, 1) := by decide +kernel
theorem dX5_tellAll_16 : decode cX5_tellAll 16 = .ok (.getfield 47, 3) := by decide +kernel
theorem dX5_tellAll_19 : decode cX5_tellAll 19 = .ok (.ifCond .eq 14, 3) := by decide +kernel
theorem dX5_tellAll_22 : decode cX5_tellAll 22 = .ok (.aload_n 0, 1) := by decide +kernel
theorem dX5_tellAll_23 : decode cX5_tellAll 23 = .ok (.invokevirtual 56, 3) := by decide +kernel
theorem dX5_tellAll_26 : decode cX5_tellAll 26 = .ok (.istore_n 1, 1) := by decide +kernel
theorem dX5_tellAll_27 : decode cX5_tellAll 27 = .ok (.iinc 2 1, 3) := by decide +kernel
theorem dX5_tellAll_30 : decode cX5_tellAll 30 = .ok (.goto (-26), 3) := by decide +kernel
theorem dX5_tellAll_33 : decode cX5_tellAll 33 = .ok (.return_, 1) := by decide +kernel
theorem dX5_tell_0 : decode cX5_tell 0 = .ok (.aload_n 0, 1) := by decide +kernel
theorem dX5_tell_1 : decode cX5_tell 1 = .ok (.getfield 47, 3) := by decide +kernel
theorem dX5_tell_4 : decode cX5_tell 4 = .ok (.tableswitch 89 16 24 #[52, 57, 62, 67, 89, 72, 77, 77, 77], 52) := by decide +kernel
theorem dX5_tell_56 : decode cX5_tell 56 = .ok (.aload_n 0, 1) := by decide +kernel
theorem dX5_tell_57 : decode cX5_tell 57 = .ok (.invokevirtual 60, 3) := by decide +kernel
theorem dX5_tell_60 : decode cX5_tell 60 = .ok (.ireturn, 1) := by decide +kernel
theorem dX5_tell_61 : decode cX5_tell 61 = .ok (.aload_n 0, 1) := by decide +kernel
theorem dX5_tell_62 : decode cX5_tell 62 = .ok (.invokevirtual 63, 3) := by decide +kernel
theorem dX5_tell_65 : decode cX5_tell 65 = .ok (.ireturn, 1) := by decide +kernel
theorem dX5_tell_66 : decode cX5_tell 66 = .ok (.aload_n 0, 1) := by decide +kernel
theorem dX5_tell_67 : decode cX5_tell 67 = .ok (.invokevirtual 66, 3) := by decide +kernel
theorem dX5_tell_70 : decode cX5_tell 70 = .ok (.ireturn, 1) := by decide +kernel
theorem dX5_tell_71 : decode cX5_tell 71 = .ok (.aload_n 0, 1) := by decide +kernel
theorem dX5_tell_72 : decode cX5_tell 72 = .ok (.invokevirtual 69, 3) := by decide +kernel
theorem dX5_tell_75 : decode cX5_tell 75 = .ok (.ireturn, 1) := by decide +kernel
theorem dX5_tell_76 : decode cX5_tell 76 = .ok (.aload_n 0, 1) := by decide +kernel
theorem dX5_tell_77 : decode cX5_tell 77 = .ok (.invokevirtual 72, 3) := by decide +kernel
theorem dX5_tell_80 : decode cX5_tell 80 = .ok (.ireturn, 1) := by decide +kernel
theorem dX5_tell_81 : decode cX5_tell 81 = .ok (.aload_n 0, 1) := by decide +kernel
theorem dX5_tell_82 : decode cX5_tell 82 = .ok (.aload_n 0, 1) := by decide +kernel
theorem dX5_tell_83 : decode cX5_tell 83 = .ok (.getfield 47, 3) := by decide +kernel
theorem dX5_tell_86 : decode cX5_tell 86 = .ok (.bipush 22, 2) := by decide +kernel
theorem dX5_tell_88 : decode cX5_tell 88 = .ok (.isub, 1) := by decide +kernel
theorem dX5_tell_89 : decode cX5_tell 89 = .ok (.invokevirtual 75, 3) := by decide +kernel
theorem dX5_tell_92 : decode cX5_tell 92 = .ok (.ireturn, 1) := by decide +kernel
theorem dX5_tell_93 : decode cX5_tell 93 = .ok (.aload_n 0, 1) := by decide +kernel
theorem dX5_tell_94 : decode cX5_tell 94 = .ok (.iconst 1, 1) := by decide +kernel
theorem dX5_tell_95 : decode cX5_tell 95 = .ok (.invokevirtual 79, 3) := by decide +kernel
theorem dX5_tell_98 : decode cX5_tell 98 = .ok (.ireturn, 1) := by decide +kernel
theorem dX5_stop_0 : decode cX5_stop 0 = .ok (.aload_n 0, 1) := by decide +kernel
theorem dX5_stop_1 : decode cX5_stop 1 = .ok (.iload_n 1, 1) := by decide +kernel
theorem dX5_stop_2 : decode cX5_stop 2 = .ok (.putfield 50, 3) := by decide +kernel
theorem dX5_stop_5 : decode cX5_stop 5 = .ok (.aload_n 0, 1) := by decide +kernel
theorem dX5_stop_6 : decode cX5_stop 6 = .ok (.aload_n 0, 1) := by decide +kernel
theorem dX5_stop_7 : decode cX5_stop 7 = .ok (.getfield 25, 3) := by decide +kernel
theorem dX5_stop_10 : decode cX5_stop 10 = .ok (.getfield 82, 3) := by decide +kernel
theorem dX5_stop_13 : decode cX5_stop 13 = .ok (.aload_n 0, 1) := by decide +kernel
theorem dX5_stop_14 : decode cX5_stop 14 = .ok (.getfield 38, 3) := by decide +kernel
theorem dX5_stop_17 : decode cX5_stop 17 = .ok (.iaload, 1) := by decide +kernel
theorem dX5_stop_18 : decode cX5_stop 18 = .ok (.putfield 53, 3) := by decide +kernel
theorem dX5_stop_21 : decode cX5_stop 21 = .ok (.iconst 0, 1) := by decide +kernel
theorem dX5_stop_22 : decode cX5_stop 22 = .ok (.ireturn, 1) := by decide +kernel
theorem dX5_take_0 : decode cX5_take 0 = .ok (.aload_n 0, 1) := by decide +kernel
theorem dX5_take_1 : decode cX5_take 1 = .ok (.getfield 47, 3) := by decide +kernel
theorem dX5_take_4 : decode cX5_take 4 = .ok (.iload_n 1, 1) := by decide +kernel
theorem dX5_take_5 : decode cX5_take 5 = .ok (.if_icmp .ne 7, 3) := by decide +kernel
theorem dX5_take_8 : decode cX5_take 8 = .ok (.iconst 1, 1) := by decide +kernel
theorem dX5_take_9 : decode cX5_take 9 = .ok (.goto 4, 3) := by decide +kernel
theorem dX5_take_12 : decode cX5_take 12 = .ok (.iconst 0, 1) := by decide +kernel
theorem dX5_take_13 : decode cX5_take 13 = .ok (.istore_n 2, 1) := by decide +kernel
theorem dX5_take_14 : decode cX5_take 14 = .ok (.iload_n 2, 1) := by decide +kernel
theorem dX5_take_15 : decode cX5_take 15 = .ok (.ifCond .eq 13, 3) := by decide +kernel
theorem dX5_take_18 : decode cX5_take 18 = .ok (.aload_n 0, 1) := by decide +kernel
theorem dX5_take_19 : decode cX5_take 19 = .ok (.getfield 38, 3) := by decide +kernel
theorem dX5_take_22 : decode cX5_take 22 = .ok (.sipush 400, 3) := by decide +kernel
theorem dX5_take_25 : decode cX5_take 25 = .ok (.if_icmp .lt 34, 3) := by decide +kernel
theorem dX5_take_28 : decode cX5_take 28 = .ok (.aload_n 0, 1) := by decide +kernel
theorem dX5_take_29 : decode cX5_take 29 = .ok (.iload_n 2, 1) := by decide +kernel
theorem dX5_take_30 : decode cX5_take 30 = .ok (.ifCond .eq 7, 3) := by decide +kernel
theorem dX5_take_33 : decode cX5_take 33 = .ok (.iconst 2, 1) := by decide +kernel
theorem dX5_take_34 : decode cX5_take 34 = .ok (.goto 4, 3) := by decide +kernel
theorem dX5_take_37 : decode cX5_take 37 = .ok (.iconst 1, 1) := by decide +kernel
theorem dX5_take_38 : decode cX5_take 38 = .ok (.putfield 50, 3) := by decide +kernel
theorem dX5_take_41 : decode cX5_take 41 = .ok (.aload_n 0, 1) := by decide +kernel
theorem dX5_take_42 : decode cX5_take 42 = .ok (.aload_n 0, 1) := by decide +kernel
theorem dX5_take_43 : decode cX5_take 43 = .ok (.getfield 25, 3) := by decide +kernel
theorem dX5_take_46 : decode cX5_take 46 = .ok (.getfield 82, 3) := by decide +kernel
theorem dX5_take_49 : decode cX5_take 49 = .ok (.aload_n 0, 1) := by decide +kernel
theorem dX5_take_50 : decode cX5_take 50 = .ok (.getfield 38, 3) := by decide +kernel
theorem dX5_take_53 : decode cX5_take 53 = .ok (.iaload, 1) := by decide +kernel
theorem dX5_take_54 : decode cX5_take 54 = .ok (.putfield 53, 3) := by decide +kernel
theorem dX5_take_57 : decode cX5_take 57 = .ok (.iconst 0, 1) := by decide +kernel
theorem dX5_take_58 : decode cX5_take 58 = .ok (.ireturn, 1) := by decide +kernel
theorem dX5_take_59 : decode cX5_take 59 = .ok (.aload_n 0, 1) := by decide +kernel
theorem dX5_take_60 : decode cX5_take 60 = .ok (.dup, 1) := by decide +kernel
theorem dX5_take_61 : decode cX5_take 61 = .ok (.getfield 38, 3) := by decide +kernel
theorem dX5_take_64 : decode cX5_take 64 = .ok (.iconst 1, 1) := by decide +kernel
theorem dX5_take_65 : decode cX5_take 65 = .ok (.iadd, 1) := by decide +kernel
theorem dX5_take_66 : decode cX5_take 66 = .ok (.putfield 38, 3) := by decide +kernel
theorem dX5_take_69 : decode cX5_take 69 = .ok (.aload_n 0, 1) := by decide +kernel
theorem dX5_take_70 : decode cX5_take 70 = .ok (.aload_n 0, 1) := by decide +kernel
theorem dX5_take_71 : decode cX5_take 71 = .ok (.getfield 25, 3) := by decide +kernel
theorem dX5_take_74 : decode cX5_take 74 = .ok (.getfield 42, 3) := by decide +kernel
theorem dX5_take_77 : decode cX5_take 77 = .ok (.aload_n 0, 1) := by decide +kernel
theorem dX5_take_78 : decode cX5_take 78 = .ok (.getfield 38, 3) := by decide +kernel
theorem dX5_take_81 : decode cX5_take 81 = .ok (.iaload, 1) := by decide +kernel
theorem dX5_take_82 : decode cX5_take 82 = .ok (.putfield 47, 3) := by decide +kernel
theorem dX5_take_85 : decode cX5_take 85 = .ok (.iconst 1, 1) := by decide +kernel
theorem dX5_take_86 : decode cX5_take 86 = .ok (.ireturn, 1) := by decide +kernel
theorem dX5_mark_0 : decode cX5_mark 0 = .ok (.aload_n 0, 1) := by decide +kernel
theorem dX5_mark_1 : decode cX5_mark 1 = .ok (.getfield 25, 3) := by decide +kernel
theorem dX5_mark_4 : decode cX5_mark 4 = .ok (.getfield 82, 3) := by decide +kernel
theorem dX5_mark_7 : decode cX5_mark 7 = .ok (.iload_n 2, 1) := by decide +kernel
theorem dX5_mark_8 : decode cX5_mark 8 = .ok (.iaload, 1) := by decide +kernel
theorem dX5_mark_9 : decode cX5_mark 9 = .ok (.istore_n 3, 1) := by decide +kernel
theorem dX5_mark_10 : decode cX5_mark 10 = .ok (.aload_n 0, 1) := by decide +kernel
theorem dX5_mark_11 : decode cX5_mark 11 = .ok (.getfield 50, 3) := by decide +kernel
theorem dX5_mark_14 : decode cX5_mark 14 = .ok (.ifCond .eq 27, 3) := by decide +kernel
theorem dX5_mark_17 : decode cX5_mark 17 = .ok (.iload_n 3, 1) := by decide +kernel
theorem dX5_mark_18 : decode cX5_mark 18 = .ok (.aload_n 0, 1) := by decide +kernel
theorem dX5_mark_19 : decode cX5_mark 19 = .ok (.getfield 53, 3) := by decide +kernel
theorem dX5_mark_22 : decode cX5_mark 22 = .ok (.if_icmp .lt 19, 3) := by decide +kernel
theorem dX5_mark_25 : decode cX5_mark 25 = .ok (.iload_n 3, 1) := by decide +kernel
theorem dX5_mark_26 : decode cX5_mark 26 = .ok (.aload_n 0, 1) := by decide +kernel
theorem dX5_mark_27 : decode cX5_mark 27 = .ok (.getfield 53, 3) := by decide +kernel
theorem dX5_mark_30 : decode cX5_mark 30 = .ok (.if_icmp .ne 21, 3) := by decide +kernel
theorem dX5_mark_33 : decode cX5_mark 33 = .ok (.iload_n 1, 1) := by decide +kernel
theorem dX5_mark_34 : decode cX5_mark 34 = .ok (.aload_n 0, 1) := by decide +kernel
theorem dX5_mark_35 : decode cX5_mark 35 = .ok (.getfield 50, 3) := by decide +kernel
theorem dX5_mark_38 : decode cX5_mark 38 = .ok (.if_icmp .ge 13, 3) := by decide +kernel
theorem dX5_mark_41 : decode cX5_mark 41 = .ok (.aload_n 0, 1) := by decide +kernel
theorem dX5_mark_42 : decode cX5_mark 42 = .ok (.iload_n 1, 1) := by decide +kernel
theorem dX5_mark_43 : decode cX5_mark 43 = .ok (.putfield 50, 3) := by decide +kernel
theorem dX5_mark_46 : decode cX5_mark 46 = .ok (.aload_n 0, 1) := by decide +kernel
theorem dX5_mark_47 : decode cX5_mark 47 = .ok (.iload_n 3, 1) := by decide +kernel
theorem dX5_mark_48 : decode cX5_mark 48 = .ok (.putfield 53, 3) := by decide +kernel
theorem dX5_mark_51 : decode cX5_mark 51 = .ok (.return_, 1) := by decide +kernel
theorem dX5_find_0 : decode cX5_find 0 = .ok (.iconst 0, 1) := by decide +kernel
theorem dX5_find_1 : decode cX5_find 1 = .ok (.istore 4, 2) := by decide +kernel
theorem dX5_find_3 : decode cX5_find 3 = .ok (.iload 4, 2) := by decide +kernel
theorem dX5_find_5 : decode cX5_find 5 = .ok (.iload_n 1, 1) := by decide +kernel
theorem dX5_find_6 : decode cX5_find 6 = .ok (.if_icmp .ge 28, 3) := by decide +kernel
theorem dX5_find_9 : decode cX5_find 9 = .ok (.iload 4, 2) := by decide +kernel
theorem dX5_find_11 : decode cX5_find 11 = .ok (.aload_n 0, 1) := by decide +kernel
theorem dX5_find_12 : decode cX5_find 12 = .ok (.arraylength, 1) := by decide +kernel
theorem dX5_find_13 : decode cX5_find 13 = .ok (.if_icmp .ge 21, 3) := by decide +kernel
theorem dX5_find_16 : decode cX5_find 16 = .ok (.aload_n 0, 1) := by decide +kernel
theorem dX5_find_17 : decode cX5_find 17 = .ok (.iload 4, 2) := by decide +kernel
theorem dX5_find_19 : decode cX5_find 19 = .ok (.laload, 1) := by decide +kernel
theorem dX5_find_20 : decode cX5_find 20 = .ok (.lload_n 2, 1) := by decide +kernel
theorem dX5_find_21 : decode cX5_find 21 = .ok (.lcmp, 1) := by decide +kernel
theorem dX5_find_22 : decode cX5_find 22 = .ok (.ifCond .ne 6, 3) := by decide +kernel
theorem dX5_find_25 : decode cX5_find 25 = .ok (.iload 4, 2) := by decide +kernel
theorem dX5_find_27 : decode cX5_find 27 = .ok (.ireturn, 1) := by decide +kernel
theorem dX5_find_28 : decode cX5_find 28 = .ok (.iinc 4 1, 3) := by decide +kernel
theorem dX5_find_31 : decode cX5_find 31 = .ok (.goto (-28), 3) := by decide +kernel
theorem dX5_find_34 : decode cX5_find 34 = .ok (.iconst (-1), 1) := by decide +kernel
theorem dX5_find_35 : decode cX5_find 35 = .ok (.ireturn, 1) := by decide +kernel
theorem dX5_takeNewName_0 : decode cX5_takeNewName 0 = .ok (.aload_n 0, 1) := by decide +kernel
theorem dX5_takeNewName_1 : decode cX5_takeNewName 1 = .ok (.getfield 25, 3) := by decide +kernel
theorem dX5_takeNewName_4 : decode cX5_takeNewName 4 = .ok (.getfield 85, 3) := by decide +kernel
theorem dX5_takeNewName_7 : decode cX5_takeNewName 7 = .ok (.aload_n 0, 1) := by decide +kernel
theorem dX5_takeNewName_8 : decode cX5_takeNewName 8 = .ok (.getfield 38, 3) := by decide +kernel
theorem dX5_takeNewName_11 : decode cX5_takeNewName 11 = .ok (.laload, 1) := by decide +kernel
theorem dX5_takeNewName_12 : decode cX5_takeNewName 12 = .ok (.lstore_n 3, 1) := by decide +kernel
theorem dX5_takeNewName_13 : decode cX5_takeNewName 13 = .ok (.aload_n 0, 1) := by decide +kernel
theorem dX5_takeNewName_14 : decode cX5_takeNewName 14 = .ok (.getfield 38, 3) := by decide +kernel
theorem dX5_takeNewName_17 : decode cX5_takeNewName 17 = .ok (.istore 5, 2) := by decide +kernel
theorem dX5_takeNewName_19 : decode cX5_takeNewName 19 = .ok (.aload_n 0, 1) := by decide +kernel
theorem dX5_takeNewName_20 : decode cX5_takeNewName 20 = .ok (.iconst 2, 1) := by decide +kernel
theorem dX5_takeNewName_21 : decode cX5_takeNewName 21 = .ok (.invokevirtual 88, 3) := by decide +kernel
theorem dX5_takeNewName_24 : decode cX5_takeNewName 24 = .ok (.ifCond .ne 5, 3) := by decide +kernel
theorem dX5_takeNewName_27 : decode cX5_takeNewName 27 = .ok (.iconst 0, 1) := by decide +kernel
theorem dX5_takeNewName_28 : decode cX5_takeNewName 28 = .ok (.ireturn, 1) := by decide +kernel
theorem dX5_takeNewName_29 : decode cX5_takeNewName 29 = .ok (.aload_n 0, 1) := by decide +kernel
theorem dX5_takeNewName_30 : decode cX5_takeNewName 30 = .ok (.getfield 9, 3) := by decide +kernel
theorem dX5_takeNewName_33 : decode cX5_takeNewName 33 = .ok (.aload_n 0, 1) := by decide +kernel
theorem dX5_takeNewName_34 : decode cX5_takeNewName 34 = .ok (.getfield 29, 3) := by decide +kernel
theorem dX5_takeNewName_37 : decode cX5_takeNewName 37 = .ok (.getfield 91, 3) := by decide +kernel
theorem dX5_takeNewName_40 : decode cX5_takeNewName 40 = .ok (.lload_n 3, 1) := by decide +kernel
theorem dX5_takeNewName_41 : decode cX5_takeNewName 41 = .ok (.invokestatic 94, 3) := by decide +kernel
theorem dX5_takeNewName_44 : decode cX5_takeNewName 44 = .ok (.ifCond .ge 39, 3) := by decide +kernel
theorem dX5_takeNewName_47 : decode cX5_takeNewName 47 = .ok (.aload_n 0, 1) := by decide +kernel
theorem dX5_takeNewName_48 : decode cX5_takeNewName 48 = .ok (.getfield 15, 3) := by decide +kernel
theorem dX5_takeNewName_51 : decode cX5_takeNewName 51 = .ok (.aload_n 0, 1) := by decide +kernel
theorem dX5_takeNewName_52 : decode cX5_takeNewName 52 = .ok (.getfield 29, 3) := by decide +kernel
theorem dX5_takeNewName_55 : decode cX5_takeNewName 55 = .ok (.getfield 98, 3) := by decide +kernel
theorem dX5_takeNewName_58 : decode cX5_takeNewName 58 = .ok (.lload_n 3, 1) := by decide +kernel
theorem dX5_takeNewName_59 : decode cX5_takeNewName 59 = .ok (.invokestatic 94, 3) := by decide +kernel
theorem dX5_takeNewName_62 : decode cX5_takeNewName 62 = .ok (.ifCond .ge 21, 3) := by decide +kernel
theorem dX5_takeNewName_65 : decode cX5_takeNewName 65 = .ok (.aload_n 0, 1) := by decide +kernel
theorem dX5_takeNewName_66 : decode cX5_takeNewName 66 = .ok (.getfield 18, 3) := by decide +kernel
theorem dX5_takeNewName_69 : decode cX5_takeNewName 69 = .ok (.aload_n 0, 1) := by decide +kernel
theorem dX5_takeNewName_70 : decode cX5_takeNewName 70 = .ok (.getfield 29, 3) := by decide +kernel
theorem dX5_takeNewName_73 : decode cX5_takeNewName 73 = .ok (.getfield 101, 3) := by decide +kernel
theorem dX5_takeNewName_76 : decode cX5_takeNewName 76 = .ok (.lload_n 3, 1) := by decide +kernel
theorem dX5_takeNewName_77 : decode cX5_takeNewName 77 = .ok (.invokestatic 94, 3) := by decide +kernel
theorem dX5_takeNewName_80 : decode cX5_takeNewName 80 = .ok (.ifCond .lt 7, 3) := by decide +kernel
theorem dX5_takeNewName_83 : decode cX5_takeNewName 83 = .ok (.iconst 1, 1) := by decide +kernel
theorem dX5_takeNewName_84 : decode cX5_takeNewName 84 = .ok (.goto 4, 3) := by decide +kernel
theorem dX5_takeNewName_87 : decode cX5_takeNewName 87 = .ok (.iconst 0, 1) := by decide +kernel
theorem dX5_takeNewName_88 : decode cX5_takeNewName 88 = .ok (.istore 6, 2) := by decide +kernel
theorem dX5_takeNewName_90 : decode cX5_takeNewName 90 = .ok (.iload 6, 2) := by decide +kernel
theorem dX5_takeNewName_92 : decode cX5_takeNewName 92 = .ok (.ifCond .eq 10, 3) := by decide +kernel
theorem dX5_takeNewName_95 : decode cX5_takeNewName 95 = .ok (.aload_n 0, 1) := by decide +kernel
theorem dX5_takeNewName_96 : decode cX5_takeNewName 96 = .ok (.iconst 3, 1) := by decide +kernel
theorem dX5_takeNewName_97 : decode cX5_takeNewName 97 = .ok (.iload 5, 2) := by decide +kernel
theorem dX5_takeNewName_99 : decode cX5_takeNewName 99 = .ok (.invokevirtual 104, 3) := by decide +kernel
theorem dX5_takeNewName_102 : decode cX5_takeNewName 102 = .ok (.iload_n 2, 1) := by decide +kernel
theorem dX5_takeNewName_103 : decode cX5_takeNewName 103 = .ok (.aload_n 1, 1) := by decide +kernel
theorem dX5_takeNewName_104 : decode cX5_takeNewName 104 = .ok (.arraylength, 1) := by decide +kernel
theorem dX5_takeNewName_105 : decode cX5_takeNewName 105 = .ok (.if_icmp .ge 7, 3) := by decide +kernel
theorem dX5_takeNewName_108 : decode cX5_takeNewName 108 = .ok (.aload_n 1, 1) := by decide +kernel
theorem dX5_takeNewName_109 : decode cX5_takeNewName 109 = .ok (.iload_n 2, 1) := by decide +kernel
theorem dX5_takeNewName_110 : decode cX5_takeNewName 110 = .ok (.lload_n 3, 1) := by decide +kernel
theorem dX5_takeNewName_111 : decode cX5_takeNewName 111 = .ok (.lastore, 1) := by decide +kernel
theorem dX5_takeNewName_112 : decode cX5_takeNewName 112 = .ok (.iconst 1, 1) := by decide +kernel
theorem dX5_takeNewName_113 : decode cX5_takeNewName 113 = .ok (.ireturn, 1) := by decide +kernel
theorem dX5_takeTold_0 : decode cX5_takeTold 0 = .ok (.aload_n 0, 1) := by decide +kernel
theorem dX5_takeTold_1 : decode cX5_takeTold 1 = .ok (.getfield 25, 3) := by decide +kernel
theorem dX5_takeTold_4 : decode cX5_takeTold 4 = .ok (.getfield 85, 3) := by decide +kernel
theorem dX5_takeTold_7 : decode cX5_takeTold 7 = .ok (.aload_n 0, 1) := by decide +kernel
theorem dX5_takeTold_8 : decode cX5_takeTold 8 = .ok (.getfield 38, 3) := by decide +kernel
theorem dX5_takeTold_11 : decode cX5_takeTold 11 = .ok (.laload, 1) := by decide +kernel
theorem dX5_takeTold_12 : decode cX5_takeTold 12 = .ok (.lstore_n 3, 1) := by decide +kernel
theorem dX5_takeTold_13 : decode cX5_takeTold 13 = .ok (.aload_n 0, 1) := by decide +kernel
theorem dX5_takeTold_14 : decode cX5_takeTold 14 = .ok (.getfield 38, 3) := by decide +kernel
theorem dX5_takeTold_17 : decode cX5_takeTold 17 = .ok (.istore 5, 2) := by decide +kernel
theorem dX5_takeTold_19 : decode cX5_takeTold 19 = .ok (.aload_n 0, 1) := by decide +kernel
theorem dX5_takeTold_20 : decode cX5_takeTold 20 = .ok (.iconst 2, 1) := by decide +kernel
theorem dX5_takeTold_21 : decode cX5_takeTold 21 = .ok (.invokevirtual 88, 3) := by decide +kernel
theorem dX5_takeTold_24 : decode cX5_takeTold 24 = .ok (.ifCond .ne 5, 3) := by decide +kernel
theorem dX5_takeTold_27 : decode cX5_takeTold 27 = .ok (.iconst (-1), 1) := by decide +kernel
theorem dX5_takeTold_28 : decode cX5_takeTold 28 = .ok (.ireturn, 1) := by decide +kernel
theorem dX5_takeTold_29 : decode cX5_takeTold 29 = .ok (.aload_n 1, 1) := by decide +kernel
theorem dX5_takeTold_30 : decode cX5_takeTold 30 = .ok (.iload_n 2, 1) := by decide +kernel
theorem dX5_takeTold_31 : decode cX5_takeTold 31 = .ok (.lload_n 3, 1) := by decide +kernel
theorem dX5_takeTold_32 : decode cX5_takeTold 32 = .ok (.invokestatic 94, 3) := by decide +kernel
theorem dX5_takeTold_35 : decode cX5_takeTold 35 = .ok (.istore 6, 2) := by decide +kernel
theorem dX5_takeTold_37 : decode cX5_takeTold 37 = .ok (.iload 6, 2) := by decide +kernel
theorem dX5_takeTold_39 : decode cX5_takeTold 39 = .ok (.ifCond .ge 12, 3) := by decide +kernel
theorem dX5_takeTold_42 : decode cX5_takeTold 42 = .ok (.aload_n 0, 1) := by decide +kernel
theorem dX5_takeTold_43 : decode cX5_takeTold 43 = .ok (.iconst 4, 1) := by decide +kernel
theorem dX5_takeTold_44 : decode cX5_takeTold 44 = .ok (.iload 5, 2) := by decide +kernel
theorem dX5_takeTold_46 : decode cX5_takeTold 46 = .ok (.invokevirtual 104, 3) := by decide +kernel
theorem dX5_takeTold_49 : decode cX5_takeTold 49 = .ok (.iconst 0, 1) := by decide +kernel
theorem dX5_takeTold_50 : decode cX5_takeTold 50 = .ok (.ireturn, 1) := by decide +kernel
theorem dX5_takeTold_51 : decode cX5_takeTold 51 = .ok (.iload 6, 2) := by decide +kernel
theorem dX5_takeTold_53 : decode cX5_takeTold 53 = .ok (.ireturn, 1) := by decide +kernel
theorem dX5_takeInt_0 : decode cX5_takeInt 0 = .ok (.aload_n 0, 1) := by decide +kernel
theorem dX5_takeInt_1 : decode cX5_takeInt 1 = .ok (.getfield 25, 3) := by decide +kernel
theorem dX5_takeInt_4 : decode cX5_takeInt 4 = .ok (.getfield 85, 3) := by decide +kernel
theorem dX5_takeInt_7 : decode cX5_takeInt 7 = .ok (.aload_n 0, 1) := by decide +kernel
theorem dX5_takeInt_8 : decode cX5_takeInt 8 = .ok (.getfield 38, 3) := by decide +kernel
theorem dX5_takeInt_11 : decode cX5_takeInt 11 = .ok (.laload, 1) := by decide +kernel
theorem dX5_takeInt_12 : decode cX5_takeInt 12 = .ok (.l2i, 1) := by decide +kernel
theorem dX5_takeInt_13 : decode cX5_takeInt 13 = .ok (.istore_n 3, 1) := by decide +kernel
theorem dX5_takeInt_14 : decode cX5_takeInt 14 = .ok (.aload_n 0, 1) := by decide +kernel
theorem dX5_takeInt_15 : decode cX5_takeInt 15 = .ok (.getfield 38, 3) := by decide +kernel
theorem dX5_takeInt_18 : decode cX5_takeInt 18 = .ok (.istore 4, 2) := by decide +kernel
theorem dX5_takeInt_20 : decode cX5_takeInt 20 = .ok (.aload_n 0, 1) := by decide +kernel
theorem dX5_takeInt_21 : decode cX5_takeInt 21 = .ok (.iconst 3, 1) := by decide +kernel
theorem dX5_takeInt_22 : decode cX5_takeInt 22 = .ok (.invokevirtual 88, 3) := by decide +kernel
theorem dX5_takeInt_25 : decode cX5_takeInt 25 = .ok (.ifCond .ne 5, 3) := by decide +kernel
theorem dX5_takeInt_28 : decode cX5_takeInt 28 = .ok (.iconst (-1), 1) := by decide +kernel
theorem dX5_takeInt_29 : decode cX5_takeInt 29 = .ok (.ireturn, 1) := by decide +kernel
theorem dX5_takeInt_30 : decode cX5_takeInt 30 = .ok (.iload_n 3, 1) := by decide +kernel
theorem dX5_takeInt_31 : decode cX5_takeInt 31 = .ok (.iload_n 1, 1) := by decide +kernel
theorem dX5_takeInt_32 : decode cX5_takeInt 32 = .ok (.iload_n 2, 1) := by decide +kernel
theorem dX5_takeInt_33 : decode cX5_takeInt 33 = .ok (.invokestatic 108, 3) := by decide +kernel
theorem dX5_takeInt_36 : decode cX5_takeInt 36 = .ok (.ifCond .ne 10, 3) := by decide +kernel
theorem dX5_takeInt_39 : decode cX5_takeInt 39 = .ok (.aload_n 0, 1) := by decide +kernel
theorem dX5_takeInt_40 : decode cX5_takeInt 40 = .ok (.iconst 5, 1) := by decide +kernel
theorem dX5_takeInt_41 : decode cX5_takeInt 41 = .ok (.iload 4, 2) := by decide +kernel
theorem dX5_takeInt_43 : decode cX5_takeInt 43 = .ok (.invokevirtual 104, 3) := by decide +kernel
theorem dX5_takeInt_46 : decode cX5_takeInt 46 = .ok (.iload_n 3, 1) := by decide +kernel
theorem dX5_takeInt_47 : decode cX5_takeInt 47 = .ok (.ireturn, 1) := by decide +kernel
theorem dX5_tellPerson_0 : decode cX5_tellPerson 0 = .ok (.aload_n 0, 1) := by decide +kernel
theorem dX5_tellPerson_1 : decode cX5_tellPerson 1 = .ok (.getfield 29, 3) := by decide +kernel
theorem dX5_tellPerson_4 : decode cX5_tellPerson 4 = .ok (.getfield 91, 3) := by decide +kernel
theorem dX5_tellPerson_7 : decode cX5_tellPerson 7 = .ok (.bipush 10, 2) := by decide +kernel
theorem dX5_tellPerson_9 : decode cX5_tellPerson 9 = .ok (.if_icmp .lt 9, 3) := by decide +kernel
theorem dX5_tellPerson_12 : decode cX5_tellPerson 12 = .ok (.aload_n 0, 1) := by decide +kernel
theorem dX5_tellPerson_13 : decode cX5_tellPerson 13 = .ok (.iconst 2, 1) := by decide +kernel
theorem dX5_tellPerson_14 : decode cX5_tellPerson 14 = .ok (.invokevirtual 79, 3) := by decide +kernel
theorem dX5_tellPerson_17 : decode cX5_tellPerson 17 = .ok (.ireturn, 1) := by decide +kernel
theorem dX5_tellPerson_18 : decode cX5_tellPerson 18 = .ok (.aload_n 0, 1) := by decide +kernel
theorem dX5_tellPerson_19 : decode cX5_tellPerson 19 = .ok (.bipush 16, 2) := by decide +kernel
theorem dX5_tellPerson_21 : decode cX5_tellPerson 21 = .ok (.invokevirtual 88, 3) := by decide +kernel
theorem dX5_tellPerson_24 : decode cX5_tellPerson 24 = .ok (.ifCond .eq 21, 3) := by decide +kernel
theorem dX5_tellPerson_27 : decode cX5_tellPerson 27 = .ok (.aload_n 0, 1) := by decide +kernel
theorem dX5_tellPerson_28 : decode cX5_tellPerson 28 = .ok (.aload_n 0, 1) := by decide +kernel
theorem dX5_tellPerson_29 : decode cX5_tellPerson 29 = .ok (.getfield 9, 3) := by decide +kernel
theorem dX5_tellPerson_32 : decode cX5_tellPerson 32 = .ok (.aload_n 0, 1) := by decide +kernel
theorem dX5_tellPerson_33 : decode cX5_tellPerson 33 = .ok (.getfield 29, 3) := by decide +kernel
theorem dX5_tellPerson_36 : decode cX5_tellPerson 36 = .ok (.getfield 91, 3) := by decide +kernel
theorem dX5_tellPerson_39 : decode cX5_tellPerson 39 = .ok (.invokevirtual 112, 3) := by decide +kernel
theorem dX5_tellPerson_42 : decode cX5_tellPerson 42 = .ok (.ifCond .ne 5, 3) := by decide +kernel
theorem dX5_tellPerson_45 : decode cX5_tellPerson 45 = .ok (.iconst 0, 1) := by decide +kernel
theorem dX5_tellPerson_46 : decode cX5_tellPerson 46 = .ok (.ireturn, 1) := by decide +kernel
theorem dX5_tellPerson_47 : decode cX5_tellPerson 47 = .ok (.aload_n 0, 1) := by decide +kernel
theorem dX5_tellPerson_48 : decode cX5_tellPerson 48 = .ok (.iconst 0, 1) := by decide +kernel
theorem dX5_tellPerson_49 : decode cX5_tellPerson 49 = .ok (.bipush 99, 2) := by decide +kernel
theorem dX5_tellPerson_51 : decode cX5_tellPerson 51 = .ok (.invokevirtual 116, 3) := by decide +kernel
theorem dX5_tellPerson_54 : decode cX5_tellPerson 54 = .ok (.istore_n 1, 1) := by decide +kernel
theorem dX5_tellPerson_55 : decode cX5_tellPerson 55 = .ok (.aload_n 0, 1) := by decide +kernel
theorem dX5_tellPerson_56 : decode cX5_tellPerson 56 = .ok (.getfield 29, 3) := by decide +kernel
theorem dX5_tellPerson_59 : decode cX5_tellPerson 59 = .ok (.getfield 120, 3) := by decide +kernel
theorem dX5_tellPerson_62 : decode cX5_tellPerson 62 = .ok (.aload_n 0, 1) := by decide +kernel
theorem dX5_tellPerson_63 : decode cX5_tellPerson 63 = .ok (.getfield 29, 3) := by decide +kernel
theorem dX5_tellPerson_66 : decode cX5_tellPerson 66 = .ok (.getfield 91, 3) := by decide +kernel
theorem dX5_tellPerson_69 : decode cX5_tellPerson 69 = .ok (.iload_n 1, 1) := by decide +kernel
theorem dX5_tellPerson_70 : decode cX5_tellPerson 70 = .ok (.iastore, 1) := by decide +kernel
theorem dX5_tellPerson_71 : decode cX5_tellPerson 71 = .ok (.aload_n 0, 1) := by decide +kernel
theorem dX5_tellPerson_72 : decode cX5_tellPerson 72 = .ok (.getfield 29, 3) := by decide +kernel
theorem dX5_tellPerson_75 : decode cX5_tellPerson 75 = .ok (.dup, 1) := by decide +kernel
theorem dX5_tellPerson_76 : decode cX5_tellPerson 76 = .ok (.getfield 91, 3) := by decide +kernel
theorem dX5_tellPerson_79 : decode cX5_tellPerson 79 = .ok (.iconst 1, 1) := by decide +kernel
theorem dX5_tellPerson_80 : decode cX5_tellPerson 80 = .ok (.iadd, 1) := by decide +kernel
theorem dX5_tellPerson_81 : decode cX5_tellPerson 81 = .ok (.putfield 91, 3) := by decide +kernel
theorem dX5_tellPerson_84 : decode cX5_tellPerson 84 = .ok (.iload_n 1, 1) := by decide +kernel
theorem dX5_tellPerson_85 : decode cX5_tellPerson 85 = .ok (.ifCond .lt 15, 3) := by decide +kernel
theorem dX5_tellPerson_88 : decode cX5_tellPerson 88 = .ok (.aload_n 0, 1) := by decide +kernel
theorem dX5_tellPerson_89 : decode cX5_tellPerson 89 = .ok (.iconst 4, 1) := by decide +kernel
theorem dX5_tellPerson_90 : decode cX5_tellPerson 90 = .ok (.invokevirtual 88, 3) := by decide +kernel
theorem dX5_tellPerson_93 : decode cX5_tellPerson 93 = .ok (.ifCond .eq 7, 3) := by decide +kernel
theorem dX5_tellPerson_96 : decode cX5_tellPerson 96 = .ok (.iconst 1, 1) := by decide +kernel
theorem dX5_tellPerson_97 : decode cX5_tellPerson 97 = .ok (.goto 4, 3) := by decide +kernel
theorem dX5_tellPerson_100 : decode cX5_tellPerson 100 = .ok (.iconst 0, 1) := by decide +kernel
theorem dX5_tellPerson_101 : decode cX5_tellPerson 101 = .ok (.ireturn, 1) := by decide +kernel
theorem dX5_tellClerk_0 : decode cX5_tellClerk 0 = .ok (.aload_n 0, 1) := by decide +kernel
theorem dX5_tellClerk_1 : decode cX5_tellClerk 1 = .ok (.getfield 29, 3) := by decide +kernel
theorem dX5_tellClerk_4 : decode cX5_tellClerk 4 = .ok (.getfield 98, 3) := by decide +kernel
theorem dX5_tellClerk_7 : decode cX5_tellClerk 7 = .ok (.iconst 4, 1) := by decide +kernel
theorem dX5_tellClerk_8 : decode cX5_tellClerk 8 = .ok (.if_icmp .lt 9, 3) := by decide +kernel
theorem dX5_tellClerk_11 : decode cX5_tellClerk 11 = .ok (.aload_n 0, 1) := by decide +kernel
theorem dX5_tellClerk_12 : decode cX5_tellClerk 12 = .ok (.iconst 2, 1) := by decide +kernel
theorem dX5_tellClerk_13 : decode cX5_tellClerk 13 = .ok (.invokevirtual 79, 3) := by decide +kernel
theorem dX5_tellClerk_16 : decode cX5_tellClerk 16 = .ok (.ireturn, 1) := by decide +kernel
theorem dX5_tellClerk_17 : decode cX5_tellClerk 17 = .ok (.aload_n 0, 1) := by decide +kernel
theorem dX5_tellClerk_18 : decode cX5_tellClerk 18 = .ok (.bipush 17, 2) := by decide +kernel
theorem dX5_tellClerk_20 : decode cX5_tellClerk 20 = .ok (.invokevirtual 88, 3) := by decide +kernel
theorem dX5_tellClerk_23 : decode cX5_tellClerk 23 = .ok (.ifCond .eq 21, 3) := by decide +kernel
theorem dX5_tellClerk_26 : decode cX5_tellClerk 26 = .ok (.aload_n 0, 1) := by decide +kernel
theorem dX5_tellClerk_27 : decode cX5_tellClerk 27 = .ok (.aload_n 0, 1) := by decide +kernel
theorem dX5_tellClerk_28 : decode cX5_tellClerk 28 = .ok (.getfield 15, 3) := by decide +kernel
theorem dX5_tellClerk_31 : decode cX5_tellClerk 31 = .ok (.aload_n 0, 1) := by decide +kernel
theorem dX5_tellClerk_32 : decode cX5_tellClerk 32 = .ok (.getfield 29, 3) := by decide +kernel
theorem dX5_tellClerk_35 : decode cX5_tellClerk 35 = .ok (.getfield 98, 3) := by decide +kernel
theorem dX5_tellClerk_38 : decode cX5_tellClerk 38 = .ok (.invokevirtual 112, 3) := by decide +kernel
theorem dX5_tellClerk_41 : decode cX5_tellClerk 41 = .ok (.ifCond .ne 5, 3) := by decide +kernel
theorem dX5_tellClerk_44 : decode cX5_tellClerk 44 = .ok (.iconst 0, 1) := by decide +kernel
theorem dX5_tellClerk_45 : decode cX5_tellClerk 45 = .ok (.ireturn, 1) := by decide +kernel
theorem dX5_tellClerk_46 : decode cX5_tellClerk 46 = .ok (.aload_n 0, 1) := by decide +kernel
theorem dX5_tellClerk_47 : decode cX5_tellClerk 47 = .ok (.getfield 29, 3) := by decide +kernel
theorem dX5_tellClerk_50 : decode cX5_tellClerk 50 = .ok (.dup, 1) := by decide +kernel
theorem dX5_tellClerk_51 : decode cX5_tellClerk 51 = .ok (.getfield 98, 3) := by decide +kernel
theorem dX5_tellClerk_54 : decode cX5_tellClerk 54 = .ok (.iconst 1, 1) := by decide +kernel
theorem dX5_tellClerk_55 : decode cX5_tellClerk 55 = .ok (.iadd, 1) := by decide +kernel
theorem dX5_tellClerk_56 : decode cX5_tellClerk 56 = .ok (.putfield 98, 3) := by decide +kernel
theorem dX5_tellClerk_59 : decode cX5_tellClerk 59 = .ok (.aload_n 0, 1) := by decide +kernel
theorem dX5_tellClerk_60 : decode cX5_tellClerk 60 = .ok (.iconst 4, 1) := by decide +kernel
theorem dX5_tellClerk_61 : decode cX5_tellClerk 61 = .ok (.invokevirtual 88, 3) := by decide +kernel
theorem dX5_tellClerk_64 : decode cX5_tellClerk 64 = .ok (.ireturn, 1) := by decide +kernel
theorem dX5_tellBarred_0 : decode cX5_tellBarred 0 = .ok (.aload_n 0, 1) := by decide +kernel
theorem dX5_tellBarred_1 : decode cX5_tellBarred 1 = .ok (.getfield 29, 3) := by decide +kernel
theorem dX5_tellBarred_4 : decode cX5_tellBarred 4 = .ok (.getfield 123, 3) := by decide +kernel
theorem dX5_tellBarred_7 : decode cX5_tellBarred 7 = .ok (.bipush 12, 2) := by decide +kernel
theorem dX5_tellBarred_9 : decode cX5_tellBarred 9 = .ok (.if_icmp .lt 9, 3) := by decide +kernel
theorem dX5_tellBarred_12 : decode cX5_tellBarred 12 = .ok (.aload_n 0, 1) := by decide +kernel
theorem dX5_tellBarred_13 : decode cX5_tellBarred 13 = .ok (.iconst 2, 1) := by decide +kernel
theorem dX5_tellBarred_14 : decode cX5_tellBarred 14 = .ok (.invokevirtual 79, 3) := by decide +kernel
theorem dX5_tellBarred_17 : decode cX5_tellBarred 17 = .ok (.ireturn, 1) := by decide +kernel
theorem dX5_tellBarred_18 : decode cX5_tellBarred 18 = .ok (.aload_n 0, 1) := by decide +kernel
theorem dX5_tellBarred_19 : decode cX5_tellBarred 19 = .ok (.bipush 18, 2) := by decide +kernel
theorem dX5_tellBarred_21 : decode cX5_tellBarred 21 = .ok (.invokevirtual 88, 3) := by decide +kernel
theorem dX5_tellBarred_24 : decode cX5_tellBarred 24 = .ok (.ifCond .ne 5, 3) := by decide +kernel
theorem dX5_tellBarred_27 : decode cX5_tellBarred 27 = .ok (.iconst 0, 1) := by decide +kernel
theorem dX5_tellBarred_28 : decode cX5_tellBarred 28 = .ok (.ireturn, 1) := by decide +kernel
theorem dX5_tellBarred_29 : decode cX5_tellBarred 29 = .ok (.aload_n 0, 1) := by decide +kernel
theorem dX5_tellBarred_30 : decode cX5_tellBarred 30 = .ok (.aload_n 0, 1) := by decide +kernel
theorem dX5_tellBarred_31 : decode cX5_tellBarred 31 = .ok (.getfield 15, 3) := by decide +kernel
theorem dX5_tellBarred_34 : decode cX5_tellBarred 34 = .ok (.aload_n 0, 1) := by decide +kernel
theorem dX5_tellBarred_35 : decode cX5_tellBarred 35 = .ok (.getfield 29, 3) := by decide +kernel
theorem dX5_tellBarred_38 : decode cX5_tellBarred 38 = .ok (.getfield 98, 3) := by decide +kernel
theorem dX5_tellBarred_41 : decode cX5_tellBarred 41 = .ok (.invokevirtual 126, 3) := by decide +kernel
theorem dX5_tellBarred_44 : decode cX5_tellBarred 44 = .ok (.istore_n 1, 1) := by decide +kernel
theorem dX5_tellBarred_45 : decode cX5_tellBarred 45 = .ok (.iload_n 1, 1) := by decide +kernel
theorem dX5_tellBarred_46 : decode cX5_tellBarred 46 = .ok (.ifCond .ge 5, 3) := by decide +kernel
theorem dX5_tellBarred_49 : decode cX5_tellBarred 49 = .ok (.iconst 0, 1) := by decide +kernel
theorem dX5_tellBarred_50 : decode cX5_tellBarred 50 = .ok (.ireturn, 1) := by decide +kernel
theorem dX5_tellBarred_51 : decode cX5_tellBarred 51 = .ok (.aload_n 0, 1) := by decide +kernel
theorem dX5_tellBarred_52 : decode cX5_tellBarred 52 = .ok (.aload_n 0, 1) := by decide +kernel
theorem dX5_tellBarred_53 : decode cX5_tellBarred 53 = .ok (.getfield 9, 3) := by decide +kernel
theorem dX5_tellBarred_56 : decode cX5_tellBarred 56 = .ok (.aload_n 0, 1) := by decide +kernel
theorem dX5_tellBarred_57 : decode cX5_tellBarred 57 = .ok (.getfield 29, 3) := by decide +kernel
theorem dX5_tellBarred_60 : decode cX5_tellBarred 60 = .ok (.getfield 91, 3) := by decide +kernel
theorem dX5_tellBarred_63 : decode cX5_tellBarred 63 = .ok (.invokevirtual 126, 3) := by decide +kernel
theorem dX5_tellBarred_66 : decode cX5_tellBarred 66 = .ok (.istore_n 2, 1) := by decide +kernel
theorem dX5_tellBarred_67 : decode cX5_tellBarred 67 = .ok (.iload_n 2, 1) := by decide +kernel
theorem dX5_tellBarred_68 : decode cX5_tellBarred 68 = .ok (.ifCond .ge 5, 3) := by decide +kernel
theorem dX5_tellBarred_71 : decode cX5_tellBarred 71 = .ok (.iconst 0, 1) := by decide +kernel
theorem dX5_tellBarred_72 : decode cX5_tellBarred 72 = .ok (.ireturn, 1) := by decide +kernel
theorem dX5_tellBarred_73 : decode cX5_tellBarred 73 = .ok (.aload_n 0, 1) := by decide +kernel
theorem dX5_tellBarred_74 : decode cX5_tellBarred 74 = .ok (.getfield 29, 3) := by decide +kernel
theorem dX5_tellBarred_77 : decode cX5_tellBarred 77 = .ok (.getfield 130, 3) := by decide +kernel
theorem dX5_tellBarred_80 : decode cX5_tellBarred 80 = .ok (.iload_n 1, 1) := by decide +kernel
theorem dX5_tellBarred_81 : decode cX5_tellBarred 81 = .ok (.dup2, 1) := by decide +kernel
theorem dX5_tellBarred_82 : decode cX5_tellBarred 82 = .ok (.iaload, 1) := by decide +kernel
theorem dX5_tellBarred_83 : decode cX5_tellBarred 83 = .ok (.iconst 1, 1) := by decide +kernel
theorem dX5_tellBarred_84 : decode cX5_tellBarred 84 = .ok (.iload_n 2, 1) := by decide +kernel
theorem dX5_tellBarred_85 : decode cX5_tellBarred 85 = .ok (.ishl, 1) := by decide +kernel
theorem dX5_tellBarred_86 : decode cX5_tellBarred 86 = .ok (.ior, 1) := by decide +kernel
theorem dX5_tellBarred_87 : decode cX5_tellBarred 87 = .ok (.iastore, 1) := by decide +kernel
theorem dX5_tellBarred_88 : decode cX5_tellBarred 88 = .ok (.aload_n 0, 1) := by decide +kernel
theorem dX5_tellBarred_89 : decode cX5_tellBarred 89 = .ok (.getfield 29, 3) := by decide +kernel
theorem dX5_tellBarred_92 : decode cX5_tellBarred 92 = .ok (.dup, 1) := by decide +kernel
theorem dX5_tellBarred_93 : decode cX5_tellBarred 93 = .ok (.getfield 123, 3) := by decide +kernel
theorem dX5_tellBarred_96 : decode cX5_tellBarred 96 = .ok (.iconst 1, 1) := by decide +kernel
theorem dX5_tellBarred_97 : decode cX5_tellBarred 97 = .ok (.iadd, 1) := by decide +kernel
theorem dX5_tellBarred_98 : decode cX5_tellBarred 98 = .ok (.putfield 123, 3) := by decide +kernel
theorem dX5_tellBarred_101 : decode cX5_tellBarred 101 = .ok (.aload_n 0, 1) := by decide +kernel
theorem dX5_tellBarred_102 : decode cX5_tellBarred 102 = .ok (.iconst 4, 1) := by decide +kernel
theorem dX5_tellBarred_103 : decode cX5_tellBarred 103 = .ok (.invokevirtual 88, 3) := by decide +kernel
theorem dX5_tellBarred_106 : decode cX5_tellBarred 106 = .ok (.ireturn, 1) := by decide +kernel
theorem dX5_tellLetter_0 : decode cX5_tellLetter 0 = .ok (.aload_n 0, 1) := by decide +kernel
theorem dX5_tellLetter_1 : decode cX5_tellLetter 1 = .ok (.getfield 29, 3) := by decide +kernel
theorem dX5_tellLetter_4 : decode cX5_tellLetter 4 = .ok (.getfield 101, 3) := by decide +kernel
theorem dX5_tellLetter_7 : decode cX5_tellLetter 7 = .ok (.bipush 10, 2) := by decide +kernel
theorem dX5_tellLetter_9 : decode cX5_tellLetter 9 = .ok (.if_icmp .lt 9, 3) := by decide +kernel
theorem dX5_tellLetter_12 : decode cX5_tellLetter 12 = .ok (.aload_n 0, 1) := by decide +kernel
theorem dX5_tellLetter_13 : decode cX5_tellLetter 13 = .ok (.iconst 2, 1) := by decide +kernel
theorem dX5_tellLetter_14 : decode cX5_tellLetter 14 = .ok (.invokevirtual 79, 3) := by decide +kernel
theorem dX5_tellLetter_17 : decode cX5_tellLetter 17 = .ok (.ireturn, 1) := by decide +kernel
theorem dX5_tellLetter_18 : decode cX5_tellLetter 18 = .ok (.aload_n 0, 1) := by decide +kernel
theorem dX5_tellLetter_19 : decode cX5_tellLetter 19 = .ok (.bipush 19, 2) := by decide +kernel
theorem dX5_tellLetter_21 : decode cX5_tellLetter 21 = .ok (.invokevirtual 88, 3) := by decide +kernel
theorem dX5_tellLetter_24 : decode cX5_tellLetter 24 = .ok (.ifCond .eq 21, 3) := by decide +kernel
theorem dX5_tellLetter_27 : decode cX5_tellLetter 27 = .ok (.aload_n 0, 1) := by decide +kernel
theorem dX5_tellLetter_28 : decode cX5_tellLetter 28 = .ok (.aload_n 0, 1) := by decide +kernel
theorem dX5_tellLetter_29 : decode cX5_tellLetter 29 = .ok (.getfield 18, 3) := by decide +kernel
theorem dX5_tellLetter_32 : decode cX5_tellLetter 32 = .ok (.aload_n 0, 1) := by decide +kernel
theorem dX5_tellLetter_33 : decode cX5_tellLetter 33 = .ok (.getfield 29, 3) := by decide +kernel
theorem dX5_tellLetter_36 : decode cX5_tellLetter 36 = .ok (.getfield 101, 3) := by decide +kernel
theorem dX5_tellLetter_39 : decode cX5_tellLetter 39 = .ok (.invokevirtual 112, 3) := by decide +kernel
theorem dX5_tellLetter_42 : decode cX5_tellLetter 42 = .ok (.ifCond .ne 5, 3) := by decide +kernel
theorem dX5_tellLetter_45 : decode cX5_tellLetter 45 = .ok (.iconst 0, 1) := by decide +kernel
theorem dX5_tellLetter_46 : decode cX5_tellLetter 46 = .ok (.ireturn, 1) := by decide +kernel
theorem dX5_tellLetter_47 : decode cX5_tellLetter 47 = .ok (.aload_n 0, 1) := by decide +kernel
theorem dX5_tellLetter_48 : decode cX5_tellLetter 48 = .ok (.getfield 29, 3) := by decide +kernel
theorem dX5_tellLetter_51 : decode cX5_tellLetter 51 = .ok (.getfield 133, 3) := by decide +kernel
theorem dX5_tellLetter_54 : decode cX5_tellLetter 54 = .ok (.aload_n 0, 1) := by decide +kernel
theorem dX5_tellLetter_55 : decode cX5_tellLetter 55 = .ok (.getfield 29, 3) := by decide +kernel
theorem dX5_tellLetter_58 : decode cX5_tellLetter 58 = .ok (.getfield 101, 3) := by decide +kernel
theorem dX5_tellLetter_61 : decode cX5_tellLetter 61 = .ok (.aaload, 1) := by decide +kernel
theorem dX5_tellLetter_62 : decode cX5_tellLetter 62 = .ok (.astore_n 1, 1) := by decide +kernel
theorem dX5_tellLetter_63 : decode cX5_tellLetter 63 = .ok (.aload_n 0, 1) := by decide +kernel
theorem dX5_tellLetter_64 : decode cX5_tellLetter 64 = .ok (.getfield 29, 3) := by decide +kernel
theorem dX5_tellLetter_67 : decode cX5_tellLetter 67 = .ok (.dup, 1) := by decide +kernel
theorem dX5_tellLetter_68 : decode cX5_tellLetter 68 = .ok (.getfield 101, 3) := by decide +kernel
theorem dX5_tellLetter_71 : decode cX5_tellLetter 71 = .ok (.iconst 1, 1) := by decide +kernel
theorem dX5_tellLetter_72 : decode cX5_tellLetter 72 = .ok (.iadd, 1) := by decide +kernel
theorem dX5_tellLetter_73 : decode cX5_tellLetter 73 = .ok (.putfield 101, 3) := by decide +kernel
theorem dX5_tellLetter_76 : decode cX5_tellLetter 76 = .ok (.aload_n 1, 1) := by decide +kernel
theorem dX5_tellLetter_77 : decode cX5_tellLetter 77 = .ok (.aload_n 0, 1) := by decide +kernel
theorem dX5_tellLetter_78 : decode cX5_tellLetter 78 = .ok (.aload_n 0, 1) := by decide +kernel
theorem dX5_tellLetter_79 : decode cX5_tellLetter 79 = .ok (.getfield 9, 3) := by decide +kernel
theorem dX5_tellLetter_82 : decode cX5_tellLetter 82 = .ok (.aload_n 0, 1) := by decide +kernel
theorem dX5_tellLetter_83 : decode cX5_tellLetter 83 = .ok (.getfield 29, 3) := by decide +kernel
theorem dX5_tellLetter_86 : decode cX5_tellLetter 86 = .ok (.getfield 91, 3) := by decide +kernel
theorem dX5_tellLetter_89 : decode cX5_tellLetter 89 = .ok (.invokevirtual 126, 3) := by decide +kernel
theorem dX5_tellLetter_92 : decode cX5_tellLetter 92 = .ok (.putfield 137, 3) := by decide +kernel
theorem dX5_tellLetter_95 : decode cX5_tellLetter 95 = .ok (.aload_n 1, 1) := by decide +kernel
theorem dX5_tellLetter_96 : decode cX5_tellLetter 96 = .ok (.getfield 137, 3) := by decide +kernel
theorem dX5_tellLetter_99 : decode cX5_tellLetter 99 = .ok (.ifCond .ge 5, 3) := by decide +kernel
theorem dX5_tellLetter_102 : decode cX5_tellLetter 102 = .ok (.iconst 0, 1) := by decide +kernel
theorem dX5_tellLetter_103 : decode cX5_tellLetter 103 = .ok (.ireturn, 1) := by decide +kernel
theorem dX5_tellLetter_104 : decode cX5_tellLetter 104 = .ok (.aload_n 1, 1) := by decide +kernel
theorem dX5_tellLetter_105 : decode cX5_tellLetter 105 = .ok (.aload_n 0, 1) := by decide +kernel
theorem dX5_tellLetter_106 : decode cX5_tellLetter 106 = .ok (.aload_n 0, 1) := by decide +kernel
theorem dX5_tellLetter_107 : decode cX5_tellLetter 107 = .ok (.getfield 9, 3) := by decide +kernel
theorem dX5_tellLetter_110 : decode cX5_tellLetter 110 = .ok (.aload_n 0, 1) := by decide +kernel
theorem dX5_tellLetter_111 : decode cX5_tellLetter 111 = .ok (.getfield 29, 3) := by decide +kernel
theorem dX5_tellLetter_114 : decode cX5_tellLetter 114 = .ok (.getfield 91, 3) := by decide +kernel
theorem dX5_tellLetter_117 : decode cX5_tellLetter 117 = .ok (.invokevirtual 126, 3) := by decide +kernel
theorem dX5_tellLetter_120 : decode cX5_tellLetter 120 = .ok (.putfield 142, 3) := by decide +kernel
theorem dX5_tellLetter_123 : decode cX5_tellLetter 123 = .ok (.aload_n 1, 1) := by decide +kernel
theorem dX5_tellLetter_124 : decode cX5_tellLetter 124 = .ok (.getfield 142, 3) := by decide +kernel
theorem dX5_tellLetter_127 : decode cX5_tellLetter 127 = .ok (.ifCond .lt 11, 3) := by decide +kernel
theorem dX5_tellLetter_130 : decode cX5_tellLetter 130 = .ok (.aload_n 0, 1) := by decide +kernel
theorem dX5_tellLetter_131 : decode cX5_tellLetter 131 = .ok (.aload_n 1, 1) := by decide +kernel
theorem dX5_tellLetter_132 : decode cX5_tellLetter 132 = .ok (.invokevirtual 145, 3) := by decide +kernel
theorem dX5_tellLetter_135 : decode cX5_tellLetter 135 = .ok (.ifCond .ne 5, 3) := by decide +kernel
theorem dX5_tellLetter_138 : decode cX5_tellLetter 138 = .ok (.iconst 0, 1) := by decide +kernel
theorem dX5_tellLetter_139 : decode cX5_tellLetter 139 = .ok (.ireturn, 1) := by decide +kernel
theorem dX5_tellLetter_140 : decode cX5_tellLetter 140 = .ok (.aload_n 1, 1) := by decide +kernel
theorem dX5_tellLetter_141 : decode cX5_tellLetter 141 = .ok (.aload_n 0, 1) := by decide +kernel
theorem dX5_tellLetter_142 : decode cX5_tellLetter 142 = .ok (.getfield 29, 3) := by decide +kernel
theorem dX5_tellLetter_145 : decode cX5_tellLetter 145 = .ok (.getfield 149, 3) := by decide +kernel
theorem dX5_tellLetter_148 : decode cX5_tellLetter 148 = .ok (.putfield 152, 3) := by decide +kernel
theorem dX5_tellLetter_151 : decode cX5_tellLetter 151 = .ok (.aload_n 0, 1) := by decide +kernel
theorem dX5_tellLetter_152 : decode cX5_tellLetter 152 = .ok (.getfield 47, 3) := by decide +kernel
theorem dX5_tellLetter_155 : decode cX5_tellLetter 155 = .ok (.bipush 20, 2) := by decide +kernel
theorem dX5_tellLetter_157 : decode cX5_tellLetter 157 = .ok (.if_icmp .ne 21, 3) := by decide +kernel
theorem dX5_tellLetter_160 : decode cX5_tellLetter 160 = .ok (.aload_n 0, 1) := by decide +kernel
theorem dX5_tellLetter_161 : decode cX5_tellLetter 161 = .ok (.bipush 20, 2) := by decide +kernel
theorem dX5_tellLetter_163 : decode cX5_tellLetter 163 = .ok (.invokevirtual 88, 3) := by decide +kernel
theorem dX5_tellLetter_166 : decode cX5_tellLetter 166 = .ok (.ifCond .eq 10, 3) := by decide +kernel
theorem dX5_tellLetter_169 : decode cX5_tellLetter 169 = .ok (.aload_n 0, 1) := by decide +kernel
theorem dX5_tellLetter_170 : decode cX5_tellLetter 170 = .ok (.invokevirtual 155, 3) := by decide +kernel
theorem dX5_tellLetter_173 : decode cX5_tellLetter 173 = .ok (.ifCond .ne 5, 3) := by decide +kernel
theorem dX5_tellLetter_176 : decode cX5_tellLetter 176 = .ok (.iconst 0, 1) := by decide +kernel
theorem dX5_tellLetter_177 : decode cX5_tellLetter 177 = .ok (.ireturn, 1) := by decide +kernel
theorem dX5_tellLetter_178 : decode cX5_tellLetter 178 = .ok (.aload_n 1, 1) := by decide +kernel
theorem dX5_tellLetter_179 : decode cX5_tellLetter 179 = .ok (.aload_n 0, 1) := by decide +kernel
theorem dX5_tellLetter_180 : decode cX5_tellLetter 180 = .ok (.getfield 29, 3) := by decide +kernel
theorem dX5_tellLetter_183 : decode cX5_tellLetter 183 = .ok (.getfield 149, 3) := by decide +kernel
theorem dX5_tellLetter_186 : decode cX5_tellLetter 186 = .ok (.putfield 158, 3) := by decide +kernel
theorem dX5_tellLetter_189 : decode cX5_tellLetter 189 = .ok (.aload_n 0, 1) := by decide +kernel
theorem dX5_tellLetter_190 : decode cX5_tellLetter 190 = .ok (.iconst 4, 1) := by decide +kernel
theorem dX5_tellLetter_191 : decode cX5_tellLetter 191 = .ok (.invokevirtual 88, 3) := by decide +kernel
theorem dX5_tellLetter_194 : decode cX5_tellLetter 194 = .ok (.ireturn, 1) := by decide +kernel
theorem dX5_takeLetterInts_0 : decode cX5_takeLetterInts 0 = .ok (.aload_n 1, 1) := by decide +kernel
theorem dX5_takeLetterInts_1 : decode cX5_takeLetterInts 1 = .ok (.aload_n 0, 1) := by decide +kernel
theorem dX5_takeLetterInts_2 : decode cX5_takeLetterInts 2 = .ok (.iconst 0, 1) := by decide +kernel
theorem dX5_takeLetterInts_3 : decode cX5_takeLetterInts 3 = .ok (.iconst 3, 1) := by decide +kernel
theorem dX5_takeLetterInts_4 : decode cX5_takeLetterInts 4 = .ok (.invokevirtual 116, 3) := by decide +kernel
theorem dX5_takeLetterInts_7 : decode cX5_takeLetterInts 7 = .ok (.putfield 161, 3) := by decide +kernel
theorem dX5_takeLetterInts_10 : decode cX5_takeLetterInts 10 = .ok (.aload_n 1, 1) := by decide +kernel
theorem dX5_takeLetterInts_11 : decode cX5_takeLetterInts 11 = .ok (.getfield 161, 3) := by decide +kernel
theorem dX5_takeLetterInts_14 : decode cX5_takeLetterInts 14 = .ok (.ifCond .ge 5, 3) := by decide +kernel
theorem dX5_takeLetterInts_17 : decode cX5_takeLetterInts 17 = .ok (.iconst 0, 1) := by decide +kernel
theorem dX5_takeLetterInts_18 : decode cX5_takeLetterInts 18 = .ok (.ireturn, 1) := by decide +kernel
theorem dX5_takeLetterInts_19 : decode cX5_takeLetterInts 19 = .ok (.aload_n 1, 1) := by decide +kernel
theorem dX5_takeLetterInts_20 : decode cX5_takeLetterInts 20 = .ok (.aload_n 0, 1) := by decide +kernel
theorem dX5_takeLetterInts_21 : decode cX5_takeLetterInts 21 = .ok (.iconst 0, 1) := by decide +kernel
theorem dX5_takeLetterInts_22 : decode cX5_takeLetterInts 22 = .ok (.sipush 999, 3) := by decide +kernel
theorem dX5_takeLetterInts_25 : decode cX5_takeLetterInts 25 = .ok (.invokevirtual 116, 3) := by decide +kernel
theorem dX5_takeLetterInts_28 : decode cX5_takeLetterInts 28 = .ok (.putfield 164, 3) := by decide +kernel
theorem dX5_takeLetterInts_31 : decode cX5_takeLetterInts 31 = .ok (.aload_n 1, 1) := by decide +kernel
theorem dX5_takeLetterInts_32 : decode cX5_takeLetterInts 32 = .ok (.getfield 164, 3) := by decide +kernel
theorem dX5_takeLetterInts_35 : decode cX5_takeLetterInts 35 = .ok (.ifCond .ge 5, 3) := by decide +kernel
theorem dX5_takeLetterInts_38 : decode cX5_takeLetterInts 38 = .ok (.iconst 0, 1) := by decide +kernel
theorem dX5_takeLetterInts_39 : decode cX5_takeLetterInts 39 = .ok (.ireturn, 1) := by decide +kernel
theorem dX5_takeLetterInts_40 : decode cX5_takeLetterInts 40 = .ok (.aload_n 1, 1) := by decide +kernel
theorem dX5_takeLetterInts_41 : decode cX5_takeLetterInts 41 = .ok (.aload_n 0, 1) := by decide +kernel
theorem dX5_takeLetterInts_42 : decode cX5_takeLetterInts 42 = .ok (.iconst 0, 1) := by decide +kernel
theorem dX5_takeLetterInts_43 : decode cX5_takeLetterInts 43 = .ok (.bipush 99, 2) := by decide +kernel
theorem dX5_takeLetterInts_45 : decode cX5_takeLetterInts 45 = .ok (.invokevirtual 116, 3) := by decide +kernel
theorem dX5_takeLetterInts_48 : decode cX5_takeLetterInts 48 = .ok (.putfield 167, 3) := by decide +kernel
theorem dX5_takeLetterInts_51 : decode cX5_takeLetterInts 51 = .ok (.aload_n 1, 1) := by decide +kernel
theorem dX5_takeLetterInts_52 : decode cX5_takeLetterInts 52 = .ok (.getfield 167, 3) := by decide +kernel
theorem dX5_takeLetterInts_55 : decode cX5_takeLetterInts 55 = .ok (.ifCond .lt 7, 3) := by decide +kernel
theorem dX5_takeLetterInts_58 : decode cX5_takeLetterInts 58 = .ok (.iconst 1, 1) := by decide +kernel
theorem dX5_takeLetterInts_59 : decode cX5_takeLetterInts 59 = .ok (.goto 4, 3) := by decide +kernel
theorem dX5_takeLetterInts_62 : decode cX5_takeLetterInts 62 = .ok (.iconst 0, 1) := by decide +kernel
theorem dX5_takeLetterInts_63 : decode cX5_takeLetterInts 63 = .ok (.ireturn, 1) := by decide +kernel
theorem dX5_tellProof_0 : decode cX5_tellProof 0 = .ok (.aload_n 0, 1) := by decide +kernel
theorem dX5_tellProof_1 : decode cX5_tellProof 1 = .ok (.bipush 21, 2) := by decide +kernel
theorem dX5_tellProof_3 : decode cX5_tellProof 3 = .ok (.invokevirtual 88, 3) := by decide +kernel
theorem dX5_tellProof_6 : decode cX5_tellProof 6 = .ok (.ifCond .ne 5, 3) := by decide +kernel
theorem dX5_tellProof_9 : decode cX5_tellProof 9 = .ok (.iconst 0, 1) := by decide +kernel
theorem dX5_tellProof_10 : decode cX5_tellProof 10 = .ok (.ireturn, 1) := by decide +kernel
theorem dX5_tellProof_11 : decode cX5_tellProof 11 = .ok (.aload_n 0, 1) := by decide +kernel
theorem dX5_tellProof_12 : decode cX5_tellProof 12 = .ok (.getfield 29, 3) := by decide +kernel
theorem dX5_tellProof_15 : decode cX5_tellProof 15 = .ok (.aload_n 0, 1) := by decide +kernel
theorem dX5_tellProof_16 : decode cX5_tellProof 16 = .ok (.iconst 1, 1) := by decide +kernel
theorem dX5_tellProof_17 : decode cX5_tellProof 17 = .ok (.bipush 99, 2) := by decide +kernel
theorem dX5_tellProof_19 : decode cX5_tellProof 19 = .ok (.invokevirtual 116, 3) := by decide +kernel
theorem dX5_tellProof_22 : decode cX5_tellProof 22 = .ok (.putfield 170, 3) := by decide +kernel
theorem dX5_tellProof_25 : decode cX5_tellProof 25 = .ok (.aload_n 0, 1) := by decide +kernel
theorem dX5_tellProof_26 : decode cX5_tellProof 26 = .ok (.getfield 29, 3) := by decide +kernel
theorem dX5_tellProof_29 : decode cX5_tellProof 29 = .ok (.getfield 170, 3) := by decide +kernel
theorem dX5_tellProof_32 : decode cX5_tellProof 32 = .ok (.ifCond .lt 15, 3) := by decide +kernel
theorem dX5_tellProof_35 : decode cX5_tellProof 35 = .ok (.aload_n 0, 1) := by decide +kernel
theorem dX5_tellProof_36 : decode cX5_tellProof 36 = .ok (.iconst 4, 1) := by decide +kernel
theorem dX5_tellProof_37 : decode cX5_tellProof 37 = .ok (.invokevirtual 88, 3) := by decide +kernel
theorem dX5_tellProof_40 : decode cX5_tellProof 40 = .ok (.ifCond .eq 7, 3) := by decide +kernel
theorem dX5_tellProof_43 : decode cX5_tellProof 43 = .ok (.iconst 1, 1) := by decide +kernel
theorem dX5_tellProof_44 : decode cX5_tellProof 44 = .ok (.goto 4, 3) := by decide +kernel
theorem dX5_tellProof_47 : decode cX5_tellProof 47 = .ok (.iconst 0, 1) := by decide +kernel
theorem dX5_tellProof_48 : decode cX5_tellProof 48 = .ok (.ireturn, 1) := by decide +kernel
theorem dX5_tellRule_0 : decode cX5_tellRule 0 = .ok (.aload_n 0, 1) := by decide +kernel
theorem dX5_tellRule_1 : decode cX5_tellRule 1 = .ok (.bipush 22, 2) := by decide +kernel
theorem dX5_tellRule_3 : decode cX5_tellRule 3 = .ok (.iload_n 1, 1) := by decide +kernel
theorem dX5_tellRule_4 : decode cX5_tellRule 4 = .ok (.iadd, 1) := by decide +kernel
theorem dX5_tellRule_5 : decode cX5_tellRule 5 = .ok (.invokevirtual 88, 3) := by decide +kernel
theorem dX5_tellRule_8 : decode cX5_tellRule 8 = .ok (.ifCond .eq 12, 3) := by decide +kernel
theorem dX5_tellRule_11 : decode cX5_tellRule 11 = .ok (.aload_n 0, 1) := by decide +kernel
theorem dX5_tellRule_12 : decode cX5_tellRule 12 = .ok (.bipush 13, 2) := by decide +kernel
theorem dX5_tellRule_14 : decode cX5_tellRule 14 = .ok (.invokevirtual 88, 3) := by decide +kernel
theorem dX5_tellRule_17 : decode cX5_tellRule 17 = .ok (.ifCond .ne 5, 3) := by decide +kernel
theorem dX5_tellRule_20 : decode cX5_tellRule 20 = .ok (.iconst 0, 1) := by decide +kernel
theorem dX5_tellRule_21 : decode cX5_tellRule 21 = .ok (.ireturn, 1) := by decide +kernel
theorem dX5_tellRule_22 : decode cX5_tellRule 22 = .ok (.aload_n 0, 1) := by decide +kernel
theorem dX5_tellRule_23 : decode cX5_tellRule 23 = .ok (.getfield 29, 3) := by decide +kernel
theorem dX5_tellRule_26 : decode cX5_tellRule 26 = .ok (.getfield 149, 3) := by decide +kernel
theorem dX5_tellRule_29 : decode cX5_tellRule 29 = .ok (.istore_n 2, 1) := by decide +kernel
theorem dX5_tellRule_30 : decode cX5_tellRule 30 = .ok (.aload_n 0, 1) := by decide +kernel
theorem dX5_tellRule_31 : decode cX5_tellRule 31 = .ok (.invokevirtual 173, 3) := by decide +kernel
theorem dX5_tellRule_34 : decode cX5_tellRule 34 = .ok (.ifCond .ne 5, 3) := by decide +kernel
theorem dX5_tellRule_37 : decode cX5_tellRule 37 = .ok (.iconst 0, 1) := by decide +kernel
theorem dX5_tellRule_38 : decode cX5_tellRule 38 = .ok (.ireturn, 1) := by decide +kernel
theorem dX5_tellRule_39 : decode cX5_tellRule 39 = .ok (.aload_n 0, 1) := by decide +kernel
theorem dX5_tellRule_40 : decode cX5_tellRule 40 = .ok (.getfield 29, 3) := by decide +kernel
theorem dX5_tellRule_43 : decode cX5_tellRule 43 = .ok (.getfield 176, 3) := by decide +kernel
theorem dX5_tellRule_46 : decode cX5_tellRule 46 = .ok (.iload_n 1, 1) := by decide +kernel
theorem dX5_tellRule_47 : decode cX5_tellRule 47 = .ok (.iload_n 2, 1) := by decide +kernel
theorem dX5_tellRule_48 : decode cX5_tellRule 48 = .ok (.iastore, 1) := by decide +kernel
theorem dX5_tellRule_49 : decode cX5_tellRule 49 = .ok (.aload_n 0, 1) := by decide +kernel
theorem dX5_tellRule_50 : decode cX5_tellRule 50 = .ok (.getfield 29, 3) := by decide +kernel
theorem dX5_tellRule_53 : decode cX5_tellRule 53 = .ok (.getfield 179, 3) := by decide +kernel
theorem dX5_tellRule_56 : decode cX5_tellRule 56 = .ok (.iload_n 1, 1) := by decide +kernel
theorem dX5_tellRule_57 : decode cX5_tellRule 57 = .ok (.aload_n 0, 1) := by decide +kernel
theorem dX5_tellRule_58 : decode cX5_tellRule 58 = .ok (.getfield 29, 3) := by decide +kernel
theorem dX5_tellRule_61 : decode cX5_tellRule 61 = .ok (.getfield 149, 3) := by decide +kernel
theorem dX5_tellRule_64 : decode cX5_tellRule 64 = .ok (.iastore, 1) := by decide +kernel
theorem dX5_tellRule_65 : decode cX5_tellRule 65 = .ok (.aload_n 0, 1) := by decide +kernel
theorem dX5_tellRule_66 : decode cX5_tellRule 66 = .ok (.iconst 4, 1) := by decide +kernel
theorem dX5_tellRule_67 : decode cX5_tellRule 67 = .ok (.invokevirtual 88, 3) := by decide +kernel
theorem dX5_tellRule_70 : decode cX5_tellRule 70 = .ok (.ireturn, 1) := by decide +kernel
theorem dX5_emit_0 : decode cX5_emit 0 = .ok (.aload_n 0, 1) := by decide +kernel
theorem dX5_emit_1 : decode cX5_emit 1 = .ok (.getfield 29, 3) := by decide +kernel
theorem dX5_emit_4 : decode cX5_emit 4 = .ok (.getfield 149, 3) := by decide +kernel
theorem dX5_emit_7 : decode cX5_emit 7 = .ok (.sipush 400, 3) := by decide +kernel
theorem dX5_emit_10 : decode cX5_emit 10 = .ok (.if_icmp .ge 37, 3) := by decide +kernel
theorem dX5_emit_13 : decode cX5_emit 13 = .ok (.aload_n 0, 1) := by decide +kernel
theorem dX5_emit_14 : decode cX5_emit 14 = .ok (.getfield 29, 3) := by decide +kernel
theorem dX5_emit_17 : decode cX5_emit 17 = .ok (.getfield 182, 3) := by decide +kernel
theorem dX5_emit_20 : decode cX5_emit 20 = .ok (.aload_n 0, 1) := by decide +kernel
theorem dX5_emit_21 : decode cX5_emit 21 = .ok (.getfield 29, 3) := by decide +kernel
theorem dX5_emit_24 : decode cX5_emit 24 = .ok (.getfield 149, 3) := by decide +kernel
theorem dX5_emit_27 : decode cX5_emit 27 = .ok (.iload_n 1, 1) := by decide +kernel
theorem dX5_emit_28 : decode cX5_emit 28 = .ok (.iload_n 2, 1) := by decide +kernel
theorem dX5_emit_29 : decode cX5_emit 29 = .ok (.bipush 8, 2) := by decide +kernel
theorem dX5_emit_31 : decode cX5_emit 31 = .ok (.ishl, 1) := by decide +kernel
theorem dX5_emit_32 : decode cX5_emit 32 = .ok (.ior, 1) := by decide +kernel
theorem dX5_emit_33 : decode cX5_emit 33 = .ok (.iastore, 1) := by decide +kernel
theorem dX5_emit_34 : decode cX5_emit 34 = .ok (.aload_n 0, 1) := by decide +kernel
theorem dX5_emit_35 : decode cX5_emit 35 = .ok (.getfield 29, 3) := by decide +kernel
theorem dX5_emit_38 : decode cX5_emit 38 = .ok (.dup, 1) := by decide +kernel
theorem dX5_emit_39 : decode cX5_emit 39 = .ok (.getfield 149, 3) := by decide +kernel
theorem dX5_emit_42 : decode cX5_emit 42 = .ok (.iconst 1, 1) := by decide +kernel
theorem dX5_emit_43 : decode cX5_emit 43 = .ok (.iadd, 1) := by decide +kernel
theorem dX5_emit_44 : decode cX5_emit 44 = .ok (.putfield 149, 3) := by decide +kernel
theorem dX5_emit_47 : decode cX5_emit 47 = .ok (.return_, 1) := by decide +kernel
theorem dX5_condition_0 : decode cX5_condition 0 = .ok (.aload_n 0, 1) := by decide +kernel
theorem dX5_condition_1 : decode cX5_condition 1 = .ok (.invokevirtual 185, 3) := by decide +kernel
theorem dX5_condition_4 : decode cX5_condition 4 = .ok (.ifCond .ne 5, 3) := by decide +kernel
theorem dX5_condition_7 : decode cX5_condition 7 = .ok (.iconst 0, 1) := by decide +kernel
theorem dX5_condition_8 : decode cX5_condition 8 = .ok (.ireturn, 1) := by decide +kernel
theorem dX5_condition_9 : decode cX5_condition 9 = .ok (.iconst 0, 1) := by decide +kernel
theorem dX5_condition_10 : decode cX5_condition 10 = .ok (.istore_n 1, 1) := by decide +kernel
theorem dX5_condition_11 : decode cX5_condition 11 = .ok (.iconst 0, 1) := by decide +kernel
theorem dX5_condition_12 : decode cX5_condition 12 = .ok (.istore_n 2, 1) := by decide +kernel
theorem dX5_condition_13 : decode cX5_condition 13 = .ok (.iload_n 2, 1) := by decide +kernel
theorem dX5_condition_14 : decode cX5_condition 14 = .ok (.sipush 400, 3) := by decide +kernel
theorem dX5_condition_17 : decode cX5_condition 17 = .ok (.if_icmp .gt 95, 3) := by decide +kernel
theorem dX5_condition_20 : decode cX5_condition 20 = .ok (.aload_n 0, 1) := by decide +kernel
theorem dX5_condition_21 : decode cX5_condition 21 = .ok (.getfield 47, 3) := by decide +kernel
theorem dX5_condition_24 : decode cX5_condition 24 = .ok (.bipush 26, 2) := by decide +kernel
theorem dX5_condition_26 : decode cX5_condition 26 = .ok (.if_icmp .eq 12, 3) := by decide +kernel
theorem dX5_condition_29 : decode cX5_condition 29 = .ok (.aload_n 0, 1) := by decide +kernel
theorem dX5_condition_30 : decode cX5_condition 30 = .ok (.getfield 47, 3) := by decide +kernel
theorem dX5_condition_33 : decode cX5_condition 33 = .ok (.bipush 25, 2) := by decide +kernel
theorem dX5_condition_35 : decode cX5_condition 35 = .ok (.if_icmp .ne 77, 3) := by decide +kernel
theorem dX5_condition_38 : decode cX5_condition 38 = .ok (.aload_n 0, 1) := by decide +kernel
theorem dX5_condition_39 : decode cX5_condition 39 = .ok (.getfield 47, 3) := by decide +kernel
theorem dX5_condition_42 : decode cX5_condition 42 = .ok (.istore_n 3, 1) := by decide +kernel
theorem dX5_condition_43 : decode cX5_condition 43 = .ok (.iload_n 3, 1) := by decide +kernel
theorem dX5_condition_44 : decode cX5_condition 44 = .ok (.bipush 25, 2) := by decide +kernel
theorem dX5_condition_46 : decode cX5_condition 46 = .ok (.if_icmp .ne 14, 3) := by decide +kernel
theorem dX5_condition_49 : decode cX5_condition 49 = .ok (.iload_n 1, 1) := by decide +kernel
theorem dX5_condition_50 : decode cX5_condition 50 = .ok (.ifCond .eq 10, 3) := by decide +kernel
theorem dX5_condition_53 : decode cX5_condition 53 = .ok (.aload_n 0, 1) := by decide +kernel
theorem dX5_condition_54 : decode cX5_condition 54 = .ok (.bipush 25, 2) := by decide +kernel
theorem dX5_condition_56 : decode cX5_condition 56 = .ok (.iconst 0, 1) := by decide +kernel
theorem dX5_condition_57 : decode cX5_condition 57 = .ok (.invokevirtual 188, 3) := by decide +kernel
theorem dX5_condition_60 : decode cX5_condition 60 = .ok (.aload_n 0, 1) := by decide +kernel
theorem dX5_condition_61 : decode cX5_condition 61 = .ok (.iload_n 3, 1) := by decide +kernel
theorem dX5_condition_62 : decode cX5_condition 62 = .ok (.invokevirtual 88, 3) := by decide +kernel
theorem dX5_condition_65 : decode cX5_condition 65 = .ok (.ifCond .eq 10, 3) := by decide +kernel
theorem dX5_condition_68 : decode cX5_condition 68 = .ok (.aload_n 0, 1) := by decide +kernel
theorem dX5_condition_69 : decode cX5_condition 69 = .ok (.invokevirtual 185, 3) := by decide +kernel
theorem dX5_condition_72 : decode cX5_condition 72 = .ok (.ifCond .ne 5, 3) := by decide +kernel
theorem dX5_condition_75 : decode cX5_condition 75 = .ok (.iconst 0, 1) := by decide +kernel
theorem dX5_condition_76 : decode cX5_condition 76 = .ok (.ireturn, 1) := by decide +kernel
theorem dX5_condition_77 : decode cX5_condition 77 = .ok (.iload_n 3, 1) := by decide +kernel
theorem dX5_condition_78 : decode cX5_condition 78 = .ok (.bipush 26, 2) := by decide +kernel
theorem dX5_condition_80 : decode cX5_condition 80 = .ok (.if_icmp .ne 10, 3) := by decide +kernel
theorem dX5_condition_83 : decode cX5_condition 83 = .ok (.aload_n 0, 1) := by decide +kernel
theorem dX5_condition_84 : decode cX5_condition 84 = .ok (.bipush 26, 2) := by decide +kernel
theorem dX5_condition_86 : decode cX5_condition 86 = .ok (.iconst 0, 1) := by decide +kernel
theorem dX5_condition_87 : decode cX5_condition 87 = .ok (.invokevirtual 188, 3) := by decide +kernel
theorem dX5_condition_90 : decode cX5_condition 90 = .ok (.iload_n 1, 1) := by decide +kernel
theorem dX5_condition_91 : decode cX5_condition 91 = .ok (.ifCond .ne 9, 3) := by decide +kernel
theorem dX5_condition_94 : decode cX5_condition 94 = .ok (.iload_n 3, 1) := by decide +kernel
theorem dX5_condition_95 : decode cX5_condition 95 = .ok (.bipush 25, 2) := by decide +kernel
theorem dX5_condition_97 : decode cX5_condition 97 = .ok (.if_icmp .ne 7, 3) := by decide +kernel
theorem dX5_condition_100 : decode cX5_condition 100 = .ok (.iconst 1, 1) := by decide +kernel
theorem dX5_condition_101 : decode cX5_condition 101 = .ok (.goto 4, 3) := by decide +kernel
theorem dX5_condition_104 : decode cX5_condition 104 = .ok (.iconst 0, 1) := by decide +kernel
theorem dX5_condition_105 : decode cX5_condition 105 = .ok (.istore_n 1, 1) := by decide +kernel
theorem dX5_condition_106 : decode cX5_condition 106 = .ok (.iinc 2 1, 3) := by decide +kernel
theorem dX5_condition_109 : decode cX5_condition 109 = .ok (.goto (-96), 3) := by decide +kernel
theorem dX5_condition_112 : decode cX5_condition 112 = .ok (.iload_n 1, 1) := by decide +kernel
theorem dX5_condition_113 : decode cX5_condition 113 = .ok (.ifCond .eq 10, 3) := by decide +kernel
theorem dX5_condition_116 : decode cX5_condition 116 = .ok (.aload_n 0, 1) := by decide +kernel
theorem dX5_condition_117 : decode cX5_condition 117 = .ok (.bipush 25, 2) := by decide +kernel
theorem dX5_condition_119 : decode cX5_condition 119 = .ok (.iconst 0, 1) := by decide +kernel
theorem dX5_condition_120 : decode cX5_condition 120 = .ok (.invokevirtual 188, 3) := by decide +kernel
theorem dX5_condition_123 : decode cX5_condition 123 = .ok (.iconst 1, 1) := by decide +kernel
theorem dX5_condition_124 : decode cX5_condition 124 = .ok (.ireturn, 1) := by decide +kernel
theorem dX5_literal_0 : decode cX5_literal 0 = .ok (.iconst 0, 1) := by decide +kernel
theorem dX5_literal_1 : decode cX5_literal 1 = .ok (.istore_n 1, 1) := by decide +kernel
theorem dX5_literal_2 : decode cX5_literal 2 = .ok (.iconst 0, 1) := by decide +kernel
theorem dX5_literal_3 : decode cX5_literal 3 = .ok (.istore_n 2, 1) := by decide +kernel
theorem dX5_literal_4 : decode cX5_literal 4 = .ok (.iload_n 2, 1) := by decide +kernel
theorem dX5_literal_5 : decode cX5_literal 5 = .ok (.sipush 400, 3) := by decide +kernel
theorem dX5_literal_8 : decode cX5_literal 8 = .ok (.if_icmp .gt 39, 3) := by decide +kernel
theorem dX5_literal_11 : decode cX5_literal 11 = .ok (.aload_n 0, 1) := by decide +kernel
theorem dX5_literal_12 : decode cX5_literal 12 = .ok (.getfield 47, 3) := by decide +kernel
theorem dX5_literal_15 : decode cX5_literal 15 = .ok (.bipush 27, 2) := by decide +kernel
theorem dX5_literal_17 : decode cX5_literal 17 = .ok (.if_icmp .ne 30, 3) := by decide +kernel
theorem dX5_literal_20 : decode cX5_literal 20 = .ok (.aload_n 0, 1) := by decide +kernel
theorem dX5_literal_21 : decode cX5_literal 21 = .ok (.bipush 27, 2) := by decide +kernel
theorem dX5_literal_23 : decode cX5_literal 23 = .ok (.invokevirtual 88, 3) := by decide +kernel
theorem dX5_literal_26 : decode cX5_literal 26 = .ok (.ifCond .ne 5, 3) := by decide +kernel
theorem dX5_literal_29 : decode cX5_literal 29 = .ok (.iconst 0, 1) := by decide +kernel
theorem dX5_literal_30 : decode cX5_literal 30 = .ok (.ireturn, 1) := by decide +kernel
theorem dX5_literal_31 : decode cX5_literal 31 = .ok (.iload_n 1, 1) := by decide +kernel
theorem dX5_literal_32 : decode cX5_literal 32 = .ok (.ifCond .ne 7, 3) := by decide +kernel
theorem dX5_literal_35 : decode cX5_literal 35 = .ok (.iconst 1, 1) := by decide +kernel
theorem dX5_literal_36 : decode cX5_literal 36 = .ok (.goto 4, 3) := by decide +kernel
theorem dX5_literal_39 : decode cX5_literal 39 = .ok (.iconst 0, 1) := by decide +kernel
theorem dX5_literal_40 : decode cX5_literal 40 = .ok (.istore_n 1, 1) := by decide +kernel
theorem dX5_literal_41 : decode cX5_literal 41 = .ok (.iinc 2 1, 3) := by decide +kernel
theorem dX5_literal_44 : decode cX5_literal 44 = .ok (.goto (-40), 3) := by decide +kernel
theorem dX5_literal_47 : decode cX5_literal 47 = .ok (.aload_n 0, 1) := by decide +kernel
theorem dX5_literal_48 : decode cX5_literal 48 = .ok (.getfield 47, 3) := by decide +kernel
theorem dX5_literal_51 : decode cX5_literal 51 = .ok (.bipush 28, 2) := by decide +kernel
theorem dX5_literal_53 : decode cX5_literal 53 = .ok (.if_icmp .ne 48, 3) := by decide +kernel
theorem dX5_literal_56 : decode cX5_literal 56 = .ok (.aload_n 0, 1) := by decide +kernel
theorem dX5_literal_57 : decode cX5_literal 57 = .ok (.bipush 28, 2) := by decide +kernel
theorem dX5_literal_59 : decode cX5_literal 59 = .ok (.invokevirtual 88, 3) := by decide +kernel
theorem dX5_literal_62 : decode cX5_literal 62 = .ok (.ifCond .eq 21, 3) := by decide +kernel
theorem dX5_literal_65 : decode cX5_literal 65 = .ok (.aload_n 0, 1) := by decide +kernel
theorem dX5_literal_66 : decode cX5_literal 66 = .ok (.aload_n 0, 1) := by decide +kernel
theorem dX5_literal_67 : decode cX5_literal 67 = .ok (.getfield 9, 3) := by decide +kernel
theorem dX5_literal_70 : decode cX5_literal 70 = .ok (.aload_n 0, 1) := by decide +kernel
theorem dX5_literal_71 : decode cX5_literal 71 = .ok (.getfield 29, 3) := by decide +kernel
theorem dX5_literal_74 : decode cX5_literal 74 = .ok (.getfield 91, 3) := by decide +kernel
theorem dX5_literal_77 : decode cX5_literal 77 = .ok (.invokevirtual 126, 3) := by decide +kernel
theorem dX5_literal_80 : decode cX5_literal 80 = .ok (.goto 4, 3) := by decide +kernel
theorem dX5_literal_83 : decode cX5_literal 83 = .ok (.iconst (-1), 1) := by decide +kernel
theorem dX5_literal_84 : decode cX5_literal 84 = .ok (.istore_n 2, 1) := by decide +kernel
theorem dX5_literal_85 : decode cX5_literal 85 = .ok (.iload_n 2, 1) := by decide +kernel
theorem dX5_literal_86 : decode cX5_literal 86 = .ok (.ifCond .ge 5, 3) := by decide +kernel
theorem dX5_literal_89 : decode cX5_literal 89 = .ok (.iconst 0, 1) := by decide +kernel
theorem dX5_literal_90 : decode cX5_literal 90 = .ok (.ireturn, 1) := by decide +kernel
theorem dX5_literal_91 : decode cX5_literal 91 = .ok (.aload_n 0, 1) := by decide +kernel
theorem dX5_literal_92 : decode cX5_literal 92 = .ok (.bipush 28, 2) := by decide +kernel
theorem dX5_literal_94 : decode cX5_literal 94 = .ok (.iload_n 2, 1) := by decide +kernel
theorem dX5_literal_95 : decode cX5_literal 95 = .ok (.invokevirtual 188, 3) := by decide +kernel
theorem dX5_literal_98 : decode cX5_literal 98 = .ok (.goto 97, 3) := by decide +kernel
theorem dX5_literal_101 : decode cX5_literal 101 = .ok (.aload_n 0, 1) := by decide +kernel
theorem dX5_literal_102 : decode cX5_literal 102 = .ok (.getfield 47, 3) := by decide +kernel
theorem dX5_literal_105 : decode cX5_literal 105 = .ok (.bipush 29, 2) := by decide +kernel
theorem dX5_literal_107 : decode cX5_literal 107 = .ok (.if_icmp .ne 34, 3) := by decide +kernel
theorem dX5_literal_110 : decode cX5_literal 110 = .ok (.aload_n 0, 1) := by decide +kernel
theorem dX5_literal_111 : decode cX5_literal 111 = .ok (.bipush 29, 2) := by decide +kernel
theorem dX5_literal_113 : decode cX5_literal 113 = .ok (.invokevirtual 88, 3) := by decide +kernel
theorem dX5_literal_116 : decode cX5_literal 116 = .ok (.ifCond .ne 5, 3) := by decide +kernel
theorem dX5_literal_119 : decode cX5_literal 119 = .ok (.iconst 0, 1) := by decide +kernel
theorem dX5_literal_120 : decode cX5_literal 120 = .ok (.ireturn, 1) := by decide +kernel
theorem dX5_literal_121 : decode cX5_literal 121 = .ok (.aload_n 0, 1) := by decide +kernel
theorem dX5_literal_122 : decode cX5_literal 122 = .ok (.bipush 29, 2) := by decide +kernel
theorem dX5_literal_124 : decode cX5_literal 124 = .ok (.aload_n 0, 1) := by decide +kernel
theorem dX5_literal_125 : decode cX5_literal 125 = .ok (.getfield 38, 3) := by decide +kernel
theorem dX5_literal_128 : decode cX5_literal 128 = .ok (.invokevirtual 188, 3) := by decide +kernel
theorem dX5_literal_131 : decode cX5_literal 131 = .ok (.aload_n 0, 1) := by decide +kernel
theorem dX5_literal_132 : decode cX5_literal 132 = .ok (.iconst 2, 1) := by decide +kernel
theorem dX5_literal_133 : decode cX5_literal 133 = .ok (.invokevirtual 88, 3) := by decide +kernel
theorem dX5_literal_136 : decode cX5_literal 136 = .ok (.ifCond .ne 59, 3) := by decide +kernel
theorem dX5_literal_139 : decode cX5_literal 139 = .ok (.iconst 0, 1) := by decide +kernel
theorem dX5_literal_140 : decode cX5_literal 140 = .ok (.ireturn, 1) := by decide +kernel
theorem dX5_literal_141 : decode cX5_literal 141 = .ok (.aload_n 0, 1) := by decide +kernel
theorem dX5_literal_142 : decode cX5_literal 142 = .ok (.invokevirtual 173, 3) := by decide +kernel
theorem dX5_literal_145 : decode cX5_literal 145 = .ok (.ifCond .ne 5, 3) := by decide +kernel
theorem dX5_literal_148 : decode cX5_literal 148 = .ok (.iconst 0, 1) := by decide +kernel
theorem dX5_literal_149 : decode cX5_literal 149 = .ok (.ireturn, 1) := by decide +kernel
theorem dX5_literal_150 : decode cX5_literal 150 = .ok (.aload_n 0, 1) := by decide +kernel
theorem dX5_literal_151 : decode cX5_literal 151 = .ok (.getfield 47, 3) := by decide +kernel
theorem dX5_literal_154 : decode cX5_literal 154 = .ok (.istore_n 2, 1) := by decide +kernel
theorem dX5_literal_155 : decode cX5_literal 155 = .ok (.iload_n 2, 1) := by decide +kernel
theorem dX5_literal_156 : decode cX5_literal 156 = .ok (.bipush 9, 2) := by decide +kernel
theorem dX5_literal_158 : decode cX5_literal 158 = .ok (.bipush 12, 2) := by decide +kernel
theorem dX5_literal_160 : decode cX5_literal 160 = .ok (.invokestatic 108, 3) := by decide +kernel
theorem dX5_literal_163 : decode cX5_literal 163 = .ok (.ifCond .ne 9, 3) := by decide +kernel
theorem dX5_literal_166 : decode cX5_literal 166 = .ok (.aload_n 0, 1) := by decide +kernel
theorem dX5_literal_167 : decode cX5_literal 167 = .ok (.iconst 1, 1) := by decide +kernel
theorem dX5_literal_168 : decode cX5_literal 168 = .ok (.invokevirtual 79, 3) := by decide +kernel
theorem dX5_literal_171 : decode cX5_literal 171 = .ok (.ireturn, 1) := by decide +kernel
theorem dX5_literal_172 : decode cX5_literal 172 = .ok (.aload_n 0, 1) := by decide +kernel
theorem dX5_literal_173 : decode cX5_literal 173 = .ok (.iload_n 2, 1) := by decide +kernel
theorem dX5_literal_174 : decode cX5_literal 174 = .ok (.invokevirtual 88, 3) := by decide +kernel
theorem dX5_literal_177 : decode cX5_literal 177 = .ok (.ifCond .eq 10, 3) := by decide +kernel
theorem dX5_literal_180 : decode cX5_literal 180 = .ok (.aload_n 0, 1) := by decide +kernel
theorem dX5_literal_181 : decode cX5_literal 181 = .ok (.invokevirtual 173, 3) := by decide +kernel
theorem dX5_literal_184 : decode cX5_literal 184 = .ok (.ifCond .ne 5, 3) := by decide +kernel
theorem dX5_literal_187 : decode cX5_literal 187 = .ok (.iconst 0, 1) := by decide +kernel
theorem dX5_literal_188 : decode cX5_literal 188 = .ok (.ireturn, 1) := by decide +kernel
theorem dX5_literal_189 : decode cX5_literal 189 = .ok (.aload_n 0, 1) := by decide +kernel
theorem dX5_literal_190 : decode cX5_literal 190 = .ok (.iload_n 2, 1) := by decide +kernel
theorem dX5_literal_191 : decode cX5_literal 191 = .ok (.iconst 0, 1) := by decide +kernel
theorem dX5_literal_192 : decode cX5_literal 192 = .ok (.invokevirtual 188, 3) := by decide +kernel
theorem dX5_literal_195 : decode cX5_literal 195 = .ok (.iload_n 1, 1) := by decide +kernel
theorem dX5_literal_196 : decode cX5_literal 196 = .ok (.ifCond .eq 10, 3) := by decide +kernel
theorem dX5_literal_199 : decode cX5_literal 199 = .ok (.aload_n 0, 1) := by decide +kernel
theorem dX5_literal_200 : decode cX5_literal 200 = .ok (.bipush 27, 2) := by decide +kernel
theorem dX5_literal_202 : decode cX5_literal 202 = .ok (.iconst 0, 1) := by decide +kernel
theorem dX5_literal_203 : decode cX5_literal 203 = .ok (.invokevirtual 188, 3) := by decide +kernel
theorem dX5_literal_206 : decode cX5_literal 206 = .ok (.iconst 1, 1) := by decide +kernel
theorem dX5_literal_207 : decode cX5_literal 207 = .ok (.ireturn, 1) := by decide +kernel
theorem dX5_expression_0 : decode cX5_expression 0 = .ok (.iconst 0, 1) := by decide +kernel
theorem dX5_expression_1 : decode cX5_expression 1 = .ok (.istore_n 1, 1) := by decide +kernel
theorem dX5_expression_2 : decode cX5_expression 2 = .ok (.iconst 0, 1) := by decide +kernel
theorem dX5_expression_3 : decode cX5_expression 3 = .ok (.istore_n 2, 1) := by decide +kernel
theorem dX5_expression_4 : decode cX5_expression 4 = .ok (.iconst 1, 1) := by decide +kernel
theorem dX5_expression_5 : decode cX5_expression 5 = .ok (.istore_n 3, 1) := by decide +kernel
theorem dX5_expression_6 : decode cX5_expression 6 = .ok (.iconst 0, 1) := by decide +kernel
theorem dX5_expression_7 : decode cX5_expression 7 = .ok (.istore 4, 2) := by decide +kernel
theorem dX5_expression_9 : decode cX5_expression 9 = .ok (.iload 4, 2) := by decide +kernel
theorem dX5_expression_11 : decode cX5_expression 11 = .ok (.sipush 400, 3) := by decide +kernel
theorem dX5_expression_14 : decode cX5_expression 14 = .ok (.if_icmp .gt 254, 3) := by decide +kernel
theorem dX5_expression_17 : decode cX5_expression 17 = .ok (.aload_n 0, 1) := by decide +kernel
theorem dX5_expression_18 : decode cX5_expression 18 = .ok (.getfield 47, 3) := by decide +kernel
theorem dX5_expression_21 : decode cX5_expression 21 = .ok (.istore 5, 2) := by decide +kernel
theorem dX5_expression_23 : decode cX5_expression 23 = .ok (.iload_n 3, 1) := by decide +kernel
theorem dX5_expression_24 : decode cX5_expression 24 = .ok (.ifCond .eq 45, 3) := by decide +kernel
theorem dX5_expression_27 : decode cX5_expression 27 = .ok (.iload 5, 2) := by decide +kernel
theorem dX5_expression_29 : decode cX5_expression 29 = .ok (.bipush 14, 2) := by decide +kernel
theorem dX5_expression_31 : decode cX5_expression 31 = .ok (.if_icmp .ne 38, 3) := by decide +kernel
theorem dX5_expression_34 : decode cX5_expression 34 = .ok (.iload_n 2, 1) := by decide +kernel
theorem dX5_expression_35 : decode cX5_expression 35 = .ok (.bipush 6, 2) := by decide +kernel
theorem dX5_expression_37 : decode cX5_expression 37 = .ok (.if_icmp .ge 9, 3) := by decide +kernel
theorem dX5_expression_40 : decode cX5_expression 40 = .ok (.iload_n 1, 1) := by decide +kernel
theorem dX5_expression_41 : decode cX5_expression 41 = .ok (.bipush 64, 2) := by decide +kernel
theorem dX5_expression_43 : decode cX5_expression 43 = .ok (.if_icmp .lt 9, 3) := by decide +kernel
theorem dX5_expression_46 : decode cX5_expression 46 = .ok (.aload_n 0, 1) := by decide +kernel
theorem dX5_expression_47 : decode cX5_expression 47 = .ok (.iconst 2, 1) := by decide +kernel
theorem dX5_expression_48 : decode cX5_expression 48 = .ok (.invokevirtual 79, 3) := by decide +kernel
theorem dX5_expression_51 : decode cX5_expression 51 = .ok (.ireturn, 1) := by decide +kernel
theorem dX5_expression_52 : decode cX5_expression 52 = .ok (.iinc 2 1, 3) := by decide +kernel
theorem dX5_expression_55 : decode cX5_expression 55 = .ok (.aload_n 0, 1) := by decide +kernel
theorem dX5_expression_56 : decode cX5_expression 56 = .ok (.getfield 21, 3) := by decide +kernel
theorem dX5_expression_59 : decode cX5_expression 59 = .ok (.iload_n 1, 1) := by decide +kernel
theorem dX5_expression_60 : decode cX5_expression 60 = .ok (.bipush 14, 2) := by decide +kernel
theorem dX5_expression_62 : decode cX5_expression 62 = .ok (.iastore, 1) := by decide +kernel
theorem dX5_expression_63 : decode cX5_expression 63 = .ok (.iinc 1 1, 3) := by decide +kernel
theorem dX5_expression_66 : decode cX5_expression 66 = .ok (.goto 185, 3) := by decide +kernel
theorem dX5_expression_69 : decode cX5_expression 69 = .ok (.iload_n 3, 1) := by decide +kernel
theorem dX5_expression_70 : decode cX5_expression 70 = .ok (.ifCond .eq 61, 3) := by decide +kernel
theorem dX5_expression_73 : decode cX5_expression 73 = .ok (.iload 5, 2) := by decide +kernel
theorem dX5_expression_75 : decode cX5_expression 75 = .ok (.iconst 3, 1) := by decide +kernel
theorem dX5_expression_76 : decode cX5_expression 76 = .ok (.if_icmp .eq 21, 3) := by decide +kernel
theorem dX5_expression_79 : decode cX5_expression 79 = .ok (.iload 5, 2) := by decide +kernel
theorem dX5_expression_81 : decode cX5_expression 81 = .ok (.bipush 30, 2) := by decide +kernel
theorem dX5_expression_83 : decode cX5_expression 83 = .ok (.bipush 33, 2) := by decide +kernel
theorem dX5_expression_85 : decode cX5_expression 85 = .ok (.invokestatic 108, 3) := by decide +kernel
theorem dX5_expression_88 : decode cX5_expression 88 = .ok (.ifCond .ne 9, 3) := by decide +kernel
theorem dX5_expression_91 : decode cX5_expression 91 = .ok (.aload_n 0, 1) := by decide +kernel
theorem dX5_expression_92 : decode cX5_expression 92 = .ok (.iconst 1, 1) := by decide +kernel
theorem dX5_expression_93 : decode cX5_expression 93 = .ok (.invokevirtual 79, 3) := by decide +kernel
theorem dX5_expression_96 : decode cX5_expression 96 = .ok (.ireturn, 1) := by decide +kernel
theorem dX5_expression_97 : decode cX5_expression 97 = .ok (.aload_n 0, 1) := by decide +kernel
theorem dX5_expression_98 : decode cX5_expression 98 = .ok (.iload 5, 2) := by decide +kernel
theorem dX5_expression_100 : decode cX5_expression 100 = .ok (.iload 5, 2) := by decide +kernel
theorem dX5_expression_102 : decode cX5_expression 102 = .ok (.iconst 3, 1) := by decide +kernel
theorem dX5_expression_103 : decode cX5_expression 103 = .ok (.if_icmp .ne 19, 3) := by decide +kernel
theorem dX5_expression_106 : decode cX5_expression 106 = .ok (.aload_n 0, 1) := by decide +kernel
theorem dX5_expression_107 : decode cX5_expression 107 = .ok (.getfield 25, 3) := by decide +kernel
theorem dX5_expression_110 : decode cX5_expression 110 = .ok (.getfield 85, 3) := by decide +kernel
theorem dX5_expression_113 : decode cX5_expression 113 = .ok (.aload_n 0, 1) := by decide +kernel
theorem dX5_expression_114 : decode cX5_expression 114 = .ok (.getfield 38, 3) := by decide +kernel
theorem dX5_expression_117 : decode cX5_expression 117 = .ok (.laload, 1) := by decide +kernel
theorem dX5_expression_118 : decode cX5_expression 118 = .ok (.l2i, 1) := by decide +kernel
theorem dX5_expression_119 : decode cX5_expression 119 = .ok (.goto 4, 3) := by decide +kernel
theorem dX5_expression_122 : decode cX5_expression 122 = .ok (.iconst 0, 1) := by decide +kernel
theorem dX5_expression_123 : decode cX5_expression 123 = .ok (.invokevirtual 188, 3) := by decide +kernel
theorem dX5_expression_126 : decode cX5_expression 126 = .ok (.iconst 0, 1) := by decide +kernel
theorem dX5_expression_127 : decode cX5_expression 127 = .ok (.istore_n 3, 1) := by decide +kernel
theorem dX5_expression_128 : decode cX5_expression 128 = .ok (.goto 123, 3) := by decide +kernel
theorem dX5_expression_131 : decode cX5_expression 131 = .ok (.iconst 1, 1) := by decide +kernel
theorem dX5_expression_132 : decode cX5_expression 132 = .ok (.iload 5, 2) := by decide +kernel
theorem dX5_expression_134 : decode cX5_expression 134 = .ok (.invokestatic 191, 3) := by decide +kernel
theorem dX5_expression_137 : decode cX5_expression 137 = .ok (.invokestatic 195, 3) := by decide +kernel
theorem dX5_expression_140 : decode cX5_expression 140 = .ok (.istore 6, 2) := by decide +kernel
theorem dX5_expression_142 : decode cX5_expression 142 = .ok (.iload_n 1, 1) := by decide +kernel
theorem dX5_expression_143 : decode cX5_expression 143 = .ok (.ifCond .le 36, 3) := by decide +kernel
theorem dX5_expression_146 : decode cX5_expression 146 = .ok (.aload_n 0, 1) := by decide +kernel
theorem dX5_expression_147 : decode cX5_expression 147 = .ok (.getfield 21, 3) := by decide +kernel
theorem dX5_expression_150 : decode cX5_expression 150 = .ok (.iload_n 1, 1) := by decide +kernel
theorem dX5_expression_151 : decode cX5_expression 151 = .ok (.iconst 1, 1) := by decide +kernel
theorem dX5_expression_152 : decode cX5_expression 152 = .ok (.isub, 1) := by decide +kernel
theorem dX5_expression_153 : decode cX5_expression 153 = .ok (.iaload, 1) := by decide +kernel
theorem dX5_expression_154 : decode cX5_expression 154 = .ok (.invokestatic 191, 3) := by decide +kernel
theorem dX5_expression_157 : decode cX5_expression 157 = .ok (.iload 6, 2) := by decide +kernel
theorem dX5_expression_159 : decode cX5_expression 159 = .ok (.if_icmp .lt 20, 3) := by decide +kernel
theorem dX5_expression_162 : decode cX5_expression 162 = .ok (.iinc 1 (-1), 3) := by decide +kernel
theorem dX5_expression_165 : decode cX5_expression 165 = .ok (.aload_n 0, 1) := by decide +kernel
theorem dX5_expression_166 : decode cX5_expression 166 = .ok (.aload_n 0, 1) := by decide +kernel
theorem dX5_expression_167 : decode cX5_expression 167 = .ok (.getfield 21, 3) := by decide +kernel
theorem dX5_expression_170 : decode cX5_expression 170 = .ok (.iload_n 1, 1) := by decide +kernel
theorem dX5_expression_171 : decode cX5_expression 171 = .ok (.iaload, 1) := by decide +kernel
theorem dX5_expression_172 : decode cX5_expression 172 = .ok (.iconst 0, 1) := by decide +kernel
theorem dX5_expression_173 : decode cX5_expression 173 = .ok (.invokevirtual 188, 3) := by decide +kernel
theorem dX5_expression_176 : decode cX5_expression 176 = .ok (.goto (-34), 3) := by decide +kernel
theorem dX5_expression_179 : decode cX5_expression 179 = .ok (.iload 5, 2) := by decide +kernel
theorem dX5_expression_181 : decode cX5_expression 181 = .ok (.invokestatic 191, 3) := by decide +kernel
theorem dX5_expression_184 : decode cX5_expression 184 = .ok (.ifCond .le 25, 3) := by decide +kernel
theorem dX5_expression_187 : decode cX5_expression 187 = .ok (.iload_n 1, 1) := by decide +kernel
theorem dX5_expression_188 : decode cX5_expression 188 = .ok (.bipush 64, 2) := by decide +kernel
theorem dX5_expression_190 : decode cX5_expression 190 = .ok (.if_icmp .ge 19, 3) := by decide +kernel
theorem dX5_expression_193 : decode cX5_expression 193 = .ok (.aload_n 0, 1) := by decide +kernel
theorem dX5_expression_194 : decode cX5_expression 194 = .ok (.getfield 21, 3) := by decide +kernel
theorem dX5_expression_197 : decode cX5_expression 197 = .ok (.iload_n 1, 1) := by decide +kernel
theorem dX5_expression_198 : decode cX5_expression 198 = .ok (.iload 5, 2) := by decide +kernel
theorem dX5_expression_200 : decode cX5_expression 200 = .ok (.iastore, 1) := by decide +kernel
theorem dX5_expression_201 : decode cX5_expression 201 = .ok (.iinc 1 1, 3) := by decide +kernel
theorem dX5_expression_204 : decode cX5_expression 204 = .ok (.iconst 1, 1) := by decide +kernel
theorem dX5_expression_205 : decode cX5_expression 205 = .ok (.istore_n 3, 1) := by decide +kernel
theorem dX5_expression_206 : decode cX5_expression 206 = .ok (.goto 45, 3) := by decide +kernel
theorem dX5_expression_209 : decode cX5_expression 209 = .ok (.iload 5, 2) := by decide +kernel
theorem dX5_expression_211 : decode cX5_expression 211 = .ok (.bipush 15, 2) := by decide +kernel
theorem dX5_expression_213 : decode cX5_expression 213 = .ok (.if_icmp .ne 20, 3) := by decide +kernel
theorem dX5_expression_216 : decode cX5_expression 216 = .ok (.iload_n 2, 1) := by decide +kernel
theorem dX5_expression_217 : decode cX5_expression 217 = .ok (.ifCond .le 16, 3) := by decide +kernel
theorem dX5_expression_220 : decode cX5_expression 220 = .ok (.iload_n 1, 1) := by decide +kernel
theorem dX5_expression_221 : decode cX5_expression 221 = .ok (.ifCond .le 12, 3) := by decide +kernel
theorem dX5_expression_224 : decode cX5_expression 224 = .ok (.iinc 2 (-1), 3) := by decide +kernel
theorem dX5_expression_227 : decode cX5_expression 227 = .ok (.iinc 1 (-1), 3) := by decide +kernel
theorem dX5_expression_230 : decode cX5_expression 230 = .ok (.goto 21, 3) := by decide +kernel
theorem dX5_expression_233 : decode cX5_expression 233 = .ok (.iload_n 2, 1) := by decide +kernel
theorem dX5_expression_234 : decode cX5_expression 234 = .ok (.ifCond .eq 11, 3) := by decide +kernel
theorem dX5_expression_237 : decode cX5_expression 237 = .ok (.aload_n 0, 1) := by decide +kernel
theorem dX5_expression_238 : decode cX5_expression 238 = .ok (.iconst 1, 1) := by decide +kernel
theorem dX5_expression_239 : decode cX5_expression 239 = .ok (.invokevirtual 79, 3) := by decide +kernel
theorem dX5_expression_242 : decode cX5_expression 242 = .ok (.ifCond .eq 7, 3) := by decide +kernel
theorem dX5_expression_245 : decode cX5_expression 245 = .ok (.iconst 1, 1) := by decide +kernel
theorem dX5_expression_246 : decode cX5_expression 246 = .ok (.goto 4, 3) := by decide +kernel
theorem dX5_expression_249 : decode cX5_expression 249 = .ok (.iconst 0, 1) := by decide +kernel
theorem dX5_expression_250 : decode cX5_expression 250 = .ok (.ireturn, 1) := by decide +kernel
theorem dX5_expression_251 : decode cX5_expression 251 = .ok (.aload_n 0, 1) := by decide +kernel
theorem dX5_expression_252 : decode cX5_expression 252 = .ok (.iload 5, 2) := by decide +kernel
theorem dX5_expression_254 : decode cX5_expression 254 = .ok (.invokevirtual 88, 3) := by decide +kernel
theorem dX5_expression_257 : decode cX5_expression 257 = .ok (.ifCond .ne 5, 3) := by decide +kernel
theorem dX5_expression_260 : decode cX5_expression 260 = .ok (.iconst 0, 1) := by decide +kernel
theorem dX5_expression_261 : decode cX5_expression 261 = .ok (.ireturn, 1) := by decide +kernel
theorem dX5_expression_262 : decode cX5_expression 262 = .ok (.iinc 4 1, 3) := by decide +kernel
theorem dX5_expression_265 : decode cX5_expression 265 = .ok (.goto (-256), 3) := by decide +kernel
theorem dX5_expression_268 : decode cX5_expression 268 = .ok (.aload_n 0, 1) := by decide +kernel
theorem dX5_expression_269 : decode cX5_expression 269 = .ok (.iconst 2, 1) := by decide +kernel
theorem dX5_expression_270 : decode cX5_expression 270 = .ok (.invokevirtual 79, 3) := by decide +kernel
theorem dX5_expression_273 : decode cX5_expression 273 = .ok (.ireturn, 1) := by decide +kernel
theorem dX5_closenessOf_0 : decode cX5_closenessOf 0 = .ok (.iload_n 0, 1) := by decide +kernel
theorem dX5_closenessOf_1 : decode cX5_closenessOf 1 = .ok (.tableswitch 35 5 8 #[31, 31, 33, 33], 31) := by decide +kernel
theorem dX5_closenessOf_32 : decode cX5_closenessOf 32 = .ok (.iconst 1, 1) := by decide +kernel
theorem dX5_closenessOf_33 : decode cX5_closenessOf 33 = .ok (.ireturn, 1) := by decide +kernel
theorem dX5_closenessOf_34 : decode cX5_closenessOf 34 = .ok (.iconst 2, 1) := by decide +kernel
theorem dX5_closenessOf_35 : decode cX5_closenessOf 35 = .ok (.ireturn, 1) := by decide +kernel
theorem dX5_closenessOf_36 : decode cX5_closenessOf 36 = .ok (.iconst 0, 1) := by decide +kernel
theorem dX5_closenessOf_37 : decode cX5_closenessOf 37 = .ok (.ireturn, 1) := by decide +kernel
theorem dX5_settle_0 : decode cX5_settle 0 = .ok (.aload_n 0, 1) := by decide +kernel
theorem dX5_settle_1 : decode cX5_settle 1 = .ok (.getfield 50, 3) := by decide +kernel
theorem dX5_settle_4 : decode cX5_settle 4 = .ok (.iconst 1, 1) := by decide +kernel
theorem dX5_settle_5 : decode cX5_settle 5 = .ok (.if_icmp .eq 11, 3) := by decide +kernel
theorem dX5_settle_8 : decode cX5_settle 8 = .ok (.aload_n 0, 1) := by decide +kernel
theorem dX5_settle_9 : decode cX5_settle 9 = .ok (.getfield 50, 3) := by decide +kernel
theorem dX5_settle_12 : decode cX5_settle 12 = .ok (.iconst 2, 1) := by decide +kernel
theorem dX5_settle_13 : decode cX5_settle 13 = .ok (.if_icmp .ne 4, 3) := by decide +kernel
theorem dX5_settle_16 : decode cX5_settle 16 = .ok (.return_, 1) := by decide +kernel
theorem dX5_settle_17 : decode cX5_settle 17 = .ok (.iconst 0, 1) := by decide +kernel
theorem dX5_settle_18 : decode cX5_settle 18 = .ok (.istore_n 1, 1) := by decide +kernel
theorem dX5_settle_19 : decode cX5_settle 19 = .ok (.iload_n 1, 1) := by decide +kernel
theorem dX5_settle_20 : decode cX5_settle 20 = .ok (.aload_n 0, 1) := by decide +kernel
theorem dX5_settle_21 : decode cX5_settle 21 = .ok (.getfield 29, 3) := by decide +kernel
theorem dX5_settle_24 : decode cX5_settle 24 = .ok (.getfield 101, 3) := by decide +kernel
theorem dX5_settle_27 : decode cX5_settle 27 = .ok (.if_icmp .ge 67, 3) := by decide +kernel
theorem dX5_settle_30 : decode cX5_settle 30 = .ok (.aload_n 0, 1) := by decide +kernel
theorem dX5_settle_31 : decode cX5_settle 31 = .ok (.getfield 29, 3) := by decide +kernel
theorem dX5_settle_34 : decode cX5_settle 34 = .ok (.getfield 133, 3) := by decide +kernel
theorem dX5_settle_37 : decode cX5_settle 37 = .ok (.iload_n 1, 1) := by decide +kernel
theorem dX5_settle_38 : decode cX5_settle 38 = .ok (.aaload, 1) := by decide +kernel
theorem dX5_settle_39 : decode cX5_settle 39 = .ok (.astore_n 2, 1) := by decide +kernel
theorem dX5_settle_40 : decode cX5_settle 40 = .ok (.aload_n 2, 1) := by decide +kernel
theorem dX5_settle_41 : decode cX5_settle 41 = .ok (.iconst 0, 1) := by decide +kernel
theorem dX5_settle_42 : decode cX5_settle 42 = .ok (.putfield 200, 3) := by decide +kernel
theorem dX5_settle_45 : decode cX5_settle 45 = .ok (.aload_n 2, 1) := by decide +kernel
theorem dX5_settle_46 : decode cX5_settle 46 = .ok (.getfield 152, 3) := by decide +kernel
theorem dX5_settle_49 : decode cX5_settle 49 = .ok (.istore_n 3, 1) := by decide +kernel
theorem dX5_settle_50 : decode cX5_settle 50 = .ok (.iload_n 3, 1) := by decide +kernel
theorem dX5_settle_51 : decode cX5_settle 51 = .ok (.aload_n 2, 1) := by decide +kernel
theorem dX5_settle_52 : decode cX5_settle 52 = .ok (.getfield 158, 3) := by decide +kernel
theorem dX5_settle_55 : decode cX5_settle 55 = .ok (.if_icmp .ge 33, 3) := by decide +kernel
theorem dX5_settle_58 : decode cX5_settle 58 = .ok (.aload_n 0, 1) := by decide +kernel
theorem dX5_settle_59 : decode cX5_settle 59 = .ok (.getfield 29, 3) := by decide +kernel
theorem dX5_settle_62 : decode cX5_settle 62 = .ok (.getfield 182, 3) := by decide +kernel
theorem dX5_settle_65 : decode cX5_settle 65 = .ok (.iload_n 3, 1) := by decide +kernel
theorem dX5_settle_66 : decode cX5_settle 66 = .ok (.iaload, 1) := by decide +kernel
theorem dX5_settle_67 : decode cX5_settle 67 = .ok (.sipush 255, 3) := by decide +kernel
theorem dX5_settle_70 : decode cX5_settle 70 = .ok (.iand, 1) := by decide +kernel
theorem dX5_settle_71 : decode cX5_settle 71 = .ok (.bipush 29, 2) := by decide +kernel
theorem dX5_settle_73 : decode cX5_settle 73 = .ok (.if_icmp .ne 9, 3) := by decide +kernel
theorem dX5_settle_76 : decode cX5_settle 76 = .ok (.aload_n 0, 1) := by decide +kernel
theorem dX5_settle_77 : decode cX5_settle 77 = .ok (.aload_n 2, 1) := by decide +kernel
theorem dX5_settle_78 : decode cX5_settle 78 = .ok (.iload_n 3, 1) := by decide +kernel
theorem dX5_settle_79 : decode cX5_settle 79 = .ok (.invokevirtual 203, 3) := by decide +kernel
theorem dX5_settle_82 : decode cX5_settle 82 = .ok (.iinc 3 1, 3) := by decide +kernel
theorem dX5_settle_85 : decode cX5_settle 85 = .ok (.goto (-35), 3) := by decide +kernel
theorem dX5_settle_88 : decode cX5_settle 88 = .ok (.iinc 1 1, 3) := by decide +kernel
theorem dX5_settle_91 : decode cX5_settle 91 = .ok (.goto (-72), 3) := by decide +kernel
theorem dX5_settle_94 : decode cX5_settle 94 = .ok (.return_, 1) := by decide +kernel
theorem dX5_settleRead_0 : decode cX5_settleRead 0 = .ok (.aload_n 0, 1) := by decide +kernel
theorem dX5_settleRead_1 : decode cX5_settleRead 1 = .ok (.getfield 29, 3) := by decide +kernel
theorem dX5_settleRead_4 : decode cX5_settleRead 4 = .ok (.getfield 182, 3) := by decide +kernel
theorem dX5_settleRead_7 : decode cX5_settleRead 7 = .ok (.iload_n 2, 1) := by decide +kernel
theorem dX5_settleRead_8 : decode cX5_settleRead 8 = .ok (.iaload, 1) := by decide +kernel
theorem dX5_settleRead_9 : decode cX5_settleRead 9 = .ok (.bipush 8, 2) := by decide +kernel
theorem dX5_settleRead_11 : decode cX5_settleRead 11 = .ok (.ishr, 1) := by decide +kernel
theorem dX5_settleRead_12 : decode cX5_settleRead 12 = .ok (.istore_n 3, 1) := by decide +kernel
theorem dX5_settleRead_13 : decode cX5_settleRead 13 = .ok (.iload_n 3, 1) := by decide +kernel
theorem dX5_settleRead_14 : decode cX5_settleRead 14 = .ok (.iconst 0, 1) := by decide +kernel
theorem dX5_settleRead_15 : decode cX5_settleRead 15 = .ok (.sipush 400, 3) := by decide +kernel
theorem dX5_settleRead_18 : decode cX5_settleRead 18 = .ok (.invokestatic 108, 3) := by decide +kernel
theorem dX5_settleRead_21 : decode cX5_settleRead 21 = .ok (.ifCond .ne 4, 3) := by decide +kernel
theorem dX5_settleRead_24 : decode cX5_settleRead 24 = .ok (.return_, 1) := by decide +kernel
theorem dX5_settleRead_25 : decode cX5_settleRead 25 = .ok (.aload_n 0, 1) := by decide +kernel
theorem dX5_settleRead_26 : decode cX5_settleRead 26 = .ok (.getfield 18, 3) := by decide +kernel
theorem dX5_settleRead_29 : decode cX5_settleRead 29 = .ok (.aload_n 0, 1) := by decide +kernel
theorem dX5_settleRead_30 : decode cX5_settleRead 30 = .ok (.getfield 29, 3) := by decide +kernel
theorem dX5_settleRead_33 : decode cX5_settleRead 33 = .ok (.getfield 101, 3) := by decide +kernel
theorem dX5_settleRead_36 : decode cX5_settleRead 36 = .ok (.aload_n 0, 1) := by decide +kernel
theorem dX5_settleRead_37 : decode cX5_settleRead 37 = .ok (.getfield 25, 3) := by decide +kernel
theorem dX5_settleRead_40 : decode cX5_settleRead 40 = .ok (.getfield 85, 3) := by decide +kernel
theorem dX5_settleRead_43 : decode cX5_settleRead 43 = .ok (.iload_n 3, 1) := by decide +kernel
theorem dX5_settleRead_44 : decode cX5_settleRead 44 = .ok (.laload, 1) := by decide +kernel
theorem dX5_settleRead_45 : decode cX5_settleRead 45 = .ok (.invokestatic 94, 3) := by decide +kernel
theorem dX5_settleRead_48 : decode cX5_settleRead 48 = .ok (.istore 4, 2) := by decide +kernel
theorem dX5_settleRead_50 : decode cX5_settleRead 50 = .ok (.iload 4, 2) := by decide +kernel
theorem dX5_settleRead_52 : decode cX5_settleRead 52 = .ok (.ifCond .ge 12, 3) := by decide +kernel
theorem dX5_settleRead_55 : decode cX5_settleRead 55 = .ok (.aload_n 0, 1) := by decide +kernel
theorem dX5_settleRead_56 : decode cX5_settleRead 56 = .ok (.iconst 4, 1) := by decide +kernel
theorem dX5_settleRead_57 : decode cX5_settleRead 57 = .ok (.iload_n 3, 1) := by decide +kernel
theorem dX5_settleRead_58 : decode cX5_settleRead 58 = .ok (.invokevirtual 104, 3) := by decide +kernel
theorem dX5_settleRead_61 : decode cX5_settleRead 61 = .ok (.goto 33, 3) := by decide +kernel
theorem dX5_settleRead_64 : decode cX5_settleRead 64 = .ok (.aload_n 0, 1) := by decide +kernel
theorem dX5_settleRead_65 : decode cX5_settleRead 65 = .ok (.getfield 29, 3) := by decide +kernel
theorem dX5_settleRead_68 : decode cX5_settleRead 68 = .ok (.getfield 182, 3) := by decide +kernel
theorem dX5_settleRead_71 : decode cX5_settleRead 71 = .ok (.iload_n 2, 1) := by decide +kernel
theorem dX5_settleRead_72 : decode cX5_settleRead 72 = .ok (.bipush 29, 2) := by decide +kernel
theorem dX5_settleRead_74 : decode cX5_settleRead 74 = .ok (.iload 4, 2) := by decide +kernel
theorem dX5_settleRead_76 : decode cX5_settleRead 76 = .ok (.bipush 8, 2) := by decide +kernel
theorem dX5_settleRead_78 : decode cX5_settleRead 78 = .ok (.ishl, 1) := by decide +kernel
theorem dX5_settleRead_79 : decode cX5_settleRead 79 = .ok (.ior, 1) := by decide +kernel
theorem dX5_settleRead_80 : decode cX5_settleRead 80 = .ok (.iastore, 1) := by decide +kernel
theorem dX5_settleRead_81 : decode cX5_settleRead 81 = .ok (.aload_n 1, 1) := by decide +kernel
theorem dX5_settleRead_82 : decode cX5_settleRead 82 = .ok (.dup, 1) := by decide +kernel
theorem dX5_settleRead_83 : decode cX5_settleRead 83 = .ok (.getfield 200, 3) := by decide +kernel
theorem dX5_settleRead_86 : decode cX5_settleRead 86 = .ok (.iconst 1, 1) := by decide +kernel
theorem dX5_settleRead_87 : decode cX5_settleRead 87 = .ok (.iload 4, 2) := by decide +kernel
theorem dX5_settleRead_89 : decode cX5_settleRead 89 = .ok (.ishl, 1) := by decide +kernel
theorem dX5_settleRead_90 : decode cX5_settleRead 90 = .ok (.ior, 1) := by decide +kernel
theorem dX5_settleRead_91 : decode cX5_settleRead 91 = .ok (.putfield 200, 3) := by decide +kernel
theorem dX5_settleRead_94 : decode cX5_settleRead 94 = .ok (.return_, 1) := by decide +kernel
theorem dX6_init_0 : decode cX6_init 0 = .ok (.aload_n 0, 1) := by decide +kernel
theorem dX6_init_1 : decode cX6_init 1 = .ok (.invokespecial 3, 3) := by decide +kernel
theorem dX6_init_4 : decode cX6_init 4 = .ok (.aload_n 0, 1) := by decide +kernel
theorem dX6_init_5 : decode cX6_init 5 = .ok (.bipush 64, 2) := by decide +kernel
theorem dX6_init_7 : decode cX6_init 7 = .ok (.newarray .int, 2) := by decide +kernel
theorem dX6_init_9 : decode cX6_init 9 = .ok (.putfield 9, 3) := by decide +kernel
theorem dX6_init_12 : decode cX6_init 12 = .ok (.aload_n 0, 1) := by decide +kernel
theorem dX6_init_13 : decode cX6_init 13 = .ok (.iconst 4, 1) := by decide +kernel
theorem dX6_init_14 : decode cX6_init 14 = .ok (.newarray .int, 2) := by decide +kernel
theorem dX6_init_16 : decode cX6_init 16 = .ok (.putfield 15, 3) := by decide +kernel
theorem dX6_init_19 : decode cX6_init 19 = .ok (.aload_n 0, 1) := by decide +kernel
theorem dX6_init_20 : decode cX6_init 20 = .ok (.sipush 600, 3) := by decide +kernel
theorem dX6_init_23 : decode cX6_init 23 = .ok (.newarray .int, 2) := by decide +kernel
theorem dX6_init_25 : decode cX6_init 25 = .ok (.putfield 18, 3) := by decide +kernel
theorem dX6_init_28 : decode cX6_init 28 = .ok (.aload_n 0, 1) := by decide +kernel
theorem dX6_init_29 : decode cX6_init 29 = .ok (.sipush 240, 3) := by decide +kernel
theorem dX6_init_32 : decode cX6_init 32 = .ok (.newarray .int, 2) := by decide +kernel
theorem dX6_init_34 : decode cX6_init 34 = .ok (.putfield 21, 3) := by decide +kernel
theorem dX6_init_37 : decode cX6_init 37 = .ok (.aload_n 0, 1) := by decide +kernel
theorem dX6_init_38 : decode cX6_init 38 = .ok (.aload_n 1, 1) := by decide +kernel
theorem dX6_init_39 : decode cX6_init 39 = .ok (.putfield 24, 3) := by decide +kernel
theorem dX6_init_42 : decode cX6_init 42 = .ok (.return_, 1) := by decide +kernel
theorem dX6_fillTables_0 : decode cX6_fillTables 0 = .ok (.iconst 0, 1) := by decide +kernel
theorem dX6_fillTables_1 : decode cX6_fillTables 1 = .ok (.istore_n 1, 1) := by decide +kernel
theorem dX6_fillTables_2 : decode cX6_fillTables 2 = .ok (.iload_n 1, 1) := by decide +kernel
theorem dX6_fillTables_3 : decode cX6_fillTables 3 = .ok (.bipush 60, 2) := by decide +kernel
theorem dX6_fillTables_5 : decode cX6_fillTables 5 = .ok (.if_icmp .ge 108, 3) := by decide +kernel
theorem dX6_fillTables_8 : decode cX6_fillTables 8 = .ok (.iconst 0, 1) := by decide +kernel
theorem dX6_fillTables_9 : decode cX6_fillTables 9 = .ok (.istore_n 2, 1) := by decide +kernel
theorem dX6_fillTables_10 : decode cX6_fillTables 10 = .ok (.iload_n 2, 1) := by decide +kernel
theorem dX6_fillTables_11 : decode cX6_fillTables 11 = .ok (.aload_n 0, 1) := by decide +kernel
theorem dX6_fillTables_12 : decode cX6_fillTables 12 = .ok (.getfield 24, 3) := by decide +kernel
theorem dX6_fillTables_15 : decode cX6_fillTables 15 = .ok (.getfield 28, 3) := by decide +kernel
theorem dX6_fillTables_18 : decode cX6_fillTables 18 = .ok (.if_icmp .ge 47, 3) := by decide +kernel
theorem dX6_fillTables_21 : decode cX6_fillTables 21 = .ok (.aload_n 0, 1) := by decide +kernel
theorem dX6_fillTables_22 : decode cX6_fillTables 22 = .ok (.bipush 22, 2) := by decide +kernel
theorem dX6_fillTables_24 : decode cX6_fillTables 24 = .ok (.iload_n 1, 1) := by decide +kernel
theorem dX6_fillTables_25 : decode cX6_fillTables 25 = .ok (.aload_n 0, 1) := by decide +kernel
theorem dX6_fillTables_26 : decode cX6_fillTables 26 = .ok (.getfield 24, 3) := by decide +kernel
theorem dX6_fillTables_29 : decode cX6_fillTables 29 = .ok (.getfield 34, 3) := by decide +kernel
theorem dX6_fillTables_32 : decode cX6_fillTables 32 = .ok (.iload_n 2, 1) := by decide +kernel
theorem dX6_fillTables_33 : decode cX6_fillTables 33 = .ok (.iaload, 1) := by decide +kernel
theorem dX6_fillTables_34 : decode cX6_fillTables 34 = .ok (.iload_n 1, 1) := by decide +kernel
theorem dX6_fillTables_35 : decode cX6_fillTables 35 = .ok (.iadd, 1) := by decide +kernel
theorem dX6_fillTables_36 : decode cX6_fillTables 36 = .ok (.iconst 0, 1) := by decide +kernel
theorem dX6_fillTables_37 : decode cX6_fillTables 37 = .ok (.iconst 0, 1) := by decide +kernel
theorem dX6_fillTables_38 : decode cX6_fillTables 38 = .ok (.invokevirtual 37, 3) := by decide +kernel
theorem dX6_fillTables_41 : decode cX6_fillTables 41 = .ok (.istore_n 3, 1) := by decide +kernel
theorem dX6_fillTables_42 : decode cX6_fillTables 42 = .ok (.aload_n 0, 1) := by decide +kernel
theorem dX6_fillTables_43 : decode cX6_fillTables 43 = .ok (.getfield 18, 3) := by decide +kernel
theorem dX6_fillTables_46 : decode cX6_fillTables 46 = .ok (.iload_n 2, 1) := by decide +kernel
theorem dX6_fillTables_47 : decode cX6_fillTables 47 = .ok (.bipush 60, 2) := by decide +kernel
theorem dX6_fillTables_49 : decode cX6_fillTables 49 = .ok (.imul, 1) := by decide +kernel
theorem dX6_fillTables_50 : decode cX6_fillTables 50 = .ok (.iload_n 1, 1) := by decide +kernel
theorem dX6_fillTables_51 : decode cX6_fillTables 51 = .ok (.iadd, 1) := by decide +kernel
theorem dX6_fillTables_52 : decode cX6_fillTables 52 = .ok (.iload_n 3, 1) := by decide +kernel
theorem dX6_fillTables_53 : decode cX6_fillTables 53 = .ok (.bipush 100, 2) := by decide +kernel
theorem dX6_fillTables_55 : decode cX6_fillTables 55 = .ok (.invokestatic 41, 3) := by decide +kernel
theorem dX6_fillTables_58 : decode cX6_fillTables 58 = .ok (.iastore, 1) := by decide +kernel
theorem dX6_fillTables_59 : decode cX6_fillTables 59 = .ok (.iinc 2 1, 3) := by decide +kernel
theorem dX6_fillTables_62 : decode cX6_fillTables 62 = .ok (.goto (-52), 3) := by decide +kernel
theorem dX6_fillTables_65 : decode cX6_fillTables 65 = .ok (.iconst 0, 1) := by decide +kernel
theorem dX6_fillTables_66 : decode cX6_fillTables 66 = .ok (.istore_n 2, 1) := by decide +kernel
theorem dX6_fillTables_67 : decode cX6_fillTables 67 = .ok (.iload_n 2, 1) := by decide +kernel
theorem dX6_fillTables_68 : decode cX6_fillTables 68 = .ok (.iconst 4, 1) := by decide +kernel
theorem dX6_fillTables_69 : decode cX6_fillTables 69 = .ok (.if_icmp .ge 38, 3) := by decide +kernel
theorem dX6_fillTables_72 : decode cX6_fillTables 72 = .ok (.aload_n 0, 1) := by decide +kernel
theorem dX6_fillTables_73 : decode cX6_fillTables 73 = .ok (.bipush 23, 2) := by decide +kernel
theorem dX6_fillTables_75 : decode cX6_fillTables 75 = .ok (.iload_n 1, 1) := by decide +kernel
theorem dX6_fillTables_76 : decode cX6_fillTables 76 = .ok (.iconst 0, 1) := by decide +kernel
theorem dX6_fillTables_77 : decode cX6_fillTables 77 = .ok (.iload_n 2, 1) := by decide +kernel
theorem dX6_fillTables_78 : decode cX6_fillTables 78 = .ok (.iconst 0, 1) := by decide +kernel
theorem dX6_fillTables_79 : decode cX6_fillTables 79 = .ok (.invokevirtual 37, 3) := by decide +kernel
theorem dX6_fillTables_82 : decode cX6_fillTables 82 = .ok (.istore_n 3, 1) := by decide +kernel
theorem dX6_fillTables_83 : decode cX6_fillTables 83 = .ok (.aload_n 0, 1) := by decide +kernel
theorem dX6_fillTables_84 : decode cX6_fillTables 84 = .ok (.getfield 21, 3) := by decide +kernel
theorem dX6_fillTables_87 : decode cX6_fillTables 87 = .ok (.iload_n 2, 1) := by decide +kernel
theorem dX6_fillTables_88 : decode cX6_fillTables 88 = .ok (.bipush 60, 2) := by decide +kernel
theorem dX6_fillTables_90 : decode cX6_fillTables 90 = .ok (.imul, 1) := by decide +kernel
theorem dX6_fillTables_91 : decode cX6_fillTables 91 = .ok (.iload_n 1, 1) := by decide +kernel
theorem dX6_fillTables_92 : decode cX6_fillTables 92 = .ok (.iadd, 1) := by decide +kernel
theorem dX6_fillTables_93 : decode cX6_fillTables 93 = .ok (.iload_n 3, 1) := by decide +kernel
theorem dX6_fillTables_94 : decode cX6_fillTables 94 = .ok (.sipush 999, 3) := by decide +kernel
theorem dX6_fillTables_97 : decode cX6_fillTables 97 = .ok (.invokestatic 41, 3) := by decide +kernel
theorem dX6_fillTables_100 : decode cX6_fillTables 100 = .ok (.iastore, 1) := by decide +kernel
theorem dX6_fillTables_101 : decode cX6_fillTables 101 = .ok (.iinc 2 1, 3) := by decide +kernel
theorem dX6_fillTables_104 : decode cX6_fillTables 104 = .ok (.goto (-37), 3) := by decide +kernel
theorem dX6_fillTables_107 : decode cX6_fillTables 107 = .ok (.iinc 1 1, 3) := by decide +kernel
theorem dX6_fillTables_110 : decode cX6_fillTables 110 = .ok (.goto (-108), 3) := by decide +kernel
theorem dX6_fillTables_113 : decode cX6_fillTables 113 = .ok (.return_, 1) := by decide +kernel
theorem dX6_diesOf_0 : decode cX6_diesOf 0 = .ok (.iload_n 1, 1) := by decide +kernel
theorem dX6_diesOf_1 : decode cX6_diesOf 1 = .ok (.bipush 60, 2) := by decide +kernel
theorem dX6_diesOf_3 : decode cX6_diesOf 3 = .ok (.imul, 1) := by decide +kernel
theorem dX6_diesOf_4 : decode cX6_diesOf 4 = .ok (.iload_n 2, 1) := by decide +kernel
theorem dX6_diesOf_5 : decode cX6_diesOf 5 = .ok (.iadd, 1) := by decide +kernel
theorem dX6_diesOf_6 : decode cX6_diesOf 6 = .ok (.istore_n 3, 1) := by decide +kernel
theorem dX6_diesOf_7 : decode cX6_diesOf 7 = .ok (.iload_n 3, 1) := by decide +kernel
theorem dX6_diesOf_8 : decode cX6_diesOf 8 = .ok (.ifCond .lt 21, 3) := by decide +kernel
theorem dX6_diesOf_11 : decode cX6_diesOf 11 = .ok (.iload_n 3, 1) := by decide +kernel
theorem dX6_diesOf_12 : decode cX6_diesOf 12 = .ok (.aload_n 0, 1) := by decide +kernel
theorem dX6_diesOf_13 : decode cX6_diesOf 13 = .ok (.getfield 18, 3) := by decide +kernel
theorem dX6_diesOf_16 : decode cX6_diesOf 16 = .ok (.arraylength, 1) := by decide +kernel
theorem dX6_diesOf_17 : decode cX6_diesOf 17 = .ok (.if_icmp .ge 12, 3) := by decide +kernel
theorem dX6_diesOf_20 : decode cX6_diesOf 20 = .ok (.aload_n 0, 1) := by decide +kernel
theorem dX6_diesOf_21 : decode cX6_diesOf 21 = .ok (.getfield 18, 3) := by decide +kernel
theorem dX6_diesOf_24 : decode cX6_diesOf 24 = .ok (.iload_n 3, 1) := by decide +kernel
theorem dX6_diesOf_25 : decode cX6_diesOf 25 = .ok (.iaload, 1) := by decide +kernel
theorem dX6_diesOf_26 : decode cX6_diesOf 26 = .ok (.goto 4, 3) := by decide +kernel
theorem dX6_diesOf_29 : decode cX6_diesOf 29 = .ok (.iconst 0, 1) := by decide +kernel
theorem dX6_diesOf_30 : decode cX6_diesOf 30 = .ok (.ireturn, 1) := by decide +kernel
theorem dX6_feeOf_0 : decode cX6_feeOf 0 = .ok (.iload_n 1, 1) := by decide +kernel
theorem dX6_feeOf_1 : decode cX6_feeOf 1 = .ok (.bipush 60, 2) := by decide +kernel
theorem dX6_feeOf_3 : decode cX6_feeOf 3 = .ok (.imul, 1) := by decide +kernel
theorem dX6_feeOf_4 : decode cX6_feeOf 4 = .ok (.iload_n 2, 1) := by decide +kernel
theorem dX6_feeOf_5 : decode cX6_feeOf 5 = .ok (.iadd, 1) := by decide +kernel
theorem dX6_feeOf_6 : decode cX6_feeOf 6 = .ok (.istore_n 3, 1) := by decide +kernel
theorem dX6_feeOf_7 : decode cX6_feeOf 7 = .ok (.iload_n 3, 1) := by decide +kernel
theorem dX6_feeOf_8 : decode cX6_feeOf 8 = .ok (.ifCond .lt 21, 3) := by decide +kernel
theorem dX6_feeOf_11 : decode cX6_feeOf 11 = .ok (.iload_n 3, 1) := by decide +kernel
theorem dX6_feeOf_12 : decode cX6_feeOf 12 = .ok (.aload_n 0, 1) := by decide +kernel
theorem dX6_feeOf_13 : decode cX6_feeOf 13 = .ok (.getfield 21, 3) := by decide +kernel
theorem dX6_feeOf_16 : decode cX6_feeOf 16 = .ok (.arraylength, 1) := by decide +kernel
theorem dX6_feeOf_17 : decode cX6_feeOf 17 = .ok (.if_icmp .ge 12, 3) := by decide +kernel
theorem dX6_feeOf_20 : decode cX6_feeOf 20 = .ok (.aload_n 0, 1) := by decide +kernel
theorem dX6_feeOf_21 : decode cX6_feeOf 21 = .ok (.getfield 21, 3) := by decide +kernel
theorem dX6_feeOf_24 : decode cX6_feeOf 24 = .ok (.iload_n 3, 1) := by decide +kernel
theorem dX6_feeOf_25 : decode cX6_feeOf 25 = .ok (.iaload, 1) := by decide +kernel
theorem dX6_feeOf_26 : decode cX6_feeOf 26 = .ok (.goto 4, 3) := by decide +kernel
theorem dX6_feeOf_29 : decode cX6_feeOf 29 = .ok (.iconst 0, 1) := by decide +kernel
theorem dX6_feeOf_30 : decode cX6_feeOf 30 = .ok (.ireturn, 1) := by decide +kernel
theorem dX6_gainIn_0 : decode cX6_gainIn 0 = .ok (.aload_n 0, 1) := by decide +kernel
theorem dX6_gainIn_1 : decode cX6_gainIn 1 = .ok (.bipush 24, 2) := by decide +kernel
theorem dX6_gainIn_3 : decode cX6_gainIn 3 = .ok (.iload_n 1, 1) := by decide +kernel
theorem dX6_gainIn_4 : decode cX6_gainIn 4 = .ok (.iconst 0, 1) := by decide +kernel
theorem dX6_gainIn_5 : decode cX6_gainIn 5 = .ok (.iload_n 2, 1) := by decide +kernel
theorem dX6_gainIn_6 : decode cX6_gainIn 6 = .ok (.iload_n 3, 1) := by decide +kernel
theorem dX6_gainIn_7 : decode cX6_gainIn 7 = .ok (.invokevirtual 37, 3) := by decide +kernel
theorem dX6_gainIn_10 : decode cX6_gainIn 10 = .ok (.sipush 999, 3) := by decide +kernel
theorem dX6_gainIn_13 : decode cX6_gainIn 13 = .ok (.invokestatic 41, 3) := by decide +kernel
theorem dX6_gainIn_16 : decode cX6_gainIn 16 = .ok (.ireturn, 1) := by decide +kernel
theorem dX6_ruled_0 : decode cX6_ruled 0 = .ok (.iload_n 1, 1) := by decide +kernel
theorem dX6_ruled_1 : decode cX6_ruled 1 = .ok (.bipush 22, 2) := by decide +kernel
theorem dX6_ruled_3 : decode cX6_ruled 3 = .ok (.isub, 1) := by decide +kernel
theorem dX6_ruled_4 : decode cX6_ruled 4 = .ok (.istore 6, 2) := by decide +kernel
theorem dX6_ruled_6 : decode cX6_ruled 6 = .ok (.aload_n 0, 1) := by decide +kernel
theorem dX6_ruled_7 : decode cX6_ruled 7 = .ok (.getfield 24, 3) := by decide +kernel
theorem dX6_ruled_10 : decode cX6_ruled 10 = .ok (.getfield 45, 3) := by decide +kernel
theorem dX6_ruled_13 : decode cX6_ruled 13 = .ok (.iload 6, 2) := by decide +kernel
theorem dX6_ruled_15 : decode cX6_ruled 15 = .ok (.iaload, 1) := by decide +kernel
theorem dX6_ruled_16 : decode cX6_ruled 16 = .ok (.ifCond .ge 15, 3) := by decide +kernel
theorem dX6_ruled_19 : decode cX6_ruled 19 = .ok (.iload_n 1, 1) := by decide +kernel
theorem dX6_ruled_20 : decode cX6_ruled 20 = .ok (.bipush 23, 2) := by decide +kernel
theorem dX6_ruled_22 : decode cX6_ruled 22 = .ok (.if_icmp .ne 7, 3) := by decide +kernel
theorem dX6_ruled_25 : decode cX6_ruled 25 = .ok (.iconst 1, 1) := by decide +kernel
theorem dX6_ruled_26 : decode cX6_ruled 26 = .ok (.goto 4, 3) := by decide +kernel
theorem dX6_ruled_29 : decode cX6_ruled 29 = .ok (.iconst 0, 1) := by decide +kernel
theorem dX6_ruled_30 : decode cX6_ruled 30 = .ok (.ireturn, 1) := by decide +kernel
theorem dX6_ruled_31 : decode cX6_ruled 31 = .ok (.aload_n 0, 1) := by decide +kernel
theorem dX6_ruled_32 : decode cX6_ruled 32 = .ok (.getfield 15, 3) := by decide +kernel
theorem dX6_ruled_35 : decode cX6_ruled 35 = .ok (.iconst 0, 1) := by decide +kernel
theorem dX6_ruled_36 : decode cX6_ruled 36 = .ok (.iload_n 2, 1) := by decide +kernel
theorem dX6_ruled_37 : decode cX6_ruled 37 = .ok (.iastore, 1) := by decide +kernel
theorem dX6_ruled_38 : decode cX6_ruled 38 = .ok (.aload_n 0, 1) := by decide +kernel
theorem dX6_ruled_39 : decode cX6_ruled 39 = .ok (.getfield 15, 3) := by decide +kernel
theorem dX6_ruled_42 : decode cX6_ruled 42 = .ok (.iconst 1, 1) := by decide +kernel
theorem dX6_ruled_43 : decode cX6_ruled 43 = .ok (.iload_n 3, 1) := by decide +kernel
theorem dX6_ruled_44 : decode cX6_ruled 44 = .ok (.iastore, 1) := by decide +kernel
theorem dX6_ruled_45 : decode cX6_ruled 45 = .ok (.aload_n 0, 1) := by decide +kernel
theorem dX6_ruled_46 : decode cX6_ruled 46 = .ok (.getfield 15, 3) := by decide +kernel
theorem dX6_ruled_49 : decode cX6_ruled 49 = .ok (.iconst 2, 1) := by decide +kernel
theorem dX6_ruled_50 : decode cX6_ruled 50 = .ok (.iload 4, 2) := by decide +kernel
theorem dX6_ruled_52 : decode cX6_ruled 52 = .ok (.iastore, 1) := by decide +kernel
theorem dX6_ruled_53 : decode cX6_ruled 53 = .ok (.aload_n 0, 1) := by decide +kernel
theorem dX6_ruled_54 : decode cX6_ruled 54 = .ok (.getfield 15, 3) := by decide +kernel
theorem dX6_ruled_57 : decode cX6_ruled 57 = .ok (.iconst 3, 1) := by decide +kernel
theorem dX6_ruled_58 : decode cX6_ruled 58 = .ok (.iload 5, 2) := by decide +kernel
theorem dX6_ruled_60 : decode cX6_ruled 60 = .ok (.iastore, 1) := by decide +kernel
theorem dX6_ruled_61 : decode cX6_ruled 61 = .ok (.aload_n 0, 1) := by decide +kernel
theorem dX6_ruled_62 : decode cX6_ruled 62 = .ok (.aload_n 0, 1) := by decide +kernel
theorem dX6_ruled_63 : decode cX6_ruled 63 = .ok (.getfield 24, 3) := by decide +kernel
theorem dX6_ruled_66 : decode cX6_ruled 66 = .ok (.getfield 45, 3) := by decide +kernel
theorem dX6_ruled_69 : decode cX6_ruled 69 = .ok (.iload 6, 2) := by decide +kernel
theorem dX6_ruled_71 : decode cX6_ruled 71 = .ok (.iaload, 1) := by decide +kernel
theorem dX6_ruled_72 : decode cX6_ruled 72 = .ok (.aload_n 0, 1) := by decide +kernel
theorem dX6_ruled_73 : decode cX6_ruled 73 = .ok (.getfield 24, 3) := by decide +kernel
theorem dX6_ruled_76 : decode cX6_ruled 76 = .ok (.getfield 48, 3) := by decide +kernel
theorem dX6_ruled_79 : decode cX6_ruled 79 = .ok (.iload 6, 2) := by decide +kernel
theorem dX6_ruled_81 : decode cX6_ruled 81 = .ok (.iaload, 1) := by decide +kernel
theorem dX6_ruled_82 : decode cX6_ruled 82 = .ok (.invokevirtual 51, 3) := by decide +kernel
theorem dX6_ruled_85 : decode cX6_ruled 85 = .ok (.istore 7, 2) := by decide +kernel
theorem dX6_ruled_87 : decode cX6_ruled 87 = .ok (.aload_n 0, 1) := by decide +kernel
theorem dX6_ruled_88 : decode cX6_ruled 88 = .ok (.getfield 54, 3) := by decide +kernel
theorem dX6_ruled_91 : decode cX6_ruled 91 = .ok (.ifCond .eq 7, 3) := by decide +kernel
theorem dX6_ruled_94 : decode cX6_ruled 94 = .ok (.iconst 0, 1) := by decide +kernel
theorem dX6_ruled_95 : decode cX6_ruled 95 = .ok (.goto 5, 3) := by decide +kernel
theorem dX6_ruled_98 : decode cX6_ruled 98 = .ok (.iload 7, 2) := by decide +kernel
theorem dX6_ruled_100 : decode cX6_ruled 100 = .ok (.ireturn, 1) := by decide +kernel
theorem dX6_holds_0 : decode cX6_holds 0 = .ok (.aload_n 1, 1) := by decide +kernel
theorem dX6_holds_1 : decode cX6_holds 1 = .ok (.getfield 58, 3) := by decide +kernel
theorem dX6_holds_4 : decode cX6_holds 4 = .ok (.aload_n 1, 1) := by decide +kernel
theorem dX6_holds_5 : decode cX6_holds 5 = .ok (.getfield 63, 3) := by decide +kernel
theorem dX6_holds_8 : decode cX6_holds 8 = .ok (.if_icmp .lt 5, 3) := by decide +kernel
theorem dX6_holds_11 : decode cX6_holds 11 = .ok (.iconst 1, 1) := by decide +kernel
theorem dX6_holds_12 : decode cX6_holds 12 = .ok (.ireturn, 1) := by decide +kernel
theorem dX6_holds_13 : decode cX6_holds 13 = .ok (.aload_n 0, 1) := by decide +kernel
theorem dX6_holds_14 : decode cX6_holds 14 = .ok (.getfield 15, 3) := by decide +kernel
theorem dX6_holds_17 : decode cX6_holds 17 = .ok (.iconst 0, 1) := by decide +kernel
theorem dX6_holds_18 : decode cX6_holds 18 = .ok (.iload_n 2, 1) := by decide +kernel
theorem dX6_holds_19 : decode cX6_holds 19 = .ok (.iastore, 1) := by decide +kernel
theorem dX6_holds_20 : decode cX6_holds 20 = .ok (.aload_n 0, 1) := by decide +kernel
theorem dX6_holds_21 : decode cX6_holds 21 = .ok (.getfield 15, 3) := by decide +kernel
theorem dX6_holds_24 : decode cX6_holds 24 = .ok (.iconst 1, 1) := by decide +kernel
theorem dX6_holds_25 : decode cX6_holds 25 = .ok (.iconst 0, 1) := by decide +kernel
theorem dX6_holds_26 : decode cX6_holds 26 = .ok (.iastore, 1) := by decide +kernel
theorem dX6_holds_27 : decode cX6_holds 27 = .ok (.aload_n 0, 1) := by decide +kernel
theorem dX6_holds_28 : decode cX6_holds 28 = .ok (.getfield 15, 3) := by decide +kernel
theorem dX6_holds_31 : decode cX6_holds 31 = .ok (.iconst 2, 1) := by decide +kernel
theorem dX6_holds_32 : decode cX6_holds 32 = .ok (.iconst 0, 1) := by decide +kernel
theorem dX6_holds_33 : decode cX6_holds 33 = .ok (.iastore, 1) := by decide +kernel
theorem dX6_holds_34 : decode cX6_holds 34 = .ok (.aload_n 0, 1) := by decide +kernel
theorem dX6_holds_35 : decode cX6_holds 35 = .ok (.getfield 15, 3) := by decide +kernel
theorem dX6_holds_38 : decode cX6_holds 38 = .ok (.iconst 3, 1) := by decide +kernel
theorem dX6_holds_39 : decode cX6_holds 39 = .ok (.iconst 0, 1) := by decide +kernel
theorem dX6_holds_40 : decode cX6_holds 40 = .ok (.iastore, 1) := by decide +kernel
theorem dX6_holds_41 : decode cX6_holds 41 = .ok (.aload_n 0, 1) := by decide +kernel
theorem dX6_holds_42 : decode cX6_holds 42 = .ok (.iload_n 3, 1) := by decide +kernel
theorem dX6_holds_43 : decode cX6_holds 43 = .ok (.putfield 66, 3) := by decide +kernel
theorem dX6_holds_46 : decode cX6_holds 46 = .ok (.aload_n 0, 1) := by decide +kernel
theorem dX6_holds_47 : decode cX6_holds 47 = .ok (.iload 4, 2) := by decide +kernel
theorem dX6_holds_49 : decode cX6_holds 49 = .ok (.putfield 69, 3) := by decide +kernel
theorem dX6_holds_52 : decode cX6_holds 52 = .ok (.aload_n 0, 1) := by decide +kernel
theorem dX6_holds_53 : decode cX6_holds 53 = .ok (.aload_n 1, 1) := by decide +kernel
theorem dX6_holds_54 : decode cX6_holds 54 = .ok (.getfield 58, 3) := by decide +kernel
theorem dX6_holds_57 : decode cX6_holds 57 = .ok (.aload_n 1, 1) := by decide +kernel
theorem dX6_holds_58 : decode cX6_holds 58 = .ok (.getfield 63, 3) := by decide +kernel
theorem dX6_holds_61 : decode cX6_holds 61 = .ok (.invokevirtual 51, 3) := by decide +kernel
theorem dX6_holds_64 : decode cX6_holds 64 = .ok (.ifCond .eq 7, 3) := by decide +kernel
theorem dX6_holds_67 : decode cX6_holds 67 = .ok (.iconst 1, 1) := by decide +kernel
theorem dX6_holds_68 : decode cX6_holds 68 = .ok (.goto 4, 3) := by decide +kernel
theorem dX6_holds_71 : decode cX6_holds 71 = .ok (.iconst 0, 1) := by decide +kernel
theorem dX6_holds_72 : decode cX6_holds 72 = .ok (.ireturn, 1) := by decide +kernel
theorem dX6_execute_0 : decode cX6_execute 0 = .ok (.iconst 0, 1) := by decide +kernel
theorem dX6_execute_1 : decode cX6_execute 1 = .ok (.istore_n 3, 1) := by decide +kernel
theorem dX6_execute_2 : decode cX6_execute 2 = .ok (.aload_n 0, 1) := by decide +kernel
theorem dX6_execute_3 : decode cX6_execute 3 = .ok (.iconst 0, 1) := by decide +kernel
theorem dX6_execute_4 : decode cX6_execute 4 = .ok (.putfield 54, 3) := by decide +kernel
theorem dX6_execute_7 : decode cX6_execute 7 = .ok (.iconst 0, 1) := by decide +kernel
theorem dX6_execute_8 : decode cX6_execute 8 = .ok (.iload_n 1, 1) := by decide +kernel
theorem dX6_execute_9 : decode cX6_execute 9 = .ok (.invokestatic 72, 3) := by decide +kernel
theorem dX6_execute_12 : decode cX6_execute 12 = .ok (.istore 4, 2) := by decide +kernel
theorem dX6_execute_14 : decode cX6_execute 14 = .ok (.iload 4, 2) := by decide +kernel
theorem dX6_execute_16 : decode cX6_execute 16 = .ok (.iload_n 2, 1) := by decide +kernel
theorem dX6_execute_17 : decode cX6_execute 17 = .ok (.if_icmp .ge 224, 3) := by decide +kernel
theorem dX6_execute_20 : decode cX6_execute 20 = .ok (.iload 4, 2) := by decide +kernel
theorem dX6_execute_22 : decode cX6_execute 22 = .ok (.aload_n 0, 1) := by decide +kernel
theorem dX6_execute_23 : decode cX6_execute 23 = .ok (.getfield 24, 3) := by decide +kernel
theorem dX6_execute_26 : decode cX6_execute 26 = .ok (.getfield 77, 3) := by decide +kernel
theorem dX6_execute_29 : decode cX6_execute 29 = .ok (.if_icmp .ge 212, 3) := by decide +kernel
theorem dX6_execute_32 : decode cX6_execute 32 = .ok (.aload_n 0, 1) := by decide +kernel
theorem dX6_execute_33 : decode cX6_execute 33 = .ok (.getfield 24, 3) := by decide +kernel
theorem dX6_execute_36 : decode cX6_execute 36 = .ok (.getfield 80, 3) := by decide +kernel
theorem dX6_execute_39 : decode cX6_execute 39 = .ok (.iload 4, 2) := by decide +kernel
theorem dX6_execute_41 : decode cX6_execute 41 = .ok (.iaload, 1) := by decide +kernel
theorem dX6_execute_42 : decode cX6_execute 42 = .ok (.sipush 255, 3) := by decide +kernel
theorem dX6_execute_45 : decode cX6_execute 45 = .ok (.iand, 1) := by decide +kernel
theorem dX6_execute_46 : decode cX6_execute 46 = .ok (.istore 5, 2) := by decide +kernel
theorem dX6_execute_48 : decode cX6_execute 48 = .ok (.aload_n 0, 1) := by decide +kernel
theorem dX6_execute_49 : decode cX6_execute 49 = .ok (.getfield 24, 3) := by decide +kernel
theorem dX6_execute_52 : decode cX6_execute 52 = .ok (.getfield 80, 3) := by decide +kernel
theorem dX6_execute_55 : decode cX6_execute 55 = .ok (.iload 4, 2) := by decide +kernel
theorem dX6_execute_57 : decode cX6_execute 57 = .ok (.iaload, 1) := by decide +kernel
theorem dX6_execute_58 : decode cX6_execute 58 = .ok (.bipush 8, 2) := by decide +kernel
theorem dX6_execute_60 : decode cX6_execute 60 = .ok (.ishr, 1) := by decide +kernel
theorem dX6_execute_61 : decode cX6_execute 61 = .ok (.istore 6, 2) := by decide +kernel
theorem dX6_execute_63 : decode cX6_execute 63 = .ok (.iload 5, 2) := by decide +kernel
theorem dX6_execute_65 : decode cX6_execute 65 = .ok (.iconst 3, 1) := by decide +kernel
theorem dX6_execute_66 : decode cX6_execute 66 = .ok (.if_icmp .eq 10, 3) := by decide +kernel
theorem dX6_execute_69 : decode cX6_execute 69 = .ok (.iload 5, 2) := by decide +kernel
theorem dX6_execute_71 : decode cX6_execute 71 = .ok (.bipush 28, 2) := by decide +kernel
theorem dX6_execute_73 : decode cX6_execute 73 = .ok (.if_icmp .lt 7, 3) := by decide +kernel
theorem dX6_execute_76 : decode cX6_execute 76 = .ok (.iconst 1, 1) := by decide +kernel
theorem dX6_execute_77 : decode cX6_execute 77 = .ok (.goto 4, 3) := by decide +kernel
theorem dX6_execute_80 : decode cX6_execute 80 = .ok (.iconst 0, 1) := by decide +kernel
theorem dX6_execute_81 : decode cX6_execute 81 = .ok (.istore 7, 2) := by decide +kernel
theorem dX6_execute_83 : decode cX6_execute 83 = .ok (.iload 7, 2) := by decide +kernel
theorem dX6_execute_85 : decode cX6_execute 85 = .ok (.ifCond .eq 29, 3) := by decide +kernel
theorem dX6_execute_88 : decode cX6_execute 88 = .ok (.iload_n 3, 1) := by decide +kernel
theorem dX6_execute_89 : decode cX6_execute 89 = .ok (.bipush 64, 2) := by decide +kernel
theorem dX6_execute_91 : decode cX6_execute 91 = .ok (.if_icmp .ge 23, 3) := by decide +kernel
theorem dX6_execute_94 : decode cX6_execute 94 = .ok (.aload_n 0, 1) := by decide +kernel
theorem dX6_execute_95 : decode cX6_execute 95 = .ok (.getfield 9, 3) := by decide +kernel
theorem dX6_execute_98 : decode cX6_execute 98 = .ok (.iload_n 3, 1) := by decide +kernel
theorem dX6_execute_99 : decode cX6_execute 99 = .ok (.aload_n 0, 1) := by decide +kernel
theorem dX6_execute_100 : decode cX6_execute 100 = .ok (.iload 5, 2) := by decide +kernel
theorem dX6_execute_102 : decode cX6_execute 102 = .ok (.iload 6, 2) := by decide +kernel
theorem dX6_execute_104 : decode cX6_execute 104 = .ok (.invokevirtual 83, 3) := by decide +kernel
theorem dX6_execute_107 : decode cX6_execute 107 = .ok (.iastore, 1) := by decide +kernel
theorem dX6_execute_108 : decode cX6_execute 108 = .ok (.iinc 3 1, 3) := by decide +kernel
theorem dX6_execute_111 : decode cX6_execute 111 = .ok (.goto 124, 3) := by decide +kernel
theorem dX6_execute_114 : decode cX6_execute 114 = .ok (.iload 5, 2) := by decide +kernel
theorem dX6_execute_116 : decode cX6_execute 116 = .ok (.bipush 27, 2) := by decide +kernel
theorem dX6_execute_118 : decode cX6_execute 118 = .ok (.if_icmp .ne 29, 3) := by decide +kernel
theorem dX6_execute_121 : decode cX6_execute 121 = .ok (.iload_n 3, 1) := by decide +kernel
theorem dX6_execute_122 : decode cX6_execute 122 = .ok (.iconst 1, 1) := by decide +kernel
theorem dX6_execute_123 : decode cX6_execute 123 = .ok (.if_icmp .lt 24, 3) := by decide +kernel
theorem dX6_execute_126 : decode cX6_execute 126 = .ok (.aload_n 0, 1) := by decide +kernel
theorem dX6_execute_127 : decode cX6_execute 127 = .ok (.getfield 9, 3) := by decide +kernel
theorem dX6_execute_130 : decode cX6_execute 130 = .ok (.iload_n 3, 1) := by decide +kernel
theorem dX6_execute_131 : decode cX6_execute 131 = .ok (.iconst 1, 1) := by decide +kernel
theorem dX6_execute_132 : decode cX6_execute 132 = .ok (.isub, 1) := by decide +kernel
theorem dX6_execute_133 : decode cX6_execute 133 = .ok (.iconst 1, 1) := by decide +kernel
theorem dX6_execute_134 : decode cX6_execute 134 = .ok (.aload_n 0, 1) := by decide +kernel
theorem dX6_execute_135 : decode cX6_execute 135 = .ok (.getfield 9, 3) := by decide +kernel
theorem dX6_execute_138 : decode cX6_execute 138 = .ok (.iload_n 3, 1) := by decide +kernel
theorem dX6_execute_139 : decode cX6_execute 139 = .ok (.iconst 1, 1) := by decide +kernel
theorem dX6_execute_140 : decode cX6_execute 140 = .ok (.isub, 1) := by decide +kernel
theorem dX6_execute_141 : decode cX6_execute 141 = .ok (.iaload, 1) := by decide +kernel
theorem dX6_execute_142 : decode cX6_execute 142 = .ok (.isub, 1) := by decide +kernel
theorem dX6_execute_143 : decode cX6_execute 143 = .ok (.iastore, 1) := by decide +kernel
theorem dX6_execute_144 : decode cX6_execute 144 = .ok (.goto 91, 3) := by decide +kernel
theorem dX6_execute_147 : decode cX6_execute 147 = .ok (.iload 7, 2) := by decide +kernel
theorem dX6_execute_149 : decode cX6_execute 149 = .ok (.ifCond .ne 86, 3) := by decide +kernel
theorem dX6_execute_152 : decode cX6_execute 152 = .ok (.iload_n 3, 1) := by decide +kernel
theorem dX6_execute_153 : decode cX6_execute 153 = .ok (.iconst 2, 1) := by decide +kernel
theorem dX6_execute_154 : decode cX6_execute 154 = .ok (.if_icmp .lt 81, 3) := by decide +kernel
theorem dX6_execute_157 : decode cX6_execute 157 = .ok (.iinc 3 (-1), 3) := by decide +kernel
theorem dX6_execute_160 : decode cX6_execute 160 = .ok (.aload_n 0, 1) := by decide +kernel
theorem dX6_execute_161 : decode cX6_execute 161 = .ok (.getfield 9, 3) := by decide +kernel
theorem dX6_execute_164 : decode cX6_execute 164 = .ok (.iload_n 3, 1) := by decide +kernel
theorem dX6_execute_165 : decode cX6_execute 165 = .ok (.iconst 1, 1) := by decide +kernel
theorem dX6_execute_166 : decode cX6_execute 166 = .ok (.isub, 1) := by decide +kernel
theorem dX6_execute_167 : decode cX6_execute 167 = .ok (.iaload, 1) := by decide +kernel
theorem dX6_execute_168 : decode cX6_execute 168 = .ok (.istore 8, 2) := by decide +kernel
theorem dX6_execute_170 : decode cX6_execute 170 = .ok (.aload_n 0, 1) := by decide +kernel
theorem dX6_execute_171 : decode cX6_execute 171 = .ok (.getfield 9, 3) := by decide +kernel
theorem dX6_execute_174 : decode cX6_execute 174 = .ok (.iload_n 3, 1) := by decide +kernel
theorem dX6_execute_175 : decode cX6_execute 175 = .ok (.iaload, 1) := by decide +kernel
theorem dX6_execute_176 : decode cX6_execute 176 = .ok (.istore 9, 2) := by decide +kernel
theorem dX6_execute_178 : decode cX6_execute 178 = .ok (.iload 5, 2) := by decide +kernel
theorem dX6_execute_180 : decode cX6_execute 180 = .ok (.bipush 9, 2) := by decide +kernel
theorem dX6_execute_182 : decode cX6_execute 182 = .ok (.if_icmp .lt 14, 3) := by decide +kernel
theorem dX6_execute_185 : decode cX6_execute 185 = .ok (.iload 5, 2) := by decide +kernel
theorem dX6_execute_187 : decode cX6_execute 187 = .ok (.bipush 12, 2) := by decide +kernel
theorem dX6_execute_189 : decode cX6_execute 189 = .ok (.if_icmp .gt 7, 3) := by decide +kernel
theorem dX6_execute_192 : decode cX6_execute 192 = .ok (.iconst 1, 1) := by decide +kernel
theorem dX6_execute_193 : decode cX6_execute 193 = .ok (.goto 4, 3) := by decide +kernel
theorem dX6_execute_196 : decode cX6_execute 196 = .ok (.iconst 0, 1) := by decide +kernel
theorem dX6_execute_197 : decode cX6_execute 197 = .ok (.istore 10, 2) := by decide +kernel
theorem dX6_execute_199 : decode cX6_execute 199 = .ok (.aload_n 0, 1) := by decide +kernel
theorem dX6_execute_200 : decode cX6_execute 200 = .ok (.getfield 9, 3) := by decide +kernel
theorem dX6_execute_203 : decode cX6_execute 203 = .ok (.iload_n 3, 1) := by decide +kernel
theorem dX6_execute_204 : decode cX6_execute 204 = .ok (.iconst 1, 1) := by decide +kernel
theorem dX6_execute_205 : decode cX6_execute 205 = .ok (.isub, 1) := by decide +kernel
theorem dX6_execute_206 : decode cX6_execute 206 = .ok (.iload 10, 2) := by decide +kernel
theorem dX6_execute_208 : decode cX6_execute 208 = .ok (.ifCond .eq 16, 3) := by decide +kernel
theorem dX6_execute_211 : decode cX6_execute 211 = .ok (.aload_n 0, 1) := by decide +kernel
theorem dX6_execute_212 : decode cX6_execute 212 = .ok (.iload 5, 2) := by decide +kernel
theorem dX6_execute_214 : decode cX6_execute 214 = .ok (.iload 8, 2) := by decide +kernel
theorem dX6_execute_216 : decode cX6_execute 216 = .ok (.iload 9, 2) := by decide +kernel
theorem dX6_execute_218 : decode cX6_execute 218 = .ok (.invokevirtual 86, 3) := by decide +kernel
theorem dX6_execute_221 : decode cX6_execute 221 = .ok (.goto 13, 3) := by decide +kernel
theorem dX6_execute_224 : decode cX6_execute 224 = .ok (.aload_n 0, 1) := by decide +kernel
theorem dX6_execute_225 : decode cX6_execute 225 = .ok (.iload 5, 2) := by decide +kernel
theorem dX6_execute_227 : decode cX6_execute 227 = .ok (.iload 8, 2) := by decide +kernel
theorem dX6_execute_229 : decode cX6_execute 229 = .ok (.iload 9, 2) := by decide +kernel
theorem dX6_execute_231 : decode cX6_execute 231 = .ok (.invokevirtual 90, 3) := by decide +kernel
theorem dX6_execute_234 : decode cX6_execute 234 = .ok (.iastore, 1) := by decide +kernel
theorem dX6_execute_235 : decode cX6_execute 235 = .ok (.iinc 4 1, 3) := by decide +kernel
theorem dX6_execute_238 : decode cX6_execute 238 = .ok (.goto (-224), 3) := by decide +kernel
theorem dX6_execute_241 : decode cX6_execute 241 = .ok (.aload_n 0, 1) := by decide +kernel
theorem dX6_execute_242 : decode cX6_execute 242 = .ok (.getfield 9, 3) := by decide +kernel
theorem dX6_execute_245 : decode cX6_execute 245 = .ok (.iconst 0, 1) := by decide +kernel
theorem dX6_execute_246 : decode cX6_execute 246 = .ok (.iaload, 1) := by decide +kernel
theorem dX6_execute_247 : decode cX6_execute 247 = .ok (.ireturn, 1) := by decide +kernel
