theorem dX12_runsAll_0 : decode cX12_runsAll 0 = .ok (.aload_n 0, 1) := by decide +kernel
theorem dX12_runsAll_1 : decode cX12_runsAll 1 = .ok (.iload_n 1, 1) := by decide +kernel
theorem dX12_runsAll_2 : decode cX12_runsAll 2 = .ok (.iconst 1, 1) := by decide +kernel
theorem dX12_runsAll_3 : decode cX12_runsAll 3 = .ok (.iconst 0, 1) := by decide +kernel
theorem dX12_runsAll_4 : decode cX12_runsAll 4 = .ok (.iconst 0, 1) := by decide +kernel
theorem dX12_runsAll_5 : decode cX12_runsAll 5 = .ok (.iconst 0, 1) := by decide +kernel
theorem dX12_runsAll_6 : decode cX12_runsAll 6 = .ok (.bipush 59, 2) := by decide +kernel
theorem dX12_runsAll_8 : decode cX12_runsAll 8 = .ok (.invokevirtual 482, 3) := by decide +kernel
theorem dX12_runsAll_11 : decode cX12_runsAll 11 = .ok (.return_, 1) := by decide +kernel
theorem dX12_run_0 : decode cX12_run 0 = .ok (.aload_n 0, 1) := by decide +kernel
theorem dX12_run_1 : decode cX12_run 1 = .ok (.iload_n 1, 1) := by decide +kernel
theorem dX12_run_2 : decode cX12_run 2 = .ok (.invokevirtual 400, 3) := by decide +kernel
theorem dX12_run_5 : decode cX12_run 5 = .ok (.ifCond .eq 31, 3) := by decide +kernel
theorem dX12_run_8 : decode cX12_run 8 = .ok (.aload_n 0, 1) := by decide +kernel
theorem dX12_run_9 : decode cX12_run 9 = .ok (.iload_n 2, 1) := by decide +kernel
theorem dX12_run_10 : decode cX12_run 10 = .ok (.invokevirtual 435, 3) := by decide +kernel
theorem dX12_run_13 : decode cX12_run 13 = .ok (.ifCond .eq 23, 3) := by decide +kernel
theorem dX12_run_16 : decode cX12_run 16 = .ok (.iload_n 3, 1) := by decide +kernel
theorem dX12_run_17 : decode cX12_run 17 = .ok (.iconst 1, 1) := by decide +kernel
theorem dX12_run_18 : decode cX12_run 18 = .ok (.bipush 20, 2) := by decide +kernel
theorem dX12_run_20 : decode cX12_run 20 = .ok (.invokestatic 383, 3) := by decide +kernel
theorem dX12_run_23 : decode cX12_run 23 = .ok (.ifCond .eq 13, 3) := by decide +kernel
theorem dX12_run_26 : decode cX12_run 26 = .ok (.iload 4, 2) := by decide +kernel
theorem dX12_run_28 : decode cX12_run 28 = .ok (.iconst 0, 1) := by decide +kernel
theorem dX12_run_29 : decode cX12_run 29 = .ok (.iconst 2, 1) := by decide +kernel
theorem dX12_run_30 : decode cX12_run 30 = .ok (.invokestatic 383, 3) := by decide +kernel
theorem dX12_run_33 : decode cX12_run 33 = .ok (.ifCond .ne 5, 3) := by decide +kernel
theorem dX12_run_36 : decode cX12_run 36 = .ok (.iconst (-1), 1) := by decide +kernel
theorem dX12_run_37 : decode cX12_run 37 = .ok (.ireturn, 1) := by decide +kernel
theorem dX12_run_38 : decode cX12_run 38 = .ok (.aload_n 0, 1) := by decide +kernel
theorem dX12_run_39 : decode cX12_run 39 = .ok (.iload_n 2, 1) := by decide +kernel
theorem dX12_run_40 : decode cX12_run 40 = .ok (.iload_n 3, 1) := by decide +kernel
theorem dX12_run_41 : decode cX12_run 41 = .ok (.iconst 0, 1) := by decide +kernel
theorem dX12_run_42 : decode cX12_run 42 = .ok (.iconst 0, 1) := by decide +kernel
theorem dX12_run_43 : decode cX12_run 43 = .ok (.iconst 0, 1) := by decide +kernel
theorem dX12_run_44 : decode cX12_run 44 = .ok (.bipush 59, 2) := by decide +kernel
theorem dX12_run_46 : decode cX12_run 46 = .ok (.invokevirtual 482, 3) := by decide +kernel
theorem dX12_run_49 : decode cX12_run 49 = .ok (.iload 4, 2) := by decide +kernel
theorem dX12_run_51 : decode cX12_run 51 = .ok (.ifCond .ne 12, 3) := by decide +kernel
theorem dX12_run_54 : decode cX12_run 54 = .ok (.aload_n 0, 1) := by decide +kernel
theorem dX12_run_55 : decode cX12_run 55 = .ok (.getfield 149, 3) := by decide +kernel
theorem dX12_run_58 : decode cX12_run 58 = .ok (.iload_n 1, 1) := by decide +kernel
theorem dX12_run_59 : decode cX12_run 59 = .ok (.iaload, 1) := by decide +kernel
theorem dX12_run_60 : decode cX12_run 60 = .ok (.goto 24, 3) := by decide +kernel
theorem dX12_run_63 : decode cX12_run 63 = .ok (.iload 4, 2) := by decide +kernel
theorem dX12_run_65 : decode cX12_run 65 = .ok (.iconst 1, 1) := by decide +kernel
theorem dX12_run_66 : decode cX12_run 66 = .ok (.if_icmp .ne 12, 3) := by decide +kernel
theorem dX12_run_69 : decode cX12_run 69 = .ok (.aload_n 0, 1) := by decide +kernel
theorem dX12_run_70 : decode cX12_run 70 = .ok (.getfield 152, 3) := by decide +kernel
theorem dX12_run_73 : decode cX12_run 73 = .ok (.iload_n 1, 1) := by decide +kernel
theorem dX12_run_74 : decode cX12_run 74 = .ok (.iaload, 1) := by decide +kernel
theorem dX12_run_75 : decode cX12_run 75 = .ok (.goto 9, 3) := by decide +kernel
theorem dX12_run_78 : decode cX12_run 78 = .ok (.aload_n 0, 1) := by decide +kernel
theorem dX12_run_79 : decode cX12_run 79 = .ok (.getfield 155, 3) := by decide +kernel
theorem dX12_run_82 : decode cX12_run 82 = .ok (.iload_n 1, 1) := by decide +kernel
theorem dX12_run_83 : decode cX12_run 83 = .ok (.iaload, 1) := by decide +kernel
theorem dX12_run_84 : decode cX12_run 84 = .ok (.ireturn, 1) := by decide +kernel
theorem dX12_opened_0 : decode cX12_opened 0 = .ok (.iload_n 1, 1) := by decide +kernel
theorem dX12_opened_1 : decode cX12_opened 1 = .ok (.invokestatic 412, 3) := by decide +kernel
theorem dX12_opened_4 : decode cX12_opened 4 = .ok (.ifCond .eq 11, 3) := by decide +kernel
theorem dX12_opened_7 : decode cX12_opened 7 = .ok (.aload_n 0, 1) := by decide +kernel
theorem dX12_opened_8 : decode cX12_opened 8 = .ok (.iload_n 2, 1) := by decide +kernel
theorem dX12_opened_9 : decode cX12_opened 9 = .ok (.invokevirtual 435, 3) := by decide +kernel
theorem dX12_opened_12 : decode cX12_opened 12 = .ok (.ifCond .ne 5, 3) := by decide +kernel
theorem dX12_opened_15 : decode cX12_opened 15 = .ok (.iconst (-1), 1) := by decide +kernel
theorem dX12_opened_16 : decode cX12_opened 16 = .ok (.ireturn, 1) := by decide +kernel
theorem dX12_opened_17 : decode cX12_opened 17 = .ok (.aload_n 0, 1) := by decide +kernel
theorem dX12_opened_18 : decode cX12_opened 18 = .ok (.iload_n 2, 1) := by decide +kernel
theorem dX12_opened_19 : decode cX12_opened 19 = .ok (.iconst 1, 1) := by decide +kernel
theorem dX12_opened_20 : decode cX12_opened 20 = .ok (.iconst 0, 1) := by decide +kernel
theorem dX12_opened_21 : decode cX12_opened 21 = .ok (.iconst 0, 1) := by decide +kernel
theorem dX12_opened_22 : decode cX12_opened 22 = .ok (.iconst 0, 1) := by decide +kernel
theorem dX12_opened_23 : decode cX12_opened 23 = .ok (.iload_n 1, 1) := by decide +kernel
theorem dX12_opened_24 : decode cX12_opened 24 = .ok (.invokevirtual 482, 3) := by decide +kernel
theorem dX12_opened_27 : decode cX12_opened 27 = .ok (.iload_n 3, 1) := by decide +kernel
theorem dX12_opened_28 : decode cX12_opened 28 = .ok (.iconst 0, 1) := by decide +kernel
theorem dX12_opened_29 : decode cX12_opened 29 = .ok (.aload_n 0, 1) := by decide +kernel
theorem dX12_opened_30 : decode cX12_opened 30 = .ok (.getfield 450, 3) := by decide +kernel
theorem dX12_opened_33 : decode cX12_opened 33 = .ok (.iconst 1, 1) := by decide +kernel
theorem dX12_opened_34 : decode cX12_opened 34 = .ok (.isub, 1) := by decide +kernel
theorem dX12_opened_35 : decode cX12_opened 35 = .ok (.invokestatic 383, 3) := by decide +kernel
theorem dX12_opened_38 : decode cX12_opened 38 = .ok (.ifCond .eq 12, 3) := by decide +kernel
theorem dX12_opened_41 : decode cX12_opened 41 = .ok (.aload_n 0, 1) := by decide +kernel
theorem dX12_opened_42 : decode cX12_opened 42 = .ok (.getfield 167, 3) := by decide +kernel
theorem dX12_opened_45 : decode cX12_opened 45 = .ok (.iload_n 3, 1) := by decide +kernel
theorem dX12_opened_46 : decode cX12_opened 46 = .ok (.iaload, 1) := by decide +kernel
theorem dX12_opened_47 : decode cX12_opened 47 = .ok (.goto 4, 3) := by decide +kernel
theorem dX12_opened_50 : decode cX12_opened 50 = .ok (.iconst (-1), 1) := by decide +kernel
theorem dX12_opened_51 : decode cX12_opened 51 = .ok (.ireturn, 1) := by decide +kernel
theorem dX12_why_0 : decode cX12_why 0 = .ok (.aload_n 0, 1) := by decide +kernel
theorem dX12_why_1 : decode cX12_why 1 = .ok (.iload_n 1, 1) := by decide +kernel
theorem dX12_why_2 : decode cX12_why 2 = .ok (.invokevirtual 400, 3) := by decide +kernel
theorem dX12_why_5 : decode cX12_why 5 = .ok (.ifCond .eq 18, 3) := by decide +kernel
theorem dX12_why_8 : decode cX12_why 8 = .ok (.iload_n 2, 1) := by decide +kernel
theorem dX12_why_9 : decode cX12_why 9 = .ok (.invokestatic 412, 3) := by decide +kernel
theorem dX12_why_12 : decode cX12_why 12 = .ok (.ifCond .eq 11, 3) := by decide +kernel
theorem dX12_why_15 : decode cX12_why 15 = .ok (.aload_n 0, 1) := by decide +kernel
theorem dX12_why_16 : decode cX12_why 16 = .ok (.iload_n 3, 1) := by decide +kernel
theorem dX12_why_17 : decode cX12_why 17 = .ok (.invokevirtual 435, 3) := by decide +kernel
theorem dX12_why_20 : decode cX12_why 20 = .ok (.ifCond .ne 5, 3) := by decide +kernel
theorem dX12_why_23 : decode cX12_why 23 = .ok (.iconst (-1), 1) := by decide +kernel
theorem dX12_why_24 : decode cX12_why 24 = .ok (.ireturn, 1) := by decide +kernel
theorem dX12_why_25 : decode cX12_why 25 = .ok (.aload_n 0, 1) := by decide +kernel
theorem dX12_why_26 : decode cX12_why 26 = .ok (.iload_n 3, 1) := by decide +kernel
theorem dX12_why_27 : decode cX12_why 27 = .ok (.iconst 1, 1) := by decide +kernel
theorem dX12_why_28 : decode cX12_why 28 = .ok (.iconst 0, 1) := by decide +kernel
theorem dX12_why_29 : decode cX12_why 29 = .ok (.iconst 0, 1) := by decide +kernel
theorem dX12_why_30 : decode cX12_why 30 = .ok (.iconst 0, 1) := by decide +kernel
theorem dX12_why_31 : decode cX12_why 31 = .ok (.iload_n 2, 1) := by decide +kernel
theorem dX12_why_32 : decode cX12_why 32 = .ok (.invokevirtual 482, 3) := by decide +kernel
theorem dX12_why_35 : decode cX12_why 35 = .ok (.aload_n 0, 1) := by decide +kernel
theorem dX12_why_36 : decode cX12_why 36 = .ok (.getfield 149, 3) := by decide +kernel
theorem dX12_why_39 : decode cX12_why 39 = .ok (.iload_n 1, 1) := by decide +kernel
theorem dX12_why_40 : decode cX12_why 40 = .ok (.iaload, 1) := by decide +kernel
theorem dX12_why_41 : decode cX12_why 41 = .ok (.iconst 1, 1) := by decide +kernel
theorem dX12_why_42 : decode cX12_why 42 = .ok (.if_icmp .eq 13, 3) := by decide +kernel
theorem dX12_why_45 : decode cX12_why 45 = .ok (.aload_n 0, 1) := by decide +kernel
theorem dX12_why_46 : decode cX12_why 46 = .ok (.getfield 149, 3) := by decide +kernel
theorem dX12_why_49 : decode cX12_why 49 = .ok (.iload_n 1, 1) := by decide +kernel
theorem dX12_why_50 : decode cX12_why 50 = .ok (.iaload, 1) := by decide +kernel
theorem dX12_why_51 : decode cX12_why 51 = .ok (.iconst 2, 1) := by decide +kernel
theorem dX12_why_52 : decode cX12_why 52 = .ok (.if_icmp .ne 5, 3) := by decide +kernel
theorem dX12_why_55 : decode cX12_why 55 = .ok (.iconst 0, 1) := by decide +kernel
theorem dX12_why_56 : decode cX12_why 56 = .ok (.ireturn, 1) := by decide +kernel
theorem dX12_why_57 : decode cX12_why 57 = .ok (.aload_n 0, 1) := by decide +kernel
theorem dX12_why_58 : decode cX12_why 58 = .ok (.getfield 149, 3) := by decide +kernel
theorem dX12_why_61 : decode cX12_why 61 = .ok (.iload_n 1, 1) := by decide +kernel
theorem dX12_why_62 : decode cX12_why 62 = .ok (.iaload, 1) := by decide +kernel
theorem dX12_why_63 : decode cX12_why 63 = .ok (.ifCond .eq 5, 3) := by decide +kernel
theorem dX12_why_66 : decode cX12_why 66 = .ok (.iconst 1, 1) := by decide +kernel
theorem dX12_why_67 : decode cX12_why 67 = .ok (.ireturn, 1) := by decide +kernel
theorem dX12_why_68 : decode cX12_why 68 = .ok (.aload_n 0, 1) := by decide +kernel
theorem dX12_why_69 : decode cX12_why 69 = .ok (.iload_n 1, 1) := by decide +kernel
theorem dX12_why_70 : decode cX12_why 70 = .ok (.iload_n 2, 1) := by decide +kernel
theorem dX12_why_71 : decode cX12_why 71 = .ok (.aload_n 0, 1) := by decide +kernel
theorem dX12_why_72 : decode cX12_why 72 = .ok (.getfield 441, 3) := by decide +kernel
theorem dX12_why_75 : decode cX12_why 75 = .ok (.aload_n 0, 1) := by decide +kernel
theorem dX12_why_76 : decode cX12_why 76 = .ok (.getfield 444, 3) := by decide +kernel
theorem dX12_why_79 : decode cX12_why 79 = .ok (.invokevirtual 456, 3) := by decide +kernel
theorem dX12_why_82 : decode cX12_why 82 = .ok (.ifCond .ne 5, 3) := by decide +kernel
theorem dX12_why_85 : decode cX12_why 85 = .ok (.iconst 2, 1) := by decide +kernel
theorem dX12_why_86 : decode cX12_why 86 = .ok (.ireturn, 1) := by decide +kernel
theorem dX12_why_87 : decode cX12_why 87 = .ok (.aload_n 0, 1) := by decide +kernel
theorem dX12_why_88 : decode cX12_why 88 = .ok (.getfield 158, 3) := by decide +kernel
theorem dX12_why_91 : decode cX12_why 91 = .ok (.iload_n 1, 1) := by decide +kernel
theorem dX12_why_92 : decode cX12_why 92 = .ok (.iaload, 1) := by decide +kernel
theorem dX12_why_93 : decode cX12_why 93 = .ok (.iload_n 2, 1) := by decide +kernel
theorem dX12_why_94 : decode cX12_why 94 = .ok (.if_icmp .le 5, 3) := by decide +kernel
theorem dX12_why_97 : decode cX12_why 97 = .ok (.iconst 3, 1) := by decide +kernel
theorem dX12_why_98 : decode cX12_why 98 = .ok (.ireturn, 1) := by decide +kernel
theorem dX12_why_99 : decode cX12_why 99 = .ok (.aload_n 0, 1) := by decide +kernel
theorem dX12_why_100 : decode cX12_why 100 = .ok (.getfield 441, 3) := by decide +kernel
theorem dX12_why_103 : decode cX12_why 103 = .ok (.aload_n 0, 1) := by decide +kernel
theorem dX12_why_104 : decode cX12_why 104 = .ok (.iload_n 1, 1) := by decide +kernel
theorem dX12_why_105 : decode cX12_why 105 = .ok (.invokevirtual 406, 3) := by decide +kernel
theorem dX12_why_108 : decode cX12_why 108 = .ok (.ishr, 1) := by decide +kernel
theorem dX12_why_109 : decode cX12_why 109 = .ok (.iconst 1, 1) := by decide +kernel
theorem dX12_why_110 : decode cX12_why 110 = .ok (.iand, 1) := by decide +kernel
theorem dX12_why_111 : decode cX12_why 111 = .ok (.iconst 1, 1) := by decide +kernel
theorem dX12_why_112 : decode cX12_why 112 = .ok (.if_icmp .ne 7, 3) := by decide +kernel
theorem dX12_why_115 : decode cX12_why 115 = .ok (.iconst 4, 1) := by decide +kernel
theorem dX12_why_116 : decode cX12_why 116 = .ok (.goto 4, 3) := by decide +kernel
theorem dX12_why_119 : decode cX12_why 119 = .ok (.iconst 5, 1) := by decide +kernel
theorem dX12_why_120 : decode cX12_why 120 = .ok (.ireturn, 1) := by decide +kernel
theorem dX12_harm_0 : decode cX12_harm 0 = .ok (.aload_n 0, 1) := by decide +kernel
theorem dX12_harm_1 : decode cX12_harm 1 = .ok (.iload_n 1, 1) := by decide +kernel
theorem dX12_harm_2 : decode cX12_harm 2 = .ok (.invokevirtual 435, 3) := by decide +kernel
theorem dX12_harm_5 : decode cX12_harm 5 = .ok (.ifCond .ne 5, 3) := by decide +kernel
theorem dX12_harm_8 : decode cX12_harm 8 = .ok (.iconst (-1), 1) := by decide +kernel
theorem dX12_harm_9 : decode cX12_harm 9 = .ok (.ireturn, 1) := by decide +kernel
theorem dX12_harm_10 : decode cX12_harm 10 = .ok (.aload_n 0, 1) := by decide +kernel
theorem dX12_harm_11 : decode cX12_harm 11 = .ok (.iload_n 1, 1) := by decide +kernel
theorem dX12_harm_12 : decode cX12_harm 12 = .ok (.invokevirtual 486, 3) := by decide +kernel
theorem dX12_harm_15 : decode cX12_harm 15 = .ok (.aload_n 0, 1) := by decide +kernel
theorem dX12_harm_16 : decode cX12_harm 16 = .ok (.getfield 447, 3) := by decide +kernel
theorem dX12_harm_19 : decode cX12_harm 19 = .ok (.ireturn, 1) := by decide +kernel
theorem dX12_keepsYearly_0 : decode cX12_keepsYearly 0 = .ok (.iconst 0, 1) := by decide +kernel
theorem dX12_keepsYearly_1 : decode cX12_keepsYearly 1 = .ok (.istore_n 1, 1) := by decide +kernel
theorem dX12_keepsYearly_2 : decode cX12_keepsYearly 2 = .ok (.iload_n 1, 1) := by decide +kernel
theorem dX12_keepsYearly_3 : decode cX12_keepsYearly 3 = .ok (.bipush 10, 2) := by decide +kernel
theorem dX12_keepsYearly_5 : decode cX12_keepsYearly 5 = .ok (.if_icmp .ge 33, 3) := by decide +kernel
theorem dX12_keepsYearly_8 : decode cX12_keepsYearly 8 = .ok (.aload_n 0, 1) := by decide +kernel
theorem dX12_keepsYearly_9 : decode cX12_keepsYearly 9 = .ok (.getfield 173, 3) := by decide +kernel
theorem dX12_keepsYearly_12 : decode cX12_keepsYearly 12 = .ok (.iload_n 1, 1) := by decide +kernel
theorem dX12_keepsYearly_13 : decode cX12_keepsYearly 13 = .ok (.aload_n 0, 1) := by decide +kernel
theorem dX12_keepsYearly_14 : decode cX12_keepsYearly 14 = .ok (.getfield 149, 3) := by decide +kernel
theorem dX12_keepsYearly_17 : decode cX12_keepsYearly 17 = .ok (.iload_n 1, 1) := by decide +kernel
theorem dX12_keepsYearly_18 : decode cX12_keepsYearly 18 = .ok (.iaload, 1) := by decide +kernel
theorem dX12_keepsYearly_19 : decode cX12_keepsYearly 19 = .ok (.iastore, 1) := by decide +kernel
theorem dX12_keepsYearly_20 : decode cX12_keepsYearly 20 = .ok (.aload_n 0, 1) := by decide +kernel
theorem dX12_keepsYearly_21 : decode cX12_keepsYearly 21 = .ok (.getfield 176, 3) := by decide +kernel
theorem dX12_keepsYearly_24 : decode cX12_keepsYearly 24 = .ok (.iload_n 1, 1) := by decide +kernel
theorem dX12_keepsYearly_25 : decode cX12_keepsYearly 25 = .ok (.aload_n 0, 1) := by decide +kernel
theorem dX12_keepsYearly_26 : decode cX12_keepsYearly 26 = .ok (.getfield 152, 3) := by decide +kernel
theorem dX12_keepsYearly_29 : decode cX12_keepsYearly 29 = .ok (.iload_n 1, 1) := by decide +kernel
theorem dX12_keepsYearly_30 : decode cX12_keepsYearly 30 = .ok (.iaload, 1) := by decide +kernel
theorem dX12_keepsYearly_31 : decode cX12_keepsYearly 31 = .ok (.iastore, 1) := by decide +kernel
theorem dX12_keepsYearly_32 : decode cX12_keepsYearly 32 = .ok (.iinc 1 1, 3) := by decide +kernel
theorem dX12_keepsYearly_35 : decode cX12_keepsYearly 35 = .ok (.goto (-33), 3) := by decide +kernel
theorem dX12_keepsYearly_38 : decode cX12_keepsYearly 38 = .ok (.return_, 1) := by decide +kernel
theorem dX12_tooSoon_0 : decode cX12_tooSoon 0 = .ok (.aload_n 0, 1) := by decide +kernel
theorem dX12_tooSoon_1 : decode cX12_tooSoon 1 = .ok (.iload_n 1, 1) := by decide +kernel
theorem dX12_tooSoon_2 : decode cX12_tooSoon 2 = .ok (.invokevirtual 435, 3) := by decide +kernel
theorem dX12_tooSoon_5 : decode cX12_tooSoon 5 = .ok (.ifCond .ne 5, 3) := by decide +kernel
theorem dX12_tooSoon_8 : decode cX12_tooSoon 8 = .ok (.iconst (-1), 1) := by decide +kernel
theorem dX12_tooSoon_9 : decode cX12_tooSoon 9 = .ok (.ireturn, 1) := by decide +kernel
theorem dX12_tooSoon_10 : decode cX12_tooSoon 10 = .ok (.aload_n 0, 1) := by decide +kernel
theorem dX12_tooSoon_11 : decode cX12_tooSoon 11 = .ok (.iload_n 1, 1) := by decide +kernel
theorem dX12_tooSoon_12 : decode cX12_tooSoon 12 = .ok (.invokevirtual 486, 3) := by decide +kernel
theorem dX12_tooSoon_15 : decode cX12_tooSoon 15 = .ok (.aload_n 0, 1) := by decide +kernel
theorem dX12_tooSoon_16 : decode cX12_tooSoon 16 = .ok (.invokevirtual 489, 3) := by decide +kernel
theorem dX12_tooSoon_19 : decode cX12_tooSoon 19 = .ok (.aload_n 0, 1) := by decide +kernel
theorem dX12_tooSoon_20 : decode cX12_tooSoon 20 = .ok (.iload_n 1, 1) := by decide +kernel
theorem dX12_tooSoon_21 : decode cX12_tooSoon 21 = .ok (.iconst 1, 1) := by decide +kernel
theorem dX12_tooSoon_22 : decode cX12_tooSoon 22 = .ok (.iconst 0, 1) := by decide +kernel
theorem dX12_tooSoon_23 : decode cX12_tooSoon 23 = .ok (.iconst 0, 1) := by decide +kernel
theorem dX12_tooSoon_24 : decode cX12_tooSoon 24 = .ok (.iconst 1, 1) := by decide +kernel
theorem dX12_tooSoon_25 : decode cX12_tooSoon 25 = .ok (.bipush 59, 2) := by decide +kernel
theorem dX12_tooSoon_27 : decode cX12_tooSoon 27 = .ok (.invokevirtual 482, 3) := by decide +kernel
theorem dX12_tooSoon_30 : decode cX12_tooSoon 30 = .ok (.iconst 0, 1) := by decide +kernel
theorem dX12_tooSoon_31 : decode cX12_tooSoon 31 = .ok (.istore_n 2, 1) := by decide +kernel
theorem dX12_tooSoon_32 : decode cX12_tooSoon 32 = .ok (.iconst 0, 1) := by decide +kernel
theorem dX12_tooSoon_33 : decode cX12_tooSoon 33 = .ok (.istore_n 3, 1) := by decide +kernel
theorem dX12_tooSoon_34 : decode cX12_tooSoon 34 = .ok (.iload_n 3, 1) := by decide +kernel
theorem dX12_tooSoon_35 : decode cX12_tooSoon 35 = .ok (.aload_n 0, 1) := by decide +kernel
theorem dX12_tooSoon_36 : decode cX12_tooSoon 36 = .ok (.getfield 67, 3) := by decide +kernel
theorem dX12_tooSoon_39 : decode cX12_tooSoon 39 = .ok (.aload_n 0, 1) := by decide +kernel
theorem dX12_tooSoon_40 : decode cX12_tooSoon 40 = .ok (.getfield 284, 3) := by decide +kernel
theorem dX12_tooSoon_43 : decode cX12_tooSoon 43 = .ok (.iaload, 1) := by decide +kernel
theorem dX12_tooSoon_44 : decode cX12_tooSoon 44 = .ok (.if_icmp .ge 50, 3) := by decide +kernel
theorem dX12_tooSoon_47 : decode cX12_tooSoon 47 = .ok (.aload_n 0, 1) := by decide +kernel
theorem dX12_tooSoon_48 : decode cX12_tooSoon 48 = .ok (.getfield 173, 3) := by decide +kernel
theorem dX12_tooSoon_51 : decode cX12_tooSoon 51 = .ok (.iload_n 3, 1) := by decide +kernel
theorem dX12_tooSoon_52 : decode cX12_tooSoon 52 = .ok (.iaload, 1) := by decide +kernel
theorem dX12_tooSoon_53 : decode cX12_tooSoon 53 = .ok (.iconst 1, 1) := by decide +kernel
theorem dX12_tooSoon_54 : decode cX12_tooSoon 54 = .ok (.if_icmp .ne 34, 3) := by decide +kernel
theorem dX12_tooSoon_57 : decode cX12_tooSoon 57 = .ok (.aload_n 0, 1) := by decide +kernel
theorem dX12_tooSoon_58 : decode cX12_tooSoon 58 = .ok (.getfield 149, 3) := by decide +kernel
theorem dX12_tooSoon_61 : decode cX12_tooSoon 61 = .ok (.iload_n 3, 1) := by decide +kernel
theorem dX12_tooSoon_62 : decode cX12_tooSoon 62 = .ok (.iaload, 1) := by decide +kernel
theorem dX12_tooSoon_63 : decode cX12_tooSoon 63 = .ok (.iconst 1, 1) := by decide +kernel
theorem dX12_tooSoon_64 : decode cX12_tooSoon 64 = .ok (.if_icmp .ne 18, 3) := by decide +kernel
theorem dX12_tooSoon_67 : decode cX12_tooSoon 67 = .ok (.aload_n 0, 1) := by decide +kernel
theorem dX12_tooSoon_68 : decode cX12_tooSoon 68 = .ok (.getfield 152, 3) := by decide +kernel
theorem dX12_tooSoon_71 : decode cX12_tooSoon 71 = .ok (.iload_n 3, 1) := by decide +kernel
theorem dX12_tooSoon_72 : decode cX12_tooSoon 72 = .ok (.iaload, 1) := by decide +kernel
theorem dX12_tooSoon_73 : decode cX12_tooSoon 73 = .ok (.aload_n 0, 1) := by decide +kernel
theorem dX12_tooSoon_74 : decode cX12_tooSoon 74 = .ok (.getfield 176, 3) := by decide +kernel
theorem dX12_tooSoon_77 : decode cX12_tooSoon 77 = .ok (.iload_n 3, 1) := by decide +kernel
theorem dX12_tooSoon_78 : decode cX12_tooSoon 78 = .ok (.iaload, 1) := by decide +kernel
theorem dX12_tooSoon_79 : decode cX12_tooSoon 79 = .ok (.if_icmp .le 9, 3) := by decide +kernel
theorem dX12_tooSoon_82 : decode cX12_tooSoon 82 = .ok (.iload_n 2, 1) := by decide +kernel
theorem dX12_tooSoon_83 : decode cX12_tooSoon 83 = .ok (.iconst 1, 1) := by decide +kernel
theorem dX12_tooSoon_84 : decode cX12_tooSoon 84 = .ok (.iload_n 3, 1) := by decide +kernel
theorem dX12_tooSoon_85 : decode cX12_tooSoon 85 = .ok (.ishl, 1) := by decide +kernel
theorem dX12_tooSoon_86 : decode cX12_tooSoon 86 = .ok (.ior, 1) := by decide +kernel
theorem dX12_tooSoon_87 : decode cX12_tooSoon 87 = .ok (.istore_n 2, 1) := by decide +kernel
theorem dX12_tooSoon_88 : decode cX12_tooSoon 88 = .ok (.iinc 3 1, 3) := by decide +kernel
theorem dX12_tooSoon_91 : decode cX12_tooSoon 91 = .ok (.goto (-57), 3) := by decide +kernel
theorem dX12_tooSoon_94 : decode cX12_tooSoon 94 = .ok (.iload_n 2, 1) := by decide +kernel
theorem dX12_tooSoon_95 : decode cX12_tooSoon 95 = .ok (.ireturn, 1) := by decide +kernel
theorem dX12_wrong_0 : decode cX12_wrong 0 = .ok (.iload_n 1, 1) := by decide +kernel
theorem dX12_wrong_1 : decode cX12_wrong 1 = .ok (.invokestatic 412, 3) := by decide +kernel
theorem dX12_wrong_4 : decode cX12_wrong 4 = .ok (.ifCond .eq 20, 3) := by decide +kernel
theorem dX12_wrong_7 : decode cX12_wrong 7 = .ok (.aload_n 0, 1) := by decide +kernel
theorem dX12_wrong_8 : decode cX12_wrong 8 = .ok (.iload_n 2, 1) := by decide +kernel
theorem dX12_wrong_9 : decode cX12_wrong 9 = .ok (.invokevirtual 435, 3) := by decide +kernel
theorem dX12_wrong_12 : decode cX12_wrong 12 = .ok (.ifCond .eq 12, 3) := by decide +kernel
theorem dX12_wrong_15 : decode cX12_wrong 15 = .ok (.iload_n 3, 1) := by decide +kernel
theorem dX12_wrong_16 : decode cX12_wrong 16 = .ok (.iconst 0, 1) := by decide +kernel
theorem dX12_wrong_17 : decode cX12_wrong 17 = .ok (.iconst 1, 1) := by decide +kernel
theorem dX12_wrong_18 : decode cX12_wrong 18 = .ok (.invokestatic 383, 3) := by decide +kernel
theorem dX12_wrong_21 : decode cX12_wrong 21 = .ok (.ifCond .ne 5, 3) := by decide +kernel
theorem dX12_wrong_24 : decode cX12_wrong 24 = .ok (.iconst (-1), 1) := by decide +kernel
theorem dX12_wrong_25 : decode cX12_wrong 25 = .ok (.ireturn, 1) := by decide +kernel
theorem dX12_wrong_26 : decode cX12_wrong 26 = .ok (.iconst 0, 1) := by decide +kernel
theorem dX12_wrong_27 : decode cX12_wrong 27 = .ok (.istore 4, 2) := by decide +kernel
theorem dX12_wrong_29 : decode cX12_wrong 29 = .ok (.iconst 0, 1) := by decide +kernel
theorem dX12_wrong_30 : decode cX12_wrong 30 = .ok (.istore 5, 2) := by decide +kernel
theorem dX12_wrong_32 : decode cX12_wrong 32 = .ok (.iload 5, 2) := by decide +kernel
theorem dX12_wrong_34 : decode cX12_wrong 34 = .ok (.aload_n 0, 1) := by decide +kernel
theorem dX12_wrong_35 : decode cX12_wrong 35 = .ok (.getfield 49, 3) := by decide +kernel
theorem dX12_wrong_38 : decode cX12_wrong 38 = .ok (.aload_n 0, 1) := by decide +kernel
theorem dX12_wrong_39 : decode cX12_wrong 39 = .ok (.getfield 284, 3) := by decide +kernel
theorem dX12_wrong_42 : decode cX12_wrong 42 = .ok (.iaload, 1) := by decide +kernel
theorem dX12_wrong_43 : decode cX12_wrong 43 = .ok (.if_icmp .ge 137, 3) := by decide +kernel
theorem dX12_wrong_46 : decode cX12_wrong 46 = .ok (.aload_n 0, 1) := by decide +kernel
theorem dX12_wrong_47 : decode cX12_wrong 47 = .ok (.iload 5, 2) := by decide +kernel
theorem dX12_wrong_49 : decode cX12_wrong 49 = .ok (.iload_n 1, 1) := by decide +kernel
theorem dX12_wrong_50 : decode cX12_wrong 50 = .ok (.iload_n 2, 1) := by decide +kernel
theorem dX12_wrong_51 : decode cX12_wrong 51 = .ok (.invokevirtual 438, 3) := by decide +kernel
theorem dX12_wrong_54 : decode cX12_wrong 54 = .ok (.aload_n 0, 1) := by decide +kernel
theorem dX12_wrong_55 : decode cX12_wrong 55 = .ok (.getfield 91, 3) := by decide +kernel
theorem dX12_wrong_58 : decode cX12_wrong 58 = .ok (.aload_n 0, 1) := by decide +kernel
theorem dX12_wrong_59 : decode cX12_wrong 59 = .ok (.getfield 284, 3) := by decide +kernel
theorem dX12_wrong_62 : decode cX12_wrong 62 = .ok (.iaload, 1) := by decide +kernel
theorem dX12_wrong_63 : decode cX12_wrong 63 = .ok (.if_icmp .lt 7, 3) := by decide +kernel
theorem dX12_wrong_66 : decode cX12_wrong 66 = .ok (.iconst 1, 1) := by decide +kernel
theorem dX12_wrong_67 : decode cX12_wrong 67 = .ok (.goto 4, 3) := by decide +kernel
theorem dX12_wrong_70 : decode cX12_wrong 70 = .ok (.iconst 0, 1) := by decide +kernel
theorem dX12_wrong_71 : decode cX12_wrong 71 = .ok (.istore 6, 2) := by decide +kernel
theorem dX12_wrong_73 : decode cX12_wrong 73 = .ok (.iconst 0, 1) := by decide +kernel
theorem dX12_wrong_74 : decode cX12_wrong 74 = .ok (.istore 7, 2) := by decide +kernel
theorem dX12_wrong_76 : decode cX12_wrong 76 = .ok (.iconst 0, 1) := by decide +kernel
theorem dX12_wrong_77 : decode cX12_wrong 77 = .ok (.istore 8, 2) := by decide +kernel
theorem dX12_wrong_79 : decode cX12_wrong 79 = .ok (.iload 8, 2) := by decide +kernel
theorem dX12_wrong_81 : decode cX12_wrong 81 = .ok (.iload_n 2, 1) := by decide +kernel
theorem dX12_wrong_82 : decode cX12_wrong 82 = .ok (.if_icmp .ge 56, 3) := by decide +kernel
theorem dX12_wrong_85 : decode cX12_wrong 85 = .ok (.aload_n 0, 1) := by decide +kernel
theorem dX12_wrong_86 : decode cX12_wrong 86 = .ok (.getfield 137, 3) := by decide +kernel
theorem dX12_wrong_89 : decode cX12_wrong 89 = .ok (.iload 8, 2) := by decide +kernel
theorem dX12_wrong_91 : decode cX12_wrong 91 = .ok (.iaload, 1) := by decide +kernel
theorem dX12_wrong_92 : decode cX12_wrong 92 = .ok (.iconst 1, 1) := by decide +kernel
theorem dX12_wrong_93 : decode cX12_wrong 93 = .ok (.if_icmp .ne 39, 3) := by decide +kernel
theorem dX12_wrong_96 : decode cX12_wrong 96 = .ok (.aload_n 0, 1) := by decide +kernel
theorem dX12_wrong_97 : decode cX12_wrong 97 = .ok (.getfield 143, 3) := by decide +kernel
theorem dX12_wrong_100 : decode cX12_wrong 100 = .ok (.iload 8, 2) := by decide +kernel
theorem dX12_wrong_102 : decode cX12_wrong 102 = .ok (.iaload, 1) := by decide +kernel
theorem dX12_wrong_103 : decode cX12_wrong 103 = .ok (.iload 5, 2) := by decide +kernel
theorem dX12_wrong_105 : decode cX12_wrong 105 = .ok (.if_icmp .ne 27, 3) := by decide +kernel
theorem dX12_wrong_108 : decode cX12_wrong 108 = .ok (.aload_n 0, 1) := by decide +kernel
theorem dX12_wrong_109 : decode cX12_wrong 109 = .ok (.getfield 140, 3) := by decide +kernel
theorem dX12_wrong_112 : decode cX12_wrong 112 = .ok (.iload 8, 2) := by decide +kernel
theorem dX12_wrong_114 : decode cX12_wrong 114 = .ok (.iaload, 1) := by decide +kernel
theorem dX12_wrong_115 : decode cX12_wrong 115 = .ok (.iload_n 1, 1) := by decide +kernel
theorem dX12_wrong_116 : decode cX12_wrong 116 = .ok (.if_icmp .gt 16, 3) := by decide +kernel
theorem dX12_wrong_119 : decode cX12_wrong 119 = .ok (.aload_n 0, 1) := by decide +kernel
theorem dX12_wrong_120 : decode cX12_wrong 120 = .ok (.iload 8, 2) := by decide +kernel
theorem dX12_wrong_122 : decode cX12_wrong 122 = .ok (.iload_n 2, 1) := by decide +kernel
theorem dX12_wrong_123 : decode cX12_wrong 123 = .ok (.invokevirtual 432, 3) := by decide +kernel
theorem dX12_wrong_126 : decode cX12_wrong 126 = .ok (.ifCond .eq 6, 3) := by decide +kernel
theorem dX12_wrong_129 : decode cX12_wrong 129 = .ok (.iconst 1, 1) := by decide +kernel
theorem dX12_wrong_130 : decode cX12_wrong 130 = .ok (.istore 7, 2) := by decide +kernel
theorem dX12_wrong_132 : decode cX12_wrong 132 = .ok (.iinc 8 1, 3) := by decide +kernel
theorem dX12_wrong_135 : decode cX12_wrong 135 = .ok (.goto (-56), 3) := by decide +kernel
theorem dX12_wrong_138 : decode cX12_wrong 138 = .ok (.iload_n 3, 1) := by decide +kernel
theorem dX12_wrong_139 : decode cX12_wrong 139 = .ok (.ifCond .ne 16, 3) := by decide +kernel
theorem dX12_wrong_142 : decode cX12_wrong 142 = .ok (.iload 6, 2) := by decide +kernel
theorem dX12_wrong_144 : decode cX12_wrong 144 = .ok (.ifCond .eq 30, 3) := by decide +kernel
theorem dX12_wrong_147 : decode cX12_wrong 147 = .ok (.iload 7, 2) := by decide +kernel
theorem dX12_wrong_149 : decode cX12_wrong 149 = .ok (.ifCond .ne 25, 3) := by decide +kernel
theorem dX12_wrong_152 : decode cX12_wrong 152 = .ok (.goto 13, 3) := by decide +kernel
theorem dX12_wrong_155 : decode cX12_wrong 155 = .ok (.iload 7, 2) := by decide +kernel
theorem dX12_wrong_157 : decode cX12_wrong 157 = .ok (.ifCond .eq 17, 3) := by decide +kernel
theorem dX12_wrong_160 : decode cX12_wrong 160 = .ok (.iload 6, 2) := by decide +kernel
theorem dX12_wrong_162 : decode cX12_wrong 162 = .ok (.ifCond .ne 12, 3) := by decide +kernel
theorem dX12_wrong_165 : decode cX12_wrong 165 = .ok (.iload 4, 2) := by decide +kernel
theorem dX12_wrong_167 : decode cX12_wrong 167 = .ok (.iconst 1, 1) := by decide +kernel
theorem dX12_wrong_168 : decode cX12_wrong 168 = .ok (.iload 5, 2) := by decide +kernel
theorem dX12_wrong_170 : decode cX12_wrong 170 = .ok (.ishl, 1) := by decide +kernel
theorem dX12_wrong_171 : decode cX12_wrong 171 = .ok (.ior, 1) := by decide +kernel
theorem dX12_wrong_172 : decode cX12_wrong 172 = .ok (.istore 4, 2) := by decide +kernel
theorem dX12_wrong_174 : decode cX12_wrong 174 = .ok (.iinc 5 1, 3) := by decide +kernel
theorem dX12_wrong_177 : decode cX12_wrong 177 = .ok (.goto (-145), 3) := by decide +kernel
theorem dX12_wrong_180 : decode cX12_wrong 180 = .ok (.iload 4, 2) := by decide +kernel
theorem dX12_wrong_182 : decode cX12_wrong 182 = .ok (.ireturn, 1) := by decide +kernel
theorem dX12_isEach_0 : decode cX12_isEach 0 = .ok (.iload_n 0, 1) := by decide +kernel
theorem dX12_isEach_1 : decode cX12_isEach 1 = .ok (.iconst 1, 1) := by decide +kernel
theorem dX12_isEach_2 : decode cX12_isEach 2 = .ok (.bipush 20, 2) := by decide +kernel
theorem dX12_isEach_4 : decode cX12_isEach 4 = .ok (.invokestatic 383, 3) := by decide +kernel
theorem dX12_isEach_7 : decode cX12_isEach 7 = .ok (.ireturn, 1) := by decide +kernel
theorem dX12_late_0 : decode cX12_late 0 = .ok (.aload_n 0, 1) := by decide +kernel
theorem dX12_late_1 : decode cX12_late 1 = .ok (.iload_n 1, 1) := by decide +kernel
theorem dX12_late_2 : decode cX12_late 2 = .ok (.invokevirtual 400, 3) := by decide +kernel
theorem dX12_late_5 : decode cX12_late 5 = .ok (.ifCond .eq 18, 3) := by decide +kernel
theorem dX12_late_8 : decode cX12_late 8 = .ok (.aload_n 0, 1) := by decide +kernel
theorem dX12_late_9 : decode cX12_late 9 = .ok (.iload_n 2, 1) := by decide +kernel
theorem dX12_late_10 : decode cX12_late 10 = .ok (.invokevirtual 435, 3) := by decide +kernel
theorem dX12_late_13 : decode cX12_late 13 = .ok (.ifCond .eq 10, 3) := by decide +kernel
theorem dX12_late_16 : decode cX12_late 16 = .ok (.iload_n 3, 1) := by decide +kernel
theorem dX12_late_17 : decode cX12_late 17 = .ok (.invokestatic 492, 3) := by decide +kernel
theorem dX12_late_20 : decode cX12_late 20 = .ok (.ifCond .ne 5, 3) := by decide +kernel
theorem dX12_late_23 : decode cX12_late 23 = .ok (.iconst (-1), 1) := by decide +kernel
theorem dX12_late_24 : decode cX12_late 24 = .ok (.ireturn, 1) := by decide +kernel
theorem dX12_late_25 : decode cX12_late 25 = .ok (.aload_n 0, 1) := by decide +kernel
theorem dX12_late_26 : decode cX12_late 26 = .ok (.iload_n 2, 1) := by decide +kernel
theorem dX12_late_27 : decode cX12_late 27 = .ok (.invokevirtual 486, 3) := by decide +kernel
theorem dX12_late_30 : decode cX12_late 30 = .ok (.aload_n 0, 1) := by decide +kernel
theorem dX12_late_31 : decode cX12_late 31 = .ok (.invokevirtual 489, 3) := by decide +kernel
theorem dX12_late_34 : decode cX12_late 34 = .ok (.aload_n 0, 1) := by decide +kernel
theorem dX12_late_35 : decode cX12_late 35 = .ok (.iload_n 2, 1) := by decide +kernel
theorem dX12_late_36 : decode cX12_late 36 = .ok (.iload_n 3, 1) := by decide +kernel
theorem dX12_late_37 : decode cX12_late 37 = .ok (.iconst 0, 1) := by decide +kernel
theorem dX12_late_38 : decode cX12_late 38 = .ok (.iconst 0, 1) := by decide +kernel
theorem dX12_late_39 : decode cX12_late 39 = .ok (.iconst 0, 1) := by decide +kernel
theorem dX12_late_40 : decode cX12_late 40 = .ok (.bipush 59, 2) := by decide +kernel
theorem dX12_late_42 : decode cX12_late 42 = .ok (.invokevirtual 482, 3) := by decide +kernel
theorem dX12_late_45 : decode cX12_late 45 = .ok (.aload_n 0, 1) := by decide +kernel
theorem dX12_late_46 : decode cX12_late 46 = .ok (.getfield 149, 3) := by decide +kernel
theorem dX12_late_49 : decode cX12_late 49 = .ok (.iload_n 1, 1) := by decide +kernel
theorem dX12_late_50 : decode cX12_late 50 = .ok (.iaload, 1) := by decide +kernel
theorem dX12_late_51 : decode cX12_late 51 = .ok (.aload_n 0, 1) := by decide +kernel
theorem dX12_late_52 : decode cX12_late 52 = .ok (.getfield 173, 3) := by decide +kernel
theorem dX12_late_55 : decode cX12_late 55 = .ok (.iload_n 1, 1) := by decide +kernel
theorem dX12_late_56 : decode cX12_late 56 = .ok (.iaload, 1) := by decide +kernel
theorem dX12_late_57 : decode cX12_late 57 = .ok (.if_icmp .eq 6, 3) := by decide +kernel
theorem dX12_late_60 : decode cX12_late 60 = .ok (.bipush (-2), 2) := by decide +kernel
theorem dX12_late_62 : decode cX12_late 62 = .ok (.ireturn, 1) := by decide +kernel
theorem dX12_late_63 : decode cX12_late 63 = .ok (.aload_n 0, 1) := by decide +kernel
theorem dX12_late_64 : decode cX12_late 64 = .ok (.getfield 149, 3) := by decide +kernel
theorem dX12_late_67 : decode cX12_late 67 = .ok (.iload_n 1, 1) := by decide +kernel
theorem dX12_late_68 : decode cX12_late 68 = .ok (.iaload, 1) := by decide +kernel
theorem dX12_late_69 : decode cX12_late 69 = .ok (.iconst 1, 1) := by decide +kernel
theorem dX12_late_70 : decode cX12_late 70 = .ok (.if_icmp .ne 19, 3) := by decide +kernel
theorem dX12_late_73 : decode cX12_late 73 = .ok (.aload_n 0, 1) := by decide +kernel
theorem dX12_late_74 : decode cX12_late 74 = .ok (.getfield 152, 3) := by decide +kernel
theorem dX12_late_77 : decode cX12_late 77 = .ok (.iload_n 1, 1) := by decide +kernel
theorem dX12_late_78 : decode cX12_late 78 = .ok (.iaload, 1) := by decide +kernel
theorem dX12_late_79 : decode cX12_late 79 = .ok (.aload_n 0, 1) := by decide +kernel
theorem dX12_late_80 : decode cX12_late 80 = .ok (.getfield 176, 3) := by decide +kernel
theorem dX12_late_83 : decode cX12_late 83 = .ok (.iload_n 1, 1) := by decide +kernel
theorem dX12_late_84 : decode cX12_late 84 = .ok (.iaload, 1) := by decide +kernel
theorem dX12_late_85 : decode cX12_late 85 = .ok (.isub, 1) := by decide +kernel
theorem dX12_late_86 : decode cX12_late 86 = .ok (.goto 19, 3) := by decide +kernel
theorem dX12_late_89 : decode cX12_late 89 = .ok (.aload_n 0, 1) := by decide +kernel
theorem dX12_late_90 : decode cX12_late 90 = .ok (.getfield 149, 3) := by decide +kernel
theorem dX12_late_93 : decode cX12_late 93 = .ok (.iload_n 1, 1) := by decide +kernel
theorem dX12_late_94 : decode cX12_late 94 = .ok (.iaload, 1) := by decide +kernel
theorem dX12_late_95 : decode cX12_late 95 = .ok (.iconst 2, 1) := by decide +kernel
theorem dX12_late_96 : decode cX12_late 96 = .ok (.if_icmp .ne 7, 3) := by decide +kernel
theorem dX12_late_99 : decode cX12_late 99 = .ok (.iconst 0, 1) := by decide +kernel
theorem dX12_late_100 : decode cX12_late 100 = .ok (.goto 5, 3) := by decide +kernel
theorem dX12_late_103 : decode cX12_late 103 = .ok (.bipush (-2), 2) := by decide +kernel
theorem dX12_late_105 : decode cX12_late 105 = .ok (.ireturn, 1) := by decide +kernel
theorem dX12_isWatched_0 : decode cX12_isWatched 0 = .ok (.iconst 0, 1) := by decide +kernel
theorem dX12_isWatched_1 : decode cX12_isWatched 1 = .ok (.istore_n 2, 1) := by decide +kernel
theorem dX12_isWatched_2 : decode cX12_isWatched 2 = .ok (.iload_n 2, 1) := by decide +kernel
theorem dX12_isWatched_3 : decode cX12_isWatched 3 = .ok (.aload_n 0, 1) := by decide +kernel
theorem dX12_isWatched_4 : decode cX12_isWatched 4 = .ok (.getfield 67, 3) := by decide +kernel
theorem dX12_isWatched_7 : decode cX12_isWatched 7 = .ok (.aload_n 0, 1) := by decide +kernel
theorem dX12_isWatched_8 : decode cX12_isWatched 8 = .ok (.getfield 284, 3) := by decide +kernel
theorem dX12_isWatched_11 : decode cX12_isWatched 11 = .ok (.iaload, 1) := by decide +kernel
theorem dX12_isWatched_12 : decode cX12_isWatched 12 = .ok (.if_icmp .ge 51, 3) := by decide +kernel
theorem dX12_isWatched_15 : decode cX12_isWatched 15 = .ok (.aload_n 0, 1) := by decide +kernel
theorem dX12_isWatched_16 : decode cX12_isWatched 16 = .ok (.getfield 173, 3) := by decide +kernel
theorem dX12_isWatched_19 : decode cX12_isWatched 19 = .ok (.iload_n 2, 1) := by decide +kernel
theorem dX12_isWatched_20 : decode cX12_isWatched 20 = .ok (.iaload, 1) := by decide +kernel
theorem dX12_isWatched_21 : decode cX12_isWatched 21 = .ok (.iconst 1, 1) := by decide +kernel
theorem dX12_isWatched_22 : decode cX12_isWatched 22 = .ok (.if_icmp .eq 6, 3) := by decide +kernel
theorem dX12_isWatched_25 : decode cX12_isWatched 25 = .ok (.goto 32, 3) := by decide +kernel
theorem dX12_isWatched_28 : decode cX12_isWatched 28 = .ok (.aload_n 0, 1) := by decide +kernel
theorem dX12_isWatched_29 : decode cX12_isWatched 29 = .ok (.getfield 149, 3) := by decide +kernel
theorem dX12_isWatched_32 : decode cX12_isWatched 32 = .ok (.iload_n 2, 1) := by decide +kernel
theorem dX12_isWatched_33 : decode cX12_isWatched 33 = .ok (.iaload, 1) := by decide +kernel
theorem dX12_isWatched_34 : decode cX12_isWatched 34 = .ok (.iconst 1, 1) := by decide +kernel
theorem dX12_isWatched_35 : decode cX12_isWatched 35 = .ok (.if_icmp .ne 20, 3) := by decide +kernel
theorem dX12_isWatched_38 : decode cX12_isWatched 38 = .ok (.aload_n 0, 1) := by decide +kernel
theorem dX12_isWatched_39 : decode cX12_isWatched 39 = .ok (.getfield 152, 3) := by decide +kernel
theorem dX12_isWatched_42 : decode cX12_isWatched 42 = .ok (.iload_n 2, 1) := by decide +kernel
theorem dX12_isWatched_43 : decode cX12_isWatched 43 = .ok (.iaload, 1) := by decide +kernel
theorem dX12_isWatched_44 : decode cX12_isWatched 44 = .ok (.aload_n 0, 1) := by decide +kernel
theorem dX12_isWatched_45 : decode cX12_isWatched 45 = .ok (.getfield 176, 3) := by decide +kernel
theorem dX12_isWatched_48 : decode cX12_isWatched 48 = .ok (.iload_n 2, 1) := by decide +kernel
theorem dX12_isWatched_49 : decode cX12_isWatched 49 = .ok (.iaload, 1) := by decide +kernel
theorem dX12_isWatched_50 : decode cX12_isWatched 50 = .ok (.isub, 1) := by decide +kernel
theorem dX12_isWatched_51 : decode cX12_isWatched 51 = .ok (.iload_n 1, 1) := by decide +kernel
theorem dX12_isWatched_52 : decode cX12_isWatched 52 = .ok (.if_icmp .le 5, 3) := by decide +kernel
theorem dX12_isWatched_55 : decode cX12_isWatched 55 = .ok (.iconst 0, 1) := by decide +kernel
theorem dX12_isWatched_56 : decode cX12_isWatched 56 = .ok (.ireturn, 1) := by decide +kernel
theorem dX12_isWatched_57 : decode cX12_isWatched 57 = .ok (.iinc 2 1, 3) := by decide +kernel
theorem dX12_isWatched_60 : decode cX12_isWatched 60 = .ok (.goto (-58), 3) := by decide +kernel
theorem dX12_isWatched_63 : decode cX12_isWatched 63 = .ok (.iconst 1, 1) := by decide +kernel
theorem dX12_isWatched_64 : decode cX12_isWatched 64 = .ok (.ireturn, 1) := by decide +kernel
theorem dX12_watch_0 : decode cX12_watch 0 = .ok (.aload_n 0, 1) := by decide +kernel
theorem dX12_watch_1 : decode cX12_watch 1 = .ok (.iload_n 1, 1) := by decide +kernel
theorem dX12_watch_2 : decode cX12_watch 2 = .ok (.invokevirtual 435, 3) := by decide +kernel
theorem dX12_watch_5 : decode cX12_watch 5 = .ok (.ifCond .eq 10, 3) := by decide +kernel
theorem dX12_watch_8 : decode cX12_watch 8 = .ok (.iload_n 2, 1) := by decide +kernel
theorem dX12_watch_9 : decode cX12_watch 9 = .ok (.invokestatic 412, 3) := by decide +kernel
theorem dX12_watch_12 : decode cX12_watch 12 = .ok (.ifCond .ne 5, 3) := by decide +kernel
theorem dX12_watch_15 : decode cX12_watch 15 = .ok (.iconst (-1), 1) := by decide +kernel
theorem dX12_watch_16 : decode cX12_watch 16 = .ok (.ireturn, 1) := by decide +kernel
theorem dX12_watch_17 : decode cX12_watch 17 = .ok (.aload_n 0, 1) := by decide +kernel
theorem dX12_watch_18 : decode cX12_watch 18 = .ok (.iload_n 1, 1) := by decide +kernel
theorem dX12_watch_19 : decode cX12_watch 19 = .ok (.invokevirtual 486, 3) := by decide +kernel
theorem dX12_watch_22 : decode cX12_watch 22 = .ok (.aload_n 0, 1) := by decide +kernel
theorem dX12_watch_23 : decode cX12_watch 23 = .ok (.invokevirtual 489, 3) := by decide +kernel
theorem dX12_watch_26 : decode cX12_watch 26 = .ok (.bipush 20, 2) := by decide +kernel
theorem dX12_watch_28 : decode cX12_watch 28 = .ok (.istore_n 3, 1) := by decide +kernel
theorem dX12_watch_29 : decode cX12_watch 29 = .ok (.iload_n 3, 1) := by decide +kernel
theorem dX12_watch_30 : decode cX12_watch 30 = .ok (.iconst 1, 1) := by decide +kernel
theorem dX12_watch_31 : decode cX12_watch 31 = .ok (.if_icmp .le 30, 3) := by decide +kernel
theorem dX12_watch_34 : decode cX12_watch 34 = .ok (.aload_n 0, 1) := by decide +kernel
theorem dX12_watch_35 : decode cX12_watch 35 = .ok (.iload_n 1, 1) := by decide +kernel
theorem dX12_watch_36 : decode cX12_watch 36 = .ok (.iload_n 3, 1) := by decide +kernel
theorem dX12_watch_37 : decode cX12_watch 37 = .ok (.iconst 0, 1) := by decide +kernel
theorem dX12_watch_38 : decode cX12_watch 38 = .ok (.iconst 0, 1) := by decide +kernel
theorem dX12_watch_39 : decode cX12_watch 39 = .ok (.iconst 0, 1) := by decide +kernel
theorem dX12_watch_40 : decode cX12_watch 40 = .ok (.bipush 59, 2) := by decide +kernel
theorem dX12_watch_42 : decode cX12_watch 42 = .ok (.invokevirtual 482, 3) := by decide +kernel
theorem dX12_watch_45 : decode cX12_watch 45 = .ok (.aload_n 0, 1) := by decide +kernel
theorem dX12_watch_46 : decode cX12_watch 46 = .ok (.iload_n 2, 1) := by decide +kernel
theorem dX12_watch_47 : decode cX12_watch 47 = .ok (.invokevirtual 495, 3) := by decide +kernel
theorem dX12_watch_50 : decode cX12_watch 50 = .ok (.ifCond .eq 5, 3) := by decide +kernel
theorem dX12_watch_53 : decode cX12_watch 53 = .ok (.iload_n 3, 1) := by decide +kernel
theorem dX12_watch_54 : decode cX12_watch 54 = .ok (.ireturn, 1) := by decide +kernel
theorem dX12_watch_55 : decode cX12_watch 55 = .ok (.iinc 3 (-1), 3) := by decide +kernel
theorem dX12_watch_58 : decode cX12_watch 58 = .ok (.goto (-29), 3) := by decide +kernel
theorem dX12_watch_61 : decode cX12_watch 61 = .ok (.iconst 1, 1) := by decide +kernel
theorem dX12_watch_62 : decode cX12_watch 62 = .ok (.ireturn, 1) := by decide +kernel
theorem dX12_gains_0 : decode cX12_gains 0 = .ok (.iconst 0, 1) := by decide +kernel
theorem dX12_gains_1 : decode cX12_gains 1 = .ok (.istore_n 1, 1) := by decide +kernel
theorem dX12_gains_2 : decode cX12_gains 2 = .ok (.iconst 0, 1) := by decide +kernel
theorem dX12_gains_3 : decode cX12_gains 3 = .ok (.istore_n 2, 1) := by decide +kernel
theorem dX12_gains_4 : decode cX12_gains 4 = .ok (.iload_n 2, 1) := by decide +kernel
theorem dX12_gains_5 : decode cX12_gains 5 = .ok (.aload_n 0, 1) := by decide +kernel
theorem dX12_gains_6 : decode cX12_gains 6 = .ok (.getfield 67, 3) := by decide +kernel
theorem dX12_gains_9 : decode cX12_gains 9 = .ok (.aload_n 0, 1) := by decide +kernel
theorem dX12_gains_10 : decode cX12_gains 10 = .ok (.getfield 284, 3) := by decide +kernel
theorem dX12_gains_13 : decode cX12_gains 13 = .ok (.iaload, 1) := by decide +kernel
theorem dX12_gains_14 : decode cX12_gains 14 = .ok (.if_icmp .ge 61, 3) := by decide +kernel
theorem dX12_gains_17 : decode cX12_gains 17 = .ok (.aload_n 0, 1) := by decide +kernel
theorem dX12_gains_18 : decode cX12_gains 18 = .ok (.getfield 149, 3) := by decide +kernel
theorem dX12_gains_21 : decode cX12_gains 21 = .ok (.iload_n 2, 1) := by decide +kernel
theorem dX12_gains_22 : decode cX12_gains 22 = .ok (.iaload, 1) := by decide +kernel
theorem dX12_gains_23 : decode cX12_gains 23 = .ok (.iconst 1, 1) := by decide +kernel
theorem dX12_gains_24 : decode cX12_gains 24 = .ok (.if_icmp .ne 45, 3) := by decide +kernel
theorem dX12_gains_27 : decode cX12_gains 27 = .ok (.iload_n 1, 1) := by decide +kernel
theorem dX12_gains_28 : decode cX12_gains 28 = .ok (.aload_n 0, 1) := by decide +kernel
theorem dX12_gains_29 : decode cX12_gains 29 = .ok (.iload_n 2, 1) := by decide +kernel
theorem dX12_gains_30 : decode cX12_gains 30 = .ok (.aload_n 0, 1) := by decide +kernel
theorem dX12_gains_31 : decode cX12_gains 31 = .ok (.getfield 152, 3) := by decide +kernel
theorem dX12_gains_34 : decode cX12_gains 34 = .ok (.iload_n 2, 1) := by decide +kernel
theorem dX12_gains_35 : decode cX12_gains 35 = .ok (.iaload, 1) := by decide +kernel
theorem dX12_gains_36 : decode cX12_gains 36 = .ok (.aload_n 0, 1) := by decide +kernel
theorem dX12_gains_37 : decode cX12_gains 37 = .ok (.getfield 173, 3) := by decide +kernel
theorem dX12_gains_40 : decode cX12_gains 40 = .ok (.iload_n 2, 1) := by decide +kernel
theorem dX12_gains_41 : decode cX12_gains 41 = .ok (.iaload, 1) := by decide +kernel
theorem dX12_gains_42 : decode cX12_gains 42 = .ok (.iconst 1, 1) := by decide +kernel
theorem dX12_gains_43 : decode cX12_gains 43 = .ok (.if_icmp .ne 19, 3) := by decide +kernel
theorem dX12_gains_46 : decode cX12_gains 46 = .ok (.aload_n 0, 1) := by decide +kernel
theorem dX12_gains_47 : decode cX12_gains 47 = .ok (.getfield 152, 3) := by decide +kernel
theorem dX12_gains_50 : decode cX12_gains 50 = .ok (.iload_n 2, 1) := by decide +kernel
theorem dX12_gains_51 : decode cX12_gains 51 = .ok (.iaload, 1) := by decide +kernel
theorem dX12_gains_52 : decode cX12_gains 52 = .ok (.aload_n 0, 1) := by decide +kernel
theorem dX12_gains_53 : decode cX12_gains 53 = .ok (.getfield 176, 3) := by decide +kernel
theorem dX12_gains_56 : decode cX12_gains 56 = .ok (.iload_n 2, 1) := by decide +kernel
theorem dX12_gains_57 : decode cX12_gains 57 = .ok (.iaload, 1) := by decide +kernel
theorem dX12_gains_58 : decode cX12_gains 58 = .ok (.isub, 1) := by decide +kernel
theorem dX12_gains_59 : decode cX12_gains 59 = .ok (.goto 5, 3) := by decide +kernel
theorem dX12_gains_62 : decode cX12_gains 62 = .ok (.bipush (-2), 2) := by decide +kernel
theorem dX12_gains_64 : decode cX12_gains 64 = .ok (.invokevirtual 498, 3) := by decide +kernel
theorem dX12_gains_67 : decode cX12_gains 67 = .ok (.iadd, 1) := by decide +kernel
theorem dX12_gains_68 : decode cX12_gains 68 = .ok (.istore_n 1, 1) := by decide +kernel
theorem dX12_gains_69 : decode cX12_gains 69 = .ok (.iinc 2 1, 3) := by decide +kernel
theorem dX12_gains_72 : decode cX12_gains 72 = .ok (.goto (-68), 3) := by decide +kernel
theorem dX12_gains_75 : decode cX12_gains 75 = .ok (.iload_n 1, 1) := by decide +kernel
theorem dX12_gains_76 : decode cX12_gains 76 = .ok (.ireturn, 1) := by decide +kernel
theorem dX12_gain_0 : decode cX12_gain 0 = .ok (.aload_n 0, 1) := by decide +kernel
theorem dX12_gain_1 : decode cX12_gain 1 = .ok (.iload_n 1, 1) := by decide +kernel
theorem dX12_gain_2 : decode cX12_gain 2 = .ok (.invokevirtual 435, 3) := by decide +kernel
theorem dX12_gain_5 : decode cX12_gain 5 = .ok (.ifCond .eq 10, 3) := by decide +kernel
theorem dX12_gain_8 : decode cX12_gain 8 = .ok (.iload_n 2, 1) := by decide +kernel
theorem dX12_gain_9 : decode cX12_gain 9 = .ok (.invokestatic 492, 3) := by decide +kernel
theorem dX12_gain_12 : decode cX12_gain 12 = .ok (.ifCond .ne 5, 3) := by decide +kernel
theorem dX12_gain_15 : decode cX12_gain 15 = .ok (.iconst (-1), 1) := by decide +kernel
theorem dX12_gain_16 : decode cX12_gain 16 = .ok (.ireturn, 1) := by decide +kernel
theorem dX12_gain_17 : decode cX12_gain 17 = .ok (.aload_n 0, 1) := by decide +kernel
theorem dX12_gain_18 : decode cX12_gain 18 = .ok (.iload_n 1, 1) := by decide +kernel
theorem dX12_gain_19 : decode cX12_gain 19 = .ok (.invokevirtual 486, 3) := by decide +kernel
theorem dX12_gain_22 : decode cX12_gain 22 = .ok (.aload_n 0, 1) := by decide +kernel
theorem dX12_gain_23 : decode cX12_gain 23 = .ok (.invokevirtual 489, 3) := by decide +kernel
theorem dX12_gain_26 : decode cX12_gain 26 = .ok (.aload_n 0, 1) := by decide +kernel
theorem dX12_gain_27 : decode cX12_gain 27 = .ok (.iload_n 1, 1) := by decide +kernel
theorem dX12_gain_28 : decode cX12_gain 28 = .ok (.iload_n 2, 1) := by decide +kernel
theorem dX12_gain_29 : decode cX12_gain 29 = .ok (.iconst 0, 1) := by decide +kernel
theorem dX12_gain_30 : decode cX12_gain 30 = .ok (.iconst 0, 1) := by decide +kernel
theorem dX12_gain_31 : decode cX12_gain 31 = .ok (.iconst 0, 1) := by decide +kernel
theorem dX12_gain_32 : decode cX12_gain 32 = .ok (.bipush 59, 2) := by decide +kernel
theorem dX12_gain_34 : decode cX12_gain 34 = .ok (.invokevirtual 482, 3) := by decide +kernel
theorem dX12_gain_37 : decode cX12_gain 37 = .ok (.aload_n 0, 1) := by decide +kernel
theorem dX12_gain_38 : decode cX12_gain 38 = .ok (.invokevirtual 501, 3) := by decide +kernel
theorem dX12_gain_41 : decode cX12_gain 41 = .ok (.ireturn, 1) := by decide +kernel
theorem dX12_looks_0 : decode cX12_looks 0 = .ok (.aload_n 0, 1) := by decide +kernel
theorem dX12_looks_1 : decode cX12_looks 1 = .ok (.iload_n 1, 1) := by decide +kernel
theorem dX12_looks_2 : decode cX12_looks 2 = .ok (.invokevirtual 435, 3) := by decide +kernel
theorem dX12_looks_5 : decode cX12_looks 5 = .ok (.ifCond .eq 12, 3) := by decide +kernel
theorem dX12_looks_8 : decode cX12_looks 8 = .ok (.iload_n 2, 1) := by decide +kernel
theorem dX12_looks_9 : decode cX12_looks 9 = .ok (.iconst 0, 1) := by decide +kernel
theorem dX12_looks_10 : decode cX12_looks 10 = .ok (.iconst 2, 1) := by decide +kernel
theorem dX12_looks_11 : decode cX12_looks 11 = .ok (.invokestatic 383, 3) := by decide +kernel
theorem dX12_looks_14 : decode cX12_looks 14 = .ok (.ifCond .ne 5, 3) := by decide +kernel
theorem dX12_looks_17 : decode cX12_looks 17 = .ok (.iconst (-1), 1) := by decide +kernel
theorem dX12_looks_18 : decode cX12_looks 18 = .ok (.ireturn, 1) := by decide +kernel
theorem dX12_looks_19 : decode cX12_looks 19 = .ok (.aload_n 0, 1) := by decide +kernel
theorem dX12_looks_20 : decode cX12_looks 20 = .ok (.iload_n 1, 1) := by decide +kernel
theorem dX12_looks_21 : decode cX12_looks 21 = .ok (.invokevirtual 486, 3) := by decide +kernel
theorem dX12_looks_24 : decode cX12_looks 24 = .ok (.aload_n 0, 1) := by decide +kernel
theorem dX12_looks_25 : decode cX12_looks 25 = .ok (.invokevirtual 489, 3) := by decide +kernel
theorem dX12_looks_28 : decode cX12_looks 28 = .ok (.iconst (-1), 1) := by decide +kernel
theorem dX12_looks_29 : decode cX12_looks 29 = .ok (.istore_n 3, 1) := by decide +kernel
theorem dX12_looks_30 : decode cX12_looks 30 = .ok (.iconst 0, 1) := by decide +kernel
theorem dX12_looks_31 : decode cX12_looks 31 = .ok (.istore 4, 2) := by decide +kernel
theorem dX12_looks_33 : decode cX12_looks 33 = .ok (.iconst 0, 1) := by decide +kernel
theorem dX12_looks_34 : decode cX12_looks 34 = .ok (.istore 5, 2) := by decide +kernel
theorem dX12_looks_36 : decode cX12_looks 36 = .ok (.iconst 0, 1) := by decide +kernel
theorem dX12_looks_37 : decode cX12_looks 37 = .ok (.istore 6, 2) := by decide +kernel
theorem dX12_looks_39 : decode cX12_looks 39 = .ok (.iload 6, 2) := by decide +kernel
theorem dX12_looks_41 : decode cX12_looks 41 = .ok (.bipush 59, 2) := by decide +kernel
theorem dX12_looks_43 : decode cX12_looks 43 = .ok (.if_icmp .ge 67, 3) := by decide +kernel
theorem dX12_looks_46 : decode cX12_looks 46 = .ok (.iload 6, 2) := by decide +kernel
theorem dX12_looks_48 : decode cX12_looks 48 = .ok (.iconst 1, 1) := by decide +kernel
theorem dX12_looks_49 : decode cX12_looks 49 = .ok (.iadd, 1) := by decide +kernel
theorem dX12_looks_50 : decode cX12_looks 50 = .ok (.istore 7, 2) := by decide +kernel
theorem dX12_looks_52 : decode cX12_looks 52 = .ok (.iload 7, 2) := by decide +kernel
theorem dX12_looks_54 : decode cX12_looks 54 = .ok (.bipush 60, 2) := by decide +kernel
theorem dX12_looks_56 : decode cX12_looks 56 = .ok (.if_icmp .ge 48, 3) := by decide +kernel
theorem dX12_looks_59 : decode cX12_looks 59 = .ok (.aload_n 0, 1) := by decide +kernel
theorem dX12_looks_60 : decode cX12_looks 60 = .ok (.iload_n 1, 1) := by decide +kernel
theorem dX12_looks_61 : decode cX12_looks 61 = .ok (.iconst 0, 1) := by decide +kernel
theorem dX12_looks_62 : decode cX12_looks 62 = .ok (.iload 6, 2) := by decide +kernel
theorem dX12_looks_64 : decode cX12_looks 64 = .ok (.iload 7, 2) := by decide +kernel
theorem dX12_looks_66 : decode cX12_looks 66 = .ok (.iconst 0, 1) := by decide +kernel
theorem dX12_looks_67 : decode cX12_looks 67 = .ok (.iload 7, 2) := by decide +kernel
theorem dX12_looks_69 : decode cX12_looks 69 = .ok (.invokevirtual 482, 3) := by decide +kernel
theorem dX12_looks_72 : decode cX12_looks 72 = .ok (.aload_n 0, 1) := by decide +kernel
theorem dX12_looks_73 : decode cX12_looks 73 = .ok (.invokevirtual 501, 3) := by decide +kernel
theorem dX12_looks_76 : decode cX12_looks 76 = .ok (.istore 8, 2) := by decide +kernel
theorem dX12_looks_78 : decode cX12_looks 78 = .ok (.iload 8, 2) := by decide +kernel
theorem dX12_looks_80 : decode cX12_looks 80 = .ok (.iload_n 3, 1) := by decide +kernel
theorem dX12_looks_81 : decode cX12_looks 81 = .ok (.if_icmp .gt 6, 3) := by decide +kernel
theorem dX12_looks_84 : decode cX12_looks 84 = .ok (.goto 14, 3) := by decide +kernel
theorem dX12_looks_87 : decode cX12_looks 87 = .ok (.iload 8, 2) := by decide +kernel
theorem dX12_looks_89 : decode cX12_looks 89 = .ok (.istore_n 3, 1) := by decide +kernel
theorem dX12_looks_90 : decode cX12_looks 90 = .ok (.iload 6, 2) := by decide +kernel
theorem dX12_looks_92 : decode cX12_looks 92 = .ok (.istore 4, 2) := by decide +kernel
theorem dX12_looks_94 : decode cX12_looks 94 = .ok (.iload 7, 2) := by decide +kernel
theorem dX12_looks_96 : decode cX12_looks 96 = .ok (.istore 5, 2) := by decide +kernel
theorem dX12_looks_98 : decode cX12_looks 98 = .ok (.iinc 7 1, 3) := by decide +kernel
theorem dX12_looks_101 : decode cX12_looks 101 = .ok (.goto (-49), 3) := by decide +kernel
theorem dX12_looks_104 : decode cX12_looks 104 = .ok (.iinc 6 1, 3) := by decide +kernel
theorem dX12_looks_107 : decode cX12_looks 107 = .ok (.goto (-68), 3) := by decide +kernel
theorem dX12_looks_110 : decode cX12_looks 110 = .ok (.iload_n 2, 1) := by decide +kernel
theorem dX12_looks_111 : decode cX12_looks 111 = .ok (.ifCond .ne 8, 3) := by decide +kernel
theorem dX12_looks_114 : decode cX12_looks 114 = .ok (.iload 4, 2) := by decide +kernel
theorem dX12_looks_116 : decode cX12_looks 116 = .ok (.goto 14, 3) := by decide +kernel
theorem dX12_looks_119 : decode cX12_looks 119 = .ok (.iload_n 2, 1) := by decide +kernel
theorem dX12_looks_120 : decode cX12_looks 120 = .ok (.iconst 1, 1) := by decide +kernel
theorem dX12_looks_121 : decode cX12_looks 121 = .ok (.if_icmp .ne 8, 3) := by decide +kernel
theorem dX12_looks_124 : decode cX12_looks 124 = .ok (.iload 5, 2) := by decide +kernel
theorem dX12_looks_126 : decode cX12_looks 126 = .ok (.goto 4, 3) := by decide +kernel
theorem dX12_looks_129 : decode cX12_looks 129 = .ok (.iload_n 3, 1) := by decide +kernel
theorem dX12_looks_130 : decode cX12_looks 130 = .ok (.ireturn, 1) := by decide +kernel
theorem dX12_income_0 : decode cX12_income 0 = .ok (.aload_n 0, 1) := by decide +kernel
theorem dX12_income_1 : decode cX12_income 1 = .ok (.iload_n 1, 1) := by decide +kernel
theorem dX12_income_2 : decode cX12_income 2 = .ok (.invokevirtual 435, 3) := by decide +kernel
theorem dX12_income_5 : decode cX12_income 5 = .ok (.ifCond .eq 22, 3) := by decide +kernel
theorem dX12_income_8 : decode cX12_income 8 = .ok (.iload_n 2, 1) := by decide +kernel
theorem dX12_income_9 : decode cX12_income 9 = .ok (.invokestatic 412, 3) := by decide +kernel
theorem dX12_income_12 : decode cX12_income 12 = .ok (.ifCond .eq 15, 3) := by decide +kernel
theorem dX12_income_15 : decode cX12_income 15 = .ok (.iload_n 3, 1) := by decide +kernel
theorem dX12_income_16 : decode cX12_income 16 = .ok (.invokestatic 412, 3) := by decide +kernel
theorem dX12_income_19 : decode cX12_income 19 = .ok (.ifCond .eq 8, 3) := by decide +kernel
theorem dX12_income_22 : decode cX12_income 22 = .ok (.iload_n 3, 1) := by decide +kernel
theorem dX12_income_23 : decode cX12_income 23 = .ok (.iload_n 2, 1) := by decide +kernel
theorem dX12_income_24 : decode cX12_income 24 = .ok (.if_icmp .ge 5, 3) := by decide +kernel
theorem dX12_income_27 : decode cX12_income 27 = .ok (.iconst (-1), 1) := by decide +kernel
theorem dX12_income_28 : decode cX12_income 28 = .ok (.ireturn, 1) := by decide +kernel
theorem dX12_income_29 : decode cX12_income 29 = .ok (.aload_n 0, 1) := by decide +kernel
theorem dX12_income_30 : decode cX12_income 30 = .ok (.iload_n 1, 1) := by decide +kernel
theorem dX12_income_31 : decode cX12_income 31 = .ok (.invokevirtual 486, 3) := by decide +kernel
theorem dX12_income_34 : decode cX12_income 34 = .ok (.iconst 0, 1) := by decide +kernel
theorem dX12_income_35 : decode cX12_income 35 = .ok (.istore 4, 2) := by decide +kernel
theorem dX12_income_37 : decode cX12_income 37 = .ok (.iload_n 2, 1) := by decide +kernel
theorem dX12_income_38 : decode cX12_income 38 = .ok (.istore 5, 2) := by decide +kernel
theorem dX12_income_40 : decode cX12_income 40 = .ok (.iload 5, 2) := by decide +kernel
theorem dX12_income_42 : decode cX12_income 42 = .ok (.iload_n 3, 1) := by decide +kernel
theorem dX12_income_43 : decode cX12_income 43 = .ok (.if_icmp .gt 21, 3) := by decide +kernel
theorem dX12_income_46 : decode cX12_income 46 = .ok (.iload 4, 2) := by decide +kernel
theorem dX12_income_48 : decode cX12_income 48 = .ok (.aload_n 0, 1) := by decide +kernel
theorem dX12_income_49 : decode cX12_income 49 = .ok (.getfield 164, 3) := by decide +kernel
theorem dX12_income_52 : decode cX12_income 52 = .ok (.iload 5, 2) := by decide +kernel
theorem dX12_income_54 : decode cX12_income 54 = .ok (.iaload, 1) := by decide +kernel
theorem dX12_income_55 : decode cX12_income 55 = .ok (.iadd, 1) := by decide +kernel
theorem dX12_income_56 : decode cX12_income 56 = .ok (.istore 4, 2) := by decide +kernel
theorem dX12_income_58 : decode cX12_income 58 = .ok (.iinc 5 1, 3) := by decide +kernel
theorem dX12_income_61 : decode cX12_income 61 = .ok (.goto (-21), 3) := by decide +kernel
theorem dX12_income_64 : decode cX12_income 64 = .ok (.iload 4, 2) := by decide +kernel
theorem dX12_income_66 : decode cX12_income 66 = .ok (.ireturn, 1) := by decide +kernel
theorem dX12_next_0 : decode cX12_next 0 = .ok (.iload_n 1, 1) := by decide +kernel
theorem dX12_next_1 : decode cX12_next 1 = .ok (.invokestatic 412, 3) := by decide +kernel
theorem dX12_next_4 : decode cX12_next 4 = .ok (.ifCond .eq 11, 3) := by decide +kernel
theorem dX12_next_7 : decode cX12_next 7 = .ok (.aload_n 0, 1) := by decide +kernel
theorem dX12_next_8 : decode cX12_next 8 = .ok (.iload_n 2, 1) := by decide +kernel
theorem dX12_next_9 : decode cX12_next 9 = .ok (.invokevirtual 435, 3) := by decide +kernel
theorem dX12_next_12 : decode cX12_next 12 = .ok (.ifCond .ne 5, 3) := by decide +kernel
theorem dX12_next_15 : decode cX12_next 15 = .ok (.iconst (-1), 1) := by decide +kernel
theorem dX12_next_16 : decode cX12_next 16 = .ok (.ireturn, 1) := by decide +kernel
theorem dX12_next_17 : decode cX12_next 17 = .ok (.aload_n 0, 1) := by decide +kernel
theorem dX12_next_18 : decode cX12_next 18 = .ok (.iload_n 2, 1) := by decide +kernel
theorem dX12_next_19 : decode cX12_next 19 = .ok (.invokevirtual 486, 3) := by decide +kernel
theorem dX12_next_22 : decode cX12_next 22 = .ok (.bipush (-2), 2) := by decide +kernel
theorem dX12_next_24 : decode cX12_next 24 = .ok (.istore_n 3, 1) := by decide +kernel
theorem dX12_next_25 : decode cX12_next 25 = .ok (.iconst 0, 1) := by decide +kernel
theorem dX12_next_26 : decode cX12_next 26 = .ok (.istore 4, 2) := by decide +kernel
theorem dX12_next_28 : decode cX12_next 28 = .ok (.iload 4, 2) := by decide +kernel
theorem dX12_next_30 : decode cX12_next 30 = .ok (.aload_n 0, 1) := by decide +kernel
theorem dX12_next_31 : decode cX12_next 31 = .ok (.getfield 67, 3) := by decide +kernel
theorem dX12_next_34 : decode cX12_next 34 = .ok (.aload_n 0, 1) := by decide +kernel
theorem dX12_next_35 : decode cX12_next 35 = .ok (.getfield 284, 3) := by decide +kernel
theorem dX12_next_38 : decode cX12_next 38 = .ok (.iaload, 1) := by decide +kernel
theorem dX12_next_39 : decode cX12_next 39 = .ok (.if_icmp .ge 54, 3) := by decide +kernel
theorem dX12_next_42 : decode cX12_next 42 = .ok (.aload_n 0, 1) := by decide +kernel
theorem dX12_next_43 : decode cX12_next 43 = .ok (.getfield 149, 3) := by decide +kernel
theorem dX12_next_46 : decode cX12_next 46 = .ok (.iload 4, 2) := by decide +kernel
theorem dX12_next_48 : decode cX12_next 48 = .ok (.iaload, 1) := by decide +kernel
theorem dX12_next_49 : decode cX12_next 49 = .ok (.iconst 1, 1) := by decide +kernel
theorem dX12_next_50 : decode cX12_next 50 = .ok (.if_icmp .ne 37, 3) := by decide +kernel
theorem dX12_next_53 : decode cX12_next 53 = .ok (.aload_n 0, 1) := by decide +kernel
theorem dX12_next_54 : decode cX12_next 54 = .ok (.getfield 152, 3) := by decide +kernel
theorem dX12_next_57 : decode cX12_next 57 = .ok (.iload 4, 2) := by decide +kernel
theorem dX12_next_59 : decode cX12_next 59 = .ok (.iaload, 1) := by decide +kernel
theorem dX12_next_60 : decode cX12_next 60 = .ok (.iload_n 1, 1) := by decide +kernel
theorem dX12_next_61 : decode cX12_next 61 = .ok (.if_icmp .le 26, 3) := by decide +kernel
theorem dX12_next_64 : decode cX12_next 64 = .ok (.iload_n 3, 1) := by decide +kernel
theorem dX12_next_65 : decode cX12_next 65 = .ok (.ifCond .lt 14, 3) := by decide +kernel
theorem dX12_next_68 : decode cX12_next 68 = .ok (.aload_n 0, 1) := by decide +kernel
theorem dX12_next_69 : decode cX12_next 69 = .ok (.getfield 152, 3) := by decide +kernel
theorem dX12_next_72 : decode cX12_next 72 = .ok (.iload 4, 2) := by decide +kernel
theorem dX12_next_74 : decode cX12_next 74 = .ok (.iaload, 1) := by decide +kernel
theorem dX12_next_75 : decode cX12_next 75 = .ok (.iload_n 3, 1) := by decide +kernel
theorem dX12_next_76 : decode cX12_next 76 = .ok (.if_icmp .ge 11, 3) := by decide +kernel
theorem dX12_next_79 : decode cX12_next 79 = .ok (.aload_n 0, 1) := by decide +kernel
theorem dX12_next_80 : decode cX12_next 80 = .ok (.getfield 152, 3) := by decide +kernel
theorem dX12_next_83 : decode cX12_next 83 = .ok (.iload 4, 2) := by decide +kernel
theorem dX12_next_85 : decode cX12_next 85 = .ok (.iaload, 1) := by decide +kernel
theorem dX12_next_86 : decode cX12_next 86 = .ok (.istore_n 3, 1) := by decide +kernel
theorem dX12_next_87 : decode cX12_next 87 = .ok (.iinc 4 1, 3) := by decide +kernel
theorem dX12_next_90 : decode cX12_next 90 = .ok (.goto (-62), 3) := by decide +kernel
theorem dX12_next_93 : decode cX12_next 93 = .ok (.iload_n 3, 1) := by decide +kernel
theorem dX12_next_94 : decode cX12_next 94 = .ok (.ireturn, 1) := by decide +kernel
theorem dX12_asksOf_0 : decode cX12_asksOf 0 = .ok (.iconst 0, 1) := by decide +kernel
theorem dX12_asksOf_1 : decode cX12_asksOf 1 = .ok (.istore_n 2, 1) := by decide +kernel
theorem dX12_asksOf_2 : decode cX12_asksOf 2 = .ok (.aload_n 0, 1) := by decide +kernel
theorem dX12_asksOf_3 : decode cX12_asksOf 3 = .ok (.getfield 85, 3) := by decide +kernel
theorem dX12_asksOf_6 : decode cX12_asksOf 6 = .ok (.bipush 10, 2) := by decide +kernel
theorem dX12_asksOf_8 : decode cX12_asksOf 8 = .ok (.aload_n 0, 1) := by decide +kernel
theorem dX12_asksOf_9 : decode cX12_asksOf 9 = .ok (.getfield 284, 3) := by decide +kernel
theorem dX12_asksOf_12 : decode cX12_asksOf 12 = .ok (.imul, 1) := by decide +kernel
theorem dX12_asksOf_13 : decode cX12_asksOf 13 = .ok (.iload_n 1, 1) := by decide +kernel
theorem dX12_asksOf_14 : decode cX12_asksOf 14 = .ok (.iadd, 1) := by decide +kernel
theorem dX12_asksOf_15 : decode cX12_asksOf 15 = .ok (.iaload, 1) := by decide +kernel
theorem dX12_asksOf_16 : decode cX12_asksOf 16 = .ok (.istore_n 3, 1) := by decide +kernel
theorem dX12_asksOf_17 : decode cX12_asksOf 17 = .ok (.iload_n 3, 1) := by decide +kernel
theorem dX12_asksOf_18 : decode cX12_asksOf 18 = .ok (.aload_n 0, 1) := by decide +kernel
theorem dX12_asksOf_19 : decode cX12_asksOf 19 = .ok (.getfield 88, 3) := by decide +kernel
theorem dX12_asksOf_22 : decode cX12_asksOf 22 = .ok (.bipush 10, 2) := by decide +kernel
theorem dX12_asksOf_24 : decode cX12_asksOf 24 = .ok (.aload_n 0, 1) := by decide +kernel
theorem dX12_asksOf_25 : decode cX12_asksOf 25 = .ok (.getfield 284, 3) := by decide +kernel
theorem dX12_asksOf_28 : decode cX12_asksOf 28 = .ok (.imul, 1) := by decide +kernel
theorem dX12_asksOf_29 : decode cX12_asksOf 29 = .ok (.iload_n 1, 1) := by decide +kernel
theorem dX12_asksOf_30 : decode cX12_asksOf 30 = .ok (.iadd, 1) := by decide +kernel
theorem dX12_asksOf_31 : decode cX12_asksOf 31 = .ok (.iaload, 1) := by decide +kernel
theorem dX12_asksOf_32 : decode cX12_asksOf 32 = .ok (.if_icmp .ge 30, 3) := by decide +kernel
theorem dX12_asksOf_35 : decode cX12_asksOf 35 = .ok (.aload_n 0, 1) := by decide +kernel
theorem dX12_asksOf_36 : decode cX12_asksOf 36 = .ok (.getfield 104, 3) := by decide +kernel
theorem dX12_asksOf_39 : decode cX12_asksOf 39 = .ok (.iload_n 3, 1) := by decide +kernel
theorem dX12_asksOf_40 : decode cX12_asksOf 40 = .ok (.iaload, 1) := by decide +kernel
theorem dX12_asksOf_41 : decode cX12_asksOf 41 = .ok (.iconst 5, 1) := by decide +kernel
theorem dX12_asksOf_42 : decode cX12_asksOf 42 = .ok (.if_icmp .ne 14, 3) := by decide +kernel
theorem dX12_asksOf_45 : decode cX12_asksOf 45 = .ok (.iload_n 2, 1) := by decide +kernel
theorem dX12_asksOf_46 : decode cX12_asksOf 46 = .ok (.iconst 1, 1) := by decide +kernel
theorem dX12_asksOf_47 : decode cX12_asksOf 47 = .ok (.aload_n 0, 1) := by decide +kernel
theorem dX12_asksOf_48 : decode cX12_asksOf 48 = .ok (.getfield 113, 3) := by decide +kernel
theorem dX12_asksOf_51 : decode cX12_asksOf 51 = .ok (.iload_n 3, 1) := by decide +kernel
theorem dX12_asksOf_52 : decode cX12_asksOf 52 = .ok (.iaload, 1) := by decide +kernel
theorem dX12_asksOf_53 : decode cX12_asksOf 53 = .ok (.ishl, 1) := by decide +kernel
theorem dX12_asksOf_54 : decode cX12_asksOf 54 = .ok (.ior, 1) := by decide +kernel
theorem dX12_asksOf_55 : decode cX12_asksOf 55 = .ok (.istore_n 2, 1) := by decide +kernel
theorem dX12_asksOf_56 : decode cX12_asksOf 56 = .ok (.iinc 3 1, 3) := by decide +kernel
theorem dX12_asksOf_59 : decode cX12_asksOf 59 = .ok (.goto (-42), 3) := by decide +kernel
theorem dX12_asksOf_62 : decode cX12_asksOf 62 = .ok (.iload_n 2, 1) := by decide +kernel
theorem dX12_asksOf_63 : decode cX12_asksOf 63 = .ok (.ireturn, 1) := by decide +kernel
theorem dX12_asks_0 : decode cX12_asks 0 = .ok (.aload_n 0, 1) := by decide +kernel
theorem dX12_asks_1 : decode cX12_asks 1 = .ok (.iload_n 1, 1) := by decide +kernel
theorem dX12_asks_2 : decode cX12_asks 2 = .ok (.invokevirtual 400, 3) := by decide +kernel
theorem dX12_asks_5 : decode cX12_asks 5 = .ok (.ifCond .eq 11, 3) := by decide +kernel
theorem dX12_asks_8 : decode cX12_asks 8 = .ok (.aload_n 0, 1) := by decide +kernel
theorem dX12_asks_9 : decode cX12_asks 9 = .ok (.iload_n 1, 1) := by decide +kernel
theorem dX12_asks_10 : decode cX12_asks 10 = .ok (.invokevirtual 504, 3) := by decide +kernel
theorem dX12_asks_13 : decode cX12_asks 13 = .ok (.goto 4, 3) := by decide +kernel
theorem dX12_asks_16 : decode cX12_asks 16 = .ok (.iconst (-1), 1) := by decide +kernel
theorem dX12_asks_17 : decode cX12_asks 17 = .ok (.ireturn, 1) := by decide +kernel
theorem dX12_closes_0 : decode cX12_closes 0 = .ok (.iconst 0, 1) := by decide +kernel
theorem dX12_closes_1 : decode cX12_closes 1 = .ok (.istore_n 2, 1) := by decide +kernel
theorem dX12_closes_2 : decode cX12_closes 2 = .ok (.iload_n 2, 1) := by decide +kernel
theorem dX12_closes_3 : decode cX12_closes 3 = .ok (.aload_n 0, 1) := by decide +kernel
theorem dX12_closes_4 : decode cX12_closes 4 = .ok (.getfield 67, 3) := by decide +kernel
theorem dX12_closes_7 : decode cX12_closes 7 = .ok (.aload_n 0, 1) := by decide +kernel
theorem dX12_closes_8 : decode cX12_closes 8 = .ok (.getfield 284, 3) := by decide +kernel
theorem dX12_closes_11 : decode cX12_closes 11 = .ok (.iaload, 1) := by decide +kernel
theorem dX12_closes_12 : decode cX12_closes 12 = .ok (.if_icmp .ge 37, 3) := by decide +kernel
theorem dX12_closes_15 : decode cX12_closes 15 = .ok (.aload_n 0, 1) := by decide +kernel
theorem dX12_closes_16 : decode cX12_closes 16 = .ok (.getfield 179, 3) := by decide +kernel
theorem dX12_closes_19 : decode cX12_closes 19 = .ok (.iload_n 2, 1) := by decide +kernel
theorem dX12_closes_20 : decode cX12_closes 20 = .ok (.iload_n 1, 1) := by decide +kernel
theorem dX12_closes_21 : decode cX12_closes 21 = .ok (.iload_n 2, 1) := by decide +kernel
theorem dX12_closes_22 : decode cX12_closes 22 = .ok (.ishr, 1) := by decide +kernel
theorem dX12_closes_23 : decode cX12_closes 23 = .ok (.iconst 1, 1) := by decide +kernel
theorem dX12_closes_24 : decode cX12_closes 24 = .ok (.iand, 1) := by decide +kernel
theorem dX12_closes_25 : decode cX12_closes 25 = .ok (.iconst 1, 1) := by decide +kernel
theorem dX12_closes_26 : decode cX12_closes 26 = .ok (.if_icmp .ne 7, 3) := by decide +kernel
theorem dX12_closes_29 : decode cX12_closes 29 = .ok (.iconst 0, 1) := by decide +kernel
theorem dX12_closes_30 : decode cX12_closes 30 = .ok (.goto 12, 3) := by decide +kernel
theorem dX12_closes_33 : decode cX12_closes 33 = .ok (.aload_n 0, 1) := by decide +kernel
theorem dX12_closes_34 : decode cX12_closes 34 = .ok (.iload_n 2, 1) := by decide +kernel
theorem dX12_closes_35 : decode cX12_closes 35 = .ok (.invokevirtual 504, 3) := by decide +kernel
theorem dX12_closes_38 : decode cX12_closes 38 = .ok (.iload_n 1, 1) := by decide +kernel
theorem dX12_closes_39 : decode cX12_closes 39 = .ok (.iconst (-1), 1) := by decide +kernel
theorem dX12_closes_40 : decode cX12_closes 40 = .ok (.ixor, 1) := by decide +kernel
theorem dX12_closes_41 : decode cX12_closes 41 = .ok (.iand, 1) := by decide +kernel
theorem dX12_closes_42 : decode cX12_closes 42 = .ok (.iastore, 1) := by decide +kernel
theorem dX12_closes_43 : decode cX12_closes 43 = .ok (.iinc 2 1, 3) := by decide +kernel
theorem dX12_closes_46 : decode cX12_closes 46 = .ok (.goto (-44), 3) := by decide +kernel
theorem dX12_closes_49 : decode cX12_closes 49 = .ok (.iconst 0, 1) := by decide +kernel
theorem dX12_closes_50 : decode cX12_closes 50 = .ok (.istore_n 2, 1) := by decide +kernel
theorem dX12_closes_51 : decode cX12_closes 51 = .ok (.iload_n 2, 1) := by decide +kernel
theorem dX12_closes_52 : decode cX12_closes 52 = .ok (.aload_n 0, 1) := by decide +kernel
theorem dX12_closes_53 : decode cX12_closes 53 = .ok (.getfield 67, 3) := by decide +kernel
theorem dX12_closes_56 : decode cX12_closes 56 = .ok (.aload_n 0, 1) := by decide +kernel
theorem dX12_closes_57 : decode cX12_closes 57 = .ok (.getfield 284, 3) := by decide +kernel
theorem dX12_closes_60 : decode cX12_closes 60 = .ok (.iaload, 1) := by decide +kernel
theorem dX12_closes_61 : decode cX12_closes 61 = .ok (.if_icmp .ge 59, 3) := by decide +kernel
theorem dX12_closes_64 : decode cX12_closes 64 = .ok (.iconst 0, 1) := by decide +kernel
theorem dX12_closes_65 : decode cX12_closes 65 = .ok (.istore_n 3, 1) := by decide +kernel
theorem dX12_closes_66 : decode cX12_closes 66 = .ok (.iload_n 3, 1) := by decide +kernel
theorem dX12_closes_67 : decode cX12_closes 67 = .ok (.aload_n 0, 1) := by decide +kernel
theorem dX12_closes_68 : decode cX12_closes 68 = .ok (.getfield 67, 3) := by decide +kernel
theorem dX12_closes_71 : decode cX12_closes 71 = .ok (.aload_n 0, 1) := by decide +kernel
theorem dX12_closes_72 : decode cX12_closes 72 = .ok (.getfield 284, 3) := by decide +kernel
theorem dX12_closes_75 : decode cX12_closes 75 = .ok (.iaload, 1) := by decide +kernel
theorem dX12_closes_76 : decode cX12_closes 76 = .ok (.if_icmp .ge 38, 3) := by decide +kernel
theorem dX12_closes_79 : decode cX12_closes 79 = .ok (.aload_n 0, 1) := by decide +kernel
theorem dX12_closes_80 : decode cX12_closes 80 = .ok (.getfield 179, 3) := by decide +kernel
theorem dX12_closes_83 : decode cX12_closes 83 = .ok (.iload_n 3, 1) := by decide +kernel
theorem dX12_closes_84 : decode cX12_closes 84 = .ok (.iaload, 1) := by decide +kernel
theorem dX12_closes_85 : decode cX12_closes 85 = .ok (.iload_n 2, 1) := by decide +kernel
theorem dX12_closes_86 : decode cX12_closes 86 = .ok (.ishr, 1) := by decide +kernel
theorem dX12_closes_87 : decode cX12_closes 87 = .ok (.iconst 1, 1) := by decide +kernel
theorem dX12_closes_88 : decode cX12_closes 88 = .ok (.iand, 1) := by decide +kernel
theorem dX12_closes_89 : decode cX12_closes 89 = .ok (.iconst 1, 1) := by decide +kernel
theorem dX12_closes_90 : decode cX12_closes 90 = .ok (.if_icmp .ne 18, 3) := by decide +kernel
theorem dX12_closes_93 : decode cX12_closes 93 = .ok (.aload_n 0, 1) := by decide +kernel
theorem dX12_closes_94 : decode cX12_closes 94 = .ok (.getfield 179, 3) := by decide +kernel
theorem dX12_closes_97 : decode cX12_closes 97 = .ok (.iload_n 3, 1) := by decide +kernel
theorem dX12_closes_98 : decode cX12_closes 98 = .ok (.dup2, 1) := by decide +kernel
theorem dX12_closes_99 : decode cX12_closes 99 = .ok (.iaload, 1) := by decide +kernel
theorem dX12_closes_100 : decode cX12_closes 100 = .ok (.aload_n 0, 1) := by decide +kernel
theorem dX12_closes_101 : decode cX12_closes 101 = .ok (.getfield 179, 3) := by decide +kernel
theorem dX12_closes_104 : decode cX12_closes 104 = .ok (.iload_n 2, 1) := by decide +kernel
theorem dX12_closes_105 : decode cX12_closes 105 = .ok (.iaload, 1) := by decide +kernel
theorem dX12_closes_106 : decode cX12_closes 106 = .ok (.ior, 1) := by decide +kernel
theorem dX12_closes_107 : decode cX12_closes 107 = .ok (.iastore, 1) := by decide +kernel
theorem dX12_closes_108 : decode cX12_closes 108 = .ok (.iinc 3 1, 3) := by decide +kernel
theorem dX12_closes_111 : decode cX12_closes 111 = .ok (.goto (-45), 3) := by decide +kernel
theorem dX12_closes_114 : decode cX12_closes 114 = .ok (.iinc 2 1, 3) := by decide +kernel
theorem dX12_closes_117 : decode cX12_closes 117 = .ok (.goto (-66), 3) := by decide +kernel
theorem dX12_closes_120 : decode cX12_closes 120 = .ok (.return_, 1) := by decide +kernel
theorem dX12_ringOf_0 : decode cX12_ringOf 0 = .ok (.iconst 0, 1) := by decide +kernel
theorem dX12_ringOf_1 : decode cX12_ringOf 1 = .ok (.istore_n 2, 1) := by decide +kernel
theorem dX12_ringOf_2 : decode cX12_ringOf 2 = .ok (.iconst 0, 1) := by decide +kernel
theorem dX12_ringOf_3 : decode cX12_ringOf 3 = .ok (.istore_n 3, 1) := by decide +kernel
theorem dX12_ringOf_4 : decode cX12_ringOf 4 = .ok (.iload_n 3, 1) := by decide +kernel
theorem dX12_ringOf_5 : decode cX12_ringOf 5 = .ok (.aload_n 0, 1) := by decide +kernel
theorem dX12_ringOf_6 : decode cX12_ringOf 6 = .ok (.getfield 67, 3) := by decide +kernel
theorem dX12_ringOf_9 : decode cX12_ringOf 9 = .ok (.aload_n 0, 1) := by decide +kernel
theorem dX12_ringOf_10 : decode cX12_ringOf 10 = .ok (.getfield 284, 3) := by decide +kernel
theorem dX12_ringOf_13 : decode cX12_ringOf 13 = .ok (.iaload, 1) := by decide +kernel
theorem dX12_ringOf_14 : decode cX12_ringOf 14 = .ok (.if_icmp .ge 43, 3) := by decide +kernel
theorem dX12_ringOf_17 : decode cX12_ringOf 17 = .ok (.aload_n 0, 1) := by decide +kernel
theorem dX12_ringOf_18 : decode cX12_ringOf 18 = .ok (.getfield 179, 3) := by decide +kernel
theorem dX12_ringOf_21 : decode cX12_ringOf 21 = .ok (.iload_n 1, 1) := by decide +kernel
theorem dX12_ringOf_22 : decode cX12_ringOf 22 = .ok (.iaload, 1) := by decide +kernel
theorem dX12_ringOf_23 : decode cX12_ringOf 23 = .ok (.iload_n 3, 1) := by decide +kernel
theorem dX12_ringOf_24 : decode cX12_ringOf 24 = .ok (.ishr, 1) := by decide +kernel
theorem dX12_ringOf_25 : decode cX12_ringOf 25 = .ok (.iconst 1, 1) := by decide +kernel
theorem dX12_ringOf_26 : decode cX12_ringOf 26 = .ok (.iand, 1) := by decide +kernel
theorem dX12_ringOf_27 : decode cX12_ringOf 27 = .ok (.iconst 1, 1) := by decide +kernel
theorem dX12_ringOf_28 : decode cX12_ringOf 28 = .ok (.if_icmp .ne 23, 3) := by decide +kernel
theorem dX12_ringOf_31 : decode cX12_ringOf 31 = .ok (.aload_n 0, 1) := by decide +kernel
theorem dX12_ringOf_32 : decode cX12_ringOf 32 = .ok (.getfield 179, 3) := by decide +kernel
theorem dX12_ringOf_35 : decode cX12_ringOf 35 = .ok (.iload_n 3, 1) := by decide +kernel
theorem dX12_ringOf_36 : decode cX12_ringOf 36 = .ok (.iaload, 1) := by decide +kernel
theorem dX12_ringOf_37 : decode cX12_ringOf 37 = .ok (.iload_n 1, 1) := by decide +kernel
theorem dX12_ringOf_38 : decode cX12_ringOf 38 = .ok (.ishr, 1) := by decide +kernel
theorem dX12_ringOf_39 : decode cX12_ringOf 39 = .ok (.iconst 1, 1) := by decide +kernel
theorem dX12_ringOf_40 : decode cX12_ringOf 40 = .ok (.iand, 1) := by decide +kernel
theorem dX12_ringOf_41 : decode cX12_ringOf 41 = .ok (.iconst 1, 1) := by decide +kernel
theorem dX12_ringOf_42 : decode cX12_ringOf 42 = .ok (.if_icmp .ne 9, 3) := by decide +kernel
theorem dX12_ringOf_45 : decode cX12_ringOf 45 = .ok (.iload_n 2, 1) := by decide +kernel
theorem dX12_ringOf_46 : decode cX12_ringOf 46 = .ok (.iconst 1, 1) := by decide +kernel
theorem dX12_ringOf_47 : decode cX12_ringOf 47 = .ok (.iload_n 3, 1) := by decide +kernel
theorem dX12_ringOf_48 : decode cX12_ringOf 48 = .ok (.ishl, 1) := by decide +kernel
theorem dX12_ringOf_49 : decode cX12_ringOf 49 = .ok (.ior, 1) := by decide +kernel
theorem dX12_ringOf_50 : decode cX12_ringOf 50 = .ok (.istore_n 2, 1) := by decide +kernel
theorem dX12_ringOf_51 : decode cX12_ringOf 51 = .ok (.iinc 3 1, 3) := by decide +kernel
theorem dX12_ringOf_54 : decode cX12_ringOf 54 = .ok (.goto (-50), 3) := by decide +kernel
theorem dX12_ringOf_57 : decode cX12_ringOf 57 = .ok (.iload_n 2, 1) := by decide +kernel
theorem dX12_ringOf_58 : decode cX12_ringOf 58 = .ok (.ireturn, 1) := by decide +kernel
theorem dX12_ring_0 : decode cX12_ring 0 = .ok (.aload_n 0, 1) := by decide +kernel
theorem dX12_ring_1 : decode cX12_ring 1 = .ok (.iload_n 1, 1) := by decide +kernel
theorem dX12_ring_2 : decode cX12_ring 2 = .ok (.invokevirtual 400, 3) := by decide +kernel
theorem dX12_ring_5 : decode cX12_ring 5 = .ok (.ifCond .ne 5, 3) := by decide +kernel
theorem dX12_ring_8 : decode cX12_ring 8 = .ok (.iconst (-1), 1) := by decide +kernel
theorem dX12_ring_9 : decode cX12_ring 9 = .ok (.ireturn, 1) := by decide +kernel
theorem dX12_ring_10 : decode cX12_ring 10 = .ok (.aload_n 0, 1) := by decide +kernel
theorem dX12_ring_11 : decode cX12_ring 11 = .ok (.iconst 0, 1) := by decide +kernel
theorem dX12_ring_12 : decode cX12_ring 12 = .ok (.invokevirtual 507, 3) := by decide +kernel
theorem dX12_ring_15 : decode cX12_ring 15 = .ok (.aload_n 0, 1) := by decide +kernel
theorem dX12_ring_16 : decode cX12_ring 16 = .ok (.iload_n 1, 1) := by decide +kernel
theorem dX12_ring_17 : decode cX12_ring 17 = .ok (.invokevirtual 510, 3) := by decide +kernel
theorem dX12_ring_20 : decode cX12_ring 20 = .ok (.ireturn, 1) := by decide +kernel
theorem dX12_rings_0 : decode cX12_rings 0 = .ok (.aload_n 0, 1) := by decide +kernel
theorem dX12_rings_1 : decode cX12_rings 1 = .ok (.iconst 0, 1) := by decide +kernel
theorem dX12_rings_2 : decode cX12_rings 2 = .ok (.invokevirtual 507, 3) := by decide +kernel
theorem dX12_rings_5 : decode cX12_rings 5 = .ok (.iconst 0, 1) := by decide +kernel
theorem dX12_rings_6 : decode cX12_rings 6 = .ok (.istore_n 1, 1) := by decide +kernel
theorem dX12_rings_7 : decode cX12_rings 7 = .ok (.iconst 0, 1) := by decide +kernel
theorem dX12_rings_8 : decode cX12_rings 8 = .ok (.istore_n 2, 1) := by decide +kernel
theorem dX12_rings_9 : decode cX12_rings 9 = .ok (.iconst 0, 1) := by decide +kernel
theorem dX12_rings_10 : decode cX12_rings 10 = .ok (.istore_n 3, 1) := by decide +kernel
theorem dX12_rings_11 : decode cX12_rings 11 = .ok (.iload_n 3, 1) := by decide +kernel
theorem dX12_rings_12 : decode cX12_rings 12 = .ok (.aload_n 0, 1) := by decide +kernel
theorem dX12_rings_13 : decode cX12_rings 13 = .ok (.getfield 67, 3) := by decide +kernel
theorem dX12_rings_16 : decode cX12_rings 16 = .ok (.aload_n 0, 1) := by decide +kernel
theorem dX12_rings_17 : decode cX12_rings 17 = .ok (.getfield 284, 3) := by decide +kernel
theorem dX12_rings_20 : decode cX12_rings 20 = .ok (.iaload, 1) := by decide +kernel
theorem dX12_rings_21 : decode cX12_rings 21 = .ok (.if_icmp .ge 40, 3) := by decide +kernel
theorem dX12_rings_24 : decode cX12_rings 24 = .ok (.iload_n 2, 1) := by decide +kernel
theorem dX12_rings_25 : decode cX12_rings 25 = .ok (.iload_n 3, 1) := by decide +kernel
theorem dX12_rings_26 : decode cX12_rings 26 = .ok (.ishr, 1) := by decide +kernel
theorem dX12_rings_27 : decode cX12_rings 27 = .ok (.iconst 1, 1) := by decide +kernel
theorem dX12_rings_28 : decode cX12_rings 28 = .ok (.iand, 1) := by decide +kernel
theorem dX12_rings_29 : decode cX12_rings 29 = .ok (.iconst 1, 1) := by decide +kernel
theorem dX12_rings_30 : decode cX12_rings 30 = .ok (.if_icmp .eq 25, 3) := by decide +kernel
theorem dX12_rings_33 : decode cX12_rings 33 = .ok (.aload_n 0, 1) := by decide +kernel
theorem dX12_rings_34 : decode cX12_rings 34 = .ok (.iload_n 3, 1) := by decide +kernel
theorem dX12_rings_35 : decode cX12_rings 35 = .ok (.invokevirtual 510, 3) := by decide +kernel
theorem dX12_rings_38 : decode cX12_rings 38 = .ok (.ifCond .ne 6, 3) := by decide +kernel
theorem dX12_rings_41 : decode cX12_rings 41 = .ok (.goto 14, 3) := by decide +kernel
theorem dX12_rings_44 : decode cX12_rings 44 = .ok (.iload_n 2, 1) := by decide +kernel
theorem dX12_rings_45 : decode cX12_rings 45 = .ok (.aload_n 0, 1) := by decide +kernel
theorem dX12_rings_46 : decode cX12_rings 46 = .ok (.iload_n 3, 1) := by decide +kernel
theorem dX12_rings_47 : decode cX12_rings 47 = .ok (.invokevirtual 510, 3) := by decide +kernel
theorem dX12_rings_50 : decode cX12_rings 50 = .ok (.ior, 1) := by decide +kernel
theorem dX12_rings_51 : decode cX12_rings 51 = .ok (.istore_n 2, 1) := by decide +kernel
theorem dX12_rings_52 : decode cX12_rings 52 = .ok (.iinc 1 1, 3) := by decide +kernel
theorem dX12_rings_55 : decode cX12_rings 55 = .ok (.iinc 3 1, 3) := by decide +kernel
theorem dX12_rings_58 : decode cX12_rings 58 = .ok (.goto (-47), 3) := by decide +kernel
theorem dX12_rings_61 : decode cX12_rings 61 = .ok (.iload_n 1, 1) := by decide +kernel
theorem dX12_rings_62 : decode cX12_rings 62 = .ok (.ireturn, 1) := by decide +kernel
theorem dX12_hasRings_0 : decode cX12_hasRings 0 = .ok (.aload_n 0, 1) := by decide +kernel
theorem dX12_hasRings_1 : decode cX12_hasRings 1 = .ok (.iload_n 1, 1) := by decide +kernel
theorem dX12_hasRings_2 : decode cX12_hasRings 2 = .ok (.invokevirtual 507, 3) := by decide +kernel
theorem dX12_hasRings_5 : decode cX12_hasRings 5 = .ok (.iconst 0, 1) := by decide +kernel
theorem dX12_hasRings_6 : decode cX12_hasRings 6 = .ok (.istore_n 2, 1) := by decide +kernel
theorem dX12_hasRings_7 : decode cX12_hasRings 7 = .ok (.iload_n 2, 1) := by decide +kernel
theorem dX12_hasRings_8 : decode cX12_hasRings 8 = .ok (.aload_n 0, 1) := by decide +kernel
theorem dX12_hasRings_9 : decode cX12_hasRings 9 = .ok (.getfield 67, 3) := by decide +kernel
theorem dX12_hasRings_12 : decode cX12_hasRings 12 = .ok (.aload_n 0, 1) := by decide +kernel
theorem dX12_hasRings_13 : decode cX12_hasRings 13 = .ok (.getfield 284, 3) := by decide +kernel
theorem dX12_hasRings_16 : decode cX12_hasRings 16 = .ok (.iaload, 1) := by decide +kernel
theorem dX12_hasRings_17 : decode cX12_hasRings 17 = .ok (.if_icmp .ge 25, 3) := by decide +kernel
theorem dX12_hasRings_20 : decode cX12_hasRings 20 = .ok (.aload_n 0, 1) := by decide +kernel
theorem dX12_hasRings_21 : decode cX12_hasRings 21 = .ok (.getfield 179, 3) := by decide +kernel
theorem dX12_hasRings_24 : decode cX12_hasRings 24 = .ok (.iload_n 2, 1) := by decide +kernel
theorem dX12_hasRings_25 : decode cX12_hasRings 25 = .ok (.iaload, 1) := by decide +kernel
theorem dX12_hasRings_26 : decode cX12_hasRings 26 = .ok (.iload_n 2, 1) := by decide +kernel
theorem dX12_hasRings_27 : decode cX12_hasRings 27 = .ok (.ishr, 1) := by decide +kernel
theorem dX12_hasRings_28 : decode cX12_hasRings 28 = .ok (.iconst 1, 1) := by decide +kernel
theorem dX12_hasRings_29 : decode cX12_hasRings 29 = .ok (.iand, 1) := by decide +kernel
theorem dX12_hasRings_30 : decode cX12_hasRings 30 = .ok (.iconst 1, 1) := by decide +kernel
theorem dX12_hasRings_31 : decode cX12_hasRings 31 = .ok (.if_icmp .ne 5, 3) := by decide +kernel
theorem dX12_hasRings_34 : decode cX12_hasRings 34 = .ok (.iconst 1, 1) := by decide +kernel
theorem dX12_hasRings_35 : decode cX12_hasRings 35 = .ok (.ireturn, 1) := by decide +kernel
theorem dX12_hasRings_36 : decode cX12_hasRings 36 = .ok (.iinc 2 1, 3) := by decide +kernel
theorem dX12_hasRings_39 : decode cX12_hasRings 39 = .ok (.goto (-32), 3) := by decide +kernel
theorem dX12_hasRings_42 : decode cX12_hasRings 42 = .ok (.iconst 0, 1) := by decide +kernel
theorem dX12_hasRings_43 : decode cX12_hasRings 43 = .ok (.ireturn, 1) := by decide +kernel
theorem dX12_burn_0 : decode cX12_burn 0 = .ok (.iconst (-1), 1) := by decide +kernel
theorem dX12_burn_1 : decode cX12_burn 1 = .ok (.istore_n 1, 1) := by decide +kernel
theorem dX12_burn_2 : decode cX12_burn 2 = .ok (.iconst 0, 1) := by decide +kernel
theorem dX12_burn_3 : decode cX12_burn 3 = .ok (.istore_n 2, 1) := by decide +kernel
theorem dX12_burn_4 : decode cX12_burn 4 = .ok (.iload_n 2, 1) := by decide +kernel
theorem dX12_burn_5 : decode cX12_burn 5 = .ok (.iconst 1, 1) := by decide +kernel
theorem dX12_burn_6 : decode cX12_burn 6 = .ok (.aload_n 0, 1) := by decide +kernel
theorem dX12_burn_7 : decode cX12_burn 7 = .ok (.getfield 67, 3) := by decide +kernel
theorem dX12_burn_10 : decode cX12_burn 10 = .ok (.aload_n 0, 1) := by decide +kernel
theorem dX12_burn_11 : decode cX12_burn 11 = .ok (.getfield 284, 3) := by decide +kernel
theorem dX12_burn_14 : decode cX12_burn 14 = .ok (.iaload, 1) := by decide +kernel
theorem dX12_burn_15 : decode cX12_burn 15 = .ok (.ishl, 1) := by decide +kernel
theorem dX12_burn_16 : decode cX12_burn 16 = .ok (.if_icmp .ge 38, 3) := by decide +kernel
theorem dX12_burn_19 : decode cX12_burn 19 = .ok (.iload_n 1, 1) := by decide +kernel
theorem dX12_burn_20 : decode cX12_burn 20 = .ok (.iconst (-1), 1) := by decide +kernel
theorem dX12_burn_21 : decode cX12_burn 21 = .ok (.if_icmp .eq 14, 3) := by decide +kernel
theorem dX12_burn_24 : decode cX12_burn 24 = .ok (.iload_n 2, 1) := by decide +kernel
theorem dX12_burn_25 : decode cX12_burn 25 = .ok (.invokestatic 513, 3) := by decide +kernel
theorem dX12_burn_28 : decode cX12_burn 28 = .ok (.iload_n 1, 1) := by decide +kernel
theorem dX12_burn_29 : decode cX12_burn 29 = .ok (.invokestatic 513, 3) := by decide +kernel
theorem dX12_burn_32 : decode cX12_burn 32 = .ok (.if_icmp .ge 16, 3) := by decide +kernel
theorem dX12_burn_35 : decode cX12_burn 35 = .ok (.aload_n 0, 1) := by decide +kernel
theorem dX12_burn_36 : decode cX12_burn 36 = .ok (.iload_n 2, 1) := by decide +kernel
theorem dX12_burn_37 : decode cX12_burn 37 = .ok (.invokevirtual 516, 3) := by decide +kernel
theorem dX12_burn_40 : decode cX12_burn 40 = .ok (.ifCond .eq 6, 3) := by decide +kernel
theorem dX12_burn_43 : decode cX12_burn 43 = .ok (.goto 5, 3) := by decide +kernel
theorem dX12_burn_46 : decode cX12_burn 46 = .ok (.iload_n 2, 1) := by decide +kernel
theorem dX12_burn_47 : decode cX12_burn 47 = .ok (.istore_n 1, 1) := by decide +kernel
theorem dX12_burn_48 : decode cX12_burn 48 = .ok (.iinc 2 1, 3) := by decide +kernel
theorem dX12_burn_51 : decode cX12_burn 51 = .ok (.goto (-47), 3) := by decide +kernel
theorem dX12_burn_54 : decode cX12_burn 54 = .ok (.iload_n 1, 1) := by decide +kernel
theorem dX12_burn_55 : decode cX12_burn 55 = .ok (.ireturn, 1) := by decide +kernel
theorem dX12_needs_0 : decode cX12_needs 0 = .ok (.aload_n 0, 1) := by decide +kernel
theorem dX12_needs_1 : decode cX12_needs 1 = .ok (.iconst 4, 1) := by decide +kernel
theorem dX12_needs_2 : decode cX12_needs 2 = .ok (.putfield 519, 3) := by decide +kernel
theorem dX12_needs_5 : decode cX12_needs 5 = .ok (.iconst 0, 1) := by decide +kernel
theorem dX12_needs_6 : decode cX12_needs 6 = .ok (.istore 5, 2) := by decide +kernel
theorem dX12_needs_8 : decode cX12_needs 8 = .ok (.iload 5, 2) := by decide +kernel
theorem dX12_needs_10 : decode cX12_needs 10 = .ok (.iconst 1, 1) := by decide +kernel
theorem dX12_needs_11 : decode cX12_needs 11 = .ok (.aload_n 0, 1) := by decide +kernel
theorem dX12_needs_12 : decode cX12_needs 12 = .ok (.getfield 49, 3) := by decide +kernel
theorem dX12_needs_15 : decode cX12_needs 15 = .ok (.aload_n 0, 1) := by decide +kernel
theorem dX12_needs_16 : decode cX12_needs 16 = .ok (.getfield 284, 3) := by decide +kernel
theorem dX12_needs_19 : decode cX12_needs 19 = .ok (.iaload, 1) := by decide +kernel
theorem dX12_needs_20 : decode cX12_needs 20 = .ok (.ishl, 1) := by decide +kernel
theorem dX12_needs_21 : decode cX12_needs 21 = .ok (.if_icmp .ge 155, 3) := by decide +kernel
theorem dX12_needs_24 : decode cX12_needs 24 = .ok (.iload 5, 2) := by decide +kernel
theorem dX12_needs_26 : decode cX12_needs 26 = .ok (.iload_n 3, 1) := by decide +kernel
theorem dX12_needs_27 : decode cX12_needs 27 = .ok (.iand, 1) := by decide +kernel
theorem dX12_needs_28 : decode cX12_needs 28 = .ok (.ifCond .ne 142, 3) := by decide +kernel
theorem dX12_needs_31 : decode cX12_needs 31 = .ok (.iload 5, 2) := by decide +kernel
theorem dX12_needs_33 : decode cX12_needs 33 = .ok (.invokestatic 513, 3) := by decide +kernel
theorem dX12_needs_36 : decode cX12_needs 36 = .ok (.iconst 3, 1) := by decide +kernel
theorem dX12_needs_37 : decode cX12_needs 37 = .ok (.if_icmp .le 6, 3) := by decide +kernel
theorem dX12_needs_40 : decode cX12_needs 40 = .ok (.goto 130, 3) := by decide +kernel
theorem dX12_needs_43 : decode cX12_needs 43 = .ok (.iconst 0, 1) := by decide +kernel
theorem dX12_needs_44 : decode cX12_needs 44 = .ok (.istore 6, 2) := by decide +kernel
theorem dX12_needs_46 : decode cX12_needs 46 = .ok (.iload 6, 2) := by decide +kernel
theorem dX12_needs_48 : decode cX12_needs 48 = .ok (.iconst 1, 1) := by decide +kernel
theorem dX12_needs_49 : decode cX12_needs 49 = .ok (.aload_n 0, 1) := by decide +kernel
theorem dX12_needs_50 : decode cX12_needs 50 = .ok (.getfield 67, 3) := by decide +kernel
theorem dX12_needs_53 : decode cX12_needs 53 = .ok (.aload_n 0, 1) := by decide +kernel
theorem dX12_needs_54 : decode cX12_needs 54 = .ok (.getfield 284, 3) := by decide +kernel
theorem dX12_needs_57 : decode cX12_needs 57 = .ok (.iaload, 1) := by decide +kernel
theorem dX12_needs_58 : decode cX12_needs 58 = .ok (.ishl, 1) := by decide +kernel
theorem dX12_needs_59 : decode cX12_needs 59 = .ok (.if_icmp .ge 111, 3) := by decide +kernel
theorem dX12_needs_62 : decode cX12_needs 62 = .ok (.iload 5, 2) := by decide +kernel
theorem dX12_needs_64 : decode cX12_needs 64 = .ok (.invokestatic 513, 3) := by decide +kernel
theorem dX12_needs_67 : decode cX12_needs 67 = .ok (.iload 6, 2) := by decide +kernel
theorem dX12_needs_69 : decode cX12_needs 69 = .ok (.invokestatic 513, 3) := by decide +kernel
theorem dX12_needs_72 : decode cX12_needs 72 = .ok (.iadd, 1) := by decide +kernel
theorem dX12_needs_73 : decode cX12_needs 73 = .ok (.istore 7, 2) := by decide +kernel
theorem dX12_needs_75 : decode cX12_needs 75 = .ok (.iload 6, 2) := by decide +kernel
theorem dX12_needs_77 : decode cX12_needs 77 = .ok (.iload 4, 2) := by decide +kernel
theorem dX12_needs_79 : decode cX12_needs 79 = .ok (.iand, 1) := by decide +kernel
theorem dX12_needs_80 : decode cX12_needs 80 = .ok (.ifCond .ne 84, 3) := by decide +kernel
theorem dX12_needs_83 : decode cX12_needs 83 = .ok (.iload 7, 2) := by decide +kernel
theorem dX12_needs_85 : decode cX12_needs 85 = .ok (.iconst 3, 1) := by decide +kernel
theorem dX12_needs_86 : decode cX12_needs 86 = .ok (.if_icmp .gt 78, 3) := by decide +kernel
theorem dX12_needs_89 : decode cX12_needs 89 = .ok (.iload 7, 2) := by decide +kernel
theorem dX12_needs_91 : decode cX12_needs 91 = .ok (.aload_n 0, 1) := by decide +kernel
theorem dX12_needs_92 : decode cX12_needs 92 = .ok (.getfield 519, 3) := by decide +kernel
theorem dX12_needs_95 : decode cX12_needs 95 = .ok (.if_icmp .gt 69, 3) := by decide +kernel
theorem dX12_needs_98 : decode cX12_needs 98 = .ok (.iload 7, 2) := by decide +kernel
theorem dX12_needs_100 : decode cX12_needs 100 = .ok (.aload_n 0, 1) := by decide +kernel
theorem dX12_needs_101 : decode cX12_needs 101 = .ok (.getfield 519, 3) := by decide +kernel
theorem dX12_needs_104 : decode cX12_needs 104 = .ok (.if_icmp .ne 21, 3) := by decide +kernel
theorem dX12_needs_107 : decode cX12_needs 107 = .ok (.iload 5, 2) := by decide +kernel
theorem dX12_needs_109 : decode cX12_needs 109 = .ok (.invokestatic 513, 3) := by decide +kernel
theorem dX12_needs_112 : decode cX12_needs 112 = .ok (.aload_n 0, 1) := by decide +kernel
theorem dX12_needs_113 : decode cX12_needs 113 = .ok (.getfield 522, 3) := by decide +kernel
theorem dX12_needs_116 : decode cX12_needs 116 = .ok (.invokestatic 513, 3) := by decide +kernel
theorem dX12_needs_119 : decode cX12_needs 119 = .ok (.if_icmp .lt 6, 3) := by decide +kernel
theorem dX12_needs_122 : decode cX12_needs 122 = .ok (.goto 42, 3) := by decide +kernel
theorem dX12_needs_125 : decode cX12_needs 125 = .ok (.aload_n 0, 1) := by decide +kernel
theorem dX12_needs_126 : decode cX12_needs 126 = .ok (.iload_n 1, 1) := by decide +kernel
theorem dX12_needs_127 : decode cX12_needs 127 = .ok (.iload_n 2, 1) := by decide +kernel
theorem dX12_needs_128 : decode cX12_needs 128 = .ok (.iload_n 3, 1) := by decide +kernel
theorem dX12_needs_129 : decode cX12_needs 129 = .ok (.iload 5, 2) := by decide +kernel
theorem dX12_needs_131 : decode cX12_needs 131 = .ok (.ior, 1) := by decide +kernel
theorem dX12_needs_132 : decode cX12_needs 132 = .ok (.iload 4, 2) := by decide +kernel
theorem dX12_needs_134 : decode cX12_needs 134 = .ok (.iload 6, 2) := by decide +kernel
theorem dX12_needs_136 : decode cX12_needs 136 = .ok (.ior, 1) := by decide +kernel
theorem dX12_needs_137 : decode cX12_needs 137 = .ok (.invokevirtual 456, 3) := by decide +kernel
theorem dX12_needs_140 : decode cX12_needs 140 = .ok (.ifCond .ne 6, 3) := by decide +kernel
theorem dX12_needs_143 : decode cX12_needs 143 = .ok (.goto 21, 3) := by decide +kernel
theorem dX12_needs_146 : decode cX12_needs 146 = .ok (.aload_n 0, 1) := by decide +kernel
theorem dX12_needs_147 : decode cX12_needs 147 = .ok (.iload 7, 2) := by decide +kernel
theorem dX12_needs_149 : decode cX12_needs 149 = .ok (.putfield 519, 3) := by decide +kernel
theorem dX12_needs_152 : decode cX12_needs 152 = .ok (.aload_n 0, 1) := by decide +kernel
theorem dX12_needs_153 : decode cX12_needs 153 = .ok (.iload 5, 2) := by decide +kernel
theorem dX12_needs_155 : decode cX12_needs 155 = .ok (.putfield 522, 3) := by decide +kernel
theorem dX12_needs_158 : decode cX12_needs 158 = .ok (.aload_n 0, 1) := by decide +kernel
theorem dX12_needs_159 : decode cX12_needs 159 = .ok (.iload 6, 2) := by decide +kernel
theorem dX12_needs_161 : decode cX12_needs 161 = .ok (.putfield 525, 3) := by decide +kernel
theorem dX12_needs_164 : decode cX12_needs 164 = .ok (.iinc 6 1, 3) := by decide +kernel
theorem dX12_needs_167 : decode cX12_needs 167 = .ok (.goto (-121), 3) := by decide +kernel
theorem dX12_needs_170 : decode cX12_needs 170 = .ok (.iinc 5 1, 3) := by decide +kernel
theorem dX12_needs_173 : decode cX12_needs 173 = .ok (.goto (-165), 3) := by decide +kernel
theorem dX12_needs_176 : decode cX12_needs 176 = .ok (.return_, 1) := by decide +kernel
theorem dX12_areSets_0 : decode cX12_areSets 0 = .ok (.iload_n 1, 1) := by decide +kernel
theorem dX12_areSets_1 : decode cX12_areSets 1 = .ok (.iconst 0, 1) := by decide +kernel
theorem dX12_areSets_2 : decode cX12_areSets 2 = .ok (.iconst 1, 1) := by decide +kernel
theorem dX12_areSets_3 : decode cX12_areSets 3 = .ok (.aload_n 0, 1) := by decide +kernel
theorem dX12_areSets_4 : decode cX12_areSets 4 = .ok (.getfield 49, 3) := by decide +kernel
theorem dX12_areSets_7 : decode cX12_areSets 7 = .ok (.aload_n 0, 1) := by decide +kernel
theorem dX12_areSets_8 : decode cX12_areSets 8 = .ok (.getfield 284, 3) := by decide +kernel
theorem dX12_areSets_11 : decode cX12_areSets 11 = .ok (.iaload, 1) := by decide +kernel
theorem dX12_areSets_12 : decode cX12_areSets 12 = .ok (.ishl, 1) := by decide +kernel
theorem dX12_areSets_13 : decode cX12_areSets 13 = .ok (.iconst 1, 1) := by decide +kernel
theorem dX12_areSets_14 : decode cX12_areSets 14 = .ok (.isub, 1) := by decide +kernel
theorem dX12_areSets_15 : decode cX12_areSets 15 = .ok (.invokestatic 383, 3) := by decide +kernel
theorem dX12_areSets_18 : decode cX12_areSets 18 = .ok (.ifCond .eq 28, 3) := by decide +kernel
theorem dX12_areSets_21 : decode cX12_areSets 21 = .ok (.iload_n 2, 1) := by decide +kernel
theorem dX12_areSets_22 : decode cX12_areSets 22 = .ok (.iconst 0, 1) := by decide +kernel
theorem dX12_areSets_23 : decode cX12_areSets 23 = .ok (.iconst 1, 1) := by decide +kernel
theorem dX12_areSets_24 : decode cX12_areSets 24 = .ok (.aload_n 0, 1) := by decide +kernel
theorem dX12_areSets_25 : decode cX12_areSets 25 = .ok (.getfield 67, 3) := by decide +kernel
theorem dX12_areSets_28 : decode cX12_areSets 28 = .ok (.aload_n 0, 1) := by decide +kernel
theorem dX12_areSets_29 : decode cX12_areSets 29 = .ok (.getfield 284, 3) := by decide +kernel
theorem dX12_areSets_32 : decode cX12_areSets 32 = .ok (.iaload, 1) := by decide +kernel
theorem dX12_areSets_33 : decode cX12_areSets 33 = .ok (.ishl, 1) := by decide +kernel
theorem dX12_areSets_34 : decode cX12_areSets 34 = .ok (.iconst 1, 1) := by decide +kernel
theorem dX12_areSets_35 : decode cX12_areSets 35 = .ok (.isub, 1) := by decide +kernel
theorem dX12_areSets_36 : decode cX12_areSets 36 = .ok (.invokestatic 383, 3) := by decide +kernel
theorem dX12_areSets_39 : decode cX12_areSets 39 = .ok (.ifCond .eq 7, 3) := by decide +kernel
theorem dX12_areSets_42 : decode cX12_areSets 42 = .ok (.iconst 1, 1) := by decide +kernel
theorem dX12_areSets_43 : decode cX12_areSets 43 = .ok (.goto 4, 3) := by decide +kernel
theorem dX12_areSets_46 : decode cX12_areSets 46 = .ok (.iconst 0, 1) := by decide +kernel
theorem dX12_areSets_47 : decode cX12_areSets 47 = .ok (.ireturn, 1) := by decide +kernel
theorem dX12_need_0 : decode cX12_need 0 = .ok (.aload_n 0, 1) := by decide +kernel
theorem dX12_need_1 : decode cX12_need 1 = .ok (.iload_n 1, 1) := by decide +kernel
theorem dX12_need_2 : decode cX12_need 2 = .ok (.invokevirtual 400, 3) := by decide +kernel
theorem dX12_need_5 : decode cX12_need 5 = .ok (.ifCond .eq 30, 3) := by decide +kernel
theorem dX12_need_8 : decode cX12_need 8 = .ok (.iload_n 2, 1) := by decide +kernel
theorem dX12_need_9 : decode cX12_need 9 = .ok (.invokestatic 412, 3) := by decide +kernel
theorem dX12_need_12 : decode cX12_need 12 = .ok (.ifCond .eq 23, 3) := by decide +kernel
theorem dX12_need_15 : decode cX12_need 15 = .ok (.aload_n 0, 1) := by decide +kernel
theorem dX12_need_16 : decode cX12_need 16 = .ok (.iload_n 3, 1) := by decide +kernel
theorem dX12_need_17 : decode cX12_need 17 = .ok (.iload 4, 2) := by decide +kernel
theorem dX12_need_19 : decode cX12_need 19 = .ok (.invokevirtual 528, 3) := by decide +kernel
theorem dX12_need_22 : decode cX12_need 22 = .ok (.ifCond .eq 13, 3) := by decide +kernel
theorem dX12_need_25 : decode cX12_need 25 = .ok (.iload 5, 2) := by decide +kernel
theorem dX12_need_27 : decode cX12_need 27 = .ok (.iconst 0, 1) := by decide +kernel
theorem dX12_need_28 : decode cX12_need 28 = .ok (.iconst 2, 1) := by decide +kernel
theorem dX12_need_29 : decode cX12_need 29 = .ok (.invokestatic 383, 3) := by decide +kernel
theorem dX12_need_32 : decode cX12_need 32 = .ok (.ifCond .ne 5, 3) := by decide +kernel
theorem dX12_need_35 : decode cX12_need 35 = .ok (.iconst (-1), 1) := by decide +kernel
theorem dX12_need_36 : decode cX12_need 36 = .ok (.ireturn, 1) := by decide +kernel
theorem dX12_need_37 : decode cX12_need 37 = .ok (.aload_n 0, 1) := by decide +kernel
theorem dX12_need_38 : decode cX12_need 38 = .ok (.iload_n 1, 1) := by decide +kernel
theorem dX12_need_39 : decode cX12_need 39 = .ok (.iload_n 2, 1) := by decide +kernel
theorem dX12_need_40 : decode cX12_need 40 = .ok (.iload_n 3, 1) := by decide +kernel
theorem dX12_need_41 : decode cX12_need 41 = .ok (.iload 4, 2) := by decide +kernel
theorem dX12_need_43 : decode cX12_need 43 = .ok (.invokevirtual 531, 3) := by decide +kernel
theorem dX12_need_46 : decode cX12_need 46 = .ok (.aload_n 0, 1) := by decide +kernel
theorem dX12_need_47 : decode cX12_need 47 = .ok (.getfield 519, 3) := by decide +kernel
theorem dX12_need_50 : decode cX12_need 50 = .ok (.iconst 4, 1) := by decide +kernel
theorem dX12_need_51 : decode cX12_need 51 = .ok (.if_icmp .ne 8, 3) := by decide +kernel
theorem dX12_need_54 : decode cX12_need 54 = .ok (.bipush (-2), 2) := by decide +kernel
theorem dX12_need_56 : decode cX12_need 56 = .ok (.goto 32, 3) := by decide +kernel
theorem dX12_need_59 : decode cX12_need 59 = .ok (.iload 5, 2) := by decide +kernel
theorem dX12_need_61 : decode cX12_need 61 = .ok (.ifCond .ne 10, 3) := by decide +kernel
theorem dX12_need_64 : decode cX12_need 64 = .ok (.aload_n 0, 1) := by decide +kernel
theorem dX12_need_65 : decode cX12_need 65 = .ok (.getfield 519, 3) := by decide +kernel
theorem dX12_need_68 : decode cX12_need 68 = .ok (.goto 20, 3) := by decide +kernel
theorem dX12_need_71 : decode cX12_need 71 = .ok (.iload 5, 2) := by decide +kernel
theorem dX12_need_73 : decode cX12_need 73 = .ok (.iconst 1, 1) := by decide +kernel
theorem dX12_need_74 : decode cX12_need 74 = .ok (.if_icmp .ne 10, 3) := by decide +kernel
theorem dX12_need_77 : decode cX12_need 77 = .ok (.aload_n 0, 1) := by decide +kernel
theorem dX12_need_78 : decode cX12_need 78 = .ok (.getfield 522, 3) := by decide +kernel
theorem dX12_need_81 : decode cX12_need 81 = .ok (.goto 7, 3) := by decide +kernel
theorem dX12_need_84 : decode cX12_need 84 = .ok (.aload_n 0, 1) := by decide +kernel
theorem dX12_need_85 : decode cX12_need 85 = .ok (.getfield 525, 3) := by decide +kernel
theorem dX12_need_88 : decode cX12_need 88 = .ok (.ireturn, 1) := by decide +kernel
theorem dX12_fillLooks_0 : decode cX12_fillLooks 0 = .ok (.iconst 0, 1) := by decide +kernel
theorem dX12_fillLooks_1 : decode cX12_fillLooks 1 = .ok (.istore_n 2, 1) := by decide +kernel
theorem dX12_fillLooks_2 : decode cX12_fillLooks 2 = .ok (.iload_n 2, 1) := by decide +kernel
theorem dX12_fillLooks_3 : decode cX12_fillLooks 3 = .ok (.iconst 1, 1) := by decide +kernel
theorem dX12_fillLooks_4 : decode cX12_fillLooks 4 = .ok (.aload_n 0, 1) := by decide +kernel
theorem dX12_fillLooks_5 : decode cX12_fillLooks 5 = .ok (.getfield 49, 3) := by decide +kernel
theorem dX12_fillLooks_8 : decode cX12_fillLooks 8 = .ok (.aload_n 0, 1) := by decide +kernel
theorem dX12_fillLooks_9 : decode cX12_fillLooks 9 = .ok (.getfield 284, 3) := by decide +kernel
theorem dX12_fillLooks_12 : decode cX12_fillLooks 12 = .ok (.iaload, 1) := by decide +kernel
theorem dX12_fillLooks_13 : decode cX12_fillLooks 13 = .ok (.ishl, 1) := by decide +kernel
theorem dX12_fillLooks_14 : decode cX12_fillLooks 14 = .ok (.if_icmp .ge 122, 3) := by decide +kernel
theorem dX12_fillLooks_17 : decode cX12_fillLooks 17 = .ok (.iconst 1, 1) := by decide +kernel
theorem dX12_fillLooks_18 : decode cX12_fillLooks 18 = .ok (.aload_n 0, 1) := by decide +kernel
theorem dX12_fillLooks_19 : decode cX12_fillLooks 19 = .ok (.getfield 67, 3) := by decide +kernel
theorem dX12_fillLooks_22 : decode cX12_fillLooks 22 = .ok (.aload_n 0, 1) := by decide +kernel
theorem dX12_fillLooks_23 : decode cX12_fillLooks 23 = .ok (.getfield 284, 3) := by decide +kernel
theorem dX12_fillLooks_26 : decode cX12_fillLooks 26 = .ok (.iaload, 1) := by decide +kernel
theorem dX12_fillLooks_27 : decode cX12_fillLooks 27 = .ok (.ishl, 1) := by decide +kernel
theorem dX12_fillLooks_28 : decode cX12_fillLooks 28 = .ok (.iconst 1, 1) := by decide +kernel
theorem dX12_fillLooks_29 : decode cX12_fillLooks 29 = .ok (.isub, 1) := by decide +kernel
theorem dX12_fillLooks_30 : decode cX12_fillLooks 30 = .ok (.istore_n 3, 1) := by decide +kernel
theorem dX12_fillLooks_31 : decode cX12_fillLooks 31 = .ok (.iload_n 3, 1) := by decide +kernel
theorem dX12_fillLooks_32 : decode cX12_fillLooks 32 = .ok (.ifCond .lt 98, 3) := by decide +kernel
theorem dX12_fillLooks_35 : decode cX12_fillLooks 35 = .ok (.iload_n 3, 1) := by decide +kernel
theorem dX12_fillLooks_36 : decode cX12_fillLooks 36 = .ok (.istore 4, 2) := by decide +kernel
theorem dX12_fillLooks_38 : decode cX12_fillLooks 38 = .ok (.aload_n 0, 1) := by decide +kernel
theorem dX12_fillLooks_39 : decode cX12_fillLooks 39 = .ok (.getfield 67, 3) := by decide +kernel
theorem dX12_fillLooks_42 : decode cX12_fillLooks 42 = .ok (.aload_n 0, 1) := by decide +kernel
theorem dX12_fillLooks_43 : decode cX12_fillLooks 43 = .ok (.getfield 284, 3) := by decide +kernel
theorem dX12_fillLooks_46 : decode cX12_fillLooks 46 = .ok (.iaload, 1) := by decide +kernel
theorem dX12_fillLooks_47 : decode cX12_fillLooks 47 = .ok (.iconst 1, 1) := by decide +kernel
theorem dX12_fillLooks_48 : decode cX12_fillLooks 48 = .ok (.isub, 1) := by decide +kernel
theorem dX12_fillLooks_49 : decode cX12_fillLooks 49 = .ok (.istore 5, 2) := by decide +kernel
theorem dX12_fillLooks_51 : decode cX12_fillLooks 51 = .ok (.iload 5, 2) := by decide +kernel
theorem dX12_fillLooks_53 : decode cX12_fillLooks 53 = .ok (.ifCond .lt 38, 3) := by decide +kernel
theorem dX12_fillLooks_56 : decode cX12_fillLooks 56 = .ok (.iload_n 3, 1) := by decide +kernel
theorem dX12_fillLooks_57 : decode cX12_fillLooks 57 = .ok (.iload 5, 2) := by decide +kernel
theorem dX12_fillLooks_59 : decode cX12_fillLooks 59 = .ok (.ishr, 1) := by decide +kernel
theorem dX12_fillLooks_60 : decode cX12_fillLooks 60 = .ok (.iconst 1, 1) := by decide +kernel
theorem dX12_fillLooks_61 : decode cX12_fillLooks 61 = .ok (.iand, 1) := by decide +kernel
theorem dX12_fillLooks_62 : decode cX12_fillLooks 62 = .ok (.ifCond .ne 23, 3) := by decide +kernel
theorem dX12_fillLooks_65 : decode cX12_fillLooks 65 = .ok (.aload_n 0, 1) := by decide +kernel
theorem dX12_fillLooks_66 : decode cX12_fillLooks 66 = .ok (.iload 5, 2) := by decide +kernel
theorem dX12_fillLooks_68 : decode cX12_fillLooks 68 = .ok (.iload_n 1, 1) := by decide +kernel
theorem dX12_fillLooks_69 : decode cX12_fillLooks 69 = .ok (.iload_n 2, 1) := by decide +kernel
theorem dX12_fillLooks_70 : decode cX12_fillLooks 70 = .ok (.iload_n 3, 1) := by decide +kernel
theorem dX12_fillLooks_71 : decode cX12_fillLooks 71 = .ok (.invokevirtual 534, 3) := by decide +kernel
theorem dX12_fillLooks_74 : decode cX12_fillLooks 74 = .ok (.ifCond .eq 11, 3) := by decide +kernel
theorem dX12_fillLooks_77 : decode cX12_fillLooks 77 = .ok (.iload_n 3, 1) := by decide +kernel
theorem dX12_fillLooks_78 : decode cX12_fillLooks 78 = .ok (.iconst 1, 1) := by decide +kernel
theorem dX12_fillLooks_79 : decode cX12_fillLooks 79 = .ok (.iload 5, 2) := by decide +kernel
theorem dX12_fillLooks_81 : decode cX12_fillLooks 81 = .ok (.ishl, 1) := by decide +kernel
theorem dX12_fillLooks_82 : decode cX12_fillLooks 82 = .ok (.ior, 1) := by decide +kernel
theorem dX12_fillLooks_83 : decode cX12_fillLooks 83 = .ok (.istore 4, 2) := by decide +kernel
theorem dX12_fillLooks_85 : decode cX12_fillLooks 85 = .ok (.iinc 5 (-1), 3) := by decide +kernel
theorem dX12_fillLooks_88 : decode cX12_fillLooks 88 = .ok (.goto (-37), 3) := by decide +kernel
theorem dX12_fillLooks_91 : decode cX12_fillLooks 91 = .ok (.aload_n 0, 1) := by decide +kernel
theorem dX12_fillLooks_92 : decode cX12_fillLooks 92 = .ok (.getfield 188, 3) := by decide +kernel
theorem dX12_fillLooks_95 : decode cX12_fillLooks 95 = .ok (.bipush 64, 2) := by decide +kernel
theorem dX12_fillLooks_97 : decode cX12_fillLooks 97 = .ok (.iload_n 2, 1) := by decide +kernel
theorem dX12_fillLooks_98 : decode cX12_fillLooks 98 = .ok (.imul, 1) := by decide +kernel
theorem dX12_fillLooks_99 : decode cX12_fillLooks 99 = .ok (.iload_n 3, 1) := by decide +kernel
theorem dX12_fillLooks_100 : decode cX12_fillLooks 100 = .ok (.iadd, 1) := by decide +kernel
theorem dX12_fillLooks_101 : decode cX12_fillLooks 101 = .ok (.iload 4, 2) := by decide +kernel
theorem dX12_fillLooks_103 : decode cX12_fillLooks 103 = .ok (.iload_n 3, 1) := by decide +kernel
theorem dX12_fillLooks_104 : decode cX12_fillLooks 104 = .ok (.if_icmp .ne 7, 3) := by decide +kernel
theorem dX12_fillLooks_107 : decode cX12_fillLooks 107 = .ok (.iload_n 3, 1) := by decide +kernel
theorem dX12_fillLooks_108 : decode cX12_fillLooks 108 = .ok (.goto 15, 3) := by decide +kernel
theorem dX12_fillLooks_111 : decode cX12_fillLooks 111 = .ok (.aload_n 0, 1) := by decide +kernel
theorem dX12_fillLooks_112 : decode cX12_fillLooks 112 = .ok (.getfield 188, 3) := by decide +kernel
theorem dX12_fillLooks_115 : decode cX12_fillLooks 115 = .ok (.bipush 64, 2) := by decide +kernel
theorem dX12_fillLooks_117 : decode cX12_fillLooks 117 = .ok (.iload_n 2, 1) := by decide +kernel
theorem dX12_fillLooks_118 : decode cX12_fillLooks 118 = .ok (.imul, 1) := by decide +kernel
theorem dX12_fillLooks_119 : decode cX12_fillLooks 119 = .ok (.iload 4, 2) := by decide +kernel
theorem dX12_fillLooks_121 : decode cX12_fillLooks 121 = .ok (.iadd, 1) := by decide +kernel
theorem dX12_fillLooks_122 : decode cX12_fillLooks 122 = .ok (.iaload, 1) := by decide +kernel
theorem dX12_fillLooks_123 : decode cX12_fillLooks 123 = .ok (.iastore, 1) := by decide +kernel
theorem dX12_fillLooks_124 : decode cX12_fillLooks 124 = .ok (.iinc 3 (-1), 3) := by decide +kernel
theorem dX12_fillLooks_127 : decode cX12_fillLooks 127 = .ok (.goto (-96), 3) := by decide +kernel
theorem dX12_fillLooks_130 : decode cX12_fillLooks 130 = .ok (.iinc 2 1, 3) := by decide +kernel
theorem dX12_fillLooks_133 : decode cX12_fillLooks 133 = .ok (.goto (-131), 3) := by decide +kernel
theorem dX12_fillLooks_136 : decode cX12_fillLooks 136 = .ok (.return_, 1) := by decide +kernel
theorem dX12_mayBeOpened_0 : decode cX12_mayBeOpened 0 = .ok (.iload_n 3, 1) := by decide +kernel
theorem dX12_mayBeOpened_1 : decode cX12_mayBeOpened 1 = .ok (.aload_n 0, 1) := by decide +kernel
theorem dX12_mayBeOpened_2 : decode cX12_mayBeOpened 2 = .ok (.iload_n 1, 1) := by decide +kernel
theorem dX12_mayBeOpened_3 : decode cX12_mayBeOpened 3 = .ok (.invokevirtual 406, 3) := by decide +kernel
theorem dX12_mayBeOpened_6 : decode cX12_mayBeOpened 6 = .ok (.ishr, 1) := by decide +kernel
theorem dX12_mayBeOpened_7 : decode cX12_mayBeOpened 7 = .ok (.iconst 1, 1) := by decide +kernel
theorem dX12_mayBeOpened_8 : decode cX12_mayBeOpened 8 = .ok (.iand, 1) := by decide +kernel
theorem dX12_mayBeOpened_9 : decode cX12_mayBeOpened 9 = .ok (.ifCond .ne 28, 3) := by decide +kernel
theorem dX12_mayBeOpened_12 : decode cX12_mayBeOpened 12 = .ok (.aload_n 0, 1) := by decide +kernel
theorem dX12_mayBeOpened_13 : decode cX12_mayBeOpened 13 = .ok (.iload_n 1, 1) := by decide +kernel
theorem dX12_mayBeOpened_14 : decode cX12_mayBeOpened 14 = .ok (.iload_n 2, 1) := by decide +kernel
theorem dX12_mayBeOpened_15 : decode cX12_mayBeOpened 15 = .ok (.invokevirtual 463, 3) := by decide +kernel
theorem dX12_mayBeOpened_18 : decode cX12_mayBeOpened 18 = .ok (.ifCond .ne 19, 3) := by decide +kernel
theorem dX12_mayBeOpened_21 : decode cX12_mayBeOpened 21 = .ok (.aload_n 0, 1) := by decide +kernel
theorem dX12_mayBeOpened_22 : decode cX12_mayBeOpened 22 = .ok (.iload_n 1, 1) := by decide +kernel
theorem dX12_mayBeOpened_23 : decode cX12_mayBeOpened 23 = .ok (.iload_n 2, 1) := by decide +kernel
theorem dX12_mayBeOpened_24 : decode cX12_mayBeOpened 24 = .ok (.iload_n 3, 1) := by decide +kernel
theorem dX12_mayBeOpened_25 : decode cX12_mayBeOpened 25 = .ok (.iload 4, 2) := by decide +kernel
theorem dX12_mayBeOpened_27 : decode cX12_mayBeOpened 27 = .ok (.invokevirtual 456, 3) := by decide +kernel
theorem dX12_mayBeOpened_30 : decode cX12_mayBeOpened 30 = .ok (.ifCond .eq 7, 3) := by decide +kernel
theorem dX12_mayBeOpened_33 : decode cX12_mayBeOpened 33 = .ok (.iconst 1, 1) := by decide +kernel
theorem dX12_mayBeOpened_34 : decode cX12_mayBeOpened 34 = .ok (.goto 4, 3) := by decide +kernel
theorem dX12_mayBeOpened_37 : decode cX12_mayBeOpened 37 = .ok (.iconst 0, 1) := by decide +kernel
theorem dX12_mayBeOpened_38 : decode cX12_mayBeOpened 38 = .ok (.ireturn, 1) := by decide +kernel
theorem dX12_future_0 : decode cX12_future 0 = .ok (.aload_n 0, 1) := by decide +kernel
theorem dX12_future_1 : decode cX12_future 1 = .ok (.iload_n 1, 1) := by decide +kernel
theorem dX12_future_2 : decode cX12_future 2 = .ok (.invokevirtual 400, 3) := by decide +kernel
theorem dX12_future_5 : decode cX12_future 5 = .ok (.ifCond .eq 40, 3) := by decide +kernel
theorem dX12_future_8 : decode cX12_future 8 = .ok (.iload_n 2, 1) := by decide +kernel
theorem dX12_future_9 : decode cX12_future 9 = .ok (.invokestatic 412, 3) := by decide +kernel
theorem dX12_future_12 : decode cX12_future 12 = .ok (.ifCond .eq 33, 3) := by decide +kernel
theorem dX12_future_15 : decode cX12_future 15 = .ok (.aload_n 0, 1) := by decide +kernel
theorem dX12_future_16 : decode cX12_future 16 = .ok (.iload_n 3, 1) := by decide +kernel
theorem dX12_future_17 : decode cX12_future 17 = .ok (.iload 4, 2) := by decide +kernel
theorem dX12_future_19 : decode cX12_future 19 = .ok (.invokevirtual 528, 3) := by decide +kernel
theorem dX12_future_22 : decode cX12_future 22 = .ok (.ifCond .eq 23, 3) := by decide +kernel
theorem dX12_future_25 : decode cX12_future 25 = .ok (.iload 4, 2) := by decide +kernel
theorem dX12_future_27 : decode cX12_future 27 = .ok (.iload_n 1, 1) := by decide +kernel
theorem dX12_future_28 : decode cX12_future 28 = .ok (.ishr, 1) := by decide +kernel
theorem dX12_future_29 : decode cX12_future 29 = .ok (.iconst 1, 1) := by decide +kernel
theorem dX12_future_30 : decode cX12_future 30 = .ok (.iand, 1) := by decide +kernel
theorem dX12_future_31 : decode cX12_future 31 = .ok (.iconst 1, 1) := by decide +kernel
theorem dX12_future_32 : decode cX12_future 32 = .ok (.if_icmp .eq 13, 3) := by decide +kernel
theorem dX12_future_35 : decode cX12_future 35 = .ok (.iload 5, 2) := by decide +kernel
theorem dX12_future_37 : decode cX12_future 37 = .ok (.iconst 0, 1) := by decide +kernel
theorem dX12_future_38 : decode cX12_future 38 = .ok (.iconst 2, 1) := by decide +kernel
theorem dX12_future_39 : decode cX12_future 39 = .ok (.invokestatic 383, 3) := by decide +kernel
theorem dX12_future_42 : decode cX12_future 42 = .ok (.ifCond .ne 5, 3) := by decide +kernel
theorem dX12_future_45 : decode cX12_future 45 = .ok (.iconst (-1), 1) := by decide +kernel
theorem dX12_future_46 : decode cX12_future 46 = .ok (.ireturn, 1) := by decide +kernel
theorem dX12_future_47 : decode cX12_future 47 = .ok (.aload_n 0, 1) := by decide +kernel
theorem dX12_future_48 : decode cX12_future 48 = .ok (.getfield 49, 3) := by decide +kernel
theorem dX12_future_51 : decode cX12_future 51 = .ok (.aload_n 0, 1) := by decide +kernel
theorem dX12_future_52 : decode cX12_future 52 = .ok (.getfield 284, 3) := by decide +kernel
theorem dX12_future_55 : decode cX12_future 55 = .ok (.iaload, 1) := by decide +kernel
theorem dX12_future_56 : decode cX12_future 56 = .ok (.iconst 5, 1) := by decide +kernel
theorem dX12_future_57 : decode cX12_future 57 = .ok (.if_icmp .gt 17, 3) := by decide +kernel
theorem dX12_future_60 : decode cX12_future 60 = .ok (.aload_n 0, 1) := by decide +kernel
theorem dX12_future_61 : decode cX12_future 61 = .ok (.getfield 67, 3) := by decide +kernel
theorem dX12_future_64 : decode cX12_future 64 = .ok (.aload_n 0, 1) := by decide +kernel
theorem dX12_future_65 : decode cX12_future 65 = .ok (.getfield 284, 3) := by decide +kernel
theorem dX12_future_68 : decode cX12_future 68 = .ok (.iaload, 1) := by decide +kernel
theorem dX12_future_69 : decode cX12_future 69 = .ok (.bipush 6, 2) := by decide +kernel
theorem dX12_future_71 : decode cX12_future 71 = .ok (.if_icmp .le 6, 3) := by decide +kernel
theorem dX12_future_74 : decode cX12_future 74 = .ok (.bipush (-2), 2) := by decide +kernel
theorem dX12_future_76 : decode cX12_future 76 = .ok (.ireturn, 1) := by decide +kernel
theorem dX12_future_77 : decode cX12_future 77 = .ok (.bipush (-2), 2) := by decide +kernel
theorem dX12_future_79 : decode cX12_future 79 = .ok (.istore 6, 2) := by decide +kernel
theorem dX12_future_81 : decode cX12_future 81 = .ok (.bipush (-2), 2) := by decide +kernel
theorem dX12_future_83 : decode cX12_future 83 = .ok (.istore 7, 2) := by decide +kernel
theorem dX12_future_85 : decode cX12_future 85 = .ok (.iconst 0, 1) := by decide +kernel
theorem dX12_future_86 : decode cX12_future 86 = .ok (.istore 8, 2) := by decide +kernel
theorem dX12_future_88 : decode cX12_future 88 = .ok (.iload 8, 2) := by decide +kernel
theorem dX12_future_90 : decode cX12_future 90 = .ok (.sipush 2048, 3) := by decide +kernel
theorem dX12_future_93 : decode cX12_future 93 = .ok (.if_icmp .ge 33, 3) := by decide +kernel
theorem dX12_future_96 : decode cX12_future 96 = .ok (.aload_n 0, 1) := by decide +kernel
theorem dX12_future_97 : decode cX12_future 97 = .ok (.getfield 182, 3) := by decide +kernel
theorem dX12_future_100 : decode cX12_future 100 = .ok (.iload 8, 2) := by decide +kernel
theorem dX12_future_102 : decode cX12_future 102 = .ok (.iload 8, 2) := by decide +kernel
theorem dX12_future_104 : decode cX12_future 104 = .ok (.bipush 64, 2) := by decide +kernel
theorem dX12_future_106 : decode cX12_future 106 = .ok (.iload_n 3, 1) := by decide +kernel
theorem dX12_future_107 : decode cX12_future 107 = .ok (.imul, 1) := by decide +kernel
theorem dX12_future_108 : decode cX12_future 108 = .ok (.iload 4, 2) := by decide +kernel
theorem dX12_future_110 : decode cX12_future 110 = .ok (.iadd, 1) := by decide +kernel
theorem dX12_future_111 : decode cX12_future 111 = .ok (.if_icmp .ne 7, 3) := by decide +kernel
theorem dX12_future_114 : decode cX12_future 114 = .ok (.iconst 1, 1) := by decide +kernel
theorem dX12_future_115 : decode cX12_future 115 = .ok (.goto 4, 3) := by decide +kernel
theorem dX12_future_118 : decode cX12_future 118 = .ok (.iconst 0, 1) := by decide +kernel
theorem dX12_future_119 : decode cX12_future 119 = .ok (.bastore, 1) := by decide +kernel
theorem dX12_future_120 : decode cX12_future 120 = .ok (.iinc 8 1, 3) := by decide +kernel
theorem dX12_future_123 : decode cX12_future 123 = .ok (.goto (-35), 3) := by decide +kernel
theorem dX12_future_126 : decode cX12_future 126 = .ok (.iload_n 2, 1) := by decide +kernel
theorem dX12_future_127 : decode cX12_future 127 = .ok (.istore 8, 2) := by decide +kernel
theorem dX12_future_129 : decode cX12_future 129 = .ok (.iload 8, 2) := by decide +kernel
theorem dX12_future_131 : decode cX12_future 131 = .ok (.bipush 60, 2) := by decide +kernel
theorem dX12_future_133 : decode cX12_future 133 = .ok (.if_icmp .ge 216, 3) := by decide +kernel
theorem dX12_future_136 : decode cX12_future 136 = .ok (.aload_n 0, 1) := by decide +kernel
theorem dX12_future_137 : decode cX12_future 137 = .ok (.iload 8, 2) := by decide +kernel
theorem dX12_future_139 : decode cX12_future 139 = .ok (.invokevirtual 537, 3) := by decide +kernel
theorem dX12_future_142 : decode cX12_future 142 = .ok (.iconst 0, 1) := by decide +kernel
theorem dX12_future_143 : decode cX12_future 143 = .ok (.istore 9, 2) := by decide +kernel
theorem dX12_future_145 : decode cX12_future 145 = .ok (.iload 9, 2) := by decide +kernel
theorem dX12_future_147 : decode cX12_future 147 = .ok (.sipush 2048, 3) := by decide +kernel
theorem dX12_future_150 : decode cX12_future 150 = .ok (.if_icmp .ge 17, 3) := by decide +kernel
theorem dX12_future_153 : decode cX12_future 153 = .ok (.aload_n 0, 1) := by decide +kernel
theorem dX12_future_154 : decode cX12_future 154 = .ok (.getfield 185, 3) := by decide +kernel
theorem dX12_future_157 : decode cX12_future 157 = .ok (.iload 9, 2) := by decide +kernel
theorem dX12_future_159 : decode cX12_future 159 = .ok (.iconst 0, 1) := by decide +kernel
theorem dX12_future_160 : decode cX12_future 160 = .ok (.bastore, 1) := by decide +kernel
theorem dX12_future_161 : decode cX12_future 161 = .ok (.iinc 9 1, 3) := by decide +kernel
theorem dX12_future_164 : decode cX12_future 164 = .ok (.goto (-19), 3) := by decide +kernel
theorem dX12_future_167 : decode cX12_future 167 = .ok (.iconst 0, 1) := by decide +kernel
theorem dX12_future_168 : decode cX12_future 168 = .ok (.istore 9, 2) := by decide +kernel
theorem dX12_future_170 : decode cX12_future 170 = .ok (.iload 9, 2) := by decide +kernel
theorem dX12_future_172 : decode cX12_future 172 = .ok (.sipush 2048, 3) := by decide +kernel
theorem dX12_future_175 : decode cX12_future 175 = .ok (.if_icmp .ge 137, 3) := by decide +kernel
theorem dX12_future_178 : decode cX12_future 178 = .ok (.aload_n 0, 1) := by decide +kernel
theorem dX12_future_179 : decode cX12_future 179 = .ok (.getfield 182, 3) := by decide +kernel
theorem dX12_future_182 : decode cX12_future 182 = .ok (.iload 9, 2) := by decide +kernel
theorem dX12_future_184 : decode cX12_future 184 = .ok (.baload, 1) := by decide +kernel
theorem dX12_future_185 : decode cX12_future 185 = .ok (.ifCond .ne 6, 3) := by decide +kernel
theorem dX12_future_188 : decode cX12_future 188 = .ok (.goto 118, 3) := by decide +kernel
theorem dX12_future_191 : decode cX12_future 191 = .ok (.iconst (-1), 1) := by decide +kernel
theorem dX12_future_192 : decode cX12_future 192 = .ok (.istore 10, 2) := by decide +kernel
theorem dX12_future_194 : decode cX12_future 194 = .ok (.iload 10, 2) := by decide +kernel
theorem dX12_future_196 : decode cX12_future 196 = .ok (.aload_n 0, 1) := by decide +kernel
theorem dX12_future_197 : decode cX12_future 197 = .ok (.getfield 49, 3) := by decide +kernel
theorem dX12_future_200 : decode cX12_future 200 = .ok (.aload_n 0, 1) := by decide +kernel
theorem dX12_future_201 : decode cX12_future 201 = .ok (.getfield 284, 3) := by decide +kernel
theorem dX12_future_204 : decode cX12_future 204 = .ok (.iaload, 1) := by decide +kernel
theorem dX12_future_205 : decode cX12_future 205 = .ok (.if_icmp .ge 101, 3) := by decide +kernel
theorem dX12_future_208 : decode cX12_future 208 = .ok (.iload 9, 2) := by decide +kernel
theorem dX12_future_210 : decode cX12_future 210 = .ok (.bipush 64, 2) := by decide +kernel
theorem dX12_future_212 : decode cX12_future 212 = .ok (.idiv, 1) := by decide +kernel
theorem dX12_future_213 : decode cX12_future 213 = .ok (.iload 10, 2) := by decide +kernel
theorem dX12_future_215 : decode cX12_future 215 = .ok (.iconst (-1), 1) := by decide +kernel
theorem dX12_future_216 : decode cX12_future 216 = .ok (.if_icmp .ne 7, 3) := by decide +kernel
theorem dX12_future_219 : decode cX12_future 219 = .ok (.iconst 0, 1) := by decide +kernel
theorem dX12_future_220 : decode cX12_future 220 = .ok (.goto 7, 3) := by decide +kernel
theorem dX12_future_223 : decode cX12_future 223 = .ok (.iconst 1, 1) := by decide +kernel
theorem dX12_future_224 : decode cX12_future 224 = .ok (.iload 10, 2) := by decide +kernel
theorem dX12_future_226 : decode cX12_future 226 = .ok (.ishl, 1) := by decide +kernel
theorem dX12_future_227 : decode cX12_future 227 = .ok (.ior, 1) := by decide +kernel
theorem dX12_future_228 : decode cX12_future 228 = .ok (.istore 11, 2) := by decide +kernel
theorem dX12_future_230 : decode cX12_future 230 = .ok (.aload_n 0, 1) := by decide +kernel
theorem dX12_future_231 : decode cX12_future 231 = .ok (.getfield 188, 3) := by decide +kernel
theorem dX12_future_234 : decode cX12_future 234 = .ok (.bipush 64, 2) := by decide +kernel
theorem dX12_future_236 : decode cX12_future 236 = .ok (.iload 11, 2) := by decide +kernel
theorem dX12_future_238 : decode cX12_future 238 = .ok (.imul, 1) := by decide +kernel
theorem dX12_future_239 : decode cX12_future 239 = .ok (.iload 9, 2) := by decide +kernel
theorem dX12_future_241 : decode cX12_future 241 = .ok (.bipush 64, 2) := by decide +kernel
theorem dX12_future_243 : decode cX12_future 243 = .ok (.irem, 1) := by decide +kernel
theorem dX12_future_244 : decode cX12_future 244 = .ok (.iadd, 1) := by decide +kernel
theorem dX12_future_245 : decode cX12_future 245 = .ok (.iaload, 1) := by decide +kernel
theorem dX12_future_246 : decode cX12_future 246 = .ok (.istore 12, 2) := by decide +kernel
theorem dX12_future_248 : decode cX12_future 248 = .ok (.aload_n 0, 1) := by decide +kernel
theorem dX12_future_249 : decode cX12_future 249 = .ok (.getfield 185, 3) := by decide +kernel
theorem dX12_future_252 : decode cX12_future 252 = .ok (.bipush 64, 2) := by decide +kernel
theorem dX12_future_254 : decode cX12_future 254 = .ok (.iload 11, 2) := by decide +kernel
theorem dX12_future_256 : decode cX12_future 256 = .ok (.imul, 1) := by decide +kernel
theorem dX12_future_257 : decode cX12_future 257 = .ok (.iload 12, 2) := by decide +kernel
theorem dX12_future_259 : decode cX12_future 259 = .ok (.iadd, 1) := by decide +kernel
theorem dX12_future_260 : decode cX12_future 260 = .ok (.iconst 1, 1) := by decide +kernel
theorem dX12_future_261 : decode cX12_future 261 = .ok (.bastore, 1) := by decide +kernel
theorem dX12_future_262 : decode cX12_future 262 = .ok (.iload 9, 2) := by decide +kernel
theorem dX12_future_264 : decode cX12_future 264 = .ok (.bipush 64, 2) := by decide +kernel
theorem dX12_future_266 : decode cX12_future 266 = .ok (.irem, 1) := by decide +kernel
theorem dX12_future_267 : decode cX12_future 267 = .ok (.iload_n 1, 1) := by decide +kernel
theorem dX12_future_268 : decode cX12_future 268 = .ok (.ishr, 1) := by decide +kernel
theorem dX12_future_269 : decode cX12_future 269 = .ok (.iconst 1, 1) := by decide +kernel
theorem dX12_future_270 : decode cX12_future 270 = .ok (.iand, 1) := by decide +kernel
theorem dX12_future_271 : decode cX12_future 271 = .ok (.iconst 1, 1) := by decide +kernel
theorem dX12_future_272 : decode cX12_future 272 = .ok (.if_icmp .eq 28, 3) := by decide +kernel
theorem dX12_future_275 : decode cX12_future 275 = .ok (.iload 12, 2) := by decide +kernel
theorem dX12_future_277 : decode cX12_future 277 = .ok (.iload_n 1, 1) := by decide +kernel
theorem dX12_future_278 : decode cX12_future 278 = .ok (.ishr, 1) := by decide +kernel
theorem dX12_future_279 : decode cX12_future 279 = .ok (.iconst 1, 1) := by decide +kernel
theorem dX12_future_280 : decode cX12_future 280 = .ok (.iand, 1) := by decide +kernel
theorem dX12_future_281 : decode cX12_future 281 = .ok (.ifCond .ne 6, 3) := by decide +kernel
theorem dX12_future_284 : decode cX12_future 284 = .ok (.goto 16, 3) := by decide +kernel
theorem dX12_future_287 : decode cX12_future 287 = .ok (.iload 6, 2) := by decide +kernel
theorem dX12_future_289 : decode cX12_future 289 = .ok (.ifCond .ge 7, 3) := by decide +kernel
theorem dX12_future_292 : decode cX12_future 292 = .ok (.iload 8, 2) := by decide +kernel
theorem dX12_future_294 : decode cX12_future 294 = .ok (.istore 6, 2) := by decide +kernel
theorem dX12_future_296 : decode cX12_future 296 = .ok (.iload 8, 2) := by decide +kernel
theorem dX12_future_298 : decode cX12_future 298 = .ok (.istore 7, 2) := by decide +kernel
theorem dX12_future_300 : decode cX12_future 300 = .ok (.iinc 10 1, 3) := by decide +kernel
theorem dX12_future_303 : decode cX12_future 303 = .ok (.goto (-109), 3) := by decide +kernel
theorem dX12_future_306 : decode cX12_future 306 = .ok (.iinc 9 1, 3) := by decide +kernel
theorem dX12_future_309 : decode cX12_future 309 = .ok (.goto (-139), 3) := by decide +kernel
theorem dX12_future_312 : decode cX12_future 312 = .ok (.iconst 0, 1) := by decide +kernel
theorem dX12_future_313 : decode cX12_future 313 = .ok (.istore 9, 2) := by decide +kernel
theorem dX12_future_315 : decode cX12_future 315 = .ok (.iload 9, 2) := by decide +kernel
theorem dX12_future_317 : decode cX12_future 317 = .ok (.sipush 2048, 3) := by decide +kernel
theorem dX12_future_320 : decode cX12_future 320 = .ok (.if_icmp .ge 23, 3) := by decide +kernel
theorem dX12_future_323 : decode cX12_future 323 = .ok (.aload_n 0, 1) := by decide +kernel
theorem dX12_future_324 : decode cX12_future 324 = .ok (.getfield 182, 3) := by decide +kernel
theorem dX12_future_327 : decode cX12_future 327 = .ok (.iload 9, 2) := by decide +kernel
theorem dX12_future_329 : decode cX12_future 329 = .ok (.aload_n 0, 1) := by decide +kernel
theorem dX12_future_330 : decode cX12_future 330 = .ok (.getfield 185, 3) := by decide +kernel
theorem dX12_future_333 : decode cX12_future 333 = .ok (.iload 9, 2) := by decide +kernel
theorem dX12_future_335 : decode cX12_future 335 = .ok (.baload, 1) := by decide +kernel
theorem dX12_future_336 : decode cX12_future 336 = .ok (.bastore, 1) := by decide +kernel
theorem dX12_future_337 : decode cX12_future 337 = .ok (.iinc 9 1, 3) := by decide +kernel
theorem dX12_future_340 : decode cX12_future 340 = .ok (.goto (-25), 3) := by decide +kernel
theorem dX12_future_343 : decode cX12_future 343 = .ok (.iinc 8 1, 3) := by decide +kernel
theorem dX12_future_346 : decode cX12_future 346 = .ok (.goto (-217), 3) := by decide +kernel
theorem dX12_future_349 : decode cX12_future 349 = .ok (.iconst 1, 1) := by decide +kernel
theorem dX12_future_350 : decode cX12_future 350 = .ok (.istore 8, 2) := by decide +kernel
theorem dX12_future_352 : decode cX12_future 352 = .ok (.iconst 0, 1) := by decide +kernel
theorem dX12_future_353 : decode cX12_future 353 = .ok (.istore 9, 2) := by decide +kernel
theorem dX12_future_355 : decode cX12_future 355 = .ok (.iload 9, 2) := by decide +kernel
theorem dX12_future_357 : decode cX12_future 357 = .ok (.sipush 2048, 3) := by decide +kernel
theorem dX12_future_360 : decode cX12_future 360 = .ok (.if_icmp .ge 34, 3) := by decide +kernel
theorem dX12_future_363 : decode cX12_future 363 = .ok (.aload_n 0, 1) := by decide +kernel
theorem dX12_future_364 : decode cX12_future 364 = .ok (.getfield 182, 3) := by decide +kernel
theorem dX12_future_367 : decode cX12_future 367 = .ok (.iload 9, 2) := by decide +kernel
theorem dX12_future_369 : decode cX12_future 369 = .ok (.baload, 1) := by decide +kernel
theorem dX12_future_370 : decode cX12_future 370 = .ok (.ifCond .eq 18, 3) := by decide +kernel
theorem dX12_future_373 : decode cX12_future 373 = .ok (.iload 9, 2) := by decide +kernel
theorem dX12_future_375 : decode cX12_future 375 = .ok (.bipush 64, 2) := by decide +kernel
theorem dX12_future_377 : decode cX12_future 377 = .ok (.irem, 1) := by decide +kernel
theorem dX12_future_378 : decode cX12_future 378 = .ok (.iload_n 1, 1) := by decide +kernel
theorem dX12_future_379 : decode cX12_future 379 = .ok (.ishr, 1) := by decide +kernel
theorem dX12_future_380 : decode cX12_future 380 = .ok (.iconst 1, 1) := by decide +kernel
theorem dX12_future_381 : decode cX12_future 381 = .ok (.iand, 1) := by decide +kernel
theorem dX12_future_382 : decode cX12_future 382 = .ok (.ifCond .ne 6, 3) := by decide +kernel
theorem dX12_future_385 : decode cX12_future 385 = .ok (.iconst 0, 1) := by decide +kernel
theorem dX12_future_386 : decode cX12_future 386 = .ok (.istore 8, 2) := by decide +kernel
theorem dX12_future_388 : decode cX12_future 388 = .ok (.iinc 9 1, 3) := by decide +kernel
theorem dX12_future_391 : decode cX12_future 391 = .ok (.goto (-36), 3) := by decide +kernel
theorem dX12_future_394 : decode cX12_future 394 = .ok (.iload 5, 2) := by decide +kernel
theorem dX12_future_396 : decode cX12_future 396 = .ok (.ifCond .ne 8, 3) := by decide +kernel
theorem dX12_future_399 : decode cX12_future 399 = .ok (.iload 6, 2) := by decide +kernel
theorem dX12_future_401 : decode cX12_future 401 = .ok (.goto 16, 3) := by decide +kernel
theorem dX12_future_404 : decode cX12_future 404 = .ok (.iload 5, 2) := by decide +kernel
theorem dX12_future_406 : decode cX12_future 406 = .ok (.iconst 1, 1) := by decide +kernel
theorem dX12_future_407 : decode cX12_future 407 = .ok (.if_icmp .ne 8, 3) := by decide +kernel
theorem dX12_future_410 : decode cX12_future 410 = .ok (.iload 7, 2) := by decide +kernel
theorem dX12_future_412 : decode cX12_future 412 = .ok (.goto 5, 3) := by decide +kernel
theorem dX12_future_415 : decode cX12_future 415 = .ok (.iload 8, 2) := by decide +kernel
theorem dX12_future_417 : decode cX12_future 417 = .ok (.ireturn, 1) := by decide +kernel
theorem dX12_lives_0 : decode cX12_lives 0 = .ok (.aload_n 0, 1) := by decide +kernel
theorem dX12_lives_1 : decode cX12_lives 1 = .ok (.iload_n 1, 1) := by decide +kernel
theorem dX12_lives_2 : decode cX12_lives 2 = .ok (.invokevirtual 409, 3) := by decide +kernel
theorem dX12_lives_5 : decode cX12_lives 5 = .ok (.ifCond .eq 28, 3) := by decide +kernel
theorem dX12_lives_8 : decode cX12_lives 8 = .ok (.iload_n 2, 1) := by decide +kernel
theorem dX12_lives_9 : decode cX12_lives 9 = .ok (.invokestatic 412, 3) := by decide +kernel
theorem dX12_lives_12 : decode cX12_lives 12 = .ok (.ifCond .eq 21, 3) := by decide +kernel
theorem dX12_lives_15 : decode cX12_lives 15 = .ok (.iload_n 3, 1) := by decide +kernel
theorem dX12_lives_16 : decode cX12_lives 16 = .ok (.iconst 0, 1) := by decide +kernel
theorem dX12_lives_17 : decode cX12_lives 17 = .ok (.bipush 8, 2) := by decide +kernel
theorem dX12_lives_19 : decode cX12_lives 19 = .ok (.invokestatic 383, 3) := by decide +kernel
theorem dX12_lives_22 : decode cX12_lives 22 = .ok (.ifCond .eq 11, 3) := by decide +kernel
theorem dX12_lives_25 : decode cX12_lives 25 = .ok (.iload_n 2, 1) := by decide +kernel
theorem dX12_lives_26 : decode cX12_lives 26 = .ok (.iload_n 3, 1) := by decide +kernel
theorem dX12_lives_27 : decode cX12_lives 27 = .ok (.iadd, 1) := by decide +kernel
theorem dX12_lives_28 : decode cX12_lives 28 = .ok (.bipush 60, 2) := by decide +kernel
theorem dX12_lives_30 : decode cX12_lives 30 = .ok (.if_icmp .le 7, 3) := by decide +kernel
theorem dX12_lives_33 : decode cX12_lives 33 = .ok (.ldc2_w 540, 3) := by decide +kernel
theorem dX12_lives_36 : decode cX12_lives 36 = .ok (.lreturn, 1) := by decide +kernel
theorem dX12_lives_37 : decode cX12_lives 37 = .ok (.lconst 1, 1) := by decide +kernel
theorem dX12_lives_38 : decode cX12_lives 38 = .ok (.lstore 4, 2) := by decide +kernel
theorem dX12_lives_40 : decode cX12_lives 40 = .ok (.iload_n 2, 1) := by decide +kernel
theorem dX12_lives_41 : decode cX12_lives 41 = .ok (.istore 6, 2) := by decide +kernel
theorem dX12_lives_43 : decode cX12_lives 43 = .ok (.iload 6, 2) := by decide +kernel
theorem dX12_lives_45 : decode cX12_lives 45 = .ok (.iload_n 2, 1) := by decide +kernel
theorem dX12_lives_46 : decode cX12_lives 46 = .ok (.iload_n 3, 1) := by decide +kernel
theorem dX12_lives_47 : decode cX12_lives 47 = .ok (.iadd, 1) := by decide +kernel
theorem dX12_lives_48 : decode cX12_lives 48 = .ok (.if_icmp .ge 25, 3) := by decide +kernel
theorem dX12_lives_51 : decode cX12_lives 51 = .ok (.lload 4, 2) := by decide +kernel
theorem dX12_lives_53 : decode cX12_lives 53 = .ok (.bipush 100, 2) := by decide +kernel
theorem dX12_lives_55 : decode cX12_lives 55 = .ok (.aload_n 0, 1) := by decide +kernel
theorem dX12_lives_56 : decode cX12_lives 56 = .ok (.iload_n 1, 1) := by decide +kernel
theorem dX12_lives_57 : decode cX12_lives 57 = .ok (.iload 6, 2) := by decide +kernel
theorem dX12_lives_59 : decode cX12_lives 59 = .ok (.invokevirtual 415, 3) := by decide +kernel
theorem dX12_lives_62 : decode cX12_lives 62 = .ok (.isub, 1) := by decide +kernel
theorem dX12_lives_63 : decode cX12_lives 63 = .ok (.i2l, 1) := by decide +kernel
theorem dX12_lives_64 : decode cX12_lives 64 = .ok (.lmul, 1) := by decide +kernel
theorem dX12_lives_65 : decode cX12_lives 65 = .ok (.lstore 4, 2) := by decide +kernel
theorem dX12_lives_67 : decode cX12_lives 67 = .ok (.iinc 6 1, 3) := by decide +kernel
theorem dX12_lives_70 : decode cX12_lives 70 = .ok (.goto (-27), 3) := by decide +kernel
theorem dX12_lives_73 : decode cX12_lives 73 = .ok (.lload 4, 2) := by decide +kernel
theorem dX12_lives_75 : decode cX12_lives 75 = .ok (.lreturn, 1) := by decide +kernel
theorem dX12_waysOf_0 : decode cX12_waysOf 0 = .ok (.lconst 1, 1) := by decide +kernel
theorem dX12_waysOf_1 : decode cX12_waysOf 1 = .ok (.lstore 4, 2) := by decide +kernel
theorem dX12_waysOf_3 : decode cX12_waysOf 3 = .ok (.iconst 0, 1) := by decide +kernel
theorem dX12_waysOf_4 : decode cX12_waysOf 4 = .ok (.istore 6, 2) := by decide +kernel
theorem dX12_waysOf_6 : decode cX12_waysOf 6 = .ok (.iload 6, 2) := by decide +kernel
theorem dX12_waysOf_8 : decode cX12_waysOf 8 = .ok (.aload_n 0, 1) := by decide +kernel
theorem dX12_waysOf_9 : decode cX12_waysOf 9 = .ok (.getfield 49, 3) := by decide +kernel
theorem dX12_waysOf_12 : decode cX12_waysOf 12 = .ok (.aload_n 0, 1) := by decide +kernel
theorem dX12_waysOf_13 : decode cX12_waysOf 13 = .ok (.getfield 284, 3) := by decide +kernel
theorem dX12_waysOf_16 : decode cX12_waysOf 16 = .ok (.iaload, 1) := by decide +kernel
theorem dX12_waysOf_17 : decode cX12_waysOf 17 = .ok (.if_icmp .ge 67, 3) := by decide +kernel
theorem dX12_waysOf_20 : decode cX12_waysOf 20 = .ok (.iload_n 1, 1) := by decide +kernel
theorem dX12_waysOf_21 : decode cX12_waysOf 21 = .ok (.iload 6, 2) := by decide +kernel
theorem dX12_waysOf_23 : decode cX12_waysOf 23 = .ok (.ishr, 1) := by decide +kernel
theorem dX12_waysOf_24 : decode cX12_waysOf 24 = .ok (.iconst 1, 1) := by decide +kernel
theorem dX12_waysOf_25 : decode cX12_waysOf 25 = .ok (.iand, 1) := by decide +kernel
theorem dX12_waysOf_26 : decode cX12_waysOf 26 = .ok (.iconst 1, 1) := by decide +kernel
theorem dX12_waysOf_27 : decode cX12_waysOf 27 = .ok (.if_icmp .ne 14, 3) := by decide +kernel
theorem dX12_waysOf_30 : decode cX12_waysOf 30 = .ok (.lload 4, 2) := by decide +kernel
theorem dX12_waysOf_32 : decode cX12_waysOf 32 = .ok (.ldc2_w 542, 3) := by decide +kernel
theorem dX12_waysOf_35 : decode cX12_waysOf 35 = .ok (.lmul, 1) := by decide +kernel
theorem dX12_waysOf_36 : decode cX12_waysOf 36 = .ok (.lstore 4, 2) := by decide +kernel
theorem dX12_waysOf_38 : decode cX12_waysOf 38 = .ok (.goto 40, 3) := by decide +kernel
theorem dX12_waysOf_41 : decode cX12_waysOf 41 = .ok (.lload 4, 2) := by decide +kernel
theorem dX12_waysOf_43 : decode cX12_waysOf 43 = .ok (.iload_n 2, 1) := by decide +kernel
theorem dX12_waysOf_44 : decode cX12_waysOf 44 = .ok (.iload 6, 2) := by decide +kernel
theorem dX12_waysOf_46 : decode cX12_waysOf 46 = .ok (.ishr, 1) := by decide +kernel
theorem dX12_waysOf_47 : decode cX12_waysOf 47 = .ok (.iconst 1, 1) := by decide +kernel
theorem dX12_waysOf_48 : decode cX12_waysOf 48 = .ok (.iand, 1) := by decide +kernel
theorem dX12_waysOf_49 : decode cX12_waysOf 49 = .ok (.iconst 1, 1) := by decide +kernel
theorem dX12_waysOf_50 : decode cX12_waysOf 50 = .ok (.if_icmp .ne 14, 3) := by decide +kernel
theorem dX12_waysOf_53 : decode cX12_waysOf 53 = .ok (.aload_n 0, 1) := by decide +kernel
theorem dX12_waysOf_54 : decode cX12_waysOf 54 = .ok (.iload 6, 2) := by decide +kernel
theorem dX12_waysOf_56 : decode cX12_waysOf 56 = .ok (.iload_n 3, 1) := by decide +kernel
theorem dX12_waysOf_57 : decode cX12_waysOf 57 = .ok (.invokevirtual 415, 3) := by decide +kernel
theorem dX12_waysOf_60 : decode cX12_waysOf 60 = .ok (.i2l, 1) := by decide +kernel
theorem dX12_waysOf_61 : decode cX12_waysOf 61 = .ok (.goto 14, 3) := by decide +kernel
theorem dX12_waysOf_64 : decode cX12_waysOf 64 = .ok (.bipush 100, 2) := by decide +kernel
theorem dX12_waysOf_66 : decode cX12_waysOf 66 = .ok (.aload_n 0, 1) := by decide +kernel
theorem dX12_waysOf_67 : decode cX12_waysOf 67 = .ok (.iload 6, 2) := by decide +kernel
theorem dX12_waysOf_69 : decode cX12_waysOf 69 = .ok (.iload_n 3, 1) := by decide +kernel
theorem dX12_waysOf_70 : decode cX12_waysOf 70 = .ok (.invokevirtual 415, 3) := by decide +kernel
theorem dX12_waysOf_73 : decode cX12_waysOf 73 = .ok (.isub, 1) := by decide +kernel
theorem dX12_waysOf_74 : decode cX12_waysOf 74 = .ok (.i2l, 1) := by decide +kernel
theorem dX12_waysOf_75 : decode cX12_waysOf 75 = .ok (.lmul, 1) := by decide +kernel
theorem dX12_waysOf_76 : decode cX12_waysOf 76 = .ok (.lstore 4, 2) := by decide +kernel
theorem dX12_waysOf_78 : decode cX12_waysOf 78 = .ok (.iinc 6 1, 3) := by decide +kernel
theorem dX12_waysOf_81 : decode cX12_waysOf 81 = .ok (.goto (-75), 3) := by decide +kernel
theorem dX12_waysOf_84 : decode cX12_waysOf 84 = .ok (.lload 4, 2) := by decide +kernel
theorem dX12_waysOf_86 : decode cX12_waysOf 86 = .ok (.lreturn, 1) := by decide +kernel
theorem dX12_lookFrom_0 : decode cX12_lookFrom 0 = .ok (.iload_n 3, 1) := by decide +kernel
theorem dX12_lookFrom_1 : decode cX12_lookFrom 1 = .ok (.istore 4, 2) := by decide +kernel
theorem dX12_lookFrom_3 : decode cX12_lookFrom 3 = .ok (.iconst 1, 1) := by decide +kernel
theorem dX12_lookFrom_4 : decode cX12_lookFrom 4 = .ok (.istore 5, 2) := by decide +kernel
theorem dX12_lookFrom_6 : decode cX12_lookFrom 6 = .ok (.iload 5, 2) := by decide +kernel
theorem dX12_lookFrom_8 : decode cX12_lookFrom 8 = .ok (.ifCond .eq 76, 3) := by decide +kernel
theorem dX12_lookFrom_11 : decode cX12_lookFrom 11 = .ok (.iconst 0, 1) := by decide +kernel
theorem dX12_lookFrom_12 : decode cX12_lookFrom 12 = .ok (.istore 5, 2) := by decide +kernel
theorem dX12_lookFrom_14 : decode cX12_lookFrom 14 = .ok (.iconst 0, 1) := by decide +kernel
theorem dX12_lookFrom_15 : decode cX12_lookFrom 15 = .ok (.istore 6, 2) := by decide +kernel
theorem dX12_lookFrom_17 : decode cX12_lookFrom 17 = .ok (.iload 6, 2) := by decide +kernel
theorem dX12_lookFrom_19 : decode cX12_lookFrom 19 = .ok (.aload_n 0, 1) := by decide +kernel
theorem dX12_lookFrom_20 : decode cX12_lookFrom 20 = .ok (.getfield 67, 3) := by decide +kernel
theorem dX12_lookFrom_23 : decode cX12_lookFrom 23 = .ok (.aload_n 0, 1) := by decide +kernel
theorem dX12_lookFrom_24 : decode cX12_lookFrom 24 = .ok (.getfield 284, 3) := by decide +kernel
theorem dX12_lookFrom_27 : decode cX12_lookFrom 27 = .ok (.iaload, 1) := by decide +kernel
theorem dX12_lookFrom_28 : decode cX12_lookFrom 28 = .ok (.if_icmp .ge 53, 3) := by decide +kernel
theorem dX12_lookFrom_31 : decode cX12_lookFrom 31 = .ok (.iload 5, 2) := by decide +kernel
theorem dX12_lookFrom_33 : decode cX12_lookFrom 33 = .ok (.ifCond .ne 48, 3) := by decide +kernel
theorem dX12_lookFrom_36 : decode cX12_lookFrom 36 = .ok (.iload 4, 2) := by decide +kernel
theorem dX12_lookFrom_38 : decode cX12_lookFrom 38 = .ok (.iload 6, 2) := by decide +kernel
theorem dX12_lookFrom_40 : decode cX12_lookFrom 40 = .ok (.ishr, 1) := by decide +kernel
theorem dX12_lookFrom_41 : decode cX12_lookFrom 41 = .ok (.iconst 1, 1) := by decide +kernel
theorem dX12_lookFrom_42 : decode cX12_lookFrom 42 = .ok (.iand, 1) := by decide +kernel
theorem dX12_lookFrom_43 : decode cX12_lookFrom 43 = .ok (.iconst 1, 1) := by decide +kernel
theorem dX12_lookFrom_44 : decode cX12_lookFrom 44 = .ok (.if_icmp .eq 31, 3) := by decide +kernel
theorem dX12_lookFrom_47 : decode cX12_lookFrom 47 = .ok (.aload_n 0, 1) := by decide +kernel
theorem dX12_lookFrom_48 : decode cX12_lookFrom 48 = .ok (.iload 6, 2) := by decide +kernel
theorem dX12_lookFrom_50 : decode cX12_lookFrom 50 = .ok (.iload_n 1, 1) := by decide +kernel
theorem dX12_lookFrom_51 : decode cX12_lookFrom 51 = .ok (.iload_n 2, 1) := by decide +kernel
theorem dX12_lookFrom_52 : decode cX12_lookFrom 52 = .ok (.iload 4, 2) := by decide +kernel
theorem dX12_lookFrom_54 : decode cX12_lookFrom 54 = .ok (.invokevirtual 534, 3) := by decide +kernel
theorem dX12_lookFrom_57 : decode cX12_lookFrom 57 = .ok (.ifCond .ne 6, 3) := by decide +kernel
theorem dX12_lookFrom_60 : decode cX12_lookFrom 60 = .ok (.goto 15, 3) := by decide +kernel
theorem dX12_lookFrom_63 : decode cX12_lookFrom 63 = .ok (.iload 4, 2) := by decide +kernel
theorem dX12_lookFrom_65 : decode cX12_lookFrom 65 = .ok (.iconst 1, 1) := by decide +kernel
theorem dX12_lookFrom_66 : decode cX12_lookFrom 66 = .ok (.iload 6, 2) := by decide +kernel
theorem dX12_lookFrom_68 : decode cX12_lookFrom 68 = .ok (.ishl, 1) := by decide +kernel
theorem dX12_lookFrom_69 : decode cX12_lookFrom 69 = .ok (.ior, 1) := by decide +kernel
theorem dX12_lookFrom_70 : decode cX12_lookFrom 70 = .ok (.istore 4, 2) := by decide +kernel
theorem dX12_lookFrom_72 : decode cX12_lookFrom 72 = .ok (.iconst 1, 1) := by decide +kernel
theorem dX12_lookFrom_73 : decode cX12_lookFrom 73 = .ok (.istore 5, 2) := by decide +kernel
theorem dX12_lookFrom_75 : decode cX12_lookFrom 75 = .ok (.iinc 6 1, 3) := by decide +kernel
theorem dX12_lookFrom_78 : decode cX12_lookFrom 78 = .ok (.goto (-61), 3) := by decide +kernel
theorem dX12_lookFrom_81 : decode cX12_lookFrom 81 = .ok (.goto (-75), 3) := by decide +kernel
theorem dX12_lookFrom_84 : decode cX12_lookFrom 84 = .ok (.iload 4, 2) := by decide +kernel
theorem dX12_lookFrom_86 : decode cX12_lookFrom 86 = .ok (.ireturn, 1) := by decide +kernel
theorem dX12_odds_0 : decode cX12_odds 0 = .ok (.aload_n 0, 1) := by decide +kernel
theorem dX12_odds_1 : decode cX12_odds 1 = .ok (.iload_n 1, 1) := by decide +kernel
theorem dX12_odds_2 : decode cX12_odds 2 = .ok (.invokevirtual 400, 3) := by decide +kernel
theorem dX12_odds_5 : decode cX12_odds 5 = .ok (.ifCond .eq 27, 3) := by decide +kernel
theorem dX12_odds_8 : decode cX12_odds 8 = .ok (.iload_n 2, 1) := by decide +kernel
theorem dX12_odds_9 : decode cX12_odds 9 = .ok (.invokestatic 412, 3) := by decide +kernel
theorem dX12_odds_12 : decode cX12_odds 12 = .ok (.ifCond .eq 20, 3) := by decide +kernel
theorem dX12_odds_15 : decode cX12_odds 15 = .ok (.iload_n 3, 1) := by decide +kernel
theorem dX12_odds_16 : decode cX12_odds 16 = .ok (.iconst 1, 1) := by decide +kernel
theorem dX12_odds_17 : decode cX12_odds 17 = .ok (.iconst 2, 1) := by decide +kernel
theorem dX12_odds_18 : decode cX12_odds 18 = .ok (.invokestatic 383, 3) := by decide +kernel
theorem dX12_odds_21 : decode cX12_odds 21 = .ok (.ifCond .eq 11, 3) := by decide +kernel
theorem dX12_odds_24 : decode cX12_odds 24 = .ok (.iload_n 2, 1) := by decide +kernel
theorem dX12_odds_25 : decode cX12_odds 25 = .ok (.iload_n 3, 1) := by decide +kernel
theorem dX12_odds_26 : decode cX12_odds 26 = .ok (.iadd, 1) := by decide +kernel
theorem dX12_odds_27 : decode cX12_odds 27 = .ok (.bipush 60, 2) := by decide +kernel
theorem dX12_odds_29 : decode cX12_odds 29 = .ok (.if_icmp .le 7, 3) := by decide +kernel
theorem dX12_odds_32 : decode cX12_odds 32 = .ok (.ldc2_w 540, 3) := by decide +kernel
theorem dX12_odds_35 : decode cX12_odds 35 = .ok (.lreturn, 1) := by decide +kernel
theorem dX12_odds_36 : decode cX12_odds 36 = .ok (.aload_n 0, 1) := by decide +kernel
theorem dX12_odds_37 : decode cX12_odds 37 = .ok (.getfield 49, 3) := by decide +kernel
theorem dX12_odds_40 : decode cX12_odds 40 = .ok (.aload_n 0, 1) := by decide +kernel
theorem dX12_odds_41 : decode cX12_odds 41 = .ok (.getfield 284, 3) := by decide +kernel
theorem dX12_odds_44 : decode cX12_odds 44 = .ok (.iaload, 1) := by decide +kernel
theorem dX12_odds_45 : decode cX12_odds 45 = .ok (.iconst 4, 1) := by decide +kernel
theorem dX12_odds_46 : decode cX12_odds 46 = .ok (.if_icmp .le 7, 3) := by decide +kernel
theorem dX12_odds_49 : decode cX12_odds 49 = .ok (.ldc2_w 544, 3) := by decide +kernel
theorem dX12_odds_52 : decode cX12_odds 52 = .ok (.lreturn, 1) := by decide +kernel
theorem dX12_odds_53 : decode cX12_odds 53 = .ok (.iconst 0, 1) := by decide +kernel
theorem dX12_odds_54 : decode cX12_odds 54 = .ok (.istore 4, 2) := by decide +kernel
theorem dX12_odds_56 : decode cX12_odds 56 = .ok (.iload 4, 2) := by decide +kernel
theorem dX12_odds_58 : decode cX12_odds 58 = .ok (.sipush 16384, 3) := by decide +kernel
theorem dX12_odds_61 : decode cX12_odds 61 = .ok (.if_icmp .ge 26, 3) := by decide +kernel
theorem dX12_odds_64 : decode cX12_odds 64 = .ok (.aload_n 0, 1) := by decide +kernel
theorem dX12_odds_65 : decode cX12_odds 65 = .ok (.getfield 191, 3) := by decide +kernel
theorem dX12_odds_68 : decode cX12_odds 68 = .ok (.iload 4, 2) := by decide +kernel
theorem dX12_odds_70 : decode cX12_odds 70 = .ok (.iload 4, 2) := by decide +kernel
theorem dX12_odds_72 : decode cX12_odds 72 = .ok (.ifCond .ne 7, 3) := by decide +kernel
theorem dX12_odds_75 : decode cX12_odds 75 = .ok (.lconst 1, 1) := by decide +kernel
theorem dX12_odds_76 : decode cX12_odds 76 = .ok (.goto 4, 3) := by decide +kernel
theorem dX12_odds_79 : decode cX12_odds 79 = .ok (.lconst 0, 1) := by decide +kernel
theorem dX12_odds_80 : decode cX12_odds 80 = .ok (.lastore, 1) := by decide +kernel
theorem dX12_odds_81 : decode cX12_odds 81 = .ok (.iinc 4 1, 3) := by decide +kernel
theorem dX12_odds_84 : decode cX12_odds 84 = .ok (.goto (-28), 3) := by decide +kernel
theorem dX12_odds_87 : decode cX12_odds 87 = .ok (.iload_n 2, 1) := by decide +kernel
theorem dX12_odds_88 : decode cX12_odds 88 = .ok (.istore 4, 2) := by decide +kernel
theorem dX12_odds_90 : decode cX12_odds 90 = .ok (.iload 4, 2) := by decide +kernel
theorem dX12_odds_92 : decode cX12_odds 92 = .ok (.iload_n 2, 1) := by decide +kernel
theorem dX12_odds_93 : decode cX12_odds 93 = .ok (.iload_n 3, 1) := by decide +kernel
theorem dX12_odds_94 : decode cX12_odds 94 = .ok (.iadd, 1) := by decide +kernel
theorem dX12_odds_95 : decode cX12_odds 95 = .ok (.if_icmp .ge 205, 3) := by decide +kernel
theorem dX12_odds_98 : decode cX12_odds 98 = .ok (.iconst 0, 1) := by decide +kernel
theorem dX12_odds_99 : decode cX12_odds 99 = .ok (.istore 5, 2) := by decide +kernel
theorem dX12_odds_101 : decode cX12_odds 101 = .ok (.iload 5, 2) := by decide +kernel
theorem dX12_odds_103 : decode cX12_odds 103 = .ok (.sipush 16384, 3) := by decide +kernel
theorem dX12_odds_106 : decode cX12_odds 106 = .ok (.if_icmp .ge 17, 3) := by decide +kernel
theorem dX12_odds_109 : decode cX12_odds 109 = .ok (.aload_n 0, 1) := by decide +kernel
theorem dX12_odds_110 : decode cX12_odds 110 = .ok (.getfield 194, 3) := by decide +kernel
theorem dX12_odds_113 : decode cX12_odds 113 = .ok (.iload 5, 2) := by decide +kernel
theorem dX12_odds_115 : decode cX12_odds 115 = .ok (.lconst 0, 1) := by decide +kernel
theorem dX12_odds_116 : decode cX12_odds 116 = .ok (.lastore, 1) := by decide +kernel
theorem dX12_odds_117 : decode cX12_odds 117 = .ok (.iinc 5 1, 3) := by decide +kernel
theorem dX12_odds_120 : decode cX12_odds 120 = .ok (.goto (-19), 3) := by decide +kernel
theorem dX12_odds_123 : decode cX12_odds 123 = .ok (.iconst 0, 1) := by decide +kernel
theorem dX12_odds_124 : decode cX12_odds 124 = .ok (.istore 5, 2) := by decide +kernel
theorem dX12_odds_126 : decode cX12_odds 126 = .ok (.iload 5, 2) := by decide +kernel
theorem dX12_odds_128 : decode cX12_odds 128 = .ok (.sipush 16384, 3) := by decide +kernel
theorem dX12_odds_131 : decode cX12_odds 131 = .ok (.if_icmp .ge 132, 3) := by decide +kernel
theorem dX12_odds_134 : decode cX12_odds 134 = .ok (.aload_n 0, 1) := by decide +kernel
theorem dX12_odds_135 : decode cX12_odds 135 = .ok (.getfield 191, 3) := by decide +kernel
theorem dX12_odds_138 : decode cX12_odds 138 = .ok (.iload 5, 2) := by decide +kernel
theorem dX12_odds_140 : decode cX12_odds 140 = .ok (.laload, 1) := by decide +kernel
theorem dX12_odds_141 : decode cX12_odds 141 = .ok (.lconst 0, 1) := by decide +kernel
theorem dX12_odds_142 : decode cX12_odds 142 = .ok (.lcmp, 1) := by decide +kernel
theorem dX12_odds_143 : decode cX12_odds 143 = .ok (.ifCond .ne 6, 3) := by decide +kernel
theorem dX12_odds_146 : decode cX12_odds 146 = .ok (.goto 111, 3) := by decide +kernel
theorem dX12_odds_149 : decode cX12_odds 149 = .ok (.iload 5, 2) := by decide +kernel
theorem dX12_odds_151 : decode cX12_odds 151 = .ok (.sipush 1024, 3) := by decide +kernel
theorem dX12_odds_154 : decode cX12_odds 154 = .ok (.idiv, 1) := by decide +kernel
theorem dX12_odds_155 : decode cX12_odds 155 = .ok (.istore 6, 2) := by decide +kernel
theorem dX12_odds_157 : decode cX12_odds 157 = .ok (.iconst 0, 1) := by decide +kernel
theorem dX12_odds_158 : decode cX12_odds 158 = .ok (.istore 7, 2) := by decide +kernel
theorem dX12_odds_160 : decode cX12_odds 160 = .ok (.iload 7, 2) := by decide +kernel
theorem dX12_odds_162 : decode cX12_odds 162 = .ok (.iconst 1, 1) := by decide +kernel
theorem dX12_odds_163 : decode cX12_odds 163 = .ok (.aload_n 0, 1) := by decide +kernel
theorem dX12_odds_164 : decode cX12_odds 164 = .ok (.getfield 49, 3) := by decide +kernel
theorem dX12_odds_167 : decode cX12_odds 167 = .ok (.aload_n 0, 1) := by decide +kernel
theorem dX12_odds_168 : decode cX12_odds 168 = .ok (.getfield 284, 3) := by decide +kernel
theorem dX12_odds_171 : decode cX12_odds 171 = .ok (.iaload, 1) := by decide +kernel
theorem dX12_odds_172 : decode cX12_odds 172 = .ok (.ishl, 1) := by decide +kernel
theorem dX12_odds_173 : decode cX12_odds 173 = .ok (.if_icmp .ge 84, 3) := by decide +kernel
theorem dX12_odds_176 : decode cX12_odds 176 = .ok (.iload 7, 2) := by decide +kernel
theorem dX12_odds_178 : decode cX12_odds 178 = .ok (.iload 6, 2) := by decide +kernel
theorem dX12_odds_180 : decode cX12_odds 180 = .ok (.iand, 1) := by decide +kernel
theorem dX12_odds_181 : decode cX12_odds 181 = .ok (.ifCond .eq 6, 3) := by decide +kernel
theorem dX12_odds_184 : decode cX12_odds 184 = .ok (.goto 67, 3) := by decide +kernel
theorem dX12_odds_187 : decode cX12_odds 187 = .ok (.aload_n 0, 1) := by decide +kernel
theorem dX12_odds_188 : decode cX12_odds 188 = .ok (.iload 6, 2) := by decide +kernel
theorem dX12_odds_190 : decode cX12_odds 190 = .ok (.iload 7, 2) := by decide +kernel
theorem dX12_odds_192 : decode cX12_odds 192 = .ok (.iload 4, 2) := by decide +kernel
theorem dX12_odds_194 : decode cX12_odds 194 = .ok (.invokevirtual 546, 3) := by decide +kernel
theorem dX12_odds_197 : decode cX12_odds 197 = .ok (.lstore 8, 2) := by decide +kernel
theorem dX12_odds_199 : decode cX12_odds 199 = .ok (.lload 8, 2) := by decide +kernel
theorem dX12_odds_201 : decode cX12_odds 201 = .ok (.lconst 0, 1) := by decide +kernel
theorem dX12_odds_202 : decode cX12_odds 202 = .ok (.lcmp, 1) := by decide +kernel
theorem dX12_odds_203 : decode cX12_odds 203 = .ok (.ifCond .le 48, 3) := by decide +kernel
theorem dX12_odds_206 : decode cX12_odds 206 = .ok (.aload_n 0, 1) := by decide +kernel
theorem dX12_odds_207 : decode cX12_odds 207 = .ok (.getfield 194, 3) := by decide +kernel
theorem dX12_odds_210 : decode cX12_odds 210 = .ok (.sipush 1024, 3) := by decide +kernel
theorem dX12_odds_213 : decode cX12_odds 213 = .ok (.iload 6, 2) := by decide +kernel
theorem dX12_odds_215 : decode cX12_odds 215 = .ok (.iload 7, 2) := by decide +kernel
theorem dX12_odds_217 : decode cX12_odds 217 = .ok (.ior, 1) := by decide +kernel
theorem dX12_odds_218 : decode cX12_odds 218 = .ok (.imul, 1) := by decide +kernel
theorem dX12_odds_219 : decode cX12_odds 219 = .ok (.aload_n 0, 1) := by decide +kernel
theorem dX12_odds_220 : decode cX12_odds 220 = .ok (.iload 4, 2) := by decide +kernel
theorem dX12_odds_222 : decode cX12_odds 222 = .ok (.iload 6, 2) := by decide +kernel
theorem dX12_odds_224 : decode cX12_odds 224 = .ok (.iload 7, 2) := by decide +kernel
theorem dX12_odds_226 : decode cX12_odds 226 = .ok (.ior, 1) := by decide +kernel
theorem dX12_odds_227 : decode cX12_odds 227 = .ok (.iload 5, 2) := by decide +kernel
theorem dX12_odds_229 : decode cX12_odds 229 = .ok (.sipush 1024, 3) := by decide +kernel
theorem dX12_odds_232 : decode cX12_odds 232 = .ok (.irem, 1) := by decide +kernel
theorem dX12_odds_233 : decode cX12_odds 233 = .ok (.invokevirtual 550, 3) := by decide +kernel
theorem dX12_odds_236 : decode cX12_odds 236 = .ok (.iadd, 1) := by decide +kernel
theorem dX12_odds_237 : decode cX12_odds 237 = .ok (.dup2, 1) := by decide +kernel
theorem dX12_odds_238 : decode cX12_odds 238 = .ok (.laload, 1) := by decide +kernel
theorem dX12_odds_239 : decode cX12_odds 239 = .ok (.aload_n 0, 1) := by decide +kernel
theorem dX12_odds_240 : decode cX12_odds 240 = .ok (.getfield 191, 3) := by decide +kernel
theorem dX12_odds_243 : decode cX12_odds 243 = .ok (.iload 5, 2) := by decide +kernel
theorem dX12_odds_245 : decode cX12_odds 245 = .ok (.laload, 1) := by decide +kernel
theorem dX12_odds_246 : decode cX12_odds 246 = .ok (.lload 8, 2) := by decide +kernel
theorem dX12_odds_248 : decode cX12_odds 248 = .ok (.lmul, 1) := by decide +kernel
theorem dX12_odds_249 : decode cX12_odds 249 = .ok (.ladd, 1) := by decide +kernel
theorem dX12_odds_250 : decode cX12_odds 250 = .ok (.lastore, 1) := by decide +kernel
theorem dX12_odds_251 : decode cX12_odds 251 = .ok (.iinc 7 1, 3) := by decide +kernel
theorem dX12_odds_254 : decode cX12_odds 254 = .ok (.goto (-94), 3) := by decide +kernel
theorem dX12_odds_257 : decode cX12_odds 257 = .ok (.iinc 5 1, 3) := by decide +kernel
theorem dX12_odds_260 : decode cX12_odds 260 = .ok (.goto (-134), 3) := by decide +kernel
theorem dX12_odds_263 : decode cX12_odds 263 = .ok (.iconst 0, 1) := by decide +kernel
theorem dX12_odds_264 : decode cX12_odds 264 = .ok (.istore 5, 2) := by decide +kernel
theorem dX12_odds_266 : decode cX12_odds 266 = .ok (.iload 5, 2) := by decide +kernel
theorem dX12_odds_268 : decode cX12_odds 268 = .ok (.sipush 16384, 3) := by decide +kernel
theorem dX12_odds_271 : decode cX12_odds 271 = .ok (.if_icmp .ge 23, 3) := by decide +kernel
theorem dX12_odds_274 : decode cX12_odds 274 = .ok (.aload_n 0, 1) := by decide +kernel
theorem dX12_odds_275 : decode cX12_odds 275 = .ok (.getfield 191, 3) := by decide +kernel
theorem dX12_odds_278 : decode cX12_odds 278 = .ok (.iload 5, 2) := by decide +kernel
theorem dX12_odds_280 : decode cX12_odds 280 = .ok (.aload_n 0, 1) := by decide +kernel
theorem dX12_odds_281 : decode cX12_odds 281 = .ok (.getfield 194, 3) := by decide +kernel
theorem dX12_odds_284 : decode cX12_odds 284 = .ok (.iload 5, 2) := by decide +kernel
theorem dX12_odds_286 : decode cX12_odds 286 = .ok (.laload, 1) := by decide +kernel
theorem dX12_odds_287 : decode cX12_odds 287 = .ok (.lastore, 1) := by decide +kernel
theorem dX12_odds_288 : decode cX12_odds 288 = .ok (.iinc 5 1, 3) := by decide +kernel
theorem dX12_odds_291 : decode cX12_odds 291 = .ok (.goto (-25), 3) := by decide +kernel
theorem dX12_odds_294 : decode cX12_odds 294 = .ok (.iinc 4 1, 3) := by decide +kernel
theorem dX12_odds_297 : decode cX12_odds 297 = .ok (.goto (-207), 3) := by decide +kernel
theorem dX12_odds_300 : decode cX12_odds 300 = .ok (.lconst 0, 1) := by decide +kernel
theorem dX12_odds_301 : decode cX12_odds 301 = .ok (.lstore 4, 2) := by decide +kernel
theorem dX12_odds_303 : decode cX12_odds 303 = .ok (.iconst 0, 1) := by decide +kernel
theorem dX12_odds_304 : decode cX12_odds 304 = .ok (.istore 6, 2) := by decide +kernel
theorem dX12_odds_306 : decode cX12_odds 306 = .ok (.iload 6, 2) := by decide +kernel
theorem dX12_odds_308 : decode cX12_odds 308 = .ok (.sipush 16384, 3) := by decide +kernel
theorem dX12_odds_311 : decode cX12_odds 311 = .ok (.if_icmp .ge 35, 3) := by decide +kernel
theorem dX12_odds_314 : decode cX12_odds 314 = .ok (.iload 6, 2) := by decide +kernel
theorem dX12_odds_316 : decode cX12_odds 316 = .ok (.sipush 1024, 3) := by decide +kernel
theorem dX12_odds_319 : decode cX12_odds 319 = .ok (.irem, 1) := by decide +kernel
theorem dX12_odds_320 : decode cX12_odds 320 = .ok (.iload_n 1, 1) := by decide +kernel
theorem dX12_odds_321 : decode cX12_odds 321 = .ok (.ishr, 1) := by decide +kernel
theorem dX12_odds_322 : decode cX12_odds 322 = .ok (.iconst 1, 1) := by decide +kernel
theorem dX12_odds_323 : decode cX12_odds 323 = .ok (.iand, 1) := by decide +kernel
theorem dX12_odds_324 : decode cX12_odds 324 = .ok (.iconst 1, 1) := by decide +kernel
theorem dX12_odds_325 : decode cX12_odds 325 = .ok (.if_icmp .ne 15, 3) := by decide +kernel
theorem dX12_odds_328 : decode cX12_odds 328 = .ok (.lload 4, 2) := by decide +kernel
theorem dX12_odds_330 : decode cX12_odds 330 = .ok (.aload_n 0, 1) := by decide +kernel
theorem dX12_odds_331 : decode cX12_odds 331 = .ok (.getfield 191, 3) := by decide +kernel
theorem dX12_odds_334 : decode cX12_odds 334 = .ok (.iload 6, 2) := by decide +kernel
theorem dX12_odds_336 : decode cX12_odds 336 = .ok (.laload, 1) := by decide +kernel
theorem dX12_odds_337 : decode cX12_odds 337 = .ok (.ladd, 1) := by decide +kernel
theorem dX12_odds_338 : decode cX12_odds 338 = .ok (.lstore 4, 2) := by decide +kernel
theorem dX12_odds_340 : decode cX12_odds 340 = .ok (.iinc 6 1, 3) := by decide +kernel
theorem dX12_odds_343 : decode cX12_odds 343 = .ok (.goto (-37), 3) := by decide +kernel
theorem dX12_odds_346 : decode cX12_odds 346 = .ok (.lload 4, 2) := by decide +kernel
theorem dX12_odds_348 : decode cX12_odds 348 = .ok (.lreturn, 1) := by decide +kernel
theorem dX12_mixed_0 : decode cX12_mixed 0 = .ok (.iload_n 0, 1) := by decide +kernel
theorem dX12_mixed_1 : decode cX12_mixed 1 = .ok (.iload_n 1, 1) := by decide +kernel
theorem dX12_mixed_2 : decode cX12_mixed 2 = .ok (.ixor, 1) := by decide +kernel
theorem dX12_mixed_3 : decode cX12_mixed 3 = .ok (.ldc_w 553, 3) := by decide +kernel
theorem dX12_mixed_6 : decode cX12_mixed 6 = .ok (.imul, 1) := by decide +kernel
theorem dX12_mixed_7 : decode cX12_mixed 7 = .ok (.sipush 12345, 3) := by decide +kernel
theorem dX12_mixed_10 : decode cX12_mixed 10 = .ok (.iadd, 1) := by decide +kernel
theorem dX12_mixed_11 : decode cX12_mixed 11 = .ok (.istore_n 2, 1) := by decide +kernel
theorem dX12_mixed_12 : decode cX12_mixed 12 = .ok (.iload_n 2, 1) := by decide +kernel
theorem dX12_mixed_13 : decode cX12_mixed 13 = .ok (.iload_n 2, 1) := by decide +kernel
theorem dX12_mixed_14 : decode cX12_mixed 14 = .ok (.bipush 15, 2) := by decide +kernel
theorem dX12_mixed_16 : decode cX12_mixed 16 = .ok (.iushr, 1) := by decide +kernel
theorem dX12_mixed_17 : decode cX12_mixed 17 = .ok (.ixor, 1) := by decide +kernel
theorem dX12_mixed_18 : decode cX12_mixed 18 = .ok (.ireturn, 1) := by decide +kernel
theorem dX12_lot_0 : decode cX12_lot 0 = .ok (.iload_n 0, 1) := by decide +kernel
theorem dX12_lot_1 : decode cX12_lot 1 = .ok (.bipush 18, 2) := by decide +kernel
theorem dX12_lot_3 : decode cX12_lot 3 = .ok (.invokestatic 554, 3) := by decide +kernel
theorem dX12_lot_6 : decode cX12_lot 6 = .ok (.iload_n 1, 1) := by decide +kernel
theorem dX12_lot_7 : decode cX12_lot 7 = .ok (.invokestatic 554, 3) := by decide +kernel
theorem dX12_lot_10 : decode cX12_lot 10 = .ok (.iconst 1, 1) := by decide +kernel
theorem dX12_lot_11 : decode cX12_lot 11 = .ok (.iushr, 1) := by decide +kernel
theorem dX12_lot_12 : decode cX12_lot 12 = .ok (.iload_n 2, 1) := by decide +kernel
theorem dX12_lot_13 : decode cX12_lot 13 = .ok (.irem, 1) := by decide +kernel
theorem dX12_lot_14 : decode cX12_lot 14 = .ok (.ireturn, 1) := by decide +kernel
theorem dX12_livesBy_0 : decode cX12_livesBy 0 = .ok (.aload_n 0, 1) := by decide +kernel
theorem dX12_livesBy_1 : decode cX12_livesBy 1 = .ok (.invokevirtual 469, 3) := by decide +kernel
theorem dX12_livesBy_4 : decode cX12_livesBy 4 = .ok (.iconst 0, 1) := by decide +kernel
theorem dX12_livesBy_5 : decode cX12_livesBy 5 = .ok (.istore_n 3, 1) := by decide +kernel
theorem dX12_livesBy_6 : decode cX12_livesBy 6 = .ok (.iload_n 3, 1) := by decide +kernel
theorem dX12_livesBy_7 : decode cX12_livesBy 7 = .ok (.bipush 60, 2) := by decide +kernel
theorem dX12_livesBy_9 : decode cX12_livesBy 9 = .ok (.if_icmp .ge 132, 3) := by decide +kernel
theorem dX12_livesBy_12 : decode cX12_livesBy 12 = .ok (.iconst 0, 1) := by decide +kernel
theorem dX12_livesBy_13 : decode cX12_livesBy 13 = .ok (.istore 4, 2) := by decide +kernel
theorem dX12_livesBy_15 : decode cX12_livesBy 15 = .ok (.iload 4, 2) := by decide +kernel
theorem dX12_livesBy_17 : decode cX12_livesBy 17 = .ok (.aload_n 0, 1) := by decide +kernel
theorem dX12_livesBy_18 : decode cX12_livesBy 18 = .ok (.getfield 49, 3) := by decide +kernel
theorem dX12_livesBy_21 : decode cX12_livesBy 21 = .ok (.aload_n 0, 1) := by decide +kernel
theorem dX12_livesBy_22 : decode cX12_livesBy 22 = .ok (.getfield 284, 3) := by decide +kernel
theorem dX12_livesBy_25 : decode cX12_livesBy 25 = .ok (.iaload, 1) := by decide +kernel
theorem dX12_livesBy_26 : decode cX12_livesBy 26 = .ok (.if_icmp .ge 57, 3) := by decide +kernel
theorem dX12_livesBy_29 : decode cX12_livesBy 29 = .ok (.aload_n 0, 1) := by decide +kernel
theorem dX12_livesBy_30 : decode cX12_livesBy 30 = .ok (.getfield 441, 3) := by decide +kernel
theorem dX12_livesBy_33 : decode cX12_livesBy 33 = .ok (.iload 4, 2) := by decide +kernel
theorem dX12_livesBy_35 : decode cX12_livesBy 35 = .ok (.ishr, 1) := by decide +kernel
theorem dX12_livesBy_36 : decode cX12_livesBy 36 = .ok (.iconst 1, 1) := by decide +kernel
theorem dX12_livesBy_37 : decode cX12_livesBy 37 = .ok (.iand, 1) := by decide +kernel
theorem dX12_livesBy_38 : decode cX12_livesBy 38 = .ok (.ifCond .ne 39, 3) := by decide +kernel
theorem dX12_livesBy_41 : decode cX12_livesBy 41 = .ok (.iload_n 1, 1) := by decide +kernel
theorem dX12_livesBy_42 : decode cX12_livesBy 42 = .ok (.bipush 100, 2) := by decide +kernel
theorem dX12_livesBy_44 : decode cX12_livesBy 44 = .ok (.iload_n 3, 1) := by decide +kernel
theorem dX12_livesBy_45 : decode cX12_livesBy 45 = .ok (.imul, 1) := by decide +kernel
theorem dX12_livesBy_46 : decode cX12_livesBy 46 = .ok (.iload 4, 2) := by decide +kernel
theorem dX12_livesBy_48 : decode cX12_livesBy 48 = .ok (.iadd, 1) := by decide +kernel
theorem dX12_livesBy_49 : decode cX12_livesBy 49 = .ok (.bipush 100, 2) := by decide +kernel
theorem dX12_livesBy_51 : decode cX12_livesBy 51 = .ok (.invokestatic 557, 3) := by decide +kernel
theorem dX12_livesBy_54 : decode cX12_livesBy 54 = .ok (.aload_n 0, 1) := by decide +kernel
theorem dX12_livesBy_55 : decode cX12_livesBy 55 = .ok (.iload 4, 2) := by decide +kernel
theorem dX12_livesBy_57 : decode cX12_livesBy 57 = .ok (.iload_n 3, 1) := by decide +kernel
theorem dX12_livesBy_58 : decode cX12_livesBy 58 = .ok (.invokevirtual 415, 3) := by decide +kernel
theorem dX12_livesBy_61 : decode cX12_livesBy 61 = .ok (.if_icmp .ge 16, 3) := by decide +kernel
theorem dX12_livesBy_64 : decode cX12_livesBy 64 = .ok (.aload_n 0, 1) := by decide +kernel
theorem dX12_livesBy_65 : decode cX12_livesBy 65 = .ok (.dup, 1) := by decide +kernel
theorem dX12_livesBy_66 : decode cX12_livesBy 66 = .ok (.getfield 441, 3) := by decide +kernel
theorem dX12_livesBy_69 : decode cX12_livesBy 69 = .ok (.iconst 1, 1) := by decide +kernel
theorem dX12_livesBy_70 : decode cX12_livesBy 70 = .ok (.iload 4, 2) := by decide +kernel
theorem dX12_livesBy_72 : decode cX12_livesBy 72 = .ok (.ishl, 1) := by decide +kernel
theorem dX12_livesBy_73 : decode cX12_livesBy 73 = .ok (.ior, 1) := by decide +kernel
theorem dX12_livesBy_74 : decode cX12_livesBy 74 = .ok (.putfield 441, 3) := by decide +kernel
theorem dX12_livesBy_77 : decode cX12_livesBy 77 = .ok (.iinc 4 1, 3) := by decide +kernel
theorem dX12_livesBy_80 : decode cX12_livesBy 80 = .ok (.goto (-65), 3) := by decide +kernel
theorem dX12_livesBy_83 : decode cX12_livesBy 83 = .ok (.iconst 0, 1) := by decide +kernel
theorem dX12_livesBy_84 : decode cX12_livesBy 84 = .ok (.istore 4, 2) := by decide +kernel
theorem dX12_livesBy_86 : decode cX12_livesBy 86 = .ok (.iload 4, 2) := by decide +kernel
theorem dX12_livesBy_88 : decode cX12_livesBy 88 = .ok (.iconst 4, 1) := by decide +kernel
theorem dX12_livesBy_89 : decode cX12_livesBy 89 = .ok (.if_icmp .ge 36, 3) := by decide +kernel
theorem dX12_livesBy_92 : decode cX12_livesBy 92 = .ok (.iload_n 1, 1) := by decide +kernel
theorem dX12_livesBy_93 : decode cX12_livesBy 93 = .ok (.bipush 100, 2) := by decide +kernel
theorem dX12_livesBy_95 : decode cX12_livesBy 95 = .ok (.iload_n 3, 1) := by decide +kernel
theorem dX12_livesBy_96 : decode cX12_livesBy 96 = .ok (.imul, 1) := by decide +kernel
theorem dX12_livesBy_97 : decode cX12_livesBy 97 = .ok (.bipush 50, 2) := by decide +kernel
theorem dX12_livesBy_99 : decode cX12_livesBy 99 = .ok (.iadd, 1) := by decide +kernel
theorem dX12_livesBy_100 : decode cX12_livesBy 100 = .ok (.iload 4, 2) := by decide +kernel
theorem dX12_livesBy_102 : decode cX12_livesBy 102 = .ok (.iadd, 1) := by decide +kernel
theorem dX12_livesBy_103 : decode cX12_livesBy 103 = .ok (.bipush 100, 2) := by decide +kernel
theorem dX12_livesBy_105 : decode cX12_livesBy 105 = .ok (.invokestatic 557, 3) := by decide +kernel
theorem dX12_livesBy_108 : decode cX12_livesBy 108 = .ok (.iload_n 2, 1) := by decide +kernel
theorem dX12_livesBy_109 : decode cX12_livesBy 109 = .ok (.if_icmp .ge 10, 3) := by decide +kernel
theorem dX12_livesBy_112 : decode cX12_livesBy 112 = .ok (.aload_n 0, 1) := by decide +kernel
theorem dX12_livesBy_113 : decode cX12_livesBy 113 = .ok (.iload 4, 2) := by decide +kernel
theorem dX12_livesBy_115 : decode cX12_livesBy 115 = .ok (.iload_n 3, 1) := by decide +kernel
theorem dX12_livesBy_116 : decode cX12_livesBy 116 = .ok (.invokevirtual 460, 3) := by decide +kernel
theorem dX12_livesBy_119 : decode cX12_livesBy 119 = .ok (.iinc 4 1, 3) := by decide +kernel
theorem dX12_livesBy_122 : decode cX12_livesBy 122 = .ok (.goto (-36), 3) := by decide +kernel
theorem dX12_livesBy_125 : decode cX12_livesBy 125 = .ok (.aload_n 0, 1) := by decide +kernel
theorem dX12_livesBy_126 : decode cX12_livesBy 126 = .ok (.iload_n 3, 1) := by decide +kernel
theorem dX12_livesBy_127 : decode cX12_livesBy 127 = .ok (.invokevirtual 476, 3) := by decide +kernel
theorem dX12_livesBy_130 : decode cX12_livesBy 130 = .ok (.aload_n 0, 1) := by decide +kernel
theorem dX12_livesBy_131 : decode cX12_livesBy 131 = .ok (.iload_n 3, 1) := by decide +kernel
theorem dX12_livesBy_132 : decode cX12_livesBy 132 = .ok (.invokevirtual 479, 3) := by decide +kernel
theorem dX12_livesBy_135 : decode cX12_livesBy 135 = .ok (.iinc 3 1, 3) := by decide +kernel
theorem dX12_livesBy_138 : decode cX12_livesBy 138 = .ok (.goto (-132), 3) := by decide +kernel
theorem dX12_livesBy_141 : decode cX12_livesBy 141 = .ok (.return_, 1) := by decide +kernel
theorem dX12_those_0 : decode cX12_those 0 = .ok (.iconst 0, 1) := by decide +kernel
theorem dX12_those_1 : decode cX12_those 1 = .ok (.istore_n 2, 1) := by decide +kernel
theorem dX12_those_2 : decode cX12_those 2 = .ok (.iconst 0, 1) := by decide +kernel
theorem dX12_those_3 : decode cX12_those 3 = .ok (.istore_n 3, 1) := by decide +kernel
theorem dX12_those_4 : decode cX12_those 4 = .ok (.iload_n 3, 1) := by decide +kernel
theorem dX12_those_5 : decode cX12_those 5 = .ok (.aload_n 0, 1) := by decide +kernel
theorem dX12_those_6 : decode cX12_those 6 = .ok (.getfield 67, 3) := by decide +kernel
theorem dX12_those_9 : decode cX12_those 9 = .ok (.aload_n 0, 1) := by decide +kernel
theorem dX12_those_10 : decode cX12_those 10 = .ok (.getfield 284, 3) := by decide +kernel
theorem dX12_those_13 : decode cX12_those 13 = .ok (.iaload, 1) := by decide +kernel
theorem dX12_those_14 : decode cX12_those 14 = .ok (.if_icmp .ge 25, 3) := by decide +kernel
theorem dX12_those_17 : decode cX12_those 17 = .ok (.aload_n 0, 1) := by decide +kernel
theorem dX12_those_18 : decode cX12_those 18 = .ok (.getfield 149, 3) := by decide +kernel
theorem dX12_those_21 : decode cX12_those 21 = .ok (.iload_n 3, 1) := by decide +kernel
theorem dX12_those_22 : decode cX12_those 22 = .ok (.iaload, 1) := by decide +kernel
theorem dX12_those_23 : decode cX12_those 23 = .ok (.iload_n 1, 1) := by decide +kernel
theorem dX12_those_24 : decode cX12_those 24 = .ok (.if_icmp .ne 9, 3) := by decide +kernel
theorem dX12_those_27 : decode cX12_those 27 = .ok (.iload_n 2, 1) := by decide +kernel
theorem dX12_those_28 : decode cX12_those 28 = .ok (.iconst 1, 1) := by decide +kernel
theorem dX12_those_29 : decode cX12_those 29 = .ok (.iload_n 3, 1) := by decide +kernel
theorem dX12_those_30 : decode cX12_those 30 = .ok (.ishl, 1) := by decide +kernel
theorem dX12_those_31 : decode cX12_those 31 = .ok (.ior, 1) := by decide +kernel
theorem dX12_those_32 : decode cX12_those 32 = .ok (.istore_n 2, 1) := by decide +kernel
theorem dX12_those_33 : decode cX12_those 33 = .ok (.iinc 3 1, 3) := by decide +kernel
theorem dX12_those_36 : decode cX12_those 36 = .ok (.goto (-32), 3) := by decide +kernel
theorem dX12_those_39 : decode cX12_those 39 = .ok (.iload_n 2, 1) := by decide +kernel
theorem dX12_those_40 : decode cX12_those 40 = .ok (.ireturn, 1) := by decide +kernel
theorem dX12_life_0 : decode cX12_life 0 = .ok (.iload_n 2, 1) := by decide +kernel
theorem dX12_life_1 : decode cX12_life 1 = .ok (.iconst 0, 1) := by decide +kernel
theorem dX12_life_2 : decode cX12_life 2 = .ok (.bipush 100, 2) := by decide +kernel
theorem dX12_life_4 : decode cX12_life 4 = .ok (.invokestatic 383, 3) := by decide +kernel
theorem dX12_life_7 : decode cX12_life 7 = .ok (.ifCond .eq 12, 3) := by decide +kernel
theorem dX12_life_10 : decode cX12_life 10 = .ok (.iload_n 3, 1) := by decide +kernel
theorem dX12_life_11 : decode cX12_life 11 = .ok (.iconst 0, 1) := by decide +kernel
theorem dX12_life_12 : decode cX12_life 12 = .ok (.iconst 4, 1) := by decide +kernel
theorem dX12_life_13 : decode cX12_life 13 = .ok (.invokestatic 383, 3) := by decide +kernel
theorem dX12_life_16 : decode cX12_life 16 = .ok (.ifCond .ne 5, 3) := by decide +kernel
theorem dX12_life_19 : decode cX12_life 19 = .ok (.iconst (-1), 1) := by decide +kernel
theorem dX12_life_20 : decode cX12_life 20 = .ok (.ireturn, 1) := by decide +kernel
theorem dX12_life_21 : decode cX12_life 21 = .ok (.aload_n 0, 1) := by decide +kernel
theorem dX12_life_22 : decode cX12_life 22 = .ok (.iload_n 1, 1) := by decide +kernel
theorem dX12_life_23 : decode cX12_life 23 = .ok (.iload_n 2, 1) := by decide +kernel
theorem dX12_life_24 : decode cX12_life 24 = .ok (.invokevirtual 560, 3) := by decide +kernel
theorem dX12_life_27 : decode cX12_life 27 = .ok (.iload_n 3, 1) := by decide +kernel
theorem dX12_life_28 : decode cX12_life 28 = .ok (.iconst 3, 1) := by decide +kernel
theorem dX12_life_29 : decode cX12_life 29 = .ok (.if_icmp .ge 26, 3) := by decide +kernel
theorem dX12_life_32 : decode cX12_life 32 = .ok (.aload_n 0, 1) := by decide +kernel
theorem dX12_life_33 : decode cX12_life 33 = .ok (.iload_n 3, 1) := by decide +kernel
theorem dX12_life_34 : decode cX12_life 34 = .ok (.ifCond .ne 7, 3) := by decide +kernel
theorem dX12_life_37 : decode cX12_life 37 = .ok (.iconst 1, 1) := by decide +kernel
theorem dX12_life_38 : decode cX12_life 38 = .ok (.goto 13, 3) := by decide +kernel
theorem dX12_life_41 : decode cX12_life 41 = .ok (.iload_n 3, 1) := by decide +kernel
theorem dX12_life_42 : decode cX12_life 42 = .ok (.iconst 1, 1) := by decide +kernel
theorem dX12_life_43 : decode cX12_life 43 = .ok (.if_icmp .ne 7, 3) := by decide +kernel
theorem dX12_life_46 : decode cX12_life 46 = .ok (.iconst 4, 1) := by decide +kernel
theorem dX12_life_47 : decode cX12_life 47 = .ok (.goto 4, 3) := by decide +kernel
theorem dX12_life_50 : decode cX12_life 50 = .ok (.iconst 5, 1) := by decide +kernel
theorem dX12_life_51 : decode cX12_life 51 = .ok (.invokevirtual 563, 3) := by decide +kernel
theorem dX12_life_54 : decode cX12_life 54 = .ok (.ireturn, 1) := by decide +kernel
theorem dX12_life_55 : decode cX12_life 55 = .ok (.iload_n 3, 1) := by decide +kernel
theorem dX12_life_56 : decode cX12_life 56 = .ok (.iconst 3, 1) := by decide +kernel
theorem dX12_life_57 : decode cX12_life 57 = .ok (.if_icmp .ne 24, 3) := by decide +kernel
theorem dX12_life_60 : decode cX12_life 60 = .ok (.iconst 1, 1) := by decide +kernel
theorem dX12_life_61 : decode cX12_life 61 = .ok (.aload_n 0, 1) := by decide +kernel
theorem dX12_life_62 : decode cX12_life 62 = .ok (.getfield 49, 3) := by decide +kernel
theorem dX12_life_65 : decode cX12_life 65 = .ok (.aload_n 0, 1) := by decide +kernel
theorem dX12_life_66 : decode cX12_life 66 = .ok (.getfield 284, 3) := by decide +kernel
theorem dX12_life_69 : decode cX12_life 69 = .ok (.iaload, 1) := by decide +kernel
theorem dX12_life_70 : decode cX12_life 70 = .ok (.ishl, 1) := by decide +kernel
theorem dX12_life_71 : decode cX12_life 71 = .ok (.iconst 1, 1) := by decide +kernel
theorem dX12_life_72 : decode cX12_life 72 = .ok (.isub, 1) := by decide +kernel
theorem dX12_life_73 : decode cX12_life 73 = .ok (.aload_n 0, 1) := by decide +kernel
theorem dX12_life_74 : decode cX12_life 74 = .ok (.getfield 441, 3) := by decide +kernel
theorem dX12_life_77 : decode cX12_life 77 = .ok (.iconst (-1), 1) := by decide +kernel
theorem dX12_life_78 : decode cX12_life 78 = .ok (.ixor, 1) := by decide +kernel
theorem dX12_life_79 : decode cX12_life 79 = .ok (.iand, 1) := by decide +kernel
theorem dX12_life_80 : decode cX12_life 80 = .ok (.ireturn, 1) := by decide +kernel
theorem dX12_life_81 : decode cX12_life 81 = .ok (.iconst 0, 1) := by decide +kernel
theorem dX12_life_82 : decode cX12_life 82 = .ok (.istore 4, 2) := by decide +kernel
theorem dX12_life_84 : decode cX12_life 84 = .ok (.iconst 0, 1) := by decide +kernel
theorem dX12_life_85 : decode cX12_life 85 = .ok (.istore 5, 2) := by decide +kernel
theorem dX12_life_87 : decode cX12_life 87 = .ok (.iload 5, 2) := by decide +kernel
theorem dX12_life_89 : decode cX12_life 89 = .ok (.bipush 60, 2) := by decide +kernel
theorem dX12_life_91 : decode cX12_life 91 = .ok (.if_icmp .ge 21, 3) := by decide +kernel
theorem dX12_life_94 : decode cX12_life 94 = .ok (.iload 4, 2) := by decide +kernel
theorem dX12_life_96 : decode cX12_life 96 = .ok (.aload_n 0, 1) := by decide +kernel
theorem dX12_life_97 : decode cX12_life 97 = .ok (.getfield 164, 3) := by decide +kernel
theorem dX12_life_100 : decode cX12_life 100 = .ok (.iload 5, 2) := by decide +kernel
theorem dX12_life_102 : decode cX12_life 102 = .ok (.iaload, 1) := by decide +kernel
theorem dX12_life_103 : decode cX12_life 103 = .ok (.iadd, 1) := by decide +kernel
theorem dX12_life_104 : decode cX12_life 104 = .ok (.istore 4, 2) := by decide +kernel
theorem dX12_life_106 : decode cX12_life 106 = .ok (.iinc 5 1, 3) := by decide +kernel
theorem dX12_life_109 : decode cX12_life 109 = .ok (.goto (-22), 3) := by decide +kernel
theorem dX12_life_112 : decode cX12_life 112 = .ok (.iload 4, 2) := by decide +kernel
theorem dX12_life_114 : decode cX12_life 114 = .ok (.ireturn, 1) := by decide +kernel
theorem dX12_chance_0 : decode cX12_chance 0 = .ok (.aload_n 0, 1) := by decide +kernel
theorem dX12_chance_1 : decode cX12_chance 1 = .ok (.iload_n 1, 1) := by decide +kernel
theorem dX12_chance_2 : decode cX12_chance 2 = .ok (.invokevirtual 400, 3) := by decide +kernel
theorem dX12_chance_5 : decode cX12_chance 5 = .ok (.ifCond .eq 24, 3) := by decide +kernel
theorem dX12_chance_8 : decode cX12_chance 8 = .ok (.iload_n 3, 1) := by decide +kernel
theorem dX12_chance_9 : decode cX12_chance 9 = .ok (.iconst 1, 1) := by decide +kernel
theorem dX12_chance_10 : decode cX12_chance 10 = .ok (.bipush 50, 2) := by decide +kernel
theorem dX12_chance_12 : decode cX12_chance 12 = .ok (.invokestatic 383, 3) := by decide +kernel
theorem dX12_chance_15 : decode cX12_chance 15 = .ok (.ifCond .eq 14, 3) := by decide +kernel
theorem dX12_chance_18 : decode cX12_chance 18 = .ok (.iload 4, 2) := by decide +kernel
theorem dX12_chance_20 : decode cX12_chance 20 = .ok (.iconst 0, 1) := by decide +kernel
theorem dX12_chance_21 : decode cX12_chance 21 = .ok (.bipush 100, 2) := by decide +kernel
theorem dX12_chance_23 : decode cX12_chance 23 = .ok (.invokestatic 383, 3) := by decide +kernel
theorem dX12_chance_26 : decode cX12_chance 26 = .ok (.ifCond .ne 5, 3) := by decide +kernel
theorem dX12_chance_29 : decode cX12_chance 29 = .ok (.iconst (-1), 1) := by decide +kernel
theorem dX12_chance_30 : decode cX12_chance 30 = .ok (.ireturn, 1) := by decide +kernel
theorem dX12_chance_31 : decode cX12_chance 31 = .ok (.iconst 0, 1) := by decide +kernel
theorem dX12_chance_32 : decode cX12_chance 32 = .ok (.istore 5, 2) := by decide +kernel
theorem dX12_chance_34 : decode cX12_chance 34 = .ok (.iconst 0, 1) := by decide +kernel
theorem dX12_chance_35 : decode cX12_chance 35 = .ok (.istore 6, 2) := by decide +kernel
theorem dX12_chance_37 : decode cX12_chance 37 = .ok (.iload 6, 2) := by decide +kernel
theorem dX12_chance_39 : decode cX12_chance 39 = .ok (.iload_n 3, 1) := by decide +kernel
theorem dX12_chance_40 : decode cX12_chance 40 = .ok (.if_icmp .ge 32, 3) := by decide +kernel
theorem dX12_chance_43 : decode cX12_chance 43 = .ok (.aload_n 0, 1) := by decide +kernel
theorem dX12_chance_44 : decode cX12_chance 44 = .ok (.iload_n 2, 1) := by decide +kernel
theorem dX12_chance_45 : decode cX12_chance 45 = .ok (.iload 6, 2) := by decide +kernel
theorem dX12_chance_47 : decode cX12_chance 47 = .ok (.iadd, 1) := by decide +kernel
theorem dX12_chance_48 : decode cX12_chance 48 = .ok (.iload 4, 2) := by decide +kernel
theorem dX12_chance_50 : decode cX12_chance 50 = .ok (.invokevirtual 560, 3) := by decide +kernel
theorem dX12_chance_53 : decode cX12_chance 53 = .ok (.aload_n 0, 1) := by decide +kernel
theorem dX12_chance_54 : decode cX12_chance 54 = .ok (.getfield 149, 3) := by decide +kernel
theorem dX12_chance_57 : decode cX12_chance 57 = .ok (.iload_n 1, 1) := by decide +kernel
theorem dX12_chance_58 : decode cX12_chance 58 = .ok (.iaload, 1) := by decide +kernel
theorem dX12_chance_59 : decode cX12_chance 59 = .ok (.iconst 1, 1) := by decide +kernel
theorem dX12_chance_60 : decode cX12_chance 60 = .ok (.if_icmp .ne 6, 3) := by decide +kernel
theorem dX12_chance_63 : decode cX12_chance 63 = .ok (.iinc 5 1, 3) := by decide +kernel
theorem dX12_chance_66 : decode cX12_chance 66 = .ok (.iinc 6 1, 3) := by decide +kernel
theorem dX12_chance_69 : decode cX12_chance 69 = .ok (.goto (-32), 3) := by decide +kernel
theorem dX12_chance_72 : decode cX12_chance 72 = .ok (.iload 5, 2) := by decide +kernel
theorem dX12_chance_74 : decode cX12_chance 74 = .ok (.ireturn, 1) := by decide +kernel
theorem dX12_hold_0 : decode cX12_hold 0 = .ok (.iload_n 1, 1) := by decide +kernel
theorem dX12_hold_1 : decode cX12_hold 1 = .ok (.iconst 0, 1) := by decide +kernel
theorem dX12_hold_2 : decode cX12_hold 2 = .ok (.iconst 2, 1) := by decide +kernel
theorem dX12_hold_3 : decode cX12_hold 3 = .ok (.invokestatic 383, 3) := by decide +kernel
theorem dX12_hold_6 : decode cX12_hold 6 = .ok (.ifCond .ne 5, 3) := by decide +kernel
theorem dX12_hold_9 : decode cX12_hold 9 = .ok (.iconst 0, 1) := by decide +kernel
theorem dX12_hold_10 : decode cX12_hold 10 = .ok (.ireturn, 1) := by decide +kernel
theorem dX12_hold_11 : decode cX12_hold 11 = .ok (.aload_n 0, 1) := by decide +kernel
theorem dX12_hold_12 : decode cX12_hold 12 = .ok (.getfield 197, 3) := by decide +kernel
theorem dX12_hold_15 : decode cX12_hold 15 = .ok (.iload_n 1, 1) := by decide +kernel
theorem dX12_hold_16 : decode cX12_hold 16 = .ok (.aload_n 0, 1) := by decide +kernel
theorem dX12_hold_17 : decode cX12_hold 17 = .ok (.getfield 305, 3) := by decide +kernel
theorem dX12_hold_20 : decode cX12_hold 20 = .ok (.iastore, 1) := by decide +kernel
theorem dX12_hold_21 : decode cX12_hold 21 = .ok (.iconst 0, 1) := by decide +kernel
theorem dX12_hold_22 : decode cX12_hold 22 = .ok (.istore_n 2, 1) := by decide +kernel
theorem dX12_hold_23 : decode cX12_hold 23 = .ok (.iload_n 2, 1) := by decide +kernel
theorem dX12_hold_24 : decode cX12_hold 24 = .ok (.aload_n 0, 1) := by decide +kernel
theorem dX12_hold_25 : decode cX12_hold 25 = .ok (.getfield 305, 3) := by decide +kernel
theorem dX12_hold_28 : decode cX12_hold 28 = .ok (.if_icmp .ge 77, 3) := by decide +kernel
theorem dX12_hold_31 : decode cX12_hold 31 = .ok (.aload_n 0, 1) := by decide +kernel
theorem dX12_hold_32 : decode cX12_hold 32 = .ok (.getfield 200, 3) := by decide +kernel
theorem dX12_hold_35 : decode cX12_hold 35 = .ok (.bipush 60, 2) := by decide +kernel
theorem dX12_hold_37 : decode cX12_hold 37 = .ok (.iload_n 1, 1) := by decide +kernel
theorem dX12_hold_38 : decode cX12_hold 38 = .ok (.imul, 1) := by decide +kernel
theorem dX12_hold_39 : decode cX12_hold 39 = .ok (.iload_n 2, 1) := by decide +kernel
theorem dX12_hold_40 : decode cX12_hold 40 = .ok (.iadd, 1) := by decide +kernel
theorem dX12_hold_41 : decode cX12_hold 41 = .ok (.aload_n 0, 1) := by decide +kernel
theorem dX12_hold_42 : decode cX12_hold 42 = .ok (.getfield 137, 3) := by decide +kernel
theorem dX12_hold_45 : decode cX12_hold 45 = .ok (.iload_n 2, 1) := by decide +kernel
theorem dX12_hold_46 : decode cX12_hold 46 = .ok (.iaload, 1) := by decide +kernel
theorem dX12_hold_47 : decode cX12_hold 47 = .ok (.iastore, 1) := by decide +kernel
theorem dX12_hold_48 : decode cX12_hold 48 = .ok (.aload_n 0, 1) := by decide +kernel
theorem dX12_hold_49 : decode cX12_hold 49 = .ok (.getfield 203, 3) := by decide +kernel
theorem dX12_hold_52 : decode cX12_hold 52 = .ok (.bipush 60, 2) := by decide +kernel
theorem dX12_hold_54 : decode cX12_hold 54 = .ok (.iload_n 1, 1) := by decide +kernel
theorem dX12_hold_55 : decode cX12_hold 55 = .ok (.imul, 1) := by decide +kernel
theorem dX12_hold_56 : decode cX12_hold 56 = .ok (.iload_n 2, 1) := by decide +kernel
theorem dX12_hold_57 : decode cX12_hold 57 = .ok (.iadd, 1) := by decide +kernel
theorem dX12_hold_58 : decode cX12_hold 58 = .ok (.aload_n 0, 1) := by decide +kernel
theorem dX12_hold_59 : decode cX12_hold 59 = .ok (.getfield 140, 3) := by decide +kernel
theorem dX12_hold_62 : decode cX12_hold 62 = .ok (.iload_n 2, 1) := by decide +kernel
theorem dX12_hold_63 : decode cX12_hold 63 = .ok (.iaload, 1) := by decide +kernel
theorem dX12_hold_64 : decode cX12_hold 64 = .ok (.iastore, 1) := by decide +kernel
theorem dX12_hold_65 : decode cX12_hold 65 = .ok (.aload_n 0, 1) := by decide +kernel
theorem dX12_hold_66 : decode cX12_hold 66 = .ok (.getfield 206, 3) := by decide +kernel
theorem dX12_hold_69 : decode cX12_hold 69 = .ok (.bipush 60, 2) := by decide +kernel
theorem dX12_hold_71 : decode cX12_hold 71 = .ok (.iload_n 1, 1) := by decide +kernel
theorem dX12_hold_72 : decode cX12_hold 72 = .ok (.imul, 1) := by decide +kernel
theorem dX12_hold_73 : decode cX12_hold 73 = .ok (.iload_n 2, 1) := by decide +kernel
theorem dX12_hold_74 : decode cX12_hold 74 = .ok (.iadd, 1) := by decide +kernel
theorem dX12_hold_75 : decode cX12_hold 75 = .ok (.aload_n 0, 1) := by decide +kernel
theorem dX12_hold_76 : decode cX12_hold 76 = .ok (.getfield 143, 3) := by decide +kernel
theorem dX12_hold_79 : decode cX12_hold 79 = .ok (.iload_n 2, 1) := by decide +kernel
theorem dX12_hold_80 : decode cX12_hold 80 = .ok (.iaload, 1) := by decide +kernel
theorem dX12_hold_81 : decode cX12_hold 81 = .ok (.iastore, 1) := by decide +kernel
theorem dX12_hold_82 : decode cX12_hold 82 = .ok (.aload_n 0, 1) := by decide +kernel
theorem dX12_hold_83 : decode cX12_hold 83 = .ok (.getfield 209, 3) := by decide +kernel
theorem dX12_hold_86 : decode cX12_hold 86 = .ok (.bipush 60, 2) := by decide +kernel
theorem dX12_hold_88 : decode cX12_hold 88 = .ok (.iload_n 1, 1) := by decide +kernel
theorem dX12_hold_89 : decode cX12_hold 89 = .ok (.imul, 1) := by decide +kernel
theorem dX12_hold_90 : decode cX12_hold 90 = .ok (.iload_n 2, 1) := by decide +kernel
theorem dX12_hold_91 : decode cX12_hold 91 = .ok (.iadd, 1) := by decide +kernel
theorem dX12_hold_92 : decode cX12_hold 92 = .ok (.aload_n 0, 1) := by decide +kernel
theorem dX12_hold_93 : decode cX12_hold 93 = .ok (.getfield 146, 3) := by decide +kernel
theorem dX12_hold_96 : decode cX12_hold 96 = .ok (.iload_n 2, 1) := by decide +kernel
theorem dX12_hold_97 : decode cX12_hold 97 = .ok (.iaload, 1) := by decide +kernel
theorem dX12_hold_98 : decode cX12_hold 98 = .ok (.iastore, 1) := by decide +kernel
theorem dX12_hold_99 : decode cX12_hold 99 = .ok (.iinc 2 1, 3) := by decide +kernel
theorem dX12_hold_102 : decode cX12_hold 102 = .ok (.goto (-79), 3) := by decide +kernel
theorem dX12_hold_105 : decode cX12_hold 105 = .ok (.iconst 1, 1) := by decide +kernel
theorem dX12_hold_106 : decode cX12_hold 106 = .ok (.ireturn, 1) := by decide +kernel
theorem dX12_restore_0 : decode cX12_restore 0 = .ok (.iload_n 1, 1) := by decide +kernel
theorem dX12_restore_1 : decode cX12_restore 1 = .ok (.iconst 0, 1) := by decide +kernel
theorem dX12_restore_2 : decode cX12_restore 2 = .ok (.iconst 2, 1) := by decide +kernel
theorem dX12_restore_3 : decode cX12_restore 3 = .ok (.invokestatic 383, 3) := by decide +kernel
theorem dX12_restore_6 : decode cX12_restore 6 = .ok (.ifCond .eq 12, 3) := by decide +kernel
theorem dX12_restore_9 : decode cX12_restore 9 = .ok (.aload_n 0, 1) := by decide +kernel
theorem dX12_restore_10 : decode cX12_restore 10 = .ok (.getfield 197, 3) := by decide +kernel
theorem dX12_restore_13 : decode cX12_restore 13 = .ok (.iload_n 1, 1) := by decide +kernel
theorem dX12_restore_14 : decode cX12_restore 14 = .ok (.iaload, 1) := by decide +kernel
theorem dX12_restore_15 : decode cX12_restore 15 = .ok (.ifCond .ge 5, 3) := by decide +kernel
theorem dX12_restore_18 : decode cX12_restore 18 = .ok (.iconst 0, 1) := by decide +kernel
theorem dX12_restore_19 : decode cX12_restore 19 = .ok (.ireturn, 1) := by decide +kernel
theorem dX12_restore_20 : decode cX12_restore 20 = .ok (.aload_n 0, 1) := by decide +kernel
theorem dX12_restore_21 : decode cX12_restore 21 = .ok (.aload_n 0, 1) := by decide +kernel
theorem dX12_restore_22 : decode cX12_restore 22 = .ok (.getfield 197, 3) := by decide +kernel
theorem dX12_restore_25 : decode cX12_restore 25 = .ok (.iload_n 1, 1) := by decide +kernel
theorem dX12_restore_26 : decode cX12_restore 26 = .ok (.iaload, 1) := by decide +kernel
theorem dX12_restore_27 : decode cX12_restore 27 = .ok (.putfield 305, 3) := by decide +kernel
theorem dX12_restore_30 : decode cX12_restore 30 = .ok (.iconst 0, 1) := by decide +kernel
theorem dX12_restore_31 : decode cX12_restore 31 = .ok (.istore_n 2, 1) := by decide +kernel
theorem dX12_restore_32 : decode cX12_restore 32 = .ok (.iload_n 2, 1) := by decide +kernel
theorem dX12_restore_33 : decode cX12_restore 33 = .ok (.aload_n 0, 1) := by decide +kernel
theorem dX12_restore_34 : decode cX12_restore 34 = .ok (.getfield 305, 3) := by decide +kernel
theorem dX12_restore_37 : decode cX12_restore 37 = .ok (.if_icmp .ge 77, 3) := by decide +kernel
theorem dX12_restore_40 : decode cX12_restore 40 = .ok (.aload_n 0, 1) := by decide +kernel
theorem dX12_restore_41 : decode cX12_restore 41 = .ok (.getfield 137, 3) := by decide +kernel
theorem dX12_restore_44 : decode cX12_restore 44 = .ok (.iload_n 2, 1) := by decide +kernel
theorem dX12_restore_45 : decode cX12_restore 45 = .ok (.aload_n 0, 1) := by decide +kernel
theorem dX12_restore_46 : decode cX12_restore 46 = .ok (.getfield 200, 3) := by decide +kernel
theorem dX12_restore_49 : decode cX12_restore 49 = .ok (.bipush 60, 2) := by decide +kernel
theorem dX12_restore_51 : decode cX12_restore 51 = .ok (.iload_n 1, 1) := by decide +kernel
theorem dX12_restore_52 : decode cX12_restore 52 = .ok (.imul, 1) := by decide +kernel
theorem dX12_restore_53 : decode cX12_restore 53 = .ok (.iload_n 2, 1) := by decide +kernel
theorem dX12_restore_54 : decode cX12_restore 54 = .ok (.iadd, 1) := by decide +kernel
theorem dX12_restore_55 : decode cX12_restore 55 = .ok (.iaload, 1) := by decide +kernel
theorem dX12_restore_56 : decode cX12_restore 56 = .ok (.iastore, 1) := by decide +kernel
theorem dX12_restore_57 : decode cX12_restore 57 = .ok (.aload_n 0, 1) := by decide +kernel
theorem dX12_restore_58 : decode cX12_restore 58 = .ok (.getfield 140, 3) := by decide +kernel
theorem dX12_restore_61 : decode cX12_restore 61 = .ok (.iload_n 2, 1) := by decide +kernel
theorem dX12_restore_62 : decode cX12_restore 62 = .ok (.aload_n 0, 1) := by decide +kernel
theorem dX12_restore_63 : decode cX12_restore 63 = .ok (.getfield 203, 3) := by decide +kernel
theorem dX12_restore_66 : decode cX12_restore 66 = .ok (.bipush 60, 2) := by decide +kernel
theorem dX12_restore_68 : decode cX12_restore 68 = .ok (.iload_n 1, 1) := by decide +kernel
theorem dX12_restore_69 : decode cX12_restore 69 = .ok (.imul, 1) := by decide +kernel
theorem dX12_restore_70 : decode cX12_restore 70 = .ok (.iload_n 2, 1) := by decide +kernel
theorem dX12_restore_71 : decode cX12_restore 71 = .ok (.iadd, 1) := by decide +kernel
theorem dX12_restore_72 : decode cX12_restore 72 = .ok (.iaload, 1) := by decide +kernel
theorem dX12_restore_73 : decode cX12_restore 73 = .ok (.iastore, 1) := by decide +kernel
theorem dX12_restore_74 : decode cX12_restore 74 = .ok (.aload_n 0, 1) := by decide +kernel
theorem dX12_restore_75 : decode cX12_restore 75 = .ok (.getfield 143, 3) := by decide +kernel
theorem dX12_restore_78 : decode cX12_restore 78 = .ok (.iload_n 2, 1) := by decide +kernel
theorem dX12_restore_79 : decode cX12_restore 79 = .ok (.aload_n 0, 1) := by decide +kernel
theorem dX12_restore_80 : decode cX12_restore 80 = .ok (.getfield 206, 3) := by decide +kernel
theorem dX12_restore_83 : decode cX12_restore 83 = .ok (.bipush 60, 2) := by decide +kernel
theorem dX12_restore_85 : decode cX12_restore 85 = .ok (.iload_n 1, 1) := by decide +kernel
theorem dX12_restore_86 : decode cX12_restore 86 = .ok (.imul, 1) := by decide +kernel
theorem dX12_restore_87 : decode cX12_restore 87 = .ok (.iload_n 2, 1) := by decide +kernel
theorem dX12_restore_88 : decode cX12_restore 88 = .ok (.iadd, 1) := by decide +kernel
theorem dX12_restore_89 : decode cX12_restore 89 = .ok (.iaload, 1) := by decide +kernel
theorem dX12_restore_90 : decode cX12_restore 90 = .ok (.iastore, 1) := by decide +kernel
theorem dX12_restore_91 : decode cX12_restore 91 = .ok (.aload_n 0, 1) := by decide +kernel
theorem dX12_restore_92 : decode cX12_restore 92 = .ok (.getfield 146, 3) := by decide +kernel
theorem dX12_restore_95 : decode cX12_restore 95 = .ok (.iload_n 2, 1) := by decide +kernel
theorem dX12_restore_96 : decode cX12_restore 96 = .ok (.aload_n 0, 1) := by decide +kernel
theorem dX12_restore_97 : decode cX12_restore 97 = .ok (.getfield 209, 3) := by decide +kernel
theorem dX12_restore_100 : decode cX12_restore 100 = .ok (.bipush 60, 2) := by decide +kernel
theorem dX12_restore_102 : decode cX12_restore 102 = .ok (.iload_n 1, 1) := by decide +kernel
theorem dX12_restore_103 : decode cX12_restore 103 = .ok (.imul, 1) := by decide +kernel
theorem dX12_restore_104 : decode cX12_restore 104 = .ok (.iload_n 2, 1) := by decide +kernel
theorem dX12_restore_105 : decode cX12_restore 105 = .ok (.iadd, 1) := by decide +kernel
theorem dX12_restore_106 : decode cX12_restore 106 = .ok (.iaload, 1) := by decide +kernel
theorem dX12_restore_107 : decode cX12_restore 107 = .ok (.iastore, 1) := by decide +kernel
theorem dX12_restore_108 : decode cX12_restore 108 = .ok (.iinc 2 1, 3) := by decide +kernel
theorem dX12_restore_111 : decode cX12_restore 111 = .ok (.goto (-79), 3) := by decide +kernel
theorem dX12_restore_114 : decode cX12_restore 114 = .ok (.iconst 1, 1) := by decide +kernel
theorem dX12_restore_115 : decode cX12_restore 115 = .ok (.ireturn, 1) := by decide +kernel
theorem dX12_count_0 : decode cX12_count 0 = .ok (.iload_n 1, 1) := by decide +kernel
theorem dX12_count_1 : decode cX12_count 1 = .ok (.tableswitch 152 0 7 #[47, 57, 67, 77, 87, 97, 102, 107], 47) := by decide +kernel
theorem dX12_count_48 : decode cX12_count 48 = .ok (.aload_n 0, 1) := by decide +kernel
theorem dX12_count_49 : decode cX12_count 49 = .ok (.getfield 49, 3) := by decide +kernel
theorem dX12_count_52 : decode cX12_count 52 = .ok (.aload_n 0, 1) := by decide +kernel
theorem dX12_count_53 : decode cX12_count 53 = .ok (.getfield 284, 3) := by decide +kernel
theorem dX12_count_56 : decode cX12_count 56 = .ok (.iaload, 1) := by decide +kernel
theorem dX12_count_57 : decode cX12_count 57 = .ok (.ireturn, 1) := by decide +kernel
theorem dX12_count_58 : decode cX12_count 58 = .ok (.aload_n 0, 1) := by decide +kernel
theorem dX12_count_59 : decode cX12_count 59 = .ok (.getfield 55, 3) := by decide +kernel
theorem dX12_count_62 : decode cX12_count 62 = .ok (.aload_n 0, 1) := by decide +kernel
theorem dX12_count_63 : decode cX12_count 63 = .ok (.getfield 284, 3) := by decide +kernel
theorem dX12_count_66 : decode cX12_count 66 = .ok (.iaload, 1) := by decide +kernel
theorem dX12_count_67 : decode cX12_count 67 = .ok (.ireturn, 1) := by decide +kernel
theorem dX12_count_68 : decode cX12_count 68 = .ok (.aload_n 0, 1) := by decide +kernel
theorem dX12_count_69 : decode cX12_count 69 = .ok (.getfield 67, 3) := by decide +kernel
theorem dX12_count_72 : decode cX12_count 72 = .ok (.aload_n 0, 1) := by decide +kernel
theorem dX12_count_73 : decode cX12_count 73 = .ok (.getfield 284, 3) := by decide +kernel
theorem dX12_count_76 : decode cX12_count 76 = .ok (.iaload, 1) := by decide +kernel
theorem dX12_count_77 : decode cX12_count 77 = .ok (.ireturn, 1) := by decide +kernel
theorem dX12_count_78 : decode cX12_count 78 = .ok (.aload_n 0, 1) := by decide +kernel
theorem dX12_count_79 : decode cX12_count 79 = .ok (.getfield 58, 3) := by decide +kernel
theorem dX12_count_82 : decode cX12_count 82 = .ok (.aload_n 0, 1) := by decide +kernel
theorem dX12_count_83 : decode cX12_count 83 = .ok (.getfield 284, 3) := by decide +kernel
theorem dX12_count_86 : decode cX12_count 86 = .ok (.iaload, 1) := by decide +kernel
theorem dX12_count_87 : decode cX12_count 87 = .ok (.ireturn, 1) := by decide +kernel
theorem dX12_count_88 : decode cX12_count 88 = .ok (.aload_n 0, 1) := by decide +kernel
theorem dX12_count_89 : decode cX12_count 89 = .ok (.getfield 91, 3) := by decide +kernel
theorem dX12_count_92 : decode cX12_count 92 = .ok (.aload_n 0, 1) := by decide +kernel
theorem dX12_count_93 : decode cX12_count 93 = .ok (.getfield 284, 3) := by decide +kernel
theorem dX12_count_96 : decode cX12_count 96 = .ok (.iaload, 1) := by decide +kernel
theorem dX12_count_97 : decode cX12_count 97 = .ok (.ireturn, 1) := by decide +kernel
theorem dX12_count_98 : decode cX12_count 98 = .ok (.aload_n 0, 1) := by decide +kernel
theorem dX12_count_99 : decode cX12_count 99 = .ok (.getfield 305, 3) := by decide +kernel
theorem dX12_count_102 : decode cX12_count 102 = .ok (.ireturn, 1) := by decide +kernel
theorem dX12_count_103 : decode cX12_count 103 = .ok (.aload_n 0, 1) := by decide +kernel
theorem dX12_count_104 : decode cX12_count 104 = .ok (.getfield 216, 3) := by decide +kernel
theorem dX12_count_107 : decode cX12_count 107 = .ok (.ireturn, 1) := by decide +kernel
theorem dX12_count_108 : decode cX12_count 108 = .ok (.aload_n 0, 1) := by decide +kernel
theorem dX12_count_109 : decode cX12_count 109 = .ok (.getfield 197, 3) := by decide +kernel
theorem dX12_count_112 : decode cX12_count 112 = .ok (.iconst 0, 1) := by decide +kernel
theorem dX12_count_113 : decode cX12_count 113 = .ok (.iaload, 1) := by decide +kernel
theorem dX12_count_114 : decode cX12_count 114 = .ok (.ifCond .ge 7, 3) := by decide +kernel
theorem dX12_count_117 : decode cX12_count 117 = .ok (.iconst 0, 1) := by decide +kernel
theorem dX12_count_118 : decode cX12_count 118 = .ok (.goto 4, 3) := by decide +kernel
theorem dX12_count_121 : decode cX12_count 121 = .ok (.iconst 1, 1) := by decide +kernel
theorem dX12_count_122 : decode cX12_count 122 = .ok (.aload_n 0, 1) := by decide +kernel
theorem dX12_count_123 : decode cX12_count 123 = .ok (.getfield 197, 3) := by decide +kernel
theorem dX12_count_126 : decode cX12_count 126 = .ok (.iconst 1, 1) := by decide +kernel
theorem dX12_count_127 : decode cX12_count 127 = .ok (.iaload, 1) := by decide +kernel
theorem dX12_count_128 : decode cX12_count 128 = .ok (.ifCond .ge 7, 3) := by decide +kernel
theorem dX12_count_131 : decode cX12_count 131 = .ok (.iconst 0, 1) := by decide +kernel
theorem dX12_count_132 : decode cX12_count 132 = .ok (.goto 4, 3) := by decide +kernel
theorem dX12_count_135 : decode cX12_count 135 = .ok (.iconst 1, 1) := by decide +kernel
theorem dX12_count_136 : decode cX12_count 136 = .ok (.iadd, 1) := by decide +kernel
theorem dX12_count_137 : decode cX12_count 137 = .ok (.aload_n 0, 1) := by decide +kernel
theorem dX12_count_138 : decode cX12_count 138 = .ok (.getfield 197, 3) := by decide +kernel
theorem dX12_count_141 : decode cX12_count 141 = .ok (.iconst 2, 1) := by decide +kernel
theorem dX12_count_142 : decode cX12_count 142 = .ok (.iaload, 1) := by decide +kernel
theorem dX12_count_143 : decode cX12_count 143 = .ok (.ifCond .ge 7, 3) := by decide +kernel
theorem dX12_count_146 : decode cX12_count 146 = .ok (.iconst 0, 1) := by decide +kernel
theorem dX12_count_147 : decode cX12_count 147 = .ok (.goto 4, 3) := by decide +kernel
theorem dX12_count_150 : decode cX12_count 150 = .ok (.iconst 1, 1) := by decide +kernel
theorem dX12_count_151 : decode cX12_count 151 = .ok (.iadd, 1) := by decide +kernel
theorem dX12_count_152 : decode cX12_count 152 = .ok (.ireturn, 1) := by decide +kernel
theorem dX12_count_153 : decode cX12_count 153 = .ok (.iconst (-1), 1) := by decide +kernel
theorem dX12_count_154 : decode cX12_count 154 = .ok (.ireturn, 1) := by decide +kernel
theorem dJ6_numberOfTrailingZeros_0f7a4_0 : decode cJ6_numberOfTrailingZeros_0f7a4 0 = .ok (.iload_n 0, 1) := by decide +kernel
theorem dJ6_numberOfTrailingZeros_0f7a4_1 : decode cJ6_numberOfTrailingZeros_0f7a4 1 = .ok (.iconst (-1), 1) := by decide +kernel
theorem dJ6_numberOfTrailingZeros_0f7a4_2 : decode cJ6_numberOfTrailingZeros_0f7a4 2 = .ok (.ixor, 1) := by decide +kernel
theorem dJ6_numberOfTrailingZeros_0f7a4_3 : decode cJ6_numberOfTrailingZeros_0f7a4 3 = .ok (.iload_n 0, 1) := by decide +kernel
theorem dJ6_numberOfTrailingZeros_0f7a4_4 : decode cJ6_numberOfTrailingZeros_0f7a4 4 = .ok (.iconst 1, 1) := by decide +kernel
theorem dJ6_numberOfTrailingZeros_0f7a4_5 : decode cJ6_numberOfTrailingZeros_0f7a4 5 = .ok (.isub, 1) := by decide +kernel
theorem dJ6_numberOfTrailingZeros_0f7a4_6 : decode cJ6_numberOfTrailingZeros_0f7a4 6 = .ok (.iand, 1) := by decide +kernel
theorem dJ6_numberOfTrailingZeros_0f7a4_7 : decode cJ6_numberOfTrailingZeros_0f7a4 7 = .ok (.istore_n 0, 1) := by decide +kernel
theorem dJ6_numberOfTrailingZeros_0f7a4_8 : decode cJ6_numberOfTrailingZeros_0f7a4 8 = .ok (.iload_n 0, 1) := by decide +kernel
theorem dJ6_numberOfTrailingZeros_0f7a4_9 : decode cJ6_numberOfTrailingZeros_0f7a4 9 = .ok (.ifCond .gt 8, 3) := by decide +kernel
theorem dJ6_numberOfTrailingZeros_0f7a4_12 : decode cJ6_numberOfTrailingZeros_0f7a4 12 = .ok (.iload_n 0, 1) := by decide +kernel
theorem dJ6_numberOfTrailingZeros_0f7a4_13 : decode cJ6_numberOfTrailingZeros_0f7a4 13 = .ok (.bipush 32, 2) := by decide +kernel
theorem dJ6_numberOfTrailingZeros_0f7a4_15 : decode cJ6_numberOfTrailingZeros_0f7a4 15 = .ok (.iand, 1) := by decide +kernel
theorem dJ6_numberOfTrailingZeros_0f7a4_16 : decode cJ6_numberOfTrailingZeros_0f7a4 16 = .ok (.ireturn, 1) := by decide +kernel
theorem dJ6_numberOfTrailingZeros_0f7a4_17 : decode cJ6_numberOfTrailingZeros_0f7a4 17 = .ok (.iconst 1, 1) := by decide +kernel
theorem dJ6_numberOfTrailingZeros_0f7a4_18 : decode cJ6_numberOfTrailingZeros_0f7a4 18 = .ok (.istore_n 1, 1) := by decide +kernel
theorem dJ6_numberOfTrailingZeros_0f7a4_19 : decode cJ6_numberOfTrailingZeros_0f7a4 19 = .ok (.iload_n 0, 1) := by decide +kernel
theorem dJ6_numberOfTrailingZeros_0f7a4_20 : decode cJ6_numberOfTrailingZeros_0f7a4 20 = .ok (.ldc_w 264, 3) := by decide +kernel
theorem dJ6_numberOfTrailingZeros_0f7a4_23 : decode cJ6_numberOfTrailingZeros_0f7a4 23 = .ok (.if_icmp .le 11, 3) := by decide +kernel
theorem dJ6_numberOfTrailingZeros_0f7a4_26 : decode cJ6_numberOfTrailingZeros_0f7a4 26 = .ok (.iinc 1 16, 3) := by decide +kernel
theorem dJ6_numberOfTrailingZeros_0f7a4_29 : decode cJ6_numberOfTrailingZeros_0f7a4 29 = .ok (.iload_n 0, 1) := by decide +kernel
theorem dJ6_numberOfTrailingZeros_0f7a4_30 : decode cJ6_numberOfTrailingZeros_0f7a4 30 = .ok (.bipush 16, 2) := by decide +kernel
theorem dJ6_numberOfTrailingZeros_0f7a4_32 : decode cJ6_numberOfTrailingZeros_0f7a4 32 = .ok (.iushr, 1) := by decide +kernel
theorem dJ6_numberOfTrailingZeros_0f7a4_33 : decode cJ6_numberOfTrailingZeros_0f7a4 33 = .ok (.istore_n 0, 1) := by decide +kernel
theorem dJ6_numberOfTrailingZeros_0f7a4_34 : decode cJ6_numberOfTrailingZeros_0f7a4 34 = .ok (.iload_n 0, 1) := by decide +kernel
theorem dJ6_numberOfTrailingZeros_0f7a4_35 : decode cJ6_numberOfTrailingZeros_0f7a4 35 = .ok (.sipush 256, 3) := by decide +kernel
theorem dJ6_numberOfTrailingZeros_0f7a4_38 : decode cJ6_numberOfTrailingZeros_0f7a4 38 = .ok (.if_icmp .le 11, 3) := by decide +kernel
theorem dJ6_numberOfTrailingZeros_0f7a4_41 : decode cJ6_numberOfTrailingZeros_0f7a4 41 = .ok (.iinc 1 8, 3) := by decide +kernel
theorem dJ6_numberOfTrailingZeros_0f7a4_44 : decode cJ6_numberOfTrailingZeros_0f7a4 44 = .ok (.iload_n 0, 1) := by decide +kernel
theorem dJ6_numberOfTrailingZeros_0f7a4_45 : decode cJ6_numberOfTrailingZeros_0f7a4 45 = .ok (.bipush 8, 2) := by decide +kernel
theorem dJ6_numberOfTrailingZeros_0f7a4_47 : decode cJ6_numberOfTrailingZeros_0f7a4 47 = .ok (.iushr, 1) := by decide +kernel
theorem dJ6_numberOfTrailingZeros_0f7a4_48 : decode cJ6_numberOfTrailingZeros_0f7a4 48 = .ok (.istore_n 0, 1) := by decide +kernel
theorem dJ6_numberOfTrailingZeros_0f7a4_49 : decode cJ6_numberOfTrailingZeros_0f7a4 49 = .ok (.iload_n 0, 1) := by decide +kernel
theorem dJ6_numberOfTrailingZeros_0f7a4_50 : decode cJ6_numberOfTrailingZeros_0f7a4 50 = .ok (.bipush 16, 2) := by decide +kernel
theorem dJ6_numberOfTrailingZeros_0f7a4_52 : decode cJ6_numberOfTrailingZeros_0f7a4 52 = .ok (.if_icmp .le 10, 3) := by decide +kernel
theorem dJ6_numberOfTrailingZeros_0f7a4_55 : decode cJ6_numberOfTrailingZeros_0f7a4 55 = .ok (.iinc 1 4, 3) := by decide +kernel
theorem dJ6_numberOfTrailingZeros_0f7a4_58 : decode cJ6_numberOfTrailingZeros_0f7a4 58 = .ok (.iload_n 0, 1) := by decide +kernel
theorem dJ6_numberOfTrailingZeros_0f7a4_59 : decode cJ6_numberOfTrailingZeros_0f7a4 59 = .ok (.iconst 4, 1) := by decide +kernel
theorem dJ6_numberOfTrailingZeros_0f7a4_60 : decode cJ6_numberOfTrailingZeros_0f7a4 60 = .ok (.iushr, 1) := by decide +kernel
theorem dJ6_numberOfTrailingZeros_0f7a4_61 : decode cJ6_numberOfTrailingZeros_0f7a4 61 = .ok (.istore_n 0, 1) := by decide +kernel
theorem dJ6_numberOfTrailingZeros_0f7a4_62 : decode cJ6_numberOfTrailingZeros_0f7a4 62 = .ok (.iload_n 0, 1) := by decide +kernel
theorem dJ6_numberOfTrailingZeros_0f7a4_63 : decode cJ6_numberOfTrailingZeros_0f7a4 63 = .ok (.iconst 4, 1) := by decide +kernel
theorem dJ6_numberOfTrailingZeros_0f7a4_64 : decode cJ6_numberOfTrailingZeros_0f7a4 64 = .ok (.if_icmp .le 10, 3) := by decide +kernel
theorem dJ6_numberOfTrailingZeros_0f7a4_67 : decode cJ6_numberOfTrailingZeros_0f7a4 67 = .ok (.iinc 1 2, 3) := by decide +kernel
theorem dJ6_numberOfTrailingZeros_0f7a4_70 : decode cJ6_numberOfTrailingZeros_0f7a4 70 = .ok (.iload_n 0, 1) := by decide +kernel
theorem dJ6_numberOfTrailingZeros_0f7a4_71 : decode cJ6_numberOfTrailingZeros_0f7a4 71 = .ok (.iconst 2, 1) := by decide +kernel
theorem dJ6_numberOfTrailingZeros_0f7a4_72 : decode cJ6_numberOfTrailingZeros_0f7a4 72 = .ok (.iushr, 1) := by decide +kernel
theorem dJ6_numberOfTrailingZeros_0f7a4_73 : decode cJ6_numberOfTrailingZeros_0f7a4 73 = .ok (.istore_n 0, 1) := by decide +kernel
theorem dJ6_numberOfTrailingZeros_0f7a4_74 : decode cJ6_numberOfTrailingZeros_0f7a4 74 = .ok (.iload_n 1, 1) := by decide +kernel
theorem dJ6_numberOfTrailingZeros_0f7a4_75 : decode cJ6_numberOfTrailingZeros_0f7a4 75 = .ok (.iload_n 0, 1) := by decide +kernel
theorem dJ6_numberOfTrailingZeros_0f7a4_76 : decode cJ6_numberOfTrailingZeros_0f7a4 76 = .ok (.iconst 1, 1) := by decide +kernel
theorem dJ6_numberOfTrailingZeros_0f7a4_77 : decode cJ6_numberOfTrailingZeros_0f7a4 77 = .ok (.iushr, 1) := by decide +kernel
theorem dJ6_numberOfTrailingZeros_0f7a4_78 : decode cJ6_numberOfTrailingZeros_0f7a4 78 = .ok (.iadd, 1) := by decide +kernel
theorem dJ6_numberOfTrailingZeros_0f7a4_79 : decode cJ6_numberOfTrailingZeros_0f7a4 79 = .ok (.ireturn, 1) := by decide +kernel
theorem dJ6_bitCount_0f7a4_0 : decode cJ6_bitCount_0f7a4 0 = .ok (.iload_n 0, 1) := by decide +kernel
theorem dJ6_bitCount_0f7a4_1 : decode cJ6_bitCount_0f7a4 1 = .ok (.iload_n 0, 1) := by decide +kernel
theorem dJ6_bitCount_0f7a4_2 : decode cJ6_bitCount_0f7a4 2 = .ok (.iconst 1, 1) := by decide +kernel
theorem dJ6_bitCount_0f7a4_3 : decode cJ6_bitCount_0f7a4 3 = .ok (.iushr, 1) := by decide +kernel
theorem dJ6_bitCount_0f7a4_4 : decode cJ6_bitCount_0f7a4 4 = .ok (.ldc_w 265, 3) := by decide +kernel
theorem dJ6_bitCount_0f7a4_7 : decode cJ6_bitCount_0f7a4 7 = .ok (.iand, 1) := by decide +kernel
theorem dJ6_bitCount_0f7a4_8 : decode cJ6_bitCount_0f7a4 8 = .ok (.isub, 1) := by decide +kernel
theorem dJ6_bitCount_0f7a4_9 : decode cJ6_bitCount_0f7a4 9 = .ok (.istore_n 0, 1) := by decide +kernel
theorem dJ6_bitCount_0f7a4_10 : decode cJ6_bitCount_0f7a4 10 = .ok (.iload_n 0, 1) := by decide +kernel
theorem dJ6_bitCount_0f7a4_11 : decode cJ6_bitCount_0f7a4 11 = .ok (.ldc_w 266, 3) := by decide +kernel
theorem dJ6_bitCount_0f7a4_14 : decode cJ6_bitCount_0f7a4 14 = .ok (.iand, 1) := by decide +kernel
theorem dJ6_bitCount_0f7a4_15 : decode cJ6_bitCount_0f7a4 15 = .ok (.iload_n 0, 1) := by decide +kernel
theorem dJ6_bitCount_0f7a4_16 : decode cJ6_bitCount_0f7a4 16 = .ok (.iconst 2, 1) := by decide +kernel
theorem dJ6_bitCount_0f7a4_17 : decode cJ6_bitCount_0f7a4 17 = .ok (.iushr, 1) := by decide +kernel
theorem dJ6_bitCount_0f7a4_18 : decode cJ6_bitCount_0f7a4 18 = .ok (.ldc_w 266, 3) := by decide +kernel
theorem dJ6_bitCount_0f7a4_21 : decode cJ6_bitCount_0f7a4 21 = .ok (.iand, 1) := by decide +kernel
theorem dJ6_bitCount_0f7a4_22 : decode cJ6_bitCount_0f7a4 22 = .ok (.iadd, 1) := by decide +kernel
theorem dJ6_bitCount_0f7a4_23 : decode cJ6_bitCount_0f7a4 23 = .ok (.istore_n 0, 1) := by decide +kernel
theorem dJ6_bitCount_0f7a4_24 : decode cJ6_bitCount_0f7a4 24 = .ok (.iload_n 0, 1) := by decide +kernel
theorem dJ6_bitCount_0f7a4_25 : decode cJ6_bitCount_0f7a4 25 = .ok (.iload_n 0, 1) := by decide +kernel
theorem dJ6_bitCount_0f7a4_26 : decode cJ6_bitCount_0f7a4 26 = .ok (.iconst 4, 1) := by decide +kernel
theorem dJ6_bitCount_0f7a4_27 : decode cJ6_bitCount_0f7a4 27 = .ok (.iushr, 1) := by decide +kernel
theorem dJ6_bitCount_0f7a4_28 : decode cJ6_bitCount_0f7a4 28 = .ok (.iadd, 1) := by decide +kernel
theorem dJ6_bitCount_0f7a4_29 : decode cJ6_bitCount_0f7a4 29 = .ok (.ldc_w 267, 3) := by decide +kernel
theorem dJ6_bitCount_0f7a4_32 : decode cJ6_bitCount_0f7a4 32 = .ok (.iand, 1) := by decide +kernel
theorem dJ6_bitCount_0f7a4_33 : decode cJ6_bitCount_0f7a4 33 = .ok (.istore_n 0, 1) := by decide +kernel
theorem dJ6_bitCount_0f7a4_34 : decode cJ6_bitCount_0f7a4 34 = .ok (.iload_n 0, 1) := by decide +kernel
theorem dJ6_bitCount_0f7a4_35 : decode cJ6_bitCount_0f7a4 35 = .ok (.iload_n 0, 1) := by decide +kernel
theorem dJ6_bitCount_0f7a4_36 : decode cJ6_bitCount_0f7a4 36 = .ok (.bipush 8, 2) := by decide +kernel
theorem dJ6_bitCount_0f7a4_38 : decode cJ6_bitCount_0f7a4 38 = .ok (.iushr, 1) := by decide +kernel
theorem dJ6_bitCount_0f7a4_39 : decode cJ6_bitCount_0f7a4 39 = .ok (.iadd, 1) := by decide +kernel
theorem dJ6_bitCount_0f7a4_40 : decode cJ6_bitCount_0f7a4 40 = .ok (.istore_n 0, 1) := by decide +kernel
theorem dJ6_bitCount_0f7a4_41 : decode cJ6_bitCount_0f7a4 41 = .ok (.iload_n 0, 1) := by decide +kernel
theorem dJ6_bitCount_0f7a4_42 : decode cJ6_bitCount_0f7a4 42 = .ok (.iload_n 0, 1) := by decide +kernel
theorem dJ6_bitCount_0f7a4_43 : decode cJ6_bitCount_0f7a4 43 = .ok (.bipush 16, 2) := by decide +kernel
theorem dJ6_bitCount_0f7a4_45 : decode cJ6_bitCount_0f7a4 45 = .ok (.iushr, 1) := by decide +kernel
theorem dJ6_bitCount_0f7a4_46 : decode cJ6_bitCount_0f7a4 46 = .ok (.iadd, 1) := by decide +kernel
theorem dJ6_bitCount_0f7a4_47 : decode cJ6_bitCount_0f7a4 47 = .ok (.istore_n 0, 1) := by decide +kernel
theorem dJ6_bitCount_0f7a4_48 : decode cJ6_bitCount_0f7a4 48 = .ok (.iload_n 0, 1) := by decide +kernel
theorem dJ6_bitCount_0f7a4_49 : decode cJ6_bitCount_0f7a4 49 = .ok (.bipush 63, 2) := by decide +kernel
theorem dJ6_bitCount_0f7a4_51 : decode cJ6_bitCount_0f7a4 51 = .ok (.iand, 1) := by decide +kernel
theorem dJ6_bitCount_0f7a4_52 : decode cJ6_bitCount_0f7a4 52 = .ok (.ireturn, 1) := by decide +kernel
theorem dJ13_numberOfTrailingZeros_95d88_0 : decode cJ13_numberOfTrailingZeros_95d88 0 = .ok (.lload_n 0, 1) := by decide +kernel
theorem dJ13_numberOfTrailingZeros_95d88_1 : decode cJ13_numberOfTrailingZeros_95d88 1 = .ok (.l2i, 1) := by decide +kernel
theorem dJ13_numberOfTrailingZeros_95d88_2 : decode cJ13_numberOfTrailingZeros_95d88 2 = .ok (.istore_n 2, 1) := by decide +kernel
theorem dJ13_numberOfTrailingZeros_95d88_3 : decode cJ13_numberOfTrailingZeros_95d88 3 = .ok (.iload_n 2, 1) := by decide +kernel
theorem dJ13_numberOfTrailingZeros_95d88_4 : decode cJ13_numberOfTrailingZeros_95d88 4 = .ok (.ifCond .ne 17, 3) := by decide +kernel
theorem dJ13_numberOfTrailingZeros_95d88_7 : decode cJ13_numberOfTrailingZeros_95d88 7 = .ok (.bipush 32, 2) := by decide +kernel
theorem dJ13_numberOfTrailingZeros_95d88_9 : decode cJ13_numberOfTrailingZeros_95d88 9 = .ok (.lload_n 0, 1) := by decide +kernel
theorem dJ13_numberOfTrailingZeros_95d88_10 : decode cJ13_numberOfTrailingZeros_95d88 10 = .ok (.bipush 32, 2) := by decide +kernel
theorem dJ13_numberOfTrailingZeros_95d88_12 : decode cJ13_numberOfTrailingZeros_95d88 12 = .ok (.lushr, 1) := by decide +kernel
theorem dJ13_numberOfTrailingZeros_95d88_13 : decode cJ13_numberOfTrailingZeros_95d88 13 = .ok (.l2i, 1) := by decide +kernel
theorem dJ13_numberOfTrailingZeros_95d88_14 : decode cJ13_numberOfTrailingZeros_95d88 14 = .ok (.invokestatic 311, 3) := by decide +kernel
theorem dJ13_numberOfTrailingZeros_95d88_17 : decode cJ13_numberOfTrailingZeros_95d88 17 = .ok (.iadd, 1) := by decide +kernel
theorem dJ13_numberOfTrailingZeros_95d88_18 : decode cJ13_numberOfTrailingZeros_95d88 18 = .ok (.goto 7, 3) := by decide +kernel
theorem dJ13_numberOfTrailingZeros_95d88_21 : decode cJ13_numberOfTrailingZeros_95d88 21 = .ok (.iload_n 2, 1) := by decide +kernel
theorem dJ13_numberOfTrailingZeros_95d88_22 : decode cJ13_numberOfTrailingZeros_95d88 22 = .ok (.invokestatic 311, 3) := by decide +kernel
theorem dJ13_numberOfTrailingZeros_95d88_25 : decode cJ13_numberOfTrailingZeros_95d88 25 = .ok (.ireturn, 1) := by decide +kernel
theorem dJ9_max_7cf53_0 : decode cJ9_max_7cf53 0 = .ok (.iload_n 0, 1) := by decide +kernel
theorem dJ9_max_7cf53_1 : decode cJ9_max_7cf53 1 = .ok (.iload_n 1, 1) := by decide +kernel
theorem dJ9_max_7cf53_2 : decode cJ9_max_7cf53 2 = .ok (.if_icmp .lt 7, 3) := by decide +kernel
theorem dJ9_max_7cf53_5 : decode cJ9_max_7cf53 5 = .ok (.iload_n 0, 1) := by decide +kernel
theorem dJ9_max_7cf53_6 : decode cJ9_max_7cf53 6 = .ok (.goto 4, 3) := by decide +kernel
theorem dJ9_max_7cf53_9 : decode cJ9_max_7cf53 9 = .ok (.iload_n 1, 1) := by decide +kernel
theorem dJ9_max_7cf53_10 : decode cJ9_max_7cf53 10 = .ok (.ireturn, 1) := by decide +kernel
theorem dJ9_min_7cf53_0 : decode cJ9_min_7cf53 0 = .ok (.iload_n 0, 1) := by decide +kernel
theorem dJ9_min_7cf53_1 : decode cJ9_min_7cf53 1 = .ok (.iload_n 1, 1) := by decide +kernel
theorem dJ9_min_7cf53_2 : decode cJ9_min_7cf53 2 = .ok (.if_icmp .gt 7, 3) := by decide +kernel
theorem dJ9_min_7cf53_5 : decode cJ9_min_7cf53 5 = .ok (.iload_n 0, 1) := by decide +kernel
theorem dJ9_min_7cf53_6 : decode cJ9_min_7cf53 6 = .ok (.goto 4, 3) := by decide +kernel
theorem dJ9_min_7cf53_9 : decode cJ9_min_7cf53 9 = .ok (.iload_n 1, 1) := by decide +kernel
theorem dJ9_min_7cf53_10 : decode cJ9_min_7cf53 10 = .ok (.ireturn, 1) := by decide +kernel
theorem dJ0_length_8abf5_0 : decode cJ0_length_8abf5 0 = .ok (.aload_n 0, 1) := by decide +kernel
theorem dJ0_length_8abf5_1 : decode cJ0_length_8abf5 1 = .ok (.getfield 9, 3) := by decide +kernel
theorem dJ0_length_8abf5_4 : decode cJ0_length_8abf5 4 = .ok (.arraylength, 1) := by decide +kernel
theorem dJ0_length_8abf5_5 : decode cJ0_length_8abf5 5 = .ok (.aload_n 0, 1) := by decide +kernel
theorem dJ0_length_8abf5_6 : decode cJ0_length_8abf5 6 = .ok (.invokevirtual 335, 3) := by decide +kernel
theorem dJ0_length_8abf5_9 : decode cJ0_length_8abf5 9 = .ok (.ishr, 1) := by decide +kernel
theorem dJ0_length_8abf5_10 : decode cJ0_length_8abf5 10 = .ok (.ireturn, 1) := by decide +kernel
theorem dJ0_charAt_5068e_0 : decode cJ0_charAt_5068e 0 = .ok (.aload_n 0, 1) := by decide +kernel
theorem dJ0_charAt_5068e_1 : decode cJ0_charAt_5068e 1 = .ok (.invokevirtual 492, 3) := by decide +kernel
theorem dJ0_charAt_5068e_4 : decode cJ0_charAt_5068e 4 = .ok (.ifCond .eq 12, 3) := by decide +kernel
theorem dJ0_charAt_5068e_7 : decode cJ0_charAt_5068e 7 = .ok (.aload_n 0, 1) := by decide +kernel
theorem dJ0_charAt_5068e_8 : decode cJ0_charAt_5068e 8 = .ok (.getfield 9, 3) := by decide +kernel
theorem dJ0_charAt_5068e_11 : decode cJ0_charAt_5068e 11 = .ok (.iload_n 1, 1) := by decide +kernel
theorem dJ0_charAt_5068e_12 : decode cJ0_charAt_5068e 12 = .ok (.invokestatic 495, 3) := by decide +kernel
theorem dJ0_charAt_5068e_15 : decode cJ0_charAt_5068e 15 = .ok (.ireturn, 1) := by decide +kernel
theorem dJ0_charAt_5068e_16 : decode cJ0_charAt_5068e 16 = .ok (.aload_n 0, 1) := by decide +kernel
theorem dJ0_charAt_5068e_17 : decode cJ0_charAt_5068e 17 = .ok (.getfield 9, 3) := by decide +kernel
theorem dJ0_charAt_5068e_20 : decode cJ0_charAt_5068e 20 = .ok (.iload_n 1, 1) := by decide +kernel
theorem dJ0_charAt_5068e_21 : decode cJ0_charAt_5068e 21 = .ok (.invokestatic 498, 3) := by decide +kernel
theorem dJ0_charAt_5068e_24 : decode cJ0_charAt_5068e 24 = .ok (.ireturn, 1) := by decide +kernel
theorem dJ0_coder_7d493_0 : decode cJ0_coder_7d493 0 = .ok (.getstatic 38, 3) := by decide +kernel
theorem dJ0_coder_7d493_3 : decode cJ0_coder_7d493 3 = .ok (.ifCond .eq 10, 3) := by decide +kernel
theorem dJ0_coder_7d493_6 : decode cJ0_coder_7d493 6 = .ok (.aload_n 0, 1) := by decide +kernel
theorem dJ0_coder_7d493_7 : decode cJ0_coder_7d493 7 = .ok (.getfield 15, 3) := by decide +kernel
theorem dJ0_coder_7d493_10 : decode cJ0_coder_7d493 10 = .ok (.goto 4, 3) := by decide +kernel
theorem dJ0_coder_7d493_13 : decode cJ0_coder_7d493 13 = .ok (.iconst 1, 1) := by decide +kernel
theorem dJ0_coder_7d493_14 : decode cJ0_coder_7d493 14 = .ok (.ireturn, 1) := by decide +kernel
theorem dJ0_isLatin1_aae02_0 : decode cJ0_isLatin1_aae02 0 = .ok (.getstatic 38, 3) := by decide +kernel
theorem dJ0_isLatin1_aae02_3 : decode cJ0_isLatin1_aae02 3 = .ok (.ifCond .eq 14, 3) := by decide +kernel
theorem dJ0_isLatin1_aae02_6 : decode cJ0_isLatin1_aae02 6 = .ok (.aload_n 0, 1) := by decide +kernel
theorem dJ0_isLatin1_aae02_7 : decode cJ0_isLatin1_aae02 7 = .ok (.getfield 15, 3) := by decide +kernel
theorem dJ0_isLatin1_aae02_10 : decode cJ0_isLatin1_aae02 10 = .ok (.ifCond .ne 7, 3) := by decide +kernel
theorem dJ0_isLatin1_aae02_13 : decode cJ0_isLatin1_aae02 13 = .ok (.iconst 1, 1) := by decide +kernel
theorem dJ0_isLatin1_aae02_14 : decode cJ0_isLatin1_aae02 14 = .ok (.goto 4, 3) := by decide +kernel
theorem dJ0_isLatin1_aae02_17 : decode cJ0_isLatin1_aae02 17 = .ok (.iconst 0, 1) := by decide +kernel
theorem dJ0_isLatin1_aae02_18 : decode cJ0_isLatin1_aae02 18 = .ok (.ireturn, 1) := by decide +kernel
theorem dJ0_checkIndex_df160_0 : decode cJ0_checkIndex_df160 0 = .ok (.iload_n 0, 1) := by decide +kernel
theorem dJ0_checkIndex_df160_1 : decode cJ0_checkIndex_df160 1 = .ok (.iload_n 1, 1) := by decide +kernel
theorem dJ0_checkIndex_df160_2 : decode cJ0_checkIndex_df160 2 = .ok (.getstatic 1053, 3) := by decide +kernel
theorem dJ0_checkIndex_df160_5 : decode cJ0_checkIndex_df160 5 = .ok (.invokestatic 1059, 3) := by decide +kernel
theorem dJ0_checkIndex_df160_8 : decode cJ0_checkIndex_df160 8 = .ok (.pop, 1) := by decide +kernel
theorem dJ0_checkIndex_df160_9 : decode cJ0_checkIndex_df160 9 = .ok (.return_, 1) := by decide +kernel
theorem dJ1_charAt_3b067_0 : decode cJ1_charAt_3b067 0 = .ok (.iload_n 1, 1) := by decide +kernel
theorem dJ1_charAt_3b067_1 : decode cJ1_charAt_3b067 1 = .ok (.aload_n 0, 1) := by decide +kernel
theorem dJ1_charAt_3b067_2 : decode cJ1_charAt_3b067 2 = .ok (.arraylength, 1) := by decide +kernel
theorem dJ1_charAt_3b067_3 : decode cJ1_charAt_3b067 3 = .ok (.invokestatic 9, 3) := by decide +kernel
theorem dJ1_charAt_3b067_6 : decode cJ1_charAt_3b067 6 = .ok (.aload_n 0, 1) := by decide +kernel
theorem dJ1_charAt_3b067_7 : decode cJ1_charAt_3b067 7 = .ok (.iload_n 1, 1) := by decide +kernel
theorem dJ1_charAt_3b067_8 : decode cJ1_charAt_3b067 8 = .ok (.baload, 1) := by decide +kernel
theorem dJ1_charAt_3b067_9 : decode cJ1_charAt_3b067 9 = .ok (.sipush 255, 3) := by decide +kernel
theorem dJ1_charAt_3b067_12 : decode cJ1_charAt_3b067 12 = .ok (.iand, 1) := by decide +kernel
theorem dJ1_charAt_3b067_13 : decode cJ1_charAt_3b067 13 = .ok (.i2c, 1) := by decide +kernel
theorem dJ1_charAt_3b067_14 : decode cJ1_charAt_3b067 14 = .ok (.ireturn, 1) := by decide +kernel
theorem dJ2_getChar_3b067_0 : decode cJ2_getChar_3b067 0 = .ok (.getstatic 44, 3) := by decide +kernel
theorem dJ2_getChar_3b067_3 : decode cJ2_getChar_3b067 3 = .ok (.ifCond .ne 25, 3) := by decide +kernel
theorem dJ2_getChar_3b067_6 : decode cJ2_getChar_3b067 6 = .ok (.iload_n 1, 1) := by decide +kernel
theorem dJ2_getChar_3b067_7 : decode cJ2_getChar_3b067 7 = .ok (.ifCond .lt 11, 3) := by decide +kernel
theorem dJ2_getChar_3b067_10 : decode cJ2_getChar_3b067 10 = .ok (.iload_n 1, 1) := by decide +kernel
theorem dJ2_getChar_3b067_11 : decode cJ2_getChar_3b067 11 = .ok (.aload_n 0, 1) := by decide +kernel
theorem dJ2_getChar_3b067_12 : decode cJ2_getChar_3b067 12 = .ok (.invokestatic 48, 3) := by decide +kernel
theorem dJ2_getChar_3b067_15 : decode cJ2_getChar_3b067 15 = .ok (.if_icmp .lt 13, 3) := by decide +kernel
theorem dJ2_getChar_3b067_18 : decode cJ2_getChar_3b067 18 = .ok (.new 52, 3) := by decide +kernel
theorem dJ2_getChar_3b067_21 : decode cJ2_getChar_3b067 21 = .ok (.dup, 1) := by decide +kernel
theorem dJ2_getChar_3b067_22 : decode cJ2_getChar_3b067 22 = .ok (.ldc 54, 2) := by decide +kernel
theorem dJ2_getChar_3b067_24 : decode cJ2_getChar_3b067 24 = .ok (.invokespecial 56, 3) := by decide +kernel
theorem dJ2_getChar_3b067_27 : decode cJ2_getChar_3b067 27 = .ok (.athrow, 1) := by decide +kernel
theorem dJ2_getChar_3b067_28 : decode cJ2_getChar_3b067 28 = .ok (.iload_n 1, 1) := by decide +kernel
theorem dJ2_getChar_3b067_29 : decode cJ2_getChar_3b067 29 = .ok (.iconst 1, 1) := by decide +kernel
theorem dJ2_getChar_3b067_30 : decode cJ2_getChar_3b067 30 = .ok (.ishl, 1) := by decide +kernel
theorem dJ2_getChar_3b067_31 : decode cJ2_getChar_3b067 31 = .ok (.istore_n 1, 1) := by decide +kernel
theorem dJ2_getChar_3b067_32 : decode cJ2_getChar_3b067 32 = .ok (.aload_n 0, 1) := by decide +kernel
theorem dJ2_getChar_3b067_33 : decode cJ2_getChar_3b067 33 = .ok (.iload_n 1, 1) := by decide +kernel
theorem dJ2_getChar_3b067_34 : decode cJ2_getChar_3b067 34 = .ok (.iinc 1 1, 3) := by decide +kernel
theorem dJ2_getChar_3b067_37 : decode cJ2_getChar_3b067 37 = .ok (.baload, 1) := by decide +kernel
theorem dJ2_getChar_3b067_38 : decode cJ2_getChar_3b067 38 = .ok (.sipush 255, 3) := by decide +kernel
theorem dJ2_getChar_3b067_41 : decode cJ2_getChar_3b067 41 = .ok (.iand, 1) := by decide +kernel
theorem dJ2_getChar_3b067_42 : decode cJ2_getChar_3b067 42 = .ok (.getstatic 59, 3) := by decide +kernel
theorem dJ2_getChar_3b067_45 : decode cJ2_getChar_3b067 45 = .ok (.ishl, 1) := by decide +kernel
theorem dJ2_getChar_3b067_46 : decode cJ2_getChar_3b067 46 = .ok (.aload_n 0, 1) := by decide +kernel
theorem dJ2_getChar_3b067_47 : decode cJ2_getChar_3b067 47 = .ok (.iload_n 1, 1) := by decide +kernel
theorem dJ2_getChar_3b067_48 : decode cJ2_getChar_3b067 48 = .ok (.baload, 1) := by decide +kernel
theorem dJ2_getChar_3b067_49 : decode cJ2_getChar_3b067 49 = .ok (.sipush 255, 3) := by decide +kernel
theorem dJ2_getChar_3b067_52 : decode cJ2_getChar_3b067 52 = .ok (.iand, 1) := by decide +kernel
theorem dJ2_getChar_3b067_53 : decode cJ2_getChar_3b067 53 = .ok (.getstatic 63, 3) := by decide +kernel
theorem dJ2_getChar_3b067_56 : decode cJ2_getChar_3b067 56 = .ok (.ishl, 1) := by decide +kernel
theorem dJ2_getChar_3b067_57 : decode cJ2_getChar_3b067 57 = .ok (.ior, 1) := by decide +kernel
theorem dJ2_getChar_3b067_58 : decode cJ2_getChar_3b067 58 = .ok (.i2c, 1) := by decide +kernel
theorem dJ2_getChar_3b067_59 : decode cJ2_getChar_3b067 59 = .ok (.ireturn, 1) := by decide +kernel
theorem dJ2_length_9d52b_0 : decode cJ2_length_9d52b 0 = .ok (.aload_n 0, 1) := by decide +kernel
theorem dJ2_length_9d52b_1 : decode cJ2_length_9d52b 1 = .ok (.arraylength, 1) := by decide +kernel
theorem dJ2_length_9d52b_2 : decode cJ2_length_9d52b 2 = .ok (.iconst 1, 1) := by decide +kernel
theorem dJ2_length_9d52b_3 : decode cJ2_length_9d52b 3 = .ok (.ishr, 1) := by decide +kernel
theorem dJ2_length_9d52b_4 : decode cJ2_length_9d52b 4 = .ok (.ireturn, 1) := by decide +kernel
theorem dJ2_charAt_3b067_0 : decode cJ2_charAt_3b067 0 = .ok (.iload_n 1, 1) := by decide +kernel
theorem dJ2_charAt_3b067_1 : decode cJ2_charAt_3b067 1 = .ok (.aload_n 0, 1) := by decide +kernel
theorem dJ2_charAt_3b067_2 : decode cJ2_charAt_3b067 2 = .ok (.invokestatic 67, 3) := by decide +kernel
theorem dJ2_charAt_3b067_5 : decode cJ2_charAt_3b067 5 = .ok (.aload_n 0, 1) := by decide +kernel
theorem dJ2_charAt_3b067_6 : decode cJ2_charAt_3b067 6 = .ok (.iload_n 1, 1) := by decide +kernel
theorem dJ2_charAt_3b067_7 : decode cJ2_charAt_3b067 7 = .ok (.invokestatic 71, 3) := by decide +kernel
theorem dJ2_charAt_3b067_10 : decode cJ2_charAt_3b067 10 = .ok (.ireturn, 1) := by decide +kernel
theorem dJ2_checkIndex_2214a_0 : decode cJ2_checkIndex_2214a 0 = .ok (.iload_n 0, 1) := by decide +kernel
theorem dJ2_checkIndex_2214a_1 : decode cJ2_checkIndex_2214a 1 = .ok (.aload_n 1, 1) := by decide +kernel
theorem dJ2_checkIndex_2214a_2 : decode cJ2_checkIndex_2214a 2 = .ok (.invokestatic 48, 3) := by decide +kernel
theorem dJ2_checkIndex_2214a_5 : decode cJ2_checkIndex_2214a 5 = .ok (.invokestatic 414, 3) := by decide +kernel
theorem dJ2_checkIndex_2214a_8 : decode cJ2_checkIndex_2214a 8 = .ok (.return_, 1) := by decide +kernel
theorem dJ7_fill_d0a16_0 : decode cJ7_fill_d0a16 0 = .ok (.iconst 0, 1) := by decide +kernel
theorem dJ7_fill_d0a16_1 : decode cJ7_fill_d0a16 1 = .ok (.istore_n 3, 1) := by decide +kernel
theorem dJ7_fill_d0a16_2 : decode cJ7_fill_d0a16 2 = .ok (.aload_n 0, 1) := by decide +kernel
theorem dJ7_fill_d0a16_3 : decode cJ7_fill_d0a16 3 = .ok (.arraylength, 1) := by decide +kernel
theorem dJ7_fill_d0a16_4 : decode cJ7_fill_d0a16 4 = .ok (.istore 4, 2) := by decide +kernel
theorem dJ7_fill_d0a16_6 : decode cJ7_fill_d0a16 6 = .ok (.iload_n 3, 1) := by decide +kernel
theorem dJ7_fill_d0a16_7 : decode cJ7_fill_d0a16 7 = .ok (.iload 4, 2) := by decide +kernel
theorem dJ7_fill_d0a16_9 : decode cJ7_fill_d0a16 9 = .ok (.if_icmp .ge 13, 3) := by decide +kernel
theorem dJ7_fill_d0a16_12 : decode cJ7_fill_d0a16 12 = .ok (.aload_n 0, 1) := by decide +kernel
theorem dJ7_fill_d0a16_13 : decode cJ7_fill_d0a16 13 = .ok (.iload_n 3, 1) := by decide +kernel
theorem dJ7_fill_d0a16_14 : decode cJ7_fill_d0a16 14 = .ok (.lload_n 1, 1) := by decide +kernel
theorem dJ7_fill_d0a16_15 : decode cJ7_fill_d0a16 15 = .ok (.lastore, 1) := by decide +kernel
theorem dJ7_fill_d0a16_16 : decode cJ7_fill_d0a16 16 = .ok (.iinc 3 1, 3) := by decide +kernel
theorem dJ7_fill_d0a16_19 : decode cJ7_fill_d0a16 19 = .ok (.goto (-13), 3) := by decide +kernel
theorem dJ7_fill_d0a16_22 : decode cJ7_fill_d0a16 22 = .ok (.return_, 1) := by decide +kernel
theorem dJ7_fill_53178_0 : decode cJ7_fill_53178 0 = .ok (.iconst 0, 1) := by decide +kernel
theorem dJ7_fill_53178_1 : decode cJ7_fill_53178 1 = .ok (.istore_n 2, 1) := by decide +kernel
theorem dJ7_fill_53178_2 : decode cJ7_fill_53178 2 = .ok (.aload_n 0, 1) := by decide +kernel
theorem dJ7_fill_53178_3 : decode cJ7_fill_53178 3 = .ok (.arraylength, 1) := by decide +kernel
theorem dJ7_fill_53178_4 : decode cJ7_fill_53178 4 = .ok (.istore_n 3, 1) := by decide +kernel
theorem dJ7_fill_53178_5 : decode cJ7_fill_53178 5 = .ok (.iload_n 2, 1) := by decide +kernel
theorem dJ7_fill_53178_6 : decode cJ7_fill_53178 6 = .ok (.iload_n 3, 1) := by decide +kernel
theorem dJ7_fill_53178_7 : decode cJ7_fill_53178 7 = .ok (.if_icmp .ge 13, 3) := by decide +kernel
theorem dJ7_fill_53178_10 : decode cJ7_fill_53178 10 = .ok (.aload_n 0, 1) := by decide +kernel
theorem dJ7_fill_53178_11 : decode cJ7_fill_53178 11 = .ok (.iload_n 2, 1) := by decide +kernel
theorem dJ7_fill_53178_12 : decode cJ7_fill_53178 12 = .ok (.iload_n 1, 1) := by decide +kernel
theorem dJ7_fill_53178_13 : decode cJ7_fill_53178 13 = .ok (.iastore, 1) := by decide +kernel
theorem dJ7_fill_53178_14 : decode cJ7_fill_53178 14 = .ok (.iinc 2 1, 3) := by decide +kernel
theorem dJ7_fill_53178_17 : decode cJ7_fill_53178 17 = .ok (.goto (-12), 3) := by decide +kernel
theorem dJ7_fill_53178_20 : decode cJ7_fill_53178 20 = .ok (.return_, 1) := by decide +kernel
theorem dJ3_checkIndex_8e157_0 : decode cJ3_checkIndex_8e157 0 = .ok (.iload_n 0, 1) := by decide +kernel
theorem dJ3_checkIndex_8e157_1 : decode cJ3_checkIndex_8e157 1 = .ok (.ifCond .lt 8, 3) := by decide +kernel
theorem dJ3_checkIndex_8e157_4 : decode cJ3_checkIndex_8e157 4 = .ok (.iload_n 0, 1) := by decide +kernel
theorem dJ3_checkIndex_8e157_5 : decode cJ3_checkIndex_8e157 5 = .ok (.iload_n 1, 1) := by decide +kernel
theorem dJ3_checkIndex_8e157_6 : decode cJ3_checkIndex_8e157 6 = .ok (.if_icmp .lt 10, 3) := by decide +kernel
theorem dJ3_checkIndex_8e157_9 : decode cJ3_checkIndex_8e157 9 = .ok (.aload_n 2, 1) := by decide +kernel
theorem dJ3_checkIndex_8e157_10 : decode cJ3_checkIndex_8e157 10 = .ok (.iload_n 0, 1) := by decide +kernel
theorem dJ3_checkIndex_8e157_11 : decode cJ3_checkIndex_8e157 11 = .ok (.iload_n 1, 1) := by decide +kernel
theorem dJ3_checkIndex_8e157_12 : decode cJ3_checkIndex_8e157 12 = .ok (.invokestatic 95, 3) := by decide +kernel
theorem dJ3_checkIndex_8e157_15 : decode cJ3_checkIndex_8e157 15 = .ok (.athrow, 1) := by decide +kernel
theorem dJ3_checkIndex_8e157_16 : decode cJ3_checkIndex_8e157 16 = .ok (.iload_n 0, 1) := by decide +kernel
theorem dJ3_checkIndex_8e157_17 : decode cJ3_checkIndex_8e157 17 = .ok (.ireturn, 1) := by decide +kernel
theorem dL_law_0 : decode cL_law 0 = .ok (.new 7, 3) := by decide +kernel
theorem dL_law_3 : decode cL_law 3 = .ok (.dup, 1) := by decide +kernel
theorem dL_law_4 : decode cL_law 4 = .ok (.invokespecial 9, 3) := by decide +kernel
theorem dL_law_7 : decode cL_law 7 = .ok (.astore_n 1, 1) := by decide +kernel
theorem dL_law_8 : decode cL_law 8 = .ok (.new 10, 3) := by decide +kernel
theorem dL_law_11 : decode cL_law 11 = .ok (.dup, 1) := by decide +kernel
theorem dL_law_12 : decode cL_law 12 = .ok (.invokespecial 12, 3) := by decide +kernel
theorem dL_law_15 : decode cL_law 15 = .ok (.astore_n 2, 1) := by decide +kernel
theorem dL_law_16 : decode cL_law 16 = .ok (.iconst 0, 1) := by decide +kernel
theorem dL_law_17 : decode cL_law 17 = .ok (.istore_n 3, 1) := by decide +kernel
theorem dL_law_18 : decode cL_law 18 = .ok (.iload_n 3, 1) := by decide +kernel
theorem dL_law_19 : decode cL_law 19 = .ok (.aload_n 0, 1) := by decide +kernel
theorem dL_law_20 : decode cL_law 20 = .ok (.arraylength, 1) := by decide +kernel
theorem dL_law_21 : decode cL_law 21 = .ok (.bipush 6, 2) := by decide +kernel
theorem dL_law_23 : decode cL_law 23 = .ok (.isub, 1) := by decide +kernel
theorem dL_law_24 : decode cL_law 24 = .ok (.if_icmp .gt 1683, 3) := by decide +kernel
theorem dL_law_27 : decode cL_law 27 = .ok (.aload_n 0, 1) := by decide +kernel
theorem dL_law_28 : decode cL_law 28 = .ok (.iload_n 3, 1) := by decide +kernel
theorem dL_law_29 : decode cL_law 29 = .ok (.iaload, 1) := by decide +kernel
theorem dL_law_30 : decode cL_law 30 = .ok (.bipush 63, 2) := by decide +kernel
theorem dL_law_32 : decode cL_law 32 = .ok (.iand, 1) := by decide +kernel
theorem dL_law_33 : decode cL_law 33 = .ok (.tableswitch 1668 0 42 #[187, 250, 273, 286, 299, 332, 365, 398, 421, 454, 497, 530, 563, 596, 639, 672, 695, 728, 771, 824, 867, 910, 933, 956, 999, 1042, 1075, 1108, 1151, 1184, 1217, 1280, 1303, 1326, 1339, 1352, 1415, 1459, 1503, 1546, 1599, 1622, 1645], 187) := by decide +kernel
theorem dL_law_220 : decode cL_law 220 = .ok (.aload_n 1, 1) := by decide +kernel
theorem dL_law_221 : decode cL_law 221 = .ok (.aload_n 0, 1) := by decide +kernel
theorem dL_law_222 : decode cL_law 222 = .ok (.iload_n 3, 1) := by decide +kernel
theorem dL_law_223 : decode cL_law 223 = .ok (.iconst 1, 1) := by decide +kernel
theorem dL_law_224 : decode cL_law 224 = .ok (.iadd, 1) := by decide +kernel
theorem dL_law_225 : decode cL_law 225 = .ok (.iaload, 1) := by decide +kernel
theorem dL_law_226 : decode cL_law 226 = .ok (.aload_n 0, 1) := by decide +kernel
theorem dL_law_227 : decode cL_law 227 = .ok (.iload_n 3, 1) := by decide +kernel
theorem dL_law_228 : decode cL_law 228 = .ok (.iconst 2, 1) := by decide +kernel
theorem dL_law_229 : decode cL_law 229 = .ok (.iadd, 1) := by decide +kernel
theorem dL_law_230 : decode cL_law 230 = .ok (.iaload, 1) := by decide +kernel
theorem dL_law_231 : decode cL_law 231 = .ok (.aload_n 0, 1) := by decide +kernel
theorem dL_law_232 : decode cL_law 232 = .ok (.iload_n 3, 1) := by decide +kernel
theorem dL_law_233 : decode cL_law 233 = .ok (.iconst 3, 1) := by decide +kernel
theorem dL_law_234 : decode cL_law 234 = .ok (.iadd, 1) := by decide +kernel
theorem dL_law_235 : decode cL_law 235 = .ok (.iaload, 1) := by decide +kernel
theorem dL_law_236 : decode cL_law 236 = .ok (.aload_n 0, 1) := by decide +kernel
theorem dL_law_237 : decode cL_law 237 = .ok (.iload_n 3, 1) := by decide +kernel
theorem dL_law_238 : decode cL_law 238 = .ok (.iconst 4, 1) := by decide +kernel
theorem dL_law_239 : decode cL_law 239 = .ok (.iadd, 1) := by decide +kernel
theorem dL_law_240 : decode cL_law 240 = .ok (.iaload, 1) := by decide +kernel
theorem dL_law_241 : decode cL_law 241 = .ok (.aload_n 0, 1) := by decide +kernel
theorem dL_law_242 : decode cL_law 242 = .ok (.iload_n 3, 1) := by decide +kernel
theorem dL_law_243 : decode cL_law 243 = .ok (.iconst 5, 1) := by decide +kernel
theorem dL_law_244 : decode cL_law 244 = .ok (.iadd, 1) := by decide +kernel
theorem dL_law_245 : decode cL_law 245 = .ok (.iaload, 1) := by decide +kernel
theorem dL_law_246 : decode cL_law 246 = .ok (.invokevirtual 13, 3) := by decide +kernel
theorem dL_law_249 : decode cL_law 249 = .ok (.aload_n 2, 1) := by decide +kernel
theorem dL_law_250 : decode cL_law 250 = .ok (.aload_n 0, 1) := by decide +kernel
theorem dL_law_251 : decode cL_law 251 = .ok (.iload_n 3, 1) := by decide +kernel
theorem dL_law_252 : decode cL_law 252 = .ok (.iconst 1, 1) := by decide +kernel
theorem dL_law_253 : decode cL_law 253 = .ok (.iadd, 1) := by decide +kernel
theorem dL_law_254 : decode cL_law 254 = .ok (.iaload, 1) := by decide +kernel
theorem dL_law_255 : decode cL_law 255 = .ok (.aload_n 0, 1) := by decide +kernel
theorem dL_law_256 : decode cL_law 256 = .ok (.iload_n 3, 1) := by decide +kernel
theorem dL_law_257 : decode cL_law 257 = .ok (.iconst 2, 1) := by decide +kernel
theorem dL_law_258 : decode cL_law 258 = .ok (.iadd, 1) := by decide +kernel
theorem dL_law_259 : decode cL_law 259 = .ok (.iaload, 1) := by decide +kernel
theorem dL_law_260 : decode cL_law 260 = .ok (.aload_n 0, 1) := by decide +kernel
theorem dL_law_261 : decode cL_law 261 = .ok (.iload_n 3, 1) := by decide +kernel
theorem dL_law_262 : decode cL_law 262 = .ok (.iconst 3, 1) := by decide +kernel
theorem dL_law_263 : decode cL_law 263 = .ok (.iadd, 1) := by decide +kernel
theorem dL_law_264 : decode cL_law 264 = .ok (.iaload, 1) := by decide +kernel
theorem dL_law_265 : decode cL_law 265 = .ok (.aload_n 0, 1) := by decide +kernel
theorem dL_law_266 : decode cL_law 266 = .ok (.iload_n 3, 1) := by decide +kernel
theorem dL_law_267 : decode cL_law 267 = .ok (.iconst 4, 1) := by decide +kernel
theorem dL_law_268 : decode cL_law 268 = .ok (.iadd, 1) := by decide +kernel
theorem dL_law_269 : decode cL_law 269 = .ok (.iaload, 1) := by decide +kernel
theorem dL_law_270 : decode cL_law 270 = .ok (.aload_n 0, 1) := by decide +kernel
theorem dL_law_271 : decode cL_law 271 = .ok (.iload_n 3, 1) := by decide +kernel
theorem dL_law_272 : decode cL_law 272 = .ok (.iconst 5, 1) := by decide +kernel
theorem dL_law_273 : decode cL_law 273 = .ok (.iadd, 1) := by decide +kernel
theorem dL_law_274 : decode cL_law 274 = .ok (.iaload, 1) := by decide +kernel
theorem dL_law_275 : decode cL_law 275 = .ok (.invokevirtual 17, 3) := by decide +kernel
theorem dL_law_278 : decode cL_law 278 = .ok (.if_icmp .eq 1423, 3) := by decide +kernel
theorem dL_law_281 : decode cL_law 281 = .ok (.iconst 0, 1) := by decide +kernel
theorem dL_law_282 : decode cL_law 282 = .ok (.ireturn, 1) := by decide +kernel
theorem dL_law_283 : decode cL_law 283 = .ok (.aload_n 1, 1) := by decide +kernel
theorem dL_law_284 : decode cL_law 284 = .ok (.aload_n 0, 1) := by decide +kernel
theorem dL_law_285 : decode cL_law 285 = .ok (.iload_n 3, 1) := by decide +kernel
theorem dL_law_286 : decode cL_law 286 = .ok (.iconst 1, 1) := by decide +kernel
theorem dL_law_287 : decode cL_law 287 = .ok (.iadd, 1) := by decide +kernel
theorem dL_law_288 : decode cL_law 288 = .ok (.iaload, 1) := by decide +kernel
theorem dL_law_289 : decode cL_law 289 = .ok (.invokevirtual 18, 3) := by decide +kernel
theorem dL_law_292 : decode cL_law 292 = .ok (.aload_n 2, 1) := by decide +kernel
theorem dL_law_293 : decode cL_law 293 = .ok (.aload_n 0, 1) := by decide +kernel
theorem dL_law_294 : decode cL_law 294 = .ok (.iload_n 3, 1) := by decide +kernel
theorem dL_law_295 : decode cL_law 295 = .ok (.iconst 1, 1) := by decide +kernel
theorem dL_law_296 : decode cL_law 296 = .ok (.iadd, 1) := by decide +kernel
theorem dL_law_297 : decode cL_law 297 = .ok (.iaload, 1) := by decide +kernel
theorem dL_law_298 : decode cL_law 298 = .ok (.invokevirtual 22, 3) := by decide +kernel
theorem dL_law_301 : decode cL_law 301 = .ok (.if_icmp .eq 1400, 3) := by decide +kernel
theorem dL_law_304 : decode cL_law 304 = .ok (.iconst 0, 1) := by decide +kernel
theorem dL_law_305 : decode cL_law 305 = .ok (.ireturn, 1) := by decide +kernel
theorem dL_law_306 : decode cL_law 306 = .ok (.aload_n 1, 1) := by decide +kernel
theorem dL_law_307 : decode cL_law 307 = .ok (.invokevirtual 23, 3) := by decide +kernel
theorem dL_law_310 : decode cL_law 310 = .ok (.aload_n 2, 1) := by decide +kernel
theorem dL_law_311 : decode cL_law 311 = .ok (.invokevirtual 27, 3) := by decide +kernel
theorem dL_law_314 : decode cL_law 314 = .ok (.if_icmp .eq 1387, 3) := by decide +kernel
theorem dL_law_317 : decode cL_law 317 = .ok (.iconst 0, 1) := by decide +kernel
theorem dL_law_318 : decode cL_law 318 = .ok (.ireturn, 1) := by decide +kernel
theorem dL_law_319 : decode cL_law 319 = .ok (.aload_n 1, 1) := by decide +kernel
theorem dL_law_320 : decode cL_law 320 = .ok (.invokevirtual 28, 3) := by decide +kernel
theorem dL_law_323 : decode cL_law 323 = .ok (.aload_n 2, 1) := by decide +kernel
theorem dL_law_324 : decode cL_law 324 = .ok (.invokevirtual 31, 3) := by decide +kernel
theorem dL_law_327 : decode cL_law 327 = .ok (.if_icmp .eq 1374, 3) := by decide +kernel
theorem dL_law_330 : decode cL_law 330 = .ok (.iconst 0, 1) := by decide +kernel
theorem dL_law_331 : decode cL_law 331 = .ok (.ireturn, 1) := by decide +kernel
theorem dL_law_332 : decode cL_law 332 = .ok (.aload_n 1, 1) := by decide +kernel
theorem dL_law_333 : decode cL_law 333 = .ok (.aload_n 0, 1) := by decide +kernel
theorem dL_law_334 : decode cL_law 334 = .ok (.iload_n 3, 1) := by decide +kernel
theorem dL_law_335 : decode cL_law 335 = .ok (.iconst 1, 1) := by decide +kernel
theorem dL_law_336 : decode cL_law 336 = .ok (.iadd, 1) := by decide +kernel
theorem dL_law_337 : decode cL_law 337 = .ok (.iaload, 1) := by decide +kernel
theorem dL_law_338 : decode cL_law 338 = .ok (.aload_n 0, 1) := by decide +kernel
theorem dL_law_339 : decode cL_law 339 = .ok (.iload_n 3, 1) := by decide +kernel
theorem dL_law_340 : decode cL_law 340 = .ok (.iconst 2, 1) := by decide +kernel
theorem dL_law_341 : decode cL_law 341 = .ok (.iadd, 1) := by decide +kernel
theorem dL_law_342 : decode cL_law 342 = .ok (.iaload, 1) := by decide +kernel
theorem dL_law_343 : decode cL_law 343 = .ok (.invokevirtual 32, 3) := by decide +kernel
theorem dL_law_346 : decode cL_law 346 = .ok (.aload_n 2, 1) := by decide +kernel
theorem dL_law_347 : decode cL_law 347 = .ok (.aload_n 0, 1) := by decide +kernel
theorem dL_law_348 : decode cL_law 348 = .ok (.iload_n 3, 1) := by decide +kernel
theorem dL_law_349 : decode cL_law 349 = .ok (.iconst 1, 1) := by decide +kernel
theorem dL_law_350 : decode cL_law 350 = .ok (.iadd, 1) := by decide +kernel
theorem dL_law_351 : decode cL_law 351 = .ok (.iaload, 1) := by decide +kernel
theorem dL_law_352 : decode cL_law 352 = .ok (.aload_n 0, 1) := by decide +kernel
theorem dL_law_353 : decode cL_law 353 = .ok (.iload_n 3, 1) := by decide +kernel
theorem dL_law_354 : decode cL_law 354 = .ok (.iconst 2, 1) := by decide +kernel
theorem dL_law_355 : decode cL_law 355 = .ok (.iadd, 1) := by decide +kernel
theorem dL_law_356 : decode cL_law 356 = .ok (.iaload, 1) := by decide +kernel
theorem dL_law_357 : decode cL_law 357 = .ok (.invokevirtual 36, 3) := by decide +kernel
theorem dL_law_360 : decode cL_law 360 = .ok (.if_icmp .eq 1341, 3) := by decide +kernel
theorem dL_law_363 : decode cL_law 363 = .ok (.iconst 0, 1) := by decide +kernel
theorem dL_law_364 : decode cL_law 364 = .ok (.ireturn, 1) := by decide +kernel
theorem dL_law_365 : decode cL_law 365 = .ok (.aload_n 1, 1) := by decide +kernel
theorem dL_law_366 : decode cL_law 366 = .ok (.aload_n 0, 1) := by decide +kernel
theorem dL_law_367 : decode cL_law 367 = .ok (.iload_n 3, 1) := by decide +kernel
theorem dL_law_368 : decode cL_law 368 = .ok (.iconst 1, 1) := by decide +kernel
theorem dL_law_369 : decode cL_law 369 = .ok (.iadd, 1) := by decide +kernel
theorem dL_law_370 : decode cL_law 370 = .ok (.iaload, 1) := by decide +kernel
theorem dL_law_371 : decode cL_law 371 = .ok (.aload_n 0, 1) := by decide +kernel
theorem dL_law_372 : decode cL_law 372 = .ok (.iload_n 3, 1) := by decide +kernel
theorem dL_law_373 : decode cL_law 373 = .ok (.iconst 2, 1) := by decide +kernel
theorem dL_law_374 : decode cL_law 374 = .ok (.iadd, 1) := by decide +kernel
theorem dL_law_375 : decode cL_law 375 = .ok (.iaload, 1) := by decide +kernel
theorem dL_law_376 : decode cL_law 376 = .ok (.invokevirtual 37, 3) := by decide +kernel
theorem dL_law_379 : decode cL_law 379 = .ok (.aload_n 2, 1) := by decide +kernel
theorem dL_law_380 : decode cL_law 380 = .ok (.aload_n 0, 1) := by decide +kernel
theorem dL_law_381 : decode cL_law 381 = .ok (.iload_n 3, 1) := by decide +kernel
theorem dL_law_382 : decode cL_law 382 = .ok (.iconst 1, 1) := by decide +kernel
theorem dL_law_383 : decode cL_law 383 = .ok (.iadd, 1) := by decide +kernel
theorem dL_law_384 : decode cL_law 384 = .ok (.iaload, 1) := by decide +kernel
theorem dL_law_385 : decode cL_law 385 = .ok (.aload_n 0, 1) := by decide +kernel
theorem dL_law_386 : decode cL_law 386 = .ok (.iload_n 3, 1) := by decide +kernel
theorem dL_law_387 : decode cL_law 387 = .ok (.iconst 2, 1) := by decide +kernel
theorem dL_law_388 : decode cL_law 388 = .ok (.iadd, 1) := by decide +kernel
theorem dL_law_389 : decode cL_law 389 = .ok (.iaload, 1) := by decide +kernel
theorem dL_law_390 : decode cL_law 390 = .ok (.invokevirtual 40, 3) := by decide +kernel
theorem dL_law_393 : decode cL_law 393 = .ok (.if_icmp .eq 1308, 3) := by decide +kernel
theorem dL_law_396 : decode cL_law 396 = .ok (.iconst 0, 1) := by decide +kernel
theorem dL_law_397 : decode cL_law 397 = .ok (.ireturn, 1) := by decide +kernel
theorem dL_law_398 : decode cL_law 398 = .ok (.aload_n 1, 1) := by decide +kernel
theorem dL_law_399 : decode cL_law 399 = .ok (.aload_n 0, 1) := by decide +kernel
theorem dL_law_400 : decode cL_law 400 = .ok (.iload_n 3, 1) := by decide +kernel
theorem dL_law_401 : decode cL_law 401 = .ok (.iconst 1, 1) := by decide +kernel
theorem dL_law_402 : decode cL_law 402 = .ok (.iadd, 1) := by decide +kernel
theorem dL_law_403 : decode cL_law 403 = .ok (.iaload, 1) := by decide +kernel
theorem dL_law_404 : decode cL_law 404 = .ok (.aload_n 0, 1) := by decide +kernel
theorem dL_law_405 : decode cL_law 405 = .ok (.iload_n 3, 1) := by decide +kernel
theorem dL_law_406 : decode cL_law 406 = .ok (.iconst 2, 1) := by decide +kernel
theorem dL_law_407 : decode cL_law 407 = .ok (.iadd, 1) := by decide +kernel
theorem dL_law_408 : decode cL_law 408 = .ok (.iaload, 1) := by decide +kernel
theorem dL_law_409 : decode cL_law 409 = .ok (.invokevirtual 41, 3) := by decide +kernel
theorem dL_law_412 : decode cL_law 412 = .ok (.aload_n 2, 1) := by decide +kernel
theorem dL_law_413 : decode cL_law 413 = .ok (.aload_n 0, 1) := by decide +kernel
theorem dL_law_414 : decode cL_law 414 = .ok (.iload_n 3, 1) := by decide +kernel
theorem dL_law_415 : decode cL_law 415 = .ok (.iconst 1, 1) := by decide +kernel
theorem dL_law_416 : decode cL_law 416 = .ok (.iadd, 1) := by decide +kernel
theorem dL_law_417 : decode cL_law 417 = .ok (.iaload, 1) := by decide +kernel
theorem dL_law_418 : decode cL_law 418 = .ok (.aload_n 0, 1) := by decide +kernel
theorem dL_law_419 : decode cL_law 419 = .ok (.iload_n 3, 1) := by decide +kernel
theorem dL_law_420 : decode cL_law 420 = .ok (.iconst 2, 1) := by decide +kernel
theorem dL_law_421 : decode cL_law 421 = .ok (.iadd, 1) := by decide +kernel
theorem dL_law_422 : decode cL_law 422 = .ok (.iaload, 1) := by decide +kernel
theorem dL_law_423 : decode cL_law 423 = .ok (.invokevirtual 44, 3) := by decide +kernel
theorem dL_law_426 : decode cL_law 426 = .ok (.if_icmp .eq 1275, 3) := by decide +kernel
theorem dL_law_429 : decode cL_law 429 = .ok (.iconst 0, 1) := by decide +kernel
theorem dL_law_430 : decode cL_law 430 = .ok (.ireturn, 1) := by decide +kernel
theorem dL_law_431 : decode cL_law 431 = .ok (.aload_n 1, 1) := by decide +kernel
theorem dL_law_432 : decode cL_law 432 = .ok (.aload_n 0, 1) := by decide +kernel
theorem dL_law_433 : decode cL_law 433 = .ok (.iload_n 3, 1) := by decide +kernel
theorem dL_law_434 : decode cL_law 434 = .ok (.iconst 1, 1) := by decide +kernel
theorem dL_law_435 : decode cL_law 435 = .ok (.iadd, 1) := by decide +kernel
theorem dL_law_436 : decode cL_law 436 = .ok (.iaload, 1) := by decide +kernel
theorem dL_law_437 : decode cL_law 437 = .ok (.invokevirtual 45, 3) := by decide +kernel
theorem dL_law_440 : decode cL_law 440 = .ok (.aload_n 2, 1) := by decide +kernel
theorem dL_law_441 : decode cL_law 441 = .ok (.aload_n 0, 1) := by decide +kernel
theorem dL_law_442 : decode cL_law 442 = .ok (.iload_n 3, 1) := by decide +kernel
theorem dL_law_443 : decode cL_law 443 = .ok (.iconst 1, 1) := by decide +kernel
theorem dL_law_444 : decode cL_law 444 = .ok (.iadd, 1) := by decide +kernel
theorem dL_law_445 : decode cL_law 445 = .ok (.iaload, 1) := by decide +kernel
theorem dL_law_446 : decode cL_law 446 = .ok (.invokevirtual 48, 3) := by decide +kernel
theorem dL_law_449 : decode cL_law 449 = .ok (.if_icmp .eq 1252, 3) := by decide +kernel
theorem dL_law_452 : decode cL_law 452 = .ok (.iconst 0, 1) := by decide +kernel
theorem dL_law_453 : decode cL_law 453 = .ok (.ireturn, 1) := by decide +kernel
theorem dL_law_454 : decode cL_law 454 = .ok (.aload_n 1, 1) := by decide +kernel
theorem dL_law_455 : decode cL_law 455 = .ok (.aload_n 0, 1) := by decide +kernel
theorem dL_law_456 : decode cL_law 456 = .ok (.iload_n 3, 1) := by decide +kernel
theorem dL_law_457 : decode cL_law 457 = .ok (.iconst 1, 1) := by decide +kernel
theorem dL_law_458 : decode cL_law 458 = .ok (.iadd, 1) := by decide +kernel
theorem dL_law_459 : decode cL_law 459 = .ok (.iaload, 1) := by decide +kernel
theorem dL_law_460 : decode cL_law 460 = .ok (.aload_n 0, 1) := by decide +kernel
theorem dL_law_461 : decode cL_law 461 = .ok (.iload_n 3, 1) := by decide +kernel
theorem dL_law_462 : decode cL_law 462 = .ok (.iconst 2, 1) := by decide +kernel
theorem dL_law_463 : decode cL_law 463 = .ok (.iadd, 1) := by decide +kernel
theorem dL_law_464 : decode cL_law 464 = .ok (.iaload, 1) := by decide +kernel
theorem dL_law_465 : decode cL_law 465 = .ok (.invokevirtual 49, 3) := by decide +kernel
theorem dL_law_468 : decode cL_law 468 = .ok (.aload_n 2, 1) := by decide +kernel
theorem dL_law_469 : decode cL_law 469 = .ok (.aload_n 0, 1) := by decide +kernel
theorem dL_law_470 : decode cL_law 470 = .ok (.iload_n 3, 1) := by decide +kernel
theorem dL_law_471 : decode cL_law 471 = .ok (.iconst 1, 1) := by decide +kernel
theorem dL_law_472 : decode cL_law 472 = .ok (.iadd, 1) := by decide +kernel
theorem dL_law_473 : decode cL_law 473 = .ok (.iaload, 1) := by decide +kernel
theorem dL_law_474 : decode cL_law 474 = .ok (.aload_n 0, 1) := by decide +kernel
theorem dL_law_475 : decode cL_law 475 = .ok (.iload_n 3, 1) := by decide +kernel
theorem dL_law_476 : decode cL_law 476 = .ok (.iconst 2, 1) := by decide +kernel
theorem dL_law_477 : decode cL_law 477 = .ok (.iadd, 1) := by decide +kernel
theorem dL_law_478 : decode cL_law 478 = .ok (.iaload, 1) := by decide +kernel
theorem dL_law_479 : decode cL_law 479 = .ok (.invokevirtual 52, 3) := by decide +kernel
theorem dL_law_482 : decode cL_law 482 = .ok (.if_icmp .eq 1219, 3) := by decide +kernel
theorem dL_law_485 : decode cL_law 485 = .ok (.iconst 0, 1) := by decide +kernel
theorem dL_law_486 : decode cL_law 486 = .ok (.ireturn, 1) := by decide +kernel
theorem dL_law_487 : decode cL_law 487 = .ok (.aload_n 1, 1) := by decide +kernel
theorem dL_law_488 : decode cL_law 488 = .ok (.aload_n 0, 1) := by decide +kernel
theorem dL_law_489 : decode cL_law 489 = .ok (.iload_n 3, 1) := by decide +kernel
theorem dL_law_490 : decode cL_law 490 = .ok (.iconst 1, 1) := by decide +kernel
theorem dL_law_491 : decode cL_law 491 = .ok (.iadd, 1) := by decide +kernel
theorem dL_law_492 : decode cL_law 492 = .ok (.iaload, 1) := by decide +kernel
theorem dL_law_493 : decode cL_law 493 = .ok (.aload_n 0, 1) := by decide +kernel
theorem dL_law_494 : decode cL_law 494 = .ok (.iload_n 3, 1) := by decide +kernel
theorem dL_law_495 : decode cL_law 495 = .ok (.iconst 2, 1) := by decide +kernel
theorem dL_law_496 : decode cL_law 496 = .ok (.iadd, 1) := by decide +kernel
theorem dL_law_497 : decode cL_law 497 = .ok (.iaload, 1) := by decide +kernel
theorem dL_law_498 : decode cL_law 498 = .ok (.aload_n 0, 1) := by decide +kernel
theorem dL_law_499 : decode cL_law 499 = .ok (.iload_n 3, 1) := by decide +kernel
theorem dL_law_500 : decode cL_law 500 = .ok (.iconst 3, 1) := by decide +kernel
theorem dL_law_501 : decode cL_law 501 = .ok (.iadd, 1) := by decide +kernel
theorem dL_law_502 : decode cL_law 502 = .ok (.iaload, 1) := by decide +kernel
theorem dL_law_503 : decode cL_law 503 = .ok (.invokevirtual 53, 3) := by decide +kernel
theorem dL_law_506 : decode cL_law 506 = .ok (.aload_n 2, 1) := by decide +kernel
theorem dL_law_507 : decode cL_law 507 = .ok (.aload_n 0, 1) := by decide +kernel
theorem dL_law_508 : decode cL_law 508 = .ok (.iload_n 3, 1) := by decide +kernel
theorem dL_law_509 : decode cL_law 509 = .ok (.iconst 1, 1) := by decide +kernel
theorem dL_law_510 : decode cL_law 510 = .ok (.iadd, 1) := by decide +kernel
theorem dL_law_511 : decode cL_law 511 = .ok (.iaload, 1) := by decide +kernel
theorem dL_law_512 : decode cL_law 512 = .ok (.aload_n 0, 1) := by decide +kernel
theorem dL_law_513 : decode cL_law 513 = .ok (.iload_n 3, 1) := by decide +kernel
theorem dL_law_514 : decode cL_law 514 = .ok (.iconst 2, 1) := by decide +kernel
theorem dL_law_515 : decode cL_law 515 = .ok (.iadd, 1) := by decide +kernel
theorem dL_law_516 : decode cL_law 516 = .ok (.iaload, 1) := by decide +kernel
theorem dL_law_517 : decode cL_law 517 = .ok (.aload_n 0, 1) := by decide +kernel
theorem dL_law_518 : decode cL_law 518 = .ok (.iload_n 3, 1) := by decide +kernel
theorem dL_law_519 : decode cL_law 519 = .ok (.iconst 3, 1) := by decide +kernel
theorem dL_law_520 : decode cL_law 520 = .ok (.iadd, 1) := by decide +kernel
theorem dL_law_521 : decode cL_law 521 = .ok (.iaload, 1) := by decide +kernel
theorem dL_law_522 : decode cL_law 522 = .ok (.invokevirtual 57, 3) := by decide +kernel
theorem dL_law_525 : decode cL_law 525 = .ok (.if_icmp .eq 1176, 3) := by decide +kernel
theorem dL_law_528 : decode cL_law 528 = .ok (.iconst 0, 1) := by decide +kernel
theorem dL_law_529 : decode cL_law 529 = .ok (.ireturn, 1) := by decide +kernel
theorem dL_law_530 : decode cL_law 530 = .ok (.aload_n 1, 1) := by decide +kernel
theorem dL_law_531 : decode cL_law 531 = .ok (.aload_n 0, 1) := by decide +kernel
theorem dL_law_532 : decode cL_law 532 = .ok (.iload_n 3, 1) := by decide +kernel
theorem dL_law_533 : decode cL_law 533 = .ok (.iconst 1, 1) := by decide +kernel
theorem dL_law_534 : decode cL_law 534 = .ok (.iadd, 1) := by decide +kernel
theorem dL_law_535 : decode cL_law 535 = .ok (.iaload, 1) := by decide +kernel
theorem dL_law_536 : decode cL_law 536 = .ok (.aload_n 0, 1) := by decide +kernel
theorem dL_law_537 : decode cL_law 537 = .ok (.iload_n 3, 1) := by decide +kernel
theorem dL_law_538 : decode cL_law 538 = .ok (.iconst 2, 1) := by decide +kernel
theorem dL_law_539 : decode cL_law 539 = .ok (.iadd, 1) := by decide +kernel
theorem dL_law_540 : decode cL_law 540 = .ok (.iaload, 1) := by decide +kernel
theorem dL_law_541 : decode cL_law 541 = .ok (.invokevirtual 58, 3) := by decide +kernel
theorem dL_law_544 : decode cL_law 544 = .ok (.aload_n 2, 1) := by decide +kernel
theorem dL_law_545 : decode cL_law 545 = .ok (.aload_n 0, 1) := by decide +kernel
theorem dL_law_546 : decode cL_law 546 = .ok (.iload_n 3, 1) := by decide +kernel
theorem dL_law_547 : decode cL_law 547 = .ok (.iconst 1, 1) := by decide +kernel
theorem dL_law_548 : decode cL_law 548 = .ok (.iadd, 1) := by decide +kernel
theorem dL_law_549 : decode cL_law 549 = .ok (.iaload, 1) := by decide +kernel
theorem dL_law_550 : decode cL_law 550 = .ok (.aload_n 0, 1) := by decide +kernel
theorem dL_law_551 : decode cL_law 551 = .ok (.iload_n 3, 1) := by decide +kernel
theorem dL_law_552 : decode cL_law 552 = .ok (.iconst 2, 1) := by decide +kernel
theorem dL_law_553 : decode cL_law 553 = .ok (.iadd, 1) := by decide +kernel
theorem dL_law_554 : decode cL_law 554 = .ok (.iaload, 1) := by decide +kernel
theorem dL_law_555 : decode cL_law 555 = .ok (.invokevirtual 61, 3) := by decide +kernel
theorem dL_law_558 : decode cL_law 558 = .ok (.if_icmp .eq 1143, 3) := by decide +kernel
theorem dL_law_561 : decode cL_law 561 = .ok (.iconst 0, 1) := by decide +kernel
theorem dL_law_562 : decode cL_law 562 = .ok (.ireturn, 1) := by decide +kernel
theorem dL_law_563 : decode cL_law 563 = .ok (.aload_n 1, 1) := by decide +kernel
theorem dL_law_564 : decode cL_law 564 = .ok (.aload_n 0, 1) := by decide +kernel
theorem dL_law_565 : decode cL_law 565 = .ok (.iload_n 3, 1) := by decide +kernel
theorem dL_law_566 : decode cL_law 566 = .ok (.iconst 1, 1) := by decide +kernel
theorem dL_law_567 : decode cL_law 567 = .ok (.iadd, 1) := by decide +kernel
theorem dL_law_568 : decode cL_law 568 = .ok (.iaload, 1) := by decide +kernel
theorem dL_law_569 : decode cL_law 569 = .ok (.aload_n 0, 1) := by decide +kernel
theorem dL_law_570 : decode cL_law 570 = .ok (.iload_n 3, 1) := by decide +kernel
theorem dL_law_571 : decode cL_law 571 = .ok (.iconst 2, 1) := by decide +kernel
theorem dL_law_572 : decode cL_law 572 = .ok (.iadd, 1) := by decide +kernel
theorem dL_law_573 : decode cL_law 573 = .ok (.iaload, 1) := by decide +kernel
theorem dL_law_574 : decode cL_law 574 = .ok (.invokevirtual 62, 3) := by decide +kernel
theorem dL_law_577 : decode cL_law 577 = .ok (.aload_n 2, 1) := by decide +kernel
theorem dL_law_578 : decode cL_law 578 = .ok (.aload_n 0, 1) := by decide +kernel
theorem dL_law_579 : decode cL_law 579 = .ok (.iload_n 3, 1) := by decide +kernel
theorem dL_law_580 : decode cL_law 580 = .ok (.iconst 1, 1) := by decide +kernel
theorem dL_law_581 : decode cL_law 581 = .ok (.iadd, 1) := by decide +kernel
theorem dL_law_582 : decode cL_law 582 = .ok (.iaload, 1) := by decide +kernel
theorem dL_law_583 : decode cL_law 583 = .ok (.aload_n 0, 1) := by decide +kernel
theorem dL_law_584 : decode cL_law 584 = .ok (.iload_n 3, 1) := by decide +kernel
theorem dL_law_585 : decode cL_law 585 = .ok (.iconst 2, 1) := by decide +kernel
theorem dL_law_586 : decode cL_law 586 = .ok (.iadd, 1) := by decide +kernel
theorem dL_law_587 : decode cL_law 587 = .ok (.iaload, 1) := by decide +kernel
theorem dL_law_588 : decode cL_law 588 = .ok (.invokevirtual 65, 3) := by decide +kernel
theorem dL_law_591 : decode cL_law 591 = .ok (.if_icmp .eq 1110, 3) := by decide +kernel
theorem dL_law_594 : decode cL_law 594 = .ok (.iconst 0, 1) := by decide +kernel
theorem dL_law_595 : decode cL_law 595 = .ok (.ireturn, 1) := by decide +kernel
theorem dL_law_596 : decode cL_law 596 = .ok (.aload_n 1, 1) := by decide +kernel
theorem dL_law_597 : decode cL_law 597 = .ok (.aload_n 0, 1) := by decide +kernel
theorem dL_law_598 : decode cL_law 598 = .ok (.iload_n 3, 1) := by decide +kernel
theorem dL_law_599 : decode cL_law 599 = .ok (.iconst 1, 1) := by decide +kernel
theorem dL_law_600 : decode cL_law 600 = .ok (.iadd, 1) := by decide +kernel
theorem dL_law_601 : decode cL_law 601 = .ok (.iaload, 1) := by decide +kernel
theorem dL_law_602 : decode cL_law 602 = .ok (.aload_n 0, 1) := by decide +kernel
theorem dL_law_603 : decode cL_law 603 = .ok (.iload_n 3, 1) := by decide +kernel
theorem dL_law_604 : decode cL_law 604 = .ok (.iconst 2, 1) := by decide +kernel
theorem dL_law_605 : decode cL_law 605 = .ok (.iadd, 1) := by decide +kernel
theorem dL_law_606 : decode cL_law 606 = .ok (.iaload, 1) := by decide +kernel
theorem dL_law_607 : decode cL_law 607 = .ok (.invokevirtual 66, 3) := by decide +kernel
theorem dL_law_610 : decode cL_law 610 = .ok (.aload_n 2, 1) := by decide +kernel
theorem dL_law_611 : decode cL_law 611 = .ok (.aload_n 0, 1) := by decide +kernel
theorem dL_law_612 : decode cL_law 612 = .ok (.iload_n 3, 1) := by decide +kernel
theorem dL_law_613 : decode cL_law 613 = .ok (.iconst 1, 1) := by decide +kernel
theorem dL_law_614 : decode cL_law 614 = .ok (.iadd, 1) := by decide +kernel
theorem dL_law_615 : decode cL_law 615 = .ok (.iaload, 1) := by decide +kernel
theorem dL_law_616 : decode cL_law 616 = .ok (.aload_n 0, 1) := by decide +kernel
theorem dL_law_617 : decode cL_law 617 = .ok (.iload_n 3, 1) := by decide +kernel
theorem dL_law_618 : decode cL_law 618 = .ok (.iconst 2, 1) := by decide +kernel
theorem dL_law_619 : decode cL_law 619 = .ok (.iadd, 1) := by decide +kernel
theorem dL_law_620 : decode cL_law 620 = .ok (.iaload, 1) := by decide +kernel
theorem dL_law_621 : decode cL_law 621 = .ok (.invokevirtual 69, 3) := by decide +kernel
theorem dL_law_624 : decode cL_law 624 = .ok (.if_icmp .eq 1077, 3) := by decide +kernel
theorem dL_law_627 : decode cL_law 627 = .ok (.iconst 0, 1) := by decide +kernel
theorem dL_law_628 : decode cL_law 628 = .ok (.ireturn, 1) := by decide +kernel
theorem dL_law_629 : decode cL_law 629 = .ok (.aload_n 1, 1) := by decide +kernel
theorem dL_law_630 : decode cL_law 630 = .ok (.aload_n 0, 1) := by decide +kernel
theorem dL_law_631 : decode cL_law 631 = .ok (.iload_n 3, 1) := by decide +kernel
theorem dL_law_632 : decode cL_law 632 = .ok (.iconst 1, 1) := by decide +kernel
theorem dL_law_633 : decode cL_law 633 = .ok (.iadd, 1) := by decide +kernel
theorem dL_law_634 : decode cL_law 634 = .ok (.iaload, 1) := by decide +kernel
theorem dL_law_635 : decode cL_law 635 = .ok (.aload_n 0, 1) := by decide +kernel
theorem dL_law_636 : decode cL_law 636 = .ok (.iload_n 3, 1) := by decide +kernel
theorem dL_law_637 : decode cL_law 637 = .ok (.iconst 2, 1) := by decide +kernel
theorem dL_law_638 : decode cL_law 638 = .ok (.iadd, 1) := by decide +kernel
theorem dL_law_639 : decode cL_law 639 = .ok (.iaload, 1) := by decide +kernel
theorem dL_law_640 : decode cL_law 640 = .ok (.aload_n 0, 1) := by decide +kernel
theorem dL_law_641 : decode cL_law 641 = .ok (.iload_n 3, 1) := by decide +kernel
theorem dL_law_642 : decode cL_law 642 = .ok (.iconst 3, 1) := by decide +kernel
theorem dL_law_643 : decode cL_law 643 = .ok (.iadd, 1) := by decide +kernel
theorem dL_law_644 : decode cL_law 644 = .ok (.iaload, 1) := by decide +kernel
theorem dL_law_645 : decode cL_law 645 = .ok (.invokevirtual 70, 3) := by decide +kernel
theorem dL_law_648 : decode cL_law 648 = .ok (.aload_n 2, 1) := by decide +kernel
theorem dL_law_649 : decode cL_law 649 = .ok (.aload_n 0, 1) := by decide +kernel
theorem dL_law_650 : decode cL_law 650 = .ok (.iload_n 3, 1) := by decide +kernel
theorem dL_law_651 : decode cL_law 651 = .ok (.iconst 1, 1) := by decide +kernel
theorem dL_law_652 : decode cL_law 652 = .ok (.iadd, 1) := by decide +kernel
theorem dL_law_653 : decode cL_law 653 = .ok (.iaload, 1) := by decide +kernel
theorem dL_law_654 : decode cL_law 654 = .ok (.aload_n 0, 1) := by decide +kernel
theorem dL_law_655 : decode cL_law 655 = .ok (.iload_n 3, 1) := by decide +kernel
theorem dL_law_656 : decode cL_law 656 = .ok (.iconst 2, 1) := by decide +kernel
theorem dL_law_657 : decode cL_law 657 = .ok (.iadd, 1) := by decide +kernel
theorem dL_law_658 : decode cL_law 658 = .ok (.iaload, 1) := by decide +kernel
theorem dL_law_659 : decode cL_law 659 = .ok (.aload_n 0, 1) := by decide +kernel
theorem dL_law_660 : decode cL_law 660 = .ok (.iload_n 3, 1) := by decide +kernel
theorem dL_law_661 : decode cL_law 661 = .ok (.iconst 3, 1) := by decide +kernel
theorem dL_law_662 : decode cL_law 662 = .ok (.iadd, 1) := by decide +kernel
theorem dL_law_663 : decode cL_law 663 = .ok (.iaload, 1) := by decide +kernel
theorem dL_law_664 : decode cL_law 664 = .ok (.invokevirtual 73, 3) := by decide +kernel
theorem dL_law_667 : decode cL_law 667 = .ok (.if_icmp .eq 1034, 3) := by decide +kernel
theorem dL_law_670 : decode cL_law 670 = .ok (.iconst 0, 1) := by decide +kernel
theorem dL_law_671 : decode cL_law 671 = .ok (.ireturn, 1) := by decide +kernel
theorem dL_law_672 : decode cL_law 672 = .ok (.aload_n 1, 1) := by decide +kernel
theorem dL_law_673 : decode cL_law 673 = .ok (.aload_n 0, 1) := by decide +kernel
theorem dL_law_674 : decode cL_law 674 = .ok (.iload_n 3, 1) := by decide +kernel
theorem dL_law_675 : decode cL_law 675 = .ok (.iconst 1, 1) := by decide +kernel
theorem dL_law_676 : decode cL_law 676 = .ok (.iadd, 1) := by decide +kernel
theorem dL_law_677 : decode cL_law 677 = .ok (.iaload, 1) := by decide +kernel
theorem dL_law_678 : decode cL_law 678 = .ok (.aload_n 0, 1) := by decide +kernel
theorem dL_law_679 : decode cL_law 679 = .ok (.iload_n 3, 1) := by decide +kernel
theorem dL_law_680 : decode cL_law 680 = .ok (.iconst 2, 1) := by decide +kernel
theorem dL_law_681 : decode cL_law 681 = .ok (.iadd, 1) := by decide +kernel
theorem dL_law_682 : decode cL_law 682 = .ok (.iaload, 1) := by decide +kernel
theorem dL_law_683 : decode cL_law 683 = .ok (.invokevirtual 74, 3) := by decide +kernel
theorem dL_law_686 : decode cL_law 686 = .ok (.aload_n 2, 1) := by decide +kernel
theorem dL_law_687 : decode cL_law 687 = .ok (.aload_n 0, 1) := by decide +kernel
theorem dL_law_688 : decode cL_law 688 = .ok (.iload_n 3, 1) := by decide +kernel
theorem dL_law_689 : decode cL_law 689 = .ok (.iconst 1, 1) := by decide +kernel
theorem dL_law_690 : decode cL_law 690 = .ok (.iadd, 1) := by decide +kernel
theorem dL_law_691 : decode cL_law 691 = .ok (.iaload, 1) := by decide +kernel
theorem dL_law_692 : decode cL_law 692 = .ok (.aload_n 0, 1) := by decide +kernel
theorem dL_law_693 : decode cL_law 693 = .ok (.iload_n 3, 1) := by decide +kernel
theorem dL_law_694 : decode cL_law 694 = .ok (.iconst 2, 1) := by decide +kernel
theorem dL_law_695 : decode cL_law 695 = .ok (.iadd, 1) := by decide +kernel
theorem dL_law_696 : decode cL_law 696 = .ok (.iaload, 1) := by decide +kernel
theorem dL_law_697 : decode cL_law 697 = .ok (.invokevirtual 77, 3) := by decide +kernel
theorem dL_law_700 : decode cL_law 700 = .ok (.if_icmp .eq 1001, 3) := by decide +kernel
theorem dL_law_703 : decode cL_law 703 = .ok (.iconst 0, 1) := by decide +kernel
theorem dL_law_704 : decode cL_law 704 = .ok (.ireturn, 1) := by decide +kernel
theorem dL_law_705 : decode cL_law 705 = .ok (.aload_n 1, 1) := by decide +kernel
theorem dL_law_706 : decode cL_law 706 = .ok (.aload_n 0, 1) := by decide +kernel
theorem dL_law_707 : decode cL_law 707 = .ok (.iload_n 3, 1) := by decide +kernel
theorem dL_law_708 : decode cL_law 708 = .ok (.iconst 1, 1) := by decide +kernel
theorem dL_law_709 : decode cL_law 709 = .ok (.iadd, 1) := by decide +kernel
theorem dL_law_710 : decode cL_law 710 = .ok (.iaload, 1) := by decide +kernel
theorem dL_law_711 : decode cL_law 711 = .ok (.invokevirtual 78, 3) := by decide +kernel
theorem dL_law_714 : decode cL_law 714 = .ok (.aload_n 2, 1) := by decide +kernel
theorem dL_law_715 : decode cL_law 715 = .ok (.aload_n 0, 1) := by decide +kernel
theorem dL_law_716 : decode cL_law 716 = .ok (.iload_n 3, 1) := by decide +kernel
theorem dL_law_717 : decode cL_law 717 = .ok (.iconst 1, 1) := by decide +kernel
theorem dL_law_718 : decode cL_law 718 = .ok (.iadd, 1) := by decide +kernel
theorem dL_law_719 : decode cL_law 719 = .ok (.iaload, 1) := by decide +kernel
theorem dL_law_720 : decode cL_law 720 = .ok (.invokevirtual 81, 3) := by decide +kernel
theorem dL_law_723 : decode cL_law 723 = .ok (.if_icmp .eq 978, 3) := by decide +kernel
theorem dL_law_726 : decode cL_law 726 = .ok (.iconst 0, 1) := by decide +kernel
theorem dL_law_727 : decode cL_law 727 = .ok (.ireturn, 1) := by decide +kernel
theorem dL_law_728 : decode cL_law 728 = .ok (.aload_n 1, 1) := by decide +kernel
theorem dL_law_729 : decode cL_law 729 = .ok (.aload_n 0, 1) := by decide +kernel
theorem dL_law_730 : decode cL_law 730 = .ok (.iload_n 3, 1) := by decide +kernel
theorem dL_law_731 : decode cL_law 731 = .ok (.iconst 1, 1) := by decide +kernel
theorem dL_law_732 : decode cL_law 732 = .ok (.iadd, 1) := by decide +kernel
theorem dL_law_733 : decode cL_law 733 = .ok (.iaload, 1) := by decide +kernel
theorem dL_law_734 : decode cL_law 734 = .ok (.aload_n 0, 1) := by decide +kernel
theorem dL_law_735 : decode cL_law 735 = .ok (.iload_n 3, 1) := by decide +kernel
theorem dL_law_736 : decode cL_law 736 = .ok (.iconst 2, 1) := by decide +kernel
theorem dL_law_737 : decode cL_law 737 = .ok (.iadd, 1) := by decide +kernel
theorem dL_law_738 : decode cL_law 738 = .ok (.iaload, 1) := by decide +kernel
theorem dL_law_739 : decode cL_law 739 = .ok (.invokevirtual 82, 3) := by decide +kernel
theorem dL_law_742 : decode cL_law 742 = .ok (.aload_n 2, 1) := by decide +kernel
theorem dL_law_743 : decode cL_law 743 = .ok (.aload_n 0, 1) := by decide +kernel
theorem dL_law_744 : decode cL_law 744 = .ok (.iload_n 3, 1) := by decide +kernel
theorem dL_law_745 : decode cL_law 745 = .ok (.iconst 1, 1) := by decide +kernel
theorem dL_law_746 : decode cL_law 746 = .ok (.iadd, 1) := by decide +kernel
theorem dL_law_747 : decode cL_law 747 = .ok (.iaload, 1) := by decide +kernel
theorem dL_law_748 : decode cL_law 748 = .ok (.aload_n 0, 1) := by decide +kernel
theorem dL_law_749 : decode cL_law 749 = .ok (.iload_n 3, 1) := by decide +kernel
theorem dL_law_750 : decode cL_law 750 = .ok (.iconst 2, 1) := by decide +kernel
theorem dL_law_751 : decode cL_law 751 = .ok (.iadd, 1) := by decide +kernel
theorem dL_law_752 : decode cL_law 752 = .ok (.iaload, 1) := by decide +kernel
theorem dL_law_753 : decode cL_law 753 = .ok (.invokevirtual 85, 3) := by decide +kernel
theorem dL_law_756 : decode cL_law 756 = .ok (.if_icmp .eq 945, 3) := by decide +kernel
theorem dL_law_759 : decode cL_law 759 = .ok (.iconst 0, 1) := by decide +kernel
theorem dL_law_760 : decode cL_law 760 = .ok (.ireturn, 1) := by decide +kernel
theorem dL_law_761 : decode cL_law 761 = .ok (.aload_n 1, 1) := by decide +kernel
theorem dL_law_762 : decode cL_law 762 = .ok (.aload_n 0, 1) := by decide +kernel
theorem dL_law_763 : decode cL_law 763 = .ok (.iload_n 3, 1) := by decide +kernel
theorem dL_law_764 : decode cL_law 764 = .ok (.iconst 1, 1) := by decide +kernel
theorem dL_law_765 : decode cL_law 765 = .ok (.iadd, 1) := by decide +kernel
theorem dL_law_766 : decode cL_law 766 = .ok (.iaload, 1) := by decide +kernel
theorem dL_law_767 : decode cL_law 767 = .ok (.aload_n 0, 1) := by decide +kernel
theorem dL_law_768 : decode cL_law 768 = .ok (.iload_n 3, 1) := by decide +kernel
theorem dL_law_769 : decode cL_law 769 = .ok (.iconst 2, 1) := by decide +kernel
theorem dL_law_770 : decode cL_law 770 = .ok (.iadd, 1) := by decide +kernel
theorem dL_law_771 : decode cL_law 771 = .ok (.iaload, 1) := by decide +kernel
theorem dL_law_772 : decode cL_law 772 = .ok (.aload_n 0, 1) := by decide +kernel
theorem dL_law_773 : decode cL_law 773 = .ok (.iload_n 3, 1) := by decide +kernel
theorem dL_law_774 : decode cL_law 774 = .ok (.iconst 3, 1) := by decide +kernel
theorem dL_law_775 : decode cL_law 775 = .ok (.iadd, 1) := by decide +kernel
theorem dL_law_776 : decode cL_law 776 = .ok (.iaload, 1) := by decide +kernel
theorem dL_law_777 : decode cL_law 777 = .ok (.invokevirtual 86, 3) := by decide +kernel
theorem dL_law_780 : decode cL_law 780 = .ok (.aload_n 2, 1) := by decide +kernel
theorem dL_law_781 : decode cL_law 781 = .ok (.aload_n 0, 1) := by decide +kernel
theorem dL_law_782 : decode cL_law 782 = .ok (.iload_n 3, 1) := by decide +kernel
theorem dL_law_783 : decode cL_law 783 = .ok (.iconst 1, 1) := by decide +kernel
theorem dL_law_784 : decode cL_law 784 = .ok (.iadd, 1) := by decide +kernel
theorem dL_law_785 : decode cL_law 785 = .ok (.iaload, 1) := by decide +kernel
theorem dL_law_786 : decode cL_law 786 = .ok (.aload_n 0, 1) := by decide +kernel
theorem dL_law_787 : decode cL_law 787 = .ok (.iload_n 3, 1) := by decide +kernel
theorem dL_law_788 : decode cL_law 788 = .ok (.iconst 2, 1) := by decide +kernel
theorem dL_law_789 : decode cL_law 789 = .ok (.iadd, 1) := by decide +kernel
theorem dL_law_790 : decode cL_law 790 = .ok (.iaload, 1) := by decide +kernel
theorem dL_law_791 : decode cL_law 791 = .ok (.aload_n 0, 1) := by decide +kernel
theorem dL_law_792 : decode cL_law 792 = .ok (.iload_n 3, 1) := by decide +kernel
theorem dL_law_793 : decode cL_law 793 = .ok (.iconst 3, 1) := by decide +kernel
theorem dL_law_794 : decode cL_law 794 = .ok (.iadd, 1) := by decide +kernel
theorem dL_law_795 : decode cL_law 795 = .ok (.iaload, 1) := by decide +kernel
theorem dL_law_796 : decode cL_law 796 = .ok (.invokevirtual 89, 3) := by decide +kernel
theorem dL_law_799 : decode cL_law 799 = .ok (.if_icmp .eq 902, 3) := by decide +kernel
theorem dL_law_802 : decode cL_law 802 = .ok (.iconst 0, 1) := by decide +kernel
theorem dL_law_803 : decode cL_law 803 = .ok (.ireturn, 1) := by decide +kernel
theorem dL_law_804 : decode cL_law 804 = .ok (.aload_n 1, 1) := by decide +kernel
theorem dL_law_805 : decode cL_law 805 = .ok (.aload_n 0, 1) := by decide +kernel
theorem dL_law_806 : decode cL_law 806 = .ok (.iload_n 3, 1) := by decide +kernel
theorem dL_law_807 : decode cL_law 807 = .ok (.iconst 1, 1) := by decide +kernel
theorem dL_law_808 : decode cL_law 808 = .ok (.iadd, 1) := by decide +kernel
theorem dL_law_809 : decode cL_law 809 = .ok (.iaload, 1) := by decide +kernel
theorem dL_law_810 : decode cL_law 810 = .ok (.aload_n 0, 1) := by decide +kernel
theorem dL_law_811 : decode cL_law 811 = .ok (.iload_n 3, 1) := by decide +kernel
theorem dL_law_812 : decode cL_law 812 = .ok (.iconst 2, 1) := by decide +kernel
theorem dL_law_813 : decode cL_law 813 = .ok (.iadd, 1) := by decide +kernel
theorem dL_law_814 : decode cL_law 814 = .ok (.iaload, 1) := by decide +kernel
theorem dL_law_815 : decode cL_law 815 = .ok (.aload_n 0, 1) := by decide +kernel
theorem dL_law_816 : decode cL_law 816 = .ok (.iload_n 3, 1) := by decide +kernel
theorem dL_law_817 : decode cL_law 817 = .ok (.iconst 3, 1) := by decide +kernel
theorem dL_law_818 : decode cL_law 818 = .ok (.iadd, 1) := by decide +kernel
theorem dL_law_819 : decode cL_law 819 = .ok (.iaload, 1) := by decide +kernel
theorem dL_law_820 : decode cL_law 820 = .ok (.aload_n 0, 1) := by decide +kernel
theorem dL_law_821 : decode cL_law 821 = .ok (.iload_n 3, 1) := by decide +kernel
theorem dL_law_822 : decode cL_law 822 = .ok (.iconst 4, 1) := by decide +kernel
theorem dL_law_823 : decode cL_law 823 = .ok (.iadd, 1) := by decide +kernel
theorem dL_law_824 : decode cL_law 824 = .ok (.iaload, 1) := by decide +kernel
theorem dL_law_825 : decode cL_law 825 = .ok (.invokevirtual 90, 3) := by decide +kernel
theorem dL_law_828 : decode cL_law 828 = .ok (.aload_n 2, 1) := by decide +kernel
theorem dL_law_829 : decode cL_law 829 = .ok (.aload_n 0, 1) := by decide +kernel
theorem dL_law_830 : decode cL_law 830 = .ok (.iload_n 3, 1) := by decide +kernel
theorem dL_law_831 : decode cL_law 831 = .ok (.iconst 1, 1) := by decide +kernel
theorem dL_law_832 : decode cL_law 832 = .ok (.iadd, 1) := by decide +kernel
theorem dL_law_833 : decode cL_law 833 = .ok (.iaload, 1) := by decide +kernel
theorem dL_law_834 : decode cL_law 834 = .ok (.aload_n 0, 1) := by decide +kernel
theorem dL_law_835 : decode cL_law 835 = .ok (.iload_n 3, 1) := by decide +kernel
theorem dL_law_836 : decode cL_law 836 = .ok (.iconst 2, 1) := by decide +kernel
theorem dL_law_837 : decode cL_law 837 = .ok (.iadd, 1) := by decide +kernel
theorem dL_law_838 : decode cL_law 838 = .ok (.iaload, 1) := by decide +kernel
theorem dL_law_839 : decode cL_law 839 = .ok (.aload_n 0, 1) := by decide +kernel
theorem dL_law_840 : decode cL_law 840 = .ok (.iload_n 3, 1) := by decide +kernel
theorem dL_law_841 : decode cL_law 841 = .ok (.iconst 3, 1) := by decide +kernel
theorem dL_law_842 : decode cL_law 842 = .ok (.iadd, 1) := by decide +kernel
theorem dL_law_843 : decode cL_law 843 = .ok (.iaload, 1) := by decide +kernel
theorem dL_law_844 : decode cL_law 844 = .ok (.aload_n 0, 1) := by decide +kernel
theorem dL_law_845 : decode cL_law 845 = .ok (.iload_n 3, 1) := by decide +kernel
theorem dL_law_846 : decode cL_law 846 = .ok (.iconst 4, 1) := by decide +kernel
theorem dL_law_847 : decode cL_law 847 = .ok (.iadd, 1) := by decide +kernel
theorem dL_law_848 : decode cL_law 848 = .ok (.iaload, 1) := by decide +kernel
theorem dL_law_849 : decode cL_law 849 = .ok (.invokevirtual 94, 3) := by decide +kernel
theorem dL_law_852 : decode cL_law 852 = .ok (.if_icmp .eq 849, 3) := by decide +kernel
theorem dL_law_855 : decode cL_law 855 = .ok (.iconst 0, 1) := by decide +kernel
theorem dL_law_856 : decode cL_law 856 = .ok (.ireturn, 1) := by decide +kernel
theorem dL_law_857 : decode cL_law 857 = .ok (.aload_n 1, 1) := by decide +kernel
theorem dL_law_858 : decode cL_law 858 = .ok (.aload_n 0, 1) := by decide +kernel
theorem dL_law_859 : decode cL_law 859 = .ok (.iload_n 3, 1) := by decide +kernel
theorem dL_law_860 : decode cL_law 860 = .ok (.iconst 1, 1) := by decide +kernel
theorem dL_law_861 : decode cL_law 861 = .ok (.iadd, 1) := by decide +kernel
theorem dL_law_862 : decode cL_law 862 = .ok (.iaload, 1) := by decide +kernel
theorem dL_law_863 : decode cL_law 863 = .ok (.aload_n 0, 1) := by decide +kernel
theorem dL_law_864 : decode cL_law 864 = .ok (.iload_n 3, 1) := by decide +kernel
theorem dL_law_865 : decode cL_law 865 = .ok (.iconst 2, 1) := by decide +kernel
theorem dL_law_866 : decode cL_law 866 = .ok (.iadd, 1) := by decide +kernel
theorem dL_law_867 : decode cL_law 867 = .ok (.iaload, 1) := by decide +kernel
theorem dL_law_868 : decode cL_law 868 = .ok (.aload_n 0, 1) := by decide +kernel
theorem dL_law_869 : decode cL_law 869 = .ok (.iload_n 3, 1) := by decide +kernel
theorem dL_law_870 : decode cL_law 870 = .ok (.iconst 3, 1) := by decide +kernel
theorem dL_law_871 : decode cL_law 871 = .ok (.iadd, 1) := by decide +kernel
theorem dL_law_872 : decode cL_law 872 = .ok (.iaload, 1) := by decide +kernel
theorem dL_law_873 : decode cL_law 873 = .ok (.invokevirtual 95, 3) := by decide +kernel
theorem dL_law_876 : decode cL_law 876 = .ok (.aload_n 2, 1) := by decide +kernel
theorem dL_law_877 : decode cL_law 877 = .ok (.aload_n 0, 1) := by decide +kernel
theorem dL_law_878 : decode cL_law 878 = .ok (.iload_n 3, 1) := by decide +kernel
theorem dL_law_879 : decode cL_law 879 = .ok (.iconst 1, 1) := by decide +kernel
theorem dL_law_880 : decode cL_law 880 = .ok (.iadd, 1) := by decide +kernel
theorem dL_law_881 : decode cL_law 881 = .ok (.iaload, 1) := by decide +kernel
theorem dL_law_882 : decode cL_law 882 = .ok (.aload_n 0, 1) := by decide +kernel
theorem dL_law_883 : decode cL_law 883 = .ok (.iload_n 3, 1) := by decide +kernel
theorem dL_law_884 : decode cL_law 884 = .ok (.iconst 2, 1) := by decide +kernel
theorem dL_law_885 : decode cL_law 885 = .ok (.iadd, 1) := by decide +kernel
theorem dL_law_886 : decode cL_law 886 = .ok (.iaload, 1) := by decide +kernel
theorem dL_law_887 : decode cL_law 887 = .ok (.aload_n 0, 1) := by decide +kernel
theorem dL_law_888 : decode cL_law 888 = .ok (.iload_n 3, 1) := by decide +kernel
theorem dL_law_889 : decode cL_law 889 = .ok (.iconst 3, 1) := by decide +kernel
theorem dL_law_890 : decode cL_law 890 = .ok (.iadd, 1) := by decide +kernel
theorem dL_law_891 : decode cL_law 891 = .ok (.iaload, 1) := by decide +kernel
theorem dL_law_892 : decode cL_law 892 = .ok (.invokevirtual 98, 3) := by decide +kernel
theorem dL_law_895 : decode cL_law 895 = .ok (.if_icmp .eq 806, 3) := by decide +kernel
theorem dL_law_898 : decode cL_law 898 = .ok (.iconst 0, 1) := by decide +kernel
theorem dL_law_899 : decode cL_law 899 = .ok (.ireturn, 1) := by decide +kernel
theorem dL_law_900 : decode cL_law 900 = .ok (.aload_n 1, 1) := by decide +kernel
theorem dL_law_901 : decode cL_law 901 = .ok (.aload_n 0, 1) := by decide +kernel
theorem dL_law_902 : decode cL_law 902 = .ok (.iload_n 3, 1) := by decide +kernel
theorem dL_law_903 : decode cL_law 903 = .ok (.iconst 1, 1) := by decide +kernel
theorem dL_law_904 : decode cL_law 904 = .ok (.iadd, 1) := by decide +kernel
theorem dL_law_905 : decode cL_law 905 = .ok (.iaload, 1) := by decide +kernel
theorem dL_law_906 : decode cL_law 906 = .ok (.aload_n 0, 1) := by decide +kernel
theorem dL_law_907 : decode cL_law 907 = .ok (.iload_n 3, 1) := by decide +kernel
theorem dL_law_908 : decode cL_law 908 = .ok (.iconst 2, 1) := by decide +kernel
theorem dL_law_909 : decode cL_law 909 = .ok (.iadd, 1) := by decide +kernel
theorem dL_law_910 : decode cL_law 910 = .ok (.iaload, 1) := by decide +kernel
theorem dL_law_911 : decode cL_law 911 = .ok (.aload_n 0, 1) := by decide +kernel
theorem dL_law_912 : decode cL_law 912 = .ok (.iload_n 3, 1) := by decide +kernel
theorem dL_law_913 : decode cL_law 913 = .ok (.iconst 3, 1) := by decide +kernel
theorem dL_law_914 : decode cL_law 914 = .ok (.iadd, 1) := by decide +kernel
theorem dL_law_915 : decode cL_law 915 = .ok (.iaload, 1) := by decide +kernel
theorem dL_law_916 : decode cL_law 916 = .ok (.invokevirtual 99, 3) := by decide +kernel
theorem dL_law_919 : decode cL_law 919 = .ok (.aload_n 2, 1) := by decide +kernel
theorem dL_law_920 : decode cL_law 920 = .ok (.aload_n 0, 1) := by decide +kernel
theorem dL_law_921 : decode cL_law 921 = .ok (.iload_n 3, 1) := by decide +kernel
theorem dL_law_922 : decode cL_law 922 = .ok (.iconst 1, 1) := by decide +kernel
theorem dL_law_923 : decode cL_law 923 = .ok (.iadd, 1) := by decide +kernel
theorem dL_law_924 : decode cL_law 924 = .ok (.iaload, 1) := by decide +kernel
theorem dL_law_925 : decode cL_law 925 = .ok (.aload_n 0, 1) := by decide +kernel
theorem dL_law_926 : decode cL_law 926 = .ok (.iload_n 3, 1) := by decide +kernel
theorem dL_law_927 : decode cL_law 927 = .ok (.iconst 2, 1) := by decide +kernel
theorem dL_law_928 : decode cL_law 928 = .ok (.iadd, 1) := by decide +kernel
theorem dL_law_929 : decode cL_law 929 = .ok (.iaload, 1) := by decide +kernel
theorem dL_law_930 : decode cL_law 930 = .ok (.aload_n 0, 1) := by decide +kernel
theorem dL_law_931 : decode cL_law 931 = .ok (.iload_n 3, 1) := by decide +kernel
theorem dL_law_932 : decode cL_law 932 = .ok (.iconst 3, 1) := by decide +kernel
theorem dL_law_933 : decode cL_law 933 = .ok (.iadd, 1) := by decide +kernel
theorem dL_law_934 : decode cL_law 934 = .ok (.iaload, 1) := by decide +kernel
theorem dL_law_935 : decode cL_law 935 = .ok (.invokevirtual 102, 3) := by decide +kernel
theorem dL_law_938 : decode cL_law 938 = .ok (.if_icmp .eq 763, 3) := by decide +kernel
theorem dL_law_941 : decode cL_law 941 = .ok (.iconst 0, 1) := by decide +kernel
theorem dL_law_942 : decode cL_law 942 = .ok (.ireturn, 1) := by decide +kernel
theorem dL_law_943 : decode cL_law 943 = .ok (.aload_n 1, 1) := by decide +kernel
theorem dL_law_944 : decode cL_law 944 = .ok (.aload_n 0, 1) := by decide +kernel
theorem dL_law_945 : decode cL_law 945 = .ok (.iload_n 3, 1) := by decide +kernel
theorem dL_law_946 : decode cL_law 946 = .ok (.iconst 1, 1) := by decide +kernel
theorem dL_law_947 : decode cL_law 947 = .ok (.iadd, 1) := by decide +kernel
theorem dL_law_948 : decode cL_law 948 = .ok (.iaload, 1) := by decide +kernel
theorem dL_law_949 : decode cL_law 949 = .ok (.invokevirtual 103, 3) := by decide +kernel
theorem dL_law_952 : decode cL_law 952 = .ok (.aload_n 2, 1) := by decide +kernel
theorem dL_law_953 : decode cL_law 953 = .ok (.aload_n 0, 1) := by decide +kernel
theorem dL_law_954 : decode cL_law 954 = .ok (.iload_n 3, 1) := by decide +kernel
theorem dL_law_955 : decode cL_law 955 = .ok (.iconst 1, 1) := by decide +kernel
theorem dL_law_956 : decode cL_law 956 = .ok (.iadd, 1) := by decide +kernel
theorem dL_law_957 : decode cL_law 957 = .ok (.iaload, 1) := by decide +kernel
theorem dL_law_958 : decode cL_law 958 = .ok (.invokevirtual 106, 3) := by decide +kernel
theorem dL_law_961 : decode cL_law 961 = .ok (.if_icmp .eq 740, 3) := by decide +kernel
theorem dL_law_964 : decode cL_law 964 = .ok (.iconst 0, 1) := by decide +kernel
theorem dL_law_965 : decode cL_law 965 = .ok (.ireturn, 1) := by decide +kernel
theorem dL_law_966 : decode cL_law 966 = .ok (.aload_n 1, 1) := by decide +kernel
theorem dL_law_967 : decode cL_law 967 = .ok (.aload_n 0, 1) := by decide +kernel
theorem dL_law_968 : decode cL_law 968 = .ok (.iload_n 3, 1) := by decide +kernel
theorem dL_law_969 : decode cL_law 969 = .ok (.iconst 1, 1) := by decide +kernel
theorem dL_law_970 : decode cL_law 970 = .ok (.iadd, 1) := by decide +kernel
theorem dL_law_971 : decode cL_law 971 = .ok (.iaload, 1) := by decide +kernel
theorem dL_law_972 : decode cL_law 972 = .ok (.invokevirtual 107, 3) := by decide +kernel
theorem dL_law_975 : decode cL_law 975 = .ok (.aload_n 2, 1) := by decide +kernel
theorem dL_law_976 : decode cL_law 976 = .ok (.aload_n 0, 1) := by decide +kernel
theorem dL_law_977 : decode cL_law 977 = .ok (.iload_n 3, 1) := by decide +kernel
theorem dL_law_978 : decode cL_law 978 = .ok (.iconst 1, 1) := by decide +kernel
theorem dL_law_979 : decode cL_law 979 = .ok (.iadd, 1) := by decide +kernel
theorem dL_law_980 : decode cL_law 980 = .ok (.iaload, 1) := by decide +kernel
theorem dL_law_981 : decode cL_law 981 = .ok (.invokevirtual 110, 3) := by decide +kernel
theorem dL_law_984 : decode cL_law 984 = .ok (.if_icmp .eq 717, 3) := by decide +kernel
theorem dL_law_987 : decode cL_law 987 = .ok (.iconst 0, 1) := by decide +kernel
theorem dL_law_988 : decode cL_law 988 = .ok (.ireturn, 1) := by decide +kernel
theorem dL_law_989 : decode cL_law 989 = .ok (.aload_n 1, 1) := by decide +kernel
theorem dL_law_990 : decode cL_law 990 = .ok (.aload_n 0, 1) := by decide +kernel
theorem dL_law_991 : decode cL_law 991 = .ok (.iload_n 3, 1) := by decide +kernel
theorem dL_law_992 : decode cL_law 992 = .ok (.iconst 1, 1) := by decide +kernel
theorem dL_law_993 : decode cL_law 993 = .ok (.iadd, 1) := by decide +kernel
theorem dL_law_994 : decode cL_law 994 = .ok (.iaload, 1) := by decide +kernel
theorem dL_law_995 : decode cL_law 995 = .ok (.aload_n 0, 1) := by decide +kernel
theorem dL_law_996 : decode cL_law 996 = .ok (.iload_n 3, 1) := by decide +kernel
theorem dL_law_997 : decode cL_law 997 = .ok (.iconst 2, 1) := by decide +kernel
theorem dL_law_998 : decode cL_law 998 = .ok (.iadd, 1) := by decide +kernel
theorem dL_law_999 : decode cL_law 999 = .ok (.iaload, 1) := by decide +kernel
theorem dL_law_1000 : decode cL_law 1000 = .ok (.aload_n 0, 1) := by decide +kernel
theorem dL_law_1001 : decode cL_law 1001 = .ok (.iload_n 3, 1) := by decide +kernel
theorem dL_law_1002 : decode cL_law 1002 = .ok (.iconst 3, 1) := by decide +kernel
theorem dL_law_1003 : decode cL_law 1003 = .ok (.iadd, 1) := by decide +kernel
theorem dL_law_1004 : decode cL_law 1004 = .ok (.iaload, 1) := by decide +kernel
theorem dL_law_1005 : decode cL_law 1005 = .ok (.invokevirtual 111, 3) := by decide +kernel
theorem dL_law_1008 : decode cL_law 1008 = .ok (.aload_n 2, 1) := by decide +kernel
theorem dL_law_1009 : decode cL_law 1009 = .ok (.aload_n 0, 1) := by decide +kernel
theorem dL_law_1010 : decode cL_law 1010 = .ok (.iload_n 3, 1) := by decide +kernel
theorem dL_law_1011 : decode cL_law 1011 = .ok (.iconst 1, 1) := by decide +kernel
theorem dL_law_1012 : decode cL_law 1012 = .ok (.iadd, 1) := by decide +kernel
theorem dL_law_1013 : decode cL_law 1013 = .ok (.iaload, 1) := by decide +kernel
theorem dL_law_1014 : decode cL_law 1014 = .ok (.aload_n 0, 1) := by decide +kernel
theorem dL_law_1015 : decode cL_law 1015 = .ok (.iload_n 3, 1) := by decide +kernel
theorem dL_law_1016 : decode cL_law 1016 = .ok (.iconst 2, 1) := by decide +kernel
theorem dL_law_1017 : decode cL_law 1017 = .ok (.iadd, 1) := by decide +kernel
theorem dL_law_1018 : decode cL_law 1018 = .ok (.iaload, 1) := by decide +kernel
theorem dL_law_1019 : decode cL_law 1019 = .ok (.aload_n 0, 1) := by decide +kernel
theorem dL_law_1020 : decode cL_law 1020 = .ok (.iload_n 3, 1) := by decide +kernel
theorem dL_law_1021 : decode cL_law 1021 = .ok (.iconst 3, 1) := by decide +kernel
theorem dL_law_1022 : decode cL_law 1022 = .ok (.iadd, 1) := by decide +kernel
theorem dL_law_1023 : decode cL_law 1023 = .ok (.iaload, 1) := by decide +kernel
theorem dL_law_1024 : decode cL_law 1024 = .ok (.invokevirtual 114, 3) := by decide +kernel
theorem dL_law_1027 : decode cL_law 1027 = .ok (.if_icmp .eq 674, 3) := by decide +kernel
theorem dL_law_1030 : decode cL_law 1030 = .ok (.iconst 0, 1) := by decide +kernel
theorem dL_law_1031 : decode cL_law 1031 = .ok (.ireturn, 1) := by decide +kernel
theorem dL_law_1032 : decode cL_law 1032 = .ok (.aload_n 1, 1) := by decide +kernel
theorem dL_law_1033 : decode cL_law 1033 = .ok (.aload_n 0, 1) := by decide +kernel
theorem dL_law_1034 : decode cL_law 1034 = .ok (.iload_n 3, 1) := by decide +kernel
theorem dL_law_1035 : decode cL_law 1035 = .ok (.iconst 1, 1) := by decide +kernel
theorem dL_law_1036 : decode cL_law 1036 = .ok (.iadd, 1) := by decide +kernel
theorem dL_law_1037 : decode cL_law 1037 = .ok (.iaload, 1) := by decide +kernel
theorem dL_law_1038 : decode cL_law 1038 = .ok (.aload_n 0, 1) := by decide +kernel
theorem dL_law_1039 : decode cL_law 1039 = .ok (.iload_n 3, 1) := by decide +kernel
theorem dL_law_1040 : decode cL_law 1040 = .ok (.iconst 2, 1) := by decide +kernel
theorem dL_law_1041 : decode cL_law 1041 = .ok (.iadd, 1) := by decide +kernel
theorem dL_law_1042 : decode cL_law 1042 = .ok (.iaload, 1) := by decide +kernel
theorem dL_law_1043 : decode cL_law 1043 = .ok (.aload_n 0, 1) := by decide +kernel
theorem dL_law_1044 : decode cL_law 1044 = .ok (.iload_n 3, 1) := by decide +kernel
theorem dL_law_1045 : decode cL_law 1045 = .ok (.iconst 3, 1) := by decide +kernel
theorem dL_law_1046 : decode cL_law 1046 = .ok (.iadd, 1) := by decide +kernel
theorem dL_law_1047 : decode cL_law 1047 = .ok (.iaload, 1) := by decide +kernel
theorem dL_law_1048 : decode cL_law 1048 = .ok (.invokevirtual 115, 3) := by decide +kernel
theorem dL_law_1051 : decode cL_law 1051 = .ok (.aload_n 2, 1) := by decide +kernel
theorem dL_law_1052 : decode cL_law 1052 = .ok (.aload_n 0, 1) := by decide +kernel
theorem dL_law_1053 : decode cL_law 1053 = .ok (.iload_n 3, 1) := by decide +kernel
theorem dL_law_1054 : decode cL_law 1054 = .ok (.iconst 1, 1) := by decide +kernel
theorem dL_law_1055 : decode cL_law 1055 = .ok (.iadd, 1) := by decide +kernel
theorem dL_law_1056 : decode cL_law 1056 = .ok (.iaload, 1) := by decide +kernel
theorem dL_law_1057 : decode cL_law 1057 = .ok (.aload_n 0, 1) := by decide +kernel
theorem dL_law_1058 : decode cL_law 1058 = .ok (.iload_n 3, 1) := by decide +kernel
theorem dL_law_1059 : decode cL_law 1059 = .ok (.iconst 2, 1) := by decide +kernel
theorem dL_law_1060 : decode cL_law 1060 = .ok (.iadd, 1) := by decide +kernel
theorem dL_law_1061 : decode cL_law 1061 = .ok (.iaload, 1) := by decide +kernel
theorem dL_law_1062 : decode cL_law 1062 = .ok (.aload_n 0, 1) := by decide +kernel
theorem dL_law_1063 : decode cL_law 1063 = .ok (.iload_n 3, 1) := by decide +kernel
theorem dL_law_1064 : decode cL_law 1064 = .ok (.iconst 3, 1) := by decide +kernel
theorem dL_law_1065 : decode cL_law 1065 = .ok (.iadd, 1) := by decide +kernel
theorem dL_law_1066 : decode cL_law 1066 = .ok (.iaload, 1) := by decide +kernel
theorem dL_law_1067 : decode cL_law 1067 = .ok (.invokevirtual 118, 3) := by decide +kernel
theorem dL_law_1070 : decode cL_law 1070 = .ok (.if_icmp .eq 631, 3) := by decide +kernel
theorem dL_law_1073 : decode cL_law 1073 = .ok (.iconst 0, 1) := by decide +kernel
theorem dL_law_1074 : decode cL_law 1074 = .ok (.ireturn, 1) := by decide +kernel
theorem dL_law_1075 : decode cL_law 1075 = .ok (.aload_n 1, 1) := by decide +kernel
theorem dL_law_1076 : decode cL_law 1076 = .ok (.aload_n 0, 1) := by decide +kernel
theorem dL_law_1077 : decode cL_law 1077 = .ok (.iload_n 3, 1) := by decide +kernel
theorem dL_law_1078 : decode cL_law 1078 = .ok (.iconst 1, 1) := by decide +kernel
theorem dL_law_1079 : decode cL_law 1079 = .ok (.iadd, 1) := by decide +kernel
theorem dL_law_1080 : decode cL_law 1080 = .ok (.iaload, 1) := by decide +kernel
theorem dL_law_1081 : decode cL_law 1081 = .ok (.aload_n 0, 1) := by decide +kernel
theorem dL_law_1082 : decode cL_law 1082 = .ok (.iload_n 3, 1) := by decide +kernel
theorem dL_law_1083 : decode cL_law 1083 = .ok (.iconst 2, 1) := by decide +kernel
theorem dL_law_1084 : decode cL_law 1084 = .ok (.iadd, 1) := by decide +kernel
theorem dL_law_1085 : decode cL_law 1085 = .ok (.iaload, 1) := by decide +kernel
theorem dL_law_1086 : decode cL_law 1086 = .ok (.invokevirtual 119, 3) := by decide +kernel
theorem dL_law_1089 : decode cL_law 1089 = .ok (.aload_n 2, 1) := by decide +kernel
theorem dL_law_1090 : decode cL_law 1090 = .ok (.aload_n 0, 1) := by decide +kernel
theorem dL_law_1091 : decode cL_law 1091 = .ok (.iload_n 3, 1) := by decide +kernel
theorem dL_law_1092 : decode cL_law 1092 = .ok (.iconst 1, 1) := by decide +kernel
theorem dL_law_1093 : decode cL_law 1093 = .ok (.iadd, 1) := by decide +kernel
theorem dL_law_1094 : decode cL_law 1094 = .ok (.iaload, 1) := by decide +kernel
theorem dL_law_1095 : decode cL_law 1095 = .ok (.aload_n 0, 1) := by decide +kernel
theorem dL_law_1096 : decode cL_law 1096 = .ok (.iload_n 3, 1) := by decide +kernel
theorem dL_law_1097 : decode cL_law 1097 = .ok (.iconst 2, 1) := by decide +kernel
theorem dL_law_1098 : decode cL_law 1098 = .ok (.iadd, 1) := by decide +kernel
theorem dL_law_1099 : decode cL_law 1099 = .ok (.iaload, 1) := by decide +kernel
theorem dL_law_1100 : decode cL_law 1100 = .ok (.invokevirtual 122, 3) := by decide +kernel
theorem dL_law_1103 : decode cL_law 1103 = .ok (.if_icmp .eq 598, 3) := by decide +kernel
theorem dL_law_1106 : decode cL_law 1106 = .ok (.iconst 0, 1) := by decide +kernel
theorem dL_law_1107 : decode cL_law 1107 = .ok (.ireturn, 1) := by decide +kernel
theorem dL_law_1108 : decode cL_law 1108 = .ok (.aload_n 1, 1) := by decide +kernel
theorem dL_law_1109 : decode cL_law 1109 = .ok (.aload_n 0, 1) := by decide +kernel
theorem dL_law_1110 : decode cL_law 1110 = .ok (.iload_n 3, 1) := by decide +kernel
theorem dL_law_1111 : decode cL_law 1111 = .ok (.iconst 1, 1) := by decide +kernel
theorem dL_law_1112 : decode cL_law 1112 = .ok (.iadd, 1) := by decide +kernel
theorem dL_law_1113 : decode cL_law 1113 = .ok (.iaload, 1) := by decide +kernel
theorem dL_law_1114 : decode cL_law 1114 = .ok (.aload_n 0, 1) := by decide +kernel
theorem dL_law_1115 : decode cL_law 1115 = .ok (.iload_n 3, 1) := by decide +kernel
theorem dL_law_1116 : decode cL_law 1116 = .ok (.iconst 2, 1) := by decide +kernel
theorem dL_law_1117 : decode cL_law 1117 = .ok (.iadd, 1) := by decide +kernel
theorem dL_law_1118 : decode cL_law 1118 = .ok (.iaload, 1) := by decide +kernel
theorem dL_law_1119 : decode cL_law 1119 = .ok (.invokevirtual 123, 3) := by decide +kernel
theorem dL_law_1122 : decode cL_law 1122 = .ok (.aload_n 2, 1) := by decide +kernel
theorem dL_law_1123 : decode cL_law 1123 = .ok (.aload_n 0, 1) := by decide +kernel
theorem dL_law_1124 : decode cL_law 1124 = .ok (.iload_n 3, 1) := by decide +kernel
theorem dL_law_1125 : decode cL_law 1125 = .ok (.iconst 1, 1) := by decide +kernel
theorem dL_law_1126 : decode cL_law 1126 = .ok (.iadd, 1) := by decide +kernel
theorem dL_law_1127 : decode cL_law 1127 = .ok (.iaload, 1) := by decide +kernel
theorem dL_law_1128 : decode cL_law 1128 = .ok (.aload_n 0, 1) := by decide +kernel
theorem dL_law_1129 : decode cL_law 1129 = .ok (.iload_n 3, 1) := by decide +kernel
theorem dL_law_1130 : decode cL_law 1130 = .ok (.iconst 2, 1) := by decide +kernel
theorem dL_law_1131 : decode cL_law 1131 = .ok (.iadd, 1) := by decide +kernel
theorem dL_law_1132 : decode cL_law 1132 = .ok (.iaload, 1) := by decide +kernel
theorem dL_law_1133 : decode cL_law 1133 = .ok (.invokevirtual 126, 3) := by decide +kernel
theorem dL_law_1136 : decode cL_law 1136 = .ok (.if_icmp .eq 565, 3) := by decide +kernel
theorem dL_law_1139 : decode cL_law 1139 = .ok (.iconst 0, 1) := by decide +kernel
theorem dL_law_1140 : decode cL_law 1140 = .ok (.ireturn, 1) := by decide +kernel
theorem dL_law_1141 : decode cL_law 1141 = .ok (.aload_n 1, 1) := by decide +kernel
theorem dL_law_1142 : decode cL_law 1142 = .ok (.aload_n 0, 1) := by decide +kernel
theorem dL_law_1143 : decode cL_law 1143 = .ok (.iload_n 3, 1) := by decide +kernel
theorem dL_law_1144 : decode cL_law 1144 = .ok (.iconst 1, 1) := by decide +kernel
theorem dL_law_1145 : decode cL_law 1145 = .ok (.iadd, 1) := by decide +kernel
theorem dL_law_1146 : decode cL_law 1146 = .ok (.iaload, 1) := by decide +kernel
theorem dL_law_1147 : decode cL_law 1147 = .ok (.aload_n 0, 1) := by decide +kernel
theorem dL_law_1148 : decode cL_law 1148 = .ok (.iload_n 3, 1) := by decide +kernel
theorem dL_law_1149 : decode cL_law 1149 = .ok (.iconst 2, 1) := by decide +kernel
theorem dL_law_1150 : decode cL_law 1150 = .ok (.iadd, 1) := by decide +kernel
theorem dL_law_1151 : decode cL_law 1151 = .ok (.iaload, 1) := by decide +kernel
theorem dL_law_1152 : decode cL_law 1152 = .ok (.aload_n 0, 1) := by decide +kernel
theorem dL_law_1153 : decode cL_law 1153 = .ok (.iload_n 3, 1) := by decide +kernel
theorem dL_law_1154 : decode cL_law 1154 = .ok (.iconst 3, 1) := by decide +kernel
theorem dL_law_1155 : decode cL_law 1155 = .ok (.iadd, 1) := by decide +kernel
theorem dL_law_1156 : decode cL_law 1156 = .ok (.iaload, 1) := by decide +kernel
theorem dL_law_1157 : decode cL_law 1157 = .ok (.invokevirtual 127, 3) := by decide +kernel
theorem dL_law_1160 : decode cL_law 1160 = .ok (.aload_n 2, 1) := by decide +kernel
theorem dL_law_1161 : decode cL_law 1161 = .ok (.aload_n 0, 1) := by decide +kernel
theorem dL_law_1162 : decode cL_law 1162 = .ok (.iload_n 3, 1) := by decide +kernel
theorem dL_law_1163 : decode cL_law 1163 = .ok (.iconst 1, 1) := by decide +kernel
theorem dL_law_1164 : decode cL_law 1164 = .ok (.iadd, 1) := by decide +kernel
theorem dL_law_1165 : decode cL_law 1165 = .ok (.iaload, 1) := by decide +kernel
theorem dL_law_1166 : decode cL_law 1166 = .ok (.aload_n 0, 1) := by decide +kernel
theorem dL_law_1167 : decode cL_law 1167 = .ok (.iload_n 3, 1) := by decide +kernel
theorem dL_law_1168 : decode cL_law 1168 = .ok (.iconst 2, 1) := by decide +kernel
theorem dL_law_1169 : decode cL_law 1169 = .ok (.iadd, 1) := by decide +kernel
theorem dL_law_1170 : decode cL_law 1170 = .ok (.iaload, 1) := by decide +kernel
theorem dL_law_1171 : decode cL_law 1171 = .ok (.aload_n 0, 1) := by decide +kernel
theorem dL_law_1172 : decode cL_law 1172 = .ok (.iload_n 3, 1) := by decide +kernel
theorem dL_law_1173 : decode cL_law 1173 = .ok (.iconst 3, 1) := by decide +kernel
theorem dL_law_1174 : decode cL_law 1174 = .ok (.iadd, 1) := by decide +kernel
theorem dL_law_1175 : decode cL_law 1175 = .ok (.iaload, 1) := by decide +kernel
theorem dL_law_1176 : decode cL_law 1176 = .ok (.invokevirtual 130, 3) := by decide +kernel
theorem dL_law_1179 : decode cL_law 1179 = .ok (.if_icmp .eq 522, 3) := by decide +kernel
theorem dL_law_1182 : decode cL_law 1182 = .ok (.iconst 0, 1) := by decide +kernel
theorem dL_law_1183 : decode cL_law 1183 = .ok (.ireturn, 1) := by decide +kernel
theorem dL_law_1184 : decode cL_law 1184 = .ok (.aload_n 1, 1) := by decide +kernel
theorem dL_law_1185 : decode cL_law 1185 = .ok (.aload_n 0, 1) := by decide +kernel
theorem dL_law_1186 : decode cL_law 1186 = .ok (.iload_n 3, 1) := by decide +kernel
theorem dL_law_1187 : decode cL_law 1187 = .ok (.iconst 1, 1) := by decide +kernel
theorem dL_law_1188 : decode cL_law 1188 = .ok (.iadd, 1) := by decide +kernel
theorem dL_law_1189 : decode cL_law 1189 = .ok (.iaload, 1) := by decide +kernel
theorem dL_law_1190 : decode cL_law 1190 = .ok (.aload_n 0, 1) := by decide +kernel
theorem dL_law_1191 : decode cL_law 1191 = .ok (.iload_n 3, 1) := by decide +kernel
theorem dL_law_1192 : decode cL_law 1192 = .ok (.iconst 2, 1) := by decide +kernel
theorem dL_law_1193 : decode cL_law 1193 = .ok (.iadd, 1) := by decide +kernel
theorem dL_law_1194 : decode cL_law 1194 = .ok (.iaload, 1) := by decide +kernel
theorem dL_law_1195 : decode cL_law 1195 = .ok (.invokevirtual 131, 3) := by decide +kernel
theorem dL_law_1198 : decode cL_law 1198 = .ok (.aload_n 2, 1) := by decide +kernel
theorem dL_law_1199 : decode cL_law 1199 = .ok (.aload_n 0, 1) := by decide +kernel
theorem dL_law_1200 : decode cL_law 1200 = .ok (.iload_n 3, 1) := by decide +kernel
theorem dL_law_1201 : decode cL_law 1201 = .ok (.iconst 1, 1) := by decide +kernel
theorem dL_law_1202 : decode cL_law 1202 = .ok (.iadd, 1) := by decide +kernel
theorem dL_law_1203 : decode cL_law 1203 = .ok (.iaload, 1) := by decide +kernel
theorem dL_law_1204 : decode cL_law 1204 = .ok (.aload_n 0, 1) := by decide +kernel
theorem dL_law_1205 : decode cL_law 1205 = .ok (.iload_n 3, 1) := by decide +kernel
theorem dL_law_1206 : decode cL_law 1206 = .ok (.iconst 2, 1) := by decide +kernel
theorem dL_law_1207 : decode cL_law 1207 = .ok (.iadd, 1) := by decide +kernel
theorem dL_law_1208 : decode cL_law 1208 = .ok (.iaload, 1) := by decide +kernel
theorem dL_law_1209 : decode cL_law 1209 = .ok (.invokevirtual 134, 3) := by decide +kernel
theorem dL_law_1212 : decode cL_law 1212 = .ok (.if_icmp .eq 489, 3) := by decide +kernel
theorem dL_law_1215 : decode cL_law 1215 = .ok (.iconst 0, 1) := by decide +kernel
theorem dL_law_1216 : decode cL_law 1216 = .ok (.ireturn, 1) := by decide +kernel
theorem dL_law_1217 : decode cL_law 1217 = .ok (.aload_n 1, 1) := by decide +kernel
theorem dL_law_1218 : decode cL_law 1218 = .ok (.aload_n 0, 1) := by decide +kernel
theorem dL_law_1219 : decode cL_law 1219 = .ok (.iload_n 3, 1) := by decide +kernel
theorem dL_law_1220 : decode cL_law 1220 = .ok (.iconst 1, 1) := by decide +kernel
theorem dL_law_1221 : decode cL_law 1221 = .ok (.iadd, 1) := by decide +kernel
theorem dL_law_1222 : decode cL_law 1222 = .ok (.iaload, 1) := by decide +kernel
theorem dL_law_1223 : decode cL_law 1223 = .ok (.aload_n 0, 1) := by decide +kernel
theorem dL_law_1224 : decode cL_law 1224 = .ok (.iload_n 3, 1) := by decide +kernel
theorem dL_law_1225 : decode cL_law 1225 = .ok (.iconst 2, 1) := by decide +kernel
theorem dL_law_1226 : decode cL_law 1226 = .ok (.iadd, 1) := by decide +kernel
theorem dL_law_1227 : decode cL_law 1227 = .ok (.iaload, 1) := by decide +kernel
theorem dL_law_1228 : decode cL_law 1228 = .ok (.invokevirtual 135, 3) := by decide +kernel
theorem dL_law_1231 : decode cL_law 1231 = .ok (.aload_n 2, 1) := by decide +kernel
theorem dL_law_1232 : decode cL_law 1232 = .ok (.aload_n 0, 1) := by decide +kernel
theorem dL_law_1233 : decode cL_law 1233 = .ok (.iload_n 3, 1) := by decide +kernel
theorem dL_law_1234 : decode cL_law 1234 = .ok (.iconst 1, 1) := by decide +kernel
theorem dL_law_1235 : decode cL_law 1235 = .ok (.iadd, 1) := by decide +kernel
theorem dL_law_1236 : decode cL_law 1236 = .ok (.iaload, 1) := by decide +kernel
theorem dL_law_1237 : decode cL_law 1237 = .ok (.aload_n 0, 1) := by decide +kernel
theorem dL_law_1238 : decode cL_law 1238 = .ok (.iload_n 3, 1) := by decide +kernel
theorem dL_law_1239 : decode cL_law 1239 = .ok (.iconst 2, 1) := by decide +kernel
theorem dL_law_1240 : decode cL_law 1240 = .ok (.iadd, 1) := by decide +kernel
theorem dL_law_1241 : decode cL_law 1241 = .ok (.iaload, 1) := by decide +kernel
theorem dL_law_1242 : decode cL_law 1242 = .ok (.invokevirtual 138, 3) := by decide +kernel
theorem dL_law_1245 : decode cL_law 1245 = .ok (.if_icmp .eq 456, 3) := by decide +kernel
theorem dL_law_1248 : decode cL_law 1248 = .ok (.iconst 0, 1) := by decide +kernel
theorem dL_law_1249 : decode cL_law 1249 = .ok (.ireturn, 1) := by decide +kernel
theorem dL_law_1250 : decode cL_law 1250 = .ok (.aload_n 1, 1) := by decide +kernel
theorem dL_law_1251 : decode cL_law 1251 = .ok (.aload_n 0, 1) := by decide +kernel
theorem dL_law_1252 : decode cL_law 1252 = .ok (.iload_n 3, 1) := by decide +kernel
theorem dL_law_1253 : decode cL_law 1253 = .ok (.iconst 1, 1) := by decide +kernel
theorem dL_law_1254 : decode cL_law 1254 = .ok (.iadd, 1) := by decide +kernel
theorem dL_law_1255 : decode cL_law 1255 = .ok (.iaload, 1) := by decide +kernel
theorem dL_law_1256 : decode cL_law 1256 = .ok (.aload_n 0, 1) := by decide +kernel
theorem dL_law_1257 : decode cL_law 1257 = .ok (.iload_n 3, 1) := by decide +kernel
theorem dL_law_1258 : decode cL_law 1258 = .ok (.iconst 2, 1) := by decide +kernel
theorem dL_law_1259 : decode cL_law 1259 = .ok (.iadd, 1) := by decide +kernel
theorem dL_law_1260 : decode cL_law 1260 = .ok (.iaload, 1) := by decide +kernel
theorem dL_law_1261 : decode cL_law 1261 = .ok (.aload_n 0, 1) := by decide +kernel
theorem dL_law_1262 : decode cL_law 1262 = .ok (.iload_n 3, 1) := by decide +kernel
theorem dL_law_1263 : decode cL_law 1263 = .ok (.iconst 3, 1) := by decide +kernel
theorem dL_law_1264 : decode cL_law 1264 = .ok (.iadd, 1) := by decide +kernel
theorem dL_law_1265 : decode cL_law 1265 = .ok (.iaload, 1) := by decide +kernel
theorem dL_law_1266 : decode cL_law 1266 = .ok (.aload_n 0, 1) := by decide +kernel
theorem dL_law_1267 : decode cL_law 1267 = .ok (.iload_n 3, 1) := by decide +kernel
theorem dL_law_1268 : decode cL_law 1268 = .ok (.iconst 4, 1) := by decide +kernel
theorem dL_law_1269 : decode cL_law 1269 = .ok (.iadd, 1) := by decide +kernel
theorem dL_law_1270 : decode cL_law 1270 = .ok (.iaload, 1) := by decide +kernel
theorem dL_law_1271 : decode cL_law 1271 = .ok (.aload_n 0, 1) := by decide +kernel
theorem dL_law_1272 : decode cL_law 1272 = .ok (.iload_n 3, 1) := by decide +kernel
theorem dL_law_1273 : decode cL_law 1273 = .ok (.iconst 5, 1) := by decide +kernel
theorem dL_law_1274 : decode cL_law 1274 = .ok (.iadd, 1) := by decide +kernel
theorem dL_law_1275 : decode cL_law 1275 = .ok (.iaload, 1) := by decide +kernel
theorem dL_law_1276 : decode cL_law 1276 = .ok (.invokevirtual 139, 3) := by decide +kernel
theorem dL_law_1279 : decode cL_law 1279 = .ok (.aload_n 2, 1) := by decide +kernel
theorem dL_law_1280 : decode cL_law 1280 = .ok (.aload_n 0, 1) := by decide +kernel
theorem dL_law_1281 : decode cL_law 1281 = .ok (.iload_n 3, 1) := by decide +kernel
theorem dL_law_1282 : decode cL_law 1282 = .ok (.iconst 1, 1) := by decide +kernel
theorem dL_law_1283 : decode cL_law 1283 = .ok (.iadd, 1) := by decide +kernel
theorem dL_law_1284 : decode cL_law 1284 = .ok (.iaload, 1) := by decide +kernel
theorem dL_law_1285 : decode cL_law 1285 = .ok (.aload_n 0, 1) := by decide +kernel
theorem dL_law_1286 : decode cL_law 1286 = .ok (.iload_n 3, 1) := by decide +kernel
theorem dL_law_1287 : decode cL_law 1287 = .ok (.iconst 2, 1) := by decide +kernel
theorem dL_law_1288 : decode cL_law 1288 = .ok (.iadd, 1) := by decide +kernel
theorem dL_law_1289 : decode cL_law 1289 = .ok (.iaload, 1) := by decide +kernel
theorem dL_law_1290 : decode cL_law 1290 = .ok (.aload_n 0, 1) := by decide +kernel
theorem dL_law_1291 : decode cL_law 1291 = .ok (.iload_n 3, 1) := by decide +kernel
theorem dL_law_1292 : decode cL_law 1292 = .ok (.iconst 3, 1) := by decide +kernel
theorem dL_law_1293 : decode cL_law 1293 = .ok (.iadd, 1) := by decide +kernel
theorem dL_law_1294 : decode cL_law 1294 = .ok (.iaload, 1) := by decide +kernel
theorem dL_law_1295 : decode cL_law 1295 = .ok (.aload_n 0, 1) := by decide +kernel
theorem dL_law_1296 : decode cL_law 1296 = .ok (.iload_n 3, 1) := by decide +kernel
theorem dL_law_1297 : decode cL_law 1297 = .ok (.iconst 4, 1) := by decide +kernel
theorem dL_law_1298 : decode cL_law 1298 = .ok (.iadd, 1) := by decide +kernel
theorem dL_law_1299 : decode cL_law 1299 = .ok (.iaload, 1) := by decide +kernel
theorem dL_law_1300 : decode cL_law 1300 = .ok (.aload_n 0, 1) := by decide +kernel
theorem dL_law_1301 : decode cL_law 1301 = .ok (.iload_n 3, 1) := by decide +kernel
theorem dL_law_1302 : decode cL_law 1302 = .ok (.iconst 5, 1) := by decide +kernel
theorem dL_law_1303 : decode cL_law 1303 = .ok (.iadd, 1) := by decide +kernel
theorem dL_law_1304 : decode cL_law 1304 = .ok (.iaload, 1) := by decide +kernel
theorem dL_law_1305 : decode cL_law 1305 = .ok (.invokevirtual 142, 3) := by decide +kernel
theorem dL_law_1308 : decode cL_law 1308 = .ok (.if_icmp .eq 393, 3) := by decide +kernel
theorem dL_law_1311 : decode cL_law 1311 = .ok (.iconst 0, 1) := by decide +kernel
theorem dL_law_1312 : decode cL_law 1312 = .ok (.ireturn, 1) := by decide +kernel
theorem dL_law_1313 : decode cL_law 1313 = .ok (.aload_n 1, 1) := by decide +kernel
theorem dL_law_1314 : decode cL_law 1314 = .ok (.aload_n 0, 1) := by decide +kernel
theorem dL_law_1315 : decode cL_law 1315 = .ok (.iload_n 3, 1) := by decide +kernel
theorem dL_law_1316 : decode cL_law 1316 = .ok (.iconst 1, 1) := by decide +kernel
theorem dL_law_1317 : decode cL_law 1317 = .ok (.iadd, 1) := by decide +kernel
theorem dL_law_1318 : decode cL_law 1318 = .ok (.iaload, 1) := by decide +kernel
theorem dL_law_1319 : decode cL_law 1319 = .ok (.invokevirtual 143, 3) := by decide +kernel
theorem dL_law_1322 : decode cL_law 1322 = .ok (.aload_n 2, 1) := by decide +kernel
theorem dL_law_1323 : decode cL_law 1323 = .ok (.aload_n 0, 1) := by decide +kernel
theorem dL_law_1324 : decode cL_law 1324 = .ok (.iload_n 3, 1) := by decide +kernel
theorem dL_law_1325 : decode cL_law 1325 = .ok (.iconst 1, 1) := by decide +kernel
theorem dL_law_1326 : decode cL_law 1326 = .ok (.iadd, 1) := by decide +kernel
theorem dL_law_1327 : decode cL_law 1327 = .ok (.iaload, 1) := by decide +kernel
theorem dL_law_1328 : decode cL_law 1328 = .ok (.invokevirtual 146, 3) := by decide +kernel
theorem dL_law_1331 : decode cL_law 1331 = .ok (.if_icmp .eq 370, 3) := by decide +kernel
theorem dL_law_1334 : decode cL_law 1334 = .ok (.iconst 0, 1) := by decide +kernel
theorem dL_law_1335 : decode cL_law 1335 = .ok (.ireturn, 1) := by decide +kernel
theorem dL_law_1336 : decode cL_law 1336 = .ok (.aload_n 1, 1) := by decide +kernel
theorem dL_law_1337 : decode cL_law 1337 = .ok (.aload_n 0, 1) := by decide +kernel
theorem dL_law_1338 : decode cL_law 1338 = .ok (.iload_n 3, 1) := by decide +kernel
theorem dL_law_1339 : decode cL_law 1339 = .ok (.iconst 1, 1) := by decide +kernel
theorem dL_law_1340 : decode cL_law 1340 = .ok (.iadd, 1) := by decide +kernel
theorem dL_law_1341 : decode cL_law 1341 = .ok (.iaload, 1) := by decide +kernel
theorem dL_law_1342 : decode cL_law 1342 = .ok (.invokevirtual 147, 3) := by decide +kernel
theorem dL_law_1345 : decode cL_law 1345 = .ok (.aload_n 2, 1) := by decide +kernel
theorem dL_law_1346 : decode cL_law 1346 = .ok (.aload_n 0, 1) := by decide +kernel
theorem dL_law_1347 : decode cL_law 1347 = .ok (.iload_n 3, 1) := by decide +kernel
theorem dL_law_1348 : decode cL_law 1348 = .ok (.iconst 1, 1) := by decide +kernel
theorem dL_law_1349 : decode cL_law 1349 = .ok (.iadd, 1) := by decide +kernel
theorem dL_law_1350 : decode cL_law 1350 = .ok (.iaload, 1) := by decide +kernel
theorem dL_law_1351 : decode cL_law 1351 = .ok (.invokevirtual 150, 3) := by decide +kernel
theorem dL_law_1354 : decode cL_law 1354 = .ok (.if_icmp .eq 347, 3) := by decide +kernel
theorem dL_law_1357 : decode cL_law 1357 = .ok (.iconst 0, 1) := by decide +kernel
theorem dL_law_1358 : decode cL_law 1358 = .ok (.ireturn, 1) := by decide +kernel
theorem dL_law_1359 : decode cL_law 1359 = .ok (.aload_n 1, 1) := by decide +kernel
theorem dL_law_1360 : decode cL_law 1360 = .ok (.invokevirtual 151, 3) := by decide +kernel
theorem dL_law_1363 : decode cL_law 1363 = .ok (.aload_n 2, 1) := by decide +kernel
theorem dL_law_1364 : decode cL_law 1364 = .ok (.invokevirtual 154, 3) := by decide +kernel
theorem dL_law_1367 : decode cL_law 1367 = .ok (.if_icmp .eq 334, 3) := by decide +kernel
theorem dL_law_1370 : decode cL_law 1370 = .ok (.iconst 0, 1) := by decide +kernel
theorem dL_law_1371 : decode cL_law 1371 = .ok (.ireturn, 1) := by decide +kernel
theorem dL_law_1372 : decode cL_law 1372 = .ok (.aload_n 1, 1) := by decide +kernel
theorem dL_law_1373 : decode cL_law 1373 = .ok (.invokevirtual 155, 3) := by decide +kernel
theorem dL_law_1376 : decode cL_law 1376 = .ok (.aload_n 2, 1) := by decide +kernel
theorem dL_law_1377 : decode cL_law 1377 = .ok (.invokevirtual 158, 3) := by decide +kernel
theorem dL_law_1380 : decode cL_law 1380 = .ok (.if_icmp .eq 321, 3) := by decide +kernel
theorem dL_law_1383 : decode cL_law 1383 = .ok (.iconst 0, 1) := by decide +kernel
theorem dL_law_1384 : decode cL_law 1384 = .ok (.ireturn, 1) := by decide +kernel
theorem dL_law_1385 : decode cL_law 1385 = .ok (.aload_n 1, 1) := by decide +kernel
theorem dL_law_1386 : decode cL_law 1386 = .ok (.aload_n 0, 1) := by decide +kernel
theorem dL_law_1387 : decode cL_law 1387 = .ok (.iload_n 3, 1) := by decide +kernel
theorem dL_law_1388 : decode cL_law 1388 = .ok (.iconst 1, 1) := by decide +kernel
theorem dL_law_1389 : decode cL_law 1389 = .ok (.iadd, 1) := by decide +kernel
theorem dL_law_1390 : decode cL_law 1390 = .ok (.iaload, 1) := by decide +kernel
theorem dL_law_1391 : decode cL_law 1391 = .ok (.aload_n 0, 1) := by decide +kernel
theorem dL_law_1392 : decode cL_law 1392 = .ok (.iload_n 3, 1) := by decide +kernel
theorem dL_law_1393 : decode cL_law 1393 = .ok (.iconst 2, 1) := by decide +kernel
theorem dL_law_1394 : decode cL_law 1394 = .ok (.iadd, 1) := by decide +kernel
theorem dL_law_1395 : decode cL_law 1395 = .ok (.iaload, 1) := by decide +kernel
theorem dL_law_1396 : decode cL_law 1396 = .ok (.aload_n 0, 1) := by decide +kernel
theorem dL_law_1397 : decode cL_law 1397 = .ok (.iload_n 3, 1) := by decide +kernel
theorem dL_law_1398 : decode cL_law 1398 = .ok (.iconst 3, 1) := by decide +kernel
theorem dL_law_1399 : decode cL_law 1399 = .ok (.iadd, 1) := by decide +kernel
theorem dL_law_1400 : decode cL_law 1400 = .ok (.iaload, 1) := by decide +kernel
theorem dL_law_1401 : decode cL_law 1401 = .ok (.aload_n 0, 1) := by decide +kernel
theorem dL_law_1402 : decode cL_law 1402 = .ok (.iload_n 3, 1) := by decide +kernel
theorem dL_law_1403 : decode cL_law 1403 = .ok (.iconst 4, 1) := by decide +kernel
theorem dL_law_1404 : decode cL_law 1404 = .ok (.iadd, 1) := by decide +kernel
theorem dL_law_1405 : decode cL_law 1405 = .ok (.iaload, 1) := by decide +kernel
theorem dL_law_1406 : decode cL_law 1406 = .ok (.aload_n 0, 1) := by decide +kernel
theorem dL_law_1407 : decode cL_law 1407 = .ok (.iload_n 3, 1) := by decide +kernel
theorem dL_law_1408 : decode cL_law 1408 = .ok (.iconst 5, 1) := by decide +kernel
theorem dL_law_1409 : decode cL_law 1409 = .ok (.iadd, 1) := by decide +kernel
theorem dL_law_1410 : decode cL_law 1410 = .ok (.iaload, 1) := by decide +kernel
theorem dL_law_1411 : decode cL_law 1411 = .ok (.invokevirtual 159, 3) := by decide +kernel
theorem dL_law_1414 : decode cL_law 1414 = .ok (.aload_n 2, 1) := by decide +kernel
theorem dL_law_1415 : decode cL_law 1415 = .ok (.aload_n 0, 1) := by decide +kernel
theorem dL_law_1416 : decode cL_law 1416 = .ok (.iload_n 3, 1) := by decide +kernel
theorem dL_law_1417 : decode cL_law 1417 = .ok (.iconst 1, 1) := by decide +kernel
theorem dL_law_1418 : decode cL_law 1418 = .ok (.iadd, 1) := by decide +kernel
theorem dL_law_1419 : decode cL_law 1419 = .ok (.iaload, 1) := by decide +kernel
theorem dL_law_1420 : decode cL_law 1420 = .ok (.aload_n 0, 1) := by decide +kernel
theorem dL_law_1421 : decode cL_law 1421 = .ok (.iload_n 3, 1) := by decide +kernel
theorem dL_law_1422 : decode cL_law 1422 = .ok (.iconst 2, 1) := by decide +kernel
theorem dL_law_1423 : decode cL_law 1423 = .ok (.iadd, 1) := by decide +kernel
theorem dL_law_1424 : decode cL_law 1424 = .ok (.iaload, 1) := by decide +kernel
theorem dL_law_1425 : decode cL_law 1425 = .ok (.aload_n 0, 1) := by decide +kernel
theorem dL_law_1426 : decode cL_law 1426 = .ok (.iload_n 3, 1) := by decide +kernel
theorem dL_law_1427 : decode cL_law 1427 = .ok (.iconst 3, 1) := by decide +kernel
theorem dL_law_1428 : decode cL_law 1428 = .ok (.iadd, 1) := by decide +kernel
theorem dL_law_1429 : decode cL_law 1429 = .ok (.iaload, 1) := by decide +kernel
theorem dL_law_1430 : decode cL_law 1430 = .ok (.aload_n 0, 1) := by decide +kernel
theorem dL_law_1431 : decode cL_law 1431 = .ok (.iload_n 3, 1) := by decide +kernel
theorem dL_law_1432 : decode cL_law 1432 = .ok (.iconst 4, 1) := by decide +kernel
theorem dL_law_1433 : decode cL_law 1433 = .ok (.iadd, 1) := by decide +kernel
theorem dL_law_1434 : decode cL_law 1434 = .ok (.iaload, 1) := by decide +kernel
theorem dL_law_1435 : decode cL_law 1435 = .ok (.aload_n 0, 1) := by decide +kernel
theorem dL_law_1436 : decode cL_law 1436 = .ok (.iload_n 3, 1) := by decide +kernel
theorem dL_law_1437 : decode cL_law 1437 = .ok (.iconst 5, 1) := by decide +kernel
theorem dL_law_1438 : decode cL_law 1438 = .ok (.iadd, 1) := by decide +kernel
theorem dL_law_1439 : decode cL_law 1439 = .ok (.iaload, 1) := by decide +kernel
theorem dL_law_1440 : decode cL_law 1440 = .ok (.invokevirtual 162, 3) := by decide +kernel
theorem dL_law_1443 : decode cL_law 1443 = .ok (.if_icmp .eq 258, 3) := by decide +kernel
theorem dL_law_1446 : decode cL_law 1446 = .ok (.iconst 0, 1) := by decide +kernel
theorem dL_law_1447 : decode cL_law 1447 = .ok (.ireturn, 1) := by decide +kernel
theorem dL_law_1448 : decode cL_law 1448 = .ok (.aload_n 1, 1) := by decide +kernel
theorem dL_law_1449 : decode cL_law 1449 = .ok (.aload_n 0, 1) := by decide +kernel
theorem dL_law_1450 : decode cL_law 1450 = .ok (.iload_n 3, 1) := by decide +kernel
theorem dL_law_1451 : decode cL_law 1451 = .ok (.iconst 1, 1) := by decide +kernel
theorem dL_law_1452 : decode cL_law 1452 = .ok (.iadd, 1) := by decide +kernel
theorem dL_law_1453 : decode cL_law 1453 = .ok (.iaload, 1) := by decide +kernel
theorem dL_law_1454 : decode cL_law 1454 = .ok (.aload_n 0, 1) := by decide +kernel
theorem dL_law_1455 : decode cL_law 1455 = .ok (.iload_n 3, 1) := by decide +kernel
theorem dL_law_1456 : decode cL_law 1456 = .ok (.iconst 2, 1) := by decide +kernel
theorem dL_law_1457 : decode cL_law 1457 = .ok (.iadd, 1) := by decide +kernel
theorem dL_law_1458 : decode cL_law 1458 = .ok (.iaload, 1) := by decide +kernel
theorem dL_law_1459 : decode cL_law 1459 = .ok (.aload_n 0, 1) := by decide +kernel
theorem dL_law_1460 : decode cL_law 1460 = .ok (.iload_n 3, 1) := by decide +kernel
theorem dL_law_1461 : decode cL_law 1461 = .ok (.iconst 3, 1) := by decide +kernel
theorem dL_law_1462 : decode cL_law 1462 = .ok (.iadd, 1) := by decide +kernel
theorem dL_law_1463 : decode cL_law 1463 = .ok (.iaload, 1) := by decide +kernel
theorem dL_law_1464 : decode cL_law 1464 = .ok (.invokevirtual 163, 3) := by decide +kernel
theorem dL_law_1467 : decode cL_law 1467 = .ok (.aload_n 2, 1) := by decide +kernel
theorem dL_law_1468 : decode cL_law 1468 = .ok (.aload_n 0, 1) := by decide +kernel
theorem dL_law_1469 : decode cL_law 1469 = .ok (.iload_n 3, 1) := by decide +kernel
theorem dL_law_1470 : decode cL_law 1470 = .ok (.iconst 1, 1) := by decide +kernel
theorem dL_law_1471 : decode cL_law 1471 = .ok (.iadd, 1) := by decide +kernel
theorem dL_law_1472 : decode cL_law 1472 = .ok (.iaload, 1) := by decide +kernel
theorem dL_law_1473 : decode cL_law 1473 = .ok (.aload_n 0, 1) := by decide +kernel
theorem dL_law_1474 : decode cL_law 1474 = .ok (.iload_n 3, 1) := by decide +kernel
theorem dL_law_1475 : decode cL_law 1475 = .ok (.iconst 2, 1) := by decide +kernel
theorem dL_law_1476 : decode cL_law 1476 = .ok (.iadd, 1) := by decide +kernel
theorem dL_law_1477 : decode cL_law 1477 = .ok (.iaload, 1) := by decide +kernel
theorem dL_law_1478 : decode cL_law 1478 = .ok (.aload_n 0, 1) := by decide +kernel
theorem dL_law_1479 : decode cL_law 1479 = .ok (.iload_n 3, 1) := by decide +kernel
theorem dL_law_1480 : decode cL_law 1480 = .ok (.iconst 3, 1) := by decide +kernel
theorem dL_law_1481 : decode cL_law 1481 = .ok (.iadd, 1) := by decide +kernel
theorem dL_law_1482 : decode cL_law 1482 = .ok (.iaload, 1) := by decide +kernel
theorem dL_law_1483 : decode cL_law 1483 = .ok (.invokevirtual 167, 3) := by decide +kernel
theorem dL_law_1486 : decode cL_law 1486 = .ok (.lcmp, 1) := by decide +kernel
theorem dL_law_1487 : decode cL_law 1487 = .ok (.ifCond .eq 214, 3) := by decide +kernel
theorem dL_law_1490 : decode cL_law 1490 = .ok (.iconst 0, 1) := by decide +kernel
theorem dL_law_1491 : decode cL_law 1491 = .ok (.ireturn, 1) := by decide +kernel
theorem dL_law_1492 : decode cL_law 1492 = .ok (.aload_n 1, 1) := by decide +kernel
theorem dL_law_1493 : decode cL_law 1493 = .ok (.aload_n 0, 1) := by decide +kernel
theorem dL_law_1494 : decode cL_law 1494 = .ok (.iload_n 3, 1) := by decide +kernel
theorem dL_law_1495 : decode cL_law 1495 = .ok (.iconst 1, 1) := by decide +kernel
theorem dL_law_1496 : decode cL_law 1496 = .ok (.iadd, 1) := by decide +kernel
theorem dL_law_1497 : decode cL_law 1497 = .ok (.iaload, 1) := by decide +kernel
theorem dL_law_1498 : decode cL_law 1498 = .ok (.aload_n 0, 1) := by decide +kernel
theorem dL_law_1499 : decode cL_law 1499 = .ok (.iload_n 3, 1) := by decide +kernel
theorem dL_law_1500 : decode cL_law 1500 = .ok (.iconst 2, 1) := by decide +kernel
theorem dL_law_1501 : decode cL_law 1501 = .ok (.iadd, 1) := by decide +kernel
theorem dL_law_1502 : decode cL_law 1502 = .ok (.iaload, 1) := by decide +kernel
theorem dL_law_1503 : decode cL_law 1503 = .ok (.aload_n 0, 1) := by decide +kernel
theorem dL_law_1504 : decode cL_law 1504 = .ok (.iload_n 3, 1) := by decide +kernel
theorem dL_law_1505 : decode cL_law 1505 = .ok (.iconst 3, 1) := by decide +kernel
theorem dL_law_1506 : decode cL_law 1506 = .ok (.iadd, 1) := by decide +kernel
theorem dL_law_1507 : decode cL_law 1507 = .ok (.iaload, 1) := by decide +kernel
theorem dL_law_1508 : decode cL_law 1508 = .ok (.invokevirtual 168, 3) := by decide +kernel
theorem dL_law_1511 : decode cL_law 1511 = .ok (.aload_n 2, 1) := by decide +kernel
theorem dL_law_1512 : decode cL_law 1512 = .ok (.aload_n 0, 1) := by decide +kernel
theorem dL_law_1513 : decode cL_law 1513 = .ok (.iload_n 3, 1) := by decide +kernel
theorem dL_law_1514 : decode cL_law 1514 = .ok (.iconst 1, 1) := by decide +kernel
theorem dL_law_1515 : decode cL_law 1515 = .ok (.iadd, 1) := by decide +kernel
theorem dL_law_1516 : decode cL_law 1516 = .ok (.iaload, 1) := by decide +kernel
theorem dL_law_1517 : decode cL_law 1517 = .ok (.aload_n 0, 1) := by decide +kernel
theorem dL_law_1518 : decode cL_law 1518 = .ok (.iload_n 3, 1) := by decide +kernel
theorem dL_law_1519 : decode cL_law 1519 = .ok (.iconst 2, 1) := by decide +kernel
theorem dL_law_1520 : decode cL_law 1520 = .ok (.iadd, 1) := by decide +kernel
theorem dL_law_1521 : decode cL_law 1521 = .ok (.iaload, 1) := by decide +kernel
theorem dL_law_1522 : decode cL_law 1522 = .ok (.aload_n 0, 1) := by decide +kernel
theorem dL_law_1523 : decode cL_law 1523 = .ok (.iload_n 3, 1) := by decide +kernel
theorem dL_law_1524 : decode cL_law 1524 = .ok (.iconst 3, 1) := by decide +kernel
theorem dL_law_1525 : decode cL_law 1525 = .ok (.iadd, 1) := by decide +kernel
theorem dL_law_1526 : decode cL_law 1526 = .ok (.iaload, 1) := by decide +kernel
theorem dL_law_1527 : decode cL_law 1527 = .ok (.invokevirtual 171, 3) := by decide +kernel
theorem dL_law_1530 : decode cL_law 1530 = .ok (.lcmp, 1) := by decide +kernel
theorem dL_law_1531 : decode cL_law 1531 = .ok (.ifCond .eq 170, 3) := by decide +kernel
theorem dL_law_1534 : decode cL_law 1534 = .ok (.iconst 0, 1) := by decide +kernel
theorem dL_law_1535 : decode cL_law 1535 = .ok (.ireturn, 1) := by decide +kernel
theorem dL_law_1536 : decode cL_law 1536 = .ok (.aload_n 1, 1) := by decide +kernel
theorem dL_law_1537 : decode cL_law 1537 = .ok (.aload_n 0, 1) := by decide +kernel
theorem dL_law_1538 : decode cL_law 1538 = .ok (.iload_n 3, 1) := by decide +kernel
theorem dL_law_1539 : decode cL_law 1539 = .ok (.iconst 1, 1) := by decide +kernel
theorem dL_law_1540 : decode cL_law 1540 = .ok (.iadd, 1) := by decide +kernel
theorem dL_law_1541 : decode cL_law 1541 = .ok (.iaload, 1) := by decide +kernel
theorem dL_law_1542 : decode cL_law 1542 = .ok (.aload_n 0, 1) := by decide +kernel
theorem dL_law_1543 : decode cL_law 1543 = .ok (.iload_n 3, 1) := by decide +kernel
theorem dL_law_1544 : decode cL_law 1544 = .ok (.iconst 2, 1) := by decide +kernel
theorem dL_law_1545 : decode cL_law 1545 = .ok (.iadd, 1) := by decide +kernel
theorem dL_law_1546 : decode cL_law 1546 = .ok (.iaload, 1) := by decide +kernel
theorem dL_law_1547 : decode cL_law 1547 = .ok (.aload_n 0, 1) := by decide +kernel
theorem dL_law_1548 : decode cL_law 1548 = .ok (.iload_n 3, 1) := by decide +kernel
theorem dL_law_1549 : decode cL_law 1549 = .ok (.iconst 3, 1) := by decide +kernel
theorem dL_law_1550 : decode cL_law 1550 = .ok (.iadd, 1) := by decide +kernel
theorem dL_law_1551 : decode cL_law 1551 = .ok (.iaload, 1) := by decide +kernel
theorem dL_law_1552 : decode cL_law 1552 = .ok (.invokevirtual 172, 3) := by decide +kernel
theorem dL_law_1555 : decode cL_law 1555 = .ok (.aload_n 2, 1) := by decide +kernel
theorem dL_law_1556 : decode cL_law 1556 = .ok (.aload_n 0, 1) := by decide +kernel
theorem dL_law_1557 : decode cL_law 1557 = .ok (.iload_n 3, 1) := by decide +kernel
theorem dL_law_1558 : decode cL_law 1558 = .ok (.iconst 1, 1) := by decide +kernel
theorem dL_law_1559 : decode cL_law 1559 = .ok (.iadd, 1) := by decide +kernel
theorem dL_law_1560 : decode cL_law 1560 = .ok (.iaload, 1) := by decide +kernel
theorem dL_law_1561 : decode cL_law 1561 = .ok (.aload_n 0, 1) := by decide +kernel
theorem dL_law_1562 : decode cL_law 1562 = .ok (.iload_n 3, 1) := by decide +kernel
theorem dL_law_1563 : decode cL_law 1563 = .ok (.iconst 2, 1) := by decide +kernel
theorem dL_law_1564 : decode cL_law 1564 = .ok (.iadd, 1) := by decide +kernel
theorem dL_law_1565 : decode cL_law 1565 = .ok (.iaload, 1) := by decide +kernel
theorem dL_law_1566 : decode cL_law 1566 = .ok (.aload_n 0, 1) := by decide +kernel
theorem dL_law_1567 : decode cL_law 1567 = .ok (.iload_n 3, 1) := by decide +kernel
theorem dL_law_1568 : decode cL_law 1568 = .ok (.iconst 3, 1) := by decide +kernel
theorem dL_law_1569 : decode cL_law 1569 = .ok (.iadd, 1) := by decide +kernel
theorem dL_law_1570 : decode cL_law 1570 = .ok (.iaload, 1) := by decide +kernel
theorem dL_law_1571 : decode cL_law 1571 = .ok (.invokevirtual 175, 3) := by decide +kernel
theorem dL_law_1574 : decode cL_law 1574 = .ok (.if_icmp .eq 127, 3) := by decide +kernel
theorem dL_law_1577 : decode cL_law 1577 = .ok (.iconst 0, 1) := by decide +kernel
theorem dL_law_1578 : decode cL_law 1578 = .ok (.ireturn, 1) := by decide +kernel
theorem dL_law_1579 : decode cL_law 1579 = .ok (.aload_n 1, 1) := by decide +kernel
theorem dL_law_1580 : decode cL_law 1580 = .ok (.aload_n 0, 1) := by decide +kernel
theorem dL_law_1581 : decode cL_law 1581 = .ok (.iload_n 3, 1) := by decide +kernel
theorem dL_law_1582 : decode cL_law 1582 = .ok (.iconst 1, 1) := by decide +kernel
theorem dL_law_1583 : decode cL_law 1583 = .ok (.iadd, 1) := by decide +kernel
theorem dL_law_1584 : decode cL_law 1584 = .ok (.iaload, 1) := by decide +kernel
theorem dL_law_1585 : decode cL_law 1585 = .ok (.aload_n 0, 1) := by decide +kernel
theorem dL_law_1586 : decode cL_law 1586 = .ok (.iload_n 3, 1) := by decide +kernel
theorem dL_law_1587 : decode cL_law 1587 = .ok (.iconst 2, 1) := by decide +kernel
theorem dL_law_1588 : decode cL_law 1588 = .ok (.iadd, 1) := by decide +kernel
theorem dL_law_1589 : decode cL_law 1589 = .ok (.iaload, 1) := by decide +kernel
theorem dL_law_1590 : decode cL_law 1590 = .ok (.aload_n 0, 1) := by decide +kernel
theorem dL_law_1591 : decode cL_law 1591 = .ok (.iload_n 3, 1) := by decide +kernel
theorem dL_law_1592 : decode cL_law 1592 = .ok (.iconst 3, 1) := by decide +kernel
theorem dL_law_1593 : decode cL_law 1593 = .ok (.iadd, 1) := by decide +kernel
theorem dL_law_1594 : decode cL_law 1594 = .ok (.iaload, 1) := by decide +kernel
theorem dL_law_1595 : decode cL_law 1595 = .ok (.aload_n 0, 1) := by decide +kernel
theorem dL_law_1596 : decode cL_law 1596 = .ok (.iload_n 3, 1) := by decide +kernel
theorem dL_law_1597 : decode cL_law 1597 = .ok (.iconst 4, 1) := by decide +kernel
theorem dL_law_1598 : decode cL_law 1598 = .ok (.iadd, 1) := by decide +kernel
theorem dL_law_1599 : decode cL_law 1599 = .ok (.iaload, 1) := by decide +kernel
theorem dL_law_1600 : decode cL_law 1600 = .ok (.invokevirtual 176, 3) := by decide +kernel
theorem dL_law_1603 : decode cL_law 1603 = .ok (.aload_n 2, 1) := by decide +kernel
theorem dL_law_1604 : decode cL_law 1604 = .ok (.aload_n 0, 1) := by decide +kernel
theorem dL_law_1605 : decode cL_law 1605 = .ok (.iload_n 3, 1) := by decide +kernel
theorem dL_law_1606 : decode cL_law 1606 = .ok (.iconst 1, 1) := by decide +kernel
theorem dL_law_1607 : decode cL_law 1607 = .ok (.iadd, 1) := by decide +kernel
theorem dL_law_1608 : decode cL_law 1608 = .ok (.iaload, 1) := by decide +kernel
theorem dL_law_1609 : decode cL_law 1609 = .ok (.aload_n 0, 1) := by decide +kernel
theorem dL_law_1610 : decode cL_law 1610 = .ok (.iload_n 3, 1) := by decide +kernel
theorem dL_law_1611 : decode cL_law 1611 = .ok (.iconst 2, 1) := by decide +kernel
theorem dL_law_1612 : decode cL_law 1612 = .ok (.iadd, 1) := by decide +kernel
theorem dL_law_1613 : decode cL_law 1613 = .ok (.iaload, 1) := by decide +kernel
theorem dL_law_1614 : decode cL_law 1614 = .ok (.aload_n 0, 1) := by decide +kernel
theorem dL_law_1615 : decode cL_law 1615 = .ok (.iload_n 3, 1) := by decide +kernel
theorem dL_law_1616 : decode cL_law 1616 = .ok (.iconst 3, 1) := by decide +kernel
theorem dL_law_1617 : decode cL_law 1617 = .ok (.iadd, 1) := by decide +kernel
theorem dL_law_1618 : decode cL_law 1618 = .ok (.iaload, 1) := by decide +kernel
theorem dL_law_1619 : decode cL_law 1619 = .ok (.aload_n 0, 1) := by decide +kernel
theorem dL_law_1620 : decode cL_law 1620 = .ok (.iload_n 3, 1) := by decide +kernel
theorem dL_law_1621 : decode cL_law 1621 = .ok (.iconst 4, 1) := by decide +kernel
theorem dL_law_1622 : decode cL_law 1622 = .ok (.iadd, 1) := by decide +kernel
theorem dL_law_1623 : decode cL_law 1623 = .ok (.iaload, 1) := by decide +kernel
theorem dL_law_1624 : decode cL_law 1624 = .ok (.invokevirtual 179, 3) := by decide +kernel
theorem dL_law_1627 : decode cL_law 1627 = .ok (.if_icmp .eq 74, 3) := by decide +kernel
theorem dL_law_1630 : decode cL_law 1630 = .ok (.iconst 0, 1) := by decide +kernel
theorem dL_law_1631 : decode cL_law 1631 = .ok (.ireturn, 1) := by decide +kernel
theorem dL_law_1632 : decode cL_law 1632 = .ok (.aload_n 1, 1) := by decide +kernel
theorem dL_law_1633 : decode cL_law 1633 = .ok (.aload_n 0, 1) := by decide +kernel
theorem dL_law_1634 : decode cL_law 1634 = .ok (.iload_n 3, 1) := by decide +kernel
theorem dL_law_1635 : decode cL_law 1635 = .ok (.iconst 1, 1) := by decide +kernel
theorem dL_law_1636 : decode cL_law 1636 = .ok (.iadd, 1) := by decide +kernel
theorem dL_law_1637 : decode cL_law 1637 = .ok (.iaload, 1) := by decide +kernel
theorem dL_law_1638 : decode cL_law 1638 = .ok (.invokevirtual 180, 3) := by decide +kernel
theorem dL_law_1641 : decode cL_law 1641 = .ok (.aload_n 2, 1) := by decide +kernel
theorem dL_law_1642 : decode cL_law 1642 = .ok (.aload_n 0, 1) := by decide +kernel
theorem dL_law_1643 : decode cL_law 1643 = .ok (.iload_n 3, 1) := by decide +kernel
theorem dL_law_1644 : decode cL_law 1644 = .ok (.iconst 1, 1) := by decide +kernel
theorem dL_law_1645 : decode cL_law 1645 = .ok (.iadd, 1) := by decide +kernel
theorem dL_law_1646 : decode cL_law 1646 = .ok (.iaload, 1) := by decide +kernel
theorem dL_law_1647 : decode cL_law 1647 = .ok (.invokevirtual 184, 3) := by decide +kernel
theorem dL_law_1650 : decode cL_law 1650 = .ok (.if_icmp .eq 51, 3) := by decide +kernel
theorem dL_law_1653 : decode cL_law 1653 = .ok (.iconst 0, 1) := by decide +kernel
theorem dL_law_1654 : decode cL_law 1654 = .ok (.ireturn, 1) := by decide +kernel
theorem dL_law_1655 : decode cL_law 1655 = .ok (.aload_n 1, 1) := by decide +kernel
theorem dL_law_1656 : decode cL_law 1656 = .ok (.aload_n 0, 1) := by decide +kernel
theorem dL_law_1657 : decode cL_law 1657 = .ok (.iload_n 3, 1) := by decide +kernel
theorem dL_law_1658 : decode cL_law 1658 = .ok (.iconst 1, 1) := by decide +kernel
theorem dL_law_1659 : decode cL_law 1659 = .ok (.iadd, 1) := by decide +kernel
theorem dL_law_1660 : decode cL_law 1660 = .ok (.iaload, 1) := by decide +kernel
theorem dL_law_1661 : decode cL_law 1661 = .ok (.invokevirtual 185, 3) := by decide +kernel
theorem dL_law_1664 : decode cL_law 1664 = .ok (.aload_n 2, 1) := by decide +kernel
theorem dL_law_1665 : decode cL_law 1665 = .ok (.aload_n 0, 1) := by decide +kernel
theorem dL_law_1666 : decode cL_law 1666 = .ok (.iload_n 3, 1) := by decide +kernel
theorem dL_law_1667 : decode cL_law 1667 = .ok (.iconst 1, 1) := by decide +kernel
theorem dL_law_1668 : decode cL_law 1668 = .ok (.iadd, 1) := by decide +kernel
theorem dL_law_1669 : decode cL_law 1669 = .ok (.iaload, 1) := by decide +kernel
theorem dL_law_1670 : decode cL_law 1670 = .ok (.invokevirtual 188, 3) := by decide +kernel
theorem dL_law_1673 : decode cL_law 1673 = .ok (.if_icmp .eq 28, 3) := by decide +kernel
theorem dL_law_1676 : decode cL_law 1676 = .ok (.iconst 0, 1) := by decide +kernel
theorem dL_law_1677 : decode cL_law 1677 = .ok (.ireturn, 1) := by decide +kernel
theorem dL_law_1678 : decode cL_law 1678 = .ok (.aload_n 1, 1) := by decide +kernel
theorem dL_law_1679 : decode cL_law 1679 = .ok (.aload_n 0, 1) := by decide +kernel
theorem dL_law_1680 : decode cL_law 1680 = .ok (.iload_n 3, 1) := by decide +kernel
theorem dL_law_1681 : decode cL_law 1681 = .ok (.iconst 1, 1) := by decide +kernel
theorem dL_law_1682 : decode cL_law 1682 = .ok (.iadd, 1) := by decide +kernel
theorem dL_law_1683 : decode cL_law 1683 = .ok (.iaload, 1) := by decide +kernel
theorem dL_law_1684 : decode cL_law 1684 = .ok (.invokevirtual 189, 3) := by decide +kernel
theorem dL_law_1687 : decode cL_law 1687 = .ok (.aload_n 2, 1) := by decide +kernel
theorem dL_law_1688 : decode cL_law 1688 = .ok (.aload_n 0, 1) := by decide +kernel
theorem dL_law_1689 : decode cL_law 1689 = .ok (.iload_n 3, 1) := by decide +kernel
theorem dL_law_1690 : decode cL_law 1690 = .ok (.iconst 1, 1) := by decide +kernel
theorem dL_law_1691 : decode cL_law 1691 = .ok (.iadd, 1) := by decide +kernel
theorem dL_law_1692 : decode cL_law 1692 = .ok (.iaload, 1) := by decide +kernel
theorem dL_law_1693 : decode cL_law 1693 = .ok (.invokevirtual 192, 3) := by decide +kernel
theorem dL_law_1696 : decode cL_law 1696 = .ok (.if_icmp .eq 5, 3) := by decide +kernel
theorem dL_law_1699 : decode cL_law 1699 = .ok (.iconst 0, 1) := by decide +kernel
theorem dL_law_1700 : decode cL_law 1700 = .ok (.ireturn, 1) := by decide +kernel
theorem dL_law_1701 : decode cL_law 1701 = .ok (.iinc 3 6, 3) := by decide +kernel
theorem dL_law_1704 : decode cL_law 1704 = .ok (.goto (-1686), 3) := by decide +kernel
theorem dL_law_1707 : decode cL_law 1707 = .ok (.iconst 1, 1) := by decide +kernel
theorem dL_law_1708 : decode cL_law 1708 = .ok (.ireturn, 1) := by decide +kernel
