theorem dX6_valueOf_0 : decode cX6_valueOf 0 = .ok (.iload_n 1, 1) := by decide +kernel
theorem dX6_valueOf_1 : decode cX6_valueOf 1 = .ok (.lookupswitch 55 #[(3, 35), (28, 37), (29, 46)], 35) := by decide +kernel
theorem dX6_valueOf_36 : decode cX6_valueOf 36 = .ok (.iload_n 2, 1) := by decide +kernel
theorem dX6_valueOf_37 : decode cX6_valueOf 37 = .ok (.ireturn, 1) := by decide +kernel
theorem dX6_valueOf_38 : decode cX6_valueOf 38 = .ok (.aload_n 0, 1) := by decide +kernel
theorem dX6_valueOf_39 : decode cX6_valueOf 39 = .ok (.getfield 66, 3) := by decide +kernel
theorem dX6_valueOf_42 : decode cX6_valueOf 42 = .ok (.iload_n 2, 1) := by decide +kernel
theorem dX6_valueOf_43 : decode cX6_valueOf 43 = .ok (.ishr, 1) := by decide +kernel
theorem dX6_valueOf_44 : decode cX6_valueOf 44 = .ok (.iconst 1, 1) := by decide +kernel
theorem dX6_valueOf_45 : decode cX6_valueOf 45 = .ok (.iand, 1) := by decide +kernel
theorem dX6_valueOf_46 : decode cX6_valueOf 46 = .ok (.ireturn, 1) := by decide +kernel
theorem dX6_valueOf_47 : decode cX6_valueOf 47 = .ok (.aload_n 0, 1) := by decide +kernel
theorem dX6_valueOf_48 : decode cX6_valueOf 48 = .ok (.getfield 69, 3) := by decide +kernel
theorem dX6_valueOf_51 : decode cX6_valueOf 51 = .ok (.iload_n 2, 1) := by decide +kernel
theorem dX6_valueOf_52 : decode cX6_valueOf 52 = .ok (.ishr, 1) := by decide +kernel
theorem dX6_valueOf_53 : decode cX6_valueOf 53 = .ok (.iconst 1, 1) := by decide +kernel
theorem dX6_valueOf_54 : decode cX6_valueOf 54 = .ok (.iand, 1) := by decide +kernel
theorem dX6_valueOf_55 : decode cX6_valueOf 55 = .ok (.ireturn, 1) := by decide +kernel
theorem dX6_valueOf_56 : decode cX6_valueOf 56 = .ok (.iload_n 1, 1) := by decide +kernel
theorem dX6_valueOf_57 : decode cX6_valueOf 57 = .ok (.bipush 30, 2) := by decide +kernel
theorem dX6_valueOf_59 : decode cX6_valueOf 59 = .ok (.if_icmp .lt 21, 3) := by decide +kernel
theorem dX6_valueOf_62 : decode cX6_valueOf 62 = .ok (.iload_n 1, 1) := by decide +kernel
theorem dX6_valueOf_63 : decode cX6_valueOf 63 = .ok (.bipush 33, 2) := by decide +kernel
theorem dX6_valueOf_65 : decode cX6_valueOf 65 = .ok (.if_icmp .gt 15, 3) := by decide +kernel
theorem dX6_valueOf_68 : decode cX6_valueOf 68 = .ok (.aload_n 0, 1) := by decide +kernel
theorem dX6_valueOf_69 : decode cX6_valueOf 69 = .ok (.getfield 15, 3) := by decide +kernel
theorem dX6_valueOf_72 : decode cX6_valueOf 72 = .ok (.iload_n 1, 1) := by decide +kernel
theorem dX6_valueOf_73 : decode cX6_valueOf 73 = .ok (.bipush 30, 2) := by decide +kernel
theorem dX6_valueOf_75 : decode cX6_valueOf 75 = .ok (.isub, 1) := by decide +kernel
theorem dX6_valueOf_76 : decode cX6_valueOf 76 = .ok (.iaload, 1) := by decide +kernel
theorem dX6_valueOf_77 : decode cX6_valueOf 77 = .ok (.goto 4, 3) := by decide +kernel
theorem dX6_valueOf_80 : decode cX6_valueOf 80 = .ok (.iconst 0, 1) := by decide +kernel
theorem dX6_valueOf_81 : decode cX6_valueOf 81 = .ok (.ireturn, 1) := by decide +kernel
theorem dX6_joined_0 : decode cX6_joined 0 = .ok (.iload_n 1, 1) := by decide +kernel
theorem dX6_joined_1 : decode cX6_joined 1 = .ok (.lookupswitch 71 #[(5, 51), (6, 55), (7, 59), (25, 67), (26, 63)], 51) := by decide +kernel
theorem dX6_joined_52 : decode cX6_joined 52 = .ok (.iload_n 2, 1) := by decide +kernel
theorem dX6_joined_53 : decode cX6_joined 53 = .ok (.iload_n 3, 1) := by decide +kernel
theorem dX6_joined_54 : decode cX6_joined 54 = .ok (.iadd, 1) := by decide +kernel
theorem dX6_joined_55 : decode cX6_joined 55 = .ok (.ireturn, 1) := by decide +kernel
theorem dX6_joined_56 : decode cX6_joined 56 = .ok (.iload_n 2, 1) := by decide +kernel
theorem dX6_joined_57 : decode cX6_joined 57 = .ok (.iload_n 3, 1) := by decide +kernel
theorem dX6_joined_58 : decode cX6_joined 58 = .ok (.isub, 1) := by decide +kernel
theorem dX6_joined_59 : decode cX6_joined 59 = .ok (.ireturn, 1) := by decide +kernel
theorem dX6_joined_60 : decode cX6_joined 60 = .ok (.iload_n 2, 1) := by decide +kernel
theorem dX6_joined_61 : decode cX6_joined 61 = .ok (.iload_n 3, 1) := by decide +kernel
theorem dX6_joined_62 : decode cX6_joined 62 = .ok (.imul, 1) := by decide +kernel
theorem dX6_joined_63 : decode cX6_joined 63 = .ok (.ireturn, 1) := by decide +kernel
theorem dX6_joined_64 : decode cX6_joined 64 = .ok (.iload_n 2, 1) := by decide +kernel
theorem dX6_joined_65 : decode cX6_joined 65 = .ok (.iload_n 3, 1) := by decide +kernel
theorem dX6_joined_66 : decode cX6_joined 66 = .ok (.iand, 1) := by decide +kernel
theorem dX6_joined_67 : decode cX6_joined 67 = .ok (.ireturn, 1) := by decide +kernel
theorem dX6_joined_68 : decode cX6_joined 68 = .ok (.iload_n 2, 1) := by decide +kernel
theorem dX6_joined_69 : decode cX6_joined 69 = .ok (.iload_n 3, 1) := by decide +kernel
theorem dX6_joined_70 : decode cX6_joined 70 = .ok (.ior, 1) := by decide +kernel
theorem dX6_joined_71 : decode cX6_joined 71 = .ok (.ireturn, 1) := by decide +kernel
theorem dX6_joined_72 : decode cX6_joined 72 = .ok (.aload_n 0, 1) := by decide +kernel
theorem dX6_joined_73 : decode cX6_joined 73 = .ok (.aload_n 0, 1) := by decide +kernel
theorem dX6_joined_74 : decode cX6_joined 74 = .ok (.getfield 54, 3) := by decide +kernel
theorem dX6_joined_77 : decode cX6_joined 77 = .ok (.ifCond .ne 7, 3) := by decide +kernel
theorem dX6_joined_80 : decode cX6_joined 80 = .ok (.iload_n 3, 1) := by decide +kernel
theorem dX6_joined_81 : decode cX6_joined 81 = .ok (.ifCond .ne 7, 3) := by decide +kernel
theorem dX6_joined_84 : decode cX6_joined 84 = .ok (.iconst 1, 1) := by decide +kernel
theorem dX6_joined_85 : decode cX6_joined 85 = .ok (.goto 4, 3) := by decide +kernel
theorem dX6_joined_88 : decode cX6_joined 88 = .ok (.iconst 0, 1) := by decide +kernel
theorem dX6_joined_89 : decode cX6_joined 89 = .ok (.putfield 54, 3) := by decide +kernel
theorem dX6_joined_92 : decode cX6_joined 92 = .ok (.iload_n 3, 1) := by decide +kernel
theorem dX6_joined_93 : decode cX6_joined 93 = .ok (.ifCond .ne 7, 3) := by decide +kernel
theorem dX6_joined_96 : decode cX6_joined 96 = .ok (.iconst 0, 1) := by decide +kernel
theorem dX6_joined_97 : decode cX6_joined 97 = .ok (.goto 6, 3) := by decide +kernel
theorem dX6_joined_100 : decode cX6_joined 100 = .ok (.iload_n 2, 1) := by decide +kernel
theorem dX6_joined_101 : decode cX6_joined 101 = .ok (.iload_n 3, 1) := by decide +kernel
theorem dX6_joined_102 : decode cX6_joined 102 = .ok (.idiv, 1) := by decide +kernel
theorem dX6_joined_103 : decode cX6_joined 103 = .ok (.ireturn, 1) := by decide +kernel
theorem dX6_compared_0 : decode cX6_compared 0 = .ok (.aload_n 0, 1) := by decide +kernel
theorem dX6_compared_1 : decode cX6_compared 1 = .ok (.getfield 54, 3) := by decide +kernel
theorem dX6_compared_4 : decode cX6_compared 4 = .ok (.ifCond .ne 7, 3) := by decide +kernel
theorem dX6_compared_7 : decode cX6_compared 7 = .ok (.iconst 1, 1) := by decide +kernel
theorem dX6_compared_8 : decode cX6_compared 8 = .ok (.goto 4, 3) := by decide +kernel
theorem dX6_compared_11 : decode cX6_compared 11 = .ok (.iconst 0, 1) := by decide +kernel
theorem dX6_compared_12 : decode cX6_compared 12 = .ok (.istore 4, 2) := by decide +kernel
theorem dX6_compared_14 : decode cX6_compared 14 = .ok (.aload_n 0, 1) := by decide +kernel
theorem dX6_compared_15 : decode cX6_compared 15 = .ok (.iconst 0, 1) := by decide +kernel
theorem dX6_compared_16 : decode cX6_compared 16 = .ok (.putfield 54, 3) := by decide +kernel
theorem dX6_compared_19 : decode cX6_compared 19 = .ok (.iload_n 1, 1) := by decide +kernel
theorem dX6_compared_20 : decode cX6_compared 20 = .ok (.tableswitch 73 9 11 #[28, 43, 58], 28) := by decide +kernel
theorem dX6_compared_48 : decode cX6_compared 48 = .ok (.iload_n 2, 1) := by decide +kernel
theorem dX6_compared_49 : decode cX6_compared 49 = .ok (.iload_n 3, 1) := by decide +kernel
theorem dX6_compared_50 : decode cX6_compared 50 = .ok (.if_icmp .ne 7, 3) := by decide +kernel
theorem dX6_compared_53 : decode cX6_compared 53 = .ok (.iconst 1, 1) := by decide +kernel
theorem dX6_compared_54 : decode cX6_compared 54 = .ok (.goto 4, 3) := by decide +kernel
theorem dX6_compared_57 : decode cX6_compared 57 = .ok (.iconst 0, 1) := by decide +kernel
theorem dX6_compared_58 : decode cX6_compared 58 = .ok (.istore 5, 2) := by decide +kernel
theorem dX6_compared_60 : decode cX6_compared 60 = .ok (.goto 45, 3) := by decide +kernel
theorem dX6_compared_63 : decode cX6_compared 63 = .ok (.iload_n 2, 1) := by decide +kernel
theorem dX6_compared_64 : decode cX6_compared 64 = .ok (.iload_n 3, 1) := by decide +kernel
theorem dX6_compared_65 : decode cX6_compared 65 = .ok (.if_icmp .eq 7, 3) := by decide +kernel
theorem dX6_compared_68 : decode cX6_compared 68 = .ok (.iconst 1, 1) := by decide +kernel
theorem dX6_compared_69 : decode cX6_compared 69 = .ok (.goto 4, 3) := by decide +kernel
theorem dX6_compared_72 : decode cX6_compared 72 = .ok (.iconst 0, 1) := by decide +kernel
theorem dX6_compared_73 : decode cX6_compared 73 = .ok (.istore 5, 2) := by decide +kernel
theorem dX6_compared_75 : decode cX6_compared 75 = .ok (.goto 30, 3) := by decide +kernel
theorem dX6_compared_78 : decode cX6_compared 78 = .ok (.iload_n 2, 1) := by decide +kernel
theorem dX6_compared_79 : decode cX6_compared 79 = .ok (.iload_n 3, 1) := by decide +kernel
theorem dX6_compared_80 : decode cX6_compared 80 = .ok (.if_icmp .ge 7, 3) := by decide +kernel
theorem dX6_compared_83 : decode cX6_compared 83 = .ok (.iconst 1, 1) := by decide +kernel
theorem dX6_compared_84 : decode cX6_compared 84 = .ok (.goto 4, 3) := by decide +kernel
theorem dX6_compared_87 : decode cX6_compared 87 = .ok (.iconst 0, 1) := by decide +kernel
theorem dX6_compared_88 : decode cX6_compared 88 = .ok (.istore 5, 2) := by decide +kernel
theorem dX6_compared_90 : decode cX6_compared 90 = .ok (.goto 15, 3) := by decide +kernel
theorem dX6_compared_93 : decode cX6_compared 93 = .ok (.iload_n 2, 1) := by decide +kernel
theorem dX6_compared_94 : decode cX6_compared 94 = .ok (.iload_n 3, 1) := by decide +kernel
theorem dX6_compared_95 : decode cX6_compared 95 = .ok (.if_icmp .gt 7, 3) := by decide +kernel
theorem dX6_compared_98 : decode cX6_compared 98 = .ok (.iconst 1, 1) := by decide +kernel
theorem dX6_compared_99 : decode cX6_compared 99 = .ok (.goto 4, 3) := by decide +kernel
theorem dX6_compared_102 : decode cX6_compared 102 = .ok (.iconst 0, 1) := by decide +kernel
theorem dX6_compared_103 : decode cX6_compared 103 = .ok (.istore 5, 2) := by decide +kernel
theorem dX6_compared_105 : decode cX6_compared 105 = .ok (.iload 4, 2) := by decide +kernel
theorem dX6_compared_107 : decode cX6_compared 107 = .ok (.ifCond .eq 12, 3) := by decide +kernel
theorem dX6_compared_110 : decode cX6_compared 110 = .ok (.iload 5, 2) := by decide +kernel
theorem dX6_compared_112 : decode cX6_compared 112 = .ok (.ifCond .eq 7, 3) := by decide +kernel
theorem dX6_compared_115 : decode cX6_compared 115 = .ok (.iconst 1, 1) := by decide +kernel
theorem dX6_compared_116 : decode cX6_compared 116 = .ok (.goto 4, 3) := by decide +kernel
theorem dX6_compared_119 : decode cX6_compared 119 = .ok (.iconst 0, 1) := by decide +kernel
theorem dX6_compared_120 : decode cX6_compared 120 = .ok (.ireturn, 1) := by decide +kernel
theorem dX7_init_0 : decode cX7_init 0 = .ok (.aload_n 0, 1) := by decide +kernel
theorem dX7_init_1 : decode cX7_init 1 = .ok (.invokespecial 3, 3) := by decide +kernel
theorem dX7_init_4 : decode cX7_init 4 = .ok (.aload_n 0, 1) := by decide +kernel
theorem dX7_init_5 : decode cX7_init 5 = .ok (.bipush 10, 2) := by decide +kernel
theorem dX7_init_7 : decode cX7_init 7 = .ok (.newarray .int, 2) := by decide +kernel
theorem dX7_init_9 : decode cX7_init 9 = .ok (.putfield 9, 3) := by decide +kernel
theorem dX7_init_12 : decode cX7_init 12 = .ok (.aload_n 0, 1) := by decide +kernel
theorem dX7_init_13 : decode cX7_init 13 = .ok (.aload_n 1, 1) := by decide +kernel
theorem dX7_init_14 : decode cX7_init 14 = .ok (.putfield 15, 3) := by decide +kernel
theorem dX7_init_17 : decode cX7_init 17 = .ok (.return_, 1) := by decide +kernel
theorem dX7_follow_0 : decode cX7_follow 0 = .ok (.iconst 0, 1) := by decide +kernel
theorem dX7_follow_1 : decode cX7_follow 1 = .ok (.istore_n 1, 1) := by decide +kernel
theorem dX7_follow_2 : decode cX7_follow 2 = .ok (.iload_n 1, 1) := by decide +kernel
theorem dX7_follow_3 : decode cX7_follow 3 = .ok (.aload_n 0, 1) := by decide +kernel
theorem dX7_follow_4 : decode cX7_follow 4 = .ok (.getfield 15, 3) := by decide +kernel
theorem dX7_follow_7 : decode cX7_follow 7 = .ok (.getfield 19, 3) := by decide +kernel
theorem dX7_follow_10 : decode cX7_follow 10 = .ok (.if_icmp .ge 27, 3) := by decide +kernel
theorem dX7_follow_13 : decode cX7_follow 13 = .ok (.aload_n 0, 1) := by decide +kernel
theorem dX7_follow_14 : decode cX7_follow 14 = .ok (.getfield 9, 3) := by decide +kernel
theorem dX7_follow_17 : decode cX7_follow 17 = .ok (.iload_n 1, 1) := by decide +kernel
theorem dX7_follow_18 : decode cX7_follow 18 = .ok (.aload_n 0, 1) := by decide +kernel
theorem dX7_follow_19 : decode cX7_follow 19 = .ok (.getfield 15, 3) := by decide +kernel
theorem dX7_follow_22 : decode cX7_follow 22 = .ok (.getfield 25, 3) := by decide +kernel
theorem dX7_follow_25 : decode cX7_follow 25 = .ok (.iload_n 1, 1) := by decide +kernel
theorem dX7_follow_26 : decode cX7_follow 26 = .ok (.aaload, 1) := by decide +kernel
theorem dX7_follow_27 : decode cX7_follow 27 = .ok (.getfield 29, 3) := by decide +kernel
theorem dX7_follow_30 : decode cX7_follow 30 = .ok (.iastore, 1) := by decide +kernel
theorem dX7_follow_31 : decode cX7_follow 31 = .ok (.iinc 1 1, 3) := by decide +kernel
theorem dX7_follow_34 : decode cX7_follow 34 = .ok (.goto (-32), 3) := by decide +kernel
theorem dX7_follow_37 : decode cX7_follow 37 = .ok (.iconst 0, 1) := by decide +kernel
theorem dX7_follow_38 : decode cX7_follow 38 = .ok (.istore_n 1, 1) := by decide +kernel
theorem dX7_follow_39 : decode cX7_follow 39 = .ok (.iload_n 1, 1) := by decide +kernel
theorem dX7_follow_40 : decode cX7_follow 40 = .ok (.aload_n 0, 1) := by decide +kernel
theorem dX7_follow_41 : decode cX7_follow 41 = .ok (.getfield 15, 3) := by decide +kernel
theorem dX7_follow_44 : decode cX7_follow 44 = .ok (.getfield 19, 3) := by decide +kernel
theorem dX7_follow_47 : decode cX7_follow 47 = .ok (.if_icmp .ge 56, 3) := by decide +kernel
theorem dX7_follow_50 : decode cX7_follow 50 = .ok (.iconst 0, 1) := by decide +kernel
theorem dX7_follow_51 : decode cX7_follow 51 = .ok (.istore_n 2, 1) := by decide +kernel
theorem dX7_follow_52 : decode cX7_follow 52 = .ok (.iload_n 2, 1) := by decide +kernel
theorem dX7_follow_53 : decode cX7_follow 53 = .ok (.aload_n 0, 1) := by decide +kernel
theorem dX7_follow_54 : decode cX7_follow 54 = .ok (.getfield 15, 3) := by decide +kernel
theorem dX7_follow_57 : decode cX7_follow 57 = .ok (.getfield 19, 3) := by decide +kernel
theorem dX7_follow_60 : decode cX7_follow 60 = .ok (.if_icmp .ge 37, 3) := by decide +kernel
theorem dX7_follow_63 : decode cX7_follow 63 = .ok (.aload_n 0, 1) := by decide +kernel
theorem dX7_follow_64 : decode cX7_follow 64 = .ok (.getfield 9, 3) := by decide +kernel
theorem dX7_follow_67 : decode cX7_follow 67 = .ok (.iload_n 2, 1) := by decide +kernel
theorem dX7_follow_68 : decode cX7_follow 68 = .ok (.iaload, 1) := by decide +kernel
theorem dX7_follow_69 : decode cX7_follow 69 = .ok (.iload_n 1, 1) := by decide +kernel
theorem dX7_follow_70 : decode cX7_follow 70 = .ok (.invokestatic 34, 3) := by decide +kernel
theorem dX7_follow_73 : decode cX7_follow 73 = .ok (.ifCond .eq 18, 3) := by decide +kernel
theorem dX7_follow_76 : decode cX7_follow 76 = .ok (.aload_n 0, 1) := by decide +kernel
theorem dX7_follow_77 : decode cX7_follow 77 = .ok (.getfield 9, 3) := by decide +kernel
theorem dX7_follow_80 : decode cX7_follow 80 = .ok (.iload_n 2, 1) := by decide +kernel
theorem dX7_follow_81 : decode cX7_follow 81 = .ok (.dup2, 1) := by decide +kernel
theorem dX7_follow_82 : decode cX7_follow 82 = .ok (.iaload, 1) := by decide +kernel
theorem dX7_follow_83 : decode cX7_follow 83 = .ok (.aload_n 0, 1) := by decide +kernel
theorem dX7_follow_84 : decode cX7_follow 84 = .ok (.getfield 9, 3) := by decide +kernel
theorem dX7_follow_87 : decode cX7_follow 87 = .ok (.iload_n 1, 1) := by decide +kernel
theorem dX7_follow_88 : decode cX7_follow 88 = .ok (.iaload, 1) := by decide +kernel
theorem dX7_follow_89 : decode cX7_follow 89 = .ok (.ior, 1) := by decide +kernel
theorem dX7_follow_90 : decode cX7_follow 90 = .ok (.iastore, 1) := by decide +kernel
theorem dX7_follow_91 : decode cX7_follow 91 = .ok (.iinc 2 1, 3) := by decide +kernel
theorem dX7_follow_94 : decode cX7_follow 94 = .ok (.goto (-42), 3) := by decide +kernel
theorem dX7_follow_97 : decode cX7_follow 97 = .ok (.iinc 1 1, 3) := by decide +kernel
theorem dX7_follow_100 : decode cX7_follow 100 = .ok (.goto (-61), 3) := by decide +kernel
theorem dX7_follow_103 : decode cX7_follow 103 = .ok (.return_, 1) := by decide +kernel
theorem dX7_mutual_0 : decode cX7_mutual 0 = .ok (.iconst 0, 1) := by decide +kernel
theorem dX7_mutual_1 : decode cX7_mutual 1 = .ok (.istore_n 2, 1) := by decide +kernel
theorem dX7_mutual_2 : decode cX7_mutual 2 = .ok (.iconst 0, 1) := by decide +kernel
theorem dX7_mutual_3 : decode cX7_mutual 3 = .ok (.istore_n 3, 1) := by decide +kernel
theorem dX7_mutual_4 : decode cX7_mutual 4 = .ok (.iload_n 3, 1) := by decide +kernel
theorem dX7_mutual_5 : decode cX7_mutual 5 = .ok (.aload_n 0, 1) := by decide +kernel
theorem dX7_mutual_6 : decode cX7_mutual 6 = .ok (.getfield 15, 3) := by decide +kernel
theorem dX7_mutual_9 : decode cX7_mutual 9 = .ok (.getfield 19, 3) := by decide +kernel
theorem dX7_mutual_12 : decode cX7_mutual 12 = .ok (.if_icmp .ge 41, 3) := by decide +kernel
theorem dX7_mutual_15 : decode cX7_mutual 15 = .ok (.aload_n 0, 1) := by decide +kernel
theorem dX7_mutual_16 : decode cX7_mutual 16 = .ok (.getfield 9, 3) := by decide +kernel
theorem dX7_mutual_19 : decode cX7_mutual 19 = .ok (.iload_n 1, 1) := by decide +kernel
theorem dX7_mutual_20 : decode cX7_mutual 20 = .ok (.iaload, 1) := by decide +kernel
theorem dX7_mutual_21 : decode cX7_mutual 21 = .ok (.iload_n 3, 1) := by decide +kernel
theorem dX7_mutual_22 : decode cX7_mutual 22 = .ok (.invokestatic 34, 3) := by decide +kernel
theorem dX7_mutual_25 : decode cX7_mutual 25 = .ok (.ifCond .eq 22, 3) := by decide +kernel
theorem dX7_mutual_28 : decode cX7_mutual 28 = .ok (.aload_n 0, 1) := by decide +kernel
theorem dX7_mutual_29 : decode cX7_mutual 29 = .ok (.getfield 9, 3) := by decide +kernel
theorem dX7_mutual_32 : decode cX7_mutual 32 = .ok (.iload_n 3, 1) := by decide +kernel
theorem dX7_mutual_33 : decode cX7_mutual 33 = .ok (.iaload, 1) := by decide +kernel
theorem dX7_mutual_34 : decode cX7_mutual 34 = .ok (.iload_n 1, 1) := by decide +kernel
theorem dX7_mutual_35 : decode cX7_mutual 35 = .ok (.invokestatic 34, 3) := by decide +kernel
theorem dX7_mutual_38 : decode cX7_mutual 38 = .ok (.ifCond .eq 9, 3) := by decide +kernel
theorem dX7_mutual_41 : decode cX7_mutual 41 = .ok (.iload_n 2, 1) := by decide +kernel
theorem dX7_mutual_42 : decode cX7_mutual 42 = .ok (.iconst 1, 1) := by decide +kernel
theorem dX7_mutual_43 : decode cX7_mutual 43 = .ok (.iload_n 3, 1) := by decide +kernel
theorem dX7_mutual_44 : decode cX7_mutual 44 = .ok (.ishl, 1) := by decide +kernel
theorem dX7_mutual_45 : decode cX7_mutual 45 = .ok (.ior, 1) := by decide +kernel
theorem dX7_mutual_46 : decode cX7_mutual 46 = .ok (.istore_n 2, 1) := by decide +kernel
theorem dX7_mutual_47 : decode cX7_mutual 47 = .ok (.iinc 3 1, 3) := by decide +kernel
theorem dX7_mutual_50 : decode cX7_mutual 50 = .ok (.goto (-46), 3) := by decide +kernel
theorem dX7_mutual_53 : decode cX7_mutual 53 = .ok (.iload_n 2, 1) := by decide +kernel
theorem dX7_mutual_54 : decode cX7_mutual 54 = .ok (.ireturn, 1) := by decide +kernel
theorem dX7_ringOf_0 : decode cX7_ringOf 0 = .ok (.aload_n 0, 1) := by decide +kernel
theorem dX7_ringOf_1 : decode cX7_ringOf 1 = .ok (.invokevirtual 38, 3) := by decide +kernel
theorem dX7_ringOf_4 : decode cX7_ringOf 4 = .ok (.aload_n 0, 1) := by decide +kernel
theorem dX7_ringOf_5 : decode cX7_ringOf 5 = .ok (.iload_n 1, 1) := by decide +kernel
theorem dX7_ringOf_6 : decode cX7_ringOf 6 = .ok (.invokevirtual 41, 3) := by decide +kernel
theorem dX7_ringOf_9 : decode cX7_ringOf 9 = .ok (.ireturn, 1) := by decide +kernel
theorem dX7_howMany_0 : decode cX7_howMany 0 = .ok (.aload_n 0, 1) := by decide +kernel
theorem dX7_howMany_1 : decode cX7_howMany 1 = .ok (.invokevirtual 38, 3) := by decide +kernel
theorem dX7_howMany_4 : decode cX7_howMany 4 = .ok (.iconst 0, 1) := by decide +kernel
theorem dX7_howMany_5 : decode cX7_howMany 5 = .ok (.istore_n 1, 1) := by decide +kernel
theorem dX7_howMany_6 : decode cX7_howMany 6 = .ok (.iconst 0, 1) := by decide +kernel
theorem dX7_howMany_7 : decode cX7_howMany 7 = .ok (.istore_n 2, 1) := by decide +kernel
theorem dX7_howMany_8 : decode cX7_howMany 8 = .ok (.iload_n 2, 1) := by decide +kernel
theorem dX7_howMany_9 : decode cX7_howMany 9 = .ok (.aload_n 0, 1) := by decide +kernel
theorem dX7_howMany_10 : decode cX7_howMany 10 = .ok (.getfield 15, 3) := by decide +kernel
theorem dX7_howMany_13 : decode cX7_howMany 13 = .ok (.getfield 19, 3) := by decide +kernel
theorem dX7_howMany_16 : decode cX7_howMany 16 = .ok (.if_icmp .ge 30, 3) := by decide +kernel
theorem dX7_howMany_19 : decode cX7_howMany 19 = .ok (.aload_n 0, 1) := by decide +kernel
theorem dX7_howMany_20 : decode cX7_howMany 20 = .ok (.iload_n 2, 1) := by decide +kernel
theorem dX7_howMany_21 : decode cX7_howMany 21 = .ok (.invokevirtual 41, 3) := by decide +kernel
theorem dX7_howMany_24 : decode cX7_howMany 24 = .ok (.istore_n 3, 1) := by decide +kernel
theorem dX7_howMany_25 : decode cX7_howMany 25 = .ok (.iload_n 3, 1) := by decide +kernel
theorem dX7_howMany_26 : decode cX7_howMany 26 = .ok (.ifCond .eq 14, 3) := by decide +kernel
theorem dX7_howMany_29 : decode cX7_howMany 29 = .ok (.iload_n 3, 1) := by decide +kernel
theorem dX7_howMany_30 : decode cX7_howMany 30 = .ok (.invokestatic 45, 3) := by decide +kernel
theorem dX7_howMany_33 : decode cX7_howMany 33 = .ok (.iload_n 2, 1) := by decide +kernel
theorem dX7_howMany_34 : decode cX7_howMany 34 = .ok (.if_icmp .ne 6, 3) := by decide +kernel
theorem dX7_howMany_37 : decode cX7_howMany 37 = .ok (.iinc 1 1, 3) := by decide +kernel
theorem dX7_howMany_40 : decode cX7_howMany 40 = .ok (.iinc 2 1, 3) := by decide +kernel
theorem dX7_howMany_43 : decode cX7_howMany 43 = .ok (.goto (-35), 3) := by decide +kernel
theorem dX7_howMany_46 : decode cX7_howMany 46 = .ok (.iload_n 1, 1) := by decide +kernel
theorem dX7_howMany_47 : decode cX7_howMany 47 = .ok (.ireturn, 1) := by decide +kernel
theorem dX7_fewestToBurn_0 : decode cX7_fewestToBurn 0 = .ok (.iconst 1, 1) := by decide +kernel
theorem dX7_fewestToBurn_1 : decode cX7_fewestToBurn 1 = .ok (.aload_n 0, 1) := by decide +kernel
theorem dX7_fewestToBurn_2 : decode cX7_fewestToBurn 2 = .ok (.getfield 15, 3) := by decide +kernel
theorem dX7_fewestToBurn_5 : decode cX7_fewestToBurn 5 = .ok (.getfield 19, 3) := by decide +kernel
theorem dX7_fewestToBurn_8 : decode cX7_fewestToBurn 8 = .ok (.ishl, 1) := by decide +kernel
theorem dX7_fewestToBurn_9 : decode cX7_fewestToBurn 9 = .ok (.iconst 1, 1) := by decide +kernel
theorem dX7_fewestToBurn_10 : decode cX7_fewestToBurn 10 = .ok (.isub, 1) := by decide +kernel
theorem dX7_fewestToBurn_11 : decode cX7_fewestToBurn 11 = .ok (.istore_n 1, 1) := by decide +kernel
theorem dX7_fewestToBurn_12 : decode cX7_fewestToBurn 12 = .ok (.iload_n 1, 1) := by decide +kernel
theorem dX7_fewestToBurn_13 : decode cX7_fewestToBurn 13 = .ok (.istore_n 2, 1) := by decide +kernel
theorem dX7_fewestToBurn_14 : decode cX7_fewestToBurn 14 = .ok (.iconst 0, 1) := by decide +kernel
theorem dX7_fewestToBurn_15 : decode cX7_fewestToBurn 15 = .ok (.istore_n 3, 1) := by decide +kernel
theorem dX7_fewestToBurn_16 : decode cX7_fewestToBurn 16 = .ok (.iload_n 3, 1) := by decide +kernel
theorem dX7_fewestToBurn_17 : decode cX7_fewestToBurn 17 = .ok (.iload_n 1, 1) := by decide +kernel
theorem dX7_fewestToBurn_18 : decode cX7_fewestToBurn 18 = .ok (.if_icmp .ge 34, 3) := by decide +kernel
theorem dX7_fewestToBurn_21 : decode cX7_fewestToBurn 21 = .ok (.iload_n 3, 1) := by decide +kernel
theorem dX7_fewestToBurn_22 : decode cX7_fewestToBurn 22 = .ok (.invokestatic 50, 3) := by decide +kernel
theorem dX7_fewestToBurn_25 : decode cX7_fewestToBurn 25 = .ok (.iload_n 2, 1) := by decide +kernel
theorem dX7_fewestToBurn_26 : decode cX7_fewestToBurn 26 = .ok (.invokestatic 50, 3) := by decide +kernel
theorem dX7_fewestToBurn_29 : decode cX7_fewestToBurn 29 = .ok (.if_icmp .ge 17, 3) := by decide +kernel
theorem dX7_fewestToBurn_32 : decode cX7_fewestToBurn 32 = .ok (.aload_n 0, 1) := by decide +kernel
theorem dX7_fewestToBurn_33 : decode cX7_fewestToBurn 33 = .ok (.iload_n 1, 1) := by decide +kernel
theorem dX7_fewestToBurn_34 : decode cX7_fewestToBurn 34 = .ok (.iload_n 3, 1) := by decide +kernel
theorem dX7_fewestToBurn_35 : decode cX7_fewestToBurn 35 = .ok (.iconst (-1), 1) := by decide +kernel
theorem dX7_fewestToBurn_36 : decode cX7_fewestToBurn 36 = .ok (.ixor, 1) := by decide +kernel
theorem dX7_fewestToBurn_37 : decode cX7_fewestToBurn 37 = .ok (.iand, 1) := by decide +kernel
theorem dX7_fewestToBurn_38 : decode cX7_fewestToBurn 38 = .ok (.invokevirtual 53, 3) := by decide +kernel
theorem dX7_fewestToBurn_41 : decode cX7_fewestToBurn 41 = .ok (.ifCond .ne 5, 3) := by decide +kernel
theorem dX7_fewestToBurn_44 : decode cX7_fewestToBurn 44 = .ok (.iload_n 3, 1) := by decide +kernel
theorem dX7_fewestToBurn_45 : decode cX7_fewestToBurn 45 = .ok (.istore_n 2, 1) := by decide +kernel
theorem dX7_fewestToBurn_46 : decode cX7_fewestToBurn 46 = .ok (.iinc 3 1, 3) := by decide +kernel
theorem dX7_fewestToBurn_49 : decode cX7_fewestToBurn 49 = .ok (.goto (-33), 3) := by decide +kernel
theorem dX7_fewestToBurn_52 : decode cX7_fewestToBurn 52 = .ok (.iload_n 2, 1) := by decide +kernel
theorem dX7_fewestToBurn_53 : decode cX7_fewestToBurn 53 = .ok (.ireturn, 1) := by decide +kernel
theorem dX7_leavesRings_0 : decode cX7_leavesRings 0 = .ok (.iload_n 1, 1) := by decide +kernel
theorem dX7_leavesRings_1 : decode cX7_leavesRings 1 = .ok (.istore_n 2, 1) := by decide +kernel
theorem dX7_leavesRings_2 : decode cX7_leavesRings 2 = .ok (.iconst 0, 1) := by decide +kernel
theorem dX7_leavesRings_3 : decode cX7_leavesRings 3 = .ok (.istore_n 3, 1) := by decide +kernel
theorem dX7_leavesRings_4 : decode cX7_leavesRings 4 = .ok (.iload_n 3, 1) := by decide +kernel
theorem dX7_leavesRings_5 : decode cX7_leavesRings 5 = .ok (.bipush 10, 2) := by decide +kernel
theorem dX7_leavesRings_7 : decode cX7_leavesRings 7 = .ok (.if_icmp .ge 66, 3) := by decide +kernel
theorem dX7_leavesRings_10 : decode cX7_leavesRings 10 = .ok (.iconst 0, 1) := by decide +kernel
theorem dX7_leavesRings_11 : decode cX7_leavesRings 11 = .ok (.istore 4, 2) := by decide +kernel
theorem dX7_leavesRings_13 : decode cX7_leavesRings 13 = .ok (.iload 4, 2) := by decide +kernel
theorem dX7_leavesRings_15 : decode cX7_leavesRings 15 = .ok (.aload_n 0, 1) := by decide +kernel
theorem dX7_leavesRings_16 : decode cX7_leavesRings 16 = .ok (.getfield 15, 3) := by decide +kernel
theorem dX7_leavesRings_19 : decode cX7_leavesRings 19 = .ok (.getfield 19, 3) := by decide +kernel
theorem dX7_leavesRings_22 : decode cX7_leavesRings 22 = .ok (.if_icmp .ge 45, 3) := by decide +kernel
theorem dX7_leavesRings_25 : decode cX7_leavesRings 25 = .ok (.iload_n 2, 1) := by decide +kernel
theorem dX7_leavesRings_26 : decode cX7_leavesRings 26 = .ok (.iload 4, 2) := by decide +kernel
theorem dX7_leavesRings_28 : decode cX7_leavesRings 28 = .ok (.invokestatic 34, 3) := by decide +kernel
theorem dX7_leavesRings_31 : decode cX7_leavesRings 31 = .ok (.ifCond .eq 30, 3) := by decide +kernel
theorem dX7_leavesRings_34 : decode cX7_leavesRings 34 = .ok (.aload_n 0, 1) := by decide +kernel
theorem dX7_leavesRings_35 : decode cX7_leavesRings 35 = .ok (.getfield 15, 3) := by decide +kernel
theorem dX7_leavesRings_38 : decode cX7_leavesRings 38 = .ok (.getfield 25, 3) := by decide +kernel
theorem dX7_leavesRings_41 : decode cX7_leavesRings 41 = .ok (.iload 4, 2) := by decide +kernel
theorem dX7_leavesRings_43 : decode cX7_leavesRings 43 = .ok (.aaload, 1) := by decide +kernel
theorem dX7_leavesRings_44 : decode cX7_leavesRings 44 = .ok (.getfield 29, 3) := by decide +kernel
theorem dX7_leavesRings_47 : decode cX7_leavesRings 47 = .ok (.iload_n 2, 1) := by decide +kernel
theorem dX7_leavesRings_48 : decode cX7_leavesRings 48 = .ok (.iand, 1) := by decide +kernel
theorem dX7_leavesRings_49 : decode cX7_leavesRings 49 = .ok (.ifCond .ne 12, 3) := by decide +kernel
theorem dX7_leavesRings_52 : decode cX7_leavesRings 52 = .ok (.iload_n 2, 1) := by decide +kernel
theorem dX7_leavesRings_53 : decode cX7_leavesRings 53 = .ok (.iconst 1, 1) := by decide +kernel
theorem dX7_leavesRings_54 : decode cX7_leavesRings 54 = .ok (.iload 4, 2) := by decide +kernel
theorem dX7_leavesRings_56 : decode cX7_leavesRings 56 = .ok (.ishl, 1) := by decide +kernel
theorem dX7_leavesRings_57 : decode cX7_leavesRings 57 = .ok (.iconst (-1), 1) := by decide +kernel
theorem dX7_leavesRings_58 : decode cX7_leavesRings 58 = .ok (.ixor, 1) := by decide +kernel
theorem dX7_leavesRings_59 : decode cX7_leavesRings 59 = .ok (.iand, 1) := by decide +kernel
theorem dX7_leavesRings_60 : decode cX7_leavesRings 60 = .ok (.istore_n 2, 1) := by decide +kernel
theorem dX7_leavesRings_61 : decode cX7_leavesRings 61 = .ok (.iinc 4 1, 3) := by decide +kernel
theorem dX7_leavesRings_64 : decode cX7_leavesRings 64 = .ok (.goto (-51), 3) := by decide +kernel
theorem dX7_leavesRings_67 : decode cX7_leavesRings 67 = .ok (.iinc 3 1, 3) := by decide +kernel
theorem dX7_leavesRings_70 : decode cX7_leavesRings 70 = .ok (.goto (-66), 3) := by decide +kernel
theorem dX7_leavesRings_73 : decode cX7_leavesRings 73 = .ok (.iload_n 2, 1) := by decide +kernel
theorem dX7_leavesRings_74 : decode cX7_leavesRings 74 = .ok (.ifCond .eq 7, 3) := by decide +kernel
theorem dX7_leavesRings_77 : decode cX7_leavesRings 77 = .ok (.iconst 1, 1) := by decide +kernel
theorem dX7_leavesRings_78 : decode cX7_leavesRings 78 = .ok (.goto 4, 3) := by decide +kernel
theorem dX7_leavesRings_81 : decode cX7_leavesRings 81 = .ok (.iconst 0, 1) := by decide +kernel
theorem dX7_leavesRings_82 : decode cX7_leavesRings 82 = .ok (.ireturn, 1) := by decide +kernel
theorem dX8_init_0 : decode cX8_init 0 = .ok (.aload_n 0, 1) := by decide +kernel
theorem dX8_init_1 : decode cX8_init 1 = .ok (.invokespecial 3, 3) := by decide +kernel
theorem dX8_init_4 : decode cX8_init 4 = .ok (.aload_n 0, 1) := by decide +kernel
theorem dX8_init_5 : decode cX8_init 5 = .ok (.sipush 2000, 3) := by decide +kernel
theorem dX8_init_8 : decode cX8_init 8 = .ok (.newarray .byte, 2) := by decide +kernel
theorem dX8_init_10 : decode cX8_init 10 = .ok (.putfield 9, 3) := by decide +kernel
theorem dX8_init_13 : decode cX8_init 13 = .ok (.return_, 1) := by decide +kernel
theorem dX8_hasRoom_0 : decode cX8_hasRoom 0 = .ok (.aload_n 0, 1) := by decide +kernel
theorem dX8_hasRoom_1 : decode cX8_hasRoom 1 = .ok (.getfield 15, 3) := by decide +kernel
theorem dX8_hasRoom_4 : decode cX8_hasRoom 4 = .ok (.bipush 20, 2) := by decide +kernel
theorem dX8_hasRoom_6 : decode cX8_hasRoom 6 = .ok (.iadd, 1) := by decide +kernel
theorem dX8_hasRoom_7 : decode cX8_hasRoom 7 = .ok (.sipush 2000, 3) := by decide +kernel
theorem dX8_hasRoom_10 : decode cX8_hasRoom 10 = .ok (.if_icmp .gt 7, 3) := by decide +kernel
theorem dX8_hasRoom_13 : decode cX8_hasRoom 13 = .ok (.iconst 1, 1) := by decide +kernel
theorem dX8_hasRoom_14 : decode cX8_hasRoom 14 = .ok (.goto 4, 3) := by decide +kernel
theorem dX8_hasRoom_17 : decode cX8_hasRoom 17 = .ok (.iconst 0, 1) := by decide +kernel
theorem dX8_hasRoom_18 : decode cX8_hasRoom 18 = .ok (.ireturn, 1) := by decide +kernel
theorem dX8_add_0 : decode cX8_add 0 = .ok (.bipush 24, 2) := by decide +kernel
theorem dX8_add_2 : decode cX8_add 2 = .ok (.istore_n 2, 1) := by decide +kernel
theorem dX8_add_3 : decode cX8_add 3 = .ok (.iload_n 2, 1) := by decide +kernel
theorem dX8_add_4 : decode cX8_add 4 = .ok (.ifCond .lt 42, 3) := by decide +kernel
theorem dX8_add_7 : decode cX8_add 7 = .ok (.aload_n 0, 1) := by decide +kernel
theorem dX8_add_8 : decode cX8_add 8 = .ok (.getfield 15, 3) := by decide +kernel
theorem dX8_add_11 : decode cX8_add 11 = .ok (.sipush 2000, 3) := by decide +kernel
theorem dX8_add_14 : decode cX8_add 14 = .ok (.if_icmp .ge 32, 3) := by decide +kernel
theorem dX8_add_17 : decode cX8_add 17 = .ok (.aload_n 0, 1) := by decide +kernel
theorem dX8_add_18 : decode cX8_add 18 = .ok (.getfield 9, 3) := by decide +kernel
theorem dX8_add_21 : decode cX8_add 21 = .ok (.aload_n 0, 1) := by decide +kernel
theorem dX8_add_22 : decode cX8_add 22 = .ok (.getfield 15, 3) := by decide +kernel
theorem dX8_add_25 : decode cX8_add 25 = .ok (.iload_n 1, 1) := by decide +kernel
theorem dX8_add_26 : decode cX8_add 26 = .ok (.iload_n 2, 1) := by decide +kernel
theorem dX8_add_27 : decode cX8_add 27 = .ok (.iushr, 1) := by decide +kernel
theorem dX8_add_28 : decode cX8_add 28 = .ok (.i2b, 1) := by decide +kernel
theorem dX8_add_29 : decode cX8_add 29 = .ok (.bastore, 1) := by decide +kernel
theorem dX8_add_30 : decode cX8_add 30 = .ok (.aload_n 0, 1) := by decide +kernel
theorem dX8_add_31 : decode cX8_add 31 = .ok (.dup, 1) := by decide +kernel
theorem dX8_add_32 : decode cX8_add 32 = .ok (.getfield 15, 3) := by decide +kernel
theorem dX8_add_35 : decode cX8_add 35 = .ok (.iconst 1, 1) := by decide +kernel
theorem dX8_add_36 : decode cX8_add 36 = .ok (.iadd, 1) := by decide +kernel
theorem dX8_add_37 : decode cX8_add 37 = .ok (.putfield 15, 3) := by decide +kernel
theorem dX8_add_40 : decode cX8_add 40 = .ok (.iinc 2 (-8), 3) := by decide +kernel
theorem dX8_add_43 : decode cX8_add 43 = .ok (.goto (-40), 3) := by decide +kernel
theorem dX8_add_46 : decode cX8_add 46 = .ok (.return_, 1) := by decide +kernel
theorem dX8_byteAt_0 : decode cX8_byteAt 0 = .ok (.iload_n 1, 1) := by decide +kernel
theorem dX8_byteAt_1 : decode cX8_byteAt 1 = .ok (.iconst 0, 1) := by decide +kernel
theorem dX8_byteAt_2 : decode cX8_byteAt 2 = .ok (.aload_n 0, 1) := by decide +kernel
theorem dX8_byteAt_3 : decode cX8_byteAt 3 = .ok (.getfield 15, 3) := by decide +kernel
theorem dX8_byteAt_6 : decode cX8_byteAt 6 = .ok (.iconst 1, 1) := by decide +kernel
theorem dX8_byteAt_7 : decode cX8_byteAt 7 = .ok (.isub, 1) := by decide +kernel
theorem dX8_byteAt_8 : decode cX8_byteAt 8 = .ok (.invokestatic 19, 3) := by decide +kernel
theorem dX8_byteAt_11 : decode cX8_byteAt 11 = .ok (.ifCond .eq 16, 3) := by decide +kernel
theorem dX8_byteAt_14 : decode cX8_byteAt 14 = .ok (.aload_n 0, 1) := by decide +kernel
theorem dX8_byteAt_15 : decode cX8_byteAt 15 = .ok (.getfield 9, 3) := by decide +kernel
theorem dX8_byteAt_18 : decode cX8_byteAt 18 = .ok (.iload_n 1, 1) := by decide +kernel
theorem dX8_byteAt_19 : decode cX8_byteAt 19 = .ok (.baload, 1) := by decide +kernel
theorem dX8_byteAt_20 : decode cX8_byteAt 20 = .ok (.sipush 255, 3) := by decide +kernel
theorem dX8_byteAt_23 : decode cX8_byteAt 23 = .ok (.iand, 1) := by decide +kernel
theorem dX8_byteAt_24 : decode cX8_byteAt 24 = .ok (.goto 4, 3) := by decide +kernel
theorem dX8_byteAt_27 : decode cX8_byteAt 27 = .ok (.iconst (-1), 1) := by decide +kernel
theorem dX8_byteAt_28 : decode cX8_byteAt 28 = .ok (.ireturn, 1) := by decide +kernel
theorem dX9_init_0 : decode cX9_init 0 = .ok (.aload_n 0, 1) := by decide +kernel
theorem dX9_init_1 : decode cX9_init 1 = .ok (.invokespecial 3, 3) := by decide +kernel
theorem dX9_init_4 : decode cX9_init 4 = .ok (.aload_n 0, 1) := by decide +kernel
theorem dX9_init_5 : decode cX9_init 5 = .ok (.sipush 401, 3) := by decide +kernel
theorem dX9_init_8 : decode cX9_init 8 = .ok (.newarray .int, 2) := by decide +kernel
theorem dX9_init_10 : decode cX9_init 10 = .ok (.putfield 9, 3) := by decide +kernel
theorem dX9_init_13 : decode cX9_init 13 = .ok (.aload_n 0, 1) := by decide +kernel
theorem dX9_init_14 : decode cX9_init 14 = .ok (.sipush 401, 3) := by decide +kernel
theorem dX9_init_17 : decode cX9_init 17 = .ok (.newarray .int, 2) := by decide +kernel
theorem dX9_init_19 : decode cX9_init 19 = .ok (.putfield 15, 3) := by decide +kernel
theorem dX9_init_22 : decode cX9_init 22 = .ok (.aload_n 0, 1) := by decide +kernel
theorem dX9_init_23 : decode cX9_init 23 = .ok (.sipush 401, 3) := by decide +kernel
theorem dX9_init_26 : decode cX9_init 26 = .ok (.newarray .long, 2) := by decide +kernel
theorem dX9_init_28 : decode cX9_init 28 = .ok (.putfield 18, 3) := by decide +kernel
theorem dX9_init_31 : decode cX9_init 31 = .ok (.aload_n 0, 1) := by decide +kernel
theorem dX9_init_32 : decode cX9_init 32 = .ok (.bipush 18, 2) := by decide +kernel
theorem dX9_init_34 : decode cX9_init 34 = .ok (.newarray .long, 2) := by decide +kernel
theorem dX9_init_36 : decode cX9_init 36 = .ok (.putfield 22, 3) := by decide +kernel
theorem dX9_init_39 : decode cX9_init 39 = .ok (.iconst 0, 1) := by decide +kernel
theorem dX9_init_40 : decode cX9_init 40 = .ok (.istore_n 1, 1) := by decide +kernel
theorem dX9_init_41 : decode cX9_init 41 = .ok (.iload_n 1, 1) := by decide +kernel
theorem dX9_init_42 : decode cX9_init 42 = .ok (.ldc 25, 2) := by decide +kernel
theorem dX9_init_44 : decode cX9_init 44 = .ok (.invokevirtual 27, 3) := by decide +kernel
theorem dX9_init_47 : decode cX9_init 47 = .ok (.if_icmp .ge 55, 3) := by decide +kernel
theorem dX9_init_50 : decode cX9_init 50 = .ok (.iload_n 1, 1) := by decide +kernel
theorem dX9_init_51 : decode cX9_init 51 = .ok (.bipush 8, 2) := by decide +kernel
theorem dX9_init_53 : decode cX9_init 53 = .ok (.idiv, 1) := by decide +kernel
theorem dX9_init_54 : decode cX9_init 54 = .ok (.istore_n 2, 1) := by decide +kernel
theorem dX9_init_55 : decode cX9_init 55 = .ok (.ldc 25, 2) := by decide +kernel
theorem dX9_init_57 : decode cX9_init 57 = .ok (.iload_n 1, 1) := by decide +kernel
theorem dX9_init_58 : decode cX9_init 58 = .ok (.invokevirtual 33, 3) := by decide +kernel
theorem dX9_init_61 : decode cX9_init 61 = .ok (.istore_n 3, 1) := by decide +kernel
theorem dX9_init_62 : decode cX9_init 62 = .ok (.iload_n 2, 1) := by decide +kernel
theorem dX9_init_63 : decode cX9_init 63 = .ok (.bipush 18, 2) := by decide +kernel
theorem dX9_init_65 : decode cX9_init 65 = .ok (.if_icmp .ge 31, 3) := by decide +kernel
theorem dX9_init_68 : decode cX9_init 68 = .ok (.iload_n 3, 1) := by decide +kernel
theorem dX9_init_69 : decode cX9_init 69 = .ok (.bipush 32, 2) := by decide +kernel
theorem dX9_init_71 : decode cX9_init 71 = .ok (.if_icmp .eq 25, 3) := by decide +kernel
theorem dX9_init_74 : decode cX9_init 74 = .ok (.aload_n 0, 1) := by decide +kernel
theorem dX9_init_75 : decode cX9_init 75 = .ok (.getfield 22, 3) := by decide +kernel
theorem dX9_init_78 : decode cX9_init 78 = .ok (.iload_n 2, 1) := by decide +kernel
theorem dX9_init_79 : decode cX9_init 79 = .ok (.aload_n 0, 1) := by decide +kernel
theorem dX9_init_80 : decode cX9_init 80 = .ok (.getfield 22, 3) := by decide +kernel
theorem dX9_init_83 : decode cX9_init 83 = .ok (.iload_n 2, 1) := by decide +kernel
theorem dX9_init_84 : decode cX9_init 84 = .ok (.laload, 1) := by decide +kernel
theorem dX9_init_85 : decode cX9_init 85 = .ok (.iconst 5, 1) := by decide +kernel
theorem dX9_init_86 : decode cX9_init 86 = .ok (.lshl, 1) := by decide +kernel
theorem dX9_init_87 : decode cX9_init 87 = .ok (.iload_n 3, 1) := by decide +kernel
theorem dX9_init_88 : decode cX9_init 88 = .ok (.bipush 97, 2) := by decide +kernel
theorem dX9_init_90 : decode cX9_init 90 = .ok (.isub, 1) := by decide +kernel
theorem dX9_init_91 : decode cX9_init 91 = .ok (.iconst 1, 1) := by decide +kernel
theorem dX9_init_92 : decode cX9_init 92 = .ok (.iadd, 1) := by decide +kernel
theorem dX9_init_93 : decode cX9_init 93 = .ok (.i2l, 1) := by decide +kernel
theorem dX9_init_94 : decode cX9_init 94 = .ok (.lor, 1) := by decide +kernel
theorem dX9_init_95 : decode cX9_init 95 = .ok (.lastore, 1) := by decide +kernel
theorem dX9_init_96 : decode cX9_init 96 = .ok (.iinc 1 1, 3) := by decide +kernel
theorem dX9_init_99 : decode cX9_init 99 = .ok (.goto (-58), 3) := by decide +kernel
theorem dX9_init_102 : decode cX9_init 102 = .ok (.return_, 1) := by decide +kernel
theorem dX9_scan_0 : decode cX9_scan 0 = .ok (.aload_n 0, 1) := by decide +kernel
theorem dX9_scan_1 : decode cX9_scan 1 = .ok (.iconst 0, 1) := by decide +kernel
theorem dX9_scan_2 : decode cX9_scan 2 = .ok (.putfield 37, 3) := by decide +kernel
theorem dX9_scan_5 : decode cX9_scan 5 = .ok (.iconst 0, 1) := by decide +kernel
theorem dX9_scan_6 : decode cX9_scan 6 = .ok (.istore_n 2, 1) := by decide +kernel
theorem dX9_scan_7 : decode cX9_scan 7 = .ok (.aload_n 0, 1) := by decide +kernel
theorem dX9_scan_8 : decode cX9_scan 8 = .ok (.getfield 37, 3) := by decide +kernel
theorem dX9_scan_11 : decode cX9_scan 11 = .ok (.sipush 400, 3) := by decide +kernel
theorem dX9_scan_14 : decode cX9_scan 14 = .ok (.if_icmp .gt 61, 3) := by decide +kernel
theorem dX9_scan_17 : decode cX9_scan 17 = .ok (.iload_n 2, 1) := by decide +kernel
theorem dX9_scan_18 : decode cX9_scan 18 = .ok (.aload_n 1, 1) := by decide +kernel
theorem dX9_scan_19 : decode cX9_scan 19 = .ok (.getfield 41, 3) := by decide +kernel
theorem dX9_scan_22 : decode cX9_scan 22 = .ok (.if_icmp .ge 20, 3) := by decide +kernel
theorem dX9_scan_25 : decode cX9_scan 25 = .ok (.aload_n 1, 1) := by decide +kernel
theorem dX9_scan_26 : decode cX9_scan 26 = .ok (.iload_n 2, 1) := by decide +kernel
theorem dX9_scan_27 : decode cX9_scan 27 = .ok (.invokevirtual 44, 3) := by decide +kernel
theorem dX9_scan_30 : decode cX9_scan 30 = .ok (.invokestatic 48, 3) := by decide +kernel
theorem dX9_scan_33 : decode cX9_scan 33 = .ok (.ifCond .eq 9, 3) := by decide +kernel
theorem dX9_scan_36 : decode cX9_scan 36 = .ok (.iinc 2 1, 3) := by decide +kernel
theorem dX9_scan_39 : decode cX9_scan 39 = .ok (.goto (-22), 3) := by decide +kernel
theorem dX9_scan_42 : decode cX9_scan 42 = .ok (.aload_n 0, 1) := by decide +kernel
theorem dX9_scan_43 : decode cX9_scan 43 = .ok (.aload_n 1, 1) := by decide +kernel
theorem dX9_scan_44 : decode cX9_scan 44 = .ok (.iload_n 2, 1) := by decide +kernel
theorem dX9_scan_45 : decode cX9_scan 45 = .ok (.invokevirtual 52, 3) := by decide +kernel
theorem dX9_scan_48 : decode cX9_scan 48 = .ok (.istore_n 2, 1) := by decide +kernel
theorem dX9_scan_49 : decode cX9_scan 49 = .ok (.aload_n 0, 1) := by decide +kernel
theorem dX9_scan_50 : decode cX9_scan 50 = .ok (.dup, 1) := by decide +kernel
theorem dX9_scan_51 : decode cX9_scan 51 = .ok (.getfield 37, 3) := by decide +kernel
theorem dX9_scan_54 : decode cX9_scan 54 = .ok (.iconst 1, 1) := by decide +kernel
theorem dX9_scan_55 : decode cX9_scan 55 = .ok (.iadd, 1) := by decide +kernel
theorem dX9_scan_56 : decode cX9_scan 56 = .ok (.putfield 37, 3) := by decide +kernel
theorem dX9_scan_59 : decode cX9_scan 59 = .ok (.aload_n 0, 1) := by decide +kernel
theorem dX9_scan_60 : decode cX9_scan 60 = .ok (.getfield 9, 3) := by decide +kernel
theorem dX9_scan_63 : decode cX9_scan 63 = .ok (.aload_n 0, 1) := by decide +kernel
theorem dX9_scan_64 : decode cX9_scan 64 = .ok (.getfield 37, 3) := by decide +kernel
theorem dX9_scan_67 : decode cX9_scan 67 = .ok (.iconst 1, 1) := by decide +kernel
theorem dX9_scan_68 : decode cX9_scan 68 = .ok (.isub, 1) := by decide +kernel
theorem dX9_scan_69 : decode cX9_scan 69 = .ok (.iaload, 1) := by decide +kernel
theorem dX9_scan_70 : decode cX9_scan 70 = .ok (.iconst 1, 1) := by decide +kernel
theorem dX9_scan_71 : decode cX9_scan 71 = .ok (.if_icmp .gt (-64), 3) := by decide +kernel
theorem dX9_scan_74 : decode cX9_scan 74 = .ok (.return_, 1) := by decide +kernel
theorem dX9_scan_75 : decode cX9_scan 75 = .ok (.return_, 1) := by decide +kernel
theorem dX9_isBlank_0 : decode cX9_isBlank 0 = .ok (.iload_n 0, 1) := by decide +kernel
theorem dX9_isBlank_1 : decode cX9_isBlank 1 = .ok (.bipush 9, 2) := by decide +kernel
theorem dX9_isBlank_3 : decode cX9_isBlank 3 = .ok (.if_icmp .eq 21, 3) := by decide +kernel
theorem dX9_isBlank_6 : decode cX9_isBlank 6 = .ok (.iload_n 0, 1) := by decide +kernel
theorem dX9_isBlank_7 : decode cX9_isBlank 7 = .ok (.bipush 10, 2) := by decide +kernel
theorem dX9_isBlank_9 : decode cX9_isBlank 9 = .ok (.if_icmp .eq 15, 3) := by decide +kernel
theorem dX9_isBlank_12 : decode cX9_isBlank 12 = .ok (.iload_n 0, 1) := by decide +kernel
theorem dX9_isBlank_13 : decode cX9_isBlank 13 = .ok (.bipush 13, 2) := by decide +kernel
theorem dX9_isBlank_15 : decode cX9_isBlank 15 = .ok (.if_icmp .eq 9, 3) := by decide +kernel
theorem dX9_isBlank_18 : decode cX9_isBlank 18 = .ok (.iload_n 0, 1) := by decide +kernel
theorem dX9_isBlank_19 : decode cX9_isBlank 19 = .ok (.bipush 32, 2) := by decide +kernel
theorem dX9_isBlank_21 : decode cX9_isBlank 21 = .ok (.if_icmp .ne 7, 3) := by decide +kernel
theorem dX9_isBlank_24 : decode cX9_isBlank 24 = .ok (.iconst 1, 1) := by decide +kernel
theorem dX9_isBlank_25 : decode cX9_isBlank 25 = .ok (.goto 4, 3) := by decide +kernel
theorem dX9_isBlank_28 : decode cX9_isBlank 28 = .ok (.iconst 0, 1) := by decide +kernel
theorem dX9_isBlank_29 : decode cX9_isBlank 29 = .ok (.ireturn, 1) := by decide +kernel
theorem dX9_scanOne_0 : decode cX9_scanOne 0 = .ok (.aload_n 0, 1) := by decide +kernel
theorem dX9_scanOne_1 : decode cX9_scanOne 1 = .ok (.getfield 15, 3) := by decide +kernel
theorem dX9_scanOne_4 : decode cX9_scanOne 4 = .ok (.aload_n 0, 1) := by decide +kernel
theorem dX9_scanOne_5 : decode cX9_scanOne 5 = .ok (.getfield 37, 3) := by decide +kernel
theorem dX9_scanOne_8 : decode cX9_scanOne 8 = .ok (.iload_n 2, 1) := by decide +kernel
theorem dX9_scanOne_9 : decode cX9_scanOne 9 = .ok (.iastore, 1) := by decide +kernel
theorem dX9_scanOne_10 : decode cX9_scanOne 10 = .ok (.aload_n 0, 1) := by decide +kernel
theorem dX9_scanOne_11 : decode cX9_scanOne 11 = .ok (.getfield 18, 3) := by decide +kernel
theorem dX9_scanOne_14 : decode cX9_scanOne 14 = .ok (.aload_n 0, 1) := by decide +kernel
theorem dX9_scanOne_15 : decode cX9_scanOne 15 = .ok (.getfield 37, 3) := by decide +kernel
theorem dX9_scanOne_18 : decode cX9_scanOne 18 = .ok (.lconst 0, 1) := by decide +kernel
theorem dX9_scanOne_19 : decode cX9_scanOne 19 = .ok (.lastore, 1) := by decide +kernel
theorem dX9_scanOne_20 : decode cX9_scanOne 20 = .ok (.aload_n 1, 1) := by decide +kernel
theorem dX9_scanOne_21 : decode cX9_scanOne 21 = .ok (.iload_n 2, 1) := by decide +kernel
theorem dX9_scanOne_22 : decode cX9_scanOne 22 = .ok (.invokevirtual 44, 3) := by decide +kernel
theorem dX9_scanOne_25 : decode cX9_scanOne 25 = .ok (.istore_n 3, 1) := by decide +kernel
theorem dX9_scanOne_26 : decode cX9_scanOne 26 = .ok (.iload_n 3, 1) := by decide +kernel
theorem dX9_scanOne_27 : decode cX9_scanOne 27 = .ok (.bipush 97, 2) := by decide +kernel
theorem dX9_scanOne_29 : decode cX9_scanOne 29 = .ok (.bipush 122, 2) := by decide +kernel
theorem dX9_scanOne_31 : decode cX9_scanOne 31 = .ok (.invokestatic 56, 3) := by decide +kernel
theorem dX9_scanOne_34 : decode cX9_scanOne 34 = .ok (.ifCond .eq 10, 3) := by decide +kernel
theorem dX9_scanOne_37 : decode cX9_scanOne 37 = .ok (.aload_n 0, 1) := by decide +kernel
theorem dX9_scanOne_38 : decode cX9_scanOne 38 = .ok (.aload_n 1, 1) := by decide +kernel
theorem dX9_scanOne_39 : decode cX9_scanOne 39 = .ok (.iload_n 2, 1) := by decide +kernel
theorem dX9_scanOne_40 : decode cX9_scanOne 40 = .ok (.invokevirtual 60, 3) := by decide +kernel
theorem dX9_scanOne_43 : decode cX9_scanOne 43 = .ok (.ireturn, 1) := by decide +kernel
theorem dX9_scanOne_44 : decode cX9_scanOne 44 = .ok (.iload_n 3, 1) := by decide +kernel
theorem dX9_scanOne_45 : decode cX9_scanOne 45 = .ok (.bipush 48, 2) := by decide +kernel
theorem dX9_scanOne_47 : decode cX9_scanOne 47 = .ok (.bipush 57, 2) := by decide +kernel
theorem dX9_scanOne_49 : decode cX9_scanOne 49 = .ok (.invokestatic 56, 3) := by decide +kernel
theorem dX9_scanOne_52 : decode cX9_scanOne 52 = .ok (.ifCond .eq 10, 3) := by decide +kernel
theorem dX9_scanOne_55 : decode cX9_scanOne 55 = .ok (.aload_n 0, 1) := by decide +kernel
theorem dX9_scanOne_56 : decode cX9_scanOne 56 = .ok (.aload_n 1, 1) := by decide +kernel
theorem dX9_scanOne_57 : decode cX9_scanOne 57 = .ok (.iload_n 2, 1) := by decide +kernel
theorem dX9_scanOne_58 : decode cX9_scanOne 58 = .ok (.invokevirtual 63, 3) := by decide +kernel
theorem dX9_scanOne_61 : decode cX9_scanOne 61 = .ok (.ireturn, 1) := by decide +kernel
theorem dX9_scanOne_62 : decode cX9_scanOne 62 = .ok (.aload_n 1, 1) := by decide +kernel
theorem dX9_scanOne_63 : decode cX9_scanOne 63 = .ok (.iload_n 2, 1) := by decide +kernel
theorem dX9_scanOne_64 : decode cX9_scanOne 64 = .ok (.iconst 1, 1) := by decide +kernel
theorem dX9_scanOne_65 : decode cX9_scanOne 65 = .ok (.iadd, 1) := by decide +kernel
theorem dX9_scanOne_66 : decode cX9_scanOne 66 = .ok (.invokevirtual 44, 3) := by decide +kernel
theorem dX9_scanOne_69 : decode cX9_scanOne 69 = .ok (.bipush 61, 2) := by decide +kernel
theorem dX9_scanOne_71 : decode cX9_scanOne 71 = .ok (.if_icmp .ne 7, 3) := by decide +kernel
theorem dX9_scanOne_74 : decode cX9_scanOne 74 = .ok (.iconst 1, 1) := by decide +kernel
theorem dX9_scanOne_75 : decode cX9_scanOne 75 = .ok (.goto 4, 3) := by decide +kernel
theorem dX9_scanOne_78 : decode cX9_scanOne 78 = .ok (.iconst 0, 1) := by decide +kernel
theorem dX9_scanOne_79 : decode cX9_scanOne 79 = .ok (.istore 4, 2) := by decide +kernel
theorem dX9_scanOne_81 : decode cX9_scanOne 81 = .ok (.aload_n 0, 1) := by decide +kernel
theorem dX9_scanOne_82 : decode cX9_scanOne 82 = .ok (.getfield 9, 3) := by decide +kernel
theorem dX9_scanOne_85 : decode cX9_scanOne 85 = .ok (.aload_n 0, 1) := by decide +kernel
theorem dX9_scanOne_86 : decode cX9_scanOne 86 = .ok (.getfield 37, 3) := by decide +kernel
theorem dX9_scanOne_89 : decode cX9_scanOne 89 = .ok (.iload_n 3, 1) := by decide +kernel
theorem dX9_scanOne_90 : decode cX9_scanOne 90 = .ok (.iload 4, 2) := by decide +kernel
theorem dX9_scanOne_92 : decode cX9_scanOne 92 = .ok (.invokestatic 66, 3) := by decide +kernel
theorem dX9_scanOne_95 : decode cX9_scanOne 95 = .ok (.iastore, 1) := by decide +kernel
theorem dX9_scanOne_96 : decode cX9_scanOne 96 = .ok (.aload_n 0, 1) := by decide +kernel
theorem dX9_scanOne_97 : decode cX9_scanOne 97 = .ok (.getfield 9, 3) := by decide +kernel
theorem dX9_scanOne_100 : decode cX9_scanOne 100 = .ok (.aload_n 0, 1) := by decide +kernel
theorem dX9_scanOne_101 : decode cX9_scanOne 101 = .ok (.getfield 37, 3) := by decide +kernel
theorem dX9_scanOne_104 : decode cX9_scanOne 104 = .ok (.iaload, 1) := by decide +kernel
theorem dX9_scanOne_105 : decode cX9_scanOne 105 = .ok (.bipush 9, 2) := by decide +kernel
theorem dX9_scanOne_107 : decode cX9_scanOne 107 = .ok (.if_icmp .eq 31, 3) := by decide +kernel
theorem dX9_scanOne_110 : decode cX9_scanOne 110 = .ok (.aload_n 0, 1) := by decide +kernel
theorem dX9_scanOne_111 : decode cX9_scanOne 111 = .ok (.getfield 9, 3) := by decide +kernel
theorem dX9_scanOne_114 : decode cX9_scanOne 114 = .ok (.aload_n 0, 1) := by decide +kernel
theorem dX9_scanOne_115 : decode cX9_scanOne 115 = .ok (.getfield 37, 3) := by decide +kernel
theorem dX9_scanOne_118 : decode cX9_scanOne 118 = .ok (.iaload, 1) := by decide +kernel
theorem dX9_scanOne_119 : decode cX9_scanOne 119 = .ok (.bipush 10, 2) := by decide +kernel
theorem dX9_scanOne_121 : decode cX9_scanOne 121 = .ok (.if_icmp .eq 17, 3) := by decide +kernel
theorem dX9_scanOne_124 : decode cX9_scanOne 124 = .ok (.aload_n 0, 1) := by decide +kernel
theorem dX9_scanOne_125 : decode cX9_scanOne 125 = .ok (.getfield 9, 3) := by decide +kernel
theorem dX9_scanOne_128 : decode cX9_scanOne 128 = .ok (.aload_n 0, 1) := by decide +kernel
theorem dX9_scanOne_129 : decode cX9_scanOne 129 = .ok (.getfield 37, 3) := by decide +kernel
theorem dX9_scanOne_132 : decode cX9_scanOne 132 = .ok (.iaload, 1) := by decide +kernel
theorem dX9_scanOne_133 : decode cX9_scanOne 133 = .ok (.bipush 12, 2) := by decide +kernel
theorem dX9_scanOne_135 : decode cX9_scanOne 135 = .ok (.if_icmp .ne 9, 3) := by decide +kernel
theorem dX9_scanOne_138 : decode cX9_scanOne 138 = .ok (.iload_n 2, 1) := by decide +kernel
theorem dX9_scanOne_139 : decode cX9_scanOne 139 = .ok (.iconst 2, 1) := by decide +kernel
theorem dX9_scanOne_140 : decode cX9_scanOne 140 = .ok (.iadd, 1) := by decide +kernel
theorem dX9_scanOne_141 : decode cX9_scanOne 141 = .ok (.goto 6, 3) := by decide +kernel
theorem dX9_scanOne_144 : decode cX9_scanOne 144 = .ok (.iload_n 2, 1) := by decide +kernel
theorem dX9_scanOne_145 : decode cX9_scanOne 145 = .ok (.iconst 1, 1) := by decide +kernel
theorem dX9_scanOne_146 : decode cX9_scanOne 146 = .ok (.iadd, 1) := by decide +kernel
theorem dX9_scanOne_147 : decode cX9_scanOne 147 = .ok (.ireturn, 1) := by decide +kernel
theorem dX9_scanWord_0 : decode cX9_scanWord 0 = .ok (.iload_n 2, 1) := by decide +kernel
theorem dX9_scanWord_1 : decode cX9_scanWord 1 = .ok (.istore_n 3, 1) := by decide +kernel
theorem dX9_scanWord_2 : decode cX9_scanWord 2 = .ok (.lconst 0, 1) := by decide +kernel
theorem dX9_scanWord_3 : decode cX9_scanWord 3 = .ok (.lstore 4, 2) := by decide +kernel
theorem dX9_scanWord_5 : decode cX9_scanWord 5 = .ok (.iload_n 3, 1) := by decide +kernel
theorem dX9_scanWord_6 : decode cX9_scanWord 6 = .ok (.aload_n 1, 1) := by decide +kernel
theorem dX9_scanWord_7 : decode cX9_scanWord 7 = .ok (.getfield 41, 3) := by decide +kernel
theorem dX9_scanWord_10 : decode cX9_scanWord 10 = .ok (.if_icmp .ge 42, 3) := by decide +kernel
theorem dX9_scanWord_13 : decode cX9_scanWord 13 = .ok (.aload_n 1, 1) := by decide +kernel
theorem dX9_scanWord_14 : decode cX9_scanWord 14 = .ok (.iload_n 3, 1) := by decide +kernel
theorem dX9_scanWord_15 : decode cX9_scanWord 15 = .ok (.invokevirtual 44, 3) := by decide +kernel
theorem dX9_scanWord_18 : decode cX9_scanWord 18 = .ok (.bipush 97, 2) := by decide +kernel
theorem dX9_scanWord_20 : decode cX9_scanWord 20 = .ok (.bipush 122, 2) := by decide +kernel
theorem dX9_scanWord_22 : decode cX9_scanWord 22 = .ok (.invokestatic 56, 3) := by decide +kernel
theorem dX9_scanWord_25 : decode cX9_scanWord 25 = .ok (.ifCond .eq 27, 3) := by decide +kernel
theorem dX9_scanWord_28 : decode cX9_scanWord 28 = .ok (.lload 4, 2) := by decide +kernel
theorem dX9_scanWord_30 : decode cX9_scanWord 30 = .ok (.iconst 5, 1) := by decide +kernel
theorem dX9_scanWord_31 : decode cX9_scanWord 31 = .ok (.lshl, 1) := by decide +kernel
theorem dX9_scanWord_32 : decode cX9_scanWord 32 = .ok (.aload_n 1, 1) := by decide +kernel
theorem dX9_scanWord_33 : decode cX9_scanWord 33 = .ok (.iload_n 3, 1) := by decide +kernel
theorem dX9_scanWord_34 : decode cX9_scanWord 34 = .ok (.invokevirtual 44, 3) := by decide +kernel
theorem dX9_scanWord_37 : decode cX9_scanWord 37 = .ok (.bipush 97, 2) := by decide +kernel
theorem dX9_scanWord_39 : decode cX9_scanWord 39 = .ok (.isub, 1) := by decide +kernel
theorem dX9_scanWord_40 : decode cX9_scanWord 40 = .ok (.iconst 1, 1) := by decide +kernel
theorem dX9_scanWord_41 : decode cX9_scanWord 41 = .ok (.iadd, 1) := by decide +kernel
theorem dX9_scanWord_42 : decode cX9_scanWord 42 = .ok (.i2l, 1) := by decide +kernel
theorem dX9_scanWord_43 : decode cX9_scanWord 43 = .ok (.lor, 1) := by decide +kernel
theorem dX9_scanWord_44 : decode cX9_scanWord 44 = .ok (.lstore 4, 2) := by decide +kernel
theorem dX9_scanWord_46 : decode cX9_scanWord 46 = .ok (.iinc 3 1, 3) := by decide +kernel
theorem dX9_scanWord_49 : decode cX9_scanWord 49 = .ok (.goto (-44), 3) := by decide +kernel
theorem dX9_scanWord_52 : decode cX9_scanWord 52 = .ok (.aload_n 0, 1) := by decide +kernel
theorem dX9_scanWord_53 : decode cX9_scanWord 53 = .ok (.getfield 9, 3) := by decide +kernel
theorem dX9_scanWord_56 : decode cX9_scanWord 56 = .ok (.aload_n 0, 1) := by decide +kernel
theorem dX9_scanWord_57 : decode cX9_scanWord 57 = .ok (.getfield 37, 3) := by decide +kernel
theorem dX9_scanWord_60 : decode cX9_scanWord 60 = .ok (.iload_n 3, 1) := by decide +kernel
theorem dX9_scanWord_61 : decode cX9_scanWord 61 = .ok (.iload_n 2, 1) := by decide +kernel
theorem dX9_scanWord_62 : decode cX9_scanWord 62 = .ok (.isub, 1) := by decide +kernel
theorem dX9_scanWord_63 : decode cX9_scanWord 63 = .ok (.bipush 8, 2) := by decide +kernel
theorem dX9_scanWord_65 : decode cX9_scanWord 65 = .ok (.if_icmp .le 7, 3) := by decide +kernel
theorem dX9_scanWord_68 : decode cX9_scanWord 68 = .ok (.iconst 1, 1) := by decide +kernel
theorem dX9_scanWord_69 : decode cX9_scanWord 69 = .ok (.goto 9, 3) := by decide +kernel
theorem dX9_scanWord_72 : decode cX9_scanWord 72 = .ok (.aload_n 0, 1) := by decide +kernel
theorem dX9_scanWord_73 : decode cX9_scanWord 73 = .ok (.lload 4, 2) := by decide +kernel
theorem dX9_scanWord_75 : decode cX9_scanWord 75 = .ok (.invokevirtual 70, 3) := by decide +kernel
theorem dX9_scanWord_78 : decode cX9_scanWord 78 = .ok (.iastore, 1) := by decide +kernel
theorem dX9_scanWord_79 : decode cX9_scanWord 79 = .ok (.aload_n 0, 1) := by decide +kernel
theorem dX9_scanWord_80 : decode cX9_scanWord 80 = .ok (.getfield 18, 3) := by decide +kernel
theorem dX9_scanWord_83 : decode cX9_scanWord 83 = .ok (.aload_n 0, 1) := by decide +kernel
theorem dX9_scanWord_84 : decode cX9_scanWord 84 = .ok (.getfield 37, 3) := by decide +kernel
theorem dX9_scanWord_87 : decode cX9_scanWord 87 = .ok (.lload 4, 2) := by decide +kernel
theorem dX9_scanWord_89 : decode cX9_scanWord 89 = .ok (.lastore, 1) := by decide +kernel
theorem dX9_scanWord_90 : decode cX9_scanWord 90 = .ok (.iload_n 3, 1) := by decide +kernel
theorem dX9_scanWord_91 : decode cX9_scanWord 91 = .ok (.ireturn, 1) := by decide +kernel
theorem dX9_wordKind_0 : decode cX9_wordKind 0 = .ok (.iconst 0, 1) := by decide +kernel
theorem dX9_wordKind_1 : decode cX9_wordKind 1 = .ok (.istore_n 3, 1) := by decide +kernel
theorem dX9_wordKind_2 : decode cX9_wordKind 2 = .ok (.iload_n 3, 1) := by decide +kernel
theorem dX9_wordKind_3 : decode cX9_wordKind 3 = .ok (.bipush 18, 2) := by decide +kernel
theorem dX9_wordKind_5 : decode cX9_wordKind 5 = .ok (.if_icmp .ge 25, 3) := by decide +kernel
theorem dX9_wordKind_8 : decode cX9_wordKind 8 = .ok (.aload_n 0, 1) := by decide +kernel
theorem dX9_wordKind_9 : decode cX9_wordKind 9 = .ok (.getfield 22, 3) := by decide +kernel
theorem dX9_wordKind_12 : decode cX9_wordKind 12 = .ok (.iload_n 3, 1) := by decide +kernel
theorem dX9_wordKind_13 : decode cX9_wordKind 13 = .ok (.laload, 1) := by decide +kernel
theorem dX9_wordKind_14 : decode cX9_wordKind 14 = .ok (.lload_n 1, 1) := by decide +kernel
theorem dX9_wordKind_15 : decode cX9_wordKind 15 = .ok (.lcmp, 1) := by decide +kernel
theorem dX9_wordKind_16 : decode cX9_wordKind 16 = .ok (.ifCond .ne 8, 3) := by decide +kernel
theorem dX9_wordKind_19 : decode cX9_wordKind 19 = .ok (.bipush 16, 2) := by decide +kernel
theorem dX9_wordKind_21 : decode cX9_wordKind 21 = .ok (.iload_n 3, 1) := by decide +kernel
theorem dX9_wordKind_22 : decode cX9_wordKind 22 = .ok (.iadd, 1) := by decide +kernel
theorem dX9_wordKind_23 : decode cX9_wordKind 23 = .ok (.ireturn, 1) := by decide +kernel
theorem dX9_wordKind_24 : decode cX9_wordKind 24 = .ok (.iinc 3 1, 3) := by decide +kernel
theorem dX9_wordKind_27 : decode cX9_wordKind 27 = .ok (.goto (-25), 3) := by decide +kernel
theorem dX9_wordKind_30 : decode cX9_wordKind 30 = .ok (.iconst 2, 1) := by decide +kernel
theorem dX9_wordKind_31 : decode cX9_wordKind 31 = .ok (.ireturn, 1) := by decide +kernel
theorem dX9_scanInt_0 : decode cX9_scanInt 0 = .ok (.iload_n 2, 1) := by decide +kernel
theorem dX9_scanInt_1 : decode cX9_scanInt 1 = .ok (.istore_n 3, 1) := by decide +kernel
theorem dX9_scanInt_2 : decode cX9_scanInt 2 = .ok (.iconst 0, 1) := by decide +kernel
theorem dX9_scanInt_3 : decode cX9_scanInt 3 = .ok (.istore 4, 2) := by decide +kernel
theorem dX9_scanInt_5 : decode cX9_scanInt 5 = .ok (.iload_n 3, 1) := by decide +kernel
theorem dX9_scanInt_6 : decode cX9_scanInt 6 = .ok (.aload_n 1, 1) := by decide +kernel
theorem dX9_scanInt_7 : decode cX9_scanInt 7 = .ok (.getfield 41, 3) := by decide +kernel
theorem dX9_scanInt_10 : decode cX9_scanInt 10 = .ok (.if_icmp .ge 40, 3) := by decide +kernel
theorem dX9_scanInt_13 : decode cX9_scanInt 13 = .ok (.aload_n 1, 1) := by decide +kernel
theorem dX9_scanInt_14 : decode cX9_scanInt 14 = .ok (.iload_n 3, 1) := by decide +kernel
theorem dX9_scanInt_15 : decode cX9_scanInt 15 = .ok (.invokevirtual 44, 3) := by decide +kernel
theorem dX9_scanInt_18 : decode cX9_scanInt 18 = .ok (.bipush 48, 2) := by decide +kernel
theorem dX9_scanInt_20 : decode cX9_scanInt 20 = .ok (.bipush 57, 2) := by decide +kernel
theorem dX9_scanInt_22 : decode cX9_scanInt 22 = .ok (.invokestatic 56, 3) := by decide +kernel
theorem dX9_scanInt_25 : decode cX9_scanInt 25 = .ok (.ifCond .eq 25, 3) := by decide +kernel
theorem dX9_scanInt_28 : decode cX9_scanInt 28 = .ok (.iload 4, 2) := by decide +kernel
theorem dX9_scanInt_30 : decode cX9_scanInt 30 = .ok (.bipush 10, 2) := by decide +kernel
theorem dX9_scanInt_32 : decode cX9_scanInt 32 = .ok (.imul, 1) := by decide +kernel
theorem dX9_scanInt_33 : decode cX9_scanInt 33 = .ok (.aload_n 1, 1) := by decide +kernel
theorem dX9_scanInt_34 : decode cX9_scanInt 34 = .ok (.iload_n 3, 1) := by decide +kernel
theorem dX9_scanInt_35 : decode cX9_scanInt 35 = .ok (.invokevirtual 44, 3) := by decide +kernel
theorem dX9_scanInt_38 : decode cX9_scanInt 38 = .ok (.iadd, 1) := by decide +kernel
theorem dX9_scanInt_39 : decode cX9_scanInt 39 = .ok (.bipush 48, 2) := by decide +kernel
theorem dX9_scanInt_41 : decode cX9_scanInt 41 = .ok (.isub, 1) := by decide +kernel
theorem dX9_scanInt_42 : decode cX9_scanInt 42 = .ok (.istore 4, 2) := by decide +kernel
theorem dX9_scanInt_44 : decode cX9_scanInt 44 = .ok (.iinc 3 1, 3) := by decide +kernel
theorem dX9_scanInt_47 : decode cX9_scanInt 47 = .ok (.goto (-42), 3) := by decide +kernel
theorem dX9_scanInt_50 : decode cX9_scanInt 50 = .ok (.aload_n 0, 1) := by decide +kernel
theorem dX9_scanInt_51 : decode cX9_scanInt 51 = .ok (.getfield 9, 3) := by decide +kernel
theorem dX9_scanInt_54 : decode cX9_scanInt 54 = .ok (.aload_n 0, 1) := by decide +kernel
theorem dX9_scanInt_55 : decode cX9_scanInt 55 = .ok (.getfield 37, 3) := by decide +kernel
theorem dX9_scanInt_58 : decode cX9_scanInt 58 = .ok (.iload_n 3, 1) := by decide +kernel
theorem dX9_scanInt_59 : decode cX9_scanInt 59 = .ok (.iload_n 2, 1) := by decide +kernel
theorem dX9_scanInt_60 : decode cX9_scanInt 60 = .ok (.isub, 1) := by decide +kernel
theorem dX9_scanInt_61 : decode cX9_scanInt 61 = .ok (.iconst 4, 1) := by decide +kernel
theorem dX9_scanInt_62 : decode cX9_scanInt 62 = .ok (.if_icmp .le 7, 3) := by decide +kernel
theorem dX9_scanInt_65 : decode cX9_scanInt 65 = .ok (.iconst 1, 1) := by decide +kernel
theorem dX9_scanInt_66 : decode cX9_scanInt 66 = .ok (.goto 4, 3) := by decide +kernel
theorem dX9_scanInt_69 : decode cX9_scanInt 69 = .ok (.iconst 3, 1) := by decide +kernel
theorem dX9_scanInt_70 : decode cX9_scanInt 70 = .ok (.iastore, 1) := by decide +kernel
theorem dX9_scanInt_71 : decode cX9_scanInt 71 = .ok (.aload_n 0, 1) := by decide +kernel
theorem dX9_scanInt_72 : decode cX9_scanInt 72 = .ok (.getfield 18, 3) := by decide +kernel
theorem dX9_scanInt_75 : decode cX9_scanInt 75 = .ok (.aload_n 0, 1) := by decide +kernel
theorem dX9_scanInt_76 : decode cX9_scanInt 76 = .ok (.getfield 37, 3) := by decide +kernel
theorem dX9_scanInt_79 : decode cX9_scanInt 79 = .ok (.iload 4, 2) := by decide +kernel
theorem dX9_scanInt_81 : decode cX9_scanInt 81 = .ok (.i2l, 1) := by decide +kernel
theorem dX9_scanInt_82 : decode cX9_scanInt 82 = .ok (.lastore, 1) := by decide +kernel
theorem dX9_scanInt_83 : decode cX9_scanInt 83 = .ok (.iload_n 3, 1) := by decide +kernel
theorem dX9_scanInt_84 : decode cX9_scanInt 84 = .ok (.ireturn, 1) := by decide +kernel
theorem dX9_signKind_0 : decode cX9_signKind 0 = .ok (.iload_n 0, 1) := by decide +kernel
theorem dX9_signKind_1 : decode cX9_signKind 1 = .ok (.lookupswitch 155 #[(-1, 99), (33, 126), (40, 149), (41, 152), (42, 108), (43, 103), (45, 105), (47, 111), (59, 101), (60, 137), (61, 114)], 99) := by decide +kernel
theorem dX9_signKind_100 : decode cX9_signKind 100 = .ok (.iconst 0, 1) := by decide +kernel
theorem dX9_signKind_101 : decode cX9_signKind 101 = .ok (.ireturn, 1) := by decide +kernel
theorem dX9_signKind_102 : decode cX9_signKind 102 = .ok (.iconst 4, 1) := by decide +kernel
theorem dX9_signKind_103 : decode cX9_signKind 103 = .ok (.ireturn, 1) := by decide +kernel
theorem dX9_signKind_104 : decode cX9_signKind 104 = .ok (.iconst 5, 1) := by decide +kernel
theorem dX9_signKind_105 : decode cX9_signKind 105 = .ok (.ireturn, 1) := by decide +kernel
theorem dX9_signKind_106 : decode cX9_signKind 106 = .ok (.bipush 6, 2) := by decide +kernel
theorem dX9_signKind_108 : decode cX9_signKind 108 = .ok (.ireturn, 1) := by decide +kernel
theorem dX9_signKind_109 : decode cX9_signKind 109 = .ok (.bipush 7, 2) := by decide +kernel
theorem dX9_signKind_111 : decode cX9_signKind 111 = .ok (.ireturn, 1) := by decide +kernel
theorem dX9_signKind_112 : decode cX9_signKind 112 = .ok (.bipush 8, 2) := by decide +kernel
theorem dX9_signKind_114 : decode cX9_signKind 114 = .ok (.ireturn, 1) := by decide +kernel
theorem dX9_signKind_115 : decode cX9_signKind 115 = .ok (.iload_n 1, 1) := by decide +kernel
theorem dX9_signKind_116 : decode cX9_signKind 116 = .ok (.ifCond .eq 8, 3) := by decide +kernel
theorem dX9_signKind_119 : decode cX9_signKind 119 = .ok (.bipush 9, 2) := by decide +kernel
theorem dX9_signKind_121 : decode cX9_signKind 121 = .ok (.goto 5, 3) := by decide +kernel
theorem dX9_signKind_124 : decode cX9_signKind 124 = .ok (.bipush 13, 2) := by decide +kernel
theorem dX9_signKind_126 : decode cX9_signKind 126 = .ok (.ireturn, 1) := by decide +kernel
theorem dX9_signKind_127 : decode cX9_signKind 127 = .ok (.iload_n 1, 1) := by decide +kernel
theorem dX9_signKind_128 : decode cX9_signKind 128 = .ok (.ifCond .eq 8, 3) := by decide +kernel
theorem dX9_signKind_131 : decode cX9_signKind 131 = .ok (.bipush 10, 2) := by decide +kernel
theorem dX9_signKind_133 : decode cX9_signKind 133 = .ok (.goto 4, 3) := by decide +kernel
theorem dX9_signKind_136 : decode cX9_signKind 136 = .ok (.iconst 1, 1) := by decide +kernel
theorem dX9_signKind_137 : decode cX9_signKind 137 = .ok (.ireturn, 1) := by decide +kernel
theorem dX9_signKind_138 : decode cX9_signKind 138 = .ok (.iload_n 1, 1) := by decide +kernel
theorem dX9_signKind_139 : decode cX9_signKind 139 = .ok (.ifCond .eq 8, 3) := by decide +kernel
theorem dX9_signKind_142 : decode cX9_signKind 142 = .ok (.bipush 12, 2) := by decide +kernel
theorem dX9_signKind_144 : decode cX9_signKind 144 = .ok (.goto 5, 3) := by decide +kernel
theorem dX9_signKind_147 : decode cX9_signKind 147 = .ok (.bipush 11, 2) := by decide +kernel
theorem dX9_signKind_149 : decode cX9_signKind 149 = .ok (.ireturn, 1) := by decide +kernel
theorem dX9_signKind_150 : decode cX9_signKind 150 = .ok (.bipush 14, 2) := by decide +kernel
theorem dX9_signKind_152 : decode cX9_signKind 152 = .ok (.ireturn, 1) := by decide +kernel
theorem dX9_signKind_153 : decode cX9_signKind 153 = .ok (.bipush 15, 2) := by decide +kernel
theorem dX9_signKind_155 : decode cX9_signKind 155 = .ok (.ireturn, 1) := by decide +kernel
theorem dX9_signKind_156 : decode cX9_signKind 156 = .ok (.iconst 1, 1) := by decide +kernel
theorem dX9_signKind_157 : decode cX9_signKind 157 = .ok (.ireturn, 1) := by decide +kernel
theorem dX10_init_0 : decode cX10_init 0 = .ok (.aload_n 0, 1) := by decide +kernel
theorem dX10_init_1 : decode cX10_init 1 = .ok (.invokespecial 3, 3) := by decide +kernel
theorem dX10_init_4 : decode cX10_init 4 = .ok (.aload_n 0, 1) := by decide +kernel
theorem dX10_init_5 : decode cX10_init 5 = .ok (.sipush 176, 3) := by decide +kernel
theorem dX10_init_8 : decode cX10_init 8 = .ok (.newarray .int, 2) := by decide +kernel
theorem dX10_init_10 : decode cX10_init 10 = .ok (.putfield 9, 3) := by decide +kernel
theorem dX10_init_13 : decode cX10_init 13 = .ok (.aload_n 0, 1) := by decide +kernel
theorem dX10_init_14 : decode cX10_init 14 = .ok (.bipush 32, 2) := by decide +kernel
theorem dX10_init_16 : decode cX10_init 16 = .ok (.newarray .long, 2) := by decide +kernel
theorem dX10_init_18 : decode cX10_init 18 = .ok (.putfield 15, 3) := by decide +kernel
theorem dX10_init_21 : decode cX10_init 21 = .ok (.aload_n 0, 1) := by decide +kernel
theorem dX10_init_22 : decode cX10_init 22 = .ok (.aload_n 1, 1) := by decide +kernel
theorem dX10_init_23 : decode cX10_init 23 = .ok (.putfield 19, 3) := by decide +kernel
theorem dX10_init_26 : decode cX10_init 26 = .ok (.aload_n 0, 1) := by decide +kernel
theorem dX10_init_27 : decode cX10_init 27 = .ok (.aload_n 2, 1) := by decide +kernel
theorem dX10_init_28 : decode cX10_init 28 = .ok (.putfield 23, 3) := by decide +kernel
theorem dX10_init_31 : decode cX10_init 31 = .ok (.aload_n 0, 1) := by decide +kernel
theorem dX10_init_32 : decode cX10_init 32 = .ok (.invokevirtual 27, 3) := by decide +kernel
theorem dX10_init_35 : decode cX10_init 35 = .ok (.return_, 1) := by decide +kernel
theorem dX10_fillFew_0 : decode cX10_fillFew 0 = .ok (.getstatic 30, 3) := by decide +kernel
theorem dX10_fillFew_3 : decode cX10_fillFew 3 = .ok (.iconst 1, 1) := by decide +kernel
theorem dX10_fillFew_4 : decode cX10_fillFew 4 = .ok (.iaload, 1) := by decide +kernel
theorem dX10_fillFew_5 : decode cX10_fillFew 5 = .ok (.istore_n 1, 1) := by decide +kernel
theorem dX10_fillFew_6 : decode cX10_fillFew 6 = .ok (.getstatic 30, 3) := by decide +kernel
theorem dX10_fillFew_9 : decode cX10_fillFew 9 = .ok (.iconst 2, 1) := by decide +kernel
theorem dX10_fillFew_10 : decode cX10_fillFew 10 = .ok (.iaload, 1) := by decide +kernel
theorem dX10_fillFew_11 : decode cX10_fillFew 11 = .ok (.istore_n 2, 1) := by decide +kernel
theorem dX10_fillFew_12 : decode cX10_fillFew 12 = .ok (.getstatic 30, 3) := by decide +kernel
theorem dX10_fillFew_15 : decode cX10_fillFew 15 = .ok (.iconst 3, 1) := by decide +kernel
theorem dX10_fillFew_16 : decode cX10_fillFew 16 = .ok (.iaload, 1) := by decide +kernel
theorem dX10_fillFew_17 : decode cX10_fillFew 17 = .ok (.istore_n 3, 1) := by decide +kernel
theorem dX10_fillFew_18 : decode cX10_fillFew 18 = .ok (.aload_n 0, 1) := by decide +kernel
theorem dX10_fillFew_19 : decode cX10_fillFew 19 = .ok (.getfield 9, 3) := by decide +kernel
theorem dX10_fillFew_22 : decode cX10_fillFew 22 = .ok (.iconst 0, 1) := by decide +kernel
theorem dX10_fillFew_23 : decode cX10_fillFew 23 = .ok (.iconst 0, 1) := by decide +kernel
theorem dX10_fillFew_24 : decode cX10_fillFew 24 = .ok (.iastore, 1) := by decide +kernel
theorem dX10_fillFew_25 : decode cX10_fillFew 25 = .ok (.iconst 0, 1) := by decide +kernel
theorem dX10_fillFew_26 : decode cX10_fillFew 26 = .ok (.istore 4, 2) := by decide +kernel
theorem dX10_fillFew_28 : decode cX10_fillFew 28 = .ok (.iload 4, 2) := by decide +kernel
theorem dX10_fillFew_30 : decode cX10_fillFew 30 = .ok (.bipush 10, 2) := by decide +kernel
theorem dX10_fillFew_32 : decode cX10_fillFew 32 = .ok (.if_icmp .ge 95, 3) := by decide +kernel
theorem dX10_fillFew_35 : decode cX10_fillFew 35 = .ok (.aload_n 0, 1) := by decide +kernel
theorem dX10_fillFew_36 : decode cX10_fillFew 36 = .ok (.getfield 9, 3) := by decide +kernel
theorem dX10_fillFew_39 : decode cX10_fillFew 39 = .ok (.iload_n 1, 1) := by decide +kernel
theorem dX10_fillFew_40 : decode cX10_fillFew 40 = .ok (.iconst 1, 1) := by decide +kernel
theorem dX10_fillFew_41 : decode cX10_fillFew 41 = .ok (.iload 4, 2) := by decide +kernel
theorem dX10_fillFew_43 : decode cX10_fillFew 43 = .ok (.ishl, 1) := by decide +kernel
theorem dX10_fillFew_44 : decode cX10_fillFew 44 = .ok (.iastore, 1) := by decide +kernel
theorem dX10_fillFew_45 : decode cX10_fillFew 45 = .ok (.iinc 1 1, 3) := by decide +kernel
theorem dX10_fillFew_48 : decode cX10_fillFew 48 = .ok (.iconst 0, 1) := by decide +kernel
theorem dX10_fillFew_49 : decode cX10_fillFew 49 = .ok (.istore 5, 2) := by decide +kernel
theorem dX10_fillFew_51 : decode cX10_fillFew 51 = .ok (.iload 5, 2) := by decide +kernel
theorem dX10_fillFew_53 : decode cX10_fillFew 53 = .ok (.iload 4, 2) := by decide +kernel
theorem dX10_fillFew_55 : decode cX10_fillFew 55 = .ok (.if_icmp .ge 66, 3) := by decide +kernel
theorem dX10_fillFew_58 : decode cX10_fillFew 58 = .ok (.aload_n 0, 1) := by decide +kernel
theorem dX10_fillFew_59 : decode cX10_fillFew 59 = .ok (.getfield 9, 3) := by decide +kernel
theorem dX10_fillFew_62 : decode cX10_fillFew 62 = .ok (.iload_n 2, 1) := by decide +kernel
theorem dX10_fillFew_63 : decode cX10_fillFew 63 = .ok (.iconst 1, 1) := by decide +kernel
theorem dX10_fillFew_64 : decode cX10_fillFew 64 = .ok (.iload 4, 2) := by decide +kernel
theorem dX10_fillFew_66 : decode cX10_fillFew 66 = .ok (.ishl, 1) := by decide +kernel
theorem dX10_fillFew_67 : decode cX10_fillFew 67 = .ok (.iconst 1, 1) := by decide +kernel
theorem dX10_fillFew_68 : decode cX10_fillFew 68 = .ok (.iload 5, 2) := by decide +kernel
theorem dX10_fillFew_70 : decode cX10_fillFew 70 = .ok (.ishl, 1) := by decide +kernel
theorem dX10_fillFew_71 : decode cX10_fillFew 71 = .ok (.ior, 1) := by decide +kernel
theorem dX10_fillFew_72 : decode cX10_fillFew 72 = .ok (.iastore, 1) := by decide +kernel
theorem dX10_fillFew_73 : decode cX10_fillFew 73 = .ok (.iinc 2 1, 3) := by decide +kernel
theorem dX10_fillFew_76 : decode cX10_fillFew 76 = .ok (.iconst 0, 1) := by decide +kernel
theorem dX10_fillFew_77 : decode cX10_fillFew 77 = .ok (.istore 6, 2) := by decide +kernel
theorem dX10_fillFew_79 : decode cX10_fillFew 79 = .ok (.iload 6, 2) := by decide +kernel
theorem dX10_fillFew_81 : decode cX10_fillFew 81 = .ok (.iload 5, 2) := by decide +kernel
theorem dX10_fillFew_83 : decode cX10_fillFew 83 = .ok (.if_icmp .ge 32, 3) := by decide +kernel
theorem dX10_fillFew_86 : decode cX10_fillFew 86 = .ok (.aload_n 0, 1) := by decide +kernel
theorem dX10_fillFew_87 : decode cX10_fillFew 87 = .ok (.getfield 9, 3) := by decide +kernel
theorem dX10_fillFew_90 : decode cX10_fillFew 90 = .ok (.iload_n 3, 1) := by decide +kernel
theorem dX10_fillFew_91 : decode cX10_fillFew 91 = .ok (.iconst 1, 1) := by decide +kernel
theorem dX10_fillFew_92 : decode cX10_fillFew 92 = .ok (.iload 4, 2) := by decide +kernel
theorem dX10_fillFew_94 : decode cX10_fillFew 94 = .ok (.ishl, 1) := by decide +kernel
theorem dX10_fillFew_95 : decode cX10_fillFew 95 = .ok (.iconst 1, 1) := by decide +kernel
theorem dX10_fillFew_96 : decode cX10_fillFew 96 = .ok (.iload 5, 2) := by decide +kernel
theorem dX10_fillFew_98 : decode cX10_fillFew 98 = .ok (.ishl, 1) := by decide +kernel
theorem dX10_fillFew_99 : decode cX10_fillFew 99 = .ok (.ior, 1) := by decide +kernel
theorem dX10_fillFew_100 : decode cX10_fillFew 100 = .ok (.iconst 1, 1) := by decide +kernel
theorem dX10_fillFew_101 : decode cX10_fillFew 101 = .ok (.iload 6, 2) := by decide +kernel
theorem dX10_fillFew_103 : decode cX10_fillFew 103 = .ok (.ishl, 1) := by decide +kernel
theorem dX10_fillFew_104 : decode cX10_fillFew 104 = .ok (.ior, 1) := by decide +kernel
theorem dX10_fillFew_105 : decode cX10_fillFew 105 = .ok (.iastore, 1) := by decide +kernel
theorem dX10_fillFew_106 : decode cX10_fillFew 106 = .ok (.iinc 3 1, 3) := by decide +kernel
theorem dX10_fillFew_109 : decode cX10_fillFew 109 = .ok (.iinc 6 1, 3) := by decide +kernel
theorem dX10_fillFew_112 : decode cX10_fillFew 112 = .ok (.goto (-33), 3) := by decide +kernel
theorem dX10_fillFew_115 : decode cX10_fillFew 115 = .ok (.iinc 5 1, 3) := by decide +kernel
theorem dX10_fillFew_118 : decode cX10_fillFew 118 = .ok (.goto (-67), 3) := by decide +kernel
theorem dX10_fillFew_121 : decode cX10_fillFew 121 = .ok (.iinc 4 1, 3) := by decide +kernel
theorem dX10_fillFew_124 : decode cX10_fillFew 124 = .ok (.goto (-96), 3) := by decide +kernel
theorem dX10_fillFew_127 : decode cX10_fillFew 127 = .ok (.return_, 1) := by decide +kernel
theorem dX10_seekNeed_0 : decode cX10_seekNeed 0 = .ok (.iconst 0, 1) := by decide +kernel
theorem dX10_seekNeed_1 : decode cX10_seekNeed 1 = .ok (.istore 5, 2) := by decide +kernel
theorem dX10_seekNeed_3 : decode cX10_seekNeed 3 = .ok (.iload 5, 2) := by decide +kernel
theorem dX10_seekNeed_5 : decode cX10_seekNeed 5 = .ok (.iconst 3, 1) := by decide +kernel
theorem dX10_seekNeed_6 : decode cX10_seekNeed 6 = .ok (.if_icmp .gt 46, 3) := by decide +kernel
theorem dX10_seekNeed_9 : decode cX10_seekNeed 9 = .ok (.iconst 0, 1) := by decide +kernel
theorem dX10_seekNeed_10 : decode cX10_seekNeed 10 = .ok (.istore 6, 2) := by decide +kernel
theorem dX10_seekNeed_12 : decode cX10_seekNeed 12 = .ok (.iload 6, 2) := by decide +kernel
theorem dX10_seekNeed_14 : decode cX10_seekNeed 14 = .ok (.iload 5, 2) := by decide +kernel
theorem dX10_seekNeed_16 : decode cX10_seekNeed 16 = .ok (.if_icmp .gt 30, 3) := by decide +kernel
theorem dX10_seekNeed_19 : decode cX10_seekNeed 19 = .ok (.aload_n 0, 1) := by decide +kernel
theorem dX10_seekNeed_20 : decode cX10_seekNeed 20 = .ok (.aload_n 1, 1) := by decide +kernel
theorem dX10_seekNeed_21 : decode cX10_seekNeed 21 = .ok (.iload_n 2, 1) := by decide +kernel
theorem dX10_seekNeed_22 : decode cX10_seekNeed 22 = .ok (.iload_n 3, 1) := by decide +kernel
theorem dX10_seekNeed_23 : decode cX10_seekNeed 23 = .ok (.iload 4, 2) := by decide +kernel
theorem dX10_seekNeed_25 : decode cX10_seekNeed 25 = .ok (.iload 6, 2) := by decide +kernel
theorem dX10_seekNeed_27 : decode cX10_seekNeed 27 = .ok (.iload 5, 2) := by decide +kernel
theorem dX10_seekNeed_29 : decode cX10_seekNeed 29 = .ok (.iload 6, 2) := by decide +kernel
theorem dX10_seekNeed_31 : decode cX10_seekNeed 31 = .ok (.isub, 1) := by decide +kernel
theorem dX10_seekNeed_32 : decode cX10_seekNeed 32 = .ok (.invokevirtual 33, 3) := by decide +kernel
theorem dX10_seekNeed_35 : decode cX10_seekNeed 35 = .ok (.ifCond .eq 5, 3) := by decide +kernel
theorem dX10_seekNeed_38 : decode cX10_seekNeed 38 = .ok (.iconst 1, 1) := by decide +kernel
theorem dX10_seekNeed_39 : decode cX10_seekNeed 39 = .ok (.ireturn, 1) := by decide +kernel
theorem dX10_seekNeed_40 : decode cX10_seekNeed 40 = .ok (.iinc 6 1, 3) := by decide +kernel
theorem dX10_seekNeed_43 : decode cX10_seekNeed 43 = .ok (.goto (-31), 3) := by decide +kernel
theorem dX10_seekNeed_46 : decode cX10_seekNeed 46 = .ok (.iinc 5 1, 3) := by decide +kernel
theorem dX10_seekNeed_49 : decode cX10_seekNeed 49 = .ok (.goto (-46), 3) := by decide +kernel
theorem dX10_seekNeed_52 : decode cX10_seekNeed 52 = .ok (.iconst 0, 1) := by decide +kernel
theorem dX10_seekNeed_53 : decode cX10_seekNeed 53 = .ok (.ireturn, 1) := by decide +kernel
theorem dX10_seekNeedOf_0 : decode cX10_seekNeedOf 0 = .ok (.getstatic 30, 3) := by decide +kernel
theorem dX10_seekNeedOf_3 : decode cX10_seekNeedOf 3 = .ok (.iload 5, 2) := by decide +kernel
theorem dX10_seekNeedOf_5 : decode cX10_seekNeedOf 5 = .ok (.iconst 1, 1) := by decide +kernel
theorem dX10_seekNeedOf_6 : decode cX10_seekNeedOf 6 = .ok (.iadd, 1) := by decide +kernel
theorem dX10_seekNeedOf_7 : decode cX10_seekNeedOf 7 = .ok (.iaload, 1) := by decide +kernel
theorem dX10_seekNeedOf_8 : decode cX10_seekNeedOf 8 = .ok (.istore 7, 2) := by decide +kernel
theorem dX10_seekNeedOf_10 : decode cX10_seekNeedOf 10 = .ok (.getstatic 30, 3) := by decide +kernel
theorem dX10_seekNeedOf_13 : decode cX10_seekNeedOf 13 = .ok (.iload 5, 2) := by decide +kernel
theorem dX10_seekNeedOf_15 : decode cX10_seekNeedOf 15 = .ok (.iaload, 1) := by decide +kernel
theorem dX10_seekNeedOf_16 : decode cX10_seekNeedOf 16 = .ok (.istore 8, 2) := by decide +kernel
theorem dX10_seekNeedOf_18 : decode cX10_seekNeedOf 18 = .ok (.iload 8, 2) := by decide +kernel
theorem dX10_seekNeedOf_20 : decode cX10_seekNeedOf 20 = .ok (.iload 7, 2) := by decide +kernel
theorem dX10_seekNeedOf_22 : decode cX10_seekNeedOf 22 = .ok (.if_icmp .ge 171, 3) := by decide +kernel
theorem dX10_seekNeedOf_25 : decode cX10_seekNeedOf 25 = .ok (.aload_n 0, 1) := by decide +kernel
theorem dX10_seekNeedOf_26 : decode cX10_seekNeedOf 26 = .ok (.getfield 9, 3) := by decide +kernel
theorem dX10_seekNeedOf_29 : decode cX10_seekNeedOf 29 = .ok (.iload 8, 2) := by decide +kernel
theorem dX10_seekNeedOf_31 : decode cX10_seekNeedOf 31 = .ok (.iaload, 1) := by decide +kernel
theorem dX10_seekNeedOf_32 : decode cX10_seekNeedOf 32 = .ok (.aload_n 0, 1) := by decide +kernel
theorem dX10_seekNeedOf_33 : decode cX10_seekNeedOf 33 = .ok (.getfield 19, 3) := by decide +kernel
theorem dX10_seekNeedOf_36 : decode cX10_seekNeedOf 36 = .ok (.getfield 37, 3) := by decide +kernel
theorem dX10_seekNeedOf_39 : decode cX10_seekNeedOf 39 = .ok (.ishr, 1) := by decide +kernel
theorem dX10_seekNeedOf_40 : decode cX10_seekNeedOf 40 = .ok (.ifCond .ne 153, 3) := by decide +kernel
theorem dX10_seekNeedOf_43 : decode cX10_seekNeedOf 43 = .ok (.aload_n 0, 1) := by decide +kernel
theorem dX10_seekNeedOf_44 : decode cX10_seekNeedOf 44 = .ok (.getfield 9, 3) := by decide +kernel
theorem dX10_seekNeedOf_47 : decode cX10_seekNeedOf 47 = .ok (.iload 8, 2) := by decide +kernel
theorem dX10_seekNeedOf_49 : decode cX10_seekNeedOf 49 = .ok (.iaload, 1) := by decide +kernel
theorem dX10_seekNeedOf_50 : decode cX10_seekNeedOf 50 = .ok (.iload_n 3, 1) := by decide +kernel
theorem dX10_seekNeedOf_51 : decode cX10_seekNeedOf 51 = .ok (.iand, 1) := by decide +kernel
theorem dX10_seekNeedOf_52 : decode cX10_seekNeedOf 52 = .ok (.ifCond .eq 6, 3) := by decide +kernel
theorem dX10_seekNeedOf_55 : decode cX10_seekNeedOf 55 = .ok (.goto 132, 3) := by decide +kernel
theorem dX10_seekNeedOf_58 : decode cX10_seekNeedOf 58 = .ok (.getstatic 30, 3) := by decide +kernel
theorem dX10_seekNeedOf_61 : decode cX10_seekNeedOf 61 = .ok (.iload 6, 2) := by decide +kernel
theorem dX10_seekNeedOf_63 : decode cX10_seekNeedOf 63 = .ok (.iconst 1, 1) := by decide +kernel
theorem dX10_seekNeedOf_64 : decode cX10_seekNeedOf 64 = .ok (.iadd, 1) := by decide +kernel
theorem dX10_seekNeedOf_65 : decode cX10_seekNeedOf 65 = .ok (.iaload, 1) := by decide +kernel
theorem dX10_seekNeedOf_66 : decode cX10_seekNeedOf 66 = .ok (.istore 9, 2) := by decide +kernel
theorem dX10_seekNeedOf_68 : decode cX10_seekNeedOf 68 = .ok (.getstatic 30, 3) := by decide +kernel
theorem dX10_seekNeedOf_71 : decode cX10_seekNeedOf 71 = .ok (.iload 6, 2) := by decide +kernel
theorem dX10_seekNeedOf_73 : decode cX10_seekNeedOf 73 = .ok (.iaload, 1) := by decide +kernel
theorem dX10_seekNeedOf_74 : decode cX10_seekNeedOf 74 = .ok (.istore 10, 2) := by decide +kernel
theorem dX10_seekNeedOf_76 : decode cX10_seekNeedOf 76 = .ok (.iload 10, 2) := by decide +kernel
theorem dX10_seekNeedOf_78 : decode cX10_seekNeedOf 78 = .ok (.iload 9, 2) := by decide +kernel
theorem dX10_seekNeedOf_80 : decode cX10_seekNeedOf 80 = .ok (.if_icmp .ge 107, 3) := by decide +kernel
theorem dX10_seekNeedOf_83 : decode cX10_seekNeedOf 83 = .ok (.aload_n 0, 1) := by decide +kernel
theorem dX10_seekNeedOf_84 : decode cX10_seekNeedOf 84 = .ok (.getfield 9, 3) := by decide +kernel
theorem dX10_seekNeedOf_87 : decode cX10_seekNeedOf 87 = .ok (.iload 10, 2) := by decide +kernel
theorem dX10_seekNeedOf_89 : decode cX10_seekNeedOf 89 = .ok (.iaload, 1) := by decide +kernel
theorem dX10_seekNeedOf_90 : decode cX10_seekNeedOf 90 = .ok (.aload_n 0, 1) := by decide +kernel
theorem dX10_seekNeedOf_91 : decode cX10_seekNeedOf 91 = .ok (.getfield 19, 3) := by decide +kernel
theorem dX10_seekNeedOf_94 : decode cX10_seekNeedOf 94 = .ok (.getfield 43, 3) := by decide +kernel
theorem dX10_seekNeedOf_97 : decode cX10_seekNeedOf 97 = .ok (.ishr, 1) := by decide +kernel
theorem dX10_seekNeedOf_98 : decode cX10_seekNeedOf 98 = .ok (.ifCond .ne 89, 3) := by decide +kernel
theorem dX10_seekNeedOf_101 : decode cX10_seekNeedOf 101 = .ok (.aload_n 0, 1) := by decide +kernel
theorem dX10_seekNeedOf_102 : decode cX10_seekNeedOf 102 = .ok (.getfield 9, 3) := by decide +kernel
theorem dX10_seekNeedOf_105 : decode cX10_seekNeedOf 105 = .ok (.iload 10, 2) := by decide +kernel
theorem dX10_seekNeedOf_107 : decode cX10_seekNeedOf 107 = .ok (.iaload, 1) := by decide +kernel
theorem dX10_seekNeedOf_108 : decode cX10_seekNeedOf 108 = .ok (.iload 4, 2) := by decide +kernel
theorem dX10_seekNeedOf_110 : decode cX10_seekNeedOf 110 = .ok (.iand, 1) := by decide +kernel
theorem dX10_seekNeedOf_111 : decode cX10_seekNeedOf 111 = .ok (.ifCond .ne 7, 3) := by decide +kernel
theorem dX10_seekNeedOf_114 : decode cX10_seekNeedOf 114 = .ok (.iconst 1, 1) := by decide +kernel
theorem dX10_seekNeedOf_115 : decode cX10_seekNeedOf 115 = .ok (.goto 4, 3) := by decide +kernel
theorem dX10_seekNeedOf_118 : decode cX10_seekNeedOf 118 = .ok (.iconst 0, 1) := by decide +kernel
theorem dX10_seekNeedOf_119 : decode cX10_seekNeedOf 119 = .ok (.istore 11, 2) := by decide +kernel
theorem dX10_seekNeedOf_121 : decode cX10_seekNeedOf 121 = .ok (.iload 11, 2) := by decide +kernel
theorem dX10_seekNeedOf_123 : decode cX10_seekNeedOf 123 = .ok (.ifCond .eq 58, 3) := by decide +kernel
theorem dX10_seekNeedOf_126 : decode cX10_seekNeedOf 126 = .ok (.aload_n 0, 1) := by decide +kernel
theorem dX10_seekNeedOf_127 : decode cX10_seekNeedOf 127 = .ok (.getfield 23, 3) := by decide +kernel
theorem dX10_seekNeedOf_130 : decode cX10_seekNeedOf 130 = .ok (.aload_n 1, 1) := by decide +kernel
theorem dX10_seekNeedOf_131 : decode cX10_seekNeedOf 131 = .ok (.iload_n 2, 1) := by decide +kernel
theorem dX10_seekNeedOf_132 : decode cX10_seekNeedOf 132 = .ok (.iload_n 3, 1) := by decide +kernel
theorem dX10_seekNeedOf_133 : decode cX10_seekNeedOf 133 = .ok (.aload_n 0, 1) := by decide +kernel
theorem dX10_seekNeedOf_134 : decode cX10_seekNeedOf 134 = .ok (.getfield 9, 3) := by decide +kernel
theorem dX10_seekNeedOf_137 : decode cX10_seekNeedOf 137 = .ok (.iload 8, 2) := by decide +kernel
theorem dX10_seekNeedOf_139 : decode cX10_seekNeedOf 139 = .ok (.iaload, 1) := by decide +kernel
theorem dX10_seekNeedOf_140 : decode cX10_seekNeedOf 140 = .ok (.ior, 1) := by decide +kernel
theorem dX10_seekNeedOf_141 : decode cX10_seekNeedOf 141 = .ok (.iload 4, 2) := by decide +kernel
theorem dX10_seekNeedOf_143 : decode cX10_seekNeedOf 143 = .ok (.aload_n 0, 1) := by decide +kernel
theorem dX10_seekNeedOf_144 : decode cX10_seekNeedOf 144 = .ok (.getfield 9, 3) := by decide +kernel
theorem dX10_seekNeedOf_147 : decode cX10_seekNeedOf 147 = .ok (.iload 10, 2) := by decide +kernel
theorem dX10_seekNeedOf_149 : decode cX10_seekNeedOf 149 = .ok (.iaload, 1) := by decide +kernel
theorem dX10_seekNeedOf_150 : decode cX10_seekNeedOf 150 = .ok (.ior, 1) := by decide +kernel
theorem dX10_seekNeedOf_151 : decode cX10_seekNeedOf 151 = .ok (.invokevirtual 46, 3) := by decide +kernel
theorem dX10_seekNeedOf_154 : decode cX10_seekNeedOf 154 = .ok (.ifCond .eq 27, 3) := by decide +kernel
theorem dX10_seekNeedOf_157 : decode cX10_seekNeedOf 157 = .ok (.aload_n 0, 1) := by decide +kernel
theorem dX10_seekNeedOf_158 : decode cX10_seekNeedOf 158 = .ok (.aload_n 0, 1) := by decide +kernel
theorem dX10_seekNeedOf_159 : decode cX10_seekNeedOf 159 = .ok (.getfield 9, 3) := by decide +kernel
theorem dX10_seekNeedOf_162 : decode cX10_seekNeedOf 162 = .ok (.iload 8, 2) := by decide +kernel
theorem dX10_seekNeedOf_164 : decode cX10_seekNeedOf 164 = .ok (.iaload, 1) := by decide +kernel
theorem dX10_seekNeedOf_165 : decode cX10_seekNeedOf 165 = .ok (.putfield 52, 3) := by decide +kernel
theorem dX10_seekNeedOf_168 : decode cX10_seekNeedOf 168 = .ok (.aload_n 0, 1) := by decide +kernel
theorem dX10_seekNeedOf_169 : decode cX10_seekNeedOf 169 = .ok (.aload_n 0, 1) := by decide +kernel
theorem dX10_seekNeedOf_170 : decode cX10_seekNeedOf 170 = .ok (.getfield 9, 3) := by decide +kernel
theorem dX10_seekNeedOf_173 : decode cX10_seekNeedOf 173 = .ok (.iload 10, 2) := by decide +kernel
theorem dX10_seekNeedOf_175 : decode cX10_seekNeedOf 175 = .ok (.iaload, 1) := by decide +kernel
theorem dX10_seekNeedOf_176 : decode cX10_seekNeedOf 176 = .ok (.putfield 55, 3) := by decide +kernel
theorem dX10_seekNeedOf_179 : decode cX10_seekNeedOf 179 = .ok (.iconst 1, 1) := by decide +kernel
theorem dX10_seekNeedOf_180 : decode cX10_seekNeedOf 180 = .ok (.ireturn, 1) := by decide +kernel
theorem dX10_seekNeedOf_181 : decode cX10_seekNeedOf 181 = .ok (.iinc 10 1, 3) := by decide +kernel
theorem dX10_seekNeedOf_184 : decode cX10_seekNeedOf 184 = .ok (.goto (-108), 3) := by decide +kernel
theorem dX10_seekNeedOf_187 : decode cX10_seekNeedOf 187 = .ok (.iinc 8 1, 3) := by decide +kernel
theorem dX10_seekNeedOf_190 : decode cX10_seekNeedOf 190 = .ok (.goto (-172), 3) := by decide +kernel
theorem dX10_seekNeedOf_193 : decode cX10_seekNeedOf 193 = .ok (.iconst 0, 1) := by decide +kernel
theorem dX10_seekNeedOf_194 : decode cX10_seekNeedOf 194 = .ok (.ireturn, 1) := by decide +kernel
theorem dX10_lookUp_0 : decode cX10_lookUp 0 = .ok (.iload_n 3, 1) := by decide +kernel
theorem dX10_lookUp_1 : decode cX10_lookUp 1 = .ok (.istore 4, 2) := by decide +kernel
theorem dX10_lookUp_3 : decode cX10_lookUp 3 = .ok (.iconst 0, 1) := by decide +kernel
theorem dX10_lookUp_4 : decode cX10_lookUp 4 = .ok (.istore 5, 2) := by decide +kernel
theorem dX10_lookUp_6 : decode cX10_lookUp 6 = .ok (.iload 5, 2) := by decide +kernel
theorem dX10_lookUp_8 : decode cX10_lookUp 8 = .ok (.bipush 10, 2) := by decide +kernel
theorem dX10_lookUp_10 : decode cX10_lookUp 10 = .ok (.if_icmp .ge 36, 3) := by decide +kernel
theorem dX10_lookUp_13 : decode cX10_lookUp 13 = .ok (.aload_n 0, 1) := by decide +kernel
theorem dX10_lookUp_14 : decode cX10_lookUp 14 = .ok (.iload_n 1, 1) := by decide +kernel
theorem dX10_lookUp_15 : decode cX10_lookUp 15 = .ok (.iload_n 2, 1) := by decide +kernel
theorem dX10_lookUp_16 : decode cX10_lookUp 16 = .ok (.iload 4, 2) := by decide +kernel
theorem dX10_lookUp_18 : decode cX10_lookUp 18 = .ok (.invokevirtual 58, 3) := by decide +kernel
theorem dX10_lookUp_21 : decode cX10_lookUp 21 = .ok (.istore 6, 2) := by decide +kernel
theorem dX10_lookUp_23 : decode cX10_lookUp 23 = .ok (.iload 6, 2) := by decide +kernel
theorem dX10_lookUp_25 : decode cX10_lookUp 25 = .ok (.ifCond .ge 6, 3) := by decide +kernel
theorem dX10_lookUp_28 : decode cX10_lookUp 28 = .ok (.goto 18, 3) := by decide +kernel
theorem dX10_lookUp_31 : decode cX10_lookUp 31 = .ok (.iload 4, 2) := by decide +kernel
theorem dX10_lookUp_33 : decode cX10_lookUp 33 = .ok (.iconst 1, 1) := by decide +kernel
theorem dX10_lookUp_34 : decode cX10_lookUp 34 = .ok (.iload 6, 2) := by decide +kernel
theorem dX10_lookUp_36 : decode cX10_lookUp 36 = .ok (.ishl, 1) := by decide +kernel
theorem dX10_lookUp_37 : decode cX10_lookUp 37 = .ok (.ior, 1) := by decide +kernel
theorem dX10_lookUp_38 : decode cX10_lookUp 38 = .ok (.istore 4, 2) := by decide +kernel
theorem dX10_lookUp_40 : decode cX10_lookUp 40 = .ok (.iinc 5 1, 3) := by decide +kernel
theorem dX10_lookUp_43 : decode cX10_lookUp 43 = .ok (.goto (-37), 3) := by decide +kernel
theorem dX10_lookUp_46 : decode cX10_lookUp 46 = .ok (.iload 4, 2) := by decide +kernel
theorem dX10_lookUp_48 : decode cX10_lookUp 48 = .ok (.ireturn, 1) := by decide +kernel
theorem dX10_firstDue_0 : decode cX10_firstDue 0 = .ok (.iconst 0, 1) := by decide +kernel
theorem dX10_firstDue_1 : decode cX10_firstDue 1 = .ok (.istore 4, 2) := by decide +kernel
theorem dX10_firstDue_3 : decode cX10_firstDue 3 = .ok (.iload 4, 2) := by decide +kernel
theorem dX10_firstDue_5 : decode cX10_firstDue 5 = .ok (.aload_n 0, 1) := by decide +kernel
theorem dX10_firstDue_6 : decode cX10_firstDue 6 = .ok (.getfield 19, 3) := by decide +kernel
theorem dX10_firstDue_9 : decode cX10_firstDue 9 = .ok (.getfield 43, 3) := by decide +kernel
theorem dX10_firstDue_12 : decode cX10_firstDue 12 = .ok (.if_icmp .ge 76, 3) := by decide +kernel
theorem dX10_firstDue_15 : decode cX10_firstDue 15 = .ok (.aload_n 0, 1) := by decide +kernel
theorem dX10_firstDue_16 : decode cX10_firstDue 16 = .ok (.getfield 19, 3) := by decide +kernel
theorem dX10_firstDue_19 : decode cX10_firstDue 19 = .ok (.getfield 62, 3) := by decide +kernel
theorem dX10_firstDue_22 : decode cX10_firstDue 22 = .ok (.iload 4, 2) := by decide +kernel
theorem dX10_firstDue_24 : decode cX10_firstDue 24 = .ok (.aaload, 1) := by decide +kernel
theorem dX10_firstDue_25 : decode cX10_firstDue 25 = .ok (.astore 5, 2) := by decide +kernel
theorem dX10_firstDue_27 : decode cX10_firstDue 27 = .ok (.iload_n 3, 1) := by decide +kernel
theorem dX10_firstDue_28 : decode cX10_firstDue 28 = .ok (.iload 4, 2) := by decide +kernel
theorem dX10_firstDue_30 : decode cX10_firstDue 30 = .ok (.invokestatic 66, 3) := by decide +kernel
theorem dX10_firstDue_33 : decode cX10_firstDue 33 = .ok (.ifCond .ne 49, 3) := by decide +kernel
theorem dX10_firstDue_36 : decode cX10_firstDue 36 = .ok (.iload_n 2, 1) := by decide +kernel
theorem dX10_firstDue_37 : decode cX10_firstDue 37 = .ok (.aload 5, 2) := by decide +kernel
theorem dX10_firstDue_39 : decode cX10_firstDue 39 = .ok (.getfield 70, 3) := by decide +kernel
theorem dX10_firstDue_42 : decode cX10_firstDue 42 = .ok (.invokestatic 66, 3) := by decide +kernel
theorem dX10_firstDue_45 : decode cX10_firstDue 45 = .ok (.ifCond .ne 37, 3) := by decide +kernel
theorem dX10_firstDue_48 : decode cX10_firstDue 48 = .ok (.aload_n 0, 1) := by decide +kernel
theorem dX10_firstDue_49 : decode cX10_firstDue 49 = .ok (.getfield 19, 3) := by decide +kernel
theorem dX10_firstDue_52 : decode cX10_firstDue 52 = .ok (.iload_n 1, 1) := by decide +kernel
theorem dX10_firstDue_53 : decode cX10_firstDue 53 = .ok (.aload 5, 2) := by decide +kernel
theorem dX10_firstDue_55 : decode cX10_firstDue 55 = .ok (.getfield 70, 3) := by decide +kernel
theorem dX10_firstDue_58 : decode cX10_firstDue 58 = .ok (.invokevirtual 75, 3) := by decide +kernel
theorem dX10_firstDue_61 : decode cX10_firstDue 61 = .ok (.ifCond .eq 21, 3) := by decide +kernel
theorem dX10_firstDue_64 : decode cX10_firstDue 64 = .ok (.aload_n 0, 1) := by decide +kernel
theorem dX10_firstDue_65 : decode cX10_firstDue 65 = .ok (.getfield 23, 3) := by decide +kernel
theorem dX10_firstDue_68 : decode cX10_firstDue 68 = .ok (.aload 5, 2) := by decide +kernel
theorem dX10_firstDue_70 : decode cX10_firstDue 70 = .ok (.iload_n 1, 1) := by decide +kernel
theorem dX10_firstDue_71 : decode cX10_firstDue 71 = .ok (.iload_n 2, 1) := by decide +kernel
theorem dX10_firstDue_72 : decode cX10_firstDue 72 = .ok (.iload_n 3, 1) := by decide +kernel
theorem dX10_firstDue_73 : decode cX10_firstDue 73 = .ok (.invokevirtual 46, 3) := by decide +kernel
theorem dX10_firstDue_76 : decode cX10_firstDue 76 = .ok (.ifCond .eq 6, 3) := by decide +kernel
theorem dX10_firstDue_79 : decode cX10_firstDue 79 = .ok (.iload 4, 2) := by decide +kernel
theorem dX10_firstDue_81 : decode cX10_firstDue 81 = .ok (.ireturn, 1) := by decide +kernel
theorem dX10_firstDue_82 : decode cX10_firstDue 82 = .ok (.iinc 4 1, 3) := by decide +kernel
theorem dX10_firstDue_85 : decode cX10_firstDue 85 = .ok (.goto (-82), 3) := by decide +kernel
theorem dX10_firstDue_88 : decode cX10_firstDue 88 = .ok (.iconst (-1), 1) := by decide +kernel
theorem dX10_firstDue_89 : decode cX10_firstDue 89 = .ok (.ireturn, 1) := by decide +kernel
theorem dX10_foresee_0 : decode cX10_foresee 0 = .ok (.aload_n 0, 1) := by decide +kernel
theorem dX10_foresee_1 : decode cX10_foresee 1 = .ok (.getfield 15, 3) := by decide +kernel
theorem dX10_foresee_4 : decode cX10_foresee 4 = .ok (.lconst 0, 1) := by decide +kernel
theorem dX10_foresee_5 : decode cX10_foresee 5 = .ok (.invokestatic 78, 3) := by decide +kernel
theorem dX10_foresee_8 : decode cX10_foresee 8 = .ok (.aload_n 0, 1) := by decide +kernel
theorem dX10_foresee_9 : decode cX10_foresee 9 = .ok (.bipush (-2), 2) := by decide +kernel
theorem dX10_foresee_11 : decode cX10_foresee 11 = .ok (.putfield 84, 3) := by decide +kernel
theorem dX10_foresee_14 : decode cX10_foresee 14 = .ok (.aload_n 0, 1) := by decide +kernel
theorem dX10_foresee_15 : decode cX10_foresee 15 = .ok (.bipush (-2), 2) := by decide +kernel
theorem dX10_foresee_17 : decode cX10_foresee 17 = .ok (.putfield 87, 3) := by decide +kernel
theorem dX10_foresee_20 : decode cX10_foresee 20 = .ok (.aload_n 0, 1) := by decide +kernel
theorem dX10_foresee_21 : decode cX10_foresee 21 = .ok (.getfield 15, 3) := by decide +kernel
theorem dX10_foresee_24 : decode cX10_foresee 24 = .ok (.iload_n 3, 1) := by decide +kernel
theorem dX10_foresee_25 : decode cX10_foresee 25 = .ok (.lconst 1, 1) := by decide +kernel
theorem dX10_foresee_26 : decode cX10_foresee 26 = .ok (.iload 4, 2) := by decide +kernel
theorem dX10_foresee_28 : decode cX10_foresee 28 = .ok (.lshl, 1) := by decide +kernel
theorem dX10_foresee_29 : decode cX10_foresee 29 = .ok (.lastore, 1) := by decide +kernel
theorem dX10_foresee_30 : decode cX10_foresee 30 = .ok (.iload_n 2, 1) := by decide +kernel
theorem dX10_foresee_31 : decode cX10_foresee 31 = .ok (.istore 5, 2) := by decide +kernel
theorem dX10_foresee_33 : decode cX10_foresee 33 = .ok (.iload 5, 2) := by decide +kernel
theorem dX10_foresee_35 : decode cX10_foresee 35 = .ok (.bipush 60, 2) := by decide +kernel
theorem dX10_foresee_37 : decode cX10_foresee 37 = .ok (.if_icmp .ge 55, 3) := by decide +kernel
theorem dX10_foresee_40 : decode cX10_foresee 40 = .ok (.iconst 1, 1) := by decide +kernel
theorem dX10_foresee_41 : decode cX10_foresee 41 = .ok (.aload_n 0, 1) := by decide +kernel
theorem dX10_foresee_42 : decode cX10_foresee 42 = .ok (.getfield 19, 3) := by decide +kernel
theorem dX10_foresee_45 : decode cX10_foresee 45 = .ok (.getfield 37, 3) := by decide +kernel
theorem dX10_foresee_48 : decode cX10_foresee 48 = .ok (.ishl, 1) := by decide +kernel
theorem dX10_foresee_49 : decode cX10_foresee 49 = .ok (.iconst 1, 1) := by decide +kernel
theorem dX10_foresee_50 : decode cX10_foresee 50 = .ok (.isub, 1) := by decide +kernel
theorem dX10_foresee_51 : decode cX10_foresee 51 = .ok (.istore 6, 2) := by decide +kernel
theorem dX10_foresee_53 : decode cX10_foresee 53 = .ok (.iload 6, 2) := by decide +kernel
theorem dX10_foresee_55 : decode cX10_foresee 55 = .ok (.ifCond .lt 31, 3) := by decide +kernel
theorem dX10_foresee_58 : decode cX10_foresee 58 = .ok (.aload_n 0, 1) := by decide +kernel
theorem dX10_foresee_59 : decode cX10_foresee 59 = .ok (.getfield 15, 3) := by decide +kernel
theorem dX10_foresee_62 : decode cX10_foresee 62 = .ok (.iload 6, 2) := by decide +kernel
theorem dX10_foresee_64 : decode cX10_foresee 64 = .ok (.aload_n 0, 1) := by decide +kernel
theorem dX10_foresee_65 : decode cX10_foresee 65 = .ok (.iload_n 1, 1) := by decide +kernel
theorem dX10_foresee_66 : decode cX10_foresee 66 = .ok (.iload 5, 2) := by decide +kernel
theorem dX10_foresee_68 : decode cX10_foresee 68 = .ok (.iload 6, 2) := by decide +kernel
theorem dX10_foresee_70 : decode cX10_foresee 70 = .ok (.aload_n 0, 1) := by decide +kernel
theorem dX10_foresee_71 : decode cX10_foresee 71 = .ok (.iload 6, 2) := by decide +kernel
theorem dX10_foresee_73 : decode cX10_foresee 73 = .ok (.invokevirtual 90, 3) := by decide +kernel
theorem dX10_foresee_76 : decode cX10_foresee 76 = .ok (.invokevirtual 94, 3) := by decide +kernel
theorem dX10_foresee_79 : decode cX10_foresee 79 = .ok (.lastore, 1) := by decide +kernel
theorem dX10_foresee_80 : decode cX10_foresee 80 = .ok (.iinc 6 (-1), 3) := by decide +kernel
theorem dX10_foresee_83 : decode cX10_foresee 83 = .ok (.goto (-30), 3) := by decide +kernel
theorem dX10_foresee_86 : decode cX10_foresee 86 = .ok (.iinc 5 1, 3) := by decide +kernel
theorem dX10_foresee_89 : decode cX10_foresee 89 = .ok (.goto (-56), 3) := by decide +kernel
theorem dX10_foresee_92 : decode cX10_foresee 92 = .ok (.aload_n 0, 1) := by decide +kernel
theorem dX10_foresee_93 : decode cX10_foresee 93 = .ok (.iconst 1, 1) := by decide +kernel
theorem dX10_foresee_94 : decode cX10_foresee 94 = .ok (.putfield 98, 3) := by decide +kernel
theorem dX10_foresee_97 : decode cX10_foresee 97 = .ok (.iconst 0, 1) := by decide +kernel
theorem dX10_foresee_98 : decode cX10_foresee 98 = .ok (.istore 5, 2) := by decide +kernel
theorem dX10_foresee_100 : decode cX10_foresee 100 = .ok (.iload 5, 2) := by decide +kernel
theorem dX10_foresee_102 : decode cX10_foresee 102 = .ok (.iconst 1, 1) := by decide +kernel
theorem dX10_foresee_103 : decode cX10_foresee 103 = .ok (.aload_n 0, 1) := by decide +kernel
theorem dX10_foresee_104 : decode cX10_foresee 104 = .ok (.getfield 19, 3) := by decide +kernel
theorem dX10_foresee_107 : decode cX10_foresee 107 = .ok (.getfield 37, 3) := by decide +kernel
theorem dX10_foresee_110 : decode cX10_foresee 110 = .ok (.ishl, 1) := by decide +kernel
theorem dX10_foresee_111 : decode cX10_foresee 111 = .ok (.if_icmp .ge 37, 3) := by decide +kernel
theorem dX10_foresee_114 : decode cX10_foresee 114 = .ok (.aload_n 0, 1) := by decide +kernel
theorem dX10_foresee_115 : decode cX10_foresee 115 = .ok (.aload_n 0, 1) := by decide +kernel
theorem dX10_foresee_116 : decode cX10_foresee 116 = .ok (.getfield 98, 3) := by decide +kernel
theorem dX10_foresee_119 : decode cX10_foresee 119 = .ok (.ifCond .eq 19, 3) := by decide +kernel
theorem dX10_foresee_122 : decode cX10_foresee 122 = .ok (.aload_n 0, 1) := by decide +kernel
theorem dX10_foresee_123 : decode cX10_foresee 123 = .ok (.getfield 15, 3) := by decide +kernel
theorem dX10_foresee_126 : decode cX10_foresee 126 = .ok (.iload 5, 2) := by decide +kernel
theorem dX10_foresee_128 : decode cX10_foresee 128 = .ok (.laload, 1) := by decide +kernel
theorem dX10_foresee_129 : decode cX10_foresee 129 = .ok (.lconst 0, 1) := by decide +kernel
theorem dX10_foresee_130 : decode cX10_foresee 130 = .ok (.lcmp, 1) := by decide +kernel
theorem dX10_foresee_131 : decode cX10_foresee 131 = .ok (.ifCond .ne 7, 3) := by decide +kernel
theorem dX10_foresee_134 : decode cX10_foresee 134 = .ok (.iconst 1, 1) := by decide +kernel
theorem dX10_foresee_135 : decode cX10_foresee 135 = .ok (.goto 4, 3) := by decide +kernel
theorem dX10_foresee_138 : decode cX10_foresee 138 = .ok (.iconst 0, 1) := by decide +kernel
theorem dX10_foresee_139 : decode cX10_foresee 139 = .ok (.putfield 98, 3) := by decide +kernel
theorem dX10_foresee_142 : decode cX10_foresee 142 = .ok (.iinc 5 1, 3) := by decide +kernel
theorem dX10_foresee_145 : decode cX10_foresee 145 = .ok (.goto (-45), 3) := by decide +kernel
theorem dX10_foresee_148 : decode cX10_foresee 148 = .ok (.return_, 1) := by decide +kernel
theorem dX10_cameTo_0 : decode cX10_cameTo 0 = .ok (.aload_n 0, 1) := by decide +kernel
theorem dX10_cameTo_1 : decode cX10_cameTo 1 = .ok (.getfield 15, 3) := by decide +kernel
theorem dX10_cameTo_4 : decode cX10_cameTo 4 = .ok (.iload_n 1, 1) := by decide +kernel
theorem dX10_cameTo_5 : decode cX10_cameTo 5 = .ok (.laload, 1) := by decide +kernel
theorem dX10_cameTo_6 : decode cX10_cameTo 6 = .ok (.lstore_n 2, 1) := by decide +kernel
theorem dX10_cameTo_7 : decode cX10_cameTo 7 = .ok (.iconst 0, 1) := by decide +kernel
theorem dX10_cameTo_8 : decode cX10_cameTo 8 = .ok (.istore 4, 2) := by decide +kernel
theorem dX10_cameTo_10 : decode cX10_cameTo 10 = .ok (.iload 4, 2) := by decide +kernel
theorem dX10_cameTo_12 : decode cX10_cameTo 12 = .ok (.aload_n 0, 1) := by decide +kernel
theorem dX10_cameTo_13 : decode cX10_cameTo 13 = .ok (.getfield 19, 3) := by decide +kernel
theorem dX10_cameTo_16 : decode cX10_cameTo 16 = .ok (.getfield 37, 3) := by decide +kernel
theorem dX10_cameTo_19 : decode cX10_cameTo 19 = .ok (.if_icmp .ge 34, 3) := by decide +kernel
theorem dX10_cameTo_22 : decode cX10_cameTo 22 = .ok (.iload_n 1, 1) := by decide +kernel
theorem dX10_cameTo_23 : decode cX10_cameTo 23 = .ok (.iload 4, 2) := by decide +kernel
theorem dX10_cameTo_25 : decode cX10_cameTo 25 = .ok (.invokestatic 66, 3) := by decide +kernel
theorem dX10_cameTo_28 : decode cX10_cameTo 28 = .ok (.ifCond .eq 19, 3) := by decide +kernel
theorem dX10_cameTo_31 : decode cX10_cameTo 31 = .ok (.lload_n 2, 1) := by decide +kernel
theorem dX10_cameTo_32 : decode cX10_cameTo 32 = .ok (.aload_n 0, 1) := by decide +kernel
theorem dX10_cameTo_33 : decode cX10_cameTo 33 = .ok (.getfield 15, 3) := by decide +kernel
theorem dX10_cameTo_36 : decode cX10_cameTo 36 = .ok (.iload_n 1, 1) := by decide +kernel
theorem dX10_cameTo_37 : decode cX10_cameTo 37 = .ok (.iconst 1, 1) := by decide +kernel
theorem dX10_cameTo_38 : decode cX10_cameTo 38 = .ok (.iload 4, 2) := by decide +kernel
theorem dX10_cameTo_40 : decode cX10_cameTo 40 = .ok (.ishl, 1) := by decide +kernel
theorem dX10_cameTo_41 : decode cX10_cameTo 41 = .ok (.iconst (-1), 1) := by decide +kernel
theorem dX10_cameTo_42 : decode cX10_cameTo 42 = .ok (.ixor, 1) := by decide +kernel
theorem dX10_cameTo_43 : decode cX10_cameTo 43 = .ok (.iand, 1) := by decide +kernel
theorem dX10_cameTo_44 : decode cX10_cameTo 44 = .ok (.laload, 1) := by decide +kernel
theorem dX10_cameTo_45 : decode cX10_cameTo 45 = .ok (.lor, 1) := by decide +kernel
theorem dX10_cameTo_46 : decode cX10_cameTo 46 = .ok (.lstore_n 2, 1) := by decide +kernel
theorem dX10_cameTo_47 : decode cX10_cameTo 47 = .ok (.iinc 4 1, 3) := by decide +kernel
theorem dX10_cameTo_50 : decode cX10_cameTo 50 = .ok (.goto (-40), 3) := by decide +kernel
theorem dX10_cameTo_53 : decode cX10_cameTo 53 = .ok (.lload_n 2, 1) := by decide +kernel
theorem dX10_cameTo_54 : decode cX10_cameTo 54 = .ok (.lreturn, 1) := by decide +kernel
theorem dX10_lookAtAll_0 : decode cX10_lookAtAll 0 = .ok (.lconst 0, 1) := by decide +kernel
theorem dX10_lookAtAll_1 : decode cX10_lookAtAll 1 = .ok (.lstore 6, 2) := by decide +kernel
theorem dX10_lookAtAll_3 : decode cX10_lookAtAll 3 = .ok (.lload 4, 2) := by decide +kernel
theorem dX10_lookAtAll_5 : decode cX10_lookAtAll 5 = .ok (.lstore 8, 2) := by decide +kernel
theorem dX10_lookAtAll_7 : decode cX10_lookAtAll 7 = .ok (.iconst 0, 1) := by decide +kernel
theorem dX10_lookAtAll_8 : decode cX10_lookAtAll 8 = .ok (.istore 10, 2) := by decide +kernel
theorem dX10_lookAtAll_10 : decode cX10_lookAtAll 10 = .ok (.iload 10, 2) := by decide +kernel
theorem dX10_lookAtAll_12 : decode cX10_lookAtAll 12 = .ok (.bipush 64, 2) := by decide +kernel
theorem dX10_lookAtAll_14 : decode cX10_lookAtAll 14 = .ok (.if_icmp .ge 83, 3) := by decide +kernel
theorem dX10_lookAtAll_17 : decode cX10_lookAtAll 17 = .ok (.lload 8, 2) := by decide +kernel
theorem dX10_lookAtAll_19 : decode cX10_lookAtAll 19 = .ok (.lconst 0, 1) := by decide +kernel
theorem dX10_lookAtAll_20 : decode cX10_lookAtAll 20 = .ok (.lcmp, 1) := by decide +kernel
theorem dX10_lookAtAll_21 : decode cX10_lookAtAll 21 = .ok (.ifCond .eq 76, 3) := by decide +kernel
theorem dX10_lookAtAll_24 : decode cX10_lookAtAll 24 = .ok (.aload_n 0, 1) := by decide +kernel
theorem dX10_lookAtAll_25 : decode cX10_lookAtAll 25 = .ok (.iload_n 2, 1) := by decide +kernel
theorem dX10_lookAtAll_26 : decode cX10_lookAtAll 26 = .ok (.iload_n 3, 1) := by decide +kernel
theorem dX10_lookAtAll_27 : decode cX10_lookAtAll 27 = .ok (.lload 8, 2) := by decide +kernel
theorem dX10_lookAtAll_29 : decode cX10_lookAtAll 29 = .ok (.invokestatic 102, 3) := by decide +kernel
theorem dX10_lookAtAll_32 : decode cX10_lookAtAll 32 = .ok (.invokevirtual 108, 3) := by decide +kernel
theorem dX10_lookAtAll_35 : decode cX10_lookAtAll 35 = .ok (.istore 11, 2) := by decide +kernel
theorem dX10_lookAtAll_37 : decode cX10_lookAtAll 37 = .ok (.iload 11, 2) := by decide +kernel
theorem dX10_lookAtAll_39 : decode cX10_lookAtAll 39 = .ok (.iload_n 1, 1) := by decide +kernel
theorem dX10_lookAtAll_40 : decode cX10_lookAtAll 40 = .ok (.invokestatic 66, 3) := by decide +kernel
theorem dX10_lookAtAll_43 : decode cX10_lookAtAll 43 = .ok (.ifCond .ne 15, 3) := by decide +kernel
theorem dX10_lookAtAll_46 : decode cX10_lookAtAll 46 = .ok (.lload 6, 2) := by decide +kernel
theorem dX10_lookAtAll_48 : decode cX10_lookAtAll 48 = .ok (.lconst 1, 1) := by decide +kernel
theorem dX10_lookAtAll_49 : decode cX10_lookAtAll 49 = .ok (.iload 11, 2) := by decide +kernel
theorem dX10_lookAtAll_51 : decode cX10_lookAtAll 51 = .ok (.lshl, 1) := by decide +kernel
theorem dX10_lookAtAll_52 : decode cX10_lookAtAll 52 = .ok (.lor, 1) := by decide +kernel
theorem dX10_lookAtAll_53 : decode cX10_lookAtAll 53 = .ok (.lstore 6, 2) := by decide +kernel
theorem dX10_lookAtAll_55 : decode cX10_lookAtAll 55 = .ok (.goto 27, 3) := by decide +kernel
theorem dX10_lookAtAll_58 : decode cX10_lookAtAll 58 = .ok (.aload_n 0, 1) := by decide +kernel
theorem dX10_lookAtAll_59 : decode cX10_lookAtAll 59 = .ok (.iload_n 2, 1) := by decide +kernel
theorem dX10_lookAtAll_60 : decode cX10_lookAtAll 60 = .ok (.putfield 87, 3) := by decide +kernel
theorem dX10_lookAtAll_63 : decode cX10_lookAtAll 63 = .ok (.aload_n 0, 1) := by decide +kernel
theorem dX10_lookAtAll_64 : decode cX10_lookAtAll 64 = .ok (.aload_n 0, 1) := by decide +kernel
theorem dX10_lookAtAll_65 : decode cX10_lookAtAll 65 = .ok (.getfield 84, 3) := by decide +kernel
theorem dX10_lookAtAll_68 : decode cX10_lookAtAll 68 = .ok (.ifCond .ge 7, 3) := by decide +kernel
theorem dX10_lookAtAll_71 : decode cX10_lookAtAll 71 = .ok (.iload_n 2, 1) := by decide +kernel
theorem dX10_lookAtAll_72 : decode cX10_lookAtAll 72 = .ok (.goto 7, 3) := by decide +kernel
theorem dX10_lookAtAll_75 : decode cX10_lookAtAll 75 = .ok (.aload_n 0, 1) := by decide +kernel
theorem dX10_lookAtAll_76 : decode cX10_lookAtAll 76 = .ok (.getfield 84, 3) := by decide +kernel
theorem dX10_lookAtAll_79 : decode cX10_lookAtAll 79 = .ok (.putfield 84, 3) := by decide +kernel
theorem dX10_lookAtAll_82 : decode cX10_lookAtAll 82 = .ok (.lload 8, 2) := by decide +kernel
theorem dX10_lookAtAll_84 : decode cX10_lookAtAll 84 = .ok (.lload 8, 2) := by decide +kernel
theorem dX10_lookAtAll_86 : decode cX10_lookAtAll 86 = .ok (.lconst 1, 1) := by decide +kernel
theorem dX10_lookAtAll_87 : decode cX10_lookAtAll 87 = .ok (.lsub, 1) := by decide +kernel
theorem dX10_lookAtAll_88 : decode cX10_lookAtAll 88 = .ok (.land, 1) := by decide +kernel
theorem dX10_lookAtAll_89 : decode cX10_lookAtAll 89 = .ok (.lstore 8, 2) := by decide +kernel
theorem dX10_lookAtAll_91 : decode cX10_lookAtAll 91 = .ok (.iinc 10 1, 3) := by decide +kernel
theorem dX10_lookAtAll_94 : decode cX10_lookAtAll 94 = .ok (.goto (-84), 3) := by decide +kernel
theorem dX10_lookAtAll_97 : decode cX10_lookAtAll 97 = .ok (.lload 6, 2) := by decide +kernel
theorem dX10_lookAtAll_99 : decode cX10_lookAtAll 99 = .ok (.lreturn, 1) := by decide +kernel
theorem dX10_livesThrough_0 : decode cX10_livesThrough 0 = .ok (.lconst 1, 1) := by decide +kernel
theorem dX10_livesThrough_1 : decode cX10_livesThrough 1 = .ok (.lstore 4, 2) := by decide +kernel
theorem dX10_livesThrough_3 : decode cX10_livesThrough 3 = .ok (.iload_n 2, 1) := by decide +kernel
theorem dX10_livesThrough_4 : decode cX10_livesThrough 4 = .ok (.istore 6, 2) := by decide +kernel
theorem dX10_livesThrough_6 : decode cX10_livesThrough 6 = .ok (.iload 6, 2) := by decide +kernel
theorem dX10_livesThrough_8 : decode cX10_livesThrough 8 = .ok (.iload_n 2, 1) := by decide +kernel
theorem dX10_livesThrough_9 : decode cX10_livesThrough 9 = .ok (.iload_n 3, 1) := by decide +kernel
theorem dX10_livesThrough_10 : decode cX10_livesThrough 10 = .ok (.iadd, 1) := by decide +kernel
theorem dX10_livesThrough_11 : decode cX10_livesThrough 11 = .ok (.if_icmp .ge 35, 3) := by decide +kernel
theorem dX10_livesThrough_14 : decode cX10_livesThrough 14 = .ok (.iload 6, 2) := by decide +kernel
theorem dX10_livesThrough_16 : decode cX10_livesThrough 16 = .ok (.bipush 60, 2) := by decide +kernel
theorem dX10_livesThrough_18 : decode cX10_livesThrough 18 = .ok (.if_icmp .ge 28, 3) := by decide +kernel
theorem dX10_livesThrough_21 : decode cX10_livesThrough 21 = .ok (.lload 4, 2) := by decide +kernel
theorem dX10_livesThrough_23 : decode cX10_livesThrough 23 = .ok (.bipush 100, 2) := by decide +kernel
theorem dX10_livesThrough_25 : decode cX10_livesThrough 25 = .ok (.aload_n 0, 1) := by decide +kernel
theorem dX10_livesThrough_26 : decode cX10_livesThrough 26 = .ok (.getfield 23, 3) := by decide +kernel
theorem dX10_livesThrough_29 : decode cX10_livesThrough 29 = .ok (.iload_n 1, 1) := by decide +kernel
theorem dX10_livesThrough_30 : decode cX10_livesThrough 30 = .ok (.iload 6, 2) := by decide +kernel
theorem dX10_livesThrough_32 : decode cX10_livesThrough 32 = .ok (.invokevirtual 111, 3) := by decide +kernel
theorem dX10_livesThrough_35 : decode cX10_livesThrough 35 = .ok (.isub, 1) := by decide +kernel
theorem dX10_livesThrough_36 : decode cX10_livesThrough 36 = .ok (.i2l, 1) := by decide +kernel
theorem dX10_livesThrough_37 : decode cX10_livesThrough 37 = .ok (.lmul, 1) := by decide +kernel
theorem dX10_livesThrough_38 : decode cX10_livesThrough 38 = .ok (.lstore 4, 2) := by decide +kernel
theorem dX10_livesThrough_40 : decode cX10_livesThrough 40 = .ok (.iinc 6 1, 3) := by decide +kernel
theorem dX10_livesThrough_43 : decode cX10_livesThrough 43 = .ok (.goto (-37), 3) := by decide +kernel
theorem dX10_livesThrough_46 : decode cX10_livesThrough 46 = .ok (.lload 4, 2) := by decide +kernel
theorem dX10_livesThrough_48 : decode cX10_livesThrough 48 = .ok (.lreturn, 1) := by decide +kernel
theorem dX10_waysTo_0 : decode cX10_waysTo 0 = .ok (.lconst 1, 1) := by decide +kernel
theorem dX10_waysTo_1 : decode cX10_waysTo 1 = .ok (.lstore 4, 2) := by decide +kernel
theorem dX10_waysTo_3 : decode cX10_waysTo 3 = .ok (.iconst 0, 1) := by decide +kernel
theorem dX10_waysTo_4 : decode cX10_waysTo 4 = .ok (.istore 6, 2) := by decide +kernel
theorem dX10_waysTo_6 : decode cX10_waysTo 6 = .ok (.iload 6, 2) := by decide +kernel
theorem dX10_waysTo_8 : decode cX10_waysTo 8 = .ok (.aload_n 0, 1) := by decide +kernel
theorem dX10_waysTo_9 : decode cX10_waysTo 9 = .ok (.getfield 19, 3) := by decide +kernel
theorem dX10_waysTo_12 : decode cX10_waysTo 12 = .ok (.getfield 37, 3) := by decide +kernel
theorem dX10_waysTo_15 : decode cX10_waysTo 15 = .ok (.if_icmp .ge 67, 3) := by decide +kernel
theorem dX10_waysTo_18 : decode cX10_waysTo 18 = .ok (.aload_n 0, 1) := by decide +kernel
theorem dX10_waysTo_19 : decode cX10_waysTo 19 = .ok (.getfield 23, 3) := by decide +kernel
theorem dX10_waysTo_22 : decode cX10_waysTo 22 = .ok (.iload 6, 2) := by decide +kernel
theorem dX10_waysTo_24 : decode cX10_waysTo 24 = .ok (.iload_n 3, 1) := by decide +kernel
theorem dX10_waysTo_25 : decode cX10_waysTo 25 = .ok (.invokevirtual 111, 3) := by decide +kernel
theorem dX10_waysTo_28 : decode cX10_waysTo 28 = .ok (.istore 7, 2) := by decide +kernel
theorem dX10_waysTo_30 : decode cX10_waysTo 30 = .ok (.iload_n 2, 1) := by decide +kernel
theorem dX10_waysTo_31 : decode cX10_waysTo 31 = .ok (.iload 6, 2) := by decide +kernel
theorem dX10_waysTo_33 : decode cX10_waysTo 33 = .ok (.invokestatic 66, 3) := by decide +kernel
theorem dX10_waysTo_36 : decode cX10_waysTo 36 = .ok (.ifCond .eq 14, 3) := by decide +kernel
theorem dX10_waysTo_39 : decode cX10_waysTo 39 = .ok (.lload 4, 2) := by decide +kernel
theorem dX10_waysTo_41 : decode cX10_waysTo 41 = .ok (.ldc2_w 115, 3) := by decide +kernel
theorem dX10_waysTo_44 : decode cX10_waysTo 44 = .ok (.lmul, 1) := by decide +kernel
theorem dX10_waysTo_45 : decode cX10_waysTo 45 = .ok (.lstore 4, 2) := by decide +kernel
theorem dX10_waysTo_47 : decode cX10_waysTo 47 = .ok (.goto 29, 3) := by decide +kernel
theorem dX10_waysTo_50 : decode cX10_waysTo 50 = .ok (.lload 4, 2) := by decide +kernel
theorem dX10_waysTo_52 : decode cX10_waysTo 52 = .ok (.iload_n 1, 1) := by decide +kernel
theorem dX10_waysTo_53 : decode cX10_waysTo 53 = .ok (.iload 6, 2) := by decide +kernel
theorem dX10_waysTo_55 : decode cX10_waysTo 55 = .ok (.invokestatic 66, 3) := by decide +kernel
theorem dX10_waysTo_58 : decode cX10_waysTo 58 = .ok (.ifCond .eq 9, 3) := by decide +kernel
theorem dX10_waysTo_61 : decode cX10_waysTo 61 = .ok (.iload 7, 2) := by decide +kernel
theorem dX10_waysTo_63 : decode cX10_waysTo 63 = .ok (.i2l, 1) := by decide +kernel
theorem dX10_waysTo_64 : decode cX10_waysTo 64 = .ok (.goto 9, 3) := by decide +kernel
theorem dX10_waysTo_67 : decode cX10_waysTo 67 = .ok (.bipush 100, 2) := by decide +kernel
theorem dX10_waysTo_69 : decode cX10_waysTo 69 = .ok (.iload 7, 2) := by decide +kernel
theorem dX10_waysTo_71 : decode cX10_waysTo 71 = .ok (.isub, 1) := by decide +kernel
theorem dX10_waysTo_72 : decode cX10_waysTo 72 = .ok (.i2l, 1) := by decide +kernel
theorem dX10_waysTo_73 : decode cX10_waysTo 73 = .ok (.lmul, 1) := by decide +kernel
theorem dX10_waysTo_74 : decode cX10_waysTo 74 = .ok (.lstore 4, 2) := by decide +kernel
theorem dX10_waysTo_76 : decode cX10_waysTo 76 = .ok (.iinc 6 1, 3) := by decide +kernel
theorem dX10_waysTo_79 : decode cX10_waysTo 79 = .ok (.goto (-73), 3) := by decide +kernel
theorem dX10_waysTo_82 : decode cX10_waysTo 82 = .ok (.lload 4, 2) := by decide +kernel
theorem dX10_waysTo_84 : decode cX10_waysTo 84 = .ok (.lreturn, 1) := by decide +kernel
theorem dX10_oddsOf_0 : decode cX10_oddsOf 0 = .ok (.iconst 1, 1) := by decide +kernel
theorem dX10_oddsOf_1 : decode cX10_oddsOf 1 = .ok (.aload_n 0, 1) := by decide +kernel
theorem dX10_oddsOf_2 : decode cX10_oddsOf 2 = .ok (.getfield 19, 3) := by decide +kernel
theorem dX10_oddsOf_5 : decode cX10_oddsOf 5 = .ok (.getfield 37, 3) := by decide +kernel
theorem dX10_oddsOf_8 : decode cX10_oddsOf 8 = .ok (.ishl, 1) := by decide +kernel
theorem dX10_oddsOf_9 : decode cX10_oddsOf 9 = .ok (.iconst 1, 1) := by decide +kernel
theorem dX10_oddsOf_10 : decode cX10_oddsOf 10 = .ok (.isub, 1) := by decide +kernel
theorem dX10_oddsOf_11 : decode cX10_oddsOf 11 = .ok (.istore 4, 2) := by decide +kernel
theorem dX10_oddsOf_13 : decode cX10_oddsOf 13 = .ok (.lconst 0, 1) := by decide +kernel
theorem dX10_oddsOf_14 : decode cX10_oddsOf 14 = .ok (.lstore 5, 2) := by decide +kernel
theorem dX10_oddsOf_16 : decode cX10_oddsOf 16 = .ok (.iconst 0, 1) := by decide +kernel
theorem dX10_oddsOf_17 : decode cX10_oddsOf 17 = .ok (.istore 7, 2) := by decide +kernel
theorem dX10_oddsOf_19 : decode cX10_oddsOf 19 = .ok (.iload 7, 2) := by decide +kernel
theorem dX10_oddsOf_21 : decode cX10_oddsOf 21 = .ok (.iload 4, 2) := by decide +kernel
theorem dX10_oddsOf_23 : decode cX10_oddsOf 23 = .ok (.if_icmp .gt 103, 3) := by decide +kernel
theorem dX10_oddsOf_26 : decode cX10_oddsOf 26 = .ok (.aload_n 0, 1) := by decide +kernel
theorem dX10_oddsOf_27 : decode cX10_oddsOf 27 = .ok (.iload 7, 2) := by decide +kernel
theorem dX10_oddsOf_29 : decode cX10_oddsOf 29 = .ok (.iconst 0, 1) := by decide +kernel
theorem dX10_oddsOf_30 : decode cX10_oddsOf 30 = .ok (.iload_n 2, 1) := by decide +kernel
theorem dX10_oddsOf_31 : decode cX10_oddsOf 31 = .ok (.invokevirtual 117, 3) := by decide +kernel
theorem dX10_oddsOf_34 : decode cX10_oddsOf 34 = .ok (.lstore 8, 2) := by decide +kernel
theorem dX10_oddsOf_36 : decode cX10_oddsOf 36 = .ok (.lload 8, 2) := by decide +kernel
theorem dX10_oddsOf_38 : decode cX10_oddsOf 38 = .ok (.lconst 0, 1) := by decide +kernel
theorem dX10_oddsOf_39 : decode cX10_oddsOf 39 = .ok (.lcmp, 1) := by decide +kernel
theorem dX10_oddsOf_40 : decode cX10_oddsOf 40 = .ok (.ifCond .ne 6, 3) := by decide +kernel
theorem dX10_oddsOf_43 : decode cX10_oddsOf 43 = .ok (.goto 77, 3) := by decide +kernel
theorem dX10_oddsOf_46 : decode cX10_oddsOf 46 = .ok (.aload_n 0, 1) := by decide +kernel
theorem dX10_oddsOf_47 : decode cX10_oddsOf 47 = .ok (.iload_n 2, 1) := by decide +kernel
theorem dX10_oddsOf_48 : decode cX10_oddsOf 48 = .ok (.iload 7, 2) := by decide +kernel
theorem dX10_oddsOf_50 : decode cX10_oddsOf 50 = .ok (.iconst 0, 1) := by decide +kernel
theorem dX10_oddsOf_51 : decode cX10_oddsOf 51 = .ok (.invokevirtual 108, 3) := by decide +kernel
theorem dX10_oddsOf_54 : decode cX10_oddsOf 54 = .ok (.istore 10, 2) := by decide +kernel
theorem dX10_oddsOf_56 : decode cX10_oddsOf 56 = .ok (.iload 10, 2) := by decide +kernel
theorem dX10_oddsOf_58 : decode cX10_oddsOf 58 = .ok (.iload_n 1, 1) := by decide +kernel
theorem dX10_oddsOf_59 : decode cX10_oddsOf 59 = .ok (.invokestatic 66, 3) := by decide +kernel
theorem dX10_oddsOf_62 : decode cX10_oddsOf 62 = .ok (.ifCond .eq 33, 3) := by decide +kernel
theorem dX10_oddsOf_65 : decode cX10_oddsOf 65 = .ok (.lload 5, 2) := by decide +kernel
theorem dX10_oddsOf_67 : decode cX10_oddsOf 67 = .ok (.iload_n 3, 1) := by decide +kernel
theorem dX10_oddsOf_68 : decode cX10_oddsOf 68 = .ok (.iconst 1, 1) := by decide +kernel
theorem dX10_oddsOf_69 : decode cX10_oddsOf 69 = .ok (.if_icmp .ne 8, 3) := by decide +kernel
theorem dX10_oddsOf_72 : decode cX10_oddsOf 72 = .ok (.lload 8, 2) := by decide +kernel
theorem dX10_oddsOf_74 : decode cX10_oddsOf 74 = .ok (.goto 15, 3) := by decide +kernel
theorem dX10_oddsOf_77 : decode cX10_oddsOf 77 = .ok (.lload 8, 2) := by decide +kernel
theorem dX10_oddsOf_79 : decode cX10_oddsOf 79 = .ok (.aload_n 0, 1) := by decide +kernel
theorem dX10_oddsOf_80 : decode cX10_oddsOf 80 = .ok (.iload 4, 2) := by decide +kernel
theorem dX10_oddsOf_82 : decode cX10_oddsOf 82 = .ok (.iload 4, 2) := by decide +kernel
theorem dX10_oddsOf_84 : decode cX10_oddsOf 84 = .ok (.iload_n 2, 1) := by decide +kernel
theorem dX10_oddsOf_85 : decode cX10_oddsOf 85 = .ok (.invokevirtual 117, 3) := by decide +kernel
theorem dX10_oddsOf_88 : decode cX10_oddsOf 88 = .ok (.lmul, 1) := by decide +kernel
theorem dX10_oddsOf_89 : decode cX10_oddsOf 89 = .ok (.ladd, 1) := by decide +kernel
theorem dX10_oddsOf_90 : decode cX10_oddsOf 90 = .ok (.lstore 5, 2) := by decide +kernel
theorem dX10_oddsOf_92 : decode cX10_oddsOf 92 = .ok (.goto 28, 3) := by decide +kernel
theorem dX10_oddsOf_95 : decode cX10_oddsOf 95 = .ok (.iload_n 3, 1) := by decide +kernel
theorem dX10_oddsOf_96 : decode cX10_oddsOf 96 = .ok (.iconst 1, 1) := by decide +kernel
theorem dX10_oddsOf_97 : decode cX10_oddsOf 97 = .ok (.if_icmp .le 23, 3) := by decide +kernel
theorem dX10_oddsOf_100 : decode cX10_oddsOf 100 = .ok (.lload 5, 2) := by decide +kernel
theorem dX10_oddsOf_102 : decode cX10_oddsOf 102 = .ok (.lload 8, 2) := by decide +kernel
theorem dX10_oddsOf_104 : decode cX10_oddsOf 104 = .ok (.aload_n 0, 1) := by decide +kernel
theorem dX10_oddsOf_105 : decode cX10_oddsOf 105 = .ok (.iload_n 1, 1) := by decide +kernel
theorem dX10_oddsOf_106 : decode cX10_oddsOf 106 = .ok (.iload_n 2, 1) := by decide +kernel
theorem dX10_oddsOf_107 : decode cX10_oddsOf 107 = .ok (.iconst 1, 1) := by decide +kernel
theorem dX10_oddsOf_108 : decode cX10_oddsOf 108 = .ok (.iadd, 1) := by decide +kernel
theorem dX10_oddsOf_109 : decode cX10_oddsOf 109 = .ok (.iload 7, 2) := by decide +kernel
theorem dX10_oddsOf_111 : decode cX10_oddsOf 111 = .ok (.iload 10, 2) := by decide +kernel
theorem dX10_oddsOf_113 : decode cX10_oddsOf 113 = .ok (.invokevirtual 121, 3) := by decide +kernel
theorem dX10_oddsOf_116 : decode cX10_oddsOf 116 = .ok (.lmul, 1) := by decide +kernel
theorem dX10_oddsOf_117 : decode cX10_oddsOf 117 = .ok (.ladd, 1) := by decide +kernel
theorem dX10_oddsOf_118 : decode cX10_oddsOf 118 = .ok (.lstore 5, 2) := by decide +kernel
theorem dX10_oddsOf_120 : decode cX10_oddsOf 120 = .ok (.iinc 7 1, 3) := by decide +kernel
theorem dX10_oddsOf_123 : decode cX10_oddsOf 123 = .ok (.goto (-104), 3) := by decide +kernel
theorem dX10_oddsOf_126 : decode cX10_oddsOf 126 = .ok (.lload 5, 2) := by decide +kernel
theorem dX10_oddsOf_128 : decode cX10_oddsOf 128 = .ok (.lreturn, 1) := by decide +kernel
theorem dX10_oddsOfNext_0 : decode cX10_oddsOfNext 0 = .ok (.lconst 0, 1) := by decide +kernel
theorem dX10_oddsOfNext_1 : decode cX10_oddsOfNext 1 = .ok (.lstore 5, 2) := by decide +kernel
theorem dX10_oddsOfNext_3 : decode cX10_oddsOfNext 3 = .ok (.iload_n 3, 1) := by decide +kernel
theorem dX10_oddsOfNext_4 : decode cX10_oddsOfNext 4 = .ok (.istore 7, 2) := by decide +kernel
theorem dX10_oddsOfNext_6 : decode cX10_oddsOfNext 6 = .ok (.iload 7, 2) := by decide +kernel
theorem dX10_oddsOfNext_8 : decode cX10_oddsOfNext 8 = .ok (.iconst 1, 1) := by decide +kernel
theorem dX10_oddsOfNext_9 : decode cX10_oddsOfNext 9 = .ok (.aload_n 0, 1) := by decide +kernel
theorem dX10_oddsOfNext_10 : decode cX10_oddsOfNext 10 = .ok (.getfield 19, 3) := by decide +kernel
theorem dX10_oddsOfNext_13 : decode cX10_oddsOfNext 13 = .ok (.getfield 37, 3) := by decide +kernel
theorem dX10_oddsOfNext_16 : decode cX10_oddsOfNext 16 = .ok (.ishl, 1) := by decide +kernel
theorem dX10_oddsOfNext_17 : decode cX10_oddsOfNext 17 = .ok (.if_icmp .ge 60, 3) := by decide +kernel
theorem dX10_oddsOfNext_20 : decode cX10_oddsOfNext 20 = .ok (.iload 7, 2) := by decide +kernel
theorem dX10_oddsOfNext_22 : decode cX10_oddsOfNext 22 = .ok (.iload_n 3, 1) := by decide +kernel
theorem dX10_oddsOfNext_23 : decode cX10_oddsOfNext 23 = .ok (.iand, 1) := by decide +kernel
theorem dX10_oddsOfNext_24 : decode cX10_oddsOfNext 24 = .ok (.iload_n 3, 1) := by decide +kernel
theorem dX10_oddsOfNext_25 : decode cX10_oddsOfNext 25 = .ok (.if_icmp .eq 6, 3) := by decide +kernel
theorem dX10_oddsOfNext_28 : decode cX10_oddsOfNext 28 = .ok (.goto 43, 3) := by decide +kernel
theorem dX10_oddsOfNext_31 : decode cX10_oddsOfNext 31 = .ok (.aload_n 0, 1) := by decide +kernel
theorem dX10_oddsOfNext_32 : decode cX10_oddsOfNext 32 = .ok (.iload 7, 2) := by decide +kernel
theorem dX10_oddsOfNext_34 : decode cX10_oddsOfNext 34 = .ok (.iload_n 3, 1) := by decide +kernel
theorem dX10_oddsOfNext_35 : decode cX10_oddsOfNext 35 = .ok (.iload_n 2, 1) := by decide +kernel
theorem dX10_oddsOfNext_36 : decode cX10_oddsOfNext 36 = .ok (.invokevirtual 117, 3) := by decide +kernel
theorem dX10_oddsOfNext_39 : decode cX10_oddsOfNext 39 = .ok (.lstore 8, 2) := by decide +kernel
theorem dX10_oddsOfNext_41 : decode cX10_oddsOfNext 41 = .ok (.lload 8, 2) := by decide +kernel
theorem dX10_oddsOfNext_43 : decode cX10_oddsOfNext 43 = .ok (.lconst 0, 1) := by decide +kernel
theorem dX10_oddsOfNext_44 : decode cX10_oddsOfNext 44 = .ok (.lcmp, 1) := by decide +kernel
theorem dX10_oddsOfNext_45 : decode cX10_oddsOfNext 45 = .ok (.ifCond .eq 26, 3) := by decide +kernel
theorem dX10_oddsOfNext_48 : decode cX10_oddsOfNext 48 = .ok (.aload_n 0, 1) := by decide +kernel
theorem dX10_oddsOfNext_49 : decode cX10_oddsOfNext 49 = .ok (.iload_n 2, 1) := by decide +kernel
theorem dX10_oddsOfNext_50 : decode cX10_oddsOfNext 50 = .ok (.iload 7, 2) := by decide +kernel
theorem dX10_oddsOfNext_52 : decode cX10_oddsOfNext 52 = .ok (.iload 4, 2) := by decide +kernel
theorem dX10_oddsOfNext_54 : decode cX10_oddsOfNext 54 = .ok (.invokevirtual 108, 3) := by decide +kernel
theorem dX10_oddsOfNext_57 : decode cX10_oddsOfNext 57 = .ok (.iload_n 1, 1) := by decide +kernel
theorem dX10_oddsOfNext_58 : decode cX10_oddsOfNext 58 = .ok (.invokestatic 66, 3) := by decide +kernel
theorem dX10_oddsOfNext_61 : decode cX10_oddsOfNext 61 = .ok (.ifCond .eq 10, 3) := by decide +kernel
theorem dX10_oddsOfNext_64 : decode cX10_oddsOfNext 64 = .ok (.lload 5, 2) := by decide +kernel
theorem dX10_oddsOfNext_66 : decode cX10_oddsOfNext 66 = .ok (.lload 8, 2) := by decide +kernel
theorem dX10_oddsOfNext_68 : decode cX10_oddsOfNext 68 = .ok (.ladd, 1) := by decide +kernel
theorem dX10_oddsOfNext_69 : decode cX10_oddsOfNext 69 = .ok (.lstore 5, 2) := by decide +kernel
theorem dX10_oddsOfNext_71 : decode cX10_oddsOfNext 71 = .ok (.iinc 7 1, 3) := by decide +kernel
theorem dX10_oddsOfNext_74 : decode cX10_oddsOfNext 74 = .ok (.goto (-68), 3) := by decide +kernel
theorem dX10_oddsOfNext_77 : decode cX10_oddsOfNext 77 = .ok (.lload 5, 2) := by decide +kernel
theorem dX10_oddsOfNext_79 : decode cX10_oddsOfNext 79 = .ok (.lreturn, 1) := by decide +kernel
theorem dX11_init_0 : decode cX11_init 0 = .ok (.aload_n 0, 1) := by decide +kernel
theorem dX11_init_1 : decode cX11_init 1 = .ok (.invokespecial 1, 3) := by decide +kernel
theorem dX11_init_4 : decode cX11_init 4 = .ok (.aload_n 0, 1) := by decide +kernel
theorem dX11_init_5 : decode cX11_init 5 = .ok (.new 7, 3) := by decide +kernel
theorem dX11_init_8 : decode cX11_init 8 = .ok (.dup, 1) := by decide +kernel
theorem dX11_init_9 : decode cX11_init 9 = .ok (.invokespecial 9, 3) := by decide +kernel
theorem dX11_init_12 : decode cX11_init 12 = .ok (.putfield 10, 3) := by decide +kernel
theorem dX11_init_15 : decode cX11_init 15 = .ok (.aload_n 0, 1) := by decide +kernel
theorem dX11_init_16 : decode cX11_init 16 = .ok (.new 16, 3) := by decide +kernel
theorem dX11_init_19 : decode cX11_init 19 = .ok (.dup, 1) := by decide +kernel
theorem dX11_init_20 : decode cX11_init 20 = .ok (.invokespecial 18, 3) := by decide +kernel
theorem dX11_init_23 : decode cX11_init 23 = .ok (.putfield 19, 3) := by decide +kernel
theorem dX11_init_26 : decode cX11_init 26 = .ok (.aload_n 0, 1) := by decide +kernel
theorem dX11_init_27 : decode cX11_init 27 = .ok (.new 23, 3) := by decide +kernel
theorem dX11_init_30 : decode cX11_init 30 = .ok (.dup, 1) := by decide +kernel
theorem dX11_init_31 : decode cX11_init 31 = .ok (.invokespecial 25, 3) := by decide +kernel
theorem dX11_init_34 : decode cX11_init 34 = .ok (.putfield 26, 3) := by decide +kernel
theorem dX11_init_37 : decode cX11_init 37 = .ok (.aload_n 0, 1) := by decide +kernel
theorem dX11_init_38 : decode cX11_init 38 = .ok (.new 23, 3) := by decide +kernel
theorem dX11_init_41 : decode cX11_init 41 = .ok (.dup, 1) := by decide +kernel
theorem dX11_init_42 : decode cX11_init 42 = .ok (.invokespecial 25, 3) := by decide +kernel
theorem dX11_init_45 : decode cX11_init 45 = .ok (.putfield 30, 3) := by decide +kernel
theorem dX11_init_48 : decode cX11_init 48 = .ok (.aload_n 0, 1) := by decide +kernel
theorem dX11_init_49 : decode cX11_init 49 = .ok (.new 33, 3) := by decide +kernel
theorem dX11_init_52 : decode cX11_init 52 = .ok (.dup, 1) := by decide +kernel
theorem dX11_init_53 : decode cX11_init 53 = .ok (.aload_n 0, 1) := by decide +kernel
theorem dX11_init_54 : decode cX11_init 54 = .ok (.getfield 19, 3) := by decide +kernel
theorem dX11_init_57 : decode cX11_init 57 = .ok (.aload_n 0, 1) := by decide +kernel
theorem dX11_init_58 : decode cX11_init 58 = .ok (.getfield 30, 3) := by decide +kernel
theorem dX11_init_61 : decode cX11_init 61 = .ok (.invokespecial 35, 3) := by decide +kernel
theorem dX11_init_64 : decode cX11_init 64 = .ok (.putfield 38, 3) := by decide +kernel
theorem dX11_init_67 : decode cX11_init 67 = .ok (.aload_n 0, 1) := by decide +kernel
theorem dX11_init_68 : decode cX11_init 68 = .ok (.new 42, 3) := by decide +kernel
theorem dX11_init_71 : decode cX11_init 71 = .ok (.dup, 1) := by decide +kernel
theorem dX11_init_72 : decode cX11_init 72 = .ok (.aload_n 0, 1) := by decide +kernel
theorem dX11_init_73 : decode cX11_init 73 = .ok (.getfield 26, 3) := by decide +kernel
theorem dX11_init_76 : decode cX11_init 76 = .ok (.invokespecial 44, 3) := by decide +kernel
theorem dX11_init_79 : decode cX11_init 79 = .ok (.putfield 47, 3) := by decide +kernel
theorem dX11_init_82 : decode cX11_init 82 = .ok (.aload_n 0, 1) := by decide +kernel
theorem dX11_init_83 : decode cX11_init 83 = .ok (.new 51, 3) := by decide +kernel
theorem dX11_init_86 : decode cX11_init 86 = .ok (.dup, 1) := by decide +kernel
theorem dX11_init_87 : decode cX11_init 87 = .ok (.invokespecial 53, 3) := by decide +kernel
theorem dX11_init_90 : decode cX11_init 90 = .ok (.putfield 54, 3) := by decide +kernel
theorem dX11_init_93 : decode cX11_init 93 = .ok (.aload_n 0, 1) := by decide +kernel
theorem dX11_init_94 : decode cX11_init 94 = .ok (.iconst 3, 1) := by decide +kernel
theorem dX11_init_95 : decode cX11_init 95 = .ok (.anewarray 51, 3) := by decide +kernel
theorem dX11_init_98 : decode cX11_init 98 = .ok (.putfield 58, 3) := by decide +kernel
theorem dX11_init_101 : decode cX11_init 101 = .ok (.iconst 0, 1) := by decide +kernel
theorem dX11_init_102 : decode cX11_init 102 = .ok (.istore_n 1, 1) := by decide +kernel
theorem dX11_init_103 : decode cX11_init 103 = .ok (.iload_n 1, 1) := by decide +kernel
theorem dX11_init_104 : decode cX11_init 104 = .ok (.iconst 3, 1) := by decide +kernel
theorem dX11_init_105 : decode cX11_init 105 = .ok (.if_icmp .ge 22, 3) := by decide +kernel
theorem dX11_init_108 : decode cX11_init 108 = .ok (.aload_n 0, 1) := by decide +kernel
theorem dX11_init_109 : decode cX11_init 109 = .ok (.getfield 58, 3) := by decide +kernel
theorem dX11_init_112 : decode cX11_init 112 = .ok (.iload_n 1, 1) := by decide +kernel
theorem dX11_init_113 : decode cX11_init 113 = .ok (.new 51, 3) := by decide +kernel
theorem dX11_init_116 : decode cX11_init 116 = .ok (.dup, 1) := by decide +kernel
theorem dX11_init_117 : decode cX11_init 117 = .ok (.invokespecial 53, 3) := by decide +kernel
theorem dX11_init_120 : decode cX11_init 120 = .ok (.aastore, 1) := by decide +kernel
theorem dX11_init_121 : decode cX11_init 121 = .ok (.iinc 1 1, 3) := by decide +kernel
theorem dX11_init_124 : decode cX11_init 124 = .ok (.goto (-21), 3) := by decide +kernel
theorem dX11_init_127 : decode cX11_init 127 = .ok (.aload_n 0, 1) := by decide +kernel
theorem dX11_init_128 : decode cX11_init 128 = .ok (.new 62, 3) := by decide +kernel
theorem dX11_init_131 : decode cX11_init 131 = .ok (.dup, 1) := by decide +kernel
theorem dX11_init_132 : decode cX11_init 132 = .ok (.aload_n 0, 1) := by decide +kernel
theorem dX11_init_133 : decode cX11_init 133 = .ok (.getfield 26, 3) := by decide +kernel
theorem dX11_init_136 : decode cX11_init 136 = .ok (.aload_n 0, 1) := by decide +kernel
theorem dX11_init_137 : decode cX11_init 137 = .ok (.getfield 54, 3) := by decide +kernel
theorem dX11_init_140 : decode cX11_init 140 = .ok (.aload_n 0, 1) := by decide +kernel
theorem dX11_init_141 : decode cX11_init 141 = .ok (.getfield 47, 3) := by decide +kernel
theorem dX11_init_144 : decode cX11_init 144 = .ok (.invokespecial 64, 3) := by decide +kernel
theorem dX11_init_147 : decode cX11_init 147 = .ok (.putfield 67, 3) := by decide +kernel
theorem dX11_init_150 : decode cX11_init 150 = .ok (.aload_n 0, 1) := by decide +kernel
theorem dX11_init_151 : decode cX11_init 151 = .ok (.new 71, 3) := by decide +kernel
theorem dX11_init_154 : decode cX11_init 154 = .ok (.dup, 1) := by decide +kernel
theorem dX11_init_155 : decode cX11_init 155 = .ok (.aload_n 0, 1) := by decide +kernel
theorem dX11_init_156 : decode cX11_init 156 = .ok (.getfield 26, 3) := by decide +kernel
theorem dX11_init_159 : decode cX11_init 159 = .ok (.aload_n 0, 1) := by decide +kernel
theorem dX11_init_160 : decode cX11_init 160 = .ok (.getfield 47, 3) := by decide +kernel
theorem dX11_init_163 : decode cX11_init 163 = .ok (.invokespecial 73, 3) := by decide +kernel
theorem dX11_init_166 : decode cX11_init 166 = .ok (.putfield 76, 3) := by decide +kernel
theorem dX11_init_169 : decode cX11_init 169 = .ok (.aload_n 0, 1) := by decide +kernel
theorem dX11_init_170 : decode cX11_init 170 = .ok (.new 80, 3) := by decide +kernel
theorem dX11_init_173 : decode cX11_init 173 = .ok (.dup, 1) := by decide +kernel
theorem dX11_init_174 : decode cX11_init 174 = .ok (.aload_n 0, 1) := by decide +kernel
theorem dX11_init_175 : decode cX11_init 175 = .ok (.getfield 26, 3) := by decide +kernel
theorem dX11_init_178 : decode cX11_init 178 = .ok (.invokespecial 82, 3) := by decide +kernel
theorem dX11_init_181 : decode cX11_init 181 = .ok (.putfield 83, 3) := by decide +kernel
theorem dX11_init_184 : decode cX11_init 184 = .ok (.aload_n 0, 1) := by decide +kernel
theorem dX11_init_185 : decode cX11_init 185 = .ok (.iconst 0, 1) := by decide +kernel
theorem dX11_init_186 : decode cX11_init 186 = .ok (.putfield 87, 3) := by decide +kernel
theorem dX11_init_189 : decode cX11_init 189 = .ok (.aload_n 0, 1) := by decide +kernel
theorem dX11_init_190 : decode cX11_init 190 = .ok (.iconst (-1), 1) := by decide +kernel
theorem dX11_init_191 : decode cX11_init 191 = .ok (.putfield 91, 3) := by decide +kernel
theorem dX11_init_194 : decode cX11_init 194 = .ok (.return_, 1) := by decide +kernel
theorem dX11_within_0 : decode cX11_within 0 = .ok (.iload_n 1, 1) := by decide +kernel
theorem dX11_within_1 : decode cX11_within 1 = .ok (.iload_n 0, 1) := by decide +kernel
theorem dX11_within_2 : decode cX11_within 2 = .ok (.if_icmp .gt 12, 3) := by decide +kernel
theorem dX11_within_5 : decode cX11_within 5 = .ok (.iload_n 0, 1) := by decide +kernel
theorem dX11_within_6 : decode cX11_within 6 = .ok (.iload_n 2, 1) := by decide +kernel
theorem dX11_within_7 : decode cX11_within 7 = .ok (.if_icmp .gt 7, 3) := by decide +kernel
theorem dX11_within_10 : decode cX11_within 10 = .ok (.iconst 1, 1) := by decide +kernel
theorem dX11_within_11 : decode cX11_within 11 = .ok (.goto 4, 3) := by decide +kernel
theorem dX11_within_14 : decode cX11_within 14 = .ok (.iconst 0, 1) := by decide +kernel
theorem dX11_within_15 : decode cX11_within 15 = .ok (.ireturn, 1) := by decide +kernel
theorem dX11_keepTo_0 : decode cX11_keepTo 0 = .ok (.iconst 0, 1) := by decide +kernel
theorem dX11_keepTo_1 : decode cX11_keepTo 1 = .ok (.iload_n 1, 1) := by decide +kernel
theorem dX11_keepTo_2 : decode cX11_keepTo 2 = .ok (.iload_n 0, 1) := by decide +kernel
theorem dX11_keepTo_3 : decode cX11_keepTo 3 = .ok (.invokestatic 94, 3) := by decide +kernel
theorem dX11_keepTo_6 : decode cX11_keepTo 6 = .ok (.invokestatic 100, 3) := by decide +kernel
theorem dX11_keepTo_9 : decode cX11_keepTo 9 = .ok (.ireturn, 1) := by decide +kernel
theorem dX11_has_0 : decode cX11_has 0 = .ok (.iload_n 0, 1) := by decide +kernel
theorem dX11_has_1 : decode cX11_has 1 = .ok (.iload_n 1, 1) := by decide +kernel
theorem dX11_has_2 : decode cX11_has 2 = .ok (.ishr, 1) := by decide +kernel
theorem dX11_has_3 : decode cX11_has 3 = .ok (.iconst 1, 1) := by decide +kernel
theorem dX11_has_4 : decode cX11_has 4 = .ok (.iand, 1) := by decide +kernel
theorem dX11_has_5 : decode cX11_has 5 = .ok (.ifCond .eq 7, 3) := by decide +kernel
theorem dX11_has_8 : decode cX11_has 8 = .ok (.iconst 1, 1) := by decide +kernel
theorem dX11_has_9 : decode cX11_has 9 = .ok (.goto 4, 3) := by decide +kernel
theorem dX11_has_12 : decode cX11_has 12 = .ok (.iconst 0, 1) := by decide +kernel
theorem dX11_has_13 : decode cX11_has 13 = .ok (.ireturn, 1) := by decide +kernel
theorem dX11_isPerson_0 : decode cX11_isPerson 0 = .ok (.iload_n 1, 1) := by decide +kernel
theorem dX11_isPerson_1 : decode cX11_isPerson 1 = .ok (.iconst 0, 1) := by decide +kernel
theorem dX11_isPerson_2 : decode cX11_isPerson 2 = .ok (.aload_n 0, 1) := by decide +kernel
theorem dX11_isPerson_3 : decode cX11_isPerson 3 = .ok (.getfield 26, 3) := by decide +kernel
theorem dX11_isPerson_6 : decode cX11_isPerson 6 = .ok (.getfield 103, 3) := by decide +kernel
theorem dX11_isPerson_9 : decode cX11_isPerson 9 = .ok (.iconst 1, 1) := by decide +kernel
theorem dX11_isPerson_10 : decode cX11_isPerson 10 = .ok (.isub, 1) := by decide +kernel
theorem dX11_isPerson_11 : decode cX11_isPerson 11 = .ok (.invokestatic 106, 3) := by decide +kernel
theorem dX11_isPerson_14 : decode cX11_isPerson 14 = .ok (.ireturn, 1) := by decide +kernel
theorem dX11_isLetter_0 : decode cX11_isLetter 0 = .ok (.iload_n 1, 1) := by decide +kernel
theorem dX11_isLetter_1 : decode cX11_isLetter 1 = .ok (.iconst 0, 1) := by decide +kernel
theorem dX11_isLetter_2 : decode cX11_isLetter 2 = .ok (.aload_n 0, 1) := by decide +kernel
theorem dX11_isLetter_3 : decode cX11_isLetter 3 = .ok (.getfield 26, 3) := by decide +kernel
theorem dX11_isLetter_6 : decode cX11_isLetter 6 = .ok (.getfield 110, 3) := by decide +kernel
theorem dX11_isLetter_9 : decode cX11_isLetter 9 = .ok (.iconst 1, 1) := by decide +kernel
theorem dX11_isLetter_10 : decode cX11_isLetter 10 = .ok (.isub, 1) := by decide +kernel
theorem dX11_isLetter_11 : decode cX11_isLetter 11 = .ok (.invokestatic 106, 3) := by decide +kernel
theorem dX11_isLetter_14 : decode cX11_isLetter 14 = .ok (.ireturn, 1) := by decide +kernel
theorem dX11_isYear_0 : decode cX11_isYear 0 = .ok (.iload_n 1, 1) := by decide +kernel
theorem dX11_isYear_1 : decode cX11_isYear 1 = .ok (.iconst 0, 1) := by decide +kernel
theorem dX11_isYear_2 : decode cX11_isYear 2 = .ok (.bipush 59, 2) := by decide +kernel
theorem dX11_isYear_4 : decode cX11_isYear 4 = .ok (.invokestatic 106, 3) := by decide +kernel
theorem dX11_isYear_7 : decode cX11_isYear 7 = .ok (.ireturn, 1) := by decide +kernel
theorem dX11_isKnown_0 : decode cX11_isKnown 0 = .ok (.iload_n 1, 1) := by decide +kernel
theorem dX11_isKnown_1 : decode cX11_isKnown 1 = .ok (.iconst 0, 1) := by decide +kernel
theorem dX11_isKnown_2 : decode cX11_isKnown 2 = .ok (.aload_n 0, 1) := by decide +kernel
theorem dX11_isKnown_3 : decode cX11_isKnown 3 = .ok (.getfield 54, 3) := by decide +kernel
theorem dX11_isKnown_6 : decode cX11_isKnown 6 = .ok (.getfield 113, 3) := by decide +kernel
theorem dX11_isKnown_9 : decode cX11_isKnown 9 = .ok (.invokestatic 106, 3) := by decide +kernel
theorem dX11_isKnown_12 : decode cX11_isKnown 12 = .ok (.ireturn, 1) := by decide +kernel
theorem dX11_isLook_0 : decode cX11_isLook 0 = .ok (.iload_n 1, 1) := by decide +kernel
theorem dX11_isLook_1 : decode cX11_isLook 1 = .ok (.iconst 1, 1) := by decide +kernel
theorem dX11_isLook_2 : decode cX11_isLook 2 = .ok (.bipush 20, 2) := by decide +kernel
theorem dX11_isLook_4 : decode cX11_isLook 4 = .ok (.invokestatic 106, 3) := by decide +kernel
theorem dX11_isLook_7 : decode cX11_isLook 7 = .ok (.ireturn, 1) := by decide +kernel
theorem dX11_areThere_0 : decode cX11_areThere 0 = .ok (.iload_n 1, 1) := by decide +kernel
theorem dX11_areThere_1 : decode cX11_areThere 1 = .ok (.iconst 0, 1) := by decide +kernel
theorem dX11_areThere_2 : decode cX11_areThere 2 = .ok (.iconst 1, 1) := by decide +kernel
theorem dX11_areThere_3 : decode cX11_areThere 3 = .ok (.aload_n 0, 1) := by decide +kernel
theorem dX11_areThere_4 : decode cX11_areThere 4 = .ok (.getfield 26, 3) := by decide +kernel
theorem dX11_areThere_7 : decode cX11_areThere 7 = .ok (.getfield 103, 3) := by decide +kernel
theorem dX11_areThere_10 : decode cX11_areThere 10 = .ok (.ishl, 1) := by decide +kernel
theorem dX11_areThere_11 : decode cX11_areThere 11 = .ok (.iconst 1, 1) := by decide +kernel
theorem dX11_areThere_12 : decode cX11_areThere 12 = .ok (.isub, 1) := by decide +kernel
theorem dX11_areThere_13 : decode cX11_areThere 13 = .ok (.invokestatic 106, 3) := by decide +kernel
theorem dX11_areThere_16 : decode cX11_areThere 16 = .ok (.ifCond .eq 26, 3) := by decide +kernel
theorem dX11_areThere_19 : decode cX11_areThere 19 = .ok (.iload_n 2, 1) := by decide +kernel
theorem dX11_areThere_20 : decode cX11_areThere 20 = .ok (.iconst 0, 1) := by decide +kernel
theorem dX11_areThere_21 : decode cX11_areThere 21 = .ok (.iconst 1, 1) := by decide +kernel
theorem dX11_areThere_22 : decode cX11_areThere 22 = .ok (.aload_n 0, 1) := by decide +kernel
theorem dX11_areThere_23 : decode cX11_areThere 23 = .ok (.getfield 26, 3) := by decide +kernel
theorem dX11_areThere_26 : decode cX11_areThere 26 = .ok (.getfield 110, 3) := by decide +kernel
theorem dX11_areThere_29 : decode cX11_areThere 29 = .ok (.ishl, 1) := by decide +kernel
theorem dX11_areThere_30 : decode cX11_areThere 30 = .ok (.iconst 1, 1) := by decide +kernel
theorem dX11_areThere_31 : decode cX11_areThere 31 = .ok (.isub, 1) := by decide +kernel
theorem dX11_areThere_32 : decode cX11_areThere 32 = .ok (.invokestatic 106, 3) := by decide +kernel
theorem dX11_areThere_35 : decode cX11_areThere 35 = .ok (.ifCond .eq 7, 3) := by decide +kernel
theorem dX11_areThere_38 : decode cX11_areThere 38 = .ok (.iconst 1, 1) := by decide +kernel
theorem dX11_areThere_39 : decode cX11_areThere 39 = .ok (.goto 4, 3) := by decide +kernel
theorem dX11_areThere_42 : decode cX11_areThere 42 = .ok (.iconst 0, 1) := by decide +kernel
theorem dX11_areThere_43 : decode cX11_areThere 43 = .ok (.ireturn, 1) := by decide +kernel
theorem dX11_feed_0 : decode cX11_feed 0 = .ok (.aload_n 0, 1) := by decide +kernel
theorem dX11_feed_1 : decode cX11_feed 1 = .ok (.getfield 10, 3) := by decide +kernel
theorem dX11_feed_4 : decode cX11_feed 4 = .ok (.invokevirtual 116, 3) := by decide +kernel
theorem dX11_feed_7 : decode cX11_feed 7 = .ok (.ifCond .ne 5, 3) := by decide +kernel
theorem dX11_feed_10 : decode cX11_feed 10 = .ok (.iconst (-1), 1) := by decide +kernel
theorem dX11_feed_11 : decode cX11_feed 11 = .ok (.ireturn, 1) := by decide +kernel
theorem dX11_feed_12 : decode cX11_feed 12 = .ok (.aload_n 0, 1) := by decide +kernel
theorem dX11_feed_13 : decode cX11_feed 13 = .ok (.getfield 10, 3) := by decide +kernel
theorem dX11_feed_16 : decode cX11_feed 16 = .ok (.iload_n 1, 1) := by decide +kernel
theorem dX11_feed_17 : decode cX11_feed 17 = .ok (.invokevirtual 120, 3) := by decide +kernel
theorem dX11_feed_20 : decode cX11_feed 20 = .ok (.aload_n 0, 1) := by decide +kernel
theorem dX11_feed_21 : decode cX11_feed 21 = .ok (.getfield 10, 3) := by decide +kernel
theorem dX11_feed_24 : decode cX11_feed 24 = .ok (.iload_n 2, 1) := by decide +kernel
theorem dX11_feed_25 : decode cX11_feed 25 = .ok (.invokevirtual 120, 3) := by decide +kernel
theorem dX11_feed_28 : decode cX11_feed 28 = .ok (.aload_n 0, 1) := by decide +kernel
theorem dX11_feed_29 : decode cX11_feed 29 = .ok (.getfield 10, 3) := by decide +kernel
theorem dX11_feed_32 : decode cX11_feed 32 = .ok (.iload_n 3, 1) := by decide +kernel
theorem dX11_feed_33 : decode cX11_feed 33 = .ok (.invokevirtual 120, 3) := by decide +kernel
theorem dX11_feed_36 : decode cX11_feed 36 = .ok (.aload_n 0, 1) := by decide +kernel
theorem dX11_feed_37 : decode cX11_feed 37 = .ok (.getfield 10, 3) := by decide +kernel
theorem dX11_feed_40 : decode cX11_feed 40 = .ok (.iload 4, 2) := by decide +kernel
theorem dX11_feed_42 : decode cX11_feed 42 = .ok (.invokevirtual 120, 3) := by decide +kernel
theorem dX11_feed_45 : decode cX11_feed 45 = .ok (.aload_n 0, 1) := by decide +kernel
theorem dX11_feed_46 : decode cX11_feed 46 = .ok (.getfield 10, 3) := by decide +kernel
theorem dX11_feed_49 : decode cX11_feed 49 = .ok (.iload 5, 2) := by decide +kernel
theorem dX11_feed_51 : decode cX11_feed 51 = .ok (.invokevirtual 120, 3) := by decide +kernel
theorem dX11_feed_54 : decode cX11_feed 54 = .ok (.aload_n 0, 1) := by decide +kernel
theorem dX11_feed_55 : decode cX11_feed 55 = .ok (.getfield 10, 3) := by decide +kernel
theorem dX11_feed_58 : decode cX11_feed 58 = .ok (.getfield 124, 3) := by decide +kernel
theorem dX11_feed_61 : decode cX11_feed 61 = .ok (.ireturn, 1) := by decide +kernel
theorem dX11_back_0 : decode cX11_back 0 = .ok (.iload_n 1, 1) := by decide +kernel
theorem dX11_back_1 : decode cX11_back 1 = .ok (.iconst 0, 1) := by decide +kernel
theorem dX11_back_2 : decode cX11_back 2 = .ok (.aload_n 0, 1) := by decide +kernel
theorem dX11_back_3 : decode cX11_back 3 = .ok (.getfield 10, 3) := by decide +kernel
theorem dX11_back_6 : decode cX11_back 6 = .ok (.getfield 124, 3) := by decide +kernel
theorem dX11_back_9 : decode cX11_back 9 = .ok (.invokestatic 106, 3) := by decide +kernel
theorem dX11_back_12 : decode cX11_back 12 = .ok (.ifCond .ne 5, 3) := by decide +kernel
theorem dX11_back_15 : decode cX11_back 15 = .ok (.iconst (-1), 1) := by decide +kernel
theorem dX11_back_16 : decode cX11_back 16 = .ok (.ireturn, 1) := by decide +kernel
theorem dX11_back_17 : decode cX11_back 17 = .ok (.aload_n 0, 1) := by decide +kernel
theorem dX11_back_18 : decode cX11_back 18 = .ok (.getfield 10, 3) := by decide +kernel
theorem dX11_back_21 : decode cX11_back 21 = .ok (.dup, 1) := by decide +kernel
theorem dX11_back_22 : decode cX11_back 22 = .ok (.getfield 124, 3) := by decide +kernel
theorem dX11_back_25 : decode cX11_back 25 = .ok (.iload_n 1, 1) := by decide +kernel
theorem dX11_back_26 : decode cX11_back 26 = .ok (.isub, 1) := by decide +kernel
theorem dX11_back_27 : decode cX11_back 27 = .ok (.putfield 124, 3) := by decide +kernel
theorem dX11_back_30 : decode cX11_back 30 = .ok (.aload_n 0, 1) := by decide +kernel
theorem dX11_back_31 : decode cX11_back 31 = .ok (.getfield 10, 3) := by decide +kernel
theorem dX11_back_34 : decode cX11_back 34 = .ok (.getfield 124, 3) := by decide +kernel
theorem dX11_back_37 : decode cX11_back 37 = .ok (.ireturn, 1) := by decide +kernel
theorem dX11_read_0 : decode cX11_read 0 = .ok (.aload_n 0, 1) := by decide +kernel
theorem dX11_read_1 : decode cX11_read 1 = .ok (.getfield 19, 3) := by decide +kernel
theorem dX11_read_4 : decode cX11_read 4 = .ok (.aload_n 0, 1) := by decide +kernel
theorem dX11_read_5 : decode cX11_read 5 = .ok (.getfield 10, 3) := by decide +kernel
theorem dX11_read_8 : decode cX11_read 8 = .ok (.invokevirtual 125, 3) := by decide +kernel
theorem dX11_read_11 : decode cX11_read 11 = .ok (.aload_n 0, 1) := by decide +kernel
theorem dX11_read_12 : decode cX11_read 12 = .ok (.getfield 10, 3) := by decide +kernel
theorem dX11_read_15 : decode cX11_read 15 = .ok (.iconst 0, 1) := by decide +kernel
theorem dX11_read_16 : decode cX11_read 16 = .ok (.putfield 124, 3) := by decide +kernel
theorem dX11_read_19 : decode cX11_read 19 = .ok (.aload_n 0, 1) := by decide +kernel
theorem dX11_read_20 : decode cX11_read 20 = .ok (.getfield 38, 3) := by decide +kernel
theorem dX11_read_23 : decode cX11_read 23 = .ok (.invokevirtual 129, 3) := by decide +kernel
theorem dX11_read_26 : decode cX11_read 26 = .ok (.aload_n 0, 1) := by decide +kernel
theorem dX11_read_27 : decode cX11_read 27 = .ok (.getfield 38, 3) := by decide +kernel
theorem dX11_read_30 : decode cX11_read 30 = .ok (.invokevirtual 132, 3) := by decide +kernel
theorem dX11_read_33 : decode cX11_read 33 = .ok (.aload_n 0, 1) := by decide +kernel
theorem dX11_read_34 : decode cX11_read 34 = .ok (.getfield 38, 3) := by decide +kernel
theorem dX11_read_37 : decode cX11_read 37 = .ok (.invokevirtual 135, 3) := by decide +kernel
theorem dX11_read_40 : decode cX11_read 40 = .ok (.aload_n 0, 1) := by decide +kernel
theorem dX11_read_41 : decode cX11_read 41 = .ok (.aload_n 0, 1) := by decide +kernel
theorem dX11_read_42 : decode cX11_read 42 = .ok (.getfield 38, 3) := by decide +kernel
theorem dX11_read_45 : decode cX11_read 45 = .ok (.getfield 138, 3) := by decide +kernel
theorem dX11_read_48 : decode cX11_read 48 = .ok (.putfield 91, 3) := by decide +kernel
theorem dX11_read_51 : decode cX11_read 51 = .ok (.aload_n 0, 1) := by decide +kernel
theorem dX11_read_52 : decode cX11_read 52 = .ok (.getfield 38, 3) := by decide +kernel
theorem dX11_read_55 : decode cX11_read 55 = .ok (.getfield 139, 3) := by decide +kernel
theorem dX11_read_58 : decode cX11_read 58 = .ok (.ifCond .eq 11, 3) := by decide +kernel
theorem dX11_read_61 : decode cX11_read 61 = .ok (.aload_n 0, 1) := by decide +kernel
theorem dX11_read_62 : decode cX11_read 62 = .ok (.getfield 38, 3) := by decide +kernel
theorem dX11_read_65 : decode cX11_read 65 = .ok (.getfield 139, 3) := by decide +kernel
theorem dX11_read_68 : decode cX11_read 68 = .ok (.ireturn, 1) := by decide +kernel
theorem dX11_read_69 : decode cX11_read 69 = .ok (.aload_n 0, 1) := by decide +kernel
theorem dX11_read_70 : decode cX11_read 70 = .ok (.getfield 26, 3) := by decide +kernel
theorem dX11_read_73 : decode cX11_read 73 = .ok (.aload_n 0, 1) := by decide +kernel
theorem dX11_read_74 : decode cX11_read 74 = .ok (.getfield 30, 3) := by decide +kernel
theorem dX11_read_77 : decode cX11_read 77 = .ok (.invokevirtual 142, 3) := by decide +kernel
theorem dX11_read_80 : decode cX11_read 80 = .ok (.aload_n 0, 1) := by decide +kernel
theorem dX11_read_81 : decode cX11_read 81 = .ok (.getfield 47, 3) := by decide +kernel
theorem dX11_read_84 : decode cX11_read 84 = .ok (.invokevirtual 145, 3) := by decide +kernel
theorem dX11_read_87 : decode cX11_read 87 = .ok (.aload_n 0, 1) := by decide +kernel
theorem dX11_read_88 : decode cX11_read 88 = .ok (.getfield 54, 3) := by decide +kernel
theorem dX11_read_91 : decode cX11_read 91 = .ok (.iconst 0, 1) := by decide +kernel
theorem dX11_read_92 : decode cX11_read 92 = .ok (.putfield 113, 3) := by decide +kernel
theorem dX11_read_95 : decode cX11_read 95 = .ok (.aload_n 0, 1) := by decide +kernel
theorem dX11_read_96 : decode cX11_read 96 = .ok (.iconst 0, 1) := by decide +kernel
theorem dX11_read_97 : decode cX11_read 97 = .ok (.putfield 87, 3) := by decide +kernel
theorem dX11_read_100 : decode cX11_read 100 = .ok (.iconst 0, 1) := by decide +kernel
theorem dX11_read_101 : decode cX11_read 101 = .ok (.ireturn, 1) := by decide +kernel
theorem dX11_place_0 : decode cX11_place 0 = .ok (.aload_n 0, 1) := by decide +kernel
theorem dX11_place_1 : decode cX11_place 1 = .ok (.getfield 91, 3) := by decide +kernel
theorem dX11_place_4 : decode cX11_place 4 = .ok (.ireturn, 1) := by decide +kernel
theorem dX11_letter_0 : decode cX11_letter 0 = .ok (.aload_n 0, 1) := by decide +kernel
theorem dX11_letter_1 : decode cX11_letter 1 = .ok (.iload_n 1, 1) := by decide +kernel
theorem dX11_letter_2 : decode cX11_letter 2 = .ok (.invokevirtual 148, 3) := by decide +kernel
theorem dX11_letter_5 : decode cX11_letter 5 = .ok (.ifCond .ne 5, 3) := by decide +kernel
theorem dX11_letter_8 : decode cX11_letter 8 = .ok (.iconst (-1), 1) := by decide +kernel
theorem dX11_letter_9 : decode cX11_letter 9 = .ok (.ireturn, 1) := by decide +kernel
theorem dX11_letter_10 : decode cX11_letter 10 = .ok (.aload_n 0, 1) := by decide +kernel
theorem dX11_letter_11 : decode cX11_letter 11 = .ok (.getfield 26, 3) := by decide +kernel
theorem dX11_letter_14 : decode cX11_letter 14 = .ok (.getfield 152, 3) := by decide +kernel
theorem dX11_letter_17 : decode cX11_letter 17 = .ok (.iload_n 1, 1) := by decide +kernel
theorem dX11_letter_18 : decode cX11_letter 18 = .ok (.aaload, 1) := by decide +kernel
theorem dX11_letter_19 : decode cX11_letter 19 = .ok (.astore_n 3, 1) := by decide +kernel
theorem dX11_letter_20 : decode cX11_letter 20 = .ok (.iload_n 2, 1) := by decide +kernel
theorem dX11_letter_21 : decode cX11_letter 21 = .ok (.tableswitch 60 0 4 #[35, 40, 45, 50, 55], 35) := by decide +kernel
theorem dX11_letter_56 : decode cX11_letter 56 = .ok (.aload_n 3, 1) := by decide +kernel
theorem dX11_letter_57 : decode cX11_letter 57 = .ok (.getfield 156, 3) := by decide +kernel
theorem dX11_letter_60 : decode cX11_letter 60 = .ok (.ireturn, 1) := by decide +kernel
theorem dX11_letter_61 : decode cX11_letter 61 = .ok (.aload_n 3, 1) := by decide +kernel
theorem dX11_letter_62 : decode cX11_letter 62 = .ok (.getfield 161, 3) := by decide +kernel
theorem dX11_letter_65 : decode cX11_letter 65 = .ok (.ireturn, 1) := by decide +kernel
theorem dX11_letter_66 : decode cX11_letter 66 = .ok (.aload_n 3, 1) := by decide +kernel
theorem dX11_letter_67 : decode cX11_letter 67 = .ok (.getfield 164, 3) := by decide +kernel
theorem dX11_letter_70 : decode cX11_letter 70 = .ok (.ireturn, 1) := by decide +kernel
theorem dX11_letter_71 : decode cX11_letter 71 = .ok (.aload_n 3, 1) := by decide +kernel
theorem dX11_letter_72 : decode cX11_letter 72 = .ok (.getfield 167, 3) := by decide +kernel
theorem dX11_letter_75 : decode cX11_letter 75 = .ok (.ireturn, 1) := by decide +kernel
theorem dX11_letter_76 : decode cX11_letter 76 = .ok (.aload_n 3, 1) := by decide +kernel
theorem dX11_letter_77 : decode cX11_letter 77 = .ok (.getfield 170, 3) := by decide +kernel
theorem dX11_letter_80 : decode cX11_letter 80 = .ok (.ireturn, 1) := by decide +kernel
theorem dX11_letter_81 : decode cX11_letter 81 = .ok (.iconst (-1), 1) := by decide +kernel
theorem dX11_letter_82 : decode cX11_letter 82 = .ok (.ireturn, 1) := by decide +kernel
theorem dX11_dies_0 : decode cX11_dies 0 = .ok (.aload_n 0, 1) := by decide +kernel
theorem dX11_dies_1 : decode cX11_dies 1 = .ok (.iload_n 1, 1) := by decide +kernel
theorem dX11_dies_2 : decode cX11_dies 2 = .ok (.invokevirtual 173, 3) := by decide +kernel
theorem dX11_dies_5 : decode cX11_dies 5 = .ok (.ifCond .eq 23, 3) := by decide +kernel
theorem dX11_dies_8 : decode cX11_dies 8 = .ok (.aload_n 0, 1) := by decide +kernel
theorem dX11_dies_9 : decode cX11_dies 9 = .ok (.iload_n 2, 1) := by decide +kernel
theorem dX11_dies_10 : decode cX11_dies 10 = .ok (.invokevirtual 176, 3) := by decide +kernel
theorem dX11_dies_13 : decode cX11_dies 13 = .ok (.ifCond .eq 15, 3) := by decide +kernel
theorem dX11_dies_16 : decode cX11_dies 16 = .ok (.aload_n 0, 1) := by decide +kernel
theorem dX11_dies_17 : decode cX11_dies 17 = .ok (.getfield 47, 3) := by decide +kernel
theorem dX11_dies_20 : decode cX11_dies 20 = .ok (.iload_n 1, 1) := by decide +kernel
theorem dX11_dies_21 : decode cX11_dies 21 = .ok (.iload_n 2, 1) := by decide +kernel
theorem dX11_dies_22 : decode cX11_dies 22 = .ok (.invokevirtual 179, 3) := by decide +kernel
theorem dX11_dies_25 : decode cX11_dies 25 = .ok (.goto 4, 3) := by decide +kernel
theorem dX11_dies_28 : decode cX11_dies 28 = .ok (.iconst (-1), 1) := by decide +kernel
theorem dX11_dies_29 : decode cX11_dies 29 = .ok (.ireturn, 1) := by decide +kernel
theorem dX11_fee_0 : decode cX11_fee 0 = .ok (.aload_n 0, 1) := by decide +kernel
theorem dX11_fee_1 : decode cX11_fee 1 = .ok (.iload_n 1, 1) := by decide +kernel
theorem dX11_fee_2 : decode cX11_fee 2 = .ok (.invokevirtual 148, 3) := by decide +kernel
theorem dX11_fee_5 : decode cX11_fee 5 = .ok (.ifCond .eq 34, 3) := by decide +kernel
theorem dX11_fee_8 : decode cX11_fee 8 = .ok (.aload_n 0, 1) := by decide +kernel
theorem dX11_fee_9 : decode cX11_fee 9 = .ok (.iload_n 2, 1) := by decide +kernel
theorem dX11_fee_10 : decode cX11_fee 10 = .ok (.invokevirtual 176, 3) := by decide +kernel
theorem dX11_fee_13 : decode cX11_fee 13 = .ok (.ifCond .eq 26, 3) := by decide +kernel
theorem dX11_fee_16 : decode cX11_fee 16 = .ok (.aload_n 0, 1) := by decide +kernel
theorem dX11_fee_17 : decode cX11_fee 17 = .ok (.getfield 47, 3) := by decide +kernel
theorem dX11_fee_20 : decode cX11_fee 20 = .ok (.aload_n 0, 1) := by decide +kernel
theorem dX11_fee_21 : decode cX11_fee 21 = .ok (.getfield 26, 3) := by decide +kernel
theorem dX11_fee_24 : decode cX11_fee 24 = .ok (.getfield 152, 3) := by decide +kernel
theorem dX11_fee_27 : decode cX11_fee 27 = .ok (.iload_n 1, 1) := by decide +kernel
theorem dX11_fee_28 : decode cX11_fee 28 = .ok (.aaload, 1) := by decide +kernel
theorem dX11_fee_29 : decode cX11_fee 29 = .ok (.getfield 164, 3) := by decide +kernel
theorem dX11_fee_32 : decode cX11_fee 32 = .ok (.iload_n 2, 1) := by decide +kernel
theorem dX11_fee_33 : decode cX11_fee 33 = .ok (.invokevirtual 182, 3) := by decide +kernel
theorem dX11_fee_36 : decode cX11_fee 36 = .ok (.goto 4, 3) := by decide +kernel
theorem dX11_fee_39 : decode cX11_fee 39 = .ok (.iconst (-1), 1) := by decide +kernel
theorem dX11_fee_40 : decode cX11_fee 40 = .ok (.ireturn, 1) := by decide +kernel
theorem dX11_clerk_0 : decode cX11_clerk 0 = .ok (.aload_n 0, 1) := by decide +kernel
theorem dX11_clerk_1 : decode cX11_clerk 1 = .ok (.iload_n 1, 1) := by decide +kernel
theorem dX11_clerk_2 : decode cX11_clerk 2 = .ok (.invokevirtual 176, 3) := by decide +kernel
theorem dX11_clerk_5 : decode cX11_clerk 5 = .ok (.ifCond .eq 14, 3) := by decide +kernel
theorem dX11_clerk_8 : decode cX11_clerk 8 = .ok (.aload_n 0, 1) := by decide +kernel
theorem dX11_clerk_9 : decode cX11_clerk 9 = .ok (.getfield 26, 3) := by decide +kernel
theorem dX11_clerk_12 : decode cX11_clerk 12 = .ok (.iload_n 1, 1) := by decide +kernel
theorem dX11_clerk_13 : decode cX11_clerk 13 = .ok (.invokevirtual 185, 3) := by decide +kernel
theorem dX11_clerk_16 : decode cX11_clerk 16 = .ok (.goto 4, 3) := by decide +kernel
theorem dX11_clerk_19 : decode cX11_clerk 19 = .ok (.iconst (-1), 1) := by decide +kernel
theorem dX11_clerk_20 : decode cX11_clerk 20 = .ok (.ireturn, 1) := by decide +kernel
theorem dX11_barred_0 : decode cX11_barred 0 = .ok (.iload_n 1, 1) := by decide +kernel
theorem dX11_barred_1 : decode cX11_barred 1 = .ok (.iconst 0, 1) := by decide +kernel
theorem dX11_barred_2 : decode cX11_barred 2 = .ok (.aload_n 0, 1) := by decide +kernel
theorem dX11_barred_3 : decode cX11_barred 3 = .ok (.getfield 26, 3) := by decide +kernel
theorem dX11_barred_6 : decode cX11_barred 6 = .ok (.getfield 189, 3) := by decide +kernel
theorem dX11_barred_9 : decode cX11_barred 9 = .ok (.iconst 1, 1) := by decide +kernel
theorem dX11_barred_10 : decode cX11_barred 10 = .ok (.isub, 1) := by decide +kernel
theorem dX11_barred_11 : decode cX11_barred 11 = .ok (.invokestatic 106, 3) := by decide +kernel
theorem dX11_barred_14 : decode cX11_barred 14 = .ok (.ifCond .eq 11, 3) := by decide +kernel
theorem dX11_barred_17 : decode cX11_barred 17 = .ok (.aload_n 0, 1) := by decide +kernel
theorem dX11_barred_18 : decode cX11_barred 18 = .ok (.iload_n 2, 1) := by decide +kernel
theorem dX11_barred_19 : decode cX11_barred 19 = .ok (.invokevirtual 173, 3) := by decide +kernel
theorem dX11_barred_22 : decode cX11_barred 22 = .ok (.ifCond .ne 5, 3) := by decide +kernel
theorem dX11_barred_25 : decode cX11_barred 25 = .ok (.iconst (-1), 1) := by decide +kernel
theorem dX11_barred_26 : decode cX11_barred 26 = .ok (.ireturn, 1) := by decide +kernel
theorem dX11_barred_27 : decode cX11_barred 27 = .ok (.aload_n 0, 1) := by decide +kernel
theorem dX11_barred_28 : decode cX11_barred 28 = .ok (.getfield 26, 3) := by decide +kernel
theorem dX11_barred_31 : decode cX11_barred 31 = .ok (.getfield 192, 3) := by decide +kernel
theorem dX11_barred_34 : decode cX11_barred 34 = .ok (.iload_n 1, 1) := by decide +kernel
theorem dX11_barred_35 : decode cX11_barred 35 = .ok (.iaload, 1) := by decide +kernel
theorem dX11_barred_36 : decode cX11_barred 36 = .ok (.iload_n 2, 1) := by decide +kernel
theorem dX11_barred_37 : decode cX11_barred 37 = .ok (.invokestatic 196, 3) := by decide +kernel
theorem dX11_barred_40 : decode cX11_barred 40 = .ok (.ifCond .eq 7, 3) := by decide +kernel
theorem dX11_barred_43 : decode cX11_barred 43 = .ok (.iconst 1, 1) := by decide +kernel
theorem dX11_barred_44 : decode cX11_barred 44 = .ok (.goto 4, 3) := by decide +kernel
theorem dX11_barred_47 : decode cX11_barred 47 = .ok (.iconst 0, 1) := by decide +kernel
theorem dX11_barred_48 : decode cX11_barred 48 = .ok (.ireturn, 1) := by decide +kernel
theorem dX11_rumour_0 : decode cX11_rumour 0 = .ok (.aload_n 0, 1) := by decide +kernel
theorem dX11_rumour_1 : decode cX11_rumour 1 = .ok (.iload_n 1, 1) := by decide +kernel
theorem dX11_rumour_2 : decode cX11_rumour 2 = .ok (.invokevirtual 176, 3) := by decide +kernel
theorem dX11_rumour_5 : decode cX11_rumour 5 = .ok (.ifCond .eq 25, 3) := by decide +kernel
theorem dX11_rumour_8 : decode cX11_rumour 8 = .ok (.aload_n 0, 1) := by decide +kernel
theorem dX11_rumour_9 : decode cX11_rumour 9 = .ok (.iload_n 2, 1) := by decide +kernel
theorem dX11_rumour_10 : decode cX11_rumour 10 = .ok (.invokevirtual 173, 3) := by decide +kernel
theorem dX11_rumour_13 : decode cX11_rumour 13 = .ok (.ifCond .eq 17, 3) := by decide +kernel
theorem dX11_rumour_16 : decode cX11_rumour 16 = .ok (.iload_n 3, 1) := by decide +kernel
theorem dX11_rumour_17 : decode cX11_rumour 17 = .ok (.iconst 1, 1) := by decide +kernel
theorem dX11_rumour_18 : decode cX11_rumour 18 = .ok (.bipush 20, 2) := by decide +kernel
theorem dX11_rumour_20 : decode cX11_rumour 20 = .ok (.invokestatic 106, 3) := by decide +kernel
theorem dX11_rumour_23 : decode cX11_rumour 23 = .ok (.ifCond .eq 7, 3) := by decide +kernel
theorem dX11_rumour_26 : decode cX11_rumour 26 = .ok (.iconst 1, 1) := by decide +kernel
theorem dX11_rumour_27 : decode cX11_rumour 27 = .ok (.goto 4, 3) := by decide +kernel
theorem dX11_rumour_30 : decode cX11_rumour 30 = .ok (.iconst 0, 1) := by decide +kernel
theorem dX11_rumour_31 : decode cX11_rumour 31 = .ok (.istore 4, 2) := by decide +kernel
theorem dX11_rumour_33 : decode cX11_rumour 33 = .ok (.iload 4, 2) := by decide +kernel
theorem dX11_rumour_35 : decode cX11_rumour 35 = .ok (.ifCond .eq 17, 3) := by decide +kernel
theorem dX11_rumour_38 : decode cX11_rumour 38 = .ok (.aload_n 0, 1) := by decide +kernel
theorem dX11_rumour_39 : decode cX11_rumour 39 = .ok (.getfield 54, 3) := by decide +kernel
theorem dX11_rumour_42 : decode cX11_rumour 42 = .ok (.iconst 0, 1) := by decide +kernel
theorem dX11_rumour_43 : decode cX11_rumour 43 = .ok (.iload_n 1, 1) := by decide +kernel
theorem dX11_rumour_44 : decode cX11_rumour 44 = .ok (.iload_n 2, 1) := by decide +kernel
theorem dX11_rumour_45 : decode cX11_rumour 45 = .ok (.iload_n 3, 1) := by decide +kernel
theorem dX11_rumour_46 : decode cX11_rumour 46 = .ok (.invokevirtual 200, 3) := by decide +kernel
theorem dX11_rumour_49 : decode cX11_rumour 49 = .ok (.goto 4, 3) := by decide +kernel
theorem dX11_rumour_52 : decode cX11_rumour 52 = .ok (.iconst (-1), 1) := by decide +kernel
theorem dX11_rumour_53 : decode cX11_rumour 53 = .ok (.ireturn, 1) := by decide +kernel
theorem dX11_death_0 : decode cX11_death 0 = .ok (.aload_n 0, 1) := by decide +kernel
theorem dX11_death_1 : decode cX11_death 1 = .ok (.iload_n 1, 1) := by decide +kernel
theorem dX11_death_2 : decode cX11_death 2 = .ok (.invokevirtual 176, 3) := by decide +kernel
theorem dX11_death_5 : decode cX11_death 5 = .ok (.ifCond .eq 25, 3) := by decide +kernel
theorem dX11_death_8 : decode cX11_death 8 = .ok (.aload_n 0, 1) := by decide +kernel
theorem dX11_death_9 : decode cX11_death 9 = .ok (.iload_n 2, 1) := by decide +kernel
theorem dX11_death_10 : decode cX11_death 10 = .ok (.invokevirtual 173, 3) := by decide +kernel
theorem dX11_death_13 : decode cX11_death 13 = .ok (.ifCond .eq 17, 3) := by decide +kernel
theorem dX11_death_16 : decode cX11_death 16 = .ok (.aload_n 0, 1) := by decide +kernel
theorem dX11_death_17 : decode cX11_death 17 = .ok (.getfield 54, 3) := by decide +kernel
theorem dX11_death_20 : decode cX11_death 20 = .ok (.iconst 1, 1) := by decide +kernel
theorem dX11_death_21 : decode cX11_death 21 = .ok (.iload_n 1, 1) := by decide +kernel
theorem dX11_death_22 : decode cX11_death 22 = .ok (.iload_n 2, 1) := by decide +kernel
theorem dX11_death_23 : decode cX11_death 23 = .ok (.iconst (-1), 1) := by decide +kernel
theorem dX11_death_24 : decode cX11_death 24 = .ok (.invokevirtual 200, 3) := by decide +kernel
theorem dX11_death_27 : decode cX11_death 27 = .ok (.goto 4, 3) := by decide +kernel
theorem dX11_death_30 : decode cX11_death 30 = .ok (.iconst (-1), 1) := by decide +kernel
theorem dX11_death_31 : decode cX11_death 31 = .ok (.ireturn, 1) := by decide +kernel
theorem dX11_takeBack_0 : decode cX11_takeBack 0 = .ok (.aload_n 0, 1) := by decide +kernel
theorem dX11_takeBack_1 : decode cX11_takeBack 1 = .ok (.iload_n 1, 1) := by decide +kernel
theorem dX11_takeBack_2 : decode cX11_takeBack 2 = .ok (.invokevirtual 176, 3) := by decide +kernel
theorem dX11_takeBack_5 : decode cX11_takeBack 5 = .ok (.ifCond .eq 25, 3) := by decide +kernel
theorem dX11_takeBack_8 : decode cX11_takeBack 8 = .ok (.aload_n 0, 1) := by decide +kernel
theorem dX11_takeBack_9 : decode cX11_takeBack 9 = .ok (.iload_n 2, 1) := by decide +kernel
theorem dX11_takeBack_10 : decode cX11_takeBack 10 = .ok (.invokevirtual 148, 3) := by decide +kernel
theorem dX11_takeBack_13 : decode cX11_takeBack 13 = .ok (.ifCond .eq 17, 3) := by decide +kernel
theorem dX11_takeBack_16 : decode cX11_takeBack 16 = .ok (.aload_n 0, 1) := by decide +kernel
theorem dX11_takeBack_17 : decode cX11_takeBack 17 = .ok (.getfield 54, 3) := by decide +kernel
theorem dX11_takeBack_20 : decode cX11_takeBack 20 = .ok (.iconst 2, 1) := by decide +kernel
theorem dX11_takeBack_21 : decode cX11_takeBack 21 = .ok (.iload_n 1, 1) := by decide +kernel
theorem dX11_takeBack_22 : decode cX11_takeBack 22 = .ok (.iload_n 2, 1) := by decide +kernel
theorem dX11_takeBack_23 : decode cX11_takeBack 23 = .ok (.iconst (-1), 1) := by decide +kernel
theorem dX11_takeBack_24 : decode cX11_takeBack 24 = .ok (.invokevirtual 200, 3) := by decide +kernel
theorem dX11_takeBack_27 : decode cX11_takeBack 27 = .ok (.goto 4, 3) := by decide +kernel
theorem dX11_takeBack_30 : decode cX11_takeBack 30 = .ok (.iconst (-1), 1) := by decide +kernel
theorem dX11_takeBack_31 : decode cX11_takeBack 31 = .ok (.ireturn, 1) := by decide +kernel
theorem dX11_early_0 : decode cX11_early 0 = .ok (.aload_n 0, 1) := by decide +kernel
theorem dX11_early_1 : decode cX11_early 1 = .ok (.iload_n 1, 1) := by decide +kernel
theorem dX11_early_2 : decode cX11_early 2 = .ok (.invokevirtual 176, 3) := by decide +kernel
theorem dX11_early_5 : decode cX11_early 5 = .ok (.ifCond .eq 25, 3) := by decide +kernel
theorem dX11_early_8 : decode cX11_early 8 = .ok (.aload_n 0, 1) := by decide +kernel
theorem dX11_early_9 : decode cX11_early 9 = .ok (.iload_n 2, 1) := by decide +kernel
theorem dX11_early_10 : decode cX11_early 10 = .ok (.invokevirtual 148, 3) := by decide +kernel
theorem dX11_early_13 : decode cX11_early 13 = .ok (.ifCond .eq 17, 3) := by decide +kernel
theorem dX11_early_16 : decode cX11_early 16 = .ok (.aload_n 0, 1) := by decide +kernel
theorem dX11_early_17 : decode cX11_early 17 = .ok (.getfield 54, 3) := by decide +kernel
theorem dX11_early_20 : decode cX11_early 20 = .ok (.iconst 3, 1) := by decide +kernel
theorem dX11_early_21 : decode cX11_early 21 = .ok (.iload_n 1, 1) := by decide +kernel
theorem dX11_early_22 : decode cX11_early 22 = .ok (.iload_n 2, 1) := by decide +kernel
theorem dX11_early_23 : decode cX11_early 23 = .ok (.iconst (-1), 1) := by decide +kernel
theorem dX11_early_24 : decode cX11_early 24 = .ok (.invokevirtual 200, 3) := by decide +kernel
theorem dX11_early_27 : decode cX11_early 27 = .ok (.goto 4, 3) := by decide +kernel
theorem dX11_early_30 : decode cX11_early 30 = .ok (.iconst (-1), 1) := by decide +kernel
theorem dX11_early_31 : decode cX11_early 31 = .ok (.ireturn, 1) := by decide +kernel
theorem dX11_date_0 : decode cX11_date 0 = .ok (.aload_n 0, 1) := by decide +kernel
theorem dX11_date_1 : decode cX11_date 1 = .ok (.iload_n 1, 1) := by decide +kernel
theorem dX11_date_2 : decode cX11_date 2 = .ok (.invokevirtual 176, 3) := by decide +kernel
theorem dX11_date_5 : decode cX11_date 5 = .ok (.ifCond .eq 33, 3) := by decide +kernel
theorem dX11_date_8 : decode cX11_date 8 = .ok (.aload_n 0, 1) := by decide +kernel
theorem dX11_date_9 : decode cX11_date 9 = .ok (.iload_n 2, 1) := by decide +kernel
theorem dX11_date_10 : decode cX11_date 10 = .ok (.invokevirtual 148, 3) := by decide +kernel
theorem dX11_date_13 : decode cX11_date 13 = .ok (.ifCond .eq 25, 3) := by decide +kernel
theorem dX11_date_16 : decode cX11_date 16 = .ok (.aload_n 0, 1) := by decide +kernel
theorem dX11_date_17 : decode cX11_date 17 = .ok (.iload_n 3, 1) := by decide +kernel
theorem dX11_date_18 : decode cX11_date 18 = .ok (.invokevirtual 176, 3) := by decide +kernel
theorem dX11_date_21 : decode cX11_date 21 = .ok (.ifCond .eq 17, 3) := by decide +kernel
theorem dX11_date_24 : decode cX11_date 24 = .ok (.aload_n 0, 1) := by decide +kernel
theorem dX11_date_25 : decode cX11_date 25 = .ok (.getfield 54, 3) := by decide +kernel
theorem dX11_date_28 : decode cX11_date 28 = .ok (.iconst 4, 1) := by decide +kernel
theorem dX11_date_29 : decode cX11_date 29 = .ok (.iload_n 1, 1) := by decide +kernel
theorem dX11_date_30 : decode cX11_date 30 = .ok (.iload_n 2, 1) := by decide +kernel
theorem dX11_date_31 : decode cX11_date 31 = .ok (.iload_n 3, 1) := by decide +kernel
theorem dX11_date_32 : decode cX11_date 32 = .ok (.invokevirtual 200, 3) := by decide +kernel
theorem dX11_date_35 : decode cX11_date 35 = .ok (.goto 4, 3) := by decide +kernel
theorem dX11_date_38 : decode cX11_date 38 = .ok (.iconst (-1), 1) := by decide +kernel
theorem dX11_date_39 : decode cX11_date 39 = .ok (.ireturn, 1) := by decide +kernel
theorem dX11_flood_0 : decode cX11_flood 0 = .ok (.aload_n 0, 1) := by decide +kernel
theorem dX11_flood_1 : decode cX11_flood 1 = .ok (.iload_n 1, 1) := by decide +kernel
theorem dX11_flood_2 : decode cX11_flood 2 = .ok (.invokevirtual 176, 3) := by decide +kernel
theorem dX11_flood_5 : decode cX11_flood 5 = .ok (.ifCond .eq 26, 3) := by decide +kernel
theorem dX11_flood_8 : decode cX11_flood 8 = .ok (.iload_n 2, 1) := by decide +kernel
theorem dX11_flood_9 : decode cX11_flood 9 = .ok (.iconst 0, 1) := by decide +kernel
theorem dX11_flood_10 : decode cX11_flood 10 = .ok (.iconst 3, 1) := by decide +kernel
theorem dX11_flood_11 : decode cX11_flood 11 = .ok (.invokestatic 106, 3) := by decide +kernel
theorem dX11_flood_14 : decode cX11_flood 14 = .ok (.ifCond .eq 17, 3) := by decide +kernel
theorem dX11_flood_17 : decode cX11_flood 17 = .ok (.aload_n 0, 1) := by decide +kernel
theorem dX11_flood_18 : decode cX11_flood 18 = .ok (.getfield 54, 3) := by decide +kernel
theorem dX11_flood_21 : decode cX11_flood 21 = .ok (.iconst 5, 1) := by decide +kernel
theorem dX11_flood_22 : decode cX11_flood 22 = .ok (.iload_n 1, 1) := by decide +kernel
theorem dX11_flood_23 : decode cX11_flood 23 = .ok (.iload_n 2, 1) := by decide +kernel
theorem dX11_flood_24 : decode cX11_flood 24 = .ok (.iconst (-1), 1) := by decide +kernel
theorem dX11_flood_25 : decode cX11_flood 25 = .ok (.invokevirtual 200, 3) := by decide +kernel
theorem dX11_flood_28 : decode cX11_flood 28 = .ok (.goto 4, 3) := by decide +kernel
theorem dX11_flood_31 : decode cX11_flood 31 = .ok (.iconst (-1), 1) := by decide +kernel
theorem dX11_flood_32 : decode cX11_flood 32 = .ok (.ireturn, 1) := by decide +kernel
theorem dX11_annul_0 : decode cX11_annul 0 = .ok (.iload_n 1, 1) := by decide +kernel
theorem dX11_annul_1 : decode cX11_annul 1 = .ok (.iconst 0, 1) := by decide +kernel
theorem dX11_annul_2 : decode cX11_annul 2 = .ok (.aload_n 0, 1) := by decide +kernel
theorem dX11_annul_3 : decode cX11_annul 3 = .ok (.getfield 54, 3) := by decide +kernel
theorem dX11_annul_6 : decode cX11_annul 6 = .ok (.getfield 113, 3) := by decide +kernel
theorem dX11_annul_9 : decode cX11_annul 9 = .ok (.iconst 1, 1) := by decide +kernel
theorem dX11_annul_10 : decode cX11_annul 10 = .ok (.isub, 1) := by decide +kernel
theorem dX11_annul_11 : decode cX11_annul 11 = .ok (.invokestatic 106, 3) := by decide +kernel
theorem dX11_annul_14 : decode cX11_annul 14 = .ok (.ifCond .eq 17, 3) := by decide +kernel
theorem dX11_annul_17 : decode cX11_annul 17 = .ok (.aload_n 0, 1) := by decide +kernel
theorem dX11_annul_18 : decode cX11_annul 18 = .ok (.getfield 54, 3) := by decide +kernel
theorem dX11_annul_21 : decode cX11_annul 21 = .ok (.getfield 203, 3) := by decide +kernel
theorem dX11_annul_24 : decode cX11_annul 24 = .ok (.iload_n 1, 1) := by decide +kernel
theorem dX11_annul_25 : decode cX11_annul 25 = .ok (.iaload, 1) := by decide +kernel
theorem dX11_annul_26 : decode cX11_annul 26 = .ok (.bipush 6, 2) := by decide +kernel
theorem dX11_annul_28 : decode cX11_annul 28 = .ok (.if_icmp .ne 5, 3) := by decide +kernel
theorem dX11_annul_31 : decode cX11_annul 31 = .ok (.iconst (-1), 1) := by decide +kernel
theorem dX11_annul_32 : decode cX11_annul 32 = .ok (.ireturn, 1) := by decide +kernel
theorem dX11_annul_33 : decode cX11_annul 33 = .ok (.aload_n 0, 1) := by decide +kernel
theorem dX11_annul_34 : decode cX11_annul 34 = .ok (.getfield 54, 3) := by decide +kernel
theorem dX11_annul_37 : decode cX11_annul 37 = .ok (.bipush 6, 2) := by decide +kernel
theorem dX11_annul_39 : decode cX11_annul 39 = .ok (.iconst (-1), 1) := by decide +kernel
theorem dX11_annul_40 : decode cX11_annul 40 = .ok (.iload_n 1, 1) := by decide +kernel
theorem dX11_annul_41 : decode cX11_annul 41 = .ok (.iconst (-1), 1) := by decide +kernel
theorem dX11_annul_42 : decode cX11_annul 42 = .ok (.invokevirtual 200, 3) := by decide +kernel
theorem dX11_annul_45 : decode cX11_annul 45 = .ok (.ireturn, 1) := by decide +kernel
theorem dX11_fact_0 : decode cX11_fact 0 = .ok (.iload_n 1, 1) := by decide +kernel
theorem dX11_fact_1 : decode cX11_fact 1 = .ok (.iconst 0, 1) := by decide +kernel
theorem dX11_fact_2 : decode cX11_fact 2 = .ok (.aload_n 0, 1) := by decide +kernel
theorem dX11_fact_3 : decode cX11_fact 3 = .ok (.getfield 54, 3) := by decide +kernel
theorem dX11_fact_6 : decode cX11_fact 6 = .ok (.getfield 113, 3) := by decide +kernel
theorem dX11_fact_9 : decode cX11_fact 9 = .ok (.iconst 1, 1) := by decide +kernel
theorem dX11_fact_10 : decode cX11_fact 10 = .ok (.isub, 1) := by decide +kernel
theorem dX11_fact_11 : decode cX11_fact 11 = .ok (.invokestatic 106, 3) := by decide +kernel
theorem dX11_fact_14 : decode cX11_fact 14 = .ok (.ifCond .ne 5, 3) := by decide +kernel
theorem dX11_fact_17 : decode cX11_fact 17 = .ok (.iconst (-1), 1) := by decide +kernel
theorem dX11_fact_18 : decode cX11_fact 18 = .ok (.ireturn, 1) := by decide +kernel
theorem dX11_fact_19 : decode cX11_fact 19 = .ok (.iload_n 2, 1) := by decide +kernel
theorem dX11_fact_20 : decode cX11_fact 20 = .ok (.tableswitch 72 0 3 #[32, 42, 52, 62], 32) := by decide +kernel
theorem dX11_fact_52 : decode cX11_fact 52 = .ok (.aload_n 0, 1) := by decide +kernel
theorem dX11_fact_53 : decode cX11_fact 53 = .ok (.getfield 54, 3) := by decide +kernel
theorem dX11_fact_56 : decode cX11_fact 56 = .ok (.getfield 203, 3) := by decide +kernel
theorem dX11_fact_59 : decode cX11_fact 59 = .ok (.iload_n 1, 1) := by decide +kernel
theorem dX11_fact_60 : decode cX11_fact 60 = .ok (.iaload, 1) := by decide +kernel
theorem dX11_fact_61 : decode cX11_fact 61 = .ok (.ireturn, 1) := by decide +kernel
theorem dX11_fact_62 : decode cX11_fact 62 = .ok (.aload_n 0, 1) := by decide +kernel
theorem dX11_fact_63 : decode cX11_fact 63 = .ok (.getfield 54, 3) := by decide +kernel
theorem dX11_fact_66 : decode cX11_fact 66 = .ok (.getfield 206, 3) := by decide +kernel
theorem dX11_fact_69 : decode cX11_fact 69 = .ok (.iload_n 1, 1) := by decide +kernel
theorem dX11_fact_70 : decode cX11_fact 70 = .ok (.iaload, 1) := by decide +kernel
theorem dX11_fact_71 : decode cX11_fact 71 = .ok (.ireturn, 1) := by decide +kernel
theorem dX11_fact_72 : decode cX11_fact 72 = .ok (.aload_n 0, 1) := by decide +kernel
theorem dX11_fact_73 : decode cX11_fact 73 = .ok (.getfield 54, 3) := by decide +kernel
theorem dX11_fact_76 : decode cX11_fact 76 = .ok (.getfield 209, 3) := by decide +kernel
theorem dX11_fact_79 : decode cX11_fact 79 = .ok (.iload_n 1, 1) := by decide +kernel
theorem dX11_fact_80 : decode cX11_fact 80 = .ok (.iaload, 1) := by decide +kernel
theorem dX11_fact_81 : decode cX11_fact 81 = .ok (.ireturn, 1) := by decide +kernel
theorem dX11_fact_82 : decode cX11_fact 82 = .ok (.aload_n 0, 1) := by decide +kernel
theorem dX11_fact_83 : decode cX11_fact 83 = .ok (.getfield 54, 3) := by decide +kernel
theorem dX11_fact_86 : decode cX11_fact 86 = .ok (.getfield 212, 3) := by decide +kernel
theorem dX11_fact_89 : decode cX11_fact 89 = .ok (.iload_n 1, 1) := by decide +kernel
theorem dX11_fact_90 : decode cX11_fact 90 = .ok (.iaload, 1) := by decide +kernel
theorem dX11_fact_91 : decode cX11_fact 91 = .ok (.ireturn, 1) := by decide +kernel
theorem dX11_fact_92 : decode cX11_fact 92 = .ok (.iconst (-1), 1) := by decide +kernel
theorem dX11_fact_93 : decode cX11_fact 93 = .ok (.ireturn, 1) := by decide +kernel
theorem dX11_weighs_0 : decode cX11_weighs 0 = .ok (.aload_n 0, 1) := by decide +kernel
theorem dX11_weighs_1 : decode cX11_weighs 1 = .ok (.iload_n 1, 1) := by decide +kernel
theorem dX11_weighs_2 : decode cX11_weighs 2 = .ok (.invokevirtual 173, 3) := by decide +kernel
theorem dX11_weighs_5 : decode cX11_weighs 5 = .ok (.ifCond .eq 32, 3) := by decide +kernel
theorem dX11_weighs_8 : decode cX11_weighs 8 = .ok (.aload_n 0, 1) := by decide +kernel
theorem dX11_weighs_9 : decode cX11_weighs 9 = .ok (.iload_n 2, 1) := by decide +kernel
theorem dX11_weighs_10 : decode cX11_weighs 10 = .ok (.invokevirtual 176, 3) := by decide +kernel
theorem dX11_weighs_13 : decode cX11_weighs 13 = .ok (.ifCond .eq 24, 3) := by decide +kernel
theorem dX11_weighs_16 : decode cX11_weighs 16 = .ok (.aload_n 0, 1) := by decide +kernel
theorem dX11_weighs_17 : decode cX11_weighs 17 = .ok (.iload_n 3, 1) := by decide +kernel
theorem dX11_weighs_18 : decode cX11_weighs 18 = .ok (.invokevirtual 215, 3) := by decide +kernel
theorem dX11_weighs_21 : decode cX11_weighs 21 = .ok (.ifCond .eq 16, 3) := by decide +kernel
theorem dX11_weighs_24 : decode cX11_weighs 24 = .ok (.aload_n 0, 1) := by decide +kernel
theorem dX11_weighs_25 : decode cX11_weighs 25 = .ok (.getfield 54, 3) := by decide +kernel
theorem dX11_weighs_28 : decode cX11_weighs 28 = .ok (.iload_n 1, 1) := by decide +kernel
theorem dX11_weighs_29 : decode cX11_weighs 29 = .ok (.iload_n 2, 1) := by decide +kernel
theorem dX11_weighs_30 : decode cX11_weighs 30 = .ok (.iload_n 3, 1) := by decide +kernel
theorem dX11_weighs_31 : decode cX11_weighs 31 = .ok (.invokevirtual 218, 3) := by decide +kernel
theorem dX11_weighs_34 : decode cX11_weighs 34 = .ok (.goto 4, 3) := by decide +kernel
theorem dX11_weighs_37 : decode cX11_weighs 37 = .ok (.iconst (-1), 1) := by decide +kernel
theorem dX11_weighs_38 : decode cX11_weighs 38 = .ok (.ireturn, 1) := by decide +kernel
theorem dX11_run_0 : decode cX11_run 0 = .ok (.aload_n 0, 1) := by decide +kernel
theorem dX11_run_1 : decode cX11_run 1 = .ok (.iload_n 1, 1) := by decide +kernel
theorem dX11_run_2 : decode cX11_run 2 = .ok (.invokevirtual 148, 3) := by decide +kernel
theorem dX11_run_5 : decode cX11_run 5 = .ok (.ifCond .eq 29, 3) := by decide +kernel
theorem dX11_run_8 : decode cX11_run 8 = .ok (.aload_n 0, 1) := by decide +kernel
theorem dX11_run_9 : decode cX11_run 9 = .ok (.iload_n 2, 1) := by decide +kernel
theorem dX11_run_10 : decode cX11_run 10 = .ok (.invokevirtual 215, 3) := by decide +kernel
theorem dX11_run_13 : decode cX11_run 13 = .ok (.ifCond .eq 21, 3) := by decide +kernel
theorem dX11_run_16 : decode cX11_run 16 = .ok (.aload_n 0, 1) := by decide +kernel
theorem dX11_run_17 : decode cX11_run 17 = .ok (.iload_n 3, 1) := by decide +kernel
theorem dX11_run_18 : decode cX11_run 18 = .ok (.invokevirtual 222, 3) := by decide +kernel
theorem dX11_run_21 : decode cX11_run 21 = .ok (.ifCond .eq 13, 3) := by decide +kernel
theorem dX11_run_24 : decode cX11_run 24 = .ok (.iload 4, 2) := by decide +kernel
theorem dX11_run_26 : decode cX11_run 26 = .ok (.iconst 0, 1) := by decide +kernel
theorem dX11_run_27 : decode cX11_run 27 = .ok (.iconst 2, 1) := by decide +kernel
theorem dX11_run_28 : decode cX11_run 28 = .ok (.invokestatic 106, 3) := by decide +kernel
theorem dX11_run_31 : decode cX11_run 31 = .ok (.ifCond .ne 5, 3) := by decide +kernel
theorem dX11_run_34 : decode cX11_run 34 = .ok (.iconst (-1), 1) := by decide +kernel
theorem dX11_run_35 : decode cX11_run 35 = .ok (.ireturn, 1) := by decide +kernel
theorem dX11_run_36 : decode cX11_run 36 = .ok (.aload_n 0, 1) := by decide +kernel
theorem dX11_run_37 : decode cX11_run 37 = .ok (.getfield 67, 3) := by decide +kernel
theorem dX11_run_40 : decode cX11_run 40 = .ok (.iload_n 2, 1) := by decide +kernel
theorem dX11_run_41 : decode cX11_run 41 = .ok (.iload_n 3, 1) := by decide +kernel
theorem dX11_run_42 : decode cX11_run 42 = .ok (.bipush 59, 2) := by decide +kernel
theorem dX11_run_44 : decode cX11_run 44 = .ok (.invokevirtual 225, 3) := by decide +kernel
theorem dX11_run_47 : decode cX11_run 47 = .ok (.astore 5, 2) := by decide +kernel
theorem dX11_run_49 : decode cX11_run 49 = .ok (.iload 4, 2) := by decide +kernel
theorem dX11_run_51 : decode cX11_run 51 = .ok (.lookupswitch 56 #[(0, 25), (1, 33)], 25) := by decide +kernel
theorem dX11_run_76 : decode cX11_run 76 = .ok (.aload 5, 2) := by decide +kernel
theorem dX11_run_78 : decode cX11_run 78 = .ok (.getfield 229, 3) := by decide +kernel
theorem dX11_run_81 : decode cX11_run 81 = .ok (.iload_n 1, 1) := by decide +kernel
theorem dX11_run_82 : decode cX11_run 82 = .ok (.iaload, 1) := by decide +kernel
theorem dX11_run_83 : decode cX11_run 83 = .ok (.ireturn, 1) := by decide +kernel
theorem dX11_run_84 : decode cX11_run 84 = .ok (.aload 5, 2) := by decide +kernel
theorem dX11_run_86 : decode cX11_run 86 = .ok (.getfield 229, 3) := by decide +kernel
theorem dX11_run_89 : decode cX11_run 89 = .ok (.iload_n 1, 1) := by decide +kernel
theorem dX11_run_90 : decode cX11_run 90 = .ok (.iaload, 1) := by decide +kernel
theorem dX11_run_91 : decode cX11_run 91 = .ok (.ifCond .ne 8, 3) := by decide +kernel
theorem dX11_run_94 : decode cX11_run 94 = .ok (.bipush (-2), 2) := by decide +kernel
theorem dX11_run_96 : decode cX11_run 96 = .ok (.goto 10, 3) := by decide +kernel
theorem dX11_run_99 : decode cX11_run 99 = .ok (.aload 5, 2) := by decide +kernel
theorem dX11_run_101 : decode cX11_run 101 = .ok (.getfield 234, 3) := by decide +kernel
theorem dX11_run_104 : decode cX11_run 104 = .ok (.iload_n 1, 1) := by decide +kernel
theorem dX11_run_105 : decode cX11_run 105 = .ok (.iaload, 1) := by decide +kernel
theorem dX11_run_106 : decode cX11_run 106 = .ok (.ireturn, 1) := by decide +kernel
theorem dX11_run_107 : decode cX11_run 107 = .ok (.aload 5, 2) := by decide +kernel
theorem dX11_run_109 : decode cX11_run 109 = .ok (.getfield 237, 3) := by decide +kernel
theorem dX11_run_112 : decode cX11_run 112 = .ok (.iload_n 1, 1) := by decide +kernel
theorem dX11_run_113 : decode cX11_run 113 = .ok (.iaload, 1) := by decide +kernel
theorem dX11_run_114 : decode cX11_run 114 = .ok (.ireturn, 1) := by decide +kernel
theorem dX11_opened_0 : decode cX11_opened 0 = .ok (.aload_n 0, 1) := by decide +kernel
theorem dX11_opened_1 : decode cX11_opened 1 = .ok (.iload_n 1, 1) := by decide +kernel
theorem dX11_opened_2 : decode cX11_opened 2 = .ok (.invokevirtual 176, 3) := by decide +kernel
theorem dX11_opened_5 : decode cX11_opened 5 = .ok (.ifCond .eq 15, 3) := by decide +kernel
theorem dX11_opened_8 : decode cX11_opened 8 = .ok (.aload_n 0, 1) := by decide +kernel
theorem dX11_opened_9 : decode cX11_opened 9 = .ok (.iload_n 2, 1) := by decide +kernel
theorem dX11_opened_10 : decode cX11_opened 10 = .ok (.invokevirtual 215, 3) := by decide +kernel
theorem dX11_opened_13 : decode cX11_opened 13 = .ok (.ifCond .eq 7, 3) := by decide +kernel
theorem dX11_opened_16 : decode cX11_opened 16 = .ok (.iload_n 3, 1) := by decide +kernel
theorem dX11_opened_17 : decode cX11_opened 17 = .ok (.ifCond .ge 5, 3) := by decide +kernel
theorem dX11_opened_20 : decode cX11_opened 20 = .ok (.iconst (-1), 1) := by decide +kernel
theorem dX11_opened_21 : decode cX11_opened 21 = .ok (.ireturn, 1) := by decide +kernel
theorem dX11_opened_22 : decode cX11_opened 22 = .ok (.aload_n 0, 1) := by decide +kernel
theorem dX11_opened_23 : decode cX11_opened 23 = .ok (.getfield 67, 3) := by decide +kernel
theorem dX11_opened_26 : decode cX11_opened 26 = .ok (.iload_n 2, 1) := by decide +kernel
theorem dX11_opened_27 : decode cX11_opened 27 = .ok (.iconst 1, 1) := by decide +kernel
theorem dX11_opened_28 : decode cX11_opened 28 = .ok (.iload_n 1, 1) := by decide +kernel
theorem dX11_opened_29 : decode cX11_opened 29 = .ok (.invokevirtual 225, 3) := by decide +kernel
theorem dX11_opened_32 : decode cX11_opened 32 = .ok (.iload_n 1, 1) := by decide +kernel
theorem dX11_opened_33 : decode cX11_opened 33 = .ok (.iload_n 3, 1) := by decide +kernel
theorem dX11_opened_34 : decode cX11_opened 34 = .ok (.invokevirtual 240, 3) := by decide +kernel
theorem dX11_opened_37 : decode cX11_opened 37 = .ok (.ireturn, 1) := by decide +kernel
theorem dX11_why_0 : decode cX11_why 0 = .ok (.aload_n 0, 1) := by decide +kernel
theorem dX11_why_1 : decode cX11_why 1 = .ok (.iload_n 1, 1) := by decide +kernel
theorem dX11_why_2 : decode cX11_why 2 = .ok (.invokevirtual 148, 3) := by decide +kernel
theorem dX11_why_5 : decode cX11_why 5 = .ok (.ifCond .eq 19, 3) := by decide +kernel
theorem dX11_why_8 : decode cX11_why 8 = .ok (.aload_n 0, 1) := by decide +kernel
theorem dX11_why_9 : decode cX11_why 9 = .ok (.iload_n 2, 1) := by decide +kernel
theorem dX11_why_10 : decode cX11_why 10 = .ok (.invokevirtual 176, 3) := by decide +kernel
theorem dX11_why_13 : decode cX11_why 13 = .ok (.ifCond .eq 11, 3) := by decide +kernel
theorem dX11_why_16 : decode cX11_why 16 = .ok (.aload_n 0, 1) := by decide +kernel
theorem dX11_why_17 : decode cX11_why 17 = .ok (.iload_n 3, 1) := by decide +kernel
theorem dX11_why_18 : decode cX11_why 18 = .ok (.invokevirtual 215, 3) := by decide +kernel
theorem dX11_why_21 : decode cX11_why 21 = .ok (.ifCond .ne 5, 3) := by decide +kernel
theorem dX11_why_24 : decode cX11_why 24 = .ok (.iconst (-1), 1) := by decide +kernel
theorem dX11_why_25 : decode cX11_why 25 = .ok (.ireturn, 1) := by decide +kernel
theorem dX11_why_26 : decode cX11_why 26 = .ok (.aload_n 0, 1) := by decide +kernel
theorem dX11_why_27 : decode cX11_why 27 = .ok (.getfield 67, 3) := by decide +kernel
theorem dX11_why_30 : decode cX11_why 30 = .ok (.iload_n 3, 1) := by decide +kernel
theorem dX11_why_31 : decode cX11_why 31 = .ok (.iconst 1, 1) := by decide +kernel
theorem dX11_why_32 : decode cX11_why 32 = .ok (.iload_n 2, 1) := by decide +kernel
theorem dX11_why_33 : decode cX11_why 33 = .ok (.invokevirtual 225, 3) := by decide +kernel
theorem dX11_why_36 : decode cX11_why 36 = .ok (.iload_n 1, 1) := by decide +kernel
theorem dX11_why_37 : decode cX11_why 37 = .ok (.iload_n 2, 1) := by decide +kernel
theorem dX11_why_38 : decode cX11_why 38 = .ok (.invokevirtual 243, 3) := by decide +kernel
theorem dX11_why_41 : decode cX11_why 41 = .ok (.ireturn, 1) := by decide +kernel
theorem dX11_harm_0 : decode cX11_harm 0 = .ok (.aload_n 0, 1) := by decide +kernel
theorem dX11_harm_1 : decode cX11_harm 1 = .ok (.iload_n 1, 1) := by decide +kernel
theorem dX11_harm_2 : decode cX11_harm 2 = .ok (.invokevirtual 215, 3) := by decide +kernel
theorem dX11_harm_5 : decode cX11_harm 5 = .ok (.ifCond .eq 20, 3) := by decide +kernel
theorem dX11_harm_8 : decode cX11_harm 8 = .ok (.aload_n 0, 1) := by decide +kernel
theorem dX11_harm_9 : decode cX11_harm 9 = .ok (.getfield 67, 3) := by decide +kernel
theorem dX11_harm_12 : decode cX11_harm 12 = .ok (.iload_n 1, 1) := by decide +kernel
theorem dX11_harm_13 : decode cX11_harm 13 = .ok (.iconst 1, 1) := by decide +kernel
theorem dX11_harm_14 : decode cX11_harm 14 = .ok (.bipush 59, 2) := by decide +kernel
theorem dX11_harm_16 : decode cX11_harm 16 = .ok (.invokevirtual 225, 3) := by decide +kernel
theorem dX11_harm_19 : decode cX11_harm 19 = .ok (.getfield 246, 3) := by decide +kernel
theorem dX11_harm_22 : decode cX11_harm 22 = .ok (.goto 4, 3) := by decide +kernel
theorem dX11_harm_25 : decode cX11_harm 25 = .ok (.iconst (-1), 1) := by decide +kernel
theorem dX11_harm_26 : decode cX11_harm 26 = .ok (.ireturn, 1) := by decide +kernel
theorem dX11_tooSoon_0 : decode cX11_tooSoon 0 = .ok (.aload_n 0, 1) := by decide +kernel
theorem dX11_tooSoon_1 : decode cX11_tooSoon 1 = .ok (.iload_n 1, 1) := by decide +kernel
theorem dX11_tooSoon_2 : decode cX11_tooSoon 2 = .ok (.invokevirtual 215, 3) := by decide +kernel
theorem dX11_tooSoon_5 : decode cX11_tooSoon 5 = .ok (.ifCond .eq 14, 3) := by decide +kernel
theorem dX11_tooSoon_8 : decode cX11_tooSoon 8 = .ok (.aload_n 0, 1) := by decide +kernel
theorem dX11_tooSoon_9 : decode cX11_tooSoon 9 = .ok (.getfield 67, 3) := by decide +kernel
theorem dX11_tooSoon_12 : decode cX11_tooSoon 12 = .ok (.iload_n 1, 1) := by decide +kernel
theorem dX11_tooSoon_13 : decode cX11_tooSoon 13 = .ok (.invokevirtual 249, 3) := by decide +kernel
theorem dX11_tooSoon_16 : decode cX11_tooSoon 16 = .ok (.goto 4, 3) := by decide +kernel
theorem dX11_tooSoon_19 : decode cX11_tooSoon 19 = .ok (.iconst (-1), 1) := by decide +kernel
theorem dX11_tooSoon_20 : decode cX11_tooSoon 20 = .ok (.ireturn, 1) := by decide +kernel
theorem dX11_wrong_0 : decode cX11_wrong 0 = .ok (.aload_n 0, 1) := by decide +kernel
theorem dX11_wrong_1 : decode cX11_wrong 1 = .ok (.iload_n 1, 1) := by decide +kernel
theorem dX11_wrong_2 : decode cX11_wrong 2 = .ok (.invokevirtual 176, 3) := by decide +kernel
theorem dX11_wrong_5 : decode cX11_wrong 5 = .ok (.ifCond .eq 20, 3) := by decide +kernel
theorem dX11_wrong_8 : decode cX11_wrong 8 = .ok (.aload_n 0, 1) := by decide +kernel
theorem dX11_wrong_9 : decode cX11_wrong 9 = .ok (.iload_n 2, 1) := by decide +kernel
theorem dX11_wrong_10 : decode cX11_wrong 10 = .ok (.invokevirtual 215, 3) := by decide +kernel
theorem dX11_wrong_13 : decode cX11_wrong 13 = .ok (.ifCond .eq 12, 3) := by decide +kernel
theorem dX11_wrong_16 : decode cX11_wrong 16 = .ok (.iload_n 3, 1) := by decide +kernel
theorem dX11_wrong_17 : decode cX11_wrong 17 = .ok (.iconst 0, 1) := by decide +kernel
theorem dX11_wrong_18 : decode cX11_wrong 18 = .ok (.iconst 1, 1) := by decide +kernel
theorem dX11_wrong_19 : decode cX11_wrong 19 = .ok (.invokestatic 106, 3) := by decide +kernel
theorem dX11_wrong_22 : decode cX11_wrong 22 = .ok (.ifCond .ne 5, 3) := by decide +kernel
theorem dX11_wrong_25 : decode cX11_wrong 25 = .ok (.iconst (-1), 1) := by decide +kernel
theorem dX11_wrong_26 : decode cX11_wrong 26 = .ok (.ireturn, 1) := by decide +kernel
theorem dX11_wrong_27 : decode cX11_wrong 27 = .ok (.iconst 0, 1) := by decide +kernel
theorem dX11_wrong_28 : decode cX11_wrong 28 = .ok (.istore 4, 2) := by decide +kernel
theorem dX11_wrong_30 : decode cX11_wrong 30 = .ok (.iconst 0, 1) := by decide +kernel
theorem dX11_wrong_31 : decode cX11_wrong 31 = .ok (.istore 5, 2) := by decide +kernel
theorem dX11_wrong_33 : decode cX11_wrong 33 = .ok (.iload 5, 2) := by decide +kernel
theorem dX11_wrong_35 : decode cX11_wrong 35 = .ok (.aload_n 0, 1) := by decide +kernel
theorem dX11_wrong_36 : decode cX11_wrong 36 = .ok (.getfield 26, 3) := by decide +kernel
theorem dX11_wrong_39 : decode cX11_wrong 39 = .ok (.getfield 103, 3) := by decide +kernel
theorem dX11_wrong_42 : decode cX11_wrong 42 = .ok (.if_icmp .ge 39, 3) := by decide +kernel
theorem dX11_wrong_45 : decode cX11_wrong 45 = .ok (.aload_n 0, 1) := by decide +kernel
theorem dX11_wrong_46 : decode cX11_wrong 46 = .ok (.getfield 54, 3) := by decide +kernel
theorem dX11_wrong_49 : decode cX11_wrong 49 = .ok (.iload 5, 2) := by decide +kernel
theorem dX11_wrong_51 : decode cX11_wrong 51 = .ok (.iload_n 1, 1) := by decide +kernel
theorem dX11_wrong_52 : decode cX11_wrong 52 = .ok (.iload_n 2, 1) := by decide +kernel
theorem dX11_wrong_53 : decode cX11_wrong 53 = .ok (.invokevirtual 218, 3) := by decide +kernel
theorem dX11_wrong_56 : decode cX11_wrong 56 = .ok (.aload_n 0, 1) := by decide +kernel
theorem dX11_wrong_57 : decode cX11_wrong 57 = .ok (.getfield 26, 3) := by decide +kernel
theorem dX11_wrong_60 : decode cX11_wrong 60 = .ok (.getfield 252, 3) := by decide +kernel
theorem dX11_wrong_63 : decode cX11_wrong 63 = .ok (.if_icmp .lt 12, 3) := by decide +kernel
theorem dX11_wrong_66 : decode cX11_wrong 66 = .ok (.iload 4, 2) := by decide +kernel
theorem dX11_wrong_68 : decode cX11_wrong 68 = .ok (.iconst 1, 1) := by decide +kernel
theorem dX11_wrong_69 : decode cX11_wrong 69 = .ok (.iload 5, 2) := by decide +kernel
theorem dX11_wrong_71 : decode cX11_wrong 71 = .ok (.ishl, 1) := by decide +kernel
theorem dX11_wrong_72 : decode cX11_wrong 72 = .ok (.ior, 1) := by decide +kernel
theorem dX11_wrong_73 : decode cX11_wrong 73 = .ok (.istore 4, 2) := by decide +kernel
theorem dX11_wrong_75 : decode cX11_wrong 75 = .ok (.iinc 5 1, 3) := by decide +kernel
theorem dX11_wrong_78 : decode cX11_wrong 78 = .ok (.goto (-45), 3) := by decide +kernel
theorem dX11_wrong_81 : decode cX11_wrong 81 = .ok (.aload_n 0, 1) := by decide +kernel
theorem dX11_wrong_82 : decode cX11_wrong 82 = .ok (.getfield 54, 3) := by decide +kernel
theorem dX11_wrong_85 : decode cX11_wrong 85 = .ok (.iload_n 1, 1) := by decide +kernel
theorem dX11_wrong_86 : decode cX11_wrong 86 = .ok (.iload_n 2, 1) := by decide +kernel
theorem dX11_wrong_87 : decode cX11_wrong 87 = .ok (.invokevirtual 255, 3) := by decide +kernel
theorem dX11_wrong_90 : decode cX11_wrong 90 = .ok (.istore 5, 2) := by decide +kernel
theorem dX11_wrong_92 : decode cX11_wrong 92 = .ok (.iload_n 3, 1) := by decide +kernel
theorem dX11_wrong_93 : decode cX11_wrong 93 = .ok (.ifCond .ne 13, 3) := by decide +kernel
theorem dX11_wrong_96 : decode cX11_wrong 96 = .ok (.iload 4, 2) := by decide +kernel
theorem dX11_wrong_98 : decode cX11_wrong 98 = .ok (.iload 5, 2) := by decide +kernel
theorem dX11_wrong_100 : decode cX11_wrong 100 = .ok (.iconst (-1), 1) := by decide +kernel
theorem dX11_wrong_101 : decode cX11_wrong 101 = .ok (.ixor, 1) := by decide +kernel
theorem dX11_wrong_102 : decode cX11_wrong 102 = .ok (.iand, 1) := by decide +kernel
theorem dX11_wrong_103 : decode cX11_wrong 103 = .ok (.goto 10, 3) := by decide +kernel
theorem dX11_wrong_106 : decode cX11_wrong 106 = .ok (.iload 5, 2) := by decide +kernel
theorem dX11_wrong_108 : decode cX11_wrong 108 = .ok (.iload 4, 2) := by decide +kernel
theorem dX11_wrong_110 : decode cX11_wrong 110 = .ok (.iconst (-1), 1) := by decide +kernel
theorem dX11_wrong_111 : decode cX11_wrong 111 = .ok (.ixor, 1) := by decide +kernel
theorem dX11_wrong_112 : decode cX11_wrong 112 = .ok (.iand, 1) := by decide +kernel
theorem dX11_wrong_113 : decode cX11_wrong 113 = .ok (.ireturn, 1) := by decide +kernel
theorem dX11_late_0 : decode cX11_late 0 = .ok (.aload_n 0, 1) := by decide +kernel
theorem dX11_late_1 : decode cX11_late 1 = .ok (.iload_n 1, 1) := by decide +kernel
theorem dX11_late_2 : decode cX11_late 2 = .ok (.invokevirtual 148, 3) := by decide +kernel
theorem dX11_late_5 : decode cX11_late 5 = .ok (.ifCond .eq 19, 3) := by decide +kernel
theorem dX11_late_8 : decode cX11_late 8 = .ok (.aload_n 0, 1) := by decide +kernel
theorem dX11_late_9 : decode cX11_late 9 = .ok (.iload_n 2, 1) := by decide +kernel
theorem dX11_late_10 : decode cX11_late 10 = .ok (.invokevirtual 215, 3) := by decide +kernel
theorem dX11_late_13 : decode cX11_late 13 = .ok (.ifCond .eq 11, 3) := by decide +kernel
theorem dX11_late_16 : decode cX11_late 16 = .ok (.aload_n 0, 1) := by decide +kernel
theorem dX11_late_17 : decode cX11_late 17 = .ok (.iload_n 3, 1) := by decide +kernel
theorem dX11_late_18 : decode cX11_late 18 = .ok (.invokevirtual 222, 3) := by decide +kernel
theorem dX11_late_21 : decode cX11_late 21 = .ok (.ifCond .ne 5, 3) := by decide +kernel
theorem dX11_late_24 : decode cX11_late 24 = .ok (.iconst (-1), 1) := by decide +kernel
theorem dX11_late_25 : decode cX11_late 25 = .ok (.ireturn, 1) := by decide +kernel
theorem dX11_late_26 : decode cX11_late 26 = .ok (.aload_n 0, 1) := by decide +kernel
theorem dX11_late_27 : decode cX11_late 27 = .ok (.getfield 67, 3) := by decide +kernel
theorem dX11_late_30 : decode cX11_late 30 = .ok (.iload_n 2, 1) := by decide +kernel
theorem dX11_late_31 : decode cX11_late 31 = .ok (.iload_n 3, 1) := by decide +kernel
theorem dX11_late_32 : decode cX11_late 32 = .ok (.invokevirtual 258, 3) := by decide +kernel
theorem dX11_late_35 : decode cX11_late 35 = .ok (.aload_n 0, 1) := by decide +kernel
theorem dX11_late_36 : decode cX11_late 36 = .ok (.getfield 67, 3) := by decide +kernel
theorem dX11_late_39 : decode cX11_late 39 = .ok (.iload_n 1, 1) := by decide +kernel
theorem dX11_late_40 : decode cX11_late 40 = .ok (.invokevirtual 262, 3) := by decide +kernel
theorem dX11_late_43 : decode cX11_late 43 = .ok (.ireturn, 1) := by decide +kernel
theorem dX11_watch_0 : decode cX11_watch 0 = .ok (.aload_n 0, 1) := by decide +kernel
theorem dX11_watch_1 : decode cX11_watch 1 = .ok (.iload_n 1, 1) := by decide +kernel
theorem dX11_watch_2 : decode cX11_watch 2 = .ok (.invokevirtual 215, 3) := by decide +kernel
theorem dX11_watch_5 : decode cX11_watch 5 = .ok (.ifCond .eq 23, 3) := by decide +kernel
theorem dX11_watch_8 : decode cX11_watch 8 = .ok (.aload_n 0, 1) := by decide +kernel
theorem dX11_watch_9 : decode cX11_watch 9 = .ok (.iload_n 2, 1) := by decide +kernel
theorem dX11_watch_10 : decode cX11_watch 10 = .ok (.invokevirtual 176, 3) := by decide +kernel
theorem dX11_watch_13 : decode cX11_watch 13 = .ok (.ifCond .eq 15, 3) := by decide +kernel
theorem dX11_watch_16 : decode cX11_watch 16 = .ok (.aload_n 0, 1) := by decide +kernel
theorem dX11_watch_17 : decode cX11_watch 17 = .ok (.getfield 67, 3) := by decide +kernel
theorem dX11_watch_20 : decode cX11_watch 20 = .ok (.iload_n 1, 1) := by decide +kernel
theorem dX11_watch_21 : decode cX11_watch 21 = .ok (.iload_n 2, 1) := by decide +kernel
theorem dX11_watch_22 : decode cX11_watch 22 = .ok (.invokevirtual 265, 3) := by decide +kernel
theorem dX11_watch_25 : decode cX11_watch 25 = .ok (.goto 4, 3) := by decide +kernel
theorem dX11_watch_28 : decode cX11_watch 28 = .ok (.iconst (-1), 1) := by decide +kernel
theorem dX11_watch_29 : decode cX11_watch 29 = .ok (.ireturn, 1) := by decide +kernel
theorem dX11_gain_0 : decode cX11_gain 0 = .ok (.aload_n 0, 1) := by decide +kernel
theorem dX11_gain_1 : decode cX11_gain 1 = .ok (.iload_n 1, 1) := by decide +kernel
theorem dX11_gain_2 : decode cX11_gain 2 = .ok (.invokevirtual 215, 3) := by decide +kernel
theorem dX11_gain_5 : decode cX11_gain 5 = .ok (.ifCond .eq 11, 3) := by decide +kernel
theorem dX11_gain_8 : decode cX11_gain 8 = .ok (.aload_n 0, 1) := by decide +kernel
theorem dX11_gain_9 : decode cX11_gain 9 = .ok (.iload_n 2, 1) := by decide +kernel
theorem dX11_gain_10 : decode cX11_gain 10 = .ok (.invokevirtual 222, 3) := by decide +kernel
theorem dX11_gain_13 : decode cX11_gain 13 = .ok (.ifCond .ne 5, 3) := by decide +kernel
theorem dX11_gain_16 : decode cX11_gain 16 = .ok (.iconst (-1), 1) := by decide +kernel
theorem dX11_gain_17 : decode cX11_gain 17 = .ok (.ireturn, 1) := by decide +kernel
theorem dX11_gain_18 : decode cX11_gain 18 = .ok (.aload_n 0, 1) := by decide +kernel
theorem dX11_gain_19 : decode cX11_gain 19 = .ok (.getfield 67, 3) := by decide +kernel
theorem dX11_gain_22 : decode cX11_gain 22 = .ok (.iload_n 1, 1) := by decide +kernel
theorem dX11_gain_23 : decode cX11_gain 23 = .ok (.iload_n 2, 1) := by decide +kernel
theorem dX11_gain_24 : decode cX11_gain 24 = .ok (.invokevirtual 258, 3) := by decide +kernel
theorem dX11_gain_27 : decode cX11_gain 27 = .ok (.aload_n 0, 1) := by decide +kernel
theorem dX11_gain_28 : decode cX11_gain 28 = .ok (.getfield 67, 3) := by decide +kernel
theorem dX11_gain_31 : decode cX11_gain 31 = .ok (.iconst 0, 1) := by decide +kernel
theorem dX11_gain_32 : decode cX11_gain 32 = .ok (.invokevirtual 268, 3) := by decide +kernel
theorem dX11_gain_35 : decode cX11_gain 35 = .ok (.ireturn, 1) := by decide +kernel
theorem dX11_income_0 : decode cX11_income 0 = .ok (.aload_n 0, 1) := by decide +kernel
theorem dX11_income_1 : decode cX11_income 1 = .ok (.iload_n 1, 1) := by decide +kernel
theorem dX11_income_2 : decode cX11_income 2 = .ok (.invokevirtual 215, 3) := by decide +kernel
theorem dX11_income_5 : decode cX11_income 5 = .ok (.ifCond .eq 24, 3) := by decide +kernel
theorem dX11_income_8 : decode cX11_income 8 = .ok (.aload_n 0, 1) := by decide +kernel
theorem dX11_income_9 : decode cX11_income 9 = .ok (.iload_n 2, 1) := by decide +kernel
theorem dX11_income_10 : decode cX11_income 10 = .ok (.invokevirtual 176, 3) := by decide +kernel
theorem dX11_income_13 : decode cX11_income 13 = .ok (.ifCond .eq 16, 3) := by decide +kernel
theorem dX11_income_16 : decode cX11_income 16 = .ok (.aload_n 0, 1) := by decide +kernel
theorem dX11_income_17 : decode cX11_income 17 = .ok (.iload_n 3, 1) := by decide +kernel
theorem dX11_income_18 : decode cX11_income 18 = .ok (.invokevirtual 176, 3) := by decide +kernel
theorem dX11_income_21 : decode cX11_income 21 = .ok (.ifCond .eq 8, 3) := by decide +kernel
theorem dX11_income_24 : decode cX11_income 24 = .ok (.iload_n 3, 1) := by decide +kernel
theorem dX11_income_25 : decode cX11_income 25 = .ok (.iload_n 2, 1) := by decide +kernel
theorem dX11_income_26 : decode cX11_income 26 = .ok (.if_icmp .ge 5, 3) := by decide +kernel
theorem dX11_income_29 : decode cX11_income 29 = .ok (.iconst (-1), 1) := by decide +kernel
theorem dX11_income_30 : decode cX11_income 30 = .ok (.ireturn, 1) := by decide +kernel
theorem dX11_income_31 : decode cX11_income 31 = .ok (.aload_n 0, 1) := by decide +kernel
theorem dX11_income_32 : decode cX11_income 32 = .ok (.getfield 67, 3) := by decide +kernel
theorem dX11_income_35 : decode cX11_income 35 = .ok (.iload_n 1, 1) := by decide +kernel
theorem dX11_income_36 : decode cX11_income 36 = .ok (.iconst 1, 1) := by decide +kernel
theorem dX11_income_37 : decode cX11_income 37 = .ok (.iload_n 3, 1) := by decide +kernel
theorem dX11_income_38 : decode cX11_income 38 = .ok (.invokevirtual 225, 3) := by decide +kernel
theorem dX11_income_41 : decode cX11_income 41 = .ok (.iload_n 2, 1) := by decide +kernel
theorem dX11_income_42 : decode cX11_income 42 = .ok (.iload_n 3, 1) := by decide +kernel
theorem dX11_income_43 : decode cX11_income 43 = .ok (.invokevirtual 271, 3) := by decide +kernel
theorem dX11_income_46 : decode cX11_income 46 = .ok (.ireturn, 1) := by decide +kernel
theorem dX11_next_0 : decode cX11_next 0 = .ok (.aload_n 0, 1) := by decide +kernel
theorem dX11_next_1 : decode cX11_next 1 = .ok (.iload_n 1, 1) := by decide +kernel
theorem dX11_next_2 : decode cX11_next 2 = .ok (.invokevirtual 176, 3) := by decide +kernel
theorem dX11_next_5 : decode cX11_next 5 = .ok (.ifCond .eq 29, 3) := by decide +kernel
theorem dX11_next_8 : decode cX11_next 8 = .ok (.aload_n 0, 1) := by decide +kernel
theorem dX11_next_9 : decode cX11_next 9 = .ok (.iload_n 2, 1) := by decide +kernel
theorem dX11_next_10 : decode cX11_next 10 = .ok (.invokevirtual 215, 3) := by decide +kernel
theorem dX11_next_13 : decode cX11_next 13 = .ok (.ifCond .eq 21, 3) := by decide +kernel
theorem dX11_next_16 : decode cX11_next 16 = .ok (.aload_n 0, 1) := by decide +kernel
theorem dX11_next_17 : decode cX11_next 17 = .ok (.getfield 67, 3) := by decide +kernel
theorem dX11_next_20 : decode cX11_next 20 = .ok (.iload_n 2, 1) := by decide +kernel
theorem dX11_next_21 : decode cX11_next 21 = .ok (.iconst 1, 1) := by decide +kernel
theorem dX11_next_22 : decode cX11_next 22 = .ok (.bipush 59, 2) := by decide +kernel
theorem dX11_next_24 : decode cX11_next 24 = .ok (.invokevirtual 225, 3) := by decide +kernel
theorem dX11_next_27 : decode cX11_next 27 = .ok (.iload_n 1, 1) := by decide +kernel
theorem dX11_next_28 : decode cX11_next 28 = .ok (.invokevirtual 274, 3) := by decide +kernel
theorem dX11_next_31 : decode cX11_next 31 = .ok (.goto 4, 3) := by decide +kernel
theorem dX11_next_34 : decode cX11_next 34 = .ok (.iconst (-1), 1) := by decide +kernel
theorem dX11_next_35 : decode cX11_next 35 = .ok (.ireturn, 1) := by decide +kernel
theorem dX11_looks_0 : decode cX11_looks 0 = .ok (.aload_n 0, 1) := by decide +kernel
theorem dX11_looks_1 : decode cX11_looks 1 = .ok (.iload_n 1, 1) := by decide +kernel
theorem dX11_looks_2 : decode cX11_looks 2 = .ok (.invokevirtual 215, 3) := by decide +kernel
theorem dX11_looks_5 : decode cX11_looks 5 = .ok (.ifCond .eq 12, 3) := by decide +kernel
theorem dX11_looks_8 : decode cX11_looks 8 = .ok (.iload_n 2, 1) := by decide +kernel
theorem dX11_looks_9 : decode cX11_looks 9 = .ok (.iconst 0, 1) := by decide +kernel
theorem dX11_looks_10 : decode cX11_looks 10 = .ok (.iconst 2, 1) := by decide +kernel
theorem dX11_looks_11 : decode cX11_looks 11 = .ok (.invokestatic 106, 3) := by decide +kernel
theorem dX11_looks_14 : decode cX11_looks 14 = .ok (.ifCond .ne 5, 3) := by decide +kernel
theorem dX11_looks_17 : decode cX11_looks 17 = .ok (.iconst (-1), 1) := by decide +kernel
theorem dX11_looks_18 : decode cX11_looks 18 = .ok (.ireturn, 1) := by decide +kernel
theorem dX11_looks_19 : decode cX11_looks 19 = .ok (.aload_n 0, 1) := by decide +kernel
theorem dX11_looks_20 : decode cX11_looks 20 = .ok (.getfield 67, 3) := by decide +kernel
theorem dX11_looks_23 : decode cX11_looks 23 = .ok (.iload_n 1, 1) := by decide +kernel
theorem dX11_looks_24 : decode cX11_looks 24 = .ok (.invokevirtual 277, 3) := by decide +kernel
theorem dX11_looks_27 : decode cX11_looks 27 = .ok (.iload_n 2, 1) := by decide +kernel
theorem dX11_looks_28 : decode cX11_looks 28 = .ok (.lookupswitch 44 #[(0, 28), (1, 36)], 28) := by decide +kernel
theorem dX11_looks_56 : decode cX11_looks 56 = .ok (.aload_n 0, 1) := by decide +kernel
theorem dX11_looks_57 : decode cX11_looks 57 = .ok (.getfield 67, 3) := by decide +kernel
theorem dX11_looks_60 : decode cX11_looks 60 = .ok (.getfield 280, 3) := by decide +kernel
theorem dX11_looks_63 : decode cX11_looks 63 = .ok (.ireturn, 1) := by decide +kernel
theorem dX11_looks_64 : decode cX11_looks 64 = .ok (.aload_n 0, 1) := by decide +kernel
theorem dX11_looks_65 : decode cX11_looks 65 = .ok (.getfield 67, 3) := by decide +kernel
theorem dX11_looks_68 : decode cX11_looks 68 = .ok (.getfield 283, 3) := by decide +kernel
theorem dX11_looks_71 : decode cX11_looks 71 = .ok (.ireturn, 1) := by decide +kernel
theorem dX11_looks_72 : decode cX11_looks 72 = .ok (.aload_n 0, 1) := by decide +kernel
theorem dX11_looks_73 : decode cX11_looks 73 = .ok (.getfield 67, 3) := by decide +kernel
theorem dX11_looks_76 : decode cX11_looks 76 = .ok (.getfield 286, 3) := by decide +kernel
theorem dX11_looks_79 : decode cX11_looks 79 = .ok (.ireturn, 1) := by decide +kernel
theorem dX11_need_0 : decode cX11_need 0 = .ok (.aload_n 0, 1) := by decide +kernel
theorem dX11_need_1 : decode cX11_need 1 = .ok (.iload_n 1, 1) := by decide +kernel
theorem dX11_need_2 : decode cX11_need 2 = .ok (.invokevirtual 148, 3) := by decide +kernel
theorem dX11_need_5 : decode cX11_need 5 = .ok (.ifCond .eq 31, 3) := by decide +kernel
theorem dX11_need_8 : decode cX11_need 8 = .ok (.aload_n 0, 1) := by decide +kernel
theorem dX11_need_9 : decode cX11_need 9 = .ok (.iload_n 2, 1) := by decide +kernel
theorem dX11_need_10 : decode cX11_need 10 = .ok (.invokevirtual 176, 3) := by decide +kernel
theorem dX11_need_13 : decode cX11_need 13 = .ok (.ifCond .eq 23, 3) := by decide +kernel
theorem dX11_need_16 : decode cX11_need 16 = .ok (.aload_n 0, 1) := by decide +kernel
theorem dX11_need_17 : decode cX11_need 17 = .ok (.iload_n 3, 1) := by decide +kernel
theorem dX11_need_18 : decode cX11_need 18 = .ok (.iload 4, 2) := by decide +kernel
theorem dX11_need_20 : decode cX11_need 20 = .ok (.invokevirtual 289, 3) := by decide +kernel
theorem dX11_need_23 : decode cX11_need 23 = .ok (.ifCond .eq 13, 3) := by decide +kernel
theorem dX11_need_26 : decode cX11_need 26 = .ok (.iload 5, 2) := by decide +kernel
theorem dX11_need_28 : decode cX11_need 28 = .ok (.iconst 0, 1) := by decide +kernel
theorem dX11_need_29 : decode cX11_need 29 = .ok (.iconst 2, 1) := by decide +kernel
theorem dX11_need_30 : decode cX11_need 30 = .ok (.invokestatic 106, 3) := by decide +kernel
theorem dX11_need_33 : decode cX11_need 33 = .ok (.ifCond .ne 5, 3) := by decide +kernel
theorem dX11_need_36 : decode cX11_need 36 = .ok (.iconst (-1), 1) := by decide +kernel
theorem dX11_need_37 : decode cX11_need 37 = .ok (.ireturn, 1) := by decide +kernel
theorem dX11_need_38 : decode cX11_need 38 = .ok (.aload_n 0, 1) := by decide +kernel
theorem dX11_need_39 : decode cX11_need 39 = .ok (.getfield 76, 3) := by decide +kernel
theorem dX11_need_42 : decode cX11_need 42 = .ok (.aload_n 0, 1) := by decide +kernel
theorem dX11_need_43 : decode cX11_need 43 = .ok (.getfield 26, 3) := by decide +kernel
theorem dX11_need_46 : decode cX11_need 46 = .ok (.getfield 152, 3) := by decide +kernel
theorem dX11_need_49 : decode cX11_need 49 = .ok (.iload_n 1, 1) := by decide +kernel
theorem dX11_need_50 : decode cX11_need 50 = .ok (.aaload, 1) := by decide +kernel
theorem dX11_need_51 : decode cX11_need 51 = .ok (.iload_n 2, 1) := by decide +kernel
theorem dX11_need_52 : decode cX11_need 52 = .ok (.iload_n 3, 1) := by decide +kernel
theorem dX11_need_53 : decode cX11_need 53 = .ok (.iload 4, 2) := by decide +kernel
theorem dX11_need_55 : decode cX11_need 55 = .ok (.invokevirtual 292, 3) := by decide +kernel
theorem dX11_need_58 : decode cX11_need 58 = .ok (.ifCond .ne 6, 3) := by decide +kernel
theorem dX11_need_61 : decode cX11_need 61 = .ok (.bipush (-2), 2) := by decide +kernel
theorem dX11_need_63 : decode cX11_need 63 = .ok (.ireturn, 1) := by decide +kernel
theorem dX11_need_64 : decode cX11_need 64 = .ok (.iload 5, 2) := by decide +kernel
theorem dX11_need_66 : decode cX11_need 66 = .ok (.lookupswitch 56 #[(0, 26), (1, 48)], 26) := by decide +kernel
theorem dX11_need_92 : decode cX11_need 92 = .ok (.aload_n 0, 1) := by decide +kernel
theorem dX11_need_93 : decode cX11_need 93 = .ok (.getfield 76, 3) := by decide +kernel
theorem dX11_need_96 : decode cX11_need 96 = .ok (.getfield 296, 3) := by decide +kernel
theorem dX11_need_99 : decode cX11_need 99 = .ok (.invokestatic 299, 3) := by decide +kernel
theorem dX11_need_102 : decode cX11_need 102 = .ok (.aload_n 0, 1) := by decide +kernel
theorem dX11_need_103 : decode cX11_need 103 = .ok (.getfield 76, 3) := by decide +kernel
theorem dX11_need_106 : decode cX11_need 106 = .ok (.getfield 304, 3) := by decide +kernel
theorem dX11_need_109 : decode cX11_need 109 = .ok (.invokestatic 299, 3) := by decide +kernel
theorem dX11_need_112 : decode cX11_need 112 = .ok (.iadd, 1) := by decide +kernel
theorem dX11_need_113 : decode cX11_need 113 = .ok (.ireturn, 1) := by decide +kernel
theorem dX11_need_114 : decode cX11_need 114 = .ok (.aload_n 0, 1) := by decide +kernel
theorem dX11_need_115 : decode cX11_need 115 = .ok (.getfield 76, 3) := by decide +kernel
theorem dX11_need_118 : decode cX11_need 118 = .ok (.getfield 296, 3) := by decide +kernel
theorem dX11_need_121 : decode cX11_need 121 = .ok (.ireturn, 1) := by decide +kernel
theorem dX11_need_122 : decode cX11_need 122 = .ok (.aload_n 0, 1) := by decide +kernel
theorem dX11_need_123 : decode cX11_need 123 = .ok (.getfield 76, 3) := by decide +kernel
theorem dX11_need_126 : decode cX11_need 126 = .ok (.getfield 304, 3) := by decide +kernel
theorem dX11_need_129 : decode cX11_need 129 = .ok (.ireturn, 1) := by decide +kernel
theorem dX11_asks_0 : decode cX11_asks 0 = .ok (.aload_n 0, 1) := by decide +kernel
theorem dX11_asks_1 : decode cX11_asks 1 = .ok (.iload_n 1, 1) := by decide +kernel
theorem dX11_asks_2 : decode cX11_asks 2 = .ok (.invokevirtual 148, 3) := by decide +kernel
theorem dX11_asks_5 : decode cX11_asks 5 = .ok (.ifCond .eq 18, 3) := by decide +kernel
theorem dX11_asks_8 : decode cX11_asks 8 = .ok (.aload_n 0, 1) := by decide +kernel
theorem dX11_asks_9 : decode cX11_asks 9 = .ok (.getfield 26, 3) := by decide +kernel
theorem dX11_asks_12 : decode cX11_asks 12 = .ok (.getfield 152, 3) := by decide +kernel
theorem dX11_asks_15 : decode cX11_asks 15 = .ok (.iload_n 1, 1) := by decide +kernel
theorem dX11_asks_16 : decode cX11_asks 16 = .ok (.aaload, 1) := by decide +kernel
theorem dX11_asks_17 : decode cX11_asks 17 = .ok (.getfield 307, 3) := by decide +kernel
theorem dX11_asks_20 : decode cX11_asks 20 = .ok (.goto 4, 3) := by decide +kernel
theorem dX11_asks_23 : decode cX11_asks 23 = .ok (.iconst (-1), 1) := by decide +kernel
theorem dX11_asks_24 : decode cX11_asks 24 = .ok (.ireturn, 1) := by decide +kernel
theorem dX11_ring_0 : decode cX11_ring 0 = .ok (.aload_n 0, 1) := by decide +kernel
theorem dX11_ring_1 : decode cX11_ring 1 = .ok (.iload_n 1, 1) := by decide +kernel
theorem dX11_ring_2 : decode cX11_ring 2 = .ok (.invokevirtual 148, 3) := by decide +kernel
theorem dX11_ring_5 : decode cX11_ring 5 = .ok (.ifCond .eq 14, 3) := by decide +kernel
theorem dX11_ring_8 : decode cX11_ring 8 = .ok (.aload_n 0, 1) := by decide +kernel
theorem dX11_ring_9 : decode cX11_ring 9 = .ok (.getfield 83, 3) := by decide +kernel
theorem dX11_ring_12 : decode cX11_ring 12 = .ok (.iload_n 1, 1) := by decide +kernel
theorem dX11_ring_13 : decode cX11_ring 13 = .ok (.invokevirtual 310, 3) := by decide +kernel
theorem dX11_ring_16 : decode cX11_ring 16 = .ok (.goto 4, 3) := by decide +kernel
theorem dX11_ring_19 : decode cX11_ring 19 = .ok (.iconst (-1), 1) := by decide +kernel
theorem dX11_ring_20 : decode cX11_ring 20 = .ok (.ireturn, 1) := by decide +kernel
theorem dX11_rings_0 : decode cX11_rings 0 = .ok (.aload_n 0, 1) := by decide +kernel
theorem dX11_rings_1 : decode cX11_rings 1 = .ok (.getfield 83, 3) := by decide +kernel
theorem dX11_rings_4 : decode cX11_rings 4 = .ok (.invokevirtual 313, 3) := by decide +kernel
theorem dX11_rings_7 : decode cX11_rings 7 = .ok (.ireturn, 1) := by decide +kernel
theorem dX11_burn_0 : decode cX11_burn 0 = .ok (.aload_n 0, 1) := by decide +kernel
theorem dX11_burn_1 : decode cX11_burn 1 = .ok (.getfield 83, 3) := by decide +kernel
theorem dX11_burn_4 : decode cX11_burn 4 = .ok (.invokevirtual 317, 3) := by decide +kernel
theorem dX11_burn_7 : decode cX11_burn 7 = .ok (.ireturn, 1) := by decide +kernel
theorem dX11_future_0 : decode cX11_future 0 = .ok (.aload_n 0, 1) := by decide +kernel
theorem dX11_future_1 : decode cX11_future 1 = .ok (.iload_n 1, 1) := by decide +kernel
theorem dX11_future_2 : decode cX11_future 2 = .ok (.invokevirtual 148, 3) := by decide +kernel
theorem dX11_future_5 : decode cX11_future 5 = .ok (.ifCond .eq 35, 3) := by decide +kernel
theorem dX11_future_8 : decode cX11_future 8 = .ok (.aload_n 0, 1) := by decide +kernel
theorem dX11_future_9 : decode cX11_future 9 = .ok (.iload_n 2, 1) := by decide +kernel
theorem dX11_future_10 : decode cX11_future 10 = .ok (.invokevirtual 176, 3) := by decide +kernel
theorem dX11_future_13 : decode cX11_future 13 = .ok (.ifCond .eq 27, 3) := by decide +kernel
theorem dX11_future_16 : decode cX11_future 16 = .ok (.aload_n 0, 1) := by decide +kernel
theorem dX11_future_17 : decode cX11_future 17 = .ok (.iload_n 3, 1) := by decide +kernel
theorem dX11_future_18 : decode cX11_future 18 = .ok (.iload 4, 2) := by decide +kernel
theorem dX11_future_20 : decode cX11_future 20 = .ok (.invokevirtual 289, 3) := by decide +kernel
theorem dX11_future_23 : decode cX11_future 23 = .ok (.ifCond .eq 17, 3) := by decide +kernel
theorem dX11_future_26 : decode cX11_future 26 = .ok (.iload 5, 2) := by decide +kernel
theorem dX11_future_28 : decode cX11_future 28 = .ok (.iconst 0, 1) := by decide +kernel
theorem dX11_future_29 : decode cX11_future 29 = .ok (.iconst 2, 1) := by decide +kernel
theorem dX11_future_30 : decode cX11_future 30 = .ok (.invokestatic 106, 3) := by decide +kernel
theorem dX11_future_33 : decode cX11_future 33 = .ok (.ifCond .eq 7, 3) := by decide +kernel
theorem dX11_future_36 : decode cX11_future 36 = .ok (.iconst 1, 1) := by decide +kernel
theorem dX11_future_37 : decode cX11_future 37 = .ok (.goto 4, 3) := by decide +kernel
theorem dX11_future_40 : decode cX11_future 40 = .ok (.iconst 0, 1) := by decide +kernel
theorem dX11_future_41 : decode cX11_future 41 = .ok (.istore 6, 2) := by decide +kernel
theorem dX11_future_43 : decode cX11_future 43 = .ok (.iload 6, 2) := by decide +kernel
theorem dX11_future_45 : decode cX11_future 45 = .ok (.ifCond .eq 12, 3) := by decide +kernel
theorem dX11_future_48 : decode cX11_future 48 = .ok (.iload 4, 2) := by decide +kernel
theorem dX11_future_50 : decode cX11_future 50 = .ok (.iload_n 1, 1) := by decide +kernel
theorem dX11_future_51 : decode cX11_future 51 = .ok (.invokestatic 196, 3) := by decide +kernel
theorem dX11_future_54 : decode cX11_future 54 = .ok (.ifCond .eq 5, 3) := by decide +kernel
theorem dX11_future_57 : decode cX11_future 57 = .ok (.iconst (-1), 1) := by decide +kernel
theorem dX11_future_58 : decode cX11_future 58 = .ok (.ireturn, 1) := by decide +kernel
theorem dX11_future_59 : decode cX11_future 59 = .ok (.aload_n 0, 1) := by decide +kernel
theorem dX11_future_60 : decode cX11_future 60 = .ok (.getfield 26, 3) := by decide +kernel
theorem dX11_future_63 : decode cX11_future 63 = .ok (.getfield 103, 3) := by decide +kernel
theorem dX11_future_66 : decode cX11_future 66 = .ok (.iconst 5, 1) := by decide +kernel
theorem dX11_future_67 : decode cX11_future 67 = .ok (.if_icmp .gt 15, 3) := by decide +kernel
theorem dX11_future_70 : decode cX11_future 70 = .ok (.aload_n 0, 1) := by decide +kernel
theorem dX11_future_71 : decode cX11_future 71 = .ok (.getfield 26, 3) := by decide +kernel
theorem dX11_future_74 : decode cX11_future 74 = .ok (.getfield 110, 3) := by decide +kernel
theorem dX11_future_77 : decode cX11_future 77 = .ok (.bipush 6, 2) := by decide +kernel
theorem dX11_future_79 : decode cX11_future 79 = .ok (.if_icmp .le 6, 3) := by decide +kernel
theorem dX11_future_82 : decode cX11_future 82 = .ok (.bipush (-2), 2) := by decide +kernel
theorem dX11_future_84 : decode cX11_future 84 = .ok (.ireturn, 1) := by decide +kernel
theorem dX11_future_85 : decode cX11_future 85 = .ok (.aload_n 0, 1) := by decide +kernel
theorem dX11_future_86 : decode cX11_future 86 = .ok (.getfield 76, 3) := by decide +kernel
theorem dX11_future_89 : decode cX11_future 89 = .ok (.iload_n 1, 1) := by decide +kernel
theorem dX11_future_90 : decode cX11_future 90 = .ok (.iload_n 2, 1) := by decide +kernel
theorem dX11_future_91 : decode cX11_future 91 = .ok (.iload_n 3, 1) := by decide +kernel
theorem dX11_future_92 : decode cX11_future 92 = .ok (.iload 4, 2) := by decide +kernel
theorem dX11_future_94 : decode cX11_future 94 = .ok (.invokevirtual 320, 3) := by decide +kernel
theorem dX11_future_97 : decode cX11_future 97 = .ok (.iload 5, 2) := by decide +kernel
theorem dX11_future_99 : decode cX11_future 99 = .ok (.lookupswitch 41 #[(0, 25), (1, 33)], 25) := by decide +kernel
theorem dX11_future_124 : decode cX11_future 124 = .ok (.aload_n 0, 1) := by decide +kernel
theorem dX11_future_125 : decode cX11_future 125 = .ok (.getfield 76, 3) := by decide +kernel
theorem dX11_future_128 : decode cX11_future 128 = .ok (.getfield 324, 3) := by decide +kernel
theorem dX11_future_131 : decode cX11_future 131 = .ok (.ireturn, 1) := by decide +kernel
theorem dX11_future_132 : decode cX11_future 132 = .ok (.aload_n 0, 1) := by decide +kernel
theorem dX11_future_133 : decode cX11_future 133 = .ok (.getfield 76, 3) := by decide +kernel
theorem dX11_future_136 : decode cX11_future 136 = .ok (.getfield 327, 3) := by decide +kernel
theorem dX11_future_139 : decode cX11_future 139 = .ok (.ireturn, 1) := by decide +kernel
theorem dX11_future_140 : decode cX11_future 140 = .ok (.aload_n 0, 1) := by decide +kernel
theorem dX11_future_141 : decode cX11_future 141 = .ok (.getfield 76, 3) := by decide +kernel
theorem dX11_future_144 : decode cX11_future 144 = .ok (.getfield 330, 3) := by decide +kernel
theorem dX11_future_147 : decode cX11_future 147 = .ok (.ifCond .eq 7, 3) := by decide +kernel
theorem dX11_future_150 : decode cX11_future 150 = .ok (.iconst 1, 1) := by decide +kernel
theorem dX11_future_151 : decode cX11_future 151 = .ok (.goto 4, 3) := by decide +kernel
theorem dX11_future_154 : decode cX11_future 154 = .ok (.iconst 0, 1) := by decide +kernel
theorem dX11_future_155 : decode cX11_future 155 = .ok (.ireturn, 1) := by decide +kernel
theorem dX11_lives_0 : decode cX11_lives 0 = .ok (.aload_n 0, 1) := by decide +kernel
theorem dX11_lives_1 : decode cX11_lives 1 = .ok (.iload_n 1, 1) := by decide +kernel
theorem dX11_lives_2 : decode cX11_lives 2 = .ok (.invokevirtual 173, 3) := by decide +kernel
theorem dX11_lives_5 : decode cX11_lives 5 = .ok (.ifCond .eq 29, 3) := by decide +kernel
theorem dX11_lives_8 : decode cX11_lives 8 = .ok (.aload_n 0, 1) := by decide +kernel
theorem dX11_lives_9 : decode cX11_lives 9 = .ok (.iload_n 2, 1) := by decide +kernel
theorem dX11_lives_10 : decode cX11_lives 10 = .ok (.invokevirtual 176, 3) := by decide +kernel
theorem dX11_lives_13 : decode cX11_lives 13 = .ok (.ifCond .eq 21, 3) := by decide +kernel
theorem dX11_lives_16 : decode cX11_lives 16 = .ok (.iload_n 3, 1) := by decide +kernel
theorem dX11_lives_17 : decode cX11_lives 17 = .ok (.iconst 0, 1) := by decide +kernel
theorem dX11_lives_18 : decode cX11_lives 18 = .ok (.bipush 8, 2) := by decide +kernel
theorem dX11_lives_20 : decode cX11_lives 20 = .ok (.invokestatic 106, 3) := by decide +kernel
theorem dX11_lives_23 : decode cX11_lives 23 = .ok (.ifCond .eq 11, 3) := by decide +kernel
theorem dX11_lives_26 : decode cX11_lives 26 = .ok (.iload_n 2, 1) := by decide +kernel
theorem dX11_lives_27 : decode cX11_lives 27 = .ok (.iload_n 3, 1) := by decide +kernel
theorem dX11_lives_28 : decode cX11_lives 28 = .ok (.iadd, 1) := by decide +kernel
theorem dX11_lives_29 : decode cX11_lives 29 = .ok (.bipush 60, 2) := by decide +kernel
theorem dX11_lives_31 : decode cX11_lives 31 = .ok (.if_icmp .le 7, 3) := by decide +kernel
theorem dX11_lives_34 : decode cX11_lives 34 = .ok (.ldc2_w 334, 3) := by decide +kernel
theorem dX11_lives_37 : decode cX11_lives 37 = .ok (.lreturn, 1) := by decide +kernel
theorem dX11_lives_38 : decode cX11_lives 38 = .ok (.aload_n 0, 1) := by decide +kernel
theorem dX11_lives_39 : decode cX11_lives 39 = .ok (.getfield 76, 3) := by decide +kernel
theorem dX11_lives_42 : decode cX11_lives 42 = .ok (.iload_n 1, 1) := by decide +kernel
theorem dX11_lives_43 : decode cX11_lives 43 = .ok (.iload_n 2, 1) := by decide +kernel
theorem dX11_lives_44 : decode cX11_lives 44 = .ok (.iload_n 3, 1) := by decide +kernel
theorem dX11_lives_45 : decode cX11_lives 45 = .ok (.invokevirtual 336, 3) := by decide +kernel
theorem dX11_lives_48 : decode cX11_lives 48 = .ok (.lreturn, 1) := by decide +kernel
theorem dX11_odds_0 : decode cX11_odds 0 = .ok (.aload_n 0, 1) := by decide +kernel
theorem dX11_odds_1 : decode cX11_odds 1 = .ok (.iload_n 1, 1) := by decide +kernel
theorem dX11_odds_2 : decode cX11_odds 2 = .ok (.invokevirtual 148, 3) := by decide +kernel
theorem dX11_odds_5 : decode cX11_odds 5 = .ok (.ifCond .eq 28, 3) := by decide +kernel
theorem dX11_odds_8 : decode cX11_odds 8 = .ok (.aload_n 0, 1) := by decide +kernel
theorem dX11_odds_9 : decode cX11_odds 9 = .ok (.iload_n 2, 1) := by decide +kernel
theorem dX11_odds_10 : decode cX11_odds 10 = .ok (.invokevirtual 176, 3) := by decide +kernel
theorem dX11_odds_13 : decode cX11_odds 13 = .ok (.ifCond .eq 20, 3) := by decide +kernel
theorem dX11_odds_16 : decode cX11_odds 16 = .ok (.iload_n 3, 1) := by decide +kernel
theorem dX11_odds_17 : decode cX11_odds 17 = .ok (.iconst 1, 1) := by decide +kernel
theorem dX11_odds_18 : decode cX11_odds 18 = .ok (.iconst 2, 1) := by decide +kernel
theorem dX11_odds_19 : decode cX11_odds 19 = .ok (.invokestatic 106, 3) := by decide +kernel
theorem dX11_odds_22 : decode cX11_odds 22 = .ok (.ifCond .eq 11, 3) := by decide +kernel
theorem dX11_odds_25 : decode cX11_odds 25 = .ok (.iload_n 2, 1) := by decide +kernel
theorem dX11_odds_26 : decode cX11_odds 26 = .ok (.iload_n 3, 1) := by decide +kernel
theorem dX11_odds_27 : decode cX11_odds 27 = .ok (.iadd, 1) := by decide +kernel
theorem dX11_odds_28 : decode cX11_odds 28 = .ok (.bipush 60, 2) := by decide +kernel
theorem dX11_odds_30 : decode cX11_odds 30 = .ok (.if_icmp .le 7, 3) := by decide +kernel
theorem dX11_odds_33 : decode cX11_odds 33 = .ok (.ldc2_w 334, 3) := by decide +kernel
theorem dX11_odds_36 : decode cX11_odds 36 = .ok (.lreturn, 1) := by decide +kernel
theorem dX11_odds_37 : decode cX11_odds 37 = .ok (.aload_n 0, 1) := by decide +kernel
theorem dX11_odds_38 : decode cX11_odds 38 = .ok (.getfield 26, 3) := by decide +kernel
theorem dX11_odds_41 : decode cX11_odds 41 = .ok (.getfield 103, 3) := by decide +kernel
theorem dX11_odds_44 : decode cX11_odds 44 = .ok (.iconst 4, 1) := by decide +kernel
theorem dX11_odds_45 : decode cX11_odds 45 = .ok (.if_icmp .le 9, 3) := by decide +kernel
theorem dX11_odds_48 : decode cX11_odds 48 = .ok (.ldc2_w 340, 3) := by decide +kernel
theorem dX11_odds_51 : decode cX11_odds 51 = .ok (.goto 13, 3) := by decide +kernel
theorem dX11_odds_54 : decode cX11_odds 54 = .ok (.aload_n 0, 1) := by decide +kernel
theorem dX11_odds_55 : decode cX11_odds 55 = .ok (.getfield 76, 3) := by decide +kernel
theorem dX11_odds_58 : decode cX11_odds 58 = .ok (.iload_n 1, 1) := by decide +kernel
theorem dX11_odds_59 : decode cX11_odds 59 = .ok (.iload_n 2, 1) := by decide +kernel
theorem dX11_odds_60 : decode cX11_odds 60 = .ok (.iload_n 3, 1) := by decide +kernel
theorem dX11_odds_61 : decode cX11_odds 61 = .ok (.invokevirtual 342, 3) := by decide +kernel
theorem dX11_odds_64 : decode cX11_odds 64 = .ok (.lreturn, 1) := by decide +kernel
theorem dX11_life_0 : decode cX11_life 0 = .ok (.iload_n 2, 1) := by decide +kernel
theorem dX11_life_1 : decode cX11_life 1 = .ok (.iconst 0, 1) := by decide +kernel
theorem dX11_life_2 : decode cX11_life 2 = .ok (.bipush 100, 2) := by decide +kernel
theorem dX11_life_4 : decode cX11_life 4 = .ok (.invokestatic 106, 3) := by decide +kernel
theorem dX11_life_7 : decode cX11_life 7 = .ok (.ifCond .eq 12, 3) := by decide +kernel
theorem dX11_life_10 : decode cX11_life 10 = .ok (.iload_n 3, 1) := by decide +kernel
theorem dX11_life_11 : decode cX11_life 11 = .ok (.iconst 0, 1) := by decide +kernel
theorem dX11_life_12 : decode cX11_life 12 = .ok (.iconst 4, 1) := by decide +kernel
theorem dX11_life_13 : decode cX11_life 13 = .ok (.invokestatic 106, 3) := by decide +kernel
theorem dX11_life_16 : decode cX11_life 16 = .ok (.ifCond .ne 5, 3) := by decide +kernel
theorem dX11_life_19 : decode cX11_life 19 = .ok (.iconst (-1), 1) := by decide +kernel
theorem dX11_life_20 : decode cX11_life 20 = .ok (.ireturn, 1) := by decide +kernel
theorem dX11_life_21 : decode cX11_life 21 = .ok (.aload_n 0, 1) := by decide +kernel
theorem dX11_life_22 : decode cX11_life 22 = .ok (.getfield 67, 3) := by decide +kernel
theorem dX11_life_25 : decode cX11_life 25 = .ok (.iload_n 1, 1) := by decide +kernel
theorem dX11_life_26 : decode cX11_life 26 = .ok (.iload_n 2, 1) := by decide +kernel
theorem dX11_life_27 : decode cX11_life 27 = .ok (.invokevirtual 345, 3) := by decide +kernel
theorem dX11_life_30 : decode cX11_life 30 = .ok (.astore 4, 2) := by decide +kernel
theorem dX11_life_32 : decode cX11_life 32 = .ok (.iload_n 3, 1) := by decide +kernel
theorem dX11_life_33 : decode cX11_life 33 = .ok (.tableswitch 72 0 3 #[31, 38, 45, 52], 31) := by decide +kernel
theorem dX11_life_64 : decode cX11_life 64 = .ok (.aload 4, 2) := by decide +kernel
theorem dX11_life_66 : decode cX11_life 66 = .ok (.iconst 1, 1) := by decide +kernel
theorem dX11_life_67 : decode cX11_life 67 = .ok (.invokevirtual 349, 3) := by decide +kernel
theorem dX11_life_70 : decode cX11_life 70 = .ok (.ireturn, 1) := by decide +kernel
theorem dX11_life_71 : decode cX11_life 71 = .ok (.aload 4, 2) := by decide +kernel
theorem dX11_life_73 : decode cX11_life 73 = .ok (.iconst 4, 1) := by decide +kernel
theorem dX11_life_74 : decode cX11_life 74 = .ok (.invokevirtual 349, 3) := by decide +kernel
theorem dX11_life_77 : decode cX11_life 77 = .ok (.ireturn, 1) := by decide +kernel
theorem dX11_life_78 : decode cX11_life 78 = .ok (.aload 4, 2) := by decide +kernel
theorem dX11_life_80 : decode cX11_life 80 = .ok (.iconst 5, 1) := by decide +kernel
theorem dX11_life_81 : decode cX11_life 81 = .ok (.invokevirtual 349, 3) := by decide +kernel
theorem dX11_life_84 : decode cX11_life 84 = .ok (.ireturn, 1) := by decide +kernel
theorem dX11_life_85 : decode cX11_life 85 = .ok (.iconst 1, 1) := by decide +kernel
theorem dX11_life_86 : decode cX11_life 86 = .ok (.aload_n 0, 1) := by decide +kernel
theorem dX11_life_87 : decode cX11_life 87 = .ok (.getfield 26, 3) := by decide +kernel
theorem dX11_life_90 : decode cX11_life 90 = .ok (.getfield 103, 3) := by decide +kernel
theorem dX11_life_93 : decode cX11_life 93 = .ok (.ishl, 1) := by decide +kernel
theorem dX11_life_94 : decode cX11_life 94 = .ok (.iconst 1, 1) := by decide +kernel
theorem dX11_life_95 : decode cX11_life 95 = .ok (.isub, 1) := by decide +kernel
theorem dX11_life_96 : decode cX11_life 96 = .ok (.aload 4, 2) := by decide +kernel
theorem dX11_life_98 : decode cX11_life 98 = .ok (.getfield 352, 3) := by decide +kernel
theorem dX11_life_101 : decode cX11_life 101 = .ok (.iconst (-1), 1) := by decide +kernel
theorem dX11_life_102 : decode cX11_life 102 = .ok (.ixor, 1) := by decide +kernel
theorem dX11_life_103 : decode cX11_life 103 = .ok (.iand, 1) := by decide +kernel
theorem dX11_life_104 : decode cX11_life 104 = .ok (.ireturn, 1) := by decide +kernel
theorem dX11_life_105 : decode cX11_life 105 = .ok (.aload 4, 2) := by decide +kernel
theorem dX11_life_107 : decode cX11_life 107 = .ok (.iconst 0, 1) := by decide +kernel
theorem dX11_life_108 : decode cX11_life 108 = .ok (.bipush 59, 2) := by decide +kernel
theorem dX11_life_110 : decode cX11_life 110 = .ok (.invokevirtual 271, 3) := by decide +kernel
theorem dX11_life_113 : decode cX11_life 113 = .ok (.ireturn, 1) := by decide +kernel
theorem dX11_chance_0 : decode cX11_chance 0 = .ok (.aload_n 0, 1) := by decide +kernel
theorem dX11_chance_1 : decode cX11_chance 1 = .ok (.iload_n 1, 1) := by decide +kernel
theorem dX11_chance_2 : decode cX11_chance 2 = .ok (.invokevirtual 148, 3) := by decide +kernel
theorem dX11_chance_5 : decode cX11_chance 5 = .ok (.ifCond .eq 24, 3) := by decide +kernel
theorem dX11_chance_8 : decode cX11_chance 8 = .ok (.iload_n 3, 1) := by decide +kernel
theorem dX11_chance_9 : decode cX11_chance 9 = .ok (.iconst 1, 1) := by decide +kernel
theorem dX11_chance_10 : decode cX11_chance 10 = .ok (.bipush 50, 2) := by decide +kernel
theorem dX11_chance_12 : decode cX11_chance 12 = .ok (.invokestatic 106, 3) := by decide +kernel
theorem dX11_chance_15 : decode cX11_chance 15 = .ok (.ifCond .eq 14, 3) := by decide +kernel
theorem dX11_chance_18 : decode cX11_chance 18 = .ok (.iload 4, 2) := by decide +kernel
theorem dX11_chance_20 : decode cX11_chance 20 = .ok (.iconst 0, 1) := by decide +kernel
theorem dX11_chance_21 : decode cX11_chance 21 = .ok (.bipush 100, 2) := by decide +kernel
theorem dX11_chance_23 : decode cX11_chance 23 = .ok (.invokestatic 106, 3) := by decide +kernel
theorem dX11_chance_26 : decode cX11_chance 26 = .ok (.ifCond .ne 5, 3) := by decide +kernel
theorem dX11_chance_29 : decode cX11_chance 29 = .ok (.iconst (-1), 1) := by decide +kernel
theorem dX11_chance_30 : decode cX11_chance 30 = .ok (.ireturn, 1) := by decide +kernel
theorem dX11_chance_31 : decode cX11_chance 31 = .ok (.iconst 0, 1) := by decide +kernel
theorem dX11_chance_32 : decode cX11_chance 32 = .ok (.istore 5, 2) := by decide +kernel
theorem dX11_chance_34 : decode cX11_chance 34 = .ok (.iconst 0, 1) := by decide +kernel
theorem dX11_chance_35 : decode cX11_chance 35 = .ok (.istore 6, 2) := by decide +kernel
theorem dX11_chance_37 : decode cX11_chance 37 = .ok (.iload 6, 2) := by decide +kernel
theorem dX11_chance_39 : decode cX11_chance 39 = .ok (.iload_n 3, 1) := by decide +kernel
theorem dX11_chance_40 : decode cX11_chance 40 = .ok (.if_icmp .ge 34, 3) := by decide +kernel
theorem dX11_chance_43 : decode cX11_chance 43 = .ok (.aload_n 0, 1) := by decide +kernel
theorem dX11_chance_44 : decode cX11_chance 44 = .ok (.getfield 67, 3) := by decide +kernel
theorem dX11_chance_47 : decode cX11_chance 47 = .ok (.iload_n 2, 1) := by decide +kernel
theorem dX11_chance_48 : decode cX11_chance 48 = .ok (.iload 6, 2) := by decide +kernel
theorem dX11_chance_50 : decode cX11_chance 50 = .ok (.iadd, 1) := by decide +kernel
theorem dX11_chance_51 : decode cX11_chance 51 = .ok (.iload 4, 2) := by decide +kernel
theorem dX11_chance_53 : decode cX11_chance 53 = .ok (.invokevirtual 345, 3) := by decide +kernel
theorem dX11_chance_56 : decode cX11_chance 56 = .ok (.getfield 229, 3) := by decide +kernel
theorem dX11_chance_59 : decode cX11_chance 59 = .ok (.iload_n 1, 1) := by decide +kernel
theorem dX11_chance_60 : decode cX11_chance 60 = .ok (.iaload, 1) := by decide +kernel
theorem dX11_chance_61 : decode cX11_chance 61 = .ok (.iconst 1, 1) := by decide +kernel
theorem dX11_chance_62 : decode cX11_chance 62 = .ok (.if_icmp .ne 6, 3) := by decide +kernel
theorem dX11_chance_65 : decode cX11_chance 65 = .ok (.iinc 5 1, 3) := by decide +kernel
theorem dX11_chance_68 : decode cX11_chance 68 = .ok (.iinc 6 1, 3) := by decide +kernel
theorem dX11_chance_71 : decode cX11_chance 71 = .ok (.goto (-34), 3) := by decide +kernel
theorem dX11_chance_74 : decode cX11_chance 74 = .ok (.iload 5, 2) := by decide +kernel
theorem dX11_chance_76 : decode cX11_chance 76 = .ok (.ireturn, 1) := by decide +kernel
theorem dX11_hold_0 : decode cX11_hold 0 = .ok (.iload_n 1, 1) := by decide +kernel
theorem dX11_hold_1 : decode cX11_hold 1 = .ok (.iconst 0, 1) := by decide +kernel
theorem dX11_hold_2 : decode cX11_hold 2 = .ok (.iconst 2, 1) := by decide +kernel
theorem dX11_hold_3 : decode cX11_hold 3 = .ok (.invokestatic 106, 3) := by decide +kernel
theorem dX11_hold_6 : decode cX11_hold 6 = .ok (.ifCond .ne 5, 3) := by decide +kernel
theorem dX11_hold_9 : decode cX11_hold 9 = .ok (.iconst 0, 1) := by decide +kernel
theorem dX11_hold_10 : decode cX11_hold 10 = .ok (.ireturn, 1) := by decide +kernel
theorem dX11_hold_11 : decode cX11_hold 11 = .ok (.aload_n 0, 1) := by decide +kernel
theorem dX11_hold_12 : decode cX11_hold 12 = .ok (.getfield 58, 3) := by decide +kernel
theorem dX11_hold_15 : decode cX11_hold 15 = .ok (.iload_n 1, 1) := by decide +kernel
theorem dX11_hold_16 : decode cX11_hold 16 = .ok (.aaload, 1) := by decide +kernel
theorem dX11_hold_17 : decode cX11_hold 17 = .ok (.aload_n 0, 1) := by decide +kernel
theorem dX11_hold_18 : decode cX11_hold 18 = .ok (.getfield 54, 3) := by decide +kernel
theorem dX11_hold_21 : decode cX11_hold 21 = .ok (.invokevirtual 355, 3) := by decide +kernel
theorem dX11_hold_24 : decode cX11_hold 24 = .ok (.aload_n 0, 1) := by decide +kernel
theorem dX11_hold_25 : decode cX11_hold 25 = .ok (.dup, 1) := by decide +kernel
theorem dX11_hold_26 : decode cX11_hold 26 = .ok (.getfield 87, 3) := by decide +kernel
theorem dX11_hold_29 : decode cX11_hold 29 = .ok (.iconst 1, 1) := by decide +kernel
theorem dX11_hold_30 : decode cX11_hold 30 = .ok (.iload_n 1, 1) := by decide +kernel
theorem dX11_hold_31 : decode cX11_hold 31 = .ok (.ishl, 1) := by decide +kernel
theorem dX11_hold_32 : decode cX11_hold 32 = .ok (.ior, 1) := by decide +kernel
theorem dX11_hold_33 : decode cX11_hold 33 = .ok (.putfield 87, 3) := by decide +kernel
theorem dX11_hold_36 : decode cX11_hold 36 = .ok (.iconst 1, 1) := by decide +kernel
theorem dX11_hold_37 : decode cX11_hold 37 = .ok (.ireturn, 1) := by decide +kernel
theorem dX11_restore_0 : decode cX11_restore 0 = .ok (.iload_n 1, 1) := by decide +kernel
theorem dX11_restore_1 : decode cX11_restore 1 = .ok (.iconst 0, 1) := by decide +kernel
theorem dX11_restore_2 : decode cX11_restore 2 = .ok (.iconst 2, 1) := by decide +kernel
theorem dX11_restore_3 : decode cX11_restore 3 = .ok (.invokestatic 106, 3) := by decide +kernel
theorem dX11_restore_6 : decode cX11_restore 6 = .ok (.ifCond .eq 14, 3) := by decide +kernel
theorem dX11_restore_9 : decode cX11_restore 9 = .ok (.aload_n 0, 1) := by decide +kernel
theorem dX11_restore_10 : decode cX11_restore 10 = .ok (.getfield 87, 3) := by decide +kernel
theorem dX11_restore_13 : decode cX11_restore 13 = .ok (.iload_n 1, 1) := by decide +kernel
theorem dX11_restore_14 : decode cX11_restore 14 = .ok (.invokestatic 196, 3) := by decide +kernel
theorem dX11_restore_17 : decode cX11_restore 17 = .ok (.ifCond .ne 5, 3) := by decide +kernel
theorem dX11_restore_20 : decode cX11_restore 20 = .ok (.iconst 0, 1) := by decide +kernel
theorem dX11_restore_21 : decode cX11_restore 21 = .ok (.ireturn, 1) := by decide +kernel
theorem dX11_restore_22 : decode cX11_restore 22 = .ok (.aload_n 0, 1) := by decide +kernel
theorem dX11_restore_23 : decode cX11_restore 23 = .ok (.getfield 54, 3) := by decide +kernel
theorem dX11_restore_26 : decode cX11_restore 26 = .ok (.aload_n 0, 1) := by decide +kernel
theorem dX11_restore_27 : decode cX11_restore 27 = .ok (.getfield 58, 3) := by decide +kernel
theorem dX11_restore_30 : decode cX11_restore 30 = .ok (.iload_n 1, 1) := by decide +kernel
theorem dX11_restore_31 : decode cX11_restore 31 = .ok (.aaload, 1) := by decide +kernel
theorem dX11_restore_32 : decode cX11_restore 32 = .ok (.invokevirtual 355, 3) := by decide +kernel
theorem dX11_restore_35 : decode cX11_restore 35 = .ok (.iconst 1, 1) := by decide +kernel
theorem dX11_restore_36 : decode cX11_restore 36 = .ok (.ireturn, 1) := by decide +kernel
theorem dX11_count_0 : decode cX11_count 0 = .ok (.iload_n 1, 1) := by decide +kernel
theorem dX11_count_1 : decode cX11_count 1 = .ok (.tableswitch 111 0 7 #[47, 55, 63, 71, 79, 87, 95, 103], 47) := by decide +kernel
theorem dX11_count_48 : decode cX11_count 48 = .ok (.aload_n 0, 1) := by decide +kernel
theorem dX11_count_49 : decode cX11_count 49 = .ok (.getfield 26, 3) := by decide +kernel
theorem dX11_count_52 : decode cX11_count 52 = .ok (.getfield 103, 3) := by decide +kernel
theorem dX11_count_55 : decode cX11_count 55 = .ok (.ireturn, 1) := by decide +kernel
theorem dX11_count_56 : decode cX11_count 56 = .ok (.aload_n 0, 1) := by decide +kernel
theorem dX11_count_57 : decode cX11_count 57 = .ok (.getfield 26, 3) := by decide +kernel
theorem dX11_count_60 : decode cX11_count 60 = .ok (.getfield 189, 3) := by decide +kernel
theorem dX11_count_63 : decode cX11_count 63 = .ok (.ireturn, 1) := by decide +kernel
theorem dX11_count_64 : decode cX11_count 64 = .ok (.aload_n 0, 1) := by decide +kernel
theorem dX11_count_65 : decode cX11_count 65 = .ok (.getfield 26, 3) := by decide +kernel
theorem dX11_count_68 : decode cX11_count 68 = .ok (.getfield 110, 3) := by decide +kernel
theorem dX11_count_71 : decode cX11_count 71 = .ok (.ireturn, 1) := by decide +kernel
theorem dX11_count_72 : decode cX11_count 72 = .ok (.aload_n 0, 1) := by decide +kernel
theorem dX11_count_73 : decode cX11_count 73 = .ok (.getfield 26, 3) := by decide +kernel
theorem dX11_count_76 : decode cX11_count 76 = .ok (.getfield 358, 3) := by decide +kernel
theorem dX11_count_79 : decode cX11_count 79 = .ok (.ireturn, 1) := by decide +kernel
theorem dX11_count_80 : decode cX11_count 80 = .ok (.aload_n 0, 1) := by decide +kernel
theorem dX11_count_81 : decode cX11_count 81 = .ok (.getfield 26, 3) := by decide +kernel
theorem dX11_count_84 : decode cX11_count 84 = .ok (.getfield 252, 3) := by decide +kernel
theorem dX11_count_87 : decode cX11_count 87 = .ok (.ireturn, 1) := by decide +kernel
theorem dX11_count_88 : decode cX11_count 88 = .ok (.aload_n 0, 1) := by decide +kernel
theorem dX11_count_89 : decode cX11_count 89 = .ok (.getfield 54, 3) := by decide +kernel
theorem dX11_count_92 : decode cX11_count 92 = .ok (.getfield 113, 3) := by decide +kernel
theorem dX11_count_95 : decode cX11_count 95 = .ok (.ireturn, 1) := by decide +kernel
theorem dX11_count_96 : decode cX11_count 96 = .ok (.aload_n 0, 1) := by decide +kernel
theorem dX11_count_97 : decode cX11_count 97 = .ok (.getfield 10, 3) := by decide +kernel
theorem dX11_count_100 : decode cX11_count 100 = .ok (.getfield 124, 3) := by decide +kernel
theorem dX11_count_103 : decode cX11_count 103 = .ok (.ireturn, 1) := by decide +kernel
theorem dX11_count_104 : decode cX11_count 104 = .ok (.aload_n 0, 1) := by decide +kernel
theorem dX11_count_105 : decode cX11_count 105 = .ok (.getfield 87, 3) := by decide +kernel
theorem dX11_count_108 : decode cX11_count 108 = .ok (.invokestatic 299, 3) := by decide +kernel
theorem dX11_count_111 : decode cX11_count 111 = .ok (.ireturn, 1) := by decide +kernel
theorem dX11_count_112 : decode cX11_count 112 = .ok (.iconst (-1), 1) := by decide +kernel
theorem dX11_count_113 : decode cX11_count 113 = .ok (.ireturn, 1) := by decide +kernel
theorem dX12_init_0 : decode cX12_init 0 = .ok (.aload_n 0, 1) := by decide +kernel
theorem dX12_init_1 : decode cX12_init 1 = .ok (.invokespecial 7, 3) := by decide +kernel
theorem dX12_init_4 : decode cX12_init 4 = .ok (.aload_n 0, 1) := by decide +kernel
theorem dX12_init_5 : decode cX12_init 5 = .ok (.sipush 2000, 3) := by decide +kernel
theorem dX12_init_8 : decode cX12_init 8 = .ok (.newarray .byte, 2) := by decide +kernel
theorem dX12_init_10 : decode cX12_init 10 = .ok (.putfield 13, 3) := by decide +kernel
theorem dX12_init_13 : decode cX12_init 13 = .ok (.aload_n 0, 1) := by decide +kernel
theorem dX12_init_14 : decode cX12_init 14 = .ok (.sipush 2000, 3) := by decide +kernel
theorem dX12_init_17 : decode cX12_init 17 = .ok (.newarray .byte, 2) := by decide +kernel
theorem dX12_init_19 : decode cX12_init 19 = .ok (.putfield 17, 3) := by decide +kernel
theorem dX12_init_22 : decode cX12_init 22 = .ok (.aload_n 0, 1) := by decide +kernel
theorem dX12_init_23 : decode cX12_init 23 = .ok (.sipush 403, 3) := by decide +kernel
theorem dX12_init_26 : decode cX12_init 26 = .ok (.newarray .int, 2) := by decide +kernel
theorem dX12_init_28 : decode cX12_init 28 = .ok (.putfield 20, 3) := by decide +kernel
theorem dX12_init_31 : decode cX12_init 31 = .ok (.aload_n 0, 1) := by decide +kernel
theorem dX12_init_32 : decode cX12_init 32 = .ok (.sipush 403, 3) := by decide +kernel
theorem dX12_init_35 : decode cX12_init 35 = .ok (.newarray .int, 2) := by decide +kernel
theorem dX12_init_37 : decode cX12_init 37 = .ok (.putfield 24, 3) := by decide +kernel
theorem dX12_init_40 : decode cX12_init 40 = .ok (.aload_n 0, 1) := by decide +kernel
theorem dX12_init_41 : decode cX12_init 41 = .ok (.sipush 403, 3) := by decide +kernel
theorem dX12_init_44 : decode cX12_init 44 = .ok (.newarray .int, 2) := by decide +kernel
theorem dX12_init_46 : decode cX12_init 46 = .ok (.putfield 27, 3) := by decide +kernel
theorem dX12_init_49 : decode cX12_init 49 = .ok (.aload_n 0, 1) := by decide +kernel
theorem dX12_init_50 : decode cX12_init 50 = .ok (.sipush 403, 3) := by decide +kernel
theorem dX12_init_53 : decode cX12_init 53 = .ok (.newarray .long, 2) := by decide +kernel
theorem dX12_init_55 : decode cX12_init 55 = .ok (.putfield 30, 3) := by decide +kernel
theorem dX12_init_58 : decode cX12_init 58 = .ok (.aload_n 0, 1) := by decide +kernel
theorem dX12_init_59 : decode cX12_init 59 = .ok (.bipush 18, 2) := by decide +kernel
theorem dX12_init_61 : decode cX12_init 61 = .ok (.newarray .long, 2) := by decide +kernel
theorem dX12_init_63 : decode cX12_init 63 = .ok (.putfield 34, 3) := by decide +kernel
theorem dX12_init_66 : decode cX12_init 66 = .ok (.aload_n 0, 1) := by decide +kernel
theorem dX12_init_67 : decode cX12_init 67 = .ok (.iconst (-1), 1) := by decide +kernel
theorem dX12_init_68 : decode cX12_init 68 = .ok (.putfield 37, 3) := by decide +kernel
theorem dX12_init_71 : decode cX12_init 71 = .ok (.aload_n 0, 1) := by decide +kernel
theorem dX12_init_72 : decode cX12_init 72 = .ok (.bipush 24, 2) := by decide +kernel
theorem dX12_init_74 : decode cX12_init 74 = .ok (.newarray .long, 2) := by decide +kernel
theorem dX12_init_76 : decode cX12_init 76 = .ok (.putfield 40, 3) := by decide +kernel
theorem dX12_init_79 : decode cX12_init 79 = .ok (.aload_n 0, 1) := by decide +kernel
theorem dX12_init_80 : decode cX12_init 80 = .ok (.bipush 24, 2) := by decide +kernel
theorem dX12_init_82 : decode cX12_init 82 = .ok (.newarray .int, 2) := by decide +kernel
theorem dX12_init_84 : decode cX12_init 84 = .ok (.putfield 43, 3) := by decide +kernel
theorem dX12_init_87 : decode cX12_init 87 = .ok (.aload_n 0, 1) := by decide +kernel
theorem dX12_init_88 : decode cX12_init 88 = .ok (.bipush 24, 2) := by decide +kernel
theorem dX12_init_90 : decode cX12_init 90 = .ok (.newarray .int, 2) := by decide +kernel
theorem dX12_init_92 : decode cX12_init 92 = .ok (.putfield 46, 3) := by decide +kernel
theorem dX12_init_95 : decode cX12_init 95 = .ok (.aload_n 0, 1) := by decide +kernel
theorem dX12_init_96 : decode cX12_init 96 = .ok (.iconst 2, 1) := by decide +kernel
theorem dX12_init_97 : decode cX12_init 97 = .ok (.newarray .int, 2) := by decide +kernel
theorem dX12_init_99 : decode cX12_init 99 = .ok (.putfield 49, 3) := by decide +kernel
theorem dX12_init_102 : decode cX12_init 102 = .ok (.aload_n 0, 1) := by decide +kernel
theorem dX12_init_103 : decode cX12_init 103 = .ok (.bipush 20, 2) := by decide +kernel
theorem dX12_init_105 : decode cX12_init 105 = .ok (.newarray .int, 2) := by decide +kernel
theorem dX12_init_107 : decode cX12_init 107 = .ok (.putfield 52, 3) := by decide +kernel
theorem dX12_init_110 : decode cX12_init 110 = .ok (.aload_n 0, 1) := by decide +kernel
theorem dX12_init_111 : decode cX12_init 111 = .ok (.iconst 2, 1) := by decide +kernel
theorem dX12_init_112 : decode cX12_init 112 = .ok (.newarray .int, 2) := by decide +kernel
theorem dX12_init_114 : decode cX12_init 114 = .ok (.putfield 55, 3) := by decide +kernel
theorem dX12_init_117 : decode cX12_init 117 = .ok (.aload_n 0, 1) := by decide +kernel
theorem dX12_init_118 : decode cX12_init 118 = .ok (.iconst 2, 1) := by decide +kernel
theorem dX12_init_119 : decode cX12_init 119 = .ok (.newarray .int, 2) := by decide +kernel
theorem dX12_init_121 : decode cX12_init 121 = .ok (.putfield 58, 3) := by decide +kernel
theorem dX12_init_124 : decode cX12_init 124 = .ok (.aload_n 0, 1) := by decide +kernel
theorem dX12_init_125 : decode cX12_init 125 = .ok (.bipush 24, 2) := by decide +kernel
theorem dX12_init_127 : decode cX12_init 127 = .ok (.newarray .int, 2) := by decide +kernel
theorem dX12_init_129 : decode cX12_init 129 = .ok (.putfield 61, 3) := by decide +kernel
theorem dX12_init_132 : decode cX12_init 132 = .ok (.aload_n 0, 1) := by decide +kernel
theorem dX12_init_133 : decode cX12_init 133 = .ok (.bipush 24, 2) := by decide +kernel
theorem dX12_init_135 : decode cX12_init 135 = .ok (.newarray .int, 2) := by decide +kernel
theorem dX12_init_137 : decode cX12_init 137 = .ok (.putfield 64, 3) := by decide +kernel
theorem dX12_init_140 : decode cX12_init 140 = .ok (.aload_n 0, 1) := by decide +kernel
theorem dX12_init_141 : decode cX12_init 141 = .ok (.iconst 2, 1) := by decide +kernel
theorem dX12_init_142 : decode cX12_init 142 = .ok (.newarray .int, 2) := by decide +kernel
theorem dX12_init_144 : decode cX12_init 144 = .ok (.putfield 67, 3) := by decide +kernel
theorem dX12_init_147 : decode cX12_init 147 = .ok (.aload_n 0, 1) := by decide +kernel
theorem dX12_init_148 : decode cX12_init 148 = .ok (.bipush 20, 2) := by decide +kernel
theorem dX12_init_150 : decode cX12_init 150 = .ok (.newarray .int, 2) := by decide +kernel
theorem dX12_init_152 : decode cX12_init 152 = .ok (.putfield 70, 3) := by decide +kernel
theorem dX12_init_155 : decode cX12_init 155 = .ok (.aload_n 0, 1) := by decide +kernel
theorem dX12_init_156 : decode cX12_init 156 = .ok (.bipush 20, 2) := by decide +kernel
theorem dX12_init_158 : decode cX12_init 158 = .ok (.newarray .int, 2) := by decide +kernel
theorem dX12_init_160 : decode cX12_init 160 = .ok (.putfield 73, 3) := by decide +kernel
theorem dX12_init_163 : decode cX12_init 163 = .ok (.aload_n 0, 1) := by decide +kernel
theorem dX12_init_164 : decode cX12_init 164 = .ok (.bipush 20, 2) := by decide +kernel
theorem dX12_init_166 : decode cX12_init 166 = .ok (.newarray .int, 2) := by decide +kernel
theorem dX12_init_168 : decode cX12_init 168 = .ok (.putfield 76, 3) := by decide +kernel
theorem dX12_init_171 : decode cX12_init 171 = .ok (.aload_n 0, 1) := by decide +kernel
theorem dX12_init_172 : decode cX12_init 172 = .ok (.bipush 20, 2) := by decide +kernel
theorem dX12_init_174 : decode cX12_init 174 = .ok (.newarray .int, 2) := by decide +kernel
theorem dX12_init_176 : decode cX12_init 176 = .ok (.putfield 79, 3) := by decide +kernel
theorem dX12_init_179 : decode cX12_init 179 = .ok (.aload_n 0, 1) := by decide +kernel
theorem dX12_init_180 : decode cX12_init 180 = .ok (.bipush 20, 2) := by decide +kernel
theorem dX12_init_182 : decode cX12_init 182 = .ok (.newarray .int, 2) := by decide +kernel
theorem dX12_init_184 : decode cX12_init 184 = .ok (.putfield 82, 3) := by decide +kernel
theorem dX12_init_187 : decode cX12_init 187 = .ok (.aload_n 0, 1) := by decide +kernel
theorem dX12_init_188 : decode cX12_init 188 = .ok (.bipush 20, 2) := by decide +kernel
theorem dX12_init_190 : decode cX12_init 190 = .ok (.newarray .int, 2) := by decide +kernel
theorem dX12_init_192 : decode cX12_init 192 = .ok (.putfield 85, 3) := by decide +kernel
theorem dX12_init_195 : decode cX12_init 195 = .ok (.aload_n 0, 1) := by decide +kernel
theorem dX12_init_196 : decode cX12_init 196 = .ok (.bipush 20, 2) := by decide +kernel
theorem dX12_init_198 : decode cX12_init 198 = .ok (.newarray .int, 2) := by decide +kernel
theorem dX12_init_200 : decode cX12_init 200 = .ok (.putfield 88, 3) := by decide +kernel
theorem dX12_init_203 : decode cX12_init 203 = .ok (.aload_n 0, 1) := by decide +kernel
theorem dX12_init_204 : decode cX12_init 204 = .ok (.iconst 2, 1) := by decide +kernel
theorem dX12_init_205 : decode cX12_init 205 = .ok (.newarray .int, 2) := by decide +kernel
theorem dX12_init_207 : decode cX12_init 207 = .ok (.putfield 91, 3) := by decide +kernel
theorem dX12_init_210 : decode cX12_init 210 = .ok (.aload_n 0, 1) := by decide +kernel
theorem dX12_init_211 : decode cX12_init 211 = .ok (.bipush 6, 2) := by decide +kernel
theorem dX12_init_213 : decode cX12_init 213 = .ok (.newarray .boolean, 2) := by decide +kernel
theorem dX12_init_215 : decode cX12_init 215 = .ok (.putfield 94, 3) := by decide +kernel
theorem dX12_init_218 : decode cX12_init 218 = .ok (.aload_n 0, 1) := by decide +kernel
theorem dX12_init_219 : decode cX12_init 219 = .ok (.bipush 6, 2) := by decide +kernel
theorem dX12_init_221 : decode cX12_init 221 = .ok (.newarray .int, 2) := by decide +kernel
theorem dX12_init_223 : decode cX12_init 223 = .ok (.putfield 98, 3) := by decide +kernel
theorem dX12_init_226 : decode cX12_init 226 = .ok (.aload_n 0, 1) := by decide +kernel
theorem dX12_init_227 : decode cX12_init 227 = .ok (.bipush 6, 2) := by decide +kernel
theorem dX12_init_229 : decode cX12_init 229 = .ok (.newarray .int, 2) := by decide +kernel
theorem dX12_init_231 : decode cX12_init 231 = .ok (.putfield 101, 3) := by decide +kernel
theorem dX12_init_234 : decode cX12_init 234 = .ok (.aload_n 0, 1) := by decide +kernel
theorem dX12_init_235 : decode cX12_init 235 = .ok (.sipush 300, 3) := by decide +kernel
theorem dX12_init_238 : decode cX12_init 238 = .ok (.newarray .int, 2) := by decide +kernel
theorem dX12_init_240 : decode cX12_init 240 = .ok (.putfield 104, 3) := by decide +kernel
theorem dX12_init_243 : decode cX12_init 243 = .ok (.aload_n 0, 1) := by decide +kernel
theorem dX12_init_244 : decode cX12_init 244 = .ok (.sipush 300, 3) := by decide +kernel
theorem dX12_init_247 : decode cX12_init 247 = .ok (.newarray .boolean, 2) := by decide +kernel
theorem dX12_init_249 : decode cX12_init 249 = .ok (.putfield 107, 3) := by decide +kernel
theorem dX12_init_252 : decode cX12_init 252 = .ok (.aload_n 0, 1) := by decide +kernel
theorem dX12_init_253 : decode cX12_init 253 = .ok (.sipush 300, 3) := by decide +kernel
theorem dX12_init_256 : decode cX12_init 256 = .ok (.newarray .boolean, 2) := by decide +kernel
theorem dX12_init_258 : decode cX12_init 258 = .ok (.putfield 110, 3) := by decide +kernel
theorem dX12_init_261 : decode cX12_init 261 = .ok (.aload_n 0, 1) := by decide +kernel
theorem dX12_init_262 : decode cX12_init 262 = .ok (.sipush 300, 3) := by decide +kernel
theorem dX12_init_265 : decode cX12_init 265 = .ok (.newarray .int, 2) := by decide +kernel
theorem dX12_init_267 : decode cX12_init 267 = .ok (.putfield 113, 3) := by decide +kernel
theorem dX12_init_270 : decode cX12_init 270 = .ok (.aload_n 0, 1) := by decide +kernel
theorem dX12_init_271 : decode cX12_init 271 = .ok (.sipush 300, 3) := by decide +kernel
theorem dX12_init_274 : decode cX12_init 274 = .ok (.newarray .int, 2) := by decide +kernel
theorem dX12_init_276 : decode cX12_init 276 = .ok (.putfield 116, 3) := by decide +kernel
theorem dX12_init_279 : decode cX12_init 279 = .ok (.aload_n 0, 1) := by decide +kernel
theorem dX12_init_280 : decode cX12_init 280 = .ok (.sipush 300, 3) := by decide +kernel
theorem dX12_init_283 : decode cX12_init 283 = .ok (.newarray .int, 2) := by decide +kernel
theorem dX12_init_285 : decode cX12_init 285 = .ok (.putfield 119, 3) := by decide +kernel
theorem dX12_init_288 : decode cX12_init 288 = .ok (.aload_n 0, 1) := by decide +kernel
theorem dX12_init_289 : decode cX12_init 289 = .ok (.sipush 840, 3) := by decide +kernel
theorem dX12_init_292 : decode cX12_init 292 = .ok (.newarray .int, 2) := by decide +kernel
theorem dX12_init_294 : decode cX12_init 294 = .ok (.putfield 122, 3) := by decide +kernel
theorem dX12_init_297 : decode cX12_init 297 = .ok (.aload_n 0, 1) := by decide +kernel
theorem dX12_init_298 : decode cX12_init 298 = .ok (.sipush 840, 3) := by decide +kernel
theorem dX12_init_301 : decode cX12_init 301 = .ok (.newarray .int, 2) := by decide +kernel
theorem dX12_init_303 : decode cX12_init 303 = .ok (.putfield 125, 3) := by decide +kernel
theorem dX12_init_306 : decode cX12_init 306 = .ok (.aload_n 0, 1) := by decide +kernel
theorem dX12_init_307 : decode cX12_init 307 = .ok (.bipush 64, 2) := by decide +kernel
theorem dX12_init_309 : decode cX12_init 309 = .ok (.newarray .int, 2) := by decide +kernel
theorem dX12_init_311 : decode cX12_init 311 = .ok (.putfield 128, 3) := by decide +kernel
theorem dX12_init_314 : decode cX12_init 314 = .ok (.aload_n 0, 1) := by decide +kernel
theorem dX12_init_315 : decode cX12_init 315 = .ok (.iconst 4, 1) := by decide +kernel
theorem dX12_init_316 : decode cX12_init 316 = .ok (.newarray .int, 2) := by decide +kernel
theorem dX12_init_318 : decode cX12_init 318 = .ok (.putfield 131, 3) := by decide +kernel
theorem dX12_init_321 : decode cX12_init 321 = .ok (.aload_n 0, 1) := by decide +kernel
theorem dX12_init_322 : decode cX12_init 322 = .ok (.sipush 400, 3) := by decide +kernel
theorem dX12_init_325 : decode cX12_init 325 = .ok (.newarray .int, 2) := by decide +kernel
theorem dX12_init_327 : decode cX12_init 327 = .ok (.putfield 134, 3) := by decide +kernel
theorem dX12_init_330 : decode cX12_init 330 = .ok (.aload_n 0, 1) := by decide +kernel
theorem dX12_init_331 : decode cX12_init 331 = .ok (.bipush 60, 2) := by decide +kernel
theorem dX12_init_333 : decode cX12_init 333 = .ok (.newarray .int, 2) := by decide +kernel
theorem dX12_init_335 : decode cX12_init 335 = .ok (.putfield 137, 3) := by decide +kernel
theorem dX12_init_338 : decode cX12_init 338 = .ok (.aload_n 0, 1) := by decide +kernel
theorem dX12_init_339 : decode cX12_init 339 = .ok (.bipush 60, 2) := by decide +kernel
theorem dX12_init_341 : decode cX12_init 341 = .ok (.newarray .int, 2) := by decide +kernel
theorem dX12_init_343 : decode cX12_init 343 = .ok (.putfield 140, 3) := by decide +kernel
theorem dX12_init_346 : decode cX12_init 346 = .ok (.aload_n 0, 1) := by decide +kernel
theorem dX12_init_347 : decode cX12_init 347 = .ok (.bipush 60, 2) := by decide +kernel
theorem dX12_init_349 : decode cX12_init 349 = .ok (.newarray .int, 2) := by decide +kernel
theorem dX12_init_351 : decode cX12_init 351 = .ok (.putfield 143, 3) := by decide +kernel
theorem dX12_init_354 : decode cX12_init 354 = .ok (.aload_n 0, 1) := by decide +kernel
theorem dX12_init_355 : decode cX12_init 355 = .ok (.bipush 60, 2) := by decide +kernel
theorem dX12_init_357 : decode cX12_init 357 = .ok (.newarray .int, 2) := by decide +kernel
theorem dX12_init_359 : decode cX12_init 359 = .ok (.putfield 146, 3) := by decide +kernel
theorem dX12_init_362 : decode cX12_init 362 = .ok (.aload_n 0, 1) := by decide +kernel
theorem dX12_init_363 : decode cX12_init 363 = .ok (.bipush 10, 2) := by decide +kernel
theorem dX12_init_365 : decode cX12_init 365 = .ok (.newarray .int, 2) := by decide +kernel
theorem dX12_init_367 : decode cX12_init 367 = .ok (.putfield 149, 3) := by decide +kernel
theorem dX12_init_370 : decode cX12_init 370 = .ok (.aload_n 0, 1) := by decide +kernel
theorem dX12_init_371 : decode cX12_init 371 = .ok (.bipush 10, 2) := by decide +kernel
theorem dX12_init_373 : decode cX12_init 373 = .ok (.newarray .int, 2) := by decide +kernel
theorem dX12_init_375 : decode cX12_init 375 = .ok (.putfield 152, 3) := by decide +kernel
theorem dX12_init_378 : decode cX12_init 378 = .ok (.aload_n 0, 1) := by decide +kernel
theorem dX12_init_379 : decode cX12_init 379 = .ok (.bipush 10, 2) := by decide +kernel
theorem dX12_init_381 : decode cX12_init 381 = .ok (.newarray .int, 2) := by decide +kernel
theorem dX12_init_383 : decode cX12_init 383 = .ok (.putfield 155, 3) := by decide +kernel
theorem dX12_init_386 : decode cX12_init 386 = .ok (.aload_n 0, 1) := by decide +kernel
theorem dX12_init_387 : decode cX12_init 387 = .ok (.bipush 10, 2) := by decide +kernel
theorem dX12_init_389 : decode cX12_init 389 = .ok (.newarray .int, 2) := by decide +kernel
theorem dX12_init_391 : decode cX12_init 391 = .ok (.putfield 158, 3) := by decide +kernel
theorem dX12_init_394 : decode cX12_init 394 = .ok (.aload_n 0, 1) := by decide +kernel
theorem dX12_init_395 : decode cX12_init 395 = .ok (.bipush 10, 2) := by decide +kernel
theorem dX12_init_397 : decode cX12_init 397 = .ok (.newarray .int, 2) := by decide +kernel
theorem dX12_init_399 : decode cX12_init 399 = .ok (.putfield 161, 3) := by decide +kernel
theorem dX12_init_402 : decode cX12_init 402 = .ok (.aload_n 0, 1) := by decide +kernel
theorem dX12_init_403 : decode cX12_init 403 = .ok (.bipush 60, 2) := by decide +kernel
theorem dX12_init_405 : decode cX12_init 405 = .ok (.newarray .int, 2) := by decide +kernel
theorem dX12_init_407 : decode cX12_init 407 = .ok (.putfield 164, 3) := by decide +kernel
theorem dX12_init_410 : decode cX12_init 410 = .ok (.aload_n 0, 1) := by decide +kernel
theorem dX12_init_411 : decode cX12_init 411 = .ok (.bipush 10, 2) := by decide +kernel
theorem dX12_init_413 : decode cX12_init 413 = .ok (.newarray .int, 2) := by decide +kernel
theorem dX12_init_415 : decode cX12_init 415 = .ok (.putfield 167, 3) := by decide +kernel
theorem dX12_init_418 : decode cX12_init 418 = .ok (.aload_n 0, 1) := by decide +kernel
theorem dX12_init_419 : decode cX12_init 419 = .ok (.bipush 60, 2) := by decide +kernel
theorem dX12_init_421 : decode cX12_init 421 = .ok (.newarray .boolean, 2) := by decide +kernel
theorem dX12_init_423 : decode cX12_init 423 = .ok (.putfield 170, 3) := by decide +kernel
theorem dX12_init_426 : decode cX12_init 426 = .ok (.aload_n 0, 1) := by decide +kernel
theorem dX12_init_427 : decode cX12_init 427 = .ok (.bipush 10, 2) := by decide +kernel
theorem dX12_init_429 : decode cX12_init 429 = .ok (.newarray .int, 2) := by decide +kernel
theorem dX12_init_431 : decode cX12_init 431 = .ok (.putfield 173, 3) := by decide +kernel
theorem dX12_init_434 : decode cX12_init 434 = .ok (.aload_n 0, 1) := by decide +kernel
theorem dX12_init_435 : decode cX12_init 435 = .ok (.bipush 10, 2) := by decide +kernel
theorem dX12_init_437 : decode cX12_init 437 = .ok (.newarray .int, 2) := by decide +kernel
theorem dX12_init_439 : decode cX12_init 439 = .ok (.putfield 176, 3) := by decide +kernel
theorem dX12_init_442 : decode cX12_init 442 = .ok (.aload_n 0, 1) := by decide +kernel
theorem dX12_init_443 : decode cX12_init 443 = .ok (.bipush 10, 2) := by decide +kernel
theorem dX12_init_445 : decode cX12_init 445 = .ok (.newarray .int, 2) := by decide +kernel
theorem dX12_init_447 : decode cX12_init 447 = .ok (.putfield 179, 3) := by decide +kernel
theorem dX12_init_450 : decode cX12_init 450 = .ok (.aload_n 0, 1) := by decide +kernel
theorem dX12_init_451 : decode cX12_init 451 = .ok (.sipush 2048, 3) := by decide +kernel
theorem dX12_init_454 : decode cX12_init 454 = .ok (.newarray .boolean, 2) := by decide +kernel
theorem dX12_init_456 : decode cX12_init 456 = .ok (.putfield 182, 3) := by decide +kernel
theorem dX12_init_459 : decode cX12_init 459 = .ok (.aload_n 0, 1) := by decide +kernel
theorem dX12_init_460 : decode cX12_init 460 = .ok (.sipush 2048, 3) := by decide +kernel
theorem dX12_init_463 : decode cX12_init 463 = .ok (.newarray .boolean, 2) := by decide +kernel
theorem dX12_init_465 : decode cX12_init 465 = .ok (.putfield 185, 3) := by decide +kernel
theorem dX12_init_468 : decode cX12_init 468 = .ok (.aload_n 0, 1) := by decide +kernel
theorem dX12_init_469 : decode cX12_init 469 = .ok (.sipush 2048, 3) := by decide +kernel
theorem dX12_init_472 : decode cX12_init 472 = .ok (.newarray .int, 2) := by decide +kernel
theorem dX12_init_474 : decode cX12_init 474 = .ok (.putfield 188, 3) := by decide +kernel
theorem dX12_init_477 : decode cX12_init 477 = .ok (.aload_n 0, 1) := by decide +kernel
theorem dX12_init_478 : decode cX12_init 478 = .ok (.sipush 16384, 3) := by decide +kernel
theorem dX12_init_481 : decode cX12_init 481 = .ok (.newarray .long, 2) := by decide +kernel
theorem dX12_init_483 : decode cX12_init 483 = .ok (.putfield 191, 3) := by decide +kernel
theorem dX12_init_486 : decode cX12_init 486 = .ok (.aload_n 0, 1) := by decide +kernel
theorem dX12_init_487 : decode cX12_init 487 = .ok (.sipush 16384, 3) := by decide +kernel
theorem dX12_init_490 : decode cX12_init 490 = .ok (.newarray .long, 2) := by decide +kernel
theorem dX12_init_492 : decode cX12_init 492 = .ok (.putfield 194, 3) := by decide +kernel
theorem dX12_init_495 : decode cX12_init 495 = .ok (.aload_n 0, 1) := by decide +kernel
theorem dX12_init_496 : decode cX12_init 496 = .ok (.iconst 3, 1) := by decide +kernel
theorem dX12_init_497 : decode cX12_init 497 = .ok (.newarray .int, 2) := by decide +kernel
theorem dX12_init_499 : decode cX12_init 499 = .ok (.dup, 1) := by decide +kernel
theorem dX12_init_500 : decode cX12_init 500 = .ok (.iconst 0, 1) := by decide +kernel
theorem dX12_init_501 : decode cX12_init 501 = .ok (.iconst (-1), 1) := by decide +kernel
theorem dX12_init_502 : decode cX12_init 502 = .ok (.iastore, 1) := by decide +kernel
theorem dX12_init_503 : decode cX12_init 503 = .ok (.dup, 1) := by decide +kernel
theorem dX12_init_504 : decode cX12_init 504 = .ok (.iconst 1, 1) := by decide +kernel
theorem dX12_init_505 : decode cX12_init 505 = .ok (.iconst (-1), 1) := by decide +kernel
theorem dX12_init_506 : decode cX12_init 506 = .ok (.iastore, 1) := by decide +kernel
theorem dX12_init_507 : decode cX12_init 507 = .ok (.dup, 1) := by decide +kernel
theorem dX12_init_508 : decode cX12_init 508 = .ok (.iconst 2, 1) := by decide +kernel
theorem dX12_init_509 : decode cX12_init 509 = .ok (.iconst (-1), 1) := by decide +kernel
theorem dX12_init_510 : decode cX12_init 510 = .ok (.iastore, 1) := by decide +kernel
theorem dX12_init_511 : decode cX12_init 511 = .ok (.putfield 197, 3) := by decide +kernel
theorem dX12_init_514 : decode cX12_init 514 = .ok (.aload_n 0, 1) := by decide +kernel
theorem dX12_init_515 : decode cX12_init 515 = .ok (.sipush 180, 3) := by decide +kernel
theorem dX12_init_518 : decode cX12_init 518 = .ok (.newarray .int, 2) := by decide +kernel
theorem dX12_init_520 : decode cX12_init 520 = .ok (.putfield 200, 3) := by decide +kernel
theorem dX12_init_523 : decode cX12_init 523 = .ok (.aload_n 0, 1) := by decide +kernel
theorem dX12_init_524 : decode cX12_init 524 = .ok (.sipush 180, 3) := by decide +kernel
theorem dX12_init_527 : decode cX12_init 527 = .ok (.newarray .int, 2) := by decide +kernel
theorem dX12_init_529 : decode cX12_init 529 = .ok (.putfield 203, 3) := by decide +kernel
theorem dX12_init_532 : decode cX12_init 532 = .ok (.aload_n 0, 1) := by decide +kernel
theorem dX12_init_533 : decode cX12_init 533 = .ok (.sipush 180, 3) := by decide +kernel
theorem dX12_init_536 : decode cX12_init 536 = .ok (.newarray .int, 2) := by decide +kernel
theorem dX12_init_538 : decode cX12_init 538 = .ok (.putfield 206, 3) := by decide +kernel
theorem dX12_init_541 : decode cX12_init 541 = .ok (.aload_n 0, 1) := by decide +kernel
theorem dX12_init_542 : decode cX12_init 542 = .ok (.sipush 180, 3) := by decide +kernel
theorem dX12_init_545 : decode cX12_init 545 = .ok (.newarray .int, 2) := by decide +kernel
theorem dX12_init_547 : decode cX12_init 547 = .ok (.putfield 209, 3) := by decide +kernel
theorem dX12_init_550 : decode cX12_init 550 = .ok (.aload_n 0, 1) := by decide +kernel
theorem dX12_init_551 : decode cX12_init 551 = .ok (.getfield 91, 3) := by decide +kernel
theorem dX12_init_554 : decode cX12_init 554 = .ok (.iconst 0, 1) := by decide +kernel
theorem dX12_init_555 : decode cX12_init 555 = .ok (.bipush 10, 2) := by decide +kernel
theorem dX12_init_557 : decode cX12_init 557 = .ok (.iastore, 1) := by decide +kernel
theorem dX12_init_558 : decode cX12_init 558 = .ok (.aload_n 0, 1) := by decide +kernel
theorem dX12_init_559 : decode cX12_init 559 = .ok (.getfield 34, 3) := by decide +kernel
theorem dX12_init_562 : decode cX12_init 562 = .ok (.iconst 0, 1) := by decide +kernel
theorem dX12_init_563 : decode cX12_init 563 = .ok (.bipush 112, 2) := by decide +kernel
theorem dX12_init_565 : decode cX12_init 565 = .ok (.bipush 101, 2) := by decide +kernel
theorem dX12_init_567 : decode cX12_init 567 = .ok (.bipush 114, 2) := by decide +kernel
theorem dX12_init_569 : decode cX12_init 569 = .ok (.bipush 115, 2) := by decide +kernel
theorem dX12_init_571 : decode cX12_init 571 = .ok (.bipush 111, 2) := by decide +kernel
theorem dX12_init_573 : decode cX12_init 573 = .ok (.bipush 110, 2) := by decide +kernel
theorem dX12_init_575 : decode cX12_init 575 = .ok (.iconst 0, 1) := by decide +kernel
theorem dX12_init_576 : decode cX12_init 576 = .ok (.invokestatic 212, 3) := by decide +kernel
theorem dX12_init_579 : decode cX12_init 579 = .ok (.lastore, 1) := by decide +kernel
theorem dX12_init_580 : decode cX12_init 580 = .ok (.aload_n 0, 1) := by decide +kernel
theorem dX12_init_581 : decode cX12_init 581 = .ok (.getfield 34, 3) := by decide +kernel
theorem dX12_init_584 : decode cX12_init 584 = .ok (.iconst 1, 1) := by decide +kernel
theorem dX12_init_585 : decode cX12_init 585 = .ok (.bipush 99, 2) := by decide +kernel
theorem dX12_init_587 : decode cX12_init 587 = .ok (.bipush 108, 2) := by decide +kernel
theorem dX12_init_589 : decode cX12_init 589 = .ok (.bipush 101, 2) := by decide +kernel
theorem dX12_init_591 : decode cX12_init 591 = .ok (.bipush 114, 2) := by decide +kernel
theorem dX12_init_593 : decode cX12_init 593 = .ok (.bipush 107, 2) := by decide +kernel
theorem dX12_init_595 : decode cX12_init 595 = .ok (.iconst 0, 1) := by decide +kernel
theorem dX12_init_596 : decode cX12_init 596 = .ok (.iconst 0, 1) := by decide +kernel
theorem dX12_init_597 : decode cX12_init 597 = .ok (.invokestatic 212, 3) := by decide +kernel
theorem dX12_init_600 : decode cX12_init 600 = .ok (.lastore, 1) := by decide +kernel
theorem dX12_init_601 : decode cX12_init 601 = .ok (.aload_n 0, 1) := by decide +kernel
theorem dX12_init_602 : decode cX12_init 602 = .ok (.getfield 34, 3) := by decide +kernel
theorem dX12_init_605 : decode cX12_init 605 = .ok (.iconst 2, 1) := by decide +kernel
theorem dX12_init_606 : decode cX12_init 606 = .ok (.bipush 98, 2) := by decide +kernel
theorem dX12_init_608 : decode cX12_init 608 = .ok (.bipush 97, 2) := by decide +kernel
theorem dX12_init_610 : decode cX12_init 610 = .ok (.bipush 114, 2) := by decide +kernel
theorem dX12_init_612 : decode cX12_init 612 = .ok (.bipush 114, 2) := by decide +kernel
theorem dX12_init_614 : decode cX12_init 614 = .ok (.bipush 101, 2) := by decide +kernel
theorem dX12_init_616 : decode cX12_init 616 = .ok (.bipush 100, 2) := by decide +kernel
theorem dX12_init_618 : decode cX12_init 618 = .ok (.iconst 0, 1) := by decide +kernel
theorem dX12_init_619 : decode cX12_init 619 = .ok (.invokestatic 212, 3) := by decide +kernel
theorem dX12_init_622 : decode cX12_init 622 = .ok (.lastore, 1) := by decide +kernel
theorem dX12_init_623 : decode cX12_init 623 = .ok (.aload_n 0, 1) := by decide +kernel
theorem dX12_init_624 : decode cX12_init 624 = .ok (.getfield 34, 3) := by decide +kernel
theorem dX12_init_627 : decode cX12_init 627 = .ok (.iconst 3, 1) := by decide +kernel
theorem dX12_init_628 : decode cX12_init 628 = .ok (.bipush 108, 2) := by decide +kernel
theorem dX12_init_630 : decode cX12_init 630 = .ok (.bipush 101, 2) := by decide +kernel
theorem dX12_init_632 : decode cX12_init 632 = .ok (.bipush 116, 2) := by decide +kernel
theorem dX12_init_634 : decode cX12_init 634 = .ok (.bipush 116, 2) := by decide +kernel
theorem dX12_init_636 : decode cX12_init 636 = .ok (.bipush 101, 2) := by decide +kernel
theorem dX12_init_638 : decode cX12_init 638 = .ok (.bipush 114, 2) := by decide +kernel
theorem dX12_init_640 : decode cX12_init 640 = .ok (.iconst 0, 1) := by decide +kernel
theorem dX12_init_641 : decode cX12_init 641 = .ok (.invokestatic 212, 3) := by decide +kernel
theorem dX12_init_644 : decode cX12_init 644 = .ok (.lastore, 1) := by decide +kernel
theorem dX12_init_645 : decode cX12_init 645 = .ok (.aload_n 0, 1) := by decide +kernel
theorem dX12_init_646 : decode cX12_init 646 = .ok (.getfield 34, 3) := by decide +kernel
theorem dX12_init_649 : decode cX12_init 649 = .ok (.iconst 4, 1) := by decide +kernel
theorem dX12_init_650 : decode cX12_init 650 = .ok (.bipush 112, 2) := by decide +kernel
theorem dX12_init_652 : decode cX12_init 652 = .ok (.bipush 114, 2) := by decide +kernel
theorem dX12_init_654 : decode cX12_init 654 = .ok (.bipush 111, 2) := by decide +kernel
theorem dX12_init_656 : decode cX12_init 656 = .ok (.bipush 111, 2) := by decide +kernel
theorem dX12_init_658 : decode cX12_init 658 = .ok (.bipush 102, 2) := by decide +kernel
theorem dX12_init_660 : decode cX12_init 660 = .ok (.iconst 0, 1) := by decide +kernel
theorem dX12_init_661 : decode cX12_init 661 = .ok (.iconst 0, 1) := by decide +kernel
theorem dX12_init_662 : decode cX12_init 662 = .ok (.invokestatic 212, 3) := by decide +kernel
theorem dX12_init_665 : decode cX12_init 665 = .ok (.lastore, 1) := by decide +kernel
theorem dX12_init_666 : decode cX12_init 666 = .ok (.aload_n 0, 1) := by decide +kernel
theorem dX12_init_667 : decode cX12_init 667 = .ok (.getfield 34, 3) := by decide +kernel
theorem dX12_init_670 : decode cX12_init 670 = .ok (.iconst 5, 1) := by decide +kernel
theorem dX12_init_671 : decode cX12_init 671 = .ok (.bipush 100, 2) := by decide +kernel
theorem dX12_init_673 : decode cX12_init 673 = .ok (.bipush 105, 2) := by decide +kernel
theorem dX12_init_675 : decode cX12_init 675 = .ok (.bipush 101, 2) := by decide +kernel
theorem dX12_init_677 : decode cX12_init 677 = .ok (.bipush 115, 2) := by decide +kernel
theorem dX12_init_679 : decode cX12_init 679 = .ok (.iconst 0, 1) := by decide +kernel
theorem dX12_init_680 : decode cX12_init 680 = .ok (.iconst 0, 1) := by decide +kernel
theorem dX12_init_681 : decode cX12_init 681 = .ok (.iconst 0, 1) := by decide +kernel
theorem dX12_init_682 : decode cX12_init 682 = .ok (.invokestatic 212, 3) := by decide +kernel
theorem dX12_init_685 : decode cX12_init 685 = .ok (.lastore, 1) := by decide +kernel
theorem dX12_init_686 : decode cX12_init 686 = .ok (.aload_n 0, 1) := by decide +kernel
theorem dX12_init_687 : decode cX12_init 687 = .ok (.getfield 34, 3) := by decide +kernel
theorem dX12_init_690 : decode cX12_init 690 = .ok (.bipush 6, 2) := by decide +kernel
theorem dX12_init_692 : decode cX12_init 692 = .ok (.bipush 102, 2) := by decide +kernel
theorem dX12_init_694 : decode cX12_init 694 = .ok (.bipush 101, 2) := by decide +kernel
theorem dX12_init_696 : decode cX12_init 696 = .ok (.bipush 101, 2) := by decide +kernel
theorem dX12_init_698 : decode cX12_init 698 = .ok (.iconst 0, 1) := by decide +kernel
theorem dX12_init_699 : decode cX12_init 699 = .ok (.iconst 0, 1) := by decide +kernel
theorem dX12_init_700 : decode cX12_init 700 = .ok (.iconst 0, 1) := by decide +kernel
theorem dX12_init_701 : decode cX12_init 701 = .ok (.iconst 0, 1) := by decide +kernel
theorem dX12_init_702 : decode cX12_init 702 = .ok (.invokestatic 212, 3) := by decide +kernel
theorem dX12_init_705 : decode cX12_init 705 = .ok (.lastore, 1) := by decide +kernel
theorem dX12_init_706 : decode cX12_init 706 = .ok (.aload_n 0, 1) := by decide +kernel
theorem dX12_init_707 : decode cX12_init 707 = .ok (.getfield 34, 3) := by decide +kernel
theorem dX12_init_710 : decode cX12_init 710 = .ok (.bipush 7, 2) := by decide +kernel
theorem dX12_init_712 : decode cX12_init 712 = .ok (.bipush 103, 2) := by decide +kernel
theorem dX12_init_714 : decode cX12_init 714 = .ok (.bipush 111, 2) := by decide +kernel
theorem dX12_init_716 : decode cX12_init 716 = .ok (.bipush 111, 2) := by decide +kernel
theorem dX12_init_718 : decode cX12_init 718 = .ok (.bipush 100, 2) := by decide +kernel
theorem dX12_init_720 : decode cX12_init 720 = .ok (.iconst 0, 1) := by decide +kernel
theorem dX12_init_721 : decode cX12_init 721 = .ok (.iconst 0, 1) := by decide +kernel
theorem dX12_init_722 : decode cX12_init 722 = .ok (.iconst 0, 1) := by decide +kernel
theorem dX12_init_723 : decode cX12_init 723 = .ok (.invokestatic 212, 3) := by decide +kernel
theorem dX12_init_726 : decode cX12_init 726 = .ok (.lastore, 1) := by decide +kernel
theorem dX12_init_727 : decode cX12_init 727 = .ok (.aload_n 0, 1) := by decide +kernel
theorem dX12_init_728 : decode cX12_init 728 = .ok (.getfield 34, 3) := by decide +kernel
theorem dX12_init_731 : decode cX12_init 731 = .ok (.bipush 8, 2) := by decide +kernel
theorem dX12_init_733 : decode cX12_init 733 = .ok (.bipush 105, 2) := by decide +kernel
theorem dX12_init_735 : decode cX12_init 735 = .ok (.bipush 102, 2) := by decide +kernel
theorem dX12_init_737 : decode cX12_init 737 = .ok (.iconst 0, 1) := by decide +kernel
theorem dX12_init_738 : decode cX12_init 738 = .ok (.iconst 0, 1) := by decide +kernel
theorem dX12_init_739 : decode cX12_init 739 = .ok (.iconst 0, 1) := by decide +kernel
theorem dX12_init_740 : decode cX12_init 740 = .ok (.iconst 0, 1) := by decide +kernel
theorem dX12_init_741 : decode cX12_init 741 = .ok (.iconst 0, 1) := by decide +kernel
theorem dX12_init_742 : decode cX12_init 742 = .ok (.invokestatic 212, 3) := by decide +kernel
theorem dX12_init_745 : decode cX12_init 745 = .ok (.lastore, 1) := by decide +kernel
theorem dX12_init_746 : decode cX12_init 746 = .ok (.aload_n 0, 1) := by decide +kernel
theorem dX12_init_747 : decode cX12_init 747 = .ok (.getfield 34, 3) := by decide +kernel
theorem dX12_init_750 : decode cX12_init 750 = .ok (.bipush 9, 2) := by decide +kernel
theorem dX12_init_752 : decode cX12_init 752 = .ok (.bipush 111, 2) := by decide +kernel
theorem dX12_init_754 : decode cX12_init 754 = .ok (.bipush 114, 2) := by decide +kernel
theorem dX12_init_756 : decode cX12_init 756 = .ok (.iconst 0, 1) := by decide +kernel
theorem dX12_init_757 : decode cX12_init 757 = .ok (.iconst 0, 1) := by decide +kernel
theorem dX12_init_758 : decode cX12_init 758 = .ok (.iconst 0, 1) := by decide +kernel
theorem dX12_init_759 : decode cX12_init 759 = .ok (.iconst 0, 1) := by decide +kernel
theorem dX12_init_760 : decode cX12_init 760 = .ok (.iconst 0, 1) := by decide +kernel
theorem dX12_init_761 : decode cX12_init 761 = .ok (.invokestatic 212, 3) := by decide +kernel
theorem dX12_init_764 : decode cX12_init 764 = .ok (.lastore, 1) := by decide +kernel
theorem dX12_init_765 : decode cX12_init 765 = .ok (.aload_n 0, 1) := by decide +kernel
theorem dX12_init_766 : decode cX12_init 766 = .ok (.getfield 34, 3) := by decide +kernel
theorem dX12_init_769 : decode cX12_init 769 = .ok (.bipush 10, 2) := by decide +kernel
theorem dX12_init_771 : decode cX12_init 771 = .ok (.bipush 97, 2) := by decide +kernel
theorem dX12_init_773 : decode cX12_init 773 = .ok (.bipush 110, 2) := by decide +kernel
theorem dX12_init_775 : decode cX12_init 775 = .ok (.bipush 100, 2) := by decide +kernel
theorem dX12_init_777 : decode cX12_init 777 = .ok (.iconst 0, 1) := by decide +kernel
theorem dX12_init_778 : decode cX12_init 778 = .ok (.iconst 0, 1) := by decide +kernel
theorem dX12_init_779 : decode cX12_init 779 = .ok (.iconst 0, 1) := by decide +kernel
theorem dX12_init_780 : decode cX12_init 780 = .ok (.iconst 0, 1) := by decide +kernel
theorem dX12_init_781 : decode cX12_init 781 = .ok (.invokestatic 212, 3) := by decide +kernel
theorem dX12_init_784 : decode cX12_init 784 = .ok (.lastore, 1) := by decide +kernel
theorem dX12_init_785 : decode cX12_init 785 = .ok (.aload_n 0, 1) := by decide +kernel
theorem dX12_init_786 : decode cX12_init 786 = .ok (.getfield 34, 3) := by decide +kernel
theorem dX12_init_789 : decode cX12_init 789 = .ok (.bipush 11, 2) := by decide +kernel
theorem dX12_init_791 : decode cX12_init 791 = .ok (.bipush 110, 2) := by decide +kernel
theorem dX12_init_793 : decode cX12_init 793 = .ok (.bipush 111, 2) := by decide +kernel
theorem dX12_init_795 : decode cX12_init 795 = .ok (.bipush 116, 2) := by decide +kernel
theorem dX12_init_797 : decode cX12_init 797 = .ok (.iconst 0, 1) := by decide +kernel
theorem dX12_init_798 : decode cX12_init 798 = .ok (.iconst 0, 1) := by decide +kernel
theorem dX12_init_799 : decode cX12_init 799 = .ok (.iconst 0, 1) := by decide +kernel
theorem dX12_init_800 : decode cX12_init 800 = .ok (.iconst 0, 1) := by decide +kernel
theorem dX12_init_801 : decode cX12_init 801 = .ok (.invokestatic 212, 3) := by decide +kernel
theorem dX12_init_804 : decode cX12_init 804 = .ok (.lastore, 1) := by decide +kernel
theorem dX12_init_805 : decode cX12_init 805 = .ok (.aload_n 0, 1) := by decide +kernel
theorem dX12_init_806 : decode cX12_init 806 = .ok (.getfield 34, 3) := by decide +kernel
theorem dX12_init_809 : decode cX12_init 809 = .ok (.bipush 12, 2) := by decide +kernel
theorem dX12_init_811 : decode cX12_init 811 = .ok (.bipush 100, 2) := by decide +kernel
theorem dX12_init_813 : decode cX12_init 813 = .ok (.bipush 101, 2) := by decide +kernel
theorem dX12_init_815 : decode cX12_init 815 = .ok (.bipush 97, 2) := by decide +kernel
theorem dX12_init_817 : decode cX12_init 817 = .ok (.bipush 100, 2) := by decide +kernel
theorem dX12_init_819 : decode cX12_init 819 = .ok (.iconst 0, 1) := by decide +kernel
theorem dX12_init_820 : decode cX12_init 820 = .ok (.iconst 0, 1) := by decide +kernel
theorem dX12_init_821 : decode cX12_init 821 = .ok (.iconst 0, 1) := by decide +kernel
theorem dX12_init_822 : decode cX12_init 822 = .ok (.invokestatic 212, 3) := by decide +kernel
theorem dX12_init_825 : decode cX12_init 825 = .ok (.lastore, 1) := by decide +kernel
theorem dX12_init_826 : decode cX12_init 826 = .ok (.aload_n 0, 1) := by decide +kernel
theorem dX12_init_827 : decode cX12_init 827 = .ok (.getfield 34, 3) := by decide +kernel
theorem dX12_init_830 : decode cX12_init 830 = .ok (.bipush 13, 2) := by decide +kernel
theorem dX12_init_832 : decode cX12_init 832 = .ok (.bipush 114, 2) := by decide +kernel
theorem dX12_init_834 : decode cX12_init 834 = .ok (.bipush 101, 2) := by decide +kernel
theorem dX12_init_836 : decode cX12_init 836 = .ok (.bipush 97, 2) := by decide +kernel
theorem dX12_init_838 : decode cX12_init 838 = .ok (.bipush 100, 2) := by decide +kernel
theorem dX12_init_840 : decode cX12_init 840 = .ok (.iconst 0, 1) := by decide +kernel
theorem dX12_init_841 : decode cX12_init 841 = .ok (.iconst 0, 1) := by decide +kernel
theorem dX12_init_842 : decode cX12_init 842 = .ok (.iconst 0, 1) := by decide +kernel
theorem dX12_init_843 : decode cX12_init 843 = .ok (.invokestatic 212, 3) := by decide +kernel
theorem dX12_init_846 : decode cX12_init 846 = .ok (.lastore, 1) := by decide +kernel
theorem dX12_init_847 : decode cX12_init 847 = .ok (.aload_n 0, 1) := by decide +kernel
theorem dX12_init_848 : decode cX12_init 848 = .ok (.getfield 34, 3) := by decide +kernel
theorem dX12_init_851 : decode cX12_init 851 = .ok (.bipush 14, 2) := by decide +kernel
theorem dX12_init_853 : decode cX12_init 853 = .ok (.bipush 121, 2) := by decide +kernel
theorem dX12_init_855 : decode cX12_init 855 = .ok (.bipush 101, 2) := by decide +kernel
theorem dX12_init_857 : decode cX12_init 857 = .ok (.bipush 97, 2) := by decide +kernel
theorem dX12_init_859 : decode cX12_init 859 = .ok (.bipush 114, 2) := by decide +kernel
theorem dX12_init_861 : decode cX12_init 861 = .ok (.iconst 0, 1) := by decide +kernel
theorem dX12_init_862 : decode cX12_init 862 = .ok (.iconst 0, 1) := by decide +kernel
theorem dX12_init_863 : decode cX12_init 863 = .ok (.iconst 0, 1) := by decide +kernel
theorem dX12_init_864 : decode cX12_init 864 = .ok (.invokestatic 212, 3) := by decide +kernel
theorem dX12_init_867 : decode cX12_init 867 = .ok (.lastore, 1) := by decide +kernel
theorem dX12_init_868 : decode cX12_init 868 = .ok (.aload_n 0, 1) := by decide +kernel
theorem dX12_init_869 : decode cX12_init 869 = .ok (.getfield 34, 3) := by decide +kernel
theorem dX12_init_872 : decode cX12_init 872 = .ok (.bipush 15, 2) := by decide +kernel
theorem dX12_init_874 : decode cX12_init 874 = .ok (.bipush 97, 2) := by decide +kernel
theorem dX12_init_876 : decode cX12_init 876 = .ok (.bipush 103, 2) := by decide +kernel
theorem dX12_init_878 : decode cX12_init 878 = .ok (.bipush 101, 2) := by decide +kernel
theorem dX12_init_880 : decode cX12_init 880 = .ok (.iconst 0, 1) := by decide +kernel
theorem dX12_init_881 : decode cX12_init 881 = .ok (.iconst 0, 1) := by decide +kernel
theorem dX12_init_882 : decode cX12_init 882 = .ok (.iconst 0, 1) := by decide +kernel
theorem dX12_init_883 : decode cX12_init 883 = .ok (.iconst 0, 1) := by decide +kernel
theorem dX12_init_884 : decode cX12_init 884 = .ok (.invokestatic 212, 3) := by decide +kernel
theorem dX12_init_887 : decode cX12_init 887 = .ok (.lastore, 1) := by decide +kernel
theorem dX12_init_888 : decode cX12_init 888 = .ok (.aload_n 0, 1) := by decide +kernel
theorem dX12_init_889 : decode cX12_init 889 = .ok (.getfield 34, 3) := by decide +kernel
theorem dX12_init_892 : decode cX12_init 892 = .ok (.bipush 16, 2) := by decide +kernel
theorem dX12_init_894 : decode cX12_init 894 = .ok (.bipush 115, 2) := by decide +kernel
theorem dX12_init_896 : decode cX12_init 896 = .ok (.bipush 104, 2) := by decide +kernel
theorem dX12_init_898 : decode cX12_init 898 = .ok (.bipush 101, 2) := by decide +kernel
theorem dX12_init_900 : decode cX12_init 900 = .ok (.bipush 108, 2) := by decide +kernel
theorem dX12_init_902 : decode cX12_init 902 = .ok (.bipush 102, 2) := by decide +kernel
theorem dX12_init_904 : decode cX12_init 904 = .ok (.iconst 0, 1) := by decide +kernel
theorem dX12_init_905 : decode cX12_init 905 = .ok (.iconst 0, 1) := by decide +kernel
theorem dX12_init_906 : decode cX12_init 906 = .ok (.invokestatic 212, 3) := by decide +kernel
theorem dX12_init_909 : decode cX12_init 909 = .ok (.lastore, 1) := by decide +kernel
theorem dX12_init_910 : decode cX12_init 910 = .ok (.aload_n 0, 1) := by decide +kernel
theorem dX12_init_911 : decode cX12_init 911 = .ok (.getfield 34, 3) := by decide +kernel
theorem dX12_init_914 : decode cX12_init 914 = .ok (.bipush 17, 2) := by decide +kernel
theorem dX12_init_916 : decode cX12_init 916 = .ok (.bipush 108, 2) := by decide +kernel
theorem dX12_init_918 : decode cX12_init 918 = .ok (.bipush 97, 2) := by decide +kernel
theorem dX12_init_920 : decode cX12_init 920 = .ok (.bipush 116, 2) := by decide +kernel
theorem dX12_init_922 : decode cX12_init 922 = .ok (.bipush 101, 2) := by decide +kernel
theorem dX12_init_924 : decode cX12_init 924 = .ok (.iconst 0, 1) := by decide +kernel
theorem dX12_init_925 : decode cX12_init 925 = .ok (.iconst 0, 1) := by decide +kernel
theorem dX12_init_926 : decode cX12_init 926 = .ok (.iconst 0, 1) := by decide +kernel
theorem dX12_init_927 : decode cX12_init 927 = .ok (.invokestatic 212, 3) := by decide +kernel
theorem dX12_init_930 : decode cX12_init 930 = .ok (.lastore, 1) := by decide +kernel
theorem dX12_init_931 : decode cX12_init 931 = .ok (.return_, 1) := by decide +kernel
theorem dX12_feed_0 : decode cX12_feed 0 = .ok (.aload_n 0, 1) := by decide +kernel
theorem dX12_feed_1 : decode cX12_feed 1 = .ok (.getfield 216, 3) := by decide +kernel
theorem dX12_feed_4 : decode cX12_feed 4 = .ok (.bipush 20, 2) := by decide +kernel
theorem dX12_feed_6 : decode cX12_feed 6 = .ok (.iadd, 1) := by decide +kernel
theorem dX12_feed_7 : decode cX12_feed 7 = .ok (.sipush 2000, 3) := by decide +kernel
theorem dX12_feed_10 : decode cX12_feed 10 = .ok (.if_icmp .le 5, 3) := by decide +kernel
theorem dX12_feed_13 : decode cX12_feed 13 = .ok (.iconst (-1), 1) := by decide +kernel
theorem dX12_feed_14 : decode cX12_feed 14 = .ok (.ireturn, 1) := by decide +kernel
theorem dX12_feed_15 : decode cX12_feed 15 = .ok (.aload_n 0, 1) := by decide +kernel
theorem dX12_feed_16 : decode cX12_feed 16 = .ok (.iload_n 1, 1) := by decide +kernel
theorem dX12_feed_17 : decode cX12_feed 17 = .ok (.invokevirtual 219, 3) := by decide +kernel
theorem dX12_feed_20 : decode cX12_feed 20 = .ok (.aload_n 0, 1) := by decide +kernel
theorem dX12_feed_21 : decode cX12_feed 21 = .ok (.iload_n 2, 1) := by decide +kernel
theorem dX12_feed_22 : decode cX12_feed 22 = .ok (.invokevirtual 219, 3) := by decide +kernel
theorem dX12_feed_25 : decode cX12_feed 25 = .ok (.aload_n 0, 1) := by decide +kernel
theorem dX12_feed_26 : decode cX12_feed 26 = .ok (.iload_n 3, 1) := by decide +kernel
theorem dX12_feed_27 : decode cX12_feed 27 = .ok (.invokevirtual 219, 3) := by decide +kernel
theorem dX12_feed_30 : decode cX12_feed 30 = .ok (.aload_n 0, 1) := by decide +kernel
theorem dX12_feed_31 : decode cX12_feed 31 = .ok (.iload 4, 2) := by decide +kernel
theorem dX12_feed_33 : decode cX12_feed 33 = .ok (.invokevirtual 219, 3) := by decide +kernel
theorem dX12_feed_36 : decode cX12_feed 36 = .ok (.aload_n 0, 1) := by decide +kernel
theorem dX12_feed_37 : decode cX12_feed 37 = .ok (.iload 5, 2) := by decide +kernel
theorem dX12_feed_39 : decode cX12_feed 39 = .ok (.invokevirtual 219, 3) := by decide +kernel
theorem dX12_feed_42 : decode cX12_feed 42 = .ok (.aload_n 0, 1) := by decide +kernel
theorem dX12_feed_43 : decode cX12_feed 43 = .ok (.getfield 216, 3) := by decide +kernel
theorem dX12_feed_46 : decode cX12_feed 46 = .ok (.ireturn, 1) := by decide +kernel
