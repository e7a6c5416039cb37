theorem dX11_who_24 : decode cX11_who 24 = .ok (.aload_n 0, 1) := by decide +kernel
theorem dX11_who_25 : decode cX11_who 25 = .ok (.getfield 38, 3) := by decide +kernel
theorem dX11_who_28 : decode cX11_who 28 = .ok (.invokevirtual 211, 3) := by decide +kernel
theorem dX11_who_31 : decode cX11_who 31 = .ok (.aload_n 0, 1) := by decide +kernel
theorem dX11_who_32 : decode cX11_who 32 = .ok (.getfield 74, 3) := by decide +kernel
theorem dX11_who_35 : decode cX11_who 35 = .ok (.aload_n 0, 1) := by decide +kernel
theorem dX11_who_36 : decode cX11_who 36 = .ok (.aload_n 0, 1) := by decide +kernel
theorem dX11_who_37 : decode cX11_who 37 = .ok (.getfield 11, 3) := by decide +kernel
theorem dX11_who_40 : decode cX11_who 40 = .ok (.iload_n 1, 1) := by decide +kernel
theorem dX11_who_41 : decode cX11_who 41 = .ok (.aaload, 1) := by decide +kernel
theorem dX11_who_42 : decode cX11_who 42 = .ok (.invokevirtual 257, 3) := by decide +kernel
theorem dX11_who_45 : decode cX11_who 45 = .ok (.invokevirtual 261, 3) := by decide +kernel
theorem dX11_who_48 : decode cX11_who 48 = .ok (.istore_n 3, 1) := by decide +kernel
theorem dX11_who_49 : decode cX11_who 49 = .ok (.iload_n 3, 1) := by decide +kernel
theorem dX11_who_50 : decode cX11_who 50 = .ok (.ifCond .gt 6, 3) := by decide +kernel
theorem dX11_who_53 : decode cX11_who 53 = .ok (.bipush (-9), 2) := by decide +kernel
theorem dX11_who_55 : decode cX11_who 55 = .ok (.ireturn, 1) := by decide +kernel
theorem dX11_who_56 : decode cX11_who 56 = .ok (.aload_n 0, 1) := by decide +kernel
theorem dX11_who_57 : decode cX11_who 57 = .ok (.aload_n 0, 1) := by decide +kernel
theorem dX11_who_58 : decode cX11_who 58 = .ok (.getfield 74, 3) := by decide +kernel
theorem dX11_who_61 : decode cX11_who 61 = .ok (.getfield 267, 3) := by decide +kernel
theorem dX11_who_64 : decode cX11_who 64 = .ok (.putfield 44, 3) := by decide +kernel
theorem dX11_who_67 : decode cX11_who 67 = .ok (.aload_n 0, 1) := by decide +kernel
theorem dX11_who_68 : decode cX11_who 68 = .ok (.getfield 74, 3) := by decide +kernel
theorem dX11_who_71 : decode cX11_who 71 = .ok (.getfield 270, 3) := by decide +kernel
theorem dX11_who_74 : decode cX11_who 74 = .ok (.ireturn, 1) := by decide +kernel
theorem dX11_odds_0 : decode cX11_odds 0 = .ok (.iload_n 1, 1) := by decide +kernel
theorem dX11_odds_1 : decode cX11_odds 1 = .ok (.aload_n 0, 1) := by decide +kernel
theorem dX11_odds_2 : decode cX11_odds 2 = .ok (.getfield 60, 3) := by decide +kernel
theorem dX11_odds_5 : decode cX11_odds 5 = .ok (.getfield 146, 3) := by decide +kernel
theorem dX11_odds_8 : decode cX11_odds 8 = .ok (.invokestatic 85, 3) := by decide +kernel
theorem dX11_odds_11 : decode cX11_odds 11 = .ok (.ifCond .eq 32, 3) := by decide +kernel
theorem dX11_odds_14 : decode cX11_odds 14 = .ok (.iload_n 3, 1) := by decide +kernel
theorem dX11_odds_15 : decode cX11_odds 15 = .ok (.ifCond .lt 28, 3) := by decide +kernel
theorem dX11_odds_18 : decode cX11_odds 18 = .ok (.iload_n 3, 1) := by decide +kernel
theorem dX11_odds_19 : decode cX11_odds 19 = .ok (.iconst 4, 1) := by decide +kernel
theorem dX11_odds_20 : decode cX11_odds 20 = .ok (.if_icmp .gt 23, 3) := by decide +kernel
theorem dX11_odds_23 : decode cX11_odds 23 = .ok (.iload_n 2, 1) := by decide +kernel
theorem dX11_odds_24 : decode cX11_odds 24 = .ok (.bipush (-9), 2) := by decide +kernel
theorem dX11_odds_26 : decode cX11_odds 26 = .ok (.if_icmp .eq 19, 3) := by decide +kernel
theorem dX11_odds_29 : decode cX11_odds 29 = .ok (.iload_n 2, 1) := by decide +kernel
theorem dX11_odds_30 : decode cX11_odds 30 = .ok (.aload_n 0, 1) := by decide +kernel
theorem dX11_odds_31 : decode cX11_odds 31 = .ok (.getfield 60, 3) := by decide +kernel
theorem dX11_odds_34 : decode cX11_odds 34 = .ok (.getfield 198, 3) := by decide +kernel
theorem dX11_odds_37 : decode cX11_odds 37 = .ok (.invokestatic 85, 3) := by decide +kernel
theorem dX11_odds_40 : decode cX11_odds 40 = .ok (.ifCond .ne 5, 3) := by decide +kernel
theorem dX11_odds_43 : decode cX11_odds 43 = .ok (.iconst (-1), 1) := by decide +kernel
theorem dX11_odds_44 : decode cX11_odds 44 = .ok (.ireturn, 1) := by decide +kernel
theorem dX11_odds_45 : decode cX11_odds 45 = .ok (.aload_n 0, 1) := by decide +kernel
theorem dX11_odds_46 : decode cX11_odds 46 = .ok (.getfield 60, 3) := by decide +kernel
theorem dX11_odds_49 : decode cX11_odds 49 = .ok (.getfield 153, 3) := by decide +kernel
theorem dX11_odds_52 : decode cX11_odds 52 = .ok (.ifCond .ne 13, 3) := by decide +kernel
theorem dX11_odds_55 : decode cX11_odds 55 = .ok (.iload_n 3, 1) := by decide +kernel
theorem dX11_odds_56 : decode cX11_odds 56 = .ok (.ifCond .le 9, 3) := by decide +kernel
theorem dX11_odds_59 : decode cX11_odds 59 = .ok (.aload_n 0, 1) := by decide +kernel
theorem dX11_odds_60 : decode cX11_odds 60 = .ok (.iconst 4, 1) := by decide +kernel
theorem dX11_odds_61 : decode cX11_odds 61 = .ok (.invokevirtual 89, 3) := by decide +kernel
theorem dX11_odds_64 : decode cX11_odds 64 = .ok (.ireturn, 1) := by decide +kernel
theorem dX11_odds_65 : decode cX11_odds 65 = .ok (.aload_n 0, 1) := by decide +kernel
theorem dX11_odds_66 : decode cX11_odds 66 = .ok (.getfield 74, 3) := by decide +kernel
theorem dX11_odds_69 : decode cX11_odds 69 = .ok (.aload_n 0, 1) := by decide +kernel
theorem dX11_odds_70 : decode cX11_odds 70 = .ok (.getfield 60, 3) := by decide +kernel
theorem dX11_odds_73 : decode cX11_odds 73 = .ok (.aload_n 0, 1) := by decide +kernel
theorem dX11_odds_74 : decode cX11_odds 74 = .ok (.getfield 34, 3) := by decide +kernel
theorem dX11_odds_77 : decode cX11_odds 77 = .ok (.aload_n 0, 1) := by decide +kernel
theorem dX11_odds_78 : decode cX11_odds 78 = .ok (.getfield 38, 3) := by decide +kernel
theorem dX11_odds_81 : decode cX11_odds 81 = .ok (.invokevirtual 211, 3) := by decide +kernel
theorem dX11_odds_84 : decode cX11_odds 84 = .ok (.aload_n 0, 1) := by decide +kernel
theorem dX11_odds_85 : decode cX11_odds 85 = .ok (.getfield 74, 3) := by decide +kernel
theorem dX11_odds_88 : decode cX11_odds 88 = .ok (.iload_n 1, 1) := by decide +kernel
theorem dX11_odds_89 : decode cX11_odds 89 = .ok (.iload_n 2, 1) := by decide +kernel
theorem dX11_odds_90 : decode cX11_odds 90 = .ok (.iload_n 3, 1) := by decide +kernel
theorem dX11_odds_91 : decode cX11_odds 91 = .ok (.invokevirtual 273, 3) := by decide +kernel
theorem dX11_odds_94 : decode cX11_odds 94 = .ok (.istore 4, 2) := by decide +kernel
theorem dX11_odds_96 : decode cX11_odds 96 = .ok (.aload_n 0, 1) := by decide +kernel
theorem dX11_odds_97 : decode cX11_odds 97 = .ok (.iload 4, 2) := by decide +kernel
theorem dX11_odds_99 : decode cX11_odds 99 = .ok (.aload_n 0, 1) := by decide +kernel
theorem dX11_odds_100 : decode cX11_odds 100 = .ok (.getfield 74, 3) := by decide +kernel
theorem dX11_odds_103 : decode cX11_odds 103 = .ok (.iload_n 3, 1) := by decide +kernel
theorem dX11_odds_104 : decode cX11_odds 104 = .ok (.invokevirtual 277, 3) := by decide +kernel
theorem dX11_odds_107 : decode cX11_odds 107 = .ok (.invokevirtual 280, 3) := by decide +kernel
theorem dX11_odds_110 : decode cX11_odds 110 = .ok (.iconst 1, 1) := by decide +kernel
theorem dX11_odds_111 : decode cX11_odds 111 = .ok (.ireturn, 1) := by decide +kernel
theorem dX11_years_0 : decode cX11_years 0 = .ok (.iload_n 1, 1) := by decide +kernel
theorem dX11_years_1 : decode cX11_years 1 = .ok (.iconst 1, 1) := by decide +kernel
theorem dX11_years_2 : decode cX11_years 2 = .ok (.if_icmp .lt 24, 3) := by decide +kernel
theorem dX11_years_5 : decode cX11_years 5 = .ok (.iload_n 1, 1) := by decide +kernel
theorem dX11_years_6 : decode cX11_years 6 = .ok (.sipush 200, 3) := by decide +kernel
theorem dX11_years_9 : decode cX11_years 9 = .ok (.if_icmp .gt 17, 3) := by decide +kernel
theorem dX11_years_12 : decode cX11_years 12 = .ok (.iload_n 2, 1) := by decide +kernel
theorem dX11_years_13 : decode cX11_years 13 = .ok (.iconst 1, 1) := by decide +kernel
theorem dX11_years_14 : decode cX11_years 14 = .ok (.if_icmp .lt 12, 3) := by decide +kernel
theorem dX11_years_17 : decode cX11_years 17 = .ok (.iload_n 2, 1) := by decide +kernel
theorem dX11_years_18 : decode cX11_years 18 = .ok (.i2l, 1) := by decide +kernel
theorem dX11_years_19 : decode cX11_years 19 = .ok (.ldc2_w 283, 3) := by decide +kernel
theorem dX11_years_22 : decode cX11_years 22 = .ok (.lcmp, 1) := by decide +kernel
theorem dX11_years_23 : decode cX11_years 23 = .ok (.ifCond .lt 5, 3) := by decide +kernel
theorem dX11_years_26 : decode cX11_years 26 = .ok (.iconst (-1), 1) := by decide +kernel
theorem dX11_years_27 : decode cX11_years 27 = .ok (.ireturn, 1) := by decide +kernel
theorem dX11_years_28 : decode cX11_years 28 = .ok (.aload_n 0, 1) := by decide +kernel
theorem dX11_years_29 : decode cX11_years 29 = .ok (.getfield 60, 3) := by decide +kernel
theorem dX11_years_32 : decode cX11_years 32 = .ok (.getfield 153, 3) := by decide +kernel
theorem dX11_years_35 : decode cX11_years 35 = .ok (.ifCond .ne 9, 3) := by decide +kernel
theorem dX11_years_38 : decode cX11_years 38 = .ok (.aload_n 0, 1) := by decide +kernel
theorem dX11_years_39 : decode cX11_years 39 = .ok (.iconst 4, 1) := by decide +kernel
theorem dX11_years_40 : decode cX11_years 40 = .ok (.invokevirtual 89, 3) := by decide +kernel
theorem dX11_years_43 : decode cX11_years 43 = .ok (.ireturn, 1) := by decide +kernel
theorem dX11_years_44 : decode cX11_years 44 = .ok (.aload_n 0, 1) := by decide +kernel
theorem dX11_years_45 : decode cX11_years 45 = .ok (.getfield 67, 3) := by decide +kernel
theorem dX11_years_48 : decode cX11_years 48 = .ok (.aload_n 0, 1) := by decide +kernel
theorem dX11_years_49 : decode cX11_years 49 = .ok (.getfield 60, 3) := by decide +kernel
theorem dX11_years_52 : decode cX11_years 52 = .ok (.aload_n 0, 1) := by decide +kernel
theorem dX11_years_53 : decode cX11_years 53 = .ok (.getfield 34, 3) := by decide +kernel
theorem dX11_years_56 : decode cX11_years 56 = .ok (.aload_n 0, 1) := by decide +kernel
theorem dX11_years_57 : decode cX11_years 57 = .ok (.getfield 38, 3) := by decide +kernel
theorem dX11_years_60 : decode cX11_years 60 = .ok (.invokevirtual 165, 3) := by decide +kernel
theorem dX11_years_63 : decode cX11_years 63 = .ok (.iload_n 2, 1) := by decide +kernel
theorem dX11_years_64 : decode cX11_years 64 = .ok (.i2l, 1) := by decide +kernel
theorem dX11_years_65 : decode cX11_years 65 = .ok (.lstore_n 3, 1) := by decide +kernel
theorem dX11_years_66 : decode cX11_years 66 = .ok (.iconst 0, 1) := by decide +kernel
theorem dX11_years_67 : decode cX11_years 67 = .ok (.istore 5, 2) := by decide +kernel
theorem dX11_years_69 : decode cX11_years 69 = .ok (.iload 5, 2) := by decide +kernel
theorem dX11_years_71 : decode cX11_years 71 = .ok (.iload_n 1, 1) := by decide +kernel
theorem dX11_years_72 : decode cX11_years 72 = .ok (.if_icmp .ge 37, 3) := by decide +kernel
theorem dX11_years_75 : decode cX11_years 75 = .ok (.ldc2_w 285, 3) := by decide +kernel
theorem dX11_years_78 : decode cX11_years 78 = .ok (.lload_n 3, 1) := by decide +kernel
theorem dX11_years_79 : decode cX11_years 79 = .ok (.lmul, 1) := by decide +kernel
theorem dX11_years_80 : decode cX11_years 80 = .ok (.ldc2_w 283, 3) := by decide +kernel
theorem dX11_years_83 : decode cX11_years 83 = .ok (.lrem, 1) := by decide +kernel
theorem dX11_years_84 : decode cX11_years 84 = .ok (.lstore_n 3, 1) := by decide +kernel
theorem dX11_years_85 : decode cX11_years 85 = .ok (.aload_n 0, 1) := by decide +kernel
theorem dX11_years_86 : decode cX11_years 86 = .ok (.getfield 67, 3) := by decide +kernel
theorem dX11_years_89 : decode cX11_years 89 = .ok (.lload_n 3, 1) := by decide +kernel
theorem dX11_years_90 : decode cX11_years 90 = .ok (.aload_n 0, 1) := by decide +kernel
theorem dX11_years_91 : decode cX11_years 91 = .ok (.getfield 60, 3) := by decide +kernel
theorem dX11_years_94 : decode cX11_years 94 = .ok (.getfield 153, 3) := by decide +kernel
theorem dX11_years_97 : decode cX11_years 97 = .ok (.i2l, 1) := by decide +kernel
theorem dX11_years_98 : decode cX11_years 98 = .ok (.lrem, 1) := by decide +kernel
theorem dX11_years_99 : decode cX11_years 99 = .ok (.l2i, 1) := by decide +kernel
theorem dX11_years_100 : decode cX11_years 100 = .ok (.invokevirtual 175, 3) := by decide +kernel
theorem dX11_years_103 : decode cX11_years 103 = .ok (.iinc 5 1, 3) := by decide +kernel
theorem dX11_years_106 : decode cX11_years 106 = .ok (.goto (-37), 3) := by decide +kernel
theorem dX11_years_109 : decode cX11_years 109 = .ok (.aload_n 0, 1) := by decide +kernel
theorem dX11_years_110 : decode cX11_years 110 = .ok (.aload_n 0, 1) := by decide +kernel
theorem dX11_years_111 : decode cX11_years 111 = .ok (.getfield 60, 3) := by decide +kernel
theorem dX11_years_114 : decode cX11_years 114 = .ok (.aload_n 0, 1) := by decide +kernel
theorem dX11_years_115 : decode cX11_years 115 = .ok (.getfield 67, 3) := by decide +kernel
theorem dX11_years_118 : decode cX11_years 118 = .ok (.getfield 179, 3) := by decide +kernel
theorem dX11_years_121 : decode cX11_years 121 = .ok (.invokevirtual 287, 3) := by decide +kernel
theorem dX11_years_124 : decode cX11_years 124 = .ok (.putfield 44, 3) := by decide +kernel
theorem dX11_years_127 : decode cX11_years 127 = .ok (.aload_n 0, 1) := by decide +kernel
theorem dX11_years_128 : decode cX11_years 128 = .ok (.getfield 60, 3) := by decide +kernel
theorem dX11_years_131 : decode cX11_years 131 = .ok (.aload_n 0, 1) := by decide +kernel
theorem dX11_years_132 : decode cX11_years 132 = .ok (.getfield 67, 3) := by decide +kernel
theorem dX11_years_135 : decode cX11_years 135 = .ok (.getfield 179, 3) := by decide +kernel
theorem dX11_years_138 : decode cX11_years 138 = .ok (.invokevirtual 180, 3) := by decide +kernel
theorem dX11_years_141 : decode cX11_years 141 = .ok (.ireturn, 1) := by decide +kernel
theorem dX11_asked_0 : decode cX11_asked 0 = .ok (.aload_n 0, 1) := by decide +kernel
theorem dX11_asked_1 : decode cX11_asked 1 = .ok (.getfield 44, 3) := by decide +kernel
theorem dX11_asked_4 : decode cX11_asked 4 = .ok (.ireturn, 1) := by decide +kernel
theorem dX11_upper_0 : decode cX11_upper 0 = .ok (.aload_n 0, 1) := by decide +kernel
theorem dX11_upper_1 : decode cX11_upper 1 = .ok (.getfield 47, 3) := by decide +kernel
theorem dX11_upper_4 : decode cX11_upper 4 = .ok (.lreturn, 1) := by decide +kernel
theorem dX11_lower_0 : decode cX11_lower 0 = .ok (.aload_n 0, 1) := by decide +kernel
theorem dX11_lower_1 : decode cX11_lower 1 = .ok (.getfield 51, 3) := by decide +kernel
theorem dX11_lower_4 : decode cX11_lower 4 = .ok (.lreturn, 1) := by decide +kernel
theorem dX11_count_0 : decode cX11_count 0 = .ok (.iload_n 1, 1) := by decide +kernel
theorem dX11_count_1 : decode cX11_count 1 = .ok (.tableswitch 124 0 8 #[51, 59, 67, 79, 87, 92, 100, 108, 116], 51) := by decide +kernel
theorem dX11_count_52 : decode cX11_count 52 = .ok (.aload_n 0, 1) := by decide +kernel
theorem dX11_count_53 : decode cX11_count 53 = .ok (.getfield 60, 3) := by decide +kernel
theorem dX11_count_56 : decode cX11_count 56 = .ok (.getfield 198, 3) := by decide +kernel
theorem dX11_count_59 : decode cX11_count 59 = .ok (.ireturn, 1) := by decide +kernel
theorem dX11_count_60 : decode cX11_count 60 = .ok (.aload_n 0, 1) := by decide +kernel
theorem dX11_count_61 : decode cX11_count 61 = .ok (.getfield 60, 3) := by decide +kernel
theorem dX11_count_64 : decode cX11_count 64 = .ok (.getfield 146, 3) := by decide +kernel
theorem dX11_count_67 : decode cX11_count 67 = .ok (.ireturn, 1) := by decide +kernel
theorem dX11_count_68 : decode cX11_count 68 = .ok (.aload_n 0, 1) := by decide +kernel
theorem dX11_count_69 : decode cX11_count 69 = .ok (.getfield 60, 3) := by decide +kernel
theorem dX11_count_72 : decode cX11_count 72 = .ok (.aload_n 0, 1) := by decide +kernel
theorem dX11_count_73 : decode cX11_count 73 = .ok (.getfield 34, 3) := by decide +kernel
theorem dX11_count_76 : decode cX11_count 76 = .ok (.invokevirtual 192, 3) := by decide +kernel
theorem dX11_count_79 : decode cX11_count 79 = .ok (.ireturn, 1) := by decide +kernel
theorem dX11_count_80 : decode cX11_count 80 = .ok (.aload_n 0, 1) := by decide +kernel
theorem dX11_count_81 : decode cX11_count 81 = .ok (.getfield 60, 3) := by decide +kernel
theorem dX11_count_84 : decode cX11_count 84 = .ok (.getfield 153, 3) := by decide +kernel
theorem dX11_count_87 : decode cX11_count 87 = .ok (.ireturn, 1) := by decide +kernel
theorem dX11_count_88 : decode cX11_count 88 = .ok (.aload_n 0, 1) := by decide +kernel
theorem dX11_count_89 : decode cX11_count 89 = .ok (.getfield 41, 3) := by decide +kernel
theorem dX11_count_92 : decode cX11_count 92 = .ok (.ireturn, 1) := by decide +kernel
theorem dX11_count_93 : decode cX11_count 93 = .ok (.aload_n 0, 1) := by decide +kernel
theorem dX11_count_94 : decode cX11_count 94 = .ok (.getfield 60, 3) := by decide +kernel
theorem dX11_count_97 : decode cX11_count 97 = .ok (.invokevirtual 290, 3) := by decide +kernel
theorem dX11_count_100 : decode cX11_count 100 = .ok (.ireturn, 1) := by decide +kernel
theorem dX11_count_101 : decode cX11_count 101 = .ok (.aload_n 0, 1) := by decide +kernel
theorem dX11_count_102 : decode cX11_count 102 = .ok (.getfield 11, 3) := by decide +kernel
theorem dX11_count_105 : decode cX11_count 105 = .ok (.invokestatic 293, 3) := by decide +kernel
theorem dX11_count_108 : decode cX11_count 108 = .ok (.ireturn, 1) := by decide +kernel
theorem dX11_count_109 : decode cX11_count 109 = .ok (.aload_n 0, 1) := by decide +kernel
theorem dX11_count_110 : decode cX11_count 110 = .ok (.getfield 15, 3) := by decide +kernel
theorem dX11_count_113 : decode cX11_count 113 = .ok (.invokestatic 293, 3) := by decide +kernel
theorem dX11_count_116 : decode cX11_count 116 = .ok (.ireturn, 1) := by decide +kernel
theorem dX11_count_117 : decode cX11_count 117 = .ok (.aload_n 0, 1) := by decide +kernel
theorem dX11_count_118 : decode cX11_count 118 = .ok (.getfield 60, 3) := by decide +kernel
theorem dX11_count_121 : decode cX11_count 121 = .ok (.invokevirtual 297, 3) := by decide +kernel
theorem dX11_count_124 : decode cX11_count 124 = .ok (.ireturn, 1) := by decide +kernel
theorem dX11_count_125 : decode cX11_count 125 = .ok (.iconst (-1), 1) := by decide +kernel
theorem dX11_count_126 : decode cX11_count 126 = .ok (.ireturn, 1) := by decide +kernel
theorem dX11_finding_0 : decode cX11_finding 0 = .ok (.aload_n 0, 1) := by decide +kernel
theorem dX11_finding_1 : decode cX11_finding 1 = .ok (.getfield 54, 3) := by decide +kernel
theorem dX11_finding_4 : decode cX11_finding 4 = .ok (.ireturn, 1) := by decide +kernel
theorem dX11_findings_0 : decode cX11_findings 0 = .ok (.iload_n 1, 1) := by decide +kernel
theorem dX11_findings_1 : decode cX11_findings 1 = .ok (.iconst 1, 1) := by decide +kernel
theorem dX11_findings_2 : decode cX11_findings 2 = .ok (.if_icmp .lt 8, 3) := by decide +kernel
theorem dX11_findings_5 : decode cX11_findings 5 = .ok (.iload_n 1, 1) := by decide +kernel
theorem dX11_findings_6 : decode cX11_findings 6 = .ok (.iconst 5, 1) := by decide +kernel
theorem dX11_findings_7 : decode cX11_findings 7 = .ok (.if_icmp .le 7, 3) := by decide +kernel
theorem dX11_findings_10 : decode cX11_findings 10 = .ok (.iconst (-1), 1) := by decide +kernel
theorem dX11_findings_11 : decode cX11_findings 11 = .ok (.goto 9, 3) := by decide +kernel
theorem dX11_findings_14 : decode cX11_findings 14 = .ok (.aload_n 0, 1) := by decide +kernel
theorem dX11_findings_15 : decode cX11_findings 15 = .ok (.getfield 31, 3) := by decide +kernel
theorem dX11_findings_18 : decode cX11_findings 18 = .ok (.iload_n 1, 1) := by decide +kernel
theorem dX11_findings_19 : decode cX11_findings 19 = .ok (.iaload, 1) := by decide +kernel
theorem dX11_findings_20 : decode cX11_findings 20 = .ok (.ireturn, 1) := by decide +kernel
theorem dX11_digest_0 : decode cX11_digest 0 = .ok (.ldc2_w 300, 3) := by decide +kernel
theorem dX11_digest_3 : decode cX11_digest 3 = .ok (.lstore_n 1, 1) := by decide +kernel
theorem dX11_digest_4 : decode cX11_digest 4 = .ok (.iconst 0, 1) := by decide +kernel
theorem dX11_digest_5 : decode cX11_digest 5 = .ok (.istore_n 3, 1) := by decide +kernel
theorem dX11_digest_6 : decode cX11_digest 6 = .ok (.iload_n 3, 1) := by decide +kernel
theorem dX11_digest_7 : decode cX11_digest 7 = .ok (.bipush 8, 2) := by decide +kernel
theorem dX11_digest_9 : decode cX11_digest 9 = .ok (.if_icmp .gt 22, 3) := by decide +kernel
theorem dX11_digest_12 : decode cX11_digest 12 = .ok (.ldc2_w 302, 3) := by decide +kernel
theorem dX11_digest_15 : decode cX11_digest 15 = .ok (.lload_n 1, 1) := by decide +kernel
theorem dX11_digest_16 : decode cX11_digest 16 = .ok (.lmul, 1) := by decide +kernel
theorem dX11_digest_17 : decode cX11_digest 17 = .ok (.aload_n 0, 1) := by decide +kernel
theorem dX11_digest_18 : decode cX11_digest 18 = .ok (.iload_n 3, 1) := by decide +kernel
theorem dX11_digest_19 : decode cX11_digest 19 = .ok (.invokevirtual 304, 3) := by decide +kernel
theorem dX11_digest_22 : decode cX11_digest 22 = .ok (.i2l, 1) := by decide +kernel
theorem dX11_digest_23 : decode cX11_digest 23 = .ok (.ladd, 1) := by decide +kernel
theorem dX11_digest_24 : decode cX11_digest 24 = .ok (.lstore_n 1, 1) := by decide +kernel
theorem dX11_digest_25 : decode cX11_digest 25 = .ok (.iinc 3 1, 3) := by decide +kernel
theorem dX11_digest_28 : decode cX11_digest 28 = .ok (.goto (-22), 3) := by decide +kernel
theorem dX11_digest_31 : decode cX11_digest 31 = .ok (.ldc2_w 302, 3) := by decide +kernel
theorem dX11_digest_34 : decode cX11_digest 34 = .ok (.lload_n 1, 1) := by decide +kernel
theorem dX11_digest_35 : decode cX11_digest 35 = .ok (.lmul, 1) := by decide +kernel
theorem dX11_digest_36 : decode cX11_digest 36 = .ok (.aload_n 0, 1) := by decide +kernel
theorem dX11_digest_37 : decode cX11_digest 37 = .ok (.getfield 38, 3) := by decide +kernel
theorem dX11_digest_40 : decode cX11_digest 40 = .ok (.i2l, 1) := by decide +kernel
theorem dX11_digest_41 : decode cX11_digest 41 = .ok (.ladd, 1) := by decide +kernel
theorem dX11_digest_42 : decode cX11_digest 42 = .ok (.lstore_n 1, 1) := by decide +kernel
theorem dX11_digest_43 : decode cX11_digest 43 = .ok (.iconst 0, 1) := by decide +kernel
theorem dX11_digest_44 : decode cX11_digest 44 = .ok (.istore_n 3, 1) := by decide +kernel
theorem dX11_digest_45 : decode cX11_digest 45 = .ok (.iload_n 3, 1) := by decide +kernel
theorem dX11_digest_46 : decode cX11_digest 46 = .ok (.aload_n 0, 1) := by decide +kernel
theorem dX11_digest_47 : decode cX11_digest 47 = .ok (.getfield 60, 3) := by decide +kernel
theorem dX11_digest_50 : decode cX11_digest 50 = .ok (.getfield 146, 3) := by decide +kernel
theorem dX11_digest_53 : decode cX11_digest 53 = .ok (.if_icmp .ge 39, 3) := by decide +kernel
theorem dX11_digest_56 : decode cX11_digest 56 = .ok (.iconst 0, 1) := by decide +kernel
theorem dX11_digest_57 : decode cX11_digest 57 = .ok (.istore 4, 2) := by decide +kernel
theorem dX11_digest_59 : decode cX11_digest 59 = .ok (.iload 4, 2) := by decide +kernel
theorem dX11_digest_61 : decode cX11_digest 61 = .ok (.iconst 4, 1) := by decide +kernel
theorem dX11_digest_62 : decode cX11_digest 62 = .ok (.if_icmp .ge 24, 3) := by decide +kernel
theorem dX11_digest_65 : decode cX11_digest 65 = .ok (.ldc2_w 302, 3) := by decide +kernel
theorem dX11_digest_68 : decode cX11_digest 68 = .ok (.lload_n 1, 1) := by decide +kernel
theorem dX11_digest_69 : decode cX11_digest 69 = .ok (.lmul, 1) := by decide +kernel
theorem dX11_digest_70 : decode cX11_digest 70 = .ok (.aload_n 0, 1) := by decide +kernel
theorem dX11_digest_71 : decode cX11_digest 71 = .ok (.iload_n 3, 1) := by decide +kernel
theorem dX11_digest_72 : decode cX11_digest 72 = .ok (.iload 4, 2) := by decide +kernel
theorem dX11_digest_74 : decode cX11_digest 74 = .ok (.invokevirtual 149, 3) := by decide +kernel
theorem dX11_digest_77 : decode cX11_digest 77 = .ok (.i2l, 1) := by decide +kernel
theorem dX11_digest_78 : decode cX11_digest 78 = .ok (.ladd, 1) := by decide +kernel
theorem dX11_digest_79 : decode cX11_digest 79 = .ok (.lstore_n 1, 1) := by decide +kernel
theorem dX11_digest_80 : decode cX11_digest 80 = .ok (.iinc 4 1, 3) := by decide +kernel
theorem dX11_digest_83 : decode cX11_digest 83 = .ok (.goto (-24), 3) := by decide +kernel
theorem dX11_digest_86 : decode cX11_digest 86 = .ok (.iinc 3 1, 3) := by decide +kernel
theorem dX11_digest_89 : decode cX11_digest 89 = .ok (.goto (-44), 3) := by decide +kernel
theorem dX11_digest_92 : decode cX11_digest 92 = .ok (.iconst 0, 1) := by decide +kernel
theorem dX11_digest_93 : decode cX11_digest 93 = .ok (.istore_n 3, 1) := by decide +kernel
theorem dX11_digest_94 : decode cX11_digest 94 = .ok (.iload_n 3, 1) := by decide +kernel
theorem dX11_digest_95 : decode cX11_digest 95 = .ok (.aload_n 0, 1) := by decide +kernel
theorem dX11_digest_96 : decode cX11_digest 96 = .ok (.getfield 60, 3) := by decide +kernel
theorem dX11_digest_99 : decode cX11_digest 99 = .ok (.getfield 153, 3) := by decide +kernel
theorem dX11_digest_102 : decode cX11_digest 102 = .ok (.if_icmp .ge 39, 3) := by decide +kernel
theorem dX11_digest_105 : decode cX11_digest 105 = .ok (.iconst 0, 1) := by decide +kernel
theorem dX11_digest_106 : decode cX11_digest 106 = .ok (.istore 4, 2) := by decide +kernel
theorem dX11_digest_108 : decode cX11_digest 108 = .ok (.iload 4, 2) := by decide +kernel
theorem dX11_digest_110 : decode cX11_digest 110 = .ok (.iconst 4, 1) := by decide +kernel
theorem dX11_digest_111 : decode cX11_digest 111 = .ok (.if_icmp .ge 24, 3) := by decide +kernel
theorem dX11_digest_114 : decode cX11_digest 114 = .ok (.ldc2_w 302, 3) := by decide +kernel
theorem dX11_digest_117 : decode cX11_digest 117 = .ok (.lload_n 1, 1) := by decide +kernel
theorem dX11_digest_118 : decode cX11_digest 118 = .ok (.lmul, 1) := by decide +kernel
theorem dX11_digest_119 : decode cX11_digest 119 = .ok (.aload_n 0, 1) := by decide +kernel
theorem dX11_digest_120 : decode cX11_digest 120 = .ok (.iload_n 3, 1) := by decide +kernel
theorem dX11_digest_121 : decode cX11_digest 121 = .ok (.iload 4, 2) := by decide +kernel
theorem dX11_digest_123 : decode cX11_digest 123 = .ok (.invokevirtual 156, 3) := by decide +kernel
theorem dX11_digest_126 : decode cX11_digest 126 = .ok (.i2l, 1) := by decide +kernel
theorem dX11_digest_127 : decode cX11_digest 127 = .ok (.ladd, 1) := by decide +kernel
theorem dX11_digest_128 : decode cX11_digest 128 = .ok (.lstore_n 1, 1) := by decide +kernel
theorem dX11_digest_129 : decode cX11_digest 129 = .ok (.iinc 4 1, 3) := by decide +kernel
theorem dX11_digest_132 : decode cX11_digest 132 = .ok (.goto (-24), 3) := by decide +kernel
theorem dX11_digest_135 : decode cX11_digest 135 = .ok (.iinc 3 1, 3) := by decide +kernel
theorem dX11_digest_138 : decode cX11_digest 138 = .ok (.goto (-44), 3) := by decide +kernel
theorem dX11_digest_141 : decode cX11_digest 141 = .ok (.iconst 0, 1) := by decide +kernel
theorem dX11_digest_142 : decode cX11_digest 142 = .ok (.istore_n 3, 1) := by decide +kernel
theorem dX11_digest_143 : decode cX11_digest 143 = .ok (.iload_n 3, 1) := by decide +kernel
theorem dX11_digest_144 : decode cX11_digest 144 = .ok (.aload_n 0, 1) := by decide +kernel
theorem dX11_digest_145 : decode cX11_digest 145 = .ok (.getfield 41, 3) := by decide +kernel
theorem dX11_digest_148 : decode cX11_digest 148 = .ok (.if_icmp .ge 32, 3) := by decide +kernel
theorem dX11_digest_151 : decode cX11_digest 151 = .ok (.iload_n 3, 1) := by decide +kernel
theorem dX11_digest_152 : decode cX11_digest 152 = .ok (.bipush 60, 2) := by decide +kernel
theorem dX11_digest_154 : decode cX11_digest 154 = .ok (.if_icmp .ge 26, 3) := by decide +kernel
theorem dX11_digest_157 : decode cX11_digest 157 = .ok (.ldc2_w 302, 3) := by decide +kernel
theorem dX11_digest_160 : decode cX11_digest 160 = .ok (.lload_n 1, 1) := by decide +kernel
theorem dX11_digest_161 : decode cX11_digest 161 = .ok (.lmul, 1) := by decide +kernel
theorem dX11_digest_162 : decode cX11_digest 162 = .ok (.aload_n 0, 1) := by decide +kernel
theorem dX11_digest_163 : decode cX11_digest 163 = .ok (.getfield 20, 3) := by decide +kernel
theorem dX11_digest_166 : decode cX11_digest 166 = .ok (.iload_n 3, 1) := by decide +kernel
theorem dX11_digest_167 : decode cX11_digest 167 = .ok (.aaload, 1) := by decide +kernel
theorem dX11_digest_168 : decode cX11_digest 168 = .ok (.getfield 307, 3) := by decide +kernel
theorem dX11_digest_171 : decode cX11_digest 171 = .ok (.i2l, 1) := by decide +kernel
theorem dX11_digest_172 : decode cX11_digest 172 = .ok (.ladd, 1) := by decide +kernel
theorem dX11_digest_173 : decode cX11_digest 173 = .ok (.lstore_n 1, 1) := by decide +kernel
theorem dX11_digest_174 : decode cX11_digest 174 = .ok (.iinc 3 1, 3) := by decide +kernel
theorem dX11_digest_177 : decode cX11_digest 177 = .ok (.goto (-34), 3) := by decide +kernel
theorem dX11_digest_180 : decode cX11_digest 180 = .ok (.aload_n 0, 1) := by decide +kernel
theorem dX11_digest_181 : decode cX11_digest 181 = .ok (.lload_n 1, 1) := by decide +kernel
theorem dX11_digest_182 : decode cX11_digest 182 = .ok (.invokevirtual 310, 3) := by decide +kernel
theorem dX11_digest_185 : decode cX11_digest 185 = .ok (.lstore_n 1, 1) := by decide +kernel
theorem dX11_digest_186 : decode cX11_digest 186 = .ok (.lload_n 1, 1) := by decide +kernel
theorem dX11_digest_187 : decode cX11_digest 187 = .ok (.aload_n 0, 1) := by decide +kernel
theorem dX11_digest_188 : decode cX11_digest 188 = .ok (.getfield 11, 3) := by decide +kernel
theorem dX11_digest_191 : decode cX11_digest 191 = .ok (.invokestatic 314, 3) := by decide +kernel
theorem dX11_digest_194 : decode cX11_digest 194 = .ok (.lstore_n 1, 1) := by decide +kernel
theorem dX11_digest_195 : decode cX11_digest 195 = .ok (.lload_n 1, 1) := by decide +kernel
theorem dX11_digest_196 : decode cX11_digest 196 = .ok (.aload_n 0, 1) := by decide +kernel
theorem dX11_digest_197 : decode cX11_digest 197 = .ok (.getfield 15, 3) := by decide +kernel
theorem dX11_digest_200 : decode cX11_digest 200 = .ok (.invokestatic 314, 3) := by decide +kernel
theorem dX11_digest_203 : decode cX11_digest 203 = .ok (.lreturn, 1) := by decide +kernel
theorem dX11_isBelow_0 : decode cX11_isBelow 0 = .ok (.iload_n 0, 1) := by decide +kernel
theorem dX11_isBelow_1 : decode cX11_isBelow 1 = .ok (.ifCond .lt 12, 3) := by decide +kernel
theorem dX11_isBelow_4 : decode cX11_isBelow 4 = .ok (.iload_n 0, 1) := by decide +kernel
theorem dX11_isBelow_5 : decode cX11_isBelow 5 = .ok (.iload_n 1, 1) := by decide +kernel
theorem dX11_isBelow_6 : decode cX11_isBelow 6 = .ok (.if_icmp .ge 7, 3) := by decide +kernel
theorem dX11_isBelow_9 : decode cX11_isBelow 9 = .ok (.iconst 1, 1) := by decide +kernel
theorem dX11_isBelow_10 : decode cX11_isBelow 10 = .ok (.goto 4, 3) := by decide +kernel
theorem dX11_isBelow_13 : decode cX11_isBelow 13 = .ok (.iconst 0, 1) := by decide +kernel
theorem dX11_isBelow_14 : decode cX11_isBelow 14 = .ok (.ireturn, 1) := by decide +kernel
theorem dX11_found_0 : decode cX11_found 0 = .ok (.aload_n 0, 1) := by decide +kernel
theorem dX11_found_1 : decode cX11_found 1 = .ok (.iload_n 1, 1) := by decide +kernel
theorem dX11_found_2 : decode cX11_found 2 = .ok (.putfield 54, 3) := by decide +kernel
theorem dX11_found_5 : decode cX11_found 5 = .ok (.aload_n 0, 1) := by decide +kernel
theorem dX11_found_6 : decode cX11_found 6 = .ok (.getfield 31, 3) := by decide +kernel
theorem dX11_found_9 : decode cX11_found 9 = .ok (.iload_n 1, 1) := by decide +kernel
theorem dX11_found_10 : decode cX11_found 10 = .ok (.dup2, 1) := by decide +kernel
theorem dX11_found_11 : decode cX11_found 11 = .ok (.iaload, 1) := by decide +kernel
theorem dX11_found_12 : decode cX11_found 12 = .ok (.iconst 1, 1) := by decide +kernel
theorem dX11_found_13 : decode cX11_found 13 = .ok (.iadd, 1) := by decide +kernel
theorem dX11_found_14 : decode cX11_found 14 = .ok (.iastore, 1) := by decide +kernel
theorem dX11_found_15 : decode cX11_found 15 = .ok (.bipush (-3), 2) := by decide +kernel
theorem dX11_found_17 : decode cX11_found 17 = .ok (.ireturn, 1) := by decide +kernel
theorem dX11_ofStone_0 : decode cX11_ofStone 0 = .ok (.iload_n 2, 1) := by decide +kernel
theorem dX11_ofStone_1 : decode cX11_ofStone 1 = .ok (.tableswitch 56 0 2 #[27, 37, 46], 27) := by decide +kernel
theorem dX11_ofStone_28 : decode cX11_ofStone 28 = .ok (.aload_n 0, 1) := by decide +kernel
theorem dX11_ofStone_29 : decode cX11_ofStone 29 = .ok (.getfield 60, 3) := by decide +kernel
theorem dX11_ofStone_32 : decode cX11_ofStone 32 = .ok (.getfield 318, 3) := by decide +kernel
theorem dX11_ofStone_35 : decode cX11_ofStone 35 = .ok (.iload_n 1, 1) := by decide +kernel
theorem dX11_ofStone_36 : decode cX11_ofStone 36 = .ok (.iaload, 1) := by decide +kernel
theorem dX11_ofStone_37 : decode cX11_ofStone 37 = .ok (.ireturn, 1) := by decide +kernel
theorem dX11_ofStone_38 : decode cX11_ofStone 38 = .ok (.aload_n 0, 1) := by decide +kernel
theorem dX11_ofStone_39 : decode cX11_ofStone 39 = .ok (.getfield 34, 3) := by decide +kernel
theorem dX11_ofStone_42 : decode cX11_ofStone 42 = .ok (.iload_n 1, 1) := by decide +kernel
theorem dX11_ofStone_43 : decode cX11_ofStone 43 = .ok (.invokestatic 189, 3) := by decide +kernel
theorem dX11_ofStone_46 : decode cX11_ofStone 46 = .ok (.ireturn, 1) := by decide +kernel
theorem dX11_ofStone_47 : decode cX11_ofStone 47 = .ok (.aload_n 0, 1) := by decide +kernel
theorem dX11_ofStone_48 : decode cX11_ofStone 48 = .ok (.getfield 60, 3) := by decide +kernel
theorem dX11_ofStone_51 : decode cX11_ofStone 51 = .ok (.getfield 321, 3) := by decide +kernel
theorem dX11_ofStone_54 : decode cX11_ofStone 54 = .ok (.iload_n 1, 1) := by decide +kernel
theorem dX11_ofStone_55 : decode cX11_ofStone 55 = .ok (.iaload, 1) := by decide +kernel
theorem dX11_ofStone_56 : decode cX11_ofStone 56 = .ok (.ireturn, 1) := by decide +kernel
theorem dX11_ofStone_57 : decode cX11_ofStone 57 = .ok (.aload_n 0, 1) := by decide +kernel
theorem dX11_ofStone_58 : decode cX11_ofStone 58 = .ok (.iload_n 1, 1) := by decide +kernel
theorem dX11_ofStone_59 : decode cX11_ofStone 59 = .ok (.invokevirtual 324, 3) := by decide +kernel
theorem dX11_ofStone_62 : decode cX11_ofStone 62 = .ok (.ireturn, 1) := by decide +kernel
theorem dX11_allMoves_0 : decode cX11_allMoves 0 = .ok (.iconst 0, 1) := by decide +kernel
theorem dX11_allMoves_1 : decode cX11_allMoves 1 = .ok (.istore_n 2, 1) := by decide +kernel
theorem dX11_allMoves_2 : decode cX11_allMoves 2 = .ok (.iconst 0, 1) := by decide +kernel
theorem dX11_allMoves_3 : decode cX11_allMoves 3 = .ok (.istore_n 3, 1) := by decide +kernel
theorem dX11_allMoves_4 : decode cX11_allMoves 4 = .ok (.iload_n 3, 1) := by decide +kernel
theorem dX11_allMoves_5 : decode cX11_allMoves 5 = .ok (.aload_n 0, 1) := by decide +kernel
theorem dX11_allMoves_6 : decode cX11_allMoves 6 = .ok (.getfield 41, 3) := by decide +kernel
theorem dX11_allMoves_9 : decode cX11_allMoves 9 = .ok (.if_icmp .ge 28, 3) := by decide +kernel
theorem dX11_allMoves_12 : decode cX11_allMoves 12 = .ok (.iload_n 3, 1) := by decide +kernel
theorem dX11_allMoves_13 : decode cX11_allMoves 13 = .ok (.bipush 60, 2) := by decide +kernel
theorem dX11_allMoves_15 : decode cX11_allMoves 15 = .ok (.if_icmp .ge 22, 3) := by decide +kernel
theorem dX11_allMoves_18 : decode cX11_allMoves 18 = .ok (.iload_n 2, 1) := by decide +kernel
theorem dX11_allMoves_19 : decode cX11_allMoves 19 = .ok (.aload_n 0, 1) := by decide +kernel
theorem dX11_allMoves_20 : decode cX11_allMoves 20 = .ok (.getfield 20, 3) := by decide +kernel
theorem dX11_allMoves_23 : decode cX11_allMoves 23 = .ok (.iload_n 3, 1) := by decide +kernel
theorem dX11_allMoves_24 : decode cX11_allMoves 24 = .ok (.aaload, 1) := by decide +kernel
theorem dX11_allMoves_25 : decode cX11_allMoves 25 = .ok (.iload_n 1, 1) := by decide +kernel
theorem dX11_allMoves_26 : decode cX11_allMoves 26 = .ok (.invokevirtual 327, 3) := by decide +kernel
theorem dX11_allMoves_29 : decode cX11_allMoves 29 = .ok (.iadd, 1) := by decide +kernel
theorem dX11_allMoves_30 : decode cX11_allMoves 30 = .ok (.istore_n 2, 1) := by decide +kernel
theorem dX11_allMoves_31 : decode cX11_allMoves 31 = .ok (.iinc 3 1, 3) := by decide +kernel
theorem dX11_allMoves_34 : decode cX11_allMoves 34 = .ok (.goto (-30), 3) := by decide +kernel
theorem dX11_allMoves_37 : decode cX11_allMoves 37 = .ok (.iload_n 2, 1) := by decide +kernel
theorem dX11_allMoves_38 : decode cX11_allMoves 38 = .ok (.ireturn, 1) := by decide +kernel
theorem dX11_ofWalker_0 : decode cX11_ofWalker 0 = .ok (.aload_n 0, 1) := by decide +kernel
theorem dX11_ofWalker_1 : decode cX11_ofWalker 1 = .ok (.getfield 60, 3) := by decide +kernel
theorem dX11_ofWalker_4 : decode cX11_ofWalker 4 = .ok (.iload_n 1, 1) := by decide +kernel
theorem dX11_ofWalker_5 : decode cX11_ofWalker 5 = .ok (.invokevirtual 159, 3) := by decide +kernel
theorem dX11_ofWalker_8 : decode cX11_ofWalker 8 = .ok (.astore_n 3, 1) := by decide +kernel
theorem dX11_ofWalker_9 : decode cX11_ofWalker 9 = .ok (.aload_n 3, 1) := by decide +kernel
theorem dX11_ofWalker_10 : decode cX11_ofWalker 10 = .ok (.ifnonnull 6, 3) := by decide +kernel
theorem dX11_ofWalker_13 : decode cX11_ofWalker 13 = .ok (.bipush (-9), 2) := by decide +kernel
theorem dX11_ofWalker_15 : decode cX11_ofWalker 15 = .ok (.ireturn, 1) := by decide +kernel
theorem dX11_ofWalker_16 : decode cX11_ofWalker 16 = .ok (.iload_n 2, 1) := by decide +kernel
theorem dX11_ofWalker_17 : decode cX11_ofWalker 17 = .ok (.tableswitch 42 0 2 #[27, 32, 37], 27) := by decide +kernel
theorem dX11_ofWalker_44 : decode cX11_ofWalker 44 = .ok (.aload_n 3, 1) := by decide +kernel
theorem dX11_ofWalker_45 : decode cX11_ofWalker 45 = .ok (.invokevirtual 330, 3) := by decide +kernel
theorem dX11_ofWalker_48 : decode cX11_ofWalker 48 = .ok (.ireturn, 1) := by decide +kernel
theorem dX11_ofWalker_49 : decode cX11_ofWalker 49 = .ok (.aload_n 3, 1) := by decide +kernel
theorem dX11_ofWalker_50 : decode cX11_ofWalker 50 = .ok (.getfield 333, 3) := by decide +kernel
theorem dX11_ofWalker_53 : decode cX11_ofWalker 53 = .ok (.ireturn, 1) := by decide +kernel
theorem dX11_ofWalker_54 : decode cX11_ofWalker 54 = .ok (.aload_n 3, 1) := by decide +kernel
theorem dX11_ofWalker_55 : decode cX11_ofWalker 55 = .ok (.getfield 334, 3) := by decide +kernel
theorem dX11_ofWalker_58 : decode cX11_ofWalker 58 = .ok (.ireturn, 1) := by decide +kernel
theorem dX11_ofWalker_59 : decode cX11_ofWalker 59 = .ok (.aload_n 0, 1) := by decide +kernel
theorem dX11_ofWalker_60 : decode cX11_ofWalker 60 = .ok (.iload_n 1, 1) := by decide +kernel
theorem dX11_ofWalker_61 : decode cX11_ofWalker 61 = .ok (.invokevirtual 337, 3) := by decide +kernel
theorem dX11_ofWalker_64 : decode cX11_ofWalker 64 = .ok (.ireturn, 1) := by decide +kernel
theorem dX11_allPay_0 : decode cX11_allPay 0 = .ok (.iconst 0, 1) := by decide +kernel
theorem dX11_allPay_1 : decode cX11_allPay 1 = .ok (.istore_n 2, 1) := by decide +kernel
theorem dX11_allPay_2 : decode cX11_allPay 2 = .ok (.iconst 0, 1) := by decide +kernel
theorem dX11_allPay_3 : decode cX11_allPay 3 = .ok (.istore_n 3, 1) := by decide +kernel
theorem dX11_allPay_4 : decode cX11_allPay 4 = .ok (.iload_n 3, 1) := by decide +kernel
theorem dX11_allPay_5 : decode cX11_allPay 5 = .ok (.aload_n 0, 1) := by decide +kernel
theorem dX11_allPay_6 : decode cX11_allPay 6 = .ok (.getfield 41, 3) := by decide +kernel
theorem dX11_allPay_9 : decode cX11_allPay 9 = .ok (.if_icmp .ge 40, 3) := by decide +kernel
theorem dX11_allPay_12 : decode cX11_allPay 12 = .ok (.iload_n 3, 1) := by decide +kernel
theorem dX11_allPay_13 : decode cX11_allPay 13 = .ok (.bipush 60, 2) := by decide +kernel
theorem dX11_allPay_15 : decode cX11_allPay 15 = .ok (.if_icmp .ge 34, 3) := by decide +kernel
theorem dX11_allPay_18 : decode cX11_allPay 18 = .ok (.aload_n 0, 1) := by decide +kernel
theorem dX11_allPay_19 : decode cX11_allPay 19 = .ok (.getfield 20, 3) := by decide +kernel
theorem dX11_allPay_22 : decode cX11_allPay 22 = .ok (.iload_n 3, 1) := by decide +kernel
theorem dX11_allPay_23 : decode cX11_allPay 23 = .ok (.aaload, 1) := by decide +kernel
theorem dX11_allPay_24 : decode cX11_allPay 24 = .ok (.getfield 307, 3) := by decide +kernel
theorem dX11_allPay_27 : decode cX11_allPay 27 = .ok (.iload_n 1, 1) := by decide +kernel
theorem dX11_allPay_28 : decode cX11_allPay 28 = .ok (.if_icmp .ne 15, 3) := by decide +kernel
theorem dX11_allPay_31 : decode cX11_allPay 31 = .ok (.iload_n 2, 1) := by decide +kernel
theorem dX11_allPay_32 : decode cX11_allPay 32 = .ok (.aload_n 0, 1) := by decide +kernel
theorem dX11_allPay_33 : decode cX11_allPay 33 = .ok (.getfield 20, 3) := by decide +kernel
theorem dX11_allPay_36 : decode cX11_allPay 36 = .ok (.iload_n 3, 1) := by decide +kernel
theorem dX11_allPay_37 : decode cX11_allPay 37 = .ok (.aaload, 1) := by decide +kernel
theorem dX11_allPay_38 : decode cX11_allPay 38 = .ok (.getfield 183, 3) := by decide +kernel
theorem dX11_allPay_41 : decode cX11_allPay 41 = .ok (.iadd, 1) := by decide +kernel
theorem dX11_allPay_42 : decode cX11_allPay 42 = .ok (.istore_n 2, 1) := by decide +kernel
theorem dX11_allPay_43 : decode cX11_allPay 43 = .ok (.iinc 3 1, 3) := by decide +kernel
theorem dX11_allPay_46 : decode cX11_allPay 46 = .ok (.goto (-42), 3) := by decide +kernel
theorem dX11_allPay_49 : decode cX11_allPay 49 = .ok (.iload_n 2, 1) := by decide +kernel
theorem dX11_allPay_50 : decode cX11_allPay 50 = .ok (.ireturn, 1) := by decide +kernel
theorem dX11_doWalk_0 : decode cX11_doWalk 0 = .ok (.aload_n 0, 1) := by decide +kernel
theorem dX11_doWalk_1 : decode cX11_doWalk 1 = .ok (.getfield 41, 3) := by decide +kernel
theorem dX11_doWalk_4 : decode cX11_doWalk 4 = .ok (.bipush 60, 2) := by decide +kernel
theorem dX11_doWalk_6 : decode cX11_doWalk 6 = .ok (.invokestatic 85, 3) := by decide +kernel
theorem dX11_doWalk_9 : decode cX11_doWalk 9 = .ok (.ifCond .ne 5, 3) := by decide +kernel
theorem dX11_doWalk_12 : decode cX11_doWalk 12 = .ok (.iconst 0, 1) := by decide +kernel
theorem dX11_doWalk_13 : decode cX11_doWalk 13 = .ok (.ireturn, 1) := by decide +kernel
theorem dX11_doWalk_14 : decode cX11_doWalk 14 = .ok (.aload_n 0, 1) := by decide +kernel
theorem dX11_doWalk_15 : decode cX11_doWalk 15 = .ok (.getfield 20, 3) := by decide +kernel
theorem dX11_doWalk_18 : decode cX11_doWalk 18 = .ok (.aload_n 0, 1) := by decide +kernel
theorem dX11_doWalk_19 : decode cX11_doWalk 19 = .ok (.getfield 41, 3) := by decide +kernel
theorem dX11_doWalk_22 : decode cX11_doWalk 22 = .ok (.aaload, 1) := by decide +kernel
theorem dX11_doWalk_23 : decode cX11_doWalk 23 = .ok (.astore_n 2, 1) := by decide +kernel
theorem dX11_doWalk_24 : decode cX11_doWalk 24 = .ok (.aload_n 2, 1) := by decide +kernel
theorem dX11_doWalk_25 : decode cX11_doWalk 25 = .ok (.aload_n 0, 1) := by decide +kernel
theorem dX11_doWalk_26 : decode cX11_doWalk 26 = .ok (.getfield 60, 3) := by decide +kernel
theorem dX11_doWalk_29 : decode cX11_doWalk 29 = .ok (.aload_n 0, 1) := by decide +kernel
theorem dX11_doWalk_30 : decode cX11_doWalk 30 = .ok (.getfield 34, 3) := by decide +kernel
theorem dX11_doWalk_33 : decode cX11_doWalk 33 = .ok (.aload_n 0, 1) := by decide +kernel
theorem dX11_doWalk_34 : decode cX11_doWalk 34 = .ok (.getfield 38, 3) := by decide +kernel
theorem dX11_doWalk_37 : decode cX11_doWalk 37 = .ok (.invokevirtual 165, 3) := by decide +kernel
theorem dX11_doWalk_40 : decode cX11_doWalk 40 = .ok (.aload_n 2, 1) := by decide +kernel
theorem dX11_doWalk_41 : decode cX11_doWalk 41 = .ok (.iload_n 1, 1) := by decide +kernel
theorem dX11_doWalk_42 : decode cX11_doWalk 42 = .ok (.invokevirtual 175, 3) := by decide +kernel
theorem dX11_doWalk_45 : decode cX11_doWalk 45 = .ok (.aload_n 0, 1) := by decide +kernel
theorem dX11_doWalk_46 : decode cX11_doWalk 46 = .ok (.aload_n 2, 1) := by decide +kernel
theorem dX11_doWalk_47 : decode cX11_doWalk 47 = .ok (.getfield 179, 3) := by decide +kernel
theorem dX11_doWalk_50 : decode cX11_doWalk 50 = .ok (.putfield 34, 3) := by decide +kernel
theorem dX11_doWalk_53 : decode cX11_doWalk 53 = .ok (.aload_n 0, 1) := by decide +kernel
theorem dX11_doWalk_54 : decode cX11_doWalk 54 = .ok (.dup, 1) := by decide +kernel
theorem dX11_doWalk_55 : decode cX11_doWalk 55 = .ok (.getfield 41, 3) := by decide +kernel
theorem dX11_doWalk_58 : decode cX11_doWalk 58 = .ok (.iconst 1, 1) := by decide +kernel
theorem dX11_doWalk_59 : decode cX11_doWalk 59 = .ok (.iadd, 1) := by decide +kernel
theorem dX11_doWalk_60 : decode cX11_doWalk 60 = .ok (.putfield 41, 3) := by decide +kernel
theorem dX11_doWalk_63 : decode cX11_doWalk 63 = .ok (.aload_n 2, 1) := by decide +kernel
theorem dX11_doWalk_64 : decode cX11_doWalk 64 = .ok (.getfield 183, 3) := by decide +kernel
theorem dX11_doWalk_67 : decode cX11_doWalk 67 = .ok (.ireturn, 1) := by decide +kernel
theorem dX11_isSeenFrom_0 : decode cX11_isSeenFrom 0 = .ok (.iconst 0, 1) := by decide +kernel
theorem dX11_isSeenFrom_1 : decode cX11_isSeenFrom 1 = .ok (.istore_n 3, 1) := by decide +kernel
theorem dX11_isSeenFrom_2 : decode cX11_isSeenFrom 2 = .ok (.iload_n 3, 1) := by decide +kernel
theorem dX11_isSeenFrom_3 : decode cX11_isSeenFrom 3 = .ok (.aload_n 1, 1) := by decide +kernel
theorem dX11_isSeenFrom_4 : decode cX11_isSeenFrom 4 = .ok (.getfield 130, 3) := by decide +kernel
theorem dX11_isSeenFrom_7 : decode cX11_isSeenFrom 7 = .ok (.if_icmp .ge 33, 3) := by decide +kernel
theorem dX11_isSeenFrom_10 : decode cX11_isSeenFrom 10 = .ok (.aload_n 0, 1) := by decide +kernel
theorem dX11_isSeenFrom_11 : decode cX11_isSeenFrom 11 = .ok (.getfield 60, 3) := by decide +kernel
theorem dX11_isSeenFrom_14 : decode cX11_isSeenFrom 14 = .ok (.aload_n 0, 1) := by decide +kernel
theorem dX11_isSeenFrom_15 : decode cX11_isSeenFrom 15 = .ok (.getfield 34, 3) := by decide +kernel
theorem dX11_isSeenFrom_18 : decode cX11_isSeenFrom 18 = .ok (.iload_n 2, 1) := by decide +kernel
theorem dX11_isSeenFrom_19 : decode cX11_isSeenFrom 19 = .ok (.iload_n 3, 1) := by decide +kernel
theorem dX11_isSeenFrom_20 : decode cX11_isSeenFrom 20 = .ok (.iadd, 1) := by decide +kernel
theorem dX11_isSeenFrom_21 : decode cX11_isSeenFrom 21 = .ok (.invokevirtual 204, 3) := by decide +kernel
theorem dX11_isSeenFrom_24 : decode cX11_isSeenFrom 24 = .ok (.aload_n 1, 1) := by decide +kernel
theorem dX11_isSeenFrom_25 : decode cX11_isSeenFrom 25 = .ok (.iload_n 3, 1) := by decide +kernel
theorem dX11_isSeenFrom_26 : decode cX11_isSeenFrom 26 = .ok (.invokevirtual 101, 3) := by decide +kernel
theorem dX11_isSeenFrom_29 : decode cX11_isSeenFrom 29 = .ok (.if_icmp .eq 5, 3) := by decide +kernel
theorem dX11_isSeenFrom_32 : decode cX11_isSeenFrom 32 = .ok (.iconst 0, 1) := by decide +kernel
theorem dX11_isSeenFrom_33 : decode cX11_isSeenFrom 33 = .ok (.ireturn, 1) := by decide +kernel
theorem dX11_isSeenFrom_34 : decode cX11_isSeenFrom 34 = .ok (.iinc 3 1, 3) := by decide +kernel
theorem dX11_isSeenFrom_37 : decode cX11_isSeenFrom 37 = .ok (.goto (-35), 3) := by decide +kernel
theorem dX11_isSeenFrom_40 : decode cX11_isSeenFrom 40 = .ok (.iconst 1, 1) := by decide +kernel
theorem dX11_isSeenFrom_41 : decode cX11_isSeenFrom 41 = .ok (.ireturn, 1) := by decide +kernel
theorem dX11_refuseMissing_0 : decode cX11_refuseMissing 0 = .ok (.iload_n 2, 1) := by decide +kernel
theorem dX11_refuseMissing_1 : decode cX11_refuseMissing 1 = .ok (.aload_n 1, 1) := by decide +kernel
theorem dX11_refuseMissing_2 : decode cX11_refuseMissing 2 = .ok (.arraylength, 1) := by decide +kernel
theorem dX11_refuseMissing_3 : decode cX11_refuseMissing 3 = .ok (.invokestatic 85, 3) := by decide +kernel
theorem dX11_refuseMissing_6 : decode cX11_refuseMissing 6 = .ok (.ifCond .ne 5, 3) := by decide +kernel
theorem dX11_refuseMissing_9 : decode cX11_refuseMissing 9 = .ok (.iconst (-1), 1) := by decide +kernel
theorem dX11_refuseMissing_10 : decode cX11_refuseMissing 10 = .ok (.ireturn, 1) := by decide +kernel
theorem dX11_refuseMissing_11 : decode cX11_refuseMissing 11 = .ok (.aload_n 1, 1) := by decide +kernel
theorem dX11_refuseMissing_12 : decode cX11_refuseMissing 12 = .ok (.iload_n 2, 1) := by decide +kernel
theorem dX11_refuseMissing_13 : decode cX11_refuseMissing 13 = .ok (.aaload, 1) := by decide +kernel
theorem dX11_refuseMissing_14 : decode cX11_refuseMissing 14 = .ok (.invokevirtual 114, 3) := by decide +kernel
theorem dX11_refuseMissing_17 : decode cX11_refuseMissing 17 = .ok (.ifCond .eq 11, 3) := by decide +kernel
theorem dX11_refuseMissing_20 : decode cX11_refuseMissing 20 = .ok (.aload_n 0, 1) := by decide +kernel
theorem dX11_refuseMissing_21 : decode cX11_refuseMissing 21 = .ok (.iconst 1, 1) := by decide +kernel
theorem dX11_refuseMissing_22 : decode cX11_refuseMissing 22 = .ok (.invokevirtual 89, 3) := by decide +kernel
theorem dX11_refuseMissing_25 : decode cX11_refuseMissing 25 = .ok (.goto 4, 3) := by decide +kernel
theorem dX11_refuseMissing_28 : decode cX11_refuseMissing 28 = .ok (.iconst 0, 1) := by decide +kernel
theorem dX11_refuseMissing_29 : decode cX11_refuseMissing 29 = .ok (.ireturn, 1) := by decide +kernel
theorem dX11_refusePlace_0 : decode cX11_refusePlace 0 = .ok (.aload_n 0, 1) := by decide +kernel
theorem dX11_refusePlace_1 : decode cX11_refusePlace 1 = .ok (.aload_n 1, 1) := by decide +kernel
theorem dX11_refusePlace_2 : decode cX11_refusePlace 2 = .ok (.iload_n 2, 1) := by decide +kernel
theorem dX11_refusePlace_3 : decode cX11_refusePlace 3 = .ok (.invokevirtual 107, 3) := by decide +kernel
theorem dX11_refusePlace_6 : decode cX11_refusePlace 6 = .ok (.istore 4, 2) := by decide +kernel
theorem dX11_refusePlace_8 : decode cX11_refusePlace 8 = .ok (.iload 4, 2) := by decide +kernel
theorem dX11_refusePlace_10 : decode cX11_refusePlace 10 = .ok (.ifCond .eq 6, 3) := by decide +kernel
theorem dX11_refusePlace_13 : decode cX11_refusePlace 13 = .ok (.iload 4, 2) := by decide +kernel
theorem dX11_refusePlace_15 : decode cX11_refusePlace 15 = .ok (.ireturn, 1) := by decide +kernel
theorem dX11_refusePlace_16 : decode cX11_refusePlace 16 = .ok (.aload_n 1, 1) := by decide +kernel
theorem dX11_refusePlace_17 : decode cX11_refusePlace 17 = .ok (.iload_n 2, 1) := by decide +kernel
theorem dX11_refusePlace_18 : decode cX11_refusePlace 18 = .ok (.aaload, 1) := by decide +kernel
theorem dX11_refusePlace_19 : decode cX11_refusePlace 19 = .ok (.iload_n 3, 1) := by decide +kernel
theorem dX11_refusePlace_20 : decode cX11_refusePlace 20 = .ok (.invokevirtual 340, 3) := by decide +kernel
theorem dX11_refusePlace_23 : decode cX11_refusePlace 23 = .ok (.ifCond .eq 7, 3) := by decide +kernel
theorem dX11_refusePlace_26 : decode cX11_refusePlace 26 = .ok (.iconst 0, 1) := by decide +kernel
theorem dX11_refusePlace_27 : decode cX11_refusePlace 27 = .ok (.goto 8, 3) := by decide +kernel
theorem dX11_refusePlace_30 : decode cX11_refusePlace 30 = .ok (.aload_n 0, 1) := by decide +kernel
theorem dX11_refusePlace_31 : decode cX11_refusePlace 31 = .ok (.iconst 2, 1) := by decide +kernel
theorem dX11_refusePlace_32 : decode cX11_refusePlace 32 = .ok (.invokevirtual 89, 3) := by decide +kernel
theorem dX11_refusePlace_35 : decode cX11_refusePlace 35 = .ok (.ireturn, 1) := by decide +kernel
theorem dX11_refuseStanding_0 : decode cX11_refuseStanding 0 = .ok (.aload_n 0, 1) := by decide +kernel
theorem dX11_refuseStanding_1 : decode cX11_refuseStanding 1 = .ok (.aload_n 0, 1) := by decide +kernel
theorem dX11_refuseStanding_2 : decode cX11_refuseStanding 2 = .ok (.getfield 11, 3) := by decide +kernel
theorem dX11_refuseStanding_5 : decode cX11_refuseStanding 5 = .ok (.iload_n 1, 1) := by decide +kernel
theorem dX11_refuseStanding_6 : decode cX11_refuseStanding 6 = .ok (.invokevirtual 107, 3) := by decide +kernel
theorem dX11_refuseStanding_9 : decode cX11_refuseStanding 9 = .ok (.istore_n 2, 1) := by decide +kernel
theorem dX11_refuseStanding_10 : decode cX11_refuseStanding 10 = .ok (.iload_n 2, 1) := by decide +kernel
theorem dX11_refuseStanding_11 : decode cX11_refuseStanding 11 = .ok (.ifCond .eq 5, 3) := by decide +kernel
theorem dX11_refuseStanding_14 : decode cX11_refuseStanding 14 = .ok (.iload_n 2, 1) := by decide +kernel
theorem dX11_refuseStanding_15 : decode cX11_refuseStanding 15 = .ok (.ireturn, 1) := by decide +kernel
theorem dX11_refuseStanding_16 : decode cX11_refuseStanding 16 = .ok (.aload_n 0, 1) := by decide +kernel
theorem dX11_refuseStanding_17 : decode cX11_refuseStanding 17 = .ok (.getfield 11, 3) := by decide +kernel
theorem dX11_refuseStanding_20 : decode cX11_refuseStanding 20 = .ok (.iload_n 1, 1) := by decide +kernel
theorem dX11_refuseStanding_21 : decode cX11_refuseStanding 21 = .ok (.aaload, 1) := by decide +kernel
theorem dX11_refuseStanding_22 : decode cX11_refuseStanding 22 = .ok (.astore_n 3, 1) := by decide +kernel
theorem dX11_refuseStanding_23 : decode cX11_refuseStanding 23 = .ok (.aload_n 3, 1) := by decide +kernel
theorem dX11_refuseStanding_24 : decode cX11_refuseStanding 24 = .ok (.getfield 130, 3) := by decide +kernel
theorem dX11_refuseStanding_27 : decode cX11_refuseStanding 27 = .ok (.aload_n 0, 1) := by decide +kernel
theorem dX11_refuseStanding_28 : decode cX11_refuseStanding 28 = .ok (.getfield 60, 3) := by decide +kernel
theorem dX11_refuseStanding_31 : decode cX11_refuseStanding 31 = .ok (.getfield 146, 3) := by decide +kernel
theorem dX11_refuseStanding_34 : decode cX11_refuseStanding 34 = .ok (.if_icmp .eq 9, 3) := by decide +kernel
theorem dX11_refuseStanding_37 : decode cX11_refuseStanding 37 = .ok (.aload_n 0, 1) := by decide +kernel
theorem dX11_refuseStanding_38 : decode cX11_refuseStanding 38 = .ok (.iconst 5, 1) := by decide +kernel
theorem dX11_refuseStanding_39 : decode cX11_refuseStanding 39 = .ok (.invokevirtual 89, 3) := by decide +kernel
theorem dX11_refuseStanding_42 : decode cX11_refuseStanding 42 = .ok (.ireturn, 1) := by decide +kernel
theorem dX11_refuseStanding_43 : decode cX11_refuseStanding 43 = .ok (.iconst 0, 1) := by decide +kernel
theorem dX11_refuseStanding_44 : decode cX11_refuseStanding 44 = .ok (.istore 4, 2) := by decide +kernel
theorem dX11_refuseStanding_46 : decode cX11_refuseStanding 46 = .ok (.iload 4, 2) := by decide +kernel
theorem dX11_refuseStanding_48 : decode cX11_refuseStanding 48 = .ok (.aload_n 3, 1) := by decide +kernel
theorem dX11_refuseStanding_49 : decode cX11_refuseStanding 49 = .ok (.getfield 130, 3) := by decide +kernel
theorem dX11_refuseStanding_52 : decode cX11_refuseStanding 52 = .ok (.if_icmp .ge 45, 3) := by decide +kernel
theorem dX11_refuseStanding_55 : decode cX11_refuseStanding 55 = .ok (.aload_n 3, 1) := by decide +kernel
theorem dX11_refuseStanding_56 : decode cX11_refuseStanding 56 = .ok (.iload 4, 2) := by decide +kernel
theorem dX11_refuseStanding_58 : decode cX11_refuseStanding 58 = .ok (.invokevirtual 101, 3) := by decide +kernel
theorem dX11_refuseStanding_61 : decode cX11_refuseStanding 61 = .ok (.bipush (-9), 2) := by decide +kernel
theorem dX11_refuseStanding_63 : decode cX11_refuseStanding 63 = .ok (.if_icmp .eq 28, 3) := by decide +kernel
theorem dX11_refuseStanding_66 : decode cX11_refuseStanding 66 = .ok (.aload_n 3, 1) := by decide +kernel
theorem dX11_refuseStanding_67 : decode cX11_refuseStanding 67 = .ok (.iload 4, 2) := by decide +kernel
theorem dX11_refuseStanding_69 : decode cX11_refuseStanding 69 = .ok (.invokevirtual 101, 3) := by decide +kernel
theorem dX11_refuseStanding_72 : decode cX11_refuseStanding 72 = .ok (.aload_n 0, 1) := by decide +kernel
theorem dX11_refuseStanding_73 : decode cX11_refuseStanding 73 = .ok (.getfield 60, 3) := by decide +kernel
theorem dX11_refuseStanding_76 : decode cX11_refuseStanding 76 = .ok (.getfield 198, 3) := by decide +kernel
theorem dX11_refuseStanding_79 : decode cX11_refuseStanding 79 = .ok (.invokestatic 85, 3) := by decide +kernel
theorem dX11_refuseStanding_82 : decode cX11_refuseStanding 82 = .ok (.ifCond .ne 9, 3) := by decide +kernel
theorem dX11_refuseStanding_85 : decode cX11_refuseStanding 85 = .ok (.aload_n 0, 1) := by decide +kernel
theorem dX11_refuseStanding_86 : decode cX11_refuseStanding 86 = .ok (.iconst 3, 1) := by decide +kernel
theorem dX11_refuseStanding_87 : decode cX11_refuseStanding 87 = .ok (.invokevirtual 89, 3) := by decide +kernel
theorem dX11_refuseStanding_90 : decode cX11_refuseStanding 90 = .ok (.ireturn, 1) := by decide +kernel
theorem dX11_refuseStanding_91 : decode cX11_refuseStanding 91 = .ok (.iinc 4 1, 3) := by decide +kernel
theorem dX11_refuseStanding_94 : decode cX11_refuseStanding 94 = .ok (.goto (-48), 3) := by decide +kernel
theorem dX11_refuseStanding_97 : decode cX11_refuseStanding 97 = .ok (.iconst 0, 1) := by decide +kernel
theorem dX11_refuseStanding_98 : decode cX11_refuseStanding 98 = .ok (.ireturn, 1) := by decide +kernel
theorem dX11_standingOf_0 : decode cX11_standingOf 0 = .ok (.iconst 0, 1) := by decide +kernel
theorem dX11_standingOf_1 : decode cX11_standingOf 1 = .ok (.istore_n 2, 1) := by decide +kernel
theorem dX11_standingOf_2 : decode cX11_standingOf 2 = .ok (.iconst 0, 1) := by decide +kernel
theorem dX11_standingOf_3 : decode cX11_standingOf 3 = .ok (.istore_n 3, 1) := by decide +kernel
theorem dX11_standingOf_4 : decode cX11_standingOf 4 = .ok (.iload_n 3, 1) := by decide +kernel
theorem dX11_standingOf_5 : decode cX11_standingOf 5 = .ok (.aload_n 0, 1) := by decide +kernel
theorem dX11_standingOf_6 : decode cX11_standingOf 6 = .ok (.getfield 60, 3) := by decide +kernel
theorem dX11_standingOf_9 : decode cX11_standingOf 9 = .ok (.getfield 146, 3) := by decide +kernel
theorem dX11_standingOf_12 : decode cX11_standingOf 12 = .ok (.if_icmp .ge 35, 3) := by decide +kernel
theorem dX11_standingOf_15 : decode cX11_standingOf 15 = .ok (.iload_n 2, 1) := by decide +kernel
theorem dX11_standingOf_16 : decode cX11_standingOf 16 = .ok (.iload_n 3, 1) := by decide +kernel
theorem dX11_standingOf_17 : decode cX11_standingOf 17 = .ok (.aload_n 1, 1) := by decide +kernel
theorem dX11_standingOf_18 : decode cX11_standingOf 18 = .ok (.iload_n 3, 1) := by decide +kernel
theorem dX11_standingOf_19 : decode cX11_standingOf 19 = .ok (.invokevirtual 101, 3) := by decide +kernel
theorem dX11_standingOf_22 : decode cX11_standingOf 22 = .ok (.bipush (-9), 2) := by decide +kernel
theorem dX11_standingOf_24 : decode cX11_standingOf 24 = .ok (.if_icmp .ne 8, 3) := by decide +kernel
theorem dX11_standingOf_27 : decode cX11_standingOf 27 = .ok (.bipush 7, 2) := by decide +kernel
theorem dX11_standingOf_29 : decode cX11_standingOf 29 = .ok (.goto 8, 3) := by decide +kernel
theorem dX11_standingOf_32 : decode cX11_standingOf 32 = .ok (.aload_n 1, 1) := by decide +kernel
theorem dX11_standingOf_33 : decode cX11_standingOf 33 = .ok (.iload_n 3, 1) := by decide +kernel
theorem dX11_standingOf_34 : decode cX11_standingOf 34 = .ok (.invokevirtual 101, 3) := by decide +kernel
theorem dX11_standingOf_37 : decode cX11_standingOf 37 = .ok (.invokestatic 344, 3) := by decide +kernel
theorem dX11_standingOf_40 : decode cX11_standingOf 40 = .ok (.istore_n 2, 1) := by decide +kernel
theorem dX11_standingOf_41 : decode cX11_standingOf 41 = .ok (.iinc 3 1, 3) := by decide +kernel
theorem dX11_standingOf_44 : decode cX11_standingOf 44 = .ok (.goto (-40), 3) := by decide +kernel
theorem dX11_standingOf_47 : decode cX11_standingOf 47 = .ok (.iload_n 2, 1) := by decide +kernel
theorem dX11_standingOf_48 : decode cX11_standingOf 48 = .ok (.ireturn, 1) := by decide +kernel
theorem dX11_tellFraction_0 : decode cX11_tellFraction 0 = .ok (.iload_n 1, 1) := by decide +kernel
theorem dX11_tellFraction_1 : decode cX11_tellFraction 1 = .ok (.istore_n 3, 1) := by decide +kernel
theorem dX11_tellFraction_2 : decode cX11_tellFraction 2 = .ok (.iload_n 2, 1) := by decide +kernel
theorem dX11_tellFraction_3 : decode cX11_tellFraction 3 = .ok (.istore 4, 2) := by decide +kernel
theorem dX11_tellFraction_5 : decode cX11_tellFraction 5 = .ok (.iconst 0, 1) := by decide +kernel
theorem dX11_tellFraction_6 : decode cX11_tellFraction 6 = .ok (.istore 5, 2) := by decide +kernel
theorem dX11_tellFraction_8 : decode cX11_tellFraction 8 = .ok (.iload 4, 2) := by decide +kernel
theorem dX11_tellFraction_10 : decode cX11_tellFraction 10 = .ok (.ifCond .eq 29, 3) := by decide +kernel
theorem dX11_tellFraction_13 : decode cX11_tellFraction 13 = .ok (.iload 5, 2) := by decide +kernel
theorem dX11_tellFraction_15 : decode cX11_tellFraction 15 = .ok (.bipush 100, 2) := by decide +kernel
theorem dX11_tellFraction_17 : decode cX11_tellFraction 17 = .ok (.if_icmp .ge 22, 3) := by decide +kernel
theorem dX11_tellFraction_20 : decode cX11_tellFraction 20 = .ok (.iload_n 3, 1) := by decide +kernel
theorem dX11_tellFraction_21 : decode cX11_tellFraction 21 = .ok (.iload 4, 2) := by decide +kernel
theorem dX11_tellFraction_23 : decode cX11_tellFraction 23 = .ok (.irem, 1) := by decide +kernel
theorem dX11_tellFraction_24 : decode cX11_tellFraction 24 = .ok (.istore 6, 2) := by decide +kernel
theorem dX11_tellFraction_26 : decode cX11_tellFraction 26 = .ok (.iload 4, 2) := by decide +kernel
theorem dX11_tellFraction_28 : decode cX11_tellFraction 28 = .ok (.istore_n 3, 1) := by decide +kernel
theorem dX11_tellFraction_29 : decode cX11_tellFraction 29 = .ok (.iload 6, 2) := by decide +kernel
theorem dX11_tellFraction_31 : decode cX11_tellFraction 31 = .ok (.istore 4, 2) := by decide +kernel
theorem dX11_tellFraction_33 : decode cX11_tellFraction 33 = .ok (.iinc 5 1, 3) := by decide +kernel
theorem dX11_tellFraction_36 : decode cX11_tellFraction 36 = .ok (.goto (-28), 3) := by decide +kernel
theorem dX11_tellFraction_39 : decode cX11_tellFraction 39 = .ok (.iload_n 3, 1) := by decide +kernel
theorem dX11_tellFraction_40 : decode cX11_tellFraction 40 = .ok (.ifCond .le 19, 3) := by decide +kernel
theorem dX11_tellFraction_43 : decode cX11_tellFraction 43 = .ok (.aload_n 0, 1) := by decide +kernel
theorem dX11_tellFraction_44 : decode cX11_tellFraction 44 = .ok (.iload_n 1, 1) := by decide +kernel
theorem dX11_tellFraction_45 : decode cX11_tellFraction 45 = .ok (.iload_n 3, 1) := by decide +kernel
theorem dX11_tellFraction_46 : decode cX11_tellFraction 46 = .ok (.idiv, 1) := by decide +kernel
theorem dX11_tellFraction_47 : decode cX11_tellFraction 47 = .ok (.i2l, 1) := by decide +kernel
theorem dX11_tellFraction_48 : decode cX11_tellFraction 48 = .ok (.putfield 47, 3) := by decide +kernel
theorem dX11_tellFraction_51 : decode cX11_tellFraction 51 = .ok (.aload_n 0, 1) := by decide +kernel
theorem dX11_tellFraction_52 : decode cX11_tellFraction 52 = .ok (.iload_n 2, 1) := by decide +kernel
theorem dX11_tellFraction_53 : decode cX11_tellFraction 53 = .ok (.iload_n 3, 1) := by decide +kernel
theorem dX11_tellFraction_54 : decode cX11_tellFraction 54 = .ok (.idiv, 1) := by decide +kernel
theorem dX11_tellFraction_55 : decode cX11_tellFraction 55 = .ok (.i2l, 1) := by decide +kernel
theorem dX11_tellFraction_56 : decode cX11_tellFraction 56 = .ok (.putfield 51, 3) := by decide +kernel
theorem dX11_tellFraction_59 : decode cX11_tellFraction 59 = .ok (.return_, 1) := by decide +kernel
theorem dX11_thereOf_0 : decode cX11_thereOf 0 = .ok (.iconst 0, 1) := by decide +kernel
theorem dX11_thereOf_1 : decode cX11_thereOf 1 = .ok (.istore_n 1, 1) := by decide +kernel
theorem dX11_thereOf_2 : decode cX11_thereOf 2 = .ok (.iconst 0, 1) := by decide +kernel
theorem dX11_thereOf_3 : decode cX11_thereOf 3 = .ok (.istore_n 2, 1) := by decide +kernel
theorem dX11_thereOf_4 : decode cX11_thereOf 4 = .ok (.iload_n 2, 1) := by decide +kernel
theorem dX11_thereOf_5 : decode cX11_thereOf 5 = .ok (.aload_n 0, 1) := by decide +kernel
theorem dX11_thereOf_6 : decode cX11_thereOf 6 = .ok (.arraylength, 1) := by decide +kernel
theorem dX11_thereOf_7 : decode cX11_thereOf 7 = .ok (.if_icmp .ge 21, 3) := by decide +kernel
theorem dX11_thereOf_10 : decode cX11_thereOf 10 = .ok (.aload_n 0, 1) := by decide +kernel
theorem dX11_thereOf_11 : decode cX11_thereOf 11 = .ok (.iload_n 2, 1) := by decide +kernel
theorem dX11_thereOf_12 : decode cX11_thereOf 12 = .ok (.aaload, 1) := by decide +kernel
theorem dX11_thereOf_13 : decode cX11_thereOf 13 = .ok (.invokevirtual 114, 3) := by decide +kernel
theorem dX11_thereOf_16 : decode cX11_thereOf 16 = .ok (.ifCond .ne 6, 3) := by decide +kernel
theorem dX11_thereOf_19 : decode cX11_thereOf 19 = .ok (.iinc 1 1, 3) := by decide +kernel
theorem dX11_thereOf_22 : decode cX11_thereOf 22 = .ok (.iinc 2 1, 3) := by decide +kernel
theorem dX11_thereOf_25 : decode cX11_thereOf 25 = .ok (.goto (-21), 3) := by decide +kernel
theorem dX11_thereOf_28 : decode cX11_thereOf 28 = .ok (.iload_n 1, 1) := by decide +kernel
theorem dX11_thereOf_29 : decode cX11_thereOf 29 = .ok (.ireturn, 1) := by decide +kernel
theorem dX11_digestKept_0 : decode cX11_digestKept 0 = .ok (.lload_n 1, 1) := by decide +kernel
theorem dX11_digestKept_1 : decode cX11_digestKept 1 = .ok (.lstore_n 3, 1) := by decide +kernel
theorem dX11_digestKept_2 : decode cX11_digestKept 2 = .ok (.iconst 0, 1) := by decide +kernel
theorem dX11_digestKept_3 : decode cX11_digestKept 3 = .ok (.istore 5, 2) := by decide +kernel
theorem dX11_digestKept_5 : decode cX11_digestKept 5 = .ok (.iload 5, 2) := by decide +kernel
theorem dX11_digestKept_7 : decode cX11_digestKept 7 = .ok (.iconst 3, 1) := by decide +kernel
theorem dX11_digestKept_8 : decode cX11_digestKept 8 = .ok (.if_icmp .ge 88, 3) := by decide +kernel
