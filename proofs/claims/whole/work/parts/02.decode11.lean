theorem dX12_odds_113 : decode cX12_odds 113 = .ok (.istore 7, 2) := by decide +kernel
theorem dX12_odds_115 : decode cX12_odds 115 = .ok (.iload 7, 2) := by decide +kernel
theorem dX12_odds_117 : decode cX12_odds 117 = .ok (.ifCond .eq 21, 3) := by decide +kernel
theorem dX12_odds_120 : decode cX12_odds 120 = .ok (.iload 6, 2) := by decide +kernel
theorem dX12_odds_122 : decode cX12_odds 122 = .ok (.iload 7, 2) := by decide +kernel
theorem dX12_odds_124 : decode cX12_odds 124 = .ok (.irem, 1) := by decide +kernel
theorem dX12_odds_125 : decode cX12_odds 125 = .ok (.istore 8, 2) := by decide +kernel
theorem dX12_odds_127 : decode cX12_odds 127 = .ok (.iload 7, 2) := by decide +kernel
theorem dX12_odds_129 : decode cX12_odds 129 = .ok (.istore 6, 2) := by decide +kernel
theorem dX12_odds_131 : decode cX12_odds 131 = .ok (.iload 8, 2) := by decide +kernel
theorem dX12_odds_133 : decode cX12_odds 133 = .ok (.istore 7, 2) := by decide +kernel
theorem dX12_odds_135 : decode cX12_odds 135 = .ok (.goto (-20), 3) := by decide +kernel
theorem dX12_odds_138 : decode cX12_odds 138 = .ok (.aload_n 0, 1) := by decide +kernel
theorem dX12_odds_139 : decode cX12_odds 139 = .ok (.iload 5, 2) := by decide +kernel
theorem dX12_odds_141 : decode cX12_odds 141 = .ok (.iload 6, 2) := by decide +kernel
theorem dX12_odds_143 : decode cX12_odds 143 = .ok (.idiv, 1) := by decide +kernel
theorem dX12_odds_144 : decode cX12_odds 144 = .ok (.i2l, 1) := by decide +kernel
theorem dX12_odds_145 : decode cX12_odds 145 = .ok (.putfield 312, 3) := by decide +kernel
theorem dX12_odds_148 : decode cX12_odds 148 = .ok (.aload_n 0, 1) := by decide +kernel
theorem dX12_odds_149 : decode cX12_odds 149 = .ok (.iload 4, 2) := by decide +kernel
theorem dX12_odds_151 : decode cX12_odds 151 = .ok (.iload 6, 2) := by decide +kernel
theorem dX12_odds_153 : decode cX12_odds 153 = .ok (.idiv, 1) := by decide +kernel
theorem dX12_odds_154 : decode cX12_odds 154 = .ok (.i2l, 1) := by decide +kernel
theorem dX12_odds_155 : decode cX12_odds 155 = .ok (.putfield 22, 3) := by decide +kernel
theorem dX12_odds_158 : decode cX12_odds 158 = .ok (.iconst 1, 1) := by decide +kernel
theorem dX12_odds_159 : decode cX12_odds 159 = .ok (.ireturn, 1) := by decide +kernel
theorem dX12_years_0 : decode cX12_years 0 = .ok (.iload_n 1, 1) := by decide +kernel
theorem dX12_years_1 : decode cX12_years 1 = .ok (.i2l, 1) := by decide +kernel
theorem dX12_years_2 : decode cX12_years 2 = .ok (.lconst 1, 1) := by decide +kernel
theorem dX12_years_3 : decode cX12_years 3 = .ok (.ldc2_w 315, 3) := by decide +kernel
theorem dX12_years_6 : decode cX12_years 6 = .ok (.invokestatic 109, 3) := by decide +kernel
theorem dX12_years_9 : decode cX12_years 9 = .ok (.ifCond .eq 15, 3) := by decide +kernel
theorem dX12_years_12 : decode cX12_years 12 = .ok (.iload_n 2, 1) := by decide +kernel
theorem dX12_years_13 : decode cX12_years 13 = .ok (.i2l, 1) := by decide +kernel
theorem dX12_years_14 : decode cX12_years 14 = .ok (.lconst 1, 1) := by decide +kernel
theorem dX12_years_15 : decode cX12_years 15 = .ok (.ldc2_w 317, 3) := by decide +kernel
theorem dX12_years_18 : decode cX12_years 18 = .ok (.invokestatic 109, 3) := by decide +kernel
theorem dX12_years_21 : decode cX12_years 21 = .ok (.ifCond .ne 5, 3) := by decide +kernel
theorem dX12_years_24 : decode cX12_years 24 = .ok (.iconst (-1), 1) := by decide +kernel
theorem dX12_years_25 : decode cX12_years 25 = .ok (.ireturn, 1) := by decide +kernel
theorem dX12_years_26 : decode cX12_years 26 = .ok (.aload_n 0, 1) := by decide +kernel
theorem dX12_years_27 : decode cX12_years 27 = .ok (.getfield 181, 3) := by decide +kernel
theorem dX12_years_30 : decode cX12_years 30 = .ok (.ifCond .ne 9, 3) := by decide +kernel
theorem dX12_years_33 : decode cX12_years 33 = .ok (.aload_n 0, 1) := by decide +kernel
theorem dX12_years_34 : decode cX12_years 34 = .ok (.iconst 4, 1) := by decide +kernel
theorem dX12_years_35 : decode cX12_years 35 = .ok (.invokevirtual 119, 3) := by decide +kernel
theorem dX12_years_38 : decode cX12_years 38 = .ok (.ireturn, 1) := by decide +kernel
theorem dX12_years_39 : decode cX12_years 39 = .ok (.aload_n 0, 1) := by decide +kernel
theorem dX12_years_40 : decode cX12_years 40 = .ok (.getfield 184, 3) := by decide +kernel
theorem dX12_years_43 : decode cX12_years 43 = .ok (.istore_n 3, 1) := by decide +kernel
theorem dX12_years_44 : decode cX12_years 44 = .ok (.iload_n 2, 1) := by decide +kernel
theorem dX12_years_45 : decode cX12_years 45 = .ok (.i2l, 1) := by decide +kernel
theorem dX12_years_46 : decode cX12_years 46 = .ok (.lstore 4, 2) := by decide +kernel
theorem dX12_years_48 : decode cX12_years 48 = .ok (.iconst 0, 1) := by decide +kernel
theorem dX12_years_49 : decode cX12_years 49 = .ok (.istore 6, 2) := by decide +kernel
theorem dX12_years_51 : decode cX12_years 51 = .ok (.iload 6, 2) := by decide +kernel
theorem dX12_years_53 : decode cX12_years 53 = .ok (.iload_n 1, 1) := by decide +kernel
theorem dX12_years_54 : decode cX12_years 54 = .ok (.if_icmp .ge 40, 3) := by decide +kernel
theorem dX12_years_57 : decode cX12_years 57 = .ok (.lload 4, 2) := by decide +kernel
theorem dX12_years_59 : decode cX12_years 59 = .ok (.ldc2_w 319, 3) := by decide +kernel
theorem dX12_years_62 : decode cX12_years 62 = .ok (.lmul, 1) := by decide +kernel
theorem dX12_years_63 : decode cX12_years 63 = .ok (.ldc2_w 321, 3) := by decide +kernel
theorem dX12_years_66 : decode cX12_years 66 = .ok (.lrem, 1) := by decide +kernel
theorem dX12_years_67 : decode cX12_years 67 = .ok (.lstore 4, 2) := by decide +kernel
theorem dX12_years_69 : decode cX12_years 69 = .ok (.aload_n 0, 1) := by decide +kernel
theorem dX12_years_70 : decode cX12_years 70 = .ok (.iload_n 3, 1) := by decide +kernel
theorem dX12_years_71 : decode cX12_years 71 = .ok (.lload 4, 2) := by decide +kernel
theorem dX12_years_73 : decode cX12_years 73 = .ok (.aload_n 0, 1) := by decide +kernel
theorem dX12_years_74 : decode cX12_years 74 = .ok (.getfield 181, 3) := by decide +kernel
theorem dX12_years_77 : decode cX12_years 77 = .ok (.i2l, 1) := by decide +kernel
theorem dX12_years_78 : decode cX12_years 78 = .ok (.lrem, 1) := by decide +kernel
theorem dX12_years_79 : decode cX12_years 79 = .ok (.l2i, 1) := by decide +kernel
theorem dX12_years_80 : decode cX12_years 80 = .ok (.aload_n 0, 1) := by decide +kernel
theorem dX12_years_81 : decode cX12_years 81 = .ok (.getfield 187, 3) := by decide +kernel
theorem dX12_years_84 : decode cX12_years 84 = .ok (.invokevirtual 235, 3) := by decide +kernel
theorem dX12_years_87 : decode cX12_years 87 = .ok (.istore_n 3, 1) := by decide +kernel
theorem dX12_years_88 : decode cX12_years 88 = .ok (.iinc 6 1, 3) := by decide +kernel
theorem dX12_years_91 : decode cX12_years 91 = .ok (.goto (-40), 3) := by decide +kernel
theorem dX12_years_94 : decode cX12_years 94 = .ok (.iconst (-1), 1) := by decide +kernel
theorem dX12_years_95 : decode cX12_years 95 = .ok (.istore 6, 2) := by decide +kernel
theorem dX12_years_97 : decode cX12_years 97 = .ok (.iconst 0, 1) := by decide +kernel
theorem dX12_years_98 : decode cX12_years 98 = .ok (.istore 7, 2) := by decide +kernel
theorem dX12_years_100 : decode cX12_years 100 = .ok (.iload 7, 2) := by decide +kernel
theorem dX12_years_102 : decode cX12_years 102 = .ok (.aload_n 0, 1) := by decide +kernel
theorem dX12_years_103 : decode cX12_years 103 = .ok (.getfield 175, 3) := by decide +kernel
theorem dX12_years_106 : decode cX12_years 106 = .ok (.if_icmp .ge 68, 3) := by decide +kernel
theorem dX12_years_109 : decode cX12_years 109 = .ok (.iconst 0, 1) := by decide +kernel
theorem dX12_years_110 : decode cX12_years 110 = .ok (.istore 8, 2) := by decide +kernel
theorem dX12_years_112 : decode cX12_years 112 = .ok (.iconst 0, 1) := by decide +kernel
theorem dX12_years_113 : decode cX12_years 113 = .ok (.istore 9, 2) := by decide +kernel
theorem dX12_years_115 : decode cX12_years 115 = .ok (.iload 9, 2) := by decide +kernel
theorem dX12_years_117 : decode cX12_years 117 = .ok (.aload_n 0, 1) := by decide +kernel
theorem dX12_years_118 : decode cX12_years 118 = .ok (.getfield 178, 3) := by decide +kernel
theorem dX12_years_121 : decode cX12_years 121 = .ok (.if_icmp .ge 30, 3) := by decide +kernel
theorem dX12_years_124 : decode cX12_years 124 = .ok (.iload 8, 2) := by decide +kernel
theorem dX12_years_126 : decode cX12_years 126 = .ok (.iload_n 3, 1) := by decide +kernel
theorem dX12_years_127 : decode cX12_years 127 = .ok (.iload 9, 2) := by decide +kernel
theorem dX12_years_129 : decode cX12_years 129 = .ok (.invokestatic 219, 3) := by decide +kernel
theorem dX12_years_132 : decode cX12_years 132 = .ok (.iload 7, 2) := by decide +kernel
theorem dX12_years_134 : decode cX12_years 134 = .ok (.if_icmp .ne 7, 3) := by decide +kernel
theorem dX12_years_137 : decode cX12_years 137 = .ok (.iconst 1, 1) := by decide +kernel
theorem dX12_years_138 : decode cX12_years 138 = .ok (.goto 4, 3) := by decide +kernel
theorem dX12_years_141 : decode cX12_years 141 = .ok (.iconst 0, 1) := by decide +kernel
theorem dX12_years_142 : decode cX12_years 142 = .ok (.iadd, 1) := by decide +kernel
theorem dX12_years_143 : decode cX12_years 143 = .ok (.istore 8, 2) := by decide +kernel
theorem dX12_years_145 : decode cX12_years 145 = .ok (.iinc 9 1, 3) := by decide +kernel
theorem dX12_years_148 : decode cX12_years 148 = .ok (.goto (-33), 3) := by decide +kernel
theorem dX12_years_151 : decode cX12_years 151 = .ok (.iload 8, 2) := by decide +kernel
theorem dX12_years_153 : decode cX12_years 153 = .ok (.iload 6, 2) := by decide +kernel
theorem dX12_years_155 : decode cX12_years 155 = .ok (.if_icmp .le 13, 3) := by decide +kernel
theorem dX12_years_158 : decode cX12_years 158 = .ok (.iload 8, 2) := by decide +kernel
theorem dX12_years_160 : decode cX12_years 160 = .ok (.istore 6, 2) := by decide +kernel
theorem dX12_years_162 : decode cX12_years 162 = .ok (.aload_n 0, 1) := by decide +kernel
theorem dX12_years_163 : decode cX12_years 163 = .ok (.iload 7, 2) := by decide +kernel
theorem dX12_years_165 : decode cX12_years 165 = .ok (.putfield 104, 3) := by decide +kernel
theorem dX12_years_168 : decode cX12_years 168 = .ok (.iinc 7 1, 3) := by decide +kernel
theorem dX12_years_171 : decode cX12_years 171 = .ok (.goto (-71), 3) := by decide +kernel
theorem dX12_years_174 : decode cX12_years 174 = .ok (.aload_n 0, 1) := by decide +kernel
theorem dX12_years_175 : decode cX12_years 175 = .ok (.iload_n 3, 1) := by decide +kernel
theorem dX12_years_176 : decode cX12_years 176 = .ok (.invokevirtual 244, 3) := by decide +kernel
theorem dX12_years_179 : decode cX12_years 179 = .ok (.ireturn, 1) := by decide +kernel
theorem dX12_asked_0 : decode cX12_asked 0 = .ok (.aload_n 0, 1) := by decide +kernel
theorem dX12_asked_1 : decode cX12_asked 1 = .ok (.getfield 104, 3) := by decide +kernel
theorem dX12_asked_4 : decode cX12_asked 4 = .ok (.ireturn, 1) := by decide +kernel
theorem dX12_upper_0 : decode cX12_upper 0 = .ok (.aload_n 0, 1) := by decide +kernel
theorem dX12_upper_1 : decode cX12_upper 1 = .ok (.getfield 312, 3) := by decide +kernel
theorem dX12_upper_4 : decode cX12_upper 4 = .ok (.lreturn, 1) := by decide +kernel
theorem dX12_lower_0 : decode cX12_lower 0 = .ok (.aload_n 0, 1) := by decide +kernel
theorem dX12_lower_1 : decode cX12_lower 1 = .ok (.getfield 22, 3) := by decide +kernel
theorem dX12_lower_4 : decode cX12_lower 4 = .ok (.lreturn, 1) := by decide +kernel
theorem dX12_there_0 : decode cX12_there 0 = .ok (.iconst 0, 1) := by decide +kernel
theorem dX12_there_1 : decode cX12_there 1 = .ok (.istore_n 2, 1) := by decide +kernel
theorem dX12_there_2 : decode cX12_there 2 = .ok (.iconst 0, 1) := by decide +kernel
theorem dX12_there_3 : decode cX12_there 3 = .ok (.istore_n 3, 1) := by decide +kernel
theorem dX12_there_4 : decode cX12_there 4 = .ok (.iload_n 3, 1) := by decide +kernel
theorem dX12_there_5 : decode cX12_there 5 = .ok (.iload_n 1, 1) := by decide +kernel
theorem dX12_there_6 : decode cX12_there 6 = .ok (.if_icmp .ge 23, 3) := by decide +kernel
theorem dX12_there_9 : decode cX12_there 9 = .ok (.iload_n 2, 1) := by decide +kernel
theorem dX12_there_10 : decode cX12_there 10 = .ok (.aload_n 0, 1) := by decide +kernel
theorem dX12_there_11 : decode cX12_there 11 = .ok (.iload_n 3, 1) := by decide +kernel
theorem dX12_there_12 : decode cX12_there 12 = .ok (.iaload, 1) := by decide +kernel
theorem dX12_there_13 : decode cX12_there 13 = .ok (.ifCond .ge 7, 3) := by decide +kernel
theorem dX12_there_16 : decode cX12_there 16 = .ok (.iconst 0, 1) := by decide +kernel
theorem dX12_there_17 : decode cX12_there 17 = .ok (.goto 4, 3) := by decide +kernel
theorem dX12_there_20 : decode cX12_there 20 = .ok (.iconst 1, 1) := by decide +kernel
theorem dX12_there_21 : decode cX12_there 21 = .ok (.iadd, 1) := by decide +kernel
theorem dX12_there_22 : decode cX12_there 22 = .ok (.istore_n 2, 1) := by decide +kernel
theorem dX12_there_23 : decode cX12_there 23 = .ok (.iinc 3 1, 3) := by decide +kernel
theorem dX12_there_26 : decode cX12_there 26 = .ok (.goto (-22), 3) := by decide +kernel
theorem dX12_there_29 : decode cX12_there 29 = .ok (.iload_n 2, 1) := by decide +kernel
theorem dX12_there_30 : decode cX12_there 30 = .ok (.ireturn, 1) := by decide +kernel
theorem dX12_ofKind_0 : decode cX12_ofKind 0 = .ok (.iconst 0, 1) := by decide +kernel
theorem dX12_ofKind_1 : decode cX12_ofKind 1 = .ok (.istore_n 2, 1) := by decide +kernel
theorem dX12_ofKind_2 : decode cX12_ofKind 2 = .ok (.iconst 0, 1) := by decide +kernel
theorem dX12_ofKind_3 : decode cX12_ofKind 3 = .ok (.istore_n 3, 1) := by decide +kernel
theorem dX12_ofKind_4 : decode cX12_ofKind 4 = .ok (.iload_n 3, 1) := by decide +kernel
theorem dX12_ofKind_5 : decode cX12_ofKind 5 = .ok (.aload_n 0, 1) := by decide +kernel
theorem dX12_ofKind_6 : decode cX12_ofKind 6 = .ok (.getfield 181, 3) := by decide +kernel
theorem dX12_ofKind_9 : decode cX12_ofKind 9 = .ok (.if_icmp .ge 30, 3) := by decide +kernel
theorem dX12_ofKind_12 : decode cX12_ofKind 12 = .ok (.iload_n 2, 1) := by decide +kernel
theorem dX12_ofKind_13 : decode cX12_ofKind 13 = .ok (.aload_n 0, 1) := by decide +kernel
theorem dX12_ofKind_14 : decode cX12_ofKind 14 = .ok (.getfield 32, 3) := by decide +kernel
theorem dX12_ofKind_17 : decode cX12_ofKind 17 = .ok (.iload_n 3, 1) := by decide +kernel
theorem dX12_ofKind_18 : decode cX12_ofKind 18 = .ok (.iaload, 1) := by decide +kernel
theorem dX12_ofKind_19 : decode cX12_ofKind 19 = .ok (.iload_n 1, 1) := by decide +kernel
theorem dX12_ofKind_20 : decode cX12_ofKind 20 = .ok (.invokestatic 231, 3) := by decide +kernel
theorem dX12_ofKind_23 : decode cX12_ofKind 23 = .ok (.ifCond .eq 7, 3) := by decide +kernel
theorem dX12_ofKind_26 : decode cX12_ofKind 26 = .ok (.iconst 1, 1) := by decide +kernel
theorem dX12_ofKind_27 : decode cX12_ofKind 27 = .ok (.goto 4, 3) := by decide +kernel
theorem dX12_ofKind_30 : decode cX12_ofKind 30 = .ok (.iconst 0, 1) := by decide +kernel
theorem dX12_ofKind_31 : decode cX12_ofKind 31 = .ok (.iadd, 1) := by decide +kernel
theorem dX12_ofKind_32 : decode cX12_ofKind 32 = .ok (.istore_n 2, 1) := by decide +kernel
theorem dX12_ofKind_33 : decode cX12_ofKind 33 = .ok (.iinc 3 1, 3) := by decide +kernel
theorem dX12_ofKind_36 : decode cX12_ofKind 36 = .ok (.goto (-32), 3) := by decide +kernel
theorem dX12_ofKind_39 : decode cX12_ofKind 39 = .ok (.iload_n 2, 1) := by decide +kernel
theorem dX12_ofKind_40 : decode cX12_ofKind 40 = .ok (.ireturn, 1) := by decide +kernel
theorem dX12_count_0 : decode cX12_count 0 = .ok (.iload_n 1, 1) := by decide +kernel
theorem dX12_count_1 : decode cX12_count 1 = .ok (.tableswitch 143 0 8 #[51, 56, 61, 102, 107, 112, 118, 128, 137], 51) := by decide +kernel
theorem dX12_count_52 : decode cX12_count 52 = .ok (.aload_n 0, 1) := by decide +kernel
theorem dX12_count_53 : decode cX12_count 53 = .ok (.getfield 175, 3) := by decide +kernel
theorem dX12_count_56 : decode cX12_count 56 = .ok (.ireturn, 1) := by decide +kernel
theorem dX12_count_57 : decode cX12_count 57 = .ok (.aload_n 0, 1) := by decide +kernel
theorem dX12_count_58 : decode cX12_count 58 = .ok (.getfield 178, 3) := by decide +kernel
theorem dX12_count_61 : decode cX12_count 61 = .ok (.ireturn, 1) := by decide +kernel
theorem dX12_count_62 : decode cX12_count 62 = .ok (.iconst 0, 1) := by decide +kernel
theorem dX12_count_63 : decode cX12_count 63 = .ok (.istore_n 2, 1) := by decide +kernel
theorem dX12_count_64 : decode cX12_count 64 = .ok (.iconst 0, 1) := by decide +kernel
theorem dX12_count_65 : decode cX12_count 65 = .ok (.istore_n 3, 1) := by decide +kernel
theorem dX12_count_66 : decode cX12_count 66 = .ok (.iload_n 3, 1) := by decide +kernel
theorem dX12_count_67 : decode cX12_count 67 = .ok (.aload_n 0, 1) := by decide +kernel
theorem dX12_count_68 : decode cX12_count 68 = .ok (.getfield 178, 3) := by decide +kernel
theorem dX12_count_71 : decode cX12_count 71 = .ok (.if_icmp .ge 30, 3) := by decide +kernel
theorem dX12_count_74 : decode cX12_count 74 = .ok (.iload_n 2, 1) := by decide +kernel
theorem dX12_count_75 : decode cX12_count 75 = .ok (.aload_n 0, 1) := by decide +kernel
theorem dX12_count_76 : decode cX12_count 76 = .ok (.getfield 184, 3) := by decide +kernel
theorem dX12_count_79 : decode cX12_count 79 = .ok (.iload_n 3, 1) := by decide +kernel
theorem dX12_count_80 : decode cX12_count 80 = .ok (.invokestatic 219, 3) := by decide +kernel
theorem dX12_count_83 : decode cX12_count 83 = .ok (.bipush 7, 2) := by decide +kernel
theorem dX12_count_85 : decode cX12_count 85 = .ok (.if_icmp .ne 7, 3) := by decide +kernel
theorem dX12_count_88 : decode cX12_count 88 = .ok (.iconst 1, 1) := by decide +kernel
theorem dX12_count_89 : decode cX12_count 89 = .ok (.goto 4, 3) := by decide +kernel
theorem dX12_count_92 : decode cX12_count 92 = .ok (.iconst 0, 1) := by decide +kernel
theorem dX12_count_93 : decode cX12_count 93 = .ok (.iadd, 1) := by decide +kernel
theorem dX12_count_94 : decode cX12_count 94 = .ok (.istore_n 2, 1) := by decide +kernel
theorem dX12_count_95 : decode cX12_count 95 = .ok (.iinc 3 1, 3) := by decide +kernel
theorem dX12_count_98 : decode cX12_count 98 = .ok (.goto (-32), 3) := by decide +kernel
theorem dX12_count_101 : decode cX12_count 101 = .ok (.iload_n 2, 1) := by decide +kernel
theorem dX12_count_102 : decode cX12_count 102 = .ok (.ireturn, 1) := by decide +kernel
theorem dX12_count_103 : decode cX12_count 103 = .ok (.aload_n 0, 1) := by decide +kernel
theorem dX12_count_104 : decode cX12_count 104 = .ok (.getfield 181, 3) := by decide +kernel
theorem dX12_count_107 : decode cX12_count 107 = .ok (.ireturn, 1) := by decide +kernel
theorem dX12_count_108 : decode cX12_count 108 = .ok (.aload_n 0, 1) := by decide +kernel
theorem dX12_count_109 : decode cX12_count 109 = .ok (.getfield 172, 3) := by decide +kernel
theorem dX12_count_112 : decode cX12_count 112 = .ok (.ireturn, 1) := by decide +kernel
theorem dX12_count_113 : decode cX12_count 113 = .ok (.aload_n 0, 1) := by decide +kernel
theorem dX12_count_114 : decode cX12_count 114 = .ok (.iconst 2, 1) := by decide +kernel
theorem dX12_count_115 : decode cX12_count 115 = .ok (.invokevirtual 323, 3) := by decide +kernel
theorem dX12_count_118 : decode cX12_count 118 = .ok (.ireturn, 1) := by decide +kernel
theorem dX12_count_119 : decode cX12_count 119 = .ok (.aload_n 0, 1) := by decide +kernel
theorem dX12_count_120 : decode cX12_count 120 = .ok (.getfield 7, 3) := by decide +kernel
theorem dX12_count_123 : decode cX12_count 123 = .ok (.bipush 6, 2) := by decide +kernel
theorem dX12_count_125 : decode cX12_count 125 = .ok (.invokestatic 326, 3) := by decide +kernel
theorem dX12_count_128 : decode cX12_count 128 = .ok (.ireturn, 1) := by decide +kernel
theorem dX12_count_129 : decode cX12_count 129 = .ok (.aload_n 0, 1) := by decide +kernel
theorem dX12_count_130 : decode cX12_count 130 = .ok (.getfield 16, 3) := by decide +kernel
theorem dX12_count_133 : decode cX12_count 133 = .ok (.iconst 4, 1) := by decide +kernel
theorem dX12_count_134 : decode cX12_count 134 = .ok (.invokestatic 326, 3) := by decide +kernel
theorem dX12_count_137 : decode cX12_count 137 = .ok (.ireturn, 1) := by decide +kernel
theorem dX12_count_138 : decode cX12_count 138 = .ok (.aload_n 0, 1) := by decide +kernel
theorem dX12_count_139 : decode cX12_count 139 = .ok (.iconst 3, 1) := by decide +kernel
theorem dX12_count_140 : decode cX12_count 140 = .ok (.invokevirtual 323, 3) := by decide +kernel
theorem dX12_count_143 : decode cX12_count 143 = .ok (.ireturn, 1) := by decide +kernel
theorem dX12_count_144 : decode cX12_count 144 = .ok (.iconst (-1), 1) := by decide +kernel
theorem dX12_count_145 : decode cX12_count 145 = .ok (.ireturn, 1) := by decide +kernel
theorem dX12_finding_0 : decode cX12_finding 0 = .ok (.aload_n 0, 1) := by decide +kernel
theorem dX12_finding_1 : decode cX12_finding 1 = .ok (.getfield 100, 3) := by decide +kernel
theorem dX12_finding_4 : decode cX12_finding 4 = .ok (.ireturn, 1) := by decide +kernel
theorem dX12_findings_0 : decode cX12_findings 0 = .ok (.iload_n 1, 1) := by decide +kernel
theorem dX12_findings_1 : decode cX12_findings 1 = .ok (.i2l, 1) := by decide +kernel
theorem dX12_findings_2 : decode cX12_findings 2 = .ok (.lconst 1, 1) := by decide +kernel
theorem dX12_findings_3 : decode cX12_findings 3 = .ok (.ldc2_w 107, 3) := by decide +kernel
theorem dX12_findings_6 : decode cX12_findings 6 = .ok (.invokestatic 109, 3) := by decide +kernel
theorem dX12_findings_9 : decode cX12_findings 9 = .ok (.ifCond .eq 12, 3) := by decide +kernel
theorem dX12_findings_12 : decode cX12_findings 12 = .ok (.aload_n 0, 1) := by decide +kernel
theorem dX12_findings_13 : decode cX12_findings 13 = .ok (.getfield 26, 3) := by decide +kernel
theorem dX12_findings_16 : decode cX12_findings 16 = .ok (.iload_n 1, 1) := by decide +kernel
theorem dX12_findings_17 : decode cX12_findings 17 = .ok (.iaload, 1) := by decide +kernel
theorem dX12_findings_18 : decode cX12_findings 18 = .ok (.goto 4, 3) := by decide +kernel
theorem dX12_findings_21 : decode cX12_findings 21 = .ok (.iconst (-1), 1) := by decide +kernel
theorem dX12_findings_22 : decode cX12_findings 22 = .ok (.ireturn, 1) := by decide +kernel
theorem dX12_digest_0 : decode cX12_digest 0 = .ok (.ldc2_w 330, 3) := by decide +kernel
theorem dX12_digest_3 : decode cX12_digest 3 = .ok (.lstore_n 1, 1) := by decide +kernel
theorem dX12_digest_4 : decode cX12_digest 4 = .ok (.iconst 0, 1) := by decide +kernel
theorem dX12_digest_5 : decode cX12_digest 5 = .ok (.istore_n 3, 1) := by decide +kernel
theorem dX12_digest_6 : decode cX12_digest 6 = .ok (.iload_n 3, 1) := by decide +kernel
theorem dX12_digest_7 : decode cX12_digest 7 = .ok (.bipush 9, 2) := by decide +kernel
theorem dX12_digest_9 : decode cX12_digest 9 = .ok (.if_icmp .ge 22, 3) := by decide +kernel
theorem dX12_digest_12 : decode cX12_digest 12 = .ok (.ldc2_w 332, 3) := by decide +kernel
theorem dX12_digest_15 : decode cX12_digest 15 = .ok (.lload_n 1, 1) := by decide +kernel
theorem dX12_digest_16 : decode cX12_digest 16 = .ok (.lmul, 1) := by decide +kernel
theorem dX12_digest_17 : decode cX12_digest 17 = .ok (.aload_n 0, 1) := by decide +kernel
theorem dX12_digest_18 : decode cX12_digest 18 = .ok (.iload_n 3, 1) := by decide +kernel
theorem dX12_digest_19 : decode cX12_digest 19 = .ok (.invokevirtual 334, 3) := by decide +kernel
theorem dX12_digest_22 : decode cX12_digest 22 = .ok (.i2l, 1) := by decide +kernel
theorem dX12_digest_23 : decode cX12_digest 23 = .ok (.ladd, 1) := by decide +kernel
theorem dX12_digest_24 : decode cX12_digest 24 = .ok (.lstore_n 1, 1) := by decide +kernel
theorem dX12_digest_25 : decode cX12_digest 25 = .ok (.iinc 3 1, 3) := by decide +kernel
theorem dX12_digest_28 : decode cX12_digest 28 = .ok (.goto (-22), 3) := by decide +kernel
theorem dX12_digest_31 : decode cX12_digest 31 = .ok (.ldc2_w 332, 3) := by decide +kernel
theorem dX12_digest_34 : decode cX12_digest 34 = .ok (.lload_n 1, 1) := by decide +kernel
theorem dX12_digest_35 : decode cX12_digest 35 = .ok (.lmul, 1) := by decide +kernel
theorem dX12_digest_36 : decode cX12_digest 36 = .ok (.aload_n 0, 1) := by decide +kernel
theorem dX12_digest_37 : decode cX12_digest 37 = .ok (.getfield 187, 3) := by decide +kernel
theorem dX12_digest_40 : decode cX12_digest 40 = .ok (.i2l, 1) := by decide +kernel
theorem dX12_digest_41 : decode cX12_digest 41 = .ok (.ladd, 1) := by decide +kernel
theorem dX12_digest_42 : decode cX12_digest 42 = .ok (.lstore_n 1, 1) := by decide +kernel
theorem dX12_digest_43 : decode cX12_digest 43 = .ok (.iconst 0, 1) := by decide +kernel
theorem dX12_digest_44 : decode cX12_digest 44 = .ok (.istore_n 3, 1) := by decide +kernel
theorem dX12_digest_45 : decode cX12_digest 45 = .ok (.iload_n 3, 1) := by decide +kernel
theorem dX12_digest_46 : decode cX12_digest 46 = .ok (.aload_n 0, 1) := by decide +kernel
theorem dX12_digest_47 : decode cX12_digest 47 = .ok (.getfield 178, 3) := by decide +kernel
theorem dX12_digest_50 : decode cX12_digest 50 = .ok (.if_icmp .ge 63, 3) := by decide +kernel
theorem dX12_digest_53 : decode cX12_digest 53 = .ok (.ldc2_w 332, 3) := by decide +kernel
theorem dX12_digest_56 : decode cX12_digest 56 = .ok (.ldc2_w 332, 3) := by decide +kernel
theorem dX12_digest_59 : decode cX12_digest 59 = .ok (.ldc2_w 332, 3) := by decide +kernel
theorem dX12_digest_62 : decode cX12_digest 62 = .ok (.ldc2_w 332, 3) := by decide +kernel
theorem dX12_digest_65 : decode cX12_digest 65 = .ok (.lload_n 1, 1) := by decide +kernel
theorem dX12_digest_66 : decode cX12_digest 66 = .ok (.lmul, 1) := by decide +kernel
theorem dX12_digest_67 : decode cX12_digest 67 = .ok (.aload_n 0, 1) := by decide +kernel
theorem dX12_digest_68 : decode cX12_digest 68 = .ok (.getfield 29, 3) := by decide +kernel
theorem dX12_digest_71 : decode cX12_digest 71 = .ok (.iload_n 3, 1) := by decide +kernel
theorem dX12_digest_72 : decode cX12_digest 72 = .ok (.iaload, 1) := by decide +kernel
theorem dX12_digest_73 : decode cX12_digest 73 = .ok (.i2l, 1) := by decide +kernel
theorem dX12_digest_74 : decode cX12_digest 74 = .ok (.ladd, 1) := by decide +kernel
theorem dX12_digest_75 : decode cX12_digest 75 = .ok (.lmul, 1) := by decide +kernel
theorem dX12_digest_76 : decode cX12_digest 76 = .ok (.aload_n 0, 1) := by decide +kernel
theorem dX12_digest_77 : decode cX12_digest 77 = .ok (.getfield 184, 3) := by decide +kernel
theorem dX12_digest_80 : decode cX12_digest 80 = .ok (.iload_n 3, 1) := by decide +kernel
theorem dX12_digest_81 : decode cX12_digest 81 = .ok (.invokestatic 219, 3) := by decide +kernel
theorem dX12_digest_84 : decode cX12_digest 84 = .ok (.invokestatic 225, 3) := by decide +kernel
theorem dX12_digest_87 : decode cX12_digest 87 = .ok (.i2l, 1) := by decide +kernel
theorem dX12_digest_88 : decode cX12_digest 88 = .ok (.ladd, 1) := by decide +kernel
theorem dX12_digest_89 : decode cX12_digest 89 = .ok (.lmul, 1) := by decide +kernel
theorem dX12_digest_90 : decode cX12_digest 90 = .ok (.aload_n 0, 1) := by decide +kernel
theorem dX12_digest_91 : decode cX12_digest 91 = .ok (.iload_n 3, 1) := by decide +kernel
theorem dX12_digest_92 : decode cX12_digest 92 = .ok (.invokevirtual 193, 3) := by decide +kernel
theorem dX12_digest_95 : decode cX12_digest 95 = .ok (.i2l, 1) := by decide +kernel
theorem dX12_digest_96 : decode cX12_digest 96 = .ok (.ladd, 1) := by decide +kernel
theorem dX12_digest_97 : decode cX12_digest 97 = .ok (.lmul, 1) := by decide +kernel
theorem dX12_digest_98 : decode cX12_digest 98 = .ok (.aload_n 0, 1) := by decide +kernel
theorem dX12_digest_99 : decode cX12_digest 99 = .ok (.getfield 44, 3) := by decide +kernel
theorem dX12_digest_102 : decode cX12_digest 102 = .ok (.iload_n 3, 1) := by decide +kernel
theorem dX12_digest_103 : decode cX12_digest 103 = .ok (.iaload, 1) := by decide +kernel
theorem dX12_digest_104 : decode cX12_digest 104 = .ok (.i2l, 1) := by decide +kernel
theorem dX12_digest_105 : decode cX12_digest 105 = .ok (.ladd, 1) := by decide +kernel
theorem dX12_digest_106 : decode cX12_digest 106 = .ok (.lstore_n 1, 1) := by decide +kernel
theorem dX12_digest_107 : decode cX12_digest 107 = .ok (.iinc 3 1, 3) := by decide +kernel
theorem dX12_digest_110 : decode cX12_digest 110 = .ok (.goto (-65), 3) := by decide +kernel
theorem dX12_digest_113 : decode cX12_digest 113 = .ok (.iconst 0, 1) := by decide +kernel
theorem dX12_digest_114 : decode cX12_digest 114 = .ok (.istore_n 3, 1) := by decide +kernel
theorem dX12_digest_115 : decode cX12_digest 115 = .ok (.iload_n 3, 1) := by decide +kernel
theorem dX12_digest_116 : decode cX12_digest 116 = .ok (.aload_n 0, 1) := by decide +kernel
theorem dX12_digest_117 : decode cX12_digest 117 = .ok (.getfield 181, 3) := by decide +kernel
theorem dX12_digest_120 : decode cX12_digest 120 = .ok (.if_icmp .ge 59, 3) := by decide +kernel
theorem dX12_digest_123 : decode cX12_digest 123 = .ok (.ldc2_w 332, 3) := by decide +kernel
theorem dX12_digest_126 : decode cX12_digest 126 = .ok (.ldc2_w 332, 3) := by decide +kernel
theorem dX12_digest_129 : decode cX12_digest 129 = .ok (.ldc2_w 332, 3) := by decide +kernel
theorem dX12_digest_132 : decode cX12_digest 132 = .ok (.ldc2_w 332, 3) := by decide +kernel
theorem dX12_digest_135 : decode cX12_digest 135 = .ok (.lload_n 1, 1) := by decide +kernel
theorem dX12_digest_136 : decode cX12_digest 136 = .ok (.lmul, 1) := by decide +kernel
theorem dX12_digest_137 : decode cX12_digest 137 = .ok (.aload_n 0, 1) := by decide +kernel
theorem dX12_digest_138 : decode cX12_digest 138 = .ok (.getfield 32, 3) := by decide +kernel
theorem dX12_digest_141 : decode cX12_digest 141 = .ok (.iload_n 3, 1) := by decide +kernel
theorem dX12_digest_142 : decode cX12_digest 142 = .ok (.iaload, 1) := by decide +kernel
theorem dX12_digest_143 : decode cX12_digest 143 = .ok (.i2l, 1) := by decide +kernel
theorem dX12_digest_144 : decode cX12_digest 144 = .ok (.ladd, 1) := by decide +kernel
theorem dX12_digest_145 : decode cX12_digest 145 = .ok (.lmul, 1) := by decide +kernel
theorem dX12_digest_146 : decode cX12_digest 146 = .ok (.aload_n 0, 1) := by decide +kernel
theorem dX12_digest_147 : decode cX12_digest 147 = .ok (.getfield 35, 3) := by decide +kernel
theorem dX12_digest_150 : decode cX12_digest 150 = .ok (.iload_n 3, 1) := by decide +kernel
theorem dX12_digest_151 : decode cX12_digest 151 = .ok (.iaload, 1) := by decide +kernel
theorem dX12_digest_152 : decode cX12_digest 152 = .ok (.i2l, 1) := by decide +kernel
theorem dX12_digest_153 : decode cX12_digest 153 = .ok (.ladd, 1) := by decide +kernel
theorem dX12_digest_154 : decode cX12_digest 154 = .ok (.lmul, 1) := by decide +kernel
theorem dX12_digest_155 : decode cX12_digest 155 = .ok (.aload_n 0, 1) := by decide +kernel
theorem dX12_digest_156 : decode cX12_digest 156 = .ok (.getfield 38, 3) := by decide +kernel
theorem dX12_digest_159 : decode cX12_digest 159 = .ok (.iload_n 3, 1) := by decide +kernel
theorem dX12_digest_160 : decode cX12_digest 160 = .ok (.iaload, 1) := by decide +kernel
theorem dX12_digest_161 : decode cX12_digest 161 = .ok (.i2l, 1) := by decide +kernel
theorem dX12_digest_162 : decode cX12_digest 162 = .ok (.ladd, 1) := by decide +kernel
theorem dX12_digest_163 : decode cX12_digest 163 = .ok (.lmul, 1) := by decide +kernel
theorem dX12_digest_164 : decode cX12_digest 164 = .ok (.aload_n 0, 1) := by decide +kernel
theorem dX12_digest_165 : decode cX12_digest 165 = .ok (.getfield 41, 3) := by decide +kernel
theorem dX12_digest_168 : decode cX12_digest 168 = .ok (.iload_n 3, 1) := by decide +kernel
theorem dX12_digest_169 : decode cX12_digest 169 = .ok (.iaload, 1) := by decide +kernel
theorem dX12_digest_170 : decode cX12_digest 170 = .ok (.i2l, 1) := by decide +kernel
theorem dX12_digest_171 : decode cX12_digest 171 = .ok (.ladd, 1) := by decide +kernel
theorem dX12_digest_172 : decode cX12_digest 172 = .ok (.lstore_n 1, 1) := by decide +kernel
theorem dX12_digest_173 : decode cX12_digest 173 = .ok (.iinc 3 1, 3) := by decide +kernel
theorem dX12_digest_176 : decode cX12_digest 176 = .ok (.goto (-61), 3) := by decide +kernel
theorem dX12_digest_179 : decode cX12_digest 179 = .ok (.iconst 0, 1) := by decide +kernel
theorem dX12_digest_180 : decode cX12_digest 180 = .ok (.istore_n 3, 1) := by decide +kernel
theorem dX12_digest_181 : decode cX12_digest 181 = .ok (.iload_n 3, 1) := by decide +kernel
theorem dX12_digest_182 : decode cX12_digest 182 = .ok (.aload_n 0, 1) := by decide +kernel
theorem dX12_digest_183 : decode cX12_digest 183 = .ok (.getfield 172, 3) := by decide +kernel
theorem dX12_digest_186 : decode cX12_digest 186 = .ok (.if_icmp .ge 23, 3) := by decide +kernel
theorem dX12_digest_189 : decode cX12_digest 189 = .ok (.ldc2_w 332, 3) := by decide +kernel
theorem dX12_digest_192 : decode cX12_digest 192 = .ok (.lload_n 1, 1) := by decide +kernel
theorem dX12_digest_193 : decode cX12_digest 193 = .ok (.lmul, 1) := by decide +kernel
theorem dX12_digest_194 : decode cX12_digest 194 = .ok (.aload_n 0, 1) := by decide +kernel
theorem dX12_digest_195 : decode cX12_digest 195 = .ok (.getfield 47, 3) := by decide +kernel
theorem dX12_digest_198 : decode cX12_digest 198 = .ok (.iload_n 3, 1) := by decide +kernel
theorem dX12_digest_199 : decode cX12_digest 199 = .ok (.iaload, 1) := by decide +kernel
theorem dX12_digest_200 : decode cX12_digest 200 = .ok (.i2l, 1) := by decide +kernel
theorem dX12_digest_201 : decode cX12_digest 201 = .ok (.ladd, 1) := by decide +kernel
theorem dX12_digest_202 : decode cX12_digest 202 = .ok (.lstore_n 1, 1) := by decide +kernel
theorem dX12_digest_203 : decode cX12_digest 203 = .ok (.iinc 3 1, 3) := by decide +kernel
theorem dX12_digest_206 : decode cX12_digest 206 = .ok (.goto (-25), 3) := by decide +kernel
theorem dX12_digest_209 : decode cX12_digest 209 = .ok (.iconst 0, 1) := by decide +kernel
theorem dX12_digest_210 : decode cX12_digest 210 = .ok (.istore_n 3, 1) := by decide +kernel
theorem dX12_digest_211 : decode cX12_digest 211 = .ok (.iload_n 3, 1) := by decide +kernel
theorem dX12_digest_212 : decode cX12_digest 212 = .ok (.iconst 3, 1) := by decide +kernel
theorem dX12_digest_213 : decode cX12_digest 213 = .ok (.if_icmp .ge 85, 3) := by decide +kernel
theorem dX12_digest_216 : decode cX12_digest 216 = .ok (.iconst 0, 1) := by decide +kernel
theorem dX12_digest_217 : decode cX12_digest 217 = .ok (.istore 4, 2) := by decide +kernel
theorem dX12_digest_219 : decode cX12_digest 219 = .ok (.iload 4, 2) := by decide +kernel
theorem dX12_digest_221 : decode cX12_digest 221 = .ok (.aload_n 0, 1) := by decide +kernel
theorem dX12_digest_222 : decode cX12_digest 222 = .ok (.getfield 178, 3) := by decide +kernel
theorem dX12_digest_225 : decode cX12_digest 225 = .ok (.if_icmp .ge 40, 3) := by decide +kernel
theorem dX12_digest_228 : decode cX12_digest 228 = .ok (.aload_n 0, 1) := by decide +kernel
theorem dX12_digest_229 : decode cX12_digest 229 = .ok (.getfield 59, 3) := by decide +kernel
theorem dX12_digest_232 : decode cX12_digest 232 = .ok (.iload_n 3, 1) := by decide +kernel
theorem dX12_digest_233 : decode cX12_digest 233 = .ok (.iaload, 1) := by decide +kernel
theorem dX12_digest_234 : decode cX12_digest 234 = .ok (.ifCond .lt 31, 3) := by decide +kernel
theorem dX12_digest_237 : decode cX12_digest 237 = .ok (.ldc2_w 332, 3) := by decide +kernel
theorem dX12_digest_240 : decode cX12_digest 240 = .ok (.lload_n 1, 1) := by decide +kernel
theorem dX12_digest_241 : decode cX12_digest 241 = .ok (.lmul, 1) := by decide +kernel
theorem dX12_digest_242 : decode cX12_digest 242 = .ok (.aload_n 0, 1) := by decide +kernel
theorem dX12_digest_243 : decode cX12_digest 243 = .ok (.getfield 59, 3) := by decide +kernel
theorem dX12_digest_246 : decode cX12_digest 246 = .ok (.iload_n 3, 1) := by decide +kernel
theorem dX12_digest_247 : decode cX12_digest 247 = .ok (.iaload, 1) := by decide +kernel
theorem dX12_digest_248 : decode cX12_digest 248 = .ok (.iload 4, 2) := by decide +kernel
theorem dX12_digest_250 : decode cX12_digest 250 = .ok (.invokestatic 219, 3) := by decide +kernel
theorem dX12_digest_253 : decode cX12_digest 253 = .ok (.invokestatic 225, 3) := by decide +kernel
theorem dX12_digest_256 : decode cX12_digest 256 = .ok (.i2l, 1) := by decide +kernel
theorem dX12_digest_257 : decode cX12_digest 257 = .ok (.ladd, 1) := by decide +kernel
theorem dX12_digest_258 : decode cX12_digest 258 = .ok (.lstore_n 1, 1) := by decide +kernel
theorem dX12_digest_259 : decode cX12_digest 259 = .ok (.iinc 4 1, 3) := by decide +kernel
theorem dX12_digest_262 : decode cX12_digest 262 = .ok (.goto (-43), 3) := by decide +kernel
theorem dX12_digest_265 : decode cX12_digest 265 = .ok (.ldc2_w 332, 3) := by decide +kernel
theorem dX12_digest_268 : decode cX12_digest 268 = .ok (.lload_n 1, 1) := by decide +kernel
theorem dX12_digest_269 : decode cX12_digest 269 = .ok (.lmul, 1) := by decide +kernel
theorem dX12_digest_270 : decode cX12_digest 270 = .ok (.aload_n 0, 1) := by decide +kernel
theorem dX12_digest_271 : decode cX12_digest 271 = .ok (.getfield 59, 3) := by decide +kernel
theorem dX12_digest_274 : decode cX12_digest 274 = .ok (.iload_n 3, 1) := by decide +kernel
theorem dX12_digest_275 : decode cX12_digest 275 = .ok (.iaload, 1) := by decide +kernel
theorem dX12_digest_276 : decode cX12_digest 276 = .ok (.ifCond .ge 7, 3) := by decide +kernel
theorem dX12_digest_279 : decode cX12_digest 279 = .ok (.iconst (-1), 1) := by decide +kernel
theorem dX12_digest_280 : decode cX12_digest 280 = .ok (.goto 9, 3) := by decide +kernel
theorem dX12_digest_283 : decode cX12_digest 283 = .ok (.aload_n 0, 1) := by decide +kernel
theorem dX12_digest_284 : decode cX12_digest 284 = .ok (.getfield 62, 3) := by decide +kernel
theorem dX12_digest_287 : decode cX12_digest 287 = .ok (.iload_n 3, 1) := by decide +kernel
theorem dX12_digest_288 : decode cX12_digest 288 = .ok (.iaload, 1) := by decide +kernel
theorem dX12_digest_289 : decode cX12_digest 289 = .ok (.i2l, 1) := by decide +kernel
theorem dX12_digest_290 : decode cX12_digest 290 = .ok (.ladd, 1) := by decide +kernel
theorem dX12_digest_291 : decode cX12_digest 291 = .ok (.lstore_n 1, 1) := by decide +kernel
theorem dX12_digest_292 : decode cX12_digest 292 = .ok (.iinc 3 1, 3) := by decide +kernel
theorem dX12_digest_295 : decode cX12_digest 295 = .ok (.goto (-84), 3) := by decide +kernel
theorem dX12_digest_298 : decode cX12_digest 298 = .ok (.iconst 0, 1) := by decide +kernel
theorem dX12_digest_299 : decode cX12_digest 299 = .ok (.istore_n 3, 1) := by decide +kernel
theorem dX12_digest_300 : decode cX12_digest 300 = .ok (.iload_n 3, 1) := by decide +kernel
theorem dX12_digest_301 : decode cX12_digest 301 = .ok (.bipush 6, 2) := by decide +kernel
theorem dX12_digest_303 : decode cX12_digest 303 = .ok (.if_icmp .ge 63, 3) := by decide +kernel
theorem dX12_digest_306 : decode cX12_digest 306 = .ok (.ldc2_w 332, 3) := by decide +kernel
theorem dX12_digest_309 : decode cX12_digest 309 = .ok (.lload_n 1, 1) := by decide +kernel
theorem dX12_digest_310 : decode cX12_digest 310 = .ok (.lmul, 1) := by decide +kernel
theorem dX12_digest_311 : decode cX12_digest 311 = .ok (.aload_n 0, 1) := by decide +kernel
theorem dX12_digest_312 : decode cX12_digest 312 = .ok (.getfield 7, 3) := by decide +kernel
theorem dX12_digest_315 : decode cX12_digest 315 = .ok (.iload_n 3, 1) := by decide +kernel
theorem dX12_digest_316 : decode cX12_digest 316 = .ok (.iaload, 1) := by decide +kernel
theorem dX12_digest_317 : decode cX12_digest 317 = .ok (.i2l, 1) := by decide +kernel
theorem dX12_digest_318 : decode cX12_digest 318 = .ok (.ladd, 1) := by decide +kernel
theorem dX12_digest_319 : decode cX12_digest 319 = .ok (.lstore_n 1, 1) := by decide +kernel
theorem dX12_digest_320 : decode cX12_digest 320 = .ok (.iconst 0, 1) := by decide +kernel
theorem dX12_digest_321 : decode cX12_digest 321 = .ok (.istore 4, 2) := by decide +kernel
theorem dX12_digest_323 : decode cX12_digest 323 = .ok (.iload 4, 2) := by decide +kernel
theorem dX12_digest_325 : decode cX12_digest 325 = .ok (.aload_n 0, 1) := by decide +kernel
theorem dX12_digest_326 : decode cX12_digest 326 = .ok (.getfield 7, 3) := by decide +kernel
theorem dX12_digest_329 : decode cX12_digest 329 = .ok (.iload_n 3, 1) := by decide +kernel
theorem dX12_digest_330 : decode cX12_digest 330 = .ok (.iaload, 1) := by decide +kernel
theorem dX12_digest_331 : decode cX12_digest 331 = .ok (.if_icmp .ge 29, 3) := by decide +kernel
theorem dX12_digest_334 : decode cX12_digest 334 = .ok (.ldc2_w 332, 3) := by decide +kernel
theorem dX12_digest_337 : decode cX12_digest 337 = .ok (.lload_n 1, 1) := by decide +kernel
theorem dX12_digest_338 : decode cX12_digest 338 = .ok (.lmul, 1) := by decide +kernel
theorem dX12_digest_339 : decode cX12_digest 339 = .ok (.aload_n 0, 1) := by decide +kernel
theorem dX12_digest_340 : decode cX12_digest 340 = .ok (.getfield 13, 3) := by decide +kernel
theorem dX12_digest_343 : decode cX12_digest 343 = .ok (.bipush 60, 2) := by decide +kernel
theorem dX12_digest_345 : decode cX12_digest 345 = .ok (.iload_n 3, 1) := by decide +kernel
theorem dX12_digest_346 : decode cX12_digest 346 = .ok (.imul, 1) := by decide +kernel
theorem dX12_digest_347 : decode cX12_digest 347 = .ok (.iload 4, 2) := by decide +kernel
theorem dX12_digest_349 : decode cX12_digest 349 = .ok (.iadd, 1) := by decide +kernel
theorem dX12_digest_350 : decode cX12_digest 350 = .ok (.iaload, 1) := by decide +kernel
theorem dX12_digest_351 : decode cX12_digest 351 = .ok (.i2l, 1) := by decide +kernel
theorem dX12_digest_352 : decode cX12_digest 352 = .ok (.ladd, 1) := by decide +kernel
theorem dX12_digest_353 : decode cX12_digest 353 = .ok (.lstore_n 1, 1) := by decide +kernel
theorem dX12_digest_354 : decode cX12_digest 354 = .ok (.iinc 4 1, 3) := by decide +kernel
theorem dX12_digest_357 : decode cX12_digest 357 = .ok (.goto (-34), 3) := by decide +kernel
theorem dX12_digest_360 : decode cX12_digest 360 = .ok (.iinc 3 1, 3) := by decide +kernel
theorem dX12_digest_363 : decode cX12_digest 363 = .ok (.goto (-63), 3) := by decide +kernel
theorem dX12_digest_366 : decode cX12_digest 366 = .ok (.iconst 0, 1) := by decide +kernel
theorem dX12_digest_367 : decode cX12_digest 367 = .ok (.istore_n 3, 1) := by decide +kernel
theorem dX12_digest_368 : decode cX12_digest 368 = .ok (.iload_n 3, 1) := by decide +kernel
theorem dX12_digest_369 : decode cX12_digest 369 = .ok (.iconst 4, 1) := by decide +kernel
theorem dX12_digest_370 : decode cX12_digest 370 = .ok (.if_icmp .ge 63, 3) := by decide +kernel
theorem dX12_digest_373 : decode cX12_digest 373 = .ok (.ldc2_w 332, 3) := by decide +kernel
theorem dX12_digest_376 : decode cX12_digest 376 = .ok (.lload_n 1, 1) := by decide +kernel
theorem dX12_digest_377 : decode cX12_digest 377 = .ok (.lmul, 1) := by decide +kernel
theorem dX12_digest_378 : decode cX12_digest 378 = .ok (.aload_n 0, 1) := by decide +kernel
theorem dX12_digest_379 : decode cX12_digest 379 = .ok (.getfield 16, 3) := by decide +kernel
theorem dX12_digest_382 : decode cX12_digest 382 = .ok (.iload_n 3, 1) := by decide +kernel
theorem dX12_digest_383 : decode cX12_digest 383 = .ok (.iaload, 1) := by decide +kernel
theorem dX12_digest_384 : decode cX12_digest 384 = .ok (.i2l, 1) := by decide +kernel
theorem dX12_digest_385 : decode cX12_digest 385 = .ok (.ladd, 1) := by decide +kernel
theorem dX12_digest_386 : decode cX12_digest 386 = .ok (.lstore_n 1, 1) := by decide +kernel
theorem dX12_digest_387 : decode cX12_digest 387 = .ok (.iconst 0, 1) := by decide +kernel
theorem dX12_digest_388 : decode cX12_digest 388 = .ok (.istore 4, 2) := by decide +kernel
theorem dX12_digest_390 : decode cX12_digest 390 = .ok (.iload 4, 2) := by decide +kernel
theorem dX12_digest_392 : decode cX12_digest 392 = .ok (.aload_n 0, 1) := by decide +kernel
theorem dX12_digest_393 : decode cX12_digest 393 = .ok (.getfield 16, 3) := by decide +kernel
theorem dX12_digest_396 : decode cX12_digest 396 = .ok (.iload_n 3, 1) := by decide +kernel
theorem dX12_digest_397 : decode cX12_digest 397 = .ok (.iaload, 1) := by decide +kernel
theorem dX12_digest_398 : decode cX12_digest 398 = .ok (.if_icmp .ge 29, 3) := by decide +kernel
theorem dX12_digest_401 : decode cX12_digest 401 = .ok (.ldc2_w 332, 3) := by decide +kernel
theorem dX12_digest_404 : decode cX12_digest 404 = .ok (.lload_n 1, 1) := by decide +kernel
theorem dX12_digest_405 : decode cX12_digest 405 = .ok (.lmul, 1) := by decide +kernel
theorem dX12_digest_406 : decode cX12_digest 406 = .ok (.aload_n 0, 1) := by decide +kernel
theorem dX12_digest_407 : decode cX12_digest 407 = .ok (.getfield 19, 3) := by decide +kernel
theorem dX12_digest_410 : decode cX12_digest 410 = .ok (.bipush 60, 2) := by decide +kernel
theorem dX12_digest_412 : decode cX12_digest 412 = .ok (.iload_n 3, 1) := by decide +kernel
theorem dX12_digest_413 : decode cX12_digest 413 = .ok (.imul, 1) := by decide +kernel
theorem dX12_digest_414 : decode cX12_digest 414 = .ok (.iload 4, 2) := by decide +kernel
theorem dX12_digest_416 : decode cX12_digest 416 = .ok (.iadd, 1) := by decide +kernel
theorem dX12_digest_417 : decode cX12_digest 417 = .ok (.iaload, 1) := by decide +kernel
theorem dX12_digest_418 : decode cX12_digest 418 = .ok (.i2l, 1) := by decide +kernel
theorem dX12_digest_419 : decode cX12_digest 419 = .ok (.ladd, 1) := by decide +kernel
theorem dX12_digest_420 : decode cX12_digest 420 = .ok (.lstore_n 1, 1) := by decide +kernel
theorem dX12_digest_421 : decode cX12_digest 421 = .ok (.iinc 4 1, 3) := by decide +kernel
theorem dX12_digest_424 : decode cX12_digest 424 = .ok (.goto (-34), 3) := by decide +kernel
theorem dX12_digest_427 : decode cX12_digest 427 = .ok (.iinc 3 1, 3) := by decide +kernel
theorem dX12_digest_430 : decode cX12_digest 430 = .ok (.goto (-62), 3) := by decide +kernel
theorem dX12_digest_433 : decode cX12_digest 433 = .ok (.lload_n 1, 1) := by decide +kernel
theorem dX12_digest_434 : decode cX12_digest 434 = .ok (.lreturn, 1) := by decide +kernel
theorem dJ9_abs_0f7a4_0 : decode cJ9_abs_0f7a4 0 = .ok (.iload_n 0, 1) := by decide +kernel
theorem dJ9_abs_0f7a4_1 : decode cJ9_abs_0f7a4 1 = .ok (.ifCond .ge 8, 3) := by decide +kernel
theorem dJ9_abs_0f7a4_4 : decode cJ9_abs_0f7a4 4 = .ok (.iload_n 0, 1) := by decide +kernel
theorem dJ9_abs_0f7a4_5 : decode cJ9_abs_0f7a4 5 = .ok (.ineg, 1) := by decide +kernel
theorem dJ9_abs_0f7a4_6 : decode cJ9_abs_0f7a4 6 = .ok (.goto 4, 3) := by decide +kernel
theorem dJ9_abs_0f7a4_9 : decode cJ9_abs_0f7a4 9 = .ok (.iload_n 0, 1) := by decide +kernel
theorem dJ9_abs_0f7a4_10 : decode cJ9_abs_0f7a4 10 = .ok (.ireturn, 1) := by decide +kernel
theorem dJ9_max_7cf53_0 : decode cJ9_max_7cf53 0 = .ok (.iload_n 0, 1) := by decide +kernel
theorem dJ9_max_7cf53_1 : decode cJ9_max_7cf53 1 = .ok (.iload_n 1, 1) := by decide +kernel
theorem dJ9_max_7cf53_2 : decode cJ9_max_7cf53 2 = .ok (.if_icmp .lt 7, 3) := by decide +kernel
theorem dJ9_max_7cf53_5 : decode cJ9_max_7cf53 5 = .ok (.iload_n 0, 1) := by decide +kernel
theorem dJ9_max_7cf53_6 : decode cJ9_max_7cf53 6 = .ok (.goto 4, 3) := by decide +kernel
theorem dJ9_max_7cf53_9 : decode cJ9_max_7cf53 9 = .ok (.iload_n 1, 1) := by decide +kernel
theorem dJ9_max_7cf53_10 : decode cJ9_max_7cf53 10 = .ok (.ireturn, 1) := by decide +kernel
theorem dJ9_min_7cf53_0 : decode cJ9_min_7cf53 0 = .ok (.iload_n 0, 1) := by decide +kernel
theorem dJ9_min_7cf53_1 : decode cJ9_min_7cf53 1 = .ok (.iload_n 1, 1) := by decide +kernel
theorem dJ9_min_7cf53_2 : decode cJ9_min_7cf53 2 = .ok (.if_icmp .gt 7, 3) := by decide +kernel
theorem dJ9_min_7cf53_5 : decode cJ9_min_7cf53 5 = .ok (.iload_n 0, 1) := by decide +kernel
theorem dJ9_min_7cf53_6 : decode cJ9_min_7cf53 6 = .ok (.goto 4, 3) := by decide +kernel
theorem dJ9_min_7cf53_9 : decode cJ9_min_7cf53 9 = .ok (.iload_n 1, 1) := by decide +kernel
theorem dJ9_min_7cf53_10 : decode cJ9_min_7cf53 10 = .ok (.ireturn, 1) := by decide +kernel
theorem dJ7_fill_53178_0 : decode cJ7_fill_53178 0 = .ok (.iconst 0, 1) := by decide +kernel
theorem dJ7_fill_53178_1 : decode cJ7_fill_53178 1 = .ok (.istore_n 2, 1) := by decide +kernel
theorem dJ7_fill_53178_2 : decode cJ7_fill_53178 2 = .ok (.aload_n 0, 1) := by decide +kernel
theorem dJ7_fill_53178_3 : decode cJ7_fill_53178 3 = .ok (.arraylength, 1) := by decide +kernel
theorem dJ7_fill_53178_4 : decode cJ7_fill_53178 4 = .ok (.istore_n 3, 1) := by decide +kernel
theorem dJ7_fill_53178_5 : decode cJ7_fill_53178 5 = .ok (.iload_n 2, 1) := by decide +kernel
theorem dJ7_fill_53178_6 : decode cJ7_fill_53178 6 = .ok (.iload_n 3, 1) := by decide +kernel
theorem dJ7_fill_53178_7 : decode cJ7_fill_53178 7 = .ok (.if_icmp .ge 13, 3) := by decide +kernel
theorem dJ7_fill_53178_10 : decode cJ7_fill_53178 10 = .ok (.aload_n 0, 1) := by decide +kernel
theorem dJ7_fill_53178_11 : decode cJ7_fill_53178 11 = .ok (.iload_n 2, 1) := by decide +kernel
theorem dJ7_fill_53178_12 : decode cJ7_fill_53178 12 = .ok (.iload_n 1, 1) := by decide +kernel
theorem dJ7_fill_53178_13 : decode cJ7_fill_53178 13 = .ok (.iastore, 1) := by decide +kernel
theorem dJ7_fill_53178_14 : decode cJ7_fill_53178 14 = .ok (.iinc 2 1, 3) := by decide +kernel
theorem dJ7_fill_53178_17 : decode cJ7_fill_53178 17 = .ok (.goto (-12), 3) := by decide +kernel
theorem dJ7_fill_53178_20 : decode cJ7_fill_53178 20 = .ok (.return_, 1) := by decide +kernel
theorem dL_law_0 : decode cL_law 0 = .ok (.new 7, 3) := by decide +kernel
theorem dL_law_3 : decode cL_law 3 = .ok (.dup, 1) := by decide +kernel
theorem dL_law_4 : decode cL_law 4 = .ok (.invokespecial 9, 3) := by decide +kernel
theorem dL_law_7 : decode cL_law 7 = .ok (.astore_n 1, 1) := by decide +kernel
theorem dL_law_8 : decode cL_law 8 = .ok (.new 10, 3) := by decide +kernel
theorem dL_law_11 : decode cL_law 11 = .ok (.dup, 1) := by decide +kernel
theorem dL_law_12 : decode cL_law 12 = .ok (.invokespecial 12, 3) := by decide +kernel
theorem dL_law_15 : decode cL_law 15 = .ok (.astore_n 2, 1) := by decide +kernel
theorem dL_law_16 : decode cL_law 16 = .ok (.iconst 0, 1) := by decide +kernel
theorem dL_law_17 : decode cL_law 17 = .ok (.istore_n 3, 1) := by decide +kernel
theorem dL_law_18 : decode cL_law 18 = .ok (.iload_n 3, 1) := by decide +kernel
theorem dL_law_19 : decode cL_law 19 = .ok (.aload_n 0, 1) := by decide +kernel
theorem dL_law_20 : decode cL_law 20 = .ok (.arraylength, 1) := by decide +kernel
theorem dL_law_21 : decode cL_law 21 = .ok (.bipush 6, 2) := by decide +kernel
theorem dL_law_23 : decode cL_law 23 = .ok (.isub, 1) := by decide +kernel
theorem dL_law_24 : decode cL_law 24 = .ok (.if_icmp .gt 1311, 3) := by decide +kernel
theorem dL_law_27 : decode cL_law 27 = .ok (.aload_n 0, 1) := by decide +kernel
theorem dL_law_28 : decode cL_law 28 = .ok (.iload_n 3, 1) := by decide +kernel
theorem dL_law_29 : decode cL_law 29 = .ok (.iaload, 1) := by decide +kernel
theorem dL_law_30 : decode cL_law 30 = .ok (.bipush 63, 2) := by decide +kernel
theorem dL_law_32 : decode cL_law 32 = .ok (.iand, 1) := by decide +kernel
theorem dL_law_33 : decode cL_law 33 = .ok (.tableswitch 1296 0 43 #[191, 224, 267, 300, 323, 386, 409, 442, 485, 508, 531, 564, 597, 630, 653, 676, 699, 722, 745, 768, 781, 804, 827, 850, 873, 906, 929, 942, 965, 978, 991, 1004, 1037, 1060, 1083, 1106, 1149, 1182, 1195, 1209, 1223, 1246, 1259, 1282], 191) := by decide +kernel
theorem dL_law_224 : decode cL_law 224 = .ok (.aload_n 1, 1) := by decide +kernel
theorem dL_law_225 : decode cL_law 225 = .ok (.aload_n 0, 1) := by decide +kernel
theorem dL_law_226 : decode cL_law 226 = .ok (.iload_n 3, 1) := by decide +kernel
theorem dL_law_227 : decode cL_law 227 = .ok (.iconst 1, 1) := by decide +kernel
theorem dL_law_228 : decode cL_law 228 = .ok (.iadd, 1) := by decide +kernel
theorem dL_law_229 : decode cL_law 229 = .ok (.iaload, 1) := by decide +kernel
theorem dL_law_230 : decode cL_law 230 = .ok (.aload_n 0, 1) := by decide +kernel
theorem dL_law_231 : decode cL_law 231 = .ok (.iload_n 3, 1) := by decide +kernel
theorem dL_law_232 : decode cL_law 232 = .ok (.iconst 2, 1) := by decide +kernel
theorem dL_law_233 : decode cL_law 233 = .ok (.iadd, 1) := by decide +kernel
theorem dL_law_234 : decode cL_law 234 = .ok (.iaload, 1) := by decide +kernel
theorem dL_law_235 : decode cL_law 235 = .ok (.invokevirtual 13, 3) := by decide +kernel
theorem dL_law_238 : decode cL_law 238 = .ok (.aload_n 2, 1) := by decide +kernel
theorem dL_law_239 : decode cL_law 239 = .ok (.aload_n 0, 1) := by decide +kernel
theorem dL_law_240 : decode cL_law 240 = .ok (.iload_n 3, 1) := by decide +kernel
theorem dL_law_241 : decode cL_law 241 = .ok (.iconst 1, 1) := by decide +kernel
theorem dL_law_242 : decode cL_law 242 = .ok (.iadd, 1) := by decide +kernel
theorem dL_law_243 : decode cL_law 243 = .ok (.iaload, 1) := by decide +kernel
theorem dL_law_244 : decode cL_law 244 = .ok (.aload_n 0, 1) := by decide +kernel
theorem dL_law_245 : decode cL_law 245 = .ok (.iload_n 3, 1) := by decide +kernel
theorem dL_law_246 : decode cL_law 246 = .ok (.iconst 2, 1) := by decide +kernel
theorem dL_law_247 : decode cL_law 247 = .ok (.iadd, 1) := by decide +kernel
theorem dL_law_248 : decode cL_law 248 = .ok (.iaload, 1) := by decide +kernel
theorem dL_law_249 : decode cL_law 249 = .ok (.invokevirtual 17, 3) := by decide +kernel
theorem dL_law_252 : decode cL_law 252 = .ok (.if_icmp .eq 1077, 3) := by decide +kernel
theorem dL_law_255 : decode cL_law 255 = .ok (.iconst 0, 1) := by decide +kernel
theorem dL_law_256 : decode cL_law 256 = .ok (.ireturn, 1) := by decide +kernel
theorem dL_law_257 : decode cL_law 257 = .ok (.aload_n 1, 1) := by decide +kernel
theorem dL_law_258 : decode cL_law 258 = .ok (.aload_n 0, 1) := by decide +kernel
theorem dL_law_259 : decode cL_law 259 = .ok (.iload_n 3, 1) := by decide +kernel
theorem dL_law_260 : decode cL_law 260 = .ok (.iconst 1, 1) := by decide +kernel
theorem dL_law_261 : decode cL_law 261 = .ok (.iadd, 1) := by decide +kernel
theorem dL_law_262 : decode cL_law 262 = .ok (.iaload, 1) := by decide +kernel
theorem dL_law_263 : decode cL_law 263 = .ok (.aload_n 0, 1) := by decide +kernel
theorem dL_law_264 : decode cL_law 264 = .ok (.iload_n 3, 1) := by decide +kernel
theorem dL_law_265 : decode cL_law 265 = .ok (.iconst 2, 1) := by decide +kernel
theorem dL_law_266 : decode cL_law 266 = .ok (.iadd, 1) := by decide +kernel
theorem dL_law_267 : decode cL_law 267 = .ok (.iaload, 1) := by decide +kernel
theorem dL_law_268 : decode cL_law 268 = .ok (.aload_n 0, 1) := by decide +kernel
theorem dL_law_269 : decode cL_law 269 = .ok (.iload_n 3, 1) := by decide +kernel
theorem dL_law_270 : decode cL_law 270 = .ok (.iconst 3, 1) := by decide +kernel
theorem dL_law_271 : decode cL_law 271 = .ok (.iadd, 1) := by decide +kernel
theorem dL_law_272 : decode cL_law 272 = .ok (.iaload, 1) := by decide +kernel
theorem dL_law_273 : decode cL_law 273 = .ok (.invokevirtual 18, 3) := by decide +kernel
theorem dL_law_276 : decode cL_law 276 = .ok (.aload_n 2, 1) := by decide +kernel
theorem dL_law_277 : decode cL_law 277 = .ok (.aload_n 0, 1) := by decide +kernel
theorem dL_law_278 : decode cL_law 278 = .ok (.iload_n 3, 1) := by decide +kernel
theorem dL_law_279 : decode cL_law 279 = .ok (.iconst 1, 1) := by decide +kernel
theorem dL_law_280 : decode cL_law 280 = .ok (.iadd, 1) := by decide +kernel
theorem dL_law_281 : decode cL_law 281 = .ok (.iaload, 1) := by decide +kernel
theorem dL_law_282 : decode cL_law 282 = .ok (.aload_n 0, 1) := by decide +kernel
theorem dL_law_283 : decode cL_law 283 = .ok (.iload_n 3, 1) := by decide +kernel
theorem dL_law_284 : decode cL_law 284 = .ok (.iconst 2, 1) := by decide +kernel
theorem dL_law_285 : decode cL_law 285 = .ok (.iadd, 1) := by decide +kernel
theorem dL_law_286 : decode cL_law 286 = .ok (.iaload, 1) := by decide +kernel
theorem dL_law_287 : decode cL_law 287 = .ok (.aload_n 0, 1) := by decide +kernel
theorem dL_law_288 : decode cL_law 288 = .ok (.iload_n 3, 1) := by decide +kernel
theorem dL_law_289 : decode cL_law 289 = .ok (.iconst 3, 1) := by decide +kernel
theorem dL_law_290 : decode cL_law 290 = .ok (.iadd, 1) := by decide +kernel
theorem dL_law_291 : decode cL_law 291 = .ok (.iaload, 1) := by decide +kernel
theorem dL_law_292 : decode cL_law 292 = .ok (.invokevirtual 22, 3) := by decide +kernel
theorem dL_law_295 : decode cL_law 295 = .ok (.if_icmp .eq 1034, 3) := by decide +kernel
theorem dL_law_298 : decode cL_law 298 = .ok (.iconst 0, 1) := by decide +kernel
theorem dL_law_299 : decode cL_law 299 = .ok (.ireturn, 1) := by decide +kernel
theorem dL_law_300 : decode cL_law 300 = .ok (.aload_n 1, 1) := by decide +kernel
theorem dL_law_301 : decode cL_law 301 = .ok (.aload_n 0, 1) := by decide +kernel
theorem dL_law_302 : decode cL_law 302 = .ok (.iload_n 3, 1) := by decide +kernel
theorem dL_law_303 : decode cL_law 303 = .ok (.iconst 1, 1) := by decide +kernel
theorem dL_law_304 : decode cL_law 304 = .ok (.iadd, 1) := by decide +kernel
theorem dL_law_305 : decode cL_law 305 = .ok (.iaload, 1) := by decide +kernel
theorem dL_law_306 : decode cL_law 306 = .ok (.aload_n 0, 1) := by decide +kernel
theorem dL_law_307 : decode cL_law 307 = .ok (.iload_n 3, 1) := by decide +kernel
theorem dL_law_308 : decode cL_law 308 = .ok (.iconst 2, 1) := by decide +kernel
theorem dL_law_309 : decode cL_law 309 = .ok (.iadd, 1) := by decide +kernel
theorem dL_law_310 : decode cL_law 310 = .ok (.iaload, 1) := by decide +kernel
theorem dL_law_311 : decode cL_law 311 = .ok (.invokevirtual 23, 3) := by decide +kernel
theorem dL_law_314 : decode cL_law 314 = .ok (.aload_n 2, 1) := by decide +kernel
theorem dL_law_315 : decode cL_law 315 = .ok (.aload_n 0, 1) := by decide +kernel
theorem dL_law_316 : decode cL_law 316 = .ok (.iload_n 3, 1) := by decide +kernel
theorem dL_law_317 : decode cL_law 317 = .ok (.iconst 1, 1) := by decide +kernel
theorem dL_law_318 : decode cL_law 318 = .ok (.iadd, 1) := by decide +kernel
theorem dL_law_319 : decode cL_law 319 = .ok (.iaload, 1) := by decide +kernel
theorem dL_law_320 : decode cL_law 320 = .ok (.aload_n 0, 1) := by decide +kernel
theorem dL_law_321 : decode cL_law 321 = .ok (.iload_n 3, 1) := by decide +kernel
theorem dL_law_322 : decode cL_law 322 = .ok (.iconst 2, 1) := by decide +kernel
theorem dL_law_323 : decode cL_law 323 = .ok (.iadd, 1) := by decide +kernel
theorem dL_law_324 : decode cL_law 324 = .ok (.iaload, 1) := by decide +kernel
theorem dL_law_325 : decode cL_law 325 = .ok (.invokevirtual 26, 3) := by decide +kernel
theorem dL_law_328 : decode cL_law 328 = .ok (.if_icmp .eq 1001, 3) := by decide +kernel
theorem dL_law_331 : decode cL_law 331 = .ok (.iconst 0, 1) := by decide +kernel
theorem dL_law_332 : decode cL_law 332 = .ok (.ireturn, 1) := by decide +kernel
theorem dL_law_333 : decode cL_law 333 = .ok (.aload_n 1, 1) := by decide +kernel
theorem dL_law_334 : decode cL_law 334 = .ok (.aload_n 0, 1) := by decide +kernel
theorem dL_law_335 : decode cL_law 335 = .ok (.iload_n 3, 1) := by decide +kernel
theorem dL_law_336 : decode cL_law 336 = .ok (.iconst 1, 1) := by decide +kernel
theorem dL_law_337 : decode cL_law 337 = .ok (.iadd, 1) := by decide +kernel
theorem dL_law_338 : decode cL_law 338 = .ok (.iaload, 1) := by decide +kernel
theorem dL_law_339 : decode cL_law 339 = .ok (.invokevirtual 27, 3) := by decide +kernel
theorem dL_law_342 : decode cL_law 342 = .ok (.aload_n 2, 1) := by decide +kernel
theorem dL_law_343 : decode cL_law 343 = .ok (.aload_n 0, 1) := by decide +kernel
theorem dL_law_344 : decode cL_law 344 = .ok (.iload_n 3, 1) := by decide +kernel
theorem dL_law_345 : decode cL_law 345 = .ok (.iconst 1, 1) := by decide +kernel
theorem dL_law_346 : decode cL_law 346 = .ok (.iadd, 1) := by decide +kernel
theorem dL_law_347 : decode cL_law 347 = .ok (.iaload, 1) := by decide +kernel
theorem dL_law_348 : decode cL_law 348 = .ok (.invokevirtual 31, 3) := by decide +kernel
theorem dL_law_351 : decode cL_law 351 = .ok (.if_icmp .eq 978, 3) := by decide +kernel
theorem dL_law_354 : decode cL_law 354 = .ok (.iconst 0, 1) := by decide +kernel
theorem dL_law_355 : decode cL_law 355 = .ok (.ireturn, 1) := by decide +kernel
theorem dL_law_356 : decode cL_law 356 = .ok (.aload_n 1, 1) := by decide +kernel
theorem dL_law_357 : decode cL_law 357 = .ok (.aload_n 0, 1) := by decide +kernel
theorem dL_law_358 : decode cL_law 358 = .ok (.iload_n 3, 1) := by decide +kernel
theorem dL_law_359 : decode cL_law 359 = .ok (.iconst 1, 1) := by decide +kernel
theorem dL_law_360 : decode cL_law 360 = .ok (.iadd, 1) := by decide +kernel
theorem dL_law_361 : decode cL_law 361 = .ok (.iaload, 1) := by decide +kernel
theorem dL_law_362 : decode cL_law 362 = .ok (.aload_n 0, 1) := by decide +kernel
theorem dL_law_363 : decode cL_law 363 = .ok (.iload_n 3, 1) := by decide +kernel
theorem dL_law_364 : decode cL_law 364 = .ok (.iconst 2, 1) := by decide +kernel
theorem dL_law_365 : decode cL_law 365 = .ok (.iadd, 1) := by decide +kernel
theorem dL_law_366 : decode cL_law 366 = .ok (.iaload, 1) := by decide +kernel
theorem dL_law_367 : decode cL_law 367 = .ok (.aload_n 0, 1) := by decide +kernel
theorem dL_law_368 : decode cL_law 368 = .ok (.iload_n 3, 1) := by decide +kernel
theorem dL_law_369 : decode cL_law 369 = .ok (.iconst 3, 1) := by decide +kernel
theorem dL_law_370 : decode cL_law 370 = .ok (.iadd, 1) := by decide +kernel
theorem dL_law_371 : decode cL_law 371 = .ok (.iaload, 1) := by decide +kernel
theorem dL_law_372 : decode cL_law 372 = .ok (.aload_n 0, 1) := by decide +kernel
theorem dL_law_373 : decode cL_law 373 = .ok (.iload_n 3, 1) := by decide +kernel
theorem dL_law_374 : decode cL_law 374 = .ok (.iconst 4, 1) := by decide +kernel
theorem dL_law_375 : decode cL_law 375 = .ok (.iadd, 1) := by decide +kernel
theorem dL_law_376 : decode cL_law 376 = .ok (.iaload, 1) := by decide +kernel
theorem dL_law_377 : decode cL_law 377 = .ok (.aload_n 0, 1) := by decide +kernel
