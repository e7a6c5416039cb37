theorem dX9_carry_26 : decode cX9_carry 26 = .ok (.putfield 18, 3) := by decide +kernel
theorem dX9_carry_29 : decode cX9_carry 29 = .ok (.aload_n 0, 1) := by decide +kernel
theorem dX9_carry_30 : decode cX9_carry 30 = .ok (.dup, 1) := by decide +kernel
theorem dX9_carry_31 : decode cX9_carry 31 = .ok (.getfield 24, 3) := by decide +kernel
theorem dX9_carry_34 : decode cX9_carry 34 = .ok (.aload_n 0, 1) := by decide +kernel
theorem dX9_carry_35 : decode cX9_carry 35 = .ok (.getfield 33, 3) := by decide +kernel
theorem dX9_carry_38 : decode cX9_carry 38 = .ok (.getfield 56, 3) := by decide +kernel
theorem dX9_carry_41 : decode cX9_carry 41 = .ok (.iload_n 1, 1) := by decide +kernel
theorem dX9_carry_42 : decode cX9_carry 42 = .ok (.iaload, 1) := by decide +kernel
theorem dX9_carry_43 : decode cX9_carry 43 = .ok (.iadd, 1) := by decide +kernel
theorem dX9_carry_44 : decode cX9_carry 44 = .ok (.putfield 24, 3) := by decide +kernel
theorem dX9_carry_47 : decode cX9_carry 47 = .ok (.aload_n 0, 1) := by decide +kernel
theorem dX9_carry_48 : decode cX9_carry 48 = .ok (.dup, 1) := by decide +kernel
theorem dX9_carry_49 : decode cX9_carry 49 = .ok (.getfield 30, 3) := by decide +kernel
theorem dX9_carry_52 : decode cX9_carry 52 = .ok (.iconst 1, 1) := by decide +kernel
theorem dX9_carry_53 : decode cX9_carry 53 = .ok (.iconst 3, 1) := by decide +kernel
theorem dX9_carry_54 : decode cX9_carry 54 = .ok (.iload_n 1, 1) := by decide +kernel
theorem dX9_carry_55 : decode cX9_carry 55 = .ok (.imul, 1) := by decide +kernel
theorem dX9_carry_56 : decode cX9_carry 56 = .ok (.ishl, 1) := by decide +kernel
theorem dX9_carry_57 : decode cX9_carry 57 = .ok (.iadd, 1) := by decide +kernel
theorem dX9_carry_58 : decode cX9_carry 58 = .ok (.putfield 30, 3) := by decide +kernel
theorem dX9_carry_61 : decode cX9_carry 61 = .ok (.aload_n 0, 1) := by decide +kernel
theorem dX9_carry_62 : decode cX9_carry 62 = .ok (.dup, 1) := by decide +kernel
theorem dX9_carry_63 : decode cX9_carry 63 = .ok (.getfield 27, 3) := by decide +kernel
theorem dX9_carry_66 : decode cX9_carry 66 = .ok (.iconst 1, 1) := by decide +kernel
theorem dX9_carry_67 : decode cX9_carry 67 = .ok (.iadd, 1) := by decide +kernel
theorem dX9_carry_68 : decode cX9_carry 68 = .ok (.putfield 27, 3) := by decide +kernel
theorem dX9_carry_71 : decode cX9_carry 71 = .ok (.return_, 1) := by decide +kernel
theorem dX10_init_0 : decode cX10_init 0 = .ok (.aload_n 0, 1) := by decide +kernel
theorem dX10_init_1 : decode cX10_init 1 = .ok (.invokespecial 1, 3) := by decide +kernel
theorem dX10_init_4 : decode cX10_init 4 = .ok (.aload_n 0, 1) := by decide +kernel
theorem dX10_init_5 : decode cX10_init 5 = .ok (.iload_n 1, 1) := by decide +kernel
theorem dX10_init_6 : decode cX10_init 6 = .ok (.putfield 7, 3) := by decide +kernel
theorem dX10_init_9 : decode cX10_init 9 = .ok (.aload_n 0, 1) := by decide +kernel
theorem dX10_init_10 : decode cX10_init 10 = .ok (.iload_n 2, 1) := by decide +kernel
theorem dX10_init_11 : decode cX10_init 11 = .ok (.putfield 13, 3) := by decide +kernel
theorem dX10_init_14 : decode cX10_init 14 = .ok (.return_, 1) := by decide +kernel
theorem dX10_kind_0 : decode cX10_kind 0 = .ok (.iconst 0, 1) := by decide +kernel
theorem dX10_kind_1 : decode cX10_kind 1 = .ok (.ireturn, 1) := by decide +kernel
theorem dX10_go_0 : decode cX10_go 0 = .ok (.aload_n 0, 1) := by decide +kernel
theorem dX10_go_1 : decode cX10_go 1 = .ok (.aload_n 1, 1) := by decide +kernel
theorem dX10_go_2 : decode cX10_go 2 = .ok (.aload_n 0, 1) := by decide +kernel
theorem dX10_go_3 : decode cX10_go 3 = .ok (.getfield 7, 3) := by decide +kernel
theorem dX10_go_6 : decode cX10_go 6 = .ok (.aload_n 0, 1) := by decide +kernel
theorem dX10_go_7 : decode cX10_go 7 = .ok (.getfield 13, 3) := by decide +kernel
theorem dX10_go_10 : decode cX10_go 10 = .ok (.invokevirtual 16, 3) := by decide +kernel
theorem dX10_go_13 : decode cX10_go 13 = .ok (.return_, 1) := by decide +kernel
theorem dX10_tell_0 : decode cX10_tell 0 = .ok (.bipush (-100), 2) := by decide +kernel
theorem dX10_tell_2 : decode cX10_tell 2 = .ok (.ireturn, 1) := by decide +kernel
theorem dX10_goalFrom_0 : decode cX10_goalFrom 0 = .ok (.iload_n 1, 1) := by decide +kernel
theorem dX10_goalFrom_1 : decode cX10_goalFrom 1 = .ok (.iload_n 2, 1) := by decide +kernel
theorem dX10_goalFrom_2 : decode cX10_goalFrom 2 = .ok (.invokestatic 20, 3) := by decide +kernel
theorem dX10_goalFrom_5 : decode cX10_goalFrom 5 = .ok (.ireturn, 1) := by decide +kernel
theorem dX10_goOneWay_0 : decode cX10_goOneWay 0 = .ok (.aload_n 1, 1) := by decide +kernel
theorem dX10_goOneWay_1 : decode cX10_goOneWay 1 = .ok (.iload_n 2, 1) := by decide +kernel
theorem dX10_goOneWay_2 : decode cX10_goOneWay 2 = .ok (.iload_n 3, 1) := by decide +kernel
theorem dX10_goOneWay_3 : decode cX10_goOneWay 3 = .ok (.aload_n 1, 1) := by decide +kernel
theorem dX10_goOneWay_4 : decode cX10_goOneWay 4 = .ok (.getfield 24, 3) := by decide +kernel
theorem dX10_goOneWay_7 : decode cX10_goOneWay 7 = .ok (.invokevirtual 29, 3) := by decide +kernel
theorem dX10_goOneWay_10 : decode cX10_goOneWay 10 = .ok (.istore 4, 2) := by decide +kernel
theorem dX10_goOneWay_12 : decode cX10_goOneWay 12 = .ok (.iload 4, 2) := by decide +kernel
theorem dX10_goOneWay_14 : decode cX10_goOneWay 14 = .ok (.ifCond .lt 20, 3) := by decide +kernel
theorem dX10_goOneWay_17 : decode cX10_goOneWay 17 = .ok (.aload_n 1, 1) := by decide +kernel
theorem dX10_goOneWay_18 : decode cX10_goOneWay 18 = .ok (.iload 4, 2) := by decide +kernel
theorem dX10_goOneWay_20 : decode cX10_goOneWay 20 = .ok (.aload_n 0, 1) := by decide +kernel
theorem dX10_goOneWay_21 : decode cX10_goOneWay 21 = .ok (.aload_n 1, 1) := by decide +kernel
theorem dX10_goOneWay_22 : decode cX10_goOneWay 22 = .ok (.iload 4, 2) := by decide +kernel
theorem dX10_goOneWay_24 : decode cX10_goOneWay 24 = .ok (.invokevirtual 33, 3) := by decide +kernel
theorem dX10_goOneWay_27 : decode cX10_goOneWay 27 = .ok (.iload_n 3, 1) := by decide +kernel
theorem dX10_goOneWay_28 : decode cX10_goOneWay 28 = .ok (.invokevirtual 37, 3) := by decide +kernel
theorem dX10_goOneWay_31 : decode cX10_goOneWay 31 = .ok (.invokevirtual 40, 3) := by decide +kernel
theorem dX10_goOneWay_34 : decode cX10_goOneWay 34 = .ok (.return_, 1) := by decide +kernel
theorem dX10_nextTo_0 : decode cX10_nextTo 0 = .ok (.iload_n 0, 1) := by decide +kernel
theorem dX10_nextTo_1 : decode cX10_nextTo 1 = .ok (.iload_n 1, 1) := by decide +kernel
theorem dX10_nextTo_2 : decode cX10_nextTo 2 = .ok (.if_icmp .ge 9, 3) := by decide +kernel
theorem dX10_nextTo_5 : decode cX10_nextTo 5 = .ok (.iload_n 0, 1) := by decide +kernel
theorem dX10_nextTo_6 : decode cX10_nextTo 6 = .ok (.iconst 1, 1) := by decide +kernel
theorem dX10_nextTo_7 : decode cX10_nextTo 7 = .ok (.iadd, 1) := by decide +kernel
theorem dX10_nextTo_8 : decode cX10_nextTo 8 = .ok (.goto 6, 3) := by decide +kernel
theorem dX10_nextTo_11 : decode cX10_nextTo 11 = .ok (.iload_n 0, 1) := by decide +kernel
theorem dX10_nextTo_12 : decode cX10_nextTo 12 = .ok (.iconst 1, 1) := by decide +kernel
theorem dX10_nextTo_13 : decode cX10_nextTo 13 = .ok (.isub, 1) := by decide +kernel
theorem dX10_nextTo_14 : decode cX10_nextTo 14 = .ok (.ireturn, 1) := by decide +kernel
theorem dX11_init_0 : decode cX11_init 0 = .ok (.aload_n 0, 1) := by decide +kernel
theorem dX11_init_1 : decode cX11_init 1 = .ok (.invokespecial 1, 3) := by decide +kernel
theorem dX11_init_4 : decode cX11_init 4 = .ok (.aload_n 0, 1) := by decide +kernel
theorem dX11_init_5 : decode cX11_init 5 = .ok (.bipush 6, 2) := by decide +kernel
theorem dX11_init_7 : decode cX11_init 7 = .ok (.anewarray 9, 3) := by decide +kernel
theorem dX11_init_10 : decode cX11_init 10 = .ok (.putfield 11, 3) := by decide +kernel
theorem dX11_init_13 : decode cX11_init 13 = .ok (.aload_n 0, 1) := by decide +kernel
theorem dX11_init_14 : decode cX11_init 14 = .ok (.iconst 4, 1) := by decide +kernel
theorem dX11_init_15 : decode cX11_init 15 = .ok (.anewarray 9, 3) := by decide +kernel
theorem dX11_init_18 : decode cX11_init 18 = .ok (.putfield 15, 3) := by decide +kernel
theorem dX11_init_21 : decode cX11_init 21 = .ok (.aload_n 0, 1) := by decide +kernel
theorem dX11_init_22 : decode cX11_init 22 = .ok (.bipush 60, 2) := by decide +kernel
theorem dX11_init_24 : decode cX11_init 24 = .ok (.anewarray 18, 3) := by decide +kernel
theorem dX11_init_27 : decode cX11_init 27 = .ok (.putfield 20, 3) := by decide +kernel
theorem dX11_init_30 : decode cX11_init 30 = .ok (.aload_n 0, 1) := by decide +kernel
theorem dX11_init_31 : decode cX11_init 31 = .ok (.iconst 3, 1) := by decide +kernel
theorem dX11_init_32 : decode cX11_init 32 = .ok (.newarray .int, 2) := by decide +kernel
theorem dX11_init_34 : decode cX11_init 34 = .ok (.putfield 24, 3) := by decide +kernel
theorem dX11_init_37 : decode cX11_init 37 = .ok (.aload_n 0, 1) := by decide +kernel
theorem dX11_init_38 : decode cX11_init 38 = .ok (.iconst 3, 1) := by decide +kernel
theorem dX11_init_39 : decode cX11_init 39 = .ok (.newarray .int, 2) := by decide +kernel
theorem dX11_init_41 : decode cX11_init 41 = .ok (.putfield 28, 3) := by decide +kernel
theorem dX11_init_44 : decode cX11_init 44 = .ok (.aload_n 0, 1) := by decide +kernel
theorem dX11_init_45 : decode cX11_init 45 = .ok (.bipush 6, 2) := by decide +kernel
theorem dX11_init_47 : decode cX11_init 47 = .ok (.newarray .int, 2) := by decide +kernel
theorem dX11_init_49 : decode cX11_init 49 = .ok (.putfield 31, 3) := by decide +kernel
theorem dX11_init_52 : decode cX11_init 52 = .ok (.aload_n 0, 1) := by decide +kernel
theorem dX11_init_53 : decode cX11_init 53 = .ok (.iconst 0, 1) := by decide +kernel
theorem dX11_init_54 : decode cX11_init 54 = .ok (.putfield 34, 3) := by decide +kernel
theorem dX11_init_57 : decode cX11_init 57 = .ok (.aload_n 0, 1) := by decide +kernel
theorem dX11_init_58 : decode cX11_init 58 = .ok (.iconst 0, 1) := by decide +kernel
theorem dX11_init_59 : decode cX11_init 59 = .ok (.putfield 38, 3) := by decide +kernel
theorem dX11_init_62 : decode cX11_init 62 = .ok (.aload_n 0, 1) := by decide +kernel
theorem dX11_init_63 : decode cX11_init 63 = .ok (.iconst 0, 1) := by decide +kernel
theorem dX11_init_64 : decode cX11_init 64 = .ok (.putfield 41, 3) := by decide +kernel
theorem dX11_init_67 : decode cX11_init 67 = .ok (.aload_n 0, 1) := by decide +kernel
theorem dX11_init_68 : decode cX11_init 68 = .ok (.iconst 0, 1) := by decide +kernel
theorem dX11_init_69 : decode cX11_init 69 = .ok (.putfield 44, 3) := by decide +kernel
theorem dX11_init_72 : decode cX11_init 72 = .ok (.aload_n 0, 1) := by decide +kernel
theorem dX11_init_73 : decode cX11_init 73 = .ok (.lconst 0, 1) := by decide +kernel
theorem dX11_init_74 : decode cX11_init 74 = .ok (.putfield 47, 3) := by decide +kernel
theorem dX11_init_77 : decode cX11_init 77 = .ok (.aload_n 0, 1) := by decide +kernel
theorem dX11_init_78 : decode cX11_init 78 = .ok (.lconst 1, 1) := by decide +kernel
theorem dX11_init_79 : decode cX11_init 79 = .ok (.putfield 51, 3) := by decide +kernel
theorem dX11_init_82 : decode cX11_init 82 = .ok (.aload_n 0, 1) := by decide +kernel
theorem dX11_init_83 : decode cX11_init 83 = .ok (.iconst 0, 1) := by decide +kernel
theorem dX11_init_84 : decode cX11_init 84 = .ok (.putfield 54, 3) := by decide +kernel
theorem dX11_init_87 : decode cX11_init 87 = .ok (.aload_n 0, 1) := by decide +kernel
theorem dX11_init_88 : decode cX11_init 88 = .ok (.new 57, 3) := by decide +kernel
theorem dX11_init_91 : decode cX11_init 91 = .ok (.dup, 1) := by decide +kernel
theorem dX11_init_92 : decode cX11_init 92 = .ok (.invokespecial 59, 3) := by decide +kernel
theorem dX11_init_95 : decode cX11_init 95 = .ok (.putfield 60, 3) := by decide +kernel
theorem dX11_init_98 : decode cX11_init 98 = .ok (.aload_n 0, 1) := by decide +kernel
theorem dX11_init_99 : decode cX11_init 99 = .ok (.new 18, 3) := by decide +kernel
theorem dX11_init_102 : decode cX11_init 102 = .ok (.dup, 1) := by decide +kernel
theorem dX11_init_103 : decode cX11_init 103 = .ok (.aload_n 0, 1) := by decide +kernel
theorem dX11_init_104 : decode cX11_init 104 = .ok (.getfield 60, 3) := by decide +kernel
theorem dX11_init_107 : decode cX11_init 107 = .ok (.invokespecial 64, 3) := by decide +kernel
theorem dX11_init_110 : decode cX11_init 110 = .ok (.putfield 67, 3) := by decide +kernel
theorem dX11_init_113 : decode cX11_init 113 = .ok (.aload_n 0, 1) := by decide +kernel
theorem dX11_init_114 : decode cX11_init 114 = .ok (.new 71, 3) := by decide +kernel
theorem dX11_init_117 : decode cX11_init 117 = .ok (.dup, 1) := by decide +kernel
theorem dX11_init_118 : decode cX11_init 118 = .ok (.aload_n 0, 1) := by decide +kernel
theorem dX11_init_119 : decode cX11_init 119 = .ok (.getfield 60, 3) := by decide +kernel
theorem dX11_init_122 : decode cX11_init 122 = .ok (.invokespecial 73, 3) := by decide +kernel
theorem dX11_init_125 : decode cX11_init 125 = .ok (.putfield 74, 3) := by decide +kernel
theorem dX11_init_128 : decode cX11_init 128 = .ok (.iconst 0, 1) := by decide +kernel
theorem dX11_init_129 : decode cX11_init 129 = .ok (.istore_n 1, 1) := by decide +kernel
theorem dX11_init_130 : decode cX11_init 130 = .ok (.iload_n 1, 1) := by decide +kernel
theorem dX11_init_131 : decode cX11_init 131 = .ok (.bipush 6, 2) := by decide +kernel
theorem dX11_init_133 : decode cX11_init 133 = .ok (.if_icmp .ge 22, 3) := by decide +kernel
theorem dX11_init_136 : decode cX11_init 136 = .ok (.aload_n 0, 1) := by decide +kernel
theorem dX11_init_137 : decode cX11_init 137 = .ok (.getfield 11, 3) := by decide +kernel
theorem dX11_init_140 : decode cX11_init 140 = .ok (.iload_n 1, 1) := by decide +kernel
theorem dX11_init_141 : decode cX11_init 141 = .ok (.new 9, 3) := by decide +kernel
theorem dX11_init_144 : decode cX11_init 144 = .ok (.dup, 1) := by decide +kernel
theorem dX11_init_145 : decode cX11_init 145 = .ok (.invokespecial 78, 3) := by decide +kernel
theorem dX11_init_148 : decode cX11_init 148 = .ok (.aastore, 1) := by decide +kernel
theorem dX11_init_149 : decode cX11_init 149 = .ok (.iinc 1 1, 3) := by decide +kernel
theorem dX11_init_152 : decode cX11_init 152 = .ok (.goto (-22), 3) := by decide +kernel
theorem dX11_init_155 : decode cX11_init 155 = .ok (.iconst 0, 1) := by decide +kernel
theorem dX11_init_156 : decode cX11_init 156 = .ok (.istore_n 1, 1) := by decide +kernel
theorem dX11_init_157 : decode cX11_init 157 = .ok (.iload_n 1, 1) := by decide +kernel
theorem dX11_init_158 : decode cX11_init 158 = .ok (.iconst 4, 1) := by decide +kernel
theorem dX11_init_159 : decode cX11_init 159 = .ok (.if_icmp .ge 22, 3) := by decide +kernel
theorem dX11_init_162 : decode cX11_init 162 = .ok (.aload_n 0, 1) := by decide +kernel
theorem dX11_init_163 : decode cX11_init 163 = .ok (.getfield 15, 3) := by decide +kernel
theorem dX11_init_166 : decode cX11_init 166 = .ok (.iload_n 1, 1) := by decide +kernel
theorem dX11_init_167 : decode cX11_init 167 = .ok (.new 9, 3) := by decide +kernel
theorem dX11_init_170 : decode cX11_init 170 = .ok (.dup, 1) := by decide +kernel
theorem dX11_init_171 : decode cX11_init 171 = .ok (.invokespecial 78, 3) := by decide +kernel
theorem dX11_init_174 : decode cX11_init 174 = .ok (.aastore, 1) := by decide +kernel
theorem dX11_init_175 : decode cX11_init 175 = .ok (.iinc 1 1, 3) := by decide +kernel
theorem dX11_init_178 : decode cX11_init 178 = .ok (.goto (-21), 3) := by decide +kernel
theorem dX11_init_181 : decode cX11_init 181 = .ok (.iconst 0, 1) := by decide +kernel
theorem dX11_init_182 : decode cX11_init 182 = .ok (.istore_n 1, 1) := by decide +kernel
theorem dX11_init_183 : decode cX11_init 183 = .ok (.iload_n 1, 1) := by decide +kernel
theorem dX11_init_184 : decode cX11_init 184 = .ok (.bipush 60, 2) := by decide +kernel
theorem dX11_init_186 : decode cX11_init 186 = .ok (.if_icmp .ge 26, 3) := by decide +kernel
theorem dX11_init_189 : decode cX11_init 189 = .ok (.aload_n 0, 1) := by decide +kernel
theorem dX11_init_190 : decode cX11_init 190 = .ok (.getfield 20, 3) := by decide +kernel
theorem dX11_init_193 : decode cX11_init 193 = .ok (.iload_n 1, 1) := by decide +kernel
theorem dX11_init_194 : decode cX11_init 194 = .ok (.new 18, 3) := by decide +kernel
theorem dX11_init_197 : decode cX11_init 197 = .ok (.dup, 1) := by decide +kernel
theorem dX11_init_198 : decode cX11_init 198 = .ok (.aload_n 0, 1) := by decide +kernel
theorem dX11_init_199 : decode cX11_init 199 = .ok (.getfield 60, 3) := by decide +kernel
theorem dX11_init_202 : decode cX11_init 202 = .ok (.invokespecial 64, 3) := by decide +kernel
theorem dX11_init_205 : decode cX11_init 205 = .ok (.aastore, 1) := by decide +kernel
theorem dX11_init_206 : decode cX11_init 206 = .ok (.iinc 1 1, 3) := by decide +kernel
theorem dX11_init_209 : decode cX11_init 209 = .ok (.goto (-26), 3) := by decide +kernel
theorem dX11_init_212 : decode cX11_init 212 = .ok (.aload_n 0, 1) := by decide +kernel
theorem dX11_init_213 : decode cX11_init 213 = .ok (.getfield 28, 3) := by decide +kernel
theorem dX11_init_216 : decode cX11_init 216 = .ok (.bipush (-9), 2) := by decide +kernel
theorem dX11_init_218 : decode cX11_init 218 = .ok (.invokestatic 79, 3) := by decide +kernel
theorem dX11_init_221 : decode cX11_init 221 = .ok (.return_, 1) := by decide +kernel
theorem dX11_row_0 : decode cX11_row 0 = .ok (.iload_n 1, 1) := by decide +kernel
theorem dX11_row_1 : decode cX11_row 1 = .ok (.bipush 6, 2) := by decide +kernel
theorem dX11_row_3 : decode cX11_row 3 = .ok (.invokestatic 85, 3) := by decide +kernel
theorem dX11_row_6 : decode cX11_row 6 = .ok (.ifCond .eq 9, 3) := by decide +kernel
theorem dX11_row_9 : decode cX11_row 9 = .ok (.iload_n 2, 1) := by decide +kernel
theorem dX11_row_10 : decode cX11_row 10 = .ok (.bipush 60, 2) := by decide +kernel
theorem dX11_row_12 : decode cX11_row 12 = .ok (.if_icmp .le 5, 3) := by decide +kernel
theorem dX11_row_15 : decode cX11_row 15 = .ok (.iconst (-1), 1) := by decide +kernel
theorem dX11_row_16 : decode cX11_row 16 = .ok (.ireturn, 1) := by decide +kernel
theorem dX11_row_17 : decode cX11_row 17 = .ok (.iload_n 2, 1) := by decide +kernel
theorem dX11_row_18 : decode cX11_row 18 = .ok (.ifCond .ge 9, 3) := by decide +kernel
theorem dX11_row_21 : decode cX11_row 21 = .ok (.aload_n 0, 1) := by decide +kernel
theorem dX11_row_22 : decode cX11_row 22 = .ok (.iconst 5, 1) := by decide +kernel
theorem dX11_row_23 : decode cX11_row 23 = .ok (.invokevirtual 89, 3) := by decide +kernel
theorem dX11_row_26 : decode cX11_row 26 = .ok (.ireturn, 1) := by decide +kernel
theorem dX11_row_27 : decode cX11_row 27 = .ok (.aload_n 0, 1) := by decide +kernel
theorem dX11_row_28 : decode cX11_row 28 = .ok (.getfield 11, 3) := by decide +kernel
theorem dX11_row_31 : decode cX11_row 31 = .ok (.iload_n 1, 1) := by decide +kernel
theorem dX11_row_32 : decode cX11_row 32 = .ok (.aaload, 1) := by decide +kernel
theorem dX11_row_33 : decode cX11_row 33 = .ok (.iload_n 2, 1) := by decide +kernel
theorem dX11_row_34 : decode cX11_row 34 = .ok (.iconst 0, 1) := by decide +kernel
theorem dX11_row_35 : decode cX11_row 35 = .ok (.invokevirtual 93, 3) := by decide +kernel
theorem dX11_row_38 : decode cX11_row 38 = .ok (.iload_n 2, 1) := by decide +kernel
theorem dX11_row_39 : decode cX11_row 39 = .ok (.ireturn, 1) := by decide +kernel
theorem dX11_lay_0 : decode cX11_lay 0 = .ok (.aload_n 0, 1) := by decide +kernel
theorem dX11_lay_1 : decode cX11_lay 1 = .ok (.aload_n 0, 1) := by decide +kernel
theorem dX11_lay_2 : decode cX11_lay 2 = .ok (.getfield 11, 3) := by decide +kernel
theorem dX11_lay_5 : decode cX11_lay 5 = .ok (.iload_n 1, 1) := by decide +kernel
theorem dX11_lay_6 : decode cX11_lay 6 = .ok (.iload_n 2, 1) := by decide +kernel
theorem dX11_lay_7 : decode cX11_lay 7 = .ok (.invokevirtual 97, 3) := by decide +kernel
theorem dX11_lay_10 : decode cX11_lay 10 = .ok (.istore 4, 2) := by decide +kernel
theorem dX11_lay_12 : decode cX11_lay 12 = .ok (.iload 4, 2) := by decide +kernel
theorem dX11_lay_14 : decode cX11_lay 14 = .ok (.ifCond .eq 6, 3) := by decide +kernel
theorem dX11_lay_17 : decode cX11_lay 17 = .ok (.iload 4, 2) := by decide +kernel
theorem dX11_lay_19 : decode cX11_lay 19 = .ok (.ireturn, 1) := by decide +kernel
theorem dX11_lay_20 : decode cX11_lay 20 = .ok (.aload_n 0, 1) := by decide +kernel
theorem dX11_lay_21 : decode cX11_lay 21 = .ok (.aload_n 0, 1) := by decide +kernel
theorem dX11_lay_22 : decode cX11_lay 22 = .ok (.getfield 11, 3) := by decide +kernel
theorem dX11_lay_25 : decode cX11_lay 25 = .ok (.iload_n 1, 1) := by decide +kernel
theorem dX11_lay_26 : decode cX11_lay 26 = .ok (.aaload, 1) := by decide +kernel
theorem dX11_lay_27 : decode cX11_lay 27 = .ok (.iload_n 2, 1) := by decide +kernel
theorem dX11_lay_28 : decode cX11_lay 28 = .ok (.invokevirtual 101, 3) := by decide +kernel
theorem dX11_lay_31 : decode cX11_lay 31 = .ok (.putfield 44, 3) := by decide +kernel
theorem dX11_lay_34 : decode cX11_lay 34 = .ok (.aload_n 0, 1) := by decide +kernel
theorem dX11_lay_35 : decode cX11_lay 35 = .ok (.getfield 11, 3) := by decide +kernel
theorem dX11_lay_38 : decode cX11_lay 38 = .ok (.iload_n 1, 1) := by decide +kernel
theorem dX11_lay_39 : decode cX11_lay 39 = .ok (.aaload, 1) := by decide +kernel
theorem dX11_lay_40 : decode cX11_lay 40 = .ok (.iload_n 2, 1) := by decide +kernel
theorem dX11_lay_41 : decode cX11_lay 41 = .ok (.iload_n 3, 1) := by decide +kernel
theorem dX11_lay_42 : decode cX11_lay 42 = .ok (.invokevirtual 104, 3) := by decide +kernel
theorem dX11_lay_45 : decode cX11_lay 45 = .ok (.iconst 1, 1) := by decide +kernel
theorem dX11_lay_46 : decode cX11_lay 46 = .ok (.ireturn, 1) := by decide +kernel
theorem dX11_at_0 : decode cX11_at 0 = .ok (.aload_n 0, 1) := by decide +kernel
theorem dX11_at_1 : decode cX11_at 1 = .ok (.aload_n 0, 1) := by decide +kernel
theorem dX11_at_2 : decode cX11_at 2 = .ok (.getfield 11, 3) := by decide +kernel
theorem dX11_at_5 : decode cX11_at 5 = .ok (.iload_n 1, 1) := by decide +kernel
theorem dX11_at_6 : decode cX11_at 6 = .ok (.iload_n 2, 1) := by decide +kernel
theorem dX11_at_7 : decode cX11_at 7 = .ok (.invokevirtual 97, 3) := by decide +kernel
theorem dX11_at_10 : decode cX11_at 10 = .ok (.istore_n 3, 1) := by decide +kernel
theorem dX11_at_11 : decode cX11_at 11 = .ok (.iload_n 3, 1) := by decide +kernel
theorem dX11_at_12 : decode cX11_at 12 = .ok (.ifCond .eq 5, 3) := by decide +kernel
theorem dX11_at_15 : decode cX11_at 15 = .ok (.iload_n 3, 1) := by decide +kernel
theorem dX11_at_16 : decode cX11_at 16 = .ok (.ireturn, 1) := by decide +kernel
theorem dX11_at_17 : decode cX11_at 17 = .ok (.aload_n 0, 1) := by decide +kernel
theorem dX11_at_18 : decode cX11_at 18 = .ok (.aload_n 0, 1) := by decide +kernel
theorem dX11_at_19 : decode cX11_at 19 = .ok (.getfield 11, 3) := by decide +kernel
theorem dX11_at_22 : decode cX11_at 22 = .ok (.iload_n 1, 1) := by decide +kernel
theorem dX11_at_23 : decode cX11_at 23 = .ok (.aaload, 1) := by decide +kernel
theorem dX11_at_24 : decode cX11_at 24 = .ok (.iload_n 2, 1) := by decide +kernel
theorem dX11_at_25 : decode cX11_at 25 = .ok (.invokevirtual 101, 3) := by decide +kernel
theorem dX11_at_28 : decode cX11_at 28 = .ok (.putfield 44, 3) := by decide +kernel
theorem dX11_at_31 : decode cX11_at 31 = .ok (.iconst 1, 1) := by decide +kernel
theorem dX11_at_32 : decode cX11_at 32 = .ok (.ireturn, 1) := by decide +kernel
theorem dX11_tear_0 : decode cX11_tear 0 = .ok (.aload_n 0, 1) := by decide +kernel
theorem dX11_tear_1 : decode cX11_tear 1 = .ok (.aload_n 0, 1) := by decide +kernel
theorem dX11_tear_2 : decode cX11_tear 2 = .ok (.getfield 11, 3) := by decide +kernel
theorem dX11_tear_5 : decode cX11_tear 5 = .ok (.iload_n 1, 1) := by decide +kernel
theorem dX11_tear_6 : decode cX11_tear 6 = .ok (.invokevirtual 107, 3) := by decide +kernel
theorem dX11_tear_9 : decode cX11_tear 9 = .ok (.istore_n 2, 1) := by decide +kernel
theorem dX11_tear_10 : decode cX11_tear 10 = .ok (.iload_n 2, 1) := by decide +kernel
theorem dX11_tear_11 : decode cX11_tear 11 = .ok (.ifCond .eq 5, 3) := by decide +kernel
theorem dX11_tear_14 : decode cX11_tear 14 = .ok (.iload_n 2, 1) := by decide +kernel
theorem dX11_tear_15 : decode cX11_tear 15 = .ok (.ireturn, 1) := by decide +kernel
theorem dX11_tear_16 : decode cX11_tear 16 = .ok (.aload_n 0, 1) := by decide +kernel
theorem dX11_tear_17 : decode cX11_tear 17 = .ok (.getfield 11, 3) := by decide +kernel
theorem dX11_tear_20 : decode cX11_tear 20 = .ok (.iload_n 1, 1) := by decide +kernel
theorem dX11_tear_21 : decode cX11_tear 21 = .ok (.aaload, 1) := by decide +kernel
theorem dX11_tear_22 : decode cX11_tear 22 = .ok (.invokevirtual 111, 3) := by decide +kernel
theorem dX11_tear_25 : decode cX11_tear 25 = .ok (.iconst 1, 1) := by decide +kernel
theorem dX11_tear_26 : decode cX11_tear 26 = .ok (.ireturn, 1) := by decide +kernel
theorem dX11_copy_0 : decode cX11_copy 0 = .ok (.iload_n 1, 1) := by decide +kernel
theorem dX11_copy_1 : decode cX11_copy 1 = .ok (.bipush 6, 2) := by decide +kernel
theorem dX11_copy_3 : decode cX11_copy 3 = .ok (.invokestatic 85, 3) := by decide +kernel
theorem dX11_copy_6 : decode cX11_copy 6 = .ok (.ifCond .eq 12, 3) := by decide +kernel
theorem dX11_copy_9 : decode cX11_copy 9 = .ok (.iload_n 3, 1) := by decide +kernel
theorem dX11_copy_10 : decode cX11_copy 10 = .ok (.bipush 6, 2) := by decide +kernel
theorem dX11_copy_12 : decode cX11_copy 12 = .ok (.invokestatic 85, 3) := by decide +kernel
theorem dX11_copy_15 : decode cX11_copy 15 = .ok (.ifCond .ne 5, 3) := by decide +kernel
theorem dX11_copy_18 : decode cX11_copy 18 = .ok (.iconst (-1), 1) := by decide +kernel
theorem dX11_copy_19 : decode cX11_copy 19 = .ok (.ireturn, 1) := by decide +kernel
theorem dX11_copy_20 : decode cX11_copy 20 = .ok (.iload 5, 2) := by decide +kernel
theorem dX11_copy_22 : decode cX11_copy 22 = .ok (.ifCond .ge 9, 3) := by decide +kernel
theorem dX11_copy_25 : decode cX11_copy 25 = .ok (.aload_n 0, 1) := by decide +kernel
theorem dX11_copy_26 : decode cX11_copy 26 = .ok (.iconst 5, 1) := by decide +kernel
theorem dX11_copy_27 : decode cX11_copy 27 = .ok (.invokevirtual 89, 3) := by decide +kernel
theorem dX11_copy_30 : decode cX11_copy 30 = .ok (.ireturn, 1) := by decide +kernel
theorem dX11_copy_31 : decode cX11_copy 31 = .ok (.aload_n 0, 1) := by decide +kernel
theorem dX11_copy_32 : decode cX11_copy 32 = .ok (.getfield 11, 3) := by decide +kernel
theorem dX11_copy_35 : decode cX11_copy 35 = .ok (.iload_n 1, 1) := by decide +kernel
theorem dX11_copy_36 : decode cX11_copy 36 = .ok (.aaload, 1) := by decide +kernel
theorem dX11_copy_37 : decode cX11_copy 37 = .ok (.invokevirtual 114, 3) := by decide +kernel
theorem dX11_copy_40 : decode cX11_copy 40 = .ok (.ifCond .ne 15, 3) := by decide +kernel
theorem dX11_copy_43 : decode cX11_copy 43 = .ok (.aload_n 0, 1) := by decide +kernel
theorem dX11_copy_44 : decode cX11_copy 44 = .ok (.getfield 11, 3) := by decide +kernel
theorem dX11_copy_47 : decode cX11_copy 47 = .ok (.iload_n 3, 1) := by decide +kernel
theorem dX11_copy_48 : decode cX11_copy 48 = .ok (.aaload, 1) := by decide +kernel
theorem dX11_copy_49 : decode cX11_copy 49 = .ok (.invokevirtual 114, 3) := by decide +kernel
theorem dX11_copy_52 : decode cX11_copy 52 = .ok (.ifCond .eq 9, 3) := by decide +kernel
theorem dX11_copy_55 : decode cX11_copy 55 = .ok (.aload_n 0, 1) := by decide +kernel
theorem dX11_copy_56 : decode cX11_copy 56 = .ok (.iconst 1, 1) := by decide +kernel
theorem dX11_copy_57 : decode cX11_copy 57 = .ok (.invokevirtual 89, 3) := by decide +kernel
theorem dX11_copy_60 : decode cX11_copy 60 = .ok (.ireturn, 1) := by decide +kernel
theorem dX11_copy_61 : decode cX11_copy 61 = .ok (.aload_n 0, 1) := by decide +kernel
theorem dX11_copy_62 : decode cX11_copy 62 = .ok (.getfield 11, 3) := by decide +kernel
theorem dX11_copy_65 : decode cX11_copy 65 = .ok (.iload_n 1, 1) := by decide +kernel
theorem dX11_copy_66 : decode cX11_copy 66 = .ok (.aaload, 1) := by decide +kernel
theorem dX11_copy_67 : decode cX11_copy 67 = .ok (.iload_n 2, 1) := by decide +kernel
theorem dX11_copy_68 : decode cX11_copy 68 = .ok (.iload 5, 2) := by decide +kernel
theorem dX11_copy_70 : decode cX11_copy 70 = .ok (.invokevirtual 118, 3) := by decide +kernel
theorem dX11_copy_73 : decode cX11_copy 73 = .ok (.ifCond .eq 19, 3) := by decide +kernel
theorem dX11_copy_76 : decode cX11_copy 76 = .ok (.aload_n 0, 1) := by decide +kernel
theorem dX11_copy_77 : decode cX11_copy 77 = .ok (.getfield 11, 3) := by decide +kernel
theorem dX11_copy_80 : decode cX11_copy 80 = .ok (.iload_n 3, 1) := by decide +kernel
theorem dX11_copy_81 : decode cX11_copy 81 = .ok (.aaload, 1) := by decide +kernel
theorem dX11_copy_82 : decode cX11_copy 82 = .ok (.iload 4, 2) := by decide +kernel
theorem dX11_copy_84 : decode cX11_copy 84 = .ok (.iload 5, 2) := by decide +kernel
theorem dX11_copy_86 : decode cX11_copy 86 = .ok (.invokevirtual 118, 3) := by decide +kernel
theorem dX11_copy_89 : decode cX11_copy 89 = .ok (.ifCond .ne 9, 3) := by decide +kernel
theorem dX11_copy_92 : decode cX11_copy 92 = .ok (.aload_n 0, 1) := by decide +kernel
theorem dX11_copy_93 : decode cX11_copy 93 = .ok (.iconst 2, 1) := by decide +kernel
theorem dX11_copy_94 : decode cX11_copy 94 = .ok (.invokevirtual 89, 3) := by decide +kernel
theorem dX11_copy_97 : decode cX11_copy 97 = .ok (.ireturn, 1) := by decide +kernel
theorem dX11_copy_98 : decode cX11_copy 98 = .ok (.aload_n 0, 1) := by decide +kernel
theorem dX11_copy_99 : decode cX11_copy 99 = .ok (.getfield 11, 3) := by decide +kernel
theorem dX11_copy_102 : decode cX11_copy 102 = .ok (.iload_n 1, 1) := by decide +kernel
theorem dX11_copy_103 : decode cX11_copy 103 = .ok (.aaload, 1) := by decide +kernel
theorem dX11_copy_104 : decode cX11_copy 104 = .ok (.getfield 121, 3) := by decide +kernel
theorem dX11_copy_107 : decode cX11_copy 107 = .ok (.iload_n 2, 1) := by decide +kernel
theorem dX11_copy_108 : decode cX11_copy 108 = .ok (.aload_n 0, 1) := by decide +kernel
theorem dX11_copy_109 : decode cX11_copy 109 = .ok (.getfield 11, 3) := by decide +kernel
theorem dX11_copy_112 : decode cX11_copy 112 = .ok (.iload_n 3, 1) := by decide +kernel
theorem dX11_copy_113 : decode cX11_copy 113 = .ok (.aaload, 1) := by decide +kernel
theorem dX11_copy_114 : decode cX11_copy 114 = .ok (.getfield 121, 3) := by decide +kernel
theorem dX11_copy_117 : decode cX11_copy 117 = .ok (.iload 4, 2) := by decide +kernel
theorem dX11_copy_119 : decode cX11_copy 119 = .ok (.iload 5, 2) := by decide +kernel
theorem dX11_copy_121 : decode cX11_copy 121 = .ok (.invokestatic 124, 3) := by decide +kernel
theorem dX11_copy_124 : decode cX11_copy 124 = .ok (.iconst 1, 1) := by decide +kernel
theorem dX11_copy_125 : decode cX11_copy 125 = .ok (.ireturn, 1) := by decide +kernel
theorem dX11_mean_0 : decode cX11_mean 0 = .ok (.aload_n 0, 1) := by decide +kernel
theorem dX11_mean_1 : decode cX11_mean 1 = .ok (.aload_n 0, 1) := by decide +kernel
theorem dX11_mean_2 : decode cX11_mean 2 = .ok (.getfield 11, 3) := by decide +kernel
theorem dX11_mean_5 : decode cX11_mean 5 = .ok (.iload_n 1, 1) := by decide +kernel
theorem dX11_mean_6 : decode cX11_mean 6 = .ok (.invokevirtual 107, 3) := by decide +kernel
theorem dX11_mean_9 : decode cX11_mean 9 = .ok (.istore_n 2, 1) := by decide +kernel
theorem dX11_mean_10 : decode cX11_mean 10 = .ok (.iload_n 2, 1) := by decide +kernel
theorem dX11_mean_11 : decode cX11_mean 11 = .ok (.ifCond .eq 5, 3) := by decide +kernel
theorem dX11_mean_14 : decode cX11_mean 14 = .ok (.iload_n 2, 1) := by decide +kernel
theorem dX11_mean_15 : decode cX11_mean 15 = .ok (.ireturn, 1) := by decide +kernel
theorem dX11_mean_16 : decode cX11_mean 16 = .ok (.aload_n 0, 1) := by decide +kernel
theorem dX11_mean_17 : decode cX11_mean 17 = .ok (.getfield 11, 3) := by decide +kernel
theorem dX11_mean_20 : decode cX11_mean 20 = .ok (.iload_n 1, 1) := by decide +kernel
theorem dX11_mean_21 : decode cX11_mean 21 = .ok (.aaload, 1) := by decide +kernel
theorem dX11_mean_22 : decode cX11_mean 22 = .ok (.astore_n 3, 1) := by decide +kernel
theorem dX11_mean_23 : decode cX11_mean 23 = .ok (.aload_n 3, 1) := by decide +kernel
theorem dX11_mean_24 : decode cX11_mean 24 = .ok (.getfield 130, 3) := by decide +kernel
theorem dX11_mean_27 : decode cX11_mean 27 = .ok (.ifCond .ne 9, 3) := by decide +kernel
theorem dX11_mean_30 : decode cX11_mean 30 = .ok (.aload_n 0, 1) := by decide +kernel
theorem dX11_mean_31 : decode cX11_mean 31 = .ok (.iconst 4, 1) := by decide +kernel
theorem dX11_mean_32 : decode cX11_mean 32 = .ok (.invokevirtual 89, 3) := by decide +kernel
theorem dX11_mean_35 : decode cX11_mean 35 = .ok (.ireturn, 1) := by decide +kernel
theorem dX11_mean_36 : decode cX11_mean 36 = .ok (.lconst 0, 1) := by decide +kernel
theorem dX11_mean_37 : decode cX11_mean 37 = .ok (.lstore 4, 2) := by decide +kernel
theorem dX11_mean_39 : decode cX11_mean 39 = .ok (.iconst 0, 1) := by decide +kernel
theorem dX11_mean_40 : decode cX11_mean 40 = .ok (.istore 6, 2) := by decide +kernel
theorem dX11_mean_42 : decode cX11_mean 42 = .ok (.iload 6, 2) := by decide +kernel
theorem dX11_mean_44 : decode cX11_mean 44 = .ok (.aload_n 3, 1) := by decide +kernel
theorem dX11_mean_45 : decode cX11_mean 45 = .ok (.getfield 130, 3) := by decide +kernel
theorem dX11_mean_48 : decode cX11_mean 48 = .ok (.if_icmp .ge 21, 3) := by decide +kernel
theorem dX11_mean_51 : decode cX11_mean 51 = .ok (.lload 4, 2) := by decide +kernel
theorem dX11_mean_53 : decode cX11_mean 53 = .ok (.aload_n 3, 1) := by decide +kernel
theorem dX11_mean_54 : decode cX11_mean 54 = .ok (.iload 6, 2) := by decide +kernel
theorem dX11_mean_56 : decode cX11_mean 56 = .ok (.invokevirtual 101, 3) := by decide +kernel
theorem dX11_mean_59 : decode cX11_mean 59 = .ok (.i2l, 1) := by decide +kernel
theorem dX11_mean_60 : decode cX11_mean 60 = .ok (.ladd, 1) := by decide +kernel
theorem dX11_mean_61 : decode cX11_mean 61 = .ok (.lstore 4, 2) := by decide +kernel
theorem dX11_mean_63 : decode cX11_mean 63 = .ok (.iinc 6 1, 3) := by decide +kernel
theorem dX11_mean_66 : decode cX11_mean 66 = .ok (.goto (-24), 3) := by decide +kernel
theorem dX11_mean_69 : decode cX11_mean 69 = .ok (.aload_n 0, 1) := by decide +kernel
theorem dX11_mean_70 : decode cX11_mean 70 = .ok (.lload 4, 2) := by decide +kernel
theorem dX11_mean_72 : decode cX11_mean 72 = .ok (.aload_n 3, 1) := by decide +kernel
theorem dX11_mean_73 : decode cX11_mean 73 = .ok (.getfield 130, 3) := by decide +kernel
theorem dX11_mean_76 : decode cX11_mean 76 = .ok (.i2l, 1) := by decide +kernel
theorem dX11_mean_77 : decode cX11_mean 77 = .ok (.ldiv, 1) := by decide +kernel
theorem dX11_mean_78 : decode cX11_mean 78 = .ok (.l2i, 1) := by decide +kernel
theorem dX11_mean_79 : decode cX11_mean 79 = .ok (.putfield 44, 3) := by decide +kernel
theorem dX11_mean_82 : decode cX11_mean 82 = .ok (.iconst 1, 1) := by decide +kernel
theorem dX11_mean_83 : decode cX11_mean 83 = .ok (.ireturn, 1) := by decide +kernel
theorem dX11_text_0 : decode cX11_text 0 = .ok (.iload_n 1, 1) := by decide +kernel
theorem dX11_text_1 : decode cX11_text 1 = .ok (.iconst 4, 1) := by decide +kernel
theorem dX11_text_2 : decode cX11_text 2 = .ok (.invokestatic 85, 3) := by decide +kernel
theorem dX11_text_5 : decode cX11_text 5 = .ok (.ifCond .eq 9, 3) := by decide +kernel
theorem dX11_text_8 : decode cX11_text 8 = .ok (.iload_n 2, 1) := by decide +kernel
theorem dX11_text_9 : decode cX11_text 9 = .ok (.bipush 60, 2) := by decide +kernel
theorem dX11_text_11 : decode cX11_text 11 = .ok (.if_icmp .le 5, 3) := by decide +kernel
theorem dX11_text_14 : decode cX11_text 14 = .ok (.iconst (-1), 1) := by decide +kernel
theorem dX11_text_15 : decode cX11_text 15 = .ok (.ireturn, 1) := by decide +kernel
theorem dX11_text_16 : decode cX11_text 16 = .ok (.iload_n 2, 1) := by decide +kernel
theorem dX11_text_17 : decode cX11_text 17 = .ok (.ifCond .ge 9, 3) := by decide +kernel
theorem dX11_text_20 : decode cX11_text 20 = .ok (.aload_n 0, 1) := by decide +kernel
theorem dX11_text_21 : decode cX11_text 21 = .ok (.iconst 5, 1) := by decide +kernel
theorem dX11_text_22 : decode cX11_text 22 = .ok (.invokevirtual 89, 3) := by decide +kernel
theorem dX11_text_25 : decode cX11_text 25 = .ok (.ireturn, 1) := by decide +kernel
theorem dX11_text_26 : decode cX11_text 26 = .ok (.aload_n 0, 1) := by decide +kernel
theorem dX11_text_27 : decode cX11_text 27 = .ok (.getfield 15, 3) := by decide +kernel
theorem dX11_text_30 : decode cX11_text 30 = .ok (.iload_n 1, 1) := by decide +kernel
theorem dX11_text_31 : decode cX11_text 31 = .ok (.aaload, 1) := by decide +kernel
theorem dX11_text_32 : decode cX11_text 32 = .ok (.iload_n 2, 1) := by decide +kernel
theorem dX11_text_33 : decode cX11_text 33 = .ok (.bipush 32, 2) := by decide +kernel
theorem dX11_text_35 : decode cX11_text 35 = .ok (.invokevirtual 93, 3) := by decide +kernel
theorem dX11_text_38 : decode cX11_text 38 = .ok (.iload_n 2, 1) := by decide +kernel
theorem dX11_text_39 : decode cX11_text 39 = .ok (.ireturn, 1) := by decide +kernel
theorem dX11_put_0 : decode cX11_put 0 = .ok (.aload_n 0, 1) := by decide +kernel
theorem dX11_put_1 : decode cX11_put 1 = .ok (.aload_n 0, 1) := by decide +kernel
theorem dX11_put_2 : decode cX11_put 2 = .ok (.getfield 15, 3) := by decide +kernel
theorem dX11_put_5 : decode cX11_put 5 = .ok (.iload_n 1, 1) := by decide +kernel
theorem dX11_put_6 : decode cX11_put 6 = .ok (.iload_n 2, 1) := by decide +kernel
theorem dX11_put_7 : decode cX11_put 7 = .ok (.invokevirtual 97, 3) := by decide +kernel
theorem dX11_put_10 : decode cX11_put 10 = .ok (.istore 4, 2) := by decide +kernel
theorem dX11_put_12 : decode cX11_put 12 = .ok (.iload 4, 2) := by decide +kernel
theorem dX11_put_14 : decode cX11_put 14 = .ok (.ifCond .eq 6, 3) := by decide +kernel
theorem dX11_put_17 : decode cX11_put 17 = .ok (.iload 4, 2) := by decide +kernel
theorem dX11_put_19 : decode cX11_put 19 = .ok (.ireturn, 1) := by decide +kernel
theorem dX11_put_20 : decode cX11_put 20 = .ok (.aload_n 0, 1) := by decide +kernel
theorem dX11_put_21 : decode cX11_put 21 = .ok (.getfield 15, 3) := by decide +kernel
theorem dX11_put_24 : decode cX11_put 24 = .ok (.iload_n 1, 1) := by decide +kernel
theorem dX11_put_25 : decode cX11_put 25 = .ok (.aaload, 1) := by decide +kernel
theorem dX11_put_26 : decode cX11_put 26 = .ok (.iload_n 2, 1) := by decide +kernel
theorem dX11_put_27 : decode cX11_put 27 = .ok (.invokevirtual 101, 3) := by decide +kernel
theorem dX11_put_30 : decode cX11_put 30 = .ok (.istore 5, 2) := by decide +kernel
theorem dX11_put_32 : decode cX11_put 32 = .ok (.aload_n 0, 1) := by decide +kernel
theorem dX11_put_33 : decode cX11_put 33 = .ok (.getfield 15, 3) := by decide +kernel
theorem dX11_put_36 : decode cX11_put 36 = .ok (.iload_n 1, 1) := by decide +kernel
theorem dX11_put_37 : decode cX11_put 37 = .ok (.aaload, 1) := by decide +kernel
theorem dX11_put_38 : decode cX11_put 38 = .ok (.iload_n 2, 1) := by decide +kernel
theorem dX11_put_39 : decode cX11_put 39 = .ok (.iload_n 3, 1) := by decide +kernel
theorem dX11_put_40 : decode cX11_put 40 = .ok (.i2b, 1) := by decide +kernel
theorem dX11_put_41 : decode cX11_put 41 = .ok (.invokevirtual 104, 3) := by decide +kernel
theorem dX11_put_44 : decode cX11_put 44 = .ok (.iload 5, 2) := by decide +kernel
theorem dX11_put_46 : decode cX11_put 46 = .ok (.sipush 1000, 3) := by decide +kernel
theorem dX11_put_49 : decode cX11_put 49 = .ok (.iadd, 1) := by decide +kernel
theorem dX11_put_50 : decode cX11_put 50 = .ok (.ireturn, 1) := by decide +kernel
theorem dX11_fault_0 : decode cX11_fault 0 = .ok (.aload_n 0, 1) := by decide +kernel
theorem dX11_fault_1 : decode cX11_fault 1 = .ok (.aload_n 0, 1) := by decide +kernel
theorem dX11_fault_2 : decode cX11_fault 2 = .ok (.getfield 15, 3) := by decide +kernel
theorem dX11_fault_5 : decode cX11_fault 5 = .ok (.iload_n 1, 1) := by decide +kernel
theorem dX11_fault_6 : decode cX11_fault 6 = .ok (.invokevirtual 107, 3) := by decide +kernel
theorem dX11_fault_9 : decode cX11_fault 9 = .ok (.istore_n 2, 1) := by decide +kernel
theorem dX11_fault_10 : decode cX11_fault 10 = .ok (.iload_n 2, 1) := by decide +kernel
theorem dX11_fault_11 : decode cX11_fault 11 = .ok (.ifCond .eq 5, 3) := by decide +kernel
theorem dX11_fault_14 : decode cX11_fault 14 = .ok (.iload_n 2, 1) := by decide +kernel
theorem dX11_fault_15 : decode cX11_fault 15 = .ok (.ireturn, 1) := by decide +kernel
theorem dX11_fault_16 : decode cX11_fault 16 = .ok (.new 133, 3) := by decide +kernel
theorem dX11_fault_19 : decode cX11_fault 19 = .ok (.dup, 1) := by decide +kernel
theorem dX11_fault_20 : decode cX11_fault 20 = .ok (.aload_n 0, 1) := by decide +kernel
theorem dX11_fault_21 : decode cX11_fault 21 = .ok (.getfield 15, 3) := by decide +kernel
theorem dX11_fault_24 : decode cX11_fault 24 = .ok (.iload_n 1, 1) := by decide +kernel
theorem dX11_fault_25 : decode cX11_fault 25 = .ok (.aaload, 1) := by decide +kernel
theorem dX11_fault_26 : decode cX11_fault 26 = .ok (.invokespecial 135, 3) := by decide +kernel
theorem dX11_fault_29 : decode cX11_fault 29 = .ok (.invokevirtual 138, 3) := by decide +kernel
theorem dX11_fault_32 : decode cX11_fault 32 = .ok (.ireturn, 1) := by decide +kernel
theorem dX11_road_0 : decode cX11_road 0 = .ok (.aload_n 0, 1) := by decide +kernel
theorem dX11_road_1 : decode cX11_road 1 = .ok (.aload_n 0, 1) := by decide +kernel
theorem dX11_road_2 : decode cX11_road 2 = .ok (.getfield 15, 3) := by decide +kernel
theorem dX11_road_5 : decode cX11_road 5 = .ok (.iload_n 1, 1) := by decide +kernel
theorem dX11_road_6 : decode cX11_road 6 = .ok (.invokevirtual 107, 3) := by decide +kernel
theorem dX11_road_9 : decode cX11_road 9 = .ok (.istore_n 2, 1) := by decide +kernel
theorem dX11_road_10 : decode cX11_road 10 = .ok (.iload_n 2, 1) := by decide +kernel
theorem dX11_road_11 : decode cX11_road 11 = .ok (.ifCond .eq 5, 3) := by decide +kernel
theorem dX11_road_14 : decode cX11_road 14 = .ok (.iload_n 2, 1) := by decide +kernel
theorem dX11_road_15 : decode cX11_road 15 = .ok (.ireturn, 1) := by decide +kernel
theorem dX11_road_16 : decode cX11_road 16 = .ok (.new 133, 3) := by decide +kernel
theorem dX11_road_19 : decode cX11_road 19 = .ok (.dup, 1) := by decide +kernel
theorem dX11_road_20 : decode cX11_road 20 = .ok (.aload_n 0, 1) := by decide +kernel
theorem dX11_road_21 : decode cX11_road 21 = .ok (.getfield 15, 3) := by decide +kernel
theorem dX11_road_24 : decode cX11_road 24 = .ok (.iload_n 1, 1) := by decide +kernel
theorem dX11_road_25 : decode cX11_road 25 = .ok (.aaload, 1) := by decide +kernel
theorem dX11_road_26 : decode cX11_road 26 = .ok (.invokespecial 135, 3) := by decide +kernel
theorem dX11_road_29 : decode cX11_road 29 = .ok (.astore_n 3, 1) := by decide +kernel
theorem dX11_road_30 : decode cX11_road 30 = .ok (.aload_n 3, 1) := by decide +kernel
theorem dX11_road_31 : decode cX11_road 31 = .ok (.invokevirtual 138, 3) := by decide +kernel
theorem dX11_road_34 : decode cX11_road 34 = .ok (.bipush (-9), 2) := by decide +kernel
theorem dX11_road_36 : decode cX11_road 36 = .ok (.if_icmp .eq 6, 3) := by decide +kernel
theorem dX11_road_39 : decode cX11_road 39 = .ok (.bipush (-4), 2) := by decide +kernel
theorem dX11_road_41 : decode cX11_road 41 = .ok (.ireturn, 1) := by decide +kernel
theorem dX11_road_42 : decode cX11_road 42 = .ok (.aload_n 0, 1) := by decide +kernel
theorem dX11_road_43 : decode cX11_road 43 = .ok (.aload_n 3, 1) := by decide +kernel
theorem dX11_road_44 : decode cX11_road 44 = .ok (.getfield 142, 3) := by decide +kernel
theorem dX11_road_47 : decode cX11_road 47 = .ok (.putfield 60, 3) := by decide +kernel
theorem dX11_road_50 : decode cX11_road 50 = .ok (.aload_n 0, 1) := by decide +kernel
theorem dX11_road_51 : decode cX11_road 51 = .ok (.aload_n 0, 1) := by decide +kernel
theorem dX11_road_52 : decode cX11_road 52 = .ok (.getfield 60, 3) := by decide +kernel
theorem dX11_road_55 : decode cX11_road 55 = .ok (.getfield 143, 3) := by decide +kernel
theorem dX11_road_58 : decode cX11_road 58 = .ok (.putfield 34, 3) := by decide +kernel
theorem dX11_road_61 : decode cX11_road 61 = .ok (.aload_n 0, 1) := by decide +kernel
theorem dX11_road_62 : decode cX11_road 62 = .ok (.iconst 0, 1) := by decide +kernel
theorem dX11_road_63 : decode cX11_road 63 = .ok (.putfield 38, 3) := by decide +kernel
theorem dX11_road_66 : decode cX11_road 66 = .ok (.aload_n 0, 1) := by decide +kernel
theorem dX11_road_67 : decode cX11_road 67 = .ok (.iconst 0, 1) := by decide +kernel
theorem dX11_road_68 : decode cX11_road 68 = .ok (.putfield 41, 3) := by decide +kernel
theorem dX11_road_71 : decode cX11_road 71 = .ok (.aload_n 0, 1) := by decide +kernel
theorem dX11_road_72 : decode cX11_road 72 = .ok (.getfield 28, 3) := by decide +kernel
theorem dX11_road_75 : decode cX11_road 75 = .ok (.bipush (-9), 2) := by decide +kernel
theorem dX11_road_77 : decode cX11_road 77 = .ok (.invokestatic 79, 3) := by decide +kernel
theorem dX11_road_80 : decode cX11_road 80 = .ok (.aload_n 0, 1) := by decide +kernel
theorem dX11_road_81 : decode cX11_road 81 = .ok (.getfield 60, 3) := by decide +kernel
theorem dX11_road_84 : decode cX11_road 84 = .ok (.getfield 146, 3) := by decide +kernel
theorem dX11_road_87 : decode cX11_road 87 = .ok (.ireturn, 1) := by decide +kernel
theorem dX11_stone_0 : decode cX11_stone 0 = .ok (.iload_n 1, 1) := by decide +kernel
theorem dX11_stone_1 : decode cX11_stone 1 = .ok (.aload_n 0, 1) := by decide +kernel
theorem dX11_stone_2 : decode cX11_stone 2 = .ok (.getfield 60, 3) := by decide +kernel
theorem dX11_stone_5 : decode cX11_stone 5 = .ok (.getfield 146, 3) := by decide +kernel
theorem dX11_stone_8 : decode cX11_stone 8 = .ok (.invokestatic 85, 3) := by decide +kernel
theorem dX11_stone_11 : decode cX11_stone 11 = .ok (.ifCond .eq 11, 3) := by decide +kernel
theorem dX11_stone_14 : decode cX11_stone 14 = .ok (.iload_n 2, 1) := by decide +kernel
theorem dX11_stone_15 : decode cX11_stone 15 = .ok (.iconst 4, 1) := by decide +kernel
theorem dX11_stone_16 : decode cX11_stone 16 = .ok (.invokestatic 85, 3) := by decide +kernel
theorem dX11_stone_19 : decode cX11_stone 19 = .ok (.ifCond .ne 5, 3) := by decide +kernel
theorem dX11_stone_22 : decode cX11_stone 22 = .ok (.iconst (-1), 1) := by decide +kernel
theorem dX11_stone_23 : decode cX11_stone 23 = .ok (.ireturn, 1) := by decide +kernel
theorem dX11_stone_24 : decode cX11_stone 24 = .ok (.aload_n 0, 1) := by decide +kernel
theorem dX11_stone_25 : decode cX11_stone 25 = .ok (.aload_n 0, 1) := by decide +kernel
theorem dX11_stone_26 : decode cX11_stone 26 = .ok (.iload_n 1, 1) := by decide +kernel
theorem dX11_stone_27 : decode cX11_stone 27 = .ok (.iload_n 2, 1) := by decide +kernel
theorem dX11_stone_28 : decode cX11_stone 28 = .ok (.invokevirtual 149, 3) := by decide +kernel
theorem dX11_stone_31 : decode cX11_stone 31 = .ok (.putfield 44, 3) := by decide +kernel
theorem dX11_stone_34 : decode cX11_stone 34 = .ok (.iconst 1, 1) := by decide +kernel
theorem dX11_stone_35 : decode cX11_stone 35 = .ok (.ireturn, 1) := by decide +kernel
theorem dX11_walker_0 : decode cX11_walker 0 = .ok (.iload_n 1, 1) := by decide +kernel
theorem dX11_walker_1 : decode cX11_walker 1 = .ok (.aload_n 0, 1) := by decide +kernel
theorem dX11_walker_2 : decode cX11_walker 2 = .ok (.getfield 60, 3) := by decide +kernel
theorem dX11_walker_5 : decode cX11_walker 5 = .ok (.getfield 153, 3) := by decide +kernel
theorem dX11_walker_8 : decode cX11_walker 8 = .ok (.invokestatic 85, 3) := by decide +kernel
theorem dX11_walker_11 : decode cX11_walker 11 = .ok (.ifCond .eq 11, 3) := by decide +kernel
theorem dX11_walker_14 : decode cX11_walker 14 = .ok (.iload_n 2, 1) := by decide +kernel
theorem dX11_walker_15 : decode cX11_walker 15 = .ok (.iconst 4, 1) := by decide +kernel
theorem dX11_walker_16 : decode cX11_walker 16 = .ok (.invokestatic 85, 3) := by decide +kernel
theorem dX11_walker_19 : decode cX11_walker 19 = .ok (.ifCond .ne 5, 3) := by decide +kernel
theorem dX11_walker_22 : decode cX11_walker 22 = .ok (.iconst (-1), 1) := by decide +kernel
theorem dX11_walker_23 : decode cX11_walker 23 = .ok (.ireturn, 1) := by decide +kernel
theorem dX11_walker_24 : decode cX11_walker 24 = .ok (.aload_n 0, 1) := by decide +kernel
theorem dX11_walker_25 : decode cX11_walker 25 = .ok (.aload_n 0, 1) := by decide +kernel
theorem dX11_walker_26 : decode cX11_walker 26 = .ok (.iload_n 1, 1) := by decide +kernel
theorem dX11_walker_27 : decode cX11_walker 27 = .ok (.iload_n 2, 1) := by decide +kernel
theorem dX11_walker_28 : decode cX11_walker 28 = .ok (.invokevirtual 156, 3) := by decide +kernel
theorem dX11_walker_31 : decode cX11_walker 31 = .ok (.putfield 44, 3) := by decide +kernel
theorem dX11_walker_34 : decode cX11_walker 34 = .ok (.iconst 1, 1) := by decide +kernel
theorem dX11_walker_35 : decode cX11_walker 35 = .ok (.ireturn, 1) := by decide +kernel
theorem dX11_mark_0 : decode cX11_mark 0 = .ok (.aload_n 0, 1) := by decide +kernel
theorem dX11_mark_1 : decode cX11_mark 1 = .ok (.getfield 60, 3) := by decide +kernel
theorem dX11_mark_4 : decode cX11_mark 4 = .ok (.iload_n 1, 1) := by decide +kernel
theorem dX11_mark_5 : decode cX11_mark 5 = .ok (.invokevirtual 159, 3) := by decide +kernel
theorem dX11_mark_8 : decode cX11_mark 8 = .ok (.astore_n 3, 1) := by decide +kernel
theorem dX11_mark_9 : decode cX11_mark 9 = .ok (.aload_n 3, 1) := by decide +kernel
theorem dX11_mark_10 : decode cX11_mark 10 = .ok (.ifnull 13, 3) := by decide +kernel
theorem dX11_mark_13 : decode cX11_mark 13 = .ok (.iload_n 2, 1) := by decide +kernel
theorem dX11_mark_14 : decode cX11_mark 14 = .ok (.iconst 1, 1) := by decide +kernel
theorem dX11_mark_15 : decode cX11_mark 15 = .ok (.if_icmp .lt 8, 3) := by decide +kernel
theorem dX11_mark_18 : decode cX11_mark 18 = .ok (.iload_n 2, 1) := by decide +kernel
theorem dX11_mark_19 : decode cX11_mark 19 = .ok (.iconst 5, 1) := by decide +kernel
theorem dX11_mark_20 : decode cX11_mark 20 = .ok (.if_icmp .le 5, 3) := by decide +kernel
theorem dX11_mark_23 : decode cX11_mark 23 = .ok (.iconst (-1), 1) := by decide +kernel
theorem dX11_mark_24 : decode cX11_mark 24 = .ok (.ireturn, 1) := by decide +kernel
theorem dX11_mark_25 : decode cX11_mark 25 = .ok (.aload_n 0, 1) := by decide +kernel
theorem dX11_mark_26 : decode cX11_mark 26 = .ok (.getfield 67, 3) := by decide +kernel
theorem dX11_mark_29 : decode cX11_mark 29 = .ok (.aload_n 0, 1) := by decide +kernel
theorem dX11_mark_30 : decode cX11_mark 30 = .ok (.getfield 60, 3) := by decide +kernel
theorem dX11_mark_33 : decode cX11_mark 33 = .ok (.aload_n 0, 1) := by decide +kernel
theorem dX11_mark_34 : decode cX11_mark 34 = .ok (.getfield 34, 3) := by decide +kernel
theorem dX11_mark_37 : decode cX11_mark 37 = .ok (.aload_n 0, 1) := by decide +kernel
theorem dX11_mark_38 : decode cX11_mark 38 = .ok (.getfield 38, 3) := by decide +kernel
theorem dX11_mark_41 : decode cX11_mark 41 = .ok (.invokevirtual 165, 3) := by decide +kernel
theorem dX11_mark_44 : decode cX11_mark 44 = .ok (.aload_n 3, 1) := by decide +kernel
theorem dX11_mark_45 : decode cX11_mark 45 = .ok (.iload_n 2, 1) := by decide +kernel
theorem dX11_mark_46 : decode cX11_mark 46 = .ok (.aload_n 0, 1) := by decide +kernel
theorem dX11_mark_47 : decode cX11_mark 47 = .ok (.getfield 67, 3) := by decide +kernel
theorem dX11_mark_50 : decode cX11_mark 50 = .ok (.invokevirtual 168, 3) := by decide +kernel
theorem dX11_mark_53 : decode cX11_mark 53 = .ok (.istore 4, 2) := by decide +kernel
theorem dX11_mark_55 : decode cX11_mark 55 = .ok (.iload 4, 2) := by decide +kernel
theorem dX11_mark_57 : decode cX11_mark 57 = .ok (.bipush (-100), 2) := by decide +kernel
theorem dX11_mark_59 : decode cX11_mark 59 = .ok (.if_icmp .ne 11, 3) := by decide +kernel
theorem dX11_mark_62 : decode cX11_mark 62 = .ok (.aload_n 0, 1) := by decide +kernel
theorem dX11_mark_63 : decode cX11_mark 63 = .ok (.iconst 3, 1) := by decide +kernel
theorem dX11_mark_64 : decode cX11_mark 64 = .ok (.invokevirtual 89, 3) := by decide +kernel
theorem dX11_mark_67 : decode cX11_mark 67 = .ok (.goto 5, 3) := by decide +kernel
theorem dX11_mark_70 : decode cX11_mark 70 = .ok (.iload 4, 2) := by decide +kernel
theorem dX11_mark_72 : decode cX11_mark 72 = .ok (.ireturn, 1) := by decide +kernel
theorem dX11_law_0 : decode cX11_law 0 = .ok (.iload_n 1, 1) := by decide +kernel
theorem dX11_law_1 : decode cX11_law 1 = .ok (.iconst 3, 1) := by decide +kernel
theorem dX11_law_2 : decode cX11_law 2 = .ok (.invokestatic 85, 3) := by decide +kernel
theorem dX11_law_5 : decode cX11_law 5 = .ok (.ifCond .ne 5, 3) := by decide +kernel
theorem dX11_law_8 : decode cX11_law 8 = .ok (.iconst (-1), 1) := by decide +kernel
theorem dX11_law_9 : decode cX11_law 9 = .ok (.ireturn, 1) := by decide +kernel
theorem dX11_law_10 : decode cX11_law 10 = .ok (.aload_n 0, 1) := by decide +kernel
theorem dX11_law_11 : decode cX11_law 11 = .ok (.getfield 38, 3) := by decide +kernel
theorem dX11_law_14 : decode cX11_law 14 = .ok (.istore_n 2, 1) := by decide +kernel
theorem dX11_law_15 : decode cX11_law 15 = .ok (.aload_n 0, 1) := by decide +kernel
theorem dX11_law_16 : decode cX11_law 16 = .ok (.iload_n 1, 1) := by decide +kernel
theorem dX11_law_17 : decode cX11_law 17 = .ok (.putfield 38, 3) := by decide +kernel
theorem dX11_law_20 : decode cX11_law 20 = .ok (.iload_n 2, 1) := by decide +kernel
theorem dX11_law_21 : decode cX11_law 21 = .ok (.ireturn, 1) := by decide +kernel
theorem dX11_walk_0 : decode cX11_walk 0 = .ok (.iload_n 1, 1) := by decide +kernel
theorem dX11_walk_1 : decode cX11_walk 1 = .ok (.aload_n 0, 1) := by decide +kernel
theorem dX11_walk_2 : decode cX11_walk 2 = .ok (.getfield 60, 3) := by decide +kernel
theorem dX11_walk_5 : decode cX11_walk 5 = .ok (.getfield 153, 3) := by decide +kernel
theorem dX11_walk_8 : decode cX11_walk 8 = .ok (.invokestatic 85, 3) := by decide +kernel
theorem dX11_walk_11 : decode cX11_walk 11 = .ok (.ifCond .ne 5, 3) := by decide +kernel
theorem dX11_walk_14 : decode cX11_walk 14 = .ok (.iconst (-1), 1) := by decide +kernel
theorem dX11_walk_15 : decode cX11_walk 15 = .ok (.ireturn, 1) := by decide +kernel
theorem dX11_walk_16 : decode cX11_walk 16 = .ok (.aload_n 0, 1) := by decide +kernel
theorem dX11_walk_17 : decode cX11_walk 17 = .ok (.getfield 41, 3) := by decide +kernel
theorem dX11_walk_20 : decode cX11_walk 20 = .ok (.bipush 60, 2) := by decide +kernel
theorem dX11_walk_22 : decode cX11_walk 22 = .ok (.if_icmp .lt 6, 3) := by decide +kernel
theorem dX11_walk_25 : decode cX11_walk 25 = .ok (.bipush (-2), 2) := by decide +kernel
theorem dX11_walk_27 : decode cX11_walk 27 = .ok (.ireturn, 1) := by decide +kernel
theorem dX11_walk_28 : decode cX11_walk 28 = .ok (.aload_n 0, 1) := by decide +kernel
theorem dX11_walk_29 : decode cX11_walk 29 = .ok (.iload_n 1, 1) := by decide +kernel
theorem dX11_walk_30 : decode cX11_walk 30 = .ok (.invokevirtual 172, 3) := by decide +kernel
theorem dX11_walk_33 : decode cX11_walk 33 = .ok (.ireturn, 1) := by decide +kernel
theorem dX11_pays_0 : decode cX11_pays 0 = .ok (.iload_n 1, 1) := by decide +kernel
theorem dX11_pays_1 : decode cX11_pays 1 = .ok (.aload_n 0, 1) := by decide +kernel
theorem dX11_pays_2 : decode cX11_pays 2 = .ok (.getfield 60, 3) := by decide +kernel
theorem dX11_pays_5 : decode cX11_pays 5 = .ok (.getfield 153, 3) := by decide +kernel
theorem dX11_pays_8 : decode cX11_pays 8 = .ok (.invokestatic 85, 3) := by decide +kernel
theorem dX11_pays_11 : decode cX11_pays 11 = .ok (.ifCond .ne 5, 3) := by decide +kernel
theorem dX11_pays_14 : decode cX11_pays 14 = .ok (.iconst (-1), 1) := by decide +kernel
theorem dX11_pays_15 : decode cX11_pays 15 = .ok (.ireturn, 1) := by decide +kernel
theorem dX11_pays_16 : decode cX11_pays 16 = .ok (.aload_n 0, 1) := by decide +kernel
theorem dX11_pays_17 : decode cX11_pays 17 = .ok (.getfield 67, 3) := by decide +kernel
theorem dX11_pays_20 : decode cX11_pays 20 = .ok (.aload_n 0, 1) := by decide +kernel
theorem dX11_pays_21 : decode cX11_pays 21 = .ok (.getfield 60, 3) := by decide +kernel
theorem dX11_pays_24 : decode cX11_pays 24 = .ok (.aload_n 0, 1) := by decide +kernel
theorem dX11_pays_25 : decode cX11_pays 25 = .ok (.getfield 34, 3) := by decide +kernel
theorem dX11_pays_28 : decode cX11_pays 28 = .ok (.aload_n 0, 1) := by decide +kernel
theorem dX11_pays_29 : decode cX11_pays 29 = .ok (.getfield 38, 3) := by decide +kernel
theorem dX11_pays_32 : decode cX11_pays 32 = .ok (.invokevirtual 165, 3) := by decide +kernel
theorem dX11_pays_35 : decode cX11_pays 35 = .ok (.aload_n 0, 1) := by decide +kernel
theorem dX11_pays_36 : decode cX11_pays 36 = .ok (.getfield 67, 3) := by decide +kernel
theorem dX11_pays_39 : decode cX11_pays 39 = .ok (.iload_n 1, 1) := by decide +kernel
theorem dX11_pays_40 : decode cX11_pays 40 = .ok (.invokevirtual 175, 3) := by decide +kernel
theorem dX11_pays_43 : decode cX11_pays 43 = .ok (.aload_n 0, 1) := by decide +kernel
theorem dX11_pays_44 : decode cX11_pays 44 = .ok (.aload_n 0, 1) := by decide +kernel
theorem dX11_pays_45 : decode cX11_pays 45 = .ok (.getfield 60, 3) := by decide +kernel
theorem dX11_pays_48 : decode cX11_pays 48 = .ok (.aload_n 0, 1) := by decide +kernel
theorem dX11_pays_49 : decode cX11_pays 49 = .ok (.getfield 67, 3) := by decide +kernel
theorem dX11_pays_52 : decode cX11_pays 52 = .ok (.getfield 179, 3) := by decide +kernel
theorem dX11_pays_55 : decode cX11_pays 55 = .ok (.invokevirtual 180, 3) := by decide +kernel
theorem dX11_pays_58 : decode cX11_pays 58 = .ok (.putfield 44, 3) := by decide +kernel
theorem dX11_pays_61 : decode cX11_pays 61 = .ok (.aload_n 0, 1) := by decide +kernel
theorem dX11_pays_62 : decode cX11_pays 62 = .ok (.getfield 67, 3) := by decide +kernel
theorem dX11_pays_65 : decode cX11_pays 65 = .ok (.getfield 183, 3) := by decide +kernel
theorem dX11_pays_68 : decode cX11_pays 68 = .ok (.ireturn, 1) := by decide +kernel
theorem dX11_undo_0 : decode cX11_undo 0 = .ok (.iload_n 1, 1) := by decide +kernel
theorem dX11_undo_1 : decode cX11_undo 1 = .ok (.ifCond .lt 11, 3) := by decide +kernel
theorem dX11_undo_4 : decode cX11_undo 4 = .ok (.iload_n 1, 1) := by decide +kernel
theorem dX11_undo_5 : decode cX11_undo 5 = .ok (.aload_n 0, 1) := by decide +kernel
theorem dX11_undo_6 : decode cX11_undo 6 = .ok (.getfield 41, 3) := by decide +kernel
theorem dX11_undo_9 : decode cX11_undo 9 = .ok (.if_icmp .le 5, 3) := by decide +kernel
theorem dX11_undo_12 : decode cX11_undo 12 = .ok (.iconst (-1), 1) := by decide +kernel
theorem dX11_undo_13 : decode cX11_undo 13 = .ok (.ireturn, 1) := by decide +kernel
theorem dX11_undo_14 : decode cX11_undo 14 = .ok (.aload_n 0, 1) := by decide +kernel
theorem dX11_undo_15 : decode cX11_undo 15 = .ok (.getfield 41, 3) := by decide +kernel
theorem dX11_undo_18 : decode cX11_undo 18 = .ok (.iload_n 1, 1) := by decide +kernel
theorem dX11_undo_19 : decode cX11_undo 19 = .ok (.isub, 1) := by decide +kernel
theorem dX11_undo_20 : decode cX11_undo 20 = .ok (.istore_n 2, 1) := by decide +kernel
theorem dX11_undo_21 : decode cX11_undo 21 = .ok (.iload_n 1, 1) := by decide +kernel
theorem dX11_undo_22 : decode cX11_undo 22 = .ok (.aload_n 0, 1) := by decide +kernel
theorem dX11_undo_23 : decode cX11_undo 23 = .ok (.getfield 41, 3) := by decide +kernel
theorem dX11_undo_26 : decode cX11_undo 26 = .ok (.invokestatic 85, 3) := by decide +kernel
theorem dX11_undo_29 : decode cX11_undo 29 = .ok (.ifCond .eq 16, 3) := by decide +kernel
theorem dX11_undo_32 : decode cX11_undo 32 = .ok (.aload_n 0, 1) := by decide +kernel
theorem dX11_undo_33 : decode cX11_undo 33 = .ok (.aload_n 0, 1) := by decide +kernel
theorem dX11_undo_34 : decode cX11_undo 34 = .ok (.getfield 20, 3) := by decide +kernel
theorem dX11_undo_37 : decode cX11_undo 37 = .ok (.iload_n 1, 1) := by decide +kernel
theorem dX11_undo_38 : decode cX11_undo 38 = .ok (.aaload, 1) := by decide +kernel
theorem dX11_undo_39 : decode cX11_undo 39 = .ok (.getfield 186, 3) := by decide +kernel
theorem dX11_undo_42 : decode cX11_undo 42 = .ok (.putfield 34, 3) := by decide +kernel
theorem dX11_undo_45 : decode cX11_undo 45 = .ok (.aload_n 0, 1) := by decide +kernel
theorem dX11_undo_46 : decode cX11_undo 46 = .ok (.iload_n 1, 1) := by decide +kernel
theorem dX11_undo_47 : decode cX11_undo 47 = .ok (.putfield 41, 3) := by decide +kernel
theorem dX11_undo_50 : decode cX11_undo 50 = .ok (.iload_n 2, 1) := by decide +kernel
theorem dX11_undo_51 : decode cX11_undo 51 = .ok (.ireturn, 1) := by decide +kernel
theorem dX11_walks_0 : decode cX11_walks 0 = .ok (.aload_n 0, 1) := by decide +kernel
