theorem dX12_behind_35 : decode cX12_behind 35 = .ok (.iload 4, 2) := by decide +kernel
theorem dX12_behind_37 : decode cX12_behind 37 = .ok (.iconst 1, 1) := by decide +kernel
theorem dX12_behind_38 : decode cX12_behind 38 = .ok (.isub, 1) := by decide +kernel
theorem dX12_behind_39 : decode cX12_behind 39 = .ok (.istore 6, 2) := by decide +kernel
theorem dX12_behind_41 : decode cX12_behind 41 = .ok (.aload_n 0, 1) := by decide +kernel
theorem dX12_behind_42 : decode cX12_behind 42 = .ok (.getfield 32, 3) := by decide +kernel
theorem dX12_behind_45 : decode cX12_behind 45 = .ok (.iload_n 2, 1) := by decide +kernel
theorem dX12_behind_46 : decode cX12_behind 46 = .ok (.iaload, 1) := by decide +kernel
theorem dX12_behind_47 : decode cX12_behind 47 = .ok (.iconst 5, 1) := by decide +kernel
theorem dX12_behind_48 : decode cX12_behind 48 = .ok (.if_icmp .ne 7, 3) := by decide +kernel
theorem dX12_behind_51 : decode cX12_behind 51 = .ok (.iconst 1, 1) := by decide +kernel
theorem dX12_behind_52 : decode cX12_behind 52 = .ok (.goto 4, 3) := by decide +kernel
theorem dX12_behind_55 : decode cX12_behind 55 = .ok (.iconst 0, 1) := by decide +kernel
theorem dX12_behind_56 : decode cX12_behind 56 = .ok (.istore 7, 2) := by decide +kernel
theorem dX12_behind_58 : decode cX12_behind 58 = .ok (.aload_n 0, 1) := by decide +kernel
theorem dX12_behind_59 : decode cX12_behind 59 = .ok (.getfield 32, 3) := by decide +kernel
theorem dX12_behind_62 : decode cX12_behind 62 = .ok (.iload_n 2, 1) := by decide +kernel
theorem dX12_behind_63 : decode cX12_behind 63 = .ok (.iaload, 1) := by decide +kernel
theorem dX12_behind_64 : decode cX12_behind 64 = .ok (.iconst 4, 1) := by decide +kernel
theorem dX12_behind_65 : decode cX12_behind 65 = .ok (.if_icmp .ne 30, 3) := by decide +kernel
theorem dX12_behind_68 : decode cX12_behind 68 = .ok (.aload_n 0, 1) := by decide +kernel
theorem dX12_behind_69 : decode cX12_behind 69 = .ok (.iload 4, 2) := by decide +kernel
theorem dX12_behind_71 : decode cX12_behind 71 = .ok (.iconst 1, 1) := by decide +kernel
theorem dX12_behind_72 : decode cX12_behind 72 = .ok (.invokevirtual 206, 3) := by decide +kernel
theorem dX12_behind_75 : decode cX12_behind 75 = .ok (.istore 8, 2) := by decide +kernel
theorem dX12_behind_77 : decode cX12_behind 77 = .ok (.iload 8, 2) := by decide +kernel
theorem dX12_behind_79 : decode cX12_behind 79 = .ok (.bipush (-9), 2) := by decide +kernel
theorem dX12_behind_81 : decode cX12_behind 81 = .ok (.if_icmp .eq 11, 3) := by decide +kernel
theorem dX12_behind_84 : decode cX12_behind 84 = .ok (.aload_n 0, 1) := by decide +kernel
theorem dX12_behind_85 : decode cX12_behind 85 = .ok (.iload 8, 2) := by decide +kernel
theorem dX12_behind_87 : decode cX12_behind 87 = .ok (.bipush 7, 2) := by decide +kernel
theorem dX12_behind_89 : decode cX12_behind 89 = .ok (.invokevirtual 209, 3) := by decide +kernel
theorem dX12_behind_92 : decode cX12_behind 92 = .ok (.goto 44, 3) := by decide +kernel
theorem dX12_behind_95 : decode cX12_behind 95 = .ok (.aload_n 0, 1) := by decide +kernel
theorem dX12_behind_96 : decode cX12_behind 96 = .ok (.iload 4, 2) := by decide +kernel
theorem dX12_behind_98 : decode cX12_behind 98 = .ok (.aload_n 0, 1) := by decide +kernel
theorem dX12_behind_99 : decode cX12_behind 99 = .ok (.getfield 32, 3) := by decide +kernel
theorem dX12_behind_102 : decode cX12_behind 102 = .ok (.iload_n 2, 1) := by decide +kernel
theorem dX12_behind_103 : decode cX12_behind 103 = .ok (.iaload, 1) := by decide +kernel
theorem dX12_behind_104 : decode cX12_behind 104 = .ok (.iconst 3, 1) := by decide +kernel
theorem dX12_behind_105 : decode cX12_behind 105 = .ok (.if_icmp .ne 8, 3) := by decide +kernel
theorem dX12_behind_108 : decode cX12_behind 108 = .ok (.iload 6, 2) := by decide +kernel
theorem dX12_behind_110 : decode cX12_behind 110 = .ok (.goto 5, 3) := by decide +kernel
theorem dX12_behind_113 : decode cX12_behind 113 = .ok (.iload 5, 2) := by decide +kernel
theorem dX12_behind_115 : decode cX12_behind 115 = .ok (.iload_n 3, 1) := by decide +kernel
theorem dX12_behind_116 : decode cX12_behind 116 = .ok (.aload_n 0, 1) := by decide +kernel
theorem dX12_behind_117 : decode cX12_behind 117 = .ok (.getfield 32, 3) := by decide +kernel
theorem dX12_behind_120 : decode cX12_behind 120 = .ok (.iload_n 2, 1) := by decide +kernel
theorem dX12_behind_121 : decode cX12_behind 121 = .ok (.iaload, 1) := by decide +kernel
theorem dX12_behind_122 : decode cX12_behind 122 = .ok (.iconst 1, 1) := by decide +kernel
theorem dX12_behind_123 : decode cX12_behind 123 = .ok (.if_icmp .ne 7, 3) := by decide +kernel
theorem dX12_behind_126 : decode cX12_behind 126 = .ok (.iconst 3, 1) := by decide +kernel
theorem dX12_behind_127 : decode cX12_behind 127 = .ok (.goto 4, 3) := by decide +kernel
theorem dX12_behind_130 : decode cX12_behind 130 = .ok (.iconst 1, 1) := by decide +kernel
theorem dX12_behind_131 : decode cX12_behind 131 = .ok (.iload 7, 2) := by decide +kernel
theorem dX12_behind_133 : decode cX12_behind 133 = .ok (.invokevirtual 215, 3) := by decide +kernel
theorem dX12_behind_136 : decode cX12_behind 136 = .ok (.aload_n 0, 1) := by decide +kernel
theorem dX12_behind_137 : decode cX12_behind 137 = .ok (.getfield 32, 3) := by decide +kernel
theorem dX12_behind_140 : decode cX12_behind 140 = .ok (.iload_n 2, 1) := by decide +kernel
theorem dX12_behind_141 : decode cX12_behind 141 = .ok (.iaload, 1) := by decide +kernel
theorem dX12_behind_142 : decode cX12_behind 142 = .ok (.iconst 2, 1) := by decide +kernel
theorem dX12_behind_143 : decode cX12_behind 143 = .ok (.if_icmp .eq 8, 3) := by decide +kernel
theorem dX12_behind_146 : decode cX12_behind 146 = .ok (.iload 7, 2) := by decide +kernel
theorem dX12_behind_148 : decode cX12_behind 148 = .ok (.ifCond .eq 15, 3) := by decide +kernel
theorem dX12_behind_151 : decode cX12_behind 151 = .ok (.aload_n 0, 1) := by decide +kernel
theorem dX12_behind_152 : decode cX12_behind 152 = .ok (.iload 5, 2) := by decide +kernel
theorem dX12_behind_154 : decode cX12_behind 154 = .ok (.iload 4, 2) := by decide +kernel
theorem dX12_behind_156 : decode cX12_behind 156 = .ok (.iload_n 3, 1) := by decide +kernel
theorem dX12_behind_157 : decode cX12_behind 157 = .ok (.iconst 1, 1) := by decide +kernel
theorem dX12_behind_158 : decode cX12_behind 158 = .ok (.iload 7, 2) := by decide +kernel
theorem dX12_behind_160 : decode cX12_behind 160 = .ok (.invokevirtual 215, 3) := by decide +kernel
theorem dX12_behind_163 : decode cX12_behind 163 = .ok (.iconst 0, 1) := by decide +kernel
theorem dX12_behind_164 : decode cX12_behind 164 = .ok (.istore 8, 2) := by decide +kernel
theorem dX12_behind_166 : decode cX12_behind 166 = .ok (.iconst 0, 1) := by decide +kernel
theorem dX12_behind_167 : decode cX12_behind 167 = .ok (.istore 9, 2) := by decide +kernel
theorem dX12_behind_169 : decode cX12_behind 169 = .ok (.iload 9, 2) := by decide +kernel
theorem dX12_behind_171 : decode cX12_behind 171 = .ok (.aload_n 0, 1) := by decide +kernel
theorem dX12_behind_172 : decode cX12_behind 172 = .ok (.getfield 178, 3) := by decide +kernel
theorem dX12_behind_175 : decode cX12_behind 175 = .ok (.if_icmp .ge 26, 3) := by decide +kernel
theorem dX12_behind_178 : decode cX12_behind 178 = .ok (.iload 8, 2) := by decide +kernel
theorem dX12_behind_180 : decode cX12_behind 180 = .ok (.aload_n 0, 1) := by decide +kernel
theorem dX12_behind_181 : decode cX12_behind 181 = .ok (.getfield 80, 3) := by decide +kernel
theorem dX12_behind_184 : decode cX12_behind 184 = .ok (.iload 9, 2) := by decide +kernel
theorem dX12_behind_186 : decode cX12_behind 186 = .ok (.iaload, 1) := by decide +kernel
theorem dX12_behind_187 : decode cX12_behind 187 = .ok (.iconst 3, 1) := by decide +kernel
theorem dX12_behind_188 : decode cX12_behind 188 = .ok (.iload 9, 2) := by decide +kernel
theorem dX12_behind_190 : decode cX12_behind 190 = .ok (.imul, 1) := by decide +kernel
theorem dX12_behind_191 : decode cX12_behind 191 = .ok (.ishl, 1) := by decide +kernel
theorem dX12_behind_192 : decode cX12_behind 192 = .ok (.ior, 1) := by decide +kernel
theorem dX12_behind_193 : decode cX12_behind 193 = .ok (.istore 8, 2) := by decide +kernel
theorem dX12_behind_195 : decode cX12_behind 195 = .ok (.iinc 9 1, 3) := by decide +kernel
theorem dX12_behind_198 : decode cX12_behind 198 = .ok (.goto (-29), 3) := by decide +kernel
theorem dX12_behind_201 : decode cX12_behind 201 = .ok (.iload 8, 2) := by decide +kernel
theorem dX12_behind_203 : decode cX12_behind 203 = .ok (.ireturn, 1) := by decide +kernel
theorem dX12_spotOf_0 : decode cX12_spotOf 0 = .ok (.iload_n 0, 1) := by decide +kernel
theorem dX12_spotOf_1 : decode cX12_spotOf 1 = .ok (.iconst 3, 1) := by decide +kernel
theorem dX12_spotOf_2 : decode cX12_spotOf 2 = .ok (.iload_n 1, 1) := by decide +kernel
theorem dX12_spotOf_3 : decode cX12_spotOf 3 = .ok (.imul, 1) := by decide +kernel
theorem dX12_spotOf_4 : decode cX12_spotOf 4 = .ok (.ishr, 1) := by decide +kernel
theorem dX12_spotOf_5 : decode cX12_spotOf 5 = .ok (.bipush 7, 2) := by decide +kernel
theorem dX12_spotOf_7 : decode cX12_spotOf 7 = .ok (.iand, 1) := by decide +kernel
theorem dX12_spotOf_8 : decode cX12_spotOf 8 = .ok (.ireturn, 1) := by decide +kernel
theorem dX12_apartOf_0 : decode cX12_apartOf 0 = .ok (.iconst 0, 1) := by decide +kernel
theorem dX12_apartOf_1 : decode cX12_apartOf 1 = .ok (.istore_n 2, 1) := by decide +kernel
theorem dX12_apartOf_2 : decode cX12_apartOf 2 = .ok (.iconst 0, 1) := by decide +kernel
theorem dX12_apartOf_3 : decode cX12_apartOf 3 = .ok (.istore_n 3, 1) := by decide +kernel
theorem dX12_apartOf_4 : decode cX12_apartOf 4 = .ok (.iload_n 3, 1) := by decide +kernel
theorem dX12_apartOf_5 : decode cX12_apartOf 5 = .ok (.aload_n 0, 1) := by decide +kernel
theorem dX12_apartOf_6 : decode cX12_apartOf 6 = .ok (.getfield 178, 3) := by decide +kernel
theorem dX12_apartOf_9 : decode cX12_apartOf 9 = .ok (.if_icmp .ge 54, 3) := by decide +kernel
theorem dX12_apartOf_12 : decode cX12_apartOf 12 = .ok (.iload_n 1, 1) := by decide +kernel
theorem dX12_apartOf_13 : decode cX12_apartOf 13 = .ok (.iload_n 3, 1) := by decide +kernel
theorem dX12_apartOf_14 : decode cX12_apartOf 14 = .ok (.invokestatic 219, 3) := by decide +kernel
theorem dX12_apartOf_17 : decode cX12_apartOf 17 = .ok (.istore 4, 2) := by decide +kernel
theorem dX12_apartOf_19 : decode cX12_apartOf 19 = .ok (.iload_n 2, 1) := by decide +kernel
theorem dX12_apartOf_20 : decode cX12_apartOf 20 = .ok (.iload 4, 2) := by decide +kernel
theorem dX12_apartOf_22 : decode cX12_apartOf 22 = .ok (.bipush 7, 2) := by decide +kernel
theorem dX12_apartOf_24 : decode cX12_apartOf 24 = .ok (.if_icmp .ne 8, 3) := by decide +kernel
theorem dX12_apartOf_27 : decode cX12_apartOf 27 = .ok (.bipush 10, 2) := by decide +kernel
theorem dX12_apartOf_29 : decode cX12_apartOf 29 = .ok (.goto 26, 3) := by decide +kernel
theorem dX12_apartOf_32 : decode cX12_apartOf 32 = .ok (.aload_n 0, 1) := by decide +kernel
theorem dX12_apartOf_33 : decode cX12_apartOf 33 = .ok (.iload_n 3, 1) := by decide +kernel
theorem dX12_apartOf_34 : decode cX12_apartOf 34 = .ok (.invokevirtual 193, 3) := by decide +kernel
theorem dX12_apartOf_37 : decode cX12_apartOf 37 = .ok (.ifCond .ge 7, 3) := by decide +kernel
theorem dX12_apartOf_40 : decode cX12_apartOf 40 = .ok (.iconst 0, 1) := by decide +kernel
theorem dX12_apartOf_41 : decode cX12_apartOf 41 = .ok (.goto 14, 3) := by decide +kernel
theorem dX12_apartOf_44 : decode cX12_apartOf 44 = .ok (.iload 4, 2) := by decide +kernel
theorem dX12_apartOf_46 : decode cX12_apartOf 46 = .ok (.aload_n 0, 1) := by decide +kernel
theorem dX12_apartOf_47 : decode cX12_apartOf 47 = .ok (.iload_n 3, 1) := by decide +kernel
theorem dX12_apartOf_48 : decode cX12_apartOf 48 = .ok (.invokevirtual 193, 3) := by decide +kernel
theorem dX12_apartOf_51 : decode cX12_apartOf 51 = .ok (.isub, 1) := by decide +kernel
theorem dX12_apartOf_52 : decode cX12_apartOf 52 = .ok (.invokestatic 196, 3) := by decide +kernel
theorem dX12_apartOf_55 : decode cX12_apartOf 55 = .ok (.iadd, 1) := by decide +kernel
theorem dX12_apartOf_56 : decode cX12_apartOf 56 = .ok (.istore_n 2, 1) := by decide +kernel
theorem dX12_apartOf_57 : decode cX12_apartOf 57 = .ok (.iinc 3 1, 3) := by decide +kernel
theorem dX12_apartOf_60 : decode cX12_apartOf 60 = .ok (.goto (-56), 3) := by decide +kernel
theorem dX12_apartOf_63 : decode cX12_apartOf 63 = .ok (.iload_n 2, 1) := by decide +kernel
theorem dX12_apartOf_64 : decode cX12_apartOf 64 = .ok (.ireturn, 1) := by decide +kernel
theorem dX12_isPost_0 : decode cX12_isPost 0 = .ok (.iload_n 1, 1) := by decide +kernel
theorem dX12_isPost_1 : decode cX12_isPost 1 = .ok (.i2l, 1) := by decide +kernel
theorem dX12_isPost_2 : decode cX12_isPost 2 = .ok (.lconst 0, 1) := by decide +kernel
theorem dX12_isPost_3 : decode cX12_isPost 3 = .ok (.aload_n 0, 1) := by decide +kernel
theorem dX12_isPost_4 : decode cX12_isPost 4 = .ok (.getfield 175, 3) := by decide +kernel
theorem dX12_isPost_7 : decode cX12_isPost 7 = .ok (.iconst 1, 1) := by decide +kernel
theorem dX12_isPost_8 : decode cX12_isPost 8 = .ok (.isub, 1) := by decide +kernel
theorem dX12_isPost_9 : decode cX12_isPost 9 = .ok (.i2l, 1) := by decide +kernel
theorem dX12_isPost_10 : decode cX12_isPost 10 = .ok (.invokestatic 109, 3) := by decide +kernel
theorem dX12_isPost_13 : decode cX12_isPost 13 = .ok (.ireturn, 1) := by decide +kernel
theorem dX12_isStone_0 : decode cX12_isStone 0 = .ok (.iload_n 1, 1) := by decide +kernel
theorem dX12_isStone_1 : decode cX12_isStone 1 = .ok (.i2l, 1) := by decide +kernel
theorem dX12_isStone_2 : decode cX12_isStone 2 = .ok (.lconst 0, 1) := by decide +kernel
theorem dX12_isStone_3 : decode cX12_isStone 3 = .ok (.aload_n 0, 1) := by decide +kernel
theorem dX12_isStone_4 : decode cX12_isStone 4 = .ok (.getfield 178, 3) := by decide +kernel
theorem dX12_isStone_7 : decode cX12_isStone 7 = .ok (.iconst 1, 1) := by decide +kernel
theorem dX12_isStone_8 : decode cX12_isStone 8 = .ok (.isub, 1) := by decide +kernel
theorem dX12_isStone_9 : decode cX12_isStone 9 = .ok (.i2l, 1) := by decide +kernel
theorem dX12_isStone_10 : decode cX12_isStone 10 = .ok (.invokestatic 109, 3) := by decide +kernel
theorem dX12_isStone_13 : decode cX12_isStone 13 = .ok (.ireturn, 1) := by decide +kernel
theorem dX12_isWalker_0 : decode cX12_isWalker 0 = .ok (.iload_n 1, 1) := by decide +kernel
theorem dX12_isWalker_1 : decode cX12_isWalker 1 = .ok (.i2l, 1) := by decide +kernel
theorem dX12_isWalker_2 : decode cX12_isWalker 2 = .ok (.lconst 0, 1) := by decide +kernel
theorem dX12_isWalker_3 : decode cX12_isWalker 3 = .ok (.aload_n 0, 1) := by decide +kernel
theorem dX12_isWalker_4 : decode cX12_isWalker 4 = .ok (.getfield 181, 3) := by decide +kernel
theorem dX12_isWalker_7 : decode cX12_isWalker 7 = .ok (.iconst 1, 1) := by decide +kernel
theorem dX12_isWalker_8 : decode cX12_isWalker 8 = .ok (.isub, 1) := by decide +kernel
theorem dX12_isWalker_9 : decode cX12_isWalker 9 = .ok (.i2l, 1) := by decide +kernel
theorem dX12_isWalker_10 : decode cX12_isWalker 10 = .ok (.invokestatic 109, 3) := by decide +kernel
theorem dX12_isWalker_13 : decode cX12_isWalker 13 = .ok (.ireturn, 1) := by decide +kernel
theorem dX12_told_0 : decode cX12_told 0 = .ok (.iload_n 0, 1) := by decide +kernel
theorem dX12_told_1 : decode cX12_told 1 = .ok (.bipush 7, 2) := by decide +kernel
theorem dX12_told_3 : decode cX12_told 3 = .ok (.if_icmp .ne 8, 3) := by decide +kernel
theorem dX12_told_6 : decode cX12_told 6 = .ok (.bipush (-9), 2) := by decide +kernel
theorem dX12_told_8 : decode cX12_told 8 = .ok (.goto 4, 3) := by decide +kernel
theorem dX12_told_11 : decode cX12_told 11 = .ok (.iload_n 0, 1) := by decide +kernel
theorem dX12_told_12 : decode cX12_told 12 = .ok (.ireturn, 1) := by decide +kernel
theorem dX12_stone_0 : decode cX12_stone 0 = .ok (.aload_n 0, 1) := by decide +kernel
theorem dX12_stone_1 : decode cX12_stone 1 = .ok (.iload_n 1, 1) := by decide +kernel
theorem dX12_stone_2 : decode cX12_stone 2 = .ok (.invokevirtual 222, 3) := by decide +kernel
theorem dX12_stone_5 : decode cX12_stone 5 = .ok (.ifCond .eq 15, 3) := by decide +kernel
theorem dX12_stone_8 : decode cX12_stone 8 = .ok (.iload_n 2, 1) := by decide +kernel
theorem dX12_stone_9 : decode cX12_stone 9 = .ok (.i2l, 1) := by decide +kernel
theorem dX12_stone_10 : decode cX12_stone 10 = .ok (.lconst 0, 1) := by decide +kernel
theorem dX12_stone_11 : decode cX12_stone 11 = .ok (.ldc2_w 113, 3) := by decide +kernel
theorem dX12_stone_14 : decode cX12_stone 14 = .ok (.invokestatic 109, 3) := by decide +kernel
theorem dX12_stone_17 : decode cX12_stone 17 = .ok (.ifCond .ne 5, 3) := by decide +kernel
theorem dX12_stone_20 : decode cX12_stone 20 = .ok (.iconst (-1), 1) := by decide +kernel
theorem dX12_stone_21 : decode cX12_stone 21 = .ok (.ireturn, 1) := by decide +kernel
theorem dX12_stone_22 : decode cX12_stone 22 = .ok (.aload_n 0, 1) := by decide +kernel
theorem dX12_stone_23 : decode cX12_stone 23 = .ok (.iload_n 2, 1) := by decide +kernel
theorem dX12_stone_24 : decode cX12_stone 24 = .ok (.ifCond .ne 12, 3) := by decide +kernel
theorem dX12_stone_27 : decode cX12_stone 27 = .ok (.aload_n 0, 1) := by decide +kernel
theorem dX12_stone_28 : decode cX12_stone 28 = .ok (.getfield 29, 3) := by decide +kernel
theorem dX12_stone_31 : decode cX12_stone 31 = .ok (.iload_n 1, 1) := by decide +kernel
theorem dX12_stone_32 : decode cX12_stone 32 = .ok (.iaload, 1) := by decide +kernel
theorem dX12_stone_33 : decode cX12_stone 33 = .ok (.goto 41, 3) := by decide +kernel
theorem dX12_stone_36 : decode cX12_stone 36 = .ok (.iload_n 2, 1) := by decide +kernel
theorem dX12_stone_37 : decode cX12_stone 37 = .ok (.iconst 1, 1) := by decide +kernel
theorem dX12_stone_38 : decode cX12_stone 38 = .ok (.if_icmp .ne 17, 3) := by decide +kernel
theorem dX12_stone_41 : decode cX12_stone 41 = .ok (.aload_n 0, 1) := by decide +kernel
theorem dX12_stone_42 : decode cX12_stone 42 = .ok (.getfield 184, 3) := by decide +kernel
theorem dX12_stone_45 : decode cX12_stone 45 = .ok (.iload_n 1, 1) := by decide +kernel
theorem dX12_stone_46 : decode cX12_stone 46 = .ok (.invokestatic 219, 3) := by decide +kernel
theorem dX12_stone_49 : decode cX12_stone 49 = .ok (.invokestatic 225, 3) := by decide +kernel
theorem dX12_stone_52 : decode cX12_stone 52 = .ok (.goto 22, 3) := by decide +kernel
theorem dX12_stone_55 : decode cX12_stone 55 = .ok (.iload_n 2, 1) := by decide +kernel
theorem dX12_stone_56 : decode cX12_stone 56 = .ok (.iconst 2, 1) := by decide +kernel
theorem dX12_stone_57 : decode cX12_stone 57 = .ok (.if_icmp .ne 11, 3) := by decide +kernel
theorem dX12_stone_60 : decode cX12_stone 60 = .ok (.aload_n 0, 1) := by decide +kernel
theorem dX12_stone_61 : decode cX12_stone 61 = .ok (.iload_n 1, 1) := by decide +kernel
theorem dX12_stone_62 : decode cX12_stone 62 = .ok (.invokevirtual 193, 3) := by decide +kernel
theorem dX12_stone_65 : decode cX12_stone 65 = .ok (.goto 9, 3) := by decide +kernel
theorem dX12_stone_68 : decode cX12_stone 68 = .ok (.aload_n 0, 1) := by decide +kernel
theorem dX12_stone_69 : decode cX12_stone 69 = .ok (.getfield 44, 3) := by decide +kernel
theorem dX12_stone_72 : decode cX12_stone 72 = .ok (.iload_n 1, 1) := by decide +kernel
theorem dX12_stone_73 : decode cX12_stone 73 = .ok (.iaload, 1) := by decide +kernel
theorem dX12_stone_74 : decode cX12_stone 74 = .ok (.invokevirtual 131, 3) := by decide +kernel
theorem dX12_stone_77 : decode cX12_stone 77 = .ok (.ireturn, 1) := by decide +kernel
theorem dX12_walker_0 : decode cX12_walker 0 = .ok (.aload_n 0, 1) := by decide +kernel
theorem dX12_walker_1 : decode cX12_walker 1 = .ok (.iload_n 1, 1) := by decide +kernel
theorem dX12_walker_2 : decode cX12_walker 2 = .ok (.invokevirtual 228, 3) := by decide +kernel
theorem dX12_walker_5 : decode cX12_walker 5 = .ok (.ifCond .eq 15, 3) := by decide +kernel
theorem dX12_walker_8 : decode cX12_walker 8 = .ok (.iload_n 2, 1) := by decide +kernel
theorem dX12_walker_9 : decode cX12_walker 9 = .ok (.i2l, 1) := by decide +kernel
theorem dX12_walker_10 : decode cX12_walker 10 = .ok (.lconst 0, 1) := by decide +kernel
theorem dX12_walker_11 : decode cX12_walker 11 = .ok (.ldc2_w 113, 3) := by decide +kernel
theorem dX12_walker_14 : decode cX12_walker 14 = .ok (.invokestatic 109, 3) := by decide +kernel
theorem dX12_walker_17 : decode cX12_walker 17 = .ok (.ifCond .ne 5, 3) := by decide +kernel
theorem dX12_walker_20 : decode cX12_walker 20 = .ok (.iconst (-1), 1) := by decide +kernel
theorem dX12_walker_21 : decode cX12_walker 21 = .ok (.ireturn, 1) := by decide +kernel
theorem dX12_walker_22 : decode cX12_walker 22 = .ok (.aload_n 0, 1) := by decide +kernel
theorem dX12_walker_23 : decode cX12_walker 23 = .ok (.iload_n 2, 1) := by decide +kernel
theorem dX12_walker_24 : decode cX12_walker 24 = .ok (.ifCond .ne 12, 3) := by decide +kernel
theorem dX12_walker_27 : decode cX12_walker 27 = .ok (.aload_n 0, 1) := by decide +kernel
theorem dX12_walker_28 : decode cX12_walker 28 = .ok (.getfield 32, 3) := by decide +kernel
theorem dX12_walker_31 : decode cX12_walker 31 = .ok (.iload_n 1, 1) := by decide +kernel
theorem dX12_walker_32 : decode cX12_walker 32 = .ok (.iaload, 1) := by decide +kernel
theorem dX12_walker_33 : decode cX12_walker 33 = .ok (.goto 37, 3) := by decide +kernel
theorem dX12_walker_36 : decode cX12_walker 36 = .ok (.iload_n 2, 1) := by decide +kernel
theorem dX12_walker_37 : decode cX12_walker 37 = .ok (.iconst 1, 1) := by decide +kernel
theorem dX12_walker_38 : decode cX12_walker 38 = .ok (.if_icmp .ne 12, 3) := by decide +kernel
theorem dX12_walker_41 : decode cX12_walker 41 = .ok (.aload_n 0, 1) := by decide +kernel
theorem dX12_walker_42 : decode cX12_walker 42 = .ok (.getfield 35, 3) := by decide +kernel
theorem dX12_walker_45 : decode cX12_walker 45 = .ok (.iload_n 1, 1) := by decide +kernel
theorem dX12_walker_46 : decode cX12_walker 46 = .ok (.iaload, 1) := by decide +kernel
theorem dX12_walker_47 : decode cX12_walker 47 = .ok (.goto 23, 3) := by decide +kernel
theorem dX12_walker_50 : decode cX12_walker 50 = .ok (.iload_n 2, 1) := by decide +kernel
theorem dX12_walker_51 : decode cX12_walker 51 = .ok (.iconst 2, 1) := by decide +kernel
theorem dX12_walker_52 : decode cX12_walker 52 = .ok (.if_icmp .ne 12, 3) := by decide +kernel
theorem dX12_walker_55 : decode cX12_walker 55 = .ok (.aload_n 0, 1) := by decide +kernel
theorem dX12_walker_56 : decode cX12_walker 56 = .ok (.getfield 38, 3) := by decide +kernel
theorem dX12_walker_59 : decode cX12_walker 59 = .ok (.iload_n 1, 1) := by decide +kernel
theorem dX12_walker_60 : decode cX12_walker 60 = .ok (.iaload, 1) := by decide +kernel
theorem dX12_walker_61 : decode cX12_walker 61 = .ok (.goto 9, 3) := by decide +kernel
theorem dX12_walker_64 : decode cX12_walker 64 = .ok (.aload_n 0, 1) := by decide +kernel
theorem dX12_walker_65 : decode cX12_walker 65 = .ok (.getfield 41, 3) := by decide +kernel
theorem dX12_walker_68 : decode cX12_walker 68 = .ok (.iload_n 1, 1) := by decide +kernel
theorem dX12_walker_69 : decode cX12_walker 69 = .ok (.iaload, 1) := by decide +kernel
theorem dX12_walker_70 : decode cX12_walker 70 = .ok (.invokevirtual 131, 3) := by decide +kernel
theorem dX12_walker_73 : decode cX12_walker 73 = .ok (.ireturn, 1) := by decide +kernel
theorem dX12_isOf_0 : decode cX12_isOf 0 = .ok (.iload_n 0, 1) := by decide +kernel
theorem dX12_isOf_1 : decode cX12_isOf 1 = .ok (.iload_n 1, 1) := by decide +kernel
theorem dX12_isOf_2 : decode cX12_isOf 2 = .ok (.if_icmp .eq 23, 3) := by decide +kernel
theorem dX12_isOf_5 : decode cX12_isOf 5 = .ok (.iload_n 0, 1) := by decide +kernel
theorem dX12_isOf_6 : decode cX12_isOf 6 = .ok (.iconst 4, 1) := by decide +kernel
theorem dX12_isOf_7 : decode cX12_isOf 7 = .ok (.if_icmp .ne 8, 3) := by decide +kernel
theorem dX12_isOf_10 : decode cX12_isOf 10 = .ok (.iload_n 1, 1) := by decide +kernel
theorem dX12_isOf_11 : decode cX12_isOf 11 = .ok (.iconst 3, 1) := by decide +kernel
theorem dX12_isOf_12 : decode cX12_isOf 12 = .ok (.if_icmp .eq 13, 3) := by decide +kernel
theorem dX12_isOf_15 : decode cX12_isOf 15 = .ok (.iload_n 0, 1) := by decide +kernel
theorem dX12_isOf_16 : decode cX12_isOf 16 = .ok (.iconst 5, 1) := by decide +kernel
theorem dX12_isOf_17 : decode cX12_isOf 17 = .ok (.if_icmp .ne 12, 3) := by decide +kernel
theorem dX12_isOf_20 : decode cX12_isOf 20 = .ok (.iload_n 1, 1) := by decide +kernel
theorem dX12_isOf_21 : decode cX12_isOf 21 = .ok (.iconst 2, 1) := by decide +kernel
theorem dX12_isOf_22 : decode cX12_isOf 22 = .ok (.if_icmp .ne 7, 3) := by decide +kernel
theorem dX12_isOf_25 : decode cX12_isOf 25 = .ok (.iconst 1, 1) := by decide +kernel
theorem dX12_isOf_26 : decode cX12_isOf 26 = .ok (.goto 4, 3) := by decide +kernel
theorem dX12_isOf_29 : decode cX12_isOf 29 = .ok (.iconst 0, 1) := by decide +kernel
theorem dX12_isOf_30 : decode cX12_isOf 30 = .ok (.ireturn, 1) := by decide +kernel
theorem dX12_mark_0 : decode cX12_mark 0 = .ok (.aload_n 0, 1) := by decide +kernel
theorem dX12_mark_1 : decode cX12_mark 1 = .ok (.iload_n 1, 1) := by decide +kernel
theorem dX12_mark_2 : decode cX12_mark 2 = .ok (.invokevirtual 228, 3) := by decide +kernel
theorem dX12_mark_5 : decode cX12_mark 5 = .ok (.ifCond .eq 15, 3) := by decide +kernel
theorem dX12_mark_8 : decode cX12_mark 8 = .ok (.iload_n 2, 1) := by decide +kernel
theorem dX12_mark_9 : decode cX12_mark 9 = .ok (.i2l, 1) := by decide +kernel
theorem dX12_mark_10 : decode cX12_mark 10 = .ok (.lconst 1, 1) := by decide +kernel
theorem dX12_mark_11 : decode cX12_mark 11 = .ok (.ldc2_w 107, 3) := by decide +kernel
theorem dX12_mark_14 : decode cX12_mark 14 = .ok (.invokestatic 109, 3) := by decide +kernel
theorem dX12_mark_17 : decode cX12_mark 17 = .ok (.ifCond .ne 5, 3) := by decide +kernel
theorem dX12_mark_20 : decode cX12_mark 20 = .ok (.iconst (-1), 1) := by decide +kernel
theorem dX12_mark_21 : decode cX12_mark 21 = .ok (.ireturn, 1) := by decide +kernel
theorem dX12_mark_22 : decode cX12_mark 22 = .ok (.aload_n 0, 1) := by decide +kernel
theorem dX12_mark_23 : decode cX12_mark 23 = .ok (.getfield 32, 3) := by decide +kernel
theorem dX12_mark_26 : decode cX12_mark 26 = .ok (.iload_n 1, 1) := by decide +kernel
theorem dX12_mark_27 : decode cX12_mark 27 = .ok (.iaload, 1) := by decide +kernel
theorem dX12_mark_28 : decode cX12_mark 28 = .ok (.iload_n 2, 1) := by decide +kernel
theorem dX12_mark_29 : decode cX12_mark 29 = .ok (.invokestatic 231, 3) := by decide +kernel
theorem dX12_mark_32 : decode cX12_mark 32 = .ok (.ifCond .ne 9, 3) := by decide +kernel
theorem dX12_mark_35 : decode cX12_mark 35 = .ok (.aload_n 0, 1) := by decide +kernel
theorem dX12_mark_36 : decode cX12_mark 36 = .ok (.iconst 3, 1) := by decide +kernel
theorem dX12_mark_37 : decode cX12_mark 37 = .ok (.invokevirtual 119, 3) := by decide +kernel
theorem dX12_mark_40 : decode cX12_mark 40 = .ok (.ireturn, 1) := by decide +kernel
theorem dX12_mark_41 : decode cX12_mark 41 = .ok (.aload_n 0, 1) := by decide +kernel
theorem dX12_mark_42 : decode cX12_mark 42 = .ok (.aload_n 0, 1) := by decide +kernel
theorem dX12_mark_43 : decode cX12_mark 43 = .ok (.getfield 184, 3) := by decide +kernel
theorem dX12_mark_46 : decode cX12_mark 46 = .ok (.iload_n 1, 1) := by decide +kernel
theorem dX12_mark_47 : decode cX12_mark 47 = .ok (.aload_n 0, 1) := by decide +kernel
theorem dX12_mark_48 : decode cX12_mark 48 = .ok (.getfield 187, 3) := by decide +kernel
theorem dX12_mark_51 : decode cX12_mark 51 = .ok (.invokevirtual 235, 3) := by decide +kernel
theorem dX12_mark_54 : decode cX12_mark 54 = .ok (.istore_n 3, 1) := by decide +kernel
theorem dX12_mark_55 : decode cX12_mark 55 = .ok (.iload_n 2, 1) := by decide +kernel
theorem dX12_mark_56 : decode cX12_mark 56 = .ok (.tableswitch 171 1 4 #[32, 67, 119, 154], 32) := by decide +kernel
theorem dX12_mark_88 : decode cX12_mark 88 = .ok (.aload_n 0, 1) := by decide +kernel
theorem dX12_mark_89 : decode cX12_mark 89 = .ok (.getfield 83, 3) := by decide +kernel
theorem dX12_mark_92 : decode cX12_mark 92 = .ok (.iconst 0, 1) := by decide +kernel
theorem dX12_mark_93 : decode cX12_mark 93 = .ok (.iaload, 1) := by decide +kernel
theorem dX12_mark_94 : decode cX12_mark 94 = .ok (.aload_n 0, 1) := by decide +kernel
theorem dX12_mark_95 : decode cX12_mark 95 = .ok (.getfield 83, 3) := by decide +kernel
theorem dX12_mark_98 : decode cX12_mark 98 = .ok (.iconst 1, 1) := by decide +kernel
theorem dX12_mark_99 : decode cX12_mark 99 = .ok (.iaload, 1) := by decide +kernel
theorem dX12_mark_100 : decode cX12_mark 100 = .ok (.iadd, 1) := by decide +kernel
theorem dX12_mark_101 : decode cX12_mark 101 = .ok (.aload_n 0, 1) := by decide +kernel
theorem dX12_mark_102 : decode cX12_mark 102 = .ok (.getfield 83, 3) := by decide +kernel
theorem dX12_mark_105 : decode cX12_mark 105 = .ok (.iconst 2, 1) := by decide +kernel
theorem dX12_mark_106 : decode cX12_mark 106 = .ok (.iaload, 1) := by decide +kernel
theorem dX12_mark_107 : decode cX12_mark 107 = .ok (.iadd, 1) := by decide +kernel
theorem dX12_mark_108 : decode cX12_mark 108 = .ok (.aload_n 0, 1) := by decide +kernel
theorem dX12_mark_109 : decode cX12_mark 109 = .ok (.getfield 83, 3) := by decide +kernel
theorem dX12_mark_112 : decode cX12_mark 112 = .ok (.iconst 3, 1) := by decide +kernel
theorem dX12_mark_113 : decode cX12_mark 113 = .ok (.iaload, 1) := by decide +kernel
theorem dX12_mark_114 : decode cX12_mark 114 = .ok (.iadd, 1) := by decide +kernel
theorem dX12_mark_115 : decode cX12_mark 115 = .ok (.aload_n 0, 1) := by decide +kernel
theorem dX12_mark_116 : decode cX12_mark 116 = .ok (.getfield 83, 3) := by decide +kernel
theorem dX12_mark_119 : decode cX12_mark 119 = .ok (.iconst 4, 1) := by decide +kernel
theorem dX12_mark_120 : decode cX12_mark 120 = .ok (.iaload, 1) := by decide +kernel
theorem dX12_mark_121 : decode cX12_mark 121 = .ok (.iadd, 1) := by decide +kernel
theorem dX12_mark_122 : decode cX12_mark 122 = .ok (.ireturn, 1) := by decide +kernel
theorem dX12_mark_123 : decode cX12_mark 123 = .ok (.iconst 0, 1) := by decide +kernel
theorem dX12_mark_124 : decode cX12_mark 124 = .ok (.istore 4, 2) := by decide +kernel
theorem dX12_mark_126 : decode cX12_mark 126 = .ok (.iconst 0, 1) := by decide +kernel
theorem dX12_mark_127 : decode cX12_mark 127 = .ok (.istore 5, 2) := by decide +kernel
theorem dX12_mark_129 : decode cX12_mark 129 = .ok (.iload 5, 2) := by decide +kernel
theorem dX12_mark_131 : decode cX12_mark 131 = .ok (.aload_n 0, 1) := by decide +kernel
theorem dX12_mark_132 : decode cX12_mark 132 = .ok (.getfield 178, 3) := by decide +kernel
theorem dX12_mark_135 : decode cX12_mark 135 = .ok (.if_icmp .ge 37, 3) := by decide +kernel
theorem dX12_mark_138 : decode cX12_mark 138 = .ok (.iload 4, 2) := by decide +kernel
theorem dX12_mark_140 : decode cX12_mark 140 = .ok (.iload_n 3, 1) := by decide +kernel
theorem dX12_mark_141 : decode cX12_mark 141 = .ok (.iload 5, 2) := by decide +kernel
theorem dX12_mark_143 : decode cX12_mark 143 = .ok (.invokestatic 219, 3) := by decide +kernel
theorem dX12_mark_146 : decode cX12_mark 146 = .ok (.aload_n 0, 1) := by decide +kernel
theorem dX12_mark_147 : decode cX12_mark 147 = .ok (.getfield 184, 3) := by decide +kernel
theorem dX12_mark_150 : decode cX12_mark 150 = .ok (.iload 5, 2) := by decide +kernel
theorem dX12_mark_152 : decode cX12_mark 152 = .ok (.invokestatic 219, 3) := by decide +kernel
theorem dX12_mark_155 : decode cX12_mark 155 = .ok (.if_icmp .ne 7, 3) := by decide +kernel
theorem dX12_mark_158 : decode cX12_mark 158 = .ok (.iconst 1, 1) := by decide +kernel
theorem dX12_mark_159 : decode cX12_mark 159 = .ok (.goto 4, 3) := by decide +kernel
theorem dX12_mark_162 : decode cX12_mark 162 = .ok (.iconst 0, 1) := by decide +kernel
theorem dX12_mark_163 : decode cX12_mark 163 = .ok (.iadd, 1) := by decide +kernel
theorem dX12_mark_164 : decode cX12_mark 164 = .ok (.istore 4, 2) := by decide +kernel
theorem dX12_mark_166 : decode cX12_mark 166 = .ok (.iinc 5 1, 3) := by decide +kernel
theorem dX12_mark_169 : decode cX12_mark 169 = .ok (.goto (-40), 3) := by decide +kernel
theorem dX12_mark_172 : decode cX12_mark 172 = .ok (.iload 4, 2) := by decide +kernel
theorem dX12_mark_174 : decode cX12_mark 174 = .ok (.ireturn, 1) := by decide +kernel
theorem dX12_mark_175 : decode cX12_mark 175 = .ok (.aload_n 0, 1) := by decide +kernel
theorem dX12_mark_176 : decode cX12_mark 176 = .ok (.getfield 35, 3) := by decide +kernel
theorem dX12_mark_179 : decode cX12_mark 179 = .ok (.iload_n 1, 1) := by decide +kernel
theorem dX12_mark_180 : decode cX12_mark 180 = .ok (.iaload, 1) := by decide +kernel
theorem dX12_mark_181 : decode cX12_mark 181 = .ok (.aload_n 0, 1) := by decide +kernel
theorem dX12_mark_182 : decode cX12_mark 182 = .ok (.getfield 38, 3) := by decide +kernel
theorem dX12_mark_185 : decode cX12_mark 185 = .ok (.iload_n 1, 1) := by decide +kernel
theorem dX12_mark_186 : decode cX12_mark 186 = .ok (.iaload, 1) := by decide +kernel
theorem dX12_mark_187 : decode cX12_mark 187 = .ok (.if_icmp .ge 14, 3) := by decide +kernel
theorem dX12_mark_190 : decode cX12_mark 190 = .ok (.aload_n 0, 1) := by decide +kernel
theorem dX12_mark_191 : decode cX12_mark 191 = .ok (.getfield 35, 3) := by decide +kernel
theorem dX12_mark_194 : decode cX12_mark 194 = .ok (.iload_n 1, 1) := by decide +kernel
theorem dX12_mark_195 : decode cX12_mark 195 = .ok (.iaload, 1) := by decide +kernel
theorem dX12_mark_196 : decode cX12_mark 196 = .ok (.iconst 1, 1) := by decide +kernel
theorem dX12_mark_197 : decode cX12_mark 197 = .ok (.iadd, 1) := by decide +kernel
theorem dX12_mark_198 : decode cX12_mark 198 = .ok (.goto 11, 3) := by decide +kernel
theorem dX12_mark_201 : decode cX12_mark 201 = .ok (.aload_n 0, 1) := by decide +kernel
theorem dX12_mark_202 : decode cX12_mark 202 = .ok (.getfield 35, 3) := by decide +kernel
theorem dX12_mark_205 : decode cX12_mark 205 = .ok (.iload_n 1, 1) := by decide +kernel
theorem dX12_mark_206 : decode cX12_mark 206 = .ok (.iaload, 1) := by decide +kernel
theorem dX12_mark_207 : decode cX12_mark 207 = .ok (.iconst 1, 1) := by decide +kernel
theorem dX12_mark_208 : decode cX12_mark 208 = .ok (.isub, 1) := by decide +kernel
theorem dX12_mark_209 : decode cX12_mark 209 = .ok (.ireturn, 1) := by decide +kernel
theorem dX12_mark_210 : decode cX12_mark 210 = .ok (.aload_n 0, 1) := by decide +kernel
theorem dX12_mark_211 : decode cX12_mark 211 = .ok (.getfield 203, 3) := by decide +kernel
theorem dX12_mark_214 : decode cX12_mark 214 = .ok (.ifCond .ne 8, 3) := by decide +kernel
theorem dX12_mark_217 : decode cX12_mark 217 = .ok (.bipush (-9), 2) := by decide +kernel
theorem dX12_mark_219 : decode cX12_mark 219 = .ok (.goto 7, 3) := by decide +kernel
theorem dX12_mark_222 : decode cX12_mark 222 = .ok (.aload_n 0, 1) := by decide +kernel
theorem dX12_mark_223 : decode cX12_mark 223 = .ok (.getfield 203, 3) := by decide +kernel
theorem dX12_mark_226 : decode cX12_mark 226 = .ok (.ireturn, 1) := by decide +kernel
theorem dX12_mark_227 : decode cX12_mark 227 = .ok (.iconst 2, 1) := by decide +kernel
theorem dX12_mark_228 : decode cX12_mark 228 = .ok (.aload_n 0, 1) := by decide +kernel
theorem dX12_mark_229 : decode cX12_mark 229 = .ok (.getfield 35, 3) := by decide +kernel
theorem dX12_mark_232 : decode cX12_mark 232 = .ok (.iload_n 1, 1) := by decide +kernel
theorem dX12_mark_233 : decode cX12_mark 233 = .ok (.iaload, 1) := by decide +kernel
theorem dX12_mark_234 : decode cX12_mark 234 = .ok (.aload_n 0, 1) := by decide +kernel
theorem dX12_mark_235 : decode cX12_mark 235 = .ok (.getfield 38, 3) := by decide +kernel
theorem dX12_mark_238 : decode cX12_mark 238 = .ok (.iload_n 1, 1) := by decide +kernel
theorem dX12_mark_239 : decode cX12_mark 239 = .ok (.iaload, 1) := by decide +kernel
theorem dX12_mark_240 : decode cX12_mark 240 = .ok (.isub, 1) := by decide +kernel
theorem dX12_mark_241 : decode cX12_mark 241 = .ok (.invokestatic 196, 3) := by decide +kernel
theorem dX12_mark_244 : decode cX12_mark 244 = .ok (.imul, 1) := by decide +kernel
theorem dX12_mark_245 : decode cX12_mark 245 = .ok (.ireturn, 1) := by decide +kernel
theorem dX12_law_0 : decode cX12_law 0 = .ok (.iload_n 1, 1) := by decide +kernel
theorem dX12_law_1 : decode cX12_law 1 = .ok (.i2l, 1) := by decide +kernel
theorem dX12_law_2 : decode cX12_law 2 = .ok (.lconst 0, 1) := by decide +kernel
theorem dX12_law_3 : decode cX12_law 3 = .ok (.ldc2_w 239, 3) := by decide +kernel
theorem dX12_law_6 : decode cX12_law 6 = .ok (.invokestatic 109, 3) := by decide +kernel
theorem dX12_law_9 : decode cX12_law 9 = .ok (.ifCond .ne 5, 3) := by decide +kernel
theorem dX12_law_12 : decode cX12_law 12 = .ok (.iconst (-1), 1) := by decide +kernel
theorem dX12_law_13 : decode cX12_law 13 = .ok (.ireturn, 1) := by decide +kernel
theorem dX12_law_14 : decode cX12_law 14 = .ok (.aload_n 0, 1) := by decide +kernel
theorem dX12_law_15 : decode cX12_law 15 = .ok (.getfield 187, 3) := by decide +kernel
theorem dX12_law_18 : decode cX12_law 18 = .ok (.istore_n 2, 1) := by decide +kernel
theorem dX12_law_19 : decode cX12_law 19 = .ok (.aload_n 0, 1) := by decide +kernel
theorem dX12_law_20 : decode cX12_law 20 = .ok (.iload_n 1, 1) := by decide +kernel
theorem dX12_law_21 : decode cX12_law 21 = .ok (.putfield 187, 3) := by decide +kernel
theorem dX12_law_24 : decode cX12_law 24 = .ok (.iload_n 2, 1) := by decide +kernel
theorem dX12_law_25 : decode cX12_law 25 = .ok (.ireturn, 1) := by decide +kernel
theorem dX12_walks1_0 : decode cX12_walks1 0 = .ok (.aload_n 0, 1) := by decide +kernel
theorem dX12_walks1_1 : decode cX12_walks1 1 = .ok (.getfield 47, 3) := by decide +kernel
theorem dX12_walks1_4 : decode cX12_walks1 4 = .ok (.aload_n 0, 1) := by decide +kernel
theorem dX12_walks1_5 : decode cX12_walks1 5 = .ok (.getfield 172, 3) := by decide +kernel
theorem dX12_walks1_8 : decode cX12_walks1 8 = .ok (.iload_n 1, 1) := by decide +kernel
theorem dX12_walks1_9 : decode cX12_walks1 9 = .ok (.iastore, 1) := by decide +kernel
theorem dX12_walks1_10 : decode cX12_walks1 10 = .ok (.aload_n 0, 1) := by decide +kernel
theorem dX12_walks1_11 : decode cX12_walks1 11 = .ok (.getfield 50, 3) := by decide +kernel
theorem dX12_walks1_14 : decode cX12_walks1 14 = .ok (.aload_n 0, 1) := by decide +kernel
theorem dX12_walks1_15 : decode cX12_walks1 15 = .ok (.getfield 172, 3) := by decide +kernel
theorem dX12_walks1_18 : decode cX12_walks1 18 = .ok (.aload_n 0, 1) := by decide +kernel
theorem dX12_walks1_19 : decode cX12_walks1 19 = .ok (.getfield 184, 3) := by decide +kernel
theorem dX12_walks1_22 : decode cX12_walks1 22 = .ok (.iastore, 1) := by decide +kernel
theorem dX12_walks1_23 : decode cX12_walks1 23 = .ok (.aload_n 0, 1) := by decide +kernel
theorem dX12_walks1_24 : decode cX12_walks1 24 = .ok (.aload_n 0, 1) := by decide +kernel
theorem dX12_walks1_25 : decode cX12_walks1 25 = .ok (.aload_n 0, 1) := by decide +kernel
theorem dX12_walks1_26 : decode cX12_walks1 26 = .ok (.getfield 184, 3) := by decide +kernel
theorem dX12_walks1_29 : decode cX12_walks1 29 = .ok (.iload_n 1, 1) := by decide +kernel
theorem dX12_walks1_30 : decode cX12_walks1 30 = .ok (.aload_n 0, 1) := by decide +kernel
theorem dX12_walks1_31 : decode cX12_walks1 31 = .ok (.getfield 187, 3) := by decide +kernel
theorem dX12_walks1_34 : decode cX12_walks1 34 = .ok (.invokevirtual 235, 3) := by decide +kernel
theorem dX12_walks1_37 : decode cX12_walks1 37 = .ok (.putfield 184, 3) := by decide +kernel
theorem dX12_walks1_40 : decode cX12_walks1 40 = .ok (.aload_n 0, 1) := by decide +kernel
theorem dX12_walks1_41 : decode cX12_walks1 41 = .ok (.getfield 53, 3) := by decide +kernel
theorem dX12_walks1_44 : decode cX12_walks1 44 = .ok (.aload_n 0, 1) := by decide +kernel
theorem dX12_walks1_45 : decode cX12_walks1 45 = .ok (.getfield 172, 3) := by decide +kernel
theorem dX12_walks1_48 : decode cX12_walks1 48 = .ok (.aload_n 0, 1) := by decide +kernel
theorem dX12_walks1_49 : decode cX12_walks1 49 = .ok (.getfield 203, 3) := by decide +kernel
theorem dX12_walks1_52 : decode cX12_walks1 52 = .ok (.iastore, 1) := by decide +kernel
theorem dX12_walks1_53 : decode cX12_walks1 53 = .ok (.aload_n 0, 1) := by decide +kernel
theorem dX12_walks1_54 : decode cX12_walks1 54 = .ok (.getfield 41, 3) := by decide +kernel
theorem dX12_walks1_57 : decode cX12_walks1 57 = .ok (.iload_n 1, 1) := by decide +kernel
theorem dX12_walks1_58 : decode cX12_walks1 58 = .ok (.dup2, 1) := by decide +kernel
theorem dX12_walks1_59 : decode cX12_walks1 59 = .ok (.iaload, 1) := by decide +kernel
theorem dX12_walks1_60 : decode cX12_walks1 60 = .ok (.aload_n 0, 1) := by decide +kernel
theorem dX12_walks1_61 : decode cX12_walks1 61 = .ok (.getfield 203, 3) := by decide +kernel
theorem dX12_walks1_64 : decode cX12_walks1 64 = .ok (.iadd, 1) := by decide +kernel
theorem dX12_walks1_65 : decode cX12_walks1 65 = .ok (.iastore, 1) := by decide +kernel
theorem dX12_walks1_66 : decode cX12_walks1 66 = .ok (.iconst 0, 1) := by decide +kernel
theorem dX12_walks1_67 : decode cX12_walks1 67 = .ok (.istore_n 2, 1) := by decide +kernel
theorem dX12_walks1_68 : decode cX12_walks1 68 = .ok (.iload_n 2, 1) := by decide +kernel
theorem dX12_walks1_69 : decode cX12_walks1 69 = .ok (.iconst 5, 1) := by decide +kernel
theorem dX12_walks1_70 : decode cX12_walks1 70 = .ok (.if_icmp .ge 43, 3) := by decide +kernel
theorem dX12_walks1_73 : decode cX12_walks1 73 = .ok (.aload_n 0, 1) := by decide +kernel
theorem dX12_walks1_74 : decode cX12_walks1 74 = .ok (.getfield 56, 3) := by decide +kernel
theorem dX12_walks1_77 : decode cX12_walks1 77 = .ok (.iconst 5, 1) := by decide +kernel
theorem dX12_walks1_78 : decode cX12_walks1 78 = .ok (.aload_n 0, 1) := by decide +kernel
theorem dX12_walks1_79 : decode cX12_walks1 79 = .ok (.getfield 172, 3) := by decide +kernel
theorem dX12_walks1_82 : decode cX12_walks1 82 = .ok (.imul, 1) := by decide +kernel
theorem dX12_walks1_83 : decode cX12_walks1 83 = .ok (.iload_n 2, 1) := by decide +kernel
theorem dX12_walks1_84 : decode cX12_walks1 84 = .ok (.iadd, 1) := by decide +kernel
theorem dX12_walks1_85 : decode cX12_walks1 85 = .ok (.aload_n 0, 1) := by decide +kernel
theorem dX12_walks1_86 : decode cX12_walks1 86 = .ok (.getfield 83, 3) := by decide +kernel
theorem dX12_walks1_89 : decode cX12_walks1 89 = .ok (.iload_n 2, 1) := by decide +kernel
theorem dX12_walks1_90 : decode cX12_walks1 90 = .ok (.iaload, 1) := by decide +kernel
theorem dX12_walks1_91 : decode cX12_walks1 91 = .ok (.iastore, 1) := by decide +kernel
theorem dX12_walks1_92 : decode cX12_walks1 92 = .ok (.aload_n 0, 1) := by decide +kernel
theorem dX12_walks1_93 : decode cX12_walks1 93 = .ok (.getfield 44, 3) := by decide +kernel
theorem dX12_walks1_96 : decode cX12_walks1 96 = .ok (.iload_n 2, 1) := by decide +kernel
theorem dX12_walks1_97 : decode cX12_walks1 97 = .ok (.dup2, 1) := by decide +kernel
theorem dX12_walks1_98 : decode cX12_walks1 98 = .ok (.iaload, 1) := by decide +kernel
theorem dX12_walks1_99 : decode cX12_walks1 99 = .ok (.aload_n 0, 1) := by decide +kernel
theorem dX12_walks1_100 : decode cX12_walks1 100 = .ok (.getfield 83, 3) := by decide +kernel
theorem dX12_walks1_103 : decode cX12_walks1 103 = .ok (.iload_n 2, 1) := by decide +kernel
theorem dX12_walks1_104 : decode cX12_walks1 104 = .ok (.iaload, 1) := by decide +kernel
theorem dX12_walks1_105 : decode cX12_walks1 105 = .ok (.iadd, 1) := by decide +kernel
theorem dX12_walks1_106 : decode cX12_walks1 106 = .ok (.iastore, 1) := by decide +kernel
theorem dX12_walks1_107 : decode cX12_walks1 107 = .ok (.iinc 2 1, 3) := by decide +kernel
theorem dX12_walks1_110 : decode cX12_walks1 110 = .ok (.goto (-42), 3) := by decide +kernel
theorem dX12_walks1_113 : decode cX12_walks1 113 = .ok (.aload_n 0, 1) := by decide +kernel
theorem dX12_walks1_114 : decode cX12_walks1 114 = .ok (.dup, 1) := by decide +kernel
theorem dX12_walks1_115 : decode cX12_walks1 115 = .ok (.getfield 172, 3) := by decide +kernel
theorem dX12_walks1_118 : decode cX12_walks1 118 = .ok (.iconst 1, 1) := by decide +kernel
theorem dX12_walks1_119 : decode cX12_walks1 119 = .ok (.iadd, 1) := by decide +kernel
theorem dX12_walks1_120 : decode cX12_walks1 120 = .ok (.putfield 172, 3) := by decide +kernel
theorem dX12_walks1_123 : decode cX12_walks1 123 = .ok (.aload_n 0, 1) := by decide +kernel
theorem dX12_walks1_124 : decode cX12_walks1 124 = .ok (.getfield 203, 3) := by decide +kernel
theorem dX12_walks1_127 : decode cX12_walks1 127 = .ok (.ireturn, 1) := by decide +kernel
theorem dX12_walk_0 : decode cX12_walk 0 = .ok (.aload_n 0, 1) := by decide +kernel
theorem dX12_walk_1 : decode cX12_walk 1 = .ok (.iload_n 1, 1) := by decide +kernel
theorem dX12_walk_2 : decode cX12_walk 2 = .ok (.invokevirtual 228, 3) := by decide +kernel
theorem dX12_walk_5 : decode cX12_walk 5 = .ok (.ifCond .ne 5, 3) := by decide +kernel
theorem dX12_walk_8 : decode cX12_walk 8 = .ok (.iconst (-1), 1) := by decide +kernel
theorem dX12_walk_9 : decode cX12_walk 9 = .ok (.ireturn, 1) := by decide +kernel
theorem dX12_walk_10 : decode cX12_walk 10 = .ok (.aload_n 0, 1) := by decide +kernel
theorem dX12_walk_11 : decode cX12_walk 11 = .ok (.getfield 172, 3) := by decide +kernel
theorem dX12_walk_14 : decode cX12_walk 14 = .ok (.bipush 60, 2) := by decide +kernel
theorem dX12_walk_16 : decode cX12_walk 16 = .ok (.if_icmp .ne 8, 3) := by decide +kernel
theorem dX12_walk_19 : decode cX12_walk 19 = .ok (.bipush (-2), 2) := by decide +kernel
theorem dX12_walk_21 : decode cX12_walk 21 = .ok (.goto 8, 3) := by decide +kernel
theorem dX12_walk_24 : decode cX12_walk 24 = .ok (.aload_n 0, 1) := by decide +kernel
theorem dX12_walk_25 : decode cX12_walk 25 = .ok (.iload_n 1, 1) := by decide +kernel
theorem dX12_walk_26 : decode cX12_walk 26 = .ok (.invokevirtual 241, 3) := by decide +kernel
theorem dX12_walk_29 : decode cX12_walk 29 = .ok (.ireturn, 1) := by decide +kernel
theorem dX12_pays_0 : decode cX12_pays 0 = .ok (.aload_n 0, 1) := by decide +kernel
theorem dX12_pays_1 : decode cX12_pays 1 = .ok (.iload_n 1, 1) := by decide +kernel
theorem dX12_pays_2 : decode cX12_pays 2 = .ok (.invokevirtual 228, 3) := by decide +kernel
theorem dX12_pays_5 : decode cX12_pays 5 = .ok (.ifCond .ne 5, 3) := by decide +kernel
theorem dX12_pays_8 : decode cX12_pays 8 = .ok (.iconst (-1), 1) := by decide +kernel
theorem dX12_pays_9 : decode cX12_pays 9 = .ok (.ireturn, 1) := by decide +kernel
theorem dX12_pays_10 : decode cX12_pays 10 = .ok (.aload_n 0, 1) := by decide +kernel
theorem dX12_pays_11 : decode cX12_pays 11 = .ok (.aload_n 0, 1) := by decide +kernel
theorem dX12_pays_12 : decode cX12_pays 12 = .ok (.aload_n 0, 1) := by decide +kernel
theorem dX12_pays_13 : decode cX12_pays 13 = .ok (.aload_n 0, 1) := by decide +kernel
theorem dX12_pays_14 : decode cX12_pays 14 = .ok (.getfield 184, 3) := by decide +kernel
theorem dX12_pays_17 : decode cX12_pays 17 = .ok (.iload_n 1, 1) := by decide +kernel
theorem dX12_pays_18 : decode cX12_pays 18 = .ok (.aload_n 0, 1) := by decide +kernel
theorem dX12_pays_19 : decode cX12_pays 19 = .ok (.getfield 187, 3) := by decide +kernel
theorem dX12_pays_22 : decode cX12_pays 22 = .ok (.invokevirtual 235, 3) := by decide +kernel
theorem dX12_pays_25 : decode cX12_pays 25 = .ok (.invokevirtual 244, 3) := by decide +kernel
theorem dX12_pays_28 : decode cX12_pays 28 = .ok (.putfield 104, 3) := by decide +kernel
theorem dX12_pays_31 : decode cX12_pays 31 = .ok (.aload_n 0, 1) := by decide +kernel
theorem dX12_pays_32 : decode cX12_pays 32 = .ok (.getfield 203, 3) := by decide +kernel
theorem dX12_pays_35 : decode cX12_pays 35 = .ok (.ireturn, 1) := by decide +kernel
theorem dX12_undo_0 : decode cX12_undo 0 = .ok (.iload_n 1, 1) := by decide +kernel
theorem dX12_undo_1 : decode cX12_undo 1 = .ok (.i2l, 1) := by decide +kernel
theorem dX12_undo_2 : decode cX12_undo 2 = .ok (.lconst 0, 1) := by decide +kernel
theorem dX12_undo_3 : decode cX12_undo 3 = .ok (.aload_n 0, 1) := by decide +kernel
theorem dX12_undo_4 : decode cX12_undo 4 = .ok (.getfield 172, 3) := by decide +kernel
theorem dX12_undo_7 : decode cX12_undo 7 = .ok (.i2l, 1) := by decide +kernel
theorem dX12_undo_8 : decode cX12_undo 8 = .ok (.invokestatic 109, 3) := by decide +kernel
theorem dX12_undo_11 : decode cX12_undo 11 = .ok (.ifCond .ne 5, 3) := by decide +kernel
theorem dX12_undo_14 : decode cX12_undo 14 = .ok (.iconst (-1), 1) := by decide +kernel
theorem dX12_undo_15 : decode cX12_undo 15 = .ok (.ireturn, 1) := by decide +kernel
theorem dX12_undo_16 : decode cX12_undo 16 = .ok (.aload_n 0, 1) := by decide +kernel
theorem dX12_undo_17 : decode cX12_undo 17 = .ok (.getfield 172, 3) := by decide +kernel
theorem dX12_undo_20 : decode cX12_undo 20 = .ok (.iload_n 1, 1) := by decide +kernel
theorem dX12_undo_21 : decode cX12_undo 21 = .ok (.isub, 1) := by decide +kernel
theorem dX12_undo_22 : decode cX12_undo 22 = .ok (.istore_n 2, 1) := by decide +kernel
theorem dX12_undo_23 : decode cX12_undo 23 = .ok (.aload_n 0, 1) := by decide +kernel
theorem dX12_undo_24 : decode cX12_undo 24 = .ok (.getfield 172, 3) := by decide +kernel
theorem dX12_undo_27 : decode cX12_undo 27 = .ok (.iload_n 1, 1) := by decide +kernel
theorem dX12_undo_28 : decode cX12_undo 28 = .ok (.if_icmp .le 90, 3) := by decide +kernel
theorem dX12_undo_31 : decode cX12_undo 31 = .ok (.aload_n 0, 1) := by decide +kernel
theorem dX12_undo_32 : decode cX12_undo 32 = .ok (.dup, 1) := by decide +kernel
theorem dX12_undo_33 : decode cX12_undo 33 = .ok (.getfield 172, 3) := by decide +kernel
theorem dX12_undo_36 : decode cX12_undo 36 = .ok (.iconst 1, 1) := by decide +kernel
theorem dX12_undo_37 : decode cX12_undo 37 = .ok (.isub, 1) := by decide +kernel
theorem dX12_undo_38 : decode cX12_undo 38 = .ok (.putfield 172, 3) := by decide +kernel
theorem dX12_undo_41 : decode cX12_undo 41 = .ok (.aload_n 0, 1) := by decide +kernel
theorem dX12_undo_42 : decode cX12_undo 42 = .ok (.aload_n 0, 1) := by decide +kernel
theorem dX12_undo_43 : decode cX12_undo 43 = .ok (.getfield 50, 3) := by decide +kernel
theorem dX12_undo_46 : decode cX12_undo 46 = .ok (.aload_n 0, 1) := by decide +kernel
theorem dX12_undo_47 : decode cX12_undo 47 = .ok (.getfield 172, 3) := by decide +kernel
theorem dX12_undo_50 : decode cX12_undo 50 = .ok (.iaload, 1) := by decide +kernel
theorem dX12_undo_51 : decode cX12_undo 51 = .ok (.putfield 184, 3) := by decide +kernel
theorem dX12_undo_54 : decode cX12_undo 54 = .ok (.aload_n 0, 1) := by decide +kernel
theorem dX12_undo_55 : decode cX12_undo 55 = .ok (.getfield 41, 3) := by decide +kernel
theorem dX12_undo_58 : decode cX12_undo 58 = .ok (.aload_n 0, 1) := by decide +kernel
theorem dX12_undo_59 : decode cX12_undo 59 = .ok (.getfield 47, 3) := by decide +kernel
theorem dX12_undo_62 : decode cX12_undo 62 = .ok (.aload_n 0, 1) := by decide +kernel
theorem dX12_undo_63 : decode cX12_undo 63 = .ok (.getfield 172, 3) := by decide +kernel
theorem dX12_undo_66 : decode cX12_undo 66 = .ok (.iaload, 1) := by decide +kernel
theorem dX12_undo_67 : decode cX12_undo 67 = .ok (.dup2, 1) := by decide +kernel
theorem dX12_undo_68 : decode cX12_undo 68 = .ok (.iaload, 1) := by decide +kernel
theorem dX12_undo_69 : decode cX12_undo 69 = .ok (.aload_n 0, 1) := by decide +kernel
theorem dX12_undo_70 : decode cX12_undo 70 = .ok (.getfield 53, 3) := by decide +kernel
theorem dX12_undo_73 : decode cX12_undo 73 = .ok (.aload_n 0, 1) := by decide +kernel
theorem dX12_undo_74 : decode cX12_undo 74 = .ok (.getfield 172, 3) := by decide +kernel
theorem dX12_undo_77 : decode cX12_undo 77 = .ok (.iaload, 1) := by decide +kernel
theorem dX12_undo_78 : decode cX12_undo 78 = .ok (.isub, 1) := by decide +kernel
theorem dX12_undo_79 : decode cX12_undo 79 = .ok (.iastore, 1) := by decide +kernel
theorem dX12_undo_80 : decode cX12_undo 80 = .ok (.iconst 0, 1) := by decide +kernel
theorem dX12_undo_81 : decode cX12_undo 81 = .ok (.istore_n 3, 1) := by decide +kernel
theorem dX12_undo_82 : decode cX12_undo 82 = .ok (.iload_n 3, 1) := by decide +kernel
theorem dX12_undo_83 : decode cX12_undo 83 = .ok (.iconst 5, 1) := by decide +kernel
theorem dX12_undo_84 : decode cX12_undo 84 = .ok (.if_icmp .ge 31, 3) := by decide +kernel
theorem dX12_undo_87 : decode cX12_undo 87 = .ok (.aload_n 0, 1) := by decide +kernel
theorem dX12_undo_88 : decode cX12_undo 88 = .ok (.getfield 44, 3) := by decide +kernel
theorem dX12_undo_91 : decode cX12_undo 91 = .ok (.iload_n 3, 1) := by decide +kernel
theorem dX12_undo_92 : decode cX12_undo 92 = .ok (.dup2, 1) := by decide +kernel
theorem dX12_undo_93 : decode cX12_undo 93 = .ok (.iaload, 1) := by decide +kernel
theorem dX12_undo_94 : decode cX12_undo 94 = .ok (.aload_n 0, 1) := by decide +kernel
theorem dX12_undo_95 : decode cX12_undo 95 = .ok (.getfield 56, 3) := by decide +kernel
theorem dX12_undo_98 : decode cX12_undo 98 = .ok (.iconst 5, 1) := by decide +kernel
theorem dX12_undo_99 : decode cX12_undo 99 = .ok (.aload_n 0, 1) := by decide +kernel
theorem dX12_undo_100 : decode cX12_undo 100 = .ok (.getfield 172, 3) := by decide +kernel
theorem dX12_undo_103 : decode cX12_undo 103 = .ok (.imul, 1) := by decide +kernel
theorem dX12_undo_104 : decode cX12_undo 104 = .ok (.iload_n 3, 1) := by decide +kernel
theorem dX12_undo_105 : decode cX12_undo 105 = .ok (.iadd, 1) := by decide +kernel
theorem dX12_undo_106 : decode cX12_undo 106 = .ok (.iaload, 1) := by decide +kernel
theorem dX12_undo_107 : decode cX12_undo 107 = .ok (.isub, 1) := by decide +kernel
theorem dX12_undo_108 : decode cX12_undo 108 = .ok (.iastore, 1) := by decide +kernel
theorem dX12_undo_109 : decode cX12_undo 109 = .ok (.iinc 3 1, 3) := by decide +kernel
theorem dX12_undo_112 : decode cX12_undo 112 = .ok (.goto (-30), 3) := by decide +kernel
theorem dX12_undo_115 : decode cX12_undo 115 = .ok (.goto (-92), 3) := by decide +kernel
theorem dX12_undo_118 : decode cX12_undo 118 = .ok (.iload_n 2, 1) := by decide +kernel
theorem dX12_undo_119 : decode cX12_undo 119 = .ok (.ireturn, 1) := by decide +kernel
theorem dX12_walks_0 : decode cX12_walks 0 = .ok (.iload_n 1, 1) := by decide +kernel
theorem dX12_walks_1 : decode cX12_walks 1 = .ok (.invokestatic 115, 3) := by decide +kernel
theorem dX12_walks_4 : decode cX12_walks 4 = .ok (.ifCond .ne 5, 3) := by decide +kernel
theorem dX12_walks_7 : decode cX12_walks 7 = .ok (.iconst (-1), 1) := by decide +kernel
theorem dX12_walks_8 : decode cX12_walks 8 = .ok (.ireturn, 1) := by decide +kernel
theorem dX12_walks_9 : decode cX12_walks 9 = .ok (.aload_n 0, 1) := by decide +kernel
theorem dX12_walks_10 : decode cX12_walks 10 = .ok (.getfield 7, 3) := by decide +kernel
theorem dX12_walks_13 : decode cX12_walks 13 = .ok (.iload_n 1, 1) := by decide +kernel
theorem dX12_walks_14 : decode cX12_walks 14 = .ok (.iaload, 1) := by decide +kernel
theorem dX12_walks_15 : decode cX12_walks 15 = .ok (.ifCond .ge 9, 3) := by decide +kernel
theorem dX12_walks_18 : decode cX12_walks 18 = .ok (.aload_n 0, 1) := by decide +kernel
theorem dX12_walks_19 : decode cX12_walks 19 = .ok (.iconst 1, 1) := by decide +kernel
theorem dX12_walks_20 : decode cX12_walks 20 = .ok (.invokevirtual 119, 3) := by decide +kernel
theorem dX12_walks_23 : decode cX12_walks 23 = .ok (.ireturn, 1) := by decide +kernel
theorem dX12_walks_24 : decode cX12_walks 24 = .ok (.iconst 0, 1) := by decide +kernel
theorem dX12_walks_25 : decode cX12_walks 25 = .ok (.istore_n 2, 1) := by decide +kernel
theorem dX12_walks_26 : decode cX12_walks 26 = .ok (.iload_n 2, 1) := by decide +kernel
theorem dX12_walks_27 : decode cX12_walks 27 = .ok (.aload_n 0, 1) := by decide +kernel
theorem dX12_walks_28 : decode cX12_walks 28 = .ok (.getfield 7, 3) := by decide +kernel
theorem dX12_walks_31 : decode cX12_walks 31 = .ok (.iload_n 1, 1) := by decide +kernel
theorem dX12_walks_32 : decode cX12_walks 32 = .ok (.iaload, 1) := by decide +kernel
theorem dX12_walks_33 : decode cX12_walks 33 = .ok (.if_icmp .ge 33, 3) := by decide +kernel
theorem dX12_walks_36 : decode cX12_walks 36 = .ok (.aload_n 0, 1) := by decide +kernel
theorem dX12_walks_37 : decode cX12_walks 37 = .ok (.aload_n 0, 1) := by decide +kernel
theorem dX12_walks_38 : decode cX12_walks 38 = .ok (.getfield 13, 3) := by decide +kernel
theorem dX12_walks_41 : decode cX12_walks 41 = .ok (.bipush 60, 2) := by decide +kernel
theorem dX12_walks_43 : decode cX12_walks 43 = .ok (.iload_n 1, 1) := by decide +kernel
theorem dX12_walks_44 : decode cX12_walks 44 = .ok (.imul, 1) := by decide +kernel
theorem dX12_walks_45 : decode cX12_walks 45 = .ok (.iload_n 2, 1) := by decide +kernel
theorem dX12_walks_46 : decode cX12_walks 46 = .ok (.iadd, 1) := by decide +kernel
theorem dX12_walks_47 : decode cX12_walks 47 = .ok (.iaload, 1) := by decide +kernel
theorem dX12_walks_48 : decode cX12_walks 48 = .ok (.invokevirtual 228, 3) := by decide +kernel
theorem dX12_walks_51 : decode cX12_walks 51 = .ok (.ifCond .ne 9, 3) := by decide +kernel
theorem dX12_walks_54 : decode cX12_walks 54 = .ok (.aload_n 0, 1) := by decide +kernel
theorem dX12_walks_55 : decode cX12_walks 55 = .ok (.iconst 3, 1) := by decide +kernel
theorem dX12_walks_56 : decode cX12_walks 56 = .ok (.invokevirtual 119, 3) := by decide +kernel
theorem dX12_walks_59 : decode cX12_walks 59 = .ok (.ireturn, 1) := by decide +kernel
theorem dX12_walks_60 : decode cX12_walks 60 = .ok (.iinc 2 1, 3) := by decide +kernel
theorem dX12_walks_63 : decode cX12_walks 63 = .ok (.goto (-37), 3) := by decide +kernel
theorem dX12_walks_66 : decode cX12_walks 66 = .ok (.aload_n 0, 1) := by decide +kernel
theorem dX12_walks_67 : decode cX12_walks 67 = .ok (.getfield 172, 3) := by decide +kernel
theorem dX12_walks_70 : decode cX12_walks 70 = .ok (.aload_n 0, 1) := by decide +kernel
theorem dX12_walks_71 : decode cX12_walks 71 = .ok (.getfield 7, 3) := by decide +kernel
theorem dX12_walks_74 : decode cX12_walks 74 = .ok (.iload_n 1, 1) := by decide +kernel
theorem dX12_walks_75 : decode cX12_walks 75 = .ok (.iaload, 1) := by decide +kernel
theorem dX12_walks_76 : decode cX12_walks 76 = .ok (.iadd, 1) := by decide +kernel
theorem dX12_walks_77 : decode cX12_walks 77 = .ok (.bipush 60, 2) := by decide +kernel
theorem dX12_walks_79 : decode cX12_walks 79 = .ok (.if_icmp .le 6, 3) := by decide +kernel
theorem dX12_walks_82 : decode cX12_walks 82 = .ok (.bipush (-2), 2) := by decide +kernel
theorem dX12_walks_84 : decode cX12_walks 84 = .ok (.ireturn, 1) := by decide +kernel
theorem dX12_walks_85 : decode cX12_walks 85 = .ok (.iconst 0, 1) := by decide +kernel
theorem dX12_walks_86 : decode cX12_walks 86 = .ok (.istore_n 2, 1) := by decide +kernel
theorem dX12_walks_87 : decode cX12_walks 87 = .ok (.iconst 0, 1) := by decide +kernel
theorem dX12_walks_88 : decode cX12_walks 88 = .ok (.istore_n 3, 1) := by decide +kernel
theorem dX12_walks_89 : decode cX12_walks 89 = .ok (.iload_n 3, 1) := by decide +kernel
theorem dX12_walks_90 : decode cX12_walks 90 = .ok (.aload_n 0, 1) := by decide +kernel
theorem dX12_walks_91 : decode cX12_walks 91 = .ok (.getfield 7, 3) := by decide +kernel
theorem dX12_walks_94 : decode cX12_walks 94 = .ok (.iload_n 1, 1) := by decide +kernel
theorem dX12_walks_95 : decode cX12_walks 95 = .ok (.iaload, 1) := by decide +kernel
theorem dX12_walks_96 : decode cX12_walks 96 = .ok (.if_icmp .ge 27, 3) := by decide +kernel
theorem dX12_walks_99 : decode cX12_walks 99 = .ok (.iload_n 2, 1) := by decide +kernel
theorem dX12_walks_100 : decode cX12_walks 100 = .ok (.aload_n 0, 1) := by decide +kernel
theorem dX12_walks_101 : decode cX12_walks 101 = .ok (.aload_n 0, 1) := by decide +kernel
theorem dX12_walks_102 : decode cX12_walks 102 = .ok (.getfield 13, 3) := by decide +kernel
theorem dX12_walks_105 : decode cX12_walks 105 = .ok (.bipush 60, 2) := by decide +kernel
theorem dX12_walks_107 : decode cX12_walks 107 = .ok (.iload_n 1, 1) := by decide +kernel
theorem dX12_walks_108 : decode cX12_walks 108 = .ok (.imul, 1) := by decide +kernel
theorem dX12_walks_109 : decode cX12_walks 109 = .ok (.iload_n 3, 1) := by decide +kernel
theorem dX12_walks_110 : decode cX12_walks 110 = .ok (.iadd, 1) := by decide +kernel
theorem dX12_walks_111 : decode cX12_walks 111 = .ok (.iaload, 1) := by decide +kernel
theorem dX12_walks_112 : decode cX12_walks 112 = .ok (.invokevirtual 241, 3) := by decide +kernel
theorem dX12_walks_115 : decode cX12_walks 115 = .ok (.iadd, 1) := by decide +kernel
theorem dX12_walks_116 : decode cX12_walks 116 = .ok (.istore_n 2, 1) := by decide +kernel
theorem dX12_walks_117 : decode cX12_walks 117 = .ok (.iinc 3 1, 3) := by decide +kernel
theorem dX12_walks_120 : decode cX12_walks 120 = .ok (.goto (-31), 3) := by decide +kernel
theorem dX12_walks_123 : decode cX12_walks 123 = .ok (.iload_n 2, 1) := by decide +kernel
theorem dX12_walks_124 : decode cX12_walks 124 = .ok (.ireturn, 1) := by decide +kernel
theorem dX12_where_0 : decode cX12_where 0 = .ok (.iload_n 1, 1) := by decide +kernel
theorem dX12_where_1 : decode cX12_where 1 = .ok (.invokestatic 115, 3) := by decide +kernel
theorem dX12_where_4 : decode cX12_where 4 = .ok (.ifCond .ne 5, 3) := by decide +kernel
theorem dX12_where_7 : decode cX12_where 7 = .ok (.iconst (-1), 1) := by decide +kernel
theorem dX12_where_8 : decode cX12_where 8 = .ok (.ireturn, 1) := by decide +kernel
theorem dX12_where_9 : decode cX12_where 9 = .ok (.aload_n 0, 1) := by decide +kernel
theorem dX12_where_10 : decode cX12_where 10 = .ok (.iload_n 1, 1) := by decide +kernel
theorem dX12_where_11 : decode cX12_where 11 = .ok (.aload_n 0, 1) := by decide +kernel
theorem dX12_where_12 : decode cX12_where 12 = .ok (.getfield 178, 3) := by decide +kernel
theorem dX12_where_15 : decode cX12_where 15 = .ok (.invokevirtual 123, 3) := by decide +kernel
theorem dX12_where_18 : decode cX12_where 18 = .ok (.iconst 0, 1) := by decide +kernel
theorem dX12_where_19 : decode cX12_where 19 = .ok (.istore_n 2, 1) := by decide +kernel
theorem dX12_where_20 : decode cX12_where 20 = .ok (.iconst 0, 1) := by decide +kernel
