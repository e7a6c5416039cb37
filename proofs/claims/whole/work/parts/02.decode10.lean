theorem dX12_fewestBy_50 : decode cX12_fewestBy 50 = .ok (.iaload, 1) := by decide +kernel
theorem dX12_fewestBy_51 : decode cX12_fewestBy 51 = .ok (.invokevirtual 282, 3) := by decide +kernel
theorem dX12_fewestBy_54 : decode cX12_fewestBy 54 = .ok (.ifCond .eq 25, 3) := by decide +kernel
theorem dX12_fewestBy_57 : decode cX12_fewestBy 57 = .ok (.aload_n 0, 1) := by decide +kernel
theorem dX12_fewestBy_58 : decode cX12_fewestBy 58 = .ok (.getfield 93, 3) := by decide +kernel
theorem dX12_fewestBy_61 : decode cX12_fewestBy 61 = .ok (.aload_n 0, 1) := by decide +kernel
theorem dX12_fewestBy_62 : decode cX12_fewestBy 62 = .ok (.getfield 90, 3) := by decide +kernel
theorem dX12_fewestBy_65 : decode cX12_fewestBy 65 = .ok (.iload_n 3, 1) := by decide +kernel
theorem dX12_fewestBy_66 : decode cX12_fewestBy 66 = .ok (.iaload, 1) := by decide +kernel
theorem dX12_fewestBy_67 : decode cX12_fewestBy 67 = .ok (.iaload, 1) := by decide +kernel
theorem dX12_fewestBy_68 : decode cX12_fewestBy 68 = .ok (.istore_n 2, 1) := by decide +kernel
theorem dX12_fewestBy_69 : decode cX12_fewestBy 69 = .ok (.aload_n 0, 1) := by decide +kernel
theorem dX12_fewestBy_70 : decode cX12_fewestBy 70 = .ok (.dup, 1) := by decide +kernel
theorem dX12_fewestBy_71 : decode cX12_fewestBy 71 = .ok (.getfield 279, 3) := by decide +kernel
theorem dX12_fewestBy_74 : decode cX12_fewestBy 74 = .ok (.iconst 1, 1) := by decide +kernel
theorem dX12_fewestBy_75 : decode cX12_fewestBy 75 = .ok (.iadd, 1) := by decide +kernel
theorem dX12_fewestBy_76 : decode cX12_fewestBy 76 = .ok (.putfield 279, 3) := by decide +kernel
theorem dX12_fewestBy_79 : decode cX12_fewestBy 79 = .ok (.iinc 3 1, 3) := by decide +kernel
theorem dX12_fewestBy_82 : decode cX12_fewestBy 82 = .ok (.goto (-67), 3) := by decide +kernel
theorem dX12_fewestBy_85 : decode cX12_fewestBy 85 = .ok (.iload_n 2, 1) := by decide +kernel
theorem dX12_fewestBy_86 : decode cX12_fewestBy 86 = .ok (.ireturn, 1) := by decide +kernel
theorem dX12_fewest_0 : decode cX12_fewest 0 = .ok (.aload_n 0, 1) := by decide +kernel
theorem dX12_fewest_1 : decode cX12_fewest 1 = .ok (.getfield 175, 3) := by decide +kernel
theorem dX12_fewest_4 : decode cX12_fewest 4 = .ok (.ifCond .ne 6, 3) := by decide +kernel
theorem dX12_fewest_7 : decode cX12_fewest 7 = .ok (.bipush (-4), 2) := by decide +kernel
theorem dX12_fewest_9 : decode cX12_fewest 9 = .ok (.ireturn, 1) := by decide +kernel
theorem dX12_fewest_10 : decode cX12_fewest 10 = .ok (.aload_n 0, 1) := by decide +kernel
theorem dX12_fewest_11 : decode cX12_fewest 11 = .ok (.aload_n 0, 1) := by decide +kernel
theorem dX12_fewest_12 : decode cX12_fewest 12 = .ok (.getfield 187, 3) := by decide +kernel
theorem dX12_fewest_15 : decode cX12_fewest 15 = .ok (.invokevirtual 285, 3) := by decide +kernel
theorem dX12_fewest_18 : decode cX12_fewest 18 = .ok (.istore_n 1, 1) := by decide +kernel
theorem dX12_fewest_19 : decode cX12_fewest 19 = .ok (.aload_n 0, 1) := by decide +kernel
theorem dX12_fewest_20 : decode cX12_fewest 20 = .ok (.iload_n 1, 1) := by decide +kernel
theorem dX12_fewest_21 : decode cX12_fewest 21 = .ok (.bipush (-9), 2) := by decide +kernel
theorem dX12_fewest_23 : decode cX12_fewest 23 = .ok (.if_icmp .ne 10, 3) := by decide +kernel
theorem dX12_fewest_26 : decode cX12_fewest 26 = .ok (.aload_n 0, 1) := by decide +kernel
theorem dX12_fewest_27 : decode cX12_fewest 27 = .ok (.getfield 104, 3) := by decide +kernel
theorem dX12_fewest_30 : decode cX12_fewest 30 = .ok (.goto 7, 3) := by decide +kernel
theorem dX12_fewest_33 : decode cX12_fewest 33 = .ok (.aload_n 0, 1) := by decide +kernel
theorem dX12_fewest_34 : decode cX12_fewest 34 = .ok (.getfield 279, 3) := by decide +kernel
theorem dX12_fewest_37 : decode cX12_fewest 37 = .ok (.putfield 104, 3) := by decide +kernel
theorem dX12_fewest_40 : decode cX12_fewest 40 = .ok (.iload_n 1, 1) := by decide +kernel
theorem dX12_fewest_41 : decode cX12_fewest 41 = .ok (.ireturn, 1) := by decide +kernel
theorem dX12_way_0 : decode cX12_way 0 = .ok (.iload_n 1, 1) := by decide +kernel
theorem dX12_way_1 : decode cX12_way 1 = .ok (.invokestatic 115, 3) := by decide +kernel
theorem dX12_way_4 : decode cX12_way 4 = .ok (.ifCond .ne 5, 3) := by decide +kernel
theorem dX12_way_7 : decode cX12_way 7 = .ok (.iconst (-1), 1) := by decide +kernel
theorem dX12_way_8 : decode cX12_way 8 = .ok (.ireturn, 1) := by decide +kernel
theorem dX12_way_9 : decode cX12_way 9 = .ok (.aload_n 0, 1) := by decide +kernel
theorem dX12_way_10 : decode cX12_way 10 = .ok (.getfield 175, 3) := by decide +kernel
theorem dX12_way_13 : decode cX12_way 13 = .ok (.ifCond .ne 6, 3) := by decide +kernel
theorem dX12_way_16 : decode cX12_way 16 = .ok (.bipush (-4), 2) := by decide +kernel
theorem dX12_way_18 : decode cX12_way 18 = .ok (.ireturn, 1) := by decide +kernel
theorem dX12_way_19 : decode cX12_way 19 = .ok (.aload_n 0, 1) := by decide +kernel
theorem dX12_way_20 : decode cX12_way 20 = .ok (.aload_n 0, 1) := by decide +kernel
theorem dX12_way_21 : decode cX12_way 21 = .ok (.getfield 187, 3) := by decide +kernel
theorem dX12_way_24 : decode cX12_way 24 = .ok (.invokevirtual 285, 3) := by decide +kernel
theorem dX12_way_27 : decode cX12_way 27 = .ok (.istore_n 2, 1) := by decide +kernel
theorem dX12_way_28 : decode cX12_way 28 = .ok (.iload_n 2, 1) := by decide +kernel
theorem dX12_way_29 : decode cX12_way 29 = .ok (.bipush (-9), 2) := by decide +kernel
theorem dX12_way_31 : decode cX12_way 31 = .ok (.if_icmp .ne 6, 3) := by decide +kernel
theorem dX12_way_34 : decode cX12_way 34 = .ok (.bipush (-9), 2) := by decide +kernel
theorem dX12_way_36 : decode cX12_way 36 = .ok (.ireturn, 1) := by decide +kernel
theorem dX12_way_37 : decode cX12_way 37 = .ok (.iload_n 2, 1) := by decide +kernel
theorem dX12_way_38 : decode cX12_way 38 = .ok (.bipush 60, 2) := by decide +kernel
theorem dX12_way_40 : decode cX12_way 40 = .ok (.if_icmp .le 6, 3) := by decide +kernel
theorem dX12_way_43 : decode cX12_way 43 = .ok (.bipush (-6), 2) := by decide +kernel
theorem dX12_way_45 : decode cX12_way 45 = .ok (.ireturn, 1) := by decide +kernel
theorem dX12_way_46 : decode cX12_way 46 = .ok (.aload_n 0, 1) := by decide +kernel
theorem dX12_way_47 : decode cX12_way 47 = .ok (.getfield 273, 3) := by decide +kernel
theorem dX12_way_50 : decode cX12_way 50 = .ok (.iconst 1, 1) := by decide +kernel
theorem dX12_way_51 : decode cX12_way 51 = .ok (.isub, 1) := by decide +kernel
theorem dX12_way_52 : decode cX12_way 52 = .ok (.istore_n 3, 1) := by decide +kernel
theorem dX12_way_53 : decode cX12_way 53 = .ok (.iload_n 3, 1) := by decide +kernel
theorem dX12_way_54 : decode cX12_way 54 = .ok (.ifCond .lt 143, 3) := by decide +kernel
theorem dX12_way_57 : decode cX12_way 57 = .ok (.aload_n 0, 1) := by decide +kernel
theorem dX12_way_58 : decode cX12_way 58 = .ok (.getfield 90, 3) := by decide +kernel
theorem dX12_way_61 : decode cX12_way 61 = .ok (.iload_n 3, 1) := by decide +kernel
theorem dX12_way_62 : decode cX12_way 62 = .ok (.iaload, 1) := by decide +kernel
theorem dX12_way_63 : decode cX12_way 63 = .ok (.istore 4, 2) := by decide +kernel
theorem dX12_way_65 : decode cX12_way 65 = .ok (.aload_n 0, 1) := by decide +kernel
theorem dX12_way_66 : decode cX12_way 66 = .ok (.getfield 96, 3) := by decide +kernel
theorem dX12_way_69 : decode cX12_way 69 = .ok (.iload 4, 2) := by decide +kernel
theorem dX12_way_71 : decode cX12_way 71 = .ok (.aload_n 0, 1) := by decide +kernel
theorem dX12_way_72 : decode cX12_way 72 = .ok (.getfield 93, 3) := by decide +kernel
theorem dX12_way_75 : decode cX12_way 75 = .ok (.iload 4, 2) := by decide +kernel
theorem dX12_way_77 : decode cX12_way 77 = .ok (.iaload, 1) := by decide +kernel
theorem dX12_way_78 : decode cX12_way 78 = .ok (.iload_n 2, 1) := by decide +kernel
theorem dX12_way_79 : decode cX12_way 79 = .ok (.if_icmp .ne 16, 3) := by decide +kernel
theorem dX12_way_82 : decode cX12_way 82 = .ok (.aload_n 0, 1) := by decide +kernel
theorem dX12_way_83 : decode cX12_way 83 = .ok (.iload 4, 2) := by decide +kernel
theorem dX12_way_85 : decode cX12_way 85 = .ok (.invokevirtual 282, 3) := by decide +kernel
theorem dX12_way_88 : decode cX12_way 88 = .ok (.ifCond .eq 7, 3) := by decide +kernel
theorem dX12_way_91 : decode cX12_way 91 = .ok (.iconst 1, 1) := by decide +kernel
theorem dX12_way_92 : decode cX12_way 92 = .ok (.goto 4, 3) := by decide +kernel
theorem dX12_way_95 : decode cX12_way 95 = .ok (.iconst 0, 1) := by decide +kernel
theorem dX12_way_96 : decode cX12_way 96 = .ok (.bastore, 1) := by decide +kernel
theorem dX12_way_97 : decode cX12_way 97 = .ok (.iconst 0, 1) := by decide +kernel
theorem dX12_way_98 : decode cX12_way 98 = .ok (.istore 5, 2) := by decide +kernel
theorem dX12_way_100 : decode cX12_way 100 = .ok (.iload 5, 2) := by decide +kernel
theorem dX12_way_102 : decode cX12_way 102 = .ok (.aload_n 0, 1) := by decide +kernel
theorem dX12_way_103 : decode cX12_way 103 = .ok (.getfield 181, 3) := by decide +kernel
theorem dX12_way_106 : decode cX12_way 106 = .ok (.if_icmp .ge 85, 3) := by decide +kernel
theorem dX12_way_109 : decode cX12_way 109 = .ok (.aload_n 0, 1) := by decide +kernel
theorem dX12_way_110 : decode cX12_way 110 = .ok (.getfield 93, 3) := by decide +kernel
theorem dX12_way_113 : decode cX12_way 113 = .ok (.iload 4, 2) := by decide +kernel
theorem dX12_way_115 : decode cX12_way 115 = .ok (.iaload, 1) := by decide +kernel
theorem dX12_way_116 : decode cX12_way 116 = .ok (.iload_n 2, 1) := by decide +kernel
theorem dX12_way_117 : decode cX12_way 117 = .ok (.if_icmp .ge 74, 3) := by decide +kernel
theorem dX12_way_120 : decode cX12_way 120 = .ok (.aload_n 0, 1) := by decide +kernel
theorem dX12_way_121 : decode cX12_way 121 = .ok (.iload 4, 2) := by decide +kernel
theorem dX12_way_123 : decode cX12_way 123 = .ok (.iload 5, 2) := by decide +kernel
theorem dX12_way_125 : decode cX12_way 125 = .ok (.aload_n 0, 1) := by decide +kernel
theorem dX12_way_126 : decode cX12_way 126 = .ok (.getfield 187, 3) := by decide +kernel
theorem dX12_way_129 : decode cX12_way 129 = .ok (.invokevirtual 235, 3) := by decide +kernel
theorem dX12_way_132 : decode cX12_way 132 = .ok (.istore 6, 2) := by decide +kernel
theorem dX12_way_134 : decode cX12_way 134 = .ok (.aload_n 0, 1) := by decide +kernel
theorem dX12_way_135 : decode cX12_way 135 = .ok (.getfield 96, 3) := by decide +kernel
theorem dX12_way_138 : decode cX12_way 138 = .ok (.iload 4, 2) := by decide +kernel
theorem dX12_way_140 : decode cX12_way 140 = .ok (.aload_n 0, 1) := by decide +kernel
theorem dX12_way_141 : decode cX12_way 141 = .ok (.getfield 96, 3) := by decide +kernel
theorem dX12_way_144 : decode cX12_way 144 = .ok (.iload 4, 2) := by decide +kernel
theorem dX12_way_146 : decode cX12_way 146 = .ok (.baload, 1) := by decide +kernel
theorem dX12_way_147 : decode cX12_way 147 = .ok (.ifCond .ne 32, 3) := by decide +kernel
theorem dX12_way_150 : decode cX12_way 150 = .ok (.aload_n 0, 1) := by decide +kernel
theorem dX12_way_151 : decode cX12_way 151 = .ok (.getfield 93, 3) := by decide +kernel
theorem dX12_way_154 : decode cX12_way 154 = .ok (.iload 6, 2) := by decide +kernel
theorem dX12_way_156 : decode cX12_way 156 = .ok (.iaload, 1) := by decide +kernel
theorem dX12_way_157 : decode cX12_way 157 = .ok (.aload_n 0, 1) := by decide +kernel
theorem dX12_way_158 : decode cX12_way 158 = .ok (.getfield 93, 3) := by decide +kernel
theorem dX12_way_161 : decode cX12_way 161 = .ok (.iload 4, 2) := by decide +kernel
theorem dX12_way_163 : decode cX12_way 163 = .ok (.iaload, 1) := by decide +kernel
theorem dX12_way_164 : decode cX12_way 164 = .ok (.iconst 1, 1) := by decide +kernel
theorem dX12_way_165 : decode cX12_way 165 = .ok (.iadd, 1) := by decide +kernel
theorem dX12_way_166 : decode cX12_way 166 = .ok (.if_icmp .ne 17, 3) := by decide +kernel
theorem dX12_way_169 : decode cX12_way 169 = .ok (.aload_n 0, 1) := by decide +kernel
theorem dX12_way_170 : decode cX12_way 170 = .ok (.getfield 96, 3) := by decide +kernel
theorem dX12_way_173 : decode cX12_way 173 = .ok (.iload 6, 2) := by decide +kernel
theorem dX12_way_175 : decode cX12_way 175 = .ok (.baload, 1) := by decide +kernel
theorem dX12_way_176 : decode cX12_way 176 = .ok (.ifCond .eq 7, 3) := by decide +kernel
theorem dX12_way_179 : decode cX12_way 179 = .ok (.iconst 1, 1) := by decide +kernel
theorem dX12_way_180 : decode cX12_way 180 = .ok (.goto 4, 3) := by decide +kernel
theorem dX12_way_183 : decode cX12_way 183 = .ok (.iconst 0, 1) := by decide +kernel
theorem dX12_way_184 : decode cX12_way 184 = .ok (.bastore, 1) := by decide +kernel
theorem dX12_way_185 : decode cX12_way 185 = .ok (.iinc 5 1, 3) := by decide +kernel
theorem dX12_way_188 : decode cX12_way 188 = .ok (.goto (-88), 3) := by decide +kernel
theorem dX12_way_191 : decode cX12_way 191 = .ok (.iinc 3 (-1), 3) := by decide +kernel
theorem dX12_way_194 : decode cX12_way 194 = .ok (.goto (-141), 3) := by decide +kernel
theorem dX12_way_197 : decode cX12_way 197 = .ok (.aload_n 0, 1) := by decide +kernel
theorem dX12_way_198 : decode cX12_way 198 = .ok (.iload_n 1, 1) := by decide +kernel
theorem dX12_way_199 : decode cX12_way 199 = .ok (.iload_n 2, 1) := by decide +kernel
theorem dX12_way_200 : decode cX12_way 200 = .ok (.invokevirtual 123, 3) := by decide +kernel
theorem dX12_way_203 : decode cX12_way 203 = .ok (.aload_n 0, 1) := by decide +kernel
theorem dX12_way_204 : decode cX12_way 204 = .ok (.getfield 184, 3) := by decide +kernel
theorem dX12_way_207 : decode cX12_way 207 = .ok (.istore_n 3, 1) := by decide +kernel
theorem dX12_way_208 : decode cX12_way 208 = .ok (.iconst 0, 1) := by decide +kernel
theorem dX12_way_209 : decode cX12_way 209 = .ok (.istore 4, 2) := by decide +kernel
theorem dX12_way_211 : decode cX12_way 211 = .ok (.iload 4, 2) := by decide +kernel
theorem dX12_way_213 : decode cX12_way 213 = .ok (.iload_n 2, 1) := by decide +kernel
theorem dX12_way_214 : decode cX12_way 214 = .ok (.if_icmp .ge 84, 3) := by decide +kernel
theorem dX12_way_217 : decode cX12_way 217 = .ok (.iconst 0, 1) := by decide +kernel
theorem dX12_way_218 : decode cX12_way 218 = .ok (.istore 5, 2) := by decide +kernel
theorem dX12_way_220 : decode cX12_way 220 = .ok (.aload_n 0, 1) := by decide +kernel
theorem dX12_way_221 : decode cX12_way 221 = .ok (.iload_n 3, 1) := by decide +kernel
theorem dX12_way_222 : decode cX12_way 222 = .ok (.iconst 0, 1) := by decide +kernel
theorem dX12_way_223 : decode cX12_way 223 = .ok (.aload_n 0, 1) := by decide +kernel
theorem dX12_way_224 : decode cX12_way 224 = .ok (.getfield 187, 3) := by decide +kernel
theorem dX12_way_227 : decode cX12_way 227 = .ok (.invokevirtual 235, 3) := by decide +kernel
theorem dX12_way_230 : decode cX12_way 230 = .ok (.istore 6, 2) := by decide +kernel
theorem dX12_way_232 : decode cX12_way 232 = .ok (.aload_n 0, 1) := by decide +kernel
theorem dX12_way_233 : decode cX12_way 233 = .ok (.getfield 93, 3) := by decide +kernel
theorem dX12_way_236 : decode cX12_way 236 = .ok (.iload 6, 2) := by decide +kernel
theorem dX12_way_238 : decode cX12_way 238 = .ok (.iaload, 1) := by decide +kernel
theorem dX12_way_239 : decode cX12_way 239 = .ok (.iload 4, 2) := by decide +kernel
theorem dX12_way_241 : decode cX12_way 241 = .ok (.iconst 1, 1) := by decide +kernel
theorem dX12_way_242 : decode cX12_way 242 = .ok (.iadd, 1) := by decide +kernel
theorem dX12_way_243 : decode cX12_way 243 = .ok (.if_icmp .ne 13, 3) := by decide +kernel
theorem dX12_way_246 : decode cX12_way 246 = .ok (.aload_n 0, 1) := by decide +kernel
theorem dX12_way_247 : decode cX12_way 247 = .ok (.getfield 96, 3) := by decide +kernel
theorem dX12_way_250 : decode cX12_way 250 = .ok (.iload 6, 2) := by decide +kernel
theorem dX12_way_252 : decode cX12_way 252 = .ok (.baload, 1) := by decide +kernel
theorem dX12_way_253 : decode cX12_way 253 = .ok (.ifCond .ne 22, 3) := by decide +kernel
theorem dX12_way_256 : decode cX12_way 256 = .ok (.iinc 5 1, 3) := by decide +kernel
theorem dX12_way_259 : decode cX12_way 259 = .ok (.aload_n 0, 1) := by decide +kernel
theorem dX12_way_260 : decode cX12_way 260 = .ok (.iload_n 3, 1) := by decide +kernel
theorem dX12_way_261 : decode cX12_way 261 = .ok (.iload 5, 2) := by decide +kernel
theorem dX12_way_263 : decode cX12_way 263 = .ok (.aload_n 0, 1) := by decide +kernel
theorem dX12_way_264 : decode cX12_way 264 = .ok (.getfield 187, 3) := by decide +kernel
theorem dX12_way_267 : decode cX12_way 267 = .ok (.invokevirtual 235, 3) := by decide +kernel
theorem dX12_way_270 : decode cX12_way 270 = .ok (.istore 6, 2) := by decide +kernel
theorem dX12_way_272 : decode cX12_way 272 = .ok (.goto (-40), 3) := by decide +kernel
theorem dX12_way_275 : decode cX12_way 275 = .ok (.aload_n 0, 1) := by decide +kernel
theorem dX12_way_276 : decode cX12_way 276 = .ok (.getfield 13, 3) := by decide +kernel
theorem dX12_way_279 : decode cX12_way 279 = .ok (.bipush 60, 2) := by decide +kernel
theorem dX12_way_281 : decode cX12_way 281 = .ok (.iload_n 1, 1) := by decide +kernel
theorem dX12_way_282 : decode cX12_way 282 = .ok (.imul, 1) := by decide +kernel
theorem dX12_way_283 : decode cX12_way 283 = .ok (.iload 4, 2) := by decide +kernel
theorem dX12_way_285 : decode cX12_way 285 = .ok (.iadd, 1) := by decide +kernel
theorem dX12_way_286 : decode cX12_way 286 = .ok (.iload 5, 2) := by decide +kernel
theorem dX12_way_288 : decode cX12_way 288 = .ok (.iastore, 1) := by decide +kernel
theorem dX12_way_289 : decode cX12_way 289 = .ok (.iload 6, 2) := by decide +kernel
theorem dX12_way_291 : decode cX12_way 291 = .ok (.istore_n 3, 1) := by decide +kernel
theorem dX12_way_292 : decode cX12_way 292 = .ok (.iinc 4 1, 3) := by decide +kernel
theorem dX12_way_295 : decode cX12_way 295 = .ok (.goto (-84), 3) := by decide +kernel
theorem dX12_way_298 : decode cX12_way 298 = .ok (.iload_n 2, 1) := by decide +kernel
theorem dX12_way_299 : decode cX12_way 299 = .ok (.ireturn, 1) := by decide +kernel
theorem dX12_all_0 : decode cX12_all 0 = .ok (.aload_n 0, 1) := by decide +kernel
theorem dX12_all_1 : decode cX12_all 1 = .ok (.aload_n 0, 1) := by decide +kernel
theorem dX12_all_2 : decode cX12_all 2 = .ok (.getfield 187, 3) := by decide +kernel
theorem dX12_all_5 : decode cX12_all 5 = .ok (.invokevirtual 276, 3) := by decide +kernel
theorem dX12_all_8 : decode cX12_all 8 = .ok (.aload_n 0, 1) := by decide +kernel
theorem dX12_all_9 : decode cX12_all 9 = .ok (.aload_n 0, 1) := by decide +kernel
theorem dX12_all_10 : decode cX12_all 10 = .ok (.getfield 93, 3) := by decide +kernel
theorem dX12_all_13 : decode cX12_all 13 = .ok (.aload_n 0, 1) := by decide +kernel
theorem dX12_all_14 : decode cX12_all 14 = .ok (.getfield 90, 3) := by decide +kernel
theorem dX12_all_17 : decode cX12_all 17 = .ok (.aload_n 0, 1) := by decide +kernel
theorem dX12_all_18 : decode cX12_all 18 = .ok (.getfield 273, 3) := by decide +kernel
theorem dX12_all_21 : decode cX12_all 21 = .ok (.iconst 1, 1) := by decide +kernel
theorem dX12_all_22 : decode cX12_all 22 = .ok (.isub, 1) := by decide +kernel
theorem dX12_all_23 : decode cX12_all 23 = .ok (.iaload, 1) := by decide +kernel
theorem dX12_all_24 : decode cX12_all 24 = .ok (.iaload, 1) := by decide +kernel
theorem dX12_all_25 : decode cX12_all 25 = .ok (.putfield 104, 3) := by decide +kernel
theorem dX12_all_28 : decode cX12_all 28 = .ok (.aload_n 0, 1) := by decide +kernel
theorem dX12_all_29 : decode cX12_all 29 = .ok (.getfield 273, 3) := by decide +kernel
theorem dX12_all_32 : decode cX12_all 32 = .ok (.ireturn, 1) := by decide +kernel
theorem dX12_best_0 : decode cX12_best 0 = .ok (.aload_n 0, 1) := by decide +kernel
theorem dX12_best_1 : decode cX12_best 1 = .ok (.getfield 175, 3) := by decide +kernel
theorem dX12_best_4 : decode cX12_best 4 = .ok (.ifCond .ne 6, 3) := by decide +kernel
theorem dX12_best_7 : decode cX12_best 7 = .ok (.bipush (-4), 2) := by decide +kernel
theorem dX12_best_9 : decode cX12_best 9 = .ok (.ireturn, 1) := by decide +kernel
theorem dX12_best_10 : decode cX12_best 10 = .ok (.iconst 0, 1) := by decide +kernel
theorem dX12_best_11 : decode cX12_best 11 = .ok (.istore_n 1, 1) := by decide +kernel
theorem dX12_best_12 : decode cX12_best 12 = .ok (.bipush (-9), 2) := by decide +kernel
theorem dX12_best_14 : decode cX12_best 14 = .ok (.istore_n 2, 1) := by decide +kernel
theorem dX12_best_15 : decode cX12_best 15 = .ok (.iconst 0, 1) := by decide +kernel
theorem dX12_best_16 : decode cX12_best 16 = .ok (.istore_n 3, 1) := by decide +kernel
theorem dX12_best_17 : decode cX12_best 17 = .ok (.iload_n 3, 1) := by decide +kernel
theorem dX12_best_18 : decode cX12_best 18 = .ok (.iconst 3, 1) := by decide +kernel
theorem dX12_best_19 : decode cX12_best 19 = .ok (.if_icmp .ge 40, 3) := by decide +kernel
theorem dX12_best_22 : decode cX12_best 22 = .ok (.aload_n 0, 1) := by decide +kernel
theorem dX12_best_23 : decode cX12_best 23 = .ok (.iload_n 3, 1) := by decide +kernel
theorem dX12_best_24 : decode cX12_best 24 = .ok (.invokevirtual 285, 3) := by decide +kernel
theorem dX12_best_27 : decode cX12_best 27 = .ok (.istore 4, 2) := by decide +kernel
theorem dX12_best_29 : decode cX12_best 29 = .ok (.iload 4, 2) := by decide +kernel
theorem dX12_best_31 : decode cX12_best 31 = .ok (.bipush (-9), 2) := by decide +kernel
theorem dX12_best_33 : decode cX12_best 33 = .ok (.if_icmp .eq 20, 3) := by decide +kernel
theorem dX12_best_36 : decode cX12_best 36 = .ok (.iload_n 2, 1) := by decide +kernel
theorem dX12_best_37 : decode cX12_best 37 = .ok (.bipush (-9), 2) := by decide +kernel
theorem dX12_best_39 : decode cX12_best 39 = .ok (.if_icmp .eq 9, 3) := by decide +kernel
theorem dX12_best_42 : decode cX12_best 42 = .ok (.iload 4, 2) := by decide +kernel
theorem dX12_best_44 : decode cX12_best 44 = .ok (.iload_n 2, 1) := by decide +kernel
theorem dX12_best_45 : decode cX12_best 45 = .ok (.if_icmp .ge 8, 3) := by decide +kernel
theorem dX12_best_48 : decode cX12_best 48 = .ok (.iload 4, 2) := by decide +kernel
theorem dX12_best_50 : decode cX12_best 50 = .ok (.istore_n 2, 1) := by decide +kernel
theorem dX12_best_51 : decode cX12_best 51 = .ok (.iload_n 3, 1) := by decide +kernel
theorem dX12_best_52 : decode cX12_best 52 = .ok (.istore_n 1, 1) := by decide +kernel
theorem dX12_best_53 : decode cX12_best 53 = .ok (.iinc 3 1, 3) := by decide +kernel
theorem dX12_best_56 : decode cX12_best 56 = .ok (.goto (-39), 3) := by decide +kernel
theorem dX12_best_59 : decode cX12_best 59 = .ok (.aload_n 0, 1) := by decide +kernel
theorem dX12_best_60 : decode cX12_best 60 = .ok (.iload_n 2, 1) := by decide +kernel
theorem dX12_best_61 : decode cX12_best 61 = .ok (.putfield 104, 3) := by decide +kernel
theorem dX12_best_64 : decode cX12_best 64 = .ok (.iload_n 1, 1) := by decide +kernel
theorem dX12_best_65 : decode cX12_best 65 = .ok (.ireturn, 1) := by decide +kernel
theorem dX12_nearest_0 : decode cX12_nearest 0 = .ok (.aload_n 0, 1) := by decide +kernel
theorem dX12_nearest_1 : decode cX12_nearest 1 = .ok (.aload_n 0, 1) := by decide +kernel
theorem dX12_nearest_2 : decode cX12_nearest 2 = .ok (.getfield 187, 3) := by decide +kernel
theorem dX12_nearest_5 : decode cX12_nearest 5 = .ok (.invokevirtual 276, 3) := by decide +kernel
theorem dX12_nearest_8 : decode cX12_nearest 8 = .ok (.aload_n 0, 1) := by decide +kernel
theorem dX12_nearest_9 : decode cX12_nearest 9 = .ok (.aload_n 0, 1) := by decide +kernel
theorem dX12_nearest_10 : decode cX12_nearest 10 = .ok (.getfield 184, 3) := by decide +kernel
theorem dX12_nearest_13 : decode cX12_nearest 13 = .ok (.invokevirtual 244, 3) := by decide +kernel
theorem dX12_nearest_16 : decode cX12_nearest 16 = .ok (.istore_n 1, 1) := by decide +kernel
theorem dX12_nearest_17 : decode cX12_nearest 17 = .ok (.aload_n 0, 1) := by decide +kernel
theorem dX12_nearest_18 : decode cX12_nearest 18 = .ok (.iconst 0, 1) := by decide +kernel
theorem dX12_nearest_19 : decode cX12_nearest 19 = .ok (.putfield 104, 3) := by decide +kernel
theorem dX12_nearest_22 : decode cX12_nearest 22 = .ok (.iconst 1, 1) := by decide +kernel
theorem dX12_nearest_23 : decode cX12_nearest 23 = .ok (.istore_n 2, 1) := by decide +kernel
theorem dX12_nearest_24 : decode cX12_nearest 24 = .ok (.iload_n 2, 1) := by decide +kernel
theorem dX12_nearest_25 : decode cX12_nearest 25 = .ok (.aload_n 0, 1) := by decide +kernel
theorem dX12_nearest_26 : decode cX12_nearest 26 = .ok (.getfield 273, 3) := by decide +kernel
theorem dX12_nearest_29 : decode cX12_nearest 29 = .ok (.if_icmp .ge 49, 3) := by decide +kernel
theorem dX12_nearest_32 : decode cX12_nearest 32 = .ok (.aload_n 0, 1) := by decide +kernel
theorem dX12_nearest_33 : decode cX12_nearest 33 = .ok (.aload_n 0, 1) := by decide +kernel
theorem dX12_nearest_34 : decode cX12_nearest 34 = .ok (.getfield 90, 3) := by decide +kernel
theorem dX12_nearest_37 : decode cX12_nearest 37 = .ok (.iload_n 2, 1) := by decide +kernel
theorem dX12_nearest_38 : decode cX12_nearest 38 = .ok (.iaload, 1) := by decide +kernel
theorem dX12_nearest_39 : decode cX12_nearest 39 = .ok (.invokevirtual 244, 3) := by decide +kernel
theorem dX12_nearest_42 : decode cX12_nearest 42 = .ok (.iload_n 1, 1) := by decide +kernel
theorem dX12_nearest_43 : decode cX12_nearest 43 = .ok (.if_icmp .ge 29, 3) := by decide +kernel
theorem dX12_nearest_46 : decode cX12_nearest 46 = .ok (.aload_n 0, 1) := by decide +kernel
theorem dX12_nearest_47 : decode cX12_nearest 47 = .ok (.aload_n 0, 1) := by decide +kernel
theorem dX12_nearest_48 : decode cX12_nearest 48 = .ok (.getfield 90, 3) := by decide +kernel
theorem dX12_nearest_51 : decode cX12_nearest 51 = .ok (.iload_n 2, 1) := by decide +kernel
theorem dX12_nearest_52 : decode cX12_nearest 52 = .ok (.iaload, 1) := by decide +kernel
theorem dX12_nearest_53 : decode cX12_nearest 53 = .ok (.invokevirtual 244, 3) := by decide +kernel
theorem dX12_nearest_56 : decode cX12_nearest 56 = .ok (.istore_n 1, 1) := by decide +kernel
theorem dX12_nearest_57 : decode cX12_nearest 57 = .ok (.aload_n 0, 1) := by decide +kernel
theorem dX12_nearest_58 : decode cX12_nearest 58 = .ok (.aload_n 0, 1) := by decide +kernel
theorem dX12_nearest_59 : decode cX12_nearest 59 = .ok (.getfield 93, 3) := by decide +kernel
theorem dX12_nearest_62 : decode cX12_nearest 62 = .ok (.aload_n 0, 1) := by decide +kernel
theorem dX12_nearest_63 : decode cX12_nearest 63 = .ok (.getfield 90, 3) := by decide +kernel
theorem dX12_nearest_66 : decode cX12_nearest 66 = .ok (.iload_n 2, 1) := by decide +kernel
theorem dX12_nearest_67 : decode cX12_nearest 67 = .ok (.iaload, 1) := by decide +kernel
theorem dX12_nearest_68 : decode cX12_nearest 68 = .ok (.iaload, 1) := by decide +kernel
theorem dX12_nearest_69 : decode cX12_nearest 69 = .ok (.putfield 104, 3) := by decide +kernel
theorem dX12_nearest_72 : decode cX12_nearest 72 = .ok (.iinc 2 1, 3) := by decide +kernel
theorem dX12_nearest_75 : decode cX12_nearest 75 = .ok (.goto (-51), 3) := by decide +kernel
theorem dX12_nearest_78 : decode cX12_nearest 78 = .ok (.iload_n 1, 1) := by decide +kernel
theorem dX12_nearest_79 : decode cX12_nearest 79 = .ok (.ireturn, 1) := by decide +kernel
theorem dX12_brings_0 : decode cX12_brings 0 = .ok (.aload_n 0, 1) := by decide +kernel
theorem dX12_brings_1 : decode cX12_brings 1 = .ok (.iload_n 1, 1) := by decide +kernel
theorem dX12_brings_2 : decode cX12_brings 2 = .ok (.invokevirtual 222, 3) := by decide +kernel
theorem dX12_brings_5 : decode cX12_brings 5 = .ok (.ifCond .eq 11, 3) := by decide +kernel
theorem dX12_brings_8 : decode cX12_brings 8 = .ok (.aload_n 0, 1) := by decide +kernel
theorem dX12_brings_9 : decode cX12_brings 9 = .ok (.iload_n 2, 1) := by decide +kernel
theorem dX12_brings_10 : decode cX12_brings 10 = .ok (.invokevirtual 250, 3) := by decide +kernel
theorem dX12_brings_13 : decode cX12_brings 13 = .ok (.ifCond .ne 5, 3) := by decide +kernel
theorem dX12_brings_16 : decode cX12_brings 16 = .ok (.iconst (-1), 1) := by decide +kernel
theorem dX12_brings_17 : decode cX12_brings 17 = .ok (.ireturn, 1) := by decide +kernel
theorem dX12_brings_18 : decode cX12_brings 18 = .ok (.aload_n 0, 1) := by decide +kernel
theorem dX12_brings_19 : decode cX12_brings 19 = .ok (.aload_n 0, 1) := by decide +kernel
theorem dX12_brings_20 : decode cX12_brings 20 = .ok (.getfield 187, 3) := by decide +kernel
theorem dX12_brings_23 : decode cX12_brings 23 = .ok (.invokevirtual 276, 3) := by decide +kernel
theorem dX12_brings_26 : decode cX12_brings 26 = .ok (.iconst 0, 1) := by decide +kernel
theorem dX12_brings_27 : decode cX12_brings 27 = .ok (.istore_n 3, 1) := by decide +kernel
theorem dX12_brings_28 : decode cX12_brings 28 = .ok (.iload_n 3, 1) := by decide +kernel
theorem dX12_brings_29 : decode cX12_brings 29 = .ok (.aload_n 0, 1) := by decide +kernel
theorem dX12_brings_30 : decode cX12_brings 30 = .ok (.getfield 273, 3) := by decide +kernel
theorem dX12_brings_33 : decode cX12_brings 33 = .ok (.if_icmp .ge 35, 3) := by decide +kernel
theorem dX12_brings_36 : decode cX12_brings 36 = .ok (.aload_n 0, 1) := by decide +kernel
theorem dX12_brings_37 : decode cX12_brings 37 = .ok (.getfield 90, 3) := by decide +kernel
theorem dX12_brings_40 : decode cX12_brings 40 = .ok (.iload_n 3, 1) := by decide +kernel
theorem dX12_brings_41 : decode cX12_brings 41 = .ok (.iaload, 1) := by decide +kernel
theorem dX12_brings_42 : decode cX12_brings 42 = .ok (.iload_n 1, 1) := by decide +kernel
theorem dX12_brings_43 : decode cX12_brings 43 = .ok (.invokestatic 219, 3) := by decide +kernel
theorem dX12_brings_46 : decode cX12_brings 46 = .ok (.iload_n 2, 1) := by decide +kernel
theorem dX12_brings_47 : decode cX12_brings 47 = .ok (.if_icmp .ne 15, 3) := by decide +kernel
theorem dX12_brings_50 : decode cX12_brings 50 = .ok (.aload_n 0, 1) := by decide +kernel
theorem dX12_brings_51 : decode cX12_brings 51 = .ok (.getfield 93, 3) := by decide +kernel
theorem dX12_brings_54 : decode cX12_brings 54 = .ok (.aload_n 0, 1) := by decide +kernel
theorem dX12_brings_55 : decode cX12_brings 55 = .ok (.getfield 90, 3) := by decide +kernel
theorem dX12_brings_58 : decode cX12_brings 58 = .ok (.iload_n 3, 1) := by decide +kernel
theorem dX12_brings_59 : decode cX12_brings 59 = .ok (.iaload, 1) := by decide +kernel
theorem dX12_brings_60 : decode cX12_brings 60 = .ok (.iaload, 1) := by decide +kernel
theorem dX12_brings_61 : decode cX12_brings 61 = .ok (.ireturn, 1) := by decide +kernel
theorem dX12_brings_62 : decode cX12_brings 62 = .ok (.iinc 3 1, 3) := by decide +kernel
theorem dX12_brings_65 : decode cX12_brings 65 = .ok (.goto (-37), 3) := by decide +kernel
theorem dX12_brings_68 : decode cX12_brings 68 = .ok (.bipush (-9), 2) := by decide +kernel
theorem dX12_brings_70 : decode cX12_brings 70 = .ok (.ireturn, 1) := by decide +kernel
theorem dX12_earn_0 : decode cX12_earn 0 = .ok (.iload_n 1, 1) := by decide +kernel
theorem dX12_earn_1 : decode cX12_earn 1 = .ok (.i2l, 1) := by decide +kernel
theorem dX12_earn_2 : decode cX12_earn 2 = .ok (.lconst 1, 1) := by decide +kernel
theorem dX12_earn_3 : decode cX12_earn 3 = .ok (.ldc2_w 288, 3) := by decide +kernel
theorem dX12_earn_6 : decode cX12_earn 6 = .ok (.invokestatic 109, 3) := by decide +kernel
theorem dX12_earn_9 : decode cX12_earn 9 = .ok (.ifCond .ne 5, 3) := by decide +kernel
theorem dX12_earn_12 : decode cX12_earn 12 = .ok (.iconst (-1), 1) := by decide +kernel
theorem dX12_earn_13 : decode cX12_earn 13 = .ok (.ireturn, 1) := by decide +kernel
theorem dX12_earn_14 : decode cX12_earn 14 = .ok (.aload_n 0, 1) := by decide +kernel
theorem dX12_earn_15 : decode cX12_earn 15 = .ok (.getfield 181, 3) := by decide +kernel
theorem dX12_earn_18 : decode cX12_earn 18 = .ok (.ifCond .ne 6, 3) := by decide +kernel
theorem dX12_earn_21 : decode cX12_earn 21 = .ok (.bipush (-4), 2) := by decide +kernel
theorem dX12_earn_23 : decode cX12_earn 23 = .ok (.ireturn, 1) := by decide +kernel
theorem dX12_earn_24 : decode cX12_earn 24 = .ok (.iconst (-1), 1) := by decide +kernel
theorem dX12_earn_25 : decode cX12_earn 25 = .ok (.istore_n 2, 1) := by decide +kernel
theorem dX12_earn_26 : decode cX12_earn 26 = .ok (.aload_n 0, 1) := by decide +kernel
theorem dX12_earn_27 : decode cX12_earn 27 = .ok (.iload_n 1, 1) := by decide +kernel
theorem dX12_earn_28 : decode cX12_earn 28 = .ok (.invokevirtual 258, 3) := by decide +kernel
theorem dX12_earn_31 : decode cX12_earn 31 = .ok (.istore_n 3, 1) := by decide +kernel
theorem dX12_earn_32 : decode cX12_earn 32 = .ok (.iconst 0, 1) := by decide +kernel
theorem dX12_earn_33 : decode cX12_earn 33 = .ok (.istore 4, 2) := by decide +kernel
theorem dX12_earn_35 : decode cX12_earn 35 = .ok (.iload 4, 2) := by decide +kernel
theorem dX12_earn_37 : decode cX12_earn 37 = .ok (.iload_n 3, 1) := by decide +kernel
theorem dX12_earn_38 : decode cX12_earn 38 = .ok (.if_icmp .ge 84, 3) := by decide +kernel
theorem dX12_earn_41 : decode cX12_earn 41 = .ok (.aload_n 0, 1) := by decide +kernel
theorem dX12_earn_42 : decode cX12_earn 42 = .ok (.iload_n 1, 1) := by decide +kernel
theorem dX12_earn_43 : decode cX12_earn 43 = .ok (.iload 4, 2) := by decide +kernel
theorem dX12_earn_45 : decode cX12_earn 45 = .ok (.invokevirtual 267, 3) := by decide +kernel
theorem dX12_earn_48 : decode cX12_earn 48 = .ok (.istore 5, 2) := by decide +kernel
theorem dX12_earn_50 : decode cX12_earn 50 = .ok (.aload_n 0, 1) := by decide +kernel
theorem dX12_earn_51 : decode cX12_earn 51 = .ok (.getfield 261, 3) := by decide +kernel
theorem dX12_earn_54 : decode cX12_earn 54 = .ok (.iload_n 2, 1) := by decide +kernel
theorem dX12_earn_55 : decode cX12_earn 55 = .ok (.if_icmp .le 61, 3) := by decide +kernel
theorem dX12_earn_58 : decode cX12_earn 58 = .ok (.aload_n 0, 1) := by decide +kernel
theorem dX12_earn_59 : decode cX12_earn 59 = .ok (.getfield 261, 3) := by decide +kernel
theorem dX12_earn_62 : decode cX12_earn 62 = .ok (.istore_n 2, 1) := by decide +kernel
theorem dX12_earn_63 : decode cX12_earn 63 = .ok (.aload_n 0, 1) := by decide +kernel
theorem dX12_earn_64 : decode cX12_earn 64 = .ok (.iconst 0, 1) := by decide +kernel
theorem dX12_earn_65 : decode cX12_earn 65 = .ok (.putfield 104, 3) := by decide +kernel
theorem dX12_earn_68 : decode cX12_earn 68 = .ok (.iload_n 3, 1) := by decide +kernel
theorem dX12_earn_69 : decode cX12_earn 69 = .ok (.istore 6, 2) := by decide +kernel
theorem dX12_earn_71 : decode cX12_earn 71 = .ok (.iconst 0, 1) := by decide +kernel
theorem dX12_earn_72 : decode cX12_earn 72 = .ok (.istore 7, 2) := by decide +kernel
theorem dX12_earn_74 : decode cX12_earn 74 = .ok (.iload 7, 2) := by decide +kernel
theorem dX12_earn_76 : decode cX12_earn 76 = .ok (.iload_n 1, 1) := by decide +kernel
theorem dX12_earn_77 : decode cX12_earn 77 = .ok (.if_icmp .ge 39, 3) := by decide +kernel
theorem dX12_earn_80 : decode cX12_earn 80 = .ok (.iload 6, 2) := by decide +kernel
theorem dX12_earn_82 : decode cX12_earn 82 = .ok (.aload_n 0, 1) := by decide +kernel
theorem dX12_earn_83 : decode cX12_earn 83 = .ok (.getfield 181, 3) := by decide +kernel
theorem dX12_earn_86 : decode cX12_earn 86 = .ok (.idiv, 1) := by decide +kernel
theorem dX12_earn_87 : decode cX12_earn 87 = .ok (.istore 6, 2) := by decide +kernel
theorem dX12_earn_89 : decode cX12_earn 89 = .ok (.aload_n 0, 1) := by decide +kernel
theorem dX12_earn_90 : decode cX12_earn 90 = .ok (.iconst 5, 1) := by decide +kernel
theorem dX12_earn_91 : decode cX12_earn 91 = .ok (.aload_n 0, 1) := by decide +kernel
theorem dX12_earn_92 : decode cX12_earn 92 = .ok (.getfield 104, 3) := by decide +kernel
theorem dX12_earn_95 : decode cX12_earn 95 = .ok (.imul, 1) := by decide +kernel
theorem dX12_earn_96 : decode cX12_earn 96 = .ok (.iload 4, 2) := by decide +kernel
theorem dX12_earn_98 : decode cX12_earn 98 = .ok (.iload 6, 2) := by decide +kernel
theorem dX12_earn_100 : decode cX12_earn 100 = .ok (.idiv, 1) := by decide +kernel
theorem dX12_earn_101 : decode cX12_earn 101 = .ok (.aload_n 0, 1) := by decide +kernel
theorem dX12_earn_102 : decode cX12_earn 102 = .ok (.getfield 181, 3) := by decide +kernel
theorem dX12_earn_105 : decode cX12_earn 105 = .ok (.irem, 1) := by decide +kernel
theorem dX12_earn_106 : decode cX12_earn 106 = .ok (.iadd, 1) := by decide +kernel
theorem dX12_earn_107 : decode cX12_earn 107 = .ok (.putfield 104, 3) := by decide +kernel
theorem dX12_earn_110 : decode cX12_earn 110 = .ok (.iinc 7 1, 3) := by decide +kernel
theorem dX12_earn_113 : decode cX12_earn 113 = .ok (.goto (-39), 3) := by decide +kernel
theorem dX12_earn_116 : decode cX12_earn 116 = .ok (.iinc 4 1, 3) := by decide +kernel
theorem dX12_earn_119 : decode cX12_earn 119 = .ok (.goto (-84), 3) := by decide +kernel
theorem dX12_earn_122 : decode cX12_earn 122 = .ok (.iload_n 2, 1) := by decide +kernel
theorem dX12_earn_123 : decode cX12_earn 123 = .ok (.ireturn, 1) := by decide +kernel
theorem dX12_looks_0 : decode cX12_looks 0 = .ok (.aload_n 0, 1) := by decide +kernel
theorem dX12_looks_1 : decode cX12_looks 1 = .ok (.iconst 0, 1) := by decide +kernel
theorem dX12_looks_2 : decode cX12_looks 2 = .ok (.putfield 290, 3) := by decide +kernel
theorem dX12_looks_5 : decode cX12_looks 5 = .ok (.aload_n 0, 1) := by decide +kernel
theorem dX12_looks_6 : decode cX12_looks 6 = .ok (.iconst 0, 1) := by decide +kernel
theorem dX12_looks_7 : decode cX12_looks 7 = .ok (.putfield 293, 3) := by decide +kernel
theorem dX12_looks_10 : decode cX12_looks 10 = .ok (.aload_n 0, 1) := by decide +kernel
theorem dX12_looks_11 : decode cX12_looks 11 = .ok (.bipush 31, 2) := by decide +kernel
theorem dX12_looks_13 : decode cX12_looks 13 = .ok (.putfield 296, 3) := by decide +kernel
theorem dX12_looks_16 : decode cX12_looks 16 = .ok (.aload_n 0, 1) := by decide +kernel
theorem dX12_looks_17 : decode cX12_looks 17 = .ok (.iload_n 1, 1) := by decide +kernel
theorem dX12_looks_18 : decode cX12_looks 18 = .ok (.invokevirtual 258, 3) := by decide +kernel
theorem dX12_looks_21 : decode cX12_looks 21 = .ok (.istore_n 3, 1) := by decide +kernel
theorem dX12_looks_22 : decode cX12_looks 22 = .ok (.iconst 0, 1) := by decide +kernel
theorem dX12_looks_23 : decode cX12_looks 23 = .ok (.istore 4, 2) := by decide +kernel
theorem dX12_looks_25 : decode cX12_looks 25 = .ok (.iload 4, 2) := by decide +kernel
theorem dX12_looks_27 : decode cX12_looks 27 = .ok (.iload_n 3, 1) := by decide +kernel
theorem dX12_looks_28 : decode cX12_looks 28 = .ok (.if_icmp .ge 117, 3) := by decide +kernel
theorem dX12_looks_31 : decode cX12_looks 31 = .ok (.aload_n 0, 1) := by decide +kernel
theorem dX12_looks_32 : decode cX12_looks 32 = .ok (.iload_n 1, 1) := by decide +kernel
theorem dX12_looks_33 : decode cX12_looks 33 = .ok (.iload 4, 2) := by decide +kernel
theorem dX12_looks_35 : decode cX12_looks 35 = .ok (.invokevirtual 267, 3) := by decide +kernel
theorem dX12_looks_38 : decode cX12_looks 38 = .ok (.iload_n 2, 1) := by decide +kernel
theorem dX12_looks_39 : decode cX12_looks 39 = .ok (.if_icmp .eq 6, 3) := by decide +kernel
theorem dX12_looks_42 : decode cX12_looks 42 = .ok (.goto 97, 3) := by decide +kernel
theorem dX12_looks_45 : decode cX12_looks 45 = .ok (.aload_n 0, 1) := by decide +kernel
theorem dX12_looks_46 : decode cX12_looks 46 = .ok (.dup, 1) := by decide +kernel
theorem dX12_looks_47 : decode cX12_looks 47 = .ok (.getfield 290, 3) := by decide +kernel
theorem dX12_looks_50 : decode cX12_looks 50 = .ok (.iconst 1, 1) := by decide +kernel
theorem dX12_looks_51 : decode cX12_looks 51 = .ok (.iadd, 1) := by decide +kernel
theorem dX12_looks_52 : decode cX12_looks 52 = .ok (.putfield 290, 3) := by decide +kernel
theorem dX12_looks_55 : decode cX12_looks 55 = .ok (.iconst 0, 1) := by decide +kernel
theorem dX12_looks_56 : decode cX12_looks 56 = .ok (.istore 5, 2) := by decide +kernel
theorem dX12_looks_58 : decode cX12_looks 58 = .ok (.iload_n 3, 1) := by decide +kernel
theorem dX12_looks_59 : decode cX12_looks 59 = .ok (.istore 6, 2) := by decide +kernel
theorem dX12_looks_61 : decode cX12_looks 61 = .ok (.iconst 0, 1) := by decide +kernel
theorem dX12_looks_62 : decode cX12_looks 62 = .ok (.istore 7, 2) := by decide +kernel
theorem dX12_looks_64 : decode cX12_looks 64 = .ok (.iload 7, 2) := by decide +kernel
theorem dX12_looks_66 : decode cX12_looks 66 = .ok (.iload_n 1, 1) := by decide +kernel
theorem dX12_looks_67 : decode cX12_looks 67 = .ok (.if_icmp .ge 61, 3) := by decide +kernel
theorem dX12_looks_70 : decode cX12_looks 70 = .ok (.iload 6, 2) := by decide +kernel
theorem dX12_looks_72 : decode cX12_looks 72 = .ok (.aload_n 0, 1) := by decide +kernel
theorem dX12_looks_73 : decode cX12_looks 73 = .ok (.getfield 181, 3) := by decide +kernel
theorem dX12_looks_76 : decode cX12_looks 76 = .ok (.idiv, 1) := by decide +kernel
theorem dX12_looks_77 : decode cX12_looks 77 = .ok (.istore 6, 2) := by decide +kernel
theorem dX12_looks_79 : decode cX12_looks 79 = .ok (.iload 4, 2) := by decide +kernel
theorem dX12_looks_81 : decode cX12_looks 81 = .ok (.iload 6, 2) := by decide +kernel
theorem dX12_looks_83 : decode cX12_looks 83 = .ok (.idiv, 1) := by decide +kernel
theorem dX12_looks_84 : decode cX12_looks 84 = .ok (.aload_n 0, 1) := by decide +kernel
theorem dX12_looks_85 : decode cX12_looks 85 = .ok (.getfield 181, 3) := by decide +kernel
theorem dX12_looks_88 : decode cX12_looks 88 = .ok (.irem, 1) := by decide +kernel
theorem dX12_looks_89 : decode cX12_looks 89 = .ok (.istore 8, 2) := by decide +kernel
theorem dX12_looks_91 : decode cX12_looks 91 = .ok (.iload 5, 2) := by decide +kernel
theorem dX12_looks_93 : decode cX12_looks 93 = .ok (.iconst 1, 1) := by decide +kernel
theorem dX12_looks_94 : decode cX12_looks 94 = .ok (.iload 8, 2) := by decide +kernel
theorem dX12_looks_96 : decode cX12_looks 96 = .ok (.ishl, 1) := by decide +kernel
theorem dX12_looks_97 : decode cX12_looks 97 = .ok (.ior, 1) := by decide +kernel
theorem dX12_looks_98 : decode cX12_looks 98 = .ok (.istore 5, 2) := by decide +kernel
theorem dX12_looks_100 : decode cX12_looks 100 = .ok (.aload_n 0, 1) := by decide +kernel
theorem dX12_looks_101 : decode cX12_looks 101 = .ok (.dup, 1) := by decide +kernel
theorem dX12_looks_102 : decode cX12_looks 102 = .ok (.getfield 293, 3) := by decide +kernel
theorem dX12_looks_105 : decode cX12_looks 105 = .ok (.iload 7, 2) := by decide +kernel
theorem dX12_looks_107 : decode cX12_looks 107 = .ok (.ifCond .ne 10, 3) := by decide +kernel
theorem dX12_looks_110 : decode cX12_looks 110 = .ok (.iconst 1, 1) := by decide +kernel
theorem dX12_looks_111 : decode cX12_looks 111 = .ok (.iload 8, 2) := by decide +kernel
theorem dX12_looks_113 : decode cX12_looks 113 = .ok (.ishl, 1) := by decide +kernel
theorem dX12_looks_114 : decode cX12_looks 114 = .ok (.goto 4, 3) := by decide +kernel
theorem dX12_looks_117 : decode cX12_looks 117 = .ok (.iconst 0, 1) := by decide +kernel
theorem dX12_looks_118 : decode cX12_looks 118 = .ok (.ior, 1) := by decide +kernel
theorem dX12_looks_119 : decode cX12_looks 119 = .ok (.putfield 293, 3) := by decide +kernel
theorem dX12_looks_122 : decode cX12_looks 122 = .ok (.iinc 7 1, 3) := by decide +kernel
theorem dX12_looks_125 : decode cX12_looks 125 = .ok (.goto (-61), 3) := by decide +kernel
theorem dX12_looks_128 : decode cX12_looks 128 = .ok (.aload_n 0, 1) := by decide +kernel
theorem dX12_looks_129 : decode cX12_looks 129 = .ok (.dup, 1) := by decide +kernel
theorem dX12_looks_130 : decode cX12_looks 130 = .ok (.getfield 296, 3) := by decide +kernel
theorem dX12_looks_133 : decode cX12_looks 133 = .ok (.iload 5, 2) := by decide +kernel
theorem dX12_looks_135 : decode cX12_looks 135 = .ok (.iand, 1) := by decide +kernel
theorem dX12_looks_136 : decode cX12_looks 136 = .ok (.putfield 296, 3) := by decide +kernel
theorem dX12_looks_139 : decode cX12_looks 139 = .ok (.iinc 4 1, 3) := by decide +kernel
theorem dX12_looks_142 : decode cX12_looks 142 = .ok (.goto (-117), 3) := by decide +kernel
theorem dX12_looks_145 : decode cX12_looks 145 = .ok (.return_, 1) := by decide +kernel
theorem dX12_bars_0 : decode cX12_bars 0 = .ok (.aload_n 0, 1) := by decide +kernel
theorem dX12_bars_1 : decode cX12_bars 1 = .ok (.getfield 7, 3) := by decide +kernel
theorem dX12_bars_4 : decode cX12_bars 4 = .ok (.iload_n 1, 1) := by decide +kernel
theorem dX12_bars_5 : decode cX12_bars 5 = .ok (.iaload, 1) := by decide +kernel
theorem dX12_bars_6 : decode cX12_bars 6 = .ok (.ifCond .ge 5, 3) := by decide +kernel
theorem dX12_bars_9 : decode cX12_bars 9 = .ok (.iconst 1, 1) := by decide +kernel
theorem dX12_bars_10 : decode cX12_bars 10 = .ok (.ireturn, 1) := by decide +kernel
theorem dX12_bars_11 : decode cX12_bars 11 = .ok (.aload_n 0, 1) := by decide +kernel
theorem dX12_bars_12 : decode cX12_bars 12 = .ok (.getfield 7, 3) := by decide +kernel
theorem dX12_bars_15 : decode cX12_bars 15 = .ok (.iload_n 1, 1) := by decide +kernel
theorem dX12_bars_16 : decode cX12_bars 16 = .ok (.iaload, 1) := by decide +kernel
theorem dX12_bars_17 : decode cX12_bars 17 = .ok (.aload_n 0, 1) := by decide +kernel
theorem dX12_bars_18 : decode cX12_bars 18 = .ok (.getfield 178, 3) := by decide +kernel
theorem dX12_bars_21 : decode cX12_bars 21 = .ok (.if_icmp .eq 5, 3) := by decide +kernel
theorem dX12_bars_24 : decode cX12_bars 24 = .ok (.iconst 5, 1) := by decide +kernel
theorem dX12_bars_25 : decode cX12_bars 25 = .ok (.ireturn, 1) := by decide +kernel
theorem dX12_bars_26 : decode cX12_bars 26 = .ok (.aload_n 0, 1) := by decide +kernel
theorem dX12_bars_27 : decode cX12_bars 27 = .ok (.iconst 0, 1) := by decide +kernel
theorem dX12_bars_28 : decode cX12_bars 28 = .ok (.putfield 299, 3) := by decide +kernel
theorem dX12_bars_31 : decode cX12_bars 31 = .ok (.iconst 0, 1) := by decide +kernel
theorem dX12_bars_32 : decode cX12_bars 32 = .ok (.istore_n 2, 1) := by decide +kernel
theorem dX12_bars_33 : decode cX12_bars 33 = .ok (.iload_n 2, 1) := by decide +kernel
theorem dX12_bars_34 : decode cX12_bars 34 = .ok (.aload_n 0, 1) := by decide +kernel
theorem dX12_bars_35 : decode cX12_bars 35 = .ok (.getfield 178, 3) := by decide +kernel
theorem dX12_bars_38 : decode cX12_bars 38 = .ok (.if_icmp .ge 62, 3) := by decide +kernel
theorem dX12_bars_41 : decode cX12_bars 41 = .ok (.aload_n 0, 1) := by decide +kernel
theorem dX12_bars_42 : decode cX12_bars 42 = .ok (.getfield 13, 3) := by decide +kernel
theorem dX12_bars_45 : decode cX12_bars 45 = .ok (.bipush 60, 2) := by decide +kernel
theorem dX12_bars_47 : decode cX12_bars 47 = .ok (.iload_n 1, 1) := by decide +kernel
theorem dX12_bars_48 : decode cX12_bars 48 = .ok (.imul, 1) := by decide +kernel
theorem dX12_bars_49 : decode cX12_bars 49 = .ok (.iload_n 2, 1) := by decide +kernel
theorem dX12_bars_50 : decode cX12_bars 50 = .ok (.iadd, 1) := by decide +kernel
theorem dX12_bars_51 : decode cX12_bars 51 = .ok (.iaload, 1) := by decide +kernel
theorem dX12_bars_52 : decode cX12_bars 52 = .ok (.istore_n 3, 1) := by decide +kernel
theorem dX12_bars_53 : decode cX12_bars 53 = .ok (.iload_n 3, 1) := by decide +kernel
theorem dX12_bars_54 : decode cX12_bars 54 = .ok (.bipush (-9), 2) := by decide +kernel
theorem dX12_bars_56 : decode cX12_bars 56 = .ok (.if_icmp .eq 13, 3) := by decide +kernel
theorem dX12_bars_59 : decode cX12_bars 59 = .ok (.aload_n 0, 1) := by decide +kernel
theorem dX12_bars_60 : decode cX12_bars 60 = .ok (.iload_n 3, 1) := by decide +kernel
theorem dX12_bars_61 : decode cX12_bars 61 = .ok (.invokevirtual 250, 3) := by decide +kernel
theorem dX12_bars_64 : decode cX12_bars 64 = .ok (.ifCond .ne 5, 3) := by decide +kernel
theorem dX12_bars_67 : decode cX12_bars 67 = .ok (.iconst 3, 1) := by decide +kernel
theorem dX12_bars_68 : decode cX12_bars 68 = .ok (.ireturn, 1) := by decide +kernel
theorem dX12_bars_69 : decode cX12_bars 69 = .ok (.aload_n 0, 1) := by decide +kernel
theorem dX12_bars_70 : decode cX12_bars 70 = .ok (.dup, 1) := by decide +kernel
theorem dX12_bars_71 : decode cX12_bars 71 = .ok (.getfield 299, 3) := by decide +kernel
theorem dX12_bars_74 : decode cX12_bars 74 = .ok (.iload_n 3, 1) := by decide +kernel
theorem dX12_bars_75 : decode cX12_bars 75 = .ok (.bipush (-9), 2) := by decide +kernel
theorem dX12_bars_77 : decode cX12_bars 77 = .ok (.if_icmp .ne 8, 3) := by decide +kernel
theorem dX12_bars_80 : decode cX12_bars 80 = .ok (.bipush 7, 2) := by decide +kernel
theorem dX12_bars_82 : decode cX12_bars 82 = .ok (.goto 4, 3) := by decide +kernel
theorem dX12_bars_85 : decode cX12_bars 85 = .ok (.iload_n 3, 1) := by decide +kernel
theorem dX12_bars_86 : decode cX12_bars 86 = .ok (.iconst 3, 1) := by decide +kernel
theorem dX12_bars_87 : decode cX12_bars 87 = .ok (.iload_n 2, 1) := by decide +kernel
theorem dX12_bars_88 : decode cX12_bars 88 = .ok (.imul, 1) := by decide +kernel
theorem dX12_bars_89 : decode cX12_bars 89 = .ok (.ishl, 1) := by decide +kernel
theorem dX12_bars_90 : decode cX12_bars 90 = .ok (.ior, 1) := by decide +kernel
theorem dX12_bars_91 : decode cX12_bars 91 = .ok (.putfield 299, 3) := by decide +kernel
theorem dX12_bars_94 : decode cX12_bars 94 = .ok (.iinc 2 1, 3) := by decide +kernel
theorem dX12_bars_97 : decode cX12_bars 97 = .ok (.goto (-64), 3) := by decide +kernel
theorem dX12_bars_100 : decode cX12_bars 100 = .ok (.iconst 0, 1) := by decide +kernel
theorem dX12_bars_101 : decode cX12_bars 101 = .ok (.ireturn, 1) := by decide +kernel
theorem dX12_fewestTo_0 : decode cX12_fewestTo 0 = .ok (.iconst 0, 1) := by decide +kernel
theorem dX12_fewestTo_1 : decode cX12_fewestTo 1 = .ok (.istore_n 1, 1) := by decide +kernel
theorem dX12_fewestTo_2 : decode cX12_fewestTo 2 = .ok (.iload_n 1, 1) := by decide +kernel
theorem dX12_fewestTo_3 : decode cX12_fewestTo 3 = .ok (.iconst 5, 1) := by decide +kernel
theorem dX12_fewestTo_4 : decode cX12_fewestTo 4 = .ok (.if_icmp .ge 27, 3) := by decide +kernel
theorem dX12_fewestTo_7 : decode cX12_fewestTo 7 = .ok (.aload_n 0, 1) := by decide +kernel
theorem dX12_fewestTo_8 : decode cX12_fewestTo 8 = .ok (.iload_n 1, 1) := by decide +kernel
theorem dX12_fewestTo_9 : decode cX12_fewestTo 9 = .ok (.aload_n 0, 1) := by decide +kernel
theorem dX12_fewestTo_10 : decode cX12_fewestTo 10 = .ok (.getfield 299, 3) := by decide +kernel
theorem dX12_fewestTo_13 : decode cX12_fewestTo 13 = .ok (.invokevirtual 302, 3) := by decide +kernel
theorem dX12_fewestTo_16 : decode cX12_fewestTo 16 = .ok (.aload_n 0, 1) := by decide +kernel
theorem dX12_fewestTo_17 : decode cX12_fewestTo 17 = .ok (.getfield 290, 3) := by decide +kernel
theorem dX12_fewestTo_20 : decode cX12_fewestTo 20 = .ok (.ifCond .le 5, 3) := by decide +kernel
theorem dX12_fewestTo_23 : decode cX12_fewestTo 23 = .ok (.iload_n 1, 1) := by decide +kernel
theorem dX12_fewestTo_24 : decode cX12_fewestTo 24 = .ok (.ireturn, 1) := by decide +kernel
theorem dX12_fewestTo_25 : decode cX12_fewestTo 25 = .ok (.iinc 1 1, 3) := by decide +kernel
theorem dX12_fewestTo_28 : decode cX12_fewestTo 28 = .ok (.goto (-26), 3) := by decide +kernel
theorem dX12_fewestTo_31 : decode cX12_fewestTo 31 = .ok (.bipush (-9), 2) := by decide +kernel
theorem dX12_fewestTo_33 : decode cX12_fewestTo 33 = .ok (.ireturn, 1) := by decide +kernel
theorem dX12_moved_0 : decode cX12_moved 0 = .ok (.iload_n 1, 1) := by decide +kernel
theorem dX12_moved_1 : decode cX12_moved 1 = .ok (.invokestatic 115, 3) := by decide +kernel
theorem dX12_moved_4 : decode cX12_moved 4 = .ok (.ifCond .ne 5, 3) := by decide +kernel
theorem dX12_moved_7 : decode cX12_moved 7 = .ok (.iconst (-1), 1) := by decide +kernel
theorem dX12_moved_8 : decode cX12_moved 8 = .ok (.ireturn, 1) := by decide +kernel
theorem dX12_moved_9 : decode cX12_moved 9 = .ok (.aload_n 0, 1) := by decide +kernel
theorem dX12_moved_10 : decode cX12_moved 10 = .ok (.iload_n 1, 1) := by decide +kernel
theorem dX12_moved_11 : decode cX12_moved 11 = .ok (.invokevirtual 305, 3) := by decide +kernel
theorem dX12_moved_14 : decode cX12_moved 14 = .ok (.istore_n 2, 1) := by decide +kernel
theorem dX12_moved_15 : decode cX12_moved 15 = .ok (.iload_n 2, 1) := by decide +kernel
theorem dX12_moved_16 : decode cX12_moved 16 = .ok (.ifCond .le 9, 3) := by decide +kernel
theorem dX12_moved_19 : decode cX12_moved 19 = .ok (.aload_n 0, 1) := by decide +kernel
theorem dX12_moved_20 : decode cX12_moved 20 = .ok (.iload_n 2, 1) := by decide +kernel
theorem dX12_moved_21 : decode cX12_moved 21 = .ok (.invokevirtual 119, 3) := by decide +kernel
theorem dX12_moved_24 : decode cX12_moved 24 = .ok (.ireturn, 1) := by decide +kernel
theorem dX12_moved_25 : decode cX12_moved 25 = .ok (.aload_n 0, 1) := by decide +kernel
theorem dX12_moved_26 : decode cX12_moved 26 = .ok (.invokevirtual 308, 3) := by decide +kernel
theorem dX12_moved_29 : decode cX12_moved 29 = .ok (.istore_n 3, 1) := by decide +kernel
theorem dX12_moved_30 : decode cX12_moved 30 = .ok (.aload_n 0, 1) := by decide +kernel
theorem dX12_moved_31 : decode cX12_moved 31 = .ok (.iload_n 3, 1) := by decide +kernel
theorem dX12_moved_32 : decode cX12_moved 32 = .ok (.bipush (-9), 2) := by decide +kernel
theorem dX12_moved_34 : decode cX12_moved 34 = .ok (.if_icmp .ne 10, 3) := by decide +kernel
theorem dX12_moved_37 : decode cX12_moved 37 = .ok (.aload_n 0, 1) := by decide +kernel
theorem dX12_moved_38 : decode cX12_moved 38 = .ok (.getfield 104, 3) := by decide +kernel
theorem dX12_moved_41 : decode cX12_moved 41 = .ok (.goto 7, 3) := by decide +kernel
theorem dX12_moved_44 : decode cX12_moved 44 = .ok (.aload_n 0, 1) := by decide +kernel
theorem dX12_moved_45 : decode cX12_moved 45 = .ok (.getfield 290, 3) := by decide +kernel
theorem dX12_moved_48 : decode cX12_moved 48 = .ok (.putfield 104, 3) := by decide +kernel
theorem dX12_moved_51 : decode cX12_moved 51 = .ok (.iload_n 3, 1) := by decide +kernel
theorem dX12_moved_52 : decode cX12_moved 52 = .ok (.ireturn, 1) := by decide +kernel
theorem dX12_who_0 : decode cX12_who 0 = .ok (.iload_n 1, 1) := by decide +kernel
theorem dX12_who_1 : decode cX12_who 1 = .ok (.invokestatic 115, 3) := by decide +kernel
theorem dX12_who_4 : decode cX12_who 4 = .ok (.ifCond .ne 5, 3) := by decide +kernel
theorem dX12_who_7 : decode cX12_who 7 = .ok (.iconst (-1), 1) := by decide +kernel
theorem dX12_who_8 : decode cX12_who 8 = .ok (.ireturn, 1) := by decide +kernel
theorem dX12_who_9 : decode cX12_who 9 = .ok (.aload_n 0, 1) := by decide +kernel
theorem dX12_who_10 : decode cX12_who 10 = .ok (.iload_n 1, 1) := by decide +kernel
theorem dX12_who_11 : decode cX12_who 11 = .ok (.invokevirtual 305, 3) := by decide +kernel
theorem dX12_who_14 : decode cX12_who 14 = .ok (.istore_n 2, 1) := by decide +kernel
theorem dX12_who_15 : decode cX12_who 15 = .ok (.iload_n 2, 1) := by decide +kernel
theorem dX12_who_16 : decode cX12_who 16 = .ok (.ifCond .le 9, 3) := by decide +kernel
theorem dX12_who_19 : decode cX12_who 19 = .ok (.aload_n 0, 1) := by decide +kernel
theorem dX12_who_20 : decode cX12_who 20 = .ok (.iload_n 2, 1) := by decide +kernel
theorem dX12_who_21 : decode cX12_who 21 = .ok (.invokevirtual 119, 3) := by decide +kernel
theorem dX12_who_24 : decode cX12_who 24 = .ok (.ireturn, 1) := by decide +kernel
theorem dX12_who_25 : decode cX12_who 25 = .ok (.aload_n 0, 1) := by decide +kernel
theorem dX12_who_26 : decode cX12_who 26 = .ok (.invokevirtual 308, 3) := by decide +kernel
theorem dX12_who_29 : decode cX12_who 29 = .ok (.istore_n 3, 1) := by decide +kernel
theorem dX12_who_30 : decode cX12_who 30 = .ok (.iload_n 3, 1) := by decide +kernel
theorem dX12_who_31 : decode cX12_who 31 = .ok (.iconst 1, 1) := by decide +kernel
theorem dX12_who_32 : decode cX12_who 32 = .ok (.if_icmp .ge 6, 3) := by decide +kernel
theorem dX12_who_35 : decode cX12_who 35 = .ok (.bipush (-9), 2) := by decide +kernel
theorem dX12_who_37 : decode cX12_who 37 = .ok (.ireturn, 1) := by decide +kernel
theorem dX12_who_38 : decode cX12_who 38 = .ok (.aload_n 0, 1) := by decide +kernel
theorem dX12_who_39 : decode cX12_who 39 = .ok (.aload_n 0, 1) := by decide +kernel
theorem dX12_who_40 : decode cX12_who 40 = .ok (.getfield 296, 3) := by decide +kernel
theorem dX12_who_43 : decode cX12_who 43 = .ok (.putfield 104, 3) := by decide +kernel
theorem dX12_who_46 : decode cX12_who 46 = .ok (.aload_n 0, 1) := by decide +kernel
theorem dX12_who_47 : decode cX12_who 47 = .ok (.getfield 293, 3) := by decide +kernel
theorem dX12_who_50 : decode cX12_who 50 = .ok (.ireturn, 1) := by decide +kernel
theorem dX12_odds_0 : decode cX12_odds 0 = .ok (.aload_n 0, 1) := by decide +kernel
theorem dX12_odds_1 : decode cX12_odds 1 = .ok (.iload_n 1, 1) := by decide +kernel
theorem dX12_odds_2 : decode cX12_odds 2 = .ok (.invokevirtual 222, 3) := by decide +kernel
theorem dX12_odds_5 : decode cX12_odds 5 = .ok (.ifCond .eq 29, 3) := by decide +kernel
theorem dX12_odds_8 : decode cX12_odds 8 = .ok (.iload_n 2, 1) := by decide +kernel
theorem dX12_odds_9 : decode cX12_odds 9 = .ok (.bipush (-9), 2) := by decide +kernel
theorem dX12_odds_11 : decode cX12_odds 11 = .ok (.if_icmp .eq 11, 3) := by decide +kernel
theorem dX12_odds_14 : decode cX12_odds 14 = .ok (.aload_n 0, 1) := by decide +kernel
theorem dX12_odds_15 : decode cX12_odds 15 = .ok (.iload_n 2, 1) := by decide +kernel
theorem dX12_odds_16 : decode cX12_odds 16 = .ok (.invokevirtual 250, 3) := by decide +kernel
theorem dX12_odds_19 : decode cX12_odds 19 = .ok (.ifCond .eq 15, 3) := by decide +kernel
theorem dX12_odds_22 : decode cX12_odds 22 = .ok (.iload_n 3, 1) := by decide +kernel
theorem dX12_odds_23 : decode cX12_odds 23 = .ok (.i2l, 1) := by decide +kernel
theorem dX12_odds_24 : decode cX12_odds 24 = .ok (.lconst 0, 1) := by decide +kernel
theorem dX12_odds_25 : decode cX12_odds 25 = .ok (.ldc2_w 288, 3) := by decide +kernel
theorem dX12_odds_28 : decode cX12_odds 28 = .ok (.invokestatic 109, 3) := by decide +kernel
theorem dX12_odds_31 : decode cX12_odds 31 = .ok (.ifCond .ne 5, 3) := by decide +kernel
theorem dX12_odds_34 : decode cX12_odds 34 = .ok (.iconst (-1), 1) := by decide +kernel
theorem dX12_odds_35 : decode cX12_odds 35 = .ok (.ireturn, 1) := by decide +kernel
theorem dX12_odds_36 : decode cX12_odds 36 = .ok (.aload_n 0, 1) := by decide +kernel
theorem dX12_odds_37 : decode cX12_odds 37 = .ok (.getfield 181, 3) := by decide +kernel
theorem dX12_odds_40 : decode cX12_odds 40 = .ok (.ifCond .ne 13, 3) := by decide +kernel
theorem dX12_odds_43 : decode cX12_odds 43 = .ok (.iload_n 3, 1) := by decide +kernel
theorem dX12_odds_44 : decode cX12_odds 44 = .ok (.ifCond .le 9, 3) := by decide +kernel
theorem dX12_odds_47 : decode cX12_odds 47 = .ok (.aload_n 0, 1) := by decide +kernel
theorem dX12_odds_48 : decode cX12_odds 48 = .ok (.iconst 4, 1) := by decide +kernel
theorem dX12_odds_49 : decode cX12_odds 49 = .ok (.invokevirtual 119, 3) := by decide +kernel
theorem dX12_odds_52 : decode cX12_odds 52 = .ok (.ireturn, 1) := by decide +kernel
theorem dX12_odds_53 : decode cX12_odds 53 = .ok (.aload_n 0, 1) := by decide +kernel
theorem dX12_odds_54 : decode cX12_odds 54 = .ok (.iload_n 3, 1) := by decide +kernel
theorem dX12_odds_55 : decode cX12_odds 55 = .ok (.invokevirtual 258, 3) := by decide +kernel
theorem dX12_odds_58 : decode cX12_odds 58 = .ok (.istore 4, 2) := by decide +kernel
theorem dX12_odds_60 : decode cX12_odds 60 = .ok (.iconst 0, 1) := by decide +kernel
theorem dX12_odds_61 : decode cX12_odds 61 = .ok (.istore 5, 2) := by decide +kernel
theorem dX12_odds_63 : decode cX12_odds 63 = .ok (.iconst 0, 1) := by decide +kernel
theorem dX12_odds_64 : decode cX12_odds 64 = .ok (.istore 6, 2) := by decide +kernel
theorem dX12_odds_66 : decode cX12_odds 66 = .ok (.iload 6, 2) := by decide +kernel
theorem dX12_odds_68 : decode cX12_odds 68 = .ok (.iload 4, 2) := by decide +kernel
theorem dX12_odds_70 : decode cX12_odds 70 = .ok (.if_icmp .ge 37, 3) := by decide +kernel
theorem dX12_odds_73 : decode cX12_odds 73 = .ok (.iload 5, 2) := by decide +kernel
theorem dX12_odds_75 : decode cX12_odds 75 = .ok (.aload_n 0, 1) := by decide +kernel
theorem dX12_odds_76 : decode cX12_odds 76 = .ok (.iload_n 3, 1) := by decide +kernel
theorem dX12_odds_77 : decode cX12_odds 77 = .ok (.iload 6, 2) := by decide +kernel
theorem dX12_odds_79 : decode cX12_odds 79 = .ok (.invokevirtual 267, 3) := by decide +kernel
theorem dX12_odds_82 : decode cX12_odds 82 = .ok (.iload_n 1, 1) := by decide +kernel
theorem dX12_odds_83 : decode cX12_odds 83 = .ok (.invokestatic 219, 3) := by decide +kernel
theorem dX12_odds_86 : decode cX12_odds 86 = .ok (.invokestatic 225, 3) := by decide +kernel
theorem dX12_odds_89 : decode cX12_odds 89 = .ok (.iload_n 2, 1) := by decide +kernel
theorem dX12_odds_90 : decode cX12_odds 90 = .ok (.if_icmp .ne 7, 3) := by decide +kernel
theorem dX12_odds_93 : decode cX12_odds 93 = .ok (.iconst 1, 1) := by decide +kernel
theorem dX12_odds_94 : decode cX12_odds 94 = .ok (.goto 4, 3) := by decide +kernel
theorem dX12_odds_97 : decode cX12_odds 97 = .ok (.iconst 0, 1) := by decide +kernel
theorem dX12_odds_98 : decode cX12_odds 98 = .ok (.iadd, 1) := by decide +kernel
theorem dX12_odds_99 : decode cX12_odds 99 = .ok (.istore 5, 2) := by decide +kernel
theorem dX12_odds_101 : decode cX12_odds 101 = .ok (.iinc 6 1, 3) := by decide +kernel
theorem dX12_odds_104 : decode cX12_odds 104 = .ok (.goto (-38), 3) := by decide +kernel
theorem dX12_odds_107 : decode cX12_odds 107 = .ok (.iload 5, 2) := by decide +kernel
theorem dX12_odds_109 : decode cX12_odds 109 = .ok (.istore 6, 2) := by decide +kernel
theorem dX12_odds_111 : decode cX12_odds 111 = .ok (.iload 4, 2) := by decide +kernel
