theorem dX12_here_26 : decode cX12_here 26 = .ok (.iaload, 1) := by decide +kernel
theorem dX12_here_27 : decode cX12_here 27 = .ok (.goto 6, 3) := by decide +kernel
theorem dX12_here_30 : decode cX12_here 30 = .ok (.sipush 256, 3) := by decide +kernel
theorem dX12_here_33 : decode cX12_here 33 = .ok (.ireturn, 1) := by decide +kernel
theorem dX12_figure_0 : decode cX12_figure 0 = .ok (.aload_n 0, 1) := by decide +kernel
theorem dX12_figure_1 : decode cX12_figure 1 = .ok (.iload_n 1, 1) := by decide +kernel
theorem dX12_figure_2 : decode cX12_figure 2 = .ok (.invokevirtual 140, 3) := by decide +kernel
theorem dX12_figure_5 : decode cX12_figure 5 = .ok (.bipush 48, 2) := by decide +kernel
theorem dX12_figure_7 : decode cX12_figure 7 = .ok (.isub, 1) := by decide +kernel
theorem dX12_figure_8 : decode cX12_figure 8 = .ok (.istore 5, 2) := by decide +kernel
theorem dX12_figure_10 : decode cX12_figure 10 = .ok (.iload 5, 2) := by decide +kernel
theorem dX12_figure_12 : decode cX12_figure 12 = .ok (.i2l, 1) := by decide +kernel
theorem dX12_figure_13 : decode cX12_figure 13 = .ok (.iload_n 2, 1) := by decide +kernel
theorem dX12_figure_14 : decode cX12_figure 14 = .ok (.i2l, 1) := by decide +kernel
theorem dX12_figure_15 : decode cX12_figure 15 = .ok (.iload_n 3, 1) := by decide +kernel
theorem dX12_figure_16 : decode cX12_figure 16 = .ok (.i2l, 1) := by decide +kernel
theorem dX12_figure_17 : decode cX12_figure 17 = .ok (.invokestatic 109, 3) := by decide +kernel
theorem dX12_figure_20 : decode cX12_figure 20 = .ok (.ifCond .eq 10, 3) := by decide +kernel
theorem dX12_figure_23 : decode cX12_figure 23 = .ok (.iload 5, 2) := by decide +kernel
theorem dX12_figure_25 : decode cX12_figure 25 = .ok (.iload 4, 2) := by decide +kernel
theorem dX12_figure_27 : decode cX12_figure 27 = .ok (.if_icmp .ne 5, 3) := by decide +kernel
theorem dX12_figure_30 : decode cX12_figure 30 = .ok (.iconst (-1), 1) := by decide +kernel
theorem dX12_figure_31 : decode cX12_figure 31 = .ok (.ireturn, 1) := by decide +kernel
theorem dX12_figure_32 : decode cX12_figure 32 = .ok (.aload_n 0, 1) := by decide +kernel
theorem dX12_figure_33 : decode cX12_figure 33 = .ok (.dup, 1) := by decide +kernel
theorem dX12_figure_34 : decode cX12_figure 34 = .ok (.getfield 137, 3) := by decide +kernel
theorem dX12_figure_37 : decode cX12_figure 37 = .ok (.iconst 1, 1) := by decide +kernel
theorem dX12_figure_38 : decode cX12_figure 38 = .ok (.iadd, 1) := by decide +kernel
theorem dX12_figure_39 : decode cX12_figure 39 = .ok (.putfield 137, 3) := by decide +kernel
theorem dX12_figure_42 : decode cX12_figure 42 = .ok (.iload 5, 2) := by decide +kernel
theorem dX12_figure_44 : decode cX12_figure 44 = .ok (.ireturn, 1) := by decide +kernel
theorem dX12_kindOf_0 : decode cX12_kindOf 0 = .ok (.iload_n 0, 1) := by decide +kernel
theorem dX12_kindOf_1 : decode cX12_kindOf 1 = .ok (.lookupswitch 71 #[(98, 63), (99, 61), (108, 65), (112, 69), (116, 67), (119, 59)], 59) := by decide +kernel
theorem dX12_kindOf_60 : decode cX12_kindOf 60 = .ok (.iconst 0, 1) := by decide +kernel
theorem dX12_kindOf_61 : decode cX12_kindOf 61 = .ok (.ireturn, 1) := by decide +kernel
theorem dX12_kindOf_62 : decode cX12_kindOf 62 = .ok (.iconst 1, 1) := by decide +kernel
theorem dX12_kindOf_63 : decode cX12_kindOf 63 = .ok (.ireturn, 1) := by decide +kernel
theorem dX12_kindOf_64 : decode cX12_kindOf 64 = .ok (.iconst 2, 1) := by decide +kernel
theorem dX12_kindOf_65 : decode cX12_kindOf 65 = .ok (.ireturn, 1) := by decide +kernel
theorem dX12_kindOf_66 : decode cX12_kindOf 66 = .ok (.iconst 3, 1) := by decide +kernel
theorem dX12_kindOf_67 : decode cX12_kindOf 67 = .ok (.ireturn, 1) := by decide +kernel
theorem dX12_kindOf_68 : decode cX12_kindOf 68 = .ok (.iconst 4, 1) := by decide +kernel
theorem dX12_kindOf_69 : decode cX12_kindOf 69 = .ok (.ireturn, 1) := by decide +kernel
theorem dX12_kindOf_70 : decode cX12_kindOf 70 = .ok (.iconst 5, 1) := by decide +kernel
theorem dX12_kindOf_71 : decode cX12_kindOf 71 = .ok (.ireturn, 1) := by decide +kernel
theorem dX12_kindOf_72 : decode cX12_kindOf 72 = .ok (.iconst (-1), 1) := by decide +kernel
theorem dX12_kindOf_73 : decode cX12_kindOf 73 = .ok (.ireturn, 1) := by decide +kernel
theorem dX12_takesStone_0 : decode cX12_takesStone 0 = .ok (.aload_n 0, 1) := by decide +kernel
theorem dX12_takesStone_1 : decode cX12_takesStone 1 = .ok (.getfield 143, 3) := by decide +kernel
theorem dX12_takesStone_4 : decode cX12_takesStone 4 = .ok (.iconst 5, 1) := by decide +kernel
theorem dX12_takesStone_5 : decode cX12_takesStone 5 = .ok (.if_icmp .eq 10, 3) := by decide +kernel
theorem dX12_takesStone_8 : decode cX12_takesStone 8 = .ok (.aload_n 0, 1) := by decide +kernel
theorem dX12_takesStone_9 : decode cX12_takesStone 9 = .ok (.getfield 146, 3) := by decide +kernel
theorem dX12_takesStone_12 : decode cX12_takesStone 12 = .ok (.ifCond .le 5, 3) := by decide +kernel
theorem dX12_takesStone_15 : decode cX12_takesStone 15 = .ok (.iconst 0, 1) := by decide +kernel
theorem dX12_takesStone_16 : decode cX12_takesStone 16 = .ok (.ireturn, 1) := by decide +kernel
theorem dX12_takesStone_17 : decode cX12_takesStone 17 = .ok (.aload_n 0, 1) := by decide +kernel
theorem dX12_takesStone_18 : decode cX12_takesStone 18 = .ok (.dup, 1) := by decide +kernel
theorem dX12_takesStone_19 : decode cX12_takesStone 19 = .ok (.getfield 137, 3) := by decide +kernel
theorem dX12_takesStone_22 : decode cX12_takesStone 22 = .ok (.iconst 1, 1) := by decide +kernel
theorem dX12_takesStone_23 : decode cX12_takesStone 23 = .ok (.iadd, 1) := by decide +kernel
theorem dX12_takesStone_24 : decode cX12_takesStone 24 = .ok (.putfield 137, 3) := by decide +kernel
theorem dX12_takesStone_27 : decode cX12_takesStone 27 = .ok (.aload_n 0, 1) := by decide +kernel
theorem dX12_takesStone_28 : decode cX12_takesStone 28 = .ok (.iload_n 1, 1) := by decide +kernel
theorem dX12_takesStone_29 : decode cX12_takesStone 29 = .ok (.invokevirtual 140, 3) := by decide +kernel
theorem dX12_takesStone_32 : decode cX12_takesStone 32 = .ok (.bipush 48, 2) := by decide +kernel
theorem dX12_takesStone_34 : decode cX12_takesStone 34 = .ok (.isub, 1) := by decide +kernel
theorem dX12_takesStone_35 : decode cX12_takesStone 35 = .ok (.istore_n 2, 1) := by decide +kernel
theorem dX12_takesStone_36 : decode cX12_takesStone 36 = .ok (.iconst 0, 1) := by decide +kernel
theorem dX12_takesStone_37 : decode cX12_takesStone 37 = .ok (.istore_n 3, 1) := by decide +kernel
theorem dX12_takesStone_38 : decode cX12_takesStone 38 = .ok (.iload_n 3, 1) := by decide +kernel
theorem dX12_takesStone_39 : decode cX12_takesStone 39 = .ok (.aload_n 0, 1) := by decide +kernel
theorem dX12_takesStone_40 : decode cX12_takesStone 40 = .ok (.getfield 143, 3) := by decide +kernel
theorem dX12_takesStone_43 : decode cX12_takesStone 43 = .ok (.if_icmp .ge 21, 3) := by decide +kernel
theorem dX12_takesStone_46 : decode cX12_takesStone 46 = .ok (.aload_n 0, 1) := by decide +kernel
theorem dX12_takesStone_47 : decode cX12_takesStone 47 = .ok (.getfield 65, 3) := by decide +kernel
theorem dX12_takesStone_50 : decode cX12_takesStone 50 = .ok (.iload_n 3, 1) := by decide +kernel
theorem dX12_takesStone_51 : decode cX12_takesStone 51 = .ok (.iaload, 1) := by decide +kernel
theorem dX12_takesStone_52 : decode cX12_takesStone 52 = .ok (.iload_n 2, 1) := by decide +kernel
theorem dX12_takesStone_53 : decode cX12_takesStone 53 = .ok (.if_icmp .ne 5, 3) := by decide +kernel
theorem dX12_takesStone_56 : decode cX12_takesStone 56 = .ok (.iconst 0, 1) := by decide +kernel
theorem dX12_takesStone_57 : decode cX12_takesStone 57 = .ok (.ireturn, 1) := by decide +kernel
theorem dX12_takesStone_58 : decode cX12_takesStone 58 = .ok (.iinc 3 1, 3) := by decide +kernel
theorem dX12_takesStone_61 : decode cX12_takesStone 61 = .ok (.goto (-23), 3) := by decide +kernel
theorem dX12_takesStone_64 : decode cX12_takesStone 64 = .ok (.aload_n 0, 1) := by decide +kernel
theorem dX12_takesStone_65 : decode cX12_takesStone 65 = .ok (.getfield 65, 3) := by decide +kernel
theorem dX12_takesStone_68 : decode cX12_takesStone 68 = .ok (.aload_n 0, 1) := by decide +kernel
theorem dX12_takesStone_69 : decode cX12_takesStone 69 = .ok (.getfield 143, 3) := by decide +kernel
theorem dX12_takesStone_72 : decode cX12_takesStone 72 = .ok (.aload_n 0, 1) := by decide +kernel
theorem dX12_takesStone_73 : decode cX12_takesStone 73 = .ok (.iload_n 1, 1) := by decide +kernel
theorem dX12_takesStone_74 : decode cX12_takesStone 74 = .ok (.iconst 1, 1) := by decide +kernel
theorem dX12_takesStone_75 : decode cX12_takesStone 75 = .ok (.bipush 9, 2) := by decide +kernel
theorem dX12_takesStone_77 : decode cX12_takesStone 77 = .ok (.iconst (-1), 1) := by decide +kernel
theorem dX12_takesStone_78 : decode cX12_takesStone 78 = .ok (.invokevirtual 149, 3) := by decide +kernel
theorem dX12_takesStone_81 : decode cX12_takesStone 81 = .ok (.iastore, 1) := by decide +kernel
theorem dX12_takesStone_82 : decode cX12_takesStone 82 = .ok (.aload_n 0, 1) := by decide +kernel
theorem dX12_takesStone_83 : decode cX12_takesStone 83 = .ok (.getfield 65, 3) := by decide +kernel
theorem dX12_takesStone_86 : decode cX12_takesStone 86 = .ok (.aload_n 0, 1) := by decide +kernel
theorem dX12_takesStone_87 : decode cX12_takesStone 87 = .ok (.getfield 143, 3) := by decide +kernel
theorem dX12_takesStone_90 : decode cX12_takesStone 90 = .ok (.iaload, 1) := by decide +kernel
theorem dX12_takesStone_91 : decode cX12_takesStone 91 = .ok (.ifCond .ge 5, 3) := by decide +kernel
theorem dX12_takesStone_94 : decode cX12_takesStone 94 = .ok (.iconst 0, 1) := by decide +kernel
theorem dX12_takesStone_95 : decode cX12_takesStone 95 = .ok (.ireturn, 1) := by decide +kernel
theorem dX12_takesStone_96 : decode cX12_takesStone 96 = .ok (.aload_n 0, 1) := by decide +kernel
theorem dX12_takesStone_97 : decode cX12_takesStone 97 = .ok (.getfield 68, 3) := by decide +kernel
theorem dX12_takesStone_100 : decode cX12_takesStone 100 = .ok (.aload_n 0, 1) := by decide +kernel
theorem dX12_takesStone_101 : decode cX12_takesStone 101 = .ok (.getfield 143, 3) := by decide +kernel
theorem dX12_takesStone_104 : decode cX12_takesStone 104 = .ok (.aload_n 0, 1) := by decide +kernel
theorem dX12_takesStone_105 : decode cX12_takesStone 105 = .ok (.iload_n 1, 1) := by decide +kernel
theorem dX12_takesStone_106 : decode cX12_takesStone 106 = .ok (.iconst 0, 1) := by decide +kernel
theorem dX12_takesStone_107 : decode cX12_takesStone 107 = .ok (.aload_n 0, 1) := by decide +kernel
theorem dX12_takesStone_108 : decode cX12_takesStone 108 = .ok (.getfield 153, 3) := by decide +kernel
theorem dX12_takesStone_111 : decode cX12_takesStone 111 = .ok (.iconst 1, 1) := by decide +kernel
theorem dX12_takesStone_112 : decode cX12_takesStone 112 = .ok (.isub, 1) := by decide +kernel
theorem dX12_takesStone_113 : decode cX12_takesStone 113 = .ok (.iconst (-1), 1) := by decide +kernel
theorem dX12_takesStone_114 : decode cX12_takesStone 114 = .ok (.invokevirtual 149, 3) := by decide +kernel
theorem dX12_takesStone_117 : decode cX12_takesStone 117 = .ok (.iastore, 1) := by decide +kernel
theorem dX12_takesStone_118 : decode cX12_takesStone 118 = .ok (.aload_n 0, 1) := by decide +kernel
theorem dX12_takesStone_119 : decode cX12_takesStone 119 = .ok (.dup, 1) := by decide +kernel
theorem dX12_takesStone_120 : decode cX12_takesStone 120 = .ok (.getfield 143, 3) := by decide +kernel
theorem dX12_takesStone_123 : decode cX12_takesStone 123 = .ok (.iconst 1, 1) := by decide +kernel
theorem dX12_takesStone_124 : decode cX12_takesStone 124 = .ok (.iadd, 1) := by decide +kernel
theorem dX12_takesStone_125 : decode cX12_takesStone 125 = .ok (.putfield 143, 3) := by decide +kernel
theorem dX12_takesStone_128 : decode cX12_takesStone 128 = .ok (.aload_n 0, 1) := by decide +kernel
theorem dX12_takesStone_129 : decode cX12_takesStone 129 = .ok (.getfield 68, 3) := by decide +kernel
theorem dX12_takesStone_132 : decode cX12_takesStone 132 = .ok (.aload_n 0, 1) := by decide +kernel
theorem dX12_takesStone_133 : decode cX12_takesStone 133 = .ok (.getfield 143, 3) := by decide +kernel
theorem dX12_takesStone_136 : decode cX12_takesStone 136 = .ok (.iconst 1, 1) := by decide +kernel
theorem dX12_takesStone_137 : decode cX12_takesStone 137 = .ok (.isub, 1) := by decide +kernel
theorem dX12_takesStone_138 : decode cX12_takesStone 138 = .ok (.iaload, 1) := by decide +kernel
theorem dX12_takesStone_139 : decode cX12_takesStone 139 = .ok (.ifCond .lt 7, 3) := by decide +kernel
theorem dX12_takesStone_142 : decode cX12_takesStone 142 = .ok (.iconst 1, 1) := by decide +kernel
theorem dX12_takesStone_143 : decode cX12_takesStone 143 = .ok (.goto 4, 3) := by decide +kernel
theorem dX12_takesStone_146 : decode cX12_takesStone 146 = .ok (.iconst 0, 1) := by decide +kernel
theorem dX12_takesStone_147 : decode cX12_takesStone 147 = .ok (.ireturn, 1) := by decide +kernel
theorem dX12_takesWalker_0 : decode cX12_takesWalker 0 = .ok (.aload_n 0, 1) := by decide +kernel
theorem dX12_takesWalker_1 : decode cX12_takesWalker 1 = .ok (.iload_n 1, 1) := by decide +kernel
theorem dX12_takesWalker_2 : decode cX12_takesWalker 2 = .ok (.invokevirtual 140, 3) := by decide +kernel
theorem dX12_takesWalker_5 : decode cX12_takesWalker 5 = .ok (.invokestatic 156, 3) := by decide +kernel
theorem dX12_takesWalker_8 : decode cX12_takesWalker 8 = .ok (.istore_n 2, 1) := by decide +kernel
theorem dX12_takesWalker_9 : decode cX12_takesWalker 9 = .ok (.iload_n 2, 1) := by decide +kernel
theorem dX12_takesWalker_10 : decode cX12_takesWalker 10 = .ok (.ifCond .lt 11, 3) := by decide +kernel
theorem dX12_takesWalker_13 : decode cX12_takesWalker 13 = .ok (.aload_n 0, 1) := by decide +kernel
theorem dX12_takesWalker_14 : decode cX12_takesWalker 14 = .ok (.getfield 146, 3) := by decide +kernel
theorem dX12_takesWalker_17 : decode cX12_takesWalker 17 = .ok (.iconst 5, 1) := by decide +kernel
theorem dX12_takesWalker_18 : decode cX12_takesWalker 18 = .ok (.if_icmp .ne 5, 3) := by decide +kernel
theorem dX12_takesWalker_21 : decode cX12_takesWalker 21 = .ok (.iconst 0, 1) := by decide +kernel
theorem dX12_takesWalker_22 : decode cX12_takesWalker 22 = .ok (.ireturn, 1) := by decide +kernel
theorem dX12_takesWalker_23 : decode cX12_takesWalker 23 = .ok (.aload_n 0, 1) := by decide +kernel
theorem dX12_takesWalker_24 : decode cX12_takesWalker 24 = .ok (.dup, 1) := by decide +kernel
theorem dX12_takesWalker_25 : decode cX12_takesWalker 25 = .ok (.getfield 137, 3) := by decide +kernel
theorem dX12_takesWalker_28 : decode cX12_takesWalker 28 = .ok (.iconst 1, 1) := by decide +kernel
theorem dX12_takesWalker_29 : decode cX12_takesWalker 29 = .ok (.iadd, 1) := by decide +kernel
theorem dX12_takesWalker_30 : decode cX12_takesWalker 30 = .ok (.putfield 137, 3) := by decide +kernel
theorem dX12_takesWalker_33 : decode cX12_takesWalker 33 = .ok (.aload_n 0, 1) := by decide +kernel
theorem dX12_takesWalker_34 : decode cX12_takesWalker 34 = .ok (.getfield 146, 3) := by decide +kernel
theorem dX12_takesWalker_37 : decode cX12_takesWalker 37 = .ok (.istore_n 3, 1) := by decide +kernel
theorem dX12_takesWalker_38 : decode cX12_takesWalker 38 = .ok (.aload_n 0, 1) := by decide +kernel
theorem dX12_takesWalker_39 : decode cX12_takesWalker 39 = .ok (.getfield 71, 3) := by decide +kernel
theorem dX12_takesWalker_42 : decode cX12_takesWalker 42 = .ok (.iload_n 3, 1) := by decide +kernel
theorem dX12_takesWalker_43 : decode cX12_takesWalker 43 = .ok (.iload_n 2, 1) := by decide +kernel
theorem dX12_takesWalker_44 : decode cX12_takesWalker 44 = .ok (.iastore, 1) := by decide +kernel
theorem dX12_takesWalker_45 : decode cX12_takesWalker 45 = .ok (.aload_n 0, 1) := by decide +kernel
theorem dX12_takesWalker_46 : decode cX12_takesWalker 46 = .ok (.getfield 74, 3) := by decide +kernel
theorem dX12_takesWalker_49 : decode cX12_takesWalker 49 = .ok (.iload_n 3, 1) := by decide +kernel
theorem dX12_takesWalker_50 : decode cX12_takesWalker 50 = .ok (.aload_n 0, 1) := by decide +kernel
theorem dX12_takesWalker_51 : decode cX12_takesWalker 51 = .ok (.iload_n 1, 1) := by decide +kernel
theorem dX12_takesWalker_52 : decode cX12_takesWalker 52 = .ok (.iconst 0, 1) := by decide +kernel
theorem dX12_takesWalker_53 : decode cX12_takesWalker 53 = .ok (.aload_n 0, 1) := by decide +kernel
theorem dX12_takesWalker_54 : decode cX12_takesWalker 54 = .ok (.getfield 153, 3) := by decide +kernel
theorem dX12_takesWalker_57 : decode cX12_takesWalker 57 = .ok (.iconst 1, 1) := by decide +kernel
theorem dX12_takesWalker_58 : decode cX12_takesWalker 58 = .ok (.isub, 1) := by decide +kernel
theorem dX12_takesWalker_59 : decode cX12_takesWalker 59 = .ok (.iconst (-1), 1) := by decide +kernel
theorem dX12_takesWalker_60 : decode cX12_takesWalker 60 = .ok (.invokevirtual 149, 3) := by decide +kernel
theorem dX12_takesWalker_63 : decode cX12_takesWalker 63 = .ok (.iastore, 1) := by decide +kernel
theorem dX12_takesWalker_64 : decode cX12_takesWalker 64 = .ok (.aload_n 0, 1) := by decide +kernel
theorem dX12_takesWalker_65 : decode cX12_takesWalker 65 = .ok (.getfield 74, 3) := by decide +kernel
theorem dX12_takesWalker_68 : decode cX12_takesWalker 68 = .ok (.iload_n 3, 1) := by decide +kernel
theorem dX12_takesWalker_69 : decode cX12_takesWalker 69 = .ok (.iaload, 1) := by decide +kernel
theorem dX12_takesWalker_70 : decode cX12_takesWalker 70 = .ok (.ifCond .ge 5, 3) := by decide +kernel
theorem dX12_takesWalker_73 : decode cX12_takesWalker 73 = .ok (.iconst 0, 1) := by decide +kernel
theorem dX12_takesWalker_74 : decode cX12_takesWalker 74 = .ok (.ireturn, 1) := by decide +kernel
theorem dX12_takesWalker_75 : decode cX12_takesWalker 75 = .ok (.aload_n 0, 1) := by decide +kernel
theorem dX12_takesWalker_76 : decode cX12_takesWalker 76 = .ok (.getfield 77, 3) := by decide +kernel
theorem dX12_takesWalker_79 : decode cX12_takesWalker 79 = .ok (.iload_n 3, 1) := by decide +kernel
theorem dX12_takesWalker_80 : decode cX12_takesWalker 80 = .ok (.aload_n 0, 1) := by decide +kernel
theorem dX12_takesWalker_81 : decode cX12_takesWalker 81 = .ok (.iload_n 1, 1) := by decide +kernel
theorem dX12_takesWalker_82 : decode cX12_takesWalker 82 = .ok (.iconst 0, 1) := by decide +kernel
theorem dX12_takesWalker_83 : decode cX12_takesWalker 83 = .ok (.aload_n 0, 1) := by decide +kernel
theorem dX12_takesWalker_84 : decode cX12_takesWalker 84 = .ok (.getfield 153, 3) := by decide +kernel
theorem dX12_takesWalker_87 : decode cX12_takesWalker 87 = .ok (.iconst 1, 1) := by decide +kernel
theorem dX12_takesWalker_88 : decode cX12_takesWalker 88 = .ok (.isub, 1) := by decide +kernel
theorem dX12_takesWalker_89 : decode cX12_takesWalker 89 = .ok (.aload_n 0, 1) := by decide +kernel
theorem dX12_takesWalker_90 : decode cX12_takesWalker 90 = .ok (.getfield 74, 3) := by decide +kernel
theorem dX12_takesWalker_93 : decode cX12_takesWalker 93 = .ok (.iload_n 3, 1) := by decide +kernel
theorem dX12_takesWalker_94 : decode cX12_takesWalker 94 = .ok (.iaload, 1) := by decide +kernel
theorem dX12_takesWalker_95 : decode cX12_takesWalker 95 = .ok (.invokevirtual 149, 3) := by decide +kernel
theorem dX12_takesWalker_98 : decode cX12_takesWalker 98 = .ok (.iastore, 1) := by decide +kernel
theorem dX12_takesWalker_99 : decode cX12_takesWalker 99 = .ok (.aload_n 0, 1) := by decide +kernel
theorem dX12_takesWalker_100 : decode cX12_takesWalker 100 = .ok (.dup, 1) := by decide +kernel
theorem dX12_takesWalker_101 : decode cX12_takesWalker 101 = .ok (.getfield 146, 3) := by decide +kernel
theorem dX12_takesWalker_104 : decode cX12_takesWalker 104 = .ok (.iconst 1, 1) := by decide +kernel
theorem dX12_takesWalker_105 : decode cX12_takesWalker 105 = .ok (.iadd, 1) := by decide +kernel
theorem dX12_takesWalker_106 : decode cX12_takesWalker 106 = .ok (.putfield 146, 3) := by decide +kernel
theorem dX12_takesWalker_109 : decode cX12_takesWalker 109 = .ok (.aload_n 0, 1) := by decide +kernel
theorem dX12_takesWalker_110 : decode cX12_takesWalker 110 = .ok (.getfield 77, 3) := by decide +kernel
theorem dX12_takesWalker_113 : decode cX12_takesWalker 113 = .ok (.iload_n 3, 1) := by decide +kernel
theorem dX12_takesWalker_114 : decode cX12_takesWalker 114 = .ok (.iaload, 1) := by decide +kernel
theorem dX12_takesWalker_115 : decode cX12_takesWalker 115 = .ok (.ifCond .lt 7, 3) := by decide +kernel
theorem dX12_takesWalker_118 : decode cX12_takesWalker 118 = .ok (.iconst 1, 1) := by decide +kernel
theorem dX12_takesWalker_119 : decode cX12_takesWalker 119 = .ok (.goto 4, 3) := by decide +kernel
theorem dX12_takesWalker_122 : decode cX12_takesWalker 122 = .ok (.iconst 0, 1) := by decide +kernel
theorem dX12_takesWalker_123 : decode cX12_takesWalker 123 = .ok (.ireturn, 1) := by decide +kernel
theorem dX12_skip_0 : decode cX12_skip 0 = .ok (.aload_n 0, 1) := by decide +kernel
theorem dX12_skip_1 : decode cX12_skip 1 = .ok (.iload_n 1, 1) := by decide +kernel
theorem dX12_skip_2 : decode cX12_skip 2 = .ok (.invokevirtual 140, 3) := by decide +kernel
theorem dX12_skip_5 : decode cX12_skip 5 = .ok (.bipush 32, 2) := by decide +kernel
theorem dX12_skip_7 : decode cX12_skip 7 = .ok (.if_icmp .ne 16, 3) := by decide +kernel
theorem dX12_skip_10 : decode cX12_skip 10 = .ok (.aload_n 0, 1) := by decide +kernel
theorem dX12_skip_11 : decode cX12_skip 11 = .ok (.dup, 1) := by decide +kernel
theorem dX12_skip_12 : decode cX12_skip 12 = .ok (.getfield 137, 3) := by decide +kernel
theorem dX12_skip_15 : decode cX12_skip 15 = .ok (.iconst 1, 1) := by decide +kernel
theorem dX12_skip_16 : decode cX12_skip 16 = .ok (.iadd, 1) := by decide +kernel
theorem dX12_skip_17 : decode cX12_skip 17 = .ok (.putfield 137, 3) := by decide +kernel
theorem dX12_skip_20 : decode cX12_skip 20 = .ok (.goto (-20), 3) := by decide +kernel
theorem dX12_skip_23 : decode cX12_skip 23 = .ok (.return_, 1) := by decide +kernel
theorem dX12_reads_0 : decode cX12_reads 0 = .ok (.aload_n 0, 1) := by decide +kernel
theorem dX12_reads_1 : decode cX12_reads 1 = .ok (.iconst 0, 1) := by decide +kernel
theorem dX12_reads_2 : decode cX12_reads 2 = .ok (.putfield 137, 3) := by decide +kernel
theorem dX12_reads_5 : decode cX12_reads 5 = .ok (.aload_n 0, 1) := by decide +kernel
theorem dX12_reads_6 : decode cX12_reads 6 = .ok (.iconst 0, 1) := by decide +kernel
theorem dX12_reads_7 : decode cX12_reads 7 = .ok (.putfield 143, 3) := by decide +kernel
theorem dX12_reads_10 : decode cX12_reads 10 = .ok (.aload_n 0, 1) := by decide +kernel
theorem dX12_reads_11 : decode cX12_reads 11 = .ok (.iconst 0, 1) := by decide +kernel
theorem dX12_reads_12 : decode cX12_reads 12 = .ok (.putfield 146, 3) := by decide +kernel
theorem dX12_reads_15 : decode cX12_reads 15 = .ok (.aload_n 0, 1) := by decide +kernel
theorem dX12_reads_16 : decode cX12_reads 16 = .ok (.iload_n 1, 1) := by decide +kernel
theorem dX12_reads_17 : decode cX12_reads 17 = .ok (.invokevirtual 159, 3) := by decide +kernel
theorem dX12_reads_20 : decode cX12_reads 20 = .ok (.aload_n 0, 1) := by decide +kernel
theorem dX12_reads_21 : decode cX12_reads 21 = .ok (.iload_n 1, 1) := by decide +kernel
theorem dX12_reads_22 : decode cX12_reads 22 = .ok (.invokevirtual 140, 3) := by decide +kernel
theorem dX12_reads_25 : decode cX12_reads 25 = .ok (.bipush 114, 2) := by decide +kernel
theorem dX12_reads_27 : decode cX12_reads 27 = .ok (.if_icmp .eq 5, 3) := by decide +kernel
theorem dX12_reads_30 : decode cX12_reads 30 = .ok (.iconst 0, 1) := by decide +kernel
theorem dX12_reads_31 : decode cX12_reads 31 = .ok (.ireturn, 1) := by decide +kernel
theorem dX12_reads_32 : decode cX12_reads 32 = .ok (.aload_n 0, 1) := by decide +kernel
theorem dX12_reads_33 : decode cX12_reads 33 = .ok (.dup, 1) := by decide +kernel
theorem dX12_reads_34 : decode cX12_reads 34 = .ok (.getfield 137, 3) := by decide +kernel
theorem dX12_reads_37 : decode cX12_reads 37 = .ok (.iconst 1, 1) := by decide +kernel
theorem dX12_reads_38 : decode cX12_reads 38 = .ok (.iadd, 1) := by decide +kernel
theorem dX12_reads_39 : decode cX12_reads 39 = .ok (.putfield 137, 3) := by decide +kernel
theorem dX12_reads_42 : decode cX12_reads 42 = .ok (.aload_n 0, 1) := by decide +kernel
theorem dX12_reads_43 : decode cX12_reads 43 = .ok (.aload_n 0, 1) := by decide +kernel
theorem dX12_reads_44 : decode cX12_reads 44 = .ok (.iload_n 1, 1) := by decide +kernel
theorem dX12_reads_45 : decode cX12_reads 45 = .ok (.iconst 2, 1) := by decide +kernel
theorem dX12_reads_46 : decode cX12_reads 46 = .ok (.bipush 7, 2) := by decide +kernel
theorem dX12_reads_48 : decode cX12_reads 48 = .ok (.iconst (-1), 1) := by decide +kernel
theorem dX12_reads_49 : decode cX12_reads 49 = .ok (.invokevirtual 149, 3) := by decide +kernel
theorem dX12_reads_52 : decode cX12_reads 52 = .ok (.putfield 153, 3) := by decide +kernel
theorem dX12_reads_55 : decode cX12_reads 55 = .ok (.aload_n 0, 1) := by decide +kernel
theorem dX12_reads_56 : decode cX12_reads 56 = .ok (.getfield 153, 3) := by decide +kernel
theorem dX12_reads_59 : decode cX12_reads 59 = .ok (.ifCond .le 7, 3) := by decide +kernel
theorem dX12_reads_62 : decode cX12_reads 62 = .ok (.iconst 1, 1) := by decide +kernel
theorem dX12_reads_63 : decode cX12_reads 63 = .ok (.goto 4, 3) := by decide +kernel
theorem dX12_reads_66 : decode cX12_reads 66 = .ok (.iconst 0, 1) := by decide +kernel
theorem dX12_reads_67 : decode cX12_reads 67 = .ok (.istore_n 2, 1) := by decide +kernel
theorem dX12_reads_68 : decode cX12_reads 68 = .ok (.iload_n 2, 1) := by decide +kernel
theorem dX12_reads_69 : decode cX12_reads 69 = .ok (.ifCond .eq 48, 3) := by decide +kernel
theorem dX12_reads_72 : decode cX12_reads 72 = .ok (.aload_n 0, 1) := by decide +kernel
theorem dX12_reads_73 : decode cX12_reads 73 = .ok (.iload_n 1, 1) := by decide +kernel
theorem dX12_reads_74 : decode cX12_reads 74 = .ok (.invokevirtual 159, 3) := by decide +kernel
theorem dX12_reads_77 : decode cX12_reads 77 = .ok (.aload_n 0, 1) := by decide +kernel
theorem dX12_reads_78 : decode cX12_reads 78 = .ok (.iload_n 1, 1) := by decide +kernel
theorem dX12_reads_79 : decode cX12_reads 79 = .ok (.invokevirtual 140, 3) := by decide +kernel
theorem dX12_reads_82 : decode cX12_reads 82 = .ok (.sipush 256, 3) := by decide +kernel
theorem dX12_reads_85 : decode cX12_reads 85 = .ok (.if_icmp .ne 5, 3) := by decide +kernel
theorem dX12_reads_88 : decode cX12_reads 88 = .ok (.iconst 1, 1) := by decide +kernel
theorem dX12_reads_89 : decode cX12_reads 89 = .ok (.ireturn, 1) := by decide +kernel
theorem dX12_reads_90 : decode cX12_reads 90 = .ok (.aload_n 0, 1) := by decide +kernel
theorem dX12_reads_91 : decode cX12_reads 91 = .ok (.iload_n 1, 1) := by decide +kernel
theorem dX12_reads_92 : decode cX12_reads 92 = .ok (.invokevirtual 140, 3) := by decide +kernel
theorem dX12_reads_95 : decode cX12_reads 95 = .ok (.bipush 109, 2) := by decide +kernel
theorem dX12_reads_97 : decode cX12_reads 97 = .ok (.if_icmp .ne 11, 3) := by decide +kernel
theorem dX12_reads_100 : decode cX12_reads 100 = .ok (.aload_n 0, 1) := by decide +kernel
theorem dX12_reads_101 : decode cX12_reads 101 = .ok (.iload_n 1, 1) := by decide +kernel
theorem dX12_reads_102 : decode cX12_reads 102 = .ok (.invokevirtual 163, 3) := by decide +kernel
theorem dX12_reads_105 : decode cX12_reads 105 = .ok (.goto 8, 3) := by decide +kernel
theorem dX12_reads_108 : decode cX12_reads 108 = .ok (.aload_n 0, 1) := by decide +kernel
theorem dX12_reads_109 : decode cX12_reads 109 = .ok (.iload_n 1, 1) := by decide +kernel
theorem dX12_reads_110 : decode cX12_reads 110 = .ok (.invokevirtual 166, 3) := by decide +kernel
theorem dX12_reads_113 : decode cX12_reads 113 = .ok (.istore_n 2, 1) := by decide +kernel
theorem dX12_reads_114 : decode cX12_reads 114 = .ok (.goto (-46), 3) := by decide +kernel
theorem dX12_reads_117 : decode cX12_reads 117 = .ok (.iconst 0, 1) := by decide +kernel
theorem dX12_reads_118 : decode cX12_reads 118 = .ok (.ireturn, 1) := by decide +kernel
theorem dX12_fault_0 : decode cX12_fault 0 = .ok (.iload_n 1, 1) := by decide +kernel
theorem dX12_fault_1 : decode cX12_fault 1 = .ok (.invokestatic 134, 3) := by decide +kernel
theorem dX12_fault_4 : decode cX12_fault 4 = .ok (.ifCond .ne 5, 3) := by decide +kernel
theorem dX12_fault_7 : decode cX12_fault 7 = .ok (.iconst (-1), 1) := by decide +kernel
theorem dX12_fault_8 : decode cX12_fault 8 = .ok (.ireturn, 1) := by decide +kernel
theorem dX12_fault_9 : decode cX12_fault 9 = .ok (.aload_n 0, 1) := by decide +kernel
theorem dX12_fault_10 : decode cX12_fault 10 = .ok (.getfield 16, 3) := by decide +kernel
theorem dX12_fault_13 : decode cX12_fault 13 = .ok (.iload_n 1, 1) := by decide +kernel
theorem dX12_fault_14 : decode cX12_fault 14 = .ok (.iaload, 1) := by decide +kernel
theorem dX12_fault_15 : decode cX12_fault 15 = .ok (.ifCond .ge 9, 3) := by decide +kernel
theorem dX12_fault_18 : decode cX12_fault 18 = .ok (.aload_n 0, 1) := by decide +kernel
theorem dX12_fault_19 : decode cX12_fault 19 = .ok (.iconst 1, 1) := by decide +kernel
theorem dX12_fault_20 : decode cX12_fault 20 = .ok (.invokevirtual 119, 3) := by decide +kernel
theorem dX12_fault_23 : decode cX12_fault 23 = .ok (.ireturn, 1) := by decide +kernel
theorem dX12_fault_24 : decode cX12_fault 24 = .ok (.aload_n 0, 1) := by decide +kernel
theorem dX12_fault_25 : decode cX12_fault 25 = .ok (.iload_n 1, 1) := by decide +kernel
theorem dX12_fault_26 : decode cX12_fault 26 = .ok (.invokevirtual 169, 3) := by decide +kernel
theorem dX12_fault_29 : decode cX12_fault 29 = .ok (.ifCond .eq 8, 3) := by decide +kernel
theorem dX12_fault_32 : decode cX12_fault 32 = .ok (.bipush (-9), 2) := by decide +kernel
theorem dX12_fault_34 : decode cX12_fault 34 = .ok (.goto 7, 3) := by decide +kernel
theorem dX12_fault_37 : decode cX12_fault 37 = .ok (.aload_n 0, 1) := by decide +kernel
theorem dX12_fault_38 : decode cX12_fault 38 = .ok (.getfield 137, 3) := by decide +kernel
theorem dX12_fault_41 : decode cX12_fault 41 = .ok (.ireturn, 1) := by decide +kernel
theorem dX12_clear_0 : decode cX12_clear 0 = .ok (.aload_n 0, 1) := by decide +kernel
theorem dX12_clear_1 : decode cX12_clear 1 = .ok (.iconst 0, 1) := by decide +kernel
theorem dX12_clear_2 : decode cX12_clear 2 = .ok (.putfield 172, 3) := by decide +kernel
theorem dX12_clear_5 : decode cX12_clear 5 = .ok (.iconst 0, 1) := by decide +kernel
theorem dX12_clear_6 : decode cX12_clear 6 = .ok (.istore_n 1, 1) := by decide +kernel
theorem dX12_clear_7 : decode cX12_clear 7 = .ok (.iload_n 1, 1) := by decide +kernel
theorem dX12_clear_8 : decode cX12_clear 8 = .ok (.iconst 5, 1) := by decide +kernel
theorem dX12_clear_9 : decode cX12_clear 9 = .ok (.if_icmp .ge 23, 3) := by decide +kernel
theorem dX12_clear_12 : decode cX12_clear 12 = .ok (.aload_n 0, 1) := by decide +kernel
theorem dX12_clear_13 : decode cX12_clear 13 = .ok (.getfield 41, 3) := by decide +kernel
theorem dX12_clear_16 : decode cX12_clear 16 = .ok (.iload_n 1, 1) := by decide +kernel
theorem dX12_clear_17 : decode cX12_clear 17 = .ok (.iconst 0, 1) := by decide +kernel
theorem dX12_clear_18 : decode cX12_clear 18 = .ok (.iastore, 1) := by decide +kernel
theorem dX12_clear_19 : decode cX12_clear 19 = .ok (.aload_n 0, 1) := by decide +kernel
theorem dX12_clear_20 : decode cX12_clear 20 = .ok (.getfield 44, 3) := by decide +kernel
theorem dX12_clear_23 : decode cX12_clear 23 = .ok (.iload_n 1, 1) := by decide +kernel
theorem dX12_clear_24 : decode cX12_clear 24 = .ok (.iconst 0, 1) := by decide +kernel
theorem dX12_clear_25 : decode cX12_clear 25 = .ok (.iastore, 1) := by decide +kernel
theorem dX12_clear_26 : decode cX12_clear 26 = .ok (.iinc 1 1, 3) := by decide +kernel
theorem dX12_clear_29 : decode cX12_clear 29 = .ok (.goto (-22), 3) := by decide +kernel
theorem dX12_clear_32 : decode cX12_clear 32 = .ok (.return_, 1) := by decide +kernel
theorem dX12_road_0 : decode cX12_road 0 = .ok (.iload_n 1, 1) := by decide +kernel
theorem dX12_road_1 : decode cX12_road 1 = .ok (.invokestatic 134, 3) := by decide +kernel
theorem dX12_road_4 : decode cX12_road 4 = .ok (.ifCond .ne 5, 3) := by decide +kernel
theorem dX12_road_7 : decode cX12_road 7 = .ok (.iconst (-1), 1) := by decide +kernel
theorem dX12_road_8 : decode cX12_road 8 = .ok (.ireturn, 1) := by decide +kernel
theorem dX12_road_9 : decode cX12_road 9 = .ok (.aload_n 0, 1) := by decide +kernel
theorem dX12_road_10 : decode cX12_road 10 = .ok (.getfield 16, 3) := by decide +kernel
theorem dX12_road_13 : decode cX12_road 13 = .ok (.iload_n 1, 1) := by decide +kernel
theorem dX12_road_14 : decode cX12_road 14 = .ok (.iaload, 1) := by decide +kernel
theorem dX12_road_15 : decode cX12_road 15 = .ok (.ifCond .ge 9, 3) := by decide +kernel
theorem dX12_road_18 : decode cX12_road 18 = .ok (.aload_n 0, 1) := by decide +kernel
theorem dX12_road_19 : decode cX12_road 19 = .ok (.iconst 1, 1) := by decide +kernel
theorem dX12_road_20 : decode cX12_road 20 = .ok (.invokevirtual 119, 3) := by decide +kernel
theorem dX12_road_23 : decode cX12_road 23 = .ok (.ireturn, 1) := by decide +kernel
theorem dX12_road_24 : decode cX12_road 24 = .ok (.aload_n 0, 1) := by decide +kernel
theorem dX12_road_25 : decode cX12_road 25 = .ok (.iload_n 1, 1) := by decide +kernel
theorem dX12_road_26 : decode cX12_road 26 = .ok (.invokevirtual 169, 3) := by decide +kernel
theorem dX12_road_29 : decode cX12_road 29 = .ok (.ifCond .ne 6, 3) := by decide +kernel
theorem dX12_road_32 : decode cX12_road 32 = .ok (.bipush (-4), 2) := by decide +kernel
theorem dX12_road_34 : decode cX12_road 34 = .ok (.ireturn, 1) := by decide +kernel
theorem dX12_road_35 : decode cX12_road 35 = .ok (.aload_n 0, 1) := by decide +kernel
theorem dX12_road_36 : decode cX12_road 36 = .ok (.aload_n 0, 1) := by decide +kernel
theorem dX12_road_37 : decode cX12_road 37 = .ok (.getfield 153, 3) := by decide +kernel
theorem dX12_road_40 : decode cX12_road 40 = .ok (.putfield 175, 3) := by decide +kernel
theorem dX12_road_43 : decode cX12_road 43 = .ok (.aload_n 0, 1) := by decide +kernel
theorem dX12_road_44 : decode cX12_road 44 = .ok (.aload_n 0, 1) := by decide +kernel
theorem dX12_road_45 : decode cX12_road 45 = .ok (.getfield 143, 3) := by decide +kernel
theorem dX12_road_48 : decode cX12_road 48 = .ok (.putfield 178, 3) := by decide +kernel
theorem dX12_road_51 : decode cX12_road 51 = .ok (.aload_n 0, 1) := by decide +kernel
theorem dX12_road_52 : decode cX12_road 52 = .ok (.aload_n 0, 1) := by decide +kernel
theorem dX12_road_53 : decode cX12_road 53 = .ok (.getfield 146, 3) := by decide +kernel
theorem dX12_road_56 : decode cX12_road 56 = .ok (.putfield 181, 3) := by decide +kernel
theorem dX12_road_59 : decode cX12_road 59 = .ok (.aload_n 0, 1) := by decide +kernel
theorem dX12_road_60 : decode cX12_road 60 = .ok (.iconst 0, 1) := by decide +kernel
theorem dX12_road_61 : decode cX12_road 61 = .ok (.putfield 184, 3) := by decide +kernel
theorem dX12_road_64 : decode cX12_road 64 = .ok (.iconst 0, 1) := by decide +kernel
theorem dX12_road_65 : decode cX12_road 65 = .ok (.istore_n 2, 1) := by decide +kernel
theorem dX12_road_66 : decode cX12_road 66 = .ok (.iload_n 2, 1) := by decide +kernel
theorem dX12_road_67 : decode cX12_road 67 = .ok (.iconst 5, 1) := by decide +kernel
theorem dX12_road_68 : decode cX12_road 68 = .ok (.if_icmp .ge 88, 3) := by decide +kernel
theorem dX12_road_71 : decode cX12_road 71 = .ok (.aload_n 0, 1) := by decide +kernel
theorem dX12_road_72 : decode cX12_road 72 = .ok (.getfield 29, 3) := by decide +kernel
theorem dX12_road_75 : decode cX12_road 75 = .ok (.iload_n 2, 1) := by decide +kernel
theorem dX12_road_76 : decode cX12_road 76 = .ok (.aload_n 0, 1) := by decide +kernel
theorem dX12_road_77 : decode cX12_road 77 = .ok (.getfield 65, 3) := by decide +kernel
theorem dX12_road_80 : decode cX12_road 80 = .ok (.iload_n 2, 1) := by decide +kernel
theorem dX12_road_81 : decode cX12_road 81 = .ok (.iaload, 1) := by decide +kernel
theorem dX12_road_82 : decode cX12_road 82 = .ok (.iastore, 1) := by decide +kernel
theorem dX12_road_83 : decode cX12_road 83 = .ok (.aload_n 0, 1) := by decide +kernel
theorem dX12_road_84 : decode cX12_road 84 = .ok (.dup, 1) := by decide +kernel
theorem dX12_road_85 : decode cX12_road 85 = .ok (.getfield 184, 3) := by decide +kernel
theorem dX12_road_88 : decode cX12_road 88 = .ok (.iload_n 2, 1) := by decide +kernel
theorem dX12_road_89 : decode cX12_road 89 = .ok (.aload_n 0, 1) := by decide +kernel
theorem dX12_road_90 : decode cX12_road 90 = .ok (.getfield 178, 3) := by decide +kernel
theorem dX12_road_93 : decode cX12_road 93 = .ok (.if_icmp .ge 16, 3) := by decide +kernel
theorem dX12_road_96 : decode cX12_road 96 = .ok (.aload_n 0, 1) := by decide +kernel
theorem dX12_road_97 : decode cX12_road 97 = .ok (.getfield 68, 3) := by decide +kernel
theorem dX12_road_100 : decode cX12_road 100 = .ok (.iload_n 2, 1) := by decide +kernel
theorem dX12_road_101 : decode cX12_road 101 = .ok (.iaload, 1) := by decide +kernel
theorem dX12_road_102 : decode cX12_road 102 = .ok (.iconst 3, 1) := by decide +kernel
theorem dX12_road_103 : decode cX12_road 103 = .ok (.iload_n 2, 1) := by decide +kernel
theorem dX12_road_104 : decode cX12_road 104 = .ok (.imul, 1) := by decide +kernel
theorem dX12_road_105 : decode cX12_road 105 = .ok (.ishl, 1) := by decide +kernel
theorem dX12_road_106 : decode cX12_road 106 = .ok (.goto 4, 3) := by decide +kernel
theorem dX12_road_109 : decode cX12_road 109 = .ok (.iconst 0, 1) := by decide +kernel
theorem dX12_road_110 : decode cX12_road 110 = .ok (.ior, 1) := by decide +kernel
theorem dX12_road_111 : decode cX12_road 111 = .ok (.putfield 184, 3) := by decide +kernel
theorem dX12_road_114 : decode cX12_road 114 = .ok (.aload_n 0, 1) := by decide +kernel
theorem dX12_road_115 : decode cX12_road 115 = .ok (.getfield 32, 3) := by decide +kernel
theorem dX12_road_118 : decode cX12_road 118 = .ok (.iload_n 2, 1) := by decide +kernel
theorem dX12_road_119 : decode cX12_road 119 = .ok (.aload_n 0, 1) := by decide +kernel
theorem dX12_road_120 : decode cX12_road 120 = .ok (.getfield 71, 3) := by decide +kernel
theorem dX12_road_123 : decode cX12_road 123 = .ok (.iload_n 2, 1) := by decide +kernel
theorem dX12_road_124 : decode cX12_road 124 = .ok (.iaload, 1) := by decide +kernel
theorem dX12_road_125 : decode cX12_road 125 = .ok (.iastore, 1) := by decide +kernel
theorem dX12_road_126 : decode cX12_road 126 = .ok (.aload_n 0, 1) := by decide +kernel
theorem dX12_road_127 : decode cX12_road 127 = .ok (.getfield 35, 3) := by decide +kernel
theorem dX12_road_130 : decode cX12_road 130 = .ok (.iload_n 2, 1) := by decide +kernel
theorem dX12_road_131 : decode cX12_road 131 = .ok (.aload_n 0, 1) := by decide +kernel
theorem dX12_road_132 : decode cX12_road 132 = .ok (.getfield 74, 3) := by decide +kernel
theorem dX12_road_135 : decode cX12_road 135 = .ok (.iload_n 2, 1) := by decide +kernel
theorem dX12_road_136 : decode cX12_road 136 = .ok (.iaload, 1) := by decide +kernel
theorem dX12_road_137 : decode cX12_road 137 = .ok (.iastore, 1) := by decide +kernel
theorem dX12_road_138 : decode cX12_road 138 = .ok (.aload_n 0, 1) := by decide +kernel
theorem dX12_road_139 : decode cX12_road 139 = .ok (.getfield 38, 3) := by decide +kernel
theorem dX12_road_142 : decode cX12_road 142 = .ok (.iload_n 2, 1) := by decide +kernel
theorem dX12_road_143 : decode cX12_road 143 = .ok (.aload_n 0, 1) := by decide +kernel
theorem dX12_road_144 : decode cX12_road 144 = .ok (.getfield 77, 3) := by decide +kernel
theorem dX12_road_147 : decode cX12_road 147 = .ok (.iload_n 2, 1) := by decide +kernel
theorem dX12_road_148 : decode cX12_road 148 = .ok (.iaload, 1) := by decide +kernel
theorem dX12_road_149 : decode cX12_road 149 = .ok (.iastore, 1) := by decide +kernel
theorem dX12_road_150 : decode cX12_road 150 = .ok (.iinc 2 1, 3) := by decide +kernel
theorem dX12_road_153 : decode cX12_road 153 = .ok (.goto (-87), 3) := by decide +kernel
theorem dX12_road_156 : decode cX12_road 156 = .ok (.aload_n 0, 1) := by decide +kernel
theorem dX12_road_157 : decode cX12_road 157 = .ok (.iconst 0, 1) := by decide +kernel
theorem dX12_road_158 : decode cX12_road 158 = .ok (.putfield 187, 3) := by decide +kernel
theorem dX12_road_161 : decode cX12_road 161 = .ok (.iconst 0, 1) := by decide +kernel
theorem dX12_road_162 : decode cX12_road 162 = .ok (.istore_n 2, 1) := by decide +kernel
theorem dX12_road_163 : decode cX12_road 163 = .ok (.iload_n 2, 1) := by decide +kernel
theorem dX12_road_164 : decode cX12_road 164 = .ok (.iconst 3, 1) := by decide +kernel
theorem dX12_road_165 : decode cX12_road 165 = .ok (.if_icmp .ge 16, 3) := by decide +kernel
theorem dX12_road_168 : decode cX12_road 168 = .ok (.aload_n 0, 1) := by decide +kernel
theorem dX12_road_169 : decode cX12_road 169 = .ok (.getfield 59, 3) := by decide +kernel
theorem dX12_road_172 : decode cX12_road 172 = .ok (.iload_n 2, 1) := by decide +kernel
theorem dX12_road_173 : decode cX12_road 173 = .ok (.iconst (-1), 1) := by decide +kernel
theorem dX12_road_174 : decode cX12_road 174 = .ok (.iastore, 1) := by decide +kernel
theorem dX12_road_175 : decode cX12_road 175 = .ok (.iinc 2 1, 3) := by decide +kernel
theorem dX12_road_178 : decode cX12_road 178 = .ok (.goto (-15), 3) := by decide +kernel
theorem dX12_road_181 : decode cX12_road 181 = .ok (.aload_n 0, 1) := by decide +kernel
theorem dX12_road_182 : decode cX12_road 182 = .ok (.invokevirtual 190, 3) := by decide +kernel
theorem dX12_road_185 : decode cX12_road 185 = .ok (.aload_n 0, 1) := by decide +kernel
theorem dX12_road_186 : decode cX12_road 186 = .ok (.getfield 178, 3) := by decide +kernel
theorem dX12_road_189 : decode cX12_road 189 = .ok (.ireturn, 1) := by decide +kernel
theorem dX12_home_0 : decode cX12_home 0 = .ok (.aload_n 0, 1) := by decide +kernel
theorem dX12_home_1 : decode cX12_home 1 = .ok (.getfield 29, 3) := by decide +kernel
theorem dX12_home_4 : decode cX12_home 4 = .ok (.iload_n 1, 1) := by decide +kernel
theorem dX12_home_5 : decode cX12_home 5 = .ok (.iaload, 1) := by decide +kernel
theorem dX12_home_6 : decode cX12_home 6 = .ok (.aload_n 0, 1) := by decide +kernel
theorem dX12_home_7 : decode cX12_home 7 = .ok (.getfield 175, 3) := by decide +kernel
theorem dX12_home_10 : decode cX12_home 10 = .ok (.if_icmp .gt 14, 3) := by decide +kernel
theorem dX12_home_13 : decode cX12_home 13 = .ok (.aload_n 0, 1) := by decide +kernel
theorem dX12_home_14 : decode cX12_home 14 = .ok (.getfield 29, 3) := by decide +kernel
theorem dX12_home_17 : decode cX12_home 17 = .ok (.iload_n 1, 1) := by decide +kernel
theorem dX12_home_18 : decode cX12_home 18 = .ok (.iaload, 1) := by decide +kernel
theorem dX12_home_19 : decode cX12_home 19 = .ok (.iconst 1, 1) := by decide +kernel
theorem dX12_home_20 : decode cX12_home 20 = .ok (.isub, 1) := by decide +kernel
theorem dX12_home_21 : decode cX12_home 21 = .ok (.goto 5, 3) := by decide +kernel
theorem dX12_home_24 : decode cX12_home 24 = .ok (.bipush (-9), 2) := by decide +kernel
theorem dX12_home_26 : decode cX12_home 26 = .ok (.ireturn, 1) := by decide +kernel
theorem dX12_size_0 : decode cX12_size 0 = .ok (.iload_n 0, 1) := by decide +kernel
theorem dX12_size_1 : decode cX12_size 1 = .ok (.ifCond .ge 8, 3) := by decide +kernel
theorem dX12_size_4 : decode cX12_size 4 = .ok (.iload_n 0, 1) := by decide +kernel
theorem dX12_size_5 : decode cX12_size 5 = .ok (.ineg, 1) := by decide +kernel
theorem dX12_size_6 : decode cX12_size 6 = .ok (.goto 4, 3) := by decide +kernel
theorem dX12_size_9 : decode cX12_size 9 = .ok (.iload_n 0, 1) := by decide +kernel
theorem dX12_size_10 : decode cX12_size 10 = .ok (.ireturn, 1) := by decide +kernel
theorem dX12_isAhead_0 : decode cX12_isAhead 0 = .ok (.iload 4, 2) := by decide +kernel
theorem dX12_isAhead_2 : decode cX12_isAhead 2 = .ok (.iconst 1, 1) := by decide +kernel
theorem dX12_isAhead_3 : decode cX12_isAhead 3 = .ok (.if_icmp .ne 24, 3) := by decide +kernel
theorem dX12_isAhead_6 : decode cX12_isAhead 6 = .ok (.aload_n 0, 1) := by decide +kernel
theorem dX12_isAhead_7 : decode cX12_isAhead 7 = .ok (.getfield 29, 3) := by decide +kernel
theorem dX12_isAhead_10 : decode cX12_isAhead 10 = .ok (.iload_n 1, 1) := by decide +kernel
theorem dX12_isAhead_11 : decode cX12_isAhead 11 = .ok (.iaload, 1) := by decide +kernel
theorem dX12_isAhead_12 : decode cX12_isAhead 12 = .ok (.aload_n 0, 1) := by decide +kernel
theorem dX12_isAhead_13 : decode cX12_isAhead 13 = .ok (.getfield 29, 3) := by decide +kernel
theorem dX12_isAhead_16 : decode cX12_isAhead 16 = .ok (.iload_n 2, 1) := by decide +kernel
theorem dX12_isAhead_17 : decode cX12_isAhead 17 = .ok (.iaload, 1) := by decide +kernel
theorem dX12_isAhead_18 : decode cX12_isAhead 18 = .ok (.if_icmp .le 7, 3) := by decide +kernel
theorem dX12_isAhead_21 : decode cX12_isAhead 21 = .ok (.iconst 1, 1) := by decide +kernel
theorem dX12_isAhead_22 : decode cX12_isAhead 22 = .ok (.goto 4, 3) := by decide +kernel
theorem dX12_isAhead_25 : decode cX12_isAhead 25 = .ok (.iconst 0, 1) := by decide +kernel
theorem dX12_isAhead_26 : decode cX12_isAhead 26 = .ok (.ireturn, 1) := by decide +kernel
theorem dX12_isAhead_27 : decode cX12_isAhead 27 = .ok (.aload_n 0, 1) := by decide +kernel
theorem dX12_isAhead_28 : decode cX12_isAhead 28 = .ok (.iload_n 1, 1) := by decide +kernel
theorem dX12_isAhead_29 : decode cX12_isAhead 29 = .ok (.invokevirtual 193, 3) := by decide +kernel
theorem dX12_isAhead_32 : decode cX12_isAhead 32 = .ok (.ifCond .ge 8, 3) := by decide +kernel
theorem dX12_isAhead_35 : decode cX12_isAhead 35 = .ok (.bipush 9, 2) := by decide +kernel
theorem dX12_isAhead_37 : decode cX12_isAhead 37 = .ok (.goto 13, 3) := by decide +kernel
theorem dX12_isAhead_40 : decode cX12_isAhead 40 = .ok (.aload_n 0, 1) := by decide +kernel
theorem dX12_isAhead_41 : decode cX12_isAhead 41 = .ok (.iload_n 1, 1) := by decide +kernel
theorem dX12_isAhead_42 : decode cX12_isAhead 42 = .ok (.invokevirtual 193, 3) := by decide +kernel
theorem dX12_isAhead_45 : decode cX12_isAhead 45 = .ok (.iload_n 3, 1) := by decide +kernel
theorem dX12_isAhead_46 : decode cX12_isAhead 46 = .ok (.isub, 1) := by decide +kernel
theorem dX12_isAhead_47 : decode cX12_isAhead 47 = .ok (.invokestatic 196, 3) := by decide +kernel
theorem dX12_isAhead_50 : decode cX12_isAhead 50 = .ok (.istore 5, 2) := by decide +kernel
theorem dX12_isAhead_52 : decode cX12_isAhead 52 = .ok (.aload_n 0, 1) := by decide +kernel
theorem dX12_isAhead_53 : decode cX12_isAhead 53 = .ok (.iload_n 2, 1) := by decide +kernel
theorem dX12_isAhead_54 : decode cX12_isAhead 54 = .ok (.invokevirtual 193, 3) := by decide +kernel
theorem dX12_isAhead_57 : decode cX12_isAhead 57 = .ok (.ifCond .ge 8, 3) := by decide +kernel
theorem dX12_isAhead_60 : decode cX12_isAhead 60 = .ok (.bipush 9, 2) := by decide +kernel
theorem dX12_isAhead_62 : decode cX12_isAhead 62 = .ok (.goto 13, 3) := by decide +kernel
theorem dX12_isAhead_65 : decode cX12_isAhead 65 = .ok (.aload_n 0, 1) := by decide +kernel
theorem dX12_isAhead_66 : decode cX12_isAhead 66 = .ok (.iload_n 2, 1) := by decide +kernel
theorem dX12_isAhead_67 : decode cX12_isAhead 67 = .ok (.invokevirtual 193, 3) := by decide +kernel
theorem dX12_isAhead_70 : decode cX12_isAhead 70 = .ok (.iload_n 3, 1) := by decide +kernel
theorem dX12_isAhead_71 : decode cX12_isAhead 71 = .ok (.isub, 1) := by decide +kernel
theorem dX12_isAhead_72 : decode cX12_isAhead 72 = .ok (.invokestatic 196, 3) := by decide +kernel
theorem dX12_isAhead_75 : decode cX12_isAhead 75 = .ok (.istore 6, 2) := by decide +kernel
theorem dX12_isAhead_77 : decode cX12_isAhead 77 = .ok (.iload 4, 2) := by decide +kernel
theorem dX12_isAhead_79 : decode cX12_isAhead 79 = .ok (.iconst 2, 1) := by decide +kernel
theorem dX12_isAhead_80 : decode cX12_isAhead 80 = .ok (.if_icmp .ne 25, 3) := by decide +kernel
theorem dX12_isAhead_83 : decode cX12_isAhead 83 = .ok (.iload 5, 2) := by decide +kernel
theorem dX12_isAhead_85 : decode cX12_isAhead 85 = .ok (.iload 6, 2) := by decide +kernel
theorem dX12_isAhead_87 : decode cX12_isAhead 87 = .ok (.if_icmp .eq 18, 3) := by decide +kernel
theorem dX12_isAhead_90 : decode cX12_isAhead 90 = .ok (.iload 5, 2) := by decide +kernel
theorem dX12_isAhead_92 : decode cX12_isAhead 92 = .ok (.iload 6, 2) := by decide +kernel
theorem dX12_isAhead_94 : decode cX12_isAhead 94 = .ok (.if_icmp .le 7, 3) := by decide +kernel
theorem dX12_isAhead_97 : decode cX12_isAhead 97 = .ok (.iconst 1, 1) := by decide +kernel
theorem dX12_isAhead_98 : decode cX12_isAhead 98 = .ok (.goto 27, 3) := by decide +kernel
theorem dX12_isAhead_101 : decode cX12_isAhead 101 = .ok (.iconst 0, 1) := by decide +kernel
theorem dX12_isAhead_102 : decode cX12_isAhead 102 = .ok (.goto 23, 3) := by decide +kernel
theorem dX12_isAhead_105 : decode cX12_isAhead 105 = .ok (.aload_n 0, 1) := by decide +kernel
theorem dX12_isAhead_106 : decode cX12_isAhead 106 = .ok (.getfield 29, 3) := by decide +kernel
theorem dX12_isAhead_109 : decode cX12_isAhead 109 = .ok (.iload_n 1, 1) := by decide +kernel
theorem dX12_isAhead_110 : decode cX12_isAhead 110 = .ok (.iaload, 1) := by decide +kernel
theorem dX12_isAhead_111 : decode cX12_isAhead 111 = .ok (.aload_n 0, 1) := by decide +kernel
theorem dX12_isAhead_112 : decode cX12_isAhead 112 = .ok (.getfield 29, 3) := by decide +kernel
theorem dX12_isAhead_115 : decode cX12_isAhead 115 = .ok (.iload_n 2, 1) := by decide +kernel
theorem dX12_isAhead_116 : decode cX12_isAhead 116 = .ok (.iaload, 1) := by decide +kernel
theorem dX12_isAhead_117 : decode cX12_isAhead 117 = .ok (.if_icmp .ge 7, 3) := by decide +kernel
theorem dX12_isAhead_120 : decode cX12_isAhead 120 = .ok (.iconst 1, 1) := by decide +kernel
theorem dX12_isAhead_121 : decode cX12_isAhead 121 = .ok (.goto 4, 3) := by decide +kernel
theorem dX12_isAhead_124 : decode cX12_isAhead 124 = .ok (.iconst 0, 1) := by decide +kernel
theorem dX12_isAhead_125 : decode cX12_isAhead 125 = .ok (.ireturn, 1) := by decide +kernel
theorem dX12_taken_0 : decode cX12_taken 0 = .ok (.bipush (-9), 2) := by decide +kernel
theorem dX12_taken_2 : decode cX12_taken 2 = .ok (.istore_n 3, 1) := by decide +kernel
theorem dX12_taken_3 : decode cX12_taken 3 = .ok (.iconst 0, 1) := by decide +kernel
theorem dX12_taken_4 : decode cX12_taken 4 = .ok (.istore 4, 2) := by decide +kernel
theorem dX12_taken_6 : decode cX12_taken 6 = .ok (.iload 4, 2) := by decide +kernel
theorem dX12_taken_8 : decode cX12_taken 8 = .ok (.aload_n 0, 1) := by decide +kernel
theorem dX12_taken_9 : decode cX12_taken 9 = .ok (.getfield 178, 3) := by decide +kernel
theorem dX12_taken_12 : decode cX12_taken 12 = .ok (.if_icmp .ge 41, 3) := by decide +kernel
theorem dX12_taken_15 : decode cX12_taken 15 = .ok (.aload_n 0, 1) := by decide +kernel
theorem dX12_taken_16 : decode cX12_taken 16 = .ok (.getfield 80, 3) := by decide +kernel
theorem dX12_taken_19 : decode cX12_taken 19 = .ok (.iload 4, 2) := by decide +kernel
theorem dX12_taken_21 : decode cX12_taken 21 = .ok (.iaload, 1) := by decide +kernel
theorem dX12_taken_22 : decode cX12_taken 22 = .ok (.iload_n 1, 1) := by decide +kernel
theorem dX12_taken_23 : decode cX12_taken 23 = .ok (.if_icmp .ne 24, 3) := by decide +kernel
theorem dX12_taken_26 : decode cX12_taken 26 = .ok (.iload_n 3, 1) := by decide +kernel
theorem dX12_taken_27 : decode cX12_taken 27 = .ok (.bipush (-9), 2) := by decide +kernel
theorem dX12_taken_29 : decode cX12_taken 29 = .ok (.if_icmp .eq 15, 3) := by decide +kernel
theorem dX12_taken_32 : decode cX12_taken 32 = .ok (.aload_n 0, 1) := by decide +kernel
theorem dX12_taken_33 : decode cX12_taken 33 = .ok (.iload 4, 2) := by decide +kernel
theorem dX12_taken_35 : decode cX12_taken 35 = .ok (.iload_n 3, 1) := by decide +kernel
theorem dX12_taken_36 : decode cX12_taken 36 = .ok (.iload_n 1, 1) := by decide +kernel
theorem dX12_taken_37 : decode cX12_taken 37 = .ok (.iload_n 2, 1) := by decide +kernel
theorem dX12_taken_38 : decode cX12_taken 38 = .ok (.invokevirtual 199, 3) := by decide +kernel
theorem dX12_taken_41 : decode cX12_taken 41 = .ok (.ifCond .eq 6, 3) := by decide +kernel
theorem dX12_taken_44 : decode cX12_taken 44 = .ok (.iload 4, 2) := by decide +kernel
theorem dX12_taken_46 : decode cX12_taken 46 = .ok (.istore_n 3, 1) := by decide +kernel
theorem dX12_taken_47 : decode cX12_taken 47 = .ok (.iinc 4 1, 3) := by decide +kernel
theorem dX12_taken_50 : decode cX12_taken 50 = .ok (.goto (-44), 3) := by decide +kernel
theorem dX12_taken_53 : decode cX12_taken 53 = .ok (.iload_n 3, 1) := by decide +kernel
theorem dX12_taken_54 : decode cX12_taken 54 = .ok (.ireturn, 1) := by decide +kernel
theorem dX12_put__0 : decode cX12_put_ 0 = .ok (.aload_n 0, 1) := by decide +kernel
theorem dX12_put__1 : decode cX12_put_ 1 = .ok (.getfield 80, 3) := by decide +kernel
theorem dX12_put__4 : decode cX12_put_ 4 = .ok (.iload_n 1, 1) := by decide +kernel
theorem dX12_put__5 : decode cX12_put_ 5 = .ok (.iload_n 2, 1) := by decide +kernel
theorem dX12_put__6 : decode cX12_put_ 6 = .ok (.iastore, 1) := by decide +kernel
theorem dX12_put__7 : decode cX12_put_ 7 = .ok (.aload_n 0, 1) := by decide +kernel
theorem dX12_put__8 : decode cX12_put_ 8 = .ok (.getfield 83, 3) := by decide +kernel
theorem dX12_put__11 : decode cX12_put_ 11 = .ok (.iload_n 1, 1) := by decide +kernel
theorem dX12_put__12 : decode cX12_put_ 12 = .ok (.dup2, 1) := by decide +kernel
theorem dX12_put__13 : decode cX12_put_ 13 = .ok (.iaload, 1) := by decide +kernel
theorem dX12_put__14 : decode cX12_put_ 14 = .ok (.iconst 1, 1) := by decide +kernel
theorem dX12_put__15 : decode cX12_put_ 15 = .ok (.iadd, 1) := by decide +kernel
theorem dX12_put__16 : decode cX12_put_ 16 = .ok (.iastore, 1) := by decide +kernel
theorem dX12_put__17 : decode cX12_put_ 17 = .ok (.aload_n 0, 1) := by decide +kernel
theorem dX12_put__18 : decode cX12_put_ 18 = .ok (.dup, 1) := by decide +kernel
theorem dX12_put__19 : decode cX12_put_ 19 = .ok (.getfield 203, 3) := by decide +kernel
theorem dX12_put__22 : decode cX12_put_ 22 = .ok (.aload_n 0, 1) := by decide +kernel
theorem dX12_put__23 : decode cX12_put_ 23 = .ok (.getfield 29, 3) := by decide +kernel
theorem dX12_put__26 : decode cX12_put_ 26 = .ok (.iload_n 1, 1) := by decide +kernel
theorem dX12_put__27 : decode cX12_put_ 27 = .ok (.iaload, 1) := by decide +kernel
theorem dX12_put__28 : decode cX12_put_ 28 = .ok (.iadd, 1) := by decide +kernel
theorem dX12_put__29 : decode cX12_put_ 29 = .ok (.putfield 203, 3) := by decide +kernel
theorem dX12_put__32 : decode cX12_put_ 32 = .ok (.return_, 1) := by decide +kernel
theorem dX12_carries_0 : decode cX12_carries 0 = .ok (.iload_n 1, 1) := by decide +kernel
theorem dX12_carries_1 : decode cX12_carries 1 = .ok (.iload_n 2, 1) := by decide +kernel
theorem dX12_carries_2 : decode cX12_carries 2 = .ok (.if_icmp .ge 7, 3) := by decide +kernel
theorem dX12_carries_5 : decode cX12_carries 5 = .ok (.iconst 1, 1) := by decide +kernel
theorem dX12_carries_6 : decode cX12_carries 6 = .ok (.goto 4, 3) := by decide +kernel
theorem dX12_carries_9 : decode cX12_carries 9 = .ok (.iconst (-1), 1) := by decide +kernel
theorem dX12_carries_10 : decode cX12_carries 10 = .ok (.istore 6, 2) := by decide +kernel
theorem dX12_carries_12 : decode cX12_carries 12 = .ok (.iload_n 1, 1) := by decide +kernel
theorem dX12_carries_13 : decode cX12_carries 13 = .ok (.istore 7, 2) := by decide +kernel
theorem dX12_carries_15 : decode cX12_carries 15 = .ok (.iload 7, 2) := by decide +kernel
theorem dX12_carries_17 : decode cX12_carries 17 = .ok (.iload_n 2, 1) := by decide +kernel
theorem dX12_carries_18 : decode cX12_carries 18 = .ok (.if_icmp .eq 25, 3) := by decide +kernel
theorem dX12_carries_21 : decode cX12_carries 21 = .ok (.aload_n 0, 1) := by decide +kernel
theorem dX12_carries_22 : decode cX12_carries 22 = .ok (.iload 7, 2) := by decide +kernel
theorem dX12_carries_24 : decode cX12_carries 24 = .ok (.iload_n 3, 1) := by decide +kernel
theorem dX12_carries_25 : decode cX12_carries 25 = .ok (.invokevirtual 206, 3) := by decide +kernel
theorem dX12_carries_28 : decode cX12_carries 28 = .ok (.bipush (-9), 2) := by decide +kernel
theorem dX12_carries_30 : decode cX12_carries 30 = .ok (.if_icmp .ne 13, 3) := by decide +kernel
theorem dX12_carries_33 : decode cX12_carries 33 = .ok (.iload 7, 2) := by decide +kernel
theorem dX12_carries_35 : decode cX12_carries 35 = .ok (.iload 6, 2) := by decide +kernel
theorem dX12_carries_37 : decode cX12_carries 37 = .ok (.iadd, 1) := by decide +kernel
theorem dX12_carries_38 : decode cX12_carries 38 = .ok (.istore 7, 2) := by decide +kernel
theorem dX12_carries_40 : decode cX12_carries 40 = .ok (.goto (-25), 3) := by decide +kernel
theorem dX12_carries_43 : decode cX12_carries 43 = .ok (.iconst 0, 1) := by decide +kernel
theorem dX12_carries_44 : decode cX12_carries 44 = .ok (.istore 8, 2) := by decide +kernel
theorem dX12_carries_46 : decode cX12_carries 46 = .ok (.iload 8, 2) := by decide +kernel
theorem dX12_carries_48 : decode cX12_carries 48 = .ok (.iload 4, 2) := by decide +kernel
theorem dX12_carries_50 : decode cX12_carries 50 = .ok (.if_icmp .ge 51, 3) := by decide +kernel
theorem dX12_carries_53 : decode cX12_carries 53 = .ok (.iload 7, 2) := by decide +kernel
theorem dX12_carries_55 : decode cX12_carries 55 = .ok (.iload_n 2, 1) := by decide +kernel
theorem dX12_carries_56 : decode cX12_carries 56 = .ok (.if_icmp .eq 45, 3) := by decide +kernel
theorem dX12_carries_59 : decode cX12_carries 59 = .ok (.aload_n 0, 1) := by decide +kernel
theorem dX12_carries_60 : decode cX12_carries 60 = .ok (.iload 7, 2) := by decide +kernel
theorem dX12_carries_62 : decode cX12_carries 62 = .ok (.iload_n 3, 1) := by decide +kernel
theorem dX12_carries_63 : decode cX12_carries 63 = .ok (.invokevirtual 206, 3) := by decide +kernel
theorem dX12_carries_66 : decode cX12_carries 66 = .ok (.istore 9, 2) := by decide +kernel
theorem dX12_carries_68 : decode cX12_carries 68 = .ok (.iload 9, 2) := by decide +kernel
theorem dX12_carries_70 : decode cX12_carries 70 = .ok (.bipush (-9), 2) := by decide +kernel
theorem dX12_carries_72 : decode cX12_carries 72 = .ok (.if_icmp .eq 23, 3) := by decide +kernel
theorem dX12_carries_75 : decode cX12_carries 75 = .ok (.aload_n 0, 1) := by decide +kernel
theorem dX12_carries_76 : decode cX12_carries 76 = .ok (.iload 9, 2) := by decide +kernel
theorem dX12_carries_78 : decode cX12_carries 78 = .ok (.iload 5, 2) := by decide +kernel
theorem dX12_carries_80 : decode cX12_carries 80 = .ok (.ifCond .eq 7, 3) := by decide +kernel
theorem dX12_carries_83 : decode cX12_carries 83 = .ok (.iload_n 2, 1) := by decide +kernel
theorem dX12_carries_84 : decode cX12_carries 84 = .ok (.goto 8, 3) := by decide +kernel
theorem dX12_carries_87 : decode cX12_carries 87 = .ok (.iload 7, 2) := by decide +kernel
theorem dX12_carries_89 : decode cX12_carries 89 = .ok (.iload 6, 2) := by decide +kernel
theorem dX12_carries_91 : decode cX12_carries 91 = .ok (.iadd, 1) := by decide +kernel
theorem dX12_carries_92 : decode cX12_carries 92 = .ok (.invokevirtual 209, 3) := by decide +kernel
theorem dX12_carries_95 : decode cX12_carries 95 = .ok (.iinc 8 1, 3) := by decide +kernel
theorem dX12_carries_98 : decode cX12_carries 98 = .ok (.goto (-52), 3) := by decide +kernel
theorem dX12_carries_101 : decode cX12_carries 101 = .ok (.return_, 1) := by decide +kernel
theorem dX12_spread_0 : decode cX12_spread 0 = .ok (.iconst 0, 1) := by decide +kernel
theorem dX12_spread_1 : decode cX12_spread 1 = .ok (.istore_n 2, 1) := by decide +kernel
theorem dX12_spread_2 : decode cX12_spread 2 = .ok (.iload_n 2, 1) := by decide +kernel
theorem dX12_spread_3 : decode cX12_spread 3 = .ok (.iconst 5, 1) := by decide +kernel
theorem dX12_spread_4 : decode cX12_spread 4 = .ok (.if_icmp .ge 43, 3) := by decide +kernel
theorem dX12_spread_7 : decode cX12_spread 7 = .ok (.aload_n 0, 1) := by decide +kernel
theorem dX12_spread_8 : decode cX12_spread 8 = .ok (.getfield 80, 3) := by decide +kernel
theorem dX12_spread_11 : decode cX12_spread 11 = .ok (.iload_n 2, 1) := by decide +kernel
theorem dX12_spread_12 : decode cX12_spread 12 = .ok (.iload_n 2, 1) := by decide +kernel
theorem dX12_spread_13 : decode cX12_spread 13 = .ok (.aload_n 0, 1) := by decide +kernel
theorem dX12_spread_14 : decode cX12_spread 14 = .ok (.getfield 178, 3) := by decide +kernel
theorem dX12_spread_17 : decode cX12_spread 17 = .ok (.if_icmp .ge 14, 3) := by decide +kernel
theorem dX12_spread_20 : decode cX12_spread 20 = .ok (.iload_n 1, 1) := by decide +kernel
theorem dX12_spread_21 : decode cX12_spread 21 = .ok (.iconst 3, 1) := by decide +kernel
theorem dX12_spread_22 : decode cX12_spread 22 = .ok (.iload_n 2, 1) := by decide +kernel
theorem dX12_spread_23 : decode cX12_spread 23 = .ok (.imul, 1) := by decide +kernel
theorem dX12_spread_24 : decode cX12_spread 24 = .ok (.ishr, 1) := by decide +kernel
theorem dX12_spread_25 : decode cX12_spread 25 = .ok (.bipush 7, 2) := by decide +kernel
theorem dX12_spread_27 : decode cX12_spread 27 = .ok (.iand, 1) := by decide +kernel
theorem dX12_spread_28 : decode cX12_spread 28 = .ok (.goto 5, 3) := by decide +kernel
theorem dX12_spread_31 : decode cX12_spread 31 = .ok (.bipush 7, 2) := by decide +kernel
theorem dX12_spread_33 : decode cX12_spread 33 = .ok (.iastore, 1) := by decide +kernel
theorem dX12_spread_34 : decode cX12_spread 34 = .ok (.aload_n 0, 1) := by decide +kernel
theorem dX12_spread_35 : decode cX12_spread 35 = .ok (.getfield 83, 3) := by decide +kernel
theorem dX12_spread_38 : decode cX12_spread 38 = .ok (.iload_n 2, 1) := by decide +kernel
theorem dX12_spread_39 : decode cX12_spread 39 = .ok (.iconst 0, 1) := by decide +kernel
theorem dX12_spread_40 : decode cX12_spread 40 = .ok (.iastore, 1) := by decide +kernel
theorem dX12_spread_41 : decode cX12_spread 41 = .ok (.iinc 2 1, 3) := by decide +kernel
theorem dX12_spread_44 : decode cX12_spread 44 = .ok (.goto (-42), 3) := by decide +kernel
theorem dX12_spread_47 : decode cX12_spread 47 = .ok (.aload_n 0, 1) := by decide +kernel
theorem dX12_spread_48 : decode cX12_spread 48 = .ok (.iconst 0, 1) := by decide +kernel
theorem dX12_spread_49 : decode cX12_spread 49 = .ok (.putfield 203, 3) := by decide +kernel
theorem dX12_spread_52 : decode cX12_spread 52 = .ok (.return_, 1) := by decide +kernel
theorem dX12_behind_0 : decode cX12_behind 0 = .ok (.aload_n 0, 1) := by decide +kernel
theorem dX12_behind_1 : decode cX12_behind 1 = .ok (.iload_n 1, 1) := by decide +kernel
theorem dX12_behind_2 : decode cX12_behind 2 = .ok (.invokevirtual 212, 3) := by decide +kernel
theorem dX12_behind_5 : decode cX12_behind 5 = .ok (.aload_n 0, 1) := by decide +kernel
theorem dX12_behind_6 : decode cX12_behind 6 = .ok (.getfield 35, 3) := by decide +kernel
theorem dX12_behind_9 : decode cX12_behind 9 = .ok (.iload_n 2, 1) := by decide +kernel
theorem dX12_behind_10 : decode cX12_behind 10 = .ok (.iaload, 1) := by decide +kernel
theorem dX12_behind_11 : decode cX12_behind 11 = .ok (.istore 4, 2) := by decide +kernel
theorem dX12_behind_13 : decode cX12_behind 13 = .ok (.aload_n 0, 1) := by decide +kernel
theorem dX12_behind_14 : decode cX12_behind 14 = .ok (.getfield 38, 3) := by decide +kernel
theorem dX12_behind_17 : decode cX12_behind 17 = .ok (.iload_n 2, 1) := by decide +kernel
theorem dX12_behind_18 : decode cX12_behind 18 = .ok (.iaload, 1) := by decide +kernel
theorem dX12_behind_19 : decode cX12_behind 19 = .ok (.istore 5, 2) := by decide +kernel
theorem dX12_behind_21 : decode cX12_behind 21 = .ok (.iload 4, 2) := by decide +kernel
theorem dX12_behind_23 : decode cX12_behind 23 = .ok (.iload 5, 2) := by decide +kernel
theorem dX12_behind_25 : decode cX12_behind 25 = .ok (.if_icmp .ge 10, 3) := by decide +kernel
theorem dX12_behind_28 : decode cX12_behind 28 = .ok (.iload 4, 2) := by decide +kernel
theorem dX12_behind_30 : decode cX12_behind 30 = .ok (.iconst 1, 1) := by decide +kernel
theorem dX12_behind_31 : decode cX12_behind 31 = .ok (.iadd, 1) := by decide +kernel
theorem dX12_behind_32 : decode cX12_behind 32 = .ok (.goto 7, 3) := by decide +kernel
