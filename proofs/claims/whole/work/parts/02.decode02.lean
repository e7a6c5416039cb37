theorem dX7_layWay_1 : decode cX7_layWay 1 = .ok (.istore_n 3, 1) := by decide +kernel
theorem dX7_layWay_2 : decode cX7_layWay 2 = .ok (.aload_n 2, 1) := by decide +kernel
theorem dX7_layWay_3 : decode cX7_layWay 3 = .ok (.getfield 125, 3) := by decide +kernel
theorem dX7_layWay_6 : decode cX7_layWay 6 = .ok (.iconst 1, 1) := by decide +kernel
theorem dX7_layWay_7 : decode cX7_layWay 7 = .ok (.isub, 1) := by decide +kernel
theorem dX7_layWay_8 : decode cX7_layWay 8 = .ok (.istore 4, 2) := by decide +kernel
theorem dX7_layWay_10 : decode cX7_layWay 10 = .ok (.iload 4, 2) := by decide +kernel
theorem dX7_layWay_12 : decode cX7_layWay 12 = .ok (.ifCond .lt 41, 3) := by decide +kernel
theorem dX7_layWay_15 : decode cX7_layWay 15 = .ok (.aload_n 0, 1) := by decide +kernel
theorem dX7_layWay_16 : decode cX7_layWay 16 = .ok (.iload_n 3, 1) := by decide +kernel
theorem dX7_layWay_17 : decode cX7_layWay 17 = .ok (.invokevirtual 108, 3) := by decide +kernel
theorem dX7_layWay_20 : decode cX7_layWay 20 = .ok (.ifCond .eq 33, 3) := by decide +kernel
theorem dX7_layWay_23 : decode cX7_layWay 23 = .ok (.aload_n 2, 1) := by decide +kernel
theorem dX7_layWay_24 : decode cX7_layWay 24 = .ok (.iload 4, 2) := by decide +kernel
theorem dX7_layWay_26 : decode cX7_layWay 26 = .ok (.aload_n 0, 1) := by decide +kernel
theorem dX7_layWay_27 : decode cX7_layWay 27 = .ok (.getfield 35, 3) := by decide +kernel
theorem dX7_layWay_30 : decode cX7_layWay 30 = .ok (.iload_n 3, 1) := by decide +kernel
theorem dX7_layWay_31 : decode cX7_layWay 31 = .ok (.iaload, 1) := by decide +kernel
theorem dX7_layWay_32 : decode cX7_layWay 32 = .ok (.bipush 7, 2) := by decide +kernel
theorem dX7_layWay_34 : decode cX7_layWay 34 = .ok (.iand, 1) := by decide +kernel
theorem dX7_layWay_35 : decode cX7_layWay 35 = .ok (.invokevirtual 130, 3) := by decide +kernel
theorem dX7_layWay_38 : decode cX7_layWay 38 = .ok (.aload_n 0, 1) := by decide +kernel
theorem dX7_layWay_39 : decode cX7_layWay 39 = .ok (.getfield 35, 3) := by decide +kernel
theorem dX7_layWay_42 : decode cX7_layWay 42 = .ok (.iload_n 3, 1) := by decide +kernel
theorem dX7_layWay_43 : decode cX7_layWay 43 = .ok (.iaload, 1) := by decide +kernel
theorem dX7_layWay_44 : decode cX7_layWay 44 = .ok (.iconst 3, 1) := by decide +kernel
theorem dX7_layWay_45 : decode cX7_layWay 45 = .ok (.ishr, 1) := by decide +kernel
theorem dX7_layWay_46 : decode cX7_layWay 46 = .ok (.istore_n 3, 1) := by decide +kernel
theorem dX7_layWay_47 : decode cX7_layWay 47 = .ok (.iinc 4 (-1), 3) := by decide +kernel
theorem dX7_layWay_50 : decode cX7_layWay 50 = .ok (.goto (-40), 3) := by decide +kernel
theorem dX7_layWay_53 : decode cX7_layWay 53 = .ok (.return_, 1) := by decide +kernel
theorem dX7_rowsOf_0 : decode cX7_rowsOf 0 = .ok (.iconst 1, 1) := by decide +kernel
theorem dX7_rowsOf_1 : decode cX7_rowsOf 1 = .ok (.istore_n 2, 1) := by decide +kernel
theorem dX7_rowsOf_2 : decode cX7_rowsOf 2 = .ok (.iconst 0, 1) := by decide +kernel
theorem dX7_rowsOf_3 : decode cX7_rowsOf 3 = .ok (.istore_n 3, 1) := by decide +kernel
theorem dX7_rowsOf_4 : decode cX7_rowsOf 4 = .ok (.iload_n 3, 1) := by decide +kernel
theorem dX7_rowsOf_5 : decode cX7_rowsOf 5 = .ok (.iload_n 1, 1) := by decide +kernel
theorem dX7_rowsOf_6 : decode cX7_rowsOf 6 = .ok (.if_icmp .ge 19, 3) := by decide +kernel
theorem dX7_rowsOf_9 : decode cX7_rowsOf 9 = .ok (.iload_n 2, 1) := by decide +kernel
theorem dX7_rowsOf_10 : decode cX7_rowsOf 10 = .ok (.aload_n 0, 1) := by decide +kernel
theorem dX7_rowsOf_11 : decode cX7_rowsOf 11 = .ok (.getfield 59, 3) := by decide +kernel
theorem dX7_rowsOf_14 : decode cX7_rowsOf 14 = .ok (.getfield 79, 3) := by decide +kernel
theorem dX7_rowsOf_17 : decode cX7_rowsOf 17 = .ok (.imul, 1) := by decide +kernel
theorem dX7_rowsOf_18 : decode cX7_rowsOf 18 = .ok (.istore_n 2, 1) := by decide +kernel
theorem dX7_rowsOf_19 : decode cX7_rowsOf 19 = .ok (.iinc 3 1, 3) := by decide +kernel
theorem dX7_rowsOf_22 : decode cX7_rowsOf 22 = .ok (.goto (-18), 3) := by decide +kernel
theorem dX7_rowsOf_25 : decode cX7_rowsOf 25 = .ok (.iload_n 2, 1) := by decide +kernel
theorem dX7_rowsOf_26 : decode cX7_rowsOf 26 = .ok (.ireturn, 1) := by decide +kernel
theorem dX7_firstRow_0 : decode cX7_firstRow 0 = .ok (.aload_n 0, 1) := by decide +kernel
theorem dX7_firstRow_1 : decode cX7_firstRow 1 = .ok (.getfield 11, 3) := by decide +kernel
theorem dX7_firstRow_4 : decode cX7_firstRow 4 = .ok (.iconst 0, 1) := by decide +kernel
theorem dX7_firstRow_5 : decode cX7_firstRow 5 = .ok (.invokestatic 102, 3) := by decide +kernel
theorem dX7_firstRow_8 : decode cX7_firstRow 8 = .ok (.return_, 1) := by decide +kernel
theorem dX7_nextRow_0 : decode cX7_nextRow 0 = .ok (.iload_n 1, 1) := by decide +kernel
theorem dX7_nextRow_1 : decode cX7_nextRow 1 = .ok (.iconst 4, 1) := by decide +kernel
theorem dX7_nextRow_2 : decode cX7_nextRow 2 = .ok (.invokestatic 134, 3) := by decide +kernel
theorem dX7_nextRow_5 : decode cX7_nextRow 5 = .ok (.iconst 1, 1) := by decide +kernel
theorem dX7_nextRow_6 : decode cX7_nextRow 6 = .ok (.isub, 1) := by decide +kernel
theorem dX7_nextRow_7 : decode cX7_nextRow 7 = .ok (.istore_n 2, 1) := by decide +kernel
theorem dX7_nextRow_8 : decode cX7_nextRow 8 = .ok (.iload_n 2, 1) := by decide +kernel
theorem dX7_nextRow_9 : decode cX7_nextRow 9 = .ok (.ifCond .lt 43, 3) := by decide +kernel
theorem dX7_nextRow_12 : decode cX7_nextRow 12 = .ok (.aload_n 0, 1) := by decide +kernel
theorem dX7_nextRow_13 : decode cX7_nextRow 13 = .ok (.getfield 11, 3) := by decide +kernel
theorem dX7_nextRow_16 : decode cX7_nextRow 16 = .ok (.iload_n 2, 1) := by decide +kernel
theorem dX7_nextRow_17 : decode cX7_nextRow 17 = .ok (.dup2, 1) := by decide +kernel
theorem dX7_nextRow_18 : decode cX7_nextRow 18 = .ok (.iaload, 1) := by decide +kernel
theorem dX7_nextRow_19 : decode cX7_nextRow 19 = .ok (.iconst 1, 1) := by decide +kernel
theorem dX7_nextRow_20 : decode cX7_nextRow 20 = .ok (.iadd, 1) := by decide +kernel
theorem dX7_nextRow_21 : decode cX7_nextRow 21 = .ok (.iastore, 1) := by decide +kernel
theorem dX7_nextRow_22 : decode cX7_nextRow 22 = .ok (.aload_n 0, 1) := by decide +kernel
theorem dX7_nextRow_23 : decode cX7_nextRow 23 = .ok (.getfield 11, 3) := by decide +kernel
theorem dX7_nextRow_26 : decode cX7_nextRow 26 = .ok (.iload_n 2, 1) := by decide +kernel
theorem dX7_nextRow_27 : decode cX7_nextRow 27 = .ok (.iaload, 1) := by decide +kernel
theorem dX7_nextRow_28 : decode cX7_nextRow 28 = .ok (.aload_n 0, 1) := by decide +kernel
theorem dX7_nextRow_29 : decode cX7_nextRow 29 = .ok (.getfield 59, 3) := by decide +kernel
theorem dX7_nextRow_32 : decode cX7_nextRow 32 = .ok (.getfield 79, 3) := by decide +kernel
theorem dX7_nextRow_35 : decode cX7_nextRow 35 = .ok (.if_icmp .ge 4, 3) := by decide +kernel
theorem dX7_nextRow_38 : decode cX7_nextRow 38 = .ok (.return_, 1) := by decide +kernel
theorem dX7_nextRow_39 : decode cX7_nextRow 39 = .ok (.aload_n 0, 1) := by decide +kernel
theorem dX7_nextRow_40 : decode cX7_nextRow 40 = .ok (.getfield 11, 3) := by decide +kernel
theorem dX7_nextRow_43 : decode cX7_nextRow 43 = .ok (.iload_n 2, 1) := by decide +kernel
theorem dX7_nextRow_44 : decode cX7_nextRow 44 = .ok (.iconst 0, 1) := by decide +kernel
theorem dX7_nextRow_45 : decode cX7_nextRow 45 = .ok (.iastore, 1) := by decide +kernel
theorem dX7_nextRow_46 : decode cX7_nextRow 46 = .ok (.iinc 2 (-1), 3) := by decide +kernel
theorem dX7_nextRow_49 : decode cX7_nextRow 49 = .ok (.goto (-41), 3) := by decide +kernel
theorem dX7_nextRow_52 : decode cX7_nextRow 52 = .ok (.return_, 1) := by decide +kernel
theorem dX7_gatherEnds_0 : decode cX7_gatherEnds 0 = .ok (.aload_n 0, 1) := by decide +kernel
theorem dX7_gatherEnds_1 : decode cX7_gatherEnds 1 = .ok (.iconst 0, 1) := by decide +kernel
theorem dX7_gatherEnds_2 : decode cX7_gatherEnds 2 = .ok (.putfield 44, 3) := by decide +kernel
theorem dX7_gatherEnds_5 : decode cX7_gatherEnds 5 = .ok (.aload_n 0, 1) := by decide +kernel
theorem dX7_gatherEnds_6 : decode cX7_gatherEnds 6 = .ok (.iload_n 1, 1) := by decide +kernel
theorem dX7_gatherEnds_7 : decode cX7_gatherEnds 7 = .ok (.invokevirtual 139, 3) := by decide +kernel
theorem dX7_gatherEnds_10 : decode cX7_gatherEnds 10 = .ok (.istore_n 2, 1) := by decide +kernel
theorem dX7_gatherEnds_11 : decode cX7_gatherEnds 11 = .ok (.aload_n 0, 1) := by decide +kernel
theorem dX7_gatherEnds_12 : decode cX7_gatherEnds 12 = .ok (.invokevirtual 142, 3) := by decide +kernel
theorem dX7_gatherEnds_15 : decode cX7_gatherEnds 15 = .ok (.iconst 0, 1) := by decide +kernel
theorem dX7_gatherEnds_16 : decode cX7_gatherEnds 16 = .ok (.istore_n 3, 1) := by decide +kernel
theorem dX7_gatherEnds_17 : decode cX7_gatherEnds 17 = .ok (.iload_n 3, 1) := by decide +kernel
theorem dX7_gatherEnds_18 : decode cX7_gatherEnds 18 = .ok (.iload_n 2, 1) := by decide +kernel
theorem dX7_gatherEnds_19 : decode cX7_gatherEnds 19 = .ok (.if_icmp .ge 56, 3) := by decide +kernel
theorem dX7_gatherEnds_22 : decode cX7_gatherEnds 22 = .ok (.aload_n 0, 1) := by decide +kernel
theorem dX7_gatherEnds_23 : decode cX7_gatherEnds 23 = .ok (.getfield 68, 3) := by decide +kernel
theorem dX7_gatherEnds_26 : decode cX7_gatherEnds 26 = .ok (.aload_n 0, 1) := by decide +kernel
theorem dX7_gatherEnds_27 : decode cX7_gatherEnds 27 = .ok (.getfield 59, 3) := by decide +kernel
theorem dX7_gatherEnds_30 : decode cX7_gatherEnds 30 = .ok (.aload_n 0, 1) := by decide +kernel
theorem dX7_gatherEnds_31 : decode cX7_gatherEnds 31 = .ok (.getfield 21, 3) := by decide +kernel
theorem dX7_gatherEnds_34 : decode cX7_gatherEnds 34 = .ok (.aload_n 0, 1) := by decide +kernel
theorem dX7_gatherEnds_35 : decode cX7_gatherEnds 35 = .ok (.getfield 25, 3) := by decide +kernel
theorem dX7_gatherEnds_38 : decode cX7_gatherEnds 38 = .ok (.invokevirtual 84, 3) := by decide +kernel
theorem dX7_gatherEnds_41 : decode cX7_gatherEnds 41 = .ok (.aload_n 0, 1) := by decide +kernel
theorem dX7_gatherEnds_42 : decode cX7_gatherEnds 42 = .ok (.getfield 68, 3) := by decide +kernel
theorem dX7_gatherEnds_45 : decode cX7_gatherEnds 45 = .ok (.aload_n 0, 1) := by decide +kernel
theorem dX7_gatherEnds_46 : decode cX7_gatherEnds 46 = .ok (.getfield 11, 3) := by decide +kernel
theorem dX7_gatherEnds_49 : decode cX7_gatherEnds 49 = .ok (.iload_n 1, 1) := by decide +kernel
theorem dX7_gatherEnds_50 : decode cX7_gatherEnds 50 = .ok (.invokevirtual 145, 3) := by decide +kernel
theorem dX7_gatherEnds_53 : decode cX7_gatherEnds 53 = .ok (.aload_n 0, 1) := by decide +kernel
theorem dX7_gatherEnds_54 : decode cX7_gatherEnds 54 = .ok (.aload_n 0, 1) := by decide +kernel
theorem dX7_gatherEnds_55 : decode cX7_gatherEnds 55 = .ok (.getfield 68, 3) := by decide +kernel
theorem dX7_gatherEnds_58 : decode cX7_gatherEnds 58 = .ok (.getfield 92, 3) := by decide +kernel
theorem dX7_gatherEnds_61 : decode cX7_gatherEnds 61 = .ok (.invokevirtual 148, 3) := by decide +kernel
theorem dX7_gatherEnds_64 : decode cX7_gatherEnds 64 = .ok (.aload_n 0, 1) := by decide +kernel
theorem dX7_gatherEnds_65 : decode cX7_gatherEnds 65 = .ok (.iload_n 1, 1) := by decide +kernel
theorem dX7_gatherEnds_66 : decode cX7_gatherEnds 66 = .ok (.invokevirtual 151, 3) := by decide +kernel
theorem dX7_gatherEnds_69 : decode cX7_gatherEnds 69 = .ok (.iinc 3 1, 3) := by decide +kernel
theorem dX7_gatherEnds_72 : decode cX7_gatherEnds 72 = .ok (.goto (-55), 3) := by decide +kernel
theorem dX7_gatherEnds_75 : decode cX7_gatherEnds 75 = .ok (.aload_n 0, 1) := by decide +kernel
theorem dX7_gatherEnds_76 : decode cX7_gatherEnds 76 = .ok (.getfield 44, 3) := by decide +kernel
theorem dX7_gatherEnds_79 : decode cX7_gatherEnds 79 = .ok (.ireturn, 1) := by decide +kernel
theorem dX7_gather_0 : decode cX7_gather 0 = .ok (.iconst 0, 1) := by decide +kernel
theorem dX7_gather_1 : decode cX7_gather 1 = .ok (.istore_n 2, 1) := by decide +kernel
theorem dX7_gather_2 : decode cX7_gather 2 = .ok (.iload_n 2, 1) := by decide +kernel
theorem dX7_gather_3 : decode cX7_gather 3 = .ok (.aload_n 0, 1) := by decide +kernel
theorem dX7_gather_4 : decode cX7_gather 4 = .ok (.getfield 44, 3) := by decide +kernel
theorem dX7_gather_7 : decode cX7_gather 7 = .ok (.if_icmp .ge 26, 3) := by decide +kernel
theorem dX7_gather_10 : decode cX7_gather 10 = .ok (.iload_n 2, 1) := by decide +kernel
theorem dX7_gather_11 : decode cX7_gather 11 = .ok (.bipush 125, 2) := by decide +kernel
theorem dX7_gather_13 : decode cX7_gather 13 = .ok (.if_icmp .ge 20, 3) := by decide +kernel
theorem dX7_gather_16 : decode cX7_gather 16 = .ok (.aload_n 0, 1) := by decide +kernel
theorem dX7_gather_17 : decode cX7_gather 17 = .ok (.getfield 15, 3) := by decide +kernel
theorem dX7_gather_20 : decode cX7_gather 20 = .ok (.iload_n 2, 1) := by decide +kernel
theorem dX7_gather_21 : decode cX7_gather 21 = .ok (.iaload, 1) := by decide +kernel
theorem dX7_gather_22 : decode cX7_gather 22 = .ok (.iload_n 1, 1) := by decide +kernel
theorem dX7_gather_23 : decode cX7_gather 23 = .ok (.if_icmp .ne 4, 3) := by decide +kernel
theorem dX7_gather_26 : decode cX7_gather 26 = .ok (.return_, 1) := by decide +kernel
theorem dX7_gather_27 : decode cX7_gather 27 = .ok (.iinc 2 1, 3) := by decide +kernel
theorem dX7_gather_30 : decode cX7_gather 30 = .ok (.goto (-28), 3) := by decide +kernel
theorem dX7_gather_33 : decode cX7_gather 33 = .ok (.aload_n 0, 1) := by decide +kernel
theorem dX7_gather_34 : decode cX7_gather 34 = .ok (.getfield 44, 3) := by decide +kernel
theorem dX7_gather_37 : decode cX7_gather 37 = .ok (.bipush 125, 2) := by decide +kernel
theorem dX7_gather_39 : decode cX7_gather 39 = .ok (.if_icmp .ge 23, 3) := by decide +kernel
theorem dX7_gather_42 : decode cX7_gather 42 = .ok (.aload_n 0, 1) := by decide +kernel
theorem dX7_gather_43 : decode cX7_gather 43 = .ok (.getfield 15, 3) := by decide +kernel
theorem dX7_gather_46 : decode cX7_gather 46 = .ok (.aload_n 0, 1) := by decide +kernel
theorem dX7_gather_47 : decode cX7_gather 47 = .ok (.getfield 44, 3) := by decide +kernel
theorem dX7_gather_50 : decode cX7_gather 50 = .ok (.iload_n 1, 1) := by decide +kernel
theorem dX7_gather_51 : decode cX7_gather 51 = .ok (.iastore, 1) := by decide +kernel
theorem dX7_gather_52 : decode cX7_gather 52 = .ok (.aload_n 0, 1) := by decide +kernel
theorem dX7_gather_53 : decode cX7_gather 53 = .ok (.dup, 1) := by decide +kernel
theorem dX7_gather_54 : decode cX7_gather 54 = .ok (.getfield 44, 3) := by decide +kernel
theorem dX7_gather_57 : decode cX7_gather 57 = .ok (.iconst 1, 1) := by decide +kernel
theorem dX7_gather_58 : decode cX7_gather 58 = .ok (.iadd, 1) := by decide +kernel
theorem dX7_gather_59 : decode cX7_gather 59 = .ok (.putfield 44, 3) := by decide +kernel
theorem dX7_gather_62 : decode cX7_gather 62 = .ok (.return_, 1) := by decide +kernel
theorem dX7_endAt_0 : decode cX7_endAt 0 = .ok (.iload_n 1, 1) := by decide +kernel
theorem dX7_endAt_1 : decode cX7_endAt 1 = .ok (.ifCond .lt 26, 3) := by decide +kernel
theorem dX7_endAt_4 : decode cX7_endAt 4 = .ok (.iload_n 1, 1) := by decide +kernel
theorem dX7_endAt_5 : decode cX7_endAt 5 = .ok (.aload_n 0, 1) := by decide +kernel
theorem dX7_endAt_6 : decode cX7_endAt 6 = .ok (.getfield 44, 3) := by decide +kernel
theorem dX7_endAt_9 : decode cX7_endAt 9 = .ok (.if_icmp .ge 18, 3) := by decide +kernel
theorem dX7_endAt_12 : decode cX7_endAt 12 = .ok (.iload_n 1, 1) := by decide +kernel
theorem dX7_endAt_13 : decode cX7_endAt 13 = .ok (.bipush 125, 2) := by decide +kernel
theorem dX7_endAt_15 : decode cX7_endAt 15 = .ok (.if_icmp .ge 12, 3) := by decide +kernel
theorem dX7_endAt_18 : decode cX7_endAt 18 = .ok (.aload_n 0, 1) := by decide +kernel
theorem dX7_endAt_19 : decode cX7_endAt 19 = .ok (.getfield 15, 3) := by decide +kernel
theorem dX7_endAt_22 : decode cX7_endAt 22 = .ok (.iload_n 1, 1) := by decide +kernel
theorem dX7_endAt_23 : decode cX7_endAt 23 = .ok (.iaload, 1) := by decide +kernel
theorem dX7_endAt_24 : decode cX7_endAt 24 = .ok (.goto 7, 3) := by decide +kernel
theorem dX7_endAt_27 : decode cX7_endAt 27 = .ok (.aload_n 0, 1) := by decide +kernel
theorem dX7_endAt_28 : decode cX7_endAt 28 = .ok (.getfield 21, 3) := by decide +kernel
theorem dX7_endAt_31 : decode cX7_endAt 31 = .ok (.ireturn, 1) := by decide +kernel
theorem dX7_mostAlike_0 : decode cX7_mostAlike 0 = .ok (.iconst 0, 1) := by decide +kernel
theorem dX7_mostAlike_1 : decode cX7_mostAlike 1 = .ok (.istore_n 2, 1) := by decide +kernel
theorem dX7_mostAlike_2 : decode cX7_mostAlike 2 = .ok (.aload_n 0, 1) := by decide +kernel
theorem dX7_mostAlike_3 : decode cX7_mostAlike 3 = .ok (.getfield 18, 3) := by decide +kernel
theorem dX7_mostAlike_6 : decode cX7_mostAlike 6 = .ok (.iconst 0, 1) := by decide +kernel
theorem dX7_mostAlike_7 : decode cX7_mostAlike 7 = .ok (.invokestatic 102, 3) := by decide +kernel
theorem dX7_mostAlike_10 : decode cX7_mostAlike 10 = .ok (.iconst 0, 1) := by decide +kernel
theorem dX7_mostAlike_11 : decode cX7_mostAlike 11 = .ok (.istore_n 3, 1) := by decide +kernel
theorem dX7_mostAlike_12 : decode cX7_mostAlike 12 = .ok (.iload_n 3, 1) := by decide +kernel
theorem dX7_mostAlike_13 : decode cX7_mostAlike 13 = .ok (.aload_n 0, 1) := by decide +kernel
theorem dX7_mostAlike_14 : decode cX7_mostAlike 14 = .ok (.getfield 44, 3) := by decide +kernel
theorem dX7_mostAlike_17 : decode cX7_mostAlike 17 = .ok (.if_icmp .ge 59, 3) := by decide +kernel
theorem dX7_mostAlike_20 : decode cX7_mostAlike 20 = .ok (.aload_n 0, 1) := by decide +kernel
theorem dX7_mostAlike_21 : decode cX7_mostAlike 21 = .ok (.getfield 59, 3) := by decide +kernel
theorem dX7_mostAlike_24 : decode cX7_mostAlike 24 = .ok (.aload_n 0, 1) := by decide +kernel
theorem dX7_mostAlike_25 : decode cX7_mostAlike 25 = .ok (.iload_n 3, 1) := by decide +kernel
theorem dX7_mostAlike_26 : decode cX7_mostAlike 26 = .ok (.invokevirtual 154, 3) := by decide +kernel
theorem dX7_mostAlike_29 : decode cX7_mostAlike 29 = .ok (.iload_n 1, 1) := by decide +kernel
theorem dX7_mostAlike_30 : decode cX7_mostAlike 30 = .ok (.invokevirtual 157, 3) := by decide +kernel
theorem dX7_mostAlike_33 : decode cX7_mostAlike 33 = .ok (.istore 4, 2) := by decide +kernel
theorem dX7_mostAlike_35 : decode cX7_mostAlike 35 = .ok (.iload 4, 2) := by decide +kernel
theorem dX7_mostAlike_37 : decode cX7_mostAlike 37 = .ok (.ifCond .lt 33, 3) := by decide +kernel
theorem dX7_mostAlike_40 : decode cX7_mostAlike 40 = .ok (.iload 4, 2) := by decide +kernel
theorem dX7_mostAlike_42 : decode cX7_mostAlike 42 = .ok (.bipush 10, 2) := by decide +kernel
theorem dX7_mostAlike_44 : decode cX7_mostAlike 44 = .ok (.if_icmp .ge 26, 3) := by decide +kernel
theorem dX7_mostAlike_47 : decode cX7_mostAlike 47 = .ok (.aload_n 0, 1) := by decide +kernel
theorem dX7_mostAlike_48 : decode cX7_mostAlike 48 = .ok (.getfield 18, 3) := by decide +kernel
theorem dX7_mostAlike_51 : decode cX7_mostAlike 51 = .ok (.iload 4, 2) := by decide +kernel
theorem dX7_mostAlike_53 : decode cX7_mostAlike 53 = .ok (.dup2, 1) := by decide +kernel
theorem dX7_mostAlike_54 : decode cX7_mostAlike 54 = .ok (.iaload, 1) := by decide +kernel
theorem dX7_mostAlike_55 : decode cX7_mostAlike 55 = .ok (.iconst 1, 1) := by decide +kernel
theorem dX7_mostAlike_56 : decode cX7_mostAlike 56 = .ok (.iadd, 1) := by decide +kernel
theorem dX7_mostAlike_57 : decode cX7_mostAlike 57 = .ok (.iastore, 1) := by decide +kernel
theorem dX7_mostAlike_58 : decode cX7_mostAlike 58 = .ok (.iload_n 2, 1) := by decide +kernel
theorem dX7_mostAlike_59 : decode cX7_mostAlike 59 = .ok (.aload_n 0, 1) := by decide +kernel
theorem dX7_mostAlike_60 : decode cX7_mostAlike 60 = .ok (.getfield 18, 3) := by decide +kernel
theorem dX7_mostAlike_63 : decode cX7_mostAlike 63 = .ok (.iload 4, 2) := by decide +kernel
theorem dX7_mostAlike_65 : decode cX7_mostAlike 65 = .ok (.iaload, 1) := by decide +kernel
theorem dX7_mostAlike_66 : decode cX7_mostAlike 66 = .ok (.invokestatic 160, 3) := by decide +kernel
theorem dX7_mostAlike_69 : decode cX7_mostAlike 69 = .ok (.istore_n 2, 1) := by decide +kernel
theorem dX7_mostAlike_70 : decode cX7_mostAlike 70 = .ok (.iinc 3 1, 3) := by decide +kernel
theorem dX7_mostAlike_73 : decode cX7_mostAlike 73 = .ok (.goto (-61), 3) := by decide +kernel
theorem dX7_mostAlike_76 : decode cX7_mostAlike 76 = .ok (.iload_n 2, 1) := by decide +kernel
theorem dX7_mostAlike_77 : decode cX7_mostAlike 77 = .ok (.ireturn, 1) := by decide +kernel
theorem dX7_dearest_0 : decode cX7_dearest 0 = .ok (.iconst (-1), 1) := by decide +kernel
theorem dX7_dearest_1 : decode cX7_dearest 1 = .ok (.istore_n 2, 1) := by decide +kernel
theorem dX7_dearest_2 : decode cX7_dearest 2 = .ok (.aload_n 0, 1) := by decide +kernel
theorem dX7_dearest_3 : decode cX7_dearest 3 = .ok (.iload_n 1, 1) := by decide +kernel
theorem dX7_dearest_4 : decode cX7_dearest 4 = .ok (.invokevirtual 139, 3) := by decide +kernel
theorem dX7_dearest_7 : decode cX7_dearest 7 = .ok (.istore_n 3, 1) := by decide +kernel
theorem dX7_dearest_8 : decode cX7_dearest 8 = .ok (.aload_n 0, 1) := by decide +kernel
theorem dX7_dearest_9 : decode cX7_dearest 9 = .ok (.invokevirtual 142, 3) := by decide +kernel
theorem dX7_dearest_12 : decode cX7_dearest 12 = .ok (.iconst 0, 1) := by decide +kernel
theorem dX7_dearest_13 : decode cX7_dearest 13 = .ok (.istore 4, 2) := by decide +kernel
theorem dX7_dearest_15 : decode cX7_dearest 15 = .ok (.iload 4, 2) := by decide +kernel
theorem dX7_dearest_17 : decode cX7_dearest 17 = .ok (.iload_n 3, 1) := by decide +kernel
theorem dX7_dearest_18 : decode cX7_dearest 18 = .ok (.if_icmp .ge 73, 3) := by decide +kernel
theorem dX7_dearest_21 : decode cX7_dearest 21 = .ok (.aload_n 0, 1) := by decide +kernel
theorem dX7_dearest_22 : decode cX7_dearest 22 = .ok (.getfield 68, 3) := by decide +kernel
theorem dX7_dearest_25 : decode cX7_dearest 25 = .ok (.aload_n 0, 1) := by decide +kernel
theorem dX7_dearest_26 : decode cX7_dearest 26 = .ok (.getfield 59, 3) := by decide +kernel
theorem dX7_dearest_29 : decode cX7_dearest 29 = .ok (.aload_n 0, 1) := by decide +kernel
theorem dX7_dearest_30 : decode cX7_dearest 30 = .ok (.getfield 21, 3) := by decide +kernel
theorem dX7_dearest_33 : decode cX7_dearest 33 = .ok (.aload_n 0, 1) := by decide +kernel
theorem dX7_dearest_34 : decode cX7_dearest 34 = .ok (.getfield 25, 3) := by decide +kernel
theorem dX7_dearest_37 : decode cX7_dearest 37 = .ok (.invokevirtual 84, 3) := by decide +kernel
theorem dX7_dearest_40 : decode cX7_dearest 40 = .ok (.aload_n 0, 1) := by decide +kernel
theorem dX7_dearest_41 : decode cX7_dearest 41 = .ok (.getfield 68, 3) := by decide +kernel
theorem dX7_dearest_44 : decode cX7_dearest 44 = .ok (.aload_n 0, 1) := by decide +kernel
theorem dX7_dearest_45 : decode cX7_dearest 45 = .ok (.getfield 11, 3) := by decide +kernel
theorem dX7_dearest_48 : decode cX7_dearest 48 = .ok (.iload_n 1, 1) := by decide +kernel
theorem dX7_dearest_49 : decode cX7_dearest 49 = .ok (.invokevirtual 145, 3) := by decide +kernel
theorem dX7_dearest_52 : decode cX7_dearest 52 = .ok (.aload_n 0, 1) := by decide +kernel
theorem dX7_dearest_53 : decode cX7_dearest 53 = .ok (.getfield 68, 3) := by decide +kernel
theorem dX7_dearest_56 : decode cX7_dearest 56 = .ok (.getfield 163, 3) := by decide +kernel
theorem dX7_dearest_59 : decode cX7_dearest 59 = .ok (.iload_n 2, 1) := by decide +kernel
theorem dX7_dearest_60 : decode cX7_dearest 60 = .ok (.if_icmp .le 20, 3) := by decide +kernel
theorem dX7_dearest_63 : decode cX7_dearest 63 = .ok (.aload_n 0, 1) := by decide +kernel
theorem dX7_dearest_64 : decode cX7_dearest 64 = .ok (.getfield 68, 3) := by decide +kernel
theorem dX7_dearest_67 : decode cX7_dearest 67 = .ok (.getfield 163, 3) := by decide +kernel
theorem dX7_dearest_70 : decode cX7_dearest 70 = .ok (.istore_n 2, 1) := by decide +kernel
theorem dX7_dearest_71 : decode cX7_dearest 71 = .ok (.aload_n 0, 1) := by decide +kernel
theorem dX7_dearest_72 : decode cX7_dearest 72 = .ok (.aload_n 0, 1) := by decide +kernel
theorem dX7_dearest_73 : decode cX7_dearest 73 = .ok (.iload_n 1, 1) := by decide +kernel
theorem dX7_dearest_74 : decode cX7_dearest 74 = .ok (.invokevirtual 166, 3) := by decide +kernel
theorem dX7_dearest_77 : decode cX7_dearest 77 = .ok (.putfield 47, 3) := by decide +kernel
theorem dX7_dearest_80 : decode cX7_dearest 80 = .ok (.aload_n 0, 1) := by decide +kernel
theorem dX7_dearest_81 : decode cX7_dearest 81 = .ok (.iload_n 1, 1) := by decide +kernel
theorem dX7_dearest_82 : decode cX7_dearest 82 = .ok (.invokevirtual 151, 3) := by decide +kernel
theorem dX7_dearest_85 : decode cX7_dearest 85 = .ok (.iinc 4 1, 3) := by decide +kernel
theorem dX7_dearest_88 : decode cX7_dearest 88 = .ok (.goto (-73), 3) := by decide +kernel
theorem dX7_dearest_91 : decode cX7_dearest 91 = .ok (.iload_n 2, 1) := by decide +kernel
theorem dX7_dearest_92 : decode cX7_dearest 92 = .ok (.ireturn, 1) := by decide +kernel
theorem dX7_figuresOf_0 : decode cX7_figuresOf 0 = .ok (.iconst 0, 1) := by decide +kernel
theorem dX7_figuresOf_1 : decode cX7_figuresOf 1 = .ok (.istore_n 2, 1) := by decide +kernel
theorem dX7_figuresOf_2 : decode cX7_figuresOf 2 = .ok (.iconst 0, 1) := by decide +kernel
theorem dX7_figuresOf_3 : decode cX7_figuresOf 3 = .ok (.istore_n 3, 1) := by decide +kernel
theorem dX7_figuresOf_4 : decode cX7_figuresOf 4 = .ok (.iload_n 3, 1) := by decide +kernel
theorem dX7_figuresOf_5 : decode cX7_figuresOf 5 = .ok (.iload_n 1, 1) := by decide +kernel
theorem dX7_figuresOf_6 : decode cX7_figuresOf 6 = .ok (.if_icmp .ge 25, 3) := by decide +kernel
theorem dX7_figuresOf_9 : decode cX7_figuresOf 9 = .ok (.iload_n 3, 1) := by decide +kernel
theorem dX7_figuresOf_10 : decode cX7_figuresOf 10 = .ok (.iconst 4, 1) := by decide +kernel
theorem dX7_figuresOf_11 : decode cX7_figuresOf 11 = .ok (.if_icmp .ge 20, 3) := by decide +kernel
theorem dX7_figuresOf_14 : decode cX7_figuresOf 14 = .ok (.iconst 5, 1) := by decide +kernel
theorem dX7_figuresOf_15 : decode cX7_figuresOf 15 = .ok (.iload_n 2, 1) := by decide +kernel
theorem dX7_figuresOf_16 : decode cX7_figuresOf 16 = .ok (.imul, 1) := by decide +kernel
theorem dX7_figuresOf_17 : decode cX7_figuresOf 17 = .ok (.aload_n 0, 1) := by decide +kernel
theorem dX7_figuresOf_18 : decode cX7_figuresOf 18 = .ok (.getfield 11, 3) := by decide +kernel
theorem dX7_figuresOf_21 : decode cX7_figuresOf 21 = .ok (.iload_n 3, 1) := by decide +kernel
theorem dX7_figuresOf_22 : decode cX7_figuresOf 22 = .ok (.iaload, 1) := by decide +kernel
theorem dX7_figuresOf_23 : decode cX7_figuresOf 23 = .ok (.iadd, 1) := by decide +kernel
theorem dX7_figuresOf_24 : decode cX7_figuresOf 24 = .ok (.istore_n 2, 1) := by decide +kernel
theorem dX7_figuresOf_25 : decode cX7_figuresOf 25 = .ok (.iinc 3 1, 3) := by decide +kernel
theorem dX7_figuresOf_28 : decode cX7_figuresOf 28 = .ok (.goto (-24), 3) := by decide +kernel
theorem dX7_figuresOf_31 : decode cX7_figuresOf 31 = .ok (.iload_n 2, 1) := by decide +kernel
theorem dX7_figuresOf_32 : decode cX7_figuresOf 32 = .ok (.ireturn, 1) := by decide +kernel
theorem dX7_fewestTo_0 : decode cX7_fewestTo 0 = .ok (.iconst 0, 1) := by decide +kernel
theorem dX7_fewestTo_1 : decode cX7_fewestTo 1 = .ok (.istore_n 2, 1) := by decide +kernel
theorem dX7_fewestTo_2 : decode cX7_fewestTo 2 = .ok (.iload_n 2, 1) := by decide +kernel
theorem dX7_fewestTo_3 : decode cX7_fewestTo 3 = .ok (.iconst 4, 1) := by decide +kernel
theorem dX7_fewestTo_4 : decode cX7_fewestTo 4 = .ok (.if_icmp .gt 24, 3) := by decide +kernel
theorem dX7_fewestTo_7 : decode cX7_fewestTo 7 = .ok (.aload_n 0, 1) := by decide +kernel
theorem dX7_fewestTo_8 : decode cX7_fewestTo 8 = .ok (.iload_n 1, 1) := by decide +kernel
theorem dX7_fewestTo_9 : decode cX7_fewestTo 9 = .ok (.iload_n 2, 1) := by decide +kernel
theorem dX7_fewestTo_10 : decode cX7_fewestTo 10 = .ok (.invokevirtual 169, 3) := by decide +kernel
theorem dX7_fewestTo_13 : decode cX7_fewestTo 13 = .ok (.aload_n 0, 1) := by decide +kernel
theorem dX7_fewestTo_14 : decode cX7_fewestTo 14 = .ok (.getfield 50, 3) := by decide +kernel
theorem dX7_fewestTo_17 : decode cX7_fewestTo 17 = .ok (.ifCond .le 5, 3) := by decide +kernel
theorem dX7_fewestTo_20 : decode cX7_fewestTo 20 = .ok (.iload_n 2, 1) := by decide +kernel
theorem dX7_fewestTo_21 : decode cX7_fewestTo 21 = .ok (.ireturn, 1) := by decide +kernel
theorem dX7_fewestTo_22 : decode cX7_fewestTo 22 = .ok (.iinc 2 1, 3) := by decide +kernel
theorem dX7_fewestTo_25 : decode cX7_fewestTo 25 = .ok (.goto (-23), 3) := by decide +kernel
theorem dX7_fewestTo_28 : decode cX7_fewestTo 28 = .ok (.bipush (-9), 2) := by decide +kernel
theorem dX7_fewestTo_30 : decode cX7_fewestTo 30 = .ok (.ireturn, 1) := by decide +kernel
theorem dX7_compareRowsTo_0 : decode cX7_compareRowsTo 0 = .ok (.aload_n 0, 1) := by decide +kernel
theorem dX7_compareRowsTo_1 : decode cX7_compareRowsTo 1 = .ok (.iconst 0, 1) := by decide +kernel
theorem dX7_compareRowsTo_2 : decode cX7_compareRowsTo 2 = .ok (.putfield 50, 3) := by decide +kernel
theorem dX7_compareRowsTo_5 : decode cX7_compareRowsTo 5 = .ok (.aload_n 0, 1) := by decide +kernel
theorem dX7_compareRowsTo_6 : decode cX7_compareRowsTo 6 = .ok (.iconst 0, 1) := by decide +kernel
theorem dX7_compareRowsTo_7 : decode cX7_compareRowsTo 7 = .ok (.putfield 53, 3) := by decide +kernel
theorem dX7_compareRowsTo_10 : decode cX7_compareRowsTo 10 = .ok (.aload_n 0, 1) := by decide +kernel
theorem dX7_compareRowsTo_11 : decode cX7_compareRowsTo 11 = .ok (.iconst (-1), 1) := by decide +kernel
theorem dX7_compareRowsTo_12 : decode cX7_compareRowsTo 12 = .ok (.putfield 56, 3) := by decide +kernel
theorem dX7_compareRowsTo_15 : decode cX7_compareRowsTo 15 = .ok (.aload_n 0, 1) := by decide +kernel
theorem dX7_compareRowsTo_16 : decode cX7_compareRowsTo 16 = .ok (.iload_n 2, 1) := by decide +kernel
theorem dX7_compareRowsTo_17 : decode cX7_compareRowsTo 17 = .ok (.invokevirtual 139, 3) := by decide +kernel
theorem dX7_compareRowsTo_20 : decode cX7_compareRowsTo 20 = .ok (.istore_n 3, 1) := by decide +kernel
theorem dX7_compareRowsTo_21 : decode cX7_compareRowsTo 21 = .ok (.aload_n 0, 1) := by decide +kernel
theorem dX7_compareRowsTo_22 : decode cX7_compareRowsTo 22 = .ok (.invokevirtual 142, 3) := by decide +kernel
theorem dX7_compareRowsTo_25 : decode cX7_compareRowsTo 25 = .ok (.iconst 0, 1) := by decide +kernel
theorem dX7_compareRowsTo_26 : decode cX7_compareRowsTo 26 = .ok (.istore 4, 2) := by decide +kernel
theorem dX7_compareRowsTo_28 : decode cX7_compareRowsTo 28 = .ok (.iload 4, 2) := by decide +kernel
theorem dX7_compareRowsTo_30 : decode cX7_compareRowsTo 30 = .ok (.iload_n 3, 1) := by decide +kernel
theorem dX7_compareRowsTo_31 : decode cX7_compareRowsTo 31 = .ok (.if_icmp .ge 97, 3) := by decide +kernel
theorem dX7_compareRowsTo_34 : decode cX7_compareRowsTo 34 = .ok (.aload_n 0, 1) := by decide +kernel
theorem dX7_compareRowsTo_35 : decode cX7_compareRowsTo 35 = .ok (.getfield 68, 3) := by decide +kernel
theorem dX7_compareRowsTo_38 : decode cX7_compareRowsTo 38 = .ok (.aload_n 0, 1) := by decide +kernel
theorem dX7_compareRowsTo_39 : decode cX7_compareRowsTo 39 = .ok (.getfield 59, 3) := by decide +kernel
theorem dX7_compareRowsTo_42 : decode cX7_compareRowsTo 42 = .ok (.aload_n 0, 1) := by decide +kernel
theorem dX7_compareRowsTo_43 : decode cX7_compareRowsTo 43 = .ok (.getfield 21, 3) := by decide +kernel
theorem dX7_compareRowsTo_46 : decode cX7_compareRowsTo 46 = .ok (.aload_n 0, 1) := by decide +kernel
theorem dX7_compareRowsTo_47 : decode cX7_compareRowsTo 47 = .ok (.getfield 25, 3) := by decide +kernel
theorem dX7_compareRowsTo_50 : decode cX7_compareRowsTo 50 = .ok (.invokevirtual 84, 3) := by decide +kernel
theorem dX7_compareRowsTo_53 : decode cX7_compareRowsTo 53 = .ok (.aload_n 0, 1) := by decide +kernel
theorem dX7_compareRowsTo_54 : decode cX7_compareRowsTo 54 = .ok (.getfield 68, 3) := by decide +kernel
theorem dX7_compareRowsTo_57 : decode cX7_compareRowsTo 57 = .ok (.aload_n 0, 1) := by decide +kernel
theorem dX7_compareRowsTo_58 : decode cX7_compareRowsTo 58 = .ok (.getfield 11, 3) := by decide +kernel
theorem dX7_compareRowsTo_61 : decode cX7_compareRowsTo 61 = .ok (.iload_n 2, 1) := by decide +kernel
theorem dX7_compareRowsTo_62 : decode cX7_compareRowsTo 62 = .ok (.invokevirtual 145, 3) := by decide +kernel
theorem dX7_compareRowsTo_65 : decode cX7_compareRowsTo 65 = .ok (.aload_n 0, 1) := by decide +kernel
theorem dX7_compareRowsTo_66 : decode cX7_compareRowsTo 66 = .ok (.getfield 68, 3) := by decide +kernel
theorem dX7_compareRowsTo_69 : decode cX7_compareRowsTo 69 = .ok (.getfield 92, 3) := by decide +kernel
theorem dX7_compareRowsTo_72 : decode cX7_compareRowsTo 72 = .ok (.iload_n 1, 1) := by decide +kernel
theorem dX7_compareRowsTo_73 : decode cX7_compareRowsTo 73 = .ok (.if_icmp .ne 44, 3) := by decide +kernel
theorem dX7_compareRowsTo_76 : decode cX7_compareRowsTo 76 = .ok (.aload_n 0, 1) := by decide +kernel
theorem dX7_compareRowsTo_77 : decode cX7_compareRowsTo 77 = .ok (.dup, 1) := by decide +kernel
theorem dX7_compareRowsTo_78 : decode cX7_compareRowsTo 78 = .ok (.getfield 50, 3) := by decide +kernel
theorem dX7_compareRowsTo_81 : decode cX7_compareRowsTo 81 = .ok (.iconst 1, 1) := by decide +kernel
theorem dX7_compareRowsTo_82 : decode cX7_compareRowsTo 82 = .ok (.iadd, 1) := by decide +kernel
theorem dX7_compareRowsTo_83 : decode cX7_compareRowsTo 83 = .ok (.putfield 50, 3) := by decide +kernel
theorem dX7_compareRowsTo_86 : decode cX7_compareRowsTo 86 = .ok (.aload_n 0, 1) := by decide +kernel
theorem dX7_compareRowsTo_87 : decode cX7_compareRowsTo 87 = .ok (.dup, 1) := by decide +kernel
theorem dX7_compareRowsTo_88 : decode cX7_compareRowsTo 88 = .ok (.getfield 53, 3) := by decide +kernel
theorem dX7_compareRowsTo_91 : decode cX7_compareRowsTo 91 = .ok (.iconst 1, 1) := by decide +kernel
theorem dX7_compareRowsTo_92 : decode cX7_compareRowsTo 92 = .ok (.aload_n 0, 1) := by decide +kernel
theorem dX7_compareRowsTo_93 : decode cX7_compareRowsTo 93 = .ok (.getfield 11, 3) := by decide +kernel
theorem dX7_compareRowsTo_96 : decode cX7_compareRowsTo 96 = .ok (.iconst 0, 1) := by decide +kernel
theorem dX7_compareRowsTo_97 : decode cX7_compareRowsTo 97 = .ok (.iaload, 1) := by decide +kernel
theorem dX7_compareRowsTo_98 : decode cX7_compareRowsTo 98 = .ok (.ishl, 1) := by decide +kernel
theorem dX7_compareRowsTo_99 : decode cX7_compareRowsTo 99 = .ok (.ior, 1) := by decide +kernel
theorem dX7_compareRowsTo_100 : decode cX7_compareRowsTo 100 = .ok (.putfield 53, 3) := by decide +kernel
theorem dX7_compareRowsTo_103 : decode cX7_compareRowsTo 103 = .ok (.aload_n 0, 1) := by decide +kernel
theorem dX7_compareRowsTo_104 : decode cX7_compareRowsTo 104 = .ok (.dup, 1) := by decide +kernel
theorem dX7_compareRowsTo_105 : decode cX7_compareRowsTo 105 = .ok (.getfield 56, 3) := by decide +kernel
theorem dX7_compareRowsTo_108 : decode cX7_compareRowsTo 108 = .ok (.aload_n 0, 1) := by decide +kernel
theorem dX7_compareRowsTo_109 : decode cX7_compareRowsTo 109 = .ok (.iload_n 2, 1) := by decide +kernel
theorem dX7_compareRowsTo_110 : decode cX7_compareRowsTo 110 = .ok (.invokevirtual 172, 3) := by decide +kernel
theorem dX7_compareRowsTo_113 : decode cX7_compareRowsTo 113 = .ok (.iand, 1) := by decide +kernel
theorem dX7_compareRowsTo_114 : decode cX7_compareRowsTo 114 = .ok (.putfield 56, 3) := by decide +kernel
theorem dX7_compareRowsTo_117 : decode cX7_compareRowsTo 117 = .ok (.aload_n 0, 1) := by decide +kernel
theorem dX7_compareRowsTo_118 : decode cX7_compareRowsTo 118 = .ok (.iload_n 2, 1) := by decide +kernel
theorem dX7_compareRowsTo_119 : decode cX7_compareRowsTo 119 = .ok (.invokevirtual 151, 3) := by decide +kernel
theorem dX7_compareRowsTo_122 : decode cX7_compareRowsTo 122 = .ok (.iinc 4 1, 3) := by decide +kernel
theorem dX7_compareRowsTo_125 : decode cX7_compareRowsTo 125 = .ok (.goto (-97), 3) := by decide +kernel
theorem dX7_compareRowsTo_128 : decode cX7_compareRowsTo 128 = .ok (.return_, 1) := by decide +kernel
theorem dX7_walkersOf_0 : decode cX7_walkersOf 0 = .ok (.iconst 0, 1) := by decide +kernel
theorem dX7_walkersOf_1 : decode cX7_walkersOf 1 = .ok (.istore_n 2, 1) := by decide +kernel
theorem dX7_walkersOf_2 : decode cX7_walkersOf 2 = .ok (.iconst 0, 1) := by decide +kernel
theorem dX7_walkersOf_3 : decode cX7_walkersOf 3 = .ok (.istore_n 3, 1) := by decide +kernel
theorem dX7_walkersOf_4 : decode cX7_walkersOf 4 = .ok (.iload_n 3, 1) := by decide +kernel
theorem dX7_walkersOf_5 : decode cX7_walkersOf 5 = .ok (.iload_n 1, 1) := by decide +kernel
theorem dX7_walkersOf_6 : decode cX7_walkersOf 6 = .ok (.if_icmp .ge 25, 3) := by decide +kernel
theorem dX7_walkersOf_9 : decode cX7_walkersOf 9 = .ok (.iload_n 3, 1) := by decide +kernel
theorem dX7_walkersOf_10 : decode cX7_walkersOf 10 = .ok (.iconst 4, 1) := by decide +kernel
theorem dX7_walkersOf_11 : decode cX7_walkersOf 11 = .ok (.if_icmp .ge 20, 3) := by decide +kernel
theorem dX7_walkersOf_14 : decode cX7_walkersOf 14 = .ok (.iload_n 2, 1) := by decide +kernel
theorem dX7_walkersOf_15 : decode cX7_walkersOf 15 = .ok (.iconst 1, 1) := by decide +kernel
theorem dX7_walkersOf_16 : decode cX7_walkersOf 16 = .ok (.aload_n 0, 1) := by decide +kernel
theorem dX7_walkersOf_17 : decode cX7_walkersOf 17 = .ok (.getfield 11, 3) := by decide +kernel
theorem dX7_walkersOf_20 : decode cX7_walkersOf 20 = .ok (.iload_n 3, 1) := by decide +kernel
theorem dX7_walkersOf_21 : decode cX7_walkersOf 21 = .ok (.iaload, 1) := by decide +kernel
theorem dX7_walkersOf_22 : decode cX7_walkersOf 22 = .ok (.ishl, 1) := by decide +kernel
theorem dX7_walkersOf_23 : decode cX7_walkersOf 23 = .ok (.ior, 1) := by decide +kernel
theorem dX7_walkersOf_24 : decode cX7_walkersOf 24 = .ok (.istore_n 2, 1) := by decide +kernel
theorem dX7_walkersOf_25 : decode cX7_walkersOf 25 = .ok (.iinc 3 1, 3) := by decide +kernel
theorem dX7_walkersOf_28 : decode cX7_walkersOf 28 = .ok (.goto (-24), 3) := by decide +kernel
theorem dX7_walkersOf_31 : decode cX7_walkersOf 31 = .ok (.iload_n 2, 1) := by decide +kernel
theorem dX7_walkersOf_32 : decode cX7_walkersOf 32 = .ok (.ireturn, 1) := by decide +kernel
theorem dX7_rowsWith_0 : decode cX7_rowsWith 0 = .ok (.iconst 0, 1) := by decide +kernel
theorem dX7_rowsWith_1 : decode cX7_rowsWith 1 = .ok (.istore 4, 2) := by decide +kernel
theorem dX7_rowsWith_3 : decode cX7_rowsWith 3 = .ok (.aload_n 0, 1) := by decide +kernel
theorem dX7_rowsWith_4 : decode cX7_rowsWith 4 = .ok (.iload_n 3, 1) := by decide +kernel
theorem dX7_rowsWith_5 : decode cX7_rowsWith 5 = .ok (.invokevirtual 139, 3) := by decide +kernel
theorem dX7_rowsWith_8 : decode cX7_rowsWith 8 = .ok (.istore 5, 2) := by decide +kernel
theorem dX7_rowsWith_10 : decode cX7_rowsWith 10 = .ok (.aload_n 0, 1) := by decide +kernel
theorem dX7_rowsWith_11 : decode cX7_rowsWith 11 = .ok (.invokevirtual 142, 3) := by decide +kernel
theorem dX7_rowsWith_14 : decode cX7_rowsWith 14 = .ok (.iconst 0, 1) := by decide +kernel
theorem dX7_rowsWith_15 : decode cX7_rowsWith 15 = .ok (.istore 6, 2) := by decide +kernel
theorem dX7_rowsWith_17 : decode cX7_rowsWith 17 = .ok (.iload 6, 2) := by decide +kernel
theorem dX7_rowsWith_19 : decode cX7_rowsWith 19 = .ok (.iload 5, 2) := by decide +kernel
theorem dX7_rowsWith_21 : decode cX7_rowsWith 21 = .ok (.if_icmp .ge 63, 3) := by decide +kernel
theorem dX7_rowsWith_24 : decode cX7_rowsWith 24 = .ok (.aload_n 0, 1) := by decide +kernel
theorem dX7_rowsWith_25 : decode cX7_rowsWith 25 = .ok (.getfield 68, 3) := by decide +kernel
theorem dX7_rowsWith_28 : decode cX7_rowsWith 28 = .ok (.aload_n 0, 1) := by decide +kernel
theorem dX7_rowsWith_29 : decode cX7_rowsWith 29 = .ok (.getfield 59, 3) := by decide +kernel
theorem dX7_rowsWith_32 : decode cX7_rowsWith 32 = .ok (.aload_n 0, 1) := by decide +kernel
theorem dX7_rowsWith_33 : decode cX7_rowsWith 33 = .ok (.getfield 21, 3) := by decide +kernel
theorem dX7_rowsWith_36 : decode cX7_rowsWith 36 = .ok (.aload_n 0, 1) := by decide +kernel
theorem dX7_rowsWith_37 : decode cX7_rowsWith 37 = .ok (.getfield 25, 3) := by decide +kernel
theorem dX7_rowsWith_40 : decode cX7_rowsWith 40 = .ok (.invokevirtual 84, 3) := by decide +kernel
theorem dX7_rowsWith_43 : decode cX7_rowsWith 43 = .ok (.aload_n 0, 1) := by decide +kernel
theorem dX7_rowsWith_44 : decode cX7_rowsWith 44 = .ok (.getfield 68, 3) := by decide +kernel
theorem dX7_rowsWith_47 : decode cX7_rowsWith 47 = .ok (.aload_n 0, 1) := by decide +kernel
theorem dX7_rowsWith_48 : decode cX7_rowsWith 48 = .ok (.getfield 11, 3) := by decide +kernel
theorem dX7_rowsWith_51 : decode cX7_rowsWith 51 = .ok (.iload_n 3, 1) := by decide +kernel
theorem dX7_rowsWith_52 : decode cX7_rowsWith 52 = .ok (.invokevirtual 145, 3) := by decide +kernel
theorem dX7_rowsWith_55 : decode cX7_rowsWith 55 = .ok (.aload_n 0, 1) := by decide +kernel
theorem dX7_rowsWith_56 : decode cX7_rowsWith 56 = .ok (.getfield 68, 3) := by decide +kernel
theorem dX7_rowsWith_59 : decode cX7_rowsWith 59 = .ok (.getfield 92, 3) := by decide +kernel
theorem dX7_rowsWith_62 : decode cX7_rowsWith 62 = .ok (.iload_n 1, 1) := by decide +kernel
theorem dX7_rowsWith_63 : decode cX7_rowsWith 63 = .ok (.invokestatic 175, 3) := by decide +kernel
theorem dX7_rowsWith_66 : decode cX7_rowsWith 66 = .ok (.iload_n 2, 1) := by decide +kernel
theorem dX7_rowsWith_67 : decode cX7_rowsWith 67 = .ok (.if_icmp .ne 6, 3) := by decide +kernel
theorem dX7_rowsWith_70 : decode cX7_rowsWith 70 = .ok (.iinc 4 1, 3) := by decide +kernel
theorem dX7_rowsWith_73 : decode cX7_rowsWith 73 = .ok (.aload_n 0, 1) := by decide +kernel
theorem dX7_rowsWith_74 : decode cX7_rowsWith 74 = .ok (.iload_n 3, 1) := by decide +kernel
theorem dX7_rowsWith_75 : decode cX7_rowsWith 75 = .ok (.invokevirtual 151, 3) := by decide +kernel
theorem dX7_rowsWith_78 : decode cX7_rowsWith 78 = .ok (.iinc 6 1, 3) := by decide +kernel
theorem dX7_rowsWith_81 : decode cX7_rowsWith 81 = .ok (.goto (-64), 3) := by decide +kernel
theorem dX7_rowsWith_84 : decode cX7_rowsWith 84 = .ok (.iload 4, 2) := by decide +kernel
theorem dX7_rowsWith_86 : decode cX7_rowsWith 86 = .ok (.ireturn, 1) := by decide +kernel
theorem dX8_init_0 : decode cX8_init 0 = .ok (.aload_n 0, 1) := by decide +kernel
theorem dX8_init_1 : decode cX8_init 1 = .ok (.iload_n 1, 1) := by decide +kernel
theorem dX8_init_2 : decode cX8_init 2 = .ok (.iload_n 2, 1) := by decide +kernel
theorem dX8_init_3 : decode cX8_init 3 = .ok (.invokespecial 1, 3) := by decide +kernel
theorem dX8_init_6 : decode cX8_init 6 = .ok (.return_, 1) := by decide +kernel
theorem dX8_kind_0 : decode cX8_kind 0 = .ok (.iconst 4, 1) := by decide +kernel
theorem dX8_kind_1 : decode cX8_kind 1 = .ok (.ireturn, 1) := by decide +kernel
theorem dX8_go_0 : decode cX8_go 0 = .ok (.aload_n 1, 1) := by decide +kernel
theorem dX8_go_1 : decode cX8_go 1 = .ok (.aload_n 0, 1) := by decide +kernel
theorem dX8_go_2 : decode cX8_go 2 = .ok (.aload_n 1, 1) := by decide +kernel
theorem dX8_go_3 : decode cX8_go 3 = .ok (.invokevirtual 9, 3) := by decide +kernel
theorem dX8_go_6 : decode cX8_go 6 = .ok (.bipush 7, 2) := by decide +kernel
theorem dX8_go_8 : decode cX8_go 8 = .ok (.invokevirtual 17, 3) := by decide +kernel
theorem dX8_go_11 : decode cX8_go 11 = .ok (.return_, 1) := by decide +kernel
theorem dX8_tell_0 : decode cX8_tell 0 = .ok (.iload_n 1, 1) := by decide +kernel
theorem dX8_tell_1 : decode cX8_tell 1 = .ok (.iconst 4, 1) := by decide +kernel
theorem dX8_tell_2 : decode cX8_tell 2 = .ok (.if_icmp .ne 15, 3) := by decide +kernel
theorem dX8_tell_5 : decode cX8_tell 5 = .ok (.aload_n 2, 1) := by decide +kernel
theorem dX8_tell_6 : decode cX8_tell 6 = .ok (.aload_n 0, 1) := by decide +kernel
theorem dX8_tell_7 : decode cX8_tell 7 = .ok (.aload_n 2, 1) := by decide +kernel
theorem dX8_tell_8 : decode cX8_tell 8 = .ok (.invokevirtual 9, 3) := by decide +kernel
theorem dX8_tell_11 : decode cX8_tell 11 = .ok (.invokevirtual 22, 3) := by decide +kernel
theorem dX8_tell_14 : decode cX8_tell 14 = .ok (.goto 9, 3) := by decide +kernel
theorem dX8_tell_17 : decode cX8_tell 17 = .ok (.aload_n 0, 1) := by decide +kernel
theorem dX8_tell_18 : decode cX8_tell 18 = .ok (.iload_n 1, 1) := by decide +kernel
theorem dX8_tell_19 : decode cX8_tell 19 = .ok (.aload_n 2, 1) := by decide +kernel
theorem dX8_tell_20 : decode cX8_tell 20 = .ok (.invokespecial 26, 3) := by decide +kernel
theorem dX8_tell_23 : decode cX8_tell 23 = .ok (.ireturn, 1) := by decide +kernel
theorem dX8_chosen_0 : decode cX8_chosen 0 = .ok (.aload_n 1, 1) := by decide +kernel
theorem dX8_chosen_1 : decode cX8_chosen 1 = .ok (.aload_n 0, 1) := by decide +kernel
theorem dX8_chosen_2 : decode cX8_chosen 2 = .ok (.getfield 30, 3) := by decide +kernel
theorem dX8_chosen_5 : decode cX8_chosen 5 = .ok (.aload_n 0, 1) := by decide +kernel
theorem dX8_chosen_6 : decode cX8_chosen 6 = .ok (.getfield 30, 3) := by decide +kernel
theorem dX8_chosen_9 : decode cX8_chosen 9 = .ok (.aload_n 0, 1) := by decide +kernel
theorem dX8_chosen_10 : decode cX8_chosen 10 = .ok (.getfield 34, 3) := by decide +kernel
theorem dX8_chosen_13 : decode cX8_chosen 13 = .ok (.invokestatic 37, 3) := by decide +kernel
theorem dX8_chosen_16 : decode cX8_chosen 16 = .ok (.iconst 1, 1) := by decide +kernel
theorem dX8_chosen_17 : decode cX8_chosen 17 = .ok (.invokevirtual 41, 3) := by decide +kernel
theorem dX8_chosen_20 : decode cX8_chosen 20 = .ok (.ireturn, 1) := by decide +kernel
theorem dX9_init_0 : decode cX9_init 0 = .ok (.aload_n 0, 1) := by decide +kernel
theorem dX9_init_1 : decode cX9_init 1 = .ok (.invokespecial 3, 3) := by decide +kernel
theorem dX9_init_4 : decode cX9_init 4 = .ok (.aload_n 0, 1) := by decide +kernel
theorem dX9_init_5 : decode cX9_init 5 = .ok (.iconst 0, 1) := by decide +kernel
theorem dX9_init_6 : decode cX9_init 6 = .ok (.putfield 9, 3) := by decide +kernel
theorem dX9_init_9 : decode cX9_init 9 = .ok (.aload_n 0, 1) := by decide +kernel
theorem dX9_init_10 : decode cX9_init 10 = .ok (.iconst 0, 1) := by decide +kernel
theorem dX9_init_11 : decode cX9_init 11 = .ok (.putfield 15, 3) := by decide +kernel
theorem dX9_init_14 : decode cX9_init 14 = .ok (.aload_n 0, 1) := by decide +kernel
theorem dX9_init_15 : decode cX9_init 15 = .ok (.iconst 0, 1) := by decide +kernel
theorem dX9_init_16 : decode cX9_init 16 = .ok (.putfield 18, 3) := by decide +kernel
theorem dX9_init_19 : decode cX9_init 19 = .ok (.aload_n 0, 1) := by decide +kernel
theorem dX9_init_20 : decode cX9_init 20 = .ok (.iconst 0, 1) := by decide +kernel
theorem dX9_init_21 : decode cX9_init 21 = .ok (.putfield 21, 3) := by decide +kernel
theorem dX9_init_24 : decode cX9_init 24 = .ok (.aload_n 0, 1) := by decide +kernel
theorem dX9_init_25 : decode cX9_init 25 = .ok (.iconst 0, 1) := by decide +kernel
theorem dX9_init_26 : decode cX9_init 26 = .ok (.putfield 24, 3) := by decide +kernel
theorem dX9_init_29 : decode cX9_init 29 = .ok (.aload_n 0, 1) := by decide +kernel
theorem dX9_init_30 : decode cX9_init 30 = .ok (.iconst 0, 1) := by decide +kernel
theorem dX9_init_31 : decode cX9_init 31 = .ok (.putfield 27, 3) := by decide +kernel
theorem dX9_init_34 : decode cX9_init 34 = .ok (.aload_n 0, 1) := by decide +kernel
theorem dX9_init_35 : decode cX9_init 35 = .ok (.iconst 0, 1) := by decide +kernel
theorem dX9_init_36 : decode cX9_init 36 = .ok (.putfield 30, 3) := by decide +kernel
theorem dX9_init_39 : decode cX9_init 39 = .ok (.aload_n 0, 1) := by decide +kernel
theorem dX9_init_40 : decode cX9_init 40 = .ok (.aload_n 1, 1) := by decide +kernel
theorem dX9_init_41 : decode cX9_init 41 = .ok (.putfield 33, 3) := by decide +kernel
theorem dX9_init_44 : decode cX9_init 44 = .ok (.return_, 1) := by decide +kernel
theorem dX9_begin_0 : decode cX9_begin 0 = .ok (.aload_n 0, 1) := by decide +kernel
theorem dX9_begin_1 : decode cX9_begin 1 = .ok (.aload_n 1, 1) := by decide +kernel
theorem dX9_begin_2 : decode cX9_begin 2 = .ok (.putfield 33, 3) := by decide +kernel
theorem dX9_begin_5 : decode cX9_begin 5 = .ok (.aload_n 0, 1) := by decide +kernel
theorem dX9_begin_6 : decode cX9_begin 6 = .ok (.iload_n 3, 1) := by decide +kernel
theorem dX9_begin_7 : decode cX9_begin 7 = .ok (.putfield 9, 3) := by decide +kernel
theorem dX9_begin_10 : decode cX9_begin 10 = .ok (.aload_n 0, 1) := by decide +kernel
theorem dX9_begin_11 : decode cX9_begin 11 = .ok (.iload_n 2, 1) := by decide +kernel
theorem dX9_begin_12 : decode cX9_begin 12 = .ok (.putfield 15, 3) := by decide +kernel
theorem dX9_begin_15 : decode cX9_begin 15 = .ok (.aload_n 0, 1) := by decide +kernel
theorem dX9_begin_16 : decode cX9_begin 16 = .ok (.iload_n 2, 1) := by decide +kernel
theorem dX9_begin_17 : decode cX9_begin 17 = .ok (.putfield 18, 3) := by decide +kernel
theorem dX9_begin_20 : decode cX9_begin 20 = .ok (.aload_n 0, 1) := by decide +kernel
theorem dX9_begin_21 : decode cX9_begin 21 = .ok (.iconst 0, 1) := by decide +kernel
theorem dX9_begin_22 : decode cX9_begin 22 = .ok (.putfield 24, 3) := by decide +kernel
theorem dX9_begin_25 : decode cX9_begin 25 = .ok (.aload_n 0, 1) := by decide +kernel
theorem dX9_begin_26 : decode cX9_begin 26 = .ok (.iconst 0, 1) := by decide +kernel
theorem dX9_begin_27 : decode cX9_begin 27 = .ok (.putfield 27, 3) := by decide +kernel
theorem dX9_begin_30 : decode cX9_begin 30 = .ok (.aload_n 0, 1) := by decide +kernel
theorem dX9_begin_31 : decode cX9_begin 31 = .ok (.iconst 0, 1) := by decide +kernel
theorem dX9_begin_32 : decode cX9_begin 32 = .ok (.putfield 30, 3) := by decide +kernel
theorem dX9_begin_35 : decode cX9_begin 35 = .ok (.return_, 1) := by decide +kernel
theorem dX9_send_0 : decode cX9_send 0 = .ok (.aload_n 0, 1) := by decide +kernel
theorem dX9_send_1 : decode cX9_send 1 = .ok (.getfield 33, 3) := by decide +kernel
theorem dX9_send_4 : decode cX9_send 4 = .ok (.iload_n 1, 1) := by decide +kernel
theorem dX9_send_5 : decode cX9_send 5 = .ok (.invokevirtual 37, 3) := by decide +kernel
theorem dX9_send_8 : decode cX9_send 8 = .ok (.astore_n 2, 1) := by decide +kernel
theorem dX9_send_9 : decode cX9_send 9 = .ok (.aload_n 2, 1) := by decide +kernel
theorem dX9_send_10 : decode cX9_send 10 = .ok (.ifnull 13, 3) := by decide +kernel
theorem dX9_send_13 : decode cX9_send 13 = .ok (.aload_n 0, 1) := by decide +kernel
theorem dX9_send_14 : decode cX9_send 14 = .ok (.iload_n 1, 1) := by decide +kernel
theorem dX9_send_15 : decode cX9_send 15 = .ok (.putfield 21, 3) := by decide +kernel
theorem dX9_send_18 : decode cX9_send 18 = .ok (.aload_n 2, 1) := by decide +kernel
theorem dX9_send_19 : decode cX9_send 19 = .ok (.aload_n 0, 1) := by decide +kernel
theorem dX9_send_20 : decode cX9_send 20 = .ok (.invokevirtual 43, 3) := by decide +kernel
theorem dX9_send_23 : decode cX9_send 23 = .ok (.return_, 1) := by decide +kernel
theorem dX9_sendRow_0 : decode cX9_sendRow 0 = .ok (.iconst 0, 1) := by decide +kernel
theorem dX9_sendRow_1 : decode cX9_sendRow 1 = .ok (.istore_n 3, 1) := by decide +kernel
theorem dX9_sendRow_2 : decode cX9_sendRow 2 = .ok (.iload_n 3, 1) := by decide +kernel
theorem dX9_sendRow_3 : decode cX9_sendRow 3 = .ok (.iload_n 2, 1) := by decide +kernel
theorem dX9_sendRow_4 : decode cX9_sendRow 4 = .ok (.if_icmp .ge 38, 3) := by decide +kernel
theorem dX9_sendRow_7 : decode cX9_sendRow 7 = .ok (.iload_n 3, 1) := by decide +kernel
theorem dX9_sendRow_8 : decode cX9_sendRow 8 = .ok (.aload_n 1, 1) := by decide +kernel
theorem dX9_sendRow_9 : decode cX9_sendRow 9 = .ok (.arraylength, 1) := by decide +kernel
theorem dX9_sendRow_10 : decode cX9_sendRow 10 = .ok (.if_icmp .ge 32, 3) := by decide +kernel
theorem dX9_sendRow_13 : decode cX9_sendRow 13 = .ok (.aload_n 0, 1) := by decide +kernel
theorem dX9_sendRow_14 : decode cX9_sendRow 14 = .ok (.getfield 33, 3) := by decide +kernel
theorem dX9_sendRow_17 : decode cX9_sendRow 17 = .ok (.aload_n 1, 1) := by decide +kernel
theorem dX9_sendRow_18 : decode cX9_sendRow 18 = .ok (.iload_n 3, 1) := by decide +kernel
theorem dX9_sendRow_19 : decode cX9_sendRow 19 = .ok (.iaload, 1) := by decide +kernel
theorem dX9_sendRow_20 : decode cX9_sendRow 20 = .ok (.invokevirtual 37, 3) := by decide +kernel
theorem dX9_sendRow_23 : decode cX9_sendRow 23 = .ok (.astore 4, 2) := by decide +kernel
theorem dX9_sendRow_25 : decode cX9_sendRow 25 = .ok (.aload 4, 2) := by decide +kernel
theorem dX9_sendRow_27 : decode cX9_sendRow 27 = .ok (.ifnull 9, 3) := by decide +kernel
theorem dX9_sendRow_30 : decode cX9_sendRow 30 = .ok (.aload 4, 2) := by decide +kernel
theorem dX9_sendRow_32 : decode cX9_sendRow 32 = .ok (.aload_n 0, 1) := by decide +kernel
theorem dX9_sendRow_33 : decode cX9_sendRow 33 = .ok (.invokevirtual 43, 3) := by decide +kernel
theorem dX9_sendRow_36 : decode cX9_sendRow 36 = .ok (.iinc 3 1, 3) := by decide +kernel
theorem dX9_sendRow_39 : decode cX9_sendRow 39 = .ok (.goto (-37), 3) := by decide +kernel
theorem dX9_sendRow_42 : decode cX9_sendRow 42 = .ok (.return_, 1) := by decide +kernel
theorem dX9_timesMoved_0 : decode cX9_timesMoved 0 = .ok (.aload_n 0, 1) := by decide +kernel
theorem dX9_timesMoved_1 : decode cX9_timesMoved 1 = .ok (.getfield 30, 3) := by decide +kernel
theorem dX9_timesMoved_4 : decode cX9_timesMoved 4 = .ok (.iload_n 1, 1) := by decide +kernel
theorem dX9_timesMoved_5 : decode cX9_timesMoved 5 = .ok (.invokestatic 49, 3) := by decide +kernel
theorem dX9_timesMoved_8 : decode cX9_timesMoved 8 = .ok (.ireturn, 1) := by decide +kernel
theorem dX9_postNow_0 : decode cX9_postNow 0 = .ok (.aload_n 0, 1) := by decide +kernel
theorem dX9_postNow_1 : decode cX9_postNow 1 = .ok (.getfield 18, 3) := by decide +kernel
theorem dX9_postNow_4 : decode cX9_postNow 4 = .ok (.iload_n 1, 1) := by decide +kernel
theorem dX9_postNow_5 : decode cX9_postNow 5 = .ok (.invokestatic 49, 3) := by decide +kernel
theorem dX9_postNow_8 : decode cX9_postNow 8 = .ok (.ireturn, 1) := by decide +kernel
theorem dX9_numberOf_0 : decode cX9_numberOf 0 = .ok (.iload_n 1, 1) := by decide +kernel
theorem dX9_numberOf_1 : decode cX9_numberOf 1 = .ok (.ifCond .lt 26, 3) := by decide +kernel
theorem dX9_numberOf_4 : decode cX9_numberOf 4 = .ok (.iload_n 1, 1) := by decide +kernel
theorem dX9_numberOf_5 : decode cX9_numberOf 5 = .ok (.aload_n 0, 1) := by decide +kernel
theorem dX9_numberOf_6 : decode cX9_numberOf 6 = .ok (.getfield 33, 3) := by decide +kernel
theorem dX9_numberOf_9 : decode cX9_numberOf 9 = .ok (.getfield 53, 3) := by decide +kernel
theorem dX9_numberOf_12 : decode cX9_numberOf 12 = .ok (.if_icmp .ge 15, 3) := by decide +kernel
theorem dX9_numberOf_15 : decode cX9_numberOf 15 = .ok (.aload_n 0, 1) := by decide +kernel
theorem dX9_numberOf_16 : decode cX9_numberOf 16 = .ok (.getfield 33, 3) := by decide +kernel
theorem dX9_numberOf_19 : decode cX9_numberOf 19 = .ok (.getfield 56, 3) := by decide +kernel
theorem dX9_numberOf_22 : decode cX9_numberOf 22 = .ok (.iload_n 1, 1) := by decide +kernel
theorem dX9_numberOf_23 : decode cX9_numberOf 23 = .ok (.iaload, 1) := by decide +kernel
theorem dX9_numberOf_24 : decode cX9_numberOf 24 = .ok (.goto 5, 3) := by decide +kernel
theorem dX9_numberOf_27 : decode cX9_numberOf 27 = .ok (.bipush (-9), 2) := by decide +kernel
theorem dX9_numberOf_29 : decode cX9_numberOf 29 = .ok (.ireturn, 1) := by decide +kernel
theorem dX9_unmoved_0 : decode cX9_unmoved 0 = .ok (.iconst 0, 1) := by decide +kernel
theorem dX9_unmoved_1 : decode cX9_unmoved 1 = .ok (.istore_n 1, 1) := by decide +kernel
theorem dX9_unmoved_2 : decode cX9_unmoved 2 = .ok (.iconst 0, 1) := by decide +kernel
theorem dX9_unmoved_3 : decode cX9_unmoved 3 = .ok (.istore_n 2, 1) := by decide +kernel
theorem dX9_unmoved_4 : decode cX9_unmoved 4 = .ok (.iload_n 2, 1) := by decide +kernel
theorem dX9_unmoved_5 : decode cX9_unmoved 5 = .ok (.aload_n 0, 1) := by decide +kernel
theorem dX9_unmoved_6 : decode cX9_unmoved 6 = .ok (.getfield 33, 3) := by decide +kernel
theorem dX9_unmoved_9 : decode cX9_unmoved 9 = .ok (.getfield 53, 3) := by decide +kernel
theorem dX9_unmoved_12 : decode cX9_unmoved 12 = .ok (.if_icmp .ge 31, 3) := by decide +kernel
theorem dX9_unmoved_15 : decode cX9_unmoved 15 = .ok (.aload_n 0, 1) := by decide +kernel
theorem dX9_unmoved_16 : decode cX9_unmoved 16 = .ok (.getfield 15, 3) := by decide +kernel
theorem dX9_unmoved_19 : decode cX9_unmoved 19 = .ok (.iload_n 2, 1) := by decide +kernel
theorem dX9_unmoved_20 : decode cX9_unmoved 20 = .ok (.invokestatic 49, 3) := by decide +kernel
theorem dX9_unmoved_23 : decode cX9_unmoved 23 = .ok (.aload_n 0, 1) := by decide +kernel
theorem dX9_unmoved_24 : decode cX9_unmoved 24 = .ok (.getfield 18, 3) := by decide +kernel
theorem dX9_unmoved_27 : decode cX9_unmoved 27 = .ok (.iload_n 2, 1) := by decide +kernel
theorem dX9_unmoved_28 : decode cX9_unmoved 28 = .ok (.invokestatic 49, 3) := by decide +kernel
theorem dX9_unmoved_31 : decode cX9_unmoved 31 = .ok (.if_icmp .ne 6, 3) := by decide +kernel
theorem dX9_unmoved_34 : decode cX9_unmoved 34 = .ok (.iinc 1 1, 3) := by decide +kernel
theorem dX9_unmoved_37 : decode cX9_unmoved 37 = .ok (.iinc 2 1, 3) := by decide +kernel
theorem dX9_unmoved_40 : decode cX9_unmoved 40 = .ok (.goto (-36), 3) := by decide +kernel
theorem dX9_unmoved_43 : decode cX9_unmoved 43 = .ok (.iload_n 1, 1) := by decide +kernel
theorem dX9_unmoved_44 : decode cX9_unmoved 44 = .ok (.ireturn, 1) := by decide +kernel
theorem dX9_firstOn_0 : decode cX9_firstOn 0 = .ok (.iconst (-1), 1) := by decide +kernel
theorem dX9_firstOn_1 : decode cX9_firstOn 1 = .ok (.istore 4, 2) := by decide +kernel
theorem dX9_firstOn_3 : decode cX9_firstOn 3 = .ok (.iconst 0, 1) := by decide +kernel
theorem dX9_firstOn_4 : decode cX9_firstOn 4 = .ok (.istore 5, 2) := by decide +kernel
theorem dX9_firstOn_6 : decode cX9_firstOn 6 = .ok (.iload_n 2, 1) := by decide +kernel
theorem dX9_firstOn_7 : decode cX9_firstOn 7 = .ok (.iload_n 1, 1) := by decide +kernel
theorem dX9_firstOn_8 : decode cX9_firstOn 8 = .ok (.isub, 1) := by decide +kernel
theorem dX9_firstOn_9 : decode cX9_firstOn 9 = .ok (.invokestatic 60, 3) := by decide +kernel
theorem dX9_firstOn_12 : decode cX9_firstOn 12 = .ok (.istore 6, 2) := by decide +kernel
theorem dX9_firstOn_14 : decode cX9_firstOn 14 = .ok (.iconst 0, 1) := by decide +kernel
theorem dX9_firstOn_15 : decode cX9_firstOn 15 = .ok (.istore 7, 2) := by decide +kernel
theorem dX9_firstOn_17 : decode cX9_firstOn 17 = .ok (.iload 7, 2) := by decide +kernel
theorem dX9_firstOn_19 : decode cX9_firstOn 19 = .ok (.aload_n 0, 1) := by decide +kernel
theorem dX9_firstOn_20 : decode cX9_firstOn 20 = .ok (.getfield 33, 3) := by decide +kernel
theorem dX9_firstOn_23 : decode cX9_firstOn 23 = .ok (.getfield 53, 3) := by decide +kernel
theorem dX9_firstOn_26 : decode cX9_firstOn 26 = .ok (.if_icmp .ge 90, 3) := by decide +kernel
theorem dX9_firstOn_29 : decode cX9_firstOn 29 = .ok (.aload_n 0, 1) := by decide +kernel
theorem dX9_firstOn_30 : decode cX9_firstOn 30 = .ok (.getfield 18, 3) := by decide +kernel
theorem dX9_firstOn_33 : decode cX9_firstOn 33 = .ok (.iload 7, 2) := by decide +kernel
theorem dX9_firstOn_35 : decode cX9_firstOn 35 = .ok (.invokestatic 49, 3) := by decide +kernel
theorem dX9_firstOn_38 : decode cX9_firstOn 38 = .ok (.istore 8, 2) := by decide +kernel
theorem dX9_firstOn_40 : decode cX9_firstOn 40 = .ok (.iload_n 1, 1) := by decide +kernel
theorem dX9_firstOn_41 : decode cX9_firstOn 41 = .ok (.iload_n 2, 1) := by decide +kernel
theorem dX9_firstOn_42 : decode cX9_firstOn 42 = .ok (.if_icmp .ge 10, 3) := by decide +kernel
theorem dX9_firstOn_45 : decode cX9_firstOn 45 = .ok (.iload 8, 2) := by decide +kernel
theorem dX9_firstOn_47 : decode cX9_firstOn 47 = .ok (.iload_n 1, 1) := by decide +kernel
theorem dX9_firstOn_48 : decode cX9_firstOn 48 = .ok (.isub, 1) := by decide +kernel
theorem dX9_firstOn_49 : decode cX9_firstOn 49 = .ok (.goto 7, 3) := by decide +kernel
theorem dX9_firstOn_52 : decode cX9_firstOn 52 = .ok (.iload_n 1, 1) := by decide +kernel
theorem dX9_firstOn_53 : decode cX9_firstOn 53 = .ok (.iload 8, 2) := by decide +kernel
theorem dX9_firstOn_55 : decode cX9_firstOn 55 = .ok (.isub, 1) := by decide +kernel
theorem dX9_firstOn_56 : decode cX9_firstOn 56 = .ok (.istore 9, 2) := by decide +kernel
theorem dX9_firstOn_58 : decode cX9_firstOn 58 = .ok (.iload 9, 2) := by decide +kernel
theorem dX9_firstOn_60 : decode cX9_firstOn 60 = .ok (.ifCond .lt 50, 3) := by decide +kernel
theorem dX9_firstOn_63 : decode cX9_firstOn 63 = .ok (.iload 9, 2) := by decide +kernel
theorem dX9_firstOn_65 : decode cX9_firstOn 65 = .ok (.iload 6, 2) := by decide +kernel
theorem dX9_firstOn_67 : decode cX9_firstOn 67 = .ok (.if_icmp .ge 43, 3) := by decide +kernel
theorem dX9_firstOn_70 : decode cX9_firstOn 70 = .ok (.bipush 100, 2) := by decide +kernel
theorem dX9_firstOn_72 : decode cX9_firstOn 72 = .ok (.iload 9, 2) := by decide +kernel
theorem dX9_firstOn_74 : decode cX9_firstOn 74 = .ok (.imul, 1) := by decide +kernel
theorem dX9_firstOn_75 : decode cX9_firstOn 75 = .ok (.aload_n 0, 1) := by decide +kernel
theorem dX9_firstOn_76 : decode cX9_firstOn 76 = .ok (.getfield 33, 3) := by decide +kernel
theorem dX9_firstOn_79 : decode cX9_firstOn 79 = .ok (.iload 7, 2) := by decide +kernel
theorem dX9_firstOn_81 : decode cX9_firstOn 81 = .ok (.iload 8, 2) := by decide +kernel
theorem dX9_firstOn_83 : decode cX9_firstOn 83 = .ok (.iload_n 3, 1) := by decide +kernel
theorem dX9_firstOn_84 : decode cX9_firstOn 84 = .ok (.invokevirtual 66, 3) := by decide +kernel
theorem dX9_firstOn_87 : decode cX9_firstOn 87 = .ok (.iadd, 1) := by decide +kernel
theorem dX9_firstOn_88 : decode cX9_firstOn 88 = .ok (.istore 10, 2) := by decide +kernel
theorem dX9_firstOn_90 : decode cX9_firstOn 90 = .ok (.iload 4, 2) := by decide +kernel
theorem dX9_firstOn_92 : decode cX9_firstOn 92 = .ok (.ifCond .lt 10, 3) := by decide +kernel
theorem dX9_firstOn_95 : decode cX9_firstOn 95 = .ok (.iload 10, 2) := by decide +kernel
theorem dX9_firstOn_97 : decode cX9_firstOn 97 = .ok (.iload 5, 2) := by decide +kernel
theorem dX9_firstOn_99 : decode cX9_firstOn 99 = .ok (.if_icmp .ge 11, 3) := by decide +kernel
theorem dX9_firstOn_102 : decode cX9_firstOn 102 = .ok (.iload 7, 2) := by decide +kernel
theorem dX9_firstOn_104 : decode cX9_firstOn 104 = .ok (.istore 4, 2) := by decide +kernel
theorem dX9_firstOn_106 : decode cX9_firstOn 106 = .ok (.iload 10, 2) := by decide +kernel
theorem dX9_firstOn_108 : decode cX9_firstOn 108 = .ok (.istore 5, 2) := by decide +kernel
theorem dX9_firstOn_110 : decode cX9_firstOn 110 = .ok (.iinc 7 1, 3) := by decide +kernel
theorem dX9_firstOn_113 : decode cX9_firstOn 113 = .ok (.goto (-96), 3) := by decide +kernel
theorem dX9_firstOn_116 : decode cX9_firstOn 116 = .ok (.iload 4, 2) := by decide +kernel
theorem dX9_firstOn_118 : decode cX9_firstOn 118 = .ok (.ireturn, 1) := by decide +kernel
theorem dX9_carry_0 : decode cX9_carry 0 = .ok (.iload_n 1, 1) := by decide +kernel
theorem dX9_carry_1 : decode cX9_carry 1 = .ok (.ifCond .lt 14, 3) := by decide +kernel
theorem dX9_carry_4 : decode cX9_carry 4 = .ok (.iload_n 1, 1) := by decide +kernel
theorem dX9_carry_5 : decode cX9_carry 5 = .ok (.aload_n 0, 1) := by decide +kernel
theorem dX9_carry_6 : decode cX9_carry 6 = .ok (.getfield 33, 3) := by decide +kernel
theorem dX9_carry_9 : decode cX9_carry 9 = .ok (.getfield 53, 3) := by decide +kernel
theorem dX9_carry_12 : decode cX9_carry 12 = .ok (.if_icmp .lt 4, 3) := by decide +kernel
theorem dX9_carry_15 : decode cX9_carry 15 = .ok (.return_, 1) := by decide +kernel
theorem dX9_carry_16 : decode cX9_carry 16 = .ok (.aload_n 0, 1) := by decide +kernel
theorem dX9_carry_17 : decode cX9_carry 17 = .ok (.aload_n 0, 1) := by decide +kernel
theorem dX9_carry_18 : decode cX9_carry 18 = .ok (.getfield 18, 3) := by decide +kernel
theorem dX9_carry_21 : decode cX9_carry 21 = .ok (.iload_n 1, 1) := by decide +kernel
theorem dX9_carry_22 : decode cX9_carry 22 = .ok (.iload_n 2, 1) := by decide +kernel
theorem dX9_carry_23 : decode cX9_carry 23 = .ok (.invokestatic 70, 3) := by decide +kernel
