theorem dX5_turnOf_48 : decode cX5_turnOf 48 = .ok (.iaload, 1) := by decide +kernel
theorem dX5_turnOf_49 : decode cX5_turnOf 49 = .ok (.bipush 10, 2) := by decide +kernel
theorem dX5_turnOf_51 : decode cX5_turnOf 51 = .ok (.aload_n 0, 1) := by decide +kernel
theorem dX5_turnOf_52 : decode cX5_turnOf 52 = .ok (.getfield 18, 3) := by decide +kernel
theorem dX5_turnOf_55 : decode cX5_turnOf 55 = .ok (.bipush 8, 2) := by decide +kernel
theorem dX5_turnOf_57 : decode cX5_turnOf 57 = .ok (.iload_n 1, 1) := by decide +kernel
theorem dX5_turnOf_58 : decode cX5_turnOf 58 = .ok (.imul, 1) := by decide +kernel
theorem dX5_turnOf_59 : decode cX5_turnOf 59 = .ok (.iload_n 2, 1) := by decide +kernel
theorem dX5_turnOf_60 : decode cX5_turnOf 60 = .ok (.iadd, 1) := by decide +kernel
theorem dX5_turnOf_61 : decode cX5_turnOf 61 = .ok (.iaload, 1) := by decide +kernel
theorem dX5_turnOf_62 : decode cX5_turnOf 62 = .ok (.imul, 1) := by decide +kernel
theorem dX5_turnOf_63 : decode cX5_turnOf 63 = .ok (.isub, 1) := by decide +kernel
theorem dX5_turnOf_64 : decode cX5_turnOf 64 = .ok (.ireturn, 1) := by decide +kernel
theorem dX5_isAllHome_0 : decode cX5_isAllHome 0 = .ok (.iload_n 1, 1) := by decide +kernel
theorem dX5_isAllHome_1 : decode cX5_isAllHome 1 = .ok (.aload_n 0, 1) := by decide +kernel
theorem dX5_isAllHome_2 : decode cX5_isAllHome 2 = .ok (.getfield 40, 3) := by decide +kernel
theorem dX5_isAllHome_5 : decode cX5_isAllHome 5 = .ok (.iand, 1) := by decide +kernel
theorem dX5_isAllHome_6 : decode cX5_isAllHome 6 = .ok (.aload_n 0, 1) := by decide +kernel
theorem dX5_isAllHome_7 : decode cX5_isAllHome 7 = .ok (.getfield 43, 3) := by decide +kernel
theorem dX5_isAllHome_10 : decode cX5_isAllHome 10 = .ok (.if_icmp .ne 7, 3) := by decide +kernel
theorem dX5_isAllHome_13 : decode cX5_isAllHome 13 = .ok (.iconst 1, 1) := by decide +kernel
theorem dX5_isAllHome_14 : decode cX5_isAllHome 14 = .ok (.goto 4, 3) := by decide +kernel
theorem dX5_isAllHome_17 : decode cX5_isAllHome 17 = .ok (.iconst 0, 1) := by decide +kernel
theorem dX5_isAllHome_18 : decode cX5_isAllHome 18 = .ok (.ireturn, 1) := by decide +kernel
theorem dX5_farFromHome_0 : decode cX5_farFromHome 0 = .ok (.iconst 0, 1) := by decide +kernel
theorem dX5_farFromHome_1 : decode cX5_farFromHome 1 = .ok (.istore_n 2, 1) := by decide +kernel
theorem dX5_farFromHome_2 : decode cX5_farFromHome 2 = .ok (.iconst 0, 1) := by decide +kernel
theorem dX5_farFromHome_3 : decode cX5_farFromHome 3 = .ok (.istore_n 3, 1) := by decide +kernel
theorem dX5_farFromHome_4 : decode cX5_farFromHome 4 = .ok (.iload_n 3, 1) := by decide +kernel
theorem dX5_farFromHome_5 : decode cX5_farFromHome 5 = .ok (.aload_n 0, 1) := by decide +kernel
theorem dX5_farFromHome_6 : decode cX5_farFromHome 6 = .ok (.getfield 31, 3) := by decide +kernel
theorem dX5_farFromHome_9 : decode cX5_farFromHome 9 = .ok (.if_icmp .ge 55, 3) := by decide +kernel
theorem dX5_farFromHome_12 : decode cX5_farFromHome 12 = .ok (.iload_n 1, 1) := by decide +kernel
theorem dX5_farFromHome_13 : decode cX5_farFromHome 13 = .ok (.iload_n 3, 1) := by decide +kernel
theorem dX5_farFromHome_14 : decode cX5_farFromHome 14 = .ok (.invokestatic 46, 3) := by decide +kernel
theorem dX5_farFromHome_17 : decode cX5_farFromHome 17 = .ok (.istore 4, 2) := by decide +kernel
theorem dX5_farFromHome_19 : decode cX5_farFromHome 19 = .ok (.iload 4, 2) := by decide +kernel
theorem dX5_farFromHome_21 : decode cX5_farFromHome 21 = .ok (.bipush 7, 2) := by decide +kernel
theorem dX5_farFromHome_23 : decode cX5_farFromHome 23 = .ok (.if_icmp .ne 9, 3) := by decide +kernel
theorem dX5_farFromHome_26 : decode cX5_farFromHome 26 = .ok (.iinc 2 10, 3) := by decide +kernel
theorem dX5_farFromHome_29 : decode cX5_farFromHome 29 = .ok (.goto 29, 3) := by decide +kernel
theorem dX5_farFromHome_32 : decode cX5_farFromHome 32 = .ok (.aload_n 0, 1) := by decide +kernel
theorem dX5_farFromHome_33 : decode cX5_farFromHome 33 = .ok (.getfield 15, 3) := by decide +kernel
theorem dX5_farFromHome_36 : decode cX5_farFromHome 36 = .ok (.iload_n 3, 1) := by decide +kernel
theorem dX5_farFromHome_37 : decode cX5_farFromHome 37 = .ok (.iaload, 1) := by decide +kernel
theorem dX5_farFromHome_38 : decode cX5_farFromHome 38 = .ok (.bipush (-9), 2) := by decide +kernel
theorem dX5_farFromHome_40 : decode cX5_farFromHome 40 = .ok (.if_icmp .eq 18, 3) := by decide +kernel
theorem dX5_farFromHome_43 : decode cX5_farFromHome 43 = .ok (.iload_n 2, 1) := by decide +kernel
theorem dX5_farFromHome_44 : decode cX5_farFromHome 44 = .ok (.aload_n 0, 1) := by decide +kernel
theorem dX5_farFromHome_45 : decode cX5_farFromHome 45 = .ok (.getfield 18, 3) := by decide +kernel
theorem dX5_farFromHome_48 : decode cX5_farFromHome 48 = .ok (.bipush 8, 2) := by decide +kernel
theorem dX5_farFromHome_50 : decode cX5_farFromHome 50 = .ok (.iload_n 3, 1) := by decide +kernel
theorem dX5_farFromHome_51 : decode cX5_farFromHome 51 = .ok (.imul, 1) := by decide +kernel
theorem dX5_farFromHome_52 : decode cX5_farFromHome 52 = .ok (.iload 4, 2) := by decide +kernel
theorem dX5_farFromHome_54 : decode cX5_farFromHome 54 = .ok (.iadd, 1) := by decide +kernel
theorem dX5_farFromHome_55 : decode cX5_farFromHome 55 = .ok (.iaload, 1) := by decide +kernel
theorem dX5_farFromHome_56 : decode cX5_farFromHome 56 = .ok (.iadd, 1) := by decide +kernel
theorem dX5_farFromHome_57 : decode cX5_farFromHome 57 = .ok (.istore_n 2, 1) := by decide +kernel
theorem dX5_farFromHome_58 : decode cX5_farFromHome 58 = .ok (.iinc 3 1, 3) := by decide +kernel
theorem dX5_farFromHome_61 : decode cX5_farFromHome 61 = .ok (.goto (-57), 3) := by decide +kernel
theorem dX5_farFromHome_64 : decode cX5_farFromHome 64 = .ok (.iload_n 2, 1) := by decide +kernel
theorem dX5_farFromHome_65 : decode cX5_farFromHome 65 = .ok (.ireturn, 1) := by decide +kernel
theorem dX5_homeOf_0 : decode cX5_homeOf 0 = .ok (.iconst 0, 1) := by decide +kernel
theorem dX5_homeOf_1 : decode cX5_homeOf 1 = .ok (.istore_n 2, 1) := by decide +kernel
theorem dX5_homeOf_2 : decode cX5_homeOf 2 = .ok (.iconst 0, 1) := by decide +kernel
theorem dX5_homeOf_3 : decode cX5_homeOf 3 = .ok (.istore_n 3, 1) := by decide +kernel
theorem dX5_homeOf_4 : decode cX5_homeOf 4 = .ok (.iload_n 3, 1) := by decide +kernel
theorem dX5_homeOf_5 : decode cX5_homeOf 5 = .ok (.aload_n 0, 1) := by decide +kernel
theorem dX5_homeOf_6 : decode cX5_homeOf 6 = .ok (.getfield 31, 3) := by decide +kernel
theorem dX5_homeOf_9 : decode cX5_homeOf 9 = .ok (.if_icmp .ge 26, 3) := by decide +kernel
theorem dX5_homeOf_12 : decode cX5_homeOf 12 = .ok (.iload_n 1, 1) := by decide +kernel
theorem dX5_homeOf_13 : decode cX5_homeOf 13 = .ok (.iload_n 3, 1) := by decide +kernel
theorem dX5_homeOf_14 : decode cX5_homeOf 14 = .ok (.invokestatic 46, 3) := by decide +kernel
theorem dX5_homeOf_17 : decode cX5_homeOf 17 = .ok (.aload_n 0, 1) := by decide +kernel
theorem dX5_homeOf_18 : decode cX5_homeOf 18 = .ok (.getfield 15, 3) := by decide +kernel
theorem dX5_homeOf_21 : decode cX5_homeOf 21 = .ok (.iload_n 3, 1) := by decide +kernel
theorem dX5_homeOf_22 : decode cX5_homeOf 22 = .ok (.iaload, 1) := by decide +kernel
theorem dX5_homeOf_23 : decode cX5_homeOf 23 = .ok (.if_icmp .ne 6, 3) := by decide +kernel
theorem dX5_homeOf_26 : decode cX5_homeOf 26 = .ok (.iinc 2 1, 3) := by decide +kernel
theorem dX5_homeOf_29 : decode cX5_homeOf 29 = .ok (.iinc 3 1, 3) := by decide +kernel
theorem dX5_homeOf_32 : decode cX5_homeOf 32 = .ok (.goto (-28), 3) := by decide +kernel
theorem dX5_homeOf_35 : decode cX5_homeOf 35 = .ok (.iload_n 2, 1) := by decide +kernel
theorem dX5_homeOf_36 : decode cX5_homeOf 36 = .ok (.ireturn, 1) := by decide +kernel
theorem dX5_lostOf_0 : decode cX5_lostOf 0 = .ok (.aload_n 0, 1) := by decide +kernel
theorem dX5_lostOf_1 : decode cX5_lostOf 1 = .ok (.iload_n 1, 1) := by decide +kernel
theorem dX5_lostOf_2 : decode cX5_lostOf 2 = .ok (.bipush 7, 2) := by decide +kernel
theorem dX5_lostOf_4 : decode cX5_lostOf 4 = .ok (.invokevirtual 63, 3) := by decide +kernel
theorem dX5_lostOf_7 : decode cX5_lostOf 7 = .ok (.ireturn, 1) := by decide +kernel
theorem dX5_heapAt_0 : decode cX5_heapAt 0 = .ok (.iconst 0, 1) := by decide +kernel
theorem dX5_heapAt_1 : decode cX5_heapAt 1 = .ok (.istore_n 3, 1) := by decide +kernel
theorem dX5_heapAt_2 : decode cX5_heapAt 2 = .ok (.iconst 0, 1) := by decide +kernel
theorem dX5_heapAt_3 : decode cX5_heapAt 3 = .ok (.istore 4, 2) := by decide +kernel
theorem dX5_heapAt_5 : decode cX5_heapAt 5 = .ok (.iload 4, 2) := by decide +kernel
theorem dX5_heapAt_7 : decode cX5_heapAt 7 = .ok (.aload_n 0, 1) := by decide +kernel
theorem dX5_heapAt_8 : decode cX5_heapAt 8 = .ok (.getfield 31, 3) := by decide +kernel
theorem dX5_heapAt_11 : decode cX5_heapAt 11 = .ok (.if_icmp .ge 22, 3) := by decide +kernel
theorem dX5_heapAt_14 : decode cX5_heapAt 14 = .ok (.iload_n 1, 1) := by decide +kernel
theorem dX5_heapAt_15 : decode cX5_heapAt 15 = .ok (.iload 4, 2) := by decide +kernel
theorem dX5_heapAt_17 : decode cX5_heapAt 17 = .ok (.invokestatic 46, 3) := by decide +kernel
theorem dX5_heapAt_20 : decode cX5_heapAt 20 = .ok (.iload_n 2, 1) := by decide +kernel
theorem dX5_heapAt_21 : decode cX5_heapAt 21 = .ok (.if_icmp .ne 6, 3) := by decide +kernel
theorem dX5_heapAt_24 : decode cX5_heapAt 24 = .ok (.iinc 3 1, 3) := by decide +kernel
theorem dX5_heapAt_27 : decode cX5_heapAt 27 = .ok (.iinc 4 1, 3) := by decide +kernel
theorem dX5_heapAt_30 : decode cX5_heapAt 30 = .ok (.goto (-25), 3) := by decide +kernel
theorem dX5_heapAt_33 : decode cX5_heapAt 33 = .ok (.iload_n 3, 1) := by decide +kernel
theorem dX5_heapAt_34 : decode cX5_heapAt 34 = .ok (.ireturn, 1) := by decide +kernel
theorem dX5_leastAt_0 : decode cX5_leastAt 0 = .ok (.iconst 0, 1) := by decide +kernel
theorem dX5_leastAt_1 : decode cX5_leastAt 1 = .ok (.istore_n 3, 1) := by decide +kernel
theorem dX5_leastAt_2 : decode cX5_leastAt 2 = .ok (.iconst 0, 1) := by decide +kernel
theorem dX5_leastAt_3 : decode cX5_leastAt 3 = .ok (.istore 4, 2) := by decide +kernel
theorem dX5_leastAt_5 : decode cX5_leastAt 5 = .ok (.iload 4, 2) := by decide +kernel
theorem dX5_leastAt_7 : decode cX5_leastAt 7 = .ok (.aload_n 0, 1) := by decide +kernel
theorem dX5_leastAt_8 : decode cX5_leastAt 8 = .ok (.getfield 31, 3) := by decide +kernel
theorem dX5_leastAt_11 : decode cX5_leastAt 11 = .ok (.if_icmp .ge 42, 3) := by decide +kernel
theorem dX5_leastAt_14 : decode cX5_leastAt 14 = .ok (.iload_n 1, 1) := by decide +kernel
theorem dX5_leastAt_15 : decode cX5_leastAt 15 = .ok (.iload 4, 2) := by decide +kernel
theorem dX5_leastAt_17 : decode cX5_leastAt 17 = .ok (.invokestatic 46, 3) := by decide +kernel
theorem dX5_leastAt_20 : decode cX5_leastAt 20 = .ok (.iload_n 2, 1) := by decide +kernel
theorem dX5_leastAt_21 : decode cX5_leastAt 21 = .ok (.if_icmp .ne 26, 3) := by decide +kernel
theorem dX5_leastAt_24 : decode cX5_leastAt 24 = .ok (.iload_n 3, 1) := by decide +kernel
theorem dX5_leastAt_25 : decode cX5_leastAt 25 = .ok (.ifCond .eq 14, 3) := by decide +kernel
theorem dX5_leastAt_28 : decode cX5_leastAt 28 = .ok (.aload_n 0, 1) := by decide +kernel
theorem dX5_leastAt_29 : decode cX5_leastAt 29 = .ok (.getfield 11, 3) := by decide +kernel
theorem dX5_leastAt_32 : decode cX5_leastAt 32 = .ok (.iload 4, 2) := by decide +kernel
theorem dX5_leastAt_34 : decode cX5_leastAt 34 = .ok (.iaload, 1) := by decide +kernel
theorem dX5_leastAt_35 : decode cX5_leastAt 35 = .ok (.iload_n 3, 1) := by decide +kernel
theorem dX5_leastAt_36 : decode cX5_leastAt 36 = .ok (.if_icmp .ge 11, 3) := by decide +kernel
theorem dX5_leastAt_39 : decode cX5_leastAt 39 = .ok (.aload_n 0, 1) := by decide +kernel
theorem dX5_leastAt_40 : decode cX5_leastAt 40 = .ok (.getfield 11, 3) := by decide +kernel
theorem dX5_leastAt_43 : decode cX5_leastAt 43 = .ok (.iload 4, 2) := by decide +kernel
theorem dX5_leastAt_45 : decode cX5_leastAt 45 = .ok (.iaload, 1) := by decide +kernel
theorem dX5_leastAt_46 : decode cX5_leastAt 46 = .ok (.istore_n 3, 1) := by decide +kernel
theorem dX5_leastAt_47 : decode cX5_leastAt 47 = .ok (.iinc 4 1, 3) := by decide +kernel
theorem dX5_leastAt_50 : decode cX5_leastAt 50 = .ok (.goto (-45), 3) := by decide +kernel
theorem dX5_leastAt_53 : decode cX5_leastAt 53 = .ok (.iload_n 3, 1) := by decide +kernel
theorem dX5_leastAt_54 : decode cX5_leastAt 54 = .ok (.ireturn, 1) := by decide +kernel
theorem dX5_fullestPost_0 : decode cX5_fullestPost 0 = .ok (.iconst 0, 1) := by decide +kernel
theorem dX5_fullestPost_1 : decode cX5_fullestPost 1 = .ok (.istore_n 2, 1) := by decide +kernel
theorem dX5_fullestPost_2 : decode cX5_fullestPost 2 = .ok (.iconst 1, 1) := by decide +kernel
theorem dX5_fullestPost_3 : decode cX5_fullestPost 3 = .ok (.istore_n 3, 1) := by decide +kernel
theorem dX5_fullestPost_4 : decode cX5_fullestPost 4 = .ok (.iload_n 3, 1) := by decide +kernel
theorem dX5_fullestPost_5 : decode cX5_fullestPost 5 = .ok (.aload_n 0, 1) := by decide +kernel
theorem dX5_fullestPost_6 : decode cX5_fullestPost 6 = .ok (.getfield 27, 3) := by decide +kernel
theorem dX5_fullestPost_9 : decode cX5_fullestPost 9 = .ok (.if_icmp .ge 26, 3) := by decide +kernel
theorem dX5_fullestPost_12 : decode cX5_fullestPost 12 = .ok (.aload_n 0, 1) := by decide +kernel
theorem dX5_fullestPost_13 : decode cX5_fullestPost 13 = .ok (.iload_n 1, 1) := by decide +kernel
theorem dX5_fullestPost_14 : decode cX5_fullestPost 14 = .ok (.iload_n 3, 1) := by decide +kernel
theorem dX5_fullestPost_15 : decode cX5_fullestPost 15 = .ok (.invokevirtual 63, 3) := by decide +kernel
theorem dX5_fullestPost_18 : decode cX5_fullestPost 18 = .ok (.aload_n 0, 1) := by decide +kernel
theorem dX5_fullestPost_19 : decode cX5_fullestPost 19 = .ok (.iload_n 1, 1) := by decide +kernel
theorem dX5_fullestPost_20 : decode cX5_fullestPost 20 = .ok (.iload_n 2, 1) := by decide +kernel
theorem dX5_fullestPost_21 : decode cX5_fullestPost 21 = .ok (.invokevirtual 63, 3) := by decide +kernel
theorem dX5_fullestPost_24 : decode cX5_fullestPost 24 = .ok (.if_icmp .le 5, 3) := by decide +kernel
theorem dX5_fullestPost_27 : decode cX5_fullestPost 27 = .ok (.iload_n 3, 1) := by decide +kernel
theorem dX5_fullestPost_28 : decode cX5_fullestPost 28 = .ok (.istore_n 2, 1) := by decide +kernel
theorem dX5_fullestPost_29 : decode cX5_fullestPost 29 = .ok (.iinc 3 1, 3) := by decide +kernel
theorem dX5_fullestPost_32 : decode cX5_fullestPost 32 = .ok (.goto (-28), 3) := by decide +kernel
theorem dX5_fullestPost_35 : decode cX5_fullestPost 35 = .ok (.iload_n 2, 1) := by decide +kernel
theorem dX5_fullestPost_36 : decode cX5_fullestPost 36 = .ok (.ireturn, 1) := by decide +kernel
theorem dX5_bothWays_0 : decode cX5_bothWays 0 = .ok (.iconst 0, 1) := by decide +kernel
theorem dX5_bothWays_1 : decode cX5_bothWays 1 = .ok (.istore_n 1, 1) := by decide +kernel
theorem dX5_bothWays_2 : decode cX5_bothWays 2 = .ok (.iconst 0, 1) := by decide +kernel
theorem dX5_bothWays_3 : decode cX5_bothWays 3 = .ok (.istore_n 2, 1) := by decide +kernel
theorem dX5_bothWays_4 : decode cX5_bothWays 4 = .ok (.iload_n 2, 1) := by decide +kernel
theorem dX5_bothWays_5 : decode cX5_bothWays 5 = .ok (.aload_n 0, 1) := by decide +kernel
theorem dX5_bothWays_6 : decode cX5_bothWays 6 = .ok (.getfield 34, 3) := by decide +kernel
theorem dX5_bothWays_9 : decode cX5_bothWays 9 = .ok (.if_icmp .ge 24, 3) := by decide +kernel
theorem dX5_bothWays_12 : decode cX5_bothWays 12 = .ok (.aload_n 0, 1) := by decide +kernel
theorem dX5_bothWays_13 : decode cX5_bothWays 13 = .ok (.getfield 23, 3) := by decide +kernel
theorem dX5_bothWays_16 : decode cX5_bothWays 16 = .ok (.iload_n 2, 1) := by decide +kernel
theorem dX5_bothWays_17 : decode cX5_bothWays 17 = .ok (.aaload, 1) := by decide +kernel
theorem dX5_bothWays_18 : decode cX5_bothWays 18 = .ok (.instanceof 66, 3) := by decide +kernel
theorem dX5_bothWays_21 : decode cX5_bothWays 21 = .ok (.ifCond .eq 6, 3) := by decide +kernel
theorem dX5_bothWays_24 : decode cX5_bothWays 24 = .ok (.iinc 1 1, 3) := by decide +kernel
theorem dX5_bothWays_27 : decode cX5_bothWays 27 = .ok (.iinc 2 1, 3) := by decide +kernel
theorem dX5_bothWays_30 : decode cX5_bothWays 30 = .ok (.goto (-26), 3) := by decide +kernel
theorem dX5_bothWays_33 : decode cX5_bothWays 33 = .ok (.iload_n 1, 1) := by decide +kernel
theorem dX5_bothWays_34 : decode cX5_bothWays 34 = .ok (.ireturn, 1) := by decide +kernel
theorem dX5_lameOnes_0 : decode cX5_lameOnes 0 = .ok (.iconst 0, 1) := by decide +kernel
theorem dX5_lameOnes_1 : decode cX5_lameOnes 1 = .ok (.istore_n 1, 1) := by decide +kernel
theorem dX5_lameOnes_2 : decode cX5_lameOnes 2 = .ok (.iconst 0, 1) := by decide +kernel
theorem dX5_lameOnes_3 : decode cX5_lameOnes 3 = .ok (.istore_n 2, 1) := by decide +kernel
theorem dX5_lameOnes_4 : decode cX5_lameOnes 4 = .ok (.iload_n 2, 1) := by decide +kernel
theorem dX5_lameOnes_5 : decode cX5_lameOnes 5 = .ok (.aload_n 0, 1) := by decide +kernel
theorem dX5_lameOnes_6 : decode cX5_lameOnes 6 = .ok (.getfield 34, 3) := by decide +kernel
theorem dX5_lameOnes_9 : decode cX5_lameOnes 9 = .ok (.if_icmp .ge 24, 3) := by decide +kernel
theorem dX5_lameOnes_12 : decode cX5_lameOnes 12 = .ok (.aload_n 0, 1) := by decide +kernel
theorem dX5_lameOnes_13 : decode cX5_lameOnes 13 = .ok (.getfield 23, 3) := by decide +kernel
theorem dX5_lameOnes_16 : decode cX5_lameOnes 16 = .ok (.iload_n 2, 1) := by decide +kernel
theorem dX5_lameOnes_17 : decode cX5_lameOnes 17 = .ok (.aaload, 1) := by decide +kernel
theorem dX5_lameOnes_18 : decode cX5_lameOnes 18 = .ok (.instanceof 68, 3) := by decide +kernel
theorem dX5_lameOnes_21 : decode cX5_lameOnes 21 = .ok (.ifCond .eq 6, 3) := by decide +kernel
theorem dX5_lameOnes_24 : decode cX5_lameOnes 24 = .ok (.iinc 1 1, 3) := by decide +kernel
theorem dX5_lameOnes_27 : decode cX5_lameOnes 27 = .ok (.iinc 2 1, 3) := by decide +kernel
theorem dX5_lameOnes_30 : decode cX5_lameOnes 30 = .ok (.goto (-26), 3) := by decide +kernel
theorem dX5_lameOnes_33 : decode cX5_lameOnes 33 = .ok (.iload_n 1, 1) := by decide +kernel
theorem dX5_lameOnes_34 : decode cX5_lameOnes 34 = .ok (.ireturn, 1) := by decide +kernel
theorem dX6_init_0 : decode cX6_init 0 = .ok (.aload_n 0, 1) := by decide +kernel
theorem dX6_init_1 : decode cX6_init 1 = .ok (.invokespecial 3, 3) := by decide +kernel
theorem dX6_init_4 : decode cX6_init 4 = .ok (.aload_n 0, 1) := by decide +kernel
theorem dX6_init_5 : decode cX6_init 5 = .ok (.bipush 60, 2) := by decide +kernel
theorem dX6_init_7 : decode cX6_init 7 = .ok (.newarray .int, 2) := by decide +kernel
theorem dX6_init_9 : decode cX6_init 9 = .ok (.putfield 9, 3) := by decide +kernel
theorem dX6_init_12 : decode cX6_init 12 = .ok (.aload_n 0, 1) := by decide +kernel
theorem dX6_init_13 : decode cX6_init 13 = .ok (.iconst (-1), 1) := by decide +kernel
theorem dX6_init_14 : decode cX6_init 14 = .ok (.putfield 15, 3) := by decide +kernel
theorem dX6_init_17 : decode cX6_init 17 = .ok (.return_, 1) := by decide +kernel
theorem dX6_isMissing_0 : decode cX6_isMissing 0 = .ok (.aload_n 0, 1) := by decide +kernel
theorem dX6_isMissing_1 : decode cX6_isMissing 1 = .ok (.getfield 15, 3) := by decide +kernel
theorem dX6_isMissing_4 : decode cX6_isMissing 4 = .ok (.ifCond .ge 7, 3) := by decide +kernel
theorem dX6_isMissing_7 : decode cX6_isMissing 7 = .ok (.iconst 1, 1) := by decide +kernel
theorem dX6_isMissing_8 : decode cX6_isMissing 8 = .ok (.goto 4, 3) := by decide +kernel
theorem dX6_isMissing_11 : decode cX6_isMissing 11 = .ok (.iconst 0, 1) := by decide +kernel
theorem dX6_isMissing_12 : decode cX6_isMissing 12 = .ok (.ireturn, 1) := by decide +kernel
theorem dX6_has_0 : decode cX6_has 0 = .ok (.iload_n 1, 1) := by decide +kernel
theorem dX6_has_1 : decode cX6_has 1 = .ok (.ifCond .lt 15, 3) := by decide +kernel
theorem dX6_has_4 : decode cX6_has 4 = .ok (.iload_n 1, 1) := by decide +kernel
theorem dX6_has_5 : decode cX6_has 5 = .ok (.aload_n 0, 1) := by decide +kernel
theorem dX6_has_6 : decode cX6_has 6 = .ok (.getfield 15, 3) := by decide +kernel
theorem dX6_has_9 : decode cX6_has 9 = .ok (.if_icmp .ge 7, 3) := by decide +kernel
theorem dX6_has_12 : decode cX6_has 12 = .ok (.iconst 1, 1) := by decide +kernel
theorem dX6_has_13 : decode cX6_has 13 = .ok (.goto 4, 3) := by decide +kernel
theorem dX6_has_16 : decode cX6_has 16 = .ok (.iconst 0, 1) := by decide +kernel
theorem dX6_has_17 : decode cX6_has 17 = .ok (.ireturn, 1) := by decide +kernel
theorem dX6_hasPart_0 : decode cX6_hasPart 0 = .ok (.iload_n 1, 1) := by decide +kernel
theorem dX6_hasPart_1 : decode cX6_hasPart 1 = .ok (.ifCond .lt 29, 3) := by decide +kernel
theorem dX6_hasPart_4 : decode cX6_hasPart 4 = .ok (.iload_n 2, 1) := by decide +kernel
theorem dX6_hasPart_5 : decode cX6_hasPart 5 = .ok (.ifCond .lt 25, 3) := by decide +kernel
theorem dX6_hasPart_8 : decode cX6_hasPart 8 = .ok (.iload_n 1, 1) := by decide +kernel
theorem dX6_hasPart_9 : decode cX6_hasPart 9 = .ok (.aload_n 0, 1) := by decide +kernel
theorem dX6_hasPart_10 : decode cX6_hasPart 10 = .ok (.getfield 15, 3) := by decide +kernel
theorem dX6_hasPart_13 : decode cX6_hasPart 13 = .ok (.if_icmp .gt 17, 3) := by decide +kernel
theorem dX6_hasPart_16 : decode cX6_hasPart 16 = .ok (.iload_n 2, 1) := by decide +kernel
theorem dX6_hasPart_17 : decode cX6_hasPart 17 = .ok (.aload_n 0, 1) := by decide +kernel
theorem dX6_hasPart_18 : decode cX6_hasPart 18 = .ok (.getfield 15, 3) := by decide +kernel
theorem dX6_hasPart_21 : decode cX6_hasPart 21 = .ok (.iload_n 1, 1) := by decide +kernel
theorem dX6_hasPart_22 : decode cX6_hasPart 22 = .ok (.isub, 1) := by decide +kernel
theorem dX6_hasPart_23 : decode cX6_hasPart 23 = .ok (.if_icmp .gt 7, 3) := by decide +kernel
theorem dX6_hasPart_26 : decode cX6_hasPart 26 = .ok (.iconst 1, 1) := by decide +kernel
theorem dX6_hasPart_27 : decode cX6_hasPart 27 = .ok (.goto 4, 3) := by decide +kernel
theorem dX6_hasPart_30 : decode cX6_hasPart 30 = .ok (.iconst 0, 1) := by decide +kernel
theorem dX6_hasPart_31 : decode cX6_hasPart 31 = .ok (.ireturn, 1) := by decide +kernel
theorem dX6_get_0 : decode cX6_get 0 = .ok (.aload_n 0, 1) := by decide +kernel
theorem dX6_get_1 : decode cX6_get 1 = .ok (.iload_n 1, 1) := by decide +kernel
theorem dX6_get_2 : decode cX6_get 2 = .ok (.invokevirtual 19, 3) := by decide +kernel
theorem dX6_get_5 : decode cX6_get 5 = .ok (.ifCond .eq 12, 3) := by decide +kernel
theorem dX6_get_8 : decode cX6_get 8 = .ok (.aload_n 0, 1) := by decide +kernel
theorem dX6_get_9 : decode cX6_get 9 = .ok (.getfield 9, 3) := by decide +kernel
theorem dX6_get_12 : decode cX6_get 12 = .ok (.iload_n 1, 1) := by decide +kernel
theorem dX6_get_13 : decode cX6_get 13 = .ok (.iaload, 1) := by decide +kernel
theorem dX6_get_14 : decode cX6_get 14 = .ok (.goto 4, 3) := by decide +kernel
theorem dX6_get_17 : decode cX6_get 17 = .ok (.iconst 0, 1) := by decide +kernel
theorem dX6_get_18 : decode cX6_get 18 = .ok (.ireturn, 1) := by decide +kernel
theorem dX6_set_0 : decode cX6_set 0 = .ok (.aload_n 0, 1) := by decide +kernel
theorem dX6_set_1 : decode cX6_set 1 = .ok (.iload_n 1, 1) := by decide +kernel
theorem dX6_set_2 : decode cX6_set 2 = .ok (.invokevirtual 19, 3) := by decide +kernel
theorem dX6_set_5 : decode cX6_set 5 = .ok (.ifCond .eq 10, 3) := by decide +kernel
theorem dX6_set_8 : decode cX6_set 8 = .ok (.aload_n 0, 1) := by decide +kernel
theorem dX6_set_9 : decode cX6_set 9 = .ok (.getfield 9, 3) := by decide +kernel
theorem dX6_set_12 : decode cX6_set 12 = .ok (.iload_n 1, 1) := by decide +kernel
theorem dX6_set_13 : decode cX6_set 13 = .ok (.iload_n 2, 1) := by decide +kernel
theorem dX6_set_14 : decode cX6_set 14 = .ok (.iastore, 1) := by decide +kernel
theorem dX6_set_15 : decode cX6_set 15 = .ok (.return_, 1) := by decide +kernel
theorem dX6_begin_0 : decode cX6_begin 0 = .ok (.aload_n 0, 1) := by decide +kernel
theorem dX6_begin_1 : decode cX6_begin 1 = .ok (.iconst 0, 1) := by decide +kernel
theorem dX6_begin_2 : decode cX6_begin 2 = .ok (.iload_n 1, 1) := by decide +kernel
theorem dX6_begin_3 : decode cX6_begin 3 = .ok (.bipush 60, 2) := by decide +kernel
theorem dX6_begin_5 : decode cX6_begin 5 = .ok (.invokestatic 23, 3) := by decide +kernel
theorem dX6_begin_8 : decode cX6_begin 8 = .ok (.invokestatic 29, 3) := by decide +kernel
theorem dX6_begin_11 : decode cX6_begin 11 = .ok (.putfield 15, 3) := by decide +kernel
theorem dX6_begin_14 : decode cX6_begin 14 = .ok (.aload_n 0, 1) := by decide +kernel
theorem dX6_begin_15 : decode cX6_begin 15 = .ok (.getfield 9, 3) := by decide +kernel
theorem dX6_begin_18 : decode cX6_begin 18 = .ok (.iload_n 2, 1) := by decide +kernel
theorem dX6_begin_19 : decode cX6_begin 19 = .ok (.invokestatic 32, 3) := by decide +kernel
theorem dX6_begin_22 : decode cX6_begin 22 = .ok (.return_, 1) := by decide +kernel
theorem dX6_remove_0 : decode cX6_remove 0 = .ok (.aload_n 0, 1) := by decide +kernel
theorem dX6_remove_1 : decode cX6_remove 1 = .ok (.iconst (-1), 1) := by decide +kernel
theorem dX6_remove_2 : decode cX6_remove 2 = .ok (.putfield 15, 3) := by decide +kernel
theorem dX6_remove_5 : decode cX6_remove 5 = .ok (.return_, 1) := by decide +kernel
theorem dX7_init_0 : decode cX7_init 0 = .ok (.aload_n 0, 1) := by decide +kernel
theorem dX7_init_1 : decode cX7_init 1 = .ok (.invokespecial 3, 3) := by decide +kernel
theorem dX7_init_4 : decode cX7_init 4 = .ok (.aload_n 0, 1) := by decide +kernel
theorem dX7_init_5 : decode cX7_init 5 = .ok (.iconst 4, 1) := by decide +kernel
theorem dX7_init_6 : decode cX7_init 6 = .ok (.newarray .int, 2) := by decide +kernel
theorem dX7_init_8 : decode cX7_init 8 = .ok (.putfield 11, 3) := by decide +kernel
theorem dX7_init_11 : decode cX7_init 11 = .ok (.aload_n 0, 1) := by decide +kernel
theorem dX7_init_12 : decode cX7_init 12 = .ok (.bipush 125, 2) := by decide +kernel
theorem dX7_init_14 : decode cX7_init 14 = .ok (.newarray .int, 2) := by decide +kernel
theorem dX7_init_16 : decode cX7_init 16 = .ok (.putfield 15, 3) := by decide +kernel
theorem dX7_init_19 : decode cX7_init 19 = .ok (.aload_n 0, 1) := by decide +kernel
theorem dX7_init_20 : decode cX7_init 20 = .ok (.bipush 10, 2) := by decide +kernel
theorem dX7_init_22 : decode cX7_init 22 = .ok (.newarray .int, 2) := by decide +kernel
theorem dX7_init_24 : decode cX7_init 24 = .ok (.putfield 18, 3) := by decide +kernel
theorem dX7_init_27 : decode cX7_init 27 = .ok (.aload_n 0, 1) := by decide +kernel
theorem dX7_init_28 : decode cX7_init 28 = .ok (.iconst 0, 1) := by decide +kernel
theorem dX7_init_29 : decode cX7_init 29 = .ok (.putfield 21, 3) := by decide +kernel
theorem dX7_init_32 : decode cX7_init 32 = .ok (.aload_n 0, 1) := by decide +kernel
theorem dX7_init_33 : decode cX7_init 33 = .ok (.iconst 0, 1) := by decide +kernel
theorem dX7_init_34 : decode cX7_init 34 = .ok (.putfield 25, 3) := by decide +kernel
theorem dX7_init_37 : decode cX7_init 37 = .ok (.aload_n 0, 1) := by decide +kernel
theorem dX7_init_38 : decode cX7_init 38 = .ok (.iconst 0, 1) := by decide +kernel
theorem dX7_init_39 : decode cX7_init 39 = .ok (.putfield 28, 3) := by decide +kernel
theorem dX7_init_42 : decode cX7_init 42 = .ok (.aload_n 0, 1) := by decide +kernel
theorem dX7_init_43 : decode cX7_init 43 = .ok (.iconst 0, 1) := by decide +kernel
theorem dX7_init_44 : decode cX7_init 44 = .ok (.newarray .int, 2) := by decide +kernel
theorem dX7_init_46 : decode cX7_init 46 = .ok (.putfield 32, 3) := by decide +kernel
theorem dX7_init_49 : decode cX7_init 49 = .ok (.aload_n 0, 1) := by decide +kernel
theorem dX7_init_50 : decode cX7_init 50 = .ok (.iconst 0, 1) := by decide +kernel
theorem dX7_init_51 : decode cX7_init 51 = .ok (.newarray .int, 2) := by decide +kernel
theorem dX7_init_53 : decode cX7_init 53 = .ok (.putfield 35, 3) := by decide +kernel
theorem dX7_init_56 : decode cX7_init 56 = .ok (.aload_n 0, 1) := by decide +kernel
theorem dX7_init_57 : decode cX7_init 57 = .ok (.iconst 0, 1) := by decide +kernel
theorem dX7_init_58 : decode cX7_init 58 = .ok (.newarray .int, 2) := by decide +kernel
theorem dX7_init_60 : decode cX7_init 60 = .ok (.putfield 38, 3) := by decide +kernel
theorem dX7_init_63 : decode cX7_init 63 = .ok (.aload_n 0, 1) := by decide +kernel
theorem dX7_init_64 : decode cX7_init 64 = .ok (.iconst 0, 1) := by decide +kernel
theorem dX7_init_65 : decode cX7_init 65 = .ok (.putfield 41, 3) := by decide +kernel
theorem dX7_init_68 : decode cX7_init 68 = .ok (.aload_n 0, 1) := by decide +kernel
theorem dX7_init_69 : decode cX7_init 69 = .ok (.iconst 0, 1) := by decide +kernel
theorem dX7_init_70 : decode cX7_init 70 = .ok (.putfield 44, 3) := by decide +kernel
theorem dX7_init_73 : decode cX7_init 73 = .ok (.aload_n 0, 1) := by decide +kernel
theorem dX7_init_74 : decode cX7_init 74 = .ok (.iconst 0, 1) := by decide +kernel
theorem dX7_init_75 : decode cX7_init 75 = .ok (.putfield 47, 3) := by decide +kernel
theorem dX7_init_78 : decode cX7_init 78 = .ok (.aload_n 0, 1) := by decide +kernel
theorem dX7_init_79 : decode cX7_init 79 = .ok (.iconst 0, 1) := by decide +kernel
theorem dX7_init_80 : decode cX7_init 80 = .ok (.putfield 50, 3) := by decide +kernel
theorem dX7_init_83 : decode cX7_init 83 = .ok (.aload_n 0, 1) := by decide +kernel
theorem dX7_init_84 : decode cX7_init 84 = .ok (.iconst 0, 1) := by decide +kernel
theorem dX7_init_85 : decode cX7_init 85 = .ok (.putfield 53, 3) := by decide +kernel
theorem dX7_init_88 : decode cX7_init 88 = .ok (.aload_n 0, 1) := by decide +kernel
theorem dX7_init_89 : decode cX7_init 89 = .ok (.iconst 0, 1) := by decide +kernel
theorem dX7_init_90 : decode cX7_init 90 = .ok (.putfield 56, 3) := by decide +kernel
theorem dX7_init_93 : decode cX7_init 93 = .ok (.aload_n 0, 1) := by decide +kernel
theorem dX7_init_94 : decode cX7_init 94 = .ok (.aload_n 1, 1) := by decide +kernel
theorem dX7_init_95 : decode cX7_init 95 = .ok (.putfield 59, 3) := by decide +kernel
theorem dX7_init_98 : decode cX7_init 98 = .ok (.aload_n 0, 1) := by decide +kernel
theorem dX7_init_99 : decode cX7_init 99 = .ok (.new 63, 3) := by decide +kernel
theorem dX7_init_102 : decode cX7_init 102 = .ok (.dup, 1) := by decide +kernel
theorem dX7_init_103 : decode cX7_init 103 = .ok (.aload_n 1, 1) := by decide +kernel
theorem dX7_init_104 : decode cX7_init 104 = .ok (.invokespecial 65, 3) := by decide +kernel
theorem dX7_init_107 : decode cX7_init 107 = .ok (.putfield 68, 3) := by decide +kernel
theorem dX7_init_110 : decode cX7_init 110 = .ok (.return_, 1) := by decide +kernel
theorem dX7_from_0 : decode cX7_from 0 = .ok (.aload_n 0, 1) := by decide +kernel
theorem dX7_from_1 : decode cX7_from 1 = .ok (.getfield 59, 3) := by decide +kernel
theorem dX7_from_4 : decode cX7_from 4 = .ok (.aload_n 1, 1) := by decide +kernel
theorem dX7_from_5 : decode cX7_from 5 = .ok (.if_acmp .ne 19, 3) := by decide +kernel
theorem dX7_from_8 : decode cX7_from 8 = .ok (.aload_n 0, 1) := by decide +kernel
theorem dX7_from_9 : decode cX7_from 9 = .ok (.getfield 21, 3) := by decide +kernel
theorem dX7_from_12 : decode cX7_from 12 = .ok (.iload_n 2, 1) := by decide +kernel
theorem dX7_from_13 : decode cX7_from 13 = .ok (.if_icmp .ne 11, 3) := by decide +kernel
theorem dX7_from_16 : decode cX7_from 16 = .ok (.aload_n 0, 1) := by decide +kernel
theorem dX7_from_17 : decode cX7_from 17 = .ok (.getfield 25, 3) := by decide +kernel
theorem dX7_from_20 : decode cX7_from 20 = .ok (.iload_n 3, 1) := by decide +kernel
theorem dX7_from_21 : decode cX7_from 21 = .ok (.if_icmp .eq 23, 3) := by decide +kernel
theorem dX7_from_24 : decode cX7_from 24 = .ok (.aload_n 0, 1) := by decide +kernel
theorem dX7_from_25 : decode cX7_from 25 = .ok (.aload_n 1, 1) := by decide +kernel
theorem dX7_from_26 : decode cX7_from 26 = .ok (.putfield 59, 3) := by decide +kernel
theorem dX7_from_29 : decode cX7_from 29 = .ok (.aload_n 0, 1) := by decide +kernel
theorem dX7_from_30 : decode cX7_from 30 = .ok (.iload_n 2, 1) := by decide +kernel
theorem dX7_from_31 : decode cX7_from 31 = .ok (.putfield 21, 3) := by decide +kernel
theorem dX7_from_34 : decode cX7_from 34 = .ok (.aload_n 0, 1) := by decide +kernel
theorem dX7_from_35 : decode cX7_from 35 = .ok (.iload_n 3, 1) := by decide +kernel
theorem dX7_from_36 : decode cX7_from 36 = .ok (.putfield 25, 3) := by decide +kernel
theorem dX7_from_39 : decode cX7_from 39 = .ok (.aload_n 0, 1) := by decide +kernel
theorem dX7_from_40 : decode cX7_from 40 = .ok (.iconst 0, 1) := by decide +kernel
theorem dX7_from_41 : decode cX7_from 41 = .ok (.putfield 28, 3) := by decide +kernel
theorem dX7_from_44 : decode cX7_from 44 = .ok (.return_, 1) := by decide +kernel
theorem dX7_explore_0 : decode cX7_explore 0 = .ok (.aload_n 0, 1) := by decide +kernel
theorem dX7_explore_1 : decode cX7_explore 1 = .ok (.getfield 28, 3) := by decide +kernel
theorem dX7_explore_4 : decode cX7_explore 4 = .ok (.ifCond .eq 4, 3) := by decide +kernel
theorem dX7_explore_7 : decode cX7_explore 7 = .ok (.return_, 1) := by decide +kernel
theorem dX7_explore_8 : decode cX7_explore 8 = .ok (.aload_n 0, 1) := by decide +kernel
theorem dX7_explore_9 : decode cX7_explore 9 = .ok (.invokevirtual 72, 3) := by decide +kernel
theorem dX7_explore_12 : decode cX7_explore 12 = .ok (.aload_n 0, 1) := by decide +kernel
theorem dX7_explore_13 : decode cX7_explore 13 = .ok (.iconst 1, 1) := by decide +kernel
theorem dX7_explore_14 : decode cX7_explore 14 = .ok (.putfield 28, 3) := by decide +kernel
theorem dX7_explore_17 : decode cX7_explore 17 = .ok (.aload_n 0, 1) := by decide +kernel
theorem dX7_explore_18 : decode cX7_explore 18 = .ok (.iconst 0, 1) := by decide +kernel
theorem dX7_explore_19 : decode cX7_explore 19 = .ok (.putfield 41, 3) := by decide +kernel
theorem dX7_explore_22 : decode cX7_explore 22 = .ok (.aload_n 0, 1) := by decide +kernel
theorem dX7_explore_23 : decode cX7_explore 23 = .ok (.aload_n 0, 1) := by decide +kernel
theorem dX7_explore_24 : decode cX7_explore 24 = .ok (.getfield 21, 3) := by decide +kernel
theorem dX7_explore_27 : decode cX7_explore 27 = .ok (.iconst 0, 1) := by decide +kernel
theorem dX7_explore_28 : decode cX7_explore 28 = .ok (.iconst 0, 1) := by decide +kernel
theorem dX7_explore_29 : decode cX7_explore 29 = .ok (.invokevirtual 75, 3) := by decide +kernel
theorem dX7_explore_32 : decode cX7_explore 32 = .ok (.iconst 0, 1) := by decide +kernel
theorem dX7_explore_33 : decode cX7_explore 33 = .ok (.istore_n 1, 1) := by decide +kernel
theorem dX7_explore_34 : decode cX7_explore 34 = .ok (.iload_n 1, 1) := by decide +kernel
theorem dX7_explore_35 : decode cX7_explore 35 = .ok (.aload_n 0, 1) := by decide +kernel
theorem dX7_explore_36 : decode cX7_explore 36 = .ok (.getfield 41, 3) := by decide +kernel
theorem dX7_explore_39 : decode cX7_explore 39 = .ok (.if_icmp .ge 91, 3) := by decide +kernel
theorem dX7_explore_42 : decode cX7_explore 42 = .ok (.iload_n 1, 1) := by decide +kernel
theorem dX7_explore_43 : decode cX7_explore 43 = .ok (.aload_n 0, 1) := by decide +kernel
theorem dX7_explore_44 : decode cX7_explore 44 = .ok (.getfield 38, 3) := by decide +kernel
theorem dX7_explore_47 : decode cX7_explore 47 = .ok (.arraylength, 1) := by decide +kernel
theorem dX7_explore_48 : decode cX7_explore 48 = .ok (.if_icmp .ge 82, 3) := by decide +kernel
theorem dX7_explore_51 : decode cX7_explore 51 = .ok (.aload_n 0, 1) := by decide +kernel
theorem dX7_explore_52 : decode cX7_explore 52 = .ok (.getfield 38, 3) := by decide +kernel
theorem dX7_explore_55 : decode cX7_explore 55 = .ok (.iload_n 1, 1) := by decide +kernel
theorem dX7_explore_56 : decode cX7_explore 56 = .ok (.iaload, 1) := by decide +kernel
theorem dX7_explore_57 : decode cX7_explore 57 = .ok (.istore_n 2, 1) := by decide +kernel
theorem dX7_explore_58 : decode cX7_explore 58 = .ok (.iconst 0, 1) := by decide +kernel
theorem dX7_explore_59 : decode cX7_explore 59 = .ok (.istore_n 3, 1) := by decide +kernel
theorem dX7_explore_60 : decode cX7_explore 60 = .ok (.iload_n 3, 1) := by decide +kernel
theorem dX7_explore_61 : decode cX7_explore 61 = .ok (.aload_n 0, 1) := by decide +kernel
theorem dX7_explore_62 : decode cX7_explore 62 = .ok (.getfield 59, 3) := by decide +kernel
theorem dX7_explore_65 : decode cX7_explore 65 = .ok (.getfield 79, 3) := by decide +kernel
theorem dX7_explore_68 : decode cX7_explore 68 = .ok (.if_icmp .ge 56, 3) := by decide +kernel
theorem dX7_explore_71 : decode cX7_explore 71 = .ok (.aload_n 0, 1) := by decide +kernel
theorem dX7_explore_72 : decode cX7_explore 72 = .ok (.getfield 68, 3) := by decide +kernel
theorem dX7_explore_75 : decode cX7_explore 75 = .ok (.aload_n 0, 1) := by decide +kernel
theorem dX7_explore_76 : decode cX7_explore 76 = .ok (.getfield 59, 3) := by decide +kernel
theorem dX7_explore_79 : decode cX7_explore 79 = .ok (.iload_n 2, 1) := by decide +kernel
theorem dX7_explore_80 : decode cX7_explore 80 = .ok (.aload_n 0, 1) := by decide +kernel
theorem dX7_explore_81 : decode cX7_explore 81 = .ok (.getfield 25, 3) := by decide +kernel
theorem dX7_explore_84 : decode cX7_explore 84 = .ok (.invokevirtual 84, 3) := by decide +kernel
theorem dX7_explore_87 : decode cX7_explore 87 = .ok (.aload_n 0, 1) := by decide +kernel
theorem dX7_explore_88 : decode cX7_explore 88 = .ok (.getfield 68, 3) := by decide +kernel
theorem dX7_explore_91 : decode cX7_explore 91 = .ok (.iload_n 3, 1) := by decide +kernel
theorem dX7_explore_92 : decode cX7_explore 92 = .ok (.invokevirtual 88, 3) := by decide +kernel
theorem dX7_explore_95 : decode cX7_explore 95 = .ok (.aload_n 0, 1) := by decide +kernel
theorem dX7_explore_96 : decode cX7_explore 96 = .ok (.aload_n 0, 1) := by decide +kernel
theorem dX7_explore_97 : decode cX7_explore 97 = .ok (.getfield 68, 3) := by decide +kernel
theorem dX7_explore_100 : decode cX7_explore 100 = .ok (.getfield 92, 3) := by decide +kernel
theorem dX7_explore_103 : decode cX7_explore 103 = .ok (.aload_n 0, 1) := by decide +kernel
theorem dX7_explore_104 : decode cX7_explore 104 = .ok (.iload_n 2, 1) := by decide +kernel
theorem dX7_explore_105 : decode cX7_explore 105 = .ok (.invokevirtual 95, 3) := by decide +kernel
theorem dX7_explore_108 : decode cX7_explore 108 = .ok (.iconst 1, 1) := by decide +kernel
theorem dX7_explore_109 : decode cX7_explore 109 = .ok (.iadd, 1) := by decide +kernel
theorem dX7_explore_110 : decode cX7_explore 110 = .ok (.iload_n 2, 1) := by decide +kernel
theorem dX7_explore_111 : decode cX7_explore 111 = .ok (.iconst 3, 1) := by decide +kernel
theorem dX7_explore_112 : decode cX7_explore 112 = .ok (.ishl, 1) := by decide +kernel
theorem dX7_explore_113 : decode cX7_explore 113 = .ok (.iload_n 3, 1) := by decide +kernel
theorem dX7_explore_114 : decode cX7_explore 114 = .ok (.ior, 1) := by decide +kernel
theorem dX7_explore_115 : decode cX7_explore 115 = .ok (.invokevirtual 75, 3) := by decide +kernel
theorem dX7_explore_118 : decode cX7_explore 118 = .ok (.iinc 3 1, 3) := by decide +kernel
theorem dX7_explore_121 : decode cX7_explore 121 = .ok (.goto (-61), 3) := by decide +kernel
theorem dX7_explore_124 : decode cX7_explore 124 = .ok (.iinc 1 1, 3) := by decide +kernel
theorem dX7_explore_127 : decode cX7_explore 127 = .ok (.goto (-93), 3) := by decide +kernel
theorem dX7_explore_130 : decode cX7_explore 130 = .ok (.return_, 1) := by decide +kernel
theorem dX7_clearRoom_0 : decode cX7_clearRoom 0 = .ok (.iconst 1, 1) := by decide +kernel
theorem dX7_clearRoom_1 : decode cX7_clearRoom 1 = .ok (.iconst 3, 1) := by decide +kernel
theorem dX7_clearRoom_2 : decode cX7_clearRoom 2 = .ok (.aload_n 0, 1) := by decide +kernel
theorem dX7_clearRoom_3 : decode cX7_clearRoom 3 = .ok (.getfield 59, 3) := by decide +kernel
theorem dX7_clearRoom_6 : decode cX7_clearRoom 6 = .ok (.getfield 99, 3) := by decide +kernel
theorem dX7_clearRoom_9 : decode cX7_clearRoom 9 = .ok (.imul, 1) := by decide +kernel
theorem dX7_clearRoom_10 : decode cX7_clearRoom 10 = .ok (.ishl, 1) := by decide +kernel
theorem dX7_clearRoom_11 : decode cX7_clearRoom 11 = .ok (.istore_n 1, 1) := by decide +kernel
theorem dX7_clearRoom_12 : decode cX7_clearRoom 12 = .ok (.aload_n 0, 1) := by decide +kernel
theorem dX7_clearRoom_13 : decode cX7_clearRoom 13 = .ok (.getfield 32, 3) := by decide +kernel
theorem dX7_clearRoom_16 : decode cX7_clearRoom 16 = .ok (.arraylength, 1) := by decide +kernel
theorem dX7_clearRoom_17 : decode cX7_clearRoom 17 = .ok (.iload_n 1, 1) := by decide +kernel
theorem dX7_clearRoom_18 : decode cX7_clearRoom 18 = .ok (.if_icmp .ge 24, 3) := by decide +kernel
theorem dX7_clearRoom_21 : decode cX7_clearRoom 21 = .ok (.aload_n 0, 1) := by decide +kernel
theorem dX7_clearRoom_22 : decode cX7_clearRoom 22 = .ok (.iload_n 1, 1) := by decide +kernel
theorem dX7_clearRoom_23 : decode cX7_clearRoom 23 = .ok (.newarray .int, 2) := by decide +kernel
theorem dX7_clearRoom_25 : decode cX7_clearRoom 25 = .ok (.putfield 32, 3) := by decide +kernel
theorem dX7_clearRoom_28 : decode cX7_clearRoom 28 = .ok (.aload_n 0, 1) := by decide +kernel
theorem dX7_clearRoom_29 : decode cX7_clearRoom 29 = .ok (.iload_n 1, 1) := by decide +kernel
theorem dX7_clearRoom_30 : decode cX7_clearRoom 30 = .ok (.newarray .int, 2) := by decide +kernel
theorem dX7_clearRoom_32 : decode cX7_clearRoom 32 = .ok (.putfield 35, 3) := by decide +kernel
theorem dX7_clearRoom_35 : decode cX7_clearRoom 35 = .ok (.aload_n 0, 1) := by decide +kernel
theorem dX7_clearRoom_36 : decode cX7_clearRoom 36 = .ok (.iload_n 1, 1) := by decide +kernel
theorem dX7_clearRoom_37 : decode cX7_clearRoom 37 = .ok (.newarray .int, 2) := by decide +kernel
theorem dX7_clearRoom_39 : decode cX7_clearRoom 39 = .ok (.putfield 38, 3) := by decide +kernel
theorem dX7_clearRoom_42 : decode cX7_clearRoom 42 = .ok (.aload_n 0, 1) := by decide +kernel
theorem dX7_clearRoom_43 : decode cX7_clearRoom 43 = .ok (.getfield 32, 3) := by decide +kernel
theorem dX7_clearRoom_46 : decode cX7_clearRoom 46 = .ok (.bipush (-9), 2) := by decide +kernel
theorem dX7_clearRoom_48 : decode cX7_clearRoom 48 = .ok (.invokestatic 102, 3) := by decide +kernel
theorem dX7_clearRoom_51 : decode cX7_clearRoom 51 = .ok (.return_, 1) := by decide +kernel
theorem dX7_reach_0 : decode cX7_reach 0 = .ok (.aload_n 0, 1) := by decide +kernel
theorem dX7_reach_1 : decode cX7_reach 1 = .ok (.iload_n 1, 1) := by decide +kernel
theorem dX7_reach_2 : decode cX7_reach 2 = .ok (.invokevirtual 108, 3) := by decide +kernel
theorem dX7_reach_5 : decode cX7_reach 5 = .ok (.ifCond .eq 60, 3) := by decide +kernel
theorem dX7_reach_8 : decode cX7_reach 8 = .ok (.aload_n 0, 1) := by decide +kernel
theorem dX7_reach_9 : decode cX7_reach 9 = .ok (.getfield 32, 3) := by decide +kernel
theorem dX7_reach_12 : decode cX7_reach 12 = .ok (.iload_n 1, 1) := by decide +kernel
theorem dX7_reach_13 : decode cX7_reach 13 = .ok (.iaload, 1) := by decide +kernel
theorem dX7_reach_14 : decode cX7_reach 14 = .ok (.bipush (-9), 2) := by decide +kernel
theorem dX7_reach_16 : decode cX7_reach 16 = .ok (.if_icmp .ne 49, 3) := by decide +kernel
theorem dX7_reach_19 : decode cX7_reach 19 = .ok (.aload_n 0, 1) := by decide +kernel
theorem dX7_reach_20 : decode cX7_reach 20 = .ok (.getfield 41, 3) := by decide +kernel
theorem dX7_reach_23 : decode cX7_reach 23 = .ok (.aload_n 0, 1) := by decide +kernel
theorem dX7_reach_24 : decode cX7_reach 24 = .ok (.getfield 38, 3) := by decide +kernel
theorem dX7_reach_27 : decode cX7_reach 27 = .ok (.arraylength, 1) := by decide +kernel
theorem dX7_reach_28 : decode cX7_reach 28 = .ok (.if_icmp .ge 37, 3) := by decide +kernel
theorem dX7_reach_31 : decode cX7_reach 31 = .ok (.aload_n 0, 1) := by decide +kernel
theorem dX7_reach_32 : decode cX7_reach 32 = .ok (.getfield 32, 3) := by decide +kernel
theorem dX7_reach_35 : decode cX7_reach 35 = .ok (.iload_n 1, 1) := by decide +kernel
theorem dX7_reach_36 : decode cX7_reach 36 = .ok (.iload_n 2, 1) := by decide +kernel
theorem dX7_reach_37 : decode cX7_reach 37 = .ok (.iastore, 1) := by decide +kernel
theorem dX7_reach_38 : decode cX7_reach 38 = .ok (.aload_n 0, 1) := by decide +kernel
theorem dX7_reach_39 : decode cX7_reach 39 = .ok (.getfield 35, 3) := by decide +kernel
theorem dX7_reach_42 : decode cX7_reach 42 = .ok (.iload_n 1, 1) := by decide +kernel
theorem dX7_reach_43 : decode cX7_reach 43 = .ok (.iload_n 3, 1) := by decide +kernel
theorem dX7_reach_44 : decode cX7_reach 44 = .ok (.iastore, 1) := by decide +kernel
theorem dX7_reach_45 : decode cX7_reach 45 = .ok (.aload_n 0, 1) := by decide +kernel
theorem dX7_reach_46 : decode cX7_reach 46 = .ok (.getfield 38, 3) := by decide +kernel
theorem dX7_reach_49 : decode cX7_reach 49 = .ok (.aload_n 0, 1) := by decide +kernel
theorem dX7_reach_50 : decode cX7_reach 50 = .ok (.getfield 41, 3) := by decide +kernel
theorem dX7_reach_53 : decode cX7_reach 53 = .ok (.iload_n 1, 1) := by decide +kernel
theorem dX7_reach_54 : decode cX7_reach 54 = .ok (.iastore, 1) := by decide +kernel
theorem dX7_reach_55 : decode cX7_reach 55 = .ok (.aload_n 0, 1) := by decide +kernel
theorem dX7_reach_56 : decode cX7_reach 56 = .ok (.dup, 1) := by decide +kernel
theorem dX7_reach_57 : decode cX7_reach 57 = .ok (.getfield 41, 3) := by decide +kernel
theorem dX7_reach_60 : decode cX7_reach 60 = .ok (.iconst 1, 1) := by decide +kernel
theorem dX7_reach_61 : decode cX7_reach 61 = .ok (.iadd, 1) := by decide +kernel
theorem dX7_reach_62 : decode cX7_reach 62 = .ok (.putfield 41, 3) := by decide +kernel
theorem dX7_reach_65 : decode cX7_reach 65 = .ok (.return_, 1) := by decide +kernel
theorem dX7_isIn_0 : decode cX7_isIn 0 = .ok (.iload_n 1, 1) := by decide +kernel
theorem dX7_isIn_1 : decode cX7_isIn 1 = .ok (.ifCond .lt 16, 3) := by decide +kernel
theorem dX7_isIn_4 : decode cX7_isIn 4 = .ok (.iload_n 1, 1) := by decide +kernel
theorem dX7_isIn_5 : decode cX7_isIn 5 = .ok (.aload_n 0, 1) := by decide +kernel
theorem dX7_isIn_6 : decode cX7_isIn 6 = .ok (.getfield 32, 3) := by decide +kernel
theorem dX7_isIn_9 : decode cX7_isIn 9 = .ok (.arraylength, 1) := by decide +kernel
theorem dX7_isIn_10 : decode cX7_isIn 10 = .ok (.if_icmp .ge 7, 3) := by decide +kernel
theorem dX7_isIn_13 : decode cX7_isIn 13 = .ok (.iconst 1, 1) := by decide +kernel
theorem dX7_isIn_14 : decode cX7_isIn 14 = .ok (.goto 4, 3) := by decide +kernel
theorem dX7_isIn_17 : decode cX7_isIn 17 = .ok (.iconst 0, 1) := by decide +kernel
theorem dX7_isIn_18 : decode cX7_isIn 18 = .ok (.ireturn, 1) := by decide +kernel
theorem dX7_farTo_0 : decode cX7_farTo 0 = .ok (.aload_n 0, 1) := by decide +kernel
theorem dX7_farTo_1 : decode cX7_farTo 1 = .ok (.iload_n 1, 1) := by decide +kernel
theorem dX7_farTo_2 : decode cX7_farTo 2 = .ok (.invokevirtual 108, 3) := by decide +kernel
theorem dX7_farTo_5 : decode cX7_farTo 5 = .ok (.ifCond .eq 12, 3) := by decide +kernel
theorem dX7_farTo_8 : decode cX7_farTo 8 = .ok (.aload_n 0, 1) := by decide +kernel
theorem dX7_farTo_9 : decode cX7_farTo 9 = .ok (.getfield 32, 3) := by decide +kernel
theorem dX7_farTo_12 : decode cX7_farTo 12 = .ok (.iload_n 1, 1) := by decide +kernel
theorem dX7_farTo_13 : decode cX7_farTo 13 = .ok (.iaload, 1) := by decide +kernel
theorem dX7_farTo_14 : decode cX7_farTo 14 = .ok (.goto 5, 3) := by decide +kernel
theorem dX7_farTo_17 : decode cX7_farTo 17 = .ok (.bipush (-9), 2) := by decide +kernel
theorem dX7_farTo_19 : decode cX7_farTo 19 = .ok (.ireturn, 1) := by decide +kernel
theorem dX7_reached_0 : decode cX7_reached 0 = .ok (.aload_n 0, 1) := by decide +kernel
theorem dX7_reached_1 : decode cX7_reached 1 = .ok (.invokevirtual 112, 3) := by decide +kernel
theorem dX7_reached_4 : decode cX7_reached 4 = .ok (.aload_n 0, 1) := by decide +kernel
theorem dX7_reached_5 : decode cX7_reached 5 = .ok (.getfield 41, 3) := by decide +kernel
theorem dX7_reached_8 : decode cX7_reached 8 = .ok (.ireturn, 1) := by decide +kernel
theorem dX7_farthest_0 : decode cX7_farthest 0 = .ok (.aload_n 0, 1) := by decide +kernel
theorem dX7_farthest_1 : decode cX7_farthest 1 = .ok (.invokevirtual 112, 3) := by decide +kernel
theorem dX7_farthest_4 : decode cX7_farthest 4 = .ok (.aload_n 0, 1) := by decide +kernel
theorem dX7_farthest_5 : decode cX7_farthest 5 = .ok (.getfield 41, 3) := by decide +kernel
theorem dX7_farthest_8 : decode cX7_farthest 8 = .ok (.ifCond .le 33, 3) := by decide +kernel
theorem dX7_farthest_11 : decode cX7_farthest 11 = .ok (.aload_n 0, 1) := by decide +kernel
theorem dX7_farthest_12 : decode cX7_farthest 12 = .ok (.getfield 41, 3) := by decide +kernel
theorem dX7_farthest_15 : decode cX7_farthest 15 = .ok (.aload_n 0, 1) := by decide +kernel
theorem dX7_farthest_16 : decode cX7_farthest 16 = .ok (.getfield 38, 3) := by decide +kernel
theorem dX7_farthest_19 : decode cX7_farthest 19 = .ok (.arraylength, 1) := by decide +kernel
theorem dX7_farthest_20 : decode cX7_farthest 20 = .ok (.if_icmp .gt 21, 3) := by decide +kernel
theorem dX7_farthest_23 : decode cX7_farthest 23 = .ok (.aload_n 0, 1) := by decide +kernel
theorem dX7_farthest_24 : decode cX7_farthest 24 = .ok (.aload_n 0, 1) := by decide +kernel
theorem dX7_farthest_25 : decode cX7_farthest 25 = .ok (.getfield 38, 3) := by decide +kernel
theorem dX7_farthest_28 : decode cX7_farthest 28 = .ok (.aload_n 0, 1) := by decide +kernel
theorem dX7_farthest_29 : decode cX7_farthest 29 = .ok (.getfield 41, 3) := by decide +kernel
theorem dX7_farthest_32 : decode cX7_farthest 32 = .ok (.iconst 1, 1) := by decide +kernel
theorem dX7_farthest_33 : decode cX7_farthest 33 = .ok (.isub, 1) := by decide +kernel
theorem dX7_farthest_34 : decode cX7_farthest 34 = .ok (.iaload, 1) := by decide +kernel
theorem dX7_farthest_35 : decode cX7_farthest 35 = .ok (.invokevirtual 95, 3) := by decide +kernel
theorem dX7_farthest_38 : decode cX7_farthest 38 = .ok (.goto 4, 3) := by decide +kernel
theorem dX7_farthest_41 : decode cX7_farthest 41 = .ok (.iconst 0, 1) := by decide +kernel
theorem dX7_farthest_42 : decode cX7_farthest 42 = .ok (.ireturn, 1) := by decide +kernel
theorem dX7_firstHome_0 : decode cX7_firstHome 0 = .ok (.aload_n 0, 1) := by decide +kernel
theorem dX7_firstHome_1 : decode cX7_firstHome 1 = .ok (.invokevirtual 112, 3) := by decide +kernel
theorem dX7_firstHome_4 : decode cX7_firstHome 4 = .ok (.iconst 0, 1) := by decide +kernel
theorem dX7_firstHome_5 : decode cX7_firstHome 5 = .ok (.istore_n 1, 1) := by decide +kernel
theorem dX7_firstHome_6 : decode cX7_firstHome 6 = .ok (.iload_n 1, 1) := by decide +kernel
theorem dX7_firstHome_7 : decode cX7_firstHome 7 = .ok (.aload_n 0, 1) := by decide +kernel
theorem dX7_firstHome_8 : decode cX7_firstHome 8 = .ok (.getfield 41, 3) := by decide +kernel
theorem dX7_firstHome_11 : decode cX7_firstHome 11 = .ok (.if_icmp .ge 41, 3) := by decide +kernel
theorem dX7_firstHome_14 : decode cX7_firstHome 14 = .ok (.iload_n 1, 1) := by decide +kernel
theorem dX7_firstHome_15 : decode cX7_firstHome 15 = .ok (.aload_n 0, 1) := by decide +kernel
theorem dX7_firstHome_16 : decode cX7_firstHome 16 = .ok (.getfield 38, 3) := by decide +kernel
theorem dX7_firstHome_19 : decode cX7_firstHome 19 = .ok (.arraylength, 1) := by decide +kernel
theorem dX7_firstHome_20 : decode cX7_firstHome 20 = .ok (.if_icmp .ge 32, 3) := by decide +kernel
theorem dX7_firstHome_23 : decode cX7_firstHome 23 = .ok (.aload_n 0, 1) := by decide +kernel
theorem dX7_firstHome_24 : decode cX7_firstHome 24 = .ok (.getfield 59, 3) := by decide +kernel
theorem dX7_firstHome_27 : decode cX7_firstHome 27 = .ok (.aload_n 0, 1) := by decide +kernel
theorem dX7_firstHome_28 : decode cX7_firstHome 28 = .ok (.getfield 38, 3) := by decide +kernel
theorem dX7_firstHome_31 : decode cX7_firstHome 31 = .ok (.iload_n 1, 1) := by decide +kernel
theorem dX7_firstHome_32 : decode cX7_firstHome 32 = .ok (.iaload, 1) := by decide +kernel
theorem dX7_firstHome_33 : decode cX7_firstHome 33 = .ok (.invokevirtual 115, 3) := by decide +kernel
theorem dX7_firstHome_36 : decode cX7_firstHome 36 = .ok (.ifCond .eq 10, 3) := by decide +kernel
theorem dX7_firstHome_39 : decode cX7_firstHome 39 = .ok (.aload_n 0, 1) := by decide +kernel
theorem dX7_firstHome_40 : decode cX7_firstHome 40 = .ok (.getfield 38, 3) := by decide +kernel
theorem dX7_firstHome_43 : decode cX7_firstHome 43 = .ok (.iload_n 1, 1) := by decide +kernel
theorem dX7_firstHome_44 : decode cX7_firstHome 44 = .ok (.iaload, 1) := by decide +kernel
theorem dX7_firstHome_45 : decode cX7_firstHome 45 = .ok (.ireturn, 1) := by decide +kernel
theorem dX7_firstHome_46 : decode cX7_firstHome 46 = .ok (.iinc 1 1, 3) := by decide +kernel
theorem dX7_firstHome_49 : decode cX7_firstHome 49 = .ok (.goto (-43), 3) := by decide +kernel
theorem dX7_firstHome_52 : decode cX7_firstHome 52 = .ok (.iconst (-1), 1) := by decide +kernel
theorem dX7_firstHome_53 : decode cX7_firstHome 53 = .ok (.ireturn, 1) := by decide +kernel
theorem dX7_homesAsNear_0 : decode cX7_homesAsNear 0 = .ok (.iconst 0, 1) := by decide +kernel
theorem dX7_homesAsNear_1 : decode cX7_homesAsNear 1 = .ok (.istore_n 2, 1) := by decide +kernel
theorem dX7_homesAsNear_2 : decode cX7_homesAsNear 2 = .ok (.iconst 0, 1) := by decide +kernel
theorem dX7_homesAsNear_3 : decode cX7_homesAsNear 3 = .ok (.istore_n 3, 1) := by decide +kernel
theorem dX7_homesAsNear_4 : decode cX7_homesAsNear 4 = .ok (.iload_n 3, 1) := by decide +kernel
theorem dX7_homesAsNear_5 : decode cX7_homesAsNear 5 = .ok (.aload_n 0, 1) := by decide +kernel
theorem dX7_homesAsNear_6 : decode cX7_homesAsNear 6 = .ok (.getfield 41, 3) := by decide +kernel
theorem dX7_homesAsNear_9 : decode cX7_homesAsNear 9 = .ok (.if_icmp .ge 55, 3) := by decide +kernel
theorem dX7_homesAsNear_12 : decode cX7_homesAsNear 12 = .ok (.iload_n 3, 1) := by decide +kernel
theorem dX7_homesAsNear_13 : decode cX7_homesAsNear 13 = .ok (.aload_n 0, 1) := by decide +kernel
theorem dX7_homesAsNear_14 : decode cX7_homesAsNear 14 = .ok (.getfield 38, 3) := by decide +kernel
theorem dX7_homesAsNear_17 : decode cX7_homesAsNear 17 = .ok (.arraylength, 1) := by decide +kernel
theorem dX7_homesAsNear_18 : decode cX7_homesAsNear 18 = .ok (.if_icmp .ge 46, 3) := by decide +kernel
theorem dX7_homesAsNear_21 : decode cX7_homesAsNear 21 = .ok (.aload_n 0, 1) := by decide +kernel
theorem dX7_homesAsNear_22 : decode cX7_homesAsNear 22 = .ok (.aload_n 0, 1) := by decide +kernel
theorem dX7_homesAsNear_23 : decode cX7_homesAsNear 23 = .ok (.getfield 38, 3) := by decide +kernel
theorem dX7_homesAsNear_26 : decode cX7_homesAsNear 26 = .ok (.iload_n 3, 1) := by decide +kernel
theorem dX7_homesAsNear_27 : decode cX7_homesAsNear 27 = .ok (.iaload, 1) := by decide +kernel
theorem dX7_homesAsNear_28 : decode cX7_homesAsNear 28 = .ok (.invokevirtual 95, 3) := by decide +kernel
theorem dX7_homesAsNear_31 : decode cX7_homesAsNear 31 = .ok (.aload_n 0, 1) := by decide +kernel
theorem dX7_homesAsNear_32 : decode cX7_homesAsNear 32 = .ok (.iload_n 1, 1) := by decide +kernel
theorem dX7_homesAsNear_33 : decode cX7_homesAsNear 33 = .ok (.invokevirtual 95, 3) := by decide +kernel
theorem dX7_homesAsNear_36 : decode cX7_homesAsNear 36 = .ok (.if_icmp .ne 22, 3) := by decide +kernel
theorem dX7_homesAsNear_39 : decode cX7_homesAsNear 39 = .ok (.aload_n 0, 1) := by decide +kernel
theorem dX7_homesAsNear_40 : decode cX7_homesAsNear 40 = .ok (.getfield 59, 3) := by decide +kernel
theorem dX7_homesAsNear_43 : decode cX7_homesAsNear 43 = .ok (.aload_n 0, 1) := by decide +kernel
theorem dX7_homesAsNear_44 : decode cX7_homesAsNear 44 = .ok (.getfield 38, 3) := by decide +kernel
theorem dX7_homesAsNear_47 : decode cX7_homesAsNear 47 = .ok (.iload_n 3, 1) := by decide +kernel
theorem dX7_homesAsNear_48 : decode cX7_homesAsNear 48 = .ok (.iaload, 1) := by decide +kernel
theorem dX7_homesAsNear_49 : decode cX7_homesAsNear 49 = .ok (.invokevirtual 115, 3) := by decide +kernel
theorem dX7_homesAsNear_52 : decode cX7_homesAsNear 52 = .ok (.ifCond .eq 6, 3) := by decide +kernel
theorem dX7_homesAsNear_55 : decode cX7_homesAsNear 55 = .ok (.iinc 2 1, 3) := by decide +kernel
theorem dX7_homesAsNear_58 : decode cX7_homesAsNear 58 = .ok (.iinc 3 1, 3) := by decide +kernel
theorem dX7_homesAsNear_61 : decode cX7_homesAsNear 61 = .ok (.goto (-57), 3) := by decide +kernel
theorem dX7_homesAsNear_64 : decode cX7_homesAsNear 64 = .ok (.iload_n 2, 1) := by decide +kernel
theorem dX7_homesAsNear_65 : decode cX7_homesAsNear 65 = .ok (.ireturn, 1) := by decide +kernel
theorem dX7_firstWith_0 : decode cX7_firstWith 0 = .ok (.aload_n 0, 1) := by decide +kernel
theorem dX7_firstWith_1 : decode cX7_firstWith 1 = .ok (.invokevirtual 112, 3) := by decide +kernel
theorem dX7_firstWith_4 : decode cX7_firstWith 4 = .ok (.iconst 0, 1) := by decide +kernel
theorem dX7_firstWith_5 : decode cX7_firstWith 5 = .ok (.istore_n 3, 1) := by decide +kernel
theorem dX7_firstWith_6 : decode cX7_firstWith 6 = .ok (.iload_n 3, 1) := by decide +kernel
theorem dX7_firstWith_7 : decode cX7_firstWith 7 = .ok (.aload_n 0, 1) := by decide +kernel
theorem dX7_firstWith_8 : decode cX7_firstWith 8 = .ok (.getfield 41, 3) := by decide +kernel
theorem dX7_firstWith_11 : decode cX7_firstWith 11 = .ok (.if_icmp .ge 39, 3) := by decide +kernel
theorem dX7_firstWith_14 : decode cX7_firstWith 14 = .ok (.iload_n 3, 1) := by decide +kernel
theorem dX7_firstWith_15 : decode cX7_firstWith 15 = .ok (.aload_n 0, 1) := by decide +kernel
theorem dX7_firstWith_16 : decode cX7_firstWith 16 = .ok (.getfield 38, 3) := by decide +kernel
theorem dX7_firstWith_19 : decode cX7_firstWith 19 = .ok (.arraylength, 1) := by decide +kernel
theorem dX7_firstWith_20 : decode cX7_firstWith 20 = .ok (.if_icmp .ge 30, 3) := by decide +kernel
theorem dX7_firstWith_23 : decode cX7_firstWith 23 = .ok (.aload_n 0, 1) := by decide +kernel
theorem dX7_firstWith_24 : decode cX7_firstWith 24 = .ok (.getfield 38, 3) := by decide +kernel
theorem dX7_firstWith_27 : decode cX7_firstWith 27 = .ok (.iload_n 3, 1) := by decide +kernel
theorem dX7_firstWith_28 : decode cX7_firstWith 28 = .ok (.iaload, 1) := by decide +kernel
theorem dX7_firstWith_29 : decode cX7_firstWith 29 = .ok (.iload_n 1, 1) := by decide +kernel
theorem dX7_firstWith_30 : decode cX7_firstWith 30 = .ok (.invokestatic 118, 3) := by decide +kernel
theorem dX7_firstWith_33 : decode cX7_firstWith 33 = .ok (.iload_n 2, 1) := by decide +kernel
theorem dX7_firstWith_34 : decode cX7_firstWith 34 = .ok (.if_icmp .ne 10, 3) := by decide +kernel
theorem dX7_firstWith_37 : decode cX7_firstWith 37 = .ok (.aload_n 0, 1) := by decide +kernel
theorem dX7_firstWith_38 : decode cX7_firstWith 38 = .ok (.getfield 38, 3) := by decide +kernel
theorem dX7_firstWith_41 : decode cX7_firstWith 41 = .ok (.iload_n 3, 1) := by decide +kernel
theorem dX7_firstWith_42 : decode cX7_firstWith 42 = .ok (.iaload, 1) := by decide +kernel
theorem dX7_firstWith_43 : decode cX7_firstWith 43 = .ok (.ireturn, 1) := by decide +kernel
theorem dX7_firstWith_44 : decode cX7_firstWith 44 = .ok (.iinc 3 1, 3) := by decide +kernel
theorem dX7_firstWith_47 : decode cX7_firstWith 47 = .ok (.goto (-41), 3) := by decide +kernel
theorem dX7_firstWith_50 : decode cX7_firstWith 50 = .ok (.iconst (-1), 1) := by decide +kernel
theorem dX7_firstWith_51 : decode cX7_firstWith 51 = .ok (.ireturn, 1) := by decide +kernel
theorem dX7_leastApart_0 : decode cX7_leastApart 0 = .ok (.aload_n 0, 1) := by decide +kernel
theorem dX7_leastApart_1 : decode cX7_leastApart 1 = .ok (.invokevirtual 112, 3) := by decide +kernel
theorem dX7_leastApart_4 : decode cX7_leastApart 4 = .ok (.aload_n 0, 1) := by decide +kernel
theorem dX7_leastApart_5 : decode cX7_leastApart 5 = .ok (.getfield 21, 3) := by decide +kernel
theorem dX7_leastApart_8 : decode cX7_leastApart 8 = .ok (.istore_n 1, 1) := by decide +kernel
theorem dX7_leastApart_9 : decode cX7_leastApart 9 = .ok (.aload_n 0, 1) := by decide +kernel
theorem dX7_leastApart_10 : decode cX7_leastApart 10 = .ok (.getfield 59, 3) := by decide +kernel
theorem dX7_leastApart_13 : decode cX7_leastApart 13 = .ok (.aload_n 0, 1) := by decide +kernel
theorem dX7_leastApart_14 : decode cX7_leastApart 14 = .ok (.getfield 21, 3) := by decide +kernel
theorem dX7_leastApart_17 : decode cX7_leastApart 17 = .ok (.invokevirtual 122, 3) := by decide +kernel
theorem dX7_leastApart_20 : decode cX7_leastApart 20 = .ok (.istore_n 2, 1) := by decide +kernel
theorem dX7_leastApart_21 : decode cX7_leastApart 21 = .ok (.iconst 0, 1) := by decide +kernel
theorem dX7_leastApart_22 : decode cX7_leastApart 22 = .ok (.istore_n 3, 1) := by decide +kernel
theorem dX7_leastApart_23 : decode cX7_leastApart 23 = .ok (.iload_n 3, 1) := by decide +kernel
theorem dX7_leastApart_24 : decode cX7_leastApart 24 = .ok (.aload_n 0, 1) := by decide +kernel
theorem dX7_leastApart_25 : decode cX7_leastApart 25 = .ok (.getfield 41, 3) := by decide +kernel
theorem dX7_leastApart_28 : decode cX7_leastApart 28 = .ok (.if_icmp .ge 49, 3) := by decide +kernel
theorem dX7_leastApart_31 : decode cX7_leastApart 31 = .ok (.iload_n 3, 1) := by decide +kernel
theorem dX7_leastApart_32 : decode cX7_leastApart 32 = .ok (.aload_n 0, 1) := by decide +kernel
theorem dX7_leastApart_33 : decode cX7_leastApart 33 = .ok (.getfield 38, 3) := by decide +kernel
theorem dX7_leastApart_36 : decode cX7_leastApart 36 = .ok (.arraylength, 1) := by decide +kernel
theorem dX7_leastApart_37 : decode cX7_leastApart 37 = .ok (.if_icmp .ge 40, 3) := by decide +kernel
theorem dX7_leastApart_40 : decode cX7_leastApart 40 = .ok (.aload_n 0, 1) := by decide +kernel
theorem dX7_leastApart_41 : decode cX7_leastApart 41 = .ok (.getfield 59, 3) := by decide +kernel
theorem dX7_leastApart_44 : decode cX7_leastApart 44 = .ok (.aload_n 0, 1) := by decide +kernel
theorem dX7_leastApart_45 : decode cX7_leastApart 45 = .ok (.getfield 38, 3) := by decide +kernel
theorem dX7_leastApart_48 : decode cX7_leastApart 48 = .ok (.iload_n 3, 1) := by decide +kernel
theorem dX7_leastApart_49 : decode cX7_leastApart 49 = .ok (.iaload, 1) := by decide +kernel
theorem dX7_leastApart_50 : decode cX7_leastApart 50 = .ok (.invokevirtual 122, 3) := by decide +kernel
theorem dX7_leastApart_53 : decode cX7_leastApart 53 = .ok (.istore 4, 2) := by decide +kernel
theorem dX7_leastApart_55 : decode cX7_leastApart 55 = .ok (.iload 4, 2) := by decide +kernel
theorem dX7_leastApart_57 : decode cX7_leastApart 57 = .ok (.iload_n 2, 1) := by decide +kernel
theorem dX7_leastApart_58 : decode cX7_leastApart 58 = .ok (.if_icmp .ge 13, 3) := by decide +kernel
theorem dX7_leastApart_61 : decode cX7_leastApart 61 = .ok (.iload 4, 2) := by decide +kernel
theorem dX7_leastApart_63 : decode cX7_leastApart 63 = .ok (.istore_n 2, 1) := by decide +kernel
theorem dX7_leastApart_64 : decode cX7_leastApart 64 = .ok (.aload_n 0, 1) := by decide +kernel
theorem dX7_leastApart_65 : decode cX7_leastApart 65 = .ok (.getfield 38, 3) := by decide +kernel
theorem dX7_leastApart_68 : decode cX7_leastApart 68 = .ok (.iload_n 3, 1) := by decide +kernel
theorem dX7_leastApart_69 : decode cX7_leastApart 69 = .ok (.iaload, 1) := by decide +kernel
theorem dX7_leastApart_70 : decode cX7_leastApart 70 = .ok (.istore_n 1, 1) := by decide +kernel
theorem dX7_leastApart_71 : decode cX7_leastApart 71 = .ok (.iinc 3 1, 3) := by decide +kernel
theorem dX7_leastApart_74 : decode cX7_leastApart 74 = .ok (.goto (-51), 3) := by decide +kernel
theorem dX7_leastApart_77 : decode cX7_leastApart 77 = .ok (.iload_n 1, 1) := by decide +kernel
theorem dX7_leastApart_78 : decode cX7_leastApart 78 = .ok (.ireturn, 1) := by decide +kernel
theorem dX7_layWay_0 : decode cX7_layWay 0 = .ok (.iload_n 1, 1) := by decide +kernel
