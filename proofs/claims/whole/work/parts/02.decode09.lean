theorem dX12_where_21 : decode cX12_where 21 = .ok (.istore_n 3, 1) := by decide +kernel
theorem dX12_where_22 : decode cX12_where 22 = .ok (.iload_n 3, 1) := by decide +kernel
theorem dX12_where_23 : decode cX12_where 23 = .ok (.aload_n 0, 1) := by decide +kernel
theorem dX12_where_24 : decode cX12_where 24 = .ok (.getfield 178, 3) := by decide +kernel
theorem dX12_where_27 : decode cX12_where 27 = .ok (.if_icmp .ge 52, 3) := by decide +kernel
theorem dX12_where_30 : decode cX12_where 30 = .ok (.aload_n 0, 1) := by decide +kernel
theorem dX12_where_31 : decode cX12_where 31 = .ok (.getfield 13, 3) := by decide +kernel
theorem dX12_where_34 : decode cX12_where 34 = .ok (.bipush 60, 2) := by decide +kernel
theorem dX12_where_36 : decode cX12_where 36 = .ok (.iload_n 1, 1) := by decide +kernel
theorem dX12_where_37 : decode cX12_where 37 = .ok (.imul, 1) := by decide +kernel
theorem dX12_where_38 : decode cX12_where 38 = .ok (.iload_n 3, 1) := by decide +kernel
theorem dX12_where_39 : decode cX12_where 39 = .ok (.iadd, 1) := by decide +kernel
theorem dX12_where_40 : decode cX12_where 40 = .ok (.aload_n 0, 1) := by decide +kernel
theorem dX12_where_41 : decode cX12_where 41 = .ok (.getfield 184, 3) := by decide +kernel
theorem dX12_where_44 : decode cX12_where 44 = .ok (.iload_n 3, 1) := by decide +kernel
theorem dX12_where_45 : decode cX12_where 45 = .ok (.invokestatic 219, 3) := by decide +kernel
theorem dX12_where_48 : decode cX12_where 48 = .ok (.invokestatic 225, 3) := by decide +kernel
theorem dX12_where_51 : decode cX12_where 51 = .ok (.iastore, 1) := by decide +kernel
theorem dX12_where_52 : decode cX12_where 52 = .ok (.iload_n 2, 1) := by decide +kernel
theorem dX12_where_53 : decode cX12_where 53 = .ok (.aload_n 0, 1) := by decide +kernel
theorem dX12_where_54 : decode cX12_where 54 = .ok (.getfield 184, 3) := by decide +kernel
theorem dX12_where_57 : decode cX12_where 57 = .ok (.iload_n 3, 1) := by decide +kernel
theorem dX12_where_58 : decode cX12_where 58 = .ok (.invokestatic 219, 3) := by decide +kernel
theorem dX12_where_61 : decode cX12_where 61 = .ok (.bipush 7, 2) := by decide +kernel
theorem dX12_where_63 : decode cX12_where 63 = .ok (.if_icmp .ne 7, 3) := by decide +kernel
theorem dX12_where_66 : decode cX12_where 66 = .ok (.iconst 1, 1) := by decide +kernel
theorem dX12_where_67 : decode cX12_where 67 = .ok (.goto 4, 3) := by decide +kernel
theorem dX12_where_70 : decode cX12_where 70 = .ok (.iconst 0, 1) := by decide +kernel
theorem dX12_where_71 : decode cX12_where 71 = .ok (.iadd, 1) := by decide +kernel
theorem dX12_where_72 : decode cX12_where 72 = .ok (.istore_n 2, 1) := by decide +kernel
theorem dX12_where_73 : decode cX12_where 73 = .ok (.iinc 3 1, 3) := by decide +kernel
theorem dX12_where_76 : decode cX12_where 76 = .ok (.goto (-54), 3) := by decide +kernel
theorem dX12_where_79 : decode cX12_where 79 = .ok (.iload_n 2, 1) := by decide +kernel
theorem dX12_where_80 : decode cX12_where 80 = .ok (.ireturn, 1) := by decide +kernel
theorem dX12_isHome_0 : decode cX12_isHome 0 = .ok (.aload_n 0, 1) := by decide +kernel
theorem dX12_isHome_1 : decode cX12_isHome 1 = .ok (.iload_n 2, 1) := by decide +kernel
theorem dX12_isHome_2 : decode cX12_isHome 2 = .ok (.invokevirtual 193, 3) := by decide +kernel
theorem dX12_isHome_5 : decode cX12_isHome 5 = .ok (.ifCond .lt 20, 3) := by decide +kernel
theorem dX12_isHome_8 : decode cX12_isHome 8 = .ok (.iload_n 1, 1) := by decide +kernel
theorem dX12_isHome_9 : decode cX12_isHome 9 = .ok (.iload_n 2, 1) := by decide +kernel
theorem dX12_isHome_10 : decode cX12_isHome 10 = .ok (.invokestatic 219, 3) := by decide +kernel
theorem dX12_isHome_13 : decode cX12_isHome 13 = .ok (.aload_n 0, 1) := by decide +kernel
theorem dX12_isHome_14 : decode cX12_isHome 14 = .ok (.iload_n 2, 1) := by decide +kernel
theorem dX12_isHome_15 : decode cX12_isHome 15 = .ok (.invokevirtual 193, 3) := by decide +kernel
theorem dX12_isHome_18 : decode cX12_isHome 18 = .ok (.if_icmp .ne 7, 3) := by decide +kernel
theorem dX12_isHome_21 : decode cX12_isHome 21 = .ok (.iconst 1, 1) := by decide +kernel
theorem dX12_isHome_22 : decode cX12_isHome 22 = .ok (.goto 4, 3) := by decide +kernel
theorem dX12_isHome_25 : decode cX12_isHome 25 = .ok (.iconst 0, 1) := by decide +kernel
theorem dX12_isHome_26 : decode cX12_isHome 26 = .ok (.ireturn, 1) := by decide +kernel
theorem dX12_apart_0 : decode cX12_apart 0 = .ok (.aload_n 0, 1) := by decide +kernel
theorem dX12_apart_1 : decode cX12_apart 1 = .ok (.iconst 0, 1) := by decide +kernel
theorem dX12_apart_2 : decode cX12_apart 2 = .ok (.putfield 104, 3) := by decide +kernel
theorem dX12_apart_5 : decode cX12_apart 5 = .ok (.iconst 0, 1) := by decide +kernel
theorem dX12_apart_6 : decode cX12_apart 6 = .ok (.istore_n 1, 1) := by decide +kernel
theorem dX12_apart_7 : decode cX12_apart 7 = .ok (.iload_n 1, 1) := by decide +kernel
theorem dX12_apart_8 : decode cX12_apart 8 = .ok (.aload_n 0, 1) := by decide +kernel
theorem dX12_apart_9 : decode cX12_apart 9 = .ok (.getfield 178, 3) := by decide +kernel
theorem dX12_apart_12 : decode cX12_apart 12 = .ok (.if_icmp .ge 35, 3) := by decide +kernel
theorem dX12_apart_15 : decode cX12_apart 15 = .ok (.aload_n 0, 1) := by decide +kernel
theorem dX12_apart_16 : decode cX12_apart 16 = .ok (.dup, 1) := by decide +kernel
theorem dX12_apart_17 : decode cX12_apart 17 = .ok (.getfield 104, 3) := by decide +kernel
theorem dX12_apart_20 : decode cX12_apart 20 = .ok (.aload_n 0, 1) := by decide +kernel
theorem dX12_apart_21 : decode cX12_apart 21 = .ok (.aload_n 0, 1) := by decide +kernel
theorem dX12_apart_22 : decode cX12_apart 22 = .ok (.getfield 184, 3) := by decide +kernel
theorem dX12_apart_25 : decode cX12_apart 25 = .ok (.iload_n 1, 1) := by decide +kernel
theorem dX12_apart_26 : decode cX12_apart 26 = .ok (.invokevirtual 247, 3) := by decide +kernel
theorem dX12_apart_29 : decode cX12_apart 29 = .ok (.ifCond .eq 7, 3) := by decide +kernel
theorem dX12_apart_32 : decode cX12_apart 32 = .ok (.iconst 1, 1) := by decide +kernel
theorem dX12_apart_33 : decode cX12_apart 33 = .ok (.goto 4, 3) := by decide +kernel
theorem dX12_apart_36 : decode cX12_apart 36 = .ok (.iconst 0, 1) := by decide +kernel
theorem dX12_apart_37 : decode cX12_apart 37 = .ok (.iadd, 1) := by decide +kernel
theorem dX12_apart_38 : decode cX12_apart 38 = .ok (.putfield 104, 3) := by decide +kernel
theorem dX12_apart_41 : decode cX12_apart 41 = .ok (.iinc 1 1, 3) := by decide +kernel
theorem dX12_apart_44 : decode cX12_apart 44 = .ok (.goto (-37), 3) := by decide +kernel
theorem dX12_apart_47 : decode cX12_apart 47 = .ok (.aload_n 0, 1) := by decide +kernel
theorem dX12_apart_48 : decode cX12_apart 48 = .ok (.aload_n 0, 1) := by decide +kernel
theorem dX12_apart_49 : decode cX12_apart 49 = .ok (.getfield 184, 3) := by decide +kernel
theorem dX12_apart_52 : decode cX12_apart 52 = .ok (.invokevirtual 244, 3) := by decide +kernel
theorem dX12_apart_55 : decode cX12_apart 55 = .ok (.ireturn, 1) := by decide +kernel
theorem dX12_keep_0 : decode cX12_keep 0 = .ok (.iload_n 1, 1) := by decide +kernel
theorem dX12_keep_1 : decode cX12_keep 1 = .ok (.i2l, 1) := by decide +kernel
theorem dX12_keep_2 : decode cX12_keep 2 = .ok (.lconst 0, 1) := by decide +kernel
theorem dX12_keep_3 : decode cX12_keep 3 = .ok (.ldc2_w 239, 3) := by decide +kernel
theorem dX12_keep_6 : decode cX12_keep 6 = .ok (.invokestatic 109, 3) := by decide +kernel
theorem dX12_keep_9 : decode cX12_keep 9 = .ok (.ifCond .ne 5, 3) := by decide +kernel
theorem dX12_keep_12 : decode cX12_keep 12 = .ok (.iconst (-1), 1) := by decide +kernel
theorem dX12_keep_13 : decode cX12_keep 13 = .ok (.ireturn, 1) := by decide +kernel
theorem dX12_keep_14 : decode cX12_keep 14 = .ok (.aload_n 0, 1) := by decide +kernel
theorem dX12_keep_15 : decode cX12_keep 15 = .ok (.getfield 175, 3) := by decide +kernel
theorem dX12_keep_18 : decode cX12_keep 18 = .ok (.ifCond .ne 6, 3) := by decide +kernel
theorem dX12_keep_21 : decode cX12_keep 21 = .ok (.bipush (-4), 2) := by decide +kernel
theorem dX12_keep_23 : decode cX12_keep 23 = .ok (.ireturn, 1) := by decide +kernel
theorem dX12_keep_24 : decode cX12_keep 24 = .ok (.aload_n 0, 1) := by decide +kernel
theorem dX12_keep_25 : decode cX12_keep 25 = .ok (.getfield 59, 3) := by decide +kernel
theorem dX12_keep_28 : decode cX12_keep 28 = .ok (.iload_n 1, 1) := by decide +kernel
theorem dX12_keep_29 : decode cX12_keep 29 = .ok (.aload_n 0, 1) := by decide +kernel
theorem dX12_keep_30 : decode cX12_keep 30 = .ok (.getfield 184, 3) := by decide +kernel
theorem dX12_keep_33 : decode cX12_keep 33 = .ok (.iastore, 1) := by decide +kernel
theorem dX12_keep_34 : decode cX12_keep 34 = .ok (.aload_n 0, 1) := by decide +kernel
theorem dX12_keep_35 : decode cX12_keep 35 = .ok (.getfield 62, 3) := by decide +kernel
theorem dX12_keep_38 : decode cX12_keep 38 = .ok (.iload_n 1, 1) := by decide +kernel
theorem dX12_keep_39 : decode cX12_keep 39 = .ok (.aload_n 0, 1) := by decide +kernel
theorem dX12_keep_40 : decode cX12_keep 40 = .ok (.getfield 187, 3) := by decide +kernel
theorem dX12_keep_43 : decode cX12_keep 43 = .ok (.iastore, 1) := by decide +kernel
theorem dX12_keep_44 : decode cX12_keep 44 = .ok (.aload_n 0, 1) := by decide +kernel
theorem dX12_keep_45 : decode cX12_keep 45 = .ok (.getfield 172, 3) := by decide +kernel
theorem dX12_keep_48 : decode cX12_keep 48 = .ok (.ireturn, 1) := by decide +kernel
theorem dX12_on_0 : decode cX12_on 0 = .ok (.iload_n 1, 1) := by decide +kernel
theorem dX12_on_1 : decode cX12_on 1 = .ok (.i2l, 1) := by decide +kernel
theorem dX12_on_2 : decode cX12_on 2 = .ok (.lconst 0, 1) := by decide +kernel
theorem dX12_on_3 : decode cX12_on 3 = .ok (.ldc2_w 239, 3) := by decide +kernel
theorem dX12_on_6 : decode cX12_on 6 = .ok (.invokestatic 109, 3) := by decide +kernel
theorem dX12_on_9 : decode cX12_on 9 = .ok (.ifCond .ne 5, 3) := by decide +kernel
theorem dX12_on_12 : decode cX12_on 12 = .ok (.iconst (-1), 1) := by decide +kernel
theorem dX12_on_13 : decode cX12_on 13 = .ok (.ireturn, 1) := by decide +kernel
theorem dX12_on_14 : decode cX12_on 14 = .ok (.aload_n 0, 1) := by decide +kernel
theorem dX12_on_15 : decode cX12_on 15 = .ok (.getfield 59, 3) := by decide +kernel
theorem dX12_on_18 : decode cX12_on 18 = .ok (.iload_n 1, 1) := by decide +kernel
theorem dX12_on_19 : decode cX12_on 19 = .ok (.iaload, 1) := by decide +kernel
theorem dX12_on_20 : decode cX12_on 20 = .ok (.ifCond .ge 9, 3) := by decide +kernel
theorem dX12_on_23 : decode cX12_on 23 = .ok (.aload_n 0, 1) := by decide +kernel
theorem dX12_on_24 : decode cX12_on 24 = .ok (.iconst 1, 1) := by decide +kernel
theorem dX12_on_25 : decode cX12_on 25 = .ok (.invokevirtual 119, 3) := by decide +kernel
theorem dX12_on_28 : decode cX12_on 28 = .ok (.ireturn, 1) := by decide +kernel
theorem dX12_on_29 : decode cX12_on 29 = .ok (.aload_n 0, 1) := by decide +kernel
theorem dX12_on_30 : decode cX12_on 30 = .ok (.aload_n 0, 1) := by decide +kernel
theorem dX12_on_31 : decode cX12_on 31 = .ok (.getfield 59, 3) := by decide +kernel
theorem dX12_on_34 : decode cX12_on 34 = .ok (.iload_n 1, 1) := by decide +kernel
theorem dX12_on_35 : decode cX12_on 35 = .ok (.iaload, 1) := by decide +kernel
theorem dX12_on_36 : decode cX12_on 36 = .ok (.putfield 184, 3) := by decide +kernel
theorem dX12_on_39 : decode cX12_on 39 = .ok (.aload_n 0, 1) := by decide +kernel
theorem dX12_on_40 : decode cX12_on 40 = .ok (.aload_n 0, 1) := by decide +kernel
theorem dX12_on_41 : decode cX12_on 41 = .ok (.getfield 62, 3) := by decide +kernel
theorem dX12_on_44 : decode cX12_on 44 = .ok (.iload_n 1, 1) := by decide +kernel
theorem dX12_on_45 : decode cX12_on 45 = .ok (.iaload, 1) := by decide +kernel
theorem dX12_on_46 : decode cX12_on 46 = .ok (.putfield 187, 3) := by decide +kernel
theorem dX12_on_49 : decode cX12_on 49 = .ok (.aload_n 0, 1) := by decide +kernel
theorem dX12_on_50 : decode cX12_on 50 = .ok (.invokevirtual 190, 3) := by decide +kernel
theorem dX12_on_53 : decode cX12_on 53 = .ok (.iconst 1, 1) := by decide +kernel
theorem dX12_on_54 : decode cX12_on 54 = .ok (.ireturn, 1) := by decide +kernel
theorem dX12_seen_0 : decode cX12_seen 0 = .ok (.iconst 0, 1) := by decide +kernel
theorem dX12_seen_1 : decode cX12_seen 1 = .ok (.istore_n 3, 1) := by decide +kernel
theorem dX12_seen_2 : decode cX12_seen 2 = .ok (.iconst 0, 1) := by decide +kernel
theorem dX12_seen_3 : decode cX12_seen 3 = .ok (.istore 4, 2) := by decide +kernel
theorem dX12_seen_5 : decode cX12_seen 5 = .ok (.iload 4, 2) := by decide +kernel
theorem dX12_seen_7 : decode cX12_seen 7 = .ok (.aload_n 0, 1) := by decide +kernel
theorem dX12_seen_8 : decode cX12_seen 8 = .ok (.getfield 178, 3) := by decide +kernel
theorem dX12_seen_11 : decode cX12_seen 11 = .ok (.if_icmp .ge 42, 3) := by decide +kernel
theorem dX12_seen_14 : decode cX12_seen 14 = .ok (.iload_n 1, 1) := by decide +kernel
theorem dX12_seen_15 : decode cX12_seen 15 = .ok (.iload 4, 2) := by decide +kernel
theorem dX12_seen_17 : decode cX12_seen 17 = .ok (.invokestatic 219, 3) := by decide +kernel
theorem dX12_seen_20 : decode cX12_seen 20 = .ok (.iload_n 2, 1) := by decide +kernel
theorem dX12_seen_21 : decode cX12_seen 21 = .ok (.if_icmp .ne 26, 3) := by decide +kernel
theorem dX12_seen_24 : decode cX12_seen 24 = .ok (.iload_n 3, 1) := by decide +kernel
theorem dX12_seen_25 : decode cX12_seen 25 = .ok (.ifCond .eq 14, 3) := by decide +kernel
theorem dX12_seen_28 : decode cX12_seen 28 = .ok (.aload_n 0, 1) := by decide +kernel
theorem dX12_seen_29 : decode cX12_seen 29 = .ok (.getfield 29, 3) := by decide +kernel
theorem dX12_seen_32 : decode cX12_seen 32 = .ok (.iload 4, 2) := by decide +kernel
theorem dX12_seen_34 : decode cX12_seen 34 = .ok (.iaload, 1) := by decide +kernel
theorem dX12_seen_35 : decode cX12_seen 35 = .ok (.iload_n 3, 1) := by decide +kernel
theorem dX12_seen_36 : decode cX12_seen 36 = .ok (.if_icmp .ge 11, 3) := by decide +kernel
theorem dX12_seen_39 : decode cX12_seen 39 = .ok (.aload_n 0, 1) := by decide +kernel
theorem dX12_seen_40 : decode cX12_seen 40 = .ok (.getfield 29, 3) := by decide +kernel
theorem dX12_seen_43 : decode cX12_seen 43 = .ok (.iload 4, 2) := by decide +kernel
theorem dX12_seen_45 : decode cX12_seen 45 = .ok (.iaload, 1) := by decide +kernel
theorem dX12_seen_46 : decode cX12_seen 46 = .ok (.istore_n 3, 1) := by decide +kernel
theorem dX12_seen_47 : decode cX12_seen 47 = .ok (.iinc 4 1, 3) := by decide +kernel
theorem dX12_seen_50 : decode cX12_seen 50 = .ok (.goto (-45), 3) := by decide +kernel
theorem dX12_seen_53 : decode cX12_seen 53 = .ok (.iload_n 3, 1) := by decide +kernel
theorem dX12_seen_54 : decode cX12_seen 54 = .ok (.ireturn, 1) := by decide +kernel
theorem dX12_sees_0 : decode cX12_sees 0 = .ok (.aload_n 0, 1) := by decide +kernel
theorem dX12_sees_1 : decode cX12_sees 1 = .ok (.iload_n 1, 1) := by decide +kernel
theorem dX12_sees_2 : decode cX12_sees 2 = .ok (.invokevirtual 250, 3) := by decide +kernel
theorem dX12_sees_5 : decode cX12_sees 5 = .ok (.ifCond .ne 5, 3) := by decide +kernel
theorem dX12_sees_8 : decode cX12_sees 8 = .ok (.iconst (-1), 1) := by decide +kernel
theorem dX12_sees_9 : decode cX12_sees 9 = .ok (.ireturn, 1) := by decide +kernel
theorem dX12_sees_10 : decode cX12_sees 10 = .ok (.aload_n 0, 1) := by decide +kernel
theorem dX12_sees_11 : decode cX12_sees 11 = .ok (.iconst 0, 1) := by decide +kernel
theorem dX12_sees_12 : decode cX12_sees 12 = .ok (.putfield 104, 3) := by decide +kernel
theorem dX12_sees_15 : decode cX12_sees 15 = .ok (.iconst 0, 1) := by decide +kernel
theorem dX12_sees_16 : decode cX12_sees 16 = .ok (.istore_n 2, 1) := by decide +kernel
theorem dX12_sees_17 : decode cX12_sees 17 = .ok (.iload_n 2, 1) := by decide +kernel
theorem dX12_sees_18 : decode cX12_sees 18 = .ok (.aload_n 0, 1) := by decide +kernel
theorem dX12_sees_19 : decode cX12_sees 19 = .ok (.getfield 178, 3) := by decide +kernel
theorem dX12_sees_22 : decode cX12_sees 22 = .ok (.if_icmp .ge 35, 3) := by decide +kernel
theorem dX12_sees_25 : decode cX12_sees 25 = .ok (.aload_n 0, 1) := by decide +kernel
theorem dX12_sees_26 : decode cX12_sees 26 = .ok (.dup, 1) := by decide +kernel
theorem dX12_sees_27 : decode cX12_sees 27 = .ok (.getfield 104, 3) := by decide +kernel
theorem dX12_sees_30 : decode cX12_sees 30 = .ok (.aload_n 0, 1) := by decide +kernel
theorem dX12_sees_31 : decode cX12_sees 31 = .ok (.getfield 184, 3) := by decide +kernel
theorem dX12_sees_34 : decode cX12_sees 34 = .ok (.iload_n 2, 1) := by decide +kernel
theorem dX12_sees_35 : decode cX12_sees 35 = .ok (.invokestatic 219, 3) := by decide +kernel
theorem dX12_sees_38 : decode cX12_sees 38 = .ok (.iload_n 1, 1) := by decide +kernel
theorem dX12_sees_39 : decode cX12_sees 39 = .ok (.if_icmp .ne 7, 3) := by decide +kernel
theorem dX12_sees_42 : decode cX12_sees 42 = .ok (.iconst 1, 1) := by decide +kernel
theorem dX12_sees_43 : decode cX12_sees 43 = .ok (.goto 4, 3) := by decide +kernel
theorem dX12_sees_46 : decode cX12_sees 46 = .ok (.iconst 0, 1) := by decide +kernel
theorem dX12_sees_47 : decode cX12_sees 47 = .ok (.iadd, 1) := by decide +kernel
theorem dX12_sees_48 : decode cX12_sees 48 = .ok (.putfield 104, 3) := by decide +kernel
theorem dX12_sees_51 : decode cX12_sees 51 = .ok (.iinc 2 1, 3) := by decide +kernel
theorem dX12_sees_54 : decode cX12_sees 54 = .ok (.goto (-37), 3) := by decide +kernel
theorem dX12_sees_57 : decode cX12_sees 57 = .ok (.aload_n 0, 1) := by decide +kernel
theorem dX12_sees_58 : decode cX12_sees 58 = .ok (.aload_n 0, 1) := by decide +kernel
theorem dX12_sees_59 : decode cX12_sees 59 = .ok (.getfield 184, 3) := by decide +kernel
theorem dX12_sees_62 : decode cX12_sees 62 = .ok (.iload_n 1, 1) := by decide +kernel
theorem dX12_sees_63 : decode cX12_sees 63 = .ok (.invokevirtual 253, 3) := by decide +kernel
theorem dX12_sees_66 : decode cX12_sees 66 = .ok (.ireturn, 1) := by decide +kernel
theorem dX12_may_0 : decode cX12_may 0 = .ok (.iload_n 1, 1) := by decide +kernel
theorem dX12_may_1 : decode cX12_may 1 = .ok (.invokestatic 115, 3) := by decide +kernel
theorem dX12_may_4 : decode cX12_may 4 = .ok (.ifCond .ne 5, 3) := by decide +kernel
theorem dX12_may_7 : decode cX12_may 7 = .ok (.iconst (-1), 1) := by decide +kernel
theorem dX12_may_8 : decode cX12_may 8 = .ok (.ireturn, 1) := by decide +kernel
theorem dX12_may_9 : decode cX12_may 9 = .ok (.aload_n 0, 1) := by decide +kernel
theorem dX12_may_10 : decode cX12_may 10 = .ok (.getfield 7, 3) := by decide +kernel
theorem dX12_may_13 : decode cX12_may 13 = .ok (.iload_n 1, 1) := by decide +kernel
theorem dX12_may_14 : decode cX12_may 14 = .ok (.iaload, 1) := by decide +kernel
theorem dX12_may_15 : decode cX12_may 15 = .ok (.istore_n 2, 1) := by decide +kernel
theorem dX12_may_16 : decode cX12_may 16 = .ok (.iload_n 2, 1) := by decide +kernel
theorem dX12_may_17 : decode cX12_may 17 = .ok (.ifCond .ge 9, 3) := by decide +kernel
theorem dX12_may_20 : decode cX12_may 20 = .ok (.aload_n 0, 1) := by decide +kernel
theorem dX12_may_21 : decode cX12_may 21 = .ok (.iconst 1, 1) := by decide +kernel
theorem dX12_may_22 : decode cX12_may 22 = .ok (.invokevirtual 119, 3) := by decide +kernel
theorem dX12_may_25 : decode cX12_may 25 = .ok (.ireturn, 1) := by decide +kernel
theorem dX12_may_26 : decode cX12_may 26 = .ok (.iload_n 2, 1) := by decide +kernel
theorem dX12_may_27 : decode cX12_may 27 = .ok (.ifCond .eq 11, 3) := by decide +kernel
theorem dX12_may_30 : decode cX12_may 30 = .ok (.iload_n 2, 1) := by decide +kernel
theorem dX12_may_31 : decode cX12_may 31 = .ok (.aload_n 0, 1) := by decide +kernel
theorem dX12_may_32 : decode cX12_may 32 = .ok (.getfield 175, 3) := by decide +kernel
theorem dX12_may_35 : decode cX12_may 35 = .ok (.if_icmp .le 9, 3) := by decide +kernel
theorem dX12_may_38 : decode cX12_may 38 = .ok (.aload_n 0, 1) := by decide +kernel
theorem dX12_may_39 : decode cX12_may 39 = .ok (.iconst 5, 1) := by decide +kernel
theorem dX12_may_40 : decode cX12_may 40 = .ok (.invokevirtual 119, 3) := by decide +kernel
theorem dX12_may_43 : decode cX12_may 43 = .ok (.ireturn, 1) := by decide +kernel
theorem dX12_may_44 : decode cX12_may 44 = .ok (.iconst 0, 1) := by decide +kernel
theorem dX12_may_45 : decode cX12_may 45 = .ok (.istore_n 3, 1) := by decide +kernel
theorem dX12_may_46 : decode cX12_may 46 = .ok (.iload_n 3, 1) := by decide +kernel
theorem dX12_may_47 : decode cX12_may 47 = .ok (.iload_n 2, 1) := by decide +kernel
theorem dX12_may_48 : decode cX12_may 48 = .ok (.if_icmp .ge 37, 3) := by decide +kernel
theorem dX12_may_51 : decode cX12_may 51 = .ok (.aload_n 0, 1) := by decide +kernel
theorem dX12_may_52 : decode cX12_may 52 = .ok (.getfield 13, 3) := by decide +kernel
theorem dX12_may_55 : decode cX12_may 55 = .ok (.bipush 60, 2) := by decide +kernel
theorem dX12_may_57 : decode cX12_may 57 = .ok (.iload_n 1, 1) := by decide +kernel
theorem dX12_may_58 : decode cX12_may 58 = .ok (.imul, 1) := by decide +kernel
theorem dX12_may_59 : decode cX12_may 59 = .ok (.iload_n 3, 1) := by decide +kernel
theorem dX12_may_60 : decode cX12_may 60 = .ok (.iadd, 1) := by decide +kernel
theorem dX12_may_61 : decode cX12_may 61 = .ok (.iaload, 1) := by decide +kernel
theorem dX12_may_62 : decode cX12_may 62 = .ok (.i2l, 1) := by decide +kernel
theorem dX12_may_63 : decode cX12_may 63 = .ok (.lconst 0, 1) := by decide +kernel
theorem dX12_may_64 : decode cX12_may 64 = .ok (.ldc2_w 256, 3) := by decide +kernel
theorem dX12_may_67 : decode cX12_may 67 = .ok (.invokestatic 109, 3) := by decide +kernel
theorem dX12_may_70 : decode cX12_may 70 = .ok (.ifCond .ne 9, 3) := by decide +kernel
theorem dX12_may_73 : decode cX12_may 73 = .ok (.aload_n 0, 1) := by decide +kernel
theorem dX12_may_74 : decode cX12_may 74 = .ok (.iconst 3, 1) := by decide +kernel
theorem dX12_may_75 : decode cX12_may 75 = .ok (.invokevirtual 119, 3) := by decide +kernel
theorem dX12_may_78 : decode cX12_may 78 = .ok (.ireturn, 1) := by decide +kernel
theorem dX12_may_79 : decode cX12_may 79 = .ok (.iinc 3 1, 3) := by decide +kernel
theorem dX12_may_82 : decode cX12_may 82 = .ok (.goto (-36), 3) := by decide +kernel
theorem dX12_may_85 : decode cX12_may 85 = .ok (.iconst 0, 1) := by decide +kernel
theorem dX12_may_86 : decode cX12_may 86 = .ok (.istore_n 3, 1) := by decide +kernel
theorem dX12_may_87 : decode cX12_may 87 = .ok (.iconst 0, 1) := by decide +kernel
theorem dX12_may_88 : decode cX12_may 88 = .ok (.istore 4, 2) := by decide +kernel
theorem dX12_may_90 : decode cX12_may 90 = .ok (.iload 4, 2) := by decide +kernel
theorem dX12_may_92 : decode cX12_may 92 = .ok (.iload_n 2, 1) := by decide +kernel
theorem dX12_may_93 : decode cX12_may 93 = .ok (.iadd, 1) := by decide +kernel
theorem dX12_may_94 : decode cX12_may 94 = .ok (.aload_n 0, 1) := by decide +kernel
theorem dX12_may_95 : decode cX12_may 95 = .ok (.getfield 175, 3) := by decide +kernel
theorem dX12_may_98 : decode cX12_may 98 = .ok (.if_icmp .gt 83, 3) := by decide +kernel
theorem dX12_may_101 : decode cX12_may 101 = .ok (.iconst 1, 1) := by decide +kernel
theorem dX12_may_102 : decode cX12_may 102 = .ok (.istore 5, 2) := by decide +kernel
theorem dX12_may_104 : decode cX12_may 104 = .ok (.iconst 0, 1) := by decide +kernel
theorem dX12_may_105 : decode cX12_may 105 = .ok (.istore 6, 2) := by decide +kernel
theorem dX12_may_107 : decode cX12_may 107 = .ok (.iload 6, 2) := by decide +kernel
theorem dX12_may_109 : decode cX12_may 109 = .ok (.iload_n 2, 1) := by decide +kernel
theorem dX12_may_110 : decode cX12_may 110 = .ok (.if_icmp .ge 49, 3) := by decide +kernel
theorem dX12_may_113 : decode cX12_may 113 = .ok (.iload 5, 2) := by decide +kernel
theorem dX12_may_115 : decode cX12_may 115 = .ok (.ifCond .eq 35, 3) := by decide +kernel
theorem dX12_may_118 : decode cX12_may 118 = .ok (.aload_n 0, 1) := by decide +kernel
theorem dX12_may_119 : decode cX12_may 119 = .ok (.aload_n 0, 1) := by decide +kernel
theorem dX12_may_120 : decode cX12_may 120 = .ok (.getfield 184, 3) := by decide +kernel
theorem dX12_may_123 : decode cX12_may 123 = .ok (.iload 4, 2) := by decide +kernel
theorem dX12_may_125 : decode cX12_may 125 = .ok (.iload 6, 2) := by decide +kernel
theorem dX12_may_127 : decode cX12_may 127 = .ok (.iadd, 1) := by decide +kernel
theorem dX12_may_128 : decode cX12_may 128 = .ok (.invokevirtual 253, 3) := by decide +kernel
theorem dX12_may_131 : decode cX12_may 131 = .ok (.aload_n 0, 1) := by decide +kernel
theorem dX12_may_132 : decode cX12_may 132 = .ok (.getfield 13, 3) := by decide +kernel
theorem dX12_may_135 : decode cX12_may 135 = .ok (.bipush 60, 2) := by decide +kernel
theorem dX12_may_137 : decode cX12_may 137 = .ok (.iload_n 1, 1) := by decide +kernel
theorem dX12_may_138 : decode cX12_may 138 = .ok (.imul, 1) := by decide +kernel
theorem dX12_may_139 : decode cX12_may 139 = .ok (.iload 6, 2) := by decide +kernel
theorem dX12_may_141 : decode cX12_may 141 = .ok (.iadd, 1) := by decide +kernel
theorem dX12_may_142 : decode cX12_may 142 = .ok (.iaload, 1) := by decide +kernel
theorem dX12_may_143 : decode cX12_may 143 = .ok (.if_icmp .ne 7, 3) := by decide +kernel
theorem dX12_may_146 : decode cX12_may 146 = .ok (.iconst 1, 1) := by decide +kernel
theorem dX12_may_147 : decode cX12_may 147 = .ok (.goto 4, 3) := by decide +kernel
theorem dX12_may_150 : decode cX12_may 150 = .ok (.iconst 0, 1) := by decide +kernel
theorem dX12_may_151 : decode cX12_may 151 = .ok (.istore 5, 2) := by decide +kernel
theorem dX12_may_153 : decode cX12_may 153 = .ok (.iinc 6 1, 3) := by decide +kernel
theorem dX12_may_156 : decode cX12_may 156 = .ok (.goto (-49), 3) := by decide +kernel
theorem dX12_may_159 : decode cX12_may 159 = .ok (.iload_n 3, 1) := by decide +kernel
theorem dX12_may_160 : decode cX12_may 160 = .ok (.iload 5, 2) := by decide +kernel
theorem dX12_may_162 : decode cX12_may 162 = .ok (.ifCond .eq 10, 3) := by decide +kernel
theorem dX12_may_165 : decode cX12_may 165 = .ok (.iconst 1, 1) := by decide +kernel
theorem dX12_may_166 : decode cX12_may 166 = .ok (.iload 4, 2) := by decide +kernel
theorem dX12_may_168 : decode cX12_may 168 = .ok (.ishl, 1) := by decide +kernel
theorem dX12_may_169 : decode cX12_may 169 = .ok (.goto 4, 3) := by decide +kernel
theorem dX12_may_172 : decode cX12_may 172 = .ok (.iconst 0, 1) := by decide +kernel
theorem dX12_may_173 : decode cX12_may 173 = .ok (.ior, 1) := by decide +kernel
theorem dX12_may_174 : decode cX12_may 174 = .ok (.istore_n 3, 1) := by decide +kernel
theorem dX12_may_175 : decode cX12_may 175 = .ok (.iinc 4 1, 3) := by decide +kernel
theorem dX12_may_178 : decode cX12_may 178 = .ok (.goto (-88), 3) := by decide +kernel
theorem dX12_may_181 : decode cX12_may 181 = .ok (.iload_n 3, 1) := by decide +kernel
theorem dX12_may_182 : decode cX12_may 182 = .ok (.ireturn, 1) := by decide +kernel
theorem dX12_power_0 : decode cX12_power 0 = .ok (.iconst 1, 1) := by decide +kernel
theorem dX12_power_1 : decode cX12_power 1 = .ok (.istore_n 2, 1) := by decide +kernel
theorem dX12_power_2 : decode cX12_power 2 = .ok (.iconst 0, 1) := by decide +kernel
theorem dX12_power_3 : decode cX12_power 3 = .ok (.istore_n 3, 1) := by decide +kernel
theorem dX12_power_4 : decode cX12_power 4 = .ok (.iload_n 3, 1) := by decide +kernel
theorem dX12_power_5 : decode cX12_power 5 = .ok (.iload_n 1, 1) := by decide +kernel
theorem dX12_power_6 : decode cX12_power 6 = .ok (.if_icmp .ge 16, 3) := by decide +kernel
theorem dX12_power_9 : decode cX12_power 9 = .ok (.iload_n 2, 1) := by decide +kernel
theorem dX12_power_10 : decode cX12_power 10 = .ok (.aload_n 0, 1) := by decide +kernel
theorem dX12_power_11 : decode cX12_power 11 = .ok (.getfield 181, 3) := by decide +kernel
theorem dX12_power_14 : decode cX12_power 14 = .ok (.imul, 1) := by decide +kernel
theorem dX12_power_15 : decode cX12_power 15 = .ok (.istore_n 2, 1) := by decide +kernel
theorem dX12_power_16 : decode cX12_power 16 = .ok (.iinc 3 1, 3) := by decide +kernel
theorem dX12_power_19 : decode cX12_power 19 = .ok (.goto (-15), 3) := by decide +kernel
theorem dX12_power_22 : decode cX12_power 22 = .ok (.iload_n 2, 1) := by decide +kernel
theorem dX12_power_23 : decode cX12_power 23 = .ok (.ireturn, 1) := by decide +kernel
theorem dX12_behindRow_0 : decode cX12_behindRow 0 = .ok (.aload_n 0, 1) := by decide +kernel
theorem dX12_behindRow_1 : decode cX12_behindRow 1 = .ok (.getfield 184, 3) := by decide +kernel
theorem dX12_behindRow_4 : decode cX12_behindRow 4 = .ok (.istore_n 3, 1) := by decide +kernel
theorem dX12_behindRow_5 : decode cX12_behindRow 5 = .ok (.aload_n 0, 1) := by decide +kernel
theorem dX12_behindRow_6 : decode cX12_behindRow 6 = .ok (.iload_n 1, 1) := by decide +kernel
theorem dX12_behindRow_7 : decode cX12_behindRow 7 = .ok (.invokevirtual 258, 3) := by decide +kernel
theorem dX12_behindRow_10 : decode cX12_behindRow 10 = .ok (.istore 4, 2) := by decide +kernel
theorem dX12_behindRow_12 : decode cX12_behindRow 12 = .ok (.aload_n 0, 1) := by decide +kernel
theorem dX12_behindRow_13 : decode cX12_behindRow 13 = .ok (.iconst 0, 1) := by decide +kernel
theorem dX12_behindRow_14 : decode cX12_behindRow 14 = .ok (.putfield 261, 3) := by decide +kernel
theorem dX12_behindRow_17 : decode cX12_behindRow 17 = .ok (.iconst 0, 1) := by decide +kernel
theorem dX12_behindRow_18 : decode cX12_behindRow 18 = .ok (.istore 5, 2) := by decide +kernel
theorem dX12_behindRow_20 : decode cX12_behindRow 20 = .ok (.iload 5, 2) := by decide +kernel
theorem dX12_behindRow_22 : decode cX12_behindRow 22 = .ok (.iload_n 1, 1) := by decide +kernel
theorem dX12_behindRow_23 : decode cX12_behindRow 23 = .ok (.if_icmp .ge 50, 3) := by decide +kernel
theorem dX12_behindRow_26 : decode cX12_behindRow 26 = .ok (.iload 4, 2) := by decide +kernel
theorem dX12_behindRow_28 : decode cX12_behindRow 28 = .ok (.aload_n 0, 1) := by decide +kernel
theorem dX12_behindRow_29 : decode cX12_behindRow 29 = .ok (.getfield 181, 3) := by decide +kernel
theorem dX12_behindRow_32 : decode cX12_behindRow 32 = .ok (.idiv, 1) := by decide +kernel
theorem dX12_behindRow_33 : decode cX12_behindRow 33 = .ok (.istore 4, 2) := by decide +kernel
theorem dX12_behindRow_35 : decode cX12_behindRow 35 = .ok (.aload_n 0, 1) := by decide +kernel
theorem dX12_behindRow_36 : decode cX12_behindRow 36 = .ok (.iload_n 3, 1) := by decide +kernel
theorem dX12_behindRow_37 : decode cX12_behindRow 37 = .ok (.iload_n 2, 1) := by decide +kernel
theorem dX12_behindRow_38 : decode cX12_behindRow 38 = .ok (.iload 4, 2) := by decide +kernel
theorem dX12_behindRow_40 : decode cX12_behindRow 40 = .ok (.idiv, 1) := by decide +kernel
theorem dX12_behindRow_41 : decode cX12_behindRow 41 = .ok (.aload_n 0, 1) := by decide +kernel
theorem dX12_behindRow_42 : decode cX12_behindRow 42 = .ok (.getfield 181, 3) := by decide +kernel
theorem dX12_behindRow_45 : decode cX12_behindRow 45 = .ok (.irem, 1) := by decide +kernel
theorem dX12_behindRow_46 : decode cX12_behindRow 46 = .ok (.aload_n 0, 1) := by decide +kernel
theorem dX12_behindRow_47 : decode cX12_behindRow 47 = .ok (.getfield 187, 3) := by decide +kernel
theorem dX12_behindRow_50 : decode cX12_behindRow 50 = .ok (.invokevirtual 235, 3) := by decide +kernel
theorem dX12_behindRow_53 : decode cX12_behindRow 53 = .ok (.istore_n 3, 1) := by decide +kernel
theorem dX12_behindRow_54 : decode cX12_behindRow 54 = .ok (.aload_n 0, 1) := by decide +kernel
theorem dX12_behindRow_55 : decode cX12_behindRow 55 = .ok (.dup, 1) := by decide +kernel
theorem dX12_behindRow_56 : decode cX12_behindRow 56 = .ok (.getfield 261, 3) := by decide +kernel
theorem dX12_behindRow_59 : decode cX12_behindRow 59 = .ok (.aload_n 0, 1) := by decide +kernel
theorem dX12_behindRow_60 : decode cX12_behindRow 60 = .ok (.getfield 203, 3) := by decide +kernel
theorem dX12_behindRow_63 : decode cX12_behindRow 63 = .ok (.iadd, 1) := by decide +kernel
theorem dX12_behindRow_64 : decode cX12_behindRow 64 = .ok (.putfield 261, 3) := by decide +kernel
theorem dX12_behindRow_67 : decode cX12_behindRow 67 = .ok (.iinc 5 1, 3) := by decide +kernel
theorem dX12_behindRow_70 : decode cX12_behindRow 70 = .ok (.goto (-50), 3) := by decide +kernel
theorem dX12_behindRow_73 : decode cX12_behindRow 73 = .ok (.iload_n 3, 1) := by decide +kernel
theorem dX12_behindRow_74 : decode cX12_behindRow 74 = .ok (.ireturn, 1) := by decide +kernel
theorem dX12_meets_0 : decode cX12_meets 0 = .ok (.aload_n 0, 1) := by decide +kernel
theorem dX12_meets_1 : decode cX12_meets 1 = .ok (.iconst 0, 1) := by decide +kernel
theorem dX12_meets_2 : decode cX12_meets 2 = .ok (.putfield 264, 3) := by decide +kernel
theorem dX12_meets_5 : decode cX12_meets 5 = .ok (.aload_n 0, 1) := by decide +kernel
theorem dX12_meets_6 : decode cX12_meets 6 = .ok (.iload_n 1, 1) := by decide +kernel
theorem dX12_meets_7 : decode cX12_meets 7 = .ok (.invokevirtual 258, 3) := by decide +kernel
theorem dX12_meets_10 : decode cX12_meets 10 = .ok (.istore_n 2, 1) := by decide +kernel
theorem dX12_meets_11 : decode cX12_meets 11 = .ok (.iconst 0, 1) := by decide +kernel
theorem dX12_meets_12 : decode cX12_meets 12 = .ok (.istore_n 3, 1) := by decide +kernel
theorem dX12_meets_13 : decode cX12_meets 13 = .ok (.iload_n 3, 1) := by decide +kernel
theorem dX12_meets_14 : decode cX12_meets 14 = .ok (.iload_n 2, 1) := by decide +kernel
theorem dX12_meets_15 : decode cX12_meets 15 = .ok (.if_icmp .ge 88, 3) := by decide +kernel
theorem dX12_meets_18 : decode cX12_meets 18 = .ok (.aload_n 0, 1) := by decide +kernel
theorem dX12_meets_19 : decode cX12_meets 19 = .ok (.iload_n 1, 1) := by decide +kernel
theorem dX12_meets_20 : decode cX12_meets 20 = .ok (.iload_n 3, 1) := by decide +kernel
theorem dX12_meets_21 : decode cX12_meets 21 = .ok (.invokevirtual 267, 3) := by decide +kernel
theorem dX12_meets_24 : decode cX12_meets 24 = .ok (.istore 4, 2) := by decide +kernel
theorem dX12_meets_26 : decode cX12_meets 26 = .ok (.iconst 1, 1) := by decide +kernel
theorem dX12_meets_27 : decode cX12_meets 27 = .ok (.istore 5, 2) := by decide +kernel
theorem dX12_meets_29 : decode cX12_meets 29 = .ok (.iconst 0, 1) := by decide +kernel
theorem dX12_meets_30 : decode cX12_meets 30 = .ok (.istore 6, 2) := by decide +kernel
theorem dX12_meets_32 : decode cX12_meets 32 = .ok (.iload 6, 2) := by decide +kernel
theorem dX12_meets_34 : decode cX12_meets 34 = .ok (.aload_n 0, 1) := by decide +kernel
theorem dX12_meets_35 : decode cX12_meets 35 = .ok (.getfield 264, 3) := by decide +kernel
theorem dX12_meets_38 : decode cX12_meets 38 = .ok (.if_icmp .ge 33, 3) := by decide +kernel
theorem dX12_meets_41 : decode cX12_meets 41 = .ok (.iload 5, 2) := by decide +kernel
theorem dX12_meets_43 : decode cX12_meets 43 = .ok (.ifCond .eq 19, 3) := by decide +kernel
theorem dX12_meets_46 : decode cX12_meets 46 = .ok (.aload_n 0, 1) := by decide +kernel
theorem dX12_meets_47 : decode cX12_meets 47 = .ok (.getfield 86, 3) := by decide +kernel
theorem dX12_meets_50 : decode cX12_meets 50 = .ok (.iload 6, 2) := by decide +kernel
theorem dX12_meets_52 : decode cX12_meets 52 = .ok (.iaload, 1) := by decide +kernel
theorem dX12_meets_53 : decode cX12_meets 53 = .ok (.iload 4, 2) := by decide +kernel
theorem dX12_meets_55 : decode cX12_meets 55 = .ok (.if_icmp .eq 7, 3) := by decide +kernel
theorem dX12_meets_58 : decode cX12_meets 58 = .ok (.iconst 1, 1) := by decide +kernel
theorem dX12_meets_59 : decode cX12_meets 59 = .ok (.goto 4, 3) := by decide +kernel
theorem dX12_meets_62 : decode cX12_meets 62 = .ok (.iconst 0, 1) := by decide +kernel
theorem dX12_meets_63 : decode cX12_meets 63 = .ok (.istore 5, 2) := by decide +kernel
theorem dX12_meets_65 : decode cX12_meets 65 = .ok (.iinc 6 1, 3) := by decide +kernel
theorem dX12_meets_68 : decode cX12_meets 68 = .ok (.goto (-36), 3) := by decide +kernel
theorem dX12_meets_71 : decode cX12_meets 71 = .ok (.iload 5, 2) := by decide +kernel
theorem dX12_meets_73 : decode cX12_meets 73 = .ok (.ifCond .eq 24, 3) := by decide +kernel
theorem dX12_meets_76 : decode cX12_meets 76 = .ok (.aload_n 0, 1) := by decide +kernel
theorem dX12_meets_77 : decode cX12_meets 77 = .ok (.getfield 86, 3) := by decide +kernel
theorem dX12_meets_80 : decode cX12_meets 80 = .ok (.aload_n 0, 1) := by decide +kernel
theorem dX12_meets_81 : decode cX12_meets 81 = .ok (.getfield 264, 3) := by decide +kernel
theorem dX12_meets_84 : decode cX12_meets 84 = .ok (.iload 4, 2) := by decide +kernel
theorem dX12_meets_86 : decode cX12_meets 86 = .ok (.iastore, 1) := by decide +kernel
theorem dX12_meets_87 : decode cX12_meets 87 = .ok (.aload_n 0, 1) := by decide +kernel
theorem dX12_meets_88 : decode cX12_meets 88 = .ok (.dup, 1) := by decide +kernel
theorem dX12_meets_89 : decode cX12_meets 89 = .ok (.getfield 264, 3) := by decide +kernel
theorem dX12_meets_92 : decode cX12_meets 92 = .ok (.iconst 1, 1) := by decide +kernel
theorem dX12_meets_93 : decode cX12_meets 93 = .ok (.iadd, 1) := by decide +kernel
theorem dX12_meets_94 : decode cX12_meets 94 = .ok (.putfield 264, 3) := by decide +kernel
theorem dX12_meets_97 : decode cX12_meets 97 = .ok (.iinc 3 1, 3) := by decide +kernel
theorem dX12_meets_100 : decode cX12_meets 100 = .ok (.goto (-87), 3) := by decide +kernel
theorem dX12_meets_103 : decode cX12_meets 103 = .ok (.return_, 1) := by decide +kernel
theorem dX12_standings_0 : decode cX12_standings 0 = .ok (.iload_n 1, 1) := by decide +kernel
theorem dX12_standings_1 : decode cX12_standings 1 = .ok (.i2l, 1) := by decide +kernel
theorem dX12_standings_2 : decode cX12_standings 2 = .ok (.lconst 0, 1) := by decide +kernel
theorem dX12_standings_3 : decode cX12_standings 3 = .ok (.ldc2_w 113, 3) := by decide +kernel
theorem dX12_standings_6 : decode cX12_standings 6 = .ok (.invokestatic 109, 3) := by decide +kernel
theorem dX12_standings_9 : decode cX12_standings 9 = .ok (.ifCond .eq 11, 3) := by decide +kernel
theorem dX12_standings_12 : decode cX12_standings 12 = .ok (.aload_n 0, 1) := by decide +kernel
theorem dX12_standings_13 : decode cX12_standings 13 = .ok (.iload_n 2, 1) := by decide +kernel
theorem dX12_standings_14 : decode cX12_standings 14 = .ok (.invokevirtual 250, 3) := by decide +kernel
theorem dX12_standings_17 : decode cX12_standings 17 = .ok (.ifCond .ne 5, 3) := by decide +kernel
theorem dX12_standings_20 : decode cX12_standings 20 = .ok (.iconst (-1), 1) := by decide +kernel
theorem dX12_standings_21 : decode cX12_standings 21 = .ok (.ireturn, 1) := by decide +kernel
theorem dX12_standings_22 : decode cX12_standings 22 = .ok (.aload_n 0, 1) := by decide +kernel
theorem dX12_standings_23 : decode cX12_standings 23 = .ok (.iload_n 1, 1) := by decide +kernel
theorem dX12_standings_24 : decode cX12_standings 24 = .ok (.invokevirtual 270, 3) := by decide +kernel
theorem dX12_standings_27 : decode cX12_standings 27 = .ok (.aload_n 0, 1) := by decide +kernel
theorem dX12_standings_28 : decode cX12_standings 28 = .ok (.iconst 0, 1) := by decide +kernel
theorem dX12_standings_29 : decode cX12_standings 29 = .ok (.putfield 104, 3) := by decide +kernel
theorem dX12_standings_32 : decode cX12_standings 32 = .ok (.iconst 0, 1) := by decide +kernel
theorem dX12_standings_33 : decode cX12_standings 33 = .ok (.istore_n 3, 1) := by decide +kernel
theorem dX12_standings_34 : decode cX12_standings 34 = .ok (.iload_n 3, 1) := by decide +kernel
theorem dX12_standings_35 : decode cX12_standings 35 = .ok (.aload_n 0, 1) := by decide +kernel
theorem dX12_standings_36 : decode cX12_standings 36 = .ok (.getfield 264, 3) := by decide +kernel
theorem dX12_standings_39 : decode cX12_standings 39 = .ok (.if_icmp .ge 46, 3) := by decide +kernel
theorem dX12_standings_42 : decode cX12_standings 42 = .ok (.aload_n 0, 1) := by decide +kernel
theorem dX12_standings_43 : decode cX12_standings 43 = .ok (.dup, 1) := by decide +kernel
theorem dX12_standings_44 : decode cX12_standings 44 = .ok (.getfield 104, 3) := by decide +kernel
theorem dX12_standings_47 : decode cX12_standings 47 = .ok (.aload_n 0, 1) := by decide +kernel
theorem dX12_standings_48 : decode cX12_standings 48 = .ok (.aload_n 0, 1) := by decide +kernel
theorem dX12_standings_49 : decode cX12_standings 49 = .ok (.getfield 86, 3) := by decide +kernel
theorem dX12_standings_52 : decode cX12_standings 52 = .ok (.iload_n 3, 1) := by decide +kernel
theorem dX12_standings_53 : decode cX12_standings 53 = .ok (.iaload, 1) := by decide +kernel
theorem dX12_standings_54 : decode cX12_standings 54 = .ok (.iload_n 2, 1) := by decide +kernel
theorem dX12_standings_55 : decode cX12_standings 55 = .ok (.invokevirtual 253, 3) := by decide +kernel
theorem dX12_standings_58 : decode cX12_standings 58 = .ok (.aload_n 0, 1) := by decide +kernel
theorem dX12_standings_59 : decode cX12_standings 59 = .ok (.aload_n 0, 1) := by decide +kernel
theorem dX12_standings_60 : decode cX12_standings 60 = .ok (.getfield 184, 3) := by decide +kernel
theorem dX12_standings_63 : decode cX12_standings 63 = .ok (.iload_n 2, 1) := by decide +kernel
theorem dX12_standings_64 : decode cX12_standings 64 = .ok (.invokevirtual 253, 3) := by decide +kernel
theorem dX12_standings_67 : decode cX12_standings 67 = .ok (.if_icmp .ne 7, 3) := by decide +kernel
theorem dX12_standings_70 : decode cX12_standings 70 = .ok (.iconst 1, 1) := by decide +kernel
theorem dX12_standings_71 : decode cX12_standings 71 = .ok (.goto 4, 3) := by decide +kernel
theorem dX12_standings_74 : decode cX12_standings 74 = .ok (.iconst 0, 1) := by decide +kernel
theorem dX12_standings_75 : decode cX12_standings 75 = .ok (.iadd, 1) := by decide +kernel
theorem dX12_standings_76 : decode cX12_standings 76 = .ok (.putfield 104, 3) := by decide +kernel
theorem dX12_standings_79 : decode cX12_standings 79 = .ok (.iinc 3 1, 3) := by decide +kernel
theorem dX12_standings_82 : decode cX12_standings 82 = .ok (.goto (-48), 3) := by decide +kernel
theorem dX12_standings_85 : decode cX12_standings 85 = .ok (.aload_n 0, 1) := by decide +kernel
theorem dX12_standings_86 : decode cX12_standings 86 = .ok (.getfield 264, 3) := by decide +kernel
theorem dX12_standings_89 : decode cX12_standings 89 = .ok (.ireturn, 1) := by decide +kernel
theorem dX12_look_0 : decode cX12_look 0 = .ok (.iload_n 1, 1) := by decide +kernel
theorem dX12_look_1 : decode cX12_look 1 = .ok (.i2l, 1) := by decide +kernel
theorem dX12_look_2 : decode cX12_look 2 = .ok (.lconst 0, 1) := by decide +kernel
theorem dX12_look_3 : decode cX12_look 3 = .ok (.ldc2_w 113, 3) := by decide +kernel
theorem dX12_look_6 : decode cX12_look 6 = .ok (.invokestatic 109, 3) := by decide +kernel
theorem dX12_look_9 : decode cX12_look 9 = .ok (.ifCond .ne 5, 3) := by decide +kernel
theorem dX12_look_12 : decode cX12_look 12 = .ok (.iconst (-1), 1) := by decide +kernel
theorem dX12_look_13 : decode cX12_look 13 = .ok (.ireturn, 1) := by decide +kernel
theorem dX12_look_14 : decode cX12_look 14 = .ok (.aload_n 0, 1) := by decide +kernel
theorem dX12_look_15 : decode cX12_look 15 = .ok (.getfield 175, 3) := by decide +kernel
theorem dX12_look_18 : decode cX12_look 18 = .ok (.ifCond .ne 6, 3) := by decide +kernel
theorem dX12_look_21 : decode cX12_look 21 = .ok (.bipush (-4), 2) := by decide +kernel
theorem dX12_look_23 : decode cX12_look 23 = .ok (.ireturn, 1) := by decide +kernel
theorem dX12_look_24 : decode cX12_look 24 = .ok (.aload_n 0, 1) := by decide +kernel
theorem dX12_look_25 : decode cX12_look 25 = .ok (.iload_n 1, 1) := by decide +kernel
theorem dX12_look_26 : decode cX12_look 26 = .ok (.invokevirtual 270, 3) := by decide +kernel
theorem dX12_look_29 : decode cX12_look 29 = .ok (.bipush (-9), 2) := by decide +kernel
theorem dX12_look_31 : decode cX12_look 31 = .ok (.istore_n 2, 1) := by decide +kernel
theorem dX12_look_32 : decode cX12_look 32 = .ok (.iconst 0, 1) := by decide +kernel
theorem dX12_look_33 : decode cX12_look 33 = .ok (.istore_n 3, 1) := by decide +kernel
theorem dX12_look_34 : decode cX12_look 34 = .ok (.iconst 0, 1) := by decide +kernel
theorem dX12_look_35 : decode cX12_look 35 = .ok (.istore 4, 2) := by decide +kernel
theorem dX12_look_37 : decode cX12_look 37 = .ok (.iload 4, 2) := by decide +kernel
theorem dX12_look_39 : decode cX12_look 39 = .ok (.aload_n 0, 1) := by decide +kernel
theorem dX12_look_40 : decode cX12_look 40 = .ok (.getfield 175, 3) := by decide +kernel
theorem dX12_look_43 : decode cX12_look 43 = .ok (.if_icmp .ge 111, 3) := by decide +kernel
theorem dX12_look_46 : decode cX12_look 46 = .ok (.iconst 0, 1) := by decide +kernel
theorem dX12_look_47 : decode cX12_look 47 = .ok (.istore 5, 2) := by decide +kernel
theorem dX12_look_49 : decode cX12_look 49 = .ok (.iconst 0, 1) := by decide +kernel
theorem dX12_look_50 : decode cX12_look 50 = .ok (.istore 6, 2) := by decide +kernel
theorem dX12_look_52 : decode cX12_look 52 = .ok (.iload 6, 2) := by decide +kernel
theorem dX12_look_54 : decode cX12_look 54 = .ok (.bipush 10, 2) := by decide +kernel
theorem dX12_look_56 : decode cX12_look 56 = .ok (.if_icmp .ge 74, 3) := by decide +kernel
theorem dX12_look_59 : decode cX12_look 59 = .ok (.iconst 0, 1) := by decide +kernel
theorem dX12_look_60 : decode cX12_look 60 = .ok (.istore 7, 2) := by decide +kernel
theorem dX12_look_62 : decode cX12_look 62 = .ok (.iconst 0, 1) := by decide +kernel
theorem dX12_look_63 : decode cX12_look 63 = .ok (.istore 8, 2) := by decide +kernel
theorem dX12_look_65 : decode cX12_look 65 = .ok (.iload 8, 2) := by decide +kernel
theorem dX12_look_67 : decode cX12_look 67 = .ok (.aload_n 0, 1) := by decide +kernel
theorem dX12_look_68 : decode cX12_look 68 = .ok (.getfield 264, 3) := by decide +kernel
theorem dX12_look_71 : decode cX12_look 71 = .ok (.if_icmp .ge 37, 3) := by decide +kernel
theorem dX12_look_74 : decode cX12_look 74 = .ok (.iload 7, 2) := by decide +kernel
theorem dX12_look_76 : decode cX12_look 76 = .ok (.aload_n 0, 1) := by decide +kernel
theorem dX12_look_77 : decode cX12_look 77 = .ok (.aload_n 0, 1) := by decide +kernel
theorem dX12_look_78 : decode cX12_look 78 = .ok (.getfield 86, 3) := by decide +kernel
theorem dX12_look_81 : decode cX12_look 81 = .ok (.iload 8, 2) := by decide +kernel
theorem dX12_look_83 : decode cX12_look 83 = .ok (.iaload, 1) := by decide +kernel
theorem dX12_look_84 : decode cX12_look 84 = .ok (.iload 4, 2) := by decide +kernel
theorem dX12_look_86 : decode cX12_look 86 = .ok (.invokevirtual 253, 3) := by decide +kernel
theorem dX12_look_89 : decode cX12_look 89 = .ok (.iload 6, 2) := by decide +kernel
theorem dX12_look_91 : decode cX12_look 91 = .ok (.if_icmp .ne 7, 3) := by decide +kernel
theorem dX12_look_94 : decode cX12_look 94 = .ok (.iconst 1, 1) := by decide +kernel
theorem dX12_look_95 : decode cX12_look 95 = .ok (.goto 4, 3) := by decide +kernel
theorem dX12_look_98 : decode cX12_look 98 = .ok (.iconst 0, 1) := by decide +kernel
theorem dX12_look_99 : decode cX12_look 99 = .ok (.iadd, 1) := by decide +kernel
theorem dX12_look_100 : decode cX12_look 100 = .ok (.istore 7, 2) := by decide +kernel
theorem dX12_look_102 : decode cX12_look 102 = .ok (.iinc 8 1, 3) := by decide +kernel
theorem dX12_look_105 : decode cX12_look 105 = .ok (.goto (-40), 3) := by decide +kernel
theorem dX12_look_108 : decode cX12_look 108 = .ok (.iload 7, 2) := by decide +kernel
theorem dX12_look_110 : decode cX12_look 110 = .ok (.iload 5, 2) := by decide +kernel
theorem dX12_look_112 : decode cX12_look 112 = .ok (.if_icmp .le 8, 3) := by decide +kernel
theorem dX12_look_115 : decode cX12_look 115 = .ok (.iload 7, 2) := by decide +kernel
theorem dX12_look_117 : decode cX12_look 117 = .ok (.goto 5, 3) := by decide +kernel
theorem dX12_look_120 : decode cX12_look 120 = .ok (.iload 5, 2) := by decide +kernel
theorem dX12_look_122 : decode cX12_look 122 = .ok (.istore 5, 2) := by decide +kernel
theorem dX12_look_124 : decode cX12_look 124 = .ok (.iinc 6 1, 3) := by decide +kernel
theorem dX12_look_127 : decode cX12_look 127 = .ok (.goto (-75), 3) := by decide +kernel
theorem dX12_look_130 : decode cX12_look 130 = .ok (.iload_n 2, 1) := by decide +kernel
theorem dX12_look_131 : decode cX12_look 131 = .ok (.bipush (-9), 2) := by decide +kernel
theorem dX12_look_133 : decode cX12_look 133 = .ok (.if_icmp .eq 9, 3) := by decide +kernel
theorem dX12_look_136 : decode cX12_look 136 = .ok (.iload 5, 2) := by decide +kernel
theorem dX12_look_138 : decode cX12_look 138 = .ok (.iload_n 3, 1) := by decide +kernel
theorem dX12_look_139 : decode cX12_look 139 = .ok (.if_icmp .ge 9, 3) := by decide +kernel
theorem dX12_look_142 : decode cX12_look 142 = .ok (.iload 4, 2) := by decide +kernel
theorem dX12_look_144 : decode cX12_look 144 = .ok (.istore_n 2, 1) := by decide +kernel
theorem dX12_look_145 : decode cX12_look 145 = .ok (.iload 5, 2) := by decide +kernel
theorem dX12_look_147 : decode cX12_look 147 = .ok (.istore_n 3, 1) := by decide +kernel
theorem dX12_look_148 : decode cX12_look 148 = .ok (.iinc 4 1, 3) := by decide +kernel
theorem dX12_look_151 : decode cX12_look 151 = .ok (.goto (-114), 3) := by decide +kernel
theorem dX12_look_154 : decode cX12_look 154 = .ok (.aload_n 0, 1) := by decide +kernel
theorem dX12_look_155 : decode cX12_look 155 = .ok (.iload_n 3, 1) := by decide +kernel
theorem dX12_look_156 : decode cX12_look 156 = .ok (.putfield 104, 3) := by decide +kernel
theorem dX12_look_159 : decode cX12_look 159 = .ok (.iload_n 2, 1) := by decide +kernel
theorem dX12_look_160 : decode cX12_look 160 = .ok (.ireturn, 1) := by decide +kernel
theorem dX12_goesOut_0 : decode cX12_goesOut 0 = .ok (.iconst 0, 1) := by decide +kernel
theorem dX12_goesOut_1 : decode cX12_goesOut 1 = .ok (.istore_n 2, 1) := by decide +kernel
theorem dX12_goesOut_2 : decode cX12_goesOut 2 = .ok (.iload_n 2, 1) := by decide +kernel
theorem dX12_goesOut_3 : decode cX12_goesOut 3 = .ok (.ldc 89, 2) := by decide +kernel
theorem dX12_goesOut_5 : decode cX12_goesOut 5 = .ok (.if_icmp .ge 16, 3) := by decide +kernel
theorem dX12_goesOut_8 : decode cX12_goesOut 8 = .ok (.aload_n 0, 1) := by decide +kernel
theorem dX12_goesOut_9 : decode cX12_goesOut 9 = .ok (.getfield 93, 3) := by decide +kernel
theorem dX12_goesOut_12 : decode cX12_goesOut 12 = .ok (.iload_n 2, 1) := by decide +kernel
theorem dX12_goesOut_13 : decode cX12_goesOut 13 = .ok (.iconst (-1), 1) := by decide +kernel
theorem dX12_goesOut_14 : decode cX12_goesOut 14 = .ok (.iastore, 1) := by decide +kernel
theorem dX12_goesOut_15 : decode cX12_goesOut 15 = .ok (.iinc 2 1, 3) := by decide +kernel
theorem dX12_goesOut_18 : decode cX12_goesOut 18 = .ok (.goto (-16), 3) := by decide +kernel
theorem dX12_goesOut_21 : decode cX12_goesOut 21 = .ok (.aload_n 0, 1) := by decide +kernel
theorem dX12_goesOut_22 : decode cX12_goesOut 22 = .ok (.getfield 90, 3) := by decide +kernel
theorem dX12_goesOut_25 : decode cX12_goesOut 25 = .ok (.iconst 0, 1) := by decide +kernel
theorem dX12_goesOut_26 : decode cX12_goesOut 26 = .ok (.aload_n 0, 1) := by decide +kernel
theorem dX12_goesOut_27 : decode cX12_goesOut 27 = .ok (.getfield 184, 3) := by decide +kernel
theorem dX12_goesOut_30 : decode cX12_goesOut 30 = .ok (.iastore, 1) := by decide +kernel
theorem dX12_goesOut_31 : decode cX12_goesOut 31 = .ok (.aload_n 0, 1) := by decide +kernel
theorem dX12_goesOut_32 : decode cX12_goesOut 32 = .ok (.getfield 93, 3) := by decide +kernel
theorem dX12_goesOut_35 : decode cX12_goesOut 35 = .ok (.aload_n 0, 1) := by decide +kernel
theorem dX12_goesOut_36 : decode cX12_goesOut 36 = .ok (.getfield 184, 3) := by decide +kernel
theorem dX12_goesOut_39 : decode cX12_goesOut 39 = .ok (.iconst 0, 1) := by decide +kernel
theorem dX12_goesOut_40 : decode cX12_goesOut 40 = .ok (.iastore, 1) := by decide +kernel
theorem dX12_goesOut_41 : decode cX12_goesOut 41 = .ok (.aload_n 0, 1) := by decide +kernel
theorem dX12_goesOut_42 : decode cX12_goesOut 42 = .ok (.iconst 1, 1) := by decide +kernel
theorem dX12_goesOut_43 : decode cX12_goesOut 43 = .ok (.putfield 273, 3) := by decide +kernel
theorem dX12_goesOut_46 : decode cX12_goesOut 46 = .ok (.iconst 0, 1) := by decide +kernel
theorem dX12_goesOut_47 : decode cX12_goesOut 47 = .ok (.istore_n 2, 1) := by decide +kernel
theorem dX12_goesOut_48 : decode cX12_goesOut 48 = .ok (.iload_n 2, 1) := by decide +kernel
theorem dX12_goesOut_49 : decode cX12_goesOut 49 = .ok (.aload_n 0, 1) := by decide +kernel
theorem dX12_goesOut_50 : decode cX12_goesOut 50 = .ok (.getfield 273, 3) := by decide +kernel
theorem dX12_goesOut_53 : decode cX12_goesOut 53 = .ok (.if_icmp .ge 90, 3) := by decide +kernel
theorem dX12_goesOut_56 : decode cX12_goesOut 56 = .ok (.aload_n 0, 1) := by decide +kernel
theorem dX12_goesOut_57 : decode cX12_goesOut 57 = .ok (.getfield 90, 3) := by decide +kernel
theorem dX12_goesOut_60 : decode cX12_goesOut 60 = .ok (.iload_n 2, 1) := by decide +kernel
theorem dX12_goesOut_61 : decode cX12_goesOut 61 = .ok (.iaload, 1) := by decide +kernel
theorem dX12_goesOut_62 : decode cX12_goesOut 62 = .ok (.istore_n 3, 1) := by decide +kernel
theorem dX12_goesOut_63 : decode cX12_goesOut 63 = .ok (.iconst 0, 1) := by decide +kernel
theorem dX12_goesOut_64 : decode cX12_goesOut 64 = .ok (.istore 4, 2) := by decide +kernel
theorem dX12_goesOut_66 : decode cX12_goesOut 66 = .ok (.iload 4, 2) := by decide +kernel
theorem dX12_goesOut_68 : decode cX12_goesOut 68 = .ok (.aload_n 0, 1) := by decide +kernel
theorem dX12_goesOut_69 : decode cX12_goesOut 69 = .ok (.getfield 181, 3) := by decide +kernel
theorem dX12_goesOut_72 : decode cX12_goesOut 72 = .ok (.if_icmp .ge 65, 3) := by decide +kernel
theorem dX12_goesOut_75 : decode cX12_goesOut 75 = .ok (.aload_n 0, 1) := by decide +kernel
theorem dX12_goesOut_76 : decode cX12_goesOut 76 = .ok (.iload_n 3, 1) := by decide +kernel
theorem dX12_goesOut_77 : decode cX12_goesOut 77 = .ok (.iload 4, 2) := by decide +kernel
theorem dX12_goesOut_79 : decode cX12_goesOut 79 = .ok (.iload_n 1, 1) := by decide +kernel
theorem dX12_goesOut_80 : decode cX12_goesOut 80 = .ok (.invokevirtual 235, 3) := by decide +kernel
theorem dX12_goesOut_83 : decode cX12_goesOut 83 = .ok (.istore 5, 2) := by decide +kernel
theorem dX12_goesOut_85 : decode cX12_goesOut 85 = .ok (.aload_n 0, 1) := by decide +kernel
theorem dX12_goesOut_86 : decode cX12_goesOut 86 = .ok (.getfield 93, 3) := by decide +kernel
theorem dX12_goesOut_89 : decode cX12_goesOut 89 = .ok (.iload 5, 2) := by decide +kernel
theorem dX12_goesOut_91 : decode cX12_goesOut 91 = .ok (.iaload, 1) := by decide +kernel
theorem dX12_goesOut_92 : decode cX12_goesOut 92 = .ok (.ifCond .ge 39, 3) := by decide +kernel
theorem dX12_goesOut_95 : decode cX12_goesOut 95 = .ok (.aload_n 0, 1) := by decide +kernel
theorem dX12_goesOut_96 : decode cX12_goesOut 96 = .ok (.getfield 93, 3) := by decide +kernel
theorem dX12_goesOut_99 : decode cX12_goesOut 99 = .ok (.iload 5, 2) := by decide +kernel
theorem dX12_goesOut_101 : decode cX12_goesOut 101 = .ok (.aload_n 0, 1) := by decide +kernel
theorem dX12_goesOut_102 : decode cX12_goesOut 102 = .ok (.getfield 93, 3) := by decide +kernel
theorem dX12_goesOut_105 : decode cX12_goesOut 105 = .ok (.iload_n 3, 1) := by decide +kernel
theorem dX12_goesOut_106 : decode cX12_goesOut 106 = .ok (.iaload, 1) := by decide +kernel
theorem dX12_goesOut_107 : decode cX12_goesOut 107 = .ok (.iconst 1, 1) := by decide +kernel
theorem dX12_goesOut_108 : decode cX12_goesOut 108 = .ok (.iadd, 1) := by decide +kernel
theorem dX12_goesOut_109 : decode cX12_goesOut 109 = .ok (.iastore, 1) := by decide +kernel
theorem dX12_goesOut_110 : decode cX12_goesOut 110 = .ok (.aload_n 0, 1) := by decide +kernel
theorem dX12_goesOut_111 : decode cX12_goesOut 111 = .ok (.getfield 90, 3) := by decide +kernel
theorem dX12_goesOut_114 : decode cX12_goesOut 114 = .ok (.aload_n 0, 1) := by decide +kernel
theorem dX12_goesOut_115 : decode cX12_goesOut 115 = .ok (.getfield 273, 3) := by decide +kernel
theorem dX12_goesOut_118 : decode cX12_goesOut 118 = .ok (.iload 5, 2) := by decide +kernel
theorem dX12_goesOut_120 : decode cX12_goesOut 120 = .ok (.iastore, 1) := by decide +kernel
theorem dX12_goesOut_121 : decode cX12_goesOut 121 = .ok (.aload_n 0, 1) := by decide +kernel
theorem dX12_goesOut_122 : decode cX12_goesOut 122 = .ok (.dup, 1) := by decide +kernel
theorem dX12_goesOut_123 : decode cX12_goesOut 123 = .ok (.getfield 273, 3) := by decide +kernel
theorem dX12_goesOut_126 : decode cX12_goesOut 126 = .ok (.iconst 1, 1) := by decide +kernel
theorem dX12_goesOut_127 : decode cX12_goesOut 127 = .ok (.iadd, 1) := by decide +kernel
theorem dX12_goesOut_128 : decode cX12_goesOut 128 = .ok (.putfield 273, 3) := by decide +kernel
theorem dX12_goesOut_131 : decode cX12_goesOut 131 = .ok (.iinc 4 1, 3) := by decide +kernel
theorem dX12_goesOut_134 : decode cX12_goesOut 134 = .ok (.goto (-68), 3) := by decide +kernel
theorem dX12_goesOut_137 : decode cX12_goesOut 137 = .ok (.iinc 2 1, 3) := by decide +kernel
theorem dX12_goesOut_140 : decode cX12_goesOut 140 = .ok (.goto (-92), 3) := by decide +kernel
theorem dX12_goesOut_143 : decode cX12_goesOut 143 = .ok (.return_, 1) := by decide +kernel
theorem dX12_isDone_0 : decode cX12_isDone 0 = .ok (.iconst 1, 1) := by decide +kernel
theorem dX12_isDone_1 : decode cX12_isDone 1 = .ok (.istore_n 2, 1) := by decide +kernel
theorem dX12_isDone_2 : decode cX12_isDone 2 = .ok (.iconst 0, 1) := by decide +kernel
theorem dX12_isDone_3 : decode cX12_isDone 3 = .ok (.istore_n 3, 1) := by decide +kernel
theorem dX12_isDone_4 : decode cX12_isDone 4 = .ok (.iload_n 3, 1) := by decide +kernel
theorem dX12_isDone_5 : decode cX12_isDone 5 = .ok (.aload_n 0, 1) := by decide +kernel
theorem dX12_isDone_6 : decode cX12_isDone 6 = .ok (.getfield 178, 3) := by decide +kernel
theorem dX12_isDone_9 : decode cX12_isDone 9 = .ok (.if_icmp .ge 36, 3) := by decide +kernel
theorem dX12_isDone_12 : decode cX12_isDone 12 = .ok (.iload_n 2, 1) := by decide +kernel
theorem dX12_isDone_13 : decode cX12_isDone 13 = .ok (.ifCond .eq 24, 3) := by decide +kernel
theorem dX12_isDone_16 : decode cX12_isDone 16 = .ok (.aload_n 0, 1) := by decide +kernel
theorem dX12_isDone_17 : decode cX12_isDone 17 = .ok (.iload_n 3, 1) := by decide +kernel
theorem dX12_isDone_18 : decode cX12_isDone 18 = .ok (.invokevirtual 193, 3) := by decide +kernel
theorem dX12_isDone_21 : decode cX12_isDone 21 = .ok (.ifCond .lt 12, 3) := by decide +kernel
theorem dX12_isDone_24 : decode cX12_isDone 24 = .ok (.aload_n 0, 1) := by decide +kernel
theorem dX12_isDone_25 : decode cX12_isDone 25 = .ok (.iload_n 1, 1) := by decide +kernel
theorem dX12_isDone_26 : decode cX12_isDone 26 = .ok (.iload_n 3, 1) := by decide +kernel
theorem dX12_isDone_27 : decode cX12_isDone 27 = .ok (.invokevirtual 247, 3) := by decide +kernel
theorem dX12_isDone_30 : decode cX12_isDone 30 = .ok (.ifCond .eq 7, 3) := by decide +kernel
theorem dX12_isDone_33 : decode cX12_isDone 33 = .ok (.iconst 1, 1) := by decide +kernel
theorem dX12_isDone_34 : decode cX12_isDone 34 = .ok (.goto 4, 3) := by decide +kernel
theorem dX12_isDone_37 : decode cX12_isDone 37 = .ok (.iconst 0, 1) := by decide +kernel
theorem dX12_isDone_38 : decode cX12_isDone 38 = .ok (.istore_n 2, 1) := by decide +kernel
theorem dX12_isDone_39 : decode cX12_isDone 39 = .ok (.iinc 3 1, 3) := by decide +kernel
theorem dX12_isDone_42 : decode cX12_isDone 42 = .ok (.goto (-38), 3) := by decide +kernel
theorem dX12_isDone_45 : decode cX12_isDone 45 = .ok (.iload_n 2, 1) := by decide +kernel
theorem dX12_isDone_46 : decode cX12_isDone 46 = .ok (.ireturn, 1) := by decide +kernel
theorem dX12_fewestBy_0 : decode cX12_fewestBy 0 = .ok (.aload_n 0, 1) := by decide +kernel
theorem dX12_fewestBy_1 : decode cX12_fewestBy 1 = .ok (.iload_n 1, 1) := by decide +kernel
theorem dX12_fewestBy_2 : decode cX12_fewestBy 2 = .ok (.invokevirtual 276, 3) := by decide +kernel
theorem dX12_fewestBy_5 : decode cX12_fewestBy 5 = .ok (.bipush (-9), 2) := by decide +kernel
theorem dX12_fewestBy_7 : decode cX12_fewestBy 7 = .ok (.istore_n 2, 1) := by decide +kernel
theorem dX12_fewestBy_8 : decode cX12_fewestBy 8 = .ok (.aload_n 0, 1) := by decide +kernel
theorem dX12_fewestBy_9 : decode cX12_fewestBy 9 = .ok (.iconst 0, 1) := by decide +kernel
theorem dX12_fewestBy_10 : decode cX12_fewestBy 10 = .ok (.putfield 279, 3) := by decide +kernel
theorem dX12_fewestBy_13 : decode cX12_fewestBy 13 = .ok (.iconst 0, 1) := by decide +kernel
theorem dX12_fewestBy_14 : decode cX12_fewestBy 14 = .ok (.istore_n 3, 1) := by decide +kernel
theorem dX12_fewestBy_15 : decode cX12_fewestBy 15 = .ok (.iload_n 3, 1) := by decide +kernel
theorem dX12_fewestBy_16 : decode cX12_fewestBy 16 = .ok (.aload_n 0, 1) := by decide +kernel
theorem dX12_fewestBy_17 : decode cX12_fewestBy 17 = .ok (.getfield 273, 3) := by decide +kernel
theorem dX12_fewestBy_20 : decode cX12_fewestBy 20 = .ok (.if_icmp .ge 65, 3) := by decide +kernel
theorem dX12_fewestBy_23 : decode cX12_fewestBy 23 = .ok (.iload_n 2, 1) := by decide +kernel
theorem dX12_fewestBy_24 : decode cX12_fewestBy 24 = .ok (.bipush (-9), 2) := by decide +kernel
theorem dX12_fewestBy_26 : decode cX12_fewestBy 26 = .ok (.if_icmp .eq 18, 3) := by decide +kernel
theorem dX12_fewestBy_29 : decode cX12_fewestBy 29 = .ok (.aload_n 0, 1) := by decide +kernel
theorem dX12_fewestBy_30 : decode cX12_fewestBy 30 = .ok (.getfield 93, 3) := by decide +kernel
theorem dX12_fewestBy_33 : decode cX12_fewestBy 33 = .ok (.aload_n 0, 1) := by decide +kernel
theorem dX12_fewestBy_34 : decode cX12_fewestBy 34 = .ok (.getfield 90, 3) := by decide +kernel
theorem dX12_fewestBy_37 : decode cX12_fewestBy 37 = .ok (.iload_n 3, 1) := by decide +kernel
theorem dX12_fewestBy_38 : decode cX12_fewestBy 38 = .ok (.iaload, 1) := by decide +kernel
theorem dX12_fewestBy_39 : decode cX12_fewestBy 39 = .ok (.iaload, 1) := by decide +kernel
theorem dX12_fewestBy_40 : decode cX12_fewestBy 40 = .ok (.iload_n 2, 1) := by decide +kernel
theorem dX12_fewestBy_41 : decode cX12_fewestBy 41 = .ok (.if_icmp .ne 44, 3) := by decide +kernel
theorem dX12_fewestBy_44 : decode cX12_fewestBy 44 = .ok (.aload_n 0, 1) := by decide +kernel
theorem dX12_fewestBy_45 : decode cX12_fewestBy 45 = .ok (.aload_n 0, 1) := by decide +kernel
theorem dX12_fewestBy_46 : decode cX12_fewestBy 46 = .ok (.getfield 90, 3) := by decide +kernel
theorem dX12_fewestBy_49 : decode cX12_fewestBy 49 = .ok (.iload_n 3, 1) := by decide +kernel
