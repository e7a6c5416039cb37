theorem dX11_walks_1 : decode cX11_walks 1 = .ok (.aload_n 0, 1) := by decide +kernel
theorem dX11_walks_2 : decode cX11_walks 2 = .ok (.getfield 11, 3) := by decide +kernel
theorem dX11_walks_5 : decode cX11_walks 5 = .ok (.iload_n 1, 1) := by decide +kernel
theorem dX11_walks_6 : decode cX11_walks 6 = .ok (.invokevirtual 107, 3) := by decide +kernel
theorem dX11_walks_9 : decode cX11_walks 9 = .ok (.istore_n 2, 1) := by decide +kernel
theorem dX11_walks_10 : decode cX11_walks 10 = .ok (.iload_n 2, 1) := by decide +kernel
theorem dX11_walks_11 : decode cX11_walks 11 = .ok (.ifCond .eq 5, 3) := by decide +kernel
theorem dX11_walks_14 : decode cX11_walks 14 = .ok (.iload_n 2, 1) := by decide +kernel
theorem dX11_walks_15 : decode cX11_walks 15 = .ok (.ireturn, 1) := by decide +kernel
theorem dX11_walks_16 : decode cX11_walks 16 = .ok (.aload_n 0, 1) := by decide +kernel
theorem dX11_walks_17 : decode cX11_walks 17 = .ok (.getfield 11, 3) := by decide +kernel
theorem dX11_walks_20 : decode cX11_walks 20 = .ok (.iload_n 1, 1) := by decide +kernel
theorem dX11_walks_21 : decode cX11_walks 21 = .ok (.aaload, 1) := by decide +kernel
theorem dX11_walks_22 : decode cX11_walks 22 = .ok (.astore_n 3, 1) := by decide +kernel
theorem dX11_walks_23 : decode cX11_walks 23 = .ok (.iconst 0, 1) := by decide +kernel
theorem dX11_walks_24 : decode cX11_walks 24 = .ok (.istore 4, 2) := by decide +kernel
theorem dX11_walks_26 : decode cX11_walks 26 = .ok (.iload 4, 2) := by decide +kernel
theorem dX11_walks_28 : decode cX11_walks 28 = .ok (.aload_n 3, 1) := by decide +kernel
theorem dX11_walks_29 : decode cX11_walks 29 = .ok (.getfield 130, 3) := by decide +kernel
theorem dX11_walks_32 : decode cX11_walks 32 = .ok (.if_icmp .ge 34, 3) := by decide +kernel
theorem dX11_walks_35 : decode cX11_walks 35 = .ok (.aload_n 3, 1) := by decide +kernel
theorem dX11_walks_36 : decode cX11_walks 36 = .ok (.iload 4, 2) := by decide +kernel
theorem dX11_walks_38 : decode cX11_walks 38 = .ok (.invokevirtual 101, 3) := by decide +kernel
theorem dX11_walks_41 : decode cX11_walks 41 = .ok (.aload_n 0, 1) := by decide +kernel
theorem dX11_walks_42 : decode cX11_walks 42 = .ok (.getfield 60, 3) := by decide +kernel
theorem dX11_walks_45 : decode cX11_walks 45 = .ok (.getfield 153, 3) := by decide +kernel
theorem dX11_walks_48 : decode cX11_walks 48 = .ok (.invokestatic 85, 3) := by decide +kernel
theorem dX11_walks_51 : decode cX11_walks 51 = .ok (.ifCond .ne 9, 3) := by decide +kernel
theorem dX11_walks_54 : decode cX11_walks 54 = .ok (.aload_n 0, 1) := by decide +kernel
theorem dX11_walks_55 : decode cX11_walks 55 = .ok (.iconst 3, 1) := by decide +kernel
theorem dX11_walks_56 : decode cX11_walks 56 = .ok (.invokevirtual 89, 3) := by decide +kernel
theorem dX11_walks_59 : decode cX11_walks 59 = .ok (.ireturn, 1) := by decide +kernel
theorem dX11_walks_60 : decode cX11_walks 60 = .ok (.iinc 4 1, 3) := by decide +kernel
theorem dX11_walks_63 : decode cX11_walks 63 = .ok (.goto (-37), 3) := by decide +kernel
theorem dX11_walks_66 : decode cX11_walks 66 = .ok (.aload_n 0, 1) := by decide +kernel
theorem dX11_walks_67 : decode cX11_walks 67 = .ok (.getfield 41, 3) := by decide +kernel
theorem dX11_walks_70 : decode cX11_walks 70 = .ok (.aload_n 3, 1) := by decide +kernel
theorem dX11_walks_71 : decode cX11_walks 71 = .ok (.getfield 130, 3) := by decide +kernel
theorem dX11_walks_74 : decode cX11_walks 74 = .ok (.iadd, 1) := by decide +kernel
theorem dX11_walks_75 : decode cX11_walks 75 = .ok (.bipush 60, 2) := by decide +kernel
theorem dX11_walks_77 : decode cX11_walks 77 = .ok (.if_icmp .le 6, 3) := by decide +kernel
theorem dX11_walks_80 : decode cX11_walks 80 = .ok (.bipush (-2), 2) := by decide +kernel
theorem dX11_walks_82 : decode cX11_walks 82 = .ok (.ireturn, 1) := by decide +kernel
theorem dX11_walks_83 : decode cX11_walks 83 = .ok (.iconst 0, 1) := by decide +kernel
theorem dX11_walks_84 : decode cX11_walks 84 = .ok (.istore 4, 2) := by decide +kernel
theorem dX11_walks_86 : decode cX11_walks 86 = .ok (.iconst 0, 1) := by decide +kernel
theorem dX11_walks_87 : decode cX11_walks 87 = .ok (.istore 5, 2) := by decide +kernel
theorem dX11_walks_89 : decode cX11_walks 89 = .ok (.iload 5, 2) := by decide +kernel
theorem dX11_walks_91 : decode cX11_walks 91 = .ok (.aload_n 3, 1) := by decide +kernel
theorem dX11_walks_92 : decode cX11_walks 92 = .ok (.getfield 130, 3) := by decide +kernel
theorem dX11_walks_95 : decode cX11_walks 95 = .ok (.if_icmp .ge 24, 3) := by decide +kernel
theorem dX11_walks_98 : decode cX11_walks 98 = .ok (.iload 4, 2) := by decide +kernel
theorem dX11_walks_100 : decode cX11_walks 100 = .ok (.aload_n 0, 1) := by decide +kernel
theorem dX11_walks_101 : decode cX11_walks 101 = .ok (.aload_n 3, 1) := by decide +kernel
theorem dX11_walks_102 : decode cX11_walks 102 = .ok (.iload 5, 2) := by decide +kernel
theorem dX11_walks_104 : decode cX11_walks 104 = .ok (.invokevirtual 101, 3) := by decide +kernel
theorem dX11_walks_107 : decode cX11_walks 107 = .ok (.invokevirtual 172, 3) := by decide +kernel
theorem dX11_walks_110 : decode cX11_walks 110 = .ok (.iadd, 1) := by decide +kernel
theorem dX11_walks_111 : decode cX11_walks 111 = .ok (.istore 4, 2) := by decide +kernel
theorem dX11_walks_113 : decode cX11_walks 113 = .ok (.iinc 5 1, 3) := by decide +kernel
theorem dX11_walks_116 : decode cX11_walks 116 = .ok (.goto (-27), 3) := by decide +kernel
theorem dX11_walks_119 : decode cX11_walks 119 = .ok (.iload 4, 2) := by decide +kernel
theorem dX11_walks_121 : decode cX11_walks 121 = .ok (.ireturn, 1) := by decide +kernel
theorem dX11_where_0 : decode cX11_where 0 = .ok (.iload_n 1, 1) := by decide +kernel
theorem dX11_where_1 : decode cX11_where 1 = .ok (.bipush 6, 2) := by decide +kernel
theorem dX11_where_3 : decode cX11_where 3 = .ok (.invokestatic 85, 3) := by decide +kernel
theorem dX11_where_6 : decode cX11_where 6 = .ok (.ifCond .ne 5, 3) := by decide +kernel
theorem dX11_where_9 : decode cX11_where 9 = .ok (.iconst (-1), 1) := by decide +kernel
theorem dX11_where_10 : decode cX11_where 10 = .ok (.ireturn, 1) := by decide +kernel
theorem dX11_where_11 : decode cX11_where 11 = .ok (.aload_n 0, 1) := by decide +kernel
theorem dX11_where_12 : decode cX11_where 12 = .ok (.getfield 11, 3) := by decide +kernel
theorem dX11_where_15 : decode cX11_where 15 = .ok (.iload_n 1, 1) := by decide +kernel
theorem dX11_where_16 : decode cX11_where 16 = .ok (.aaload, 1) := by decide +kernel
theorem dX11_where_17 : decode cX11_where 17 = .ok (.aload_n 0, 1) := by decide +kernel
theorem dX11_where_18 : decode cX11_where 18 = .ok (.getfield 60, 3) := by decide +kernel
theorem dX11_where_21 : decode cX11_where 21 = .ok (.getfield 146, 3) := by decide +kernel
theorem dX11_where_24 : decode cX11_where 24 = .ok (.iconst 0, 1) := by decide +kernel
theorem dX11_where_25 : decode cX11_where 25 = .ok (.invokevirtual 93, 3) := by decide +kernel
theorem dX11_where_28 : decode cX11_where 28 = .ok (.iconst 0, 1) := by decide +kernel
theorem dX11_where_29 : decode cX11_where 29 = .ok (.istore_n 2, 1) := by decide +kernel
theorem dX11_where_30 : decode cX11_where 30 = .ok (.iload_n 2, 1) := by decide +kernel
theorem dX11_where_31 : decode cX11_where 31 = .ok (.aload_n 0, 1) := by decide +kernel
theorem dX11_where_32 : decode cX11_where 32 = .ok (.getfield 60, 3) := by decide +kernel
theorem dX11_where_35 : decode cX11_where 35 = .ok (.getfield 146, 3) := by decide +kernel
theorem dX11_where_38 : decode cX11_where 38 = .ok (.if_icmp .ge 27, 3) := by decide +kernel
theorem dX11_where_41 : decode cX11_where 41 = .ok (.aload_n 0, 1) := by decide +kernel
theorem dX11_where_42 : decode cX11_where 42 = .ok (.getfield 11, 3) := by decide +kernel
theorem dX11_where_45 : decode cX11_where 45 = .ok (.iload_n 1, 1) := by decide +kernel
theorem dX11_where_46 : decode cX11_where 46 = .ok (.aaload, 1) := by decide +kernel
theorem dX11_where_47 : decode cX11_where 47 = .ok (.iload_n 2, 1) := by decide +kernel
theorem dX11_where_48 : decode cX11_where 48 = .ok (.aload_n 0, 1) := by decide +kernel
theorem dX11_where_49 : decode cX11_where 49 = .ok (.getfield 34, 3) := by decide +kernel
theorem dX11_where_52 : decode cX11_where 52 = .ok (.iload_n 2, 1) := by decide +kernel
theorem dX11_where_53 : decode cX11_where 53 = .ok (.invokestatic 189, 3) := by decide +kernel
theorem dX11_where_56 : decode cX11_where 56 = .ok (.invokevirtual 104, 3) := by decide +kernel
theorem dX11_where_59 : decode cX11_where 59 = .ok (.iinc 2 1, 3) := by decide +kernel
theorem dX11_where_62 : decode cX11_where 62 = .ok (.goto (-32), 3) := by decide +kernel
theorem dX11_where_65 : decode cX11_where 65 = .ok (.aload_n 0, 1) := by decide +kernel
theorem dX11_where_66 : decode cX11_where 66 = .ok (.getfield 60, 3) := by decide +kernel
theorem dX11_where_69 : decode cX11_where 69 = .ok (.aload_n 0, 1) := by decide +kernel
theorem dX11_where_70 : decode cX11_where 70 = .ok (.getfield 34, 3) := by decide +kernel
theorem dX11_where_73 : decode cX11_where 73 = .ok (.invokevirtual 192, 3) := by decide +kernel
theorem dX11_where_76 : decode cX11_where 76 = .ok (.ireturn, 1) := by decide +kernel
theorem dX11_apart_0 : decode cX11_apart 0 = .ok (.aload_n 0, 1) := by decide +kernel
theorem dX11_apart_1 : decode cX11_apart 1 = .ok (.aload_n 0, 1) := by decide +kernel
theorem dX11_apart_2 : decode cX11_apart 2 = .ok (.getfield 60, 3) := by decide +kernel
theorem dX11_apart_5 : decode cX11_apart 5 = .ok (.aload_n 0, 1) := by decide +kernel
theorem dX11_apart_6 : decode cX11_apart 6 = .ok (.getfield 34, 3) := by decide +kernel
theorem dX11_apart_9 : decode cX11_apart 9 = .ok (.invokevirtual 195, 3) := by decide +kernel
theorem dX11_apart_12 : decode cX11_apart 12 = .ok (.putfield 44, 3) := by decide +kernel
theorem dX11_apart_15 : decode cX11_apart 15 = .ok (.aload_n 0, 1) := by decide +kernel
theorem dX11_apart_16 : decode cX11_apart 16 = .ok (.getfield 60, 3) := by decide +kernel
theorem dX11_apart_19 : decode cX11_apart 19 = .ok (.aload_n 0, 1) := by decide +kernel
theorem dX11_apart_20 : decode cX11_apart 20 = .ok (.getfield 34, 3) := by decide +kernel
theorem dX11_apart_23 : decode cX11_apart 23 = .ok (.invokevirtual 180, 3) := by decide +kernel
theorem dX11_apart_26 : decode cX11_apart 26 = .ok (.ireturn, 1) := by decide +kernel
theorem dX11_keep_0 : decode cX11_keep 0 = .ok (.iload_n 1, 1) := by decide +kernel
theorem dX11_keep_1 : decode cX11_keep 1 = .ok (.iconst 3, 1) := by decide +kernel
theorem dX11_keep_2 : decode cX11_keep 2 = .ok (.invokestatic 85, 3) := by decide +kernel
theorem dX11_keep_5 : decode cX11_keep 5 = .ok (.ifCond .ne 5, 3) := by decide +kernel
theorem dX11_keep_8 : decode cX11_keep 8 = .ok (.iconst (-1), 1) := by decide +kernel
theorem dX11_keep_9 : decode cX11_keep 9 = .ok (.ireturn, 1) := by decide +kernel
theorem dX11_keep_10 : decode cX11_keep 10 = .ok (.aload_n 0, 1) := by decide +kernel
theorem dX11_keep_11 : decode cX11_keep 11 = .ok (.getfield 60, 3) := by decide +kernel
theorem dX11_keep_14 : decode cX11_keep 14 = .ok (.getfield 198, 3) := by decide +kernel
theorem dX11_keep_17 : decode cX11_keep 17 = .ok (.ifCond .ne 6, 3) := by decide +kernel
theorem dX11_keep_20 : decode cX11_keep 20 = .ok (.bipush (-4), 2) := by decide +kernel
theorem dX11_keep_22 : decode cX11_keep 22 = .ok (.ireturn, 1) := by decide +kernel
theorem dX11_keep_23 : decode cX11_keep 23 = .ok (.aload_n 0, 1) := by decide +kernel
theorem dX11_keep_24 : decode cX11_keep 24 = .ok (.getfield 24, 3) := by decide +kernel
theorem dX11_keep_27 : decode cX11_keep 27 = .ok (.iload_n 1, 1) := by decide +kernel
theorem dX11_keep_28 : decode cX11_keep 28 = .ok (.aload_n 0, 1) := by decide +kernel
theorem dX11_keep_29 : decode cX11_keep 29 = .ok (.getfield 34, 3) := by decide +kernel
theorem dX11_keep_32 : decode cX11_keep 32 = .ok (.iastore, 1) := by decide +kernel
theorem dX11_keep_33 : decode cX11_keep 33 = .ok (.aload_n 0, 1) := by decide +kernel
theorem dX11_keep_34 : decode cX11_keep 34 = .ok (.getfield 28, 3) := by decide +kernel
theorem dX11_keep_37 : decode cX11_keep 37 = .ok (.iload_n 1, 1) := by decide +kernel
theorem dX11_keep_38 : decode cX11_keep 38 = .ok (.aload_n 0, 1) := by decide +kernel
theorem dX11_keep_39 : decode cX11_keep 39 = .ok (.getfield 38, 3) := by decide +kernel
theorem dX11_keep_42 : decode cX11_keep 42 = .ok (.iastore, 1) := by decide +kernel
theorem dX11_keep_43 : decode cX11_keep 43 = .ok (.aload_n 0, 1) := by decide +kernel
theorem dX11_keep_44 : decode cX11_keep 44 = .ok (.getfield 41, 3) := by decide +kernel
theorem dX11_keep_47 : decode cX11_keep 47 = .ok (.ireturn, 1) := by decide +kernel
theorem dX11_on_0 : decode cX11_on 0 = .ok (.iload_n 1, 1) := by decide +kernel
theorem dX11_on_1 : decode cX11_on 1 = .ok (.iconst 3, 1) := by decide +kernel
theorem dX11_on_2 : decode cX11_on 2 = .ok (.invokestatic 85, 3) := by decide +kernel
theorem dX11_on_5 : decode cX11_on 5 = .ok (.ifCond .ne 5, 3) := by decide +kernel
theorem dX11_on_8 : decode cX11_on 8 = .ok (.iconst (-1), 1) := by decide +kernel
theorem dX11_on_9 : decode cX11_on 9 = .ok (.ireturn, 1) := by decide +kernel
theorem dX11_on_10 : decode cX11_on 10 = .ok (.aload_n 0, 1) := by decide +kernel
theorem dX11_on_11 : decode cX11_on 11 = .ok (.getfield 28, 3) := by decide +kernel
theorem dX11_on_14 : decode cX11_on 14 = .ok (.iload_n 1, 1) := by decide +kernel
theorem dX11_on_15 : decode cX11_on 15 = .ok (.iaload, 1) := by decide +kernel
theorem dX11_on_16 : decode cX11_on 16 = .ok (.bipush (-9), 2) := by decide +kernel
theorem dX11_on_18 : decode cX11_on 18 = .ok (.if_icmp .ne 9, 3) := by decide +kernel
theorem dX11_on_21 : decode cX11_on 21 = .ok (.aload_n 0, 1) := by decide +kernel
theorem dX11_on_22 : decode cX11_on 22 = .ok (.iconst 1, 1) := by decide +kernel
theorem dX11_on_23 : decode cX11_on 23 = .ok (.invokevirtual 89, 3) := by decide +kernel
theorem dX11_on_26 : decode cX11_on 26 = .ok (.ireturn, 1) := by decide +kernel
theorem dX11_on_27 : decode cX11_on 27 = .ok (.aload_n 0, 1) := by decide +kernel
theorem dX11_on_28 : decode cX11_on 28 = .ok (.aload_n 0, 1) := by decide +kernel
theorem dX11_on_29 : decode cX11_on 29 = .ok (.getfield 24, 3) := by decide +kernel
theorem dX11_on_32 : decode cX11_on 32 = .ok (.iload_n 1, 1) := by decide +kernel
theorem dX11_on_33 : decode cX11_on 33 = .ok (.iaload, 1) := by decide +kernel
theorem dX11_on_34 : decode cX11_on 34 = .ok (.putfield 34, 3) := by decide +kernel
theorem dX11_on_37 : decode cX11_on 37 = .ok (.aload_n 0, 1) := by decide +kernel
theorem dX11_on_38 : decode cX11_on 38 = .ok (.aload_n 0, 1) := by decide +kernel
theorem dX11_on_39 : decode cX11_on 39 = .ok (.getfield 28, 3) := by decide +kernel
theorem dX11_on_42 : decode cX11_on 42 = .ok (.iload_n 1, 1) := by decide +kernel
theorem dX11_on_43 : decode cX11_on 43 = .ok (.iaload, 1) := by decide +kernel
theorem dX11_on_44 : decode cX11_on 44 = .ok (.putfield 38, 3) := by decide +kernel
theorem dX11_on_47 : decode cX11_on 47 = .ok (.aload_n 0, 1) := by decide +kernel
theorem dX11_on_48 : decode cX11_on 48 = .ok (.iconst 0, 1) := by decide +kernel
theorem dX11_on_49 : decode cX11_on 49 = .ok (.putfield 41, 3) := by decide +kernel
theorem dX11_on_52 : decode cX11_on 52 = .ok (.iconst 1, 1) := by decide +kernel
theorem dX11_on_53 : decode cX11_on 53 = .ok (.ireturn, 1) := by decide +kernel
theorem dX11_sees_0 : decode cX11_sees 0 = .ok (.iload_n 1, 1) := by decide +kernel
theorem dX11_sees_1 : decode cX11_sees 1 = .ok (.aload_n 0, 1) := by decide +kernel
theorem dX11_sees_2 : decode cX11_sees 2 = .ok (.getfield 60, 3) := by decide +kernel
theorem dX11_sees_5 : decode cX11_sees 5 = .ok (.getfield 198, 3) := by decide +kernel
theorem dX11_sees_8 : decode cX11_sees 8 = .ok (.invokestatic 85, 3) := by decide +kernel
theorem dX11_sees_11 : decode cX11_sees 11 = .ok (.ifCond .ne 5, 3) := by decide +kernel
theorem dX11_sees_14 : decode cX11_sees 14 = .ok (.iconst (-1), 1) := by decide +kernel
theorem dX11_sees_15 : decode cX11_sees 15 = .ok (.ireturn, 1) := by decide +kernel
theorem dX11_sees_16 : decode cX11_sees 16 = .ok (.aload_n 0, 1) := by decide +kernel
theorem dX11_sees_17 : decode cX11_sees 17 = .ok (.aload_n 0, 1) := by decide +kernel
theorem dX11_sees_18 : decode cX11_sees 18 = .ok (.getfield 60, 3) := by decide +kernel
theorem dX11_sees_21 : decode cX11_sees 21 = .ok (.aload_n 0, 1) := by decide +kernel
theorem dX11_sees_22 : decode cX11_sees 22 = .ok (.getfield 34, 3) := by decide +kernel
theorem dX11_sees_25 : decode cX11_sees 25 = .ok (.iload_n 1, 1) := by decide +kernel
theorem dX11_sees_26 : decode cX11_sees 26 = .ok (.invokevirtual 201, 3) := by decide +kernel
theorem dX11_sees_29 : decode cX11_sees 29 = .ok (.putfield 44, 3) := by decide +kernel
theorem dX11_sees_32 : decode cX11_sees 32 = .ok (.aload_n 0, 1) := by decide +kernel
theorem dX11_sees_33 : decode cX11_sees 33 = .ok (.getfield 60, 3) := by decide +kernel
theorem dX11_sees_36 : decode cX11_sees 36 = .ok (.aload_n 0, 1) := by decide +kernel
theorem dX11_sees_37 : decode cX11_sees 37 = .ok (.getfield 34, 3) := by decide +kernel
theorem dX11_sees_40 : decode cX11_sees 40 = .ok (.iload_n 1, 1) := by decide +kernel
theorem dX11_sees_41 : decode cX11_sees 41 = .ok (.invokevirtual 204, 3) := by decide +kernel
theorem dX11_sees_44 : decode cX11_sees 44 = .ok (.ireturn, 1) := by decide +kernel
theorem dX11_may_0 : decode cX11_may 0 = .ok (.aload_n 0, 1) := by decide +kernel
theorem dX11_may_1 : decode cX11_may 1 = .ok (.aload_n 0, 1) := by decide +kernel
theorem dX11_may_2 : decode cX11_may 2 = .ok (.getfield 11, 3) := by decide +kernel
theorem dX11_may_5 : decode cX11_may 5 = .ok (.iload_n 1, 1) := by decide +kernel
theorem dX11_may_6 : decode cX11_may 6 = .ok (.invokevirtual 107, 3) := by decide +kernel
theorem dX11_may_9 : decode cX11_may 9 = .ok (.istore_n 2, 1) := by decide +kernel
theorem dX11_may_10 : decode cX11_may 10 = .ok (.iload_n 2, 1) := by decide +kernel
theorem dX11_may_11 : decode cX11_may 11 = .ok (.ifCond .eq 5, 3) := by decide +kernel
theorem dX11_may_14 : decode cX11_may 14 = .ok (.iload_n 2, 1) := by decide +kernel
theorem dX11_may_15 : decode cX11_may 15 = .ok (.ireturn, 1) := by decide +kernel
theorem dX11_may_16 : decode cX11_may 16 = .ok (.aload_n 0, 1) := by decide +kernel
theorem dX11_may_17 : decode cX11_may 17 = .ok (.getfield 11, 3) := by decide +kernel
theorem dX11_may_20 : decode cX11_may 20 = .ok (.iload_n 1, 1) := by decide +kernel
theorem dX11_may_21 : decode cX11_may 21 = .ok (.aaload, 1) := by decide +kernel
theorem dX11_may_22 : decode cX11_may 22 = .ok (.astore_n 3, 1) := by decide +kernel
theorem dX11_may_23 : decode cX11_may 23 = .ok (.aload_n 3, 1) := by decide +kernel
theorem dX11_may_24 : decode cX11_may 24 = .ok (.getfield 130, 3) := by decide +kernel
theorem dX11_may_27 : decode cX11_may 27 = .ok (.ifCond .eq 17, 3) := by decide +kernel
theorem dX11_may_30 : decode cX11_may 30 = .ok (.aload_n 3, 1) := by decide +kernel
theorem dX11_may_31 : decode cX11_may 31 = .ok (.getfield 130, 3) := by decide +kernel
theorem dX11_may_34 : decode cX11_may 34 = .ok (.aload_n 0, 1) := by decide +kernel
theorem dX11_may_35 : decode cX11_may 35 = .ok (.getfield 60, 3) := by decide +kernel
theorem dX11_may_38 : decode cX11_may 38 = .ok (.getfield 198, 3) := by decide +kernel
theorem dX11_may_41 : decode cX11_may 41 = .ok (.if_icmp .le 9, 3) := by decide +kernel
theorem dX11_may_44 : decode cX11_may 44 = .ok (.aload_n 0, 1) := by decide +kernel
theorem dX11_may_45 : decode cX11_may 45 = .ok (.iconst 5, 1) := by decide +kernel
theorem dX11_may_46 : decode cX11_may 46 = .ok (.invokevirtual 89, 3) := by decide +kernel
theorem dX11_may_49 : decode cX11_may 49 = .ok (.ireturn, 1) := by decide +kernel
theorem dX11_may_50 : decode cX11_may 50 = .ok (.iconst 0, 1) := by decide +kernel
theorem dX11_may_51 : decode cX11_may 51 = .ok (.istore 4, 2) := by decide +kernel
theorem dX11_may_53 : decode cX11_may 53 = .ok (.iload 4, 2) := by decide +kernel
theorem dX11_may_55 : decode cX11_may 55 = .ok (.aload_n 3, 1) := by decide +kernel
theorem dX11_may_56 : decode cX11_may 56 = .ok (.getfield 130, 3) := by decide +kernel
theorem dX11_may_59 : decode cX11_may 59 = .ok (.if_icmp .ge 29, 3) := by decide +kernel
theorem dX11_may_62 : decode cX11_may 62 = .ok (.aload_n 3, 1) := by decide +kernel
theorem dX11_may_63 : decode cX11_may 63 = .ok (.iload 4, 2) := by decide +kernel
theorem dX11_may_65 : decode cX11_may 65 = .ok (.invokevirtual 101, 3) := by decide +kernel
theorem dX11_may_68 : decode cX11_may 68 = .ok (.bipush 10, 2) := by decide +kernel
theorem dX11_may_70 : decode cX11_may 70 = .ok (.invokestatic 85, 3) := by decide +kernel
theorem dX11_may_73 : decode cX11_may 73 = .ok (.ifCond .ne 9, 3) := by decide +kernel
theorem dX11_may_76 : decode cX11_may 76 = .ok (.aload_n 0, 1) := by decide +kernel
theorem dX11_may_77 : decode cX11_may 77 = .ok (.iconst 3, 1) := by decide +kernel
theorem dX11_may_78 : decode cX11_may 78 = .ok (.invokevirtual 89, 3) := by decide +kernel
theorem dX11_may_81 : decode cX11_may 81 = .ok (.ireturn, 1) := by decide +kernel
theorem dX11_may_82 : decode cX11_may 82 = .ok (.iinc 4 1, 3) := by decide +kernel
theorem dX11_may_85 : decode cX11_may 85 = .ok (.goto (-32), 3) := by decide +kernel
theorem dX11_may_88 : decode cX11_may 88 = .ok (.iconst 0, 1) := by decide +kernel
theorem dX11_may_89 : decode cX11_may 89 = .ok (.istore 4, 2) := by decide +kernel
theorem dX11_may_91 : decode cX11_may 91 = .ok (.iconst 0, 1) := by decide +kernel
theorem dX11_may_92 : decode cX11_may 92 = .ok (.istore 5, 2) := by decide +kernel
theorem dX11_may_94 : decode cX11_may 94 = .ok (.iload 5, 2) := by decide +kernel
theorem dX11_may_96 : decode cX11_may 96 = .ok (.aload_n 3, 1) := by decide +kernel
theorem dX11_may_97 : decode cX11_may 97 = .ok (.getfield 130, 3) := by decide +kernel
theorem dX11_may_100 : decode cX11_may 100 = .ok (.iadd, 1) := by decide +kernel
theorem dX11_may_101 : decode cX11_may 101 = .ok (.aload_n 0, 1) := by decide +kernel
theorem dX11_may_102 : decode cX11_may 102 = .ok (.getfield 60, 3) := by decide +kernel
theorem dX11_may_105 : decode cX11_may 105 = .ok (.getfield 198, 3) := by decide +kernel
theorem dX11_may_108 : decode cX11_may 108 = .ok (.if_icmp .gt 28, 3) := by decide +kernel
theorem dX11_may_111 : decode cX11_may 111 = .ok (.aload_n 0, 1) := by decide +kernel
theorem dX11_may_112 : decode cX11_may 112 = .ok (.aload_n 3, 1) := by decide +kernel
theorem dX11_may_113 : decode cX11_may 113 = .ok (.iload 5, 2) := by decide +kernel
theorem dX11_may_115 : decode cX11_may 115 = .ok (.invokevirtual 207, 3) := by decide +kernel
theorem dX11_may_118 : decode cX11_may 118 = .ok (.ifCond .eq 12, 3) := by decide +kernel
theorem dX11_may_121 : decode cX11_may 121 = .ok (.iload 4, 2) := by decide +kernel
theorem dX11_may_123 : decode cX11_may 123 = .ok (.iconst 1, 1) := by decide +kernel
theorem dX11_may_124 : decode cX11_may 124 = .ok (.iload 5, 2) := by decide +kernel
theorem dX11_may_126 : decode cX11_may 126 = .ok (.ishl, 1) := by decide +kernel
theorem dX11_may_127 : decode cX11_may 127 = .ok (.ior, 1) := by decide +kernel
theorem dX11_may_128 : decode cX11_may 128 = .ok (.istore 4, 2) := by decide +kernel
theorem dX11_may_130 : decode cX11_may 130 = .ok (.iinc 5 1, 3) := by decide +kernel
theorem dX11_may_133 : decode cX11_may 133 = .ok (.goto (-39), 3) := by decide +kernel
theorem dX11_may_136 : decode cX11_may 136 = .ok (.iload 4, 2) := by decide +kernel
theorem dX11_may_138 : decode cX11_may 138 = .ok (.ireturn, 1) := by decide +kernel
theorem dX11_standings_0 : decode cX11_standings 0 = .ok (.iload_n 1, 1) := by decide +kernel
theorem dX11_standings_1 : decode cX11_standings 1 = .ok (.ifCond .lt 22, 3) := by decide +kernel
theorem dX11_standings_4 : decode cX11_standings 4 = .ok (.iload_n 1, 1) := by decide +kernel
theorem dX11_standings_5 : decode cX11_standings 5 = .ok (.iconst 3, 1) := by decide +kernel
theorem dX11_standings_6 : decode cX11_standings 6 = .ok (.if_icmp .gt 17, 3) := by decide +kernel
theorem dX11_standings_9 : decode cX11_standings 9 = .ok (.iload_n 2, 1) := by decide +kernel
theorem dX11_standings_10 : decode cX11_standings 10 = .ok (.aload_n 0, 1) := by decide +kernel
theorem dX11_standings_11 : decode cX11_standings 11 = .ok (.getfield 60, 3) := by decide +kernel
theorem dX11_standings_14 : decode cX11_standings 14 = .ok (.getfield 198, 3) := by decide +kernel
theorem dX11_standings_17 : decode cX11_standings 17 = .ok (.invokestatic 85, 3) := by decide +kernel
theorem dX11_standings_20 : decode cX11_standings 20 = .ok (.ifCond .ne 5, 3) := by decide +kernel
theorem dX11_standings_23 : decode cX11_standings 23 = .ok (.iconst (-1), 1) := by decide +kernel
theorem dX11_standings_24 : decode cX11_standings 24 = .ok (.ireturn, 1) := by decide +kernel
theorem dX11_standings_25 : decode cX11_standings 25 = .ok (.aload_n 0, 1) := by decide +kernel
theorem dX11_standings_26 : decode cX11_standings 26 = .ok (.getfield 74, 3) := by decide +kernel
theorem dX11_standings_29 : decode cX11_standings 29 = .ok (.aload_n 0, 1) := by decide +kernel
theorem dX11_standings_30 : decode cX11_standings 30 = .ok (.getfield 60, 3) := by decide +kernel
theorem dX11_standings_33 : decode cX11_standings 33 = .ok (.aload_n 0, 1) := by decide +kernel
theorem dX11_standings_34 : decode cX11_standings 34 = .ok (.getfield 34, 3) := by decide +kernel
theorem dX11_standings_37 : decode cX11_standings 37 = .ok (.aload_n 0, 1) := by decide +kernel
theorem dX11_standings_38 : decode cX11_standings 38 = .ok (.getfield 38, 3) := by decide +kernel
theorem dX11_standings_41 : decode cX11_standings 41 = .ok (.invokevirtual 211, 3) := by decide +kernel
theorem dX11_standings_44 : decode cX11_standings 44 = .ok (.aload_n 0, 1) := by decide +kernel
theorem dX11_standings_45 : decode cX11_standings 45 = .ok (.getfield 74, 3) := by decide +kernel
theorem dX11_standings_48 : decode cX11_standings 48 = .ok (.iload_n 1, 1) := by decide +kernel
theorem dX11_standings_49 : decode cX11_standings 49 = .ok (.invokevirtual 214, 3) := by decide +kernel
theorem dX11_standings_52 : decode cX11_standings 52 = .ok (.istore_n 3, 1) := by decide +kernel
theorem dX11_standings_53 : decode cX11_standings 53 = .ok (.iconst 0, 1) := by decide +kernel
theorem dX11_standings_54 : decode cX11_standings 54 = .ok (.istore 4, 2) := by decide +kernel
theorem dX11_standings_56 : decode cX11_standings 56 = .ok (.iconst 0, 1) := by decide +kernel
theorem dX11_standings_57 : decode cX11_standings 57 = .ok (.istore 5, 2) := by decide +kernel
theorem dX11_standings_59 : decode cX11_standings 59 = .ok (.iload 5, 2) := by decide +kernel
theorem dX11_standings_61 : decode cX11_standings 61 = .ok (.iload_n 3, 1) := by decide +kernel
theorem dX11_standings_62 : decode cX11_standings 62 = .ok (.if_icmp .ge 44, 3) := by decide +kernel
theorem dX11_standings_65 : decode cX11_standings 65 = .ok (.aload_n 0, 1) := by decide +kernel
theorem dX11_standings_66 : decode cX11_standings 66 = .ok (.getfield 60, 3) := by decide +kernel
theorem dX11_standings_69 : decode cX11_standings 69 = .ok (.aload_n 0, 1) := by decide +kernel
theorem dX11_standings_70 : decode cX11_standings 70 = .ok (.getfield 74, 3) := by decide +kernel
theorem dX11_standings_73 : decode cX11_standings 73 = .ok (.iload 5, 2) := by decide +kernel
theorem dX11_standings_75 : decode cX11_standings 75 = .ok (.invokevirtual 217, 3) := by decide +kernel
theorem dX11_standings_78 : decode cX11_standings 78 = .ok (.iload_n 2, 1) := by decide +kernel
theorem dX11_standings_79 : decode cX11_standings 79 = .ok (.invokevirtual 204, 3) := by decide +kernel
theorem dX11_standings_82 : decode cX11_standings 82 = .ok (.aload_n 0, 1) := by decide +kernel
theorem dX11_standings_83 : decode cX11_standings 83 = .ok (.getfield 60, 3) := by decide +kernel
theorem dX11_standings_86 : decode cX11_standings 86 = .ok (.aload_n 0, 1) := by decide +kernel
theorem dX11_standings_87 : decode cX11_standings 87 = .ok (.getfield 34, 3) := by decide +kernel
theorem dX11_standings_90 : decode cX11_standings 90 = .ok (.iload_n 2, 1) := by decide +kernel
theorem dX11_standings_91 : decode cX11_standings 91 = .ok (.invokevirtual 204, 3) := by decide +kernel
theorem dX11_standings_94 : decode cX11_standings 94 = .ok (.if_icmp .ne 6, 3) := by decide +kernel
theorem dX11_standings_97 : decode cX11_standings 97 = .ok (.iinc 4 1, 3) := by decide +kernel
theorem dX11_standings_100 : decode cX11_standings 100 = .ok (.iinc 5 1, 3) := by decide +kernel
theorem dX11_standings_103 : decode cX11_standings 103 = .ok (.goto (-44), 3) := by decide +kernel
theorem dX11_standings_106 : decode cX11_standings 106 = .ok (.aload_n 0, 1) := by decide +kernel
theorem dX11_standings_107 : decode cX11_standings 107 = .ok (.iload 4, 2) := by decide +kernel
theorem dX11_standings_109 : decode cX11_standings 109 = .ok (.putfield 44, 3) := by decide +kernel
theorem dX11_standings_112 : decode cX11_standings 112 = .ok (.iload_n 3, 1) := by decide +kernel
theorem dX11_standings_113 : decode cX11_standings 113 = .ok (.ireturn, 1) := by decide +kernel
theorem dX11_look_0 : decode cX11_look 0 = .ok (.iload_n 1, 1) := by decide +kernel
theorem dX11_look_1 : decode cX11_look 1 = .ok (.ifCond .lt 8, 3) := by decide +kernel
theorem dX11_look_4 : decode cX11_look 4 = .ok (.iload_n 1, 1) := by decide +kernel
theorem dX11_look_5 : decode cX11_look 5 = .ok (.iconst 3, 1) := by decide +kernel
theorem dX11_look_6 : decode cX11_look 6 = .ok (.if_icmp .le 5, 3) := by decide +kernel
theorem dX11_look_9 : decode cX11_look 9 = .ok (.iconst (-1), 1) := by decide +kernel
theorem dX11_look_10 : decode cX11_look 10 = .ok (.ireturn, 1) := by decide +kernel
theorem dX11_look_11 : decode cX11_look 11 = .ok (.aload_n 0, 1) := by decide +kernel
theorem dX11_look_12 : decode cX11_look 12 = .ok (.getfield 60, 3) := by decide +kernel
theorem dX11_look_15 : decode cX11_look 15 = .ok (.getfield 198, 3) := by decide +kernel
theorem dX11_look_18 : decode cX11_look 18 = .ok (.ifCond .ne 6, 3) := by decide +kernel
theorem dX11_look_21 : decode cX11_look 21 = .ok (.bipush (-4), 2) := by decide +kernel
theorem dX11_look_23 : decode cX11_look 23 = .ok (.ireturn, 1) := by decide +kernel
theorem dX11_look_24 : decode cX11_look 24 = .ok (.aload_n 0, 1) := by decide +kernel
theorem dX11_look_25 : decode cX11_look 25 = .ok (.getfield 74, 3) := by decide +kernel
theorem dX11_look_28 : decode cX11_look 28 = .ok (.aload_n 0, 1) := by decide +kernel
theorem dX11_look_29 : decode cX11_look 29 = .ok (.getfield 60, 3) := by decide +kernel
theorem dX11_look_32 : decode cX11_look 32 = .ok (.aload_n 0, 1) := by decide +kernel
theorem dX11_look_33 : decode cX11_look 33 = .ok (.getfield 34, 3) := by decide +kernel
theorem dX11_look_36 : decode cX11_look 36 = .ok (.aload_n 0, 1) := by decide +kernel
theorem dX11_look_37 : decode cX11_look 37 = .ok (.getfield 38, 3) := by decide +kernel
theorem dX11_look_40 : decode cX11_look 40 = .ok (.invokevirtual 211, 3) := by decide +kernel
theorem dX11_look_43 : decode cX11_look 43 = .ok (.aload_n 0, 1) := by decide +kernel
theorem dX11_look_44 : decode cX11_look 44 = .ok (.getfield 74, 3) := by decide +kernel
theorem dX11_look_47 : decode cX11_look 47 = .ok (.iload_n 1, 1) := by decide +kernel
theorem dX11_look_48 : decode cX11_look 48 = .ok (.invokevirtual 214, 3) := by decide +kernel
theorem dX11_look_51 : decode cX11_look 51 = .ok (.pop, 1) := by decide +kernel
theorem dX11_look_52 : decode cX11_look 52 = .ok (.iconst 0, 1) := by decide +kernel
theorem dX11_look_53 : decode cX11_look 53 = .ok (.istore_n 2, 1) := by decide +kernel
theorem dX11_look_54 : decode cX11_look 54 = .ok (.aload_n 0, 1) := by decide +kernel
theorem dX11_look_55 : decode cX11_look 55 = .ok (.getfield 74, 3) := by decide +kernel
theorem dX11_look_58 : decode cX11_look 58 = .ok (.iconst 0, 1) := by decide +kernel
theorem dX11_look_59 : decode cX11_look 59 = .ok (.invokevirtual 220, 3) := by decide +kernel
theorem dX11_look_62 : decode cX11_look 62 = .ok (.istore_n 3, 1) := by decide +kernel
theorem dX11_look_63 : decode cX11_look 63 = .ok (.iconst 1, 1) := by decide +kernel
theorem dX11_look_64 : decode cX11_look 64 = .ok (.istore 4, 2) := by decide +kernel
theorem dX11_look_66 : decode cX11_look 66 = .ok (.iload 4, 2) := by decide +kernel
theorem dX11_look_68 : decode cX11_look 68 = .ok (.aload_n 0, 1) := by decide +kernel
theorem dX11_look_69 : decode cX11_look 69 = .ok (.getfield 60, 3) := by decide +kernel
theorem dX11_look_72 : decode cX11_look 72 = .ok (.getfield 198, 3) := by decide +kernel
theorem dX11_look_75 : decode cX11_look 75 = .ok (.if_icmp .ge 32, 3) := by decide +kernel
theorem dX11_look_78 : decode cX11_look 78 = .ok (.aload_n 0, 1) := by decide +kernel
theorem dX11_look_79 : decode cX11_look 79 = .ok (.getfield 74, 3) := by decide +kernel
theorem dX11_look_82 : decode cX11_look 82 = .ok (.iload 4, 2) := by decide +kernel
theorem dX11_look_84 : decode cX11_look 84 = .ok (.invokevirtual 220, 3) := by decide +kernel
theorem dX11_look_87 : decode cX11_look 87 = .ok (.istore 5, 2) := by decide +kernel
theorem dX11_look_89 : decode cX11_look 89 = .ok (.iload 5, 2) := by decide +kernel
theorem dX11_look_91 : decode cX11_look 91 = .ok (.iload_n 3, 1) := by decide +kernel
theorem dX11_look_92 : decode cX11_look 92 = .ok (.if_icmp .ge 9, 3) := by decide +kernel
theorem dX11_look_95 : decode cX11_look 95 = .ok (.iload 4, 2) := by decide +kernel
theorem dX11_look_97 : decode cX11_look 97 = .ok (.istore_n 2, 1) := by decide +kernel
theorem dX11_look_98 : decode cX11_look 98 = .ok (.iload 5, 2) := by decide +kernel
theorem dX11_look_100 : decode cX11_look 100 = .ok (.istore_n 3, 1) := by decide +kernel
theorem dX11_look_101 : decode cX11_look 101 = .ok (.iinc 4 1, 3) := by decide +kernel
theorem dX11_look_104 : decode cX11_look 104 = .ok (.goto (-38), 3) := by decide +kernel
theorem dX11_look_107 : decode cX11_look 107 = .ok (.aload_n 0, 1) := by decide +kernel
theorem dX11_look_108 : decode cX11_look 108 = .ok (.iload_n 3, 1) := by decide +kernel
theorem dX11_look_109 : decode cX11_look 109 = .ok (.putfield 44, 3) := by decide +kernel
theorem dX11_look_112 : decode cX11_look 112 = .ok (.iload_n 2, 1) := by decide +kernel
theorem dX11_look_113 : decode cX11_look 113 = .ok (.ireturn, 1) := by decide +kernel
theorem dX11_fewest_0 : decode cX11_fewest 0 = .ok (.aload_n 0, 1) := by decide +kernel
theorem dX11_fewest_1 : decode cX11_fewest 1 = .ok (.getfield 60, 3) := by decide +kernel
theorem dX11_fewest_4 : decode cX11_fewest 4 = .ok (.getfield 198, 3) := by decide +kernel
theorem dX11_fewest_7 : decode cX11_fewest 7 = .ok (.ifCond .ne 6, 3) := by decide +kernel
theorem dX11_fewest_10 : decode cX11_fewest 10 = .ok (.bipush (-4), 2) := by decide +kernel
theorem dX11_fewest_12 : decode cX11_fewest 12 = .ok (.ireturn, 1) := by decide +kernel
theorem dX11_fewest_13 : decode cX11_fewest 13 = .ok (.aload_n 0, 1) := by decide +kernel
theorem dX11_fewest_14 : decode cX11_fewest 14 = .ok (.getfield 74, 3) := by decide +kernel
theorem dX11_fewest_17 : decode cX11_fewest 17 = .ok (.aload_n 0, 1) := by decide +kernel
theorem dX11_fewest_18 : decode cX11_fewest 18 = .ok (.getfield 60, 3) := by decide +kernel
theorem dX11_fewest_21 : decode cX11_fewest 21 = .ok (.aload_n 0, 1) := by decide +kernel
theorem dX11_fewest_22 : decode cX11_fewest 22 = .ok (.getfield 34, 3) := by decide +kernel
theorem dX11_fewest_25 : decode cX11_fewest 25 = .ok (.aload_n 0, 1) := by decide +kernel
theorem dX11_fewest_26 : decode cX11_fewest 26 = .ok (.getfield 38, 3) := by decide +kernel
theorem dX11_fewest_29 : decode cX11_fewest 29 = .ok (.invokevirtual 211, 3) := by decide +kernel
theorem dX11_fewest_32 : decode cX11_fewest 32 = .ok (.aload_n 0, 1) := by decide +kernel
theorem dX11_fewest_33 : decode cX11_fewest 33 = .ok (.getfield 74, 3) := by decide +kernel
theorem dX11_fewest_36 : decode cX11_fewest 36 = .ok (.invokevirtual 223, 3) := by decide +kernel
theorem dX11_fewest_39 : decode cX11_fewest 39 = .ok (.istore_n 1, 1) := by decide +kernel
theorem dX11_fewest_40 : decode cX11_fewest 40 = .ok (.iload_n 1, 1) := by decide +kernel
theorem dX11_fewest_41 : decode cX11_fewest 41 = .ok (.ifCond .ge 6, 3) := by decide +kernel
theorem dX11_fewest_44 : decode cX11_fewest 44 = .ok (.bipush (-9), 2) := by decide +kernel
theorem dX11_fewest_46 : decode cX11_fewest 46 = .ok (.ireturn, 1) := by decide +kernel
theorem dX11_fewest_47 : decode cX11_fewest 47 = .ok (.aload_n 0, 1) := by decide +kernel
theorem dX11_fewest_48 : decode cX11_fewest 48 = .ok (.aload_n 0, 1) := by decide +kernel
theorem dX11_fewest_49 : decode cX11_fewest 49 = .ok (.getfield 74, 3) := by decide +kernel
theorem dX11_fewest_52 : decode cX11_fewest 52 = .ok (.iload_n 1, 1) := by decide +kernel
theorem dX11_fewest_53 : decode cX11_fewest 53 = .ok (.invokevirtual 226, 3) := by decide +kernel
theorem dX11_fewest_56 : decode cX11_fewest 56 = .ok (.putfield 44, 3) := by decide +kernel
theorem dX11_fewest_59 : decode cX11_fewest 59 = .ok (.aload_n 0, 1) := by decide +kernel
theorem dX11_fewest_60 : decode cX11_fewest 60 = .ok (.getfield 74, 3) := by decide +kernel
theorem dX11_fewest_63 : decode cX11_fewest 63 = .ok (.iload_n 1, 1) := by decide +kernel
theorem dX11_fewest_64 : decode cX11_fewest 64 = .ok (.invokevirtual 229, 3) := by decide +kernel
theorem dX11_fewest_67 : decode cX11_fewest 67 = .ok (.ireturn, 1) := by decide +kernel
theorem dX11_way_0 : decode cX11_way 0 = .ok (.iload_n 1, 1) := by decide +kernel
theorem dX11_way_1 : decode cX11_way 1 = .ok (.bipush 6, 2) := by decide +kernel
theorem dX11_way_3 : decode cX11_way 3 = .ok (.invokestatic 85, 3) := by decide +kernel
theorem dX11_way_6 : decode cX11_way 6 = .ok (.ifCond .ne 5, 3) := by decide +kernel
theorem dX11_way_9 : decode cX11_way 9 = .ok (.iconst (-1), 1) := by decide +kernel
theorem dX11_way_10 : decode cX11_way 10 = .ok (.ireturn, 1) := by decide +kernel
theorem dX11_way_11 : decode cX11_way 11 = .ok (.aload_n 0, 1) := by decide +kernel
theorem dX11_way_12 : decode cX11_way 12 = .ok (.getfield 60, 3) := by decide +kernel
theorem dX11_way_15 : decode cX11_way 15 = .ok (.getfield 198, 3) := by decide +kernel
theorem dX11_way_18 : decode cX11_way 18 = .ok (.ifCond .ne 6, 3) := by decide +kernel
theorem dX11_way_21 : decode cX11_way 21 = .ok (.bipush (-4), 2) := by decide +kernel
theorem dX11_way_23 : decode cX11_way 23 = .ok (.ireturn, 1) := by decide +kernel
theorem dX11_way_24 : decode cX11_way 24 = .ok (.aload_n 0, 1) := by decide +kernel
theorem dX11_way_25 : decode cX11_way 25 = .ok (.getfield 74, 3) := by decide +kernel
theorem dX11_way_28 : decode cX11_way 28 = .ok (.aload_n 0, 1) := by decide +kernel
theorem dX11_way_29 : decode cX11_way 29 = .ok (.getfield 60, 3) := by decide +kernel
theorem dX11_way_32 : decode cX11_way 32 = .ok (.aload_n 0, 1) := by decide +kernel
theorem dX11_way_33 : decode cX11_way 33 = .ok (.getfield 34, 3) := by decide +kernel
theorem dX11_way_36 : decode cX11_way 36 = .ok (.aload_n 0, 1) := by decide +kernel
theorem dX11_way_37 : decode cX11_way 37 = .ok (.getfield 38, 3) := by decide +kernel
theorem dX11_way_40 : decode cX11_way 40 = .ok (.invokevirtual 211, 3) := by decide +kernel
theorem dX11_way_43 : decode cX11_way 43 = .ok (.aload_n 0, 1) := by decide +kernel
theorem dX11_way_44 : decode cX11_way 44 = .ok (.getfield 74, 3) := by decide +kernel
theorem dX11_way_47 : decode cX11_way 47 = .ok (.invokevirtual 223, 3) := by decide +kernel
theorem dX11_way_50 : decode cX11_way 50 = .ok (.istore_n 2, 1) := by decide +kernel
theorem dX11_way_51 : decode cX11_way 51 = .ok (.iload_n 2, 1) := by decide +kernel
theorem dX11_way_52 : decode cX11_way 52 = .ok (.ifCond .ge 6, 3) := by decide +kernel
theorem dX11_way_55 : decode cX11_way 55 = .ok (.bipush (-9), 2) := by decide +kernel
theorem dX11_way_57 : decode cX11_way 57 = .ok (.ireturn, 1) := by decide +kernel
theorem dX11_way_58 : decode cX11_way 58 = .ok (.aload_n 0, 1) := by decide +kernel
theorem dX11_way_59 : decode cX11_way 59 = .ok (.getfield 74, 3) := by decide +kernel
theorem dX11_way_62 : decode cX11_way 62 = .ok (.iload_n 2, 1) := by decide +kernel
theorem dX11_way_63 : decode cX11_way 63 = .ok (.invokevirtual 229, 3) := by decide +kernel
theorem dX11_way_66 : decode cX11_way 66 = .ok (.istore_n 3, 1) := by decide +kernel
theorem dX11_way_67 : decode cX11_way 67 = .ok (.iload_n 3, 1) := by decide +kernel
theorem dX11_way_68 : decode cX11_way 68 = .ok (.bipush 60, 2) := by decide +kernel
theorem dX11_way_70 : decode cX11_way 70 = .ok (.if_icmp .le 6, 3) := by decide +kernel
theorem dX11_way_73 : decode cX11_way 73 = .ok (.bipush (-6), 2) := by decide +kernel
theorem dX11_way_75 : decode cX11_way 75 = .ok (.ireturn, 1) := by decide +kernel
theorem dX11_way_76 : decode cX11_way 76 = .ok (.aload_n 0, 1) := by decide +kernel
theorem dX11_way_77 : decode cX11_way 77 = .ok (.getfield 11, 3) := by decide +kernel
theorem dX11_way_80 : decode cX11_way 80 = .ok (.iload_n 1, 1) := by decide +kernel
theorem dX11_way_81 : decode cX11_way 81 = .ok (.aaload, 1) := by decide +kernel
theorem dX11_way_82 : decode cX11_way 82 = .ok (.iload_n 3, 1) := by decide +kernel
theorem dX11_way_83 : decode cX11_way 83 = .ok (.iconst 0, 1) := by decide +kernel
theorem dX11_way_84 : decode cX11_way 84 = .ok (.invokevirtual 93, 3) := by decide +kernel
theorem dX11_way_87 : decode cX11_way 87 = .ok (.aload_n 0, 1) := by decide +kernel
theorem dX11_way_88 : decode cX11_way 88 = .ok (.getfield 74, 3) := by decide +kernel
theorem dX11_way_91 : decode cX11_way 91 = .ok (.iload_n 2, 1) := by decide +kernel
theorem dX11_way_92 : decode cX11_way 92 = .ok (.aload_n 0, 1) := by decide +kernel
theorem dX11_way_93 : decode cX11_way 93 = .ok (.getfield 11, 3) := by decide +kernel
theorem dX11_way_96 : decode cX11_way 96 = .ok (.iload_n 1, 1) := by decide +kernel
theorem dX11_way_97 : decode cX11_way 97 = .ok (.aaload, 1) := by decide +kernel
theorem dX11_way_98 : decode cX11_way 98 = .ok (.invokevirtual 232, 3) := by decide +kernel
theorem dX11_way_101 : decode cX11_way 101 = .ok (.iload_n 3, 1) := by decide +kernel
theorem dX11_way_102 : decode cX11_way 102 = .ok (.ireturn, 1) := by decide +kernel
theorem dX11_all_0 : decode cX11_all 0 = .ok (.aload_n 0, 1) := by decide +kernel
theorem dX11_all_1 : decode cX11_all 1 = .ok (.getfield 74, 3) := by decide +kernel
theorem dX11_all_4 : decode cX11_all 4 = .ok (.aload_n 0, 1) := by decide +kernel
theorem dX11_all_5 : decode cX11_all 5 = .ok (.getfield 60, 3) := by decide +kernel
theorem dX11_all_8 : decode cX11_all 8 = .ok (.aload_n 0, 1) := by decide +kernel
theorem dX11_all_9 : decode cX11_all 9 = .ok (.getfield 34, 3) := by decide +kernel
theorem dX11_all_12 : decode cX11_all 12 = .ok (.aload_n 0, 1) := by decide +kernel
theorem dX11_all_13 : decode cX11_all 13 = .ok (.getfield 38, 3) := by decide +kernel
theorem dX11_all_16 : decode cX11_all 16 = .ok (.invokevirtual 211, 3) := by decide +kernel
theorem dX11_all_19 : decode cX11_all 19 = .ok (.aload_n 0, 1) := by decide +kernel
theorem dX11_all_20 : decode cX11_all 20 = .ok (.aload_n 0, 1) := by decide +kernel
theorem dX11_all_21 : decode cX11_all 21 = .ok (.getfield 74, 3) := by decide +kernel
theorem dX11_all_24 : decode cX11_all 24 = .ok (.invokevirtual 236, 3) := by decide +kernel
theorem dX11_all_27 : decode cX11_all 27 = .ok (.putfield 44, 3) := by decide +kernel
theorem dX11_all_30 : decode cX11_all 30 = .ok (.aload_n 0, 1) := by decide +kernel
theorem dX11_all_31 : decode cX11_all 31 = .ok (.getfield 74, 3) := by decide +kernel
theorem dX11_all_34 : decode cX11_all 34 = .ok (.invokevirtual 239, 3) := by decide +kernel
theorem dX11_all_37 : decode cX11_all 37 = .ok (.ireturn, 1) := by decide +kernel
theorem dX11_best_0 : decode cX11_best 0 = .ok (.aload_n 0, 1) := by decide +kernel
theorem dX11_best_1 : decode cX11_best 1 = .ok (.getfield 60, 3) := by decide +kernel
theorem dX11_best_4 : decode cX11_best 4 = .ok (.getfield 198, 3) := by decide +kernel
theorem dX11_best_7 : decode cX11_best 7 = .ok (.ifCond .ne 6, 3) := by decide +kernel
theorem dX11_best_10 : decode cX11_best 10 = .ok (.bipush (-4), 2) := by decide +kernel
theorem dX11_best_12 : decode cX11_best 12 = .ok (.ireturn, 1) := by decide +kernel
theorem dX11_best_13 : decode cX11_best 13 = .ok (.iconst 0, 1) := by decide +kernel
theorem dX11_best_14 : decode cX11_best 14 = .ok (.istore_n 1, 1) := by decide +kernel
theorem dX11_best_15 : decode cX11_best 15 = .ok (.bipush (-9), 2) := by decide +kernel
theorem dX11_best_17 : decode cX11_best 17 = .ok (.istore_n 2, 1) := by decide +kernel
theorem dX11_best_18 : decode cX11_best 18 = .ok (.iconst 0, 1) := by decide +kernel
theorem dX11_best_19 : decode cX11_best 19 = .ok (.istore_n 3, 1) := by decide +kernel
theorem dX11_best_20 : decode cX11_best 20 = .ok (.iload_n 3, 1) := by decide +kernel
theorem dX11_best_21 : decode cX11_best 21 = .ok (.iconst 3, 1) := by decide +kernel
theorem dX11_best_22 : decode cX11_best 22 = .ok (.if_icmp .ge 79, 3) := by decide +kernel
theorem dX11_best_25 : decode cX11_best 25 = .ok (.aload_n 0, 1) := by decide +kernel
theorem dX11_best_26 : decode cX11_best 26 = .ok (.getfield 74, 3) := by decide +kernel
theorem dX11_best_29 : decode cX11_best 29 = .ok (.aload_n 0, 1) := by decide +kernel
theorem dX11_best_30 : decode cX11_best 30 = .ok (.getfield 60, 3) := by decide +kernel
theorem dX11_best_33 : decode cX11_best 33 = .ok (.aload_n 0, 1) := by decide +kernel
theorem dX11_best_34 : decode cX11_best 34 = .ok (.getfield 34, 3) := by decide +kernel
theorem dX11_best_37 : decode cX11_best 37 = .ok (.iload_n 3, 1) := by decide +kernel
theorem dX11_best_38 : decode cX11_best 38 = .ok (.invokevirtual 211, 3) := by decide +kernel
theorem dX11_best_41 : decode cX11_best 41 = .ok (.aload_n 0, 1) := by decide +kernel
theorem dX11_best_42 : decode cX11_best 42 = .ok (.getfield 74, 3) := by decide +kernel
theorem dX11_best_45 : decode cX11_best 45 = .ok (.invokevirtual 223, 3) := by decide +kernel
theorem dX11_best_48 : decode cX11_best 48 = .ok (.istore 4, 2) := by decide +kernel
theorem dX11_best_50 : decode cX11_best 50 = .ok (.iload 4, 2) := by decide +kernel
theorem dX11_best_52 : decode cX11_best 52 = .ok (.ifCond .ge 8, 3) := by decide +kernel
theorem dX11_best_55 : decode cX11_best 55 = .ok (.bipush (-9), 2) := by decide +kernel
theorem dX11_best_57 : decode cX11_best 57 = .ok (.goto 12, 3) := by decide +kernel
theorem dX11_best_60 : decode cX11_best 60 = .ok (.aload_n 0, 1) := by decide +kernel
theorem dX11_best_61 : decode cX11_best 61 = .ok (.getfield 74, 3) := by decide +kernel
theorem dX11_best_64 : decode cX11_best 64 = .ok (.iload 4, 2) := by decide +kernel
theorem dX11_best_66 : decode cX11_best 66 = .ok (.invokevirtual 229, 3) := by decide +kernel
theorem dX11_best_69 : decode cX11_best 69 = .ok (.istore 5, 2) := by decide +kernel
theorem dX11_best_71 : decode cX11_best 71 = .ok (.iload 5, 2) := by decide +kernel
theorem dX11_best_73 : decode cX11_best 73 = .ok (.bipush (-9), 2) := by decide +kernel
theorem dX11_best_75 : decode cX11_best 75 = .ok (.if_icmp .eq 20, 3) := by decide +kernel
theorem dX11_best_78 : decode cX11_best 78 = .ok (.iload_n 2, 1) := by decide +kernel
theorem dX11_best_79 : decode cX11_best 79 = .ok (.bipush (-9), 2) := by decide +kernel
theorem dX11_best_81 : decode cX11_best 81 = .ok (.if_icmp .eq 9, 3) := by decide +kernel
theorem dX11_best_84 : decode cX11_best 84 = .ok (.iload 5, 2) := by decide +kernel
theorem dX11_best_86 : decode cX11_best 86 = .ok (.iload_n 2, 1) := by decide +kernel
theorem dX11_best_87 : decode cX11_best 87 = .ok (.if_icmp .ge 8, 3) := by decide +kernel
theorem dX11_best_90 : decode cX11_best 90 = .ok (.iload_n 3, 1) := by decide +kernel
theorem dX11_best_91 : decode cX11_best 91 = .ok (.istore_n 1, 1) := by decide +kernel
theorem dX11_best_92 : decode cX11_best 92 = .ok (.iload 5, 2) := by decide +kernel
theorem dX11_best_94 : decode cX11_best 94 = .ok (.istore_n 2, 1) := by decide +kernel
theorem dX11_best_95 : decode cX11_best 95 = .ok (.iinc 3 1, 3) := by decide +kernel
theorem dX11_best_98 : decode cX11_best 98 = .ok (.goto (-78), 3) := by decide +kernel
theorem dX11_best_101 : decode cX11_best 101 = .ok (.aload_n 0, 1) := by decide +kernel
theorem dX11_best_102 : decode cX11_best 102 = .ok (.iload_n 2, 1) := by decide +kernel
theorem dX11_best_103 : decode cX11_best 103 = .ok (.putfield 44, 3) := by decide +kernel
theorem dX11_best_106 : decode cX11_best 106 = .ok (.iload_n 1, 1) := by decide +kernel
theorem dX11_best_107 : decode cX11_best 107 = .ok (.ireturn, 1) := by decide +kernel
theorem dX11_nearest_0 : decode cX11_nearest 0 = .ok (.aload_n 0, 1) := by decide +kernel
theorem dX11_nearest_1 : decode cX11_nearest 1 = .ok (.getfield 74, 3) := by decide +kernel
theorem dX11_nearest_4 : decode cX11_nearest 4 = .ok (.aload_n 0, 1) := by decide +kernel
theorem dX11_nearest_5 : decode cX11_nearest 5 = .ok (.getfield 60, 3) := by decide +kernel
theorem dX11_nearest_8 : decode cX11_nearest 8 = .ok (.aload_n 0, 1) := by decide +kernel
theorem dX11_nearest_9 : decode cX11_nearest 9 = .ok (.getfield 34, 3) := by decide +kernel
theorem dX11_nearest_12 : decode cX11_nearest 12 = .ok (.aload_n 0, 1) := by decide +kernel
theorem dX11_nearest_13 : decode cX11_nearest 13 = .ok (.getfield 38, 3) := by decide +kernel
theorem dX11_nearest_16 : decode cX11_nearest 16 = .ok (.invokevirtual 211, 3) := by decide +kernel
theorem dX11_nearest_19 : decode cX11_nearest 19 = .ok (.aload_n 0, 1) := by decide +kernel
theorem dX11_nearest_20 : decode cX11_nearest 20 = .ok (.getfield 74, 3) := by decide +kernel
theorem dX11_nearest_23 : decode cX11_nearest 23 = .ok (.invokevirtual 242, 3) := by decide +kernel
theorem dX11_nearest_26 : decode cX11_nearest 26 = .ok (.istore_n 1, 1) := by decide +kernel
theorem dX11_nearest_27 : decode cX11_nearest 27 = .ok (.aload_n 0, 1) := by decide +kernel
theorem dX11_nearest_28 : decode cX11_nearest 28 = .ok (.aload_n 0, 1) := by decide +kernel
theorem dX11_nearest_29 : decode cX11_nearest 29 = .ok (.getfield 74, 3) := by decide +kernel
theorem dX11_nearest_32 : decode cX11_nearest 32 = .ok (.iload_n 1, 1) := by decide +kernel
theorem dX11_nearest_33 : decode cX11_nearest 33 = .ok (.invokevirtual 229, 3) := by decide +kernel
theorem dX11_nearest_36 : decode cX11_nearest 36 = .ok (.putfield 44, 3) := by decide +kernel
theorem dX11_nearest_39 : decode cX11_nearest 39 = .ok (.aload_n 0, 1) := by decide +kernel
theorem dX11_nearest_40 : decode cX11_nearest 40 = .ok (.getfield 60, 3) := by decide +kernel
theorem dX11_nearest_43 : decode cX11_nearest 43 = .ok (.iload_n 1, 1) := by decide +kernel
theorem dX11_nearest_44 : decode cX11_nearest 44 = .ok (.invokevirtual 180, 3) := by decide +kernel
theorem dX11_nearest_47 : decode cX11_nearest 47 = .ok (.ireturn, 1) := by decide +kernel
theorem dX11_brings_0 : decode cX11_brings 0 = .ok (.iload_n 1, 1) := by decide +kernel
theorem dX11_brings_1 : decode cX11_brings 1 = .ok (.aload_n 0, 1) := by decide +kernel
theorem dX11_brings_2 : decode cX11_brings 2 = .ok (.getfield 60, 3) := by decide +kernel
theorem dX11_brings_5 : decode cX11_brings 5 = .ok (.getfield 146, 3) := by decide +kernel
theorem dX11_brings_8 : decode cX11_brings 8 = .ok (.invokestatic 85, 3) := by decide +kernel
theorem dX11_brings_11 : decode cX11_brings 11 = .ok (.ifCond .eq 17, 3) := by decide +kernel
theorem dX11_brings_14 : decode cX11_brings 14 = .ok (.iload_n 2, 1) := by decide +kernel
theorem dX11_brings_15 : decode cX11_brings 15 = .ok (.aload_n 0, 1) := by decide +kernel
theorem dX11_brings_16 : decode cX11_brings 16 = .ok (.getfield 60, 3) := by decide +kernel
theorem dX11_brings_19 : decode cX11_brings 19 = .ok (.getfield 198, 3) := by decide +kernel
theorem dX11_brings_22 : decode cX11_brings 22 = .ok (.invokestatic 85, 3) := by decide +kernel
theorem dX11_brings_25 : decode cX11_brings 25 = .ok (.ifCond .ne 5, 3) := by decide +kernel
theorem dX11_brings_28 : decode cX11_brings 28 = .ok (.iconst (-1), 1) := by decide +kernel
theorem dX11_brings_29 : decode cX11_brings 29 = .ok (.ireturn, 1) := by decide +kernel
theorem dX11_brings_30 : decode cX11_brings 30 = .ok (.aload_n 0, 1) := by decide +kernel
theorem dX11_brings_31 : decode cX11_brings 31 = .ok (.getfield 74, 3) := by decide +kernel
theorem dX11_brings_34 : decode cX11_brings 34 = .ok (.aload_n 0, 1) := by decide +kernel
theorem dX11_brings_35 : decode cX11_brings 35 = .ok (.getfield 60, 3) := by decide +kernel
theorem dX11_brings_38 : decode cX11_brings 38 = .ok (.aload_n 0, 1) := by decide +kernel
theorem dX11_brings_39 : decode cX11_brings 39 = .ok (.getfield 34, 3) := by decide +kernel
theorem dX11_brings_42 : decode cX11_brings 42 = .ok (.aload_n 0, 1) := by decide +kernel
theorem dX11_brings_43 : decode cX11_brings 43 = .ok (.getfield 38, 3) := by decide +kernel
theorem dX11_brings_46 : decode cX11_brings 46 = .ok (.invokevirtual 211, 3) := by decide +kernel
theorem dX11_brings_49 : decode cX11_brings 49 = .ok (.aload_n 0, 1) := by decide +kernel
theorem dX11_brings_50 : decode cX11_brings 50 = .ok (.getfield 74, 3) := by decide +kernel
theorem dX11_brings_53 : decode cX11_brings 53 = .ok (.iload_n 1, 1) := by decide +kernel
theorem dX11_brings_54 : decode cX11_brings 54 = .ok (.iload_n 2, 1) := by decide +kernel
theorem dX11_brings_55 : decode cX11_brings 55 = .ok (.invokevirtual 245, 3) := by decide +kernel
theorem dX11_brings_58 : decode cX11_brings 58 = .ok (.istore_n 3, 1) := by decide +kernel
theorem dX11_brings_59 : decode cX11_brings 59 = .ok (.iload_n 3, 1) := by decide +kernel
theorem dX11_brings_60 : decode cX11_brings 60 = .ok (.ifCond .ge 8, 3) := by decide +kernel
theorem dX11_brings_63 : decode cX11_brings 63 = .ok (.bipush (-9), 2) := by decide +kernel
theorem dX11_brings_65 : decode cX11_brings 65 = .ok (.goto 11, 3) := by decide +kernel
theorem dX11_brings_68 : decode cX11_brings 68 = .ok (.aload_n 0, 1) := by decide +kernel
theorem dX11_brings_69 : decode cX11_brings 69 = .ok (.getfield 74, 3) := by decide +kernel
theorem dX11_brings_72 : decode cX11_brings 72 = .ok (.iload_n 3, 1) := by decide +kernel
theorem dX11_brings_73 : decode cX11_brings 73 = .ok (.invokevirtual 229, 3) := by decide +kernel
theorem dX11_brings_76 : decode cX11_brings 76 = .ok (.ireturn, 1) := by decide +kernel
theorem dX11_earn_0 : decode cX11_earn 0 = .ok (.iload_n 1, 1) := by decide +kernel
theorem dX11_earn_1 : decode cX11_earn 1 = .ok (.iconst 1, 1) := by decide +kernel
theorem dX11_earn_2 : decode cX11_earn 2 = .ok (.if_icmp .lt 8, 3) := by decide +kernel
theorem dX11_earn_5 : decode cX11_earn 5 = .ok (.iload_n 1, 1) := by decide +kernel
theorem dX11_earn_6 : decode cX11_earn 6 = .ok (.iconst 4, 1) := by decide +kernel
theorem dX11_earn_7 : decode cX11_earn 7 = .ok (.if_icmp .le 5, 3) := by decide +kernel
theorem dX11_earn_10 : decode cX11_earn 10 = .ok (.iconst (-1), 1) := by decide +kernel
theorem dX11_earn_11 : decode cX11_earn 11 = .ok (.ireturn, 1) := by decide +kernel
theorem dX11_earn_12 : decode cX11_earn 12 = .ok (.aload_n 0, 1) := by decide +kernel
theorem dX11_earn_13 : decode cX11_earn 13 = .ok (.getfield 60, 3) := by decide +kernel
theorem dX11_earn_16 : decode cX11_earn 16 = .ok (.getfield 153, 3) := by decide +kernel
theorem dX11_earn_19 : decode cX11_earn 19 = .ok (.ifCond .ne 6, 3) := by decide +kernel
theorem dX11_earn_22 : decode cX11_earn 22 = .ok (.bipush (-4), 2) := by decide +kernel
theorem dX11_earn_24 : decode cX11_earn 24 = .ok (.ireturn, 1) := by decide +kernel
theorem dX11_earn_25 : decode cX11_earn 25 = .ok (.aload_n 0, 1) := by decide +kernel
theorem dX11_earn_26 : decode cX11_earn 26 = .ok (.getfield 74, 3) := by decide +kernel
theorem dX11_earn_29 : decode cX11_earn 29 = .ok (.aload_n 0, 1) := by decide +kernel
theorem dX11_earn_30 : decode cX11_earn 30 = .ok (.getfield 60, 3) := by decide +kernel
theorem dX11_earn_33 : decode cX11_earn 33 = .ok (.aload_n 0, 1) := by decide +kernel
theorem dX11_earn_34 : decode cX11_earn 34 = .ok (.getfield 34, 3) := by decide +kernel
theorem dX11_earn_37 : decode cX11_earn 37 = .ok (.aload_n 0, 1) := by decide +kernel
theorem dX11_earn_38 : decode cX11_earn 38 = .ok (.getfield 38, 3) := by decide +kernel
theorem dX11_earn_41 : decode cX11_earn 41 = .ok (.invokevirtual 211, 3) := by decide +kernel
theorem dX11_earn_44 : decode cX11_earn 44 = .ok (.aload_n 0, 1) := by decide +kernel
theorem dX11_earn_45 : decode cX11_earn 45 = .ok (.getfield 74, 3) := by decide +kernel
theorem dX11_earn_48 : decode cX11_earn 48 = .ok (.iload_n 1, 1) := by decide +kernel
theorem dX11_earn_49 : decode cX11_earn 49 = .ok (.invokevirtual 248, 3) := by decide +kernel
theorem dX11_earn_52 : decode cX11_earn 52 = .ok (.istore_n 2, 1) := by decide +kernel
theorem dX11_earn_53 : decode cX11_earn 53 = .ok (.aload_n 0, 1) := by decide +kernel
theorem dX11_earn_54 : decode cX11_earn 54 = .ok (.aload_n 0, 1) := by decide +kernel
theorem dX11_earn_55 : decode cX11_earn 55 = .ok (.getfield 74, 3) := by decide +kernel
theorem dX11_earn_58 : decode cX11_earn 58 = .ok (.getfield 251, 3) := by decide +kernel
theorem dX11_earn_61 : decode cX11_earn 61 = .ok (.putfield 44, 3) := by decide +kernel
theorem dX11_earn_64 : decode cX11_earn 64 = .ok (.iload_n 2, 1) := by decide +kernel
theorem dX11_earn_65 : decode cX11_earn 65 = .ok (.ireturn, 1) := by decide +kernel
theorem dX11_moved_0 : decode cX11_moved 0 = .ok (.aload_n 0, 1) := by decide +kernel
theorem dX11_moved_1 : decode cX11_moved 1 = .ok (.iload_n 1, 1) := by decide +kernel
theorem dX11_moved_2 : decode cX11_moved 2 = .ok (.invokevirtual 254, 3) := by decide +kernel
theorem dX11_moved_5 : decode cX11_moved 5 = .ok (.istore_n 2, 1) := by decide +kernel
theorem dX11_moved_6 : decode cX11_moved 6 = .ok (.iload_n 2, 1) := by decide +kernel
theorem dX11_moved_7 : decode cX11_moved 7 = .ok (.ifCond .eq 5, 3) := by decide +kernel
theorem dX11_moved_10 : decode cX11_moved 10 = .ok (.iload_n 2, 1) := by decide +kernel
theorem dX11_moved_11 : decode cX11_moved 11 = .ok (.ireturn, 1) := by decide +kernel
theorem dX11_moved_12 : decode cX11_moved 12 = .ok (.aload_n 0, 1) := by decide +kernel
theorem dX11_moved_13 : decode cX11_moved 13 = .ok (.getfield 74, 3) := by decide +kernel
theorem dX11_moved_16 : decode cX11_moved 16 = .ok (.aload_n 0, 1) := by decide +kernel
theorem dX11_moved_17 : decode cX11_moved 17 = .ok (.getfield 60, 3) := by decide +kernel
theorem dX11_moved_20 : decode cX11_moved 20 = .ok (.aload_n 0, 1) := by decide +kernel
theorem dX11_moved_21 : decode cX11_moved 21 = .ok (.getfield 34, 3) := by decide +kernel
theorem dX11_moved_24 : decode cX11_moved 24 = .ok (.aload_n 0, 1) := by decide +kernel
theorem dX11_moved_25 : decode cX11_moved 25 = .ok (.getfield 38, 3) := by decide +kernel
theorem dX11_moved_28 : decode cX11_moved 28 = .ok (.invokevirtual 211, 3) := by decide +kernel
theorem dX11_moved_31 : decode cX11_moved 31 = .ok (.aload_n 0, 1) := by decide +kernel
theorem dX11_moved_32 : decode cX11_moved 32 = .ok (.getfield 74, 3) := by decide +kernel
theorem dX11_moved_35 : decode cX11_moved 35 = .ok (.aload_n 0, 1) := by decide +kernel
theorem dX11_moved_36 : decode cX11_moved 36 = .ok (.aload_n 0, 1) := by decide +kernel
theorem dX11_moved_37 : decode cX11_moved 37 = .ok (.getfield 11, 3) := by decide +kernel
theorem dX11_moved_40 : decode cX11_moved 40 = .ok (.iload_n 1, 1) := by decide +kernel
theorem dX11_moved_41 : decode cX11_moved 41 = .ok (.aaload, 1) := by decide +kernel
theorem dX11_moved_42 : decode cX11_moved 42 = .ok (.invokevirtual 257, 3) := by decide +kernel
theorem dX11_moved_45 : decode cX11_moved 45 = .ok (.invokevirtual 261, 3) := by decide +kernel
theorem dX11_moved_48 : decode cX11_moved 48 = .ok (.istore_n 3, 1) := by decide +kernel
theorem dX11_moved_49 : decode cX11_moved 49 = .ok (.iload_n 3, 1) := by decide +kernel
theorem dX11_moved_50 : decode cX11_moved 50 = .ok (.ifCond .lt 14, 3) := by decide +kernel
theorem dX11_moved_53 : decode cX11_moved 53 = .ok (.aload_n 0, 1) := by decide +kernel
theorem dX11_moved_54 : decode cX11_moved 54 = .ok (.aload_n 0, 1) := by decide +kernel
theorem dX11_moved_55 : decode cX11_moved 55 = .ok (.getfield 74, 3) := by decide +kernel
theorem dX11_moved_58 : decode cX11_moved 58 = .ok (.getfield 264, 3) := by decide +kernel
theorem dX11_moved_61 : decode cX11_moved 61 = .ok (.putfield 44, 3) := by decide +kernel
theorem dX11_moved_64 : decode cX11_moved 64 = .ok (.iload_n 3, 1) := by decide +kernel
theorem dX11_moved_65 : decode cX11_moved 65 = .ok (.ireturn, 1) := by decide +kernel
theorem dX11_who_0 : decode cX11_who 0 = .ok (.aload_n 0, 1) := by decide +kernel
theorem dX11_who_1 : decode cX11_who 1 = .ok (.iload_n 1, 1) := by decide +kernel
theorem dX11_who_2 : decode cX11_who 2 = .ok (.invokevirtual 254, 3) := by decide +kernel
theorem dX11_who_5 : decode cX11_who 5 = .ok (.istore_n 2, 1) := by decide +kernel
theorem dX11_who_6 : decode cX11_who 6 = .ok (.iload_n 2, 1) := by decide +kernel
theorem dX11_who_7 : decode cX11_who 7 = .ok (.ifCond .eq 5, 3) := by decide +kernel
theorem dX11_who_10 : decode cX11_who 10 = .ok (.iload_n 2, 1) := by decide +kernel
theorem dX11_who_11 : decode cX11_who 11 = .ok (.ireturn, 1) := by decide +kernel
theorem dX11_who_12 : decode cX11_who 12 = .ok (.aload_n 0, 1) := by decide +kernel
theorem dX11_who_13 : decode cX11_who 13 = .ok (.getfield 74, 3) := by decide +kernel
theorem dX11_who_16 : decode cX11_who 16 = .ok (.aload_n 0, 1) := by decide +kernel
theorem dX11_who_17 : decode cX11_who 17 = .ok (.getfield 60, 3) := by decide +kernel
theorem dX11_who_20 : decode cX11_who 20 = .ok (.aload_n 0, 1) := by decide +kernel
theorem dX11_who_21 : decode cX11_who 21 = .ok (.getfield 34, 3) := by decide +kernel
