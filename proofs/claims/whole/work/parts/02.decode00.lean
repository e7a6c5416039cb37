theorem dX0_init_0 : decode cX0_init 0 = .ok (.aload_n 0, 1) := by decide +kernel
theorem dX0_init_1 : decode cX0_init 1 = .ok (.iload_n 1, 1) := by decide +kernel
theorem dX0_init_2 : decode cX0_init 2 = .ok (.iload_n 2, 1) := by decide +kernel
theorem dX0_init_3 : decode cX0_init 3 = .ok (.invokespecial 1, 3) := by decide +kernel
theorem dX0_init_6 : decode cX0_init 6 = .ok (.return_, 1) := by decide +kernel
theorem dX0_kind_0 : decode cX0_kind 0 = .ok (.iconst 2, 1) := by decide +kernel
theorem dX0_kind_1 : decode cX0_kind 1 = .ok (.ireturn, 1) := by decide +kernel
theorem dX0_go_0 : decode cX0_go 0 = .ok (.aload_n 0, 1) := by decide +kernel
theorem dX0_go_1 : decode cX0_go 1 = .ok (.aload_n 1, 1) := by decide +kernel
theorem dX0_go_2 : decode cX0_go 2 = .ok (.aload_n 0, 1) := by decide +kernel
theorem dX0_go_3 : decode cX0_go 3 = .ok (.getfield 7, 3) := by decide +kernel
theorem dX0_go_6 : decode cX0_go 6 = .ok (.aload_n 0, 1) := by decide +kernel
theorem dX0_go_7 : decode cX0_go 7 = .ok (.getfield 13, 3) := by decide +kernel
theorem dX0_go_10 : decode cX0_go 10 = .ok (.invokevirtual 16, 3) := by decide +kernel
theorem dX0_go_13 : decode cX0_go 13 = .ok (.aload_n 0, 1) := by decide +kernel
theorem dX0_go_14 : decode cX0_go 14 = .ok (.aload_n 1, 1) := by decide +kernel
theorem dX0_go_15 : decode cX0_go 15 = .ok (.aload_n 0, 1) := by decide +kernel
theorem dX0_go_16 : decode cX0_go 16 = .ok (.getfield 13, 3) := by decide +kernel
theorem dX0_go_19 : decode cX0_go 19 = .ok (.aload_n 0, 1) := by decide +kernel
theorem dX0_go_20 : decode cX0_go 20 = .ok (.getfield 7, 3) := by decide +kernel
theorem dX0_go_23 : decode cX0_go 23 = .ok (.invokevirtual 16, 3) := by decide +kernel
theorem dX0_go_26 : decode cX0_go 26 = .ok (.return_, 1) := by decide +kernel
theorem dX0_tell_0 : decode cX0_tell 0 = .ok (.iload_n 1, 1) := by decide +kernel
theorem dX0_tell_1 : decode cX0_tell 1 = .ok (.iconst 2, 1) := by decide +kernel
theorem dX0_tell_2 : decode cX0_tell 2 = .ok (.if_icmp .eq 10, 3) := by decide +kernel
theorem dX0_tell_5 : decode cX0_tell 5 = .ok (.aload_n 0, 1) := by decide +kernel
theorem dX0_tell_6 : decode cX0_tell 6 = .ok (.iload_n 1, 1) := by decide +kernel
theorem dX0_tell_7 : decode cX0_tell 7 = .ok (.aload_n 2, 1) := by decide +kernel
theorem dX0_tell_8 : decode cX0_tell 8 = .ok (.invokespecial 20, 3) := by decide +kernel
theorem dX0_tell_11 : decode cX0_tell 11 = .ok (.ireturn, 1) := by decide +kernel
theorem dX0_tell_12 : decode cX0_tell 12 = .ok (.aload_n 0, 1) := by decide +kernel
theorem dX0_tell_13 : decode cX0_tell 13 = .ok (.aload_n 2, 1) := by decide +kernel
theorem dX0_tell_14 : decode cX0_tell 14 = .ok (.invokevirtual 24, 3) := by decide +kernel
theorem dX0_tell_17 : decode cX0_tell 17 = .ok (.aload_n 2, 1) := by decide +kernel
theorem dX0_tell_18 : decode cX0_tell 18 = .ok (.invokevirtual 28, 3) := by decide +kernel
theorem dX0_tell_21 : decode cX0_tell 21 = .ok (.ireturn, 1) := by decide +kernel
theorem dX1_init_0 : decode cX1_init 0 = .ok (.aload_n 0, 1) := by decide +kernel
theorem dX1_init_1 : decode cX1_init 1 = .ok (.iload_n 1, 1) := by decide +kernel
theorem dX1_init_2 : decode cX1_init 2 = .ok (.iload_n 2, 1) := by decide +kernel
theorem dX1_init_3 : decode cX1_init 3 = .ok (.invokespecial 1, 3) := by decide +kernel
theorem dX1_init_6 : decode cX1_init 6 = .ok (.return_, 1) := by decide +kernel
theorem dX1_kind_0 : decode cX1_kind 0 = .ok (.iconst 1, 1) := by decide +kernel
theorem dX1_kind_1 : decode cX1_kind 1 = .ok (.ireturn, 1) := by decide +kernel
theorem dX1_go_0 : decode cX1_go 0 = .ok (.aload_n 1, 1) := by decide +kernel
theorem dX1_go_1 : decode cX1_go 1 = .ok (.aload_n 0, 1) := by decide +kernel
theorem dX1_go_2 : decode cX1_go 2 = .ok (.getfield 7, 3) := by decide +kernel
theorem dX1_go_5 : decode cX1_go 5 = .ok (.aload_n 0, 1) := by decide +kernel
theorem dX1_go_6 : decode cX1_go 6 = .ok (.getfield 13, 3) := by decide +kernel
theorem dX1_go_9 : decode cX1_go 9 = .ok (.aload_n 1, 1) := by decide +kernel
theorem dX1_go_10 : decode cX1_go 10 = .ok (.getfield 16, 3) := by decide +kernel
theorem dX1_go_13 : decode cX1_go 13 = .ok (.invokevirtual 21, 3) := by decide +kernel
theorem dX1_go_16 : decode cX1_go 16 = .ok (.istore_n 2, 1) := by decide +kernel
theorem dX1_go_17 : decode cX1_go 17 = .ok (.aload_n 1, 1) := by decide +kernel
theorem dX1_go_18 : decode cX1_go 18 = .ok (.iload_n 2, 1) := by decide +kernel
theorem dX1_go_19 : decode cX1_go 19 = .ok (.iconst 0, 1) := by decide +kernel
theorem dX1_go_20 : decode cX1_go 20 = .ok (.invokestatic 25, 3) := by decide +kernel
theorem dX1_go_23 : decode cX1_go 23 = .ok (.invokevirtual 31, 3) := by decide +kernel
theorem dX1_go_26 : decode cX1_go 26 = .ok (.istore_n 3, 1) := by decide +kernel
theorem dX1_go_27 : decode cX1_go 27 = .ok (.iload_n 3, 1) := by decide +kernel
theorem dX1_go_28 : decode cX1_go 28 = .ok (.aload_n 0, 1) := by decide +kernel
theorem dX1_go_29 : decode cX1_go 29 = .ok (.getfield 13, 3) := by decide +kernel
theorem dX1_go_32 : decode cX1_go 32 = .ok (.invokestatic 35, 3) := by decide +kernel
theorem dX1_go_35 : decode cX1_go 35 = .ok (.istore 4, 2) := by decide +kernel
theorem dX1_go_37 : decode cX1_go 37 = .ok (.iconst 0, 1) := by decide +kernel
theorem dX1_go_38 : decode cX1_go 38 = .ok (.istore 5, 2) := by decide +kernel
theorem dX1_go_40 : decode cX1_go 40 = .ok (.iload 5, 2) := by decide +kernel
theorem dX1_go_42 : decode cX1_go 42 = .ok (.iconst 3, 1) := by decide +kernel
theorem dX1_go_43 : decode cX1_go 43 = .ok (.if_icmp .ge 32, 3) := by decide +kernel
theorem dX1_go_46 : decode cX1_go 46 = .ok (.iload_n 2, 1) := by decide +kernel
theorem dX1_go_47 : decode cX1_go 47 = .ok (.ifCond .lt 28, 3) := by decide +kernel
theorem dX1_go_50 : decode cX1_go 50 = .ok (.aload_n 1, 1) := by decide +kernel
theorem dX1_go_51 : decode cX1_go 51 = .ok (.iload_n 2, 1) := by decide +kernel
theorem dX1_go_52 : decode cX1_go 52 = .ok (.iload 4, 2) := by decide +kernel
theorem dX1_go_54 : decode cX1_go 54 = .ok (.invokevirtual 38, 3) := by decide +kernel
theorem dX1_go_57 : decode cX1_go 57 = .ok (.aload_n 1, 1) := by decide +kernel
theorem dX1_go_58 : decode cX1_go 58 = .ok (.iload_n 3, 1) := by decide +kernel
theorem dX1_go_59 : decode cX1_go 59 = .ok (.iload 4, 2) := by decide +kernel
theorem dX1_go_61 : decode cX1_go 61 = .ok (.aload_n 1, 1) := by decide +kernel
theorem dX1_go_62 : decode cX1_go 62 = .ok (.getfield 16, 3) := by decide +kernel
theorem dX1_go_65 : decode cX1_go 65 = .ok (.invokevirtual 21, 3) := by decide +kernel
theorem dX1_go_68 : decode cX1_go 68 = .ok (.istore_n 2, 1) := by decide +kernel
theorem dX1_go_69 : decode cX1_go 69 = .ok (.iinc 5 1, 3) := by decide +kernel
theorem dX1_go_72 : decode cX1_go 72 = .ok (.goto (-32), 3) := by decide +kernel
theorem dX1_go_75 : decode cX1_go 75 = .ok (.return_, 1) := by decide +kernel
theorem dX1_tell_0 : decode cX1_tell 0 = .ok (.iload_n 1, 1) := by decide +kernel
theorem dX1_tell_1 : decode cX1_tell 1 = .ok (.iconst 1, 1) := by decide +kernel
theorem dX1_tell_2 : decode cX1_tell 2 = .ok (.if_icmp .eq 10, 3) := by decide +kernel
theorem dX1_tell_5 : decode cX1_tell 5 = .ok (.aload_n 0, 1) := by decide +kernel
theorem dX1_tell_6 : decode cX1_tell 6 = .ok (.iload_n 1, 1) := by decide +kernel
theorem dX1_tell_7 : decode cX1_tell 7 = .ok (.aload_n 2, 1) := by decide +kernel
theorem dX1_tell_8 : decode cX1_tell 8 = .ok (.invokespecial 41, 3) := by decide +kernel
theorem dX1_tell_11 : decode cX1_tell 11 = .ok (.ireturn, 1) := by decide +kernel
theorem dX1_tell_12 : decode cX1_tell 12 = .ok (.aload_n 0, 1) := by decide +kernel
theorem dX1_tell_13 : decode cX1_tell 13 = .ok (.aload_n 2, 1) := by decide +kernel
theorem dX1_tell_14 : decode cX1_tell 14 = .ok (.invokevirtual 45, 3) := by decide +kernel
theorem dX1_tell_17 : decode cX1_tell 17 = .ok (.aload_n 2, 1) := by decide +kernel
theorem dX1_tell_18 : decode cX1_tell 18 = .ok (.getfield 49, 3) := by decide +kernel
theorem dX1_tell_21 : decode cX1_tell 21 = .ok (.ireturn, 1) := by decide +kernel
theorem dX2_init_0 : decode cX2_init 0 = .ok (.aload_n 0, 1) := by decide +kernel
theorem dX2_init_1 : decode cX2_init 1 = .ok (.iload_n 1, 1) := by decide +kernel
theorem dX2_init_2 : decode cX2_init 2 = .ok (.iload_n 2, 1) := by decide +kernel
theorem dX2_init_3 : decode cX2_init 3 = .ok (.invokespecial 1, 3) := by decide +kernel
theorem dX2_init_6 : decode cX2_init 6 = .ok (.return_, 1) := by decide +kernel
theorem dX2_kind_0 : decode cX2_kind 0 = .ok (.iconst 3, 1) := by decide +kernel
theorem dX2_kind_1 : decode cX2_kind 1 = .ok (.ireturn, 1) := by decide +kernel
theorem dX2_go_0 : decode cX2_go 0 = .ok (.aload_n 0, 1) := by decide +kernel
theorem dX2_go_1 : decode cX2_go 1 = .ok (.aload_n 1, 1) := by decide +kernel
theorem dX2_go_2 : decode cX2_go 2 = .ok (.aload_n 0, 1) := by decide +kernel
theorem dX2_go_3 : decode cX2_go 3 = .ok (.getfield 7, 3) := by decide +kernel
theorem dX2_go_6 : decode cX2_go 6 = .ok (.aload_n 0, 1) := by decide +kernel
theorem dX2_go_7 : decode cX2_go 7 = .ok (.getfield 7, 3) := by decide +kernel
theorem dX2_go_10 : decode cX2_go 10 = .ok (.aload_n 0, 1) := by decide +kernel
theorem dX2_go_11 : decode cX2_go 11 = .ok (.getfield 13, 3) := by decide +kernel
theorem dX2_go_14 : decode cX2_go 14 = .ok (.invokestatic 16, 3) := by decide +kernel
theorem dX2_go_17 : decode cX2_go 17 = .ok (.invokevirtual 20, 3) := by decide +kernel
theorem dX2_go_20 : decode cX2_go 20 = .ok (.return_, 1) := by decide +kernel
theorem dX2_tell_0 : decode cX2_tell 0 = .ok (.iload_n 1, 1) := by decide +kernel
theorem dX2_tell_1 : decode cX2_tell 1 = .ok (.iconst 3, 1) := by decide +kernel
theorem dX2_tell_2 : decode cX2_tell 2 = .ok (.if_icmp .ne 17, 3) := by decide +kernel
theorem dX2_tell_5 : decode cX2_tell 5 = .ok (.aload_n 0, 1) := by decide +kernel
theorem dX2_tell_6 : decode cX2_tell 6 = .ok (.getfield 7, 3) := by decide +kernel
theorem dX2_tell_9 : decode cX2_tell 9 = .ok (.aload_n 0, 1) := by decide +kernel
theorem dX2_tell_10 : decode cX2_tell 10 = .ok (.getfield 13, 3) := by decide +kernel
theorem dX2_tell_13 : decode cX2_tell 13 = .ok (.invokestatic 16, 3) := by decide +kernel
theorem dX2_tell_16 : decode cX2_tell 16 = .ok (.goto 9, 3) := by decide +kernel
theorem dX2_tell_19 : decode cX2_tell 19 = .ok (.aload_n 0, 1) := by decide +kernel
theorem dX2_tell_20 : decode cX2_tell 20 = .ok (.iload_n 1, 1) := by decide +kernel
theorem dX2_tell_21 : decode cX2_tell 21 = .ok (.aload_n 2, 1) := by decide +kernel
theorem dX2_tell_22 : decode cX2_tell 22 = .ok (.invokespecial 24, 3) := by decide +kernel
theorem dX2_tell_25 : decode cX2_tell 25 = .ok (.ireturn, 1) := by decide +kernel
theorem dX3_init_0 : decode cX3_init 0 = .ok (.aload_n 0, 1) := by decide +kernel
theorem dX3_init_1 : decode cX3_init 1 = .ok (.iload_n 1, 1) := by decide +kernel
theorem dX3_init_2 : decode cX3_init 2 = .ok (.iload_n 2, 1) := by decide +kernel
theorem dX3_init_3 : decode cX3_init 3 = .ok (.invokespecial 1, 3) := by decide +kernel
theorem dX3_init_6 : decode cX3_init 6 = .ok (.return_, 1) := by decide +kernel
theorem dX3_kind_0 : decode cX3_kind 0 = .ok (.iconst 5, 1) := by decide +kernel
theorem dX3_kind_1 : decode cX3_kind 1 = .ok (.ireturn, 1) := by decide +kernel
theorem dX3_goalFrom_0 : decode cX3_goalFrom 0 = .ok (.iload_n 2, 1) := by decide +kernel
theorem dX3_goalFrom_1 : decode cX3_goalFrom 1 = .ok (.ireturn, 1) := by decide +kernel
theorem dX3_tell_0 : decode cX3_tell 0 = .ok (.iload_n 1, 1) := by decide +kernel
theorem dX3_tell_1 : decode cX3_tell 1 = .ok (.iconst 5, 1) := by decide +kernel
theorem dX3_tell_2 : decode cX3_tell 2 = .ok (.if_icmp .ne 20, 3) := by decide +kernel
theorem dX3_tell_5 : decode cX3_tell 5 = .ok (.iconst 2, 1) := by decide +kernel
theorem dX3_tell_6 : decode cX3_tell 6 = .ok (.aload_n 0, 1) := by decide +kernel
theorem dX3_tell_7 : decode cX3_tell 7 = .ok (.getfield 9, 3) := by decide +kernel
theorem dX3_tell_10 : decode cX3_tell 10 = .ok (.aload_n 0, 1) := by decide +kernel
theorem dX3_tell_11 : decode cX3_tell 11 = .ok (.getfield 15, 3) := by decide +kernel
theorem dX3_tell_14 : decode cX3_tell 14 = .ok (.isub, 1) := by decide +kernel
theorem dX3_tell_15 : decode cX3_tell 15 = .ok (.invokestatic 18, 3) := by decide +kernel
theorem dX3_tell_18 : decode cX3_tell 18 = .ok (.imul, 1) := by decide +kernel
theorem dX3_tell_19 : decode cX3_tell 19 = .ok (.goto 9, 3) := by decide +kernel
theorem dX3_tell_22 : decode cX3_tell 22 = .ok (.aload_n 0, 1) := by decide +kernel
theorem dX3_tell_23 : decode cX3_tell 23 = .ok (.iload_n 1, 1) := by decide +kernel
theorem dX3_tell_24 : decode cX3_tell 24 = .ok (.aload_n 2, 1) := by decide +kernel
theorem dX3_tell_25 : decode cX3_tell 25 = .ok (.invokespecial 24, 3) := by decide +kernel
theorem dX3_tell_28 : decode cX3_tell 28 = .ok (.ireturn, 1) := by decide +kernel
theorem dX4_init_0 : decode cX4_init 0 = .ok (.aload_n 0, 1) := by decide +kernel
theorem dX4_init_1 : decode cX4_init 1 = .ok (.invokespecial 3, 3) := by decide +kernel
theorem dX4_init_4 : decode cX4_init 4 = .ok (.aload_n 0, 1) := by decide +kernel
theorem dX4_init_5 : decode cX4_init 5 = .ok (.new 9, 3) := by decide +kernel
theorem dX4_init_8 : decode cX4_init 8 = .ok (.dup, 1) := by decide +kernel
theorem dX4_init_9 : decode cX4_init 9 = .ok (.invokespecial 11, 3) := by decide +kernel
theorem dX4_init_12 : decode cX4_init 12 = .ok (.putfield 12, 3) := by decide +kernel
theorem dX4_init_15 : decode cX4_init 15 = .ok (.aload_n 0, 1) := by decide +kernel
theorem dX4_init_16 : decode cX4_init 16 = .ok (.iconst 0, 1) := by decide +kernel
theorem dX4_init_17 : decode cX4_init 17 = .ok (.putfield 18, 3) := by decide +kernel
theorem dX4_init_20 : decode cX4_init 20 = .ok (.aload_n 0, 1) := by decide +kernel
theorem dX4_init_21 : decode cX4_init 21 = .ok (.aload_n 1, 1) := by decide +kernel
theorem dX4_init_22 : decode cX4_init 22 = .ok (.putfield 22, 3) := by decide +kernel
theorem dX4_init_25 : decode cX4_init 25 = .ok (.return_, 1) := by decide +kernel
theorem dX4_read_0 : decode cX4_read 0 = .ok (.aload_n 0, 1) := by decide +kernel
theorem dX4_read_1 : decode cX4_read 1 = .ok (.invokevirtual 26, 3) := by decide +kernel
theorem dX4_read_4 : decode cX4_read 4 = .ok (.aload_n 0, 1) := by decide +kernel
theorem dX4_read_5 : decode cX4_read 5 = .ok (.invokevirtual 29, 3) := by decide +kernel
theorem dX4_read_8 : decode cX4_read 8 = .ok (.ifCond .ne 8, 3) := by decide +kernel
theorem dX4_read_11 : decode cX4_read 11 = .ok (.aload_n 0, 1) := by decide +kernel
theorem dX4_read_12 : decode cX4_read 12 = .ok (.getfield 18, 3) := by decide +kernel
theorem dX4_read_15 : decode cX4_read 15 = .ok (.ireturn, 1) := by decide +kernel
theorem dX4_read_16 : decode cX4_read 16 = .ok (.aload_n 0, 1) := by decide +kernel
theorem dX4_read_17 : decode cX4_read 17 = .ok (.invokevirtual 26, 3) := by decide +kernel
theorem dX4_read_20 : decode cX4_read 20 = .ok (.iconst 0, 1) := by decide +kernel
theorem dX4_read_21 : decode cX4_read 21 = .ok (.istore_n 1, 1) := by decide +kernel
theorem dX4_read_22 : decode cX4_read 22 = .ok (.aload_n 0, 1) := by decide +kernel
theorem dX4_read_23 : decode cX4_read 23 = .ok (.invokevirtual 33, 3) := by decide +kernel
theorem dX4_read_26 : decode cX4_read 26 = .ok (.sipush 256, 3) := by decide +kernel
theorem dX4_read_29 : decode cX4_read 29 = .ok (.if_icmp .eq 49, 3) := by decide +kernel
theorem dX4_read_32 : decode cX4_read 32 = .ok (.iload_n 1, 1) := by decide +kernel
theorem dX4_read_33 : decode cX4_read 33 = .ok (.bipush 60, 2) := by decide +kernel
theorem dX4_read_35 : decode cX4_read 35 = .ok (.if_icmp .ge 43, 3) := by decide +kernel
theorem dX4_read_38 : decode cX4_read 38 = .ok (.aload_n 0, 1) := by decide +kernel
theorem dX4_read_39 : decode cX4_read 39 = .ok (.invokevirtual 33, 3) := by decide +kernel
theorem dX4_read_42 : decode cX4_read 42 = .ok (.bipush 109, 2) := by decide +kernel
theorem dX4_read_44 : decode cX4_read 44 = .ok (.if_icmp .ne 10, 3) := by decide +kernel
theorem dX4_read_47 : decode cX4_read 47 = .ok (.aload_n 0, 1) := by decide +kernel
theorem dX4_read_48 : decode cX4_read 48 = .ok (.invokevirtual 37, 3) := by decide +kernel
theorem dX4_read_51 : decode cX4_read 51 = .ok (.goto 7, 3) := by decide +kernel
theorem dX4_read_54 : decode cX4_read 54 = .ok (.aload_n 0, 1) := by decide +kernel
theorem dX4_read_55 : decode cX4_read 55 = .ok (.invokevirtual 40, 3) := by decide +kernel
theorem dX4_read_58 : decode cX4_read 58 = .ok (.istore_n 2, 1) := by decide +kernel
theorem dX4_read_59 : decode cX4_read 59 = .ok (.iload_n 2, 1) := by decide +kernel
theorem dX4_read_60 : decode cX4_read 60 = .ok (.ifCond .ne 8, 3) := by decide +kernel
theorem dX4_read_63 : decode cX4_read 63 = .ok (.aload_n 0, 1) := by decide +kernel
theorem dX4_read_64 : decode cX4_read 64 = .ok (.getfield 18, 3) := by decide +kernel
theorem dX4_read_67 : decode cX4_read 67 = .ok (.ireturn, 1) := by decide +kernel
theorem dX4_read_68 : decode cX4_read 68 = .ok (.aload_n 0, 1) := by decide +kernel
theorem dX4_read_69 : decode cX4_read 69 = .ok (.invokevirtual 26, 3) := by decide +kernel
theorem dX4_read_72 : decode cX4_read 72 = .ok (.iinc 1 1, 3) := by decide +kernel
theorem dX4_read_75 : decode cX4_read 75 = .ok (.goto (-53), 3) := by decide +kernel
theorem dX4_read_78 : decode cX4_read 78 = .ok (.bipush (-9), 2) := by decide +kernel
theorem dX4_read_80 : decode cX4_read 80 = .ok (.ireturn, 1) := by decide +kernel
theorem dX4_sign_0 : decode cX4_sign 0 = .ok (.aload_n 0, 1) := by decide +kernel
theorem dX4_sign_1 : decode cX4_sign 1 = .ok (.getfield 22, 3) := by decide +kernel
theorem dX4_sign_4 : decode cX4_sign 4 = .ok (.aload_n 0, 1) := by decide +kernel
theorem dX4_sign_5 : decode cX4_sign 5 = .ok (.getfield 18, 3) := by decide +kernel
theorem dX4_sign_8 : decode cX4_sign 8 = .ok (.invokevirtual 43, 3) := by decide +kernel
theorem dX4_sign_11 : decode cX4_sign 11 = .ok (.ifCond .eq 17, 3) := by decide +kernel
theorem dX4_sign_14 : decode cX4_sign 14 = .ok (.aload_n 0, 1) := by decide +kernel
theorem dX4_sign_15 : decode cX4_sign 15 = .ok (.getfield 22, 3) := by decide +kernel
theorem dX4_sign_18 : decode cX4_sign 18 = .ok (.aload_n 0, 1) := by decide +kernel
theorem dX4_sign_19 : decode cX4_sign 19 = .ok (.getfield 18, 3) := by decide +kernel
theorem dX4_sign_22 : decode cX4_sign 22 = .ok (.invokevirtual 49, 3) := by decide +kernel
theorem dX4_sign_25 : decode cX4_sign 25 = .ok (.goto 6, 3) := by decide +kernel
theorem dX4_sign_28 : decode cX4_sign 28 = .ok (.sipush 256, 3) := by decide +kernel
theorem dX4_sign_31 : decode cX4_sign 31 = .ok (.ireturn, 1) := by decide +kernel
theorem dX4_skipBlanks_0 : decode cX4_skipBlanks 0 = .ok (.aload_n 0, 1) := by decide +kernel
theorem dX4_skipBlanks_1 : decode cX4_skipBlanks 1 = .ok (.getfield 18, 3) := by decide +kernel
theorem dX4_skipBlanks_4 : decode cX4_skipBlanks 4 = .ok (.aload_n 0, 1) := by decide +kernel
theorem dX4_skipBlanks_5 : decode cX4_skipBlanks 5 = .ok (.getfield 22, 3) := by decide +kernel
theorem dX4_skipBlanks_8 : decode cX4_skipBlanks 8 = .ok (.getfield 53, 3) := by decide +kernel
theorem dX4_skipBlanks_11 : decode cX4_skipBlanks 11 = .ok (.if_icmp .ge 32, 3) := by decide +kernel
theorem dX4_skipBlanks_14 : decode cX4_skipBlanks 14 = .ok (.aload_n 0, 1) := by decide +kernel
theorem dX4_skipBlanks_15 : decode cX4_skipBlanks 15 = .ok (.getfield 22, 3) := by decide +kernel
theorem dX4_skipBlanks_18 : decode cX4_skipBlanks 18 = .ok (.aload_n 0, 1) := by decide +kernel
theorem dX4_skipBlanks_19 : decode cX4_skipBlanks 19 = .ok (.getfield 18, 3) := by decide +kernel
theorem dX4_skipBlanks_22 : decode cX4_skipBlanks 22 = .ok (.invokevirtual 49, 3) := by decide +kernel
theorem dX4_skipBlanks_25 : decode cX4_skipBlanks 25 = .ok (.bipush 32, 2) := by decide +kernel
theorem dX4_skipBlanks_27 : decode cX4_skipBlanks 27 = .ok (.if_icmp .ne 16, 3) := by decide +kernel
theorem dX4_skipBlanks_30 : decode cX4_skipBlanks 30 = .ok (.aload_n 0, 1) := by decide +kernel
theorem dX4_skipBlanks_31 : decode cX4_skipBlanks 31 = .ok (.dup, 1) := by decide +kernel
theorem dX4_skipBlanks_32 : decode cX4_skipBlanks 32 = .ok (.getfield 18, 3) := by decide +kernel
theorem dX4_skipBlanks_35 : decode cX4_skipBlanks 35 = .ok (.iconst 1, 1) := by decide +kernel
theorem dX4_skipBlanks_36 : decode cX4_skipBlanks 36 = .ok (.iadd, 1) := by decide +kernel
theorem dX4_skipBlanks_37 : decode cX4_skipBlanks 37 = .ok (.putfield 18, 3) := by decide +kernel
theorem dX4_skipBlanks_40 : decode cX4_skipBlanks 40 = .ok (.goto (-40), 3) := by decide +kernel
theorem dX4_skipBlanks_43 : decode cX4_skipBlanks 43 = .ok (.return_, 1) := by decide +kernel
theorem dX4_isFigure_0 : decode cX4_isFigure 0 = .ok (.aload_n 0, 1) := by decide +kernel
theorem dX4_isFigure_1 : decode cX4_isFigure 1 = .ok (.invokevirtual 33, 3) := by decide +kernel
theorem dX4_isFigure_4 : decode cX4_isFigure 4 = .ok (.bipush 48, 2) := by decide +kernel
theorem dX4_isFigure_6 : decode cX4_isFigure 6 = .ok (.iload_n 1, 1) := by decide +kernel
theorem dX4_isFigure_7 : decode cX4_isFigure 7 = .ok (.iadd, 1) := by decide +kernel
theorem dX4_isFigure_8 : decode cX4_isFigure 8 = .ok (.if_icmp .lt 18, 3) := by decide +kernel
theorem dX4_isFigure_11 : decode cX4_isFigure 11 = .ok (.aload_n 0, 1) := by decide +kernel
theorem dX4_isFigure_12 : decode cX4_isFigure 12 = .ok (.invokevirtual 33, 3) := by decide +kernel
theorem dX4_isFigure_15 : decode cX4_isFigure 15 = .ok (.bipush 48, 2) := by decide +kernel
theorem dX4_isFigure_17 : decode cX4_isFigure 17 = .ok (.iload_n 2, 1) := by decide +kernel
theorem dX4_isFigure_18 : decode cX4_isFigure 18 = .ok (.iadd, 1) := by decide +kernel
theorem dX4_isFigure_19 : decode cX4_isFigure 19 = .ok (.if_icmp .gt 7, 3) := by decide +kernel
theorem dX4_isFigure_22 : decode cX4_isFigure 22 = .ok (.iconst 1, 1) := by decide +kernel
theorem dX4_isFigure_23 : decode cX4_isFigure 23 = .ok (.goto 4, 3) := by decide +kernel
theorem dX4_isFigure_26 : decode cX4_isFigure 26 = .ok (.iconst 0, 1) := by decide +kernel
theorem dX4_isFigure_27 : decode cX4_isFigure 27 = .ok (.ireturn, 1) := by decide +kernel
theorem dX4_takeFigure_0 : decode cX4_takeFigure 0 = .ok (.aload_n 0, 1) := by decide +kernel
theorem dX4_takeFigure_1 : decode cX4_takeFigure 1 = .ok (.invokevirtual 33, 3) := by decide +kernel
theorem dX4_takeFigure_4 : decode cX4_takeFigure 4 = .ok (.bipush 48, 2) := by decide +kernel
theorem dX4_takeFigure_6 : decode cX4_takeFigure 6 = .ok (.isub, 1) := by decide +kernel
theorem dX4_takeFigure_7 : decode cX4_takeFigure 7 = .ok (.istore_n 1, 1) := by decide +kernel
theorem dX4_takeFigure_8 : decode cX4_takeFigure 8 = .ok (.aload_n 0, 1) := by decide +kernel
theorem dX4_takeFigure_9 : decode cX4_takeFigure 9 = .ok (.dup, 1) := by decide +kernel
theorem dX4_takeFigure_10 : decode cX4_takeFigure 10 = .ok (.getfield 18, 3) := by decide +kernel
theorem dX4_takeFigure_13 : decode cX4_takeFigure 13 = .ok (.iconst 1, 1) := by decide +kernel
theorem dX4_takeFigure_14 : decode cX4_takeFigure 14 = .ok (.iadd, 1) := by decide +kernel
theorem dX4_takeFigure_15 : decode cX4_takeFigure 15 = .ok (.putfield 18, 3) := by decide +kernel
theorem dX4_takeFigure_18 : decode cX4_takeFigure 18 = .ok (.iload_n 1, 1) := by decide +kernel
theorem dX4_takeFigure_19 : decode cX4_takeFigure 19 = .ok (.ireturn, 1) := by decide +kernel
theorem dX4_readPosts_0 : decode cX4_readPosts 0 = .ok (.aload_n 0, 1) := by decide +kernel
theorem dX4_readPosts_1 : decode cX4_readPosts 1 = .ok (.invokevirtual 33, 3) := by decide +kernel
theorem dX4_readPosts_4 : decode cX4_readPosts 4 = .ok (.bipush 114, 2) := by decide +kernel
theorem dX4_readPosts_6 : decode cX4_readPosts 6 = .ok (.if_icmp .eq 5, 3) := by decide +kernel
theorem dX4_readPosts_9 : decode cX4_readPosts 9 = .ok (.iconst 0, 1) := by decide +kernel
theorem dX4_readPosts_10 : decode cX4_readPosts 10 = .ok (.ireturn, 1) := by decide +kernel
theorem dX4_readPosts_11 : decode cX4_readPosts 11 = .ok (.aload_n 0, 1) := by decide +kernel
theorem dX4_readPosts_12 : decode cX4_readPosts 12 = .ok (.dup, 1) := by decide +kernel
theorem dX4_readPosts_13 : decode cX4_readPosts 13 = .ok (.getfield 18, 3) := by decide +kernel
theorem dX4_readPosts_16 : decode cX4_readPosts 16 = .ok (.iconst 1, 1) := by decide +kernel
theorem dX4_readPosts_17 : decode cX4_readPosts 17 = .ok (.iadd, 1) := by decide +kernel
theorem dX4_readPosts_18 : decode cX4_readPosts 18 = .ok (.putfield 18, 3) := by decide +kernel
theorem dX4_readPosts_21 : decode cX4_readPosts 21 = .ok (.aload_n 0, 1) := by decide +kernel
theorem dX4_readPosts_22 : decode cX4_readPosts 22 = .ok (.iconst 2, 1) := by decide +kernel
theorem dX4_readPosts_23 : decode cX4_readPosts 23 = .ok (.bipush 7, 2) := by decide +kernel
theorem dX4_readPosts_25 : decode cX4_readPosts 25 = .ok (.invokevirtual 56, 3) := by decide +kernel
theorem dX4_readPosts_28 : decode cX4_readPosts 28 = .ok (.ifCond .ne 5, 3) := by decide +kernel
theorem dX4_readPosts_31 : decode cX4_readPosts 31 = .ok (.iconst 0, 1) := by decide +kernel
theorem dX4_readPosts_32 : decode cX4_readPosts 32 = .ok (.ireturn, 1) := by decide +kernel
theorem dX4_readPosts_33 : decode cX4_readPosts 33 = .ok (.aload_n 0, 1) := by decide +kernel
theorem dX4_readPosts_34 : decode cX4_readPosts 34 = .ok (.getfield 12, 3) := by decide +kernel
theorem dX4_readPosts_37 : decode cX4_readPosts 37 = .ok (.aload_n 0, 1) := by decide +kernel
theorem dX4_readPosts_38 : decode cX4_readPosts 38 = .ok (.invokevirtual 60, 3) := by decide +kernel
theorem dX4_readPosts_41 : decode cX4_readPosts 41 = .ok (.putfield 63, 3) := by decide +kernel
theorem dX4_readPosts_44 : decode cX4_readPosts 44 = .ok (.iconst 1, 1) := by decide +kernel
theorem dX4_readPosts_45 : decode cX4_readPosts 45 = .ok (.ireturn, 1) := by decide +kernel
theorem dX4_readStone_0 : decode cX4_readStone 0 = .ok (.aload_n 0, 1) := by decide +kernel
theorem dX4_readStone_1 : decode cX4_readStone 1 = .ok (.getfield 12, 3) := by decide +kernel
theorem dX4_readStone_4 : decode cX4_readStone 4 = .ok (.getfield 66, 3) := by decide +kernel
theorem dX4_readStone_7 : decode cX4_readStone 7 = .ok (.ifCond .gt 14, 3) := by decide +kernel
theorem dX4_readStone_10 : decode cX4_readStone 10 = .ok (.aload_n 0, 1) := by decide +kernel
theorem dX4_readStone_11 : decode cX4_readStone 11 = .ok (.getfield 12, 3) := by decide +kernel
theorem dX4_readStone_14 : decode cX4_readStone 14 = .ok (.getfield 69, 3) := by decide +kernel
theorem dX4_readStone_17 : decode cX4_readStone 17 = .ok (.iconst 5, 1) := by decide +kernel
theorem dX4_readStone_18 : decode cX4_readStone 18 = .ok (.if_icmp .lt 5, 3) := by decide +kernel
theorem dX4_readStone_21 : decode cX4_readStone 21 = .ok (.iconst 0, 1) := by decide +kernel
theorem dX4_readStone_22 : decode cX4_readStone 22 = .ok (.ireturn, 1) := by decide +kernel
theorem dX4_readStone_23 : decode cX4_readStone 23 = .ok (.aload_n 0, 1) := by decide +kernel
theorem dX4_readStone_24 : decode cX4_readStone 24 = .ok (.dup, 1) := by decide +kernel
theorem dX4_readStone_25 : decode cX4_readStone 25 = .ok (.getfield 18, 3) := by decide +kernel
theorem dX4_readStone_28 : decode cX4_readStone 28 = .ok (.iconst 1, 1) := by decide +kernel
theorem dX4_readStone_29 : decode cX4_readStone 29 = .ok (.iadd, 1) := by decide +kernel
theorem dX4_readStone_30 : decode cX4_readStone 30 = .ok (.putfield 18, 3) := by decide +kernel
theorem dX4_readStone_33 : decode cX4_readStone 33 = .ok (.aload_n 0, 1) := by decide +kernel
theorem dX4_readStone_34 : decode cX4_readStone 34 = .ok (.iconst 1, 1) := by decide +kernel
theorem dX4_readStone_35 : decode cX4_readStone 35 = .ok (.bipush 9, 2) := by decide +kernel
theorem dX4_readStone_37 : decode cX4_readStone 37 = .ok (.invokevirtual 56, 3) := by decide +kernel
theorem dX4_readStone_40 : decode cX4_readStone 40 = .ok (.ifCond .eq 20, 3) := by decide +kernel
theorem dX4_readStone_43 : decode cX4_readStone 43 = .ok (.aload_n 0, 1) := by decide +kernel
theorem dX4_readStone_44 : decode cX4_readStone 44 = .ok (.getfield 12, 3) := by decide +kernel
theorem dX4_readStone_47 : decode cX4_readStone 47 = .ok (.aload_n 0, 1) := by decide +kernel
theorem dX4_readStone_48 : decode cX4_readStone 48 = .ok (.invokevirtual 33, 3) := by decide +kernel
theorem dX4_readStone_51 : decode cX4_readStone 51 = .ok (.bipush 48, 2) := by decide +kernel
theorem dX4_readStone_53 : decode cX4_readStone 53 = .ok (.isub, 1) := by decide +kernel
theorem dX4_readStone_54 : decode cX4_readStone 54 = .ok (.invokevirtual 72, 3) := by decide +kernel
theorem dX4_readStone_57 : decode cX4_readStone 57 = .ok (.ifCond .eq 5, 3) := by decide +kernel
theorem dX4_readStone_60 : decode cX4_readStone 60 = .ok (.iconst 0, 1) := by decide +kernel
theorem dX4_readStone_61 : decode cX4_readStone 61 = .ok (.ireturn, 1) := by decide +kernel
theorem dX4_readStone_62 : decode cX4_readStone 62 = .ok (.aload_n 0, 1) := by decide +kernel
theorem dX4_readStone_63 : decode cX4_readStone 63 = .ok (.invokevirtual 60, 3) := by decide +kernel
theorem dX4_readStone_66 : decode cX4_readStone 66 = .ok (.istore_n 1, 1) := by decide +kernel
theorem dX4_readStone_67 : decode cX4_readStone 67 = .ok (.aload_n 0, 1) := by decide +kernel
theorem dX4_readStone_68 : decode cX4_readStone 68 = .ok (.iconst 0, 1) := by decide +kernel
theorem dX4_readStone_69 : decode cX4_readStone 69 = .ok (.aload_n 0, 1) := by decide +kernel
theorem dX4_readStone_70 : decode cX4_readStone 70 = .ok (.getfield 12, 3) := by decide +kernel
theorem dX4_readStone_73 : decode cX4_readStone 73 = .ok (.getfield 63, 3) := by decide +kernel
theorem dX4_readStone_76 : decode cX4_readStone 76 = .ok (.iconst 1, 1) := by decide +kernel
theorem dX4_readStone_77 : decode cX4_readStone 77 = .ok (.isub, 1) := by decide +kernel
theorem dX4_readStone_78 : decode cX4_readStone 78 = .ok (.invokevirtual 56, 3) := by decide +kernel
theorem dX4_readStone_81 : decode cX4_readStone 81 = .ok (.ifCond .ne 5, 3) := by decide +kernel
theorem dX4_readStone_84 : decode cX4_readStone 84 = .ok (.iconst 0, 1) := by decide +kernel
theorem dX4_readStone_85 : decode cX4_readStone 85 = .ok (.ireturn, 1) := by decide +kernel
theorem dX4_readStone_86 : decode cX4_readStone 86 = .ok (.aload_n 0, 1) := by decide +kernel
theorem dX4_readStone_87 : decode cX4_readStone 87 = .ok (.getfield 12, 3) := by decide +kernel
theorem dX4_readStone_90 : decode cX4_readStone 90 = .ok (.iload_n 1, 1) := by decide +kernel
theorem dX4_readStone_91 : decode cX4_readStone 91 = .ok (.aload_n 0, 1) := by decide +kernel
theorem dX4_readStone_92 : decode cX4_readStone 92 = .ok (.invokevirtual 60, 3) := by decide +kernel
theorem dX4_readStone_95 : decode cX4_readStone 95 = .ok (.invokevirtual 75, 3) := by decide +kernel
theorem dX4_readStone_98 : decode cX4_readStone 98 = .ok (.iconst 1, 1) := by decide +kernel
theorem dX4_readStone_99 : decode cX4_readStone 99 = .ok (.ireturn, 1) := by decide +kernel
theorem dX4_readWalker_0 : decode cX4_readWalker 0 = .ok (.aload_n 0, 1) := by decide +kernel
theorem dX4_readWalker_1 : decode cX4_readWalker 1 = .ok (.invokevirtual 33, 3) := by decide +kernel
theorem dX4_readWalker_4 : decode cX4_readWalker 4 = .ok (.istore_n 1, 1) := by decide +kernel
theorem dX4_readWalker_5 : decode cX4_readWalker 5 = .ok (.iload_n 1, 1) := by decide +kernel
theorem dX4_readWalker_6 : decode cX4_readWalker 6 = .ok (.invokestatic 79, 3) := by decide +kernel
theorem dX4_readWalker_9 : decode cX4_readWalker 9 = .ok (.ifCond .eq 14, 3) := by decide +kernel
theorem dX4_readWalker_12 : decode cX4_readWalker 12 = .ok (.aload_n 0, 1) := by decide +kernel
theorem dX4_readWalker_13 : decode cX4_readWalker 13 = .ok (.getfield 12, 3) := by decide +kernel
theorem dX4_readWalker_16 : decode cX4_readWalker 16 = .ok (.getfield 66, 3) := by decide +kernel
theorem dX4_readWalker_19 : decode cX4_readWalker 19 = .ok (.iconst 5, 1) := by decide +kernel
theorem dX4_readWalker_20 : decode cX4_readWalker 20 = .ok (.if_icmp .lt 5, 3) := by decide +kernel
theorem dX4_readWalker_23 : decode cX4_readWalker 23 = .ok (.iconst 0, 1) := by decide +kernel
theorem dX4_readWalker_24 : decode cX4_readWalker 24 = .ok (.ireturn, 1) := by decide +kernel
theorem dX4_readWalker_25 : decode cX4_readWalker 25 = .ok (.aload_n 0, 1) := by decide +kernel
theorem dX4_readWalker_26 : decode cX4_readWalker 26 = .ok (.dup, 1) := by decide +kernel
theorem dX4_readWalker_27 : decode cX4_readWalker 27 = .ok (.getfield 18, 3) := by decide +kernel
theorem dX4_readWalker_30 : decode cX4_readWalker 30 = .ok (.iconst 1, 1) := by decide +kernel
theorem dX4_readWalker_31 : decode cX4_readWalker 31 = .ok (.iadd, 1) := by decide +kernel
theorem dX4_readWalker_32 : decode cX4_readWalker 32 = .ok (.putfield 18, 3) := by decide +kernel
theorem dX4_readWalker_35 : decode cX4_readWalker 35 = .ok (.aload_n 0, 1) := by decide +kernel
theorem dX4_readWalker_36 : decode cX4_readWalker 36 = .ok (.iconst 0, 1) := by decide +kernel
theorem dX4_readWalker_37 : decode cX4_readWalker 37 = .ok (.aload_n 0, 1) := by decide +kernel
theorem dX4_readWalker_38 : decode cX4_readWalker 38 = .ok (.getfield 12, 3) := by decide +kernel
theorem dX4_readWalker_41 : decode cX4_readWalker 41 = .ok (.getfield 63, 3) := by decide +kernel
theorem dX4_readWalker_44 : decode cX4_readWalker 44 = .ok (.iconst 1, 1) := by decide +kernel
theorem dX4_readWalker_45 : decode cX4_readWalker 45 = .ok (.isub, 1) := by decide +kernel
theorem dX4_readWalker_46 : decode cX4_readWalker 46 = .ok (.invokevirtual 56, 3) := by decide +kernel
theorem dX4_readWalker_49 : decode cX4_readWalker 49 = .ok (.ifCond .ne 5, 3) := by decide +kernel
theorem dX4_readWalker_52 : decode cX4_readWalker 52 = .ok (.iconst 0, 1) := by decide +kernel
theorem dX4_readWalker_53 : decode cX4_readWalker 53 = .ok (.ireturn, 1) := by decide +kernel
theorem dX4_readWalker_54 : decode cX4_readWalker 54 = .ok (.aload_n 0, 1) := by decide +kernel
theorem dX4_readWalker_55 : decode cX4_readWalker 55 = .ok (.invokevirtual 60, 3) := by decide +kernel
theorem dX4_readWalker_58 : decode cX4_readWalker 58 = .ok (.istore_n 2, 1) := by decide +kernel
theorem dX4_readWalker_59 : decode cX4_readWalker 59 = .ok (.aload_n 0, 1) := by decide +kernel
theorem dX4_readWalker_60 : decode cX4_readWalker 60 = .ok (.iconst 0, 1) := by decide +kernel
theorem dX4_readWalker_61 : decode cX4_readWalker 61 = .ok (.aload_n 0, 1) := by decide +kernel
theorem dX4_readWalker_62 : decode cX4_readWalker 62 = .ok (.getfield 12, 3) := by decide +kernel
theorem dX4_readWalker_65 : decode cX4_readWalker 65 = .ok (.getfield 63, 3) := by decide +kernel
theorem dX4_readWalker_68 : decode cX4_readWalker 68 = .ok (.iconst 1, 1) := by decide +kernel
theorem dX4_readWalker_69 : decode cX4_readWalker 69 = .ok (.isub, 1) := by decide +kernel
theorem dX4_readWalker_70 : decode cX4_readWalker 70 = .ok (.invokevirtual 56, 3) := by decide +kernel
theorem dX4_readWalker_73 : decode cX4_readWalker 73 = .ok (.ifCond .eq 14, 3) := by decide +kernel
theorem dX4_readWalker_76 : decode cX4_readWalker 76 = .ok (.aload_n 0, 1) := by decide +kernel
theorem dX4_readWalker_77 : decode cX4_readWalker 77 = .ok (.invokevirtual 33, 3) := by decide +kernel
theorem dX4_readWalker_80 : decode cX4_readWalker 80 = .ok (.bipush 48, 2) := by decide +kernel
theorem dX4_readWalker_82 : decode cX4_readWalker 82 = .ok (.isub, 1) := by decide +kernel
theorem dX4_readWalker_83 : decode cX4_readWalker 83 = .ok (.iload_n 2, 1) := by decide +kernel
theorem dX4_readWalker_84 : decode cX4_readWalker 84 = .ok (.if_icmp .ne 5, 3) := by decide +kernel
theorem dX4_readWalker_87 : decode cX4_readWalker 87 = .ok (.iconst 0, 1) := by decide +kernel
theorem dX4_readWalker_88 : decode cX4_readWalker 88 = .ok (.ireturn, 1) := by decide +kernel
theorem dX4_readWalker_89 : decode cX4_readWalker 89 = .ok (.aload_n 0, 1) := by decide +kernel
theorem dX4_readWalker_90 : decode cX4_readWalker 90 = .ok (.getfield 12, 3) := by decide +kernel
theorem dX4_readWalker_93 : decode cX4_readWalker 93 = .ok (.iload_n 1, 1) := by decide +kernel
theorem dX4_readWalker_94 : decode cX4_readWalker 94 = .ok (.iload_n 2, 1) := by decide +kernel
theorem dX4_readWalker_95 : decode cX4_readWalker 95 = .ok (.aload_n 0, 1) := by decide +kernel
theorem dX4_readWalker_96 : decode cX4_readWalker 96 = .ok (.invokevirtual 60, 3) := by decide +kernel
theorem dX4_readWalker_99 : decode cX4_readWalker 99 = .ok (.invokestatic 82, 3) := by decide +kernel
theorem dX4_readWalker_102 : decode cX4_readWalker 102 = .ok (.invokevirtual 86, 3) := by decide +kernel
theorem dX4_readWalker_105 : decode cX4_readWalker 105 = .ok (.iconst 1, 1) := by decide +kernel
theorem dX4_readWalker_106 : decode cX4_readWalker 106 = .ok (.ireturn, 1) := by decide +kernel
theorem dX4_isWalker_0 : decode cX4_isWalker 0 = .ok (.iload_n 0, 1) := by decide +kernel
theorem dX4_isWalker_1 : decode cX4_isWalker 1 = .ok (.bipush 119, 2) := by decide +kernel
theorem dX4_isWalker_3 : decode cX4_isWalker 3 = .ok (.if_icmp .eq 33, 3) := by decide +kernel
theorem dX4_isWalker_6 : decode cX4_isWalker 6 = .ok (.iload_n 0, 1) := by decide +kernel
theorem dX4_isWalker_7 : decode cX4_isWalker 7 = .ok (.bipush 99, 2) := by decide +kernel
theorem dX4_isWalker_9 : decode cX4_isWalker 9 = .ok (.if_icmp .eq 27, 3) := by decide +kernel
theorem dX4_isWalker_12 : decode cX4_isWalker 12 = .ok (.iload_n 0, 1) := by decide +kernel
theorem dX4_isWalker_13 : decode cX4_isWalker 13 = .ok (.bipush 98, 2) := by decide +kernel
theorem dX4_isWalker_15 : decode cX4_isWalker 15 = .ok (.if_icmp .eq 21, 3) := by decide +kernel
theorem dX4_isWalker_18 : decode cX4_isWalker 18 = .ok (.iload_n 0, 1) := by decide +kernel
theorem dX4_isWalker_19 : decode cX4_isWalker 19 = .ok (.bipush 108, 2) := by decide +kernel
theorem dX4_isWalker_21 : decode cX4_isWalker 21 = .ok (.if_icmp .eq 15, 3) := by decide +kernel
theorem dX4_isWalker_24 : decode cX4_isWalker 24 = .ok (.iload_n 0, 1) := by decide +kernel
theorem dX4_isWalker_25 : decode cX4_isWalker 25 = .ok (.bipush 116, 2) := by decide +kernel
theorem dX4_isWalker_27 : decode cX4_isWalker 27 = .ok (.if_icmp .eq 9, 3) := by decide +kernel
theorem dX4_isWalker_30 : decode cX4_isWalker 30 = .ok (.iload_n 0, 1) := by decide +kernel
theorem dX4_isWalker_31 : decode cX4_isWalker 31 = .ok (.bipush 112, 2) := by decide +kernel
theorem dX4_isWalker_33 : decode cX4_isWalker 33 = .ok (.if_icmp .ne 7, 3) := by decide +kernel
theorem dX4_isWalker_36 : decode cX4_isWalker 36 = .ok (.iconst 1, 1) := by decide +kernel
theorem dX4_isWalker_37 : decode cX4_isWalker 37 = .ok (.goto 4, 3) := by decide +kernel
theorem dX4_isWalker_40 : decode cX4_isWalker 40 = .ok (.iconst 0, 1) := by decide +kernel
theorem dX4_isWalker_41 : decode cX4_isWalker 41 = .ok (.ireturn, 1) := by decide +kernel
theorem dX4_make_0 : decode cX4_make 0 = .ok (.iload_n 0, 1) := by decide +kernel
theorem dX4_make_1 : decode cX4_make 1 = .ok (.lookupswitch 101 #[(98, 61), (99, 51), (108, 71), (112, 91), (116, 81)], 51) := by decide +kernel
theorem dX4_make_52 : decode cX4_make 52 = .ok (.new 90, 3) := by decide +kernel
theorem dX4_make_55 : decode cX4_make 55 = .ok (.dup, 1) := by decide +kernel
theorem dX4_make_56 : decode cX4_make 56 = .ok (.iload_n 1, 1) := by decide +kernel
theorem dX4_make_57 : decode cX4_make 57 = .ok (.iload_n 2, 1) := by decide +kernel
theorem dX4_make_58 : decode cX4_make 58 = .ok (.invokespecial 92, 3) := by decide +kernel
theorem dX4_make_61 : decode cX4_make 61 = .ok (.areturn, 1) := by decide +kernel
theorem dX4_make_62 : decode cX4_make 62 = .ok (.new 94, 3) := by decide +kernel
theorem dX4_make_65 : decode cX4_make 65 = .ok (.dup, 1) := by decide +kernel
theorem dX4_make_66 : decode cX4_make 66 = .ok (.iload_n 1, 1) := by decide +kernel
theorem dX4_make_67 : decode cX4_make 67 = .ok (.iload_n 2, 1) := by decide +kernel
theorem dX4_make_68 : decode cX4_make 68 = .ok (.invokespecial 96, 3) := by decide +kernel
theorem dX4_make_71 : decode cX4_make 71 = .ok (.areturn, 1) := by decide +kernel
theorem dX4_make_72 : decode cX4_make 72 = .ok (.new 97, 3) := by decide +kernel
theorem dX4_make_75 : decode cX4_make 75 = .ok (.dup, 1) := by decide +kernel
theorem dX4_make_76 : decode cX4_make 76 = .ok (.iload_n 1, 1) := by decide +kernel
theorem dX4_make_77 : decode cX4_make 77 = .ok (.iload_n 2, 1) := by decide +kernel
theorem dX4_make_78 : decode cX4_make 78 = .ok (.invokespecial 99, 3) := by decide +kernel
theorem dX4_make_81 : decode cX4_make 81 = .ok (.areturn, 1) := by decide +kernel
theorem dX4_make_82 : decode cX4_make 82 = .ok (.new 100, 3) := by decide +kernel
theorem dX4_make_85 : decode cX4_make 85 = .ok (.dup, 1) := by decide +kernel
theorem dX4_make_86 : decode cX4_make 86 = .ok (.iload_n 1, 1) := by decide +kernel
theorem dX4_make_87 : decode cX4_make 87 = .ok (.iload_n 2, 1) := by decide +kernel
theorem dX4_make_88 : decode cX4_make 88 = .ok (.invokespecial 102, 3) := by decide +kernel
theorem dX4_make_91 : decode cX4_make 91 = .ok (.areturn, 1) := by decide +kernel
theorem dX4_make_92 : decode cX4_make 92 = .ok (.new 103, 3) := by decide +kernel
theorem dX4_make_95 : decode cX4_make 95 = .ok (.dup, 1) := by decide +kernel
theorem dX4_make_96 : decode cX4_make 96 = .ok (.iload_n 1, 1) := by decide +kernel
theorem dX4_make_97 : decode cX4_make 97 = .ok (.iload_n 2, 1) := by decide +kernel
theorem dX4_make_98 : decode cX4_make 98 = .ok (.invokespecial 105, 3) := by decide +kernel
theorem dX4_make_101 : decode cX4_make 101 = .ok (.areturn, 1) := by decide +kernel
theorem dX4_make_102 : decode cX4_make 102 = .ok (.new 106, 3) := by decide +kernel
theorem dX4_make_105 : decode cX4_make 105 = .ok (.dup, 1) := by decide +kernel
theorem dX4_make_106 : decode cX4_make 106 = .ok (.iload_n 1, 1) := by decide +kernel
theorem dX4_make_107 : decode cX4_make 107 = .ok (.iload_n 2, 1) := by decide +kernel
theorem dX4_make_108 : decode cX4_make 108 = .ok (.invokespecial 108, 3) := by decide +kernel
theorem dX4_make_111 : decode cX4_make 111 = .ok (.areturn, 1) := by decide +kernel
theorem dX5_init_0 : decode cX5_init 0 = .ok (.aload_n 0, 1) := by decide +kernel
theorem dX5_init_1 : decode cX5_init 1 = .ok (.invokespecial 3, 3) := by decide +kernel
theorem dX5_init_4 : decode cX5_init 4 = .ok (.aload_n 0, 1) := by decide +kernel
theorem dX5_init_5 : decode cX5_init 5 = .ok (.iconst 5, 1) := by decide +kernel
theorem dX5_init_6 : decode cX5_init 6 = .ok (.newarray .int, 2) := by decide +kernel
theorem dX5_init_8 : decode cX5_init 8 = .ok (.putfield 11, 3) := by decide +kernel
theorem dX5_init_11 : decode cX5_init 11 = .ok (.aload_n 0, 1) := by decide +kernel
theorem dX5_init_12 : decode cX5_init 12 = .ok (.iconst 5, 1) := by decide +kernel
theorem dX5_init_13 : decode cX5_init 13 = .ok (.newarray .int, 2) := by decide +kernel
theorem dX5_init_15 : decode cX5_init 15 = .ok (.putfield 15, 3) := by decide +kernel
theorem dX5_init_18 : decode cX5_init 18 = .ok (.aload_n 0, 1) := by decide +kernel
theorem dX5_init_19 : decode cX5_init 19 = .ok (.bipush 40, 2) := by decide +kernel
theorem dX5_init_21 : decode cX5_init 21 = .ok (.newarray .int, 2) := by decide +kernel
theorem dX5_init_23 : decode cX5_init 23 = .ok (.putfield 18, 3) := by decide +kernel
theorem dX5_init_26 : decode cX5_init 26 = .ok (.aload_n 0, 1) := by decide +kernel
theorem dX5_init_27 : decode cX5_init 27 = .ok (.iconst 5, 1) := by decide +kernel
theorem dX5_init_28 : decode cX5_init 28 = .ok (.anewarray 21, 3) := by decide +kernel
theorem dX5_init_31 : decode cX5_init 31 = .ok (.putfield 23, 3) := by decide +kernel
theorem dX5_init_34 : decode cX5_init 34 = .ok (.aload_n 0, 1) := by decide +kernel
theorem dX5_init_35 : decode cX5_init 35 = .ok (.iconst 0, 1) := by decide +kernel
theorem dX5_init_36 : decode cX5_init 36 = .ok (.putfield 27, 3) := by decide +kernel
theorem dX5_init_39 : decode cX5_init 39 = .ok (.aload_n 0, 1) := by decide +kernel
theorem dX5_init_40 : decode cX5_init 40 = .ok (.iconst 0, 1) := by decide +kernel
theorem dX5_init_41 : decode cX5_init 41 = .ok (.putfield 31, 3) := by decide +kernel
theorem dX5_init_44 : decode cX5_init 44 = .ok (.aload_n 0, 1) := by decide +kernel
theorem dX5_init_45 : decode cX5_init 45 = .ok (.iconst 0, 1) := by decide +kernel
theorem dX5_init_46 : decode cX5_init 46 = .ok (.putfield 34, 3) := by decide +kernel
theorem dX5_init_49 : decode cX5_init 49 = .ok (.aload_n 0, 1) := by decide +kernel
theorem dX5_init_50 : decode cX5_init 50 = .ok (.iconst 0, 1) := by decide +kernel
theorem dX5_init_51 : decode cX5_init 51 = .ok (.putfield 37, 3) := by decide +kernel
theorem dX5_init_54 : decode cX5_init 54 = .ok (.aload_n 0, 1) := by decide +kernel
theorem dX5_init_55 : decode cX5_init 55 = .ok (.iconst 0, 1) := by decide +kernel
theorem dX5_init_56 : decode cX5_init 56 = .ok (.putfield 40, 3) := by decide +kernel
theorem dX5_init_59 : decode cX5_init 59 = .ok (.aload_n 0, 1) := by decide +kernel
theorem dX5_init_60 : decode cX5_init 60 = .ok (.iconst 0, 1) := by decide +kernel
theorem dX5_init_61 : decode cX5_init 61 = .ok (.putfield 43, 3) := by decide +kernel
theorem dX5_init_64 : decode cX5_init 64 = .ok (.return_, 1) := by decide +kernel
theorem dX5_postOf_0 : decode cX5_postOf 0 = .ok (.iload_n 0, 1) := by decide +kernel
theorem dX5_postOf_1 : decode cX5_postOf 1 = .ok (.iconst 3, 1) := by decide +kernel
theorem dX5_postOf_2 : decode cX5_postOf 2 = .ok (.iload_n 1, 1) := by decide +kernel
theorem dX5_postOf_3 : decode cX5_postOf 3 = .ok (.imul, 1) := by decide +kernel
theorem dX5_postOf_4 : decode cX5_postOf 4 = .ok (.iushr, 1) := by decide +kernel
theorem dX5_postOf_5 : decode cX5_postOf 5 = .ok (.bipush 7, 2) := by decide +kernel
theorem dX5_postOf_7 : decode cX5_postOf 7 = .ok (.iand, 1) := by decide +kernel
theorem dX5_postOf_8 : decode cX5_postOf 8 = .ok (.ireturn, 1) := by decide +kernel
theorem dX5_withPost_0 : decode cX5_withPost 0 = .ok (.iload_n 0, 1) := by decide +kernel
theorem dX5_withPost_1 : decode cX5_withPost 1 = .ok (.bipush 7, 2) := by decide +kernel
theorem dX5_withPost_3 : decode cX5_withPost 3 = .ok (.iconst 3, 1) := by decide +kernel
theorem dX5_withPost_4 : decode cX5_withPost 4 = .ok (.iload_n 1, 1) := by decide +kernel
theorem dX5_withPost_5 : decode cX5_withPost 5 = .ok (.imul, 1) := by decide +kernel
theorem dX5_withPost_6 : decode cX5_withPost 6 = .ok (.ishl, 1) := by decide +kernel
theorem dX5_withPost_7 : decode cX5_withPost 7 = .ok (.iconst (-1), 1) := by decide +kernel
theorem dX5_withPost_8 : decode cX5_withPost 8 = .ok (.ixor, 1) := by decide +kernel
theorem dX5_withPost_9 : decode cX5_withPost 9 = .ok (.iand, 1) := by decide +kernel
theorem dX5_withPost_10 : decode cX5_withPost 10 = .ok (.iload_n 2, 1) := by decide +kernel
theorem dX5_withPost_11 : decode cX5_withPost 11 = .ok (.iconst 3, 1) := by decide +kernel
theorem dX5_withPost_12 : decode cX5_withPost 12 = .ok (.iload_n 1, 1) := by decide +kernel
theorem dX5_withPost_13 : decode cX5_withPost 13 = .ok (.imul, 1) := by decide +kernel
theorem dX5_withPost_14 : decode cX5_withPost 14 = .ok (.ishl, 1) := by decide +kernel
theorem dX5_withPost_15 : decode cX5_withPost 15 = .ok (.ior, 1) := by decide +kernel
theorem dX5_withPost_16 : decode cX5_withPost 16 = .ok (.ireturn, 1) := by decide +kernel
theorem dX5_tellPost_0 : decode cX5_tellPost 0 = .ok (.iload_n 0, 1) := by decide +kernel
theorem dX5_tellPost_1 : decode cX5_tellPost 1 = .ok (.iload_n 1, 1) := by decide +kernel
theorem dX5_tellPost_2 : decode cX5_tellPost 2 = .ok (.invokestatic 46, 3) := by decide +kernel
theorem dX5_tellPost_5 : decode cX5_tellPost 5 = .ok (.istore_n 2, 1) := by decide +kernel
theorem dX5_tellPost_6 : decode cX5_tellPost 6 = .ok (.iload_n 2, 1) := by decide +kernel
theorem dX5_tellPost_7 : decode cX5_tellPost 7 = .ok (.bipush 7, 2) := by decide +kernel
theorem dX5_tellPost_9 : decode cX5_tellPost 9 = .ok (.if_icmp .ne 8, 3) := by decide +kernel
theorem dX5_tellPost_12 : decode cX5_tellPost 12 = .ok (.bipush (-9), 2) := by decide +kernel
theorem dX5_tellPost_14 : decode cX5_tellPost 14 = .ok (.goto 4, 3) := by decide +kernel
theorem dX5_tellPost_17 : decode cX5_tellPost 17 = .ok (.iload_n 2, 1) := by decide +kernel
theorem dX5_tellPost_18 : decode cX5_tellPost 18 = .ok (.ireturn, 1) := by decide +kernel
theorem dX5_addStone_0 : decode cX5_addStone 0 = .ok (.aload_n 0, 1) := by decide +kernel
theorem dX5_addStone_1 : decode cX5_addStone 1 = .ok (.getfield 31, 3) := by decide +kernel
theorem dX5_addStone_4 : decode cX5_addStone 4 = .ok (.iconst 5, 1) := by decide +kernel
theorem dX5_addStone_5 : decode cX5_addStone 5 = .ok (.if_icmp .lt 4, 3) := by decide +kernel
theorem dX5_addStone_8 : decode cX5_addStone 8 = .ok (.return_, 1) := by decide +kernel
theorem dX5_addStone_9 : decode cX5_addStone 9 = .ok (.iload_n 1, 1) := by decide +kernel
theorem dX5_addStone_10 : decode cX5_addStone 10 = .ok (.aload_n 0, 1) := by decide +kernel
theorem dX5_addStone_11 : decode cX5_addStone 11 = .ok (.getfield 27, 3) := by decide +kernel
theorem dX5_addStone_14 : decode cX5_addStone 14 = .ok (.if_icmp .gt 9, 3) := by decide +kernel
theorem dX5_addStone_17 : decode cX5_addStone 17 = .ok (.iload_n 1, 1) := by decide +kernel
theorem dX5_addStone_18 : decode cX5_addStone 18 = .ok (.iconst 1, 1) := by decide +kernel
theorem dX5_addStone_19 : decode cX5_addStone 19 = .ok (.isub, 1) := by decide +kernel
theorem dX5_addStone_20 : decode cX5_addStone 20 = .ok (.goto 5, 3) := by decide +kernel
theorem dX5_addStone_23 : decode cX5_addStone 23 = .ok (.bipush (-9), 2) := by decide +kernel
theorem dX5_addStone_25 : decode cX5_addStone 25 = .ok (.istore_n 3, 1) := by decide +kernel
theorem dX5_addStone_26 : decode cX5_addStone 26 = .ok (.aload_n 0, 1) := by decide +kernel
theorem dX5_addStone_27 : decode cX5_addStone 27 = .ok (.getfield 11, 3) := by decide +kernel
theorem dX5_addStone_30 : decode cX5_addStone 30 = .ok (.aload_n 0, 1) := by decide +kernel
theorem dX5_addStone_31 : decode cX5_addStone 31 = .ok (.getfield 31, 3) := by decide +kernel
theorem dX5_addStone_34 : decode cX5_addStone 34 = .ok (.iload_n 1, 1) := by decide +kernel
theorem dX5_addStone_35 : decode cX5_addStone 35 = .ok (.iastore, 1) := by decide +kernel
theorem dX5_addStone_36 : decode cX5_addStone 36 = .ok (.aload_n 0, 1) := by decide +kernel
theorem dX5_addStone_37 : decode cX5_addStone 37 = .ok (.getfield 15, 3) := by decide +kernel
theorem dX5_addStone_40 : decode cX5_addStone 40 = .ok (.aload_n 0, 1) := by decide +kernel
theorem dX5_addStone_41 : decode cX5_addStone 41 = .ok (.getfield 31, 3) := by decide +kernel
theorem dX5_addStone_44 : decode cX5_addStone 44 = .ok (.iload_n 3, 1) := by decide +kernel
theorem dX5_addStone_45 : decode cX5_addStone 45 = .ok (.iastore, 1) := by decide +kernel
theorem dX5_addStone_46 : decode cX5_addStone 46 = .ok (.aload_n 0, 1) := by decide +kernel
theorem dX5_addStone_47 : decode cX5_addStone 47 = .ok (.aload_n 0, 1) := by decide +kernel
theorem dX5_addStone_48 : decode cX5_addStone 48 = .ok (.getfield 37, 3) := by decide +kernel
theorem dX5_addStone_51 : decode cX5_addStone 51 = .ok (.aload_n 0, 1) := by decide +kernel
theorem dX5_addStone_52 : decode cX5_addStone 52 = .ok (.getfield 31, 3) := by decide +kernel
theorem dX5_addStone_55 : decode cX5_addStone 55 = .ok (.iload_n 2, 1) := by decide +kernel
theorem dX5_addStone_56 : decode cX5_addStone 56 = .ok (.invokestatic 50, 3) := by decide +kernel
theorem dX5_addStone_59 : decode cX5_addStone 59 = .ok (.putfield 37, 3) := by decide +kernel
theorem dX5_addStone_62 : decode cX5_addStone 62 = .ok (.iconst 0, 1) := by decide +kernel
theorem dX5_addStone_63 : decode cX5_addStone 63 = .ok (.istore 4, 2) := by decide +kernel
theorem dX5_addStone_65 : decode cX5_addStone 65 = .ok (.iload 4, 2) := by decide +kernel
theorem dX5_addStone_67 : decode cX5_addStone 67 = .ok (.bipush 8, 2) := by decide +kernel
theorem dX5_addStone_69 : decode cX5_addStone 69 = .ok (.if_icmp .ge 30, 3) := by decide +kernel
theorem dX5_addStone_72 : decode cX5_addStone 72 = .ok (.aload_n 0, 1) := by decide +kernel
theorem dX5_addStone_73 : decode cX5_addStone 73 = .ok (.getfield 18, 3) := by decide +kernel
theorem dX5_addStone_76 : decode cX5_addStone 76 = .ok (.bipush 8, 2) := by decide +kernel
theorem dX5_addStone_78 : decode cX5_addStone 78 = .ok (.aload_n 0, 1) := by decide +kernel
theorem dX5_addStone_79 : decode cX5_addStone 79 = .ok (.getfield 31, 3) := by decide +kernel
theorem dX5_addStone_82 : decode cX5_addStone 82 = .ok (.imul, 1) := by decide +kernel
theorem dX5_addStone_83 : decode cX5_addStone 83 = .ok (.iload 4, 2) := by decide +kernel
theorem dX5_addStone_85 : decode cX5_addStone 85 = .ok (.iadd, 1) := by decide +kernel
theorem dX5_addStone_86 : decode cX5_addStone 86 = .ok (.iload 4, 2) := by decide +kernel
theorem dX5_addStone_88 : decode cX5_addStone 88 = .ok (.iload_n 3, 1) := by decide +kernel
theorem dX5_addStone_89 : decode cX5_addStone 89 = .ok (.invokestatic 54, 3) := by decide +kernel
theorem dX5_addStone_92 : decode cX5_addStone 92 = .ok (.iastore, 1) := by decide +kernel
theorem dX5_addStone_93 : decode cX5_addStone 93 = .ok (.iinc 4 1, 3) := by decide +kernel
theorem dX5_addStone_96 : decode cX5_addStone 96 = .ok (.goto (-31), 3) := by decide +kernel
theorem dX5_addStone_99 : decode cX5_addStone 99 = .ok (.iload_n 3, 1) := by decide +kernel
theorem dX5_addStone_100 : decode cX5_addStone 100 = .ok (.bipush (-9), 2) := by decide +kernel
theorem dX5_addStone_102 : decode cX5_addStone 102 = .ok (.if_icmp .eq 36, 3) := by decide +kernel
theorem dX5_addStone_105 : decode cX5_addStone 105 = .ok (.aload_n 0, 1) := by decide +kernel
theorem dX5_addStone_106 : decode cX5_addStone 106 = .ok (.aload_n 0, 1) := by decide +kernel
theorem dX5_addStone_107 : decode cX5_addStone 107 = .ok (.getfield 40, 3) := by decide +kernel
theorem dX5_addStone_110 : decode cX5_addStone 110 = .ok (.aload_n 0, 1) := by decide +kernel
theorem dX5_addStone_111 : decode cX5_addStone 111 = .ok (.getfield 31, 3) := by decide +kernel
theorem dX5_addStone_114 : decode cX5_addStone 114 = .ok (.bipush 7, 2) := by decide +kernel
theorem dX5_addStone_116 : decode cX5_addStone 116 = .ok (.invokestatic 50, 3) := by decide +kernel
theorem dX5_addStone_119 : decode cX5_addStone 119 = .ok (.putfield 40, 3) := by decide +kernel
theorem dX5_addStone_122 : decode cX5_addStone 122 = .ok (.aload_n 0, 1) := by decide +kernel
theorem dX5_addStone_123 : decode cX5_addStone 123 = .ok (.aload_n 0, 1) := by decide +kernel
theorem dX5_addStone_124 : decode cX5_addStone 124 = .ok (.getfield 43, 3) := by decide +kernel
theorem dX5_addStone_127 : decode cX5_addStone 127 = .ok (.aload_n 0, 1) := by decide +kernel
theorem dX5_addStone_128 : decode cX5_addStone 128 = .ok (.getfield 31, 3) := by decide +kernel
theorem dX5_addStone_131 : decode cX5_addStone 131 = .ok (.iload_n 3, 1) := by decide +kernel
theorem dX5_addStone_132 : decode cX5_addStone 132 = .ok (.invokestatic 50, 3) := by decide +kernel
theorem dX5_addStone_135 : decode cX5_addStone 135 = .ok (.putfield 43, 3) := by decide +kernel
theorem dX5_addStone_138 : decode cX5_addStone 138 = .ok (.aload_n 0, 1) := by decide +kernel
theorem dX5_addStone_139 : decode cX5_addStone 139 = .ok (.dup, 1) := by decide +kernel
theorem dX5_addStone_140 : decode cX5_addStone 140 = .ok (.getfield 31, 3) := by decide +kernel
theorem dX5_addStone_143 : decode cX5_addStone 143 = .ok (.iconst 1, 1) := by decide +kernel
theorem dX5_addStone_144 : decode cX5_addStone 144 = .ok (.iadd, 1) := by decide +kernel
theorem dX5_addStone_145 : decode cX5_addStone 145 = .ok (.putfield 31, 3) := by decide +kernel
theorem dX5_addStone_148 : decode cX5_addStone 148 = .ok (.return_, 1) := by decide +kernel
theorem dX5_wayBetween_0 : decode cX5_wayBetween 0 = .ok (.iload_n 1, 1) := by decide +kernel
theorem dX5_wayBetween_1 : decode cX5_wayBetween 1 = .ok (.bipush (-9), 2) := by decide +kernel
theorem dX5_wayBetween_3 : decode cX5_wayBetween 3 = .ok (.if_icmp .ne 8, 3) := by decide +kernel
theorem dX5_wayBetween_6 : decode cX5_wayBetween 6 = .ok (.bipush 7, 2) := by decide +kernel
theorem dX5_wayBetween_8 : decode cX5_wayBetween 8 = .ok (.goto 9, 3) := by decide +kernel
theorem dX5_wayBetween_11 : decode cX5_wayBetween 11 = .ok (.iload_n 0, 1) := by decide +kernel
theorem dX5_wayBetween_12 : decode cX5_wayBetween 12 = .ok (.iload_n 1, 1) := by decide +kernel
theorem dX5_wayBetween_13 : decode cX5_wayBetween 13 = .ok (.isub, 1) := by decide +kernel
theorem dX5_wayBetween_14 : decode cX5_wayBetween 14 = .ok (.invokestatic 57, 3) := by decide +kernel
theorem dX5_wayBetween_17 : decode cX5_wayBetween 17 = .ok (.ireturn, 1) := by decide +kernel
theorem dX5_addWalker_0 : decode cX5_addWalker 0 = .ok (.aload_n 0, 1) := by decide +kernel
theorem dX5_addWalker_1 : decode cX5_addWalker 1 = .ok (.getfield 34, 3) := by decide +kernel
theorem dX5_addWalker_4 : decode cX5_addWalker 4 = .ok (.iconst 5, 1) := by decide +kernel
theorem dX5_addWalker_5 : decode cX5_addWalker 5 = .ok (.if_icmp .ge 23, 3) := by decide +kernel
theorem dX5_addWalker_8 : decode cX5_addWalker 8 = .ok (.aload_n 0, 1) := by decide +kernel
theorem dX5_addWalker_9 : decode cX5_addWalker 9 = .ok (.getfield 23, 3) := by decide +kernel
theorem dX5_addWalker_12 : decode cX5_addWalker 12 = .ok (.aload_n 0, 1) := by decide +kernel
theorem dX5_addWalker_13 : decode cX5_addWalker 13 = .ok (.getfield 34, 3) := by decide +kernel
theorem dX5_addWalker_16 : decode cX5_addWalker 16 = .ok (.aload_n 1, 1) := by decide +kernel
theorem dX5_addWalker_17 : decode cX5_addWalker 17 = .ok (.aastore, 1) := by decide +kernel
theorem dX5_addWalker_18 : decode cX5_addWalker 18 = .ok (.aload_n 0, 1) := by decide +kernel
theorem dX5_addWalker_19 : decode cX5_addWalker 19 = .ok (.dup, 1) := by decide +kernel
theorem dX5_addWalker_20 : decode cX5_addWalker 20 = .ok (.getfield 34, 3) := by decide +kernel
theorem dX5_addWalker_23 : decode cX5_addWalker 23 = .ok (.iconst 1, 1) := by decide +kernel
theorem dX5_addWalker_24 : decode cX5_addWalker 24 = .ok (.iadd, 1) := by decide +kernel
theorem dX5_addWalker_25 : decode cX5_addWalker 25 = .ok (.putfield 34, 3) := by decide +kernel
theorem dX5_addWalker_28 : decode cX5_addWalker 28 = .ok (.return_, 1) := by decide +kernel
theorem dX5_walkerAt_0 : decode cX5_walkerAt 0 = .ok (.iload_n 1, 1) := by decide +kernel
theorem dX5_walkerAt_1 : decode cX5_walkerAt 1 = .ok (.ifCond .lt 20, 3) := by decide +kernel
theorem dX5_walkerAt_4 : decode cX5_walkerAt 4 = .ok (.iload_n 1, 1) := by decide +kernel
theorem dX5_walkerAt_5 : decode cX5_walkerAt 5 = .ok (.aload_n 0, 1) := by decide +kernel
theorem dX5_walkerAt_6 : decode cX5_walkerAt 6 = .ok (.getfield 34, 3) := by decide +kernel
theorem dX5_walkerAt_9 : decode cX5_walkerAt 9 = .ok (.if_icmp .ge 12, 3) := by decide +kernel
theorem dX5_walkerAt_12 : decode cX5_walkerAt 12 = .ok (.aload_n 0, 1) := by decide +kernel
theorem dX5_walkerAt_13 : decode cX5_walkerAt 13 = .ok (.getfield 23, 3) := by decide +kernel
theorem dX5_walkerAt_16 : decode cX5_walkerAt 16 = .ok (.iload_n 1, 1) := by decide +kernel
theorem dX5_walkerAt_17 : decode cX5_walkerAt 17 = .ok (.aaload, 1) := by decide +kernel
theorem dX5_walkerAt_18 : decode cX5_walkerAt 18 = .ok (.goto 4, 3) := by decide +kernel
theorem dX5_walkerAt_21 : decode cX5_walkerAt 21 = .ok (.aconst_null, 1) := by decide +kernel
theorem dX5_walkerAt_22 : decode cX5_walkerAt 22 = .ok (.areturn, 1) := by decide +kernel
theorem dX5_hasNumber_0 : decode cX5_hasNumber 0 = .ok (.iconst 0, 1) := by decide +kernel
theorem dX5_hasNumber_1 : decode cX5_hasNumber 1 = .ok (.istore_n 2, 1) := by decide +kernel
theorem dX5_hasNumber_2 : decode cX5_hasNumber 2 = .ok (.iload_n 2, 1) := by decide +kernel
theorem dX5_hasNumber_3 : decode cX5_hasNumber 3 = .ok (.aload_n 0, 1) := by decide +kernel
theorem dX5_hasNumber_4 : decode cX5_hasNumber 4 = .ok (.getfield 31, 3) := by decide +kernel
theorem dX5_hasNumber_7 : decode cX5_hasNumber 7 = .ok (.if_icmp .ge 21, 3) := by decide +kernel
theorem dX5_hasNumber_10 : decode cX5_hasNumber 10 = .ok (.aload_n 0, 1) := by decide +kernel
theorem dX5_hasNumber_11 : decode cX5_hasNumber 11 = .ok (.getfield 11, 3) := by decide +kernel
theorem dX5_hasNumber_14 : decode cX5_hasNumber 14 = .ok (.iload_n 2, 1) := by decide +kernel
theorem dX5_hasNumber_15 : decode cX5_hasNumber 15 = .ok (.iaload, 1) := by decide +kernel
theorem dX5_hasNumber_16 : decode cX5_hasNumber 16 = .ok (.iload_n 1, 1) := by decide +kernel
theorem dX5_hasNumber_17 : decode cX5_hasNumber 17 = .ok (.if_icmp .ne 5, 3) := by decide +kernel
theorem dX5_hasNumber_20 : decode cX5_hasNumber 20 = .ok (.iconst 1, 1) := by decide +kernel
theorem dX5_hasNumber_21 : decode cX5_hasNumber 21 = .ok (.ireturn, 1) := by decide +kernel
theorem dX5_hasNumber_22 : decode cX5_hasNumber 22 = .ok (.iinc 2 1, 3) := by decide +kernel
theorem dX5_hasNumber_25 : decode cX5_hasNumber 25 = .ok (.goto (-23), 3) := by decide +kernel
theorem dX5_hasNumber_28 : decode cX5_hasNumber 28 = .ok (.iconst 0, 1) := by decide +kernel
theorem dX5_hasNumber_29 : decode cX5_hasNumber 29 = .ok (.ireturn, 1) := by decide +kernel
theorem dX5_turnOf_0 : decode cX5_turnOf 0 = .ok (.iload_n 3, 1) := by decide +kernel
theorem dX5_turnOf_1 : decode cX5_turnOf 1 = .ok (.lookupswitch 42 #[(0, 27), (1, 34)], 27) := by decide +kernel
theorem dX5_turnOf_28 : decode cX5_turnOf 28 = .ok (.aload_n 0, 1) := by decide +kernel
theorem dX5_turnOf_29 : decode cX5_turnOf 29 = .ok (.getfield 11, 3) := by decide +kernel
theorem dX5_turnOf_32 : decode cX5_turnOf 32 = .ok (.iload_n 1, 1) := by decide +kernel
theorem dX5_turnOf_33 : decode cX5_turnOf 33 = .ok (.iaload, 1) := by decide +kernel
theorem dX5_turnOf_34 : decode cX5_turnOf 34 = .ok (.ireturn, 1) := by decide +kernel
theorem dX5_turnOf_35 : decode cX5_turnOf 35 = .ok (.aload_n 0, 1) := by decide +kernel
theorem dX5_turnOf_36 : decode cX5_turnOf 36 = .ok (.getfield 11, 3) := by decide +kernel
theorem dX5_turnOf_39 : decode cX5_turnOf 39 = .ok (.iload_n 1, 1) := by decide +kernel
theorem dX5_turnOf_40 : decode cX5_turnOf 40 = .ok (.iaload, 1) := by decide +kernel
theorem dX5_turnOf_41 : decode cX5_turnOf 41 = .ok (.ineg, 1) := by decide +kernel
theorem dX5_turnOf_42 : decode cX5_turnOf 42 = .ok (.ireturn, 1) := by decide +kernel
theorem dX5_turnOf_43 : decode cX5_turnOf 43 = .ok (.aload_n 0, 1) := by decide +kernel
theorem dX5_turnOf_44 : decode cX5_turnOf 44 = .ok (.getfield 11, 3) := by decide +kernel
theorem dX5_turnOf_47 : decode cX5_turnOf 47 = .ok (.iload_n 1, 1) := by decide +kernel
