theorem dX5_wants_29 : decode cX5_wants 29 = .ok (.ifCond .eq 17, 3) := by decide +kernel
theorem dX5_wants_32 : decode cX5_wants 32 = .ok (.aload_n 0, 1) := by decide +kernel
theorem dX5_wants_33 : decode cX5_wants 33 = .ok (.getfield 29, 3) := by decide +kernel
theorem dX5_wants_36 : decode cX5_wants 36 = .ok (.iload_n 1, 1) := by decide +kernel
theorem dX5_wants_37 : decode cX5_wants 37 = .ok (.iaload, 1) := by decide +kernel
theorem dX5_wants_38 : decode cX5_wants 38 = .ok (.iload_n 2, 1) := by decide +kernel
theorem dX5_wants_39 : decode cX5_wants 39 = .ok (.iload_n 3, 1) := by decide +kernel
theorem dX5_wants_40 : decode cX5_wants 40 = .ok (.invokestatic 151, 3) := by decide +kernel
theorem dX5_wants_43 : decode cX5_wants 43 = .ok (.goto 4, 3) := by decide +kernel
theorem dX5_wants_46 : decode cX5_wants 46 = .ok (.iconst (-1), 1) := by decide +kernel
theorem dX5_wants_47 : decode cX5_wants 47 = .ok (.ireturn, 1) := by decide +kernel
theorem dX5_air_0 : decode cX5_air 0 = .ok (.iload_n 1, 1) := by decide +kernel
theorem dX5_air_1 : decode cX5_air 1 = .ok (.i2l, 1) := by decide +kernel
theorem dX5_air_2 : decode cX5_air 2 = .ok (.lconst 0, 1) := by decide +kernel
theorem dX5_air_3 : decode cX5_air 3 = .ok (.ldc2_w 208, 3) := by decide +kernel
theorem dX5_air_6 : decode cX5_air 6 = .ok (.invokestatic 80, 3) := by decide +kernel
theorem dX5_air_9 : decode cX5_air 9 = .ok (.ifCond .ne 5, 3) := by decide +kernel
theorem dX5_air_12 : decode cX5_air 12 = .ok (.iconst (-1), 1) := by decide +kernel
theorem dX5_air_13 : decode cX5_air 13 = .ok (.ireturn, 1) := by decide +kernel
theorem dX5_air_14 : decode cX5_air 14 = .ok (.aload_n 0, 1) := by decide +kernel
theorem dX5_air_15 : decode cX5_air 15 = .ok (.getfield 148, 3) := by decide +kernel
theorem dX5_air_18 : decode cX5_air 18 = .ok (.ifCond .ne 6, 3) := by decide +kernel
theorem dX5_air_21 : decode cX5_air 21 = .ok (.bipush (-4), 2) := by decide +kernel
theorem dX5_air_23 : decode cX5_air 23 = .ok (.ireturn, 1) := by decide +kernel
theorem dX5_air_24 : decode cX5_air 24 = .ok (.aload_n 0, 1) := by decide +kernel
theorem dX5_air_25 : decode cX5_air 25 = .ok (.invokevirtual 210, 3) := by decide +kernel
theorem dX5_air_28 : decode cX5_air 28 = .ok (.iconst 0, 1) := by decide +kernel
theorem dX5_air_29 : decode cX5_air 29 = .ok (.istore_n 2, 1) := by decide +kernel
theorem dX5_air_30 : decode cX5_air 30 = .ok (.iconst 0, 1) := by decide +kernel
theorem dX5_air_31 : decode cX5_air 31 = .ok (.istore_n 3, 1) := by decide +kernel
theorem dX5_air_32 : decode cX5_air 32 = .ok (.iload_n 3, 1) := by decide +kernel
theorem dX5_air_33 : decode cX5_air 33 = .ok (.iload_n 1, 1) := by decide +kernel
theorem dX5_air_34 : decode cX5_air 34 = .ok (.if_icmp .ge 18, 3) := by decide +kernel
theorem dX5_air_37 : decode cX5_air 37 = .ok (.aload_n 0, 1) := by decide +kernel
theorem dX5_air_38 : decode cX5_air 38 = .ok (.aload_n 0, 1) := by decide +kernel
theorem dX5_air_39 : decode cX5_air 39 = .ok (.getfield 41, 3) := by decide +kernel
theorem dX5_air_42 : decode cX5_air 42 = .ok (.invokevirtual 191, 3) := by decide +kernel
theorem dX5_air_45 : decode cX5_air 45 = .ok (.istore_n 2, 1) := by decide +kernel
theorem dX5_air_46 : decode cX5_air 46 = .ok (.iinc 3 1, 3) := by decide +kernel
theorem dX5_air_49 : decode cX5_air 49 = .ok (.goto (-17), 3) := by decide +kernel
theorem dX5_air_52 : decode cX5_air 52 = .ok (.aload_n 0, 1) := by decide +kernel
theorem dX5_air_53 : decode cX5_air 53 = .ok (.aload_n 0, 1) := by decide +kernel
theorem dX5_air_54 : decode cX5_air 54 = .ok (.getfield 41, 3) := by decide +kernel
theorem dX5_air_57 : decode cX5_air 57 = .ok (.iconst 0, 1) := by decide +kernel
theorem dX5_air_58 : decode cX5_air 58 = .ok (.iaload, 1) := by decide +kernel
theorem dX5_air_59 : decode cX5_air 59 = .ok (.iload_n 2, 1) := by decide +kernel
theorem dX5_air_60 : decode cX5_air 60 = .ok (.invokevirtual 213, 3) := by decide +kernel
theorem dX5_air_63 : decode cX5_air 63 = .ok (.ireturn, 1) := by decide +kernel
theorem dX5_says_0 : decode cX5_says 0 = .ok (.aload_n 0, 1) := by decide +kernel
theorem dX5_says_1 : decode cX5_says 1 = .ok (.iload_n 1, 1) := by decide +kernel
theorem dX5_says_2 : decode cX5_says 2 = .ok (.invokevirtual 176, 3) := by decide +kernel
theorem dX5_says_5 : decode cX5_says 5 = .ok (.ifCond .eq 15, 3) := by decide +kernel
theorem dX5_says_8 : decode cX5_says 8 = .ok (.iload_n 2, 1) := by decide +kernel
theorem dX5_says_9 : decode cX5_says 9 = .ok (.i2l, 1) := by decide +kernel
theorem dX5_says_10 : decode cX5_says 10 = .ok (.lconst 0, 1) := by decide +kernel
theorem dX5_says_11 : decode cX5_says 11 = .ok (.ldc2_w 208, 3) := by decide +kernel
theorem dX5_says_14 : decode cX5_says 14 = .ok (.invokestatic 80, 3) := by decide +kernel
theorem dX5_says_17 : decode cX5_says 17 = .ok (.ifCond .ne 5, 3) := by decide +kernel
theorem dX5_says_20 : decode cX5_says 20 = .ok (.iconst (-1), 1) := by decide +kernel
theorem dX5_says_21 : decode cX5_says 21 = .ok (.ireturn, 1) := by decide +kernel
theorem dX5_says_22 : decode cX5_says 22 = .ok (.aload_n 0, 1) := by decide +kernel
theorem dX5_says_23 : decode cX5_says 23 = .ok (.invokevirtual 210, 3) := by decide +kernel
theorem dX5_says_26 : decode cX5_says 26 = .ok (.iconst 0, 1) := by decide +kernel
theorem dX5_says_27 : decode cX5_says 27 = .ok (.istore_n 3, 1) := by decide +kernel
theorem dX5_says_28 : decode cX5_says 28 = .ok (.iconst 0, 1) := by decide +kernel
theorem dX5_says_29 : decode cX5_says 29 = .ok (.istore 4, 2) := by decide +kernel
theorem dX5_says_31 : decode cX5_says 31 = .ok (.iload 4, 2) := by decide +kernel
theorem dX5_says_33 : decode cX5_says 33 = .ok (.iload_n 2, 1) := by decide +kernel
theorem dX5_says_34 : decode cX5_says 34 = .ok (.if_icmp .ge 32, 3) := by decide +kernel
theorem dX5_says_37 : decode cX5_says 37 = .ok (.iload_n 3, 1) := by decide +kernel
theorem dX5_says_38 : decode cX5_says 38 = .ok (.aload_n 0, 1) := by decide +kernel
theorem dX5_says_39 : decode cX5_says 39 = .ok (.aload_n 0, 1) := by decide +kernel
theorem dX5_says_40 : decode cX5_says 40 = .ok (.getfield 41, 3) := by decide +kernel
theorem dX5_says_43 : decode cX5_says 43 = .ok (.invokevirtual 191, 3) := by decide +kernel
theorem dX5_says_46 : decode cX5_says 46 = .ok (.iload_n 1, 1) := by decide +kernel
theorem dX5_says_47 : decode cX5_says 47 = .ok (.invokestatic 155, 3) := by decide +kernel
theorem dX5_says_50 : decode cX5_says 50 = .ok (.ifCond .eq 7, 3) := by decide +kernel
theorem dX5_says_53 : decode cX5_says 53 = .ok (.iconst 1, 1) := by decide +kernel
theorem dX5_says_54 : decode cX5_says 54 = .ok (.goto 4, 3) := by decide +kernel
theorem dX5_says_57 : decode cX5_says 57 = .ok (.iconst 0, 1) := by decide +kernel
theorem dX5_says_58 : decode cX5_says 58 = .ok (.iadd, 1) := by decide +kernel
theorem dX5_says_59 : decode cX5_says 59 = .ok (.istore_n 3, 1) := by decide +kernel
theorem dX5_says_60 : decode cX5_says 60 = .ok (.iinc 4 1, 3) := by decide +kernel
theorem dX5_says_63 : decode cX5_says 63 = .ok (.goto (-32), 3) := by decide +kernel
theorem dX5_says_66 : decode cX5_says 66 = .ok (.iload_n 3, 1) := by decide +kernel
theorem dX5_says_67 : decode cX5_says 67 = .ok (.ireturn, 1) := by decide +kernel
theorem dX5_first_0 : decode cX5_first 0 = .ok (.aload_n 0, 1) := by decide +kernel
theorem dX5_first_1 : decode cX5_first 1 = .ok (.iload_n 1, 1) := by decide +kernel
theorem dX5_first_2 : decode cX5_first 2 = .ok (.invokevirtual 176, 3) := by decide +kernel
theorem dX5_first_5 : decode cX5_first 5 = .ok (.ifCond .ne 5, 3) := by decide +kernel
theorem dX5_first_8 : decode cX5_first 8 = .ok (.iconst (-1), 1) := by decide +kernel
theorem dX5_first_9 : decode cX5_first 9 = .ok (.ireturn, 1) := by decide +kernel
theorem dX5_first_10 : decode cX5_first 10 = .ok (.aload_n 0, 1) := by decide +kernel
theorem dX5_first_11 : decode cX5_first 11 = .ok (.invokevirtual 210, 3) := by decide +kernel
theorem dX5_first_14 : decode cX5_first 14 = .ok (.iconst 1, 1) := by decide +kernel
theorem dX5_first_15 : decode cX5_first 15 = .ok (.istore_n 2, 1) := by decide +kernel
theorem dX5_first_16 : decode cX5_first 16 = .ok (.iload_n 2, 1) := by decide +kernel
theorem dX5_first_17 : decode cX5_first 17 = .ok (.bipush 41, 2) := by decide +kernel
theorem dX5_first_19 : decode cX5_first 19 = .ok (.if_icmp .ge 26, 3) := by decide +kernel
theorem dX5_first_22 : decode cX5_first 22 = .ok (.aload_n 0, 1) := by decide +kernel
theorem dX5_first_23 : decode cX5_first 23 = .ok (.aload_n 0, 1) := by decide +kernel
theorem dX5_first_24 : decode cX5_first 24 = .ok (.getfield 41, 3) := by decide +kernel
theorem dX5_first_27 : decode cX5_first 27 = .ok (.invokevirtual 191, 3) := by decide +kernel
theorem dX5_first_30 : decode cX5_first 30 = .ok (.iload_n 1, 1) := by decide +kernel
theorem dX5_first_31 : decode cX5_first 31 = .ok (.invokestatic 155, 3) := by decide +kernel
theorem dX5_first_34 : decode cX5_first 34 = .ok (.ifCond .eq 5, 3) := by decide +kernel
theorem dX5_first_37 : decode cX5_first 37 = .ok (.iload_n 2, 1) := by decide +kernel
theorem dX5_first_38 : decode cX5_first 38 = .ok (.ireturn, 1) := by decide +kernel
theorem dX5_first_39 : decode cX5_first 39 = .ok (.iinc 2 1, 3) := by decide +kernel
theorem dX5_first_42 : decode cX5_first 42 = .ok (.goto (-26), 3) := by decide +kernel
theorem dX5_first_45 : decode cX5_first 45 = .ok (.bipush (-9), 2) := by decide +kernel
theorem dX5_first_47 : decode cX5_first 47 = .ok (.ireturn, 1) := by decide +kernel
theorem dX5_hush_0 : decode cX5_hush 0 = .ok (.aload_n 0, 1) := by decide +kernel
theorem dX5_hush_1 : decode cX5_hush 1 = .ok (.iload_n 1, 1) := by decide +kernel
theorem dX5_hush_2 : decode cX5_hush 2 = .ok (.invokevirtual 176, 3) := by decide +kernel
theorem dX5_hush_5 : decode cX5_hush 5 = .ok (.ifCond .ne 5, 3) := by decide +kernel
theorem dX5_hush_8 : decode cX5_hush 8 = .ok (.iconst (-1), 1) := by decide +kernel
theorem dX5_hush_9 : decode cX5_hush 9 = .ok (.ireturn, 1) := by decide +kernel
theorem dX5_hush_10 : decode cX5_hush 10 = .ok (.bipush (-9), 2) := by decide +kernel
theorem dX5_hush_12 : decode cX5_hush 12 = .ok (.istore_n 2, 1) := by decide +kernel
theorem dX5_hush_13 : decode cX5_hush 13 = .ok (.iconst 0, 1) := by decide +kernel
theorem dX5_hush_14 : decode cX5_hush 14 = .ok (.istore_n 3, 1) := by decide +kernel
theorem dX5_hush_15 : decode cX5_hush 15 = .ok (.iload_n 3, 1) := by decide +kernel
theorem dX5_hush_16 : decode cX5_hush 16 = .ok (.iconst 1, 1) := by decide +kernel
theorem dX5_hush_17 : decode cX5_hush 17 = .ok (.aload_n 0, 1) := by decide +kernel
theorem dX5_hush_18 : decode cX5_hush 18 = .ok (.getfield 148, 3) := by decide +kernel
theorem dX5_hush_21 : decode cX5_hush 21 = .ok (.ishl, 1) := by decide +kernel
theorem dX5_hush_22 : decode cX5_hush 22 = .ok (.if_icmp .ge 76, 3) := by decide +kernel
theorem dX5_hush_25 : decode cX5_hush 25 = .ok (.iload_n 3, 1) := by decide +kernel
theorem dX5_hush_26 : decode cX5_hush 26 = .ok (.aload_n 0, 1) := by decide +kernel
theorem dX5_hush_27 : decode cX5_hush 27 = .ok (.getfield 38, 3) := by decide +kernel
theorem dX5_hush_30 : decode cX5_hush 30 = .ok (.iconst 3, 1) := by decide +kernel
theorem dX5_hush_31 : decode cX5_hush 31 = .ok (.iaload, 1) := by decide +kernel
theorem dX5_hush_32 : decode cX5_hush 32 = .ok (.iconst 1, 1) := by decide +kernel
theorem dX5_hush_33 : decode cX5_hush 33 = .ok (.iload_n 1, 1) := by decide +kernel
theorem dX5_hush_34 : decode cX5_hush 34 = .ok (.ishl, 1) := by decide +kernel
theorem dX5_hush_35 : decode cX5_hush 35 = .ok (.ior, 1) := by decide +kernel
theorem dX5_hush_36 : decode cX5_hush 36 = .ok (.iand, 1) := by decide +kernel
theorem dX5_hush_37 : decode cX5_hush 37 = .ok (.ifCond .ne 55, 3) := by decide +kernel
theorem dX5_hush_40 : decode cX5_hush 40 = .ok (.iload_n 2, 1) := by decide +kernel
theorem dX5_hush_41 : decode cX5_hush 41 = .ok (.bipush (-9), 2) := by decide +kernel
theorem dX5_hush_43 : decode cX5_hush 43 = .ok (.if_icmp .eq 14, 3) := by decide +kernel
theorem dX5_hush_46 : decode cX5_hush 46 = .ok (.iload_n 3, 1) := by decide +kernel
theorem dX5_hush_47 : decode cX5_hush 47 = .ok (.invokestatic 216, 3) := by decide +kernel
theorem dX5_hush_50 : decode cX5_hush 50 = .ok (.iload_n 2, 1) := by decide +kernel
theorem dX5_hush_51 : decode cX5_hush 51 = .ok (.invokestatic 216, 3) := by decide +kernel
theorem dX5_hush_54 : decode cX5_hush 54 = .ok (.if_icmp .ge 38, 3) := by decide +kernel
theorem dX5_hush_57 : decode cX5_hush 57 = .ok (.aload_n 0, 1) := by decide +kernel
theorem dX5_hush_58 : decode cX5_hush 58 = .ok (.invokevirtual 210, 3) := by decide +kernel
theorem dX5_hush_61 : decode cX5_hush 61 = .ok (.aload_n 0, 1) := by decide +kernel
theorem dX5_hush_62 : decode cX5_hush 62 = .ok (.getfield 41, 3) := by decide +kernel
theorem dX5_hush_65 : decode cX5_hush 65 = .ok (.iconst 3, 1) := by decide +kernel
theorem dX5_hush_66 : decode cX5_hush 66 = .ok (.dup2, 1) := by decide +kernel
theorem dX5_hush_67 : decode cX5_hush 67 = .ok (.iaload, 1) := by decide +kernel
theorem dX5_hush_68 : decode cX5_hush 68 = .ok (.iload_n 3, 1) := by decide +kernel
theorem dX5_hush_69 : decode cX5_hush 69 = .ok (.ior, 1) := by decide +kernel
theorem dX5_hush_70 : decode cX5_hush 70 = .ok (.iastore, 1) := by decide +kernel
theorem dX5_hush_71 : decode cX5_hush 71 = .ok (.aload_n 0, 1) := by decide +kernel
theorem dX5_hush_72 : decode cX5_hush 72 = .ok (.aload_n 0, 1) := by decide +kernel
theorem dX5_hush_73 : decode cX5_hush 73 = .ok (.getfield 41, 3) := by decide +kernel
theorem dX5_hush_76 : decode cX5_hush 76 = .ok (.invokevirtual 191, 3) := by decide +kernel
theorem dX5_hush_79 : decode cX5_hush 79 = .ok (.iload_n 1, 1) := by decide +kernel
theorem dX5_hush_80 : decode cX5_hush 80 = .ok (.invokestatic 155, 3) := by decide +kernel
theorem dX5_hush_83 : decode cX5_hush 83 = .ok (.ifCond .eq 7, 3) := by decide +kernel
theorem dX5_hush_86 : decode cX5_hush 86 = .ok (.iload_n 3, 1) := by decide +kernel
theorem dX5_hush_87 : decode cX5_hush 87 = .ok (.goto 4, 3) := by decide +kernel
theorem dX5_hush_90 : decode cX5_hush 90 = .ok (.iload_n 2, 1) := by decide +kernel
theorem dX5_hush_91 : decode cX5_hush 91 = .ok (.istore_n 2, 1) := by decide +kernel
theorem dX5_hush_92 : decode cX5_hush 92 = .ok (.iinc 3 1, 3) := by decide +kernel
theorem dX5_hush_95 : decode cX5_hush 95 = .ok (.goto (-80), 3) := by decide +kernel
theorem dX5_hush_98 : decode cX5_hush 98 = .ok (.iload_n 2, 1) := by decide +kernel
theorem dX5_hush_99 : decode cX5_hush 99 = .ok (.bipush (-9), 2) := by decide +kernel
theorem dX5_hush_101 : decode cX5_hush 101 = .ok (.if_icmp .ne 8, 3) := by decide +kernel
theorem dX5_hush_104 : decode cX5_hush 104 = .ok (.bipush (-9), 2) := by decide +kernel
theorem dX5_hush_106 : decode cX5_hush 106 = .ok (.goto 12, 3) := by decide +kernel
theorem dX5_hush_109 : decode cX5_hush 109 = .ok (.aload_n 0, 1) := by decide +kernel
theorem dX5_hush_110 : decode cX5_hush 110 = .ok (.iload_n 2, 1) := by decide +kernel
theorem dX5_hush_111 : decode cX5_hush 111 = .ok (.invokestatic 216, 3) := by decide +kernel
theorem dX5_hush_114 : decode cX5_hush 114 = .ok (.iload_n 2, 1) := by decide +kernel
theorem dX5_hush_115 : decode cX5_hush 115 = .ok (.invokevirtual 213, 3) := by decide +kernel
theorem dX5_hush_118 : decode cX5_hush 118 = .ok (.ireturn, 1) := by decide +kernel
theorem dX5_least_0 : decode cX5_least 0 = .ok (.aload_n 0, 1) := by decide +kernel
theorem dX5_least_1 : decode cX5_least 1 = .ok (.iload_n 1, 1) := by decide +kernel
theorem dX5_least_2 : decode cX5_least 2 = .ok (.invokevirtual 176, 3) := by decide +kernel
theorem dX5_least_5 : decode cX5_least 5 = .ok (.ifCond .ne 5, 3) := by decide +kernel
theorem dX5_least_8 : decode cX5_least 8 = .ok (.iconst (-1), 1) := by decide +kernel
theorem dX5_least_9 : decode cX5_least 9 = .ok (.ireturn, 1) := by decide +kernel
theorem dX5_least_10 : decode cX5_least 10 = .ok (.iconst 0, 1) := by decide +kernel
theorem dX5_least_11 : decode cX5_least 11 = .ok (.istore_n 2, 1) := by decide +kernel
theorem dX5_least_12 : decode cX5_least 12 = .ok (.iload_n 2, 1) := by decide +kernel
theorem dX5_least_13 : decode cX5_least 13 = .ok (.bipush 61, 2) := by decide +kernel
theorem dX5_least_15 : decode cX5_least 15 = .ok (.if_icmp .ge 49, 3) := by decide +kernel
theorem dX5_least_18 : decode cX5_least 18 = .ok (.aload_n 0, 1) := by decide +kernel
theorem dX5_least_19 : decode cX5_least 19 = .ok (.invokevirtual 210, 3) := by decide +kernel
theorem dX5_least_22 : decode cX5_least 22 = .ok (.aload_n 0, 1) := by decide +kernel
theorem dX5_least_23 : decode cX5_least 23 = .ok (.getfield 41, 3) := by decide +kernel
theorem dX5_least_26 : decode cX5_least 26 = .ok (.iconst 0, 1) := by decide +kernel
theorem dX5_least_27 : decode cX5_least 27 = .ok (.bipush 60, 2) := by decide +kernel
theorem dX5_least_29 : decode cX5_least 29 = .ok (.aload_n 0, 1) := by decide +kernel
theorem dX5_least_30 : decode cX5_least 30 = .ok (.getfield 41, 3) := by decide +kernel
theorem dX5_least_33 : decode cX5_least 33 = .ok (.iconst 0, 1) := by decide +kernel
theorem dX5_least_34 : decode cX5_least 34 = .ok (.iaload, 1) := by decide +kernel
theorem dX5_least_35 : decode cX5_least 35 = .ok (.iload_n 2, 1) := by decide +kernel
theorem dX5_least_36 : decode cX5_least 36 = .ok (.iadd, 1) := by decide +kernel
theorem dX5_least_37 : decode cX5_least 37 = .ok (.invokestatic 165, 3) := by decide +kernel
theorem dX5_least_40 : decode cX5_least 40 = .ok (.iastore, 1) := by decide +kernel
theorem dX5_least_41 : decode cX5_least 41 = .ok (.aload_n 0, 1) := by decide +kernel
theorem dX5_least_42 : decode cX5_least 42 = .ok (.aload_n 0, 1) := by decide +kernel
theorem dX5_least_43 : decode cX5_least 43 = .ok (.getfield 41, 3) := by decide +kernel
theorem dX5_least_46 : decode cX5_least 46 = .ok (.invokevirtual 191, 3) := by decide +kernel
theorem dX5_least_49 : decode cX5_least 49 = .ok (.iload_n 1, 1) := by decide +kernel
theorem dX5_least_50 : decode cX5_least 50 = .ok (.invokestatic 155, 3) := by decide +kernel
theorem dX5_least_53 : decode cX5_least 53 = .ok (.ifCond .eq 5, 3) := by decide +kernel
theorem dX5_least_56 : decode cX5_least 56 = .ok (.iload_n 2, 1) := by decide +kernel
theorem dX5_least_57 : decode cX5_least 57 = .ok (.ireturn, 1) := by decide +kernel
theorem dX5_least_58 : decode cX5_least 58 = .ok (.iinc 2 1, 3) := by decide +kernel
theorem dX5_least_61 : decode cX5_least 61 = .ok (.goto (-49), 3) := by decide +kernel
theorem dX5_least_64 : decode cX5_least 64 = .ok (.bipush (-9), 2) := by decide +kernel
theorem dX5_least_66 : decode cX5_least 66 = .ok (.ireturn, 1) := by decide +kernel
theorem dX5_hard_0 : decode cX5_hard 0 = .ok (.aload_n 0, 1) := by decide +kernel
theorem dX5_hard_1 : decode cX5_hard 1 = .ok (.iload_n 1, 1) := by decide +kernel
theorem dX5_hard_2 : decode cX5_hard 2 = .ok (.invokevirtual 219, 3) := by decide +kernel
theorem dX5_hard_5 : decode cX5_hard 5 = .ok (.ifCond .eq 15, 3) := by decide +kernel
theorem dX5_hard_8 : decode cX5_hard 8 = .ok (.iload_n 2, 1) := by decide +kernel
theorem dX5_hard_9 : decode cX5_hard 9 = .ok (.i2l, 1) := by decide +kernel
theorem dX5_hard_10 : decode cX5_hard 10 = .ok (.lconst 1, 1) := by decide +kernel
theorem dX5_hard_11 : decode cX5_hard 11 = .ok (.ldc2_w 222, 3) := by decide +kernel
theorem dX5_hard_14 : decode cX5_hard 14 = .ok (.invokestatic 80, 3) := by decide +kernel
theorem dX5_hard_17 : decode cX5_hard 17 = .ok (.ifCond .ne 5, 3) := by decide +kernel
theorem dX5_hard_20 : decode cX5_hard 20 = .ok (.iconst (-1), 1) := by decide +kernel
theorem dX5_hard_21 : decode cX5_hard 21 = .ok (.ireturn, 1) := by decide +kernel
theorem dX5_hard_22 : decode cX5_hard 22 = .ok (.aload_n 0, 1) := by decide +kernel
theorem dX5_hard_23 : decode cX5_hard 23 = .ok (.getfield 148, 3) := by decide +kernel
theorem dX5_hard_26 : decode cX5_hard 26 = .ok (.ifCond .ne 6, 3) := by decide +kernel
theorem dX5_hard_29 : decode cX5_hard 29 = .ok (.bipush (-4), 2) := by decide +kernel
theorem dX5_hard_31 : decode cX5_hard 31 = .ok (.ireturn, 1) := by decide +kernel
theorem dX5_hard_32 : decode cX5_hard 32 = .ok (.iconst 0, 1) := by decide +kernel
theorem dX5_hard_33 : decode cX5_hard 33 = .ok (.istore_n 3, 1) := by decide +kernel
theorem dX5_hard_34 : decode cX5_hard 34 = .ok (.iload_n 3, 1) := by decide +kernel
theorem dX5_hard_35 : decode cX5_hard 35 = .ok (.bipush 10, 2) := by decide +kernel
theorem dX5_hard_37 : decode cX5_hard 37 = .ok (.if_icmp .ge 72, 3) := by decide +kernel
theorem dX5_hard_40 : decode cX5_hard 40 = .ok (.aload_n 0, 1) := by decide +kernel
theorem dX5_hard_41 : decode cX5_hard 41 = .ok (.invokevirtual 210, 3) := by decide +kernel
theorem dX5_hard_44 : decode cX5_hard 44 = .ok (.aload_n 0, 1) := by decide +kernel
theorem dX5_hard_45 : decode cX5_hard 45 = .ok (.getfield 41, 3) := by decide +kernel
theorem dX5_hard_48 : decode cX5_hard 48 = .ok (.iconst 1, 1) := by decide +kernel
theorem dX5_hard_49 : decode cX5_hard 49 = .ok (.iload_n 3, 1) := by decide +kernel
theorem dX5_hard_50 : decode cX5_hard 50 = .ok (.iastore, 1) := by decide +kernel
theorem dX5_hard_51 : decode cX5_hard 51 = .ok (.iconst 1, 1) := by decide +kernel
theorem dX5_hard_52 : decode cX5_hard 52 = .ok (.istore 4, 2) := by decide +kernel
theorem dX5_hard_54 : decode cX5_hard 54 = .ok (.iconst 0, 1) := by decide +kernel
theorem dX5_hard_55 : decode cX5_hard 55 = .ok (.istore 5, 2) := by decide +kernel
theorem dX5_hard_57 : decode cX5_hard 57 = .ok (.iload 5, 2) := by decide +kernel
theorem dX5_hard_59 : decode cX5_hard 59 = .ok (.iload_n 2, 1) := by decide +kernel
theorem dX5_hard_60 : decode cX5_hard 60 = .ok (.if_icmp .ge 36, 3) := by decide +kernel
theorem dX5_hard_63 : decode cX5_hard 63 = .ok (.iload 4, 2) := by decide +kernel
theorem dX5_hard_65 : decode cX5_hard 65 = .ok (.ifCond .eq 22, 3) := by decide +kernel
theorem dX5_hard_68 : decode cX5_hard 68 = .ok (.iload_n 1, 1) := by decide +kernel
theorem dX5_hard_69 : decode cX5_hard 69 = .ok (.aload_n 0, 1) := by decide +kernel
theorem dX5_hard_70 : decode cX5_hard 70 = .ok (.aload_n 0, 1) := by decide +kernel
theorem dX5_hard_71 : decode cX5_hard 71 = .ok (.getfield 41, 3) := by decide +kernel
theorem dX5_hard_74 : decode cX5_hard 74 = .ok (.invokevirtual 191, 3) := by decide +kernel
theorem dX5_hard_77 : decode cX5_hard 77 = .ok (.iconst (-1), 1) := by decide +kernel
theorem dX5_hard_78 : decode cX5_hard 78 = .ok (.ixor, 1) := by decide +kernel
theorem dX5_hard_79 : decode cX5_hard 79 = .ok (.iand, 1) := by decide +kernel
theorem dX5_hard_80 : decode cX5_hard 80 = .ok (.ifCond .ne 7, 3) := by decide +kernel
theorem dX5_hard_83 : decode cX5_hard 83 = .ok (.iconst 1, 1) := by decide +kernel
theorem dX5_hard_84 : decode cX5_hard 84 = .ok (.goto 4, 3) := by decide +kernel
theorem dX5_hard_87 : decode cX5_hard 87 = .ok (.iconst 0, 1) := by decide +kernel
theorem dX5_hard_88 : decode cX5_hard 88 = .ok (.istore 4, 2) := by decide +kernel
theorem dX5_hard_90 : decode cX5_hard 90 = .ok (.iinc 5 1, 3) := by decide +kernel
theorem dX5_hard_93 : decode cX5_hard 93 = .ok (.goto (-36), 3) := by decide +kernel
theorem dX5_hard_96 : decode cX5_hard 96 = .ok (.iload 4, 2) := by decide +kernel
theorem dX5_hard_98 : decode cX5_hard 98 = .ok (.ifCond .eq 5, 3) := by decide +kernel
theorem dX5_hard_101 : decode cX5_hard 101 = .ok (.iload_n 3, 1) := by decide +kernel
theorem dX5_hard_102 : decode cX5_hard 102 = .ok (.ireturn, 1) := by decide +kernel
theorem dX5_hard_103 : decode cX5_hard 103 = .ok (.iinc 3 1, 3) := by decide +kernel
theorem dX5_hard_106 : decode cX5_hard 106 = .ok (.goto (-72), 3) := by decide +kernel
theorem dX5_hard_109 : decode cX5_hard 109 = .ok (.bipush (-9), 2) := by decide +kernel
theorem dX5_hard_111 : decode cX5_hard 111 = .ok (.ireturn, 1) := by decide +kernel
theorem dX5_refusesRow_0 : decode cX5_refusesRow 0 = .ok (.aload_n 0, 1) := by decide +kernel
theorem dX5_refusesRow_1 : decode cX5_refusesRow 1 = .ok (.getfield 13, 3) := by decide +kernel
theorem dX5_refusesRow_4 : decode cX5_refusesRow 4 = .ok (.iload_n 1, 1) := by decide +kernel
theorem dX5_refusesRow_5 : decode cX5_refusesRow 5 = .ok (.iaload, 1) := by decide +kernel
theorem dX5_refusesRow_6 : decode cX5_refusesRow 6 = .ok (.ifCond .ge 9, 3) := by decide +kernel
theorem dX5_refusesRow_9 : decode cX5_refusesRow 9 = .ok (.aload_n 0, 1) := by decide +kernel
theorem dX5_refusesRow_10 : decode cX5_refusesRow 10 = .ok (.iconst 1, 1) := by decide +kernel
theorem dX5_refusesRow_11 : decode cX5_refusesRow 11 = .ok (.invokevirtual 90, 3) := by decide +kernel
theorem dX5_refusesRow_14 : decode cX5_refusesRow 14 = .ok (.ireturn, 1) := by decide +kernel
theorem dX5_refusesRow_15 : decode cX5_refusesRow 15 = .ok (.aload_n 0, 1) := by decide +kernel
theorem dX5_refusesRow_16 : decode cX5_refusesRow 16 = .ok (.getfield 13, 3) := by decide +kernel
theorem dX5_refusesRow_19 : decode cX5_refusesRow 19 = .ok (.iload_n 1, 1) := by decide +kernel
theorem dX5_refusesRow_20 : decode cX5_refusesRow 20 = .ok (.iaload, 1) := by decide +kernel
theorem dX5_refusesRow_21 : decode cX5_refusesRow 21 = .ok (.i2l, 1) := by decide +kernel
theorem dX5_refusesRow_22 : decode cX5_refusesRow 22 = .ok (.lconst 1, 1) := by decide +kernel
theorem dX5_refusesRow_23 : decode cX5_refusesRow 23 = .ok (.ldc2_w 224, 3) := by decide +kernel
theorem dX5_refusesRow_26 : decode cX5_refusesRow 26 = .ok (.invokestatic 80, 3) := by decide +kernel
theorem dX5_refusesRow_29 : decode cX5_refusesRow 29 = .ok (.ifCond .ne 9, 3) := by decide +kernel
theorem dX5_refusesRow_32 : decode cX5_refusesRow 32 = .ok (.aload_n 0, 1) := by decide +kernel
theorem dX5_refusesRow_33 : decode cX5_refusesRow 33 = .ok (.iconst 5, 1) := by decide +kernel
theorem dX5_refusesRow_34 : decode cX5_refusesRow 34 = .ok (.invokevirtual 90, 3) := by decide +kernel
theorem dX5_refusesRow_37 : decode cX5_refusesRow 37 = .ok (.ireturn, 1) := by decide +kernel
theorem dX5_refusesRow_38 : decode cX5_refusesRow 38 = .ok (.iconst 0, 1) := by decide +kernel
theorem dX5_refusesRow_39 : decode cX5_refusesRow 39 = .ok (.istore_n 2, 1) := by decide +kernel
theorem dX5_refusesRow_40 : decode cX5_refusesRow 40 = .ok (.iload_n 2, 1) := by decide +kernel
theorem dX5_refusesRow_41 : decode cX5_refusesRow 41 = .ok (.aload_n 0, 1) := by decide +kernel
theorem dX5_refusesRow_42 : decode cX5_refusesRow 42 = .ok (.getfield 13, 3) := by decide +kernel
theorem dX5_refusesRow_45 : decode cX5_refusesRow 45 = .ok (.iload_n 1, 1) := by decide +kernel
theorem dX5_refusesRow_46 : decode cX5_refusesRow 46 = .ok (.iaload, 1) := by decide +kernel
theorem dX5_refusesRow_47 : decode cX5_refusesRow 47 = .ok (.if_icmp .ge 33, 3) := by decide +kernel
theorem dX5_refusesRow_50 : decode cX5_refusesRow 50 = .ok (.aload_n 0, 1) := by decide +kernel
theorem dX5_refusesRow_51 : decode cX5_refusesRow 51 = .ok (.aload_n 0, 1) := by decide +kernel
theorem dX5_refusesRow_52 : decode cX5_refusesRow 52 = .ok (.getfield 7, 3) := by decide +kernel
theorem dX5_refusesRow_55 : decode cX5_refusesRow 55 = .ok (.bipush 40, 2) := by decide +kernel
theorem dX5_refusesRow_57 : decode cX5_refusesRow 57 = .ok (.iload_n 1, 1) := by decide +kernel
theorem dX5_refusesRow_58 : decode cX5_refusesRow 58 = .ok (.imul, 1) := by decide +kernel
theorem dX5_refusesRow_59 : decode cX5_refusesRow 59 = .ok (.iload_n 2, 1) := by decide +kernel
theorem dX5_refusesRow_60 : decode cX5_refusesRow 60 = .ok (.iadd, 1) := by decide +kernel
theorem dX5_refusesRow_61 : decode cX5_refusesRow 61 = .ok (.iaload, 1) := by decide +kernel
theorem dX5_refusesRow_62 : decode cX5_refusesRow 62 = .ok (.invokevirtual 219, 3) := by decide +kernel
theorem dX5_refusesRow_65 : decode cX5_refusesRow 65 = .ok (.ifCond .ne 9, 3) := by decide +kernel
theorem dX5_refusesRow_68 : decode cX5_refusesRow 68 = .ok (.aload_n 0, 1) := by decide +kernel
theorem dX5_refusesRow_69 : decode cX5_refusesRow 69 = .ok (.iconst 3, 1) := by decide +kernel
theorem dX5_refusesRow_70 : decode cX5_refusesRow 70 = .ok (.invokevirtual 90, 3) := by decide +kernel
theorem dX5_refusesRow_73 : decode cX5_refusesRow 73 = .ok (.ireturn, 1) := by decide +kernel
theorem dX5_refusesRow_74 : decode cX5_refusesRow 74 = .ok (.iinc 2 1, 3) := by decide +kernel
theorem dX5_refusesRow_77 : decode cX5_refusesRow 77 = .ok (.goto (-37), 3) := by decide +kernel
theorem dX5_refusesRow_80 : decode cX5_refusesRow 80 = .ok (.iconst 0, 1) := by decide +kernel
theorem dX5_refusesRow_81 : decode cX5_refusesRow 81 = .ok (.ireturn, 1) := by decide +kernel
theorem dX5_goesAs_0 : decode cX5_goesAs 0 = .ok (.iconst 1, 1) := by decide +kernel
theorem dX5_goesAs_1 : decode cX5_goesAs 1 = .ok (.istore_n 2, 1) := by decide +kernel
theorem dX5_goesAs_2 : decode cX5_goesAs 2 = .ok (.iconst 0, 1) := by decide +kernel
theorem dX5_goesAs_3 : decode cX5_goesAs 3 = .ok (.istore_n 3, 1) := by decide +kernel
theorem dX5_goesAs_4 : decode cX5_goesAs 4 = .ok (.iload_n 3, 1) := by decide +kernel
theorem dX5_goesAs_5 : decode cX5_goesAs 5 = .ok (.aload_n 0, 1) := by decide +kernel
theorem dX5_goesAs_6 : decode cX5_goesAs 6 = .ok (.getfield 13, 3) := by decide +kernel
theorem dX5_goesAs_9 : decode cX5_goesAs 9 = .ok (.iload_n 1, 1) := by decide +kernel
theorem dX5_goesAs_10 : decode cX5_goesAs 10 = .ok (.iaload, 1) := by decide +kernel
theorem dX5_goesAs_11 : decode cX5_goesAs 11 = .ok (.if_icmp .ge 41, 3) := by decide +kernel
theorem dX5_goesAs_14 : decode cX5_goesAs 14 = .ok (.iload_n 2, 1) := by decide +kernel
theorem dX5_goesAs_15 : decode cX5_goesAs 15 = .ok (.ifCond .eq 29, 3) := by decide +kernel
theorem dX5_goesAs_18 : decode cX5_goesAs 18 = .ok (.aload_n 0, 1) := by decide +kernel
theorem dX5_goesAs_19 : decode cX5_goesAs 19 = .ok (.aload_n 0, 1) := by decide +kernel
theorem dX5_goesAs_20 : decode cX5_goesAs 20 = .ok (.getfield 41, 3) := by decide +kernel
theorem dX5_goesAs_23 : decode cX5_goesAs 23 = .ok (.invokevirtual 191, 3) := by decide +kernel
theorem dX5_goesAs_26 : decode cX5_goesAs 26 = .ok (.aload_n 0, 1) := by decide +kernel
theorem dX5_goesAs_27 : decode cX5_goesAs 27 = .ok (.getfield 7, 3) := by decide +kernel
theorem dX5_goesAs_30 : decode cX5_goesAs 30 = .ok (.bipush 40, 2) := by decide +kernel
theorem dX5_goesAs_32 : decode cX5_goesAs 32 = .ok (.iload_n 1, 1) := by decide +kernel
theorem dX5_goesAs_33 : decode cX5_goesAs 33 = .ok (.imul, 1) := by decide +kernel
theorem dX5_goesAs_34 : decode cX5_goesAs 34 = .ok (.iload_n 3, 1) := by decide +kernel
theorem dX5_goesAs_35 : decode cX5_goesAs 35 = .ok (.iadd, 1) := by decide +kernel
theorem dX5_goesAs_36 : decode cX5_goesAs 36 = .ok (.iaload, 1) := by decide +kernel
theorem dX5_goesAs_37 : decode cX5_goesAs 37 = .ok (.if_icmp .ne 7, 3) := by decide +kernel
theorem dX5_goesAs_40 : decode cX5_goesAs 40 = .ok (.iconst 1, 1) := by decide +kernel
theorem dX5_goesAs_41 : decode cX5_goesAs 41 = .ok (.goto 4, 3) := by decide +kernel
theorem dX5_goesAs_44 : decode cX5_goesAs 44 = .ok (.iconst 0, 1) := by decide +kernel
theorem dX5_goesAs_45 : decode cX5_goesAs 45 = .ok (.istore_n 2, 1) := by decide +kernel
theorem dX5_goesAs_46 : decode cX5_goesAs 46 = .ok (.iinc 3 1, 3) := by decide +kernel
theorem dX5_goesAs_49 : decode cX5_goesAs 49 = .ok (.goto (-45), 3) := by decide +kernel
theorem dX5_goesAs_52 : decode cX5_goesAs 52 = .ok (.iload_n 2, 1) := by decide +kernel
theorem dX5_goesAs_53 : decode cX5_goesAs 53 = .ok (.ireturn, 1) := by decide +kernel
theorem dX5_refusesAll_0 : decode cX5_refusesAll 0 = .ok (.iload_n 1, 1) := by decide +kernel
theorem dX5_refusesAll_1 : decode cX5_refusesAll 1 = .ok (.invokestatic 86, 3) := by decide +kernel
theorem dX5_refusesAll_4 : decode cX5_refusesAll 4 = .ok (.ifCond .ne 5, 3) := by decide +kernel
theorem dX5_refusesAll_7 : decode cX5_refusesAll 7 = .ok (.iconst (-1), 1) := by decide +kernel
theorem dX5_refusesAll_8 : decode cX5_refusesAll 8 = .ok (.ireturn, 1) := by decide +kernel
theorem dX5_refusesAll_9 : decode cX5_refusesAll 9 = .ok (.aload_n 0, 1) := by decide +kernel
theorem dX5_refusesAll_10 : decode cX5_refusesAll 10 = .ok (.getfield 148, 3) := by decide +kernel
theorem dX5_refusesAll_13 : decode cX5_refusesAll 13 = .ok (.ifCond .ne 8, 3) := by decide +kernel
theorem dX5_refusesAll_16 : decode cX5_refusesAll 16 = .ok (.bipush (-4), 2) := by decide +kernel
theorem dX5_refusesAll_18 : decode cX5_refusesAll 18 = .ok (.goto 8, 3) := by decide +kernel
theorem dX5_refusesAll_21 : decode cX5_refusesAll 21 = .ok (.aload_n 0, 1) := by decide +kernel
theorem dX5_refusesAll_22 : decode cX5_refusesAll 22 = .ok (.iload_n 1, 1) := by decide +kernel
theorem dX5_refusesAll_23 : decode cX5_refusesAll 23 = .ok (.invokevirtual 226, 3) := by decide +kernel
theorem dX5_refusesAll_26 : decode cX5_refusesAll 26 = .ok (.ireturn, 1) := by decide +kernel
theorem dX5_mayLeak_0 : decode cX5_mayLeak 0 = .ok (.aload_n 0, 1) := by decide +kernel
theorem dX5_mayLeak_1 : decode cX5_mayLeak 1 = .ok (.invokevirtual 210, 3) := by decide +kernel
theorem dX5_mayLeak_4 : decode cX5_mayLeak 4 = .ok (.aload_n 0, 1) := by decide +kernel
theorem dX5_mayLeak_5 : decode cX5_mayLeak 5 = .ok (.getfield 41, 3) := by decide +kernel
theorem dX5_mayLeak_8 : decode cX5_mayLeak 8 = .ok (.iconst 4, 1) := by decide +kernel
theorem dX5_mayLeak_9 : decode cX5_mayLeak 9 = .ok (.iload_n 1, 1) := by decide +kernel
theorem dX5_mayLeak_10 : decode cX5_mayLeak 10 = .ok (.iastore, 1) := by decide +kernel
theorem dX5_mayLeak_11 : decode cX5_mayLeak 11 = .ok (.aload_n 0, 1) := by decide +kernel
theorem dX5_mayLeak_12 : decode cX5_mayLeak 12 = .ok (.iload_n 2, 1) := by decide +kernel
theorem dX5_mayLeak_13 : decode cX5_mayLeak 13 = .ok (.invokevirtual 229, 3) := by decide +kernel
theorem dX5_mayLeak_16 : decode cX5_mayLeak 16 = .ok (.ireturn, 1) := by decide +kernel
theorem dX5_counted_0 : decode cX5_counted 0 = .ok (.aload_n 0, 1) := by decide +kernel
theorem dX5_counted_1 : decode cX5_counted 1 = .ok (.iload_n 1, 1) := by decide +kernel
theorem dX5_counted_2 : decode cX5_counted 2 = .ok (.i2l, 1) := by decide +kernel
theorem dX5_counted_3 : decode cX5_counted 3 = .ok (.putfield 232, 3) := by decide +kernel
theorem dX5_counted_6 : decode cX5_counted 6 = .ok (.aload_n 0, 1) := by decide +kernel
theorem dX5_counted_7 : decode cX5_counted 7 = .ok (.lconst 1, 1) := by decide +kernel
theorem dX5_counted_8 : decode cX5_counted 8 = .ok (.putfield 22, 3) := by decide +kernel
theorem dX5_counted_11 : decode cX5_counted 11 = .ok (.aload_n 0, 1) := by decide +kernel
theorem dX5_counted_12 : decode cX5_counted 12 = .ok (.iconst 1, 1) := by decide +kernel
theorem dX5_counted_13 : decode cX5_counted 13 = .ok (.iload_n 2, 1) := by decide +kernel
theorem dX5_counted_14 : decode cX5_counted 14 = .ok (.invokevirtual 213, 3) := by decide +kernel
theorem dX5_counted_17 : decode cX5_counted 17 = .ok (.ireturn, 1) := by decide +kernel
theorem dX5_leaks_0 : decode cX5_leaks 0 = .ok (.aload_n 0, 1) := by decide +kernel
theorem dX5_leaks_1 : decode cX5_leaks 1 = .ok (.iload_n 1, 1) := by decide +kernel
theorem dX5_leaks_2 : decode cX5_leaks 2 = .ok (.invokevirtual 235, 3) := by decide +kernel
theorem dX5_leaks_5 : decode cX5_leaks 5 = .ok (.istore_n 2, 1) := by decide +kernel
theorem dX5_leaks_6 : decode cX5_leaks 6 = .ok (.iload_n 2, 1) := by decide +kernel
theorem dX5_leaks_7 : decode cX5_leaks 7 = .ok (.ifCond .eq 5, 3) := by decide +kernel
theorem dX5_leaks_10 : decode cX5_leaks 10 = .ok (.iload_n 2, 1) := by decide +kernel
theorem dX5_leaks_11 : decode cX5_leaks 11 = .ok (.ireturn, 1) := by decide +kernel
theorem dX5_leaks_12 : decode cX5_leaks 12 = .ok (.iconst 0, 1) := by decide +kernel
theorem dX5_leaks_13 : decode cX5_leaks 13 = .ok (.istore_n 3, 1) := by decide +kernel
theorem dX5_leaks_14 : decode cX5_leaks 14 = .ok (.bipush (-9), 2) := by decide +kernel
theorem dX5_leaks_16 : decode cX5_leaks 16 = .ok (.istore 4, 2) := by decide +kernel
theorem dX5_leaks_18 : decode cX5_leaks 18 = .ok (.iconst 0, 1) := by decide +kernel
theorem dX5_leaks_19 : decode cX5_leaks 19 = .ok (.istore 5, 2) := by decide +kernel
theorem dX5_leaks_21 : decode cX5_leaks 21 = .ok (.iload 5, 2) := by decide +kernel
theorem dX5_leaks_23 : decode cX5_leaks 23 = .ok (.iconst 1, 1) := by decide +kernel
theorem dX5_leaks_24 : decode cX5_leaks 24 = .ok (.aload_n 0, 1) := by decide +kernel
theorem dX5_leaks_25 : decode cX5_leaks 25 = .ok (.getfield 148, 3) := by decide +kernel
theorem dX5_leaks_28 : decode cX5_leaks 28 = .ok (.ishl, 1) := by decide +kernel
theorem dX5_leaks_29 : decode cX5_leaks 29 = .ok (.if_icmp .ge 38, 3) := by decide +kernel
theorem dX5_leaks_32 : decode cX5_leaks 32 = .ok (.aload_n 0, 1) := by decide +kernel
theorem dX5_leaks_33 : decode cX5_leaks 33 = .ok (.iload 5, 2) := by decide +kernel
theorem dX5_leaks_35 : decode cX5_leaks 35 = .ok (.iload_n 1, 1) := by decide +kernel
theorem dX5_leaks_36 : decode cX5_leaks 36 = .ok (.invokevirtual 238, 3) := by decide +kernel
theorem dX5_leaks_39 : decode cX5_leaks 39 = .ok (.ifCond .eq 22, 3) := by decide +kernel
theorem dX5_leaks_42 : decode cX5_leaks 42 = .ok (.iinc 3 1, 3) := by decide +kernel
theorem dX5_leaks_45 : decode cX5_leaks 45 = .ok (.iload 4, 2) := by decide +kernel
theorem dX5_leaks_47 : decode cX5_leaks 47 = .ok (.bipush (-9), 2) := by decide +kernel
theorem dX5_leaks_49 : decode cX5_leaks 49 = .ok (.if_icmp .ne 8, 3) := by decide +kernel
theorem dX5_leaks_52 : decode cX5_leaks 52 = .ok (.iload 5, 2) := by decide +kernel
theorem dX5_leaks_54 : decode cX5_leaks 54 = .ok (.goto 5, 3) := by decide +kernel
theorem dX5_leaks_57 : decode cX5_leaks 57 = .ok (.iload 4, 2) := by decide +kernel
theorem dX5_leaks_59 : decode cX5_leaks 59 = .ok (.istore 4, 2) := by decide +kernel
theorem dX5_leaks_61 : decode cX5_leaks 61 = .ok (.iinc 5 1, 3) := by decide +kernel
theorem dX5_leaks_64 : decode cX5_leaks 64 = .ok (.goto (-43), 3) := by decide +kernel
theorem dX5_leaks_67 : decode cX5_leaks 67 = .ok (.aload_n 0, 1) := by decide +kernel
theorem dX5_leaks_68 : decode cX5_leaks 68 = .ok (.iload_n 3, 1) := by decide +kernel
theorem dX5_leaks_69 : decode cX5_leaks 69 = .ok (.iload 4, 2) := by decide +kernel
theorem dX5_leaks_71 : decode cX5_leaks 71 = .ok (.invokevirtual 241, 3) := by decide +kernel
theorem dX5_leaks_74 : decode cX5_leaks 74 = .ok (.ireturn, 1) := by decide +kernel
theorem dX5_listen_0 : decode cX5_listen 0 = .ok (.aload_n 0, 1) := by decide +kernel
theorem dX5_listen_1 : decode cX5_listen 1 = .ok (.iload_n 1, 1) := by decide +kernel
theorem dX5_listen_2 : decode cX5_listen 2 = .ok (.invokevirtual 235, 3) := by decide +kernel
theorem dX5_listen_5 : decode cX5_listen 5 = .ok (.istore_n 2, 1) := by decide +kernel
theorem dX5_listen_6 : decode cX5_listen 6 = .ok (.iload_n 2, 1) := by decide +kernel
theorem dX5_listen_7 : decode cX5_listen 7 = .ok (.ifCond .eq 5, 3) := by decide +kernel
theorem dX5_listen_10 : decode cX5_listen 10 = .ok (.iload_n 2, 1) := by decide +kernel
theorem dX5_listen_11 : decode cX5_listen 11 = .ok (.ireturn, 1) := by decide +kernel
theorem dX5_listen_12 : decode cX5_listen 12 = .ok (.iconst 0, 1) := by decide +kernel
theorem dX5_listen_13 : decode cX5_listen 13 = .ok (.istore_n 3, 1) := by decide +kernel
theorem dX5_listen_14 : decode cX5_listen 14 = .ok (.iconst 0, 1) := by decide +kernel
theorem dX5_listen_15 : decode cX5_listen 15 = .ok (.istore 4, 2) := by decide +kernel
theorem dX5_listen_17 : decode cX5_listen 17 = .ok (.iload 4, 2) := by decide +kernel
theorem dX5_listen_19 : decode cX5_listen 19 = .ok (.aload_n 0, 1) := by decide +kernel
theorem dX5_listen_20 : decode cX5_listen 20 = .ok (.getfield 148, 3) := by decide +kernel
theorem dX5_listen_23 : decode cX5_listen 23 = .ok (.if_icmp .ge 17, 3) := by decide +kernel
theorem dX5_listen_26 : decode cX5_listen 26 = .ok (.aload_n 0, 1) := by decide +kernel
theorem dX5_listen_27 : decode cX5_listen 27 = .ok (.getfield 59, 3) := by decide +kernel
theorem dX5_listen_30 : decode cX5_listen 30 = .ok (.iload 4, 2) := by decide +kernel
theorem dX5_listen_32 : decode cX5_listen 32 = .ok (.iconst 0, 1) := by decide +kernel
theorem dX5_listen_33 : decode cX5_listen 33 = .ok (.iastore, 1) := by decide +kernel
theorem dX5_listen_34 : decode cX5_listen 34 = .ok (.iinc 4 1, 3) := by decide +kernel
theorem dX5_listen_37 : decode cX5_listen 37 = .ok (.goto (-20), 3) := by decide +kernel
theorem dX5_listen_40 : decode cX5_listen 40 = .ok (.iconst 0, 1) := by decide +kernel
theorem dX5_listen_41 : decode cX5_listen 41 = .ok (.istore 4, 2) := by decide +kernel
theorem dX5_listen_43 : decode cX5_listen 43 = .ok (.iload 4, 2) := by decide +kernel
theorem dX5_listen_45 : decode cX5_listen 45 = .ok (.iconst 1, 1) := by decide +kernel
theorem dX5_listen_46 : decode cX5_listen 46 = .ok (.aload_n 0, 1) := by decide +kernel
theorem dX5_listen_47 : decode cX5_listen 47 = .ok (.getfield 148, 3) := by decide +kernel
theorem dX5_listen_50 : decode cX5_listen 50 = .ok (.ishl, 1) := by decide +kernel
theorem dX5_listen_51 : decode cX5_listen 51 = .ok (.if_icmp .ge 67, 3) := by decide +kernel
theorem dX5_listen_54 : decode cX5_listen 54 = .ok (.aload_n 0, 1) := by decide +kernel
theorem dX5_listen_55 : decode cX5_listen 55 = .ok (.iload 4, 2) := by decide +kernel
theorem dX5_listen_57 : decode cX5_listen 57 = .ok (.iload_n 1, 1) := by decide +kernel
theorem dX5_listen_58 : decode cX5_listen 58 = .ok (.invokevirtual 238, 3) := by decide +kernel
theorem dX5_listen_61 : decode cX5_listen 61 = .ok (.ifCond .eq 51, 3) := by decide +kernel
theorem dX5_listen_64 : decode cX5_listen 64 = .ok (.iinc 3 1, 3) := by decide +kernel
theorem dX5_listen_67 : decode cX5_listen 67 = .ok (.aload_n 0, 1) := by decide +kernel
theorem dX5_listen_68 : decode cX5_listen 68 = .ok (.aload_n 0, 1) := by decide +kernel
theorem dX5_listen_69 : decode cX5_listen 69 = .ok (.getfield 41, 3) := by decide +kernel
theorem dX5_listen_72 : decode cX5_listen 72 = .ok (.invokevirtual 191, 3) := by decide +kernel
theorem dX5_listen_75 : decode cX5_listen 75 = .ok (.istore 5, 2) := by decide +kernel
theorem dX5_listen_77 : decode cX5_listen 77 = .ok (.iconst 0, 1) := by decide +kernel
theorem dX5_listen_78 : decode cX5_listen 78 = .ok (.istore 6, 2) := by decide +kernel
theorem dX5_listen_80 : decode cX5_listen 80 = .ok (.iload 6, 2) := by decide +kernel
theorem dX5_listen_82 : decode cX5_listen 82 = .ok (.aload_n 0, 1) := by decide +kernel
theorem dX5_listen_83 : decode cX5_listen 83 = .ok (.getfield 148, 3) := by decide +kernel
theorem dX5_listen_86 : decode cX5_listen 86 = .ok (.if_icmp .ge 26, 3) := by decide +kernel
theorem dX5_listen_89 : decode cX5_listen 89 = .ok (.aload_n 0, 1) := by decide +kernel
theorem dX5_listen_90 : decode cX5_listen 90 = .ok (.getfield 59, 3) := by decide +kernel
theorem dX5_listen_93 : decode cX5_listen 93 = .ok (.iload 6, 2) := by decide +kernel
theorem dX5_listen_95 : decode cX5_listen 95 = .ok (.dup2, 1) := by decide +kernel
theorem dX5_listen_96 : decode cX5_listen 96 = .ok (.iaload, 1) := by decide +kernel
theorem dX5_listen_97 : decode cX5_listen 97 = .ok (.iload 5, 2) := by decide +kernel
theorem dX5_listen_99 : decode cX5_listen 99 = .ok (.iload 6, 2) := by decide +kernel
theorem dX5_listen_101 : decode cX5_listen 101 = .ok (.ishr, 1) := by decide +kernel
theorem dX5_listen_102 : decode cX5_listen 102 = .ok (.iconst 1, 1) := by decide +kernel
theorem dX5_listen_103 : decode cX5_listen 103 = .ok (.iand, 1) := by decide +kernel
theorem dX5_listen_104 : decode cX5_listen 104 = .ok (.iadd, 1) := by decide +kernel
theorem dX5_listen_105 : decode cX5_listen 105 = .ok (.iastore, 1) := by decide +kernel
theorem dX5_listen_106 : decode cX5_listen 106 = .ok (.iinc 6 1, 3) := by decide +kernel
theorem dX5_listen_109 : decode cX5_listen 109 = .ok (.goto (-29), 3) := by decide +kernel
theorem dX5_listen_112 : decode cX5_listen 112 = .ok (.iinc 4 1, 3) := by decide +kernel
theorem dX5_listen_115 : decode cX5_listen 115 = .ok (.goto (-72), 3) := by decide +kernel
theorem dX5_listen_118 : decode cX5_listen 118 = .ok (.bipush (-9), 2) := by decide +kernel
theorem dX5_listen_120 : decode cX5_listen 120 = .ok (.istore 4, 2) := by decide +kernel
theorem dX5_listen_122 : decode cX5_listen 122 = .ok (.ldc 244, 2) := by decide +kernel
theorem dX5_listen_124 : decode cX5_listen 124 = .ok (.istore 5, 2) := by decide +kernel
theorem dX5_listen_126 : decode cX5_listen 126 = .ok (.iconst 0, 1) := by decide +kernel
theorem dX5_listen_127 : decode cX5_listen 127 = .ok (.istore 6, 2) := by decide +kernel
theorem dX5_listen_129 : decode cX5_listen 129 = .ok (.iload 6, 2) := by decide +kernel
theorem dX5_listen_131 : decode cX5_listen 131 = .ok (.aload_n 0, 1) := by decide +kernel
theorem dX5_listen_132 : decode cX5_listen 132 = .ok (.getfield 148, 3) := by decide +kernel
theorem dX5_listen_135 : decode cX5_listen 135 = .ok (.if_icmp .ge 78, 3) := by decide +kernel
theorem dX5_listen_138 : decode cX5_listen 138 = .ok (.iload_n 3, 1) := by decide +kernel
theorem dX5_listen_139 : decode cX5_listen 139 = .ok (.ifCond .le 74, 3) := by decide +kernel
theorem dX5_listen_142 : decode cX5_listen 142 = .ok (.aload_n 0, 1) := by decide +kernel
theorem dX5_listen_143 : decode cX5_listen 143 = .ok (.getfield 59, 3) := by decide +kernel
theorem dX5_listen_146 : decode cX5_listen 146 = .ok (.iload 6, 2) := by decide +kernel
theorem dX5_listen_148 : decode cX5_listen 148 = .ok (.iaload, 1) := by decide +kernel
theorem dX5_listen_149 : decode cX5_listen 149 = .ok (.iload_n 3, 1) := by decide +kernel
theorem dX5_listen_150 : decode cX5_listen 150 = .ok (.aload_n 0, 1) := by decide +kernel
theorem dX5_listen_151 : decode cX5_listen 151 = .ok (.getfield 59, 3) := by decide +kernel
theorem dX5_listen_154 : decode cX5_listen 154 = .ok (.iload 6, 2) := by decide +kernel
theorem dX5_listen_156 : decode cX5_listen 156 = .ok (.iaload, 1) := by decide +kernel
theorem dX5_listen_157 : decode cX5_listen 157 = .ok (.isub, 1) := by decide +kernel
theorem dX5_listen_158 : decode cX5_listen 158 = .ok (.if_icmp .le 13, 3) := by decide +kernel
theorem dX5_listen_161 : decode cX5_listen 161 = .ok (.aload_n 0, 1) := by decide +kernel
theorem dX5_listen_162 : decode cX5_listen 162 = .ok (.getfield 59, 3) := by decide +kernel
theorem dX5_listen_165 : decode cX5_listen 165 = .ok (.iload 6, 2) := by decide +kernel
theorem dX5_listen_167 : decode cX5_listen 167 = .ok (.iaload, 1) := by decide +kernel
theorem dX5_listen_168 : decode cX5_listen 168 = .ok (.goto 12, 3) := by decide +kernel
theorem dX5_listen_171 : decode cX5_listen 171 = .ok (.iload_n 3, 1) := by decide +kernel
theorem dX5_listen_172 : decode cX5_listen 172 = .ok (.aload_n 0, 1) := by decide +kernel
theorem dX5_listen_173 : decode cX5_listen 173 = .ok (.getfield 59, 3) := by decide +kernel
theorem dX5_listen_176 : decode cX5_listen 176 = .ok (.iload 6, 2) := by decide +kernel
theorem dX5_listen_178 : decode cX5_listen 178 = .ok (.iaload, 1) := by decide +kernel
theorem dX5_listen_179 : decode cX5_listen 179 = .ok (.isub, 1) := by decide +kernel
theorem dX5_listen_180 : decode cX5_listen 180 = .ok (.istore 7, 2) := by decide +kernel
theorem dX5_listen_182 : decode cX5_listen 182 = .ok (.iload 7, 2) := by decide +kernel
theorem dX5_listen_184 : decode cX5_listen 184 = .ok (.iload 5, 2) := by decide +kernel
theorem dX5_listen_186 : decode cX5_listen 186 = .ok (.if_icmp .ge 8, 3) := by decide +kernel
theorem dX5_listen_189 : decode cX5_listen 189 = .ok (.iload 6, 2) := by decide +kernel
theorem dX5_listen_191 : decode cX5_listen 191 = .ok (.goto 5, 3) := by decide +kernel
theorem dX5_listen_194 : decode cX5_listen 194 = .ok (.iload 4, 2) := by decide +kernel
theorem dX5_listen_196 : decode cX5_listen 196 = .ok (.istore 4, 2) := by decide +kernel
theorem dX5_listen_198 : decode cX5_listen 198 = .ok (.iload 7, 2) := by decide +kernel
theorem dX5_listen_200 : decode cX5_listen 200 = .ok (.iload 5, 2) := by decide +kernel
theorem dX5_listen_202 : decode cX5_listen 202 = .ok (.invokestatic 165, 3) := by decide +kernel
theorem dX5_listen_205 : decode cX5_listen 205 = .ok (.istore 5, 2) := by decide +kernel
theorem dX5_listen_207 : decode cX5_listen 207 = .ok (.iinc 6 1, 3) := by decide +kernel
theorem dX5_listen_210 : decode cX5_listen 210 = .ok (.goto (-81), 3) := by decide +kernel
theorem dX5_listen_213 : decode cX5_listen 213 = .ok (.iload 4, 2) := by decide +kernel
theorem dX5_listen_215 : decode cX5_listen 215 = .ok (.bipush (-9), 2) := by decide +kernel
theorem dX5_listen_217 : decode cX5_listen 217 = .ok (.if_icmp .ne 8, 3) := by decide +kernel
theorem dX5_listen_220 : decode cX5_listen 220 = .ok (.bipush (-9), 2) := by decide +kernel
theorem dX5_listen_222 : decode cX5_listen 222 = .ok (.goto 11, 3) := by decide +kernel
theorem dX5_listen_225 : decode cX5_listen 225 = .ok (.aload_n 0, 1) := by decide +kernel
theorem dX5_listen_226 : decode cX5_listen 226 = .ok (.iload 4, 2) := by decide +kernel
theorem dX5_listen_228 : decode cX5_listen 228 = .ok (.iload 5, 2) := by decide +kernel
theorem dX5_listen_230 : decode cX5_listen 230 = .ok (.invokevirtual 213, 3) := by decide +kernel
theorem dX5_listen_233 : decode cX5_listen 233 = .ok (.ireturn, 1) := by decide +kernel
theorem dX5_strokes_0 : decode cX5_strokes 0 = .ok (.aload_n 0, 1) := by decide +kernel
theorem dX5_strokes_1 : decode cX5_strokes 1 = .ok (.iload_n 1, 1) := by decide +kernel
theorem dX5_strokes_2 : decode cX5_strokes 2 = .ok (.invokevirtual 235, 3) := by decide +kernel
theorem dX5_strokes_5 : decode cX5_strokes 5 = .ok (.istore_n 2, 1) := by decide +kernel
theorem dX5_strokes_6 : decode cX5_strokes 6 = .ok (.iload_n 2, 1) := by decide +kernel
theorem dX5_strokes_7 : decode cX5_strokes 7 = .ok (.ifCond .eq 5, 3) := by decide +kernel
theorem dX5_strokes_10 : decode cX5_strokes 10 = .ok (.iload_n 2, 1) := by decide +kernel
theorem dX5_strokes_11 : decode cX5_strokes 11 = .ok (.ireturn, 1) := by decide +kernel
theorem dX5_strokes_12 : decode cX5_strokes 12 = .ok (.iconst 0, 1) := by decide +kernel
theorem dX5_strokes_13 : decode cX5_strokes 13 = .ok (.istore_n 3, 1) := by decide +kernel
theorem dX5_strokes_14 : decode cX5_strokes 14 = .ok (.iconst 0, 1) := by decide +kernel
theorem dX5_strokes_15 : decode cX5_strokes 15 = .ok (.istore 4, 2) := by decide +kernel
theorem dX5_strokes_17 : decode cX5_strokes 17 = .ok (.iload 4, 2) := by decide +kernel
theorem dX5_strokes_19 : decode cX5_strokes 19 = .ok (.bipush 10, 2) := by decide +kernel
theorem dX5_strokes_21 : decode cX5_strokes 21 = .ok (.if_icmp .ge 40, 3) := by decide +kernel
theorem dX5_strokes_24 : decode cX5_strokes 24 = .ok (.aload_n 0, 1) := by decide +kernel
theorem dX5_strokes_25 : decode cX5_strokes 25 = .ok (.invokevirtual 210, 3) := by decide +kernel
theorem dX5_strokes_28 : decode cX5_strokes 28 = .ok (.aload_n 0, 1) := by decide +kernel
theorem dX5_strokes_29 : decode cX5_strokes 29 = .ok (.getfield 41, 3) := by decide +kernel
theorem dX5_strokes_32 : decode cX5_strokes 32 = .ok (.iconst 1, 1) := by decide +kernel
theorem dX5_strokes_33 : decode cX5_strokes 33 = .ok (.iload 4, 2) := by decide +kernel
theorem dX5_strokes_35 : decode cX5_strokes 35 = .ok (.iastore, 1) := by decide +kernel
theorem dX5_strokes_36 : decode cX5_strokes 36 = .ok (.iload_n 3, 1) := by decide +kernel
theorem dX5_strokes_37 : decode cX5_strokes 37 = .ok (.aload_n 0, 1) := by decide +kernel
theorem dX5_strokes_38 : decode cX5_strokes 38 = .ok (.iload_n 1, 1) := by decide +kernel
theorem dX5_strokes_39 : decode cX5_strokes 39 = .ok (.invokevirtual 229, 3) := by decide +kernel
theorem dX5_strokes_42 : decode cX5_strokes 42 = .ok (.ifCond .eq 10, 3) := by decide +kernel
theorem dX5_strokes_45 : decode cX5_strokes 45 = .ok (.iconst 1, 1) := by decide +kernel
theorem dX5_strokes_46 : decode cX5_strokes 46 = .ok (.iload 4, 2) := by decide +kernel
theorem dX5_strokes_48 : decode cX5_strokes 48 = .ok (.ishl, 1) := by decide +kernel
theorem dX5_strokes_49 : decode cX5_strokes 49 = .ok (.goto 4, 3) := by decide +kernel
theorem dX5_strokes_52 : decode cX5_strokes 52 = .ok (.iconst 0, 1) := by decide +kernel
theorem dX5_strokes_53 : decode cX5_strokes 53 = .ok (.ior, 1) := by decide +kernel
theorem dX5_strokes_54 : decode cX5_strokes 54 = .ok (.istore_n 3, 1) := by decide +kernel
theorem dX5_strokes_55 : decode cX5_strokes 55 = .ok (.iinc 4 1, 3) := by decide +kernel
theorem dX5_strokes_58 : decode cX5_strokes 58 = .ok (.goto (-41), 3) := by decide +kernel
theorem dX5_strokes_61 : decode cX5_strokes 61 = .ok (.iload_n 3, 1) := by decide +kernel
theorem dX5_strokes_62 : decode cX5_strokes 62 = .ok (.ireturn, 1) := by decide +kernel
theorem dX5_kinds_0 : decode cX5_kinds 0 = .ok (.aload_n 0, 1) := by decide +kernel
theorem dX5_kinds_1 : decode cX5_kinds 1 = .ok (.iload_n 1, 1) := by decide +kernel
theorem dX5_kinds_2 : decode cX5_kinds 2 = .ok (.invokevirtual 176, 3) := by decide +kernel
theorem dX5_kinds_5 : decode cX5_kinds 5 = .ok (.ifCond .eq 10, 3) := by decide +kernel
theorem dX5_kinds_8 : decode cX5_kinds 8 = .ok (.iload_n 2, 1) := by decide +kernel
theorem dX5_kinds_9 : decode cX5_kinds 9 = .ok (.invokestatic 86, 3) := by decide +kernel
theorem dX5_kinds_12 : decode cX5_kinds 12 = .ok (.ifCond .ne 5, 3) := by decide +kernel
theorem dX5_kinds_15 : decode cX5_kinds 15 = .ok (.iconst (-1), 1) := by decide +kernel
theorem dX5_kinds_16 : decode cX5_kinds 16 = .ok (.ireturn, 1) := by decide +kernel
theorem dX5_kinds_17 : decode cX5_kinds 17 = .ok (.aload_n 0, 1) := by decide +kernel
theorem dX5_kinds_18 : decode cX5_kinds 18 = .ok (.iload_n 2, 1) := by decide +kernel
theorem dX5_kinds_19 : decode cX5_kinds 19 = .ok (.invokevirtual 226, 3) := by decide +kernel
theorem dX5_kinds_22 : decode cX5_kinds 22 = .ok (.istore_n 3, 1) := by decide +kernel
theorem dX5_kinds_23 : decode cX5_kinds 23 = .ok (.iload_n 3, 1) := by decide +kernel
theorem dX5_kinds_24 : decode cX5_kinds 24 = .ok (.ifCond .eq 5, 3) := by decide +kernel
theorem dX5_kinds_27 : decode cX5_kinds 27 = .ok (.iload_n 3, 1) := by decide +kernel
theorem dX5_kinds_28 : decode cX5_kinds 28 = .ok (.ireturn, 1) := by decide +kernel
theorem dX5_kinds_29 : decode cX5_kinds 29 = .ok (.aload_n 0, 1) := by decide +kernel
theorem dX5_kinds_30 : decode cX5_kinds 30 = .ok (.getfield 29, 3) := by decide +kernel
theorem dX5_kinds_33 : decode cX5_kinds 33 = .ok (.iload_n 1, 1) := by decide +kernel
theorem dX5_kinds_34 : decode cX5_kinds 34 = .ok (.iaload, 1) := by decide +kernel
theorem dX5_kinds_35 : decode cX5_kinds 35 = .ok (.istore 4, 2) := by decide +kernel
theorem dX5_kinds_37 : decode cX5_kinds 37 = .ok (.iconst 0, 1) := by decide +kernel
theorem dX5_kinds_38 : decode cX5_kinds 38 = .ok (.istore 5, 2) := by decide +kernel
theorem dX5_kinds_40 : decode cX5_kinds 40 = .ok (.iconst 0, 1) := by decide +kernel
theorem dX5_kinds_41 : decode cX5_kinds 41 = .ok (.istore 6, 2) := by decide +kernel
theorem dX5_kinds_43 : decode cX5_kinds 43 = .ok (.iload 6, 2) := by decide +kernel
theorem dX5_kinds_45 : decode cX5_kinds 45 = .ok (.bipush 6, 2) := by decide +kernel
theorem dX5_kinds_47 : decode cX5_kinds 47 = .ok (.if_icmp .ge 42, 3) := by decide +kernel
theorem dX5_kinds_50 : decode cX5_kinds 50 = .ok (.aload_n 0, 1) := by decide +kernel
theorem dX5_kinds_51 : decode cX5_kinds 51 = .ok (.getfield 29, 3) := by decide +kernel
theorem dX5_kinds_54 : decode cX5_kinds 54 = .ok (.iload_n 1, 1) := by decide +kernel
theorem dX5_kinds_55 : decode cX5_kinds 55 = .ok (.iload 6, 2) := by decide +kernel
theorem dX5_kinds_57 : decode cX5_kinds 57 = .ok (.iastore, 1) := by decide +kernel
theorem dX5_kinds_58 : decode cX5_kinds 58 = .ok (.aload_n 0, 1) := by decide +kernel
theorem dX5_kinds_59 : decode cX5_kinds 59 = .ok (.invokevirtual 210, 3) := by decide +kernel
theorem dX5_kinds_62 : decode cX5_kinds 62 = .ok (.iload 5, 2) := by decide +kernel
theorem dX5_kinds_64 : decode cX5_kinds 64 = .ok (.aload_n 0, 1) := by decide +kernel
theorem dX5_kinds_65 : decode cX5_kinds 65 = .ok (.iload_n 2, 1) := by decide +kernel
theorem dX5_kinds_66 : decode cX5_kinds 66 = .ok (.invokevirtual 229, 3) := by decide +kernel
theorem dX5_kinds_69 : decode cX5_kinds 69 = .ok (.ifCond .eq 10, 3) := by decide +kernel
theorem dX5_kinds_72 : decode cX5_kinds 72 = .ok (.iconst 1, 1) := by decide +kernel
theorem dX5_kinds_73 : decode cX5_kinds 73 = .ok (.iload 6, 2) := by decide +kernel
theorem dX5_kinds_75 : decode cX5_kinds 75 = .ok (.ishl, 1) := by decide +kernel
theorem dX5_kinds_76 : decode cX5_kinds 76 = .ok (.goto 4, 3) := by decide +kernel
theorem dX5_kinds_79 : decode cX5_kinds 79 = .ok (.iconst 0, 1) := by decide +kernel
theorem dX5_kinds_80 : decode cX5_kinds 80 = .ok (.ior, 1) := by decide +kernel
theorem dX5_kinds_81 : decode cX5_kinds 81 = .ok (.istore 5, 2) := by decide +kernel
theorem dX5_kinds_83 : decode cX5_kinds 83 = .ok (.iinc 6 1, 3) := by decide +kernel
theorem dX5_kinds_86 : decode cX5_kinds 86 = .ok (.goto (-43), 3) := by decide +kernel
theorem dX5_kinds_89 : decode cX5_kinds 89 = .ok (.aload_n 0, 1) := by decide +kernel
theorem dX5_kinds_90 : decode cX5_kinds 90 = .ok (.getfield 29, 3) := by decide +kernel
theorem dX5_kinds_93 : decode cX5_kinds 93 = .ok (.iload_n 1, 1) := by decide +kernel
theorem dX5_kinds_94 : decode cX5_kinds 94 = .ok (.iload 4, 2) := by decide +kernel
theorem dX5_kinds_96 : decode cX5_kinds 96 = .ok (.iastore, 1) := by decide +kernel
theorem dX5_kinds_97 : decode cX5_kinds 97 = .ok (.iload 5, 2) := by decide +kernel
theorem dX5_kinds_99 : decode cX5_kinds 99 = .ok (.ireturn, 1) := by decide +kernel
theorem dX5_wantsOf_0 : decode cX5_wantsOf 0 = .ok (.iconst 0, 1) := by decide +kernel
theorem dX5_wantsOf_1 : decode cX5_wantsOf 1 = .ok (.istore_n 2, 1) := by decide +kernel
theorem dX5_wantsOf_2 : decode cX5_wantsOf 2 = .ok (.iconst 0, 1) := by decide +kernel
theorem dX5_wantsOf_3 : decode cX5_wantsOf 3 = .ok (.istore_n 3, 1) := by decide +kernel
theorem dX5_wantsOf_4 : decode cX5_wantsOf 4 = .ok (.iload_n 3, 1) := by decide +kernel
theorem dX5_wantsOf_5 : decode cX5_wantsOf 5 = .ok (.aload_n 0, 1) := by decide +kernel
theorem dX5_wantsOf_6 : decode cX5_wantsOf 6 = .ok (.getfield 148, 3) := by decide +kernel
theorem dX5_wantsOf_9 : decode cX5_wantsOf 9 = .ok (.if_icmp .ge 33, 3) := by decide +kernel
theorem dX5_wantsOf_12 : decode cX5_wantsOf 12 = .ok (.iload_n 2, 1) := by decide +kernel
theorem dX5_wantsOf_13 : decode cX5_wantsOf 13 = .ok (.iload_n 1, 1) := by decide +kernel
theorem dX5_wantsOf_14 : decode cX5_wantsOf 14 = .ok (.iload_n 3, 1) := by decide +kernel
theorem dX5_wantsOf_15 : decode cX5_wantsOf 15 = .ok (.invokestatic 155, 3) := by decide +kernel
theorem dX5_wantsOf_18 : decode cX5_wantsOf 18 = .ok (.ifCond .eq 15, 3) := by decide +kernel
theorem dX5_wantsOf_21 : decode cX5_wantsOf 21 = .ok (.aload_n 0, 1) := by decide +kernel
theorem dX5_wantsOf_22 : decode cX5_wantsOf 22 = .ok (.aload_n 0, 1) := by decide +kernel
theorem dX5_wantsOf_23 : decode cX5_wantsOf 23 = .ok (.getfield 38, 3) := by decide +kernel
theorem dX5_wantsOf_26 : decode cX5_wantsOf 26 = .ok (.iload_n 3, 1) := by decide +kernel
theorem dX5_wantsOf_27 : decode cX5_wantsOf 27 = .ok (.invokevirtual 158, 3) := by decide +kernel
theorem dX5_wantsOf_30 : decode cX5_wantsOf 30 = .ok (.goto 4, 3) := by decide +kernel
theorem dX5_wantsOf_33 : decode cX5_wantsOf 33 = .ok (.iconst 0, 1) := by decide +kernel
theorem dX5_wantsOf_34 : decode cX5_wantsOf 34 = .ok (.iadd, 1) := by decide +kernel
theorem dX5_wantsOf_35 : decode cX5_wantsOf 35 = .ok (.istore_n 2, 1) := by decide +kernel
theorem dX5_wantsOf_36 : decode cX5_wantsOf 36 = .ok (.iinc 3 1, 3) := by decide +kernel
theorem dX5_wantsOf_39 : decode cX5_wantsOf 39 = .ok (.goto (-35), 3) := by decide +kernel
theorem dX5_wantsOf_42 : decode cX5_wantsOf 42 = .ok (.iload_n 2, 1) := by decide +kernel
theorem dX5_wantsOf_43 : decode cX5_wantsOf 43 = .ok (.ireturn, 1) := by decide +kernel
theorem dX5_sets_0 : decode cX5_sets 0 = .ok (.iload_n 1, 1) := by decide +kernel
theorem dX5_sets_1 : decode cX5_sets 1 = .ok (.i2l, 1) := by decide +kernel
theorem dX5_sets_2 : decode cX5_sets 2 = .ok (.lconst 0, 1) := by decide +kernel
theorem dX5_sets_3 : decode cX5_sets 3 = .ok (.ldc2_w 206, 3) := by decide +kernel
theorem dX5_sets_6 : decode cX5_sets 6 = .ok (.invokestatic 80, 3) := by decide +kernel
theorem dX5_sets_9 : decode cX5_sets 9 = .ok (.ifCond .ne 5, 3) := by decide +kernel
theorem dX5_sets_12 : decode cX5_sets 12 = .ok (.iconst (-1), 1) := by decide +kernel
theorem dX5_sets_13 : decode cX5_sets 13 = .ok (.ireturn, 1) := by decide +kernel
theorem dX5_sets_14 : decode cX5_sets 14 = .ok (.aload_n 0, 1) := by decide +kernel
theorem dX5_sets_15 : decode cX5_sets 15 = .ok (.getfield 148, 3) := by decide +kernel
theorem dX5_sets_18 : decode cX5_sets 18 = .ok (.ifCond .ne 6, 3) := by decide +kernel
theorem dX5_sets_21 : decode cX5_sets 21 = .ok (.bipush (-4), 2) := by decide +kernel
theorem dX5_sets_23 : decode cX5_sets 23 = .ok (.ireturn, 1) := by decide +kernel
theorem dX5_sets_24 : decode cX5_sets 24 = .ok (.iconst 0, 1) := by decide +kernel
theorem dX5_sets_25 : decode cX5_sets 25 = .ok (.istore_n 2, 1) := by decide +kernel
theorem dX5_sets_26 : decode cX5_sets 26 = .ok (.bipush (-9), 2) := by decide +kernel
theorem dX5_sets_28 : decode cX5_sets 28 = .ok (.istore_n 3, 1) := by decide +kernel
theorem dX5_sets_29 : decode cX5_sets 29 = .ok (.iconst 0, 1) := by decide +kernel
theorem dX5_sets_30 : decode cX5_sets 30 = .ok (.istore 4, 2) := by decide +kernel
theorem dX5_sets_32 : decode cX5_sets 32 = .ok (.iload 4, 2) := by decide +kernel
theorem dX5_sets_34 : decode cX5_sets 34 = .ok (.iconst 1, 1) := by decide +kernel
theorem dX5_sets_35 : decode cX5_sets 35 = .ok (.aload_n 0, 1) := by decide +kernel
theorem dX5_sets_36 : decode cX5_sets 36 = .ok (.getfield 148, 3) := by decide +kernel
theorem dX5_sets_39 : decode cX5_sets 39 = .ok (.ishl, 1) := by decide +kernel
theorem dX5_sets_40 : decode cX5_sets 40 = .ok (.if_icmp .ge 35, 3) := by decide +kernel
theorem dX5_sets_43 : decode cX5_sets 43 = .ok (.aload_n 0, 1) := by decide +kernel
theorem dX5_sets_44 : decode cX5_sets 44 = .ok (.iload 4, 2) := by decide +kernel
theorem dX5_sets_46 : decode cX5_sets 46 = .ok (.invokevirtual 245, 3) := by decide +kernel
theorem dX5_sets_49 : decode cX5_sets 49 = .ok (.iload_n 1, 1) := by decide +kernel
theorem dX5_sets_50 : decode cX5_sets 50 = .ok (.if_icmp .ne 19, 3) := by decide +kernel
theorem dX5_sets_53 : decode cX5_sets 53 = .ok (.iinc 2 1, 3) := by decide +kernel
theorem dX5_sets_56 : decode cX5_sets 56 = .ok (.iload_n 3, 1) := by decide +kernel
theorem dX5_sets_57 : decode cX5_sets 57 = .ok (.bipush (-9), 2) := by decide +kernel
theorem dX5_sets_59 : decode cX5_sets 59 = .ok (.if_icmp .ne 8, 3) := by decide +kernel
theorem dX5_sets_62 : decode cX5_sets 62 = .ok (.iload 4, 2) := by decide +kernel
theorem dX5_sets_64 : decode cX5_sets 64 = .ok (.goto 4, 3) := by decide +kernel
theorem dX5_sets_67 : decode cX5_sets 67 = .ok (.iload_n 3, 1) := by decide +kernel
theorem dX5_sets_68 : decode cX5_sets 68 = .ok (.istore_n 3, 1) := by decide +kernel
theorem dX5_sets_69 : decode cX5_sets 69 = .ok (.iinc 4 1, 3) := by decide +kernel
theorem dX5_sets_72 : decode cX5_sets 72 = .ok (.goto (-40), 3) := by decide +kernel
theorem dX5_sets_75 : decode cX5_sets 75 = .ok (.aload_n 0, 1) := by decide +kernel
theorem dX5_sets_76 : decode cX5_sets 76 = .ok (.iload_n 2, 1) := by decide +kernel
theorem dX5_sets_77 : decode cX5_sets 77 = .ok (.iload_n 3, 1) := by decide +kernel
theorem dX5_sets_78 : decode cX5_sets 78 = .ok (.invokevirtual 241, 3) := by decide +kernel
theorem dX5_sets_81 : decode cX5_sets 81 = .ok (.ireturn, 1) := by decide +kernel
theorem dX5_sure_0 : decode cX5_sure 0 = .ok (.iload_n 1, 1) := by decide +kernel
theorem dX5_sure_1 : decode cX5_sure 1 = .ok (.i2l, 1) := by decide +kernel
theorem dX5_sure_2 : decode cX5_sure 2 = .ok (.lconst 0, 1) := by decide +kernel
theorem dX5_sure_3 : decode cX5_sure 3 = .ok (.ldc2_w 206, 3) := by decide +kernel
theorem dX5_sure_6 : decode cX5_sure 6 = .ok (.invokestatic 80, 3) := by decide +kernel
theorem dX5_sure_9 : decode cX5_sure 9 = .ok (.ifCond .ne 5, 3) := by decide +kernel
theorem dX5_sure_12 : decode cX5_sure 12 = .ok (.iconst (-1), 1) := by decide +kernel
theorem dX5_sure_13 : decode cX5_sure 13 = .ok (.ireturn, 1) := by decide +kernel
theorem dX5_sure_14 : decode cX5_sure 14 = .ok (.aload_n 0, 1) := by decide +kernel
theorem dX5_sure_15 : decode cX5_sure 15 = .ok (.getfield 148, 3) := by decide +kernel
theorem dX5_sure_18 : decode cX5_sure 18 = .ok (.ifCond .ne 6, 3) := by decide +kernel
theorem dX5_sure_21 : decode cX5_sure 21 = .ok (.bipush (-4), 2) := by decide +kernel
theorem dX5_sure_23 : decode cX5_sure 23 = .ok (.ireturn, 1) := by decide +kernel
theorem dX5_sure_24 : decode cX5_sure 24 = .ok (.iconst 0, 1) := by decide +kernel
theorem dX5_sure_25 : decode cX5_sure 25 = .ok (.istore_n 2, 1) := by decide +kernel
theorem dX5_sure_26 : decode cX5_sure 26 = .ok (.iconst 1, 1) := by decide +kernel
theorem dX5_sure_27 : decode cX5_sure 27 = .ok (.aload_n 0, 1) := by decide +kernel
theorem dX5_sure_28 : decode cX5_sure 28 = .ok (.getfield 148, 3) := by decide +kernel
theorem dX5_sure_31 : decode cX5_sure 31 = .ok (.ishl, 1) := by decide +kernel
theorem dX5_sure_32 : decode cX5_sure 32 = .ok (.iconst 1, 1) := by decide +kernel
theorem dX5_sure_33 : decode cX5_sure 33 = .ok (.isub, 1) := by decide +kernel
theorem dX5_sure_34 : decode cX5_sure 34 = .ok (.istore_n 3, 1) := by decide +kernel
theorem dX5_sure_35 : decode cX5_sure 35 = .ok (.iload_n 3, 1) := by decide +kernel
theorem dX5_sure_36 : decode cX5_sure 36 = .ok (.istore 4, 2) := by decide +kernel
theorem dX5_sure_38 : decode cX5_sure 38 = .ok (.iconst 0, 1) := by decide +kernel
theorem dX5_sure_39 : decode cX5_sure 39 = .ok (.istore 5, 2) := by decide +kernel
theorem dX5_sure_41 : decode cX5_sure 41 = .ok (.iload 5, 2) := by decide +kernel
theorem dX5_sure_43 : decode cX5_sure 43 = .ok (.iconst 1, 1) := by decide +kernel
theorem dX5_sure_44 : decode cX5_sure 44 = .ok (.aload_n 0, 1) := by decide +kernel
theorem dX5_sure_45 : decode cX5_sure 45 = .ok (.getfield 148, 3) := by decide +kernel
theorem dX5_sure_48 : decode cX5_sure 48 = .ok (.ishl, 1) := by decide +kernel
theorem dX5_sure_49 : decode cX5_sure 49 = .ok (.if_icmp .ge 35, 3) := by decide +kernel
theorem dX5_sure_52 : decode cX5_sure 52 = .ok (.aload_n 0, 1) := by decide +kernel
theorem dX5_sure_53 : decode cX5_sure 53 = .ok (.iload 5, 2) := by decide +kernel
theorem dX5_sure_55 : decode cX5_sure 55 = .ok (.invokevirtual 245, 3) := by decide +kernel
theorem dX5_sure_58 : decode cX5_sure 58 = .ok (.iload_n 1, 1) := by decide +kernel
theorem dX5_sure_59 : decode cX5_sure 59 = .ok (.if_icmp .ne 19, 3) := by decide +kernel
theorem dX5_sure_62 : decode cX5_sure 62 = .ok (.iconst 1, 1) := by decide +kernel
theorem dX5_sure_63 : decode cX5_sure 63 = .ok (.istore_n 2, 1) := by decide +kernel
theorem dX5_sure_64 : decode cX5_sure 64 = .ok (.iload_n 3, 1) := by decide +kernel
theorem dX5_sure_65 : decode cX5_sure 65 = .ok (.iload 5, 2) := by decide +kernel
theorem dX5_sure_67 : decode cX5_sure 67 = .ok (.iand, 1) := by decide +kernel
theorem dX5_sure_68 : decode cX5_sure 68 = .ok (.istore_n 3, 1) := by decide +kernel
theorem dX5_sure_69 : decode cX5_sure 69 = .ok (.iload 4, 2) := by decide +kernel
theorem dX5_sure_71 : decode cX5_sure 71 = .ok (.iload 5, 2) := by decide +kernel
theorem dX5_sure_73 : decode cX5_sure 73 = .ok (.iconst (-1), 1) := by decide +kernel
theorem dX5_sure_74 : decode cX5_sure 74 = .ok (.ixor, 1) := by decide +kernel
theorem dX5_sure_75 : decode cX5_sure 75 = .ok (.iand, 1) := by decide +kernel
theorem dX5_sure_76 : decode cX5_sure 76 = .ok (.istore 4, 2) := by decide +kernel
theorem dX5_sure_78 : decode cX5_sure 78 = .ok (.iinc 5 1, 3) := by decide +kernel
theorem dX5_sure_81 : decode cX5_sure 81 = .ok (.goto (-40), 3) := by decide +kernel
theorem dX5_sure_84 : decode cX5_sure 84 = .ok (.iload_n 2, 1) := by decide +kernel
theorem dX5_sure_85 : decode cX5_sure 85 = .ok (.ifCond .eq 13, 3) := by decide +kernel
theorem dX5_sure_88 : decode cX5_sure 88 = .ok (.aload_n 0, 1) := by decide +kernel
theorem dX5_sure_89 : decode cX5_sure 89 = .ok (.iload_n 3, 1) := by decide +kernel
theorem dX5_sure_90 : decode cX5_sure 90 = .ok (.iload 4, 2) := by decide +kernel
theorem dX5_sure_92 : decode cX5_sure 92 = .ok (.invokevirtual 213, 3) := by decide +kernel
theorem dX5_sure_95 : decode cX5_sure 95 = .ok (.goto 8, 3) := by decide +kernel
theorem dX5_sure_98 : decode cX5_sure 98 = .ok (.aload_n 0, 1) := by decide +kernel
theorem dX5_sure_99 : decode cX5_sure 99 = .ok (.iconst 4, 1) := by decide +kernel
theorem dX5_sure_100 : decode cX5_sure 100 = .ok (.invokevirtual 90, 3) := by decide +kernel
theorem dX5_sure_103 : decode cX5_sure 103 = .ok (.ireturn, 1) := by decide +kernel
theorem dX5_weighs_0 : decode cX5_weighs 0 = .ok (.aload_n 0, 1) := by decide +kernel
theorem dX5_weighs_1 : decode cX5_weighs 1 = .ok (.getfield 62, 3) := by decide +kernel
theorem dX5_weighs_4 : decode cX5_weighs 4 = .ok (.iload_n 1, 1) := by decide +kernel
theorem dX5_weighs_5 : decode cX5_weighs 5 = .ok (.iaload, 1) := by decide +kernel
theorem dX5_weighs_6 : decode cX5_weighs 6 = .ok (.istore_n 3, 1) := by decide +kernel
theorem dX5_weighs_7 : decode cX5_weighs 7 = .ok (.iconst 0, 1) := by decide +kernel
theorem dX5_weighs_8 : decode cX5_weighs 8 = .ok (.istore 4, 2) := by decide +kernel
theorem dX5_weighs_10 : decode cX5_weighs 10 = .ok (.iload 4, 2) := by decide +kernel
theorem dX5_weighs_12 : decode cX5_weighs 12 = .ok (.aload_n 0, 1) := by decide +kernel
theorem dX5_weighs_13 : decode cX5_weighs 13 = .ok (.getfield 148, 3) := by decide +kernel
theorem dX5_weighs_16 : decode cX5_weighs 16 = .ok (.if_icmp .ge 44, 3) := by decide +kernel
theorem dX5_weighs_19 : decode cX5_weighs 19 = .ok (.aload_n 0, 1) := by decide +kernel
theorem dX5_weighs_20 : decode cX5_weighs 20 = .ok (.getfield 62, 3) := by decide +kernel
theorem dX5_weighs_23 : decode cX5_weighs 23 = .ok (.iload_n 1, 1) := by decide +kernel
theorem dX5_weighs_24 : decode cX5_weighs 24 = .ok (.iconst 1, 1) := by decide +kernel
theorem dX5_weighs_25 : decode cX5_weighs 25 = .ok (.iload 4, 2) := by decide +kernel
theorem dX5_weighs_27 : decode cX5_weighs 27 = .ok (.ishl, 1) := by decide +kernel
theorem dX5_weighs_28 : decode cX5_weighs 28 = .ok (.ixor, 1) := by decide +kernel
theorem dX5_weighs_29 : decode cX5_weighs 29 = .ok (.iaload, 1) := by decide +kernel
theorem dX5_weighs_30 : decode cX5_weighs 30 = .ok (.istore 5, 2) := by decide +kernel
theorem dX5_weighs_32 : decode cX5_weighs 32 = .ok (.iload_n 2, 1) := by decide +kernel
theorem dX5_weighs_33 : decode cX5_weighs 33 = .ok (.iload 5, 2) := by decide +kernel
theorem dX5_weighs_35 : decode cX5_weighs 35 = .ok (.iload_n 3, 1) := by decide +kernel
theorem dX5_weighs_36 : decode cX5_weighs 36 = .ok (.if_icmp .le 7, 3) := by decide +kernel
theorem dX5_weighs_39 : decode cX5_weighs 39 = .ok (.iconst 1, 1) := by decide +kernel
theorem dX5_weighs_40 : decode cX5_weighs 40 = .ok (.goto 4, 3) := by decide +kernel
theorem dX5_weighs_43 : decode cX5_weighs 43 = .ok (.iconst 0, 1) := by decide +kernel
theorem dX5_weighs_44 : decode cX5_weighs 44 = .ok (.if_icmp .ne 8, 3) := by decide +kernel
theorem dX5_weighs_47 : decode cX5_weighs 47 = .ok (.iload 5, 2) := by decide +kernel
theorem dX5_weighs_49 : decode cX5_weighs 49 = .ok (.goto 4, 3) := by decide +kernel
theorem dX5_weighs_52 : decode cX5_weighs 52 = .ok (.iload_n 3, 1) := by decide +kernel
theorem dX5_weighs_53 : decode cX5_weighs 53 = .ok (.istore_n 3, 1) := by decide +kernel
theorem dX5_weighs_54 : decode cX5_weighs 54 = .ok (.iinc 4 1, 3) := by decide +kernel
theorem dX5_weighs_57 : decode cX5_weighs 57 = .ok (.goto (-47), 3) := by decide +kernel
theorem dX5_weighs_60 : decode cX5_weighs 60 = .ok (.iload_n 3, 1) := by decide +kernel
theorem dX5_weighs_61 : decode cX5_weighs 61 = .ok (.ireturn, 1) := by decide +kernel
theorem dX5_duel_0 : decode cX5_duel 0 = .ok (.iload_n 1, 1) := by decide +kernel
theorem dX5_duel_1 : decode cX5_duel 1 = .ok (.i2l, 1) := by decide +kernel
theorem dX5_duel_2 : decode cX5_duel 2 = .ok (.lconst 0, 1) := by decide +kernel
theorem dX5_duel_3 : decode cX5_duel 3 = .ok (.ldc2_w 204, 3) := by decide +kernel
theorem dX5_duel_6 : decode cX5_duel 6 = .ok (.invokestatic 80, 3) := by decide +kernel
theorem dX5_duel_9 : decode cX5_duel 9 = .ok (.ifCond .ne 5, 3) := by decide +kernel
theorem dX5_duel_12 : decode cX5_duel 12 = .ok (.iconst (-1), 1) := by decide +kernel
theorem dX5_duel_13 : decode cX5_duel 13 = .ok (.ireturn, 1) := by decide +kernel
theorem dX5_duel_14 : decode cX5_duel 14 = .ok (.aload_n 0, 1) := by decide +kernel
theorem dX5_duel_15 : decode cX5_duel 15 = .ok (.getfield 148, 3) := by decide +kernel
theorem dX5_duel_18 : decode cX5_duel 18 = .ok (.ifCond .ne 6, 3) := by decide +kernel
theorem dX5_duel_21 : decode cX5_duel 21 = .ok (.bipush (-4), 2) := by decide +kernel
theorem dX5_duel_23 : decode cX5_duel 23 = .ok (.ireturn, 1) := by decide +kernel
theorem dX5_duel_24 : decode cX5_duel 24 = .ok (.iconst 1, 1) := by decide +kernel
theorem dX5_duel_25 : decode cX5_duel 25 = .ok (.aload_n 0, 1) := by decide +kernel
theorem dX5_duel_26 : decode cX5_duel 26 = .ok (.getfield 148, 3) := by decide +kernel
theorem dX5_duel_29 : decode cX5_duel 29 = .ok (.ishl, 1) := by decide +kernel
theorem dX5_duel_30 : decode cX5_duel 30 = .ok (.istore_n 2, 1) := by decide +kernel
theorem dX5_duel_31 : decode cX5_duel 31 = .ok (.iconst 0, 1) := by decide +kernel
theorem dX5_duel_32 : decode cX5_duel 32 = .ok (.istore_n 3, 1) := by decide +kernel
theorem dX5_duel_33 : decode cX5_duel 33 = .ok (.iload_n 3, 1) := by decide +kernel
theorem dX5_duel_34 : decode cX5_duel 34 = .ok (.iload_n 2, 1) := by decide +kernel
theorem dX5_duel_35 : decode cX5_duel 35 = .ok (.if_icmp .ge 53, 3) := by decide +kernel
theorem dX5_duel_38 : decode cX5_duel 38 = .ok (.aload_n 0, 1) := by decide +kernel
theorem dX5_duel_39 : decode cX5_duel 39 = .ok (.invokevirtual 210, 3) := by decide +kernel
theorem dX5_duel_42 : decode cX5_duel 42 = .ok (.aload_n 0, 1) := by decide +kernel
theorem dX5_duel_43 : decode cX5_duel 43 = .ok (.getfield 41, 3) := by decide +kernel
theorem dX5_duel_46 : decode cX5_duel 46 = .ok (.iconst 3, 1) := by decide +kernel
theorem dX5_duel_47 : decode cX5_duel 47 = .ok (.iload_n 3, 1) := by decide +kernel
theorem dX5_duel_48 : decode cX5_duel 48 = .ok (.iastore, 1) := by decide +kernel
theorem dX5_duel_49 : decode cX5_duel 49 = .ok (.aload_n 0, 1) := by decide +kernel
theorem dX5_duel_50 : decode cX5_duel 50 = .ok (.aload_n 0, 1) := by decide +kernel
theorem dX5_duel_51 : decode cX5_duel 51 = .ok (.getfield 41, 3) := by decide +kernel
theorem dX5_duel_54 : decode cX5_duel 54 = .ok (.invokevirtual 191, 3) := by decide +kernel
theorem dX5_duel_57 : decode cX5_duel 57 = .ok (.istore 4, 2) := by decide +kernel
theorem dX5_duel_59 : decode cX5_duel 59 = .ok (.aload_n 0, 1) := by decide +kernel
theorem dX5_duel_60 : decode cX5_duel 60 = .ok (.getfield 62, 3) := by decide +kernel
theorem dX5_duel_63 : decode cX5_duel 63 = .ok (.iload_n 3, 1) := by decide +kernel
theorem dX5_duel_64 : decode cX5_duel 64 = .ok (.iload 4, 2) := by decide +kernel
theorem dX5_duel_66 : decode cX5_duel 66 = .ok (.bipush 21, 2) := by decide +kernel
theorem dX5_duel_68 : decode cX5_duel 68 = .ok (.iand, 1) := by decide +kernel
theorem dX5_duel_69 : decode cX5_duel 69 = .ok (.invokestatic 216, 3) := by decide +kernel
theorem dX5_duel_72 : decode cX5_duel 72 = .ok (.iload 4, 2) := by decide +kernel
theorem dX5_duel_74 : decode cX5_duel 74 = .ok (.bipush 42, 2) := by decide +kernel
theorem dX5_duel_76 : decode cX5_duel 76 = .ok (.iand, 1) := by decide +kernel
theorem dX5_duel_77 : decode cX5_duel 77 = .ok (.invokestatic 216, 3) := by decide +kernel
theorem dX5_duel_80 : decode cX5_duel 80 = .ok (.isub, 1) := by decide +kernel
theorem dX5_duel_81 : decode cX5_duel 81 = .ok (.iastore, 1) := by decide +kernel
theorem dX5_duel_82 : decode cX5_duel 82 = .ok (.iinc 3 1, 3) := by decide +kernel
theorem dX5_duel_85 : decode cX5_duel 85 = .ok (.goto (-52), 3) := by decide +kernel
theorem dX5_duel_88 : decode cX5_duel 88 = .ok (.iconst 2, 1) := by decide +kernel
theorem dX5_duel_89 : decode cX5_duel 89 = .ok (.iload_n 1, 1) := by decide +kernel
theorem dX5_duel_90 : decode cX5_duel 90 = .ok (.imul, 1) := by decide +kernel
theorem dX5_duel_91 : decode cX5_duel 91 = .ok (.istore_n 3, 1) := by decide +kernel
theorem dX5_duel_92 : decode cX5_duel 92 = .ok (.iload_n 3, 1) := by decide +kernel
theorem dX5_duel_93 : decode cX5_duel 93 = .ok (.ifCond .le 63, 3) := by decide +kernel
theorem dX5_duel_96 : decode cX5_duel 96 = .ok (.iconst 0, 1) := by decide +kernel
theorem dX5_duel_97 : decode cX5_duel 97 = .ok (.istore 4, 2) := by decide +kernel
theorem dX5_duel_99 : decode cX5_duel 99 = .ok (.iload 4, 2) := by decide +kernel
theorem dX5_duel_101 : decode cX5_duel 101 = .ok (.iload_n 2, 1) := by decide +kernel
theorem dX5_duel_102 : decode cX5_duel 102 = .ok (.if_icmp .ge 34, 3) := by decide +kernel
theorem dX5_duel_105 : decode cX5_duel 105 = .ok (.aload_n 0, 1) := by decide +kernel
theorem dX5_duel_106 : decode cX5_duel 106 = .ok (.getfield 65, 3) := by decide +kernel
theorem dX5_duel_109 : decode cX5_duel 109 = .ok (.iload 4, 2) := by decide +kernel
theorem dX5_duel_111 : decode cX5_duel 111 = .ok (.aload_n 0, 1) := by decide +kernel
theorem dX5_duel_112 : decode cX5_duel 112 = .ok (.iload 4, 2) := by decide +kernel
theorem dX5_duel_114 : decode cX5_duel 114 = .ok (.iload_n 3, 1) := by decide +kernel
theorem dX5_duel_115 : decode cX5_duel 115 = .ok (.iconst 2, 1) := by decide +kernel
theorem dX5_duel_116 : decode cX5_duel 116 = .ok (.irem, 1) := by decide +kernel
theorem dX5_duel_117 : decode cX5_duel 117 = .ok (.iconst 1, 1) := by decide +kernel
theorem dX5_duel_118 : decode cX5_duel 118 = .ok (.if_icmp .ne 7, 3) := by decide +kernel
theorem dX5_duel_121 : decode cX5_duel 121 = .ok (.iconst 1, 1) := by decide +kernel
theorem dX5_duel_122 : decode cX5_duel 122 = .ok (.goto 4, 3) := by decide +kernel
theorem dX5_duel_125 : decode cX5_duel 125 = .ok (.iconst 0, 1) := by decide +kernel
theorem dX5_duel_126 : decode cX5_duel 126 = .ok (.invokevirtual 248, 3) := by decide +kernel
