theorem dX0_init_0 : decode cX0_init 0 = .ok (.aload_n 0, 1) := by decide +kernel
theorem dX0_init_1 : decode cX0_init 1 = .ok (.invokespecial 1, 3) := by decide +kernel
theorem dX0_init_4 : decode cX0_init 4 = .ok (.aload_n 0, 1) := by decide +kernel
theorem dX0_init_5 : decode cX0_init 5 = .ok (.bipush 40, 2) := by decide +kernel
theorem dX0_init_7 : decode cX0_init 7 = .ok (.newarray .int, 2) := by decide +kernel
theorem dX0_init_9 : decode cX0_init 9 = .ok (.putfield 9, 3) := by decide +kernel
theorem dX0_init_12 : decode cX0_init 12 = .ok (.aload_n 0, 1) := by decide +kernel
theorem dX0_init_13 : decode cX0_init 13 = .ok (.bipush 40, 2) := by decide +kernel
theorem dX0_init_15 : decode cX0_init 15 = .ok (.newarray .int, 2) := by decide +kernel
theorem dX0_init_17 : decode cX0_init 17 = .ok (.putfield 13, 3) := by decide +kernel
theorem dX0_init_20 : decode cX0_init 20 = .ok (.aload_n 0, 1) := by decide +kernel
theorem dX0_init_21 : decode cX0_init 21 = .ok (.iconst 0, 1) := by decide +kernel
theorem dX0_init_22 : decode cX0_init 22 = .ok (.putfield 16, 3) := by decide +kernel
theorem dX0_init_25 : decode cX0_init 25 = .ok (.return_, 1) := by decide +kernel
theorem dX0_add_0 : decode cX0_add 0 = .ok (.aload_n 0, 1) := by decide +kernel
theorem dX0_add_1 : decode cX0_add 1 = .ok (.getfield 16, 3) := by decide +kernel
theorem dX0_add_4 : decode cX0_add 4 = .ok (.ifCond .lt 12, 3) := by decide +kernel
theorem dX0_add_7 : decode cX0_add 7 = .ok (.aload_n 0, 1) := by decide +kernel
theorem dX0_add_8 : decode cX0_add 8 = .ok (.getfield 16, 3) := by decide +kernel
theorem dX0_add_11 : decode cX0_add 11 = .ok (.bipush 40, 2) := by decide +kernel
theorem dX0_add_13 : decode cX0_add 13 = .ok (.if_icmp .lt 5, 3) := by decide +kernel
theorem dX0_add_16 : decode cX0_add 16 = .ok (.iconst 0, 1) := by decide +kernel
theorem dX0_add_17 : decode cX0_add 17 = .ok (.ireturn, 1) := by decide +kernel
theorem dX0_add_18 : decode cX0_add 18 = .ok (.aload_n 0, 1) := by decide +kernel
theorem dX0_add_19 : decode cX0_add 19 = .ok (.getfield 9, 3) := by decide +kernel
theorem dX0_add_22 : decode cX0_add 22 = .ok (.aload_n 0, 1) := by decide +kernel
theorem dX0_add_23 : decode cX0_add 23 = .ok (.getfield 16, 3) := by decide +kernel
theorem dX0_add_26 : decode cX0_add 26 = .ok (.iload_n 1, 1) := by decide +kernel
theorem dX0_add_27 : decode cX0_add 27 = .ok (.iastore, 1) := by decide +kernel
theorem dX0_add_28 : decode cX0_add 28 = .ok (.aload_n 0, 1) := by decide +kernel
theorem dX0_add_29 : decode cX0_add 29 = .ok (.getfield 13, 3) := by decide +kernel
theorem dX0_add_32 : decode cX0_add 32 = .ok (.aload_n 0, 1) := by decide +kernel
theorem dX0_add_33 : decode cX0_add 33 = .ok (.getfield 16, 3) := by decide +kernel
theorem dX0_add_36 : decode cX0_add 36 = .ok (.iload_n 2, 1) := by decide +kernel
theorem dX0_add_37 : decode cX0_add 37 = .ok (.iastore, 1) := by decide +kernel
theorem dX0_add_38 : decode cX0_add 38 = .ok (.aload_n 0, 1) := by decide +kernel
theorem dX0_add_39 : decode cX0_add 39 = .ok (.dup, 1) := by decide +kernel
theorem dX0_add_40 : decode cX0_add 40 = .ok (.getfield 16, 3) := by decide +kernel
theorem dX0_add_43 : decode cX0_add 43 = .ok (.iconst 1, 1) := by decide +kernel
theorem dX0_add_44 : decode cX0_add 44 = .ok (.iadd, 1) := by decide +kernel
theorem dX0_add_45 : decode cX0_add 45 = .ok (.putfield 16, 3) := by decide +kernel
theorem dX0_add_48 : decode cX0_add 48 = .ok (.iconst 1, 1) := by decide +kernel
theorem dX0_add_49 : decode cX0_add 49 = .ok (.ireturn, 1) := by decide +kernel
theorem dX0_become_0 : decode cX0_become 0 = .ok (.aload_n 0, 1) := by decide +kernel
theorem dX0_become_1 : decode cX0_become 1 = .ok (.aload_n 1, 1) := by decide +kernel
theorem dX0_become_2 : decode cX0_become 2 = .ok (.getfield 16, 3) := by decide +kernel
theorem dX0_become_5 : decode cX0_become 5 = .ok (.putfield 16, 3) := by decide +kernel
theorem dX0_become_8 : decode cX0_become 8 = .ok (.aload_n 1, 1) := by decide +kernel
theorem dX0_become_9 : decode cX0_become 9 = .ok (.getfield 9, 3) := by decide +kernel
theorem dX0_become_12 : decode cX0_become 12 = .ok (.iconst 0, 1) := by decide +kernel
theorem dX0_become_13 : decode cX0_become 13 = .ok (.aload_n 0, 1) := by decide +kernel
theorem dX0_become_14 : decode cX0_become 14 = .ok (.getfield 9, 3) := by decide +kernel
theorem dX0_become_17 : decode cX0_become 17 = .ok (.iconst 0, 1) := by decide +kernel
theorem dX0_become_18 : decode cX0_become 18 = .ok (.bipush 40, 2) := by decide +kernel
theorem dX0_become_20 : decode cX0_become 20 = .ok (.invokestatic 20, 3) := by decide +kernel
theorem dX0_become_23 : decode cX0_become 23 = .ok (.aload_n 1, 1) := by decide +kernel
theorem dX0_become_24 : decode cX0_become 24 = .ok (.getfield 13, 3) := by decide +kernel
theorem dX0_become_27 : decode cX0_become 27 = .ok (.iconst 0, 1) := by decide +kernel
theorem dX0_become_28 : decode cX0_become 28 = .ok (.aload_n 0, 1) := by decide +kernel
theorem dX0_become_29 : decode cX0_become 29 = .ok (.getfield 13, 3) := by decide +kernel
theorem dX0_become_32 : decode cX0_become 32 = .ok (.iconst 0, 1) := by decide +kernel
theorem dX0_become_33 : decode cX0_become 33 = .ok (.bipush 40, 2) := by decide +kernel
theorem dX0_become_35 : decode cX0_become 35 = .ok (.invokestatic 20, 3) := by decide +kernel
theorem dX0_become_38 : decode cX0_become 38 = .ok (.return_, 1) := by decide +kernel
theorem dX1_ofLetter_0 : decode cX1_ofLetter 0 = .ok (.iload_n 0, 1) := by decide +kernel
theorem dX1_ofLetter_1 : decode cX1_ofLetter 1 = .ok (.tableswitch 103 98 116 #[95, 103, 103, 103, 103, 103, 103, 103, 103, 103, 101, 103, 103, 99, 91, 103, 103, 93, 97], 91) := by decide +kernel
theorem dX1_ofLetter_92 : decode cX1_ofLetter 92 = .ok (.iconst 0, 1) := by decide +kernel
theorem dX1_ofLetter_93 : decode cX1_ofLetter 93 = .ok (.ireturn, 1) := by decide +kernel
theorem dX1_ofLetter_94 : decode cX1_ofLetter 94 = .ok (.iconst 1, 1) := by decide +kernel
theorem dX1_ofLetter_95 : decode cX1_ofLetter 95 = .ok (.ireturn, 1) := by decide +kernel
theorem dX1_ofLetter_96 : decode cX1_ofLetter 96 = .ok (.iconst 2, 1) := by decide +kernel
theorem dX1_ofLetter_97 : decode cX1_ofLetter 97 = .ok (.ireturn, 1) := by decide +kernel
theorem dX1_ofLetter_98 : decode cX1_ofLetter 98 = .ok (.iconst 3, 1) := by decide +kernel
theorem dX1_ofLetter_99 : decode cX1_ofLetter 99 = .ok (.ireturn, 1) := by decide +kernel
theorem dX1_ofLetter_100 : decode cX1_ofLetter 100 = .ok (.iconst 4, 1) := by decide +kernel
theorem dX1_ofLetter_101 : decode cX1_ofLetter 101 = .ok (.ireturn, 1) := by decide +kernel
theorem dX1_ofLetter_102 : decode cX1_ofLetter 102 = .ok (.iconst 5, 1) := by decide +kernel
theorem dX1_ofLetter_103 : decode cX1_ofLetter 103 = .ok (.ireturn, 1) := by decide +kernel
theorem dX1_ofLetter_104 : decode cX1_ofLetter 104 = .ok (.bipush (-9), 2) := by decide +kernel
theorem dX1_ofLetter_106 : decode cX1_ofLetter 106 = .ok (.ireturn, 1) := by decide +kernel
theorem dX1_isOf_0 : decode cX1_isOf 0 = .ok (.iload_n 1, 1) := by decide +kernel
theorem dX1_isOf_1 : decode cX1_isOf 1 = .ok (.tableswitch 65 0 3 #[31, 33, 65, 49], 31) := by decide +kernel
theorem dX1_isOf_32 : decode cX1_isOf 32 = .ok (.iconst 1, 1) := by decide +kernel
theorem dX1_isOf_33 : decode cX1_isOf 33 = .ok (.ireturn, 1) := by decide +kernel
theorem dX1_isOf_34 : decode cX1_isOf 34 = .ok (.iload_n 0, 1) := by decide +kernel
theorem dX1_isOf_35 : decode cX1_isOf 35 = .ok (.iconst 1, 1) := by decide +kernel
theorem dX1_isOf_36 : decode cX1_isOf 36 = .ok (.if_icmp .eq 8, 3) := by decide +kernel
theorem dX1_isOf_39 : decode cX1_isOf 39 = .ok (.iload_n 0, 1) := by decide +kernel
theorem dX1_isOf_40 : decode cX1_isOf 40 = .ok (.iconst 4, 1) := by decide +kernel
theorem dX1_isOf_41 : decode cX1_isOf 41 = .ok (.if_icmp .ne 7, 3) := by decide +kernel
theorem dX1_isOf_44 : decode cX1_isOf 44 = .ok (.iconst 1, 1) := by decide +kernel
theorem dX1_isOf_45 : decode cX1_isOf 45 = .ok (.goto 4, 3) := by decide +kernel
theorem dX1_isOf_48 : decode cX1_isOf 48 = .ok (.iconst 0, 1) := by decide +kernel
theorem dX1_isOf_49 : decode cX1_isOf 49 = .ok (.ireturn, 1) := by decide +kernel
theorem dX1_isOf_50 : decode cX1_isOf 50 = .ok (.iload_n 0, 1) := by decide +kernel
theorem dX1_isOf_51 : decode cX1_isOf 51 = .ok (.iconst 3, 1) := by decide +kernel
theorem dX1_isOf_52 : decode cX1_isOf 52 = .ok (.if_icmp .eq 8, 3) := by decide +kernel
theorem dX1_isOf_55 : decode cX1_isOf 55 = .ok (.iload_n 0, 1) := by decide +kernel
theorem dX1_isOf_56 : decode cX1_isOf 56 = .ok (.iconst 5, 1) := by decide +kernel
theorem dX1_isOf_57 : decode cX1_isOf 57 = .ok (.if_icmp .ne 7, 3) := by decide +kernel
theorem dX1_isOf_60 : decode cX1_isOf 60 = .ok (.iconst 1, 1) := by decide +kernel
theorem dX1_isOf_61 : decode cX1_isOf 61 = .ok (.goto 4, 3) := by decide +kernel
theorem dX1_isOf_64 : decode cX1_isOf 64 = .ok (.iconst 0, 1) := by decide +kernel
theorem dX1_isOf_65 : decode cX1_isOf 65 = .ok (.ireturn, 1) := by decide +kernel
theorem dX1_isOf_66 : decode cX1_isOf 66 = .ok (.iload_n 0, 1) := by decide +kernel
theorem dX1_isOf_67 : decode cX1_isOf 67 = .ok (.iload_n 1, 1) := by decide +kernel
theorem dX1_isOf_68 : decode cX1_isOf 68 = .ok (.if_icmp .ne 7, 3) := by decide +kernel
theorem dX1_isOf_71 : decode cX1_isOf 71 = .ok (.iconst 1, 1) := by decide +kernel
theorem dX1_isOf_72 : decode cX1_isOf 72 = .ok (.goto 4, 3) := by decide +kernel
theorem dX1_isOf_75 : decode cX1_isOf 75 = .ok (.iconst 0, 1) := by decide +kernel
theorem dX1_isOf_76 : decode cX1_isOf 76 = .ok (.ireturn, 1) := by decide +kernel
theorem dX1_want_0 : decode cX1_want 0 = .ok (.iload_n 0, 1) := by decide +kernel
theorem dX1_want_1 : decode cX1_want 1 = .ok (.tableswitch 50 3 5 #[27, 37, 31], 27) := by decide +kernel
theorem dX1_want_28 : decode cX1_want 28 = .ok (.iload_n 1, 1) := by decide +kernel
theorem dX1_want_29 : decode cX1_want 29 = .ok (.iconst 1, 1) := by decide +kernel
theorem dX1_want_30 : decode cX1_want 30 = .ok (.iadd, 1) := by decide +kernel
theorem dX1_want_31 : decode cX1_want 31 = .ok (.ireturn, 1) := by decide +kernel
theorem dX1_want_32 : decode cX1_want 32 = .ok (.iconst 2, 1) := by decide +kernel
theorem dX1_want_33 : decode cX1_want 33 = .ok (.iload_n 1, 1) := by decide +kernel
theorem dX1_want_34 : decode cX1_want 34 = .ok (.iconst 1, 1) := by decide +kernel
theorem dX1_want_35 : decode cX1_want 35 = .ok (.iadd, 1) := by decide +kernel
theorem dX1_want_36 : decode cX1_want 36 = .ok (.imul, 1) := by decide +kernel
theorem dX1_want_37 : decode cX1_want 37 = .ok (.ireturn, 1) := by decide +kernel
theorem dX1_want_38 : decode cX1_want 38 = .ok (.iload_n 2, 1) := by decide +kernel
theorem dX1_want_39 : decode cX1_want 39 = .ok (.iconst 3, 1) := by decide +kernel
theorem dX1_want_40 : decode cX1_want 40 = .ok (.irem, 1) := by decide +kernel
theorem dX1_want_41 : decode cX1_want 41 = .ok (.iconst 2, 1) := by decide +kernel
theorem dX1_want_42 : decode cX1_want 42 = .ok (.if_icmp .ne 7, 3) := by decide +kernel
theorem dX1_want_45 : decode cX1_want 45 = .ok (.iconst 0, 1) := by decide +kernel
theorem dX1_want_46 : decode cX1_want 46 = .ok (.goto 4, 3) := by decide +kernel
theorem dX1_want_49 : decode cX1_want 49 = .ok (.iload_n 1, 1) := by decide +kernel
theorem dX1_want_50 : decode cX1_want 50 = .ok (.ireturn, 1) := by decide +kernel
theorem dX1_want_51 : decode cX1_want 51 = .ok (.iload_n 1, 1) := by decide +kernel
theorem dX1_want_52 : decode cX1_want 52 = .ok (.ireturn, 1) := by decide +kernel
theorem dX1_keeps_0 : decode cX1_keeps 0 = .ok (.iload_n 0, 1) := by decide +kernel
theorem dX1_keeps_1 : decode cX1_keeps 1 = .ok (.iconst 1, 1) := by decide +kernel
theorem dX1_keeps_2 : decode cX1_keeps 2 = .ok (.invokestatic 11, 3) := by decide +kernel
theorem dX1_keeps_5 : decode cX1_keeps 5 = .ok (.ifCond .eq 7, 3) := by decide +kernel
theorem dX1_keeps_8 : decode cX1_keeps 8 = .ok (.iconst 1, 1) := by decide +kernel
theorem dX1_keeps_9 : decode cX1_keeps 9 = .ok (.goto 4, 3) := by decide +kernel
theorem dX1_keeps_12 : decode cX1_keeps 12 = .ok (.iconst 0, 1) := by decide +kernel
theorem dX1_keeps_13 : decode cX1_keeps 13 = .ok (.ireturn, 1) := by decide +kernel
theorem dX1_hoursToRest_0 : decode cX1_hoursToRest 0 = .ok (.iconst 2, 1) := by decide +kernel
theorem dX1_hoursToRest_1 : decode cX1_hoursToRest 1 = .ok (.iload_n 0, 1) := by decide +kernel
theorem dX1_hoursToRest_2 : decode cX1_hoursToRest 2 = .ok (.iconst 3, 1) := by decide +kernel
theorem dX1_hoursToRest_3 : decode cX1_hoursToRest 3 = .ok (.irem, 1) := by decide +kernel
theorem dX1_hoursToRest_4 : decode cX1_hoursToRest 4 = .ok (.isub, 1) := by decide +kernel
theorem dX1_hoursToRest_5 : decode cX1_hoursToRest 5 = .ok (.ireturn, 1) := by decide +kernel
theorem dX2_init_0 : decode cX2_init 0 = .ok (.aload_n 0, 1) := by decide +kernel
theorem dX2_init_1 : decode cX2_init 1 = .ok (.invokespecial 3, 3) := by decide +kernel
theorem dX2_init_4 : decode cX2_init 4 = .ok (.aload_n 0, 1) := by decide +kernel
theorem dX2_init_5 : decode cX2_init 5 = .ok (.aconst_null, 1) := by decide +kernel
theorem dX2_init_6 : decode cX2_init 6 = .ok (.putfield 9, 3) := by decide +kernel
theorem dX2_init_9 : decode cX2_init 9 = .ok (.aload_n 0, 1) := by decide +kernel
theorem dX2_init_10 : decode cX2_init 10 = .ok (.iconst 0, 1) := by decide +kernel
theorem dX2_init_11 : decode cX2_init 11 = .ok (.putfield 15, 3) := by decide +kernel
theorem dX2_init_14 : decode cX2_init 14 = .ok (.aload_n 0, 1) := by decide +kernel
theorem dX2_init_15 : decode cX2_init 15 = .ok (.iconst 0, 1) := by decide +kernel
theorem dX2_init_16 : decode cX2_init 16 = .ok (.putfield 19, 3) := by decide +kernel
theorem dX2_init_19 : decode cX2_init 19 = .ok (.return_, 1) := by decide +kernel
theorem dX2_readTown_0 : decode cX2_readTown 0 = .ok (.aload_n 0, 1) := by decide +kernel
theorem dX2_readTown_1 : decode cX2_readTown 1 = .ok (.aload_n 1, 1) := by decide +kernel
theorem dX2_readTown_2 : decode cX2_readTown 2 = .ok (.putfield 9, 3) := by decide +kernel
theorem dX2_readTown_5 : decode cX2_readTown 5 = .ok (.aload_n 0, 1) := by decide +kernel
theorem dX2_readTown_6 : decode cX2_readTown 6 = .ok (.iload_n 2, 1) := by decide +kernel
theorem dX2_readTown_7 : decode cX2_readTown 7 = .ok (.putfield 15, 3) := by decide +kernel
theorem dX2_readTown_10 : decode cX2_readTown 10 = .ok (.aload_n 0, 1) := by decide +kernel
theorem dX2_readTown_11 : decode cX2_readTown 11 = .ok (.iconst 0, 1) := by decide +kernel
theorem dX2_readTown_12 : decode cX2_readTown 12 = .ok (.putfield 19, 3) := by decide +kernel
theorem dX2_readTown_15 : decode cX2_readTown 15 = .ok (.aload_n 0, 1) := by decide +kernel
theorem dX2_readTown_16 : decode cX2_readTown 16 = .ok (.invokevirtual 22, 3) := by decide +kernel
theorem dX2_readTown_19 : decode cX2_readTown 19 = .ok (.aload_n 0, 1) := by decide +kernel
theorem dX2_readTown_20 : decode cX2_readTown 20 = .ok (.aload_n 3, 1) := by decide +kernel
theorem dX2_readTown_21 : decode cX2_readTown 21 = .ok (.invokevirtual 25, 3) := by decide +kernel
theorem dX2_readTown_24 : decode cX2_readTown 24 = .ok (.istore 4, 2) := by decide +kernel
theorem dX2_readTown_26 : decode cX2_readTown 26 = .ok (.iconst 0, 1) := by decide +kernel
theorem dX2_readTown_27 : decode cX2_readTown 27 = .ok (.istore 5, 2) := by decide +kernel
theorem dX2_readTown_29 : decode cX2_readTown 29 = .ok (.iload 4, 2) := by decide +kernel
theorem dX2_readTown_31 : decode cX2_readTown 31 = .ok (.bipush (-9), 2) := by decide +kernel
theorem dX2_readTown_33 : decode cX2_readTown 33 = .ok (.if_icmp .ne 67, 3) := by decide +kernel
theorem dX2_readTown_36 : decode cX2_readTown 36 = .ok (.iload 5, 2) := by decide +kernel
theorem dX2_readTown_38 : decode cX2_readTown 38 = .ok (.bipush 6, 2) := by decide +kernel
theorem dX2_readTown_40 : decode cX2_readTown 40 = .ok (.if_icmp .gt 60, 3) := by decide +kernel
theorem dX2_readTown_43 : decode cX2_readTown 43 = .ok (.aload_n 0, 1) := by decide +kernel
theorem dX2_readTown_44 : decode cX2_readTown 44 = .ok (.invokevirtual 22, 3) := by decide +kernel
theorem dX2_readTown_47 : decode cX2_readTown 47 = .ok (.aload_n 0, 1) := by decide +kernel
theorem dX2_readTown_48 : decode cX2_readTown 48 = .ok (.getfield 19, 3) := by decide +kernel
theorem dX2_readTown_51 : decode cX2_readTown 51 = .ok (.aload_n 0, 1) := by decide +kernel
theorem dX2_readTown_52 : decode cX2_readTown 52 = .ok (.getfield 15, 3) := by decide +kernel
theorem dX2_readTown_55 : decode cX2_readTown 55 = .ok (.if_icmp .lt 18, 3) := by decide +kernel
theorem dX2_readTown_58 : decode cX2_readTown 58 = .ok (.iload 5, 2) := by decide +kernel
theorem dX2_readTown_60 : decode cX2_readTown 60 = .ok (.ifCond .ne 10, 3) := by decide +kernel
theorem dX2_readTown_63 : decode cX2_readTown 63 = .ok (.aload_n 0, 1) := by decide +kernel
theorem dX2_readTown_64 : decode cX2_readTown 64 = .ok (.getfield 15, 3) := by decide +kernel
theorem dX2_readTown_67 : decode cX2_readTown 67 = .ok (.goto 5, 3) := by decide +kernel
theorem dX2_readTown_70 : decode cX2_readTown 70 = .ok (.bipush (-9), 2) := by decide +kernel
theorem dX2_readTown_72 : decode cX2_readTown 72 = .ok (.ireturn, 1) := by decide +kernel
theorem dX2_readTown_73 : decode cX2_readTown 73 = .ok (.iload 5, 2) := by decide +kernel
theorem dX2_readTown_75 : decode cX2_readTown 75 = .ok (.bipush 6, 2) := by decide +kernel
theorem dX2_readTown_77 : decode cX2_readTown 77 = .ok (.if_icmp .ne 10, 3) := by decide +kernel
theorem dX2_readTown_80 : decode cX2_readTown 80 = .ok (.aload_n 0, 1) := by decide +kernel
theorem dX2_readTown_81 : decode cX2_readTown 81 = .ok (.getfield 19, 3) := by decide +kernel
theorem dX2_readTown_84 : decode cX2_readTown 84 = .ok (.goto 8, 3) := by decide +kernel
theorem dX2_readTown_87 : decode cX2_readTown 87 = .ok (.aload_n 0, 1) := by decide +kernel
theorem dX2_readTown_88 : decode cX2_readTown 88 = .ok (.aload_n 3, 1) := by decide +kernel
theorem dX2_readTown_89 : decode cX2_readTown 89 = .ok (.invokevirtual 31, 3) := by decide +kernel
theorem dX2_readTown_92 : decode cX2_readTown 92 = .ok (.istore 4, 2) := by decide +kernel
theorem dX2_readTown_94 : decode cX2_readTown 94 = .ok (.iinc 5 1, 3) := by decide +kernel
theorem dX2_readTown_97 : decode cX2_readTown 97 = .ok (.goto (-68), 3) := by decide +kernel
theorem dX2_readTown_100 : decode cX2_readTown 100 = .ok (.iload 4, 2) := by decide +kernel
theorem dX2_readTown_102 : decode cX2_readTown 102 = .ok (.ireturn, 1) := by decide +kernel
theorem dX2_readBellows_0 : decode cX2_readBellows 0 = .ok (.aload_n 0, 1) := by decide +kernel
theorem dX2_readBellows_1 : decode cX2_readBellows 1 = .ok (.aload_n 0, 1) := by decide +kernel
theorem dX2_readBellows_2 : decode cX2_readBellows 2 = .ok (.getfield 19, 3) := by decide +kernel
theorem dX2_readBellows_5 : decode cX2_readBellows 5 = .ok (.iconst 1, 1) := by decide +kernel
theorem dX2_readBellows_6 : decode cX2_readBellows 6 = .ok (.iadd, 1) := by decide +kernel
theorem dX2_readBellows_7 : decode cX2_readBellows 7 = .ok (.invokevirtual 34, 3) := by decide +kernel
theorem dX2_readBellows_10 : decode cX2_readBellows 10 = .ok (.istore_n 2, 1) := by decide +kernel
theorem dX2_readBellows_11 : decode cX2_readBellows 11 = .ok (.aload_n 0, 1) := by decide +kernel
theorem dX2_readBellows_12 : decode cX2_readBellows 12 = .ok (.aload_n 0, 1) := by decide +kernel
theorem dX2_readBellows_13 : decode cX2_readBellows 13 = .ok (.getfield 19, 3) := by decide +kernel
theorem dX2_readBellows_16 : decode cX2_readBellows 16 = .ok (.iconst 2, 1) := by decide +kernel
theorem dX2_readBellows_17 : decode cX2_readBellows 17 = .ok (.iadd, 1) := by decide +kernel
theorem dX2_readBellows_18 : decode cX2_readBellows 18 = .ok (.invokevirtual 34, 3) := by decide +kernel
theorem dX2_readBellows_21 : decode cX2_readBellows 21 = .ok (.istore_n 3, 1) := by decide +kernel
theorem dX2_readBellows_22 : decode cX2_readBellows 22 = .ok (.aload_n 0, 1) := by decide +kernel
theorem dX2_readBellows_23 : decode cX2_readBellows 23 = .ok (.aload_n 0, 1) := by decide +kernel
theorem dX2_readBellows_24 : decode cX2_readBellows 24 = .ok (.getfield 19, 3) := by decide +kernel
theorem dX2_readBellows_27 : decode cX2_readBellows 27 = .ok (.iconst 3, 1) := by decide +kernel
theorem dX2_readBellows_28 : decode cX2_readBellows 28 = .ok (.iadd, 1) := by decide +kernel
theorem dX2_readBellows_29 : decode cX2_readBellows 29 = .ok (.invokevirtual 34, 3) := by decide +kernel
theorem dX2_readBellows_32 : decode cX2_readBellows 32 = .ok (.istore 4, 2) := by decide +kernel
theorem dX2_readBellows_34 : decode cX2_readBellows 34 = .ok (.aload_n 0, 1) := by decide +kernel
theorem dX2_readBellows_35 : decode cX2_readBellows 35 = .ok (.aload_n 0, 1) := by decide +kernel
theorem dX2_readBellows_36 : decode cX2_readBellows 36 = .ok (.getfield 19, 3) := by decide +kernel
theorem dX2_readBellows_39 : decode cX2_readBellows 39 = .ok (.invokevirtual 38, 3) := by decide +kernel
theorem dX2_readBellows_42 : decode cX2_readBellows 42 = .ok (.bipush 97, 2) := by decide +kernel
theorem dX2_readBellows_44 : decode cX2_readBellows 44 = .ok (.if_icmp .eq 8, 3) := by decide +kernel
theorem dX2_readBellows_47 : decode cX2_readBellows 47 = .ok (.aload_n 0, 1) := by decide +kernel
theorem dX2_readBellows_48 : decode cX2_readBellows 48 = .ok (.getfield 19, 3) := by decide +kernel
theorem dX2_readBellows_51 : decode cX2_readBellows 51 = .ok (.ireturn, 1) := by decide +kernel
theorem dX2_readBellows_52 : decode cX2_readBellows 52 = .ok (.iload_n 2, 1) := by decide +kernel
theorem dX2_readBellows_53 : decode cX2_readBellows 53 = .ok (.bipush (-9), 2) := by decide +kernel
theorem dX2_readBellows_55 : decode cX2_readBellows 55 = .ok (.if_icmp .ne 10, 3) := by decide +kernel
theorem dX2_readBellows_58 : decode cX2_readBellows 58 = .ok (.aload_n 0, 1) := by decide +kernel
theorem dX2_readBellows_59 : decode cX2_readBellows 59 = .ok (.getfield 19, 3) := by decide +kernel
theorem dX2_readBellows_62 : decode cX2_readBellows 62 = .ok (.iconst 1, 1) := by decide +kernel
theorem dX2_readBellows_63 : decode cX2_readBellows 63 = .ok (.iadd, 1) := by decide +kernel
theorem dX2_readBellows_64 : decode cX2_readBellows 64 = .ok (.ireturn, 1) := by decide +kernel
theorem dX2_readBellows_65 : decode cX2_readBellows 65 = .ok (.iload_n 3, 1) := by decide +kernel
theorem dX2_readBellows_66 : decode cX2_readBellows 66 = .ok (.bipush (-9), 2) := by decide +kernel
theorem dX2_readBellows_68 : decode cX2_readBellows 68 = .ok (.if_icmp .ne 10, 3) := by decide +kernel
theorem dX2_readBellows_71 : decode cX2_readBellows 71 = .ok (.aload_n 0, 1) := by decide +kernel
theorem dX2_readBellows_72 : decode cX2_readBellows 72 = .ok (.getfield 19, 3) := by decide +kernel
theorem dX2_readBellows_75 : decode cX2_readBellows 75 = .ok (.iconst 2, 1) := by decide +kernel
theorem dX2_readBellows_76 : decode cX2_readBellows 76 = .ok (.iadd, 1) := by decide +kernel
theorem dX2_readBellows_77 : decode cX2_readBellows 77 = .ok (.ireturn, 1) := by decide +kernel
theorem dX2_readBellows_78 : decode cX2_readBellows 78 = .ok (.bipush 10, 2) := by decide +kernel
theorem dX2_readBellows_80 : decode cX2_readBellows 80 = .ok (.iload_n 2, 1) := by decide +kernel
theorem dX2_readBellows_81 : decode cX2_readBellows 81 = .ok (.imul, 1) := by decide +kernel
theorem dX2_readBellows_82 : decode cX2_readBellows 82 = .ok (.iload_n 3, 1) := by decide +kernel
theorem dX2_readBellows_83 : decode cX2_readBellows 83 = .ok (.iadd, 1) := by decide +kernel
theorem dX2_readBellows_84 : decode cX2_readBellows 84 = .ok (.bipush 60, 2) := by decide +kernel
theorem dX2_readBellows_86 : decode cX2_readBellows 86 = .ok (.if_icmp .le 10, 3) := by decide +kernel
theorem dX2_readBellows_89 : decode cX2_readBellows 89 = .ok (.aload_n 0, 1) := by decide +kernel
theorem dX2_readBellows_90 : decode cX2_readBellows 90 = .ok (.getfield 19, 3) := by decide +kernel
theorem dX2_readBellows_93 : decode cX2_readBellows 93 = .ok (.iconst 1, 1) := by decide +kernel
theorem dX2_readBellows_94 : decode cX2_readBellows 94 = .ok (.iadd, 1) := by decide +kernel
theorem dX2_readBellows_95 : decode cX2_readBellows 95 = .ok (.ireturn, 1) := by decide +kernel
theorem dX2_readBellows_96 : decode cX2_readBellows 96 = .ok (.iload 4, 2) := by decide +kernel
theorem dX2_readBellows_98 : decode cX2_readBellows 98 = .ok (.bipush (-9), 2) := by decide +kernel
theorem dX2_readBellows_100 : decode cX2_readBellows 100 = .ok (.if_icmp .ne 10, 3) := by decide +kernel
theorem dX2_readBellows_103 : decode cX2_readBellows 103 = .ok (.aload_n 0, 1) := by decide +kernel
theorem dX2_readBellows_104 : decode cX2_readBellows 104 = .ok (.getfield 19, 3) := by decide +kernel
theorem dX2_readBellows_107 : decode cX2_readBellows 107 = .ok (.iconst 3, 1) := by decide +kernel
theorem dX2_readBellows_108 : decode cX2_readBellows 108 = .ok (.iadd, 1) := by decide +kernel
theorem dX2_readBellows_109 : decode cX2_readBellows 109 = .ok (.ireturn, 1) := by decide +kernel
theorem dX2_readBellows_110 : decode cX2_readBellows 110 = .ok (.aload_n 1, 1) := by decide +kernel
theorem dX2_readBellows_111 : decode cX2_readBellows 111 = .ok (.bipush 10, 2) := by decide +kernel
theorem dX2_readBellows_113 : decode cX2_readBellows 113 = .ok (.iload_n 2, 1) := by decide +kernel
theorem dX2_readBellows_114 : decode cX2_readBellows 114 = .ok (.imul, 1) := by decide +kernel
theorem dX2_readBellows_115 : decode cX2_readBellows 115 = .ok (.iload_n 3, 1) := by decide +kernel
theorem dX2_readBellows_116 : decode cX2_readBellows 116 = .ok (.iadd, 1) := by decide +kernel
theorem dX2_readBellows_117 : decode cX2_readBellows 117 = .ok (.iload 4, 2) := by decide +kernel
theorem dX2_readBellows_119 : decode cX2_readBellows 119 = .ok (.invokevirtual 41, 3) := by decide +kernel
theorem dX2_readBellows_122 : decode cX2_readBellows 122 = .ok (.aload_n 0, 1) := by decide +kernel
theorem dX2_readBellows_123 : decode cX2_readBellows 123 = .ok (.dup, 1) := by decide +kernel
theorem dX2_readBellows_124 : decode cX2_readBellows 124 = .ok (.getfield 19, 3) := by decide +kernel
theorem dX2_readBellows_127 : decode cX2_readBellows 127 = .ok (.iconst 4, 1) := by decide +kernel
theorem dX2_readBellows_128 : decode cX2_readBellows 128 = .ok (.iadd, 1) := by decide +kernel
theorem dX2_readBellows_129 : decode cX2_readBellows 129 = .ok (.putfield 19, 3) := by decide +kernel
theorem dX2_readBellows_132 : decode cX2_readBellows 132 = .ok (.bipush (-9), 2) := by decide +kernel
theorem dX2_readBellows_134 : decode cX2_readBellows 134 = .ok (.ireturn, 1) := by decide +kernel
theorem dX2_readPipe_0 : decode cX2_readPipe 0 = .ok (.aload_n 0, 1) := by decide +kernel
theorem dX2_readPipe_1 : decode cX2_readPipe 1 = .ok (.aload_n 0, 1) := by decide +kernel
theorem dX2_readPipe_2 : decode cX2_readPipe 2 = .ok (.getfield 19, 3) := by decide +kernel
theorem dX2_readPipe_5 : decode cX2_readPipe 5 = .ok (.invokevirtual 38, 3) := by decide +kernel
theorem dX2_readPipe_8 : decode cX2_readPipe 8 = .ok (.invokestatic 45, 3) := by decide +kernel
theorem dX2_readPipe_11 : decode cX2_readPipe 11 = .ok (.istore_n 2, 1) := by decide +kernel
theorem dX2_readPipe_12 : decode cX2_readPipe 12 = .ok (.aload_n 0, 1) := by decide +kernel
theorem dX2_readPipe_13 : decode cX2_readPipe 13 = .ok (.aload_n 0, 1) := by decide +kernel
theorem dX2_readPipe_14 : decode cX2_readPipe 14 = .ok (.getfield 19, 3) := by decide +kernel
theorem dX2_readPipe_17 : decode cX2_readPipe 17 = .ok (.iconst 1, 1) := by decide +kernel
theorem dX2_readPipe_18 : decode cX2_readPipe 18 = .ok (.iadd, 1) := by decide +kernel
theorem dX2_readPipe_19 : decode cX2_readPipe 19 = .ok (.invokevirtual 34, 3) := by decide +kernel
theorem dX2_readPipe_22 : decode cX2_readPipe 22 = .ok (.istore_n 3, 1) := by decide +kernel
theorem dX2_readPipe_23 : decode cX2_readPipe 23 = .ok (.aload_n 0, 1) := by decide +kernel
theorem dX2_readPipe_24 : decode cX2_readPipe 24 = .ok (.aload_n 0, 1) := by decide +kernel
theorem dX2_readPipe_25 : decode cX2_readPipe 25 = .ok (.getfield 19, 3) := by decide +kernel
theorem dX2_readPipe_28 : decode cX2_readPipe 28 = .ok (.iconst 2, 1) := by decide +kernel
theorem dX2_readPipe_29 : decode cX2_readPipe 29 = .ok (.iadd, 1) := by decide +kernel
theorem dX2_readPipe_30 : decode cX2_readPipe 30 = .ok (.invokevirtual 34, 3) := by decide +kernel
theorem dX2_readPipe_33 : decode cX2_readPipe 33 = .ok (.istore 4, 2) := by decide +kernel
theorem dX2_readPipe_35 : decode cX2_readPipe 35 = .ok (.iload_n 2, 1) := by decide +kernel
theorem dX2_readPipe_36 : decode cX2_readPipe 36 = .ok (.bipush (-9), 2) := by decide +kernel
theorem dX2_readPipe_38 : decode cX2_readPipe 38 = .ok (.if_icmp .ne 8, 3) := by decide +kernel
theorem dX2_readPipe_41 : decode cX2_readPipe 41 = .ok (.aload_n 0, 1) := by decide +kernel
theorem dX2_readPipe_42 : decode cX2_readPipe 42 = .ok (.getfield 19, 3) := by decide +kernel
theorem dX2_readPipe_45 : decode cX2_readPipe 45 = .ok (.ireturn, 1) := by decide +kernel
theorem dX2_readPipe_46 : decode cX2_readPipe 46 = .ok (.iload_n 3, 1) := by decide +kernel
theorem dX2_readPipe_47 : decode cX2_readPipe 47 = .ok (.bipush (-9), 2) := by decide +kernel
theorem dX2_readPipe_49 : decode cX2_readPipe 49 = .ok (.if_icmp .eq 11, 3) := by decide +kernel
theorem dX2_readPipe_52 : decode cX2_readPipe 52 = .ok (.iload_n 3, 1) := by decide +kernel
theorem dX2_readPipe_53 : decode cX2_readPipe 53 = .ok (.aload_n 1, 1) := by decide +kernel
theorem dX2_readPipe_54 : decode cX2_readPipe 54 = .ok (.getfield 50, 3) := by decide +kernel
theorem dX2_readPipe_57 : decode cX2_readPipe 57 = .ok (.if_icmp .le 10, 3) := by decide +kernel
theorem dX2_readPipe_60 : decode cX2_readPipe 60 = .ok (.aload_n 0, 1) := by decide +kernel
theorem dX2_readPipe_61 : decode cX2_readPipe 61 = .ok (.getfield 19, 3) := by decide +kernel
theorem dX2_readPipe_64 : decode cX2_readPipe 64 = .ok (.iconst 1, 1) := by decide +kernel
theorem dX2_readPipe_65 : decode cX2_readPipe 65 = .ok (.iadd, 1) := by decide +kernel
theorem dX2_readPipe_66 : decode cX2_readPipe 66 = .ok (.ireturn, 1) := by decide +kernel
theorem dX2_readPipe_67 : decode cX2_readPipe 67 = .ok (.iload 4, 2) := by decide +kernel
theorem dX2_readPipe_69 : decode cX2_readPipe 69 = .ok (.bipush (-9), 2) := by decide +kernel
theorem dX2_readPipe_71 : decode cX2_readPipe 71 = .ok (.if_icmp .eq 8, 3) := by decide +kernel
theorem dX2_readPipe_74 : decode cX2_readPipe 74 = .ok (.iload 4, 2) := by decide +kernel
theorem dX2_readPipe_76 : decode cX2_readPipe 76 = .ok (.ifCond .ne 10, 3) := by decide +kernel
theorem dX2_readPipe_79 : decode cX2_readPipe 79 = .ok (.aload_n 0, 1) := by decide +kernel
theorem dX2_readPipe_80 : decode cX2_readPipe 80 = .ok (.getfield 19, 3) := by decide +kernel
theorem dX2_readPipe_83 : decode cX2_readPipe 83 = .ok (.iconst 2, 1) := by decide +kernel
theorem dX2_readPipe_84 : decode cX2_readPipe 84 = .ok (.iadd, 1) := by decide +kernel
theorem dX2_readPipe_85 : decode cX2_readPipe 85 = .ok (.ireturn, 1) := by decide +kernel
theorem dX2_readPipe_86 : decode cX2_readPipe 86 = .ok (.aload_n 1, 1) := by decide +kernel
theorem dX2_readPipe_87 : decode cX2_readPipe 87 = .ok (.iload_n 2, 1) := by decide +kernel
theorem dX2_readPipe_88 : decode cX2_readPipe 88 = .ok (.iload_n 3, 1) := by decide +kernel
theorem dX2_readPipe_89 : decode cX2_readPipe 89 = .ok (.ifCond .ne 8, 3) := by decide +kernel
theorem dX2_readPipe_92 : decode cX2_readPipe 92 = .ok (.bipush (-9), 2) := by decide +kernel
theorem dX2_readPipe_94 : decode cX2_readPipe 94 = .ok (.goto 6, 3) := by decide +kernel
theorem dX2_readPipe_97 : decode cX2_readPipe 97 = .ok (.iload_n 3, 1) := by decide +kernel
theorem dX2_readPipe_98 : decode cX2_readPipe 98 = .ok (.iconst 1, 1) := by decide +kernel
theorem dX2_readPipe_99 : decode cX2_readPipe 99 = .ok (.isub, 1) := by decide +kernel
theorem dX2_readPipe_100 : decode cX2_readPipe 100 = .ok (.iload 4, 2) := by decide +kernel
theorem dX2_readPipe_102 : decode cX2_readPipe 102 = .ok (.invokevirtual 53, 3) := by decide +kernel
theorem dX2_readPipe_105 : decode cX2_readPipe 105 = .ok (.aload_n 0, 1) := by decide +kernel
theorem dX2_readPipe_106 : decode cX2_readPipe 106 = .ok (.dup, 1) := by decide +kernel
theorem dX2_readPipe_107 : decode cX2_readPipe 107 = .ok (.getfield 19, 3) := by decide +kernel
theorem dX2_readPipe_110 : decode cX2_readPipe 110 = .ok (.iconst 3, 1) := by decide +kernel
theorem dX2_readPipe_111 : decode cX2_readPipe 111 = .ok (.iadd, 1) := by decide +kernel
theorem dX2_readPipe_112 : decode cX2_readPipe 112 = .ok (.putfield 19, 3) := by decide +kernel
theorem dX2_readPipe_115 : decode cX2_readPipe 115 = .ok (.bipush (-9), 2) := by decide +kernel
theorem dX2_readPipe_117 : decode cX2_readPipe 117 = .ok (.ireturn, 1) := by decide +kernel
theorem dX2_passBlanks_0 : decode cX2_passBlanks 0 = .ok (.iconst 0, 1) := by decide +kernel
theorem dX2_passBlanks_1 : decode cX2_passBlanks 1 = .ok (.istore_n 1, 1) := by decide +kernel
theorem dX2_passBlanks_2 : decode cX2_passBlanks 2 = .ok (.iload_n 1, 1) := by decide +kernel
theorem dX2_passBlanks_3 : decode cX2_passBlanks 3 = .ok (.bipush 60, 2) := by decide +kernel
theorem dX2_passBlanks_5 : decode cX2_passBlanks 5 = .ok (.if_icmp .ge 32, 3) := by decide +kernel
theorem dX2_passBlanks_8 : decode cX2_passBlanks 8 = .ok (.aload_n 0, 1) := by decide +kernel
theorem dX2_passBlanks_9 : decode cX2_passBlanks 9 = .ok (.aload_n 0, 1) := by decide +kernel
theorem dX2_passBlanks_10 : decode cX2_passBlanks 10 = .ok (.getfield 19, 3) := by decide +kernel
theorem dX2_passBlanks_13 : decode cX2_passBlanks 13 = .ok (.invokevirtual 38, 3) := by decide +kernel
theorem dX2_passBlanks_16 : decode cX2_passBlanks 16 = .ok (.bipush 32, 2) := by decide +kernel
theorem dX2_passBlanks_18 : decode cX2_passBlanks 18 = .ok (.if_icmp .ne 19, 3) := by decide +kernel
theorem dX2_passBlanks_21 : decode cX2_passBlanks 21 = .ok (.aload_n 0, 1) := by decide +kernel
theorem dX2_passBlanks_22 : decode cX2_passBlanks 22 = .ok (.dup, 1) := by decide +kernel
theorem dX2_passBlanks_23 : decode cX2_passBlanks 23 = .ok (.getfield 19, 3) := by decide +kernel
theorem dX2_passBlanks_26 : decode cX2_passBlanks 26 = .ok (.iconst 1, 1) := by decide +kernel
theorem dX2_passBlanks_27 : decode cX2_passBlanks 27 = .ok (.iadd, 1) := by decide +kernel
theorem dX2_passBlanks_28 : decode cX2_passBlanks 28 = .ok (.putfield 19, 3) := by decide +kernel
theorem dX2_passBlanks_31 : decode cX2_passBlanks 31 = .ok (.iinc 1 1, 3) := by decide +kernel
theorem dX2_passBlanks_34 : decode cX2_passBlanks 34 = .ok (.goto (-32), 3) := by decide +kernel
theorem dX2_passBlanks_37 : decode cX2_passBlanks 37 = .ok (.return_, 1) := by decide +kernel
theorem dX2_figureAt_0 : decode cX2_figureAt 0 = .ok (.aload_n 0, 1) := by decide +kernel
theorem dX2_figureAt_1 : decode cX2_figureAt 1 = .ok (.iload_n 1, 1) := by decide +kernel
theorem dX2_figureAt_2 : decode cX2_figureAt 2 = .ok (.invokevirtual 38, 3) := by decide +kernel
theorem dX2_figureAt_5 : decode cX2_figureAt 5 = .ok (.istore_n 2, 1) := by decide +kernel
theorem dX2_figureAt_6 : decode cX2_figureAt 6 = .ok (.iload_n 2, 1) := by decide +kernel
theorem dX2_figureAt_7 : decode cX2_figureAt 7 = .ok (.bipush 48, 2) := by decide +kernel
theorem dX2_figureAt_9 : decode cX2_figureAt 9 = .ok (.if_icmp .lt 16, 3) := by decide +kernel
theorem dX2_figureAt_12 : decode cX2_figureAt 12 = .ok (.iload_n 2, 1) := by decide +kernel
theorem dX2_figureAt_13 : decode cX2_figureAt 13 = .ok (.bipush 57, 2) := by decide +kernel
theorem dX2_figureAt_15 : decode cX2_figureAt 15 = .ok (.if_icmp .gt 10, 3) := by decide +kernel
theorem dX2_figureAt_18 : decode cX2_figureAt 18 = .ok (.iload_n 2, 1) := by decide +kernel
theorem dX2_figureAt_19 : decode cX2_figureAt 19 = .ok (.bipush 48, 2) := by decide +kernel
theorem dX2_figureAt_21 : decode cX2_figureAt 21 = .ok (.isub, 1) := by decide +kernel
theorem dX2_figureAt_22 : decode cX2_figureAt 22 = .ok (.goto 5, 3) := by decide +kernel
theorem dX2_figureAt_25 : decode cX2_figureAt 25 = .ok (.bipush (-9), 2) := by decide +kernel
theorem dX2_figureAt_27 : decode cX2_figureAt 27 = .ok (.ireturn, 1) := by decide +kernel
theorem dX2_signAt_0 : decode cX2_signAt 0 = .ok (.aload_n 0, 1) := by decide +kernel
theorem dX2_signAt_1 : decode cX2_signAt 1 = .ok (.getfield 9, 3) := by decide +kernel
theorem dX2_signAt_4 : decode cX2_signAt 4 = .ok (.ifnull 24, 3) := by decide +kernel
theorem dX2_signAt_7 : decode cX2_signAt 7 = .ok (.iload_n 1, 1) := by decide +kernel
theorem dX2_signAt_8 : decode cX2_signAt 8 = .ok (.ifCond .lt 20, 3) := by decide +kernel
theorem dX2_signAt_11 : decode cX2_signAt 11 = .ok (.iload_n 1, 1) := by decide +kernel
theorem dX2_signAt_12 : decode cX2_signAt 12 = .ok (.aload_n 0, 1) := by decide +kernel
theorem dX2_signAt_13 : decode cX2_signAt 13 = .ok (.getfield 15, 3) := by decide +kernel
theorem dX2_signAt_16 : decode cX2_signAt 16 = .ok (.if_icmp .ge 12, 3) := by decide +kernel
theorem dX2_signAt_19 : decode cX2_signAt 19 = .ok (.iload_n 1, 1) := by decide +kernel
theorem dX2_signAt_20 : decode cX2_signAt 20 = .ok (.aload_n 0, 1) := by decide +kernel
theorem dX2_signAt_21 : decode cX2_signAt 21 = .ok (.getfield 9, 3) := by decide +kernel
theorem dX2_signAt_24 : decode cX2_signAt 24 = .ok (.arraylength, 1) := by decide +kernel
theorem dX2_signAt_25 : decode cX2_signAt 25 = .ok (.if_icmp .lt 7, 3) := by decide +kernel
theorem dX2_signAt_28 : decode cX2_signAt 28 = .ok (.sipush 1000, 3) := by decide +kernel
theorem dX2_signAt_31 : decode cX2_signAt 31 = .ok (.ireturn, 1) := by decide +kernel
theorem dX2_signAt_32 : decode cX2_signAt 32 = .ok (.aload_n 0, 1) := by decide +kernel
theorem dX2_signAt_33 : decode cX2_signAt 33 = .ok (.getfield 9, 3) := by decide +kernel
theorem dX2_signAt_36 : decode cX2_signAt 36 = .ok (.iload_n 1, 1) := by decide +kernel
theorem dX2_signAt_37 : decode cX2_signAt 37 = .ok (.baload, 1) := by decide +kernel
theorem dX2_signAt_38 : decode cX2_signAt 38 = .ok (.ireturn, 1) := by decide +kernel
theorem dX3_init_0 : decode cX3_init 0 = .ok (.aload_n 0, 1) := by decide +kernel
theorem dX3_init_1 : decode cX3_init 1 = .ok (.invokespecial 1, 3) := by decide +kernel
theorem dX3_init_4 : decode cX3_init 4 = .ok (.aload_n 0, 1) := by decide +kernel
theorem dX3_init_5 : decode cX3_init 5 = .ok (.iconst 0, 1) := by decide +kernel
theorem dX3_init_6 : decode cX3_init 6 = .ok (.putfield 7, 3) := by decide +kernel
theorem dX3_init_9 : decode cX3_init 9 = .ok (.aload_n 0, 1) := by decide +kernel
theorem dX3_init_10 : decode cX3_init 10 = .ok (.iconst 0, 1) := by decide +kernel
theorem dX3_init_11 : decode cX3_init 11 = .ok (.putfield 13, 3) := by decide +kernel
theorem dX3_init_14 : decode cX3_init 14 = .ok (.aload_n 0, 1) := by decide +kernel
theorem dX3_init_15 : decode cX3_init 15 = .ok (.iconst 0, 1) := by decide +kernel
theorem dX3_init_16 : decode cX3_init 16 = .ok (.putfield 16, 3) := by decide +kernel
theorem dX3_init_19 : decode cX3_init 19 = .ok (.aload_n 0, 1) := by decide +kernel
theorem dX3_init_20 : decode cX3_init 20 = .ok (.iconst 0, 1) := by decide +kernel
theorem dX3_init_21 : decode cX3_init 21 = .ok (.putfield 19, 3) := by decide +kernel
theorem dX3_init_24 : decode cX3_init 24 = .ok (.aload_n 0, 1) := by decide +kernel
theorem dX3_init_25 : decode cX3_init 25 = .ok (.iconst 0, 1) := by decide +kernel
theorem dX3_init_26 : decode cX3_init 26 = .ok (.putfield 22, 3) := by decide +kernel
theorem dX3_init_29 : decode cX3_init 29 = .ok (.aload_n 0, 1) := by decide +kernel
theorem dX3_init_30 : decode cX3_init 30 = .ok (.iconst 0, 1) := by decide +kernel
theorem dX3_init_31 : decode cX3_init 31 = .ok (.putfield 25, 3) := by decide +kernel
theorem dX3_init_34 : decode cX3_init 34 = .ok (.aload_n 0, 1) := by decide +kernel
theorem dX3_init_35 : decode cX3_init 35 = .ok (.iconst 0, 1) := by decide +kernel
theorem dX3_init_36 : decode cX3_init 36 = .ok (.putfield 28, 3) := by decide +kernel
theorem dX3_init_39 : decode cX3_init 39 = .ok (.aload_n 0, 1) := by decide +kernel
theorem dX3_init_40 : decode cX3_init 40 = .ok (.iconst 0, 1) := by decide +kernel
theorem dX3_init_41 : decode cX3_init 41 = .ok (.putfield 31, 3) := by decide +kernel
theorem dX3_init_44 : decode cX3_init 44 = .ok (.aload_n 0, 1) := by decide +kernel
theorem dX3_init_45 : decode cX3_init 45 = .ok (.bipush 6, 2) := by decide +kernel
theorem dX3_init_47 : decode cX3_init 47 = .ok (.newarray .int, 2) := by decide +kernel
theorem dX3_init_49 : decode cX3_init 49 = .ok (.putfield 34, 3) := by decide +kernel
theorem dX3_init_52 : decode cX3_init 52 = .ok (.aload_n 0, 1) := by decide +kernel
theorem dX3_init_53 : decode cX3_init 53 = .ok (.bipush 6, 2) := by decide +kernel
theorem dX3_init_55 : decode cX3_init 55 = .ok (.newarray .int, 2) := by decide +kernel
theorem dX3_init_57 : decode cX3_init 57 = .ok (.putfield 38, 3) := by decide +kernel
theorem dX3_init_60 : decode cX3_init 60 = .ok (.aload_n 0, 1) := by decide +kernel
theorem dX3_init_61 : decode cX3_init 61 = .ok (.bipush 6, 2) := by decide +kernel
theorem dX3_init_63 : decode cX3_init 63 = .ok (.newarray .int, 2) := by decide +kernel
theorem dX3_init_65 : decode cX3_init 65 = .ok (.putfield 41, 3) := by decide +kernel
theorem dX3_init_68 : decode cX3_init 68 = .ok (.aload_n 0, 1) := by decide +kernel
theorem dX3_init_69 : decode cX3_init 69 = .ok (.bipush 6, 2) := by decide +kernel
theorem dX3_init_71 : decode cX3_init 71 = .ok (.newarray .int, 2) := by decide +kernel
theorem dX3_init_73 : decode cX3_init 73 = .ok (.putfield 44, 3) := by decide +kernel
theorem dX3_init_76 : decode cX3_init 76 = .ok (.aload_n 0, 1) := by decide +kernel
theorem dX3_init_77 : decode cX3_init 77 = .ok (.bipush 6, 2) := by decide +kernel
theorem dX3_init_79 : decode cX3_init 79 = .ok (.newarray .int, 2) := by decide +kernel
theorem dX3_init_81 : decode cX3_init 81 = .ok (.putfield 47, 3) := by decide +kernel
theorem dX3_init_84 : decode cX3_init 84 = .ok (.return_, 1) := by decide +kernel
theorem dX3_isIn_0 : decode cX3_isIn 0 = .ok (.iload_n 0, 1) := by decide +kernel
theorem dX3_isIn_1 : decode cX3_isIn 1 = .ok (.iload_n 1, 1) := by decide +kernel
theorem dX3_isIn_2 : decode cX3_isIn 2 = .ok (.ishr, 1) := by decide +kernel
theorem dX3_isIn_3 : decode cX3_isIn 3 = .ok (.iconst 1, 1) := by decide +kernel
theorem dX3_isIn_4 : decode cX3_isIn 4 = .ok (.iand, 1) := by decide +kernel
theorem dX3_isIn_5 : decode cX3_isIn 5 = .ok (.iconst 1, 1) := by decide +kernel
theorem dX3_isIn_6 : decode cX3_isIn 6 = .ok (.if_icmp .ne 7, 3) := by decide +kernel
theorem dX3_isIn_9 : decode cX3_isIn 9 = .ok (.iconst 1, 1) := by decide +kernel
theorem dX3_isIn_10 : decode cX3_isIn 10 = .ok (.goto 4, 3) := by decide +kernel
theorem dX3_isIn_13 : decode cX3_isIn 13 = .ok (.iconst 0, 1) := by decide +kernel
theorem dX3_isIn_14 : decode cX3_isIn 14 = .ok (.ireturn, 1) := by decide +kernel
theorem dX3_hasPipe_0 : decode cX3_hasPipe 0 = .ok (.iload_n 1, 1) := by decide +kernel
theorem dX3_hasPipe_1 : decode cX3_hasPipe 1 = .ok (.ifCond .lt 15, 3) := by decide +kernel
theorem dX3_hasPipe_4 : decode cX3_hasPipe 4 = .ok (.iload_n 1, 1) := by decide +kernel
theorem dX3_hasPipe_5 : decode cX3_hasPipe 5 = .ok (.aload_n 0, 1) := by decide +kernel
theorem dX3_hasPipe_6 : decode cX3_hasPipe 6 = .ok (.getfield 7, 3) := by decide +kernel
theorem dX3_hasPipe_9 : decode cX3_hasPipe 9 = .ok (.if_icmp .ge 7, 3) := by decide +kernel
theorem dX3_hasPipe_12 : decode cX3_hasPipe 12 = .ok (.iconst 1, 1) := by decide +kernel
theorem dX3_hasPipe_13 : decode cX3_hasPipe 13 = .ok (.goto 4, 3) := by decide +kernel
theorem dX3_hasPipe_16 : decode cX3_hasPipe 16 = .ok (.iconst 0, 1) := by decide +kernel
theorem dX3_hasPipe_17 : decode cX3_hasPipe 17 = .ok (.ireturn, 1) := by decide +kernel
theorem dX3_allPipes_0 : decode cX3_allPipes 0 = .ok (.iconst 1, 1) := by decide +kernel
theorem dX3_allPipes_1 : decode cX3_allPipes 1 = .ok (.aload_n 0, 1) := by decide +kernel
theorem dX3_allPipes_2 : decode cX3_allPipes 2 = .ok (.getfield 7, 3) := by decide +kernel
theorem dX3_allPipes_5 : decode cX3_allPipes 5 = .ok (.ishl, 1) := by decide +kernel
theorem dX3_allPipes_6 : decode cX3_allPipes 6 = .ok (.iconst 1, 1) := by decide +kernel
theorem dX3_allPipes_7 : decode cX3_allPipes 7 = .ok (.isub, 1) := by decide +kernel
theorem dX3_allPipes_8 : decode cX3_allPipes 8 = .ok (.ireturn, 1) := by decide +kernel
theorem dX3_isSet_0 : decode cX3_isSet 0 = .ok (.iload_n 1, 1) := by decide +kernel
theorem dX3_isSet_1 : decode cX3_isSet 1 = .ok (.aload_n 0, 1) := by decide +kernel
theorem dX3_isSet_2 : decode cX3_isSet 2 = .ok (.invokevirtual 50, 3) := by decide +kernel
theorem dX3_isSet_5 : decode cX3_isSet 5 = .ok (.iconst (-1), 1) := by decide +kernel
theorem dX3_isSet_6 : decode cX3_isSet 6 = .ok (.ixor, 1) := by decide +kernel
theorem dX3_isSet_7 : decode cX3_isSet 7 = .ok (.iand, 1) := by decide +kernel
theorem dX3_isSet_8 : decode cX3_isSet 8 = .ok (.ifCond .ne 7, 3) := by decide +kernel
theorem dX3_isSet_11 : decode cX3_isSet 11 = .ok (.iconst 1, 1) := by decide +kernel
theorem dX3_isSet_12 : decode cX3_isSet 12 = .ok (.goto 4, 3) := by decide +kernel
theorem dX3_isSet_15 : decode cX3_isSet 15 = .ok (.iconst 0, 1) := by decide +kernel
theorem dX3_isSet_16 : decode cX3_isSet 16 = .ok (.ireturn, 1) := by decide +kernel
theorem dX3_found_0 : decode cX3_found 0 = .ok (.aload_n 0, 1) := by decide +kernel
theorem dX3_found_1 : decode cX3_found 1 = .ok (.iconst 0, 1) := by decide +kernel
theorem dX3_found_2 : decode cX3_found 2 = .ok (.putfield 7, 3) := by decide +kernel
theorem dX3_found_5 : decode cX3_found 5 = .ok (.aload_n 0, 1) := by decide +kernel
theorem dX3_found_6 : decode cX3_found 6 = .ok (.iload_n 1, 1) := by decide +kernel
theorem dX3_found_7 : decode cX3_found 7 = .ok (.putfield 13, 3) := by decide +kernel
theorem dX3_found_10 : decode cX3_found 10 = .ok (.aload_n 0, 1) := by decide +kernel
theorem dX3_found_11 : decode cX3_found 11 = .ok (.iload_n 2, 1) := by decide +kernel
theorem dX3_found_12 : decode cX3_found 12 = .ok (.putfield 16, 3) := by decide +kernel
theorem dX3_found_15 : decode cX3_found 15 = .ok (.aload_n 0, 1) := by decide +kernel
theorem dX3_found_16 : decode cX3_found 16 = .ok (.invokevirtual 54, 3) := by decide +kernel
theorem dX3_found_19 : decode cX3_found 19 = .ok (.return_, 1) := by decide +kernel
theorem dX3_join_0 : decode cX3_join 0 = .ok (.aload_n 0, 1) := by decide +kernel
theorem dX3_join_1 : decode cX3_join 1 = .ok (.getfield 7, 3) := by decide +kernel
theorem dX3_join_4 : decode cX3_join 4 = .ok (.bipush 6, 2) := by decide +kernel
theorem dX3_join_6 : decode cX3_join 6 = .ok (.if_icmp .ge 43, 3) := by decide +kernel
theorem dX3_join_9 : decode cX3_join 9 = .ok (.aload_n 0, 1) := by decide +kernel
theorem dX3_join_10 : decode cX3_join 10 = .ok (.getfield 34, 3) := by decide +kernel
theorem dX3_join_13 : decode cX3_join 13 = .ok (.aload_n 0, 1) := by decide +kernel
theorem dX3_join_14 : decode cX3_join 14 = .ok (.getfield 7, 3) := by decide +kernel
theorem dX3_join_17 : decode cX3_join 17 = .ok (.iload_n 1, 1) := by decide +kernel
theorem dX3_join_18 : decode cX3_join 18 = .ok (.iastore, 1) := by decide +kernel
theorem dX3_join_19 : decode cX3_join 19 = .ok (.aload_n 0, 1) := by decide +kernel
theorem dX3_join_20 : decode cX3_join 20 = .ok (.getfield 38, 3) := by decide +kernel
theorem dX3_join_23 : decode cX3_join 23 = .ok (.aload_n 0, 1) := by decide +kernel
theorem dX3_join_24 : decode cX3_join 24 = .ok (.getfield 7, 3) := by decide +kernel
theorem dX3_join_27 : decode cX3_join 27 = .ok (.iload_n 2, 1) := by decide +kernel
theorem dX3_join_28 : decode cX3_join 28 = .ok (.iastore, 1) := by decide +kernel
theorem dX3_join_29 : decode cX3_join 29 = .ok (.aload_n 0, 1) := by decide +kernel
theorem dX3_join_30 : decode cX3_join 30 = .ok (.getfield 41, 3) := by decide +kernel
theorem dX3_join_33 : decode cX3_join 33 = .ok (.aload_n 0, 1) := by decide +kernel
theorem dX3_join_34 : decode cX3_join 34 = .ok (.getfield 7, 3) := by decide +kernel
theorem dX3_join_37 : decode cX3_join 37 = .ok (.iload_n 3, 1) := by decide +kernel
theorem dX3_join_38 : decode cX3_join 38 = .ok (.iastore, 1) := by decide +kernel
theorem dX3_join_39 : decode cX3_join 39 = .ok (.aload_n 0, 1) := by decide +kernel
theorem dX3_join_40 : decode cX3_join 40 = .ok (.dup, 1) := by decide +kernel
theorem dX3_join_41 : decode cX3_join 41 = .ok (.getfield 7, 3) := by decide +kernel
theorem dX3_join_44 : decode cX3_join 44 = .ok (.iconst 1, 1) := by decide +kernel
theorem dX3_join_45 : decode cX3_join 45 = .ok (.iadd, 1) := by decide +kernel
theorem dX3_join_46 : decode cX3_join 46 = .ok (.putfield 7, 3) := by decide +kernel
theorem dX3_join_49 : decode cX3_join 49 = .ok (.return_, 1) := by decide +kernel
theorem dX3_become_0 : decode cX3_become 0 = .ok (.aload_n 0, 1) := by decide +kernel
theorem dX3_become_1 : decode cX3_become 1 = .ok (.aload_n 1, 1) := by decide +kernel
theorem dX3_become_2 : decode cX3_become 2 = .ok (.getfield 7, 3) := by decide +kernel
theorem dX3_become_5 : decode cX3_become 5 = .ok (.putfield 7, 3) := by decide +kernel
theorem dX3_become_8 : decode cX3_become 8 = .ok (.aload_n 0, 1) := by decide +kernel
theorem dX3_become_9 : decode cX3_become 9 = .ok (.aload_n 1, 1) := by decide +kernel
theorem dX3_become_10 : decode cX3_become 10 = .ok (.getfield 13, 3) := by decide +kernel
theorem dX3_become_13 : decode cX3_become 13 = .ok (.putfield 13, 3) := by decide +kernel
theorem dX3_become_16 : decode cX3_become 16 = .ok (.aload_n 0, 1) := by decide +kernel
theorem dX3_become_17 : decode cX3_become 17 = .ok (.aload_n 1, 1) := by decide +kernel
theorem dX3_become_18 : decode cX3_become 18 = .ok (.getfield 16, 3) := by decide +kernel
theorem dX3_become_21 : decode cX3_become 21 = .ok (.putfield 16, 3) := by decide +kernel
theorem dX3_become_24 : decode cX3_become 24 = .ok (.aload_n 0, 1) := by decide +kernel
theorem dX3_become_25 : decode cX3_become 25 = .ok (.aload_n 1, 1) := by decide +kernel
theorem dX3_become_26 : decode cX3_become 26 = .ok (.getfield 19, 3) := by decide +kernel
theorem dX3_become_29 : decode cX3_become 29 = .ok (.putfield 19, 3) := by decide +kernel
theorem dX3_become_32 : decode cX3_become 32 = .ok (.aload_n 0, 1) := by decide +kernel
theorem dX3_become_33 : decode cX3_become 33 = .ok (.aload_n 1, 1) := by decide +kernel
theorem dX3_become_34 : decode cX3_become 34 = .ok (.getfield 22, 3) := by decide +kernel
theorem dX3_become_37 : decode cX3_become 37 = .ok (.putfield 22, 3) := by decide +kernel
theorem dX3_become_40 : decode cX3_become 40 = .ok (.aload_n 0, 1) := by decide +kernel
theorem dX3_become_41 : decode cX3_become 41 = .ok (.aload_n 1, 1) := by decide +kernel
theorem dX3_become_42 : decode cX3_become 42 = .ok (.getfield 25, 3) := by decide +kernel
theorem dX3_become_45 : decode cX3_become 45 = .ok (.putfield 25, 3) := by decide +kernel
theorem dX3_become_48 : decode cX3_become 48 = .ok (.aload_n 0, 1) := by decide +kernel
theorem dX3_become_49 : decode cX3_become 49 = .ok (.aload_n 1, 1) := by decide +kernel
theorem dX3_become_50 : decode cX3_become 50 = .ok (.getfield 28, 3) := by decide +kernel
theorem dX3_become_53 : decode cX3_become 53 = .ok (.putfield 28, 3) := by decide +kernel
theorem dX3_become_56 : decode cX3_become 56 = .ok (.aload_n 0, 1) := by decide +kernel
theorem dX3_become_57 : decode cX3_become 57 = .ok (.aload_n 1, 1) := by decide +kernel
theorem dX3_become_58 : decode cX3_become 58 = .ok (.getfield 31, 3) := by decide +kernel
theorem dX3_become_61 : decode cX3_become 61 = .ok (.putfield 31, 3) := by decide +kernel
theorem dX3_become_64 : decode cX3_become 64 = .ok (.iconst 0, 1) := by decide +kernel
theorem dX3_become_65 : decode cX3_become 65 = .ok (.istore_n 2, 1) := by decide +kernel
theorem dX3_become_66 : decode cX3_become 66 = .ok (.iload_n 2, 1) := by decide +kernel
theorem dX3_become_67 : decode cX3_become 67 = .ok (.bipush 6, 2) := by decide +kernel
theorem dX3_become_69 : decode cX3_become 69 = .ok (.if_icmp .ge 69, 3) := by decide +kernel
theorem dX3_become_72 : decode cX3_become 72 = .ok (.aload_n 0, 1) := by decide +kernel
theorem dX3_become_73 : decode cX3_become 73 = .ok (.getfield 34, 3) := by decide +kernel
theorem dX3_become_76 : decode cX3_become 76 = .ok (.iload_n 2, 1) := by decide +kernel
theorem dX3_become_77 : decode cX3_become 77 = .ok (.aload_n 1, 1) := by decide +kernel
theorem dX3_become_78 : decode cX3_become 78 = .ok (.getfield 34, 3) := by decide +kernel
theorem dX3_become_81 : decode cX3_become 81 = .ok (.iload_n 2, 1) := by decide +kernel
theorem dX3_become_82 : decode cX3_become 82 = .ok (.iaload, 1) := by decide +kernel
theorem dX3_become_83 : decode cX3_become 83 = .ok (.iastore, 1) := by decide +kernel
theorem dX3_become_84 : decode cX3_become 84 = .ok (.aload_n 0, 1) := by decide +kernel
theorem dX3_become_85 : decode cX3_become 85 = .ok (.getfield 38, 3) := by decide +kernel
theorem dX3_become_88 : decode cX3_become 88 = .ok (.iload_n 2, 1) := by decide +kernel
theorem dX3_become_89 : decode cX3_become 89 = .ok (.aload_n 1, 1) := by decide +kernel
theorem dX3_become_90 : decode cX3_become 90 = .ok (.getfield 38, 3) := by decide +kernel
theorem dX3_become_93 : decode cX3_become 93 = .ok (.iload_n 2, 1) := by decide +kernel
theorem dX3_become_94 : decode cX3_become 94 = .ok (.iaload, 1) := by decide +kernel
theorem dX3_become_95 : decode cX3_become 95 = .ok (.iastore, 1) := by decide +kernel
theorem dX3_become_96 : decode cX3_become 96 = .ok (.aload_n 0, 1) := by decide +kernel
theorem dX3_become_97 : decode cX3_become 97 = .ok (.getfield 41, 3) := by decide +kernel
theorem dX3_become_100 : decode cX3_become 100 = .ok (.iload_n 2, 1) := by decide +kernel
theorem dX3_become_101 : decode cX3_become 101 = .ok (.aload_n 1, 1) := by decide +kernel
theorem dX3_become_102 : decode cX3_become 102 = .ok (.getfield 41, 3) := by decide +kernel
theorem dX3_become_105 : decode cX3_become 105 = .ok (.iload_n 2, 1) := by decide +kernel
theorem dX3_become_106 : decode cX3_become 106 = .ok (.iaload, 1) := by decide +kernel
theorem dX3_become_107 : decode cX3_become 107 = .ok (.iastore, 1) := by decide +kernel
theorem dX3_become_108 : decode cX3_become 108 = .ok (.aload_n 0, 1) := by decide +kernel
theorem dX3_become_109 : decode cX3_become 109 = .ok (.getfield 44, 3) := by decide +kernel
theorem dX3_become_112 : decode cX3_become 112 = .ok (.iload_n 2, 1) := by decide +kernel
theorem dX3_become_113 : decode cX3_become 113 = .ok (.aload_n 1, 1) := by decide +kernel
theorem dX3_become_114 : decode cX3_become 114 = .ok (.getfield 44, 3) := by decide +kernel
theorem dX3_become_117 : decode cX3_become 117 = .ok (.iload_n 2, 1) := by decide +kernel
theorem dX3_become_118 : decode cX3_become 118 = .ok (.iaload, 1) := by decide +kernel
theorem dX3_become_119 : decode cX3_become 119 = .ok (.iastore, 1) := by decide +kernel
theorem dX3_become_120 : decode cX3_become 120 = .ok (.aload_n 0, 1) := by decide +kernel
theorem dX3_become_121 : decode cX3_become 121 = .ok (.getfield 47, 3) := by decide +kernel
theorem dX3_become_124 : decode cX3_become 124 = .ok (.iload_n 2, 1) := by decide +kernel
theorem dX3_become_125 : decode cX3_become 125 = .ok (.aload_n 1, 1) := by decide +kernel
theorem dX3_become_126 : decode cX3_become 126 = .ok (.getfield 47, 3) := by decide +kernel
theorem dX3_become_129 : decode cX3_become 129 = .ok (.iload_n 2, 1) := by decide +kernel
theorem dX3_become_130 : decode cX3_become 130 = .ok (.iaload, 1) := by decide +kernel
theorem dX3_become_131 : decode cX3_become 131 = .ok (.iastore, 1) := by decide +kernel
theorem dX3_become_132 : decode cX3_become 132 = .ok (.iinc 2 1, 3) := by decide +kernel
theorem dX3_become_135 : decode cX3_become 135 = .ok (.goto (-69), 3) := by decide +kernel
theorem dX3_become_138 : decode cX3_become 138 = .ok (.return_, 1) := by decide +kernel
theorem dX3_relive_0 : decode cX3_relive 0 = .ok (.aload_n 0, 1) := by decide +kernel
theorem dX3_relive_1 : decode cX3_relive 1 = .ok (.invokevirtual 54, 3) := by decide +kernel
theorem dX3_relive_4 : decode cX3_relive 4 = .ok (.iconst 0, 1) := by decide +kernel
theorem dX3_relive_5 : decode cX3_relive 5 = .ok (.istore_n 2, 1) := by decide +kernel
theorem dX3_relive_6 : decode cX3_relive 6 = .ok (.iload_n 2, 1) := by decide +kernel
theorem dX3_relive_7 : decode cX3_relive 7 = .ok (.aload_n 1, 1) := by decide +kernel
theorem dX3_relive_8 : decode cX3_relive 8 = .ok (.getfield 57, 3) := by decide +kernel
theorem dX3_relive_11 : decode cX3_relive 11 = .ok (.if_icmp .ge 32, 3) := by decide +kernel
theorem dX3_relive_14 : decode cX3_relive 14 = .ok (.iload_n 2, 1) := by decide +kernel
theorem dX3_relive_15 : decode cX3_relive 15 = .ok (.bipush 40, 2) := by decide +kernel
theorem dX3_relive_17 : decode cX3_relive 17 = .ok (.if_icmp .ge 26, 3) := by decide +kernel
theorem dX3_relive_20 : decode cX3_relive 20 = .ok (.aload_n 0, 1) := by decide +kernel
theorem dX3_relive_21 : decode cX3_relive 21 = .ok (.aload_n 1, 1) := by decide +kernel
theorem dX3_relive_22 : decode cX3_relive 22 = .ok (.getfield 62, 3) := by decide +kernel
theorem dX3_relive_25 : decode cX3_relive 25 = .ok (.iload_n 2, 1) := by decide +kernel
theorem dX3_relive_26 : decode cX3_relive 26 = .ok (.iaload, 1) := by decide +kernel
theorem dX3_relive_27 : decode cX3_relive 27 = .ok (.aload_n 1, 1) := by decide +kernel
theorem dX3_relive_28 : decode cX3_relive 28 = .ok (.getfield 65, 3) := by decide +kernel
theorem dX3_relive_31 : decode cX3_relive 31 = .ok (.iload_n 2, 1) := by decide +kernel
theorem dX3_relive_32 : decode cX3_relive 32 = .ok (.iaload, 1) := by decide +kernel
theorem dX3_relive_33 : decode cX3_relive 33 = .ok (.invokevirtual 68, 3) := by decide +kernel
theorem dX3_relive_36 : decode cX3_relive 36 = .ok (.pop, 1) := by decide +kernel
theorem dX3_relive_37 : decode cX3_relive 37 = .ok (.iinc 2 1, 3) := by decide +kernel
theorem dX3_relive_40 : decode cX3_relive 40 = .ok (.goto (-34), 3) := by decide +kernel
theorem dX3_relive_43 : decode cX3_relive 43 = .ok (.return_, 1) := by decide +kernel
theorem dX3_restart_0 : decode cX3_restart 0 = .ok (.aload_n 0, 1) := by decide +kernel
theorem dX3_restart_1 : decode cX3_restart 1 = .ok (.aload_n 0, 1) := by decide +kernel
theorem dX3_restart_2 : decode cX3_restart 2 = .ok (.getfield 13, 3) := by decide +kernel
theorem dX3_restart_5 : decode cX3_restart 5 = .ok (.putfield 19, 3) := by decide +kernel
theorem dX3_restart_8 : decode cX3_restart 8 = .ok (.aload_n 0, 1) := by decide +kernel
theorem dX3_restart_9 : decode cX3_restart 9 = .ok (.aload_n 0, 1) := by decide +kernel
theorem dX3_restart_10 : decode cX3_restart 10 = .ok (.getfield 16, 3) := by decide +kernel
theorem dX3_restart_13 : decode cX3_restart 13 = .ok (.putfield 22, 3) := by decide +kernel
theorem dX3_restart_16 : decode cX3_restart 16 = .ok (.aload_n 0, 1) := by decide +kernel
theorem dX3_restart_17 : decode cX3_restart 17 = .ok (.iconst 0, 1) := by decide +kernel
theorem dX3_restart_18 : decode cX3_restart 18 = .ok (.putfield 25, 3) := by decide +kernel
theorem dX3_restart_21 : decode cX3_restart 21 = .ok (.aload_n 0, 1) := by decide +kernel
theorem dX3_restart_22 : decode cX3_restart 22 = .ok (.iconst 0, 1) := by decide +kernel
theorem dX3_restart_23 : decode cX3_restart 23 = .ok (.putfield 28, 3) := by decide +kernel
theorem dX3_restart_26 : decode cX3_restart 26 = .ok (.aload_n 0, 1) := by decide +kernel
theorem dX3_restart_27 : decode cX3_restart 27 = .ok (.iconst 0, 1) := by decide +kernel
theorem dX3_restart_28 : decode cX3_restart 28 = .ok (.putfield 31, 3) := by decide +kernel
theorem dX3_restart_31 : decode cX3_restart 31 = .ok (.aload_n 0, 1) := by decide +kernel
theorem dX3_restart_32 : decode cX3_restart 32 = .ok (.getfield 44, 3) := by decide +kernel
theorem dX3_restart_35 : decode cX3_restart 35 = .ok (.iconst 0, 1) := by decide +kernel
theorem dX3_restart_36 : decode cX3_restart 36 = .ok (.invokestatic 72, 3) := by decide +kernel
theorem dX3_restart_39 : decode cX3_restart 39 = .ok (.aload_n 0, 1) := by decide +kernel
theorem dX3_restart_40 : decode cX3_restart 40 = .ok (.getfield 47, 3) := by decide +kernel
theorem dX3_restart_43 : decode cX3_restart 43 = .ok (.iconst 0, 1) := by decide +kernel
theorem dX3_restart_44 : decode cX3_restart 44 = .ok (.invokestatic 72, 3) := by decide +kernel
theorem dX3_restart_47 : decode cX3_restart 47 = .ok (.return_, 1) := by decide +kernel
theorem dX3_undergo_0 : decode cX3_undergo 0 = .ok (.iload_n 1, 1) := by decide +kernel
theorem dX3_undergo_1 : decode cX3_undergo 1 = .ok (.tableswitch 102 0 3 #[31, 36, 60, 81], 31) := by decide +kernel
theorem dX3_undergo_32 : decode cX3_undergo 32 = .ok (.aload_n 0, 1) := by decide +kernel
theorem dX3_undergo_33 : decode cX3_undergo 33 = .ok (.invokevirtual 78, 3) := by decide +kernel
theorem dX3_undergo_36 : decode cX3_undergo 36 = .ok (.ireturn, 1) := by decide +kernel
theorem dX3_undergo_37 : decode cX3_undergo 37 = .ok (.aload_n 0, 1) := by decide +kernel
theorem dX3_undergo_38 : decode cX3_undergo 38 = .ok (.iconst 0, 1) := by decide +kernel
theorem dX3_undergo_39 : decode cX3_undergo 39 = .ok (.bipush 60, 2) := by decide +kernel
theorem dX3_undergo_41 : decode cX3_undergo 41 = .ok (.aload_n 0, 1) := by decide +kernel
theorem dX3_undergo_42 : decode cX3_undergo 42 = .ok (.getfield 19, 3) := by decide +kernel
theorem dX3_undergo_45 : decode cX3_undergo 45 = .ok (.iload_n 2, 1) := by decide +kernel
theorem dX3_undergo_46 : decode cX3_undergo 46 = .ok (.iadd, 1) := by decide +kernel
theorem dX3_undergo_47 : decode cX3_undergo 47 = .ok (.invokestatic 81, 3) := by decide +kernel
theorem dX3_undergo_50 : decode cX3_undergo 50 = .ok (.invokestatic 86, 3) := by decide +kernel
theorem dX3_undergo_53 : decode cX3_undergo 53 = .ok (.putfield 19, 3) := by decide +kernel
theorem dX3_undergo_56 : decode cX3_undergo 56 = .ok (.aload_n 0, 1) := by decide +kernel
theorem dX3_undergo_57 : decode cX3_undergo 57 = .ok (.getfield 19, 3) := by decide +kernel
theorem dX3_undergo_60 : decode cX3_undergo 60 = .ok (.ireturn, 1) := by decide +kernel
theorem dX3_undergo_61 : decode cX3_undergo 61 = .ok (.aload_n 0, 1) := by decide +kernel
theorem dX3_undergo_62 : decode cX3_undergo 62 = .ok (.dup, 1) := by decide +kernel
theorem dX3_undergo_63 : decode cX3_undergo 63 = .ok (.getfield 28, 3) := by decide +kernel
theorem dX3_undergo_66 : decode cX3_undergo 66 = .ok (.iconst 1, 1) := by decide +kernel
theorem dX3_undergo_67 : decode cX3_undergo 67 = .ok (.iload_n 2, 1) := by decide +kernel
theorem dX3_undergo_68 : decode cX3_undergo 68 = .ok (.ishl, 1) := by decide +kernel
theorem dX3_undergo_69 : decode cX3_undergo 69 = .ok (.ixor, 1) := by decide +kernel
theorem dX3_undergo_70 : decode cX3_undergo 70 = .ok (.putfield 28, 3) := by decide +kernel
theorem dX3_undergo_73 : decode cX3_undergo 73 = .ok (.aload_n 0, 1) := by decide +kernel
theorem dX3_undergo_74 : decode cX3_undergo 74 = .ok (.getfield 28, 3) := by decide +kernel
theorem dX3_undergo_77 : decode cX3_undergo 77 = .ok (.iload_n 2, 1) := by decide +kernel
theorem dX3_undergo_78 : decode cX3_undergo 78 = .ok (.ishr, 1) := by decide +kernel
theorem dX3_undergo_79 : decode cX3_undergo 79 = .ok (.iconst 1, 1) := by decide +kernel
theorem dX3_undergo_80 : decode cX3_undergo 80 = .ok (.iand, 1) := by decide +kernel
theorem dX3_undergo_81 : decode cX3_undergo 81 = .ok (.ireturn, 1) := by decide +kernel
theorem dX3_undergo_82 : decode cX3_undergo 82 = .ok (.aload_n 0, 1) := by decide +kernel
theorem dX3_undergo_83 : decode cX3_undergo 83 = .ok (.dup, 1) := by decide +kernel
theorem dX3_undergo_84 : decode cX3_undergo 84 = .ok (.getfield 31, 3) := by decide +kernel
theorem dX3_undergo_87 : decode cX3_undergo 87 = .ok (.iconst 1, 1) := by decide +kernel
theorem dX3_undergo_88 : decode cX3_undergo 88 = .ok (.iload_n 2, 1) := by decide +kernel
theorem dX3_undergo_89 : decode cX3_undergo 89 = .ok (.ishl, 1) := by decide +kernel
theorem dX3_undergo_90 : decode cX3_undergo 90 = .ok (.ixor, 1) := by decide +kernel
theorem dX3_undergo_91 : decode cX3_undergo 91 = .ok (.putfield 31, 3) := by decide +kernel
theorem dX3_undergo_94 : decode cX3_undergo 94 = .ok (.aload_n 0, 1) := by decide +kernel
theorem dX3_undergo_95 : decode cX3_undergo 95 = .ok (.getfield 31, 3) := by decide +kernel
theorem dX3_undergo_98 : decode cX3_undergo 98 = .ok (.iload_n 2, 1) := by decide +kernel
theorem dX3_undergo_99 : decode cX3_undergo 99 = .ok (.ishr, 1) := by decide +kernel
theorem dX3_undergo_100 : decode cX3_undergo 100 = .ok (.iconst 1, 1) := by decide +kernel
theorem dX3_undergo_101 : decode cX3_undergo 101 = .ok (.iand, 1) := by decide +kernel
theorem dX3_undergo_102 : decode cX3_undergo 102 = .ok (.ireturn, 1) := by decide +kernel
theorem dX3_undergo_103 : decode cX3_undergo 103 = .ok (.aload_n 0, 1) := by decide +kernel
theorem dX3_undergo_104 : decode cX3_undergo 104 = .ok (.getfield 22, 3) := by decide +kernel
theorem dX3_undergo_107 : decode cX3_undergo 107 = .ok (.istore_n 3, 1) := by decide +kernel
theorem dX3_undergo_108 : decode cX3_undergo 108 = .ok (.aload_n 0, 1) := by decide +kernel
theorem dX3_undergo_109 : decode cX3_undergo 109 = .ok (.iload_n 2, 1) := by decide +kernel
theorem dX3_undergo_110 : decode cX3_undergo 110 = .ok (.putfield 22, 3) := by decide +kernel
theorem dX3_undergo_113 : decode cX3_undergo 113 = .ok (.iload_n 3, 1) := by decide +kernel
theorem dX3_undergo_114 : decode cX3_undergo 114 = .ok (.ireturn, 1) := by decide +kernel
theorem dX3_blow_0 : decode cX3_blow 0 = .ok (.aload_n 0, 1) := by decide +kernel
theorem dX3_blow_1 : decode cX3_blow 1 = .ok (.bipush 60, 2) := by decide +kernel
theorem dX3_blow_3 : decode cX3_blow 3 = .ok (.aload_n 0, 1) := by decide +kernel
theorem dX3_blow_4 : decode cX3_blow 4 = .ok (.getfield 19, 3) := by decide +kernel
theorem dX3_blow_7 : decode cX3_blow 7 = .ok (.aload_n 0, 1) := by decide +kernel
theorem dX3_blow_8 : decode cX3_blow 8 = .ok (.getfield 22, 3) := by decide +kernel
theorem dX3_blow_11 : decode cX3_blow 11 = .ok (.iadd, 1) := by decide +kernel
theorem dX3_blow_12 : decode cX3_blow 12 = .ok (.invokestatic 81, 3) := by decide +kernel
theorem dX3_blow_15 : decode cX3_blow 15 = .ok (.putfield 19, 3) := by decide +kernel
theorem dX3_blow_18 : decode cX3_blow 18 = .ok (.aload_n 0, 1) := by decide +kernel
theorem dX3_blow_19 : decode cX3_blow 19 = .ok (.invokevirtual 89, 3) := by decide +kernel
theorem dX3_blow_22 : decode cX3_blow 22 = .ok (.istore_n 1, 1) := by decide +kernel
theorem dX3_blow_23 : decode cX3_blow 23 = .ok (.iconst 0, 1) := by decide +kernel
theorem dX3_blow_24 : decode cX3_blow 24 = .ok (.istore_n 2, 1) := by decide +kernel
theorem dX3_blow_25 : decode cX3_blow 25 = .ok (.iconst 0, 1) := by decide +kernel
theorem dX3_blow_26 : decode cX3_blow 26 = .ok (.istore_n 3, 1) := by decide +kernel
theorem dX3_blow_27 : decode cX3_blow 27 = .ok (.iload_n 3, 1) := by decide +kernel
theorem dX3_blow_28 : decode cX3_blow 28 = .ok (.aload_n 0, 1) := by decide +kernel
theorem dX3_blow_29 : decode cX3_blow 29 = .ok (.getfield 7, 3) := by decide +kernel
theorem dX3_blow_32 : decode cX3_blow 32 = .ok (.if_icmp .ge 41, 3) := by decide +kernel
theorem dX3_blow_35 : decode cX3_blow 35 = .ok (.iload_n 1, 1) := by decide +kernel
theorem dX3_blow_36 : decode cX3_blow 36 = .ok (.iload_n 3, 1) := by decide +kernel
theorem dX3_blow_37 : decode cX3_blow 37 = .ok (.invokestatic 92, 3) := by decide +kernel
theorem dX3_blow_40 : decode cX3_blow 40 = .ok (.ifCond .ne 27, 3) := by decide +kernel
theorem dX3_blow_43 : decode cX3_blow 43 = .ok (.aload_n 0, 1) := by decide +kernel
theorem dX3_blow_44 : decode cX3_blow 44 = .ok (.iload_n 3, 1) := by decide +kernel
theorem dX3_blow_45 : decode cX3_blow 45 = .ok (.invokevirtual 96, 3) := by decide +kernel
theorem dX3_blow_48 : decode cX3_blow 48 = .ok (.ifCond .eq 19, 3) := by decide +kernel
theorem dX3_blow_51 : decode cX3_blow 51 = .ok (.aload_n 0, 1) := by decide +kernel
theorem dX3_blow_52 : decode cX3_blow 52 = .ok (.getfield 47, 3) := by decide +kernel
theorem dX3_blow_55 : decode cX3_blow 55 = .ok (.iload_n 3, 1) := by decide +kernel
theorem dX3_blow_56 : decode cX3_blow 56 = .ok (.dup2, 1) := by decide +kernel
theorem dX3_blow_57 : decode cX3_blow 57 = .ok (.iaload, 1) := by decide +kernel
theorem dX3_blow_58 : decode cX3_blow 58 = .ok (.iconst 1, 1) := by decide +kernel
theorem dX3_blow_59 : decode cX3_blow 59 = .ok (.iadd, 1) := by decide +kernel
theorem dX3_blow_60 : decode cX3_blow 60 = .ok (.iastore, 1) := by decide +kernel
theorem dX3_blow_61 : decode cX3_blow 61 = .ok (.iload_n 2, 1) := by decide +kernel
theorem dX3_blow_62 : decode cX3_blow 62 = .ok (.iconst 1, 1) := by decide +kernel
theorem dX3_blow_63 : decode cX3_blow 63 = .ok (.iload_n 3, 1) := by decide +kernel
theorem dX3_blow_64 : decode cX3_blow 64 = .ok (.ishl, 1) := by decide +kernel
theorem dX3_blow_65 : decode cX3_blow 65 = .ok (.ior, 1) := by decide +kernel
theorem dX3_blow_66 : decode cX3_blow 66 = .ok (.istore_n 2, 1) := by decide +kernel
theorem dX3_blow_67 : decode cX3_blow 67 = .ok (.iinc 3 1, 3) := by decide +kernel
theorem dX3_blow_70 : decode cX3_blow 70 = .ok (.goto (-43), 3) := by decide +kernel
theorem dX3_blow_73 : decode cX3_blow 73 = .ok (.aload_n 0, 1) := by decide +kernel
theorem dX3_blow_74 : decode cX3_blow 74 = .ok (.dup, 1) := by decide +kernel
theorem dX3_blow_75 : decode cX3_blow 75 = .ok (.getfield 25, 3) := by decide +kernel
theorem dX3_blow_78 : decode cX3_blow 78 = .ok (.iconst 1, 1) := by decide +kernel
theorem dX3_blow_79 : decode cX3_blow 79 = .ok (.iadd, 1) := by decide +kernel
theorem dX3_blow_80 : decode cX3_blow 80 = .ok (.putfield 25, 3) := by decide +kernel
theorem dX3_blow_83 : decode cX3_blow 83 = .ok (.iload_n 2, 1) := by decide +kernel
theorem dX3_blow_84 : decode cX3_blow 84 = .ok (.ireturn, 1) := by decide +kernel
theorem dX3_breathe_0 : decode cX3_breathe 0 = .ok (.aload_n 0, 1) := by decide +kernel
theorem dX3_breathe_1 : decode cX3_breathe 1 = .ok (.getfield 31, 3) := by decide +kernel
theorem dX3_breathe_4 : decode cX3_breathe 4 = .ok (.iload_n 1, 1) := by decide +kernel
theorem dX3_breathe_5 : decode cX3_breathe 5 = .ok (.invokestatic 92, 3) := by decide +kernel
theorem dX3_breathe_8 : decode cX3_breathe 8 = .ok (.ifCond .eq 17, 3) := by decide +kernel
theorem dX3_breathe_11 : decode cX3_breathe 11 = .ok (.aload_n 0, 1) := by decide +kernel
theorem dX3_breathe_12 : decode cX3_breathe 12 = .ok (.iconst 0, 1) := by decide +kernel
theorem dX3_breathe_13 : decode cX3_breathe 13 = .ok (.aload_n 0, 1) := by decide +kernel
theorem dX3_breathe_14 : decode cX3_breathe 14 = .ok (.getfield 19, 3) := by decide +kernel
theorem dX3_breathe_17 : decode cX3_breathe 17 = .ok (.iconst 1, 1) := by decide +kernel
theorem dX3_breathe_18 : decode cX3_breathe 18 = .ok (.isub, 1) := by decide +kernel
theorem dX3_breathe_19 : decode cX3_breathe 19 = .ok (.invokestatic 86, 3) := by decide +kernel
theorem dX3_breathe_22 : decode cX3_breathe 22 = .ok (.putfield 19, 3) := by decide +kernel
theorem dX3_breathe_25 : decode cX3_breathe 25 = .ok (.aload_n 0, 1) := by decide +kernel
theorem dX3_breathe_26 : decode cX3_breathe 26 = .ok (.getfield 34, 3) := by decide +kernel
theorem dX3_breathe_29 : decode cX3_breathe 29 = .ok (.iload_n 1, 1) := by decide +kernel
theorem dX3_breathe_30 : decode cX3_breathe 30 = .ok (.iaload, 1) := by decide +kernel
theorem dX3_breathe_31 : decode cX3_breathe 31 = .ok (.aload_n 0, 1) := by decide +kernel
theorem dX3_breathe_32 : decode cX3_breathe 32 = .ok (.getfield 41, 3) := by decide +kernel
theorem dX3_breathe_35 : decode cX3_breathe 35 = .ok (.iload_n 1, 1) := by decide +kernel
theorem dX3_breathe_36 : decode cX3_breathe 36 = .ok (.iaload, 1) := by decide +kernel
theorem dX3_breathe_37 : decode cX3_breathe 37 = .ok (.aload_n 0, 1) := by decide +kernel
theorem dX3_breathe_38 : decode cX3_breathe 38 = .ok (.getfield 25, 3) := by decide +kernel
theorem dX3_breathe_41 : decode cX3_breathe 41 = .ok (.invokestatic 100, 3) := by decide +kernel
theorem dX3_breathe_44 : decode cX3_breathe 44 = .ok (.istore_n 2, 1) := by decide +kernel
theorem dX3_breathe_45 : decode cX3_breathe 45 = .ok (.iload_n 2, 1) := by decide +kernel
theorem dX3_breathe_46 : decode cX3_breathe 46 = .ok (.ifCond .ne 5, 3) := by decide +kernel
theorem dX3_breathe_49 : decode cX3_breathe 49 = .ok (.iconst 0, 1) := by decide +kernel
theorem dX3_breathe_50 : decode cX3_breathe 50 = .ok (.ireturn, 1) := by decide +kernel
theorem dX3_breathe_51 : decode cX3_breathe 51 = .ok (.aload_n 0, 1) := by decide +kernel
theorem dX3_breathe_52 : decode cX3_breathe 52 = .ok (.getfield 19, 3) := by decide +kernel
theorem dX3_breathe_55 : decode cX3_breathe 55 = .ok (.iload_n 2, 1) := by decide +kernel
theorem dX3_breathe_56 : decode cX3_breathe 56 = .ok (.if_icmp .lt 29, 3) := by decide +kernel
theorem dX3_breathe_59 : decode cX3_breathe 59 = .ok (.aload_n 0, 1) := by decide +kernel
theorem dX3_breathe_60 : decode cX3_breathe 60 = .ok (.dup, 1) := by decide +kernel
theorem dX3_breathe_61 : decode cX3_breathe 61 = .ok (.getfield 19, 3) := by decide +kernel
theorem dX3_breathe_64 : decode cX3_breathe 64 = .ok (.iload_n 2, 1) := by decide +kernel
theorem dX3_breathe_65 : decode cX3_breathe 65 = .ok (.isub, 1) := by decide +kernel
theorem dX3_breathe_66 : decode cX3_breathe 66 = .ok (.putfield 19, 3) := by decide +kernel
theorem dX3_breathe_69 : decode cX3_breathe 69 = .ok (.aload_n 0, 1) := by decide +kernel
theorem dX3_breathe_70 : decode cX3_breathe 70 = .ok (.iload_n 1, 1) := by decide +kernel
theorem dX3_breathe_71 : decode cX3_breathe 71 = .ok (.aload_n 0, 1) := by decide +kernel
theorem dX3_breathe_72 : decode cX3_breathe 72 = .ok (.getfield 34, 3) := by decide +kernel
theorem dX3_breathe_75 : decode cX3_breathe 75 = .ok (.iload_n 1, 1) := by decide +kernel
theorem dX3_breathe_76 : decode cX3_breathe 76 = .ok (.iaload, 1) := by decide +kernel
theorem dX3_breathe_77 : decode cX3_breathe 77 = .ok (.invokestatic 106, 3) := by decide +kernel
theorem dX3_breathe_80 : decode cX3_breathe 80 = .ok (.invokevirtual 110, 3) := by decide +kernel
theorem dX3_breathe_83 : decode cX3_breathe 83 = .ok (.iconst 1, 1) := by decide +kernel
theorem dX3_breathe_84 : decode cX3_breathe 84 = .ok (.ireturn, 1) := by decide +kernel
theorem dX3_breathe_85 : decode cX3_breathe 85 = .ok (.aload_n 0, 1) := by decide +kernel
theorem dX3_breathe_86 : decode cX3_breathe 86 = .ok (.getfield 19, 3) := by decide +kernel
theorem dX3_breathe_89 : decode cX3_breathe 89 = .ok (.aload_n 0, 1) := by decide +kernel
theorem dX3_breathe_90 : decode cX3_breathe 90 = .ok (.getfield 44, 3) := by decide +kernel
theorem dX3_breathe_93 : decode cX3_breathe 93 = .ok (.iload_n 1, 1) := by decide +kernel
theorem dX3_breathe_94 : decode cX3_breathe 94 = .ok (.iaload, 1) := by decide +kernel
theorem dX3_breathe_95 : decode cX3_breathe 95 = .ok (.iadd, 1) := by decide +kernel
theorem dX3_breathe_96 : decode cX3_breathe 96 = .ok (.iload_n 2, 1) := by decide +kernel
theorem dX3_breathe_97 : decode cX3_breathe 97 = .ok (.if_icmp .lt 25, 3) := by decide +kernel
theorem dX3_breathe_100 : decode cX3_breathe 100 = .ok (.aload_n 0, 1) := by decide +kernel
theorem dX3_breathe_101 : decode cX3_breathe 101 = .ok (.getfield 44, 3) := by decide +kernel
theorem dX3_breathe_104 : decode cX3_breathe 104 = .ok (.iload_n 1, 1) := by decide +kernel
theorem dX3_breathe_105 : decode cX3_breathe 105 = .ok (.dup2, 1) := by decide +kernel
theorem dX3_breathe_106 : decode cX3_breathe 106 = .ok (.iaload, 1) := by decide +kernel
theorem dX3_breathe_107 : decode cX3_breathe 107 = .ok (.iload_n 2, 1) := by decide +kernel
theorem dX3_breathe_108 : decode cX3_breathe 108 = .ok (.aload_n 0, 1) := by decide +kernel
theorem dX3_breathe_109 : decode cX3_breathe 109 = .ok (.getfield 19, 3) := by decide +kernel
theorem dX3_breathe_112 : decode cX3_breathe 112 = .ok (.isub, 1) := by decide +kernel
theorem dX3_breathe_113 : decode cX3_breathe 113 = .ok (.isub, 1) := by decide +kernel
theorem dX3_breathe_114 : decode cX3_breathe 114 = .ok (.iastore, 1) := by decide +kernel
theorem dX3_breathe_115 : decode cX3_breathe 115 = .ok (.aload_n 0, 1) := by decide +kernel
theorem dX3_breathe_116 : decode cX3_breathe 116 = .ok (.iconst 0, 1) := by decide +kernel
theorem dX3_breathe_117 : decode cX3_breathe 117 = .ok (.putfield 19, 3) := by decide +kernel
theorem dX3_breathe_120 : decode cX3_breathe 120 = .ok (.iconst 1, 1) := by decide +kernel
theorem dX3_breathe_121 : decode cX3_breathe 121 = .ok (.ireturn, 1) := by decide +kernel
theorem dX3_breathe_122 : decode cX3_breathe 122 = .ok (.aload_n 0, 1) := by decide +kernel
theorem dX3_breathe_123 : decode cX3_breathe 123 = .ok (.getfield 34, 3) := by decide +kernel
theorem dX3_breathe_126 : decode cX3_breathe 126 = .ok (.iload_n 1, 1) := by decide +kernel
theorem dX3_breathe_127 : decode cX3_breathe 127 = .ok (.iaload, 1) := by decide +kernel
theorem dX3_breathe_128 : decode cX3_breathe 128 = .ok (.iconst 2, 1) := by decide +kernel
theorem dX3_breathe_129 : decode cX3_breathe 129 = .ok (.if_icmp .ne 8, 3) := by decide +kernel
theorem dX3_breathe_132 : decode cX3_breathe 132 = .ok (.aload_n 0, 1) := by decide +kernel
theorem dX3_breathe_133 : decode cX3_breathe 133 = .ok (.iconst 0, 1) := by decide +kernel
theorem dX3_breathe_134 : decode cX3_breathe 134 = .ok (.putfield 19, 3) := by decide +kernel
theorem dX3_breathe_137 : decode cX3_breathe 137 = .ok (.iconst 0, 1) := by decide +kernel
theorem dX3_breathe_138 : decode cX3_breathe 138 = .ok (.ireturn, 1) := by decide +kernel
theorem dX3_save_0 : decode cX3_save 0 = .ok (.aload_n 0, 1) := by decide +kernel
theorem dX3_save_1 : decode cX3_save 1 = .ok (.getfield 19, 3) := by decide +kernel
theorem dX3_save_4 : decode cX3_save 4 = .ok (.iload_n 2, 1) := by decide +kernel
theorem dX3_save_5 : decode cX3_save 5 = .ok (.if_icmp .lt 32, 3) := by decide +kernel
theorem dX3_save_8 : decode cX3_save 8 = .ok (.aload_n 0, 1) := by decide +kernel
theorem dX3_save_9 : decode cX3_save 9 = .ok (.dup, 1) := by decide +kernel
theorem dX3_save_10 : decode cX3_save 10 = .ok (.getfield 19, 3) := by decide +kernel
theorem dX3_save_13 : decode cX3_save 13 = .ok (.iload_n 2, 1) := by decide +kernel
theorem dX3_save_14 : decode cX3_save 14 = .ok (.isub, 1) := by decide +kernel
theorem dX3_save_15 : decode cX3_save 15 = .ok (.putfield 19, 3) := by decide +kernel
theorem dX3_save_18 : decode cX3_save 18 = .ok (.aload_n 0, 1) := by decide +kernel
theorem dX3_save_19 : decode cX3_save 19 = .ok (.getfield 44, 3) := by decide +kernel
theorem dX3_save_22 : decode cX3_save 22 = .ok (.iload_n 1, 1) := by decide +kernel
theorem dX3_save_23 : decode cX3_save 23 = .ok (.bipush 20, 2) := by decide +kernel
theorem dX3_save_25 : decode cX3_save 25 = .ok (.aload_n 0, 1) := by decide +kernel
theorem dX3_save_26 : decode cX3_save 26 = .ok (.getfield 44, 3) := by decide +kernel
theorem dX3_save_29 : decode cX3_save 29 = .ok (.iload_n 1, 1) := by decide +kernel
theorem dX3_save_30 : decode cX3_save 30 = .ok (.iaload, 1) := by decide +kernel
theorem dX3_save_31 : decode cX3_save 31 = .ok (.iload_n 2, 1) := by decide +kernel
theorem dX3_save_32 : decode cX3_save 32 = .ok (.iadd, 1) := by decide +kernel
theorem dX3_save_33 : decode cX3_save 33 = .ok (.invokestatic 81, 3) := by decide +kernel
theorem dX3_save_36 : decode cX3_save 36 = .ok (.iastore, 1) := by decide +kernel
theorem dX3_save_37 : decode cX3_save 37 = .ok (.return_, 1) := by decide +kernel
theorem dX3_cutOffSet_0 : decode cX3_cutOffSet 0 = .ok (.aload_n 0, 1) := by decide +kernel
theorem dX3_cutOffSet_1 : decode cX3_cutOffSet 1 = .ok (.getfield 28, 3) := by decide +kernel
theorem dX3_cutOffSet_4 : decode cX3_cutOffSet 4 = .ok (.istore_n 1, 1) := by decide +kernel
theorem dX3_cutOffSet_5 : decode cX3_cutOffSet 5 = .ok (.iconst 0, 1) := by decide +kernel
theorem dX3_cutOffSet_6 : decode cX3_cutOffSet 6 = .ok (.istore_n 2, 1) := by decide +kernel
theorem dX3_cutOffSet_7 : decode cX3_cutOffSet 7 = .ok (.iload_n 2, 1) := by decide +kernel
theorem dX3_cutOffSet_8 : decode cX3_cutOffSet 8 = .ok (.aload_n 0, 1) := by decide +kernel
theorem dX3_cutOffSet_9 : decode cX3_cutOffSet 9 = .ok (.getfield 7, 3) := by decide +kernel
theorem dX3_cutOffSet_12 : decode cX3_cutOffSet 12 = .ok (.if_icmp .ge 37, 3) := by decide +kernel
