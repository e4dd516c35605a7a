theorem dX4_hush_68 : decode cX4_hush 68 = .ok (.iload_n 3, 1) := by decide +kernel
theorem dX4_hush_69 : decode cX4_hush 69 = .ok (.if_icmp .ge 7, 3) := by decide +kernel
theorem dX4_hush_72 : decode cX4_hush 72 = .ok (.iconst 1, 1) := by decide +kernel
theorem dX4_hush_73 : decode cX4_hush 73 = .ok (.goto 4, 3) := by decide +kernel
theorem dX4_hush_76 : decode cX4_hush 76 = .ok (.iconst 0, 1) := by decide +kernel
theorem dX4_hush_77 : decode cX4_hush 77 = .ok (.istore 7, 2) := by decide +kernel
theorem dX4_hush_79 : decode cX4_hush 79 = .ok (.iload 5, 2) := by decide +kernel
theorem dX4_hush_81 : decode cX4_hush 81 = .ok (.iload_n 2, 1) := by decide +kernel
theorem dX4_hush_82 : decode cX4_hush 82 = .ok (.iconst (-1), 1) := by decide +kernel
theorem dX4_hush_83 : decode cX4_hush 83 = .ok (.ixor, 1) := by decide +kernel
theorem dX4_hush_84 : decode cX4_hush 84 = .ok (.iand, 1) := by decide +kernel
theorem dX4_hush_85 : decode cX4_hush 85 = .ok (.ifCond .ne 36, 3) := by decide +kernel
theorem dX4_hush_88 : decode cX4_hush 88 = .ok (.iload 7, 2) := by decide +kernel
theorem dX4_hush_90 : decode cX4_hush 90 = .ok (.ifCond .eq 31, 3) := by decide +kernel
theorem dX4_hush_93 : decode cX4_hush 93 = .ok (.aload_n 0, 1) := by decide +kernel
theorem dX4_hush_94 : decode cX4_hush 94 = .ok (.aload_n 0, 1) := by decide +kernel
theorem dX4_hush_95 : decode cX4_hush 95 = .ok (.getfield 36, 3) := by decide +kernel
theorem dX4_hush_98 : decode cX4_hush 98 = .ok (.getfield 204, 3) := by decide +kernel
theorem dX4_hush_101 : decode cX4_hush 101 = .ok (.iload 5, 2) := by decide +kernel
theorem dX4_hush_103 : decode cX4_hush 103 = .ok (.ior, 1) := by decide +kernel
theorem dX4_hush_104 : decode cX4_hush 104 = .ok (.invokevirtual 212, 3) := by decide +kernel
theorem dX4_hush_107 : decode cX4_hush 107 = .ok (.iload_n 1, 1) := by decide +kernel
theorem dX4_hush_108 : decode cX4_hush 108 = .ok (.invokestatic 198, 3) := by decide +kernel
theorem dX4_hush_111 : decode cX4_hush 111 = .ok (.ifCond .eq 10, 3) := by decide +kernel
theorem dX4_hush_114 : decode cX4_hush 114 = .ok (.iload 6, 2) := by decide +kernel
theorem dX4_hush_116 : decode cX4_hush 116 = .ok (.istore_n 3, 1) := by decide +kernel
theorem dX4_hush_117 : decode cX4_hush 117 = .ok (.iload 5, 2) := by decide +kernel
theorem dX4_hush_119 : decode cX4_hush 119 = .ok (.istore 4, 2) := by decide +kernel
theorem dX4_hush_121 : decode cX4_hush 121 = .ok (.iinc 5 1, 3) := by decide +kernel
theorem dX4_hush_124 : decode cX4_hush 124 = .ok (.goto (-77), 3) := by decide +kernel
theorem dX4_hush_127 : decode cX4_hush 127 = .ok (.iload_n 3, 1) := by decide +kernel
theorem dX4_hush_128 : decode cX4_hush 128 = .ok (.bipush (-9), 2) := by decide +kernel
theorem dX4_hush_130 : decode cX4_hush 130 = .ok (.if_icmp .eq 10, 3) := by decide +kernel
theorem dX4_hush_133 : decode cX4_hush 133 = .ok (.aload_n 0, 1) := by decide +kernel
theorem dX4_hush_134 : decode cX4_hush 134 = .ok (.iload 4, 2) := by decide +kernel
theorem dX4_hush_136 : decode cX4_hush 136 = .ok (.invokevirtual 101, 3) := by decide +kernel
theorem dX4_hush_139 : decode cX4_hush 139 = .ok (.pop, 1) := by decide +kernel
theorem dX4_hush_140 : decode cX4_hush 140 = .ok (.iload_n 3, 1) := by decide +kernel
theorem dX4_hush_141 : decode cX4_hush 141 = .ok (.ireturn, 1) := by decide +kernel
theorem dX4_least_0 : decode cX4_least 0 = .ok (.aload_n 0, 1) := by decide +kernel
theorem dX4_least_1 : decode cX4_least 1 = .ok (.getfield 36, 3) := by decide +kernel
theorem dX4_least_4 : decode cX4_least 4 = .ok (.iload_n 1, 1) := by decide +kernel
theorem dX4_least_5 : decode cX4_least 5 = .ok (.invokevirtual 131, 3) := by decide +kernel
theorem dX4_least_8 : decode cX4_least 8 = .ok (.ifCond .ne 5, 3) := by decide +kernel
theorem dX4_least_11 : decode cX4_least 11 = .ok (.iconst (-1), 1) := by decide +kernel
theorem dX4_least_12 : decode cX4_least 12 = .ok (.ireturn, 1) := by decide +kernel
theorem dX4_least_13 : decode cX4_least 13 = .ok (.iconst 0, 1) := by decide +kernel
theorem dX4_least_14 : decode cX4_least 14 = .ok (.istore_n 2, 1) := by decide +kernel
theorem dX4_least_15 : decode cX4_least 15 = .ok (.aload_n 0, 1) := by decide +kernel
theorem dX4_least_16 : decode cX4_least 16 = .ok (.getfield 36, 3) := by decide +kernel
theorem dX4_least_19 : decode cX4_least 19 = .ok (.getfield 152, 3) := by decide +kernel
theorem dX4_least_22 : decode cX4_least 22 = .ok (.iload_n 2, 1) := by decide +kernel
theorem dX4_least_23 : decode cX4_least 23 = .ok (.iadd, 1) := by decide +kernel
theorem dX4_least_24 : decode cX4_least 24 = .ok (.bipush 60, 2) := by decide +kernel
theorem dX4_least_26 : decode cX4_least 26 = .ok (.if_icmp .gt 49, 3) := by decide +kernel
theorem dX4_least_29 : decode cX4_least 29 = .ok (.aload_n 0, 1) := by decide +kernel
theorem dX4_least_30 : decode cX4_least 30 = .ok (.getfield 40, 3) := by decide +kernel
theorem dX4_least_33 : decode cX4_least 33 = .ok (.aload_n 0, 1) := by decide +kernel
theorem dX4_least_34 : decode cX4_least 34 = .ok (.getfield 36, 3) := by decide +kernel
theorem dX4_least_37 : decode cX4_least 37 = .ok (.invokevirtual 124, 3) := by decide +kernel
theorem dX4_least_40 : decode cX4_least 40 = .ok (.aload_n 0, 1) := by decide +kernel
theorem dX4_least_41 : decode cX4_least 41 = .ok (.getfield 40, 3) := by decide +kernel
theorem dX4_least_44 : decode cX4_least 44 = .ok (.dup, 1) := by decide +kernel
theorem dX4_least_45 : decode cX4_least 45 = .ok (.getfield 152, 3) := by decide +kernel
theorem dX4_least_48 : decode cX4_least 48 = .ok (.iload_n 2, 1) := by decide +kernel
theorem dX4_least_49 : decode cX4_least 49 = .ok (.iadd, 1) := by decide +kernel
theorem dX4_least_50 : decode cX4_least 50 = .ok (.putfield 152, 3) := by decide +kernel
theorem dX4_least_53 : decode cX4_least 53 = .ok (.aload_n 0, 1) := by decide +kernel
theorem dX4_least_54 : decode cX4_least 54 = .ok (.getfield 40, 3) := by decide +kernel
theorem dX4_least_57 : decode cX4_least 57 = .ok (.invokevirtual 191, 3) := by decide +kernel
theorem dX4_least_60 : decode cX4_least 60 = .ok (.iload_n 1, 1) := by decide +kernel
theorem dX4_least_61 : decode cX4_least 61 = .ok (.invokestatic 198, 3) := by decide +kernel
theorem dX4_least_64 : decode cX4_least 64 = .ok (.ifCond .eq 5, 3) := by decide +kernel
theorem dX4_least_67 : decode cX4_least 67 = .ok (.iload_n 2, 1) := by decide +kernel
theorem dX4_least_68 : decode cX4_least 68 = .ok (.ireturn, 1) := by decide +kernel
theorem dX4_least_69 : decode cX4_least 69 = .ok (.iinc 2 1, 3) := by decide +kernel
theorem dX4_least_72 : decode cX4_least 72 = .ok (.goto (-57), 3) := by decide +kernel
theorem dX4_least_75 : decode cX4_least 75 = .ok (.bipush (-9), 2) := by decide +kernel
theorem dX4_least_77 : decode cX4_least 77 = .ok (.ireturn, 1) := by decide +kernel
theorem dX4_hard_0 : decode cX4_hard 0 = .ok (.aload_n 0, 1) := by decide +kernel
theorem dX4_hard_1 : decode cX4_hard 1 = .ok (.getfield 36, 3) := by decide +kernel
theorem dX4_hard_4 : decode cX4_hard 4 = .ok (.iload_n 1, 1) := by decide +kernel
theorem dX4_hard_5 : decode cX4_hard 5 = .ok (.invokevirtual 215, 3) := by decide +kernel
theorem dX4_hard_8 : decode cX4_hard 8 = .ok (.ifCond .eq 14, 3) := by decide +kernel
theorem dX4_hard_11 : decode cX4_hard 11 = .ok (.iload_n 2, 1) := by decide +kernel
theorem dX4_hard_12 : decode cX4_hard 12 = .ok (.iconst 1, 1) := by decide +kernel
theorem dX4_hard_13 : decode cX4_hard 13 = .ok (.if_icmp .lt 9, 3) := by decide +kernel
theorem dX4_hard_16 : decode cX4_hard 16 = .ok (.iload_n 2, 1) := by decide +kernel
theorem dX4_hard_17 : decode cX4_hard 17 = .ok (.bipush 20, 2) := by decide +kernel
theorem dX4_hard_19 : decode cX4_hard 19 = .ok (.if_icmp .le 5, 3) := by decide +kernel
theorem dX4_hard_22 : decode cX4_hard 22 = .ok (.iconst (-1), 1) := by decide +kernel
theorem dX4_hard_23 : decode cX4_hard 23 = .ok (.ireturn, 1) := by decide +kernel
theorem dX4_hard_24 : decode cX4_hard 24 = .ok (.aload_n 0, 1) := by decide +kernel
theorem dX4_hard_25 : decode cX4_hard 25 = .ok (.getfield 36, 3) := by decide +kernel
theorem dX4_hard_28 : decode cX4_hard 28 = .ok (.getfield 128, 3) := by decide +kernel
theorem dX4_hard_31 : decode cX4_hard 31 = .ok (.ifCond .ne 6, 3) := by decide +kernel
theorem dX4_hard_34 : decode cX4_hard 34 = .ok (.bipush (-4), 2) := by decide +kernel
theorem dX4_hard_36 : decode cX4_hard 36 = .ok (.ireturn, 1) := by decide +kernel
theorem dX4_hard_37 : decode cX4_hard 37 = .ok (.iconst 0, 1) := by decide +kernel
theorem dX4_hard_38 : decode cX4_hard 38 = .ok (.istore_n 3, 1) := by decide +kernel
theorem dX4_hard_39 : decode cX4_hard 39 = .ok (.iload_n 3, 1) := by decide +kernel
theorem dX4_hard_40 : decode cX4_hard 40 = .ok (.bipush 10, 2) := by decide +kernel
theorem dX4_hard_42 : decode cX4_hard 42 = .ok (.if_icmp .ge 21, 3) := by decide +kernel
theorem dX4_hard_45 : decode cX4_hard 45 = .ok (.aload_n 0, 1) := by decide +kernel
theorem dX4_hard_46 : decode cX4_hard 46 = .ok (.iload_n 1, 1) := by decide +kernel
theorem dX4_hard_47 : decode cX4_hard 47 = .ok (.iload_n 2, 1) := by decide +kernel
theorem dX4_hard_48 : decode cX4_hard 48 = .ok (.iload_n 3, 1) := by decide +kernel
theorem dX4_hard_49 : decode cX4_hard 49 = .ok (.invokevirtual 218, 3) := by decide +kernel
theorem dX4_hard_52 : decode cX4_hard 52 = .ok (.ifCond .eq 5, 3) := by decide +kernel
theorem dX4_hard_55 : decode cX4_hard 55 = .ok (.iload_n 3, 1) := by decide +kernel
theorem dX4_hard_56 : decode cX4_hard 56 = .ok (.ireturn, 1) := by decide +kernel
theorem dX4_hard_57 : decode cX4_hard 57 = .ok (.iinc 3 1, 3) := by decide +kernel
theorem dX4_hard_60 : decode cX4_hard 60 = .ok (.goto (-21), 3) := by decide +kernel
theorem dX4_hard_63 : decode cX4_hard 63 = .ok (.bipush (-9), 2) := by decide +kernel
theorem dX4_hard_65 : decode cX4_hard 65 = .ok (.ireturn, 1) := by decide +kernel
theorem dX4_leaks_0 : decode cX4_leaks 0 = .ok (.aload_n 0, 1) := by decide +kernel
theorem dX4_leaks_1 : decode cX4_leaks 1 = .ok (.iload_n 1, 1) := by decide +kernel
theorem dX4_leaks_2 : decode cX4_leaks 2 = .ok (.invokevirtual 221, 3) := by decide +kernel
theorem dX4_leaks_5 : decode cX4_leaks 5 = .ok (.istore_n 2, 1) := by decide +kernel
theorem dX4_leaks_6 : decode cX4_leaks 6 = .ok (.iload_n 2, 1) := by decide +kernel
theorem dX4_leaks_7 : decode cX4_leaks 7 = .ok (.ifCond .eq 5, 3) := by decide +kernel
theorem dX4_leaks_10 : decode cX4_leaks 10 = .ok (.iload_n 2, 1) := by decide +kernel
theorem dX4_leaks_11 : decode cX4_leaks 11 = .ok (.ireturn, 1) := by decide +kernel
theorem dX4_leaks_12 : decode cX4_leaks 12 = .ok (.iconst 0, 1) := by decide +kernel
theorem dX4_leaks_13 : decode cX4_leaks 13 = .ok (.istore_n 3, 1) := by decide +kernel
theorem dX4_leaks_14 : decode cX4_leaks 14 = .ok (.bipush (-9), 2) := by decide +kernel
theorem dX4_leaks_16 : decode cX4_leaks 16 = .ok (.istore 4, 2) := by decide +kernel
theorem dX4_leaks_18 : decode cX4_leaks 18 = .ok (.iconst 0, 1) := by decide +kernel
theorem dX4_leaks_19 : decode cX4_leaks 19 = .ok (.istore 5, 2) := by decide +kernel
theorem dX4_leaks_21 : decode cX4_leaks 21 = .ok (.iload 5, 2) := by decide +kernel
theorem dX4_leaks_23 : decode cX4_leaks 23 = .ok (.aload_n 0, 1) := by decide +kernel
theorem dX4_leaks_24 : decode cX4_leaks 24 = .ok (.getfield 36, 3) := by decide +kernel
theorem dX4_leaks_27 : decode cX4_leaks 27 = .ok (.invokevirtual 201, 3) := by decide +kernel
theorem dX4_leaks_30 : decode cX4_leaks 30 = .ok (.if_icmp .gt 38, 3) := by decide +kernel
theorem dX4_leaks_33 : decode cX4_leaks 33 = .ok (.aload_n 0, 1) := by decide +kernel
theorem dX4_leaks_34 : decode cX4_leaks 34 = .ok (.iload 5, 2) := by decide +kernel
theorem dX4_leaks_36 : decode cX4_leaks 36 = .ok (.iload_n 1, 1) := by decide +kernel
theorem dX4_leaks_37 : decode cX4_leaks 37 = .ok (.invokevirtual 224, 3) := by decide +kernel
theorem dX4_leaks_40 : decode cX4_leaks 40 = .ok (.ifCond .eq 22, 3) := by decide +kernel
theorem dX4_leaks_43 : decode cX4_leaks 43 = .ok (.iinc 3 1, 3) := by decide +kernel
theorem dX4_leaks_46 : decode cX4_leaks 46 = .ok (.iload 4, 2) := by decide +kernel
theorem dX4_leaks_48 : decode cX4_leaks 48 = .ok (.bipush (-9), 2) := by decide +kernel
theorem dX4_leaks_50 : decode cX4_leaks 50 = .ok (.if_icmp .ne 8, 3) := by decide +kernel
theorem dX4_leaks_53 : decode cX4_leaks 53 = .ok (.iload 5, 2) := by decide +kernel
theorem dX4_leaks_55 : decode cX4_leaks 55 = .ok (.goto 5, 3) := by decide +kernel
theorem dX4_leaks_58 : decode cX4_leaks 58 = .ok (.iload 4, 2) := by decide +kernel
theorem dX4_leaks_60 : decode cX4_leaks 60 = .ok (.istore 4, 2) := by decide +kernel
theorem dX4_leaks_62 : decode cX4_leaks 62 = .ok (.iinc 5 1, 3) := by decide +kernel
theorem dX4_leaks_65 : decode cX4_leaks 65 = .ok (.goto (-44), 3) := by decide +kernel
theorem dX4_leaks_68 : decode cX4_leaks 68 = .ok (.aload_n 0, 1) := by decide +kernel
theorem dX4_leaks_69 : decode cX4_leaks 69 = .ok (.iload_n 3, 1) := by decide +kernel
theorem dX4_leaks_70 : decode cX4_leaks 70 = .ok (.i2l, 1) := by decide +kernel
theorem dX4_leaks_71 : decode cX4_leaks 71 = .ok (.lconst 1, 1) := by decide +kernel
theorem dX4_leaks_72 : decode cX4_leaks 72 = .ok (.invokevirtual 227, 3) := by decide +kernel
theorem dX4_leaks_75 : decode cX4_leaks 75 = .ok (.aload_n 0, 1) := by decide +kernel
theorem dX4_leaks_76 : decode cX4_leaks 76 = .ok (.iload 4, 2) := by decide +kernel
theorem dX4_leaks_78 : decode cX4_leaks 78 = .ok (.invokevirtual 101, 3) := by decide +kernel
theorem dX4_leaks_81 : decode cX4_leaks 81 = .ok (.ireturn, 1) := by decide +kernel
theorem dX4_listen_0 : decode cX4_listen 0 = .ok (.aload_n 0, 1) := by decide +kernel
theorem dX4_listen_1 : decode cX4_listen 1 = .ok (.iload_n 1, 1) := by decide +kernel
theorem dX4_listen_2 : decode cX4_listen 2 = .ok (.invokevirtual 221, 3) := by decide +kernel
theorem dX4_listen_5 : decode cX4_listen 5 = .ok (.istore_n 2, 1) := by decide +kernel
theorem dX4_listen_6 : decode cX4_listen 6 = .ok (.iload_n 2, 1) := by decide +kernel
theorem dX4_listen_7 : decode cX4_listen 7 = .ok (.ifCond .eq 5, 3) := by decide +kernel
theorem dX4_listen_10 : decode cX4_listen 10 = .ok (.iload_n 2, 1) := by decide +kernel
theorem dX4_listen_11 : decode cX4_listen 11 = .ok (.ireturn, 1) := by decide +kernel
theorem dX4_listen_12 : decode cX4_listen 12 = .ok (.aload_n 0, 1) := by decide +kernel
theorem dX4_listen_13 : decode cX4_listen 13 = .ok (.iload_n 1, 1) := by decide +kernel
theorem dX4_listen_14 : decode cX4_listen 14 = .ok (.invokevirtual 231, 3) := by decide +kernel
theorem dX4_listen_17 : decode cX4_listen 17 = .ok (.istore_n 3, 1) := by decide +kernel
theorem dX4_listen_18 : decode cX4_listen 18 = .ok (.iload_n 3, 1) := by decide +kernel
theorem dX4_listen_19 : decode cX4_listen 19 = .ok (.ifCond .ne 6, 3) := by decide +kernel
theorem dX4_listen_22 : decode cX4_listen 22 = .ok (.bipush (-9), 2) := by decide +kernel
theorem dX4_listen_24 : decode cX4_listen 24 = .ok (.ireturn, 1) := by decide +kernel
theorem dX4_listen_25 : decode cX4_listen 25 = .ok (.iconst 0, 1) := by decide +kernel
theorem dX4_listen_26 : decode cX4_listen 26 = .ok (.istore 4, 2) := by decide +kernel
theorem dX4_listen_28 : decode cX4_listen 28 = .ok (.aload_n 0, 1) := by decide +kernel
theorem dX4_listen_29 : decode cX4_listen 29 = .ok (.iconst 0, 1) := by decide +kernel
theorem dX4_listen_30 : decode cX4_listen 30 = .ok (.iload_n 3, 1) := by decide +kernel
theorem dX4_listen_31 : decode cX4_listen 31 = .ok (.invokevirtual 234, 3) := by decide +kernel
theorem dX4_listen_34 : decode cX4_listen 34 = .ok (.istore 5, 2) := by decide +kernel
theorem dX4_listen_36 : decode cX4_listen 36 = .ok (.iconst 1, 1) := by decide +kernel
theorem dX4_listen_37 : decode cX4_listen 37 = .ok (.istore 6, 2) := by decide +kernel
theorem dX4_listen_39 : decode cX4_listen 39 = .ok (.iload 6, 2) := by decide +kernel
theorem dX4_listen_41 : decode cX4_listen 41 = .ok (.aload_n 0, 1) := by decide +kernel
theorem dX4_listen_42 : decode cX4_listen 42 = .ok (.getfield 36, 3) := by decide +kernel
theorem dX4_listen_45 : decode cX4_listen 45 = .ok (.getfield 128, 3) := by decide +kernel
theorem dX4_listen_48 : decode cX4_listen 48 = .ok (.if_icmp .ge 33, 3) := by decide +kernel
theorem dX4_listen_51 : decode cX4_listen 51 = .ok (.aload_n 0, 1) := by decide +kernel
theorem dX4_listen_52 : decode cX4_listen 52 = .ok (.iload 6, 2) := by decide +kernel
theorem dX4_listen_54 : decode cX4_listen 54 = .ok (.iload_n 3, 1) := by decide +kernel
theorem dX4_listen_55 : decode cX4_listen 55 = .ok (.invokevirtual 234, 3) := by decide +kernel
theorem dX4_listen_58 : decode cX4_listen 58 = .ok (.istore 7, 2) := by decide +kernel
theorem dX4_listen_60 : decode cX4_listen 60 = .ok (.iload 7, 2) := by decide +kernel
theorem dX4_listen_62 : decode cX4_listen 62 = .ok (.iload 5, 2) := by decide +kernel
theorem dX4_listen_64 : decode cX4_listen 64 = .ok (.if_icmp .ge 11, 3) := by decide +kernel
theorem dX4_listen_67 : decode cX4_listen 67 = .ok (.iload 6, 2) := by decide +kernel
theorem dX4_listen_69 : decode cX4_listen 69 = .ok (.istore 4, 2) := by decide +kernel
theorem dX4_listen_71 : decode cX4_listen 71 = .ok (.iload 7, 2) := by decide +kernel
theorem dX4_listen_73 : decode cX4_listen 73 = .ok (.istore 5, 2) := by decide +kernel
theorem dX4_listen_75 : decode cX4_listen 75 = .ok (.iinc 6 1, 3) := by decide +kernel
theorem dX4_listen_78 : decode cX4_listen 78 = .ok (.goto (-39), 3) := by decide +kernel
theorem dX4_listen_81 : decode cX4_listen 81 = .ok (.aload_n 0, 1) := by decide +kernel
theorem dX4_listen_82 : decode cX4_listen 82 = .ok (.iload 5, 2) := by decide +kernel
theorem dX4_listen_84 : decode cX4_listen 84 = .ok (.invokevirtual 101, 3) := by decide +kernel
theorem dX4_listen_87 : decode cX4_listen 87 = .ok (.pop, 1) := by decide +kernel
theorem dX4_listen_88 : decode cX4_listen 88 = .ok (.iload 4, 2) := by decide +kernel
theorem dX4_listen_90 : decode cX4_listen 90 = .ok (.ireturn, 1) := by decide +kernel
theorem dX4_strokes_0 : decode cX4_strokes 0 = .ok (.aload_n 0, 1) := by decide +kernel
theorem dX4_strokes_1 : decode cX4_strokes 1 = .ok (.iload_n 1, 1) := by decide +kernel
theorem dX4_strokes_2 : decode cX4_strokes 2 = .ok (.invokevirtual 221, 3) := by decide +kernel
theorem dX4_strokes_5 : decode cX4_strokes 5 = .ok (.istore_n 2, 1) := by decide +kernel
theorem dX4_strokes_6 : decode cX4_strokes 6 = .ok (.iload_n 2, 1) := by decide +kernel
theorem dX4_strokes_7 : decode cX4_strokes 7 = .ok (.ifCond .eq 5, 3) := by decide +kernel
theorem dX4_strokes_10 : decode cX4_strokes 10 = .ok (.iload_n 2, 1) := by decide +kernel
theorem dX4_strokes_11 : decode cX4_strokes 11 = .ok (.ireturn, 1) := by decide +kernel
theorem dX4_strokes_12 : decode cX4_strokes 12 = .ok (.iconst 0, 1) := by decide +kernel
theorem dX4_strokes_13 : decode cX4_strokes 13 = .ok (.istore_n 3, 1) := by decide +kernel
theorem dX4_strokes_14 : decode cX4_strokes 14 = .ok (.iconst 0, 1) := by decide +kernel
theorem dX4_strokes_15 : decode cX4_strokes 15 = .ok (.istore 4, 2) := by decide +kernel
theorem dX4_strokes_17 : decode cX4_strokes 17 = .ok (.iload 4, 2) := by decide +kernel
theorem dX4_strokes_19 : decode cX4_strokes 19 = .ok (.bipush 10, 2) := by decide +kernel
theorem dX4_strokes_21 : decode cX4_strokes 21 = .ok (.if_icmp .ge 44, 3) := by decide +kernel
theorem dX4_strokes_24 : decode cX4_strokes 24 = .ok (.aload_n 0, 1) := by decide +kernel
theorem dX4_strokes_25 : decode cX4_strokes 25 = .ok (.getfield 40, 3) := by decide +kernel
theorem dX4_strokes_28 : decode cX4_strokes 28 = .ok (.aload_n 0, 1) := by decide +kernel
theorem dX4_strokes_29 : decode cX4_strokes 29 = .ok (.getfield 36, 3) := by decide +kernel
theorem dX4_strokes_32 : decode cX4_strokes 32 = .ok (.invokevirtual 124, 3) := by decide +kernel
theorem dX4_strokes_35 : decode cX4_strokes 35 = .ok (.aload_n 0, 1) := by decide +kernel
theorem dX4_strokes_36 : decode cX4_strokes 36 = .ok (.getfield 40, 3) := by decide +kernel
theorem dX4_strokes_39 : decode cX4_strokes 39 = .ok (.iload 4, 2) := by decide +kernel
theorem dX4_strokes_41 : decode cX4_strokes 41 = .ok (.putfield 175, 3) := by decide +kernel
theorem dX4_strokes_44 : decode cX4_strokes 44 = .ok (.aload_n 0, 1) := by decide +kernel
theorem dX4_strokes_45 : decode cX4_strokes 45 = .ok (.iload_n 1, 1) := by decide +kernel
theorem dX4_strokes_46 : decode cX4_strokes 46 = .ok (.invokevirtual 237, 3) := by decide +kernel
theorem dX4_strokes_49 : decode cX4_strokes 49 = .ok (.ifCond .eq 10, 3) := by decide +kernel
theorem dX4_strokes_52 : decode cX4_strokes 52 = .ok (.iload_n 3, 1) := by decide +kernel
theorem dX4_strokes_53 : decode cX4_strokes 53 = .ok (.iconst 1, 1) := by decide +kernel
theorem dX4_strokes_54 : decode cX4_strokes 54 = .ok (.iload 4, 2) := by decide +kernel
theorem dX4_strokes_56 : decode cX4_strokes 56 = .ok (.ishl, 1) := by decide +kernel
theorem dX4_strokes_57 : decode cX4_strokes 57 = .ok (.ior, 1) := by decide +kernel
theorem dX4_strokes_58 : decode cX4_strokes 58 = .ok (.istore_n 3, 1) := by decide +kernel
theorem dX4_strokes_59 : decode cX4_strokes 59 = .ok (.iinc 4 1, 3) := by decide +kernel
theorem dX4_strokes_62 : decode cX4_strokes 62 = .ok (.goto (-45), 3) := by decide +kernel
theorem dX4_strokes_65 : decode cX4_strokes 65 = .ok (.iload_n 3, 1) := by decide +kernel
theorem dX4_strokes_66 : decode cX4_strokes 66 = .ok (.ireturn, 1) := by decide +kernel
theorem dX4_kinds_0 : decode cX4_kinds 0 = .ok (.aload_n 0, 1) := by decide +kernel
theorem dX4_kinds_1 : decode cX4_kinds 1 = .ok (.getfield 36, 3) := by decide +kernel
theorem dX4_kinds_4 : decode cX4_kinds 4 = .ok (.iload_n 1, 1) := by decide +kernel
theorem dX4_kinds_5 : decode cX4_kinds 5 = .ok (.invokevirtual 131, 3) := by decide +kernel
theorem dX4_kinds_8 : decode cX4_kinds 8 = .ok (.ifCond .ne 5, 3) := by decide +kernel
theorem dX4_kinds_11 : decode cX4_kinds 11 = .ok (.iconst (-1), 1) := by decide +kernel
theorem dX4_kinds_12 : decode cX4_kinds 12 = .ok (.ireturn, 1) := by decide +kernel
theorem dX4_kinds_13 : decode cX4_kinds 13 = .ok (.aload_n 0, 1) := by decide +kernel
theorem dX4_kinds_14 : decode cX4_kinds 14 = .ok (.iload_n 2, 1) := by decide +kernel
theorem dX4_kinds_15 : decode cX4_kinds 15 = .ok (.invokevirtual 221, 3) := by decide +kernel
theorem dX4_kinds_18 : decode cX4_kinds 18 = .ok (.istore_n 3, 1) := by decide +kernel
theorem dX4_kinds_19 : decode cX4_kinds 19 = .ok (.iload_n 3, 1) := by decide +kernel
theorem dX4_kinds_20 : decode cX4_kinds 20 = .ok (.ifCond .eq 5, 3) := by decide +kernel
theorem dX4_kinds_23 : decode cX4_kinds 23 = .ok (.iload_n 3, 1) := by decide +kernel
theorem dX4_kinds_24 : decode cX4_kinds 24 = .ok (.ireturn, 1) := by decide +kernel
theorem dX4_kinds_25 : decode cX4_kinds 25 = .ok (.iconst 0, 1) := by decide +kernel
theorem dX4_kinds_26 : decode cX4_kinds 26 = .ok (.istore 4, 2) := by decide +kernel
theorem dX4_kinds_28 : decode cX4_kinds 28 = .ok (.iconst 0, 1) := by decide +kernel
theorem dX4_kinds_29 : decode cX4_kinds 29 = .ok (.istore 5, 2) := by decide +kernel
theorem dX4_kinds_31 : decode cX4_kinds 31 = .ok (.iload 5, 2) := by decide +kernel
theorem dX4_kinds_33 : decode cX4_kinds 33 = .ok (.bipush 6, 2) := by decide +kernel
theorem dX4_kinds_35 : decode cX4_kinds 35 = .ok (.if_icmp .ge 48, 3) := by decide +kernel
theorem dX4_kinds_38 : decode cX4_kinds 38 = .ok (.aload_n 0, 1) := by decide +kernel
theorem dX4_kinds_39 : decode cX4_kinds 39 = .ok (.getfield 40, 3) := by decide +kernel
theorem dX4_kinds_42 : decode cX4_kinds 42 = .ok (.aload_n 0, 1) := by decide +kernel
theorem dX4_kinds_43 : decode cX4_kinds 43 = .ok (.getfield 36, 3) := by decide +kernel
theorem dX4_kinds_46 : decode cX4_kinds 46 = .ok (.invokevirtual 124, 3) := by decide +kernel
theorem dX4_kinds_49 : decode cX4_kinds 49 = .ok (.aload_n 0, 1) := by decide +kernel
theorem dX4_kinds_50 : decode cX4_kinds 50 = .ok (.getfield 40, 3) := by decide +kernel
theorem dX4_kinds_53 : decode cX4_kinds 53 = .ok (.getfield 139, 3) := by decide +kernel
theorem dX4_kinds_56 : decode cX4_kinds 56 = .ok (.iload_n 1, 1) := by decide +kernel
theorem dX4_kinds_57 : decode cX4_kinds 57 = .ok (.iload 5, 2) := by decide +kernel
theorem dX4_kinds_59 : decode cX4_kinds 59 = .ok (.iastore, 1) := by decide +kernel
theorem dX4_kinds_60 : decode cX4_kinds 60 = .ok (.aload_n 0, 1) := by decide +kernel
theorem dX4_kinds_61 : decode cX4_kinds 61 = .ok (.iload_n 2, 1) := by decide +kernel
theorem dX4_kinds_62 : decode cX4_kinds 62 = .ok (.invokevirtual 237, 3) := by decide +kernel
theorem dX4_kinds_65 : decode cX4_kinds 65 = .ok (.ifCond .eq 12, 3) := by decide +kernel
theorem dX4_kinds_68 : decode cX4_kinds 68 = .ok (.iload 4, 2) := by decide +kernel
theorem dX4_kinds_70 : decode cX4_kinds 70 = .ok (.iconst 1, 1) := by decide +kernel
theorem dX4_kinds_71 : decode cX4_kinds 71 = .ok (.iload 5, 2) := by decide +kernel
theorem dX4_kinds_73 : decode cX4_kinds 73 = .ok (.ishl, 1) := by decide +kernel
theorem dX4_kinds_74 : decode cX4_kinds 74 = .ok (.ior, 1) := by decide +kernel
theorem dX4_kinds_75 : decode cX4_kinds 75 = .ok (.istore 4, 2) := by decide +kernel
theorem dX4_kinds_77 : decode cX4_kinds 77 = .ok (.iinc 5 1, 3) := by decide +kernel
theorem dX4_kinds_80 : decode cX4_kinds 80 = .ok (.goto (-49), 3) := by decide +kernel
theorem dX4_kinds_83 : decode cX4_kinds 83 = .ok (.iload 4, 2) := by decide +kernel
theorem dX4_kinds_85 : decode cX4_kinds 85 = .ok (.ireturn, 1) := by decide +kernel
theorem dX4_sets_0 : decode cX4_sets 0 = .ok (.aload_n 0, 1) := by decide +kernel
theorem dX4_sets_1 : decode cX4_sets 1 = .ok (.iload_n 1, 1) := by decide +kernel
theorem dX4_sets_2 : decode cX4_sets 2 = .ok (.invokevirtual 240, 3) := by decide +kernel
theorem dX4_sets_5 : decode cX4_sets 5 = .ok (.istore_n 2, 1) := by decide +kernel
theorem dX4_sets_6 : decode cX4_sets 6 = .ok (.iload_n 2, 1) := by decide +kernel
theorem dX4_sets_7 : decode cX4_sets 7 = .ok (.ifCond .eq 5, 3) := by decide +kernel
theorem dX4_sets_10 : decode cX4_sets 10 = .ok (.iload_n 2, 1) := by decide +kernel
theorem dX4_sets_11 : decode cX4_sets 11 = .ok (.ireturn, 1) := by decide +kernel
theorem dX4_sets_12 : decode cX4_sets 12 = .ok (.iconst 0, 1) := by decide +kernel
theorem dX4_sets_13 : decode cX4_sets 13 = .ok (.istore_n 3, 1) := by decide +kernel
theorem dX4_sets_14 : decode cX4_sets 14 = .ok (.bipush (-9), 2) := by decide +kernel
theorem dX4_sets_16 : decode cX4_sets 16 = .ok (.istore 4, 2) := by decide +kernel
theorem dX4_sets_18 : decode cX4_sets 18 = .ok (.iconst 0, 1) := by decide +kernel
theorem dX4_sets_19 : decode cX4_sets 19 = .ok (.istore 5, 2) := by decide +kernel
theorem dX4_sets_21 : decode cX4_sets 21 = .ok (.iload 5, 2) := by decide +kernel
theorem dX4_sets_23 : decode cX4_sets 23 = .ok (.aload_n 0, 1) := by decide +kernel
theorem dX4_sets_24 : decode cX4_sets 24 = .ok (.getfield 36, 3) := by decide +kernel
theorem dX4_sets_27 : decode cX4_sets 27 = .ok (.invokevirtual 201, 3) := by decide +kernel
theorem dX4_sets_30 : decode cX4_sets 30 = .ok (.if_icmp .gt 41, 3) := by decide +kernel
theorem dX4_sets_33 : decode cX4_sets 33 = .ok (.aload_n 0, 1) := by decide +kernel
theorem dX4_sets_34 : decode cX4_sets 34 = .ok (.getfield 36, 3) := by decide +kernel
theorem dX4_sets_37 : decode cX4_sets 37 = .ok (.iload 5, 2) := by decide +kernel
theorem dX4_sets_39 : decode cX4_sets 39 = .ok (.invokevirtual 243, 3) := by decide +kernel
theorem dX4_sets_42 : decode cX4_sets 42 = .ok (.iload_n 1, 1) := by decide +kernel
theorem dX4_sets_43 : decode cX4_sets 43 = .ok (.if_icmp .ne 22, 3) := by decide +kernel
theorem dX4_sets_46 : decode cX4_sets 46 = .ok (.iinc 3 1, 3) := by decide +kernel
theorem dX4_sets_49 : decode cX4_sets 49 = .ok (.iload 4, 2) := by decide +kernel
theorem dX4_sets_51 : decode cX4_sets 51 = .ok (.bipush (-9), 2) := by decide +kernel
theorem dX4_sets_53 : decode cX4_sets 53 = .ok (.if_icmp .ne 8, 3) := by decide +kernel
theorem dX4_sets_56 : decode cX4_sets 56 = .ok (.iload 5, 2) := by decide +kernel
theorem dX4_sets_58 : decode cX4_sets 58 = .ok (.goto 5, 3) := by decide +kernel
theorem dX4_sets_61 : decode cX4_sets 61 = .ok (.iload 4, 2) := by decide +kernel
theorem dX4_sets_63 : decode cX4_sets 63 = .ok (.istore 4, 2) := by decide +kernel
theorem dX4_sets_65 : decode cX4_sets 65 = .ok (.iinc 5 1, 3) := by decide +kernel
theorem dX4_sets_68 : decode cX4_sets 68 = .ok (.goto (-47), 3) := by decide +kernel
theorem dX4_sets_71 : decode cX4_sets 71 = .ok (.aload_n 0, 1) := by decide +kernel
theorem dX4_sets_72 : decode cX4_sets 72 = .ok (.iload_n 3, 1) := by decide +kernel
theorem dX4_sets_73 : decode cX4_sets 73 = .ok (.i2l, 1) := by decide +kernel
theorem dX4_sets_74 : decode cX4_sets 74 = .ok (.lconst 1, 1) := by decide +kernel
theorem dX4_sets_75 : decode cX4_sets 75 = .ok (.invokevirtual 227, 3) := by decide +kernel
theorem dX4_sets_78 : decode cX4_sets 78 = .ok (.aload_n 0, 1) := by decide +kernel
theorem dX4_sets_79 : decode cX4_sets 79 = .ok (.iload 4, 2) := by decide +kernel
theorem dX4_sets_81 : decode cX4_sets 81 = .ok (.invokevirtual 101, 3) := by decide +kernel
theorem dX4_sets_84 : decode cX4_sets 84 = .ok (.ireturn, 1) := by decide +kernel
theorem dX4_sure_0 : decode cX4_sure 0 = .ok (.aload_n 0, 1) := by decide +kernel
theorem dX4_sure_1 : decode cX4_sure 1 = .ok (.iload_n 1, 1) := by decide +kernel
theorem dX4_sure_2 : decode cX4_sure 2 = .ok (.invokevirtual 240, 3) := by decide +kernel
theorem dX4_sure_5 : decode cX4_sure 5 = .ok (.istore_n 2, 1) := by decide +kernel
theorem dX4_sure_6 : decode cX4_sure 6 = .ok (.iload_n 2, 1) := by decide +kernel
theorem dX4_sure_7 : decode cX4_sure 7 = .ok (.ifCond .eq 5, 3) := by decide +kernel
theorem dX4_sure_10 : decode cX4_sure 10 = .ok (.iload_n 2, 1) := by decide +kernel
theorem dX4_sure_11 : decode cX4_sure 11 = .ok (.ireturn, 1) := by decide +kernel
theorem dX4_sure_12 : decode cX4_sure 12 = .ok (.aload_n 0, 1) := by decide +kernel
theorem dX4_sure_13 : decode cX4_sure 13 = .ok (.getfield 36, 3) := by decide +kernel
theorem dX4_sure_16 : decode cX4_sure 16 = .ok (.invokevirtual 201, 3) := by decide +kernel
theorem dX4_sure_19 : decode cX4_sure 19 = .ok (.istore_n 3, 1) := by decide +kernel
theorem dX4_sure_20 : decode cX4_sure 20 = .ok (.iconst 0, 1) := by decide +kernel
theorem dX4_sure_21 : decode cX4_sure 21 = .ok (.istore 4, 2) := by decide +kernel
theorem dX4_sure_23 : decode cX4_sure 23 = .ok (.iconst 0, 1) := by decide +kernel
theorem dX4_sure_24 : decode cX4_sure 24 = .ok (.istore 5, 2) := by decide +kernel
theorem dX4_sure_26 : decode cX4_sure 26 = .ok (.iconst 0, 1) := by decide +kernel
theorem dX4_sure_27 : decode cX4_sure 27 = .ok (.istore 6, 2) := by decide +kernel
theorem dX4_sure_29 : decode cX4_sure 29 = .ok (.iload 6, 2) := by decide +kernel
theorem dX4_sure_31 : decode cX4_sure 31 = .ok (.aload_n 0, 1) := by decide +kernel
theorem dX4_sure_32 : decode cX4_sure 32 = .ok (.getfield 36, 3) := by decide +kernel
theorem dX4_sure_35 : decode cX4_sure 35 = .ok (.invokevirtual 201, 3) := by decide +kernel
theorem dX4_sure_38 : decode cX4_sure 38 = .ok (.if_icmp .gt 37, 3) := by decide +kernel
theorem dX4_sure_41 : decode cX4_sure 41 = .ok (.aload_n 0, 1) := by decide +kernel
theorem dX4_sure_42 : decode cX4_sure 42 = .ok (.getfield 36, 3) := by decide +kernel
theorem dX4_sure_45 : decode cX4_sure 45 = .ok (.iload 6, 2) := by decide +kernel
theorem dX4_sure_47 : decode cX4_sure 47 = .ok (.invokevirtual 243, 3) := by decide +kernel
theorem dX4_sure_50 : decode cX4_sure 50 = .ok (.iload_n 1, 1) := by decide +kernel
theorem dX4_sure_51 : decode cX4_sure 51 = .ok (.if_icmp .ne 18, 3) := by decide +kernel
theorem dX4_sure_54 : decode cX4_sure 54 = .ok (.iconst 1, 1) := by decide +kernel
theorem dX4_sure_55 : decode cX4_sure 55 = .ok (.istore 5, 2) := by decide +kernel
theorem dX4_sure_57 : decode cX4_sure 57 = .ok (.iload_n 3, 1) := by decide +kernel
theorem dX4_sure_58 : decode cX4_sure 58 = .ok (.iload 6, 2) := by decide +kernel
theorem dX4_sure_60 : decode cX4_sure 60 = .ok (.iand, 1) := by decide +kernel
theorem dX4_sure_61 : decode cX4_sure 61 = .ok (.istore_n 3, 1) := by decide +kernel
theorem dX4_sure_62 : decode cX4_sure 62 = .ok (.iload 4, 2) := by decide +kernel
theorem dX4_sure_64 : decode cX4_sure 64 = .ok (.iload 6, 2) := by decide +kernel
theorem dX4_sure_66 : decode cX4_sure 66 = .ok (.ior, 1) := by decide +kernel
theorem dX4_sure_67 : decode cX4_sure 67 = .ok (.istore 4, 2) := by decide +kernel
theorem dX4_sure_69 : decode cX4_sure 69 = .ok (.iinc 6 1, 3) := by decide +kernel
theorem dX4_sure_72 : decode cX4_sure 72 = .ok (.goto (-43), 3) := by decide +kernel
theorem dX4_sure_75 : decode cX4_sure 75 = .ok (.iload 5, 2) := by decide +kernel
theorem dX4_sure_77 : decode cX4_sure 77 = .ok (.ifCond .ne 9, 3) := by decide +kernel
theorem dX4_sure_80 : decode cX4_sure 80 = .ok (.aload_n 0, 1) := by decide +kernel
theorem dX4_sure_81 : decode cX4_sure 81 = .ok (.iconst 4, 1) := by decide +kernel
theorem dX4_sure_82 : decode cX4_sure 82 = .ok (.invokevirtual 93, 3) := by decide +kernel
theorem dX4_sure_85 : decode cX4_sure 85 = .ok (.ireturn, 1) := by decide +kernel
theorem dX4_sure_86 : decode cX4_sure 86 = .ok (.aload_n 0, 1) := by decide +kernel
theorem dX4_sure_87 : decode cX4_sure 87 = .ok (.aload_n 0, 1) := by decide +kernel
theorem dX4_sure_88 : decode cX4_sure 88 = .ok (.getfield 36, 3) := by decide +kernel
theorem dX4_sure_91 : decode cX4_sure 91 = .ok (.invokevirtual 201, 3) := by decide +kernel
theorem dX4_sure_94 : decode cX4_sure 94 = .ok (.iload 4, 2) := by decide +kernel
theorem dX4_sure_96 : decode cX4_sure 96 = .ok (.iconst (-1), 1) := by decide +kernel
theorem dX4_sure_97 : decode cX4_sure 97 = .ok (.ixor, 1) := by decide +kernel
theorem dX4_sure_98 : decode cX4_sure 98 = .ok (.iand, 1) := by decide +kernel
theorem dX4_sure_99 : decode cX4_sure 99 = .ok (.invokevirtual 101, 3) := by decide +kernel
theorem dX4_sure_102 : decode cX4_sure 102 = .ok (.pop, 1) := by decide +kernel
theorem dX4_sure_103 : decode cX4_sure 103 = .ok (.iload_n 3, 1) := by decide +kernel
theorem dX4_sure_104 : decode cX4_sure 104 = .ok (.ireturn, 1) := by decide +kernel
theorem dX4_duel_0 : decode cX4_duel 0 = .ok (.iload_n 1, 1) := by decide +kernel
theorem dX4_duel_1 : decode cX4_duel 1 = .ok (.ifCond .lt 8, 3) := by decide +kernel
theorem dX4_duel_4 : decode cX4_duel 4 = .ok (.iload_n 1, 1) := by decide +kernel
theorem dX4_duel_5 : decode cX4_duel 5 = .ok (.iconst 2, 1) := by decide +kernel
theorem dX4_duel_6 : decode cX4_duel 6 = .ok (.if_icmp .le 5, 3) := by decide +kernel
theorem dX4_duel_9 : decode cX4_duel 9 = .ok (.iconst (-1), 1) := by decide +kernel
theorem dX4_duel_10 : decode cX4_duel 10 = .ok (.ireturn, 1) := by decide +kernel
theorem dX4_duel_11 : decode cX4_duel 11 = .ok (.aload_n 0, 1) := by decide +kernel
theorem dX4_duel_12 : decode cX4_duel 12 = .ok (.getfield 36, 3) := by decide +kernel
theorem dX4_duel_15 : decode cX4_duel 15 = .ok (.getfield 128, 3) := by decide +kernel
theorem dX4_duel_18 : decode cX4_duel 18 = .ok (.ifCond .ne 6, 3) := by decide +kernel
theorem dX4_duel_21 : decode cX4_duel 21 = .ok (.bipush (-4), 2) := by decide +kernel
theorem dX4_duel_23 : decode cX4_duel 23 = .ok (.ireturn, 1) := by decide +kernel
theorem dX4_duel_24 : decode cX4_duel 24 = .ok (.aload_n 0, 1) := by decide +kernel
theorem dX4_duel_25 : decode cX4_duel 25 = .ok (.getfield 36, 3) := by decide +kernel
theorem dX4_duel_28 : decode cX4_duel 28 = .ok (.invokevirtual 201, 3) := by decide +kernel
theorem dX4_duel_31 : decode cX4_duel 31 = .ok (.iconst 1, 1) := by decide +kernel
theorem dX4_duel_32 : decode cX4_duel 32 = .ok (.iadd, 1) := by decide +kernel
theorem dX4_duel_33 : decode cX4_duel 33 = .ok (.istore_n 2, 1) := by decide +kernel
theorem dX4_duel_34 : decode cX4_duel 34 = .ok (.iconst 0, 1) := by decide +kernel
theorem dX4_duel_35 : decode cX4_duel 35 = .ok (.istore_n 3, 1) := by decide +kernel
theorem dX4_duel_36 : decode cX4_duel 36 = .ok (.iload_n 3, 1) := by decide +kernel
theorem dX4_duel_37 : decode cX4_duel 37 = .ok (.iload_n 2, 1) := by decide +kernel
theorem dX4_duel_38 : decode cX4_duel 38 = .ok (.if_icmp .ge 23, 3) := by decide +kernel
theorem dX4_duel_41 : decode cX4_duel 41 = .ok (.aload_n 0, 1) := by decide +kernel
theorem dX4_duel_42 : decode cX4_duel 42 = .ok (.getfield 57, 3) := by decide +kernel
theorem dX4_duel_45 : decode cX4_duel 45 = .ok (.iload_n 3, 1) := by decide +kernel
theorem dX4_duel_46 : decode cX4_duel 46 = .ok (.aload_n 0, 1) := by decide +kernel
theorem dX4_duel_47 : decode cX4_duel 47 = .ok (.iload_n 3, 1) := by decide +kernel
theorem dX4_duel_48 : decode cX4_duel 48 = .ok (.invokevirtual 212, 3) := by decide +kernel
theorem dX4_duel_51 : decode cX4_duel 51 = .ok (.invokestatic 246, 3) := by decide +kernel
theorem dX4_duel_54 : decode cX4_duel 54 = .ok (.iastore, 1) := by decide +kernel
theorem dX4_duel_55 : decode cX4_duel 55 = .ok (.iinc 3 1, 3) := by decide +kernel
theorem dX4_duel_58 : decode cX4_duel 58 = .ok (.goto (-22), 3) := by decide +kernel
theorem dX4_duel_61 : decode cX4_duel 61 = .ok (.iconst 2, 1) := by decide +kernel
theorem dX4_duel_62 : decode cX4_duel 62 = .ok (.iload_n 1, 1) := by decide +kernel
theorem dX4_duel_63 : decode cX4_duel 63 = .ok (.imul, 1) := by decide +kernel
theorem dX4_duel_64 : decode cX4_duel 64 = .ok (.iconst 1, 1) := by decide +kernel
theorem dX4_duel_65 : decode cX4_duel 65 = .ok (.isub, 1) := by decide +kernel
theorem dX4_duel_66 : decode cX4_duel 66 = .ok (.istore_n 3, 1) := by decide +kernel
theorem dX4_duel_67 : decode cX4_duel 67 = .ok (.iload_n 3, 1) := by decide +kernel
theorem dX4_duel_68 : decode cX4_duel 68 = .ok (.ifCond .lt 62, 3) := by decide +kernel
theorem dX4_duel_71 : decode cX4_duel 71 = .ok (.iconst 0, 1) := by decide +kernel
theorem dX4_duel_72 : decode cX4_duel 72 = .ok (.istore 4, 2) := by decide +kernel
theorem dX4_duel_74 : decode cX4_duel 74 = .ok (.iload 4, 2) := by decide +kernel
theorem dX4_duel_76 : decode cX4_duel 76 = .ok (.iload_n 2, 1) := by decide +kernel
theorem dX4_duel_77 : decode cX4_duel 77 = .ok (.if_icmp .ge 33, 3) := by decide +kernel
theorem dX4_duel_80 : decode cX4_duel 80 = .ok (.aload_n 0, 1) := by decide +kernel
theorem dX4_duel_81 : decode cX4_duel 81 = .ok (.getfield 60, 3) := by decide +kernel
theorem dX4_duel_84 : decode cX4_duel 84 = .ok (.iload 4, 2) := by decide +kernel
theorem dX4_duel_86 : decode cX4_duel 86 = .ok (.aload_n 0, 1) := by decide +kernel
theorem dX4_duel_87 : decode cX4_duel 87 = .ok (.iload 4, 2) := by decide +kernel
theorem dX4_duel_89 : decode cX4_duel 89 = .ok (.iload_n 3, 1) := by decide +kernel
theorem dX4_duel_90 : decode cX4_duel 90 = .ok (.iconst 2, 1) := by decide +kernel
theorem dX4_duel_91 : decode cX4_duel 91 = .ok (.irem, 1) := by decide +kernel
theorem dX4_duel_92 : decode cX4_duel 92 = .ok (.ifCond .ne 7, 3) := by decide +kernel
theorem dX4_duel_95 : decode cX4_duel 95 = .ok (.iconst 1, 1) := by decide +kernel
theorem dX4_duel_96 : decode cX4_duel 96 = .ok (.goto 4, 3) := by decide +kernel
theorem dX4_duel_99 : decode cX4_duel 99 = .ok (.iconst 0, 1) := by decide +kernel
theorem dX4_duel_100 : decode cX4_duel 100 = .ok (.invokevirtual 249, 3) := by decide +kernel
theorem dX4_duel_103 : decode cX4_duel 103 = .ok (.iastore, 1) := by decide +kernel
theorem dX4_duel_104 : decode cX4_duel 104 = .ok (.iinc 4 1, 3) := by decide +kernel
theorem dX4_duel_107 : decode cX4_duel 107 = .ok (.goto (-33), 3) := by decide +kernel
theorem dX4_duel_110 : decode cX4_duel 110 = .ok (.aload_n 0, 1) := by decide +kernel
theorem dX4_duel_111 : decode cX4_duel 111 = .ok (.getfield 60, 3) := by decide +kernel
theorem dX4_duel_114 : decode cX4_duel 114 = .ok (.iconst 0, 1) := by decide +kernel
theorem dX4_duel_115 : decode cX4_duel 115 = .ok (.aload_n 0, 1) := by decide +kernel
theorem dX4_duel_116 : decode cX4_duel 116 = .ok (.getfield 57, 3) := by decide +kernel
theorem dX4_duel_119 : decode cX4_duel 119 = .ok (.iconst 0, 1) := by decide +kernel
theorem dX4_duel_120 : decode cX4_duel 120 = .ok (.iload_n 2, 1) := by decide +kernel
theorem dX4_duel_121 : decode cX4_duel 121 = .ok (.invokestatic 108, 3) := by decide +kernel
theorem dX4_duel_124 : decode cX4_duel 124 = .ok (.iinc 3 (-1), 3) := by decide +kernel
theorem dX4_duel_127 : decode cX4_duel 127 = .ok (.goto (-60), 3) := by decide +kernel
theorem dX4_duel_130 : decode cX4_duel 130 = .ok (.aload_n 0, 1) := by decide +kernel
theorem dX4_duel_131 : decode cX4_duel 131 = .ok (.aload_n 0, 1) := by decide +kernel
theorem dX4_duel_132 : decode cX4_duel 132 = .ok (.getfield 57, 3) := by decide +kernel
theorem dX4_duel_135 : decode cX4_duel 135 = .ok (.aload_n 0, 1) := by decide +kernel
theorem dX4_duel_136 : decode cX4_duel 136 = .ok (.getfield 36, 3) := by decide +kernel
theorem dX4_duel_139 : decode cX4_duel 139 = .ok (.getfield 204, 3) := by decide +kernel
theorem dX4_duel_142 : decode cX4_duel 142 = .ok (.iaload, 1) := by decide +kernel
theorem dX4_duel_143 : decode cX4_duel 143 = .ok (.invokevirtual 101, 3) := by decide +kernel
theorem dX4_duel_146 : decode cX4_duel 146 = .ok (.ireturn, 1) := by decide +kernel
theorem dX4_odds_0 : decode cX4_odds 0 = .ok (.aload_n 0, 1) := by decide +kernel
theorem dX4_odds_1 : decode cX4_odds 1 = .ok (.getfield 36, 3) := by decide +kernel
theorem dX4_odds_4 : decode cX4_odds 4 = .ok (.iload_n 1, 1) := by decide +kernel
theorem dX4_odds_5 : decode cX4_odds 5 = .ok (.invokevirtual 131, 3) := by decide +kernel
theorem dX4_odds_8 : decode cX4_odds 8 = .ok (.ifCond .eq 13, 3) := by decide +kernel
theorem dX4_odds_11 : decode cX4_odds 11 = .ok (.iload_n 2, 1) := by decide +kernel
theorem dX4_odds_12 : decode cX4_odds 12 = .ok (.ifCond .lt 9, 3) := by decide +kernel
theorem dX4_odds_15 : decode cX4_odds 15 = .ok (.iload_n 2, 1) := by decide +kernel
theorem dX4_odds_16 : decode cX4_odds 16 = .ok (.bipush 12, 2) := by decide +kernel
theorem dX4_odds_18 : decode cX4_odds 18 = .ok (.if_icmp .le 5, 3) := by decide +kernel
theorem dX4_odds_21 : decode cX4_odds 21 = .ok (.iconst (-1), 1) := by decide +kernel
theorem dX4_odds_22 : decode cX4_odds 22 = .ok (.ireturn, 1) := by decide +kernel
theorem dX4_odds_23 : decode cX4_odds 23 = .ok (.aload_n 0, 1) := by decide +kernel
theorem dX4_odds_24 : decode cX4_odds 24 = .ok (.iload_n 1, 1) := by decide +kernel
theorem dX4_odds_25 : decode cX4_odds 25 = .ok (.iload_n 2, 1) := by decide +kernel
theorem dX4_odds_26 : decode cX4_odds 26 = .ok (.invokevirtual 253, 3) := by decide +kernel
theorem dX4_odds_29 : decode cX4_odds 29 = .ok (.iconst 1, 1) := by decide +kernel
theorem dX4_odds_30 : decode cX4_odds 30 = .ok (.ireturn, 1) := by decide +kernel
theorem dX4_mid_0 : decode cX4_mid 0 = .ok (.iload_n 1, 1) := by decide +kernel
theorem dX4_mid_1 : decode cX4_mid 1 = .ok (.ifCond .lt 9, 3) := by decide +kernel
theorem dX4_mid_4 : decode cX4_mid 4 = .ok (.iload_n 1, 1) := by decide +kernel
theorem dX4_mid_5 : decode cX4_mid 5 = .ok (.bipush 12, 2) := by decide +kernel
theorem dX4_mid_7 : decode cX4_mid 7 = .ok (.if_icmp .le 5, 3) := by decide +kernel
theorem dX4_mid_10 : decode cX4_mid 10 = .ok (.iconst (-1), 1) := by decide +kernel
theorem dX4_mid_11 : decode cX4_mid 11 = .ok (.ireturn, 1) := by decide +kernel
theorem dX4_mid_12 : decode cX4_mid 12 = .ok (.aload_n 0, 1) := by decide +kernel
theorem dX4_mid_13 : decode cX4_mid 13 = .ok (.getfield 36, 3) := by decide +kernel
theorem dX4_mid_16 : decode cX4_mid 16 = .ok (.getfield 128, 3) := by decide +kernel
theorem dX4_mid_19 : decode cX4_mid 19 = .ok (.ifCond .ne 6, 3) := by decide +kernel
theorem dX4_mid_22 : decode cX4_mid 22 = .ok (.bipush (-4), 2) := by decide +kernel
theorem dX4_mid_24 : decode cX4_mid 24 = .ok (.ireturn, 1) := by decide +kernel
theorem dX4_mid_25 : decode cX4_mid 25 = .ok (.aload_n 0, 1) := by decide +kernel
theorem dX4_mid_26 : decode cX4_mid 26 = .ok (.bipush (-9), 2) := by decide +kernel
theorem dX4_mid_28 : decode cX4_mid 28 = .ok (.iload_n 1, 1) := by decide +kernel
theorem dX4_mid_29 : decode cX4_mid 29 = .ok (.invokevirtual 253, 3) := by decide +kernel
theorem dX4_mid_32 : decode cX4_mid 32 = .ok (.iconst 1, 1) := by decide +kernel
theorem dX4_mid_33 : decode cX4_mid 33 = .ok (.ireturn, 1) := by decide +kernel
theorem dX4_lots_0 : decode cX4_lots 0 = .ok (.iload_n 1, 1) := by decide +kernel
theorem dX4_lots_1 : decode cX4_lots 1 = .ok (.iconst 1, 1) := by decide +kernel
theorem dX4_lots_2 : decode cX4_lots 2 = .ok (.if_icmp .lt 23, 3) := by decide +kernel
theorem dX4_lots_5 : decode cX4_lots 5 = .ok (.iload_n 1, 1) := by decide +kernel
theorem dX4_lots_6 : decode cX4_lots 6 = .ok (.bipush 20, 2) := by decide +kernel
theorem dX4_lots_8 : decode cX4_lots 8 = .ok (.if_icmp .gt 17, 3) := by decide +kernel
theorem dX4_lots_11 : decode cX4_lots 11 = .ok (.iload_n 2, 1) := by decide +kernel
theorem dX4_lots_12 : decode cX4_lots 12 = .ok (.iconst 1, 1) := by decide +kernel
theorem dX4_lots_13 : decode cX4_lots 13 = .ok (.if_icmp .lt 12, 3) := by decide +kernel
theorem dX4_lots_16 : decode cX4_lots 16 = .ok (.iload_n 2, 1) := by decide +kernel
theorem dX4_lots_17 : decode cX4_lots 17 = .ok (.i2l, 1) := by decide +kernel
theorem dX4_lots_18 : decode cX4_lots 18 = .ok (.ldc2_w 257, 3) := by decide +kernel
theorem dX4_lots_21 : decode cX4_lots 21 = .ok (.lcmp, 1) := by decide +kernel
theorem dX4_lots_22 : decode cX4_lots 22 = .ok (.ifCond .lt 5, 3) := by decide +kernel
theorem dX4_lots_25 : decode cX4_lots 25 = .ok (.iconst (-1), 1) := by decide +kernel
theorem dX4_lots_26 : decode cX4_lots 26 = .ok (.ireturn, 1) := by decide +kernel
theorem dX4_lots_27 : decode cX4_lots 27 = .ok (.aload_n 0, 1) := by decide +kernel
theorem dX4_lots_28 : decode cX4_lots 28 = .ok (.getfield 36, 3) := by decide +kernel
theorem dX4_lots_31 : decode cX4_lots 31 = .ok (.getfield 128, 3) := by decide +kernel
theorem dX4_lots_34 : decode cX4_lots 34 = .ok (.ifCond .ne 6, 3) := by decide +kernel
theorem dX4_lots_37 : decode cX4_lots 37 = .ok (.bipush (-4), 2) := by decide +kernel
theorem dX4_lots_39 : decode cX4_lots 39 = .ok (.ireturn, 1) := by decide +kernel
theorem dX4_lots_40 : decode cX4_lots 40 = .ok (.aload_n 0, 1) := by decide +kernel
theorem dX4_lots_41 : decode cX4_lots 41 = .ok (.getfield 46, 3) := by decide +kernel
theorem dX4_lots_44 : decode cX4_lots 44 = .ok (.getfield 86, 3) := by decide +kernel
theorem dX4_lots_47 : decode cX4_lots 47 = .ok (.iload_n 1, 1) := by decide +kernel
theorem dX4_lots_48 : decode cX4_lots 48 = .ok (.iadd, 1) := by decide +kernel
theorem dX4_lots_49 : decode cX4_lots 49 = .ok (.bipush 40, 2) := by decide +kernel
theorem dX4_lots_51 : decode cX4_lots 51 = .ok (.if_icmp .le 6, 3) := by decide +kernel
theorem dX4_lots_54 : decode cX4_lots 54 = .ok (.bipush (-2), 2) := by decide +kernel
theorem dX4_lots_56 : decode cX4_lots 56 = .ok (.ireturn, 1) := by decide +kernel
theorem dX4_lots_57 : decode cX4_lots 57 = .ok (.iload_n 2, 1) := by decide +kernel
theorem dX4_lots_58 : decode cX4_lots 58 = .ok (.i2l, 1) := by decide +kernel
theorem dX4_lots_59 : decode cX4_lots 59 = .ok (.lstore_n 3, 1) := by decide +kernel
theorem dX4_lots_60 : decode cX4_lots 60 = .ok (.iconst 0, 1) := by decide +kernel
theorem dX4_lots_61 : decode cX4_lots 61 = .ok (.istore 5, 2) := by decide +kernel
theorem dX4_lots_63 : decode cX4_lots 63 = .ok (.iload 5, 2) := by decide +kernel
theorem dX4_lots_65 : decode cX4_lots 65 = .ok (.iload_n 1, 1) := by decide +kernel
theorem dX4_lots_66 : decode cX4_lots 66 = .ok (.if_icmp .ge 25, 3) := by decide +kernel
theorem dX4_lots_69 : decode cX4_lots 69 = .ok (.lload_n 3, 1) := by decide +kernel
theorem dX4_lots_70 : decode cX4_lots 70 = .ok (.ldc2_w 259, 3) := by decide +kernel
theorem dX4_lots_73 : decode cX4_lots 73 = .ok (.lmul, 1) := by decide +kernel
theorem dX4_lots_74 : decode cX4_lots 74 = .ok (.ldc2_w 257, 3) := by decide +kernel
theorem dX4_lots_77 : decode cX4_lots 77 = .ok (.lrem, 1) := by decide +kernel
theorem dX4_lots_78 : decode cX4_lots 78 = .ok (.lstore_n 3, 1) := by decide +kernel
theorem dX4_lots_79 : decode cX4_lots 79 = .ok (.aload_n 0, 1) := by decide +kernel
theorem dX4_lots_80 : decode cX4_lots 80 = .ok (.lload_n 3, 1) := by decide +kernel
theorem dX4_lots_81 : decode cX4_lots 81 = .ok (.l2i, 1) := by decide +kernel
theorem dX4_lots_82 : decode cX4_lots 82 = .ok (.invokevirtual 261, 3) := by decide +kernel
theorem dX4_lots_85 : decode cX4_lots 85 = .ok (.iinc 5 1, 3) := by decide +kernel
theorem dX4_lots_88 : decode cX4_lots 88 = .ok (.goto (-25), 3) := by decide +kernel
theorem dX4_lots_91 : decode cX4_lots 91 = .ok (.aload_n 0, 1) := by decide +kernel
theorem dX4_lots_92 : decode cX4_lots 92 = .ok (.getfield 36, 3) := by decide +kernel
theorem dX4_lots_95 : decode cX4_lots 95 = .ok (.getfield 152, 3) := by decide +kernel
theorem dX4_lots_98 : decode cX4_lots 98 = .ok (.ireturn, 1) := by decide +kernel
theorem dX4_asked_0 : decode cX4_asked 0 = .ok (.aload_n 0, 1) := by decide +kernel
theorem dX4_asked_1 : decode cX4_asked 1 = .ok (.getfield 70, 3) := by decide +kernel
theorem dX4_asked_4 : decode cX4_asked 4 = .ok (.ireturn, 1) := by decide +kernel
theorem dX4_upper_0 : decode cX4_upper 0 = .ok (.aload_n 0, 1) := by decide +kernel
theorem dX4_upper_1 : decode cX4_upper 1 = .ok (.getfield 73, 3) := by decide +kernel
theorem dX4_upper_4 : decode cX4_upper 4 = .ok (.lreturn, 1) := by decide +kernel
theorem dX4_lower_0 : decode cX4_lower 0 = .ok (.aload_n 0, 1) := by decide +kernel
theorem dX4_lower_1 : decode cX4_lower 1 = .ok (.getfield 77, 3) := by decide +kernel
theorem dX4_lower_4 : decode cX4_lower 4 = .ok (.lreturn, 1) := by decide +kernel
theorem dX4_count_0 : decode cX4_count 0 = .ok (.iload_n 1, 1) := by decide +kernel
theorem dX4_count_1 : decode cX4_count 1 = .ok (.tableswitch 196 0 13 #[71, 79, 87, 95, 103, 111, 119, 127, 142, 157, 166, 175, 183, 191], 71) := by decide +kernel
theorem dX4_count_72 : decode cX4_count 72 = .ok (.aload_n 0, 1) := by decide +kernel
theorem dX4_count_73 : decode cX4_count 73 = .ok (.getfield 36, 3) := by decide +kernel
theorem dX4_count_76 : decode cX4_count 76 = .ok (.getfield 128, 3) := by decide +kernel
theorem dX4_count_79 : decode cX4_count 79 = .ok (.ireturn, 1) := by decide +kernel
theorem dX4_count_80 : decode cX4_count 80 = .ok (.aload_n 0, 1) := by decide +kernel
theorem dX4_count_81 : decode cX4_count 81 = .ok (.getfield 36, 3) := by decide +kernel
theorem dX4_count_84 : decode cX4_count 84 = .ok (.getfield 152, 3) := by decide +kernel
theorem dX4_count_87 : decode cX4_count 87 = .ok (.ireturn, 1) := by decide +kernel
theorem dX4_count_88 : decode cX4_count 88 = .ok (.aload_n 0, 1) := by decide +kernel
theorem dX4_count_89 : decode cX4_count 89 = .ok (.getfield 36, 3) := by decide +kernel
theorem dX4_count_92 : decode cX4_count 92 = .ok (.getfield 175, 3) := by decide +kernel
theorem dX4_count_95 : decode cX4_count 95 = .ok (.ireturn, 1) := by decide +kernel
theorem dX4_count_96 : decode cX4_count 96 = .ok (.aload_n 0, 1) := by decide +kernel
theorem dX4_count_97 : decode cX4_count 97 = .ok (.getfield 36, 3) := by decide +kernel
theorem dX4_count_100 : decode cX4_count 100 = .ok (.getfield 163, 3) := by decide +kernel
theorem dX4_count_103 : decode cX4_count 103 = .ok (.ireturn, 1) := by decide +kernel
theorem dX4_count_104 : decode cX4_count 104 = .ok (.aload_n 0, 1) := by decide +kernel
theorem dX4_count_105 : decode cX4_count 105 = .ok (.getfield 46, 3) := by decide +kernel
theorem dX4_count_108 : decode cX4_count 108 = .ok (.getfield 86, 3) := by decide +kernel
theorem dX4_count_111 : decode cX4_count 111 = .ok (.ireturn, 1) := by decide +kernel
theorem dX4_count_112 : decode cX4_count 112 = .ok (.aload_n 0, 1) := by decide +kernel
theorem dX4_count_113 : decode cX4_count 113 = .ok (.getfield 36, 3) := by decide +kernel
theorem dX4_count_116 : decode cX4_count 116 = .ok (.getfield 204, 3) := by decide +kernel
theorem dX4_count_119 : decode cX4_count 119 = .ok (.ireturn, 1) := by decide +kernel
theorem dX4_count_120 : decode cX4_count 120 = .ok (.aload_n 0, 1) := by decide +kernel
theorem dX4_count_121 : decode cX4_count 121 = .ok (.getfield 36, 3) := by decide +kernel
theorem dX4_count_124 : decode cX4_count 124 = .ok (.getfield 265, 3) := by decide +kernel
theorem dX4_count_127 : decode cX4_count 127 = .ok (.ireturn, 1) := by decide +kernel
theorem dX4_count_128 : decode cX4_count 128 = .ok (.aload_n 0, 1) := by decide +kernel
theorem dX4_count_129 : decode cX4_count 129 = .ok (.getfield 36, 3) := by decide +kernel
theorem dX4_count_132 : decode cX4_count 132 = .ok (.aload_n 0, 1) := by decide +kernel
theorem dX4_count_133 : decode cX4_count 133 = .ok (.getfield 36, 3) := by decide +kernel
theorem dX4_count_136 : decode cX4_count 136 = .ok (.getfield 146, 3) := by decide +kernel
theorem dX4_count_139 : decode cX4_count 139 = .ok (.invokevirtual 268, 3) := by decide +kernel
theorem dX4_count_142 : decode cX4_count 142 = .ok (.ireturn, 1) := by decide +kernel
theorem dX4_count_143 : decode cX4_count 143 = .ok (.aload_n 0, 1) := by decide +kernel
theorem dX4_count_144 : decode cX4_count 144 = .ok (.getfield 36, 3) := by decide +kernel
theorem dX4_count_147 : decode cX4_count 147 = .ok (.aload_n 0, 1) := by decide +kernel
theorem dX4_count_148 : decode cX4_count 148 = .ok (.getfield 36, 3) := by decide +kernel
theorem dX4_count_151 : decode cX4_count 151 = .ok (.getfield 195, 3) := by decide +kernel
theorem dX4_count_154 : decode cX4_count 154 = .ok (.invokevirtual 268, 3) := by decide +kernel
theorem dX4_count_157 : decode cX4_count 157 = .ok (.ireturn, 1) := by decide +kernel
theorem dX4_count_158 : decode cX4_count 158 = .ok (.aload_n 0, 1) := by decide +kernel
theorem dX4_count_159 : decode cX4_count 159 = .ok (.getfield 36, 3) := by decide +kernel
theorem dX4_count_162 : decode cX4_count 162 = .ok (.iconst 1, 1) := by decide +kernel
theorem dX4_count_163 : decode cX4_count 163 = .ok (.invokevirtual 272, 3) := by decide +kernel
theorem dX4_count_166 : decode cX4_count 166 = .ok (.ireturn, 1) := by decide +kernel
theorem dX4_count_167 : decode cX4_count 167 = .ok (.aload_n 0, 1) := by decide +kernel
theorem dX4_count_168 : decode cX4_count 168 = .ok (.getfield 36, 3) := by decide +kernel
theorem dX4_count_171 : decode cX4_count 171 = .ok (.iconst 3, 1) := by decide +kernel
theorem dX4_count_172 : decode cX4_count 172 = .ok (.invokevirtual 272, 3) := by decide +kernel
theorem dX4_count_175 : decode cX4_count 175 = .ok (.ireturn, 1) := by decide +kernel
theorem dX4_count_176 : decode cX4_count 176 = .ok (.aload_n 0, 1) := by decide +kernel
theorem dX4_count_177 : decode cX4_count 177 = .ok (.getfield 14, 3) := by decide +kernel
theorem dX4_count_180 : decode cX4_count 180 = .ok (.invokestatic 275, 3) := by decide +kernel
theorem dX4_count_183 : decode cX4_count 183 = .ok (.ireturn, 1) := by decide +kernel
theorem dX4_count_184 : decode cX4_count 184 = .ok (.aload_n 0, 1) := by decide +kernel
theorem dX4_count_185 : decode cX4_count 185 = .ok (.getfield 23, 3) := by decide +kernel
theorem dX4_count_188 : decode cX4_count 188 = .ok (.invokestatic 275, 3) := by decide +kernel
theorem dX4_count_191 : decode cX4_count 191 = .ok (.ireturn, 1) := by decide +kernel
theorem dX4_count_192 : decode cX4_count 192 = .ok (.aload_n 0, 1) := by decide +kernel
theorem dX4_count_193 : decode cX4_count 193 = .ok (.invokevirtual 278, 3) := by decide +kernel
theorem dX4_count_196 : decode cX4_count 196 = .ok (.ireturn, 1) := by decide +kernel
theorem dX4_count_197 : decode cX4_count 197 = .ok (.iconst (-1), 1) := by decide +kernel
theorem dX4_count_198 : decode cX4_count 198 = .ok (.ireturn, 1) := by decide +kernel
theorem dX4_finding_0 : decode cX4_finding 0 = .ok (.aload_n 0, 1) := by decide +kernel
theorem dX4_finding_1 : decode cX4_finding 1 = .ok (.getfield 66, 3) := by decide +kernel
theorem dX4_finding_4 : decode cX4_finding 4 = .ok (.ireturn, 1) := by decide +kernel
theorem dX4_findings_0 : decode cX4_findings 0 = .ok (.iload_n 1, 1) := by decide +kernel
theorem dX4_findings_1 : decode cX4_findings 1 = .ok (.iconst 1, 1) := by decide +kernel
theorem dX4_findings_2 : decode cX4_findings 2 = .ok (.if_icmp .lt 8, 3) := by decide +kernel
theorem dX4_findings_5 : decode cX4_findings 5 = .ok (.iload_n 1, 1) := by decide +kernel
theorem dX4_findings_6 : decode cX4_findings 6 = .ok (.iconst 5, 1) := by decide +kernel
theorem dX4_findings_7 : decode cX4_findings 7 = .ok (.if_icmp .le 7, 3) := by decide +kernel
theorem dX4_findings_10 : decode cX4_findings 10 = .ok (.iconst (-1), 1) := by decide +kernel
theorem dX4_findings_11 : decode cX4_findings 11 = .ok (.goto 9, 3) := by decide +kernel
theorem dX4_findings_14 : decode cX4_findings 14 = .ok (.aload_n 0, 1) := by decide +kernel
theorem dX4_findings_15 : decode cX4_findings 15 = .ok (.getfield 63, 3) := by decide +kernel
theorem dX4_findings_18 : decode cX4_findings 18 = .ok (.iload_n 1, 1) := by decide +kernel
theorem dX4_findings_19 : decode cX4_findings 19 = .ok (.iaload, 1) := by decide +kernel
theorem dX4_findings_20 : decode cX4_findings 20 = .ok (.ireturn, 1) := by decide +kernel
theorem dX4_digest_0 : decode cX4_digest 0 = .ok (.ldc2_w 281, 3) := by decide +kernel
theorem dX4_digest_3 : decode cX4_digest 3 = .ok (.lstore_n 1, 1) := by decide +kernel
theorem dX4_digest_4 : decode cX4_digest 4 = .ok (.iconst 0, 1) := by decide +kernel
theorem dX4_digest_5 : decode cX4_digest 5 = .ok (.istore_n 3, 1) := by decide +kernel
theorem dX4_digest_6 : decode cX4_digest 6 = .ok (.iload_n 3, 1) := by decide +kernel
theorem dX4_digest_7 : decode cX4_digest 7 = .ok (.bipush 14, 2) := by decide +kernel
theorem dX4_digest_9 : decode cX4_digest 9 = .ok (.if_icmp .ge 22, 3) := by decide +kernel
theorem dX4_digest_12 : decode cX4_digest 12 = .ok (.ldc2_w 283, 3) := by decide +kernel
theorem dX4_digest_15 : decode cX4_digest 15 = .ok (.lload_n 1, 1) := by decide +kernel
theorem dX4_digest_16 : decode cX4_digest 16 = .ok (.lmul, 1) := by decide +kernel
theorem dX4_digest_17 : decode cX4_digest 17 = .ok (.aload_n 0, 1) := by decide +kernel
theorem dX4_digest_18 : decode cX4_digest 18 = .ok (.iload_n 3, 1) := by decide +kernel
theorem dX4_digest_19 : decode cX4_digest 19 = .ok (.invokevirtual 285, 3) := by decide +kernel
theorem dX4_digest_22 : decode cX4_digest 22 = .ok (.i2l, 1) := by decide +kernel
theorem dX4_digest_23 : decode cX4_digest 23 = .ok (.ladd, 1) := by decide +kernel
theorem dX4_digest_24 : decode cX4_digest 24 = .ok (.lstore_n 1, 1) := by decide +kernel
theorem dX4_digest_25 : decode cX4_digest 25 = .ok (.iinc 3 1, 3) := by decide +kernel
theorem dX4_digest_28 : decode cX4_digest 28 = .ok (.goto (-22), 3) := by decide +kernel
theorem dX4_digest_31 : decode cX4_digest 31 = .ok (.iconst 0, 1) := by decide +kernel
theorem dX4_digest_32 : decode cX4_digest 32 = .ok (.istore_n 3, 1) := by decide +kernel
theorem dX4_digest_33 : decode cX4_digest 33 = .ok (.iload_n 3, 1) := by decide +kernel
theorem dX4_digest_34 : decode cX4_digest 34 = .ok (.aload_n 0, 1) := by decide +kernel
theorem dX4_digest_35 : decode cX4_digest 35 = .ok (.getfield 36, 3) := by decide +kernel
theorem dX4_digest_38 : decode cX4_digest 38 = .ok (.getfield 128, 3) := by decide +kernel
theorem dX4_digest_41 : decode cX4_digest 41 = .ok (.if_icmp .ge 40, 3) := by decide +kernel
theorem dX4_digest_44 : decode cX4_digest 44 = .ok (.iconst 0, 1) := by decide +kernel
theorem dX4_digest_45 : decode cX4_digest 45 = .ok (.istore 4, 2) := by decide +kernel
theorem dX4_digest_47 : decode cX4_digest 47 = .ok (.iload 4, 2) := by decide +kernel
theorem dX4_digest_49 : decode cX4_digest 49 = .ok (.bipush 8, 2) := by decide +kernel
theorem dX4_digest_51 : decode cX4_digest 51 = .ok (.if_icmp .ge 24, 3) := by decide +kernel
theorem dX4_digest_54 : decode cX4_digest 54 = .ok (.ldc2_w 283, 3) := by decide +kernel
theorem dX4_digest_57 : decode cX4_digest 57 = .ok (.lload_n 1, 1) := by decide +kernel
theorem dX4_digest_58 : decode cX4_digest 58 = .ok (.lmul, 1) := by decide +kernel
theorem dX4_digest_59 : decode cX4_digest 59 = .ok (.aload_n 0, 1) := by decide +kernel
theorem dX4_digest_60 : decode cX4_digest 60 = .ok (.iload_n 3, 1) := by decide +kernel
theorem dX4_digest_61 : decode cX4_digest 61 = .ok (.iload 4, 2) := by decide +kernel
theorem dX4_digest_63 : decode cX4_digest 63 = .ok (.invokevirtual 134, 3) := by decide +kernel
theorem dX4_digest_66 : decode cX4_digest 66 = .ok (.i2l, 1) := by decide +kernel
theorem dX4_digest_67 : decode cX4_digest 67 = .ok (.ladd, 1) := by decide +kernel
theorem dX4_digest_68 : decode cX4_digest 68 = .ok (.lstore_n 1, 1) := by decide +kernel
theorem dX4_digest_69 : decode cX4_digest 69 = .ok (.iinc 4 1, 3) := by decide +kernel
theorem dX4_digest_72 : decode cX4_digest 72 = .ok (.goto (-25), 3) := by decide +kernel
theorem dX4_digest_75 : decode cX4_digest 75 = .ok (.iinc 3 1, 3) := by decide +kernel
theorem dX4_digest_78 : decode cX4_digest 78 = .ok (.goto (-45), 3) := by decide +kernel
theorem dX4_digest_81 : decode cX4_digest 81 = .ok (.iconst 0, 1) := by decide +kernel
theorem dX4_digest_82 : decode cX4_digest 82 = .ok (.istore_n 3, 1) := by decide +kernel
theorem dX4_digest_83 : decode cX4_digest 83 = .ok (.iload_n 3, 1) := by decide +kernel
theorem dX4_digest_84 : decode cX4_digest 84 = .ok (.iconst 3, 1) := by decide +kernel
theorem dX4_digest_85 : decode cX4_digest 85 = .ok (.if_icmp .ge 26, 3) := by decide +kernel
theorem dX4_digest_88 : decode cX4_digest 88 = .ok (.ldc2_w 283, 3) := by decide +kernel
theorem dX4_digest_91 : decode cX4_digest 91 = .ok (.lload_n 1, 1) := by decide +kernel
theorem dX4_digest_92 : decode cX4_digest 92 = .ok (.lmul, 1) := by decide +kernel
theorem dX4_digest_93 : decode cX4_digest 93 = .ok (.aload_n 0, 1) := by decide +kernel
theorem dX4_digest_94 : decode cX4_digest 94 = .ok (.getfield 50, 3) := by decide +kernel
theorem dX4_digest_97 : decode cX4_digest 97 = .ok (.iload_n 3, 1) := by decide +kernel
theorem dX4_digest_98 : decode cX4_digest 98 = .ok (.aaload, 1) := by decide +kernel
theorem dX4_digest_99 : decode cX4_digest 99 = .ok (.getfield 86, 3) := by decide +kernel
theorem dX4_digest_102 : decode cX4_digest 102 = .ok (.i2l, 1) := by decide +kernel
theorem dX4_digest_103 : decode cX4_digest 103 = .ok (.ladd, 1) := by decide +kernel
theorem dX4_digest_104 : decode cX4_digest 104 = .ok (.lstore_n 1, 1) := by decide +kernel
theorem dX4_digest_105 : decode cX4_digest 105 = .ok (.iinc 3 1, 3) := by decide +kernel
theorem dX4_digest_108 : decode cX4_digest 108 = .ok (.goto (-25), 3) := by decide +kernel
theorem dX4_digest_111 : decode cX4_digest 111 = .ok (.iconst 0, 1) := by decide +kernel
theorem dX4_digest_112 : decode cX4_digest 112 = .ok (.istore_n 3, 1) := by decide +kernel
theorem dX4_digest_113 : decode cX4_digest 113 = .ok (.iload_n 3, 1) := by decide +kernel
theorem dX4_digest_114 : decode cX4_digest 114 = .ok (.bipush 6, 2) := by decide +kernel
theorem dX4_digest_116 : decode cX4_digest 116 = .ok (.if_icmp .ge 60, 3) := by decide +kernel
theorem dX4_digest_119 : decode cX4_digest 119 = .ok (.ldc2_w 283, 3) := by decide +kernel
theorem dX4_digest_122 : decode cX4_digest 122 = .ok (.lload_n 1, 1) := by decide +kernel
theorem dX4_digest_123 : decode cX4_digest 123 = .ok (.lmul, 1) := by decide +kernel
theorem dX4_digest_124 : decode cX4_digest 124 = .ok (.aload_n 0, 1) := by decide +kernel
theorem dX4_digest_125 : decode cX4_digest 125 = .ok (.getfield 14, 3) := by decide +kernel
theorem dX4_digest_128 : decode cX4_digest 128 = .ok (.iload_n 3, 1) := by decide +kernel
theorem dX4_digest_129 : decode cX4_digest 129 = .ok (.iaload, 1) := by decide +kernel
theorem dX4_digest_130 : decode cX4_digest 130 = .ok (.i2l, 1) := by decide +kernel
theorem dX4_digest_131 : decode cX4_digest 131 = .ok (.ladd, 1) := by decide +kernel
theorem dX4_digest_132 : decode cX4_digest 132 = .ok (.lstore_n 1, 1) := by decide +kernel
theorem dX4_digest_133 : decode cX4_digest 133 = .ok (.iconst 0, 1) := by decide +kernel
theorem dX4_digest_134 : decode cX4_digest 134 = .ok (.istore 4, 2) := by decide +kernel
theorem dX4_digest_136 : decode cX4_digest 136 = .ok (.iload 4, 2) := by decide +kernel
theorem dX4_digest_138 : decode cX4_digest 138 = .ok (.aload_n 0, 1) := by decide +kernel
theorem dX4_digest_139 : decode cX4_digest 139 = .ok (.getfield 14, 3) := by decide +kernel
theorem dX4_digest_142 : decode cX4_digest 142 = .ok (.iload_n 3, 1) := by decide +kernel
theorem dX4_digest_143 : decode cX4_digest 143 = .ok (.iaload, 1) := by decide +kernel
theorem dX4_digest_144 : decode cX4_digest 144 = .ok (.if_icmp .ge 26, 3) := by decide +kernel
theorem dX4_digest_147 : decode cX4_digest 147 = .ok (.ldc2_w 283, 3) := by decide +kernel
theorem dX4_digest_150 : decode cX4_digest 150 = .ok (.lload_n 1, 1) := by decide +kernel
theorem dX4_digest_151 : decode cX4_digest 151 = .ok (.lmul, 1) := by decide +kernel
theorem dX4_digest_152 : decode cX4_digest 152 = .ok (.aload_n 0, 1) := by decide +kernel
theorem dX4_digest_153 : decode cX4_digest 153 = .ok (.getfield 11, 3) := by decide +kernel
theorem dX4_digest_156 : decode cX4_digest 156 = .ok (.iload_n 3, 1) := by decide +kernel
theorem dX4_digest_157 : decode cX4_digest 157 = .ok (.aaload, 1) := by decide +kernel
theorem dX4_digest_158 : decode cX4_digest 158 = .ok (.iload 4, 2) := by decide +kernel
theorem dX4_digest_160 : decode cX4_digest 160 = .ok (.iaload, 1) := by decide +kernel
theorem dX4_digest_161 : decode cX4_digest 161 = .ok (.i2l, 1) := by decide +kernel
theorem dX4_digest_162 : decode cX4_digest 162 = .ok (.ladd, 1) := by decide +kernel
theorem dX4_digest_163 : decode cX4_digest 163 = .ok (.lstore_n 1, 1) := by decide +kernel
theorem dX4_digest_164 : decode cX4_digest 164 = .ok (.iinc 4 1, 3) := by decide +kernel
theorem dX4_digest_167 : decode cX4_digest 167 = .ok (.goto (-31), 3) := by decide +kernel
theorem dX4_digest_170 : decode cX4_digest 170 = .ok (.iinc 3 1, 3) := by decide +kernel
theorem dX4_digest_173 : decode cX4_digest 173 = .ok (.goto (-60), 3) := by decide +kernel
theorem dX4_digest_176 : decode cX4_digest 176 = .ok (.iconst 0, 1) := by decide +kernel
theorem dX4_digest_177 : decode cX4_digest 177 = .ok (.istore_n 3, 1) := by decide +kernel
theorem dX4_digest_178 : decode cX4_digest 178 = .ok (.iload_n 3, 1) := by decide +kernel
theorem dX4_digest_179 : decode cX4_digest 179 = .ok (.iconst 4, 1) := by decide +kernel
theorem dX4_digest_180 : decode cX4_digest 180 = .ok (.if_icmp .ge 60, 3) := by decide +kernel
theorem dX4_digest_183 : decode cX4_digest 183 = .ok (.ldc2_w 283, 3) := by decide +kernel
theorem dX4_digest_186 : decode cX4_digest 186 = .ok (.lload_n 1, 1) := by decide +kernel
theorem dX4_digest_187 : decode cX4_digest 187 = .ok (.lmul, 1) := by decide +kernel
theorem dX4_digest_188 : decode cX4_digest 188 = .ok (.aload_n 0, 1) := by decide +kernel
theorem dX4_digest_189 : decode cX4_digest 189 = .ok (.getfield 23, 3) := by decide +kernel
theorem dX4_digest_192 : decode cX4_digest 192 = .ok (.iload_n 3, 1) := by decide +kernel
theorem dX4_digest_193 : decode cX4_digest 193 = .ok (.iaload, 1) := by decide +kernel
theorem dX4_digest_194 : decode cX4_digest 194 = .ok (.i2l, 1) := by decide +kernel
theorem dX4_digest_195 : decode cX4_digest 195 = .ok (.ladd, 1) := by decide +kernel
theorem dX4_digest_196 : decode cX4_digest 196 = .ok (.lstore_n 1, 1) := by decide +kernel
theorem dX4_digest_197 : decode cX4_digest 197 = .ok (.iconst 0, 1) := by decide +kernel
theorem dX4_digest_198 : decode cX4_digest 198 = .ok (.istore 4, 2) := by decide +kernel
theorem dX4_digest_200 : decode cX4_digest 200 = .ok (.iload 4, 2) := by decide +kernel
theorem dX4_digest_202 : decode cX4_digest 202 = .ok (.aload_n 0, 1) := by decide +kernel
theorem dX4_digest_203 : decode cX4_digest 203 = .ok (.getfield 23, 3) := by decide +kernel
theorem dX4_digest_206 : decode cX4_digest 206 = .ok (.iload_n 3, 1) := by decide +kernel
theorem dX4_digest_207 : decode cX4_digest 207 = .ok (.iaload, 1) := by decide +kernel
theorem dX4_digest_208 : decode cX4_digest 208 = .ok (.if_icmp .ge 26, 3) := by decide +kernel
theorem dX4_digest_211 : decode cX4_digest 211 = .ok (.ldc2_w 283, 3) := by decide +kernel
theorem dX4_digest_214 : decode cX4_digest 214 = .ok (.lload_n 1, 1) := by decide +kernel
theorem dX4_digest_215 : decode cX4_digest 215 = .ok (.lmul, 1) := by decide +kernel
theorem dX4_digest_216 : decode cX4_digest 216 = .ok (.aload_n 0, 1) := by decide +kernel
theorem dX4_digest_217 : decode cX4_digest 217 = .ok (.getfield 20, 3) := by decide +kernel
theorem dX4_digest_220 : decode cX4_digest 220 = .ok (.iload_n 3, 1) := by decide +kernel
theorem dX4_digest_221 : decode cX4_digest 221 = .ok (.aaload, 1) := by decide +kernel
theorem dX4_digest_222 : decode cX4_digest 222 = .ok (.iload 4, 2) := by decide +kernel
theorem dX4_digest_224 : decode cX4_digest 224 = .ok (.baload, 1) := by decide +kernel
theorem dX4_digest_225 : decode cX4_digest 225 = .ok (.i2l, 1) := by decide +kernel
theorem dX4_digest_226 : decode cX4_digest 226 = .ok (.ladd, 1) := by decide +kernel
theorem dX4_digest_227 : decode cX4_digest 227 = .ok (.lstore_n 1, 1) := by decide +kernel
theorem dX4_digest_228 : decode cX4_digest 228 = .ok (.iinc 4 1, 3) := by decide +kernel
theorem dX4_digest_231 : decode cX4_digest 231 = .ok (.goto (-31), 3) := by decide +kernel
theorem dX4_digest_234 : decode cX4_digest 234 = .ok (.iinc 3 1, 3) := by decide +kernel
theorem dX4_digest_237 : decode cX4_digest 237 = .ok (.goto (-59), 3) := by decide +kernel
theorem dX4_digest_240 : decode cX4_digest 240 = .ok (.lload_n 1, 1) := by decide +kernel
theorem dX4_digest_241 : decode cX4_digest 241 = .ok (.lreturn, 1) := by decide +kernel
theorem dX4_isRow_0 : decode cX4_isRow 0 = .ok (.iload_n 0, 1) := by decide +kernel
theorem dX4_isRow_1 : decode cX4_isRow 1 = .ok (.ifCond .lt 13, 3) := by decide +kernel
theorem dX4_isRow_4 : decode cX4_isRow 4 = .ok (.iload_n 0, 1) := by decide +kernel
theorem dX4_isRow_5 : decode cX4_isRow 5 = .ok (.bipush 6, 2) := by decide +kernel
theorem dX4_isRow_7 : decode cX4_isRow 7 = .ok (.if_icmp .ge 7, 3) := by decide +kernel
theorem dX4_isRow_10 : decode cX4_isRow 10 = .ok (.iconst 1, 1) := by decide +kernel
theorem dX4_isRow_11 : decode cX4_isRow 11 = .ok (.goto 4, 3) := by decide +kernel
theorem dX4_isRow_14 : decode cX4_isRow 14 = .ok (.iconst 0, 1) := by decide +kernel
theorem dX4_isRow_15 : decode cX4_isRow 15 = .ok (.ireturn, 1) := by decide +kernel
theorem dX4_isText_0 : decode cX4_isText 0 = .ok (.iload_n 0, 1) := by decide +kernel
theorem dX4_isText_1 : decode cX4_isText 1 = .ok (.ifCond .lt 12, 3) := by decide +kernel
theorem dX4_isText_4 : decode cX4_isText 4 = .ok (.iload_n 0, 1) := by decide +kernel
theorem dX4_isText_5 : decode cX4_isText 5 = .ok (.iconst 4, 1) := by decide +kernel
theorem dX4_isText_6 : decode cX4_isText 6 = .ok (.if_icmp .ge 7, 3) := by decide +kernel
theorem dX4_isText_9 : decode cX4_isText 9 = .ok (.iconst 1, 1) := by decide +kernel
theorem dX4_isText_10 : decode cX4_isText 10 = .ok (.goto 4, 3) := by decide +kernel
theorem dX4_isText_13 : decode cX4_isText 13 = .ok (.iconst 0, 1) := by decide +kernel
theorem dX4_isText_14 : decode cX4_isText 14 = .ok (.ireturn, 1) := by decide +kernel
theorem dX4_isKeepingPlace_0 : decode cX4_isKeepingPlace 0 = .ok (.iload_n 0, 1) := by decide +kernel
theorem dX4_isKeepingPlace_1 : decode cX4_isKeepingPlace 1 = .ok (.ifCond .lt 12, 3) := by decide +kernel
theorem dX4_isKeepingPlace_4 : decode cX4_isKeepingPlace 4 = .ok (.iload_n 0, 1) := by decide +kernel
theorem dX4_isKeepingPlace_5 : decode cX4_isKeepingPlace 5 = .ok (.iconst 3, 1) := by decide +kernel
theorem dX4_isKeepingPlace_6 : decode cX4_isKeepingPlace 6 = .ok (.if_icmp .ge 7, 3) := by decide +kernel
theorem dX4_isKeepingPlace_9 : decode cX4_isKeepingPlace 9 = .ok (.iconst 1, 1) := by decide +kernel
theorem dX4_isKeepingPlace_10 : decode cX4_isKeepingPlace 10 = .ok (.goto 4, 3) := by decide +kernel
theorem dX4_isKeepingPlace_13 : decode cX4_isKeepingPlace 13 = .ok (.iconst 0, 1) := by decide +kernel
theorem dX4_isKeepingPlace_14 : decode cX4_isKeepingPlace 14 = .ok (.ireturn, 1) := by decide +kernel
theorem dX4_hasPlaces_0 : decode cX4_hasPlaces 0 = .ok (.iload_n 1, 1) := by decide +kernel
theorem dX4_hasPlaces_1 : decode cX4_hasPlaces 1 = .ok (.ifCond .lt 19, 3) := by decide +kernel
theorem dX4_hasPlaces_4 : decode cX4_hasPlaces 4 = .ok (.iload_n 2, 1) := by decide +kernel
theorem dX4_hasPlaces_5 : decode cX4_hasPlaces 5 = .ok (.iload_n 0, 1) := by decide +kernel
theorem dX4_hasPlaces_6 : decode cX4_hasPlaces 6 = .ok (.if_icmp .gt 14, 3) := by decide +kernel
theorem dX4_hasPlaces_9 : decode cX4_hasPlaces 9 = .ok (.iload_n 1, 1) := by decide +kernel
theorem dX4_hasPlaces_10 : decode cX4_hasPlaces 10 = .ok (.iload_n 0, 1) := by decide +kernel
theorem dX4_hasPlaces_11 : decode cX4_hasPlaces 11 = .ok (.iload_n 2, 1) := by decide +kernel
theorem dX4_hasPlaces_12 : decode cX4_hasPlaces 12 = .ok (.isub, 1) := by decide +kernel
theorem dX4_hasPlaces_13 : decode cX4_hasPlaces 13 = .ok (.if_icmp .gt 7, 3) := by decide +kernel
theorem dX4_hasPlaces_16 : decode cX4_hasPlaces 16 = .ok (.iconst 1, 1) := by decide +kernel
theorem dX4_hasPlaces_17 : decode cX4_hasPlaces 17 = .ok (.goto 4, 3) := by decide +kernel
theorem dX4_hasPlaces_20 : decode cX4_hasPlaces 20 = .ok (.iconst 0, 1) := by decide +kernel
theorem dX4_hasPlaces_21 : decode cX4_hasPlaces 21 = .ok (.ireturn, 1) := by decide +kernel
theorem dX4_found_0 : decode cX4_found 0 = .ok (.aload_n 0, 1) := by decide +kernel
theorem dX4_found_1 : decode cX4_found 1 = .ok (.iload_n 1, 1) := by decide +kernel
theorem dX4_found_2 : decode cX4_found 2 = .ok (.putfield 66, 3) := by decide +kernel
theorem dX4_found_5 : decode cX4_found 5 = .ok (.aload_n 0, 1) := by decide +kernel
theorem dX4_found_6 : decode cX4_found 6 = .ok (.getfield 63, 3) := by decide +kernel
theorem dX4_found_9 : decode cX4_found 9 = .ok (.iload_n 1, 1) := by decide +kernel
theorem dX4_found_10 : decode cX4_found 10 = .ok (.dup2, 1) := by decide +kernel
theorem dX4_found_11 : decode cX4_found 11 = .ok (.iaload, 1) := by decide +kernel
theorem dX4_found_12 : decode cX4_found 12 = .ok (.iconst 1, 1) := by decide +kernel
theorem dX4_found_13 : decode cX4_found 13 = .ok (.iadd, 1) := by decide +kernel
theorem dX4_found_14 : decode cX4_found 14 = .ok (.iastore, 1) := by decide +kernel
theorem dX4_found_15 : decode cX4_found 15 = .ok (.bipush (-3), 2) := by decide +kernel
theorem dX4_found_17 : decode cX4_found 17 = .ok (.ireturn, 1) := by decide +kernel
theorem dX4_tell_0 : decode cX4_tell 0 = .ok (.aload_n 0, 1) := by decide +kernel
theorem dX4_tell_1 : decode cX4_tell 1 = .ok (.iload_n 1, 1) := by decide +kernel
theorem dX4_tell_2 : decode cX4_tell 2 = .ok (.putfield 70, 3) := by decide +kernel
theorem dX4_tell_5 : decode cX4_tell 5 = .ok (.iconst 1, 1) := by decide +kernel
theorem dX4_tell_6 : decode cX4_tell 6 = .ok (.ireturn, 1) := by decide +kernel
theorem dX4_tellShare_0 : decode cX4_tellShare 0 = .ok (.lload_n 1, 1) := by decide +kernel
theorem dX4_tellShare_1 : decode cX4_tellShare 1 = .ok (.lload_n 3, 1) := by decide +kernel
theorem dX4_tellShare_2 : decode cX4_tellShare 2 = .ok (.invokestatic 288, 3) := by decide +kernel
theorem dX4_tellShare_5 : decode cX4_tellShare 5 = .ok (.lstore 5, 2) := by decide +kernel
theorem dX4_tellShare_7 : decode cX4_tellShare 7 = .ok (.lload 5, 2) := by decide +kernel
theorem dX4_tellShare_9 : decode cX4_tellShare 9 = .ok (.lconst 0, 1) := by decide +kernel
theorem dX4_tellShare_10 : decode cX4_tellShare 10 = .ok (.lcmp, 1) := by decide +kernel
theorem dX4_tellShare_11 : decode cX4_tellShare 11 = .ok (.ifCond .le 19, 3) := by decide +kernel
theorem dX4_tellShare_14 : decode cX4_tellShare 14 = .ok (.aload_n 0, 1) := by decide +kernel
theorem dX4_tellShare_15 : decode cX4_tellShare 15 = .ok (.lload_n 1, 1) := by decide +kernel
theorem dX4_tellShare_16 : decode cX4_tellShare 16 = .ok (.lload 5, 2) := by decide +kernel
theorem dX4_tellShare_18 : decode cX4_tellShare 18 = .ok (.ldiv, 1) := by decide +kernel
theorem dX4_tellShare_19 : decode cX4_tellShare 19 = .ok (.putfield 73, 3) := by decide +kernel
theorem dX4_tellShare_22 : decode cX4_tellShare 22 = .ok (.aload_n 0, 1) := by decide +kernel
theorem dX4_tellShare_23 : decode cX4_tellShare 23 = .ok (.lload_n 3, 1) := by decide +kernel
theorem dX4_tellShare_24 : decode cX4_tellShare 24 = .ok (.lload 5, 2) := by decide +kernel
theorem dX4_tellShare_26 : decode cX4_tellShare 26 = .ok (.ldiv, 1) := by decide +kernel
theorem dX4_tellShare_27 : decode cX4_tellShare 27 = .ok (.putfield 77, 3) := by decide +kernel
theorem dX4_tellShare_30 : decode cX4_tellShare 30 = .ok (.return_, 1) := by decide +kernel
theorem dX4_greatestDivisor_0 : decode cX4_greatestDivisor 0 = .ok (.lload_n 0, 1) := by decide +kernel
theorem dX4_greatestDivisor_1 : decode cX4_greatestDivisor 1 = .ok (.lstore 4, 2) := by decide +kernel
theorem dX4_greatestDivisor_3 : decode cX4_greatestDivisor 3 = .ok (.lload_n 2, 1) := by decide +kernel
theorem dX4_greatestDivisor_4 : decode cX4_greatestDivisor 4 = .ok (.lstore 6, 2) := by decide +kernel
theorem dX4_greatestDivisor_6 : decode cX4_greatestDivisor 6 = .ok (.iconst 0, 1) := by decide +kernel
theorem dX4_greatestDivisor_7 : decode cX4_greatestDivisor 7 = .ok (.istore 8, 2) := by decide +kernel
theorem dX4_greatestDivisor_9 : decode cX4_greatestDivisor 9 = .ok (.iload 8, 2) := by decide +kernel
theorem dX4_greatestDivisor_11 : decode cX4_greatestDivisor 11 = .ok (.sipush 1000, 3) := by decide +kernel
theorem dX4_greatestDivisor_14 : decode cX4_greatestDivisor 14 = .ok (.if_icmp .ge 31, 3) := by decide +kernel
theorem dX4_greatestDivisor_17 : decode cX4_greatestDivisor 17 = .ok (.lload 6, 2) := by decide +kernel
theorem dX4_greatestDivisor_19 : decode cX4_greatestDivisor 19 = .ok (.lconst 0, 1) := by decide +kernel
theorem dX4_greatestDivisor_20 : decode cX4_greatestDivisor 20 = .ok (.lcmp, 1) := by decide +kernel
theorem dX4_greatestDivisor_21 : decode cX4_greatestDivisor 21 = .ok (.ifCond .eq 24, 3) := by decide +kernel
theorem dX4_greatestDivisor_24 : decode cX4_greatestDivisor 24 = .ok (.lload 4, 2) := by decide +kernel
theorem dX4_greatestDivisor_26 : decode cX4_greatestDivisor 26 = .ok (.lload 6, 2) := by decide +kernel
theorem dX4_greatestDivisor_28 : decode cX4_greatestDivisor 28 = .ok (.lrem, 1) := by decide +kernel
theorem dX4_greatestDivisor_29 : decode cX4_greatestDivisor 29 = .ok (.lstore 9, 2) := by decide +kernel
theorem dX4_greatestDivisor_31 : decode cX4_greatestDivisor 31 = .ok (.lload 6, 2) := by decide +kernel
