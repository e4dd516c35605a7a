theorem dX5_town_20 : decode cX5_town 20 = .ok (.invokevirtual 90, 3) := by decide +kernel
theorem dX5_town_23 : decode cX5_town 23 = .ok (.ireturn, 1) := by decide +kernel
theorem dX5_town_24 : decode cX5_town 24 = .ok (.aload_n 0, 1) := by decide +kernel
theorem dX5_town_25 : decode cX5_town 25 = .ok (.iload_n 1, 1) := by decide +kernel
theorem dX5_town_26 : decode cX5_town 26 = .ok (.invokevirtual 145, 3) := by decide +kernel
theorem dX5_town_29 : decode cX5_town 29 = .ok (.bipush (-9), 2) := by decide +kernel
theorem dX5_town_31 : decode cX5_town 31 = .ok (.if_icmp .eq 6, 3) := by decide +kernel
theorem dX5_town_34 : decode cX5_town 34 = .ok (.bipush (-4), 2) := by decide +kernel
theorem dX5_town_36 : decode cX5_town 36 = .ok (.ireturn, 1) := by decide +kernel
theorem dX5_town_37 : decode cX5_town 37 = .ok (.aload_n 0, 1) := by decide +kernel
theorem dX5_town_38 : decode cX5_town 38 = .ok (.aload_n 0, 1) := by decide +kernel
theorem dX5_town_39 : decode cX5_town 39 = .ok (.getfield 135, 3) := by decide +kernel
theorem dX5_town_42 : decode cX5_town 42 = .ok (.putfield 148, 3) := by decide +kernel
theorem dX5_town_45 : decode cX5_town 45 = .ok (.iconst 0, 1) := by decide +kernel
theorem dX5_town_46 : decode cX5_town 46 = .ok (.istore_n 2, 1) := by decide +kernel
theorem dX5_town_47 : decode cX5_town 47 = .ok (.iload_n 2, 1) := by decide +kernel
theorem dX5_town_48 : decode cX5_town 48 = .ok (.bipush 6, 2) := by decide +kernel
theorem dX5_town_50 : decode cX5_town 50 = .ok (.if_icmp .ge 45, 3) := by decide +kernel
theorem dX5_town_53 : decode cX5_town 53 = .ok (.aload_n 0, 1) := by decide +kernel
theorem dX5_town_54 : decode cX5_town 54 = .ok (.getfield 29, 3) := by decide +kernel
theorem dX5_town_57 : decode cX5_town 57 = .ok (.iload_n 2, 1) := by decide +kernel
theorem dX5_town_58 : decode cX5_town 58 = .ok (.aload_n 0, 1) := by decide +kernel
theorem dX5_town_59 : decode cX5_town 59 = .ok (.getfield 50, 3) := by decide +kernel
theorem dX5_town_62 : decode cX5_town 62 = .ok (.iload_n 2, 1) := by decide +kernel
theorem dX5_town_63 : decode cX5_town 63 = .ok (.iaload, 1) := by decide +kernel
theorem dX5_town_64 : decode cX5_town 64 = .ok (.iastore, 1) := by decide +kernel
theorem dX5_town_65 : decode cX5_town 65 = .ok (.aload_n 0, 1) := by decide +kernel
theorem dX5_town_66 : decode cX5_town 66 = .ok (.getfield 32, 3) := by decide +kernel
theorem dX5_town_69 : decode cX5_town 69 = .ok (.iload_n 2, 1) := by decide +kernel
theorem dX5_town_70 : decode cX5_town 70 = .ok (.aload_n 0, 1) := by decide +kernel
theorem dX5_town_71 : decode cX5_town 71 = .ok (.getfield 53, 3) := by decide +kernel
theorem dX5_town_74 : decode cX5_town 74 = .ok (.iload_n 2, 1) := by decide +kernel
theorem dX5_town_75 : decode cX5_town 75 = .ok (.iaload, 1) := by decide +kernel
theorem dX5_town_76 : decode cX5_town 76 = .ok (.iastore, 1) := by decide +kernel
theorem dX5_town_77 : decode cX5_town 77 = .ok (.aload_n 0, 1) := by decide +kernel
theorem dX5_town_78 : decode cX5_town 78 = .ok (.getfield 35, 3) := by decide +kernel
theorem dX5_town_81 : decode cX5_town 81 = .ok (.iload_n 2, 1) := by decide +kernel
theorem dX5_town_82 : decode cX5_town 82 = .ok (.aload_n 0, 1) := by decide +kernel
theorem dX5_town_83 : decode cX5_town 83 = .ok (.getfield 56, 3) := by decide +kernel
theorem dX5_town_86 : decode cX5_town 86 = .ok (.iload_n 2, 1) := by decide +kernel
theorem dX5_town_87 : decode cX5_town 87 = .ok (.iaload, 1) := by decide +kernel
theorem dX5_town_88 : decode cX5_town 88 = .ok (.iastore, 1) := by decide +kernel
theorem dX5_town_89 : decode cX5_town 89 = .ok (.iinc 2 1, 3) := by decide +kernel
theorem dX5_town_92 : decode cX5_town 92 = .ok (.goto (-45), 3) := by decide +kernel
theorem dX5_town_95 : decode cX5_town 95 = .ok (.iconst 0, 1) := by decide +kernel
theorem dX5_town_96 : decode cX5_town 96 = .ok (.istore_n 2, 1) := by decide +kernel
theorem dX5_town_97 : decode cX5_town 97 = .ok (.iload_n 2, 1) := by decide +kernel
theorem dX5_town_98 : decode cX5_town 98 = .ok (.bipush 17, 2) := by decide +kernel
theorem dX5_town_100 : decode cX5_town 100 = .ok (.if_icmp .ge 16, 3) := by decide +kernel
theorem dX5_town_103 : decode cX5_town 103 = .ok (.aload_n 0, 1) := by decide +kernel
theorem dX5_town_104 : decode cX5_town 104 = .ok (.getfield 38, 3) := by decide +kernel
theorem dX5_town_107 : decode cX5_town 107 = .ok (.iload_n 2, 1) := by decide +kernel
theorem dX5_town_108 : decode cX5_town 108 = .ok (.iconst 0, 1) := by decide +kernel
theorem dX5_town_109 : decode cX5_town 109 = .ok (.iastore, 1) := by decide +kernel
theorem dX5_town_110 : decode cX5_town 110 = .ok (.iinc 2 1, 3) := by decide +kernel
theorem dX5_town_113 : decode cX5_town 113 = .ok (.goto (-16), 3) := by decide +kernel
theorem dX5_town_116 : decode cX5_town 116 = .ok (.aload_n 0, 1) := by decide +kernel
theorem dX5_town_117 : decode cX5_town 117 = .ok (.getfield 38, 3) := by decide +kernel
theorem dX5_town_120 : decode cX5_town 120 = .ok (.iconst 0, 1) := by decide +kernel
theorem dX5_town_121 : decode cX5_town 121 = .ok (.aload_n 0, 1) := by decide +kernel
theorem dX5_town_122 : decode cX5_town 122 = .ok (.getfield 126, 3) := by decide +kernel
theorem dX5_town_125 : decode cX5_town 125 = .ok (.iastore, 1) := by decide +kernel
theorem dX5_town_126 : decode cX5_town 126 = .ok (.aload_n 0, 1) := by decide +kernel
theorem dX5_town_127 : decode cX5_town 127 = .ok (.getfield 38, 3) := by decide +kernel
theorem dX5_town_130 : decode cX5_town 130 = .ok (.iconst 1, 1) := by decide +kernel
theorem dX5_town_131 : decode cX5_town 131 = .ok (.aload_n 0, 1) := by decide +kernel
theorem dX5_town_132 : decode cX5_town 132 = .ok (.getfield 129, 3) := by decide +kernel
theorem dX5_town_135 : decode cX5_town 135 = .ok (.iastore, 1) := by decide +kernel
theorem dX5_town_136 : decode cX5_town 136 = .ok (.aload_n 0, 1) := by decide +kernel
theorem dX5_town_137 : decode cX5_town 137 = .ok (.invokevirtual 68, 3) := by decide +kernel
theorem dX5_town_140 : decode cX5_town 140 = .ok (.aload_n 0, 1) := by decide +kernel
theorem dX5_town_141 : decode cX5_town 141 = .ok (.getfield 148, 3) := by decide +kernel
theorem dX5_town_144 : decode cX5_town 144 = .ok (.ireturn, 1) := by decide +kernel
theorem dX5_isPipe_0 : decode cX5_isPipe 0 = .ok (.iload_n 1, 1) := by decide +kernel
theorem dX5_isPipe_1 : decode cX5_isPipe 1 = .ok (.i2l, 1) := by decide +kernel
theorem dX5_isPipe_2 : decode cX5_isPipe 2 = .ok (.lconst 0, 1) := by decide +kernel
theorem dX5_isPipe_3 : decode cX5_isPipe 3 = .ok (.aload_n 0, 1) := by decide +kernel
theorem dX5_isPipe_4 : decode cX5_isPipe 4 = .ok (.getfield 148, 3) := by decide +kernel
theorem dX5_isPipe_7 : decode cX5_isPipe 7 = .ok (.iconst 1, 1) := by decide +kernel
theorem dX5_isPipe_8 : decode cX5_isPipe 8 = .ok (.isub, 1) := by decide +kernel
theorem dX5_isPipe_9 : decode cX5_isPipe 9 = .ok (.i2l, 1) := by decide +kernel
theorem dX5_isPipe_10 : decode cX5_isPipe 10 = .ok (.invokestatic 80, 3) := by decide +kernel
theorem dX5_isPipe_13 : decode cX5_isPipe 13 = .ok (.ireturn, 1) := by decide +kernel
theorem dX5_arePipes_0 : decode cX5_arePipes 0 = .ok (.iload_n 1, 1) := by decide +kernel
theorem dX5_arePipes_1 : decode cX5_arePipes 1 = .ok (.i2l, 1) := by decide +kernel
theorem dX5_arePipes_2 : decode cX5_arePipes 2 = .ok (.lconst 0, 1) := by decide +kernel
theorem dX5_arePipes_3 : decode cX5_arePipes 3 = .ok (.iconst 1, 1) := by decide +kernel
theorem dX5_arePipes_4 : decode cX5_arePipes 4 = .ok (.aload_n 0, 1) := by decide +kernel
theorem dX5_arePipes_5 : decode cX5_arePipes 5 = .ok (.getfield 148, 3) := by decide +kernel
theorem dX5_arePipes_8 : decode cX5_arePipes 8 = .ok (.ishl, 1) := by decide +kernel
theorem dX5_arePipes_9 : decode cX5_arePipes 9 = .ok (.iconst 1, 1) := by decide +kernel
theorem dX5_arePipes_10 : decode cX5_arePipes 10 = .ok (.isub, 1) := by decide +kernel
theorem dX5_arePipes_11 : decode cX5_arePipes 11 = .ok (.i2l, 1) := by decide +kernel
theorem dX5_arePipes_12 : decode cX5_arePipes 12 = .ok (.invokestatic 80, 3) := by decide +kernel
theorem dX5_arePipes_15 : decode cX5_arePipes 15 = .ok (.ireturn, 1) := by decide +kernel
theorem dX5_wantsBy_0 : decode cX5_wantsBy 0 = .ok (.iload_n 0, 1) := by decide +kernel
theorem dX5_wantsBy_1 : decode cX5_wantsBy 1 = .ok (.tableswitch 50 3 5 #[27, 31, 44], 27) := by decide +kernel
theorem dX5_wantsBy_28 : decode cX5_wantsBy 28 = .ok (.iload_n 1, 1) := by decide +kernel
theorem dX5_wantsBy_29 : decode cX5_wantsBy 29 = .ok (.iconst 1, 1) := by decide +kernel
theorem dX5_wantsBy_30 : decode cX5_wantsBy 30 = .ok (.iadd, 1) := by decide +kernel
theorem dX5_wantsBy_31 : decode cX5_wantsBy 31 = .ok (.ireturn, 1) := by decide +kernel
theorem dX5_wantsBy_32 : decode cX5_wantsBy 32 = .ok (.iload_n 2, 1) := by decide +kernel
theorem dX5_wantsBy_33 : decode cX5_wantsBy 33 = .ok (.iconst 3, 1) := by decide +kernel
theorem dX5_wantsBy_34 : decode cX5_wantsBy 34 = .ok (.irem, 1) := by decide +kernel
theorem dX5_wantsBy_35 : decode cX5_wantsBy 35 = .ok (.iconst 2, 1) := by decide +kernel
theorem dX5_wantsBy_36 : decode cX5_wantsBy 36 = .ok (.if_icmp .ne 7, 3) := by decide +kernel
theorem dX5_wantsBy_39 : decode cX5_wantsBy 39 = .ok (.iconst 0, 1) := by decide +kernel
theorem dX5_wantsBy_40 : decode cX5_wantsBy 40 = .ok (.goto 4, 3) := by decide +kernel
theorem dX5_wantsBy_43 : decode cX5_wantsBy 43 = .ok (.iload_n 1, 1) := by decide +kernel
theorem dX5_wantsBy_44 : decode cX5_wantsBy 44 = .ok (.ireturn, 1) := by decide +kernel
theorem dX5_wantsBy_45 : decode cX5_wantsBy 45 = .ok (.iconst 2, 1) := by decide +kernel
theorem dX5_wantsBy_46 : decode cX5_wantsBy 46 = .ok (.iload_n 1, 1) := by decide +kernel
theorem dX5_wantsBy_47 : decode cX5_wantsBy 47 = .ok (.iconst 1, 1) := by decide +kernel
theorem dX5_wantsBy_48 : decode cX5_wantsBy 48 = .ok (.iadd, 1) := by decide +kernel
theorem dX5_wantsBy_49 : decode cX5_wantsBy 49 = .ok (.imul, 1) := by decide +kernel
theorem dX5_wantsBy_50 : decode cX5_wantsBy 50 = .ok (.ireturn, 1) := by decide +kernel
theorem dX5_wantsBy_51 : decode cX5_wantsBy 51 = .ok (.iload_n 1, 1) := by decide +kernel
theorem dX5_wantsBy_52 : decode cX5_wantsBy 52 = .ok (.ireturn, 1) := by decide +kernel
theorem dX5_wantsOn_0 : decode cX5_wantsOn 0 = .ok (.aload_n 0, 1) := by decide +kernel
theorem dX5_wantsOn_1 : decode cX5_wantsOn 1 = .ok (.getfield 29, 3) := by decide +kernel
theorem dX5_wantsOn_4 : decode cX5_wantsOn 4 = .ok (.iload_n 2, 1) := by decide +kernel
theorem dX5_wantsOn_5 : decode cX5_wantsOn 5 = .ok (.iaload, 1) := by decide +kernel
theorem dX5_wantsOn_6 : decode cX5_wantsOn 6 = .ok (.aload_n 0, 1) := by decide +kernel
theorem dX5_wantsOn_7 : decode cX5_wantsOn 7 = .ok (.getfield 35, 3) := by decide +kernel
theorem dX5_wantsOn_10 : decode cX5_wantsOn 10 = .ok (.iload_n 2, 1) := by decide +kernel
theorem dX5_wantsOn_11 : decode cX5_wantsOn 11 = .ok (.iaload, 1) := by decide +kernel
theorem dX5_wantsOn_12 : decode cX5_wantsOn 12 = .ok (.aload_n 1, 1) := by decide +kernel
theorem dX5_wantsOn_13 : decode cX5_wantsOn 13 = .ok (.iconst 2, 1) := by decide +kernel
theorem dX5_wantsOn_14 : decode cX5_wantsOn 14 = .ok (.iaload, 1) := by decide +kernel
theorem dX5_wantsOn_15 : decode cX5_wantsOn 15 = .ok (.invokestatic 151, 3) := by decide +kernel
theorem dX5_wantsOn_18 : decode cX5_wantsOn 18 = .ok (.ireturn, 1) := by decide +kernel
theorem dX5_isOf_0 : decode cX5_isOf 0 = .ok (.iload_n 0, 1) := by decide +kernel
theorem dX5_isOf_1 : decode cX5_isOf 1 = .ok (.iload_n 1, 1) := by decide +kernel
theorem dX5_isOf_2 : decode cX5_isOf 2 = .ok (.if_icmp .eq 23, 3) := by decide +kernel
theorem dX5_isOf_5 : decode cX5_isOf 5 = .ok (.iload_n 0, 1) := by decide +kernel
theorem dX5_isOf_6 : decode cX5_isOf 6 = .ok (.iconst 4, 1) := by decide +kernel
theorem dX5_isOf_7 : decode cX5_isOf 7 = .ok (.if_icmp .ne 8, 3) := by decide +kernel
theorem dX5_isOf_10 : decode cX5_isOf 10 = .ok (.iload_n 1, 1) := by decide +kernel
theorem dX5_isOf_11 : decode cX5_isOf 11 = .ok (.iconst 1, 1) := by decide +kernel
theorem dX5_isOf_12 : decode cX5_isOf 12 = .ok (.if_icmp .eq 13, 3) := by decide +kernel
theorem dX5_isOf_15 : decode cX5_isOf 15 = .ok (.iload_n 0, 1) := by decide +kernel
theorem dX5_isOf_16 : decode cX5_isOf 16 = .ok (.iconst 5, 1) := by decide +kernel
theorem dX5_isOf_17 : decode cX5_isOf 17 = .ok (.if_icmp .ne 12, 3) := by decide +kernel
theorem dX5_isOf_20 : decode cX5_isOf 20 = .ok (.iload_n 1, 1) := by decide +kernel
theorem dX5_isOf_21 : decode cX5_isOf 21 = .ok (.iconst 3, 1) := by decide +kernel
theorem dX5_isOf_22 : decode cX5_isOf 22 = .ok (.if_icmp .ne 7, 3) := by decide +kernel
theorem dX5_isOf_25 : decode cX5_isOf 25 = .ok (.iconst 1, 1) := by decide +kernel
theorem dX5_isOf_26 : decode cX5_isOf 26 = .ok (.goto 4, 3) := by decide +kernel
theorem dX5_isOf_29 : decode cX5_isOf 29 = .ok (.iconst 0, 1) := by decide +kernel
theorem dX5_isOf_30 : decode cX5_isOf 30 = .ok (.ireturn, 1) := by decide +kernel
theorem dX5_isCutOff_0 : decode cX5_isCutOff 0 = .ok (.iconst 0, 1) := by decide +kernel
theorem dX5_isCutOff_1 : decode cX5_isCutOff 1 = .ok (.istore_n 3, 1) := by decide +kernel
theorem dX5_isCutOff_2 : decode cX5_isCutOff 2 = .ok (.iload_n 2, 1) := by decide +kernel
theorem dX5_isCutOff_3 : decode cX5_isCutOff 3 = .ok (.istore 4, 2) := by decide +kernel
theorem dX5_isCutOff_5 : decode cX5_isCutOff 5 = .ok (.iload 4, 2) := by decide +kernel
theorem dX5_isCutOff_7 : decode cX5_isCutOff 7 = .ok (.bipush (-9), 2) := by decide +kernel
theorem dX5_isCutOff_9 : decode cX5_isCutOff 9 = .ok (.if_icmp .eq 36, 3) := by decide +kernel
theorem dX5_isCutOff_12 : decode cX5_isCutOff 12 = .ok (.iload_n 3, 1) := by decide +kernel
theorem dX5_isCutOff_13 : decode cX5_isCutOff 13 = .ok (.ifCond .ne 14, 3) := by decide +kernel
theorem dX5_isCutOff_16 : decode cX5_isCutOff 16 = .ok (.aload_n 1, 1) := by decide +kernel
theorem dX5_isCutOff_17 : decode cX5_isCutOff 17 = .ok (.iconst 3, 1) := by decide +kernel
theorem dX5_isCutOff_18 : decode cX5_isCutOff 18 = .ok (.iaload, 1) := by decide +kernel
theorem dX5_isCutOff_19 : decode cX5_isCutOff 19 = .ok (.iload 4, 2) := by decide +kernel
theorem dX5_isCutOff_21 : decode cX5_isCutOff 21 = .ok (.invokestatic 155, 3) := by decide +kernel
theorem dX5_isCutOff_24 : decode cX5_isCutOff 24 = .ok (.ifCond .eq 7, 3) := by decide +kernel
theorem dX5_isCutOff_27 : decode cX5_isCutOff 27 = .ok (.iconst 1, 1) := by decide +kernel
theorem dX5_isCutOff_28 : decode cX5_isCutOff 28 = .ok (.goto 4, 3) := by decide +kernel
theorem dX5_isCutOff_31 : decode cX5_isCutOff 31 = .ok (.iconst 0, 1) := by decide +kernel
theorem dX5_isCutOff_32 : decode cX5_isCutOff 32 = .ok (.istore_n 3, 1) := by decide +kernel
theorem dX5_isCutOff_33 : decode cX5_isCutOff 33 = .ok (.aload_n 0, 1) := by decide +kernel
theorem dX5_isCutOff_34 : decode cX5_isCutOff 34 = .ok (.getfield 32, 3) := by decide +kernel
theorem dX5_isCutOff_37 : decode cX5_isCutOff 37 = .ok (.iload 4, 2) := by decide +kernel
theorem dX5_isCutOff_39 : decode cX5_isCutOff 39 = .ok (.iaload, 1) := by decide +kernel
theorem dX5_isCutOff_40 : decode cX5_isCutOff 40 = .ok (.istore 4, 2) := by decide +kernel
theorem dX5_isCutOff_42 : decode cX5_isCutOff 42 = .ok (.goto (-37), 3) := by decide +kernel
theorem dX5_isCutOff_45 : decode cX5_isCutOff 45 = .ok (.iload_n 3, 1) := by decide +kernel
theorem dX5_isCutOff_46 : decode cX5_isCutOff 46 = .ok (.ireturn, 1) := by decide +kernel
theorem dX5_takes_0 : decode cX5_takes 0 = .ok (.aload_n 1, 1) := by decide +kernel
theorem dX5_takes_1 : decode cX5_takes 1 = .ok (.iconst 4, 1) := by decide +kernel
theorem dX5_takes_2 : decode cX5_takes 2 = .ok (.iaload, 1) := by decide +kernel
theorem dX5_takes_3 : decode cX5_takes 3 = .ok (.iload_n 2, 1) := by decide +kernel
theorem dX5_takes_4 : decode cX5_takes 4 = .ok (.invokestatic 155, 3) := by decide +kernel
theorem dX5_takes_7 : decode cX5_takes 7 = .ok (.ifCond .eq 16, 3) := by decide +kernel
theorem dX5_takes_10 : decode cX5_takes 10 = .ok (.aload_n 1, 1) := by decide +kernel
theorem dX5_takes_11 : decode cX5_takes 11 = .ok (.iconst 0, 1) := by decide +kernel
theorem dX5_takes_12 : decode cX5_takes 12 = .ok (.iaload, 1) := by decide +kernel
theorem dX5_takes_13 : decode cX5_takes 13 = .ok (.ifCond .le 10, 3) := by decide +kernel
theorem dX5_takes_16 : decode cX5_takes 16 = .ok (.aload_n 1, 1) := by decide +kernel
theorem dX5_takes_17 : decode cX5_takes 17 = .ok (.iconst 0, 1) := by decide +kernel
theorem dX5_takes_18 : decode cX5_takes 18 = .ok (.dup2, 1) := by decide +kernel
theorem dX5_takes_19 : decode cX5_takes 19 = .ok (.iaload, 1) := by decide +kernel
theorem dX5_takes_20 : decode cX5_takes 20 = .ok (.iconst 1, 1) := by decide +kernel
theorem dX5_takes_21 : decode cX5_takes 21 = .ok (.isub, 1) := by decide +kernel
theorem dX5_takes_22 : decode cX5_takes 22 = .ok (.iastore, 1) := by decide +kernel
theorem dX5_takes_23 : decode cX5_takes 23 = .ok (.aload_n 0, 1) := by decide +kernel
theorem dX5_takes_24 : decode cX5_takes 24 = .ok (.aload_n 1, 1) := by decide +kernel
theorem dX5_takes_25 : decode cX5_takes 25 = .ok (.iload_n 2, 1) := by decide +kernel
theorem dX5_takes_26 : decode cX5_takes 26 = .ok (.invokevirtual 158, 3) := by decide +kernel
theorem dX5_takes_29 : decode cX5_takes 29 = .ok (.istore_n 3, 1) := by decide +kernel
theorem dX5_takes_30 : decode cX5_takes 30 = .ok (.iload_n 3, 1) := by decide +kernel
theorem dX5_takes_31 : decode cX5_takes 31 = .ok (.ifCond .ne 5, 3) := by decide +kernel
theorem dX5_takes_34 : decode cX5_takes 34 = .ok (.iconst 0, 1) := by decide +kernel
theorem dX5_takes_35 : decode cX5_takes 35 = .ok (.ireturn, 1) := by decide +kernel
theorem dX5_takes_36 : decode cX5_takes 36 = .ok (.aload_n 1, 1) := by decide +kernel
theorem dX5_takes_37 : decode cX5_takes 37 = .ok (.iconst 0, 1) := by decide +kernel
theorem dX5_takes_38 : decode cX5_takes 38 = .ok (.iaload, 1) := by decide +kernel
theorem dX5_takes_39 : decode cX5_takes 39 = .ok (.iload_n 3, 1) := by decide +kernel
theorem dX5_takes_40 : decode cX5_takes 40 = .ok (.if_icmp .lt 71, 3) := by decide +kernel
theorem dX5_takes_43 : decode cX5_takes 43 = .ok (.aload_n 1, 1) := by decide +kernel
theorem dX5_takes_44 : decode cX5_takes 44 = .ok (.iconst 0, 1) := by decide +kernel
theorem dX5_takes_45 : decode cX5_takes 45 = .ok (.dup2, 1) := by decide +kernel
theorem dX5_takes_46 : decode cX5_takes 46 = .ok (.iaload, 1) := by decide +kernel
theorem dX5_takes_47 : decode cX5_takes 47 = .ok (.iload_n 3, 1) := by decide +kernel
theorem dX5_takes_48 : decode cX5_takes 48 = .ok (.isub, 1) := by decide +kernel
theorem dX5_takes_49 : decode cX5_takes 49 = .ok (.iastore, 1) := by decide +kernel
theorem dX5_takes_50 : decode cX5_takes 50 = .ok (.aload_n 0, 1) := by decide +kernel
theorem dX5_takes_51 : decode cX5_takes 51 = .ok (.getfield 29, 3) := by decide +kernel
theorem dX5_takes_54 : decode cX5_takes 54 = .ok (.iload_n 2, 1) := by decide +kernel
theorem dX5_takes_55 : decode cX5_takes 55 = .ok (.iaload, 1) := by decide +kernel
theorem dX5_takes_56 : decode cX5_takes 56 = .ok (.iconst 1, 1) := by decide +kernel
theorem dX5_takes_57 : decode cX5_takes 57 = .ok (.invokestatic 162, 3) := by decide +kernel
theorem dX5_takes_60 : decode cX5_takes 60 = .ok (.ifCond .eq 39, 3) := by decide +kernel
theorem dX5_takes_63 : decode cX5_takes 63 = .ok (.aload_n 1, 1) := by decide +kernel
theorem dX5_takes_64 : decode cX5_takes 64 = .ok (.iconst 0, 1) := by decide +kernel
theorem dX5_takes_65 : decode cX5_takes 65 = .ok (.iaload, 1) := by decide +kernel
theorem dX5_takes_66 : decode cX5_takes 66 = .ok (.ifCond .le 33, 3) := by decide +kernel
theorem dX5_takes_69 : decode cX5_takes 69 = .ok (.aload_n 1, 1) := by decide +kernel
theorem dX5_takes_70 : decode cX5_takes 70 = .ok (.iconst 0, 1) := by decide +kernel
theorem dX5_takes_71 : decode cX5_takes 71 = .ok (.dup2, 1) := by decide +kernel
theorem dX5_takes_72 : decode cX5_takes 72 = .ok (.iaload, 1) := by decide +kernel
theorem dX5_takes_73 : decode cX5_takes 73 = .ok (.iconst 1, 1) := by decide +kernel
theorem dX5_takes_74 : decode cX5_takes 74 = .ok (.isub, 1) := by decide +kernel
theorem dX5_takes_75 : decode cX5_takes 75 = .ok (.iastore, 1) := by decide +kernel
theorem dX5_takes_76 : decode cX5_takes 76 = .ok (.aload_n 1, 1) := by decide +kernel
theorem dX5_takes_77 : decode cX5_takes 77 = .ok (.iconst 5, 1) := by decide +kernel
theorem dX5_takes_78 : decode cX5_takes 78 = .ok (.iload_n 2, 1) := by decide +kernel
theorem dX5_takes_79 : decode cX5_takes 79 = .ok (.iadd, 1) := by decide +kernel
theorem dX5_takes_80 : decode cX5_takes 80 = .ok (.dup2, 1) := by decide +kernel
theorem dX5_takes_81 : decode cX5_takes 81 = .ok (.iaload, 1) := by decide +kernel
theorem dX5_takes_82 : decode cX5_takes 82 = .ok (.aload_n 1, 1) := by decide +kernel
theorem dX5_takes_83 : decode cX5_takes 83 = .ok (.iconst 5, 1) := by decide +kernel
theorem dX5_takes_84 : decode cX5_takes 84 = .ok (.iload_n 2, 1) := by decide +kernel
theorem dX5_takes_85 : decode cX5_takes 85 = .ok (.iadd, 1) := by decide +kernel
theorem dX5_takes_86 : decode cX5_takes 86 = .ok (.iaload, 1) := by decide +kernel
theorem dX5_takes_87 : decode cX5_takes 87 = .ok (.bipush 20, 2) := by decide +kernel
theorem dX5_takes_89 : decode cX5_takes 89 = .ok (.if_icmp .ge 7, 3) := by decide +kernel
theorem dX5_takes_92 : decode cX5_takes 92 = .ok (.iconst 1, 1) := by decide +kernel
theorem dX5_takes_93 : decode cX5_takes 93 = .ok (.goto 4, 3) := by decide +kernel
theorem dX5_takes_96 : decode cX5_takes 96 = .ok (.iconst 0, 1) := by decide +kernel
theorem dX5_takes_97 : decode cX5_takes 97 = .ok (.iadd, 1) := by decide +kernel
theorem dX5_takes_98 : decode cX5_takes 98 = .ok (.iastore, 1) := by decide +kernel
theorem dX5_takes_99 : decode cX5_takes 99 = .ok (.aload_n 1, 1) := by decide +kernel
theorem dX5_takes_100 : decode cX5_takes 100 = .ok (.bipush 11, 2) := by decide +kernel
theorem dX5_takes_102 : decode cX5_takes 102 = .ok (.iload_n 2, 1) := by decide +kernel
theorem dX5_takes_103 : decode cX5_takes 103 = .ok (.iadd, 1) := by decide +kernel
theorem dX5_takes_104 : decode cX5_takes 104 = .ok (.dup2, 1) := by decide +kernel
theorem dX5_takes_105 : decode cX5_takes 105 = .ok (.iaload, 1) := by decide +kernel
theorem dX5_takes_106 : decode cX5_takes 106 = .ok (.iconst 1, 1) := by decide +kernel
theorem dX5_takes_107 : decode cX5_takes 107 = .ok (.iadd, 1) := by decide +kernel
theorem dX5_takes_108 : decode cX5_takes 108 = .ok (.iastore, 1) := by decide +kernel
theorem dX5_takes_109 : decode cX5_takes 109 = .ok (.iconst 1, 1) := by decide +kernel
theorem dX5_takes_110 : decode cX5_takes 110 = .ok (.ireturn, 1) := by decide +kernel
theorem dX5_takes_111 : decode cX5_takes 111 = .ok (.aload_n 1, 1) := by decide +kernel
theorem dX5_takes_112 : decode cX5_takes 112 = .ok (.iconst 0, 1) := by decide +kernel
theorem dX5_takes_113 : decode cX5_takes 113 = .ok (.iaload, 1) := by decide +kernel
theorem dX5_takes_114 : decode cX5_takes 114 = .ok (.aload_n 1, 1) := by decide +kernel
theorem dX5_takes_115 : decode cX5_takes 115 = .ok (.iconst 5, 1) := by decide +kernel
theorem dX5_takes_116 : decode cX5_takes 116 = .ok (.iload_n 2, 1) := by decide +kernel
theorem dX5_takes_117 : decode cX5_takes 117 = .ok (.iadd, 1) := by decide +kernel
theorem dX5_takes_118 : decode cX5_takes 118 = .ok (.iaload, 1) := by decide +kernel
theorem dX5_takes_119 : decode cX5_takes 119 = .ok (.iadd, 1) := by decide +kernel
theorem dX5_takes_120 : decode cX5_takes 120 = .ok (.iload_n 3, 1) := by decide +kernel
theorem dX5_takes_121 : decode cX5_takes 121 = .ok (.if_icmp .lt 32, 3) := by decide +kernel
theorem dX5_takes_124 : decode cX5_takes 124 = .ok (.aload_n 1, 1) := by decide +kernel
theorem dX5_takes_125 : decode cX5_takes 125 = .ok (.iconst 5, 1) := by decide +kernel
theorem dX5_takes_126 : decode cX5_takes 126 = .ok (.iload_n 2, 1) := by decide +kernel
theorem dX5_takes_127 : decode cX5_takes 127 = .ok (.iadd, 1) := by decide +kernel
theorem dX5_takes_128 : decode cX5_takes 128 = .ok (.dup2, 1) := by decide +kernel
theorem dX5_takes_129 : decode cX5_takes 129 = .ok (.iaload, 1) := by decide +kernel
theorem dX5_takes_130 : decode cX5_takes 130 = .ok (.iload_n 3, 1) := by decide +kernel
theorem dX5_takes_131 : decode cX5_takes 131 = .ok (.aload_n 1, 1) := by decide +kernel
theorem dX5_takes_132 : decode cX5_takes 132 = .ok (.iconst 0, 1) := by decide +kernel
theorem dX5_takes_133 : decode cX5_takes 133 = .ok (.iaload, 1) := by decide +kernel
theorem dX5_takes_134 : decode cX5_takes 134 = .ok (.isub, 1) := by decide +kernel
theorem dX5_takes_135 : decode cX5_takes 135 = .ok (.isub, 1) := by decide +kernel
theorem dX5_takes_136 : decode cX5_takes 136 = .ok (.iastore, 1) := by decide +kernel
theorem dX5_takes_137 : decode cX5_takes 137 = .ok (.aload_n 1, 1) := by decide +kernel
theorem dX5_takes_138 : decode cX5_takes 138 = .ok (.iconst 0, 1) := by decide +kernel
theorem dX5_takes_139 : decode cX5_takes 139 = .ok (.iconst 0, 1) := by decide +kernel
theorem dX5_takes_140 : decode cX5_takes 140 = .ok (.iastore, 1) := by decide +kernel
theorem dX5_takes_141 : decode cX5_takes 141 = .ok (.aload_n 1, 1) := by decide +kernel
theorem dX5_takes_142 : decode cX5_takes 142 = .ok (.bipush 11, 2) := by decide +kernel
theorem dX5_takes_144 : decode cX5_takes 144 = .ok (.iload_n 2, 1) := by decide +kernel
theorem dX5_takes_145 : decode cX5_takes 145 = .ok (.iadd, 1) := by decide +kernel
theorem dX5_takes_146 : decode cX5_takes 146 = .ok (.dup2, 1) := by decide +kernel
theorem dX5_takes_147 : decode cX5_takes 147 = .ok (.iaload, 1) := by decide +kernel
theorem dX5_takes_148 : decode cX5_takes 148 = .ok (.iconst 1, 1) := by decide +kernel
theorem dX5_takes_149 : decode cX5_takes 149 = .ok (.iadd, 1) := by decide +kernel
theorem dX5_takes_150 : decode cX5_takes 150 = .ok (.iastore, 1) := by decide +kernel
theorem dX5_takes_151 : decode cX5_takes 151 = .ok (.iconst 1, 1) := by decide +kernel
theorem dX5_takes_152 : decode cX5_takes 152 = .ok (.ireturn, 1) := by decide +kernel
theorem dX5_takes_153 : decode cX5_takes 153 = .ok (.aload_n 1, 1) := by decide +kernel
theorem dX5_takes_154 : decode cX5_takes 154 = .ok (.iconst 0, 1) := by decide +kernel
theorem dX5_takes_155 : decode cX5_takes 155 = .ok (.aload_n 0, 1) := by decide +kernel
theorem dX5_takes_156 : decode cX5_takes 156 = .ok (.getfield 29, 3) := by decide +kernel
theorem dX5_takes_159 : decode cX5_takes 159 = .ok (.iload_n 2, 1) := by decide +kernel
theorem dX5_takes_160 : decode cX5_takes 160 = .ok (.iaload, 1) := by decide +kernel
theorem dX5_takes_161 : decode cX5_takes 161 = .ok (.iconst 2, 1) := by decide +kernel
theorem dX5_takes_162 : decode cX5_takes 162 = .ok (.if_icmp .ne 7, 3) := by decide +kernel
theorem dX5_takes_165 : decode cX5_takes 165 = .ok (.iconst 0, 1) := by decide +kernel
theorem dX5_takes_166 : decode cX5_takes 166 = .ok (.goto 6, 3) := by decide +kernel
theorem dX5_takes_169 : decode cX5_takes 169 = .ok (.aload_n 1, 1) := by decide +kernel
theorem dX5_takes_170 : decode cX5_takes 170 = .ok (.iconst 0, 1) := by decide +kernel
theorem dX5_takes_171 : decode cX5_takes 171 = .ok (.iaload, 1) := by decide +kernel
theorem dX5_takes_172 : decode cX5_takes 172 = .ok (.iastore, 1) := by decide +kernel
theorem dX5_takes_173 : decode cX5_takes 173 = .ok (.iconst 0, 1) := by decide +kernel
theorem dX5_takes_174 : decode cX5_takes 174 = .ok (.ireturn, 1) := by decide +kernel
theorem dX5_lesser_0 : decode cX5_lesser 0 = .ok (.iload_n 0, 1) := by decide +kernel
theorem dX5_lesser_1 : decode cX5_lesser 1 = .ok (.iload_n 1, 1) := by decide +kernel
theorem dX5_lesser_2 : decode cX5_lesser 2 = .ok (.if_icmp .ge 7, 3) := by decide +kernel
theorem dX5_lesser_5 : decode cX5_lesser 5 = .ok (.iload_n 0, 1) := by decide +kernel
theorem dX5_lesser_6 : decode cX5_lesser 6 = .ok (.goto 4, 3) := by decide +kernel
theorem dX5_lesser_9 : decode cX5_lesser 9 = .ok (.iload_n 1, 1) := by decide +kernel
theorem dX5_lesser_10 : decode cX5_lesser 10 = .ok (.ireturn, 1) := by decide +kernel
theorem dX5_goes_0 : decode cX5_goes 0 = .ok (.aload_n 1, 1) := by decide +kernel
theorem dX5_goes_1 : decode cX5_goes 1 = .ok (.iconst 0, 1) := by decide +kernel
theorem dX5_goes_2 : decode cX5_goes 2 = .ok (.bipush 60, 2) := by decide +kernel
theorem dX5_goes_4 : decode cX5_goes 4 = .ok (.aload_n 1, 1) := by decide +kernel
theorem dX5_goes_5 : decode cX5_goes 5 = .ok (.iconst 0, 1) := by decide +kernel
theorem dX5_goes_6 : decode cX5_goes 6 = .ok (.iaload, 1) := by decide +kernel
theorem dX5_goes_7 : decode cX5_goes 7 = .ok (.aload_n 1, 1) := by decide +kernel
theorem dX5_goes_8 : decode cX5_goes 8 = .ok (.iconst 1, 1) := by decide +kernel
theorem dX5_goes_9 : decode cX5_goes 9 = .ok (.iaload, 1) := by decide +kernel
theorem dX5_goes_10 : decode cX5_goes 10 = .ok (.iadd, 1) := by decide +kernel
theorem dX5_goes_11 : decode cX5_goes 11 = .ok (.invokestatic 165, 3) := by decide +kernel
theorem dX5_goes_14 : decode cX5_goes 14 = .ok (.iastore, 1) := by decide +kernel
theorem dX5_goes_15 : decode cX5_goes 15 = .ok (.iconst 0, 1) := by decide +kernel
theorem dX5_goes_16 : decode cX5_goes 16 = .ok (.istore_n 2, 1) := by decide +kernel
theorem dX5_goes_17 : decode cX5_goes 17 = .ok (.iconst 0, 1) := by decide +kernel
theorem dX5_goes_18 : decode cX5_goes 18 = .ok (.istore_n 3, 1) := by decide +kernel
theorem dX5_goes_19 : decode cX5_goes 19 = .ok (.iload_n 3, 1) := by decide +kernel
theorem dX5_goes_20 : decode cX5_goes 20 = .ok (.aload_n 0, 1) := by decide +kernel
theorem dX5_goes_21 : decode cX5_goes 21 = .ok (.getfield 148, 3) := by decide +kernel
theorem dX5_goes_24 : decode cX5_goes 24 = .ok (.if_icmp .ge 37, 3) := by decide +kernel
theorem dX5_goes_27 : decode cX5_goes 27 = .ok (.aload_n 0, 1) := by decide +kernel
theorem dX5_goes_28 : decode cX5_goes 28 = .ok (.aload_n 1, 1) := by decide +kernel
theorem dX5_goes_29 : decode cX5_goes 29 = .ok (.iload_n 3, 1) := by decide +kernel
theorem dX5_goes_30 : decode cX5_goes 30 = .ok (.invokevirtual 169, 3) := by decide +kernel
theorem dX5_goes_33 : decode cX5_goes 33 = .ok (.ifCond .ne 22, 3) := by decide +kernel
theorem dX5_goes_36 : decode cX5_goes 36 = .ok (.iload_n 2, 1) := by decide +kernel
theorem dX5_goes_37 : decode cX5_goes 37 = .ok (.aload_n 0, 1) := by decide +kernel
theorem dX5_goes_38 : decode cX5_goes 38 = .ok (.aload_n 1, 1) := by decide +kernel
theorem dX5_goes_39 : decode cX5_goes 39 = .ok (.iload_n 3, 1) := by decide +kernel
theorem dX5_goes_40 : decode cX5_goes 40 = .ok (.invokevirtual 173, 3) := by decide +kernel
theorem dX5_goes_43 : decode cX5_goes 43 = .ok (.ifCond .eq 9, 3) := by decide +kernel
theorem dX5_goes_46 : decode cX5_goes 46 = .ok (.iconst 1, 1) := by decide +kernel
theorem dX5_goes_47 : decode cX5_goes 47 = .ok (.iload_n 3, 1) := by decide +kernel
theorem dX5_goes_48 : decode cX5_goes 48 = .ok (.ishl, 1) := by decide +kernel
theorem dX5_goes_49 : decode cX5_goes 49 = .ok (.goto 4, 3) := by decide +kernel
theorem dX5_goes_52 : decode cX5_goes 52 = .ok (.iconst 0, 1) := by decide +kernel
theorem dX5_goes_53 : decode cX5_goes 53 = .ok (.ior, 1) := by decide +kernel
theorem dX5_goes_54 : decode cX5_goes 54 = .ok (.istore_n 2, 1) := by decide +kernel
theorem dX5_goes_55 : decode cX5_goes 55 = .ok (.iinc 3 1, 3) := by decide +kernel
theorem dX5_goes_58 : decode cX5_goes 58 = .ok (.goto (-39), 3) := by decide +kernel
theorem dX5_goes_61 : decode cX5_goes 61 = .ok (.aload_n 1, 1) := by decide +kernel
theorem dX5_goes_62 : decode cX5_goes 62 = .ok (.iconst 2, 1) := by decide +kernel
theorem dX5_goes_63 : decode cX5_goes 63 = .ok (.dup2, 1) := by decide +kernel
theorem dX5_goes_64 : decode cX5_goes 64 = .ok (.iaload, 1) := by decide +kernel
theorem dX5_goes_65 : decode cX5_goes 65 = .ok (.iconst 1, 1) := by decide +kernel
theorem dX5_goes_66 : decode cX5_goes 66 = .ok (.iadd, 1) := by decide +kernel
theorem dX5_goes_67 : decode cX5_goes 67 = .ok (.iastore, 1) := by decide +kernel
theorem dX5_goes_68 : decode cX5_goes 68 = .ok (.iload_n 2, 1) := by decide +kernel
theorem dX5_goes_69 : decode cX5_goes 69 = .ok (.ireturn, 1) := by decide +kernel
theorem dX5_pipe_0 : decode cX5_pipe 0 = .ok (.aload_n 0, 1) := by decide +kernel
theorem dX5_pipe_1 : decode cX5_pipe 1 = .ok (.iload_n 1, 1) := by decide +kernel
theorem dX5_pipe_2 : decode cX5_pipe 2 = .ok (.invokevirtual 176, 3) := by decide +kernel
theorem dX5_pipe_5 : decode cX5_pipe 5 = .ok (.ifCond .eq 15, 3) := by decide +kernel
theorem dX5_pipe_8 : decode cX5_pipe 8 = .ok (.iload_n 2, 1) := by decide +kernel
theorem dX5_pipe_9 : decode cX5_pipe 9 = .ok (.i2l, 1) := by decide +kernel
theorem dX5_pipe_10 : decode cX5_pipe 10 = .ok (.lconst 0, 1) := by decide +kernel
theorem dX5_pipe_11 : decode cX5_pipe 11 = .ok (.ldc2_w 179, 3) := by decide +kernel
theorem dX5_pipe_14 : decode cX5_pipe 14 = .ok (.invokestatic 80, 3) := by decide +kernel
theorem dX5_pipe_17 : decode cX5_pipe 17 = .ok (.ifCond .ne 5, 3) := by decide +kernel
theorem dX5_pipe_20 : decode cX5_pipe 20 = .ok (.iconst (-1), 1) := by decide +kernel
theorem dX5_pipe_21 : decode cX5_pipe 21 = .ok (.ireturn, 1) := by decide +kernel
theorem dX5_pipe_22 : decode cX5_pipe 22 = .ok (.iload_n 2, 1) := by decide +kernel
theorem dX5_pipe_23 : decode cX5_pipe 23 = .ok (.tableswitch 137 0 6 #[41, 52, 63, 74, 88, 101, 115], 41) := by decide +kernel
theorem dX5_pipe_64 : decode cX5_pipe 64 = .ok (.aload_n 0, 1) := by decide +kernel
theorem dX5_pipe_65 : decode cX5_pipe 65 = .ok (.aload_n 0, 1) := by decide +kernel
theorem dX5_pipe_66 : decode cX5_pipe 66 = .ok (.getfield 29, 3) := by decide +kernel
theorem dX5_pipe_69 : decode cX5_pipe 69 = .ok (.iload_n 1, 1) := by decide +kernel
theorem dX5_pipe_70 : decode cX5_pipe 70 = .ok (.iaload, 1) := by decide +kernel
theorem dX5_pipe_71 : decode cX5_pipe 71 = .ok (.invokevirtual 94, 3) := by decide +kernel
theorem dX5_pipe_74 : decode cX5_pipe 74 = .ok (.ireturn, 1) := by decide +kernel
theorem dX5_pipe_75 : decode cX5_pipe 75 = .ok (.aload_n 0, 1) := by decide +kernel
theorem dX5_pipe_76 : decode cX5_pipe 76 = .ok (.aload_n 0, 1) := by decide +kernel
theorem dX5_pipe_77 : decode cX5_pipe 77 = .ok (.getfield 32, 3) := by decide +kernel
theorem dX5_pipe_80 : decode cX5_pipe 80 = .ok (.iload_n 1, 1) := by decide +kernel
theorem dX5_pipe_81 : decode cX5_pipe 81 = .ok (.iaload, 1) := by decide +kernel
theorem dX5_pipe_82 : decode cX5_pipe 82 = .ok (.invokevirtual 94, 3) := by decide +kernel
theorem dX5_pipe_85 : decode cX5_pipe 85 = .ok (.ireturn, 1) := by decide +kernel
theorem dX5_pipe_86 : decode cX5_pipe 86 = .ok (.aload_n 0, 1) := by decide +kernel
theorem dX5_pipe_87 : decode cX5_pipe 87 = .ok (.aload_n 0, 1) := by decide +kernel
theorem dX5_pipe_88 : decode cX5_pipe 88 = .ok (.getfield 35, 3) := by decide +kernel
theorem dX5_pipe_91 : decode cX5_pipe 91 = .ok (.iload_n 1, 1) := by decide +kernel
theorem dX5_pipe_92 : decode cX5_pipe 92 = .ok (.iaload, 1) := by decide +kernel
theorem dX5_pipe_93 : decode cX5_pipe 93 = .ok (.invokevirtual 94, 3) := by decide +kernel
theorem dX5_pipe_96 : decode cX5_pipe 96 = .ok (.ireturn, 1) := by decide +kernel
theorem dX5_pipe_97 : decode cX5_pipe 97 = .ok (.aload_n 0, 1) := by decide +kernel
theorem dX5_pipe_98 : decode cX5_pipe 98 = .ok (.aload_n 0, 1) := by decide +kernel
theorem dX5_pipe_99 : decode cX5_pipe 99 = .ok (.aload_n 0, 1) := by decide +kernel
theorem dX5_pipe_100 : decode cX5_pipe 100 = .ok (.getfield 38, 3) := by decide +kernel
theorem dX5_pipe_103 : decode cX5_pipe 103 = .ok (.iload_n 1, 1) := by decide +kernel
theorem dX5_pipe_104 : decode cX5_pipe 104 = .ok (.invokevirtual 158, 3) := by decide +kernel
theorem dX5_pipe_107 : decode cX5_pipe 107 = .ok (.invokevirtual 94, 3) := by decide +kernel
theorem dX5_pipe_110 : decode cX5_pipe 110 = .ok (.ireturn, 1) := by decide +kernel
theorem dX5_pipe_111 : decode cX5_pipe 111 = .ok (.aload_n 0, 1) := by decide +kernel
theorem dX5_pipe_112 : decode cX5_pipe 112 = .ok (.aload_n 0, 1) := by decide +kernel
theorem dX5_pipe_113 : decode cX5_pipe 113 = .ok (.getfield 38, 3) := by decide +kernel
theorem dX5_pipe_116 : decode cX5_pipe 116 = .ok (.iconst 5, 1) := by decide +kernel
theorem dX5_pipe_117 : decode cX5_pipe 117 = .ok (.iload_n 1, 1) := by decide +kernel
theorem dX5_pipe_118 : decode cX5_pipe 118 = .ok (.iadd, 1) := by decide +kernel
theorem dX5_pipe_119 : decode cX5_pipe 119 = .ok (.iaload, 1) := by decide +kernel
theorem dX5_pipe_120 : decode cX5_pipe 120 = .ok (.invokevirtual 94, 3) := by decide +kernel
theorem dX5_pipe_123 : decode cX5_pipe 123 = .ok (.ireturn, 1) := by decide +kernel
theorem dX5_pipe_124 : decode cX5_pipe 124 = .ok (.aload_n 0, 1) := by decide +kernel
theorem dX5_pipe_125 : decode cX5_pipe 125 = .ok (.aload_n 0, 1) := by decide +kernel
theorem dX5_pipe_126 : decode cX5_pipe 126 = .ok (.getfield 38, 3) := by decide +kernel
theorem dX5_pipe_129 : decode cX5_pipe 129 = .ok (.bipush 11, 2) := by decide +kernel
theorem dX5_pipe_131 : decode cX5_pipe 131 = .ok (.iload_n 1, 1) := by decide +kernel
theorem dX5_pipe_132 : decode cX5_pipe 132 = .ok (.iadd, 1) := by decide +kernel
theorem dX5_pipe_133 : decode cX5_pipe 133 = .ok (.iaload, 1) := by decide +kernel
theorem dX5_pipe_134 : decode cX5_pipe 134 = .ok (.invokevirtual 94, 3) := by decide +kernel
theorem dX5_pipe_137 : decode cX5_pipe 137 = .ok (.ireturn, 1) := by decide +kernel
theorem dX5_pipe_138 : decode cX5_pipe 138 = .ok (.aload_n 0, 1) := by decide +kernel
theorem dX5_pipe_139 : decode cX5_pipe 139 = .ok (.aload_n 0, 1) := by decide +kernel
theorem dX5_pipe_140 : decode cX5_pipe 140 = .ok (.aload_n 0, 1) := by decide +kernel
theorem dX5_pipe_141 : decode cX5_pipe 141 = .ok (.getfield 38, 3) := by decide +kernel
theorem dX5_pipe_144 : decode cX5_pipe 144 = .ok (.iload_n 1, 1) := by decide +kernel
theorem dX5_pipe_145 : decode cX5_pipe 145 = .ok (.invokevirtual 169, 3) := by decide +kernel
theorem dX5_pipe_148 : decode cX5_pipe 148 = .ok (.ifCond .eq 7, 3) := by decide +kernel
theorem dX5_pipe_151 : decode cX5_pipe 151 = .ok (.iconst 1, 1) := by decide +kernel
theorem dX5_pipe_152 : decode cX5_pipe 152 = .ok (.goto 4, 3) := by decide +kernel
theorem dX5_pipe_155 : decode cX5_pipe 155 = .ok (.iconst 0, 1) := by decide +kernel
theorem dX5_pipe_156 : decode cX5_pipe 156 = .ok (.invokevirtual 94, 3) := by decide +kernel
theorem dX5_pipe_159 : decode cX5_pipe 159 = .ok (.ireturn, 1) := by decide +kernel
theorem dX5_pipe_160 : decode cX5_pipe 160 = .ok (.aload_n 0, 1) := by decide +kernel
theorem dX5_pipe_161 : decode cX5_pipe 161 = .ok (.aload_n 0, 1) := by decide +kernel
theorem dX5_pipe_162 : decode cX5_pipe 162 = .ok (.getfield 38, 3) := by decide +kernel
theorem dX5_pipe_165 : decode cX5_pipe 165 = .ok (.iconst 4, 1) := by decide +kernel
theorem dX5_pipe_166 : decode cX5_pipe 166 = .ok (.iaload, 1) := by decide +kernel
theorem dX5_pipe_167 : decode cX5_pipe 167 = .ok (.iload_n 1, 1) := by decide +kernel
theorem dX5_pipe_168 : decode cX5_pipe 168 = .ok (.ishr, 1) := by decide +kernel
theorem dX5_pipe_169 : decode cX5_pipe 169 = .ok (.iconst 1, 1) := by decide +kernel
theorem dX5_pipe_170 : decode cX5_pipe 170 = .ok (.iand, 1) := by decide +kernel
theorem dX5_pipe_171 : decode cX5_pipe 171 = .ok (.invokevirtual 94, 3) := by decide +kernel
theorem dX5_pipe_174 : decode cX5_pipe 174 = .ok (.ireturn, 1) := by decide +kernel
theorem dX5_mark_0 : decode cX5_mark 0 = .ok (.aload_n 0, 1) := by decide +kernel
theorem dX5_mark_1 : decode cX5_mark 1 = .ok (.iload_n 1, 1) := by decide +kernel
theorem dX5_mark_2 : decode cX5_mark 2 = .ok (.invokevirtual 176, 3) := by decide +kernel
theorem dX5_mark_5 : decode cX5_mark 5 = .ok (.ifCond .eq 15, 3) := by decide +kernel
theorem dX5_mark_8 : decode cX5_mark 8 = .ok (.iload_n 2, 1) := by decide +kernel
theorem dX5_mark_9 : decode cX5_mark 9 = .ok (.i2l, 1) := by decide +kernel
theorem dX5_mark_10 : decode cX5_mark 10 = .ok (.lconst 1, 1) := by decide +kernel
theorem dX5_mark_11 : decode cX5_mark 11 = .ok (.ldc2_w 78, 3) := by decide +kernel
theorem dX5_mark_14 : decode cX5_mark 14 = .ok (.invokestatic 80, 3) := by decide +kernel
theorem dX5_mark_17 : decode cX5_mark 17 = .ok (.ifCond .ne 5, 3) := by decide +kernel
theorem dX5_mark_20 : decode cX5_mark 20 = .ok (.iconst (-1), 1) := by decide +kernel
theorem dX5_mark_21 : decode cX5_mark 21 = .ok (.ireturn, 1) := by decide +kernel
theorem dX5_mark_22 : decode cX5_mark 22 = .ok (.aload_n 0, 1) := by decide +kernel
theorem dX5_mark_23 : decode cX5_mark 23 = .ok (.getfield 29, 3) := by decide +kernel
theorem dX5_mark_26 : decode cX5_mark 26 = .ok (.iload_n 1, 1) := by decide +kernel
theorem dX5_mark_27 : decode cX5_mark 27 = .ok (.iaload, 1) := by decide +kernel
theorem dX5_mark_28 : decode cX5_mark 28 = .ok (.iload_n 2, 1) := by decide +kernel
theorem dX5_mark_29 : decode cX5_mark 29 = .ok (.invokestatic 162, 3) := by decide +kernel
theorem dX5_mark_32 : decode cX5_mark 32 = .ok (.ifCond .ne 9, 3) := by decide +kernel
theorem dX5_mark_35 : decode cX5_mark 35 = .ok (.aload_n 0, 1) := by decide +kernel
theorem dX5_mark_36 : decode cX5_mark 36 = .ok (.iconst 3, 1) := by decide +kernel
theorem dX5_mark_37 : decode cX5_mark 37 = .ok (.invokevirtual 90, 3) := by decide +kernel
theorem dX5_mark_40 : decode cX5_mark 40 = .ok (.ireturn, 1) := by decide +kernel
theorem dX5_mark_41 : decode cX5_mark 41 = .ok (.iload_n 2, 1) := by decide +kernel
theorem dX5_mark_42 : decode cX5_mark 42 = .ok (.tableswitch 104 1 4 #[30, 42, 75, 92], 30) := by decide +kernel
theorem dX5_mark_72 : decode cX5_mark 72 = .ok (.bipush 20, 2) := by decide +kernel
theorem dX5_mark_74 : decode cX5_mark 74 = .ok (.aload_n 0, 1) := by decide +kernel
theorem dX5_mark_75 : decode cX5_mark 75 = .ok (.getfield 38, 3) := by decide +kernel
theorem dX5_mark_78 : decode cX5_mark 78 = .ok (.iconst 5, 1) := by decide +kernel
theorem dX5_mark_79 : decode cX5_mark 79 = .ok (.iload_n 1, 1) := by decide +kernel
theorem dX5_mark_80 : decode cX5_mark 80 = .ok (.iadd, 1) := by decide +kernel
theorem dX5_mark_81 : decode cX5_mark 81 = .ok (.iaload, 1) := by decide +kernel
theorem dX5_mark_82 : decode cX5_mark 82 = .ok (.isub, 1) := by decide +kernel
theorem dX5_mark_83 : decode cX5_mark 83 = .ok (.ireturn, 1) := by decide +kernel
theorem dX5_mark_84 : decode cX5_mark 84 = .ok (.aload_n 0, 1) := by decide +kernel
theorem dX5_mark_85 : decode cX5_mark 85 = .ok (.getfield 35, 3) := by decide +kernel
theorem dX5_mark_88 : decode cX5_mark 88 = .ok (.iload_n 1, 1) := by decide +kernel
theorem dX5_mark_89 : decode cX5_mark 89 = .ok (.iaload, 1) := by decide +kernel
theorem dX5_mark_90 : decode cX5_mark 90 = .ok (.aload_n 0, 1) := by decide +kernel
theorem dX5_mark_91 : decode cX5_mark 91 = .ok (.getfield 38, 3) := by decide +kernel
theorem dX5_mark_94 : decode cX5_mark 94 = .ok (.iconst 0, 1) := by decide +kernel
theorem dX5_mark_95 : decode cX5_mark 95 = .ok (.iaload, 1) := by decide +kernel
theorem dX5_mark_96 : decode cX5_mark 96 = .ok (.if_icmp .le 19, 3) := by decide +kernel
theorem dX5_mark_99 : decode cX5_mark 99 = .ok (.aload_n 0, 1) := by decide +kernel
theorem dX5_mark_100 : decode cX5_mark 100 = .ok (.getfield 35, 3) := by decide +kernel
theorem dX5_mark_103 : decode cX5_mark 103 = .ok (.iload_n 1, 1) := by decide +kernel
theorem dX5_mark_104 : decode cX5_mark 104 = .ok (.iaload, 1) := by decide +kernel
theorem dX5_mark_105 : decode cX5_mark 105 = .ok (.aload_n 0, 1) := by decide +kernel
theorem dX5_mark_106 : decode cX5_mark 106 = .ok (.getfield 38, 3) := by decide +kernel
theorem dX5_mark_109 : decode cX5_mark 109 = .ok (.iconst 0, 1) := by decide +kernel
theorem dX5_mark_110 : decode cX5_mark 110 = .ok (.iaload, 1) := by decide +kernel
theorem dX5_mark_111 : decode cX5_mark 111 = .ok (.isub, 1) := by decide +kernel
theorem dX5_mark_112 : decode cX5_mark 112 = .ok (.goto 4, 3) := by decide +kernel
theorem dX5_mark_115 : decode cX5_mark 115 = .ok (.iconst 0, 1) := by decide +kernel
theorem dX5_mark_116 : decode cX5_mark 116 = .ok (.ireturn, 1) := by decide +kernel
theorem dX5_mark_117 : decode cX5_mark 117 = .ok (.aload_n 0, 1) := by decide +kernel
theorem dX5_mark_118 : decode cX5_mark 118 = .ok (.aload_n 0, 1) := by decide +kernel
theorem dX5_mark_119 : decode cX5_mark 119 = .ok (.getfield 38, 3) := by decide +kernel
theorem dX5_mark_122 : decode cX5_mark 122 = .ok (.iload_n 1, 1) := by decide +kernel
theorem dX5_mark_123 : decode cX5_mark 123 = .ok (.invokevirtual 158, 3) := by decide +kernel
theorem dX5_mark_126 : decode cX5_mark 126 = .ok (.aload_n 0, 1) := by decide +kernel
theorem dX5_mark_127 : decode cX5_mark 127 = .ok (.getfield 35, 3) := by decide +kernel
theorem dX5_mark_130 : decode cX5_mark 130 = .ok (.iload_n 1, 1) := by decide +kernel
theorem dX5_mark_131 : decode cX5_mark 131 = .ok (.iaload, 1) := by decide +kernel
theorem dX5_mark_132 : decode cX5_mark 132 = .ok (.isub, 1) := by decide +kernel
theorem dX5_mark_133 : decode cX5_mark 133 = .ok (.ireturn, 1) := by decide +kernel
theorem dX5_mark_134 : decode cX5_mark 134 = .ok (.bipush 122, 2) := by decide +kernel
theorem dX5_mark_136 : decode cX5_mark 136 = .ok (.aload_n 0, 1) := by decide +kernel
theorem dX5_mark_137 : decode cX5_mark 137 = .ok (.getfield 38, 3) := by decide +kernel
theorem dX5_mark_140 : decode cX5_mark 140 = .ok (.iconst 2, 1) := by decide +kernel
theorem dX5_mark_141 : decode cX5_mark 141 = .ok (.iaload, 1) := by decide +kernel
theorem dX5_mark_142 : decode cX5_mark 142 = .ok (.isub, 1) := by decide +kernel
theorem dX5_mark_143 : decode cX5_mark 143 = .ok (.iconst 3, 1) := by decide +kernel
theorem dX5_mark_144 : decode cX5_mark 144 = .ok (.irem, 1) := by decide +kernel
theorem dX5_mark_145 : decode cX5_mark 145 = .ok (.ireturn, 1) := by decide +kernel
theorem dX5_mark_146 : decode cX5_mark 146 = .ok (.iconst 0, 1) := by decide +kernel
theorem dX5_mark_147 : decode cX5_mark 147 = .ok (.istore_n 3, 1) := by decide +kernel
theorem dX5_mark_148 : decode cX5_mark 148 = .ok (.iconst 0, 1) := by decide +kernel
theorem dX5_mark_149 : decode cX5_mark 149 = .ok (.istore 4, 2) := by decide +kernel
theorem dX5_mark_151 : decode cX5_mark 151 = .ok (.iload 4, 2) := by decide +kernel
theorem dX5_mark_153 : decode cX5_mark 153 = .ok (.aload_n 0, 1) := by decide +kernel
theorem dX5_mark_154 : decode cX5_mark 154 = .ok (.getfield 148, 3) := by decide +kernel
theorem dX5_mark_157 : decode cX5_mark 157 = .ok (.if_icmp .ge 39, 3) := by decide +kernel
theorem dX5_mark_160 : decode cX5_mark 160 = .ok (.iload_n 3, 1) := by decide +kernel
theorem dX5_mark_161 : decode cX5_mark 161 = .ok (.aload_n 0, 1) := by decide +kernel
theorem dX5_mark_162 : decode cX5_mark 162 = .ok (.aload_n 0, 1) := by decide +kernel
theorem dX5_mark_163 : decode cX5_mark 163 = .ok (.getfield 38, 3) := by decide +kernel
theorem dX5_mark_166 : decode cX5_mark 166 = .ok (.iload 4, 2) := by decide +kernel
theorem dX5_mark_168 : decode cX5_mark 168 = .ok (.invokevirtual 158, 3) := by decide +kernel
theorem dX5_mark_171 : decode cX5_mark 171 = .ok (.aload_n 0, 1) := by decide +kernel
theorem dX5_mark_172 : decode cX5_mark 172 = .ok (.aload_n 0, 1) := by decide +kernel
theorem dX5_mark_173 : decode cX5_mark 173 = .ok (.getfield 38, 3) := by decide +kernel
theorem dX5_mark_176 : decode cX5_mark 176 = .ok (.iload_n 1, 1) := by decide +kernel
theorem dX5_mark_177 : decode cX5_mark 177 = .ok (.invokevirtual 158, 3) := by decide +kernel
theorem dX5_mark_180 : decode cX5_mark 180 = .ok (.if_icmp .gt 7, 3) := by decide +kernel
theorem dX5_mark_183 : decode cX5_mark 183 = .ok (.iconst 1, 1) := by decide +kernel
theorem dX5_mark_184 : decode cX5_mark 184 = .ok (.goto 4, 3) := by decide +kernel
theorem dX5_mark_187 : decode cX5_mark 187 = .ok (.iconst 0, 1) := by decide +kernel
theorem dX5_mark_188 : decode cX5_mark 188 = .ok (.iadd, 1) := by decide +kernel
theorem dX5_mark_189 : decode cX5_mark 189 = .ok (.istore_n 3, 1) := by decide +kernel
theorem dX5_mark_190 : decode cX5_mark 190 = .ok (.iinc 4 1, 3) := by decide +kernel
theorem dX5_mark_193 : decode cX5_mark 193 = .ok (.goto (-42), 3) := by decide +kernel
theorem dX5_mark_196 : decode cX5_mark 196 = .ok (.iload_n 3, 1) := by decide +kernel
theorem dX5_mark_197 : decode cX5_mark 197 = .ok (.ireturn, 1) := by decide +kernel
theorem dX5_refuses_0 : decode cX5_refuses 0 = .ok (.aload_n 0, 1) := by decide +kernel
theorem dX5_refuses_1 : decode cX5_refuses 1 = .ok (.getfield 148, 3) := by decide +kernel
theorem dX5_refuses_4 : decode cX5_refuses 4 = .ok (.ifCond .ne 8, 3) := by decide +kernel
theorem dX5_refuses_7 : decode cX5_refuses 7 = .ok (.bipush (-4), 2) := by decide +kernel
theorem dX5_refuses_9 : decode cX5_refuses 9 = .ok (.goto 20, 3) := by decide +kernel
theorem dX5_refuses_12 : decode cX5_refuses 12 = .ok (.aload_n 0, 1) := by decide +kernel
theorem dX5_refuses_13 : decode cX5_refuses 13 = .ok (.getfield 100, 3) := by decide +kernel
theorem dX5_refuses_16 : decode cX5_refuses 16 = .ok (.iload_n 1, 1) := by decide +kernel
theorem dX5_refuses_17 : decode cX5_refuses 17 = .ok (.iadd, 1) := by decide +kernel
theorem dX5_refuses_18 : decode cX5_refuses 18 = .ok (.bipush 40, 2) := by decide +kernel
theorem dX5_refuses_20 : decode cX5_refuses 20 = .ok (.if_icmp .le 8, 3) := by decide +kernel
theorem dX5_refuses_23 : decode cX5_refuses 23 = .ok (.bipush (-2), 2) := by decide +kernel
theorem dX5_refuses_25 : decode cX5_refuses 25 = .ok (.goto 4, 3) := by decide +kernel
theorem dX5_refuses_28 : decode cX5_refuses 28 = .ok (.iconst 0, 1) := by decide +kernel
theorem dX5_refuses_29 : decode cX5_refuses 29 = .ok (.ireturn, 1) := by decide +kernel
theorem dX5_remember_0 : decode cX5_remember 0 = .ok (.aload_n 0, 1) := by decide +kernel
theorem dX5_remember_1 : decode cX5_remember 1 = .ok (.getfield 38, 3) := by decide +kernel
theorem dX5_remember_4 : decode cX5_remember 4 = .ok (.iconst 0, 1) := by decide +kernel
theorem dX5_remember_5 : decode cX5_remember 5 = .ok (.aload_n 0, 1) := by decide +kernel
theorem dX5_remember_6 : decode cX5_remember 6 = .ok (.getfield 44, 3) := by decide +kernel
theorem dX5_remember_9 : decode cX5_remember 9 = .ok (.bipush 17, 2) := by decide +kernel
theorem dX5_remember_11 : decode cX5_remember 11 = .ok (.aload_n 0, 1) := by decide +kernel
theorem dX5_remember_12 : decode cX5_remember 12 = .ok (.getfield 100, 3) := by decide +kernel
theorem dX5_remember_15 : decode cX5_remember 15 = .ok (.imul, 1) := by decide +kernel
theorem dX5_remember_16 : decode cX5_remember 16 = .ok (.bipush 17, 2) := by decide +kernel
theorem dX5_remember_18 : decode cX5_remember 18 = .ok (.invokestatic 181, 3) := by decide +kernel
theorem dX5_remember_21 : decode cX5_remember 21 = .ok (.aload_n 0, 1) := by decide +kernel
theorem dX5_remember_22 : decode cX5_remember 22 = .ok (.dup, 1) := by decide +kernel
theorem dX5_remember_23 : decode cX5_remember 23 = .ok (.getfield 100, 3) := by decide +kernel
theorem dX5_remember_26 : decode cX5_remember 26 = .ok (.iconst 1, 1) := by decide +kernel
theorem dX5_remember_27 : decode cX5_remember 27 = .ok (.iadd, 1) := by decide +kernel
theorem dX5_remember_28 : decode cX5_remember 28 = .ok (.putfield 100, 3) := by decide +kernel
theorem dX5_remember_31 : decode cX5_remember 31 = .ok (.return_, 1) := by decide +kernel
theorem dX5_hour_0 : decode cX5_hour 0 = .ok (.aload_n 0, 1) := by decide +kernel
theorem dX5_hour_1 : decode cX5_hour 1 = .ok (.iconst 1, 1) := by decide +kernel
theorem dX5_hour_2 : decode cX5_hour 2 = .ok (.invokevirtual 185, 3) := by decide +kernel
theorem dX5_hour_5 : decode cX5_hour 5 = .ok (.istore_n 1, 1) := by decide +kernel
theorem dX5_hour_6 : decode cX5_hour 6 = .ok (.iload_n 1, 1) := by decide +kernel
theorem dX5_hour_7 : decode cX5_hour 7 = .ok (.ifCond .eq 5, 3) := by decide +kernel
theorem dX5_hour_10 : decode cX5_hour 10 = .ok (.iload_n 1, 1) := by decide +kernel
theorem dX5_hour_11 : decode cX5_hour 11 = .ok (.ireturn, 1) := by decide +kernel
theorem dX5_hour_12 : decode cX5_hour 12 = .ok (.aload_n 0, 1) := by decide +kernel
theorem dX5_hour_13 : decode cX5_hour 13 = .ok (.invokevirtual 188, 3) := by decide +kernel
theorem dX5_hour_16 : decode cX5_hour 16 = .ok (.aload_n 0, 1) := by decide +kernel
theorem dX5_hour_17 : decode cX5_hour 17 = .ok (.aload_n 0, 1) := by decide +kernel
theorem dX5_hour_18 : decode cX5_hour 18 = .ok (.getfield 38, 3) := by decide +kernel
theorem dX5_hour_21 : decode cX5_hour 21 = .ok (.invokevirtual 191, 3) := by decide +kernel
theorem dX5_hour_24 : decode cX5_hour 24 = .ok (.ireturn, 1) := by decide +kernel
theorem dX5_pump_0 : decode cX5_pump 0 = .ok (.iload_n 1, 1) := by decide +kernel
theorem dX5_pump_1 : decode cX5_pump 1 = .ok (.i2l, 1) := by decide +kernel
theorem dX5_pump_2 : decode cX5_pump 2 = .ok (.ldc2_w 195, 3) := by decide +kernel
theorem dX5_pump_5 : decode cX5_pump 5 = .ok (.ldc2_w 197, 3) := by decide +kernel
theorem dX5_pump_8 : decode cX5_pump 8 = .ok (.invokestatic 80, 3) := by decide +kernel
theorem dX5_pump_11 : decode cX5_pump 11 = .ok (.ifCond .eq 7, 3) := by decide +kernel
theorem dX5_pump_14 : decode cX5_pump 14 = .ok (.iload_n 1, 1) := by decide +kernel
theorem dX5_pump_15 : decode cX5_pump 15 = .ok (.ifCond .ne 5, 3) := by decide +kernel
theorem dX5_pump_18 : decode cX5_pump 18 = .ok (.iconst (-1), 1) := by decide +kernel
theorem dX5_pump_19 : decode cX5_pump 19 = .ok (.ireturn, 1) := by decide +kernel
theorem dX5_pump_20 : decode cX5_pump 20 = .ok (.aload_n 0, 1) := by decide +kernel
theorem dX5_pump_21 : decode cX5_pump 21 = .ok (.getfield 148, 3) := by decide +kernel
theorem dX5_pump_24 : decode cX5_pump 24 = .ok (.ifCond .eq 22, 3) := by decide +kernel
theorem dX5_pump_27 : decode cX5_pump 27 = .ok (.aload_n 0, 1) := by decide +kernel
theorem dX5_pump_28 : decode cX5_pump 28 = .ok (.getfield 38, 3) := by decide +kernel
theorem dX5_pump_31 : decode cX5_pump 31 = .ok (.iconst 0, 1) := by decide +kernel
theorem dX5_pump_32 : decode cX5_pump 32 = .ok (.iaload, 1) := by decide +kernel
theorem dX5_pump_33 : decode cX5_pump 33 = .ok (.iload_n 1, 1) := by decide +kernel
theorem dX5_pump_34 : decode cX5_pump 34 = .ok (.iadd, 1) := by decide +kernel
theorem dX5_pump_35 : decode cX5_pump 35 = .ok (.i2l, 1) := by decide +kernel
theorem dX5_pump_36 : decode cX5_pump 36 = .ok (.lconst 0, 1) := by decide +kernel
theorem dX5_pump_37 : decode cX5_pump 37 = .ok (.ldc2_w 199, 3) := by decide +kernel
theorem dX5_pump_40 : decode cX5_pump 40 = .ok (.invokestatic 80, 3) := by decide +kernel
theorem dX5_pump_43 : decode cX5_pump 43 = .ok (.ifCond .ne 6, 3) := by decide +kernel
theorem dX5_pump_46 : decode cX5_pump 46 = .ok (.bipush (-4), 2) := by decide +kernel
theorem dX5_pump_48 : decode cX5_pump 48 = .ok (.ireturn, 1) := by decide +kernel
theorem dX5_pump_49 : decode cX5_pump 49 = .ok (.aload_n 0, 1) := by decide +kernel
theorem dX5_pump_50 : decode cX5_pump 50 = .ok (.getfield 100, 3) := by decide +kernel
theorem dX5_pump_53 : decode cX5_pump 53 = .ok (.bipush 40, 2) := by decide +kernel
theorem dX5_pump_55 : decode cX5_pump 55 = .ok (.if_icmp .ne 6, 3) := by decide +kernel
theorem dX5_pump_58 : decode cX5_pump 58 = .ok (.bipush (-2), 2) := by decide +kernel
theorem dX5_pump_60 : decode cX5_pump 60 = .ok (.ireturn, 1) := by decide +kernel
theorem dX5_pump_61 : decode cX5_pump 61 = .ok (.aload_n 0, 1) := by decide +kernel
theorem dX5_pump_62 : decode cX5_pump 62 = .ok (.invokevirtual 188, 3) := by decide +kernel
theorem dX5_pump_65 : decode cX5_pump 65 = .ok (.aload_n 0, 1) := by decide +kernel
theorem dX5_pump_66 : decode cX5_pump 66 = .ok (.getfield 38, 3) := by decide +kernel
theorem dX5_pump_69 : decode cX5_pump 69 = .ok (.iconst 0, 1) := by decide +kernel
theorem dX5_pump_70 : decode cX5_pump 70 = .ok (.dup2, 1) := by decide +kernel
theorem dX5_pump_71 : decode cX5_pump 71 = .ok (.iaload, 1) := by decide +kernel
theorem dX5_pump_72 : decode cX5_pump 72 = .ok (.iload_n 1, 1) := by decide +kernel
theorem dX5_pump_73 : decode cX5_pump 73 = .ok (.iadd, 1) := by decide +kernel
theorem dX5_pump_74 : decode cX5_pump 74 = .ok (.iastore, 1) := by decide +kernel
theorem dX5_pump_75 : decode cX5_pump 75 = .ok (.aload_n 0, 1) := by decide +kernel
theorem dX5_pump_76 : decode cX5_pump 76 = .ok (.getfield 38, 3) := by decide +kernel
theorem dX5_pump_79 : decode cX5_pump 79 = .ok (.iconst 0, 1) := by decide +kernel
theorem dX5_pump_80 : decode cX5_pump 80 = .ok (.iaload, 1) := by decide +kernel
theorem dX5_pump_81 : decode cX5_pump 81 = .ok (.ireturn, 1) := by decide +kernel
theorem dX5_turns_0 : decode cX5_turns 0 = .ok (.aload_n 0, 1) := by decide +kernel
theorem dX5_turns_1 : decode cX5_turns 1 = .ok (.iload_n 2, 1) := by decide +kernel
theorem dX5_turns_2 : decode cX5_turns 2 = .ok (.invokevirtual 176, 3) := by decide +kernel
theorem dX5_turns_5 : decode cX5_turns 5 = .ok (.ifCond .ne 5, 3) := by decide +kernel
theorem dX5_turns_8 : decode cX5_turns 8 = .ok (.iconst (-1), 1) := by decide +kernel
theorem dX5_turns_9 : decode cX5_turns 9 = .ok (.ireturn, 1) := by decide +kernel
theorem dX5_turns_10 : decode cX5_turns 10 = .ok (.aload_n 0, 1) := by decide +kernel
theorem dX5_turns_11 : decode cX5_turns 11 = .ok (.getfield 100, 3) := by decide +kernel
theorem dX5_turns_14 : decode cX5_turns 14 = .ok (.bipush 40, 2) := by decide +kernel
theorem dX5_turns_16 : decode cX5_turns 16 = .ok (.if_icmp .ne 6, 3) := by decide +kernel
theorem dX5_turns_19 : decode cX5_turns 19 = .ok (.bipush (-2), 2) := by decide +kernel
theorem dX5_turns_21 : decode cX5_turns 21 = .ok (.ireturn, 1) := by decide +kernel
theorem dX5_turns_22 : decode cX5_turns 22 = .ok (.aload_n 0, 1) := by decide +kernel
theorem dX5_turns_23 : decode cX5_turns 23 = .ok (.invokevirtual 188, 3) := by decide +kernel
theorem dX5_turns_26 : decode cX5_turns 26 = .ok (.aload_n 0, 1) := by decide +kernel
theorem dX5_turns_27 : decode cX5_turns 27 = .ok (.getfield 38, 3) := by decide +kernel
theorem dX5_turns_30 : decode cX5_turns 30 = .ok (.iload_n 1, 1) := by decide +kernel
theorem dX5_turns_31 : decode cX5_turns 31 = .ok (.dup2, 1) := by decide +kernel
theorem dX5_turns_32 : decode cX5_turns 32 = .ok (.iaload, 1) := by decide +kernel
theorem dX5_turns_33 : decode cX5_turns 33 = .ok (.iconst 1, 1) := by decide +kernel
theorem dX5_turns_34 : decode cX5_turns 34 = .ok (.iload_n 2, 1) := by decide +kernel
theorem dX5_turns_35 : decode cX5_turns 35 = .ok (.ishl, 1) := by decide +kernel
theorem dX5_turns_36 : decode cX5_turns 36 = .ok (.ixor, 1) := by decide +kernel
theorem dX5_turns_37 : decode cX5_turns 37 = .ok (.iastore, 1) := by decide +kernel
theorem dX5_turns_38 : decode cX5_turns 38 = .ok (.aload_n 0, 1) := by decide +kernel
theorem dX5_turns_39 : decode cX5_turns 39 = .ok (.getfield 38, 3) := by decide +kernel
theorem dX5_turns_42 : decode cX5_turns 42 = .ok (.iload_n 1, 1) := by decide +kernel
theorem dX5_turns_43 : decode cX5_turns 43 = .ok (.iaload, 1) := by decide +kernel
theorem dX5_turns_44 : decode cX5_turns 44 = .ok (.iload_n 2, 1) := by decide +kernel
theorem dX5_turns_45 : decode cX5_turns 45 = .ok (.ishr, 1) := by decide +kernel
theorem dX5_turns_46 : decode cX5_turns 46 = .ok (.iconst 1, 1) := by decide +kernel
theorem dX5_turns_47 : decode cX5_turns 47 = .ok (.iand, 1) := by decide +kernel
theorem dX5_turns_48 : decode cX5_turns 48 = .ok (.ireturn, 1) := by decide +kernel
theorem dX5_cut_0 : decode cX5_cut 0 = .ok (.aload_n 0, 1) := by decide +kernel
theorem dX5_cut_1 : decode cX5_cut 1 = .ok (.iconst 3, 1) := by decide +kernel
theorem dX5_cut_2 : decode cX5_cut 2 = .ok (.iload_n 1, 1) := by decide +kernel
theorem dX5_cut_3 : decode cX5_cut 3 = .ok (.invokevirtual 201, 3) := by decide +kernel
theorem dX5_cut_6 : decode cX5_cut 6 = .ok (.ireturn, 1) := by decide +kernel
theorem dX5_leak_0 : decode cX5_leak 0 = .ok (.aload_n 0, 1) := by decide +kernel
theorem dX5_leak_1 : decode cX5_leak 1 = .ok (.iconst 4, 1) := by decide +kernel
theorem dX5_leak_2 : decode cX5_leak 2 = .ok (.iload_n 1, 1) := by decide +kernel
theorem dX5_leak_3 : decode cX5_leak 3 = .ok (.invokevirtual 201, 3) := by decide +kernel
theorem dX5_leak_6 : decode cX5_leak 6 = .ok (.ireturn, 1) := by decide +kernel
theorem dX5_stroke_0 : decode cX5_stroke 0 = .ok (.iload_n 1, 1) := by decide +kernel
theorem dX5_stroke_1 : decode cX5_stroke 1 = .ok (.i2l, 1) := by decide +kernel
theorem dX5_stroke_2 : decode cX5_stroke 2 = .ok (.lconst 0, 1) := by decide +kernel
theorem dX5_stroke_3 : decode cX5_stroke 3 = .ok (.ldc2_w 197, 3) := by decide +kernel
theorem dX5_stroke_6 : decode cX5_stroke 6 = .ok (.invokestatic 80, 3) := by decide +kernel
theorem dX5_stroke_9 : decode cX5_stroke 9 = .ok (.ifCond .ne 5, 3) := by decide +kernel
theorem dX5_stroke_12 : decode cX5_stroke 12 = .ok (.iconst (-1), 1) := by decide +kernel
theorem dX5_stroke_13 : decode cX5_stroke 13 = .ok (.ireturn, 1) := by decide +kernel
theorem dX5_stroke_14 : decode cX5_stroke 14 = .ok (.aload_n 0, 1) := by decide +kernel
theorem dX5_stroke_15 : decode cX5_stroke 15 = .ok (.getfield 148, 3) := by decide +kernel
theorem dX5_stroke_18 : decode cX5_stroke 18 = .ok (.ifCond .eq 13, 3) := by decide +kernel
theorem dX5_stroke_21 : decode cX5_stroke 21 = .ok (.aload_n 0, 1) := by decide +kernel
theorem dX5_stroke_22 : decode cX5_stroke 22 = .ok (.getfield 38, 3) := by decide +kernel
theorem dX5_stroke_25 : decode cX5_stroke 25 = .ok (.iconst 1, 1) := by decide +kernel
theorem dX5_stroke_26 : decode cX5_stroke 26 = .ok (.iaload, 1) := by decide +kernel
theorem dX5_stroke_27 : decode cX5_stroke 27 = .ok (.iload_n 1, 1) := by decide +kernel
theorem dX5_stroke_28 : decode cX5_stroke 28 = .ok (.if_icmp .ne 6, 3) := by decide +kernel
theorem dX5_stroke_31 : decode cX5_stroke 31 = .ok (.bipush (-4), 2) := by decide +kernel
theorem dX5_stroke_33 : decode cX5_stroke 33 = .ok (.ireturn, 1) := by decide +kernel
theorem dX5_stroke_34 : decode cX5_stroke 34 = .ok (.aload_n 0, 1) := by decide +kernel
theorem dX5_stroke_35 : decode cX5_stroke 35 = .ok (.getfield 100, 3) := by decide +kernel
theorem dX5_stroke_38 : decode cX5_stroke 38 = .ok (.bipush 40, 2) := by decide +kernel
theorem dX5_stroke_40 : decode cX5_stroke 40 = .ok (.if_icmp .ne 6, 3) := by decide +kernel
theorem dX5_stroke_43 : decode cX5_stroke 43 = .ok (.bipush (-2), 2) := by decide +kernel
theorem dX5_stroke_45 : decode cX5_stroke 45 = .ok (.ireturn, 1) := by decide +kernel
theorem dX5_stroke_46 : decode cX5_stroke 46 = .ok (.aload_n 0, 1) := by decide +kernel
theorem dX5_stroke_47 : decode cX5_stroke 47 = .ok (.invokevirtual 188, 3) := by decide +kernel
theorem dX5_stroke_50 : decode cX5_stroke 50 = .ok (.aload_n 0, 1) := by decide +kernel
theorem dX5_stroke_51 : decode cX5_stroke 51 = .ok (.getfield 38, 3) := by decide +kernel
theorem dX5_stroke_54 : decode cX5_stroke 54 = .ok (.iconst 1, 1) := by decide +kernel
theorem dX5_stroke_55 : decode cX5_stroke 55 = .ok (.iaload, 1) := by decide +kernel
theorem dX5_stroke_56 : decode cX5_stroke 56 = .ok (.istore_n 2, 1) := by decide +kernel
theorem dX5_stroke_57 : decode cX5_stroke 57 = .ok (.aload_n 0, 1) := by decide +kernel
theorem dX5_stroke_58 : decode cX5_stroke 58 = .ok (.getfield 38, 3) := by decide +kernel
theorem dX5_stroke_61 : decode cX5_stroke 61 = .ok (.iconst 1, 1) := by decide +kernel
theorem dX5_stroke_62 : decode cX5_stroke 62 = .ok (.iload_n 1, 1) := by decide +kernel
theorem dX5_stroke_63 : decode cX5_stroke 63 = .ok (.iastore, 1) := by decide +kernel
theorem dX5_stroke_64 : decode cX5_stroke 64 = .ok (.iload_n 2, 1) := by decide +kernel
theorem dX5_stroke_65 : decode cX5_stroke 65 = .ok (.ireturn, 1) := by decide +kernel
theorem dX5_undo_0 : decode cX5_undo 0 = .ok (.iload_n 1, 1) := by decide +kernel
theorem dX5_undo_1 : decode cX5_undo 1 = .ok (.i2l, 1) := by decide +kernel
theorem dX5_undo_2 : decode cX5_undo 2 = .ok (.lconst 0, 1) := by decide +kernel
theorem dX5_undo_3 : decode cX5_undo 3 = .ok (.aload_n 0, 1) := by decide +kernel
theorem dX5_undo_4 : decode cX5_undo 4 = .ok (.getfield 100, 3) := by decide +kernel
theorem dX5_undo_7 : decode cX5_undo 7 = .ok (.i2l, 1) := by decide +kernel
theorem dX5_undo_8 : decode cX5_undo 8 = .ok (.invokestatic 80, 3) := by decide +kernel
theorem dX5_undo_11 : decode cX5_undo 11 = .ok (.ifCond .ne 5, 3) := by decide +kernel
theorem dX5_undo_14 : decode cX5_undo 14 = .ok (.iconst (-1), 1) := by decide +kernel
theorem dX5_undo_15 : decode cX5_undo 15 = .ok (.ireturn, 1) := by decide +kernel
theorem dX5_undo_16 : decode cX5_undo 16 = .ok (.aload_n 0, 1) := by decide +kernel
theorem dX5_undo_17 : decode cX5_undo 17 = .ok (.getfield 100, 3) := by decide +kernel
theorem dX5_undo_20 : decode cX5_undo 20 = .ok (.iload_n 1, 1) := by decide +kernel
theorem dX5_undo_21 : decode cX5_undo 21 = .ok (.isub, 1) := by decide +kernel
theorem dX5_undo_22 : decode cX5_undo 22 = .ok (.istore_n 2, 1) := by decide +kernel
theorem dX5_undo_23 : decode cX5_undo 23 = .ok (.iload_n 2, 1) := by decide +kernel
theorem dX5_undo_24 : decode cX5_undo 24 = .ok (.ifCond .le 21, 3) := by decide +kernel
theorem dX5_undo_27 : decode cX5_undo 27 = .ok (.aload_n 0, 1) := by decide +kernel
theorem dX5_undo_28 : decode cX5_undo 28 = .ok (.getfield 44, 3) := by decide +kernel
theorem dX5_undo_31 : decode cX5_undo 31 = .ok (.bipush 17, 2) := by decide +kernel
theorem dX5_undo_33 : decode cX5_undo 33 = .ok (.iload_n 1, 1) := by decide +kernel
theorem dX5_undo_34 : decode cX5_undo 34 = .ok (.imul, 1) := by decide +kernel
theorem dX5_undo_35 : decode cX5_undo 35 = .ok (.aload_n 0, 1) := by decide +kernel
theorem dX5_undo_36 : decode cX5_undo 36 = .ok (.getfield 38, 3) := by decide +kernel
theorem dX5_undo_39 : decode cX5_undo 39 = .ok (.iconst 0, 1) := by decide +kernel
theorem dX5_undo_40 : decode cX5_undo 40 = .ok (.bipush 17, 2) := by decide +kernel
theorem dX5_undo_42 : decode cX5_undo 42 = .ok (.invokestatic 181, 3) := by decide +kernel
theorem dX5_undo_45 : decode cX5_undo 45 = .ok (.aload_n 0, 1) := by decide +kernel
theorem dX5_undo_46 : decode cX5_undo 46 = .ok (.iload_n 1, 1) := by decide +kernel
theorem dX5_undo_47 : decode cX5_undo 47 = .ok (.putfield 100, 3) := by decide +kernel
theorem dX5_undo_50 : decode cX5_undo 50 = .ok (.iload_n 2, 1) := by decide +kernel
theorem dX5_undo_51 : decode cX5_undo 51 = .ok (.ireturn, 1) := by decide +kernel
theorem dX5_keep_0 : decode cX5_keep 0 = .ok (.iload_n 1, 1) := by decide +kernel
theorem dX5_keep_1 : decode cX5_keep 1 = .ok (.i2l, 1) := by decide +kernel
theorem dX5_keep_2 : decode cX5_keep 2 = .ok (.lconst 0, 1) := by decide +kernel
theorem dX5_keep_3 : decode cX5_keep 3 = .ok (.ldc2_w 204, 3) := by decide +kernel
theorem dX5_keep_6 : decode cX5_keep 6 = .ok (.invokestatic 80, 3) := by decide +kernel
theorem dX5_keep_9 : decode cX5_keep 9 = .ok (.ifCond .ne 5, 3) := by decide +kernel
theorem dX5_keep_12 : decode cX5_keep 12 = .ok (.iconst (-1), 1) := by decide +kernel
theorem dX5_keep_13 : decode cX5_keep 13 = .ok (.ireturn, 1) := by decide +kernel
theorem dX5_keep_14 : decode cX5_keep 14 = .ok (.aload_n 0, 1) := by decide +kernel
theorem dX5_keep_15 : decode cX5_keep 15 = .ok (.getfield 148, 3) := by decide +kernel
theorem dX5_keep_18 : decode cX5_keep 18 = .ok (.ifCond .ne 6, 3) := by decide +kernel
theorem dX5_keep_21 : decode cX5_keep 21 = .ok (.bipush (-4), 2) := by decide +kernel
theorem dX5_keep_23 : decode cX5_keep 23 = .ok (.ireturn, 1) := by decide +kernel
theorem dX5_keep_24 : decode cX5_keep 24 = .ok (.aload_n 0, 1) := by decide +kernel
theorem dX5_keep_25 : decode cX5_keep 25 = .ok (.getfield 47, 3) := by decide +kernel
theorem dX5_keep_28 : decode cX5_keep 28 = .ok (.sipush 698, 3) := by decide +kernel
theorem dX5_keep_31 : decode cX5_keep 31 = .ok (.iload_n 1, 1) := by decide +kernel
theorem dX5_keep_32 : decode cX5_keep 32 = .ok (.imul, 1) := by decide +kernel
theorem dX5_keep_33 : decode cX5_keep 33 = .ok (.aload_n 0, 1) := by decide +kernel
theorem dX5_keep_34 : decode cX5_keep 34 = .ok (.getfield 100, 3) := by decide +kernel
theorem dX5_keep_37 : decode cX5_keep 37 = .ok (.iastore, 1) := by decide +kernel
theorem dX5_keep_38 : decode cX5_keep 38 = .ok (.aload_n 0, 1) := by decide +kernel
theorem dX5_keep_39 : decode cX5_keep 39 = .ok (.getfield 38, 3) := by decide +kernel
theorem dX5_keep_42 : decode cX5_keep 42 = .ok (.iconst 0, 1) := by decide +kernel
theorem dX5_keep_43 : decode cX5_keep 43 = .ok (.aload_n 0, 1) := by decide +kernel
theorem dX5_keep_44 : decode cX5_keep 44 = .ok (.getfield 47, 3) := by decide +kernel
theorem dX5_keep_47 : decode cX5_keep 47 = .ok (.sipush 698, 3) := by decide +kernel
theorem dX5_keep_50 : decode cX5_keep 50 = .ok (.iload_n 1, 1) := by decide +kernel
theorem dX5_keep_51 : decode cX5_keep 51 = .ok (.imul, 1) := by decide +kernel
theorem dX5_keep_52 : decode cX5_keep 52 = .ok (.iconst 1, 1) := by decide +kernel
theorem dX5_keep_53 : decode cX5_keep 53 = .ok (.iadd, 1) := by decide +kernel
theorem dX5_keep_54 : decode cX5_keep 54 = .ok (.bipush 17, 2) := by decide +kernel
theorem dX5_keep_56 : decode cX5_keep 56 = .ok (.invokestatic 181, 3) := by decide +kernel
theorem dX5_keep_59 : decode cX5_keep 59 = .ok (.aload_n 0, 1) := by decide +kernel
theorem dX5_keep_60 : decode cX5_keep 60 = .ok (.getfield 44, 3) := by decide +kernel
theorem dX5_keep_63 : decode cX5_keep 63 = .ok (.iconst 0, 1) := by decide +kernel
theorem dX5_keep_64 : decode cX5_keep 64 = .ok (.aload_n 0, 1) := by decide +kernel
theorem dX5_keep_65 : decode cX5_keep 65 = .ok (.getfield 47, 3) := by decide +kernel
theorem dX5_keep_68 : decode cX5_keep 68 = .ok (.sipush 698, 3) := by decide +kernel
theorem dX5_keep_71 : decode cX5_keep 71 = .ok (.iload_n 1, 1) := by decide +kernel
theorem dX5_keep_72 : decode cX5_keep 72 = .ok (.imul, 1) := by decide +kernel
theorem dX5_keep_73 : decode cX5_keep 73 = .ok (.iconst 1, 1) := by decide +kernel
theorem dX5_keep_74 : decode cX5_keep 74 = .ok (.iadd, 1) := by decide +kernel
theorem dX5_keep_75 : decode cX5_keep 75 = .ok (.bipush 17, 2) := by decide +kernel
theorem dX5_keep_77 : decode cX5_keep 77 = .ok (.iadd, 1) := by decide +kernel
theorem dX5_keep_78 : decode cX5_keep 78 = .ok (.sipush 680, 3) := by decide +kernel
theorem dX5_keep_81 : decode cX5_keep 81 = .ok (.invokestatic 181, 3) := by decide +kernel
theorem dX5_keep_84 : decode cX5_keep 84 = .ok (.aload_n 0, 1) := by decide +kernel
theorem dX5_keep_85 : decode cX5_keep 85 = .ok (.getfield 100, 3) := by decide +kernel
theorem dX5_keep_88 : decode cX5_keep 88 = .ok (.ireturn, 1) := by decide +kernel
theorem dX5_on_0 : decode cX5_on 0 = .ok (.iload_n 1, 1) := by decide +kernel
theorem dX5_on_1 : decode cX5_on 1 = .ok (.i2l, 1) := by decide +kernel
theorem dX5_on_2 : decode cX5_on 2 = .ok (.lconst 0, 1) := by decide +kernel
theorem dX5_on_3 : decode cX5_on 3 = .ok (.ldc2_w 204, 3) := by decide +kernel
theorem dX5_on_6 : decode cX5_on 6 = .ok (.invokestatic 80, 3) := by decide +kernel
theorem dX5_on_9 : decode cX5_on 9 = .ok (.ifCond .ne 5, 3) := by decide +kernel
theorem dX5_on_12 : decode cX5_on 12 = .ok (.iconst (-1), 1) := by decide +kernel
theorem dX5_on_13 : decode cX5_on 13 = .ok (.ireturn, 1) := by decide +kernel
theorem dX5_on_14 : decode cX5_on 14 = .ok (.aload_n 0, 1) := by decide +kernel
theorem dX5_on_15 : decode cX5_on 15 = .ok (.getfield 47, 3) := by decide +kernel
theorem dX5_on_18 : decode cX5_on 18 = .ok (.sipush 698, 3) := by decide +kernel
theorem dX5_on_21 : decode cX5_on 21 = .ok (.iload_n 1, 1) := by decide +kernel
theorem dX5_on_22 : decode cX5_on 22 = .ok (.imul, 1) := by decide +kernel
theorem dX5_on_23 : decode cX5_on 23 = .ok (.iaload, 1) := by decide +kernel
theorem dX5_on_24 : decode cX5_on 24 = .ok (.ifCond .ge 9, 3) := by decide +kernel
theorem dX5_on_27 : decode cX5_on 27 = .ok (.aload_n 0, 1) := by decide +kernel
theorem dX5_on_28 : decode cX5_on 28 = .ok (.iconst 1, 1) := by decide +kernel
theorem dX5_on_29 : decode cX5_on 29 = .ok (.invokevirtual 90, 3) := by decide +kernel
theorem dX5_on_32 : decode cX5_on 32 = .ok (.ireturn, 1) := by decide +kernel
theorem dX5_on_33 : decode cX5_on 33 = .ok (.aload_n 0, 1) := by decide +kernel
theorem dX5_on_34 : decode cX5_on 34 = .ok (.aload_n 0, 1) := by decide +kernel
theorem dX5_on_35 : decode cX5_on 35 = .ok (.getfield 47, 3) := by decide +kernel
theorem dX5_on_38 : decode cX5_on 38 = .ok (.sipush 698, 3) := by decide +kernel
theorem dX5_on_41 : decode cX5_on 41 = .ok (.iload_n 1, 1) := by decide +kernel
theorem dX5_on_42 : decode cX5_on 42 = .ok (.imul, 1) := by decide +kernel
theorem dX5_on_43 : decode cX5_on 43 = .ok (.iaload, 1) := by decide +kernel
theorem dX5_on_44 : decode cX5_on 44 = .ok (.putfield 100, 3) := by decide +kernel
theorem dX5_on_47 : decode cX5_on 47 = .ok (.aload_n 0, 1) := by decide +kernel
theorem dX5_on_48 : decode cX5_on 48 = .ok (.getfield 47, 3) := by decide +kernel
theorem dX5_on_51 : decode cX5_on 51 = .ok (.sipush 698, 3) := by decide +kernel
theorem dX5_on_54 : decode cX5_on 54 = .ok (.iload_n 1, 1) := by decide +kernel
theorem dX5_on_55 : decode cX5_on 55 = .ok (.imul, 1) := by decide +kernel
theorem dX5_on_56 : decode cX5_on 56 = .ok (.iconst 1, 1) := by decide +kernel
theorem dX5_on_57 : decode cX5_on 57 = .ok (.iadd, 1) := by decide +kernel
theorem dX5_on_58 : decode cX5_on 58 = .ok (.aload_n 0, 1) := by decide +kernel
theorem dX5_on_59 : decode cX5_on 59 = .ok (.getfield 38, 3) := by decide +kernel
theorem dX5_on_62 : decode cX5_on 62 = .ok (.iconst 0, 1) := by decide +kernel
theorem dX5_on_63 : decode cX5_on 63 = .ok (.bipush 17, 2) := by decide +kernel
theorem dX5_on_65 : decode cX5_on 65 = .ok (.invokestatic 181, 3) := by decide +kernel
theorem dX5_on_68 : decode cX5_on 68 = .ok (.aload_n 0, 1) := by decide +kernel
theorem dX5_on_69 : decode cX5_on 69 = .ok (.getfield 47, 3) := by decide +kernel
theorem dX5_on_72 : decode cX5_on 72 = .ok (.sipush 698, 3) := by decide +kernel
theorem dX5_on_75 : decode cX5_on 75 = .ok (.iload_n 1, 1) := by decide +kernel
theorem dX5_on_76 : decode cX5_on 76 = .ok (.imul, 1) := by decide +kernel
theorem dX5_on_77 : decode cX5_on 77 = .ok (.iconst 1, 1) := by decide +kernel
theorem dX5_on_78 : decode cX5_on 78 = .ok (.iadd, 1) := by decide +kernel
theorem dX5_on_79 : decode cX5_on 79 = .ok (.bipush 17, 2) := by decide +kernel
theorem dX5_on_81 : decode cX5_on 81 = .ok (.iadd, 1) := by decide +kernel
theorem dX5_on_82 : decode cX5_on 82 = .ok (.aload_n 0, 1) := by decide +kernel
theorem dX5_on_83 : decode cX5_on 83 = .ok (.getfield 44, 3) := by decide +kernel
theorem dX5_on_86 : decode cX5_on 86 = .ok (.iconst 0, 1) := by decide +kernel
theorem dX5_on_87 : decode cX5_on 87 = .ok (.sipush 680, 3) := by decide +kernel
theorem dX5_on_90 : decode cX5_on 90 = .ok (.invokestatic 181, 3) := by decide +kernel
theorem dX5_on_93 : decode cX5_on 93 = .ok (.aload_n 0, 1) := by decide +kernel
theorem dX5_on_94 : decode cX5_on 94 = .ok (.getfield 100, 3) := by decide +kernel
theorem dX5_on_97 : decode cX5_on 97 = .ok (.ireturn, 1) := by decide +kernel
theorem dX5_layAside_0 : decode cX5_layAside 0 = .ok (.aload_n 0, 1) := by decide +kernel
theorem dX5_layAside_1 : decode cX5_layAside 1 = .ok (.getfield 38, 3) := by decide +kernel
theorem dX5_layAside_4 : decode cX5_layAside 4 = .ok (.iconst 0, 1) := by decide +kernel
theorem dX5_layAside_5 : decode cX5_layAside 5 = .ok (.aload_n 0, 1) := by decide +kernel
theorem dX5_layAside_6 : decode cX5_layAside 6 = .ok (.getfield 41, 3) := by decide +kernel
theorem dX5_layAside_9 : decode cX5_layAside 9 = .ok (.iconst 0, 1) := by decide +kernel
theorem dX5_layAside_10 : decode cX5_layAside 10 = .ok (.bipush 17, 2) := by decide +kernel
theorem dX5_layAside_12 : decode cX5_layAside 12 = .ok (.invokestatic 181, 3) := by decide +kernel
theorem dX5_layAside_15 : decode cX5_layAside 15 = .ok (.return_, 1) := by decide +kernel
theorem dX5_wants_0 : decode cX5_wants 0 = .ok (.aload_n 0, 1) := by decide +kernel
theorem dX5_wants_1 : decode cX5_wants 1 = .ok (.iload_n 1, 1) := by decide +kernel
theorem dX5_wants_2 : decode cX5_wants 2 = .ok (.invokevirtual 176, 3) := by decide +kernel
theorem dX5_wants_5 : decode cX5_wants 5 = .ok (.ifCond .eq 41, 3) := by decide +kernel
theorem dX5_wants_8 : decode cX5_wants 8 = .ok (.iload_n 2, 1) := by decide +kernel
theorem dX5_wants_9 : decode cX5_wants 9 = .ok (.i2l, 1) := by decide +kernel
theorem dX5_wants_10 : decode cX5_wants 10 = .ok (.lconst 1, 1) := by decide +kernel
theorem dX5_wants_11 : decode cX5_wants 11 = .ok (.ldc2_w 197, 3) := by decide +kernel
theorem dX5_wants_14 : decode cX5_wants 14 = .ok (.invokestatic 80, 3) := by decide +kernel
theorem dX5_wants_17 : decode cX5_wants 17 = .ok (.ifCond .eq 29, 3) := by decide +kernel
theorem dX5_wants_20 : decode cX5_wants 20 = .ok (.iload_n 3, 1) := by decide +kernel
theorem dX5_wants_21 : decode cX5_wants 21 = .ok (.i2l, 1) := by decide +kernel
theorem dX5_wants_22 : decode cX5_wants 22 = .ok (.lconst 0, 1) := by decide +kernel
theorem dX5_wants_23 : decode cX5_wants 23 = .ok (.ldc2_w 206, 3) := by decide +kernel
theorem dX5_wants_26 : decode cX5_wants 26 = .ok (.invokestatic 80, 3) := by decide +kernel
