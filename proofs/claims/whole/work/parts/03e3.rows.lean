theorem dX5_duel_129 : decode cX5_duel 129 = .ok (.iastore, 1) := by decide +kernel
theorem dX5_duel_130 : decode cX5_duel 130 = .ok (.iinc 4 1, 3) := by decide +kernel
theorem dX5_duel_133 : decode cX5_duel 133 = .ok (.goto (-34), 3) := by decide +kernel
theorem dX5_duel_136 : decode cX5_duel 136 = .ok (.aload_n 0, 1) := by decide +kernel
theorem dX5_duel_137 : decode cX5_duel 137 = .ok (.getfield 65, 3) := by decide +kernel
theorem dX5_duel_140 : decode cX5_duel 140 = .ok (.iconst 0, 1) := by decide +kernel
theorem dX5_duel_141 : decode cX5_duel 141 = .ok (.aload_n 0, 1) := by decide +kernel
theorem dX5_duel_142 : decode cX5_duel 142 = .ok (.getfield 62, 3) := by decide +kernel
theorem dX5_duel_145 : decode cX5_duel 145 = .ok (.iconst 0, 1) := by decide +kernel
theorem dX5_duel_146 : decode cX5_duel 146 = .ok (.iload_n 2, 1) := by decide +kernel
theorem dX5_duel_147 : decode cX5_duel 147 = .ok (.invokestatic 181, 3) := by decide +kernel
theorem dX5_duel_150 : decode cX5_duel 150 = .ok (.iinc 3 (-1), 3) := by decide +kernel
theorem dX5_duel_153 : decode cX5_duel 153 = .ok (.goto (-61), 3) := by decide +kernel
theorem dX5_duel_156 : decode cX5_duel 156 = .ok (.aload_n 0, 1) := by decide +kernel
theorem dX5_duel_157 : decode cX5_duel 157 = .ok (.aload_n 0, 1) := by decide +kernel
theorem dX5_duel_158 : decode cX5_duel 158 = .ok (.getfield 62, 3) := by decide +kernel
theorem dX5_duel_161 : decode cX5_duel 161 = .ok (.aload_n 0, 1) := by decide +kernel
theorem dX5_duel_162 : decode cX5_duel 162 = .ok (.getfield 38, 3) := by decide +kernel
theorem dX5_duel_165 : decode cX5_duel 165 = .ok (.iconst 3, 1) := by decide +kernel
theorem dX5_duel_166 : decode cX5_duel 166 = .ok (.iaload, 1) := by decide +kernel
theorem dX5_duel_167 : decode cX5_duel 167 = .ok (.iaload, 1) := by decide +kernel
theorem dX5_duel_168 : decode cX5_duel 168 = .ok (.invokevirtual 94, 3) := by decide +kernel
theorem dX5_duel_171 : decode cX5_duel 171 = .ok (.ireturn, 1) := by decide +kernel
theorem dX5_fraction_0 : decode cX5_fraction 0 = .ok (.lload_n 1, 1) := by decide +kernel
theorem dX5_fraction_1 : decode cX5_fraction 1 = .ok (.lstore 5, 2) := by decide +kernel
theorem dX5_fraction_3 : decode cX5_fraction 3 = .ok (.lload_n 3, 1) := by decide +kernel
theorem dX5_fraction_4 : decode cX5_fraction 4 = .ok (.lstore 7, 2) := by decide +kernel
theorem dX5_fraction_6 : decode cX5_fraction 6 = .ok (.lload 7, 2) := by decide +kernel
theorem dX5_fraction_8 : decode cX5_fraction 8 = .ok (.lconst 0, 1) := by decide +kernel
theorem dX5_fraction_9 : decode cX5_fraction 9 = .ok (.lcmp, 1) := by decide +kernel
theorem dX5_fraction_10 : decode cX5_fraction 10 = .ok (.ifCond .eq 21, 3) := by decide +kernel
theorem dX5_fraction_13 : decode cX5_fraction 13 = .ok (.lload 5, 2) := by decide +kernel
theorem dX5_fraction_15 : decode cX5_fraction 15 = .ok (.lload 7, 2) := by decide +kernel
theorem dX5_fraction_17 : decode cX5_fraction 17 = .ok (.lrem, 1) := by decide +kernel
theorem dX5_fraction_18 : decode cX5_fraction 18 = .ok (.lstore 9, 2) := by decide +kernel
theorem dX5_fraction_20 : decode cX5_fraction 20 = .ok (.lload 7, 2) := by decide +kernel
theorem dX5_fraction_22 : decode cX5_fraction 22 = .ok (.lstore 5, 2) := by decide +kernel
theorem dX5_fraction_24 : decode cX5_fraction 24 = .ok (.lload 9, 2) := by decide +kernel
theorem dX5_fraction_26 : decode cX5_fraction 26 = .ok (.lstore 7, 2) := by decide +kernel
theorem dX5_fraction_28 : decode cX5_fraction 28 = .ok (.goto (-22), 3) := by decide +kernel
theorem dX5_fraction_31 : decode cX5_fraction 31 = .ok (.aload_n 0, 1) := by decide +kernel
theorem dX5_fraction_32 : decode cX5_fraction 32 = .ok (.lload_n 1, 1) := by decide +kernel
theorem dX5_fraction_33 : decode cX5_fraction 33 = .ok (.lload 5, 2) := by decide +kernel
theorem dX5_fraction_35 : decode cX5_fraction 35 = .ok (.ldiv, 1) := by decide +kernel
theorem dX5_fraction_36 : decode cX5_fraction 36 = .ok (.putfield 232, 3) := by decide +kernel
theorem dX5_fraction_39 : decode cX5_fraction 39 = .ok (.aload_n 0, 1) := by decide +kernel
theorem dX5_fraction_40 : decode cX5_fraction 40 = .ok (.lload_n 3, 1) := by decide +kernel
theorem dX5_fraction_41 : decode cX5_fraction 41 = .ok (.lload 5, 2) := by decide +kernel
theorem dX5_fraction_43 : decode cX5_fraction 43 = .ok (.ldiv, 1) := by decide +kernel
theorem dX5_fraction_44 : decode cX5_fraction 44 = .ok (.putfield 22, 3) := by decide +kernel
theorem dX5_fraction_47 : decode cX5_fraction 47 = .ok (.iconst 1, 1) := by decide +kernel
theorem dX5_fraction_48 : decode cX5_fraction 48 = .ok (.ireturn, 1) := by decide +kernel
theorem dX5_ways_0 : decode cX5_ways 0 = .ok (.lconst 0, 1) := by decide +kernel
theorem dX5_ways_1 : decode cX5_ways 1 = .ok (.lstore_n 3, 1) := by decide +kernel
theorem dX5_ways_2 : decode cX5_ways 2 = .ok (.iconst 0, 1) := by decide +kernel
theorem dX5_ways_3 : decode cX5_ways 3 = .ok (.istore 5, 2) := by decide +kernel
theorem dX5_ways_5 : decode cX5_ways 5 = .ok (.iload 5, 2) := by decide +kernel
theorem dX5_ways_7 : decode cX5_ways 7 = .ok (.iconst 1, 1) := by decide +kernel
theorem dX5_ways_8 : decode cX5_ways 8 = .ok (.aload_n 0, 1) := by decide +kernel
theorem dX5_ways_9 : decode cX5_ways 9 = .ok (.getfield 148, 3) := by decide +kernel
theorem dX5_ways_12 : decode cX5_ways 12 = .ok (.ishl, 1) := by decide +kernel
theorem dX5_ways_13 : decode cX5_ways 13 = .ok (.if_icmp .ge 139, 3) := by decide +kernel
theorem dX5_ways_16 : decode cX5_ways 16 = .ok (.iload 5, 2) := by decide +kernel
theorem dX5_ways_18 : decode cX5_ways 18 = .ok (.aload_n 0, 1) := by decide +kernel
theorem dX5_ways_19 : decode cX5_ways 19 = .ok (.getfield 38, 3) := by decide +kernel
theorem dX5_ways_22 : decode cX5_ways 22 = .ok (.iconst 4, 1) := by decide +kernel
theorem dX5_ways_23 : decode cX5_ways 23 = .ok (.iaload, 1) := by decide +kernel
theorem dX5_ways_24 : decode cX5_ways 24 = .ok (.iand, 1) := by decide +kernel
theorem dX5_ways_25 : decode cX5_ways 25 = .ok (.ifCond .ne 121, 3) := by decide +kernel
theorem dX5_ways_28 : decode cX5_ways 28 = .ok (.lconst 1, 1) := by decide +kernel
theorem dX5_ways_29 : decode cX5_ways 29 = .ok (.lstore 6, 2) := by decide +kernel
theorem dX5_ways_31 : decode cX5_ways 31 = .ok (.iconst 0, 1) := by decide +kernel
theorem dX5_ways_32 : decode cX5_ways 32 = .ok (.istore 8, 2) := by decide +kernel
theorem dX5_ways_34 : decode cX5_ways 34 = .ok (.iload 8, 2) := by decide +kernel
theorem dX5_ways_36 : decode cX5_ways 36 = .ok (.aload_n 0, 1) := by decide +kernel
theorem dX5_ways_37 : decode cX5_ways 37 = .ok (.getfield 148, 3) := by decide +kernel
theorem dX5_ways_40 : decode cX5_ways 40 = .ok (.if_icmp .ge 53, 3) := by decide +kernel
theorem dX5_ways_43 : decode cX5_ways 43 = .ok (.lload 6, 2) := by decide +kernel
theorem dX5_ways_45 : decode cX5_ways 45 = .ok (.aload_n 0, 1) := by decide +kernel
theorem dX5_ways_46 : decode cX5_ways 46 = .ok (.getfield 38, 3) := by decide +kernel
theorem dX5_ways_49 : decode cX5_ways 49 = .ok (.iconst 4, 1) := by decide +kernel
theorem dX5_ways_50 : decode cX5_ways 50 = .ok (.iaload, 1) := by decide +kernel
theorem dX5_ways_51 : decode cX5_ways 51 = .ok (.iload 8, 2) := by decide +kernel
theorem dX5_ways_53 : decode cX5_ways 53 = .ok (.invokestatic 155, 3) := by decide +kernel
theorem dX5_ways_56 : decode cX5_ways 56 = .ok (.ifCond .eq 7, 3) := by decide +kernel
theorem dX5_ways_59 : decode cX5_ways 59 = .ok (.lconst 1, 1) := by decide +kernel
theorem dX5_ways_60 : decode cX5_ways 60 = .ok (.goto 24, 3) := by decide +kernel
theorem dX5_ways_63 : decode cX5_ways 63 = .ok (.iload 5, 2) := by decide +kernel
theorem dX5_ways_65 : decode cX5_ways 65 = .ok (.iload 8, 2) := by decide +kernel
theorem dX5_ways_67 : decode cX5_ways 67 = .ok (.invokestatic 155, 3) := by decide +kernel
theorem dX5_ways_70 : decode cX5_ways 70 = .ok (.ifCond .eq 8, 3) := by decide +kernel
theorem dX5_ways_73 : decode cX5_ways 73 = .ok (.iload_n 2, 1) := by decide +kernel
theorem dX5_ways_74 : decode cX5_ways 74 = .ok (.i2l, 1) := by decide +kernel
theorem dX5_ways_75 : decode cX5_ways 75 = .ok (.goto 9, 3) := by decide +kernel
theorem dX5_ways_78 : decode cX5_ways 78 = .ok (.ldc2_w 252, 3) := by decide +kernel
theorem dX5_ways_81 : decode cX5_ways 81 = .ok (.iload_n 2, 1) := by decide +kernel
theorem dX5_ways_82 : decode cX5_ways 82 = .ok (.i2l, 1) := by decide +kernel
theorem dX5_ways_83 : decode cX5_ways 83 = .ok (.lsub, 1) := by decide +kernel
theorem dX5_ways_84 : decode cX5_ways 84 = .ok (.lmul, 1) := by decide +kernel
theorem dX5_ways_85 : decode cX5_ways 85 = .ok (.lstore 6, 2) := by decide +kernel
theorem dX5_ways_87 : decode cX5_ways 87 = .ok (.iinc 8 1, 3) := by decide +kernel
theorem dX5_ways_90 : decode cX5_ways 90 = .ok (.goto (-56), 3) := by decide +kernel
theorem dX5_ways_93 : decode cX5_ways 93 = .ok (.aload_n 0, 1) := by decide +kernel
theorem dX5_ways_94 : decode cX5_ways 94 = .ok (.invokevirtual 210, 3) := by decide +kernel
theorem dX5_ways_97 : decode cX5_ways 97 = .ok (.aload_n 0, 1) := by decide +kernel
theorem dX5_ways_98 : decode cX5_ways 98 = .ok (.getfield 41, 3) := by decide +kernel
theorem dX5_ways_101 : decode cX5_ways 101 = .ok (.iconst 4, 1) := by decide +kernel
theorem dX5_ways_102 : decode cX5_ways 102 = .ok (.dup2, 1) := by decide +kernel
theorem dX5_ways_103 : decode cX5_ways 103 = .ok (.iaload, 1) := by decide +kernel
theorem dX5_ways_104 : decode cX5_ways 104 = .ok (.iload 5, 2) := by decide +kernel
theorem dX5_ways_106 : decode cX5_ways 106 = .ok (.ior, 1) := by decide +kernel
theorem dX5_ways_107 : decode cX5_ways 107 = .ok (.iastore, 1) := by decide +kernel
theorem dX5_ways_108 : decode cX5_ways 108 = .ok (.aload_n 0, 1) := by decide +kernel
theorem dX5_ways_109 : decode cX5_ways 109 = .ok (.aload_n 0, 1) := by decide +kernel
theorem dX5_ways_110 : decode cX5_ways 110 = .ok (.getfield 41, 3) := by decide +kernel
theorem dX5_ways_113 : decode cX5_ways 113 = .ok (.invokevirtual 191, 3) := by decide +kernel
theorem dX5_ways_116 : decode cX5_ways 116 = .ok (.istore 8, 2) := by decide +kernel
theorem dX5_ways_118 : decode cX5_ways 118 = .ok (.lload_n 3, 1) := by decide +kernel
theorem dX5_ways_119 : decode cX5_ways 119 = .ok (.lload 6, 2) := by decide +kernel
theorem dX5_ways_121 : decode cX5_ways 121 = .ok (.iload_n 1, 1) := by decide +kernel
theorem dX5_ways_122 : decode cX5_ways 122 = .ok (.bipush (-9), 2) := by decide +kernel
theorem dX5_ways_124 : decode cX5_ways 124 = .ok (.if_icmp .ne 12, 3) := by decide +kernel
theorem dX5_ways_127 : decode cX5_ways 127 = .ok (.aload_n 0, 1) := by decide +kernel
theorem dX5_ways_128 : decode cX5_ways 128 = .ok (.getfield 41, 3) := by decide +kernel
theorem dX5_ways_131 : decode cX5_ways 131 = .ok (.iconst 0, 1) := by decide +kernel
theorem dX5_ways_132 : decode cX5_ways 132 = .ok (.iaload, 1) := by decide +kernel
theorem dX5_ways_133 : decode cX5_ways 133 = .ok (.goto 9, 3) := by decide +kernel
theorem dX5_ways_136 : decode cX5_ways 136 = .ok (.iload 8, 2) := by decide +kernel
theorem dX5_ways_138 : decode cX5_ways 138 = .ok (.iload_n 1, 1) := by decide +kernel
theorem dX5_ways_139 : decode cX5_ways 139 = .ok (.ishr, 1) := by decide +kernel
theorem dX5_ways_140 : decode cX5_ways 140 = .ok (.iconst 1, 1) := by decide +kernel
theorem dX5_ways_141 : decode cX5_ways 141 = .ok (.iand, 1) := by decide +kernel
theorem dX5_ways_142 : decode cX5_ways 142 = .ok (.i2l, 1) := by decide +kernel
theorem dX5_ways_143 : decode cX5_ways 143 = .ok (.lmul, 1) := by decide +kernel
theorem dX5_ways_144 : decode cX5_ways 144 = .ok (.ladd, 1) := by decide +kernel
theorem dX5_ways_145 : decode cX5_ways 145 = .ok (.lstore_n 3, 1) := by decide +kernel
theorem dX5_ways_146 : decode cX5_ways 146 = .ok (.iinc 5 1, 3) := by decide +kernel
theorem dX5_ways_149 : decode cX5_ways 149 = .ok (.goto (-144), 3) := by decide +kernel
theorem dX5_ways_152 : decode cX5_ways 152 = .ok (.lload_n 3, 1) := by decide +kernel
theorem dX5_ways_153 : decode cX5_ways 153 = .ok (.lreturn, 1) := by decide +kernel
theorem dX5_allWays_0 : decode cX5_allWays 0 = .ok (.lconst 1, 1) := by decide +kernel
theorem dX5_allWays_1 : decode cX5_allWays 1 = .ok (.lstore_n 1, 1) := by decide +kernel
theorem dX5_allWays_2 : decode cX5_allWays 2 = .ok (.aload_n 0, 1) := by decide +kernel
theorem dX5_allWays_3 : decode cX5_allWays 3 = .ok (.getfield 38, 3) := by decide +kernel
theorem dX5_allWays_6 : decode cX5_allWays 6 = .ok (.iconst 4, 1) := by decide +kernel
theorem dX5_allWays_7 : decode cX5_allWays 7 = .ok (.iaload, 1) := by decide +kernel
theorem dX5_allWays_8 : decode cX5_allWays 8 = .ok (.invokestatic 216, 3) := by decide +kernel
theorem dX5_allWays_11 : decode cX5_allWays 11 = .ok (.istore_n 3, 1) := by decide +kernel
theorem dX5_allWays_12 : decode cX5_allWays 12 = .ok (.iload_n 3, 1) := by decide +kernel
theorem dX5_allWays_13 : decode cX5_allWays 13 = .ok (.aload_n 0, 1) := by decide +kernel
theorem dX5_allWays_14 : decode cX5_allWays 14 = .ok (.getfield 148, 3) := by decide +kernel
theorem dX5_allWays_17 : decode cX5_allWays 17 = .ok (.if_icmp .ge 15, 3) := by decide +kernel
theorem dX5_allWays_20 : decode cX5_allWays 20 = .ok (.lload_n 1, 1) := by decide +kernel
theorem dX5_allWays_21 : decode cX5_allWays 21 = .ok (.ldc2_w 252, 3) := by decide +kernel
theorem dX5_allWays_24 : decode cX5_allWays 24 = .ok (.lmul, 1) := by decide +kernel
theorem dX5_allWays_25 : decode cX5_allWays 25 = .ok (.lstore_n 1, 1) := by decide +kernel
theorem dX5_allWays_26 : decode cX5_allWays 26 = .ok (.iinc 3 1, 3) := by decide +kernel
theorem dX5_allWays_29 : decode cX5_allWays 29 = .ok (.goto (-17), 3) := by decide +kernel
theorem dX5_allWays_32 : decode cX5_allWays 32 = .ok (.lload_n 1, 1) := by decide +kernel
theorem dX5_allWays_33 : decode cX5_allWays 33 = .ok (.lreturn, 1) := by decide +kernel
theorem dX5_odds_0 : decode cX5_odds 0 = .ok (.aload_n 0, 1) := by decide +kernel
theorem dX5_odds_1 : decode cX5_odds 1 = .ok (.iload_n 1, 1) := by decide +kernel
theorem dX5_odds_2 : decode cX5_odds 2 = .ok (.invokevirtual 176, 3) := by decide +kernel
theorem dX5_odds_5 : decode cX5_odds 5 = .ok (.ifCond .eq 32, 3) := by decide +kernel
theorem dX5_odds_8 : decode cX5_odds 8 = .ok (.iload_n 2, 1) := by decide +kernel
theorem dX5_odds_9 : decode cX5_odds 9 = .ok (.i2l, 1) := by decide +kernel
theorem dX5_odds_10 : decode cX5_odds 10 = .ok (.lconst 0, 1) := by decide +kernel
theorem dX5_odds_11 : decode cX5_odds 11 = .ok (.ldc2_w 252, 3) := by decide +kernel
theorem dX5_odds_14 : decode cX5_odds 14 = .ok (.invokestatic 80, 3) := by decide +kernel
theorem dX5_odds_17 : decode cX5_odds 17 = .ok (.ifCond .eq 20, 3) := by decide +kernel
theorem dX5_odds_20 : decode cX5_odds 20 = .ok (.aload_n 0, 1) := by decide +kernel
theorem dX5_odds_21 : decode cX5_odds 21 = .ok (.aload_n 0, 1) := by decide +kernel
theorem dX5_odds_22 : decode cX5_odds 22 = .ok (.iload_n 1, 1) := by decide +kernel
theorem dX5_odds_23 : decode cX5_odds 23 = .ok (.iload_n 2, 1) := by decide +kernel
theorem dX5_odds_24 : decode cX5_odds 24 = .ok (.invokevirtual 254, 3) := by decide +kernel
theorem dX5_odds_27 : decode cX5_odds 27 = .ok (.aload_n 0, 1) := by decide +kernel
theorem dX5_odds_28 : decode cX5_odds 28 = .ok (.invokevirtual 258, 3) := by decide +kernel
theorem dX5_odds_31 : decode cX5_odds 31 = .ok (.invokevirtual 262, 3) := by decide +kernel
theorem dX5_odds_34 : decode cX5_odds 34 = .ok (.goto 4, 3) := by decide +kernel
theorem dX5_odds_37 : decode cX5_odds 37 = .ok (.iconst (-1), 1) := by decide +kernel
theorem dX5_odds_38 : decode cX5_odds 38 = .ok (.ireturn, 1) := by decide +kernel
theorem dX5_mid_0 : decode cX5_mid 0 = .ok (.iload_n 1, 1) := by decide +kernel
theorem dX5_mid_1 : decode cX5_mid 1 = .ok (.i2l, 1) := by decide +kernel
theorem dX5_mid_2 : decode cX5_mid 2 = .ok (.lconst 0, 1) := by decide +kernel
theorem dX5_mid_3 : decode cX5_mid 3 = .ok (.ldc2_w 252, 3) := by decide +kernel
theorem dX5_mid_6 : decode cX5_mid 6 = .ok (.invokestatic 80, 3) := by decide +kernel
theorem dX5_mid_9 : decode cX5_mid 9 = .ok (.ifCond .ne 5, 3) := by decide +kernel
theorem dX5_mid_12 : decode cX5_mid 12 = .ok (.iconst (-1), 1) := by decide +kernel
theorem dX5_mid_13 : decode cX5_mid 13 = .ok (.ireturn, 1) := by decide +kernel
theorem dX5_mid_14 : decode cX5_mid 14 = .ok (.aload_n 0, 1) := by decide +kernel
theorem dX5_mid_15 : decode cX5_mid 15 = .ok (.getfield 148, 3) := by decide +kernel
theorem dX5_mid_18 : decode cX5_mid 18 = .ok (.ifCond .ne 8, 3) := by decide +kernel
theorem dX5_mid_21 : decode cX5_mid 21 = .ok (.bipush (-4), 2) := by decide +kernel
theorem dX5_mid_23 : decode cX5_mid 23 = .ok (.goto 18, 3) := by decide +kernel
theorem dX5_mid_26 : decode cX5_mid 26 = .ok (.aload_n 0, 1) := by decide +kernel
theorem dX5_mid_27 : decode cX5_mid 27 = .ok (.aload_n 0, 1) := by decide +kernel
theorem dX5_mid_28 : decode cX5_mid 28 = .ok (.bipush (-9), 2) := by decide +kernel
theorem dX5_mid_30 : decode cX5_mid 30 = .ok (.iload_n 1, 1) := by decide +kernel
theorem dX5_mid_31 : decode cX5_mid 31 = .ok (.invokevirtual 254, 3) := by decide +kernel
theorem dX5_mid_34 : decode cX5_mid 34 = .ok (.aload_n 0, 1) := by decide +kernel
theorem dX5_mid_35 : decode cX5_mid 35 = .ok (.invokevirtual 258, 3) := by decide +kernel
theorem dX5_mid_38 : decode cX5_mid 38 = .ok (.invokevirtual 262, 3) := by decide +kernel
theorem dX5_mid_41 : decode cX5_mid 41 = .ok (.ireturn, 1) := by decide +kernel
theorem dX5_lot_0 : decode cX5_lot 0 = .ok (.iload_n 1, 1) := by decide +kernel
theorem dX5_lot_1 : decode cX5_lot 1 = .ok (.aload_n 0, 1) := by decide +kernel
theorem dX5_lot_2 : decode cX5_lot 2 = .ok (.getfield 148, 3) := by decide +kernel
theorem dX5_lot_5 : decode cX5_lot 5 = .ok (.irem, 1) := by decide +kernel
theorem dX5_lot_6 : decode cX5_lot 6 = .ok (.istore_n 2, 1) := by decide +kernel
theorem dX5_lot_7 : decode cX5_lot 7 = .ok (.aload_n 0, 1) := by decide +kernel
theorem dX5_lot_8 : decode cX5_lot 8 = .ok (.invokevirtual 188, 3) := by decide +kernel
theorem dX5_lot_11 : decode cX5_lot 11 = .ok (.iload_n 1, 1) := by decide +kernel
theorem dX5_lot_12 : decode cX5_lot 12 = .ok (.bipush 8, 2) := by decide +kernel
theorem dX5_lot_14 : decode cX5_lot 14 = .ok (.idiv, 1) := by decide +kernel
theorem dX5_lot_15 : decode cX5_lot 15 = .ok (.bipush 8, 2) := by decide +kernel
theorem dX5_lot_17 : decode cX5_lot 17 = .ok (.irem, 1) := by decide +kernel
theorem dX5_lot_18 : decode cX5_lot 18 = .ok (.tableswitch 106 4 7 #[30, 45, 60, 76], 30) := by decide +kernel
theorem dX5_lot_48 : decode cX5_lot 48 = .ok (.aload_n 0, 1) := by decide +kernel
theorem dX5_lot_49 : decode cX5_lot 49 = .ok (.getfield 38, 3) := by decide +kernel
theorem dX5_lot_52 : decode cX5_lot 52 = .ok (.iconst 3, 1) := by decide +kernel
theorem dX5_lot_53 : decode cX5_lot 53 = .ok (.dup2, 1) := by decide +kernel
theorem dX5_lot_54 : decode cX5_lot 54 = .ok (.iaload, 1) := by decide +kernel
theorem dX5_lot_55 : decode cX5_lot 55 = .ok (.iconst 1, 1) := by decide +kernel
theorem dX5_lot_56 : decode cX5_lot 56 = .ok (.iload_n 2, 1) := by decide +kernel
theorem dX5_lot_57 : decode cX5_lot 57 = .ok (.ishl, 1) := by decide +kernel
theorem dX5_lot_58 : decode cX5_lot 58 = .ok (.ixor, 1) := by decide +kernel
theorem dX5_lot_59 : decode cX5_lot 59 = .ok (.iastore, 1) := by decide +kernel
theorem dX5_lot_60 : decode cX5_lot 60 = .ok (.goto 73, 3) := by decide +kernel
theorem dX5_lot_63 : decode cX5_lot 63 = .ok (.aload_n 0, 1) := by decide +kernel
theorem dX5_lot_64 : decode cX5_lot 64 = .ok (.getfield 38, 3) := by decide +kernel
theorem dX5_lot_67 : decode cX5_lot 67 = .ok (.iconst 4, 1) := by decide +kernel
theorem dX5_lot_68 : decode cX5_lot 68 = .ok (.dup2, 1) := by decide +kernel
theorem dX5_lot_69 : decode cX5_lot 69 = .ok (.iaload, 1) := by decide +kernel
theorem dX5_lot_70 : decode cX5_lot 70 = .ok (.iconst 1, 1) := by decide +kernel
theorem dX5_lot_71 : decode cX5_lot 71 = .ok (.iload_n 2, 1) := by decide +kernel
theorem dX5_lot_72 : decode cX5_lot 72 = .ok (.ishl, 1) := by decide +kernel
theorem dX5_lot_73 : decode cX5_lot 73 = .ok (.ixor, 1) := by decide +kernel
theorem dX5_lot_74 : decode cX5_lot 74 = .ok (.iastore, 1) := by decide +kernel
theorem dX5_lot_75 : decode cX5_lot 75 = .ok (.goto 58, 3) := by decide +kernel
theorem dX5_lot_78 : decode cX5_lot 78 = .ok (.aload_n 0, 1) := by decide +kernel
theorem dX5_lot_79 : decode cX5_lot 79 = .ok (.getfield 38, 3) := by decide +kernel
theorem dX5_lot_82 : decode cX5_lot 82 = .ok (.iconst 1, 1) := by decide +kernel
theorem dX5_lot_83 : decode cX5_lot 83 = .ok (.iload_n 1, 1) := by decide +kernel
theorem dX5_lot_84 : decode cX5_lot 84 = .ok (.bipush 64, 2) := by decide +kernel
theorem dX5_lot_86 : decode cX5_lot 86 = .ok (.idiv, 1) := by decide +kernel
theorem dX5_lot_87 : decode cX5_lot 87 = .ok (.bipush 10, 2) := by decide +kernel
theorem dX5_lot_89 : decode cX5_lot 89 = .ok (.irem, 1) := by decide +kernel
theorem dX5_lot_90 : decode cX5_lot 90 = .ok (.iastore, 1) := by decide +kernel
theorem dX5_lot_91 : decode cX5_lot 91 = .ok (.goto 42, 3) := by decide +kernel
theorem dX5_lot_94 : decode cX5_lot 94 = .ok (.aload_n 0, 1) := by decide +kernel
theorem dX5_lot_95 : decode cX5_lot 95 = .ok (.getfield 38, 3) := by decide +kernel
theorem dX5_lot_98 : decode cX5_lot 98 = .ok (.iconst 0, 1) := by decide +kernel
theorem dX5_lot_99 : decode cX5_lot 99 = .ok (.bipush 60, 2) := by decide +kernel
theorem dX5_lot_101 : decode cX5_lot 101 = .ok (.aload_n 0, 1) := by decide +kernel
theorem dX5_lot_102 : decode cX5_lot 102 = .ok (.getfield 38, 3) := by decide +kernel
theorem dX5_lot_105 : decode cX5_lot 105 = .ok (.iconst 0, 1) := by decide +kernel
theorem dX5_lot_106 : decode cX5_lot 106 = .ok (.iaload, 1) := by decide +kernel
theorem dX5_lot_107 : decode cX5_lot 107 = .ok (.iconst 1, 1) := by decide +kernel
theorem dX5_lot_108 : decode cX5_lot 108 = .ok (.iadd, 1) := by decide +kernel
theorem dX5_lot_109 : decode cX5_lot 109 = .ok (.iload_n 1, 1) := by decide +kernel
theorem dX5_lot_110 : decode cX5_lot 110 = .ok (.bipush 64, 2) := by decide +kernel
theorem dX5_lot_112 : decode cX5_lot 112 = .ok (.idiv, 1) := by decide +kernel
theorem dX5_lot_113 : decode cX5_lot 113 = .ok (.bipush 9, 2) := by decide +kernel
theorem dX5_lot_115 : decode cX5_lot 115 = .ok (.irem, 1) := by decide +kernel
theorem dX5_lot_116 : decode cX5_lot 116 = .ok (.iadd, 1) := by decide +kernel
theorem dX5_lot_117 : decode cX5_lot 117 = .ok (.invokestatic 165, 3) := by decide +kernel
theorem dX5_lot_120 : decode cX5_lot 120 = .ok (.iastore, 1) := by decide +kernel
theorem dX5_lot_121 : decode cX5_lot 121 = .ok (.goto 12, 3) := by decide +kernel
theorem dX5_lot_124 : decode cX5_lot 124 = .ok (.aload_n 0, 1) := by decide +kernel
theorem dX5_lot_125 : decode cX5_lot 125 = .ok (.aload_n 0, 1) := by decide +kernel
theorem dX5_lot_126 : decode cX5_lot 126 = .ok (.getfield 38, 3) := by decide +kernel
theorem dX5_lot_129 : decode cX5_lot 129 = .ok (.invokevirtual 191, 3) := by decide +kernel
theorem dX5_lot_132 : decode cX5_lot 132 = .ok (.istore_n 3, 1) := by decide +kernel
theorem dX5_lot_133 : decode cX5_lot 133 = .ok (.return_, 1) := by decide +kernel
theorem dX5_lots_0 : decode cX5_lots 0 = .ok (.iload_n 1, 1) := by decide +kernel
theorem dX5_lots_1 : decode cX5_lots 1 = .ok (.i2l, 1) := by decide +kernel
theorem dX5_lots_2 : decode cX5_lots 2 = .ok (.lconst 1, 1) := by decide +kernel
theorem dX5_lots_3 : decode cX5_lots 3 = .ok (.ldc2_w 222, 3) := by decide +kernel
theorem dX5_lots_6 : decode cX5_lots 6 = .ok (.invokestatic 80, 3) := by decide +kernel
theorem dX5_lots_9 : decode cX5_lots 9 = .ok (.ifCond .eq 15, 3) := by decide +kernel
theorem dX5_lots_12 : decode cX5_lots 12 = .ok (.iload_n 2, 1) := by decide +kernel
theorem dX5_lots_13 : decode cX5_lots 13 = .ok (.i2l, 1) := by decide +kernel
theorem dX5_lots_14 : decode cX5_lots 14 = .ok (.lconst 1, 1) := by decide +kernel
theorem dX5_lots_15 : decode cX5_lots 15 = .ok (.ldc2_w 266, 3) := by decide +kernel
theorem dX5_lots_18 : decode cX5_lots 18 = .ok (.invokestatic 80, 3) := by decide +kernel
theorem dX5_lots_21 : decode cX5_lots 21 = .ok (.ifCond .ne 5, 3) := by decide +kernel
theorem dX5_lots_24 : decode cX5_lots 24 = .ok (.iconst (-1), 1) := by decide +kernel
theorem dX5_lots_25 : decode cX5_lots 25 = .ok (.ireturn, 1) := by decide +kernel
theorem dX5_lots_26 : decode cX5_lots 26 = .ok (.aload_n 0, 1) := by decide +kernel
theorem dX5_lots_27 : decode cX5_lots 27 = .ok (.iload_n 1, 1) := by decide +kernel
theorem dX5_lots_28 : decode cX5_lots 28 = .ok (.invokevirtual 185, 3) := by decide +kernel
theorem dX5_lots_31 : decode cX5_lots 31 = .ok (.istore_n 3, 1) := by decide +kernel
theorem dX5_lots_32 : decode cX5_lots 32 = .ok (.iload_n 3, 1) := by decide +kernel
theorem dX5_lots_33 : decode cX5_lots 33 = .ok (.ifCond .eq 5, 3) := by decide +kernel
theorem dX5_lots_36 : decode cX5_lots 36 = .ok (.iload_n 3, 1) := by decide +kernel
theorem dX5_lots_37 : decode cX5_lots 37 = .ok (.ireturn, 1) := by decide +kernel
theorem dX5_lots_38 : decode cX5_lots 38 = .ok (.iload_n 2, 1) := by decide +kernel
theorem dX5_lots_39 : decode cX5_lots 39 = .ok (.i2l, 1) := by decide +kernel
theorem dX5_lots_40 : decode cX5_lots 40 = .ok (.lstore 4, 2) := by decide +kernel
theorem dX5_lots_42 : decode cX5_lots 42 = .ok (.iconst 0, 1) := by decide +kernel
theorem dX5_lots_43 : decode cX5_lots 43 = .ok (.istore 6, 2) := by decide +kernel
theorem dX5_lots_45 : decode cX5_lots 45 = .ok (.iload 6, 2) := by decide +kernel
theorem dX5_lots_47 : decode cX5_lots 47 = .ok (.iload_n 1, 1) := by decide +kernel
theorem dX5_lots_48 : decode cX5_lots 48 = .ok (.if_icmp .ge 28, 3) := by decide +kernel
theorem dX5_lots_51 : decode cX5_lots 51 = .ok (.lload 4, 2) := by decide +kernel
theorem dX5_lots_53 : decode cX5_lots 53 = .ok (.ldc2_w 268, 3) := by decide +kernel
theorem dX5_lots_56 : decode cX5_lots 56 = .ok (.lmul, 1) := by decide +kernel
theorem dX5_lots_57 : decode cX5_lots 57 = .ok (.ldc2_w 270, 3) := by decide +kernel
theorem dX5_lots_60 : decode cX5_lots 60 = .ok (.lrem, 1) := by decide +kernel
theorem dX5_lots_61 : decode cX5_lots 61 = .ok (.lstore 4, 2) := by decide +kernel
theorem dX5_lots_63 : decode cX5_lots 63 = .ok (.aload_n 0, 1) := by decide +kernel
theorem dX5_lots_64 : decode cX5_lots 64 = .ok (.lload 4, 2) := by decide +kernel
theorem dX5_lots_66 : decode cX5_lots 66 = .ok (.l2i, 1) := by decide +kernel
theorem dX5_lots_67 : decode cX5_lots 67 = .ok (.invokevirtual 272, 3) := by decide +kernel
theorem dX5_lots_70 : decode cX5_lots 70 = .ok (.iinc 6 1, 3) := by decide +kernel
theorem dX5_lots_73 : decode cX5_lots 73 = .ok (.goto (-28), 3) := by decide +kernel
theorem dX5_lots_76 : decode cX5_lots 76 = .ok (.aload_n 0, 1) := by decide +kernel
theorem dX5_lots_77 : decode cX5_lots 77 = .ok (.getfield 38, 3) := by decide +kernel
theorem dX5_lots_80 : decode cX5_lots 80 = .ok (.iconst 0, 1) := by decide +kernel
theorem dX5_lots_81 : decode cX5_lots 81 = .ok (.iaload, 1) := by decide +kernel
theorem dX5_lots_82 : decode cX5_lots 82 = .ok (.ireturn, 1) := by decide +kernel
theorem dX5_asked_0 : decode cX5_asked 0 = .ok (.aload_n 0, 1) := by decide +kernel
theorem dX5_asked_1 : decode cX5_asked 1 = .ok (.getfield 75, 3) := by decide +kernel
theorem dX5_asked_4 : decode cX5_asked 4 = .ok (.ireturn, 1) := by decide +kernel
theorem dX5_upper_0 : decode cX5_upper 0 = .ok (.aload_n 0, 1) := by decide +kernel
theorem dX5_upper_1 : decode cX5_upper 1 = .ok (.getfield 232, 3) := by decide +kernel
theorem dX5_upper_4 : decode cX5_upper 4 = .ok (.lreturn, 1) := by decide +kernel
theorem dX5_lower_0 : decode cX5_lower 0 = .ok (.aload_n 0, 1) := by decide +kernel
theorem dX5_lower_1 : decode cX5_lower 1 = .ok (.getfield 22, 3) := by decide +kernel
theorem dX5_lower_4 : decode cX5_lower 4 = .ok (.lreturn, 1) := by decide +kernel
theorem dX5_there_0 : decode cX5_there 0 = .ok (.iconst 0, 1) := by decide +kernel
theorem dX5_there_1 : decode cX5_there 1 = .ok (.istore_n 3, 1) := by decide +kernel
theorem dX5_there_2 : decode cX5_there 2 = .ok (.iconst 0, 1) := by decide +kernel
theorem dX5_there_3 : decode cX5_there 3 = .ok (.istore 4, 2) := by decide +kernel
theorem dX5_there_5 : decode cX5_there 5 = .ok (.iload 4, 2) := by decide +kernel
theorem dX5_there_7 : decode cX5_there 7 = .ok (.iload_n 1, 1) := by decide +kernel
theorem dX5_there_8 : decode cX5_there 8 = .ok (.if_icmp .ge 26, 3) := by decide +kernel
theorem dX5_there_11 : decode cX5_there 11 = .ok (.iload_n 3, 1) := by decide +kernel
theorem dX5_there_12 : decode cX5_there 12 = .ok (.aload_n 0, 1) := by decide +kernel
theorem dX5_there_13 : decode cX5_there 13 = .ok (.iload_n 2, 1) := by decide +kernel
theorem dX5_there_14 : decode cX5_there 14 = .ok (.iload 4, 2) := by decide +kernel
theorem dX5_there_16 : decode cX5_there 16 = .ok (.imul, 1) := by decide +kernel
theorem dX5_there_17 : decode cX5_there 17 = .ok (.iaload, 1) := by decide +kernel
theorem dX5_there_18 : decode cX5_there 18 = .ok (.ifCond .ge 7, 3) := by decide +kernel
theorem dX5_there_21 : decode cX5_there 21 = .ok (.iconst 0, 1) := by decide +kernel
theorem dX5_there_22 : decode cX5_there 22 = .ok (.goto 4, 3) := by decide +kernel
theorem dX5_there_25 : decode cX5_there 25 = .ok (.iconst 1, 1) := by decide +kernel
theorem dX5_there_26 : decode cX5_there 26 = .ok (.iadd, 1) := by decide +kernel
theorem dX5_there_27 : decode cX5_there 27 = .ok (.istore_n 3, 1) := by decide +kernel
theorem dX5_there_28 : decode cX5_there 28 = .ok (.iinc 4 1, 3) := by decide +kernel
theorem dX5_there_31 : decode cX5_there 31 = .ok (.goto (-26), 3) := by decide +kernel
theorem dX5_there_34 : decode cX5_there 34 = .ok (.iload_n 3, 1) := by decide +kernel
theorem dX5_there_35 : decode cX5_there 35 = .ok (.ireturn, 1) := by decide +kernel
theorem dX5_together_0 : decode cX5_together 0 = .ok (.iconst 0, 1) := by decide +kernel
theorem dX5_together_1 : decode cX5_together 1 = .ok (.istore_n 2, 1) := by decide +kernel
theorem dX5_together_2 : decode cX5_together 2 = .ok (.iconst 0, 1) := by decide +kernel
theorem dX5_together_3 : decode cX5_together 3 = .ok (.istore_n 3, 1) := by decide +kernel
theorem dX5_together_4 : decode cX5_together 4 = .ok (.iload_n 3, 1) := by decide +kernel
theorem dX5_together_5 : decode cX5_together 5 = .ok (.aload_n 0, 1) := by decide +kernel
theorem dX5_together_6 : decode cX5_together 6 = .ok (.getfield 148, 3) := by decide +kernel
theorem dX5_together_9 : decode cX5_together 9 = .ok (.if_icmp .ge 20, 3) := by decide +kernel
theorem dX5_together_12 : decode cX5_together 12 = .ok (.iload_n 2, 1) := by decide +kernel
theorem dX5_together_13 : decode cX5_together 13 = .ok (.aload_n 0, 1) := by decide +kernel
theorem dX5_together_14 : decode cX5_together 14 = .ok (.getfield 38, 3) := by decide +kernel
theorem dX5_together_17 : decode cX5_together 17 = .ok (.iload_n 1, 1) := by decide +kernel
theorem dX5_together_18 : decode cX5_together 18 = .ok (.iload_n 3, 1) := by decide +kernel
theorem dX5_together_19 : decode cX5_together 19 = .ok (.iadd, 1) := by decide +kernel
theorem dX5_together_20 : decode cX5_together 20 = .ok (.iaload, 1) := by decide +kernel
theorem dX5_together_21 : decode cX5_together 21 = .ok (.iadd, 1) := by decide +kernel
theorem dX5_together_22 : decode cX5_together 22 = .ok (.istore_n 2, 1) := by decide +kernel
theorem dX5_together_23 : decode cX5_together 23 = .ok (.iinc 3 1, 3) := by decide +kernel
theorem dX5_together_26 : decode cX5_together 26 = .ok (.goto (-22), 3) := by decide +kernel
theorem dX5_together_29 : decode cX5_together 29 = .ok (.iload_n 2, 1) := by decide +kernel
theorem dX5_together_30 : decode cX5_together 30 = .ok (.ireturn, 1) := by decide +kernel
theorem dX5_those_0 : decode cX5_those 0 = .ok (.iconst 0, 1) := by decide +kernel
theorem dX5_those_1 : decode cX5_those 1 = .ok (.istore_n 2, 1) := by decide +kernel
theorem dX5_those_2 : decode cX5_those 2 = .ok (.iconst 0, 1) := by decide +kernel
theorem dX5_those_3 : decode cX5_those 3 = .ok (.istore_n 3, 1) := by decide +kernel
theorem dX5_those_4 : decode cX5_those 4 = .ok (.iload_n 3, 1) := by decide +kernel
theorem dX5_those_5 : decode cX5_those 5 = .ok (.aload_n 0, 1) := by decide +kernel
theorem dX5_those_6 : decode cX5_those 6 = .ok (.getfield 148, 3) := by decide +kernel
theorem dX5_those_9 : decode cX5_those 9 = .ok (.if_icmp .ge 30, 3) := by decide +kernel
theorem dX5_those_12 : decode cX5_those 12 = .ok (.iload_n 2, 1) := by decide +kernel
theorem dX5_those_13 : decode cX5_those 13 = .ok (.aload_n 0, 1) := by decide +kernel
theorem dX5_those_14 : decode cX5_those 14 = .ok (.getfield 29, 3) := by decide +kernel
theorem dX5_those_17 : decode cX5_those 17 = .ok (.iload_n 3, 1) := by decide +kernel
theorem dX5_those_18 : decode cX5_those 18 = .ok (.iaload, 1) := by decide +kernel
theorem dX5_those_19 : decode cX5_those 19 = .ok (.iload_n 1, 1) := by decide +kernel
theorem dX5_those_20 : decode cX5_those 20 = .ok (.invokestatic 162, 3) := by decide +kernel
theorem dX5_those_23 : decode cX5_those 23 = .ok (.ifCond .eq 7, 3) := by decide +kernel
theorem dX5_those_26 : decode cX5_those 26 = .ok (.iconst 1, 1) := by decide +kernel
theorem dX5_those_27 : decode cX5_those 27 = .ok (.goto 4, 3) := by decide +kernel
theorem dX5_those_30 : decode cX5_those 30 = .ok (.iconst 0, 1) := by decide +kernel
theorem dX5_those_31 : decode cX5_those 31 = .ok (.iadd, 1) := by decide +kernel
theorem dX5_those_32 : decode cX5_those 32 = .ok (.istore_n 2, 1) := by decide +kernel
theorem dX5_those_33 : decode cX5_those 33 = .ok (.iinc 3 1, 3) := by decide +kernel
theorem dX5_those_36 : decode cX5_those 36 = .ok (.goto (-32), 3) := by decide +kernel
theorem dX5_those_39 : decode cX5_those 39 = .ok (.iload_n 2, 1) := by decide +kernel
theorem dX5_those_40 : decode cX5_those 40 = .ok (.ireturn, 1) := by decide +kernel
theorem dX5_count_0 : decode cX5_count 0 = .ok (.iload_n 1, 1) := by decide +kernel
theorem dX5_count_1 : decode cX5_count 1 = .ok (.tableswitch 174 0 13 #[71, 76, 83, 90, 97, 102, 109, 116, 122, 129, 135, 141, 152, 162], 71) := by decide +kernel
theorem dX5_count_72 : decode cX5_count 72 = .ok (.aload_n 0, 1) := by decide +kernel
theorem dX5_count_73 : decode cX5_count 73 = .ok (.getfield 148, 3) := by decide +kernel
theorem dX5_count_76 : decode cX5_count 76 = .ok (.ireturn, 1) := by decide +kernel
theorem dX5_count_77 : decode cX5_count 77 = .ok (.aload_n 0, 1) := by decide +kernel
theorem dX5_count_78 : decode cX5_count 78 = .ok (.getfield 38, 3) := by decide +kernel
theorem dX5_count_81 : decode cX5_count 81 = .ok (.iconst 0, 1) := by decide +kernel
theorem dX5_count_82 : decode cX5_count 82 = .ok (.iaload, 1) := by decide +kernel
theorem dX5_count_83 : decode cX5_count 83 = .ok (.ireturn, 1) := by decide +kernel
theorem dX5_count_84 : decode cX5_count 84 = .ok (.aload_n 0, 1) := by decide +kernel
theorem dX5_count_85 : decode cX5_count 85 = .ok (.getfield 38, 3) := by decide +kernel
theorem dX5_count_88 : decode cX5_count 88 = .ok (.iconst 1, 1) := by decide +kernel
theorem dX5_count_89 : decode cX5_count 89 = .ok (.iaload, 1) := by decide +kernel
theorem dX5_count_90 : decode cX5_count 90 = .ok (.ireturn, 1) := by decide +kernel
theorem dX5_count_91 : decode cX5_count 91 = .ok (.aload_n 0, 1) := by decide +kernel
theorem dX5_count_92 : decode cX5_count 92 = .ok (.getfield 38, 3) := by decide +kernel
theorem dX5_count_95 : decode cX5_count 95 = .ok (.iconst 2, 1) := by decide +kernel
theorem dX5_count_96 : decode cX5_count 96 = .ok (.iaload, 1) := by decide +kernel
theorem dX5_count_97 : decode cX5_count 97 = .ok (.ireturn, 1) := by decide +kernel
theorem dX5_count_98 : decode cX5_count 98 = .ok (.aload_n 0, 1) := by decide +kernel
theorem dX5_count_99 : decode cX5_count 99 = .ok (.getfield 100, 3) := by decide +kernel
theorem dX5_count_102 : decode cX5_count 102 = .ok (.ireturn, 1) := by decide +kernel
theorem dX5_count_103 : decode cX5_count 103 = .ok (.aload_n 0, 1) := by decide +kernel
theorem dX5_count_104 : decode cX5_count 104 = .ok (.getfield 38, 3) := by decide +kernel
theorem dX5_count_107 : decode cX5_count 107 = .ok (.iconst 3, 1) := by decide +kernel
theorem dX5_count_108 : decode cX5_count 108 = .ok (.iaload, 1) := by decide +kernel
theorem dX5_count_109 : decode cX5_count 109 = .ok (.ireturn, 1) := by decide +kernel
theorem dX5_count_110 : decode cX5_count 110 = .ok (.aload_n 0, 1) := by decide +kernel
theorem dX5_count_111 : decode cX5_count 111 = .ok (.getfield 38, 3) := by decide +kernel
theorem dX5_count_114 : decode cX5_count 114 = .ok (.iconst 4, 1) := by decide +kernel
theorem dX5_count_115 : decode cX5_count 115 = .ok (.iaload, 1) := by decide +kernel
theorem dX5_count_116 : decode cX5_count 116 = .ok (.ireturn, 1) := by decide +kernel
theorem dX5_count_117 : decode cX5_count 117 = .ok (.aload_n 0, 1) := by decide +kernel
theorem dX5_count_118 : decode cX5_count 118 = .ok (.iconst 5, 1) := by decide +kernel
theorem dX5_count_119 : decode cX5_count 119 = .ok (.invokevirtual 276, 3) := by decide +kernel
theorem dX5_count_122 : decode cX5_count 122 = .ok (.ireturn, 1) := by decide +kernel
theorem dX5_count_123 : decode cX5_count 123 = .ok (.aload_n 0, 1) := by decide +kernel
theorem dX5_count_124 : decode cX5_count 124 = .ok (.bipush 11, 2) := by decide +kernel
theorem dX5_count_126 : decode cX5_count 126 = .ok (.invokevirtual 276, 3) := by decide +kernel
theorem dX5_count_129 : decode cX5_count 129 = .ok (.ireturn, 1) := by decide +kernel
theorem dX5_count_130 : decode cX5_count 130 = .ok (.aload_n 0, 1) := by decide +kernel
theorem dX5_count_131 : decode cX5_count 131 = .ok (.iconst 1, 1) := by decide +kernel
theorem dX5_count_132 : decode cX5_count 132 = .ok (.invokevirtual 279, 3) := by decide +kernel
theorem dX5_count_135 : decode cX5_count 135 = .ok (.ireturn, 1) := by decide +kernel
theorem dX5_count_136 : decode cX5_count 136 = .ok (.aload_n 0, 1) := by decide +kernel
theorem dX5_count_137 : decode cX5_count 137 = .ok (.iconst 3, 1) := by decide +kernel
theorem dX5_count_138 : decode cX5_count 138 = .ok (.invokevirtual 279, 3) := by decide +kernel
theorem dX5_count_141 : decode cX5_count 141 = .ok (.ireturn, 1) := by decide +kernel
theorem dX5_count_142 : decode cX5_count 142 = .ok (.aload_n 0, 1) := by decide +kernel
theorem dX5_count_143 : decode cX5_count 143 = .ok (.getfield 13, 3) := by decide +kernel
theorem dX5_count_146 : decode cX5_count 146 = .ok (.bipush 6, 2) := by decide +kernel
theorem dX5_count_148 : decode cX5_count 148 = .ok (.iconst 1, 1) := by decide +kernel
theorem dX5_count_149 : decode cX5_count 149 = .ok (.invokestatic 282, 3) := by decide +kernel
theorem dX5_count_152 : decode cX5_count 152 = .ok (.ireturn, 1) := by decide +kernel
theorem dX5_count_153 : decode cX5_count 153 = .ok (.aload_n 0, 1) := by decide +kernel
theorem dX5_count_154 : decode cX5_count 154 = .ok (.getfield 19, 3) := by decide +kernel
theorem dX5_count_157 : decode cX5_count 157 = .ok (.iconst 4, 1) := by decide +kernel
theorem dX5_count_158 : decode cX5_count 158 = .ok (.iconst 1, 1) := by decide +kernel
theorem dX5_count_159 : decode cX5_count 159 = .ok (.invokestatic 282, 3) := by decide +kernel
theorem dX5_count_162 : decode cX5_count 162 = .ok (.ireturn, 1) := by decide +kernel
theorem dX5_count_163 : decode cX5_count 163 = .ok (.aload_n 0, 1) := by decide +kernel
theorem dX5_count_164 : decode cX5_count 164 = .ok (.getfield 47, 3) := by decide +kernel
theorem dX5_count_167 : decode cX5_count 167 = .ok (.iconst 3, 1) := by decide +kernel
theorem dX5_count_168 : decode cX5_count 168 = .ok (.sipush 698, 3) := by decide +kernel
theorem dX5_count_171 : decode cX5_count 171 = .ok (.invokestatic 282, 3) := by decide +kernel
theorem dX5_count_174 : decode cX5_count 174 = .ok (.ireturn, 1) := by decide +kernel
theorem dX5_count_175 : decode cX5_count 175 = .ok (.iconst (-1), 1) := by decide +kernel
theorem dX5_count_176 : decode cX5_count 176 = .ok (.ireturn, 1) := by decide +kernel
theorem dX5_finding_0 : decode cX5_finding 0 = .ok (.aload_n 0, 1) := by decide +kernel
theorem dX5_finding_1 : decode cX5_finding 1 = .ok (.getfield 71, 3) := by decide +kernel
theorem dX5_finding_4 : decode cX5_finding 4 = .ok (.ireturn, 1) := by decide +kernel
theorem dX5_findings_0 : decode cX5_findings 0 = .ok (.iload_n 1, 1) := by decide +kernel
theorem dX5_findings_1 : decode cX5_findings 1 = .ok (.i2l, 1) := by decide +kernel
theorem dX5_findings_2 : decode cX5_findings 2 = .ok (.lconst 1, 1) := by decide +kernel
theorem dX5_findings_3 : decode cX5_findings 3 = .ok (.ldc2_w 78, 3) := by decide +kernel
theorem dX5_findings_6 : decode cX5_findings 6 = .ok (.invokestatic 80, 3) := by decide +kernel
theorem dX5_findings_9 : decode cX5_findings 9 = .ok (.ifCond .eq 12, 3) := by decide +kernel
theorem dX5_findings_12 : decode cX5_findings 12 = .ok (.aload_n 0, 1) := by decide +kernel
theorem dX5_findings_13 : decode cX5_findings 13 = .ok (.getfield 26, 3) := by decide +kernel
theorem dX5_findings_16 : decode cX5_findings 16 = .ok (.iload_n 1, 1) := by decide +kernel
theorem dX5_findings_17 : decode cX5_findings 17 = .ok (.iaload, 1) := by decide +kernel
theorem dX5_findings_18 : decode cX5_findings 18 = .ok (.goto 4, 3) := by decide +kernel
theorem dX5_findings_21 : decode cX5_findings 21 = .ok (.iconst (-1), 1) := by decide +kernel
theorem dX5_findings_22 : decode cX5_findings 22 = .ok (.ireturn, 1) := by decide +kernel
theorem dX5_digest_0 : decode cX5_digest 0 = .ok (.ldc2_w 286, 3) := by decide +kernel
theorem dX5_digest_3 : decode cX5_digest 3 = .ok (.lstore_n 1, 1) := by decide +kernel
theorem dX5_digest_4 : decode cX5_digest 4 = .ok (.iconst 0, 1) := by decide +kernel
theorem dX5_digest_5 : decode cX5_digest 5 = .ok (.istore_n 3, 1) := by decide +kernel
theorem dX5_digest_6 : decode cX5_digest 6 = .ok (.iload_n 3, 1) := by decide +kernel
theorem dX5_digest_7 : decode cX5_digest 7 = .ok (.bipush 14, 2) := by decide +kernel
theorem dX5_digest_9 : decode cX5_digest 9 = .ok (.if_icmp .ge 22, 3) := by decide +kernel
theorem dX5_digest_12 : decode cX5_digest 12 = .ok (.ldc2_w 288, 3) := by decide +kernel
theorem dX5_digest_15 : decode cX5_digest 15 = .ok (.lload_n 1, 1) := by decide +kernel
theorem dX5_digest_16 : decode cX5_digest 16 = .ok (.lmul, 1) := by decide +kernel
theorem dX5_digest_17 : decode cX5_digest 17 = .ok (.aload_n 0, 1) := by decide +kernel
theorem dX5_digest_18 : decode cX5_digest 18 = .ok (.iload_n 3, 1) := by decide +kernel
theorem dX5_digest_19 : decode cX5_digest 19 = .ok (.invokevirtual 290, 3) := by decide +kernel
theorem dX5_digest_22 : decode cX5_digest 22 = .ok (.i2l, 1) := by decide +kernel
theorem dX5_digest_23 : decode cX5_digest 23 = .ok (.ladd, 1) := by decide +kernel
theorem dX5_digest_24 : decode cX5_digest 24 = .ok (.lstore_n 1, 1) := by decide +kernel
theorem dX5_digest_25 : decode cX5_digest 25 = .ok (.iinc 3 1, 3) := by decide +kernel
theorem dX5_digest_28 : decode cX5_digest 28 = .ok (.goto (-22), 3) := by decide +kernel
theorem dX5_digest_31 : decode cX5_digest 31 = .ok (.iconst 0, 1) := by decide +kernel
theorem dX5_digest_32 : decode cX5_digest 32 = .ok (.istore_n 3, 1) := by decide +kernel
theorem dX5_digest_33 : decode cX5_digest 33 = .ok (.iload_n 3, 1) := by decide +kernel
theorem dX5_digest_34 : decode cX5_digest 34 = .ok (.aload_n 0, 1) := by decide +kernel
theorem dX5_digest_35 : decode cX5_digest 35 = .ok (.getfield 148, 3) := by decide +kernel
theorem dX5_digest_38 : decode cX5_digest 38 = .ok (.if_icmp .ge 132, 3) := by decide +kernel
theorem dX5_digest_41 : decode cX5_digest 41 = .ok (.ldc2_w 288, 3) := by decide +kernel
theorem dX5_digest_44 : decode cX5_digest 44 = .ok (.ldc2_w 288, 3) := by decide +kernel
theorem dX5_digest_47 : decode cX5_digest 47 = .ok (.ldc2_w 288, 3) := by decide +kernel
theorem dX5_digest_50 : decode cX5_digest 50 = .ok (.ldc2_w 288, 3) := by decide +kernel
theorem dX5_digest_53 : decode cX5_digest 53 = .ok (.lload_n 1, 1) := by decide +kernel
theorem dX5_digest_54 : decode cX5_digest 54 = .ok (.lmul, 1) := by decide +kernel
theorem dX5_digest_55 : decode cX5_digest 55 = .ok (.aload_n 0, 1) := by decide +kernel
theorem dX5_digest_56 : decode cX5_digest 56 = .ok (.getfield 29, 3) := by decide +kernel
theorem dX5_digest_59 : decode cX5_digest 59 = .ok (.iload_n 3, 1) := by decide +kernel
theorem dX5_digest_60 : decode cX5_digest 60 = .ok (.iaload, 1) := by decide +kernel
theorem dX5_digest_61 : decode cX5_digest 61 = .ok (.i2l, 1) := by decide +kernel
theorem dX5_digest_62 : decode cX5_digest 62 = .ok (.ladd, 1) := by decide +kernel
theorem dX5_digest_63 : decode cX5_digest 63 = .ok (.lmul, 1) := by decide +kernel
theorem dX5_digest_64 : decode cX5_digest 64 = .ok (.aload_n 0, 1) := by decide +kernel
theorem dX5_digest_65 : decode cX5_digest 65 = .ok (.getfield 32, 3) := by decide +kernel
theorem dX5_digest_68 : decode cX5_digest 68 = .ok (.iload_n 3, 1) := by decide +kernel
theorem dX5_digest_69 : decode cX5_digest 69 = .ok (.iaload, 1) := by decide +kernel
theorem dX5_digest_70 : decode cX5_digest 70 = .ok (.i2l, 1) := by decide +kernel
theorem dX5_digest_71 : decode cX5_digest 71 = .ok (.ladd, 1) := by decide +kernel
theorem dX5_digest_72 : decode cX5_digest 72 = .ok (.lmul, 1) := by decide +kernel
theorem dX5_digest_73 : decode cX5_digest 73 = .ok (.aload_n 0, 1) := by decide +kernel
theorem dX5_digest_74 : decode cX5_digest 74 = .ok (.getfield 35, 3) := by decide +kernel
theorem dX5_digest_77 : decode cX5_digest 77 = .ok (.iload_n 3, 1) := by decide +kernel
theorem dX5_digest_78 : decode cX5_digest 78 = .ok (.iaload, 1) := by decide +kernel
theorem dX5_digest_79 : decode cX5_digest 79 = .ok (.i2l, 1) := by decide +kernel
theorem dX5_digest_80 : decode cX5_digest 80 = .ok (.ladd, 1) := by decide +kernel
theorem dX5_digest_81 : decode cX5_digest 81 = .ok (.lmul, 1) := by decide +kernel
theorem dX5_digest_82 : decode cX5_digest 82 = .ok (.aload_n 0, 1) := by decide +kernel
theorem dX5_digest_83 : decode cX5_digest 83 = .ok (.aload_n 0, 1) := by decide +kernel
theorem dX5_digest_84 : decode cX5_digest 84 = .ok (.getfield 38, 3) := by decide +kernel
theorem dX5_digest_87 : decode cX5_digest 87 = .ok (.iload_n 3, 1) := by decide +kernel
theorem dX5_digest_88 : decode cX5_digest 88 = .ok (.invokevirtual 158, 3) := by decide +kernel
theorem dX5_digest_91 : decode cX5_digest 91 = .ok (.i2l, 1) := by decide +kernel
theorem dX5_digest_92 : decode cX5_digest 92 = .ok (.ladd, 1) := by decide +kernel
theorem dX5_digest_93 : decode cX5_digest 93 = .ok (.lstore_n 1, 1) := by decide +kernel
theorem dX5_digest_94 : decode cX5_digest 94 = .ok (.ldc2_w 288, 3) := by decide +kernel
theorem dX5_digest_97 : decode cX5_digest 97 = .ok (.ldc2_w 288, 3) := by decide +kernel
theorem dX5_digest_100 : decode cX5_digest 100 = .ok (.ldc2_w 288, 3) := by decide +kernel
theorem dX5_digest_103 : decode cX5_digest 103 = .ok (.ldc2_w 288, 3) := by decide +kernel
theorem dX5_digest_106 : decode cX5_digest 106 = .ok (.lload_n 1, 1) := by decide +kernel
theorem dX5_digest_107 : decode cX5_digest 107 = .ok (.lmul, 1) := by decide +kernel
theorem dX5_digest_108 : decode cX5_digest 108 = .ok (.aload_n 0, 1) := by decide +kernel
theorem dX5_digest_109 : decode cX5_digest 109 = .ok (.getfield 38, 3) := by decide +kernel
theorem dX5_digest_112 : decode cX5_digest 112 = .ok (.iconst 5, 1) := by decide +kernel
theorem dX5_digest_113 : decode cX5_digest 113 = .ok (.iload_n 3, 1) := by decide +kernel
theorem dX5_digest_114 : decode cX5_digest 114 = .ok (.iadd, 1) := by decide +kernel
theorem dX5_digest_115 : decode cX5_digest 115 = .ok (.iaload, 1) := by decide +kernel
theorem dX5_digest_116 : decode cX5_digest 116 = .ok (.i2l, 1) := by decide +kernel
theorem dX5_digest_117 : decode cX5_digest 117 = .ok (.ladd, 1) := by decide +kernel
theorem dX5_digest_118 : decode cX5_digest 118 = .ok (.lmul, 1) := by decide +kernel
theorem dX5_digest_119 : decode cX5_digest 119 = .ok (.aload_n 0, 1) := by decide +kernel
theorem dX5_digest_120 : decode cX5_digest 120 = .ok (.getfield 38, 3) := by decide +kernel
theorem dX5_digest_123 : decode cX5_digest 123 = .ok (.bipush 11, 2) := by decide +kernel
theorem dX5_digest_125 : decode cX5_digest 125 = .ok (.iload_n 3, 1) := by decide +kernel
theorem dX5_digest_126 : decode cX5_digest 126 = .ok (.iadd, 1) := by decide +kernel
theorem dX5_digest_127 : decode cX5_digest 127 = .ok (.iaload, 1) := by decide +kernel
theorem dX5_digest_128 : decode cX5_digest 128 = .ok (.i2l, 1) := by decide +kernel
theorem dX5_digest_129 : decode cX5_digest 129 = .ok (.ladd, 1) := by decide +kernel
theorem dX5_digest_130 : decode cX5_digest 130 = .ok (.lmul, 1) := by decide +kernel
theorem dX5_digest_131 : decode cX5_digest 131 = .ok (.aload_n 0, 1) := by decide +kernel
theorem dX5_digest_132 : decode cX5_digest 132 = .ok (.aload_n 0, 1) := by decide +kernel
theorem dX5_digest_133 : decode cX5_digest 133 = .ok (.getfield 38, 3) := by decide +kernel
theorem dX5_digest_136 : decode cX5_digest 136 = .ok (.iload_n 3, 1) := by decide +kernel
theorem dX5_digest_137 : decode cX5_digest 137 = .ok (.invokevirtual 169, 3) := by decide +kernel
theorem dX5_digest_140 : decode cX5_digest 140 = .ok (.ifCond .eq 7, 3) := by decide +kernel
theorem dX5_digest_143 : decode cX5_digest 143 = .ok (.iconst 1, 1) := by decide +kernel
theorem dX5_digest_144 : decode cX5_digest 144 = .ok (.goto 4, 3) := by decide +kernel
theorem dX5_digest_147 : decode cX5_digest 147 = .ok (.iconst 0, 1) := by decide +kernel
theorem dX5_digest_148 : decode cX5_digest 148 = .ok (.i2l, 1) := by decide +kernel
theorem dX5_digest_149 : decode cX5_digest 149 = .ok (.ladd, 1) := by decide +kernel
theorem dX5_digest_150 : decode cX5_digest 150 = .ok (.lmul, 1) := by decide +kernel
theorem dX5_digest_151 : decode cX5_digest 151 = .ok (.aload_n 0, 1) := by decide +kernel
theorem dX5_digest_152 : decode cX5_digest 152 = .ok (.getfield 38, 3) := by decide +kernel
theorem dX5_digest_155 : decode cX5_digest 155 = .ok (.iconst 4, 1) := by decide +kernel
theorem dX5_digest_156 : decode cX5_digest 156 = .ok (.iaload, 1) := by decide +kernel
theorem dX5_digest_157 : decode cX5_digest 157 = .ok (.iload_n 3, 1) := by decide +kernel
theorem dX5_digest_158 : decode cX5_digest 158 = .ok (.ishr, 1) := by decide +kernel
theorem dX5_digest_159 : decode cX5_digest 159 = .ok (.iconst 1, 1) := by decide +kernel
theorem dX5_digest_160 : decode cX5_digest 160 = .ok (.iand, 1) := by decide +kernel
theorem dX5_digest_161 : decode cX5_digest 161 = .ok (.i2l, 1) := by decide +kernel
theorem dX5_digest_162 : decode cX5_digest 162 = .ok (.ladd, 1) := by decide +kernel
theorem dX5_digest_163 : decode cX5_digest 163 = .ok (.lstore_n 1, 1) := by decide +kernel
theorem dX5_digest_164 : decode cX5_digest 164 = .ok (.iinc 3 1, 3) := by decide +kernel
theorem dX5_digest_167 : decode cX5_digest 167 = .ok (.goto (-134), 3) := by decide +kernel
theorem dX5_digest_170 : decode cX5_digest 170 = .ok (.iconst 0, 1) := by decide +kernel
theorem dX5_digest_171 : decode cX5_digest 171 = .ok (.istore_n 3, 1) := by decide +kernel
theorem dX5_digest_172 : decode cX5_digest 172 = .ok (.iload_n 3, 1) := by decide +kernel
theorem dX5_digest_173 : decode cX5_digest 173 = .ok (.iconst 3, 1) := by decide +kernel
theorem dX5_digest_174 : decode cX5_digest 174 = .ok (.if_icmp .ge 27, 3) := by decide +kernel
theorem dX5_digest_177 : decode cX5_digest 177 = .ok (.ldc2_w 288, 3) := by decide +kernel
theorem dX5_digest_180 : decode cX5_digest 180 = .ok (.lload_n 1, 1) := by decide +kernel
theorem dX5_digest_181 : decode cX5_digest 181 = .ok (.lmul, 1) := by decide +kernel
theorem dX5_digest_182 : decode cX5_digest 182 = .ok (.aload_n 0, 1) := by decide +kernel
theorem dX5_digest_183 : decode cX5_digest 183 = .ok (.getfield 47, 3) := by decide +kernel
theorem dX5_digest_186 : decode cX5_digest 186 = .ok (.sipush 698, 3) := by decide +kernel
theorem dX5_digest_189 : decode cX5_digest 189 = .ok (.iload_n 3, 1) := by decide +kernel
theorem dX5_digest_190 : decode cX5_digest 190 = .ok (.imul, 1) := by decide +kernel
theorem dX5_digest_191 : decode cX5_digest 191 = .ok (.iaload, 1) := by decide +kernel
theorem dX5_digest_192 : decode cX5_digest 192 = .ok (.i2l, 1) := by decide +kernel
theorem dX5_digest_193 : decode cX5_digest 193 = .ok (.ladd, 1) := by decide +kernel
theorem dX5_digest_194 : decode cX5_digest 194 = .ok (.lstore_n 1, 1) := by decide +kernel
theorem dX5_digest_195 : decode cX5_digest 195 = .ok (.iinc 3 1, 3) := by decide +kernel
theorem dX5_digest_198 : decode cX5_digest 198 = .ok (.goto (-26), 3) := by decide +kernel
theorem dX5_digest_201 : decode cX5_digest 201 = .ok (.iconst 0, 1) := by decide +kernel
theorem dX5_digest_202 : decode cX5_digest 202 = .ok (.istore_n 3, 1) := by decide +kernel
theorem dX5_digest_203 : decode cX5_digest 203 = .ok (.iload_n 3, 1) := by decide +kernel
theorem dX5_digest_204 : decode cX5_digest 204 = .ok (.bipush 6, 2) := by decide +kernel
theorem dX5_digest_206 : decode cX5_digest 206 = .ok (.if_icmp .ge 63, 3) := by decide +kernel
theorem dX5_digest_209 : decode cX5_digest 209 = .ok (.ldc2_w 288, 3) := by decide +kernel
theorem dX5_digest_212 : decode cX5_digest 212 = .ok (.lload_n 1, 1) := by decide +kernel
theorem dX5_digest_213 : decode cX5_digest 213 = .ok (.lmul, 1) := by decide +kernel
theorem dX5_digest_214 : decode cX5_digest 214 = .ok (.aload_n 0, 1) := by decide +kernel
theorem dX5_digest_215 : decode cX5_digest 215 = .ok (.getfield 13, 3) := by decide +kernel
theorem dX5_digest_218 : decode cX5_digest 218 = .ok (.iload_n 3, 1) := by decide +kernel
theorem dX5_digest_219 : decode cX5_digest 219 = .ok (.iaload, 1) := by decide +kernel
theorem dX5_digest_220 : decode cX5_digest 220 = .ok (.i2l, 1) := by decide +kernel
theorem dX5_digest_221 : decode cX5_digest 221 = .ok (.ladd, 1) := by decide +kernel
theorem dX5_digest_222 : decode cX5_digest 222 = .ok (.lstore_n 1, 1) := by decide +kernel
theorem dX5_digest_223 : decode cX5_digest 223 = .ok (.iconst 0, 1) := by decide +kernel
theorem dX5_digest_224 : decode cX5_digest 224 = .ok (.istore 4, 2) := by decide +kernel
theorem dX5_digest_226 : decode cX5_digest 226 = .ok (.iload 4, 2) := by decide +kernel
theorem dX5_digest_228 : decode cX5_digest 228 = .ok (.aload_n 0, 1) := by decide +kernel
theorem dX5_digest_229 : decode cX5_digest 229 = .ok (.getfield 13, 3) := by decide +kernel
theorem dX5_digest_232 : decode cX5_digest 232 = .ok (.iload_n 3, 1) := by decide +kernel
theorem dX5_digest_233 : decode cX5_digest 233 = .ok (.iaload, 1) := by decide +kernel
theorem dX5_digest_234 : decode cX5_digest 234 = .ok (.if_icmp .ge 29, 3) := by decide +kernel
theorem dX5_digest_237 : decode cX5_digest 237 = .ok (.ldc2_w 288, 3) := by decide +kernel
theorem dX5_digest_240 : decode cX5_digest 240 = .ok (.lload_n 1, 1) := by decide +kernel
theorem dX5_digest_241 : decode cX5_digest 241 = .ok (.lmul, 1) := by decide +kernel
theorem dX5_digest_242 : decode cX5_digest 242 = .ok (.aload_n 0, 1) := by decide +kernel
theorem dX5_digest_243 : decode cX5_digest 243 = .ok (.getfield 7, 3) := by decide +kernel
theorem dX5_digest_246 : decode cX5_digest 246 = .ok (.bipush 40, 2) := by decide +kernel
theorem dX5_digest_248 : decode cX5_digest 248 = .ok (.iload_n 3, 1) := by decide +kernel
theorem dX5_digest_249 : decode cX5_digest 249 = .ok (.imul, 1) := by decide +kernel
theorem dX5_digest_250 : decode cX5_digest 250 = .ok (.iload 4, 2) := by decide +kernel
theorem dX5_digest_252 : decode cX5_digest 252 = .ok (.iadd, 1) := by decide +kernel
theorem dX5_digest_253 : decode cX5_digest 253 = .ok (.iaload, 1) := by decide +kernel
theorem dX5_digest_254 : decode cX5_digest 254 = .ok (.i2l, 1) := by decide +kernel
theorem dX5_digest_255 : decode cX5_digest 255 = .ok (.ladd, 1) := by decide +kernel
theorem dX5_digest_256 : decode cX5_digest 256 = .ok (.lstore_n 1, 1) := by decide +kernel
theorem dX5_digest_257 : decode cX5_digest 257 = .ok (.iinc 4 1, 3) := by decide +kernel
theorem dX5_digest_260 : decode cX5_digest 260 = .ok (.goto (-34), 3) := by decide +kernel
theorem dX5_digest_263 : decode cX5_digest 263 = .ok (.iinc 3 1, 3) := by decide +kernel
theorem dX5_digest_266 : decode cX5_digest 266 = .ok (.goto (-63), 3) := by decide +kernel
theorem dX5_digest_269 : decode cX5_digest 269 = .ok (.iconst 0, 1) := by decide +kernel
theorem dX5_digest_270 : decode cX5_digest 270 = .ok (.istore_n 3, 1) := by decide +kernel
theorem dX5_digest_271 : decode cX5_digest 271 = .ok (.iload_n 3, 1) := by decide +kernel
theorem dX5_digest_272 : decode cX5_digest 272 = .ok (.iconst 4, 1) := by decide +kernel
theorem dX5_digest_273 : decode cX5_digest 273 = .ok (.if_icmp .ge 63, 3) := by decide +kernel
theorem dX5_digest_276 : decode cX5_digest 276 = .ok (.ldc2_w 288, 3) := by decide +kernel
theorem dX5_digest_279 : decode cX5_digest 279 = .ok (.lload_n 1, 1) := by decide +kernel
theorem dX5_digest_280 : decode cX5_digest 280 = .ok (.lmul, 1) := by decide +kernel
theorem dX5_digest_281 : decode cX5_digest 281 = .ok (.aload_n 0, 1) := by decide +kernel
theorem dX5_digest_282 : decode cX5_digest 282 = .ok (.getfield 19, 3) := by decide +kernel
theorem dX5_digest_285 : decode cX5_digest 285 = .ok (.iload_n 3, 1) := by decide +kernel
theorem dX5_digest_286 : decode cX5_digest 286 = .ok (.iaload, 1) := by decide +kernel
theorem dX5_digest_287 : decode cX5_digest 287 = .ok (.i2l, 1) := by decide +kernel
theorem dX5_digest_288 : decode cX5_digest 288 = .ok (.ladd, 1) := by decide +kernel
theorem dX5_digest_289 : decode cX5_digest 289 = .ok (.lstore_n 1, 1) := by decide +kernel
theorem dX5_digest_290 : decode cX5_digest 290 = .ok (.iconst 0, 1) := by decide +kernel
theorem dX5_digest_291 : decode cX5_digest 291 = .ok (.istore 4, 2) := by decide +kernel
theorem dX5_digest_293 : decode cX5_digest 293 = .ok (.iload 4, 2) := by decide +kernel
theorem dX5_digest_295 : decode cX5_digest 295 = .ok (.aload_n 0, 1) := by decide +kernel
theorem dX5_digest_296 : decode cX5_digest 296 = .ok (.getfield 19, 3) := by decide +kernel
theorem dX5_digest_299 : decode cX5_digest 299 = .ok (.iload_n 3, 1) := by decide +kernel
theorem dX5_digest_300 : decode cX5_digest 300 = .ok (.iaload, 1) := by decide +kernel
theorem dX5_digest_301 : decode cX5_digest 301 = .ok (.if_icmp .ge 29, 3) := by decide +kernel
theorem dX5_digest_304 : decode cX5_digest 304 = .ok (.ldc2_w 288, 3) := by decide +kernel
theorem dX5_digest_307 : decode cX5_digest 307 = .ok (.lload_n 1, 1) := by decide +kernel
theorem dX5_digest_308 : decode cX5_digest 308 = .ok (.lmul, 1) := by decide +kernel
theorem dX5_digest_309 : decode cX5_digest 309 = .ok (.aload_n 0, 1) := by decide +kernel
theorem dX5_digest_310 : decode cX5_digest 310 = .ok (.getfield 16, 3) := by decide +kernel
theorem dX5_digest_313 : decode cX5_digest 313 = .ok (.bipush 60, 2) := by decide +kernel
theorem dX5_digest_315 : decode cX5_digest 315 = .ok (.iload_n 3, 1) := by decide +kernel
theorem dX5_digest_316 : decode cX5_digest 316 = .ok (.imul, 1) := by decide +kernel
theorem dX5_digest_317 : decode cX5_digest 317 = .ok (.iload 4, 2) := by decide +kernel
theorem dX5_digest_319 : decode cX5_digest 319 = .ok (.iadd, 1) := by decide +kernel
theorem dX5_digest_320 : decode cX5_digest 320 = .ok (.iaload, 1) := by decide +kernel
theorem dX5_digest_321 : decode cX5_digest 321 = .ok (.i2l, 1) := by decide +kernel
theorem dX5_digest_322 : decode cX5_digest 322 = .ok (.ladd, 1) := by decide +kernel
theorem dX5_digest_323 : decode cX5_digest 323 = .ok (.lstore_n 1, 1) := by decide +kernel
theorem dX5_digest_324 : decode cX5_digest 324 = .ok (.iinc 4 1, 3) := by decide +kernel
theorem dX5_digest_327 : decode cX5_digest 327 = .ok (.goto (-34), 3) := by decide +kernel
theorem dX5_digest_330 : decode cX5_digest 330 = .ok (.iinc 3 1, 3) := by decide +kernel
theorem dX5_digest_333 : decode cX5_digest 333 = .ok (.goto (-62), 3) := by decide +kernel
theorem dX5_digest_336 : decode cX5_digest 336 = .ok (.lload_n 1, 1) := by decide +kernel
theorem dX5_digest_337 : decode cX5_digest 337 = .ok (.lreturn, 1) := by decide +kernel
