theorem dX4_init_0 : decode cX4_init 0 = .ok (.aload_n 0, 1) := by decide +kernel
theorem dX4_init_1 : decode cX4_init 1 = .ok (.invokespecial 1, 3) := by decide +kernel
theorem dX4_init_4 : decode cX4_init 4 = .ok (.aload_n 0, 1) := by decide +kernel
theorem dX4_init_5 : decode cX4_init 5 = .ok (.bipush 6, 2) := by decide +kernel
theorem dX4_init_7 : decode cX4_init 7 = .ok (.bipush 40, 2) := by decide +kernel
theorem dX4_init_9 : decode cX4_init 9 = .ok (.multianewarray 9 2, 4) := by decide +kernel
theorem dX4_init_13 : decode cX4_init 13 = .ok (.putfield 11, 3) := by decide +kernel
theorem dX4_init_16 : decode cX4_init 16 = .ok (.aload_n 0, 1) := by decide +kernel
theorem dX4_init_17 : decode cX4_init 17 = .ok (.bipush 6, 2) := by decide +kernel
theorem dX4_init_19 : decode cX4_init 19 = .ok (.newarray .int, 2) := by decide +kernel
theorem dX4_init_21 : decode cX4_init 21 = .ok (.putfield 14, 3) := by decide +kernel
theorem dX4_init_24 : decode cX4_init 24 = .ok (.aload_n 0, 1) := by decide +kernel
theorem dX4_init_25 : decode cX4_init 25 = .ok (.iconst 4, 1) := by decide +kernel
theorem dX4_init_26 : decode cX4_init 26 = .ok (.bipush 60, 2) := by decide +kernel
theorem dX4_init_28 : decode cX4_init 28 = .ok (.multianewarray 18 2, 4) := by decide +kernel
theorem dX4_init_32 : decode cX4_init 32 = .ok (.putfield 20, 3) := by decide +kernel
theorem dX4_init_35 : decode cX4_init 35 = .ok (.aload_n 0, 1) := by decide +kernel
theorem dX4_init_36 : decode cX4_init 36 = .ok (.iconst 4, 1) := by decide +kernel
theorem dX4_init_37 : decode cX4_init 37 = .ok (.newarray .int, 2) := by decide +kernel
theorem dX4_init_39 : decode cX4_init 39 = .ok (.putfield 23, 3) := by decide +kernel
theorem dX4_init_42 : decode cX4_init 42 = .ok (.aload_n 0, 1) := by decide +kernel
theorem dX4_init_43 : decode cX4_init 43 = .ok (.new 26, 3) := by decide +kernel
theorem dX4_init_46 : decode cX4_init 46 = .ok (.dup, 1) := by decide +kernel
theorem dX4_init_47 : decode cX4_init 47 = .ok (.invokespecial 28, 3) := by decide +kernel
theorem dX4_init_50 : decode cX4_init 50 = .ok (.putfield 29, 3) := by decide +kernel
theorem dX4_init_53 : decode cX4_init 53 = .ok (.aload_n 0, 1) := by decide +kernel
theorem dX4_init_54 : decode cX4_init 54 = .ok (.new 33, 3) := by decide +kernel
theorem dX4_init_57 : decode cX4_init 57 = .ok (.dup, 1) := by decide +kernel
theorem dX4_init_58 : decode cX4_init 58 = .ok (.invokespecial 35, 3) := by decide +kernel
theorem dX4_init_61 : decode cX4_init 61 = .ok (.putfield 36, 3) := by decide +kernel
theorem dX4_init_64 : decode cX4_init 64 = .ok (.aload_n 0, 1) := by decide +kernel
theorem dX4_init_65 : decode cX4_init 65 = .ok (.new 33, 3) := by decide +kernel
theorem dX4_init_68 : decode cX4_init 68 = .ok (.dup, 1) := by decide +kernel
theorem dX4_init_69 : decode cX4_init 69 = .ok (.invokespecial 35, 3) := by decide +kernel
theorem dX4_init_72 : decode cX4_init 72 = .ok (.putfield 40, 3) := by decide +kernel
theorem dX4_init_75 : decode cX4_init 75 = .ok (.aload_n 0, 1) := by decide +kernel
theorem dX4_init_76 : decode cX4_init 76 = .ok (.new 43, 3) := by decide +kernel
theorem dX4_init_79 : decode cX4_init 79 = .ok (.dup, 1) := by decide +kernel
theorem dX4_init_80 : decode cX4_init 80 = .ok (.invokespecial 45, 3) := by decide +kernel
theorem dX4_init_83 : decode cX4_init 83 = .ok (.putfield 46, 3) := by decide +kernel
theorem dX4_init_86 : decode cX4_init 86 = .ok (.aload_n 0, 1) := by decide +kernel
theorem dX4_init_87 : decode cX4_init 87 = .ok (.iconst 3, 1) := by decide +kernel
theorem dX4_init_88 : decode cX4_init 88 = .ok (.anewarray 43, 3) := by decide +kernel
theorem dX4_init_91 : decode cX4_init 91 = .ok (.putfield 50, 3) := by decide +kernel
theorem dX4_init_94 : decode cX4_init 94 = .ok (.aload_n 0, 1) := by decide +kernel
theorem dX4_init_95 : decode cX4_init 95 = .ok (.bipush 6, 2) := by decide +kernel
theorem dX4_init_97 : decode cX4_init 97 = .ok (.newarray .int, 2) := by decide +kernel
theorem dX4_init_99 : decode cX4_init 99 = .ok (.putfield 54, 3) := by decide +kernel
theorem dX4_init_102 : decode cX4_init 102 = .ok (.aload_n 0, 1) := by decide +kernel
theorem dX4_init_103 : decode cX4_init 103 = .ok (.bipush 64, 2) := by decide +kernel
theorem dX4_init_105 : decode cX4_init 105 = .ok (.newarray .int, 2) := by decide +kernel
theorem dX4_init_107 : decode cX4_init 107 = .ok (.putfield 57, 3) := by decide +kernel
theorem dX4_init_110 : decode cX4_init 110 = .ok (.aload_n 0, 1) := by decide +kernel
theorem dX4_init_111 : decode cX4_init 111 = .ok (.bipush 64, 2) := by decide +kernel
theorem dX4_init_113 : decode cX4_init 113 = .ok (.newarray .int, 2) := by decide +kernel
theorem dX4_init_115 : decode cX4_init 115 = .ok (.putfield 60, 3) := by decide +kernel
theorem dX4_init_118 : decode cX4_init 118 = .ok (.aload_n 0, 1) := by decide +kernel
theorem dX4_init_119 : decode cX4_init 119 = .ok (.bipush 6, 2) := by decide +kernel
theorem dX4_init_121 : decode cX4_init 121 = .ok (.newarray .int, 2) := by decide +kernel
theorem dX4_init_123 : decode cX4_init 123 = .ok (.putfield 63, 3) := by decide +kernel
theorem dX4_init_126 : decode cX4_init 126 = .ok (.aload_n 0, 1) := by decide +kernel
theorem dX4_init_127 : decode cX4_init 127 = .ok (.iconst 0, 1) := by decide +kernel
theorem dX4_init_128 : decode cX4_init 128 = .ok (.putfield 66, 3) := by decide +kernel
theorem dX4_init_131 : decode cX4_init 131 = .ok (.aload_n 0, 1) := by decide +kernel
theorem dX4_init_132 : decode cX4_init 132 = .ok (.iconst 0, 1) := by decide +kernel
theorem dX4_init_133 : decode cX4_init 133 = .ok (.putfield 70, 3) := by decide +kernel
theorem dX4_init_136 : decode cX4_init 136 = .ok (.aload_n 0, 1) := by decide +kernel
theorem dX4_init_137 : decode cX4_init 137 = .ok (.lconst 0, 1) := by decide +kernel
theorem dX4_init_138 : decode cX4_init 138 = .ok (.putfield 73, 3) := by decide +kernel
theorem dX4_init_141 : decode cX4_init 141 = .ok (.aload_n 0, 1) := by decide +kernel
theorem dX4_init_142 : decode cX4_init 142 = .ok (.lconst 1, 1) := by decide +kernel
theorem dX4_init_143 : decode cX4_init 143 = .ok (.putfield 77, 3) := by decide +kernel
theorem dX4_init_146 : decode cX4_init 146 = .ok (.aload_n 0, 1) := by decide +kernel
theorem dX4_init_147 : decode cX4_init 147 = .ok (.getfield 14, 3) := by decide +kernel
theorem dX4_init_150 : decode cX4_init 150 = .ok (.iconst (-1), 1) := by decide +kernel
theorem dX4_init_151 : decode cX4_init 151 = .ok (.invokestatic 80, 3) := by decide +kernel
theorem dX4_init_154 : decode cX4_init 154 = .ok (.aload_n 0, 1) := by decide +kernel
theorem dX4_init_155 : decode cX4_init 155 = .ok (.getfield 23, 3) := by decide +kernel
theorem dX4_init_158 : decode cX4_init 158 = .ok (.iconst (-1), 1) := by decide +kernel
theorem dX4_init_159 : decode cX4_init 159 = .ok (.invokestatic 80, 3) := by decide +kernel
theorem dX4_init_162 : decode cX4_init 162 = .ok (.iconst 0, 1) := by decide +kernel
theorem dX4_init_163 : decode cX4_init 163 = .ok (.istore_n 1, 1) := by decide +kernel
theorem dX4_init_164 : decode cX4_init 164 = .ok (.iload_n 1, 1) := by decide +kernel
theorem dX4_init_165 : decode cX4_init 165 = .ok (.iconst 3, 1) := by decide +kernel
theorem dX4_init_166 : decode cX4_init 166 = .ok (.if_icmp .ge 32, 3) := by decide +kernel
theorem dX4_init_169 : decode cX4_init 169 = .ok (.aload_n 0, 1) := by decide +kernel
theorem dX4_init_170 : decode cX4_init 170 = .ok (.getfield 50, 3) := by decide +kernel
theorem dX4_init_173 : decode cX4_init 173 = .ok (.iload_n 1, 1) := by decide +kernel
theorem dX4_init_174 : decode cX4_init 174 = .ok (.new 43, 3) := by decide +kernel
theorem dX4_init_177 : decode cX4_init 177 = .ok (.dup, 1) := by decide +kernel
theorem dX4_init_178 : decode cX4_init 178 = .ok (.invokespecial 45, 3) := by decide +kernel
theorem dX4_init_181 : decode cX4_init 181 = .ok (.aastore, 1) := by decide +kernel
theorem dX4_init_182 : decode cX4_init 182 = .ok (.aload_n 0, 1) := by decide +kernel
theorem dX4_init_183 : decode cX4_init 183 = .ok (.getfield 50, 3) := by decide +kernel
theorem dX4_init_186 : decode cX4_init 186 = .ok (.iload_n 1, 1) := by decide +kernel
theorem dX4_init_187 : decode cX4_init 187 = .ok (.aaload, 1) := by decide +kernel
theorem dX4_init_188 : decode cX4_init 188 = .ok (.iconst (-1), 1) := by decide +kernel
theorem dX4_init_189 : decode cX4_init 189 = .ok (.putfield 86, 3) := by decide +kernel
theorem dX4_init_192 : decode cX4_init 192 = .ok (.iinc 1 1, 3) := by decide +kernel
theorem dX4_init_195 : decode cX4_init 195 = .ok (.goto (-31), 3) := by decide +kernel
theorem dX4_init_198 : decode cX4_init 198 = .ok (.return_, 1) := by decide +kernel
theorem dX4_row_0 : decode cX4_row 0 = .ok (.iload_n 1, 1) := by decide +kernel
theorem dX4_row_1 : decode cX4_row 1 = .ok (.invokestatic 89, 3) := by decide +kernel
theorem dX4_row_4 : decode cX4_row 4 = .ok (.ifCond .eq 9, 3) := by decide +kernel
theorem dX4_row_7 : decode cX4_row 7 = .ok (.iload_n 2, 1) := by decide +kernel
theorem dX4_row_8 : decode cX4_row 8 = .ok (.bipush 40, 2) := by decide +kernel
theorem dX4_row_10 : decode cX4_row 10 = .ok (.if_icmp .le 5, 3) := by decide +kernel
theorem dX4_row_13 : decode cX4_row 13 = .ok (.iconst (-1), 1) := by decide +kernel
theorem dX4_row_14 : decode cX4_row 14 = .ok (.ireturn, 1) := by decide +kernel
theorem dX4_row_15 : decode cX4_row 15 = .ok (.iload_n 2, 1) := by decide +kernel
theorem dX4_row_16 : decode cX4_row 16 = .ok (.ifCond .ge 9, 3) := by decide +kernel
theorem dX4_row_19 : decode cX4_row 19 = .ok (.aload_n 0, 1) := by decide +kernel
theorem dX4_row_20 : decode cX4_row 20 = .ok (.iconst 5, 1) := by decide +kernel
theorem dX4_row_21 : decode cX4_row 21 = .ok (.invokevirtual 93, 3) := by decide +kernel
theorem dX4_row_24 : decode cX4_row 24 = .ok (.ireturn, 1) := by decide +kernel
theorem dX4_row_25 : decode cX4_row 25 = .ok (.aload_n 0, 1) := by decide +kernel
theorem dX4_row_26 : decode cX4_row 26 = .ok (.getfield 11, 3) := by decide +kernel
theorem dX4_row_29 : decode cX4_row 29 = .ok (.iload_n 1, 1) := by decide +kernel
theorem dX4_row_30 : decode cX4_row 30 = .ok (.aaload, 1) := by decide +kernel
theorem dX4_row_31 : decode cX4_row 31 = .ok (.iconst 0, 1) := by decide +kernel
theorem dX4_row_32 : decode cX4_row 32 = .ok (.invokestatic 80, 3) := by decide +kernel
theorem dX4_row_35 : decode cX4_row 35 = .ok (.aload_n 0, 1) := by decide +kernel
theorem dX4_row_36 : decode cX4_row 36 = .ok (.getfield 14, 3) := by decide +kernel
theorem dX4_row_39 : decode cX4_row 39 = .ok (.iload_n 1, 1) := by decide +kernel
theorem dX4_row_40 : decode cX4_row 40 = .ok (.iload_n 2, 1) := by decide +kernel
theorem dX4_row_41 : decode cX4_row 41 = .ok (.iastore, 1) := by decide +kernel
theorem dX4_row_42 : decode cX4_row 42 = .ok (.iload_n 2, 1) := by decide +kernel
theorem dX4_row_43 : decode cX4_row 43 = .ok (.ireturn, 1) := by decide +kernel
theorem dX4_lay_0 : decode cX4_lay 0 = .ok (.aload_n 0, 1) := by decide +kernel
theorem dX4_lay_1 : decode cX4_lay 1 = .ok (.iload_n 1, 1) := by decide +kernel
theorem dX4_lay_2 : decode cX4_lay 2 = .ok (.iload_n 2, 1) := by decide +kernel
theorem dX4_lay_3 : decode cX4_lay 3 = .ok (.invokevirtual 97, 3) := by decide +kernel
theorem dX4_lay_6 : decode cX4_lay 6 = .ok (.istore 4, 2) := by decide +kernel
theorem dX4_lay_8 : decode cX4_lay 8 = .ok (.iload 4, 2) := by decide +kernel
theorem dX4_lay_10 : decode cX4_lay 10 = .ok (.ifCond .eq 6, 3) := by decide +kernel
theorem dX4_lay_13 : decode cX4_lay 13 = .ok (.iload 4, 2) := by decide +kernel
theorem dX4_lay_15 : decode cX4_lay 15 = .ok (.ireturn, 1) := by decide +kernel
theorem dX4_lay_16 : decode cX4_lay 16 = .ok (.aload_n 0, 1) := by decide +kernel
theorem dX4_lay_17 : decode cX4_lay 17 = .ok (.getfield 11, 3) := by decide +kernel
theorem dX4_lay_20 : decode cX4_lay 20 = .ok (.iload_n 1, 1) := by decide +kernel
theorem dX4_lay_21 : decode cX4_lay 21 = .ok (.aaload, 1) := by decide +kernel
theorem dX4_lay_22 : decode cX4_lay 22 = .ok (.iload_n 2, 1) := by decide +kernel
theorem dX4_lay_23 : decode cX4_lay 23 = .ok (.iaload, 1) := by decide +kernel
theorem dX4_lay_24 : decode cX4_lay 24 = .ok (.istore 5, 2) := by decide +kernel
theorem dX4_lay_26 : decode cX4_lay 26 = .ok (.aload_n 0, 1) := by decide +kernel
theorem dX4_lay_27 : decode cX4_lay 27 = .ok (.getfield 11, 3) := by decide +kernel
theorem dX4_lay_30 : decode cX4_lay 30 = .ok (.iload_n 1, 1) := by decide +kernel
theorem dX4_lay_31 : decode cX4_lay 31 = .ok (.aaload, 1) := by decide +kernel
theorem dX4_lay_32 : decode cX4_lay 32 = .ok (.iload_n 2, 1) := by decide +kernel
theorem dX4_lay_33 : decode cX4_lay 33 = .ok (.iload_n 3, 1) := by decide +kernel
theorem dX4_lay_34 : decode cX4_lay 34 = .ok (.iastore, 1) := by decide +kernel
theorem dX4_lay_35 : decode cX4_lay 35 = .ok (.aload_n 0, 1) := by decide +kernel
theorem dX4_lay_36 : decode cX4_lay 36 = .ok (.iload 5, 2) := by decide +kernel
theorem dX4_lay_38 : decode cX4_lay 38 = .ok (.invokevirtual 101, 3) := by decide +kernel
theorem dX4_lay_41 : decode cX4_lay 41 = .ok (.ireturn, 1) := by decide +kernel
theorem dX4_at_0 : decode cX4_at 0 = .ok (.aload_n 0, 1) := by decide +kernel
theorem dX4_at_1 : decode cX4_at 1 = .ok (.iload_n 1, 1) := by decide +kernel
theorem dX4_at_2 : decode cX4_at 2 = .ok (.iload_n 2, 1) := by decide +kernel
theorem dX4_at_3 : decode cX4_at 3 = .ok (.invokevirtual 97, 3) := by decide +kernel
theorem dX4_at_6 : decode cX4_at 6 = .ok (.istore_n 3, 1) := by decide +kernel
theorem dX4_at_7 : decode cX4_at 7 = .ok (.iload_n 3, 1) := by decide +kernel
theorem dX4_at_8 : decode cX4_at 8 = .ok (.ifCond .eq 7, 3) := by decide +kernel
theorem dX4_at_11 : decode cX4_at 11 = .ok (.iload_n 3, 1) := by decide +kernel
theorem dX4_at_12 : decode cX4_at 12 = .ok (.goto 15, 3) := by decide +kernel
theorem dX4_at_15 : decode cX4_at 15 = .ok (.aload_n 0, 1) := by decide +kernel
theorem dX4_at_16 : decode cX4_at 16 = .ok (.aload_n 0, 1) := by decide +kernel
theorem dX4_at_17 : decode cX4_at 17 = .ok (.getfield 11, 3) := by decide +kernel
theorem dX4_at_20 : decode cX4_at 20 = .ok (.iload_n 1, 1) := by decide +kernel
theorem dX4_at_21 : decode cX4_at 21 = .ok (.aaload, 1) := by decide +kernel
theorem dX4_at_22 : decode cX4_at 22 = .ok (.iload_n 2, 1) := by decide +kernel
theorem dX4_at_23 : decode cX4_at 23 = .ok (.iaload, 1) := by decide +kernel
theorem dX4_at_24 : decode cX4_at 24 = .ok (.invokevirtual 101, 3) := by decide +kernel
theorem dX4_at_27 : decode cX4_at 27 = .ok (.ireturn, 1) := by decide +kernel
theorem dX4_tear_0 : decode cX4_tear 0 = .ok (.iload_n 1, 1) := by decide +kernel
theorem dX4_tear_1 : decode cX4_tear 1 = .ok (.invokestatic 89, 3) := by decide +kernel
theorem dX4_tear_4 : decode cX4_tear 4 = .ok (.ifCond .ne 5, 3) := by decide +kernel
theorem dX4_tear_7 : decode cX4_tear 7 = .ok (.iconst (-1), 1) := by decide +kernel
theorem dX4_tear_8 : decode cX4_tear 8 = .ok (.ireturn, 1) := by decide +kernel
theorem dX4_tear_9 : decode cX4_tear 9 = .ok (.aload_n 0, 1) := by decide +kernel
theorem dX4_tear_10 : decode cX4_tear 10 = .ok (.getfield 14, 3) := by decide +kernel
theorem dX4_tear_13 : decode cX4_tear 13 = .ok (.iload_n 1, 1) := by decide +kernel
theorem dX4_tear_14 : decode cX4_tear 14 = .ok (.iaload, 1) := by decide +kernel
theorem dX4_tear_15 : decode cX4_tear 15 = .ok (.iconst (-1), 1) := by decide +kernel
theorem dX4_tear_16 : decode cX4_tear 16 = .ok (.if_icmp .ne 9, 3) := by decide +kernel
theorem dX4_tear_19 : decode cX4_tear 19 = .ok (.aload_n 0, 1) := by decide +kernel
theorem dX4_tear_20 : decode cX4_tear 20 = .ok (.iconst 1, 1) := by decide +kernel
theorem dX4_tear_21 : decode cX4_tear 21 = .ok (.invokevirtual 93, 3) := by decide +kernel
theorem dX4_tear_24 : decode cX4_tear 24 = .ok (.ireturn, 1) := by decide +kernel
theorem dX4_tear_25 : decode cX4_tear 25 = .ok (.aload_n 0, 1) := by decide +kernel
theorem dX4_tear_26 : decode cX4_tear 26 = .ok (.getfield 14, 3) := by decide +kernel
theorem dX4_tear_29 : decode cX4_tear 29 = .ok (.iload_n 1, 1) := by decide +kernel
theorem dX4_tear_30 : decode cX4_tear 30 = .ok (.iconst (-1), 1) := by decide +kernel
theorem dX4_tear_31 : decode cX4_tear 31 = .ok (.iastore, 1) := by decide +kernel
theorem dX4_tear_32 : decode cX4_tear 32 = .ok (.iconst 1, 1) := by decide +kernel
theorem dX4_tear_33 : decode cX4_tear 33 = .ok (.ireturn, 1) := by decide +kernel
theorem dX4_copy_0 : decode cX4_copy 0 = .ok (.iload_n 1, 1) := by decide +kernel
theorem dX4_copy_1 : decode cX4_copy 1 = .ok (.invokestatic 89, 3) := by decide +kernel
theorem dX4_copy_4 : decode cX4_copy 4 = .ok (.ifCond .eq 10, 3) := by decide +kernel
theorem dX4_copy_7 : decode cX4_copy 7 = .ok (.iload_n 3, 1) := by decide +kernel
theorem dX4_copy_8 : decode cX4_copy 8 = .ok (.invokestatic 89, 3) := by decide +kernel
theorem dX4_copy_11 : decode cX4_copy 11 = .ok (.ifCond .ne 5, 3) := by decide +kernel
theorem dX4_copy_14 : decode cX4_copy 14 = .ok (.iconst (-1), 1) := by decide +kernel
theorem dX4_copy_15 : decode cX4_copy 15 = .ok (.ireturn, 1) := by decide +kernel
theorem dX4_copy_16 : decode cX4_copy 16 = .ok (.iload 5, 2) := by decide +kernel
theorem dX4_copy_18 : decode cX4_copy 18 = .ok (.ifCond .ge 9, 3) := by decide +kernel
theorem dX4_copy_21 : decode cX4_copy 21 = .ok (.aload_n 0, 1) := by decide +kernel
theorem dX4_copy_22 : decode cX4_copy 22 = .ok (.iconst 5, 1) := by decide +kernel
theorem dX4_copy_23 : decode cX4_copy 23 = .ok (.invokevirtual 93, 3) := by decide +kernel
theorem dX4_copy_26 : decode cX4_copy 26 = .ok (.ireturn, 1) := by decide +kernel
theorem dX4_copy_27 : decode cX4_copy 27 = .ok (.aload_n 0, 1) := by decide +kernel
theorem dX4_copy_28 : decode cX4_copy 28 = .ok (.getfield 14, 3) := by decide +kernel
theorem dX4_copy_31 : decode cX4_copy 31 = .ok (.iload_n 1, 1) := by decide +kernel
theorem dX4_copy_32 : decode cX4_copy 32 = .ok (.iaload, 1) := by decide +kernel
theorem dX4_copy_33 : decode cX4_copy 33 = .ok (.iconst (-1), 1) := by decide +kernel
theorem dX4_copy_34 : decode cX4_copy 34 = .ok (.if_icmp .eq 13, 3) := by decide +kernel
theorem dX4_copy_37 : decode cX4_copy 37 = .ok (.aload_n 0, 1) := by decide +kernel
theorem dX4_copy_38 : decode cX4_copy 38 = .ok (.getfield 14, 3) := by decide +kernel
theorem dX4_copy_41 : decode cX4_copy 41 = .ok (.iload_n 3, 1) := by decide +kernel
theorem dX4_copy_42 : decode cX4_copy 42 = .ok (.iaload, 1) := by decide +kernel
theorem dX4_copy_43 : decode cX4_copy 43 = .ok (.iconst (-1), 1) := by decide +kernel
theorem dX4_copy_44 : decode cX4_copy 44 = .ok (.if_icmp .ne 9, 3) := by decide +kernel
theorem dX4_copy_47 : decode cX4_copy 47 = .ok (.aload_n 0, 1) := by decide +kernel
theorem dX4_copy_48 : decode cX4_copy 48 = .ok (.iconst 1, 1) := by decide +kernel
theorem dX4_copy_49 : decode cX4_copy 49 = .ok (.invokevirtual 93, 3) := by decide +kernel
theorem dX4_copy_52 : decode cX4_copy 52 = .ok (.ireturn, 1) := by decide +kernel
theorem dX4_copy_53 : decode cX4_copy 53 = .ok (.aload_n 0, 1) := by decide +kernel
theorem dX4_copy_54 : decode cX4_copy 54 = .ok (.getfield 14, 3) := by decide +kernel
theorem dX4_copy_57 : decode cX4_copy 57 = .ok (.iload_n 1, 1) := by decide +kernel
theorem dX4_copy_58 : decode cX4_copy 58 = .ok (.iaload, 1) := by decide +kernel
theorem dX4_copy_59 : decode cX4_copy 59 = .ok (.iload_n 2, 1) := by decide +kernel
theorem dX4_copy_60 : decode cX4_copy 60 = .ok (.iload 5, 2) := by decide +kernel
theorem dX4_copy_62 : decode cX4_copy 62 = .ok (.invokestatic 104, 3) := by decide +kernel
theorem dX4_copy_65 : decode cX4_copy 65 = .ok (.ifCond .eq 19, 3) := by decide +kernel
theorem dX4_copy_68 : decode cX4_copy 68 = .ok (.aload_n 0, 1) := by decide +kernel
theorem dX4_copy_69 : decode cX4_copy 69 = .ok (.getfield 14, 3) := by decide +kernel
theorem dX4_copy_72 : decode cX4_copy 72 = .ok (.iload_n 3, 1) := by decide +kernel
theorem dX4_copy_73 : decode cX4_copy 73 = .ok (.iaload, 1) := by decide +kernel
theorem dX4_copy_74 : decode cX4_copy 74 = .ok (.iload 4, 2) := by decide +kernel
theorem dX4_copy_76 : decode cX4_copy 76 = .ok (.iload 5, 2) := by decide +kernel
theorem dX4_copy_78 : decode cX4_copy 78 = .ok (.invokestatic 104, 3) := by decide +kernel
theorem dX4_copy_81 : decode cX4_copy 81 = .ok (.ifCond .ne 9, 3) := by decide +kernel
theorem dX4_copy_84 : decode cX4_copy 84 = .ok (.aload_n 0, 1) := by decide +kernel
theorem dX4_copy_85 : decode cX4_copy 85 = .ok (.iconst 2, 1) := by decide +kernel
theorem dX4_copy_86 : decode cX4_copy 86 = .ok (.invokevirtual 93, 3) := by decide +kernel
theorem dX4_copy_89 : decode cX4_copy 89 = .ok (.ireturn, 1) := by decide +kernel
theorem dX4_copy_90 : decode cX4_copy 90 = .ok (.aload_n 0, 1) := by decide +kernel
theorem dX4_copy_91 : decode cX4_copy 91 = .ok (.getfield 11, 3) := by decide +kernel
theorem dX4_copy_94 : decode cX4_copy 94 = .ok (.iload_n 1, 1) := by decide +kernel
theorem dX4_copy_95 : decode cX4_copy 95 = .ok (.aaload, 1) := by decide +kernel
theorem dX4_copy_96 : decode cX4_copy 96 = .ok (.iload_n 2, 1) := by decide +kernel
theorem dX4_copy_97 : decode cX4_copy 97 = .ok (.aload_n 0, 1) := by decide +kernel
theorem dX4_copy_98 : decode cX4_copy 98 = .ok (.getfield 11, 3) := by decide +kernel
theorem dX4_copy_101 : decode cX4_copy 101 = .ok (.iload_n 3, 1) := by decide +kernel
theorem dX4_copy_102 : decode cX4_copy 102 = .ok (.aaload, 1) := by decide +kernel
theorem dX4_copy_103 : decode cX4_copy 103 = .ok (.iload 4, 2) := by decide +kernel
theorem dX4_copy_105 : decode cX4_copy 105 = .ok (.iload 5, 2) := by decide +kernel
theorem dX4_copy_107 : decode cX4_copy 107 = .ok (.invokestatic 108, 3) := by decide +kernel
theorem dX4_copy_110 : decode cX4_copy 110 = .ok (.iconst 1, 1) := by decide +kernel
theorem dX4_copy_111 : decode cX4_copy 111 = .ok (.ireturn, 1) := by decide +kernel
theorem dX4_mean_0 : decode cX4_mean 0 = .ok (.iload_n 1, 1) := by decide +kernel
theorem dX4_mean_1 : decode cX4_mean 1 = .ok (.invokestatic 89, 3) := by decide +kernel
theorem dX4_mean_4 : decode cX4_mean 4 = .ok (.ifCond .ne 5, 3) := by decide +kernel
theorem dX4_mean_7 : decode cX4_mean 7 = .ok (.iconst (-1), 1) := by decide +kernel
theorem dX4_mean_8 : decode cX4_mean 8 = .ok (.ireturn, 1) := by decide +kernel
theorem dX4_mean_9 : decode cX4_mean 9 = .ok (.aload_n 0, 1) := by decide +kernel
theorem dX4_mean_10 : decode cX4_mean 10 = .ok (.getfield 14, 3) := by decide +kernel
theorem dX4_mean_13 : decode cX4_mean 13 = .ok (.iload_n 1, 1) := by decide +kernel
theorem dX4_mean_14 : decode cX4_mean 14 = .ok (.iaload, 1) := by decide +kernel
theorem dX4_mean_15 : decode cX4_mean 15 = .ok (.istore_n 2, 1) := by decide +kernel
theorem dX4_mean_16 : decode cX4_mean 16 = .ok (.iload_n 2, 1) := by decide +kernel
theorem dX4_mean_17 : decode cX4_mean 17 = .ok (.iconst (-1), 1) := by decide +kernel
theorem dX4_mean_18 : decode cX4_mean 18 = .ok (.if_icmp .ne 9, 3) := by decide +kernel
theorem dX4_mean_21 : decode cX4_mean 21 = .ok (.aload_n 0, 1) := by decide +kernel
theorem dX4_mean_22 : decode cX4_mean 22 = .ok (.iconst 1, 1) := by decide +kernel
theorem dX4_mean_23 : decode cX4_mean 23 = .ok (.invokevirtual 93, 3) := by decide +kernel
theorem dX4_mean_26 : decode cX4_mean 26 = .ok (.ireturn, 1) := by decide +kernel
theorem dX4_mean_27 : decode cX4_mean 27 = .ok (.iload_n 2, 1) := by decide +kernel
theorem dX4_mean_28 : decode cX4_mean 28 = .ok (.ifCond .ne 9, 3) := by decide +kernel
theorem dX4_mean_31 : decode cX4_mean 31 = .ok (.aload_n 0, 1) := by decide +kernel
theorem dX4_mean_32 : decode cX4_mean 32 = .ok (.iconst 4, 1) := by decide +kernel
theorem dX4_mean_33 : decode cX4_mean 33 = .ok (.invokevirtual 93, 3) := by decide +kernel
theorem dX4_mean_36 : decode cX4_mean 36 = .ok (.ireturn, 1) := by decide +kernel
theorem dX4_mean_37 : decode cX4_mean 37 = .ok (.lconst 0, 1) := by decide +kernel
theorem dX4_mean_38 : decode cX4_mean 38 = .ok (.lstore_n 3, 1) := by decide +kernel
theorem dX4_mean_39 : decode cX4_mean 39 = .ok (.iconst 0, 1) := by decide +kernel
theorem dX4_mean_40 : decode cX4_mean 40 = .ok (.istore 5, 2) := by decide +kernel
theorem dX4_mean_42 : decode cX4_mean 42 = .ok (.iload 5, 2) := by decide +kernel
theorem dX4_mean_44 : decode cX4_mean 44 = .ok (.iload_n 2, 1) := by decide +kernel
theorem dX4_mean_45 : decode cX4_mean 45 = .ok (.if_icmp .ge 22, 3) := by decide +kernel
theorem dX4_mean_48 : decode cX4_mean 48 = .ok (.lload_n 3, 1) := by decide +kernel
theorem dX4_mean_49 : decode cX4_mean 49 = .ok (.aload_n 0, 1) := by decide +kernel
theorem dX4_mean_50 : decode cX4_mean 50 = .ok (.getfield 11, 3) := by decide +kernel
theorem dX4_mean_53 : decode cX4_mean 53 = .ok (.iload_n 1, 1) := by decide +kernel
theorem dX4_mean_54 : decode cX4_mean 54 = .ok (.aaload, 1) := by decide +kernel
theorem dX4_mean_55 : decode cX4_mean 55 = .ok (.iload 5, 2) := by decide +kernel
theorem dX4_mean_57 : decode cX4_mean 57 = .ok (.iaload, 1) := by decide +kernel
theorem dX4_mean_58 : decode cX4_mean 58 = .ok (.i2l, 1) := by decide +kernel
theorem dX4_mean_59 : decode cX4_mean 59 = .ok (.ladd, 1) := by decide +kernel
theorem dX4_mean_60 : decode cX4_mean 60 = .ok (.lstore_n 3, 1) := by decide +kernel
theorem dX4_mean_61 : decode cX4_mean 61 = .ok (.iinc 5 1, 3) := by decide +kernel
theorem dX4_mean_64 : decode cX4_mean 64 = .ok (.goto (-22), 3) := by decide +kernel
theorem dX4_mean_67 : decode cX4_mean 67 = .ok (.aload_n 0, 1) := by decide +kernel
theorem dX4_mean_68 : decode cX4_mean 68 = .ok (.lload_n 3, 1) := by decide +kernel
theorem dX4_mean_69 : decode cX4_mean 69 = .ok (.iload_n 2, 1) := by decide +kernel
theorem dX4_mean_70 : decode cX4_mean 70 = .ok (.i2l, 1) := by decide +kernel
theorem dX4_mean_71 : decode cX4_mean 71 = .ok (.ldiv, 1) := by decide +kernel
theorem dX4_mean_72 : decode cX4_mean 72 = .ok (.l2i, 1) := by decide +kernel
theorem dX4_mean_73 : decode cX4_mean 73 = .ok (.invokevirtual 101, 3) := by decide +kernel
theorem dX4_mean_76 : decode cX4_mean 76 = .ok (.ireturn, 1) := by decide +kernel
theorem dX4_text_0 : decode cX4_text 0 = .ok (.iload_n 1, 1) := by decide +kernel
theorem dX4_text_1 : decode cX4_text 1 = .ok (.invokestatic 114, 3) := by decide +kernel
theorem dX4_text_4 : decode cX4_text 4 = .ok (.ifCond .eq 9, 3) := by decide +kernel
theorem dX4_text_7 : decode cX4_text 7 = .ok (.iload_n 2, 1) := by decide +kernel
theorem dX4_text_8 : decode cX4_text 8 = .ok (.bipush 60, 2) := by decide +kernel
theorem dX4_text_10 : decode cX4_text 10 = .ok (.if_icmp .le 5, 3) := by decide +kernel
theorem dX4_text_13 : decode cX4_text 13 = .ok (.iconst (-1), 1) := by decide +kernel
theorem dX4_text_14 : decode cX4_text 14 = .ok (.ireturn, 1) := by decide +kernel
theorem dX4_text_15 : decode cX4_text 15 = .ok (.iload_n 2, 1) := by decide +kernel
theorem dX4_text_16 : decode cX4_text 16 = .ok (.ifCond .ge 9, 3) := by decide +kernel
theorem dX4_text_19 : decode cX4_text 19 = .ok (.aload_n 0, 1) := by decide +kernel
theorem dX4_text_20 : decode cX4_text 20 = .ok (.iconst 5, 1) := by decide +kernel
theorem dX4_text_21 : decode cX4_text 21 = .ok (.invokevirtual 93, 3) := by decide +kernel
theorem dX4_text_24 : decode cX4_text 24 = .ok (.ireturn, 1) := by decide +kernel
theorem dX4_text_25 : decode cX4_text 25 = .ok (.aload_n 0, 1) := by decide +kernel
theorem dX4_text_26 : decode cX4_text 26 = .ok (.getfield 20, 3) := by decide +kernel
theorem dX4_text_29 : decode cX4_text 29 = .ok (.iload_n 1, 1) := by decide +kernel
theorem dX4_text_30 : decode cX4_text 30 = .ok (.aaload, 1) := by decide +kernel
theorem dX4_text_31 : decode cX4_text 31 = .ok (.bipush 32, 2) := by decide +kernel
theorem dX4_text_33 : decode cX4_text 33 = .ok (.invokestatic 117, 3) := by decide +kernel
theorem dX4_text_36 : decode cX4_text 36 = .ok (.aload_n 0, 1) := by decide +kernel
theorem dX4_text_37 : decode cX4_text 37 = .ok (.getfield 23, 3) := by decide +kernel
theorem dX4_text_40 : decode cX4_text 40 = .ok (.iload_n 1, 1) := by decide +kernel
theorem dX4_text_41 : decode cX4_text 41 = .ok (.iload_n 2, 1) := by decide +kernel
theorem dX4_text_42 : decode cX4_text 42 = .ok (.iastore, 1) := by decide +kernel
theorem dX4_text_43 : decode cX4_text 43 = .ok (.iload_n 2, 1) := by decide +kernel
theorem dX4_text_44 : decode cX4_text 44 = .ok (.ireturn, 1) := by decide +kernel
theorem dX4_put_0 : decode cX4_put 0 = .ok (.iload_n 1, 1) := by decide +kernel
theorem dX4_put_1 : decode cX4_put 1 = .ok (.invokestatic 114, 3) := by decide +kernel
theorem dX4_put_4 : decode cX4_put 4 = .ok (.ifCond .ne 5, 3) := by decide +kernel
theorem dX4_put_7 : decode cX4_put 7 = .ok (.iconst (-1), 1) := by decide +kernel
theorem dX4_put_8 : decode cX4_put 8 = .ok (.ireturn, 1) := by decide +kernel
theorem dX4_put_9 : decode cX4_put 9 = .ok (.aload_n 0, 1) := by decide +kernel
theorem dX4_put_10 : decode cX4_put 10 = .ok (.getfield 23, 3) := by decide +kernel
theorem dX4_put_13 : decode cX4_put 13 = .ok (.iload_n 1, 1) := by decide +kernel
theorem dX4_put_14 : decode cX4_put 14 = .ok (.iaload, 1) := by decide +kernel
theorem dX4_put_15 : decode cX4_put 15 = .ok (.iconst (-1), 1) := by decide +kernel
theorem dX4_put_16 : decode cX4_put 16 = .ok (.if_icmp .ne 9, 3) := by decide +kernel
theorem dX4_put_19 : decode cX4_put 19 = .ok (.aload_n 0, 1) := by decide +kernel
theorem dX4_put_20 : decode cX4_put 20 = .ok (.iconst 1, 1) := by decide +kernel
theorem dX4_put_21 : decode cX4_put 21 = .ok (.invokevirtual 93, 3) := by decide +kernel
theorem dX4_put_24 : decode cX4_put 24 = .ok (.ireturn, 1) := by decide +kernel
theorem dX4_put_25 : decode cX4_put 25 = .ok (.aload_n 0, 1) := by decide +kernel
theorem dX4_put_26 : decode cX4_put 26 = .ok (.getfield 23, 3) := by decide +kernel
theorem dX4_put_29 : decode cX4_put 29 = .ok (.iload_n 1, 1) := by decide +kernel
theorem dX4_put_30 : decode cX4_put 30 = .ok (.iaload, 1) := by decide +kernel
theorem dX4_put_31 : decode cX4_put 31 = .ok (.iload_n 2, 1) := by decide +kernel
theorem dX4_put_32 : decode cX4_put 32 = .ok (.iconst 1, 1) := by decide +kernel
theorem dX4_put_33 : decode cX4_put 33 = .ok (.invokestatic 104, 3) := by decide +kernel
theorem dX4_put_36 : decode cX4_put 36 = .ok (.ifCond .ne 9, 3) := by decide +kernel
theorem dX4_put_39 : decode cX4_put 39 = .ok (.aload_n 0, 1) := by decide +kernel
theorem dX4_put_40 : decode cX4_put 40 = .ok (.iconst 2, 1) := by decide +kernel
theorem dX4_put_41 : decode cX4_put 41 = .ok (.invokevirtual 93, 3) := by decide +kernel
theorem dX4_put_44 : decode cX4_put 44 = .ok (.ireturn, 1) := by decide +kernel
theorem dX4_put_45 : decode cX4_put 45 = .ok (.aload_n 0, 1) := by decide +kernel
theorem dX4_put_46 : decode cX4_put 46 = .ok (.getfield 20, 3) := by decide +kernel
theorem dX4_put_49 : decode cX4_put 49 = .ok (.iload_n 1, 1) := by decide +kernel
theorem dX4_put_50 : decode cX4_put 50 = .ok (.aaload, 1) := by decide +kernel
theorem dX4_put_51 : decode cX4_put 51 = .ok (.iload_n 2, 1) := by decide +kernel
theorem dX4_put_52 : decode cX4_put 52 = .ok (.baload, 1) := by decide +kernel
theorem dX4_put_53 : decode cX4_put 53 = .ok (.istore 4, 2) := by decide +kernel
theorem dX4_put_55 : decode cX4_put 55 = .ok (.aload_n 0, 1) := by decide +kernel
theorem dX4_put_56 : decode cX4_put 56 = .ok (.getfield 20, 3) := by decide +kernel
theorem dX4_put_59 : decode cX4_put 59 = .ok (.iload_n 1, 1) := by decide +kernel
theorem dX4_put_60 : decode cX4_put 60 = .ok (.aaload, 1) := by decide +kernel
theorem dX4_put_61 : decode cX4_put 61 = .ok (.iload_n 2, 1) := by decide +kernel
theorem dX4_put_62 : decode cX4_put 62 = .ok (.iload_n 3, 1) := by decide +kernel
theorem dX4_put_63 : decode cX4_put 63 = .ok (.i2b, 1) := by decide +kernel
theorem dX4_put_64 : decode cX4_put 64 = .ok (.bastore, 1) := by decide +kernel
theorem dX4_put_65 : decode cX4_put 65 = .ok (.iload 4, 2) := by decide +kernel
theorem dX4_put_67 : decode cX4_put 67 = .ok (.sipush 1000, 3) := by decide +kernel
theorem dX4_put_70 : decode cX4_put 70 = .ok (.iadd, 1) := by decide +kernel
theorem dX4_put_71 : decode cX4_put 71 = .ok (.ireturn, 1) := by decide +kernel
theorem dX4_fault_0 : decode cX4_fault 0 = .ok (.iload_n 1, 1) := by decide +kernel
theorem dX4_fault_1 : decode cX4_fault 1 = .ok (.invokestatic 114, 3) := by decide +kernel
theorem dX4_fault_4 : decode cX4_fault 4 = .ok (.ifCond .ne 5, 3) := by decide +kernel
theorem dX4_fault_7 : decode cX4_fault 7 = .ok (.iconst (-1), 1) := by decide +kernel
theorem dX4_fault_8 : decode cX4_fault 8 = .ok (.ireturn, 1) := by decide +kernel
theorem dX4_fault_9 : decode cX4_fault 9 = .ok (.aload_n 0, 1) := by decide +kernel
theorem dX4_fault_10 : decode cX4_fault 10 = .ok (.getfield 23, 3) := by decide +kernel
theorem dX4_fault_13 : decode cX4_fault 13 = .ok (.iload_n 1, 1) := by decide +kernel
theorem dX4_fault_14 : decode cX4_fault 14 = .ok (.iaload, 1) := by decide +kernel
theorem dX4_fault_15 : decode cX4_fault 15 = .ok (.iconst (-1), 1) := by decide +kernel
theorem dX4_fault_16 : decode cX4_fault 16 = .ok (.if_icmp .ne 9, 3) := by decide +kernel
theorem dX4_fault_19 : decode cX4_fault 19 = .ok (.aload_n 0, 1) := by decide +kernel
theorem dX4_fault_20 : decode cX4_fault 20 = .ok (.iconst 1, 1) := by decide +kernel
theorem dX4_fault_21 : decode cX4_fault 21 = .ok (.invokevirtual 93, 3) := by decide +kernel
theorem dX4_fault_24 : decode cX4_fault 24 = .ok (.ireturn, 1) := by decide +kernel
theorem dX4_fault_25 : decode cX4_fault 25 = .ok (.aload_n 0, 1) := by decide +kernel
theorem dX4_fault_26 : decode cX4_fault 26 = .ok (.getfield 29, 3) := by decide +kernel
theorem dX4_fault_29 : decode cX4_fault 29 = .ok (.aload_n 0, 1) := by decide +kernel
theorem dX4_fault_30 : decode cX4_fault 30 = .ok (.getfield 20, 3) := by decide +kernel
theorem dX4_fault_33 : decode cX4_fault 33 = .ok (.iload_n 1, 1) := by decide +kernel
theorem dX4_fault_34 : decode cX4_fault 34 = .ok (.aaload, 1) := by decide +kernel
theorem dX4_fault_35 : decode cX4_fault 35 = .ok (.aload_n 0, 1) := by decide +kernel
theorem dX4_fault_36 : decode cX4_fault 36 = .ok (.getfield 23, 3) := by decide +kernel
theorem dX4_fault_39 : decode cX4_fault 39 = .ok (.iload_n 1, 1) := by decide +kernel
theorem dX4_fault_40 : decode cX4_fault 40 = .ok (.iaload, 1) := by decide +kernel
theorem dX4_fault_41 : decode cX4_fault 41 = .ok (.aload_n 0, 1) := by decide +kernel
theorem dX4_fault_42 : decode cX4_fault 42 = .ok (.getfield 40, 3) := by decide +kernel
theorem dX4_fault_45 : decode cX4_fault 45 = .ok (.invokevirtual 120, 3) := by decide +kernel
theorem dX4_fault_48 : decode cX4_fault 48 = .ok (.ireturn, 1) := by decide +kernel
theorem dX4_town_0 : decode cX4_town 0 = .ok (.iload_n 1, 1) := by decide +kernel
theorem dX4_town_1 : decode cX4_town 1 = .ok (.invokestatic 114, 3) := by decide +kernel
theorem dX4_town_4 : decode cX4_town 4 = .ok (.ifCond .ne 5, 3) := by decide +kernel
theorem dX4_town_7 : decode cX4_town 7 = .ok (.iconst (-1), 1) := by decide +kernel
theorem dX4_town_8 : decode cX4_town 8 = .ok (.ireturn, 1) := by decide +kernel
theorem dX4_town_9 : decode cX4_town 9 = .ok (.aload_n 0, 1) := by decide +kernel
theorem dX4_town_10 : decode cX4_town 10 = .ok (.getfield 23, 3) := by decide +kernel
theorem dX4_town_13 : decode cX4_town 13 = .ok (.iload_n 1, 1) := by decide +kernel
theorem dX4_town_14 : decode cX4_town 14 = .ok (.iaload, 1) := by decide +kernel
theorem dX4_town_15 : decode cX4_town 15 = .ok (.iconst (-1), 1) := by decide +kernel
theorem dX4_town_16 : decode cX4_town 16 = .ok (.if_icmp .ne 9, 3) := by decide +kernel
theorem dX4_town_19 : decode cX4_town 19 = .ok (.aload_n 0, 1) := by decide +kernel
theorem dX4_town_20 : decode cX4_town 20 = .ok (.iconst 1, 1) := by decide +kernel
theorem dX4_town_21 : decode cX4_town 21 = .ok (.invokevirtual 93, 3) := by decide +kernel
theorem dX4_town_24 : decode cX4_town 24 = .ok (.ireturn, 1) := by decide +kernel
theorem dX4_town_25 : decode cX4_town 25 = .ok (.aload_n 0, 1) := by decide +kernel
theorem dX4_town_26 : decode cX4_town 26 = .ok (.getfield 29, 3) := by decide +kernel
theorem dX4_town_29 : decode cX4_town 29 = .ok (.aload_n 0, 1) := by decide +kernel
theorem dX4_town_30 : decode cX4_town 30 = .ok (.getfield 20, 3) := by decide +kernel
theorem dX4_town_33 : decode cX4_town 33 = .ok (.iload_n 1, 1) := by decide +kernel
theorem dX4_town_34 : decode cX4_town 34 = .ok (.aaload, 1) := by decide +kernel
theorem dX4_town_35 : decode cX4_town 35 = .ok (.aload_n 0, 1) := by decide +kernel
theorem dX4_town_36 : decode cX4_town 36 = .ok (.getfield 23, 3) := by decide +kernel
theorem dX4_town_39 : decode cX4_town 39 = .ok (.iload_n 1, 1) := by decide +kernel
theorem dX4_town_40 : decode cX4_town 40 = .ok (.iaload, 1) := by decide +kernel
theorem dX4_town_41 : decode cX4_town 41 = .ok (.aload_n 0, 1) := by decide +kernel
theorem dX4_town_42 : decode cX4_town 42 = .ok (.getfield 40, 3) := by decide +kernel
theorem dX4_town_45 : decode cX4_town 45 = .ok (.invokevirtual 120, 3) := by decide +kernel
theorem dX4_town_48 : decode cX4_town 48 = .ok (.bipush (-9), 2) := by decide +kernel
theorem dX4_town_50 : decode cX4_town 50 = .ok (.if_icmp .eq 6, 3) := by decide +kernel
theorem dX4_town_53 : decode cX4_town 53 = .ok (.bipush (-4), 2) := by decide +kernel
theorem dX4_town_55 : decode cX4_town 55 = .ok (.ireturn, 1) := by decide +kernel
theorem dX4_town_56 : decode cX4_town 56 = .ok (.aload_n 0, 1) := by decide +kernel
theorem dX4_town_57 : decode cX4_town 57 = .ok (.getfield 36, 3) := by decide +kernel
theorem dX4_town_60 : decode cX4_town 60 = .ok (.aload_n 0, 1) := by decide +kernel
theorem dX4_town_61 : decode cX4_town 61 = .ok (.getfield 40, 3) := by decide +kernel
theorem dX4_town_64 : decode cX4_town 64 = .ok (.invokevirtual 124, 3) := by decide +kernel
theorem dX4_town_67 : decode cX4_town 67 = .ok (.aload_n 0, 1) := by decide +kernel
theorem dX4_town_68 : decode cX4_town 68 = .ok (.getfield 46, 3) := by decide +kernel
theorem dX4_town_71 : decode cX4_town 71 = .ok (.iconst 0, 1) := by decide +kernel
theorem dX4_town_72 : decode cX4_town 72 = .ok (.putfield 86, 3) := by decide +kernel
theorem dX4_town_75 : decode cX4_town 75 = .ok (.iconst 0, 1) := by decide +kernel
theorem dX4_town_76 : decode cX4_town 76 = .ok (.istore_n 2, 1) := by decide +kernel
theorem dX4_town_77 : decode cX4_town 77 = .ok (.iload_n 2, 1) := by decide +kernel
theorem dX4_town_78 : decode cX4_town 78 = .ok (.iconst 3, 1) := by decide +kernel
theorem dX4_town_79 : decode cX4_town 79 = .ok (.if_icmp .ge 19, 3) := by decide +kernel
theorem dX4_town_82 : decode cX4_town 82 = .ok (.aload_n 0, 1) := by decide +kernel
theorem dX4_town_83 : decode cX4_town 83 = .ok (.getfield 50, 3) := by decide +kernel
theorem dX4_town_86 : decode cX4_town 86 = .ok (.iload_n 2, 1) := by decide +kernel
theorem dX4_town_87 : decode cX4_town 87 = .ok (.aaload, 1) := by decide +kernel
theorem dX4_town_88 : decode cX4_town 88 = .ok (.iconst (-1), 1) := by decide +kernel
theorem dX4_town_89 : decode cX4_town 89 = .ok (.putfield 86, 3) := by decide +kernel
theorem dX4_town_92 : decode cX4_town 92 = .ok (.iinc 2 1, 3) := by decide +kernel
theorem dX4_town_95 : decode cX4_town 95 = .ok (.goto (-18), 3) := by decide +kernel
theorem dX4_town_98 : decode cX4_town 98 = .ok (.aload_n 0, 1) := by decide +kernel
theorem dX4_town_99 : decode cX4_town 99 = .ok (.getfield 36, 3) := by decide +kernel
theorem dX4_town_102 : decode cX4_town 102 = .ok (.getfield 128, 3) := by decide +kernel
theorem dX4_town_105 : decode cX4_town 105 = .ok (.ireturn, 1) := by decide +kernel
theorem dX4_pipe_0 : decode cX4_pipe 0 = .ok (.aload_n 0, 1) := by decide +kernel
theorem dX4_pipe_1 : decode cX4_pipe 1 = .ok (.getfield 36, 3) := by decide +kernel
theorem dX4_pipe_4 : decode cX4_pipe 4 = .ok (.iload_n 1, 1) := by decide +kernel
theorem dX4_pipe_5 : decode cX4_pipe 5 = .ok (.invokevirtual 131, 3) := by decide +kernel
theorem dX4_pipe_8 : decode cX4_pipe 8 = .ok (.ifCond .eq 13, 3) := by decide +kernel
theorem dX4_pipe_11 : decode cX4_pipe 11 = .ok (.iload_n 2, 1) := by decide +kernel
theorem dX4_pipe_12 : decode cX4_pipe 12 = .ok (.ifCond .lt 9, 3) := by decide +kernel
theorem dX4_pipe_15 : decode cX4_pipe 15 = .ok (.iload_n 2, 1) := by decide +kernel
theorem dX4_pipe_16 : decode cX4_pipe 16 = .ok (.bipush 8, 2) := by decide +kernel
theorem dX4_pipe_18 : decode cX4_pipe 18 = .ok (.if_icmp .lt 5, 3) := by decide +kernel
theorem dX4_pipe_21 : decode cX4_pipe 21 = .ok (.iconst (-1), 1) := by decide +kernel
theorem dX4_pipe_22 : decode cX4_pipe 22 = .ok (.ireturn, 1) := by decide +kernel
theorem dX4_pipe_23 : decode cX4_pipe 23 = .ok (.aload_n 0, 1) := by decide +kernel
theorem dX4_pipe_24 : decode cX4_pipe 24 = .ok (.aload_n 0, 1) := by decide +kernel
theorem dX4_pipe_25 : decode cX4_pipe 25 = .ok (.iload_n 1, 1) := by decide +kernel
theorem dX4_pipe_26 : decode cX4_pipe 26 = .ok (.iload_n 2, 1) := by decide +kernel
theorem dX4_pipe_27 : decode cX4_pipe 27 = .ok (.invokevirtual 134, 3) := by decide +kernel
theorem dX4_pipe_30 : decode cX4_pipe 30 = .ok (.invokevirtual 101, 3) := by decide +kernel
theorem dX4_pipe_33 : decode cX4_pipe 33 = .ok (.ireturn, 1) := by decide +kernel
theorem dX4_mark_0 : decode cX4_mark 0 = .ok (.aload_n 0, 1) := by decide +kernel
theorem dX4_mark_1 : decode cX4_mark 1 = .ok (.getfield 36, 3) := by decide +kernel
theorem dX4_mark_4 : decode cX4_mark 4 = .ok (.iload_n 1, 1) := by decide +kernel
theorem dX4_mark_5 : decode cX4_mark 5 = .ok (.invokevirtual 131, 3) := by decide +kernel
theorem dX4_mark_8 : decode cX4_mark 8 = .ok (.ifCond .eq 13, 3) := by decide +kernel
theorem dX4_mark_11 : decode cX4_mark 11 = .ok (.iload_n 2, 1) := by decide +kernel
theorem dX4_mark_12 : decode cX4_mark 12 = .ok (.ifCond .le 9, 3) := by decide +kernel
theorem dX4_mark_15 : decode cX4_mark 15 = .ok (.iload_n 2, 1) := by decide +kernel
theorem dX4_mark_16 : decode cX4_mark 16 = .ok (.bipush 6, 2) := by decide +kernel
theorem dX4_mark_18 : decode cX4_mark 18 = .ok (.if_icmp .lt 5, 3) := by decide +kernel
theorem dX4_mark_21 : decode cX4_mark 21 = .ok (.iconst (-1), 1) := by decide +kernel
theorem dX4_mark_22 : decode cX4_mark 22 = .ok (.ireturn, 1) := by decide +kernel
theorem dX4_mark_23 : decode cX4_mark 23 = .ok (.aload_n 0, 1) := by decide +kernel
theorem dX4_mark_24 : decode cX4_mark 24 = .ok (.getfield 36, 3) := by decide +kernel
theorem dX4_mark_27 : decode cX4_mark 27 = .ok (.getfield 139, 3) := by decide +kernel
theorem dX4_mark_30 : decode cX4_mark 30 = .ok (.iload_n 1, 1) := by decide +kernel
theorem dX4_mark_31 : decode cX4_mark 31 = .ok (.iaload, 1) := by decide +kernel
theorem dX4_mark_32 : decode cX4_mark 32 = .ok (.iload_n 2, 1) := by decide +kernel
theorem dX4_mark_33 : decode cX4_mark 33 = .ok (.invokestatic 142, 3) := by decide +kernel
theorem dX4_mark_36 : decode cX4_mark 36 = .ok (.ifCond .ne 9, 3) := by decide +kernel
theorem dX4_mark_39 : decode cX4_mark 39 = .ok (.aload_n 0, 1) := by decide +kernel
theorem dX4_mark_40 : decode cX4_mark 40 = .ok (.iconst 3, 1) := by decide +kernel
theorem dX4_mark_41 : decode cX4_mark 41 = .ok (.invokevirtual 93, 3) := by decide +kernel
theorem dX4_mark_44 : decode cX4_mark 44 = .ok (.ireturn, 1) := by decide +kernel
theorem dX4_mark_45 : decode cX4_mark 45 = .ok (.iload_n 2, 1) := by decide +kernel
theorem dX4_mark_46 : decode cX4_mark 46 = .ok (.tableswitch 95 1 4 #[30, 43, 65, 84], 30) := by decide +kernel
theorem dX4_mark_76 : decode cX4_mark 76 = .ok (.bipush 20, 2) := by decide +kernel
theorem dX4_mark_78 : decode cX4_mark 78 = .ok (.aload_n 0, 1) := by decide +kernel
theorem dX4_mark_79 : decode cX4_mark 79 = .ok (.getfield 36, 3) := by decide +kernel
theorem dX4_mark_82 : decode cX4_mark 82 = .ok (.getfield 146, 3) := by decide +kernel
theorem dX4_mark_85 : decode cX4_mark 85 = .ok (.iload_n 1, 1) := by decide +kernel
theorem dX4_mark_86 : decode cX4_mark 86 = .ok (.iaload, 1) := by decide +kernel
theorem dX4_mark_87 : decode cX4_mark 87 = .ok (.isub, 1) := by decide +kernel
theorem dX4_mark_88 : decode cX4_mark 88 = .ok (.ireturn, 1) := by decide +kernel
theorem dX4_mark_89 : decode cX4_mark 89 = .ok (.iconst 0, 1) := by decide +kernel
theorem dX4_mark_90 : decode cX4_mark 90 = .ok (.aload_n 0, 1) := by decide +kernel
theorem dX4_mark_91 : decode cX4_mark 91 = .ok (.getfield 36, 3) := by decide +kernel
theorem dX4_mark_94 : decode cX4_mark 94 = .ok (.getfield 149, 3) := by decide +kernel
theorem dX4_mark_97 : decode cX4_mark 97 = .ok (.iload_n 1, 1) := by decide +kernel
theorem dX4_mark_98 : decode cX4_mark 98 = .ok (.iaload, 1) := by decide +kernel
theorem dX4_mark_99 : decode cX4_mark 99 = .ok (.aload_n 0, 1) := by decide +kernel
theorem dX4_mark_100 : decode cX4_mark 100 = .ok (.getfield 36, 3) := by decide +kernel
theorem dX4_mark_103 : decode cX4_mark 103 = .ok (.getfield 152, 3) := by decide +kernel
theorem dX4_mark_106 : decode cX4_mark 106 = .ok (.isub, 1) := by decide +kernel
theorem dX4_mark_107 : decode cX4_mark 107 = .ok (.invokestatic 155, 3) := by decide +kernel
theorem dX4_mark_110 : decode cX4_mark 110 = .ok (.ireturn, 1) := by decide +kernel
theorem dX4_mark_111 : decode cX4_mark 111 = .ok (.aload_n 0, 1) := by decide +kernel
theorem dX4_mark_112 : decode cX4_mark 112 = .ok (.getfield 36, 3) := by decide +kernel
theorem dX4_mark_115 : decode cX4_mark 115 = .ok (.iload_n 1, 1) := by decide +kernel
theorem dX4_mark_116 : decode cX4_mark 116 = .ok (.invokevirtual 160, 3) := by decide +kernel
theorem dX4_mark_119 : decode cX4_mark 119 = .ok (.aload_n 0, 1) := by decide +kernel
theorem dX4_mark_120 : decode cX4_mark 120 = .ok (.getfield 36, 3) := by decide +kernel
theorem dX4_mark_123 : decode cX4_mark 123 = .ok (.getfield 149, 3) := by decide +kernel
theorem dX4_mark_126 : decode cX4_mark 126 = .ok (.iload_n 1, 1) := by decide +kernel
theorem dX4_mark_127 : decode cX4_mark 127 = .ok (.iaload, 1) := by decide +kernel
theorem dX4_mark_128 : decode cX4_mark 128 = .ok (.isub, 1) := by decide +kernel
theorem dX4_mark_129 : decode cX4_mark 129 = .ok (.ireturn, 1) := by decide +kernel
theorem dX4_mark_130 : decode cX4_mark 130 = .ok (.aload_n 0, 1) := by decide +kernel
theorem dX4_mark_131 : decode cX4_mark 131 = .ok (.getfield 36, 3) := by decide +kernel
theorem dX4_mark_134 : decode cX4_mark 134 = .ok (.getfield 163, 3) := by decide +kernel
theorem dX4_mark_137 : decode cX4_mark 137 = .ok (.invokestatic 166, 3) := by decide +kernel
theorem dX4_mark_140 : decode cX4_mark 140 = .ok (.ireturn, 1) := by decide +kernel
theorem dX4_mark_141 : decode cX4_mark 141 = .ok (.aload_n 0, 1) := by decide +kernel
theorem dX4_mark_142 : decode cX4_mark 142 = .ok (.iload_n 1, 1) := by decide +kernel
theorem dX4_mark_143 : decode cX4_mark 143 = .ok (.invokevirtual 169, 3) := by decide +kernel
theorem dX4_mark_146 : decode cX4_mark 146 = .ok (.ireturn, 1) := by decide +kernel
theorem dX4_hour_0 : decode cX4_hour 0 = .ok (.aload_n 0, 1) := by decide +kernel
theorem dX4_hour_1 : decode cX4_hour 1 = .ok (.getfield 36, 3) := by decide +kernel
theorem dX4_hour_4 : decode cX4_hour 4 = .ok (.getfield 128, 3) := by decide +kernel
theorem dX4_hour_7 : decode cX4_hour 7 = .ok (.ifCond .ne 6, 3) := by decide +kernel
theorem dX4_hour_10 : decode cX4_hour 10 = .ok (.bipush (-4), 2) := by decide +kernel
theorem dX4_hour_12 : decode cX4_hour 12 = .ok (.ireturn, 1) := by decide +kernel
theorem dX4_hour_13 : decode cX4_hour 13 = .ok (.aload_n 0, 1) := by decide +kernel
theorem dX4_hour_14 : decode cX4_hour 14 = .ok (.iconst 0, 1) := by decide +kernel
theorem dX4_hour_15 : decode cX4_hour 15 = .ok (.iconst 0, 1) := by decide +kernel
theorem dX4_hour_16 : decode cX4_hour 16 = .ok (.invokevirtual 172, 3) := by decide +kernel
theorem dX4_hour_19 : decode cX4_hour 19 = .ok (.ireturn, 1) := by decide +kernel
theorem dX4_pump_0 : decode cX4_pump 0 = .ok (.iload_n 1, 1) := by decide +kernel
theorem dX4_pump_1 : decode cX4_pump 1 = .ok (.ifCond .eq 15, 3) := by decide +kernel
theorem dX4_pump_4 : decode cX4_pump 4 = .ok (.iload_n 1, 1) := by decide +kernel
theorem dX4_pump_5 : decode cX4_pump 5 = .ok (.bipush (-9), 2) := by decide +kernel
theorem dX4_pump_7 : decode cX4_pump 7 = .ok (.if_icmp .lt 9, 3) := by decide +kernel
theorem dX4_pump_10 : decode cX4_pump 10 = .ok (.iload_n 1, 1) := by decide +kernel
theorem dX4_pump_11 : decode cX4_pump 11 = .ok (.bipush 9, 2) := by decide +kernel
theorem dX4_pump_13 : decode cX4_pump 13 = .ok (.if_icmp .le 5, 3) := by decide +kernel
theorem dX4_pump_16 : decode cX4_pump 16 = .ok (.iconst (-1), 1) := by decide +kernel
theorem dX4_pump_17 : decode cX4_pump 17 = .ok (.ireturn, 1) := by decide +kernel
theorem dX4_pump_18 : decode cX4_pump 18 = .ok (.aload_n 0, 1) := by decide +kernel
theorem dX4_pump_19 : decode cX4_pump 19 = .ok (.getfield 36, 3) := by decide +kernel
theorem dX4_pump_22 : decode cX4_pump 22 = .ok (.getfield 128, 3) := by decide +kernel
theorem dX4_pump_25 : decode cX4_pump 25 = .ok (.ifCond .eq 29, 3) := by decide +kernel
theorem dX4_pump_28 : decode cX4_pump 28 = .ok (.aload_n 0, 1) := by decide +kernel
theorem dX4_pump_29 : decode cX4_pump 29 = .ok (.getfield 36, 3) := by decide +kernel
theorem dX4_pump_32 : decode cX4_pump 32 = .ok (.getfield 152, 3) := by decide +kernel
theorem dX4_pump_35 : decode cX4_pump 35 = .ok (.iload_n 1, 1) := by decide +kernel
theorem dX4_pump_36 : decode cX4_pump 36 = .ok (.iadd, 1) := by decide +kernel
theorem dX4_pump_37 : decode cX4_pump 37 = .ok (.bipush 60, 2) := by decide +kernel
theorem dX4_pump_39 : decode cX4_pump 39 = .ok (.if_icmp .gt 15, 3) := by decide +kernel
theorem dX4_pump_42 : decode cX4_pump 42 = .ok (.aload_n 0, 1) := by decide +kernel
theorem dX4_pump_43 : decode cX4_pump 43 = .ok (.getfield 36, 3) := by decide +kernel
theorem dX4_pump_46 : decode cX4_pump 46 = .ok (.getfield 152, 3) := by decide +kernel
theorem dX4_pump_49 : decode cX4_pump 49 = .ok (.iload_n 1, 1) := by decide +kernel
theorem dX4_pump_50 : decode cX4_pump 50 = .ok (.iadd, 1) := by decide +kernel
theorem dX4_pump_51 : decode cX4_pump 51 = .ok (.ifCond .ge 6, 3) := by decide +kernel
theorem dX4_pump_54 : decode cX4_pump 54 = .ok (.bipush (-4), 2) := by decide +kernel
theorem dX4_pump_56 : decode cX4_pump 56 = .ok (.ireturn, 1) := by decide +kernel
theorem dX4_pump_57 : decode cX4_pump 57 = .ok (.aload_n 0, 1) := by decide +kernel
theorem dX4_pump_58 : decode cX4_pump 58 = .ok (.iconst 1, 1) := by decide +kernel
theorem dX4_pump_59 : decode cX4_pump 59 = .ok (.iload_n 1, 1) := by decide +kernel
theorem dX4_pump_60 : decode cX4_pump 60 = .ok (.invokevirtual 172, 3) := by decide +kernel
theorem dX4_pump_63 : decode cX4_pump 63 = .ok (.ireturn, 1) := by decide +kernel
theorem dX4_cut_0 : decode cX4_cut 0 = .ok (.aload_n 0, 1) := by decide +kernel
theorem dX4_cut_1 : decode cX4_cut 1 = .ok (.getfield 36, 3) := by decide +kernel
theorem dX4_cut_4 : decode cX4_cut 4 = .ok (.iload_n 1, 1) := by decide +kernel
theorem dX4_cut_5 : decode cX4_cut 5 = .ok (.invokevirtual 131, 3) := by decide +kernel
theorem dX4_cut_8 : decode cX4_cut 8 = .ok (.ifCond .eq 12, 3) := by decide +kernel
theorem dX4_cut_11 : decode cX4_cut 11 = .ok (.aload_n 0, 1) := by decide +kernel
theorem dX4_cut_12 : decode cX4_cut 12 = .ok (.iconst 2, 1) := by decide +kernel
theorem dX4_cut_13 : decode cX4_cut 13 = .ok (.iload_n 1, 1) := by decide +kernel
theorem dX4_cut_14 : decode cX4_cut 14 = .ok (.invokevirtual 172, 3) := by decide +kernel
theorem dX4_cut_17 : decode cX4_cut 17 = .ok (.goto 4, 3) := by decide +kernel
theorem dX4_cut_20 : decode cX4_cut 20 = .ok (.iconst (-1), 1) := by decide +kernel
theorem dX4_cut_21 : decode cX4_cut 21 = .ok (.ireturn, 1) := by decide +kernel
theorem dX4_leak_0 : decode cX4_leak 0 = .ok (.aload_n 0, 1) := by decide +kernel
theorem dX4_leak_1 : decode cX4_leak 1 = .ok (.getfield 36, 3) := by decide +kernel
theorem dX4_leak_4 : decode cX4_leak 4 = .ok (.iload_n 1, 1) := by decide +kernel
theorem dX4_leak_5 : decode cX4_leak 5 = .ok (.invokevirtual 131, 3) := by decide +kernel
theorem dX4_leak_8 : decode cX4_leak 8 = .ok (.ifCond .eq 12, 3) := by decide +kernel
theorem dX4_leak_11 : decode cX4_leak 11 = .ok (.aload_n 0, 1) := by decide +kernel
theorem dX4_leak_12 : decode cX4_leak 12 = .ok (.iconst 3, 1) := by decide +kernel
theorem dX4_leak_13 : decode cX4_leak 13 = .ok (.iload_n 1, 1) := by decide +kernel
theorem dX4_leak_14 : decode cX4_leak 14 = .ok (.invokevirtual 172, 3) := by decide +kernel
theorem dX4_leak_17 : decode cX4_leak 17 = .ok (.goto 4, 3) := by decide +kernel
theorem dX4_leak_20 : decode cX4_leak 20 = .ok (.iconst (-1), 1) := by decide +kernel
theorem dX4_leak_21 : decode cX4_leak 21 = .ok (.ireturn, 1) := by decide +kernel
theorem dX4_stroke_0 : decode cX4_stroke 0 = .ok (.iload_n 1, 1) := by decide +kernel
theorem dX4_stroke_1 : decode cX4_stroke 1 = .ok (.ifCond .lt 9, 3) := by decide +kernel
theorem dX4_stroke_4 : decode cX4_stroke 4 = .ok (.iload_n 1, 1) := by decide +kernel
theorem dX4_stroke_5 : decode cX4_stroke 5 = .ok (.bipush 10, 2) := by decide +kernel
theorem dX4_stroke_7 : decode cX4_stroke 7 = .ok (.if_icmp .lt 5, 3) := by decide +kernel
theorem dX4_stroke_10 : decode cX4_stroke 10 = .ok (.iconst (-1), 1) := by decide +kernel
theorem dX4_stroke_11 : decode cX4_stroke 11 = .ok (.ireturn, 1) := by decide +kernel
theorem dX4_stroke_12 : decode cX4_stroke 12 = .ok (.aload_n 0, 1) := by decide +kernel
theorem dX4_stroke_13 : decode cX4_stroke 13 = .ok (.getfield 36, 3) := by decide +kernel
theorem dX4_stroke_16 : decode cX4_stroke 16 = .ok (.getfield 128, 3) := by decide +kernel
theorem dX4_stroke_19 : decode cX4_stroke 19 = .ok (.ifCond .eq 14, 3) := by decide +kernel
theorem dX4_stroke_22 : decode cX4_stroke 22 = .ok (.aload_n 0, 1) := by decide +kernel
theorem dX4_stroke_23 : decode cX4_stroke 23 = .ok (.getfield 36, 3) := by decide +kernel
theorem dX4_stroke_26 : decode cX4_stroke 26 = .ok (.getfield 175, 3) := by decide +kernel
theorem dX4_stroke_29 : decode cX4_stroke 29 = .ok (.iload_n 1, 1) := by decide +kernel
theorem dX4_stroke_30 : decode cX4_stroke 30 = .ok (.if_icmp .ne 6, 3) := by decide +kernel
theorem dX4_stroke_33 : decode cX4_stroke 33 = .ok (.bipush (-4), 2) := by decide +kernel
theorem dX4_stroke_35 : decode cX4_stroke 35 = .ok (.ireturn, 1) := by decide +kernel
theorem dX4_stroke_36 : decode cX4_stroke 36 = .ok (.aload_n 0, 1) := by decide +kernel
theorem dX4_stroke_37 : decode cX4_stroke 37 = .ok (.iconst 4, 1) := by decide +kernel
theorem dX4_stroke_38 : decode cX4_stroke 38 = .ok (.iload_n 1, 1) := by decide +kernel
theorem dX4_stroke_39 : decode cX4_stroke 39 = .ok (.invokevirtual 172, 3) := by decide +kernel
theorem dX4_stroke_42 : decode cX4_stroke 42 = .ok (.ireturn, 1) := by decide +kernel
theorem dX4_undo_0 : decode cX4_undo 0 = .ok (.iload_n 1, 1) := by decide +kernel
theorem dX4_undo_1 : decode cX4_undo 1 = .ok (.ifCond .lt 14, 3) := by decide +kernel
theorem dX4_undo_4 : decode cX4_undo 4 = .ok (.iload_n 1, 1) := by decide +kernel
theorem dX4_undo_5 : decode cX4_undo 5 = .ok (.aload_n 0, 1) := by decide +kernel
theorem dX4_undo_6 : decode cX4_undo 6 = .ok (.getfield 46, 3) := by decide +kernel
theorem dX4_undo_9 : decode cX4_undo 9 = .ok (.getfield 86, 3) := by decide +kernel
theorem dX4_undo_12 : decode cX4_undo 12 = .ok (.if_icmp .le 5, 3) := by decide +kernel
theorem dX4_undo_15 : decode cX4_undo 15 = .ok (.iconst (-1), 1) := by decide +kernel
theorem dX4_undo_16 : decode cX4_undo 16 = .ok (.ireturn, 1) := by decide +kernel
theorem dX4_undo_17 : decode cX4_undo 17 = .ok (.aload_n 0, 1) := by decide +kernel
theorem dX4_undo_18 : decode cX4_undo 18 = .ok (.getfield 46, 3) := by decide +kernel
theorem dX4_undo_21 : decode cX4_undo 21 = .ok (.getfield 86, 3) := by decide +kernel
theorem dX4_undo_24 : decode cX4_undo 24 = .ok (.iload_n 1, 1) := by decide +kernel
theorem dX4_undo_25 : decode cX4_undo 25 = .ok (.isub, 1) := by decide +kernel
theorem dX4_undo_26 : decode cX4_undo 26 = .ok (.istore_n 2, 1) := by decide +kernel
theorem dX4_undo_27 : decode cX4_undo 27 = .ok (.aload_n 0, 1) := by decide +kernel
theorem dX4_undo_28 : decode cX4_undo 28 = .ok (.getfield 46, 3) := by decide +kernel
theorem dX4_undo_31 : decode cX4_undo 31 = .ok (.iload_n 1, 1) := by decide +kernel
theorem dX4_undo_32 : decode cX4_undo 32 = .ok (.putfield 86, 3) := by decide +kernel
theorem dX4_undo_35 : decode cX4_undo 35 = .ok (.aload_n 0, 1) := by decide +kernel
theorem dX4_undo_36 : decode cX4_undo 36 = .ok (.getfield 36, 3) := by decide +kernel
theorem dX4_undo_39 : decode cX4_undo 39 = .ok (.aload_n 0, 1) := by decide +kernel
theorem dX4_undo_40 : decode cX4_undo 40 = .ok (.getfield 46, 3) := by decide +kernel
theorem dX4_undo_43 : decode cX4_undo 43 = .ok (.invokevirtual 178, 3) := by decide +kernel
theorem dX4_undo_46 : decode cX4_undo 46 = .ok (.iload_n 2, 1) := by decide +kernel
theorem dX4_undo_47 : decode cX4_undo 47 = .ok (.ireturn, 1) := by decide +kernel
theorem dX4_keep_0 : decode cX4_keep 0 = .ok (.iload_n 1, 1) := by decide +kernel
theorem dX4_keep_1 : decode cX4_keep 1 = .ok (.invokestatic 182, 3) := by decide +kernel
theorem dX4_keep_4 : decode cX4_keep 4 = .ok (.ifCond .ne 5, 3) := by decide +kernel
theorem dX4_keep_7 : decode cX4_keep 7 = .ok (.iconst (-1), 1) := by decide +kernel
theorem dX4_keep_8 : decode cX4_keep 8 = .ok (.ireturn, 1) := by decide +kernel
theorem dX4_keep_9 : decode cX4_keep 9 = .ok (.aload_n 0, 1) := by decide +kernel
theorem dX4_keep_10 : decode cX4_keep 10 = .ok (.getfield 36, 3) := by decide +kernel
theorem dX4_keep_13 : decode cX4_keep 13 = .ok (.getfield 128, 3) := by decide +kernel
theorem dX4_keep_16 : decode cX4_keep 16 = .ok (.ifCond .ne 6, 3) := by decide +kernel
theorem dX4_keep_19 : decode cX4_keep 19 = .ok (.bipush (-4), 2) := by decide +kernel
theorem dX4_keep_21 : decode cX4_keep 21 = .ok (.ireturn, 1) := by decide +kernel
theorem dX4_keep_22 : decode cX4_keep 22 = .ok (.aload_n 0, 1) := by decide +kernel
theorem dX4_keep_23 : decode cX4_keep 23 = .ok (.getfield 50, 3) := by decide +kernel
theorem dX4_keep_26 : decode cX4_keep 26 = .ok (.iload_n 1, 1) := by decide +kernel
theorem dX4_keep_27 : decode cX4_keep 27 = .ok (.aaload, 1) := by decide +kernel
theorem dX4_keep_28 : decode cX4_keep 28 = .ok (.aload_n 0, 1) := by decide +kernel
theorem dX4_keep_29 : decode cX4_keep 29 = .ok (.getfield 46, 3) := by decide +kernel
theorem dX4_keep_32 : decode cX4_keep 32 = .ok (.invokevirtual 185, 3) := by decide +kernel
theorem dX4_keep_35 : decode cX4_keep 35 = .ok (.aload_n 0, 1) := by decide +kernel
theorem dX4_keep_36 : decode cX4_keep 36 = .ok (.getfield 46, 3) := by decide +kernel
theorem dX4_keep_39 : decode cX4_keep 39 = .ok (.getfield 86, 3) := by decide +kernel
theorem dX4_keep_42 : decode cX4_keep 42 = .ok (.ireturn, 1) := by decide +kernel
theorem dX4_on_0 : decode cX4_on 0 = .ok (.iload_n 1, 1) := by decide +kernel
theorem dX4_on_1 : decode cX4_on 1 = .ok (.invokestatic 182, 3) := by decide +kernel
theorem dX4_on_4 : decode cX4_on 4 = .ok (.ifCond .ne 5, 3) := by decide +kernel
theorem dX4_on_7 : decode cX4_on 7 = .ok (.iconst (-1), 1) := by decide +kernel
theorem dX4_on_8 : decode cX4_on 8 = .ok (.ireturn, 1) := by decide +kernel
theorem dX4_on_9 : decode cX4_on 9 = .ok (.aload_n 0, 1) := by decide +kernel
theorem dX4_on_10 : decode cX4_on 10 = .ok (.getfield 50, 3) := by decide +kernel
theorem dX4_on_13 : decode cX4_on 13 = .ok (.iload_n 1, 1) := by decide +kernel
theorem dX4_on_14 : decode cX4_on 14 = .ok (.aaload, 1) := by decide +kernel
theorem dX4_on_15 : decode cX4_on 15 = .ok (.getfield 86, 3) := by decide +kernel
theorem dX4_on_18 : decode cX4_on 18 = .ok (.iconst (-1), 1) := by decide +kernel
theorem dX4_on_19 : decode cX4_on 19 = .ok (.if_icmp .ne 9, 3) := by decide +kernel
theorem dX4_on_22 : decode cX4_on 22 = .ok (.aload_n 0, 1) := by decide +kernel
theorem dX4_on_23 : decode cX4_on 23 = .ok (.iconst 1, 1) := by decide +kernel
theorem dX4_on_24 : decode cX4_on 24 = .ok (.invokevirtual 93, 3) := by decide +kernel
theorem dX4_on_27 : decode cX4_on 27 = .ok (.ireturn, 1) := by decide +kernel
theorem dX4_on_28 : decode cX4_on 28 = .ok (.aload_n 0, 1) := by decide +kernel
theorem dX4_on_29 : decode cX4_on 29 = .ok (.getfield 46, 3) := by decide +kernel
theorem dX4_on_32 : decode cX4_on 32 = .ok (.aload_n 0, 1) := by decide +kernel
theorem dX4_on_33 : decode cX4_on 33 = .ok (.getfield 50, 3) := by decide +kernel
theorem dX4_on_36 : decode cX4_on 36 = .ok (.iload_n 1, 1) := by decide +kernel
theorem dX4_on_37 : decode cX4_on 37 = .ok (.aaload, 1) := by decide +kernel
theorem dX4_on_38 : decode cX4_on 38 = .ok (.invokevirtual 185, 3) := by decide +kernel
theorem dX4_on_41 : decode cX4_on 41 = .ok (.aload_n 0, 1) := by decide +kernel
theorem dX4_on_42 : decode cX4_on 42 = .ok (.getfield 36, 3) := by decide +kernel
theorem dX4_on_45 : decode cX4_on 45 = .ok (.aload_n 0, 1) := by decide +kernel
theorem dX4_on_46 : decode cX4_on 46 = .ok (.getfield 46, 3) := by decide +kernel
theorem dX4_on_49 : decode cX4_on 49 = .ok (.invokevirtual 178, 3) := by decide +kernel
theorem dX4_on_52 : decode cX4_on 52 = .ok (.aload_n 0, 1) := by decide +kernel
theorem dX4_on_53 : decode cX4_on 53 = .ok (.getfield 46, 3) := by decide +kernel
theorem dX4_on_56 : decode cX4_on 56 = .ok (.getfield 86, 3) := by decide +kernel
theorem dX4_on_59 : decode cX4_on 59 = .ok (.ireturn, 1) := by decide +kernel
theorem dX4_wants_0 : decode cX4_wants 0 = .ok (.aload_n 0, 1) := by decide +kernel
theorem dX4_wants_1 : decode cX4_wants 1 = .ok (.getfield 36, 3) := by decide +kernel
theorem dX4_wants_4 : decode cX4_wants 4 = .ok (.iload_n 1, 1) := by decide +kernel
theorem dX4_wants_5 : decode cX4_wants 5 = .ok (.invokevirtual 131, 3) := by decide +kernel
theorem dX4_wants_8 : decode cX4_wants 8 = .ok (.ifCond .eq 24, 3) := by decide +kernel
theorem dX4_wants_11 : decode cX4_wants 11 = .ok (.iload_n 2, 1) := by decide +kernel
theorem dX4_wants_12 : decode cX4_wants 12 = .ok (.iconst 1, 1) := by decide +kernel
theorem dX4_wants_13 : decode cX4_wants 13 = .ok (.if_icmp .lt 19, 3) := by decide +kernel
theorem dX4_wants_16 : decode cX4_wants 16 = .ok (.iload_n 2, 1) := by decide +kernel
theorem dX4_wants_17 : decode cX4_wants 17 = .ok (.bipush 9, 2) := by decide +kernel
theorem dX4_wants_19 : decode cX4_wants 19 = .ok (.if_icmp .gt 13, 3) := by decide +kernel
theorem dX4_wants_22 : decode cX4_wants 22 = .ok (.iload_n 3, 1) := by decide +kernel
theorem dX4_wants_23 : decode cX4_wants 23 = .ok (.ifCond .lt 9, 3) := by decide +kernel
theorem dX4_wants_26 : decode cX4_wants 26 = .ok (.iload_n 3, 1) := by decide +kernel
theorem dX4_wants_27 : decode cX4_wants 27 = .ok (.bipush 99, 2) := by decide +kernel
theorem dX4_wants_29 : decode cX4_wants 29 = .ok (.if_icmp .le 5, 3) := by decide +kernel
theorem dX4_wants_32 : decode cX4_wants 32 = .ok (.iconst (-1), 1) := by decide +kernel
theorem dX4_wants_33 : decode cX4_wants 33 = .ok (.ireturn, 1) := by decide +kernel
theorem dX4_wants_34 : decode cX4_wants 34 = .ok (.aload_n 0, 1) := by decide +kernel
theorem dX4_wants_35 : decode cX4_wants 35 = .ok (.getfield 36, 3) := by decide +kernel
theorem dX4_wants_38 : decode cX4_wants 38 = .ok (.getfield 139, 3) := by decide +kernel
theorem dX4_wants_41 : decode cX4_wants 41 = .ok (.iload_n 1, 1) := by decide +kernel
theorem dX4_wants_42 : decode cX4_wants 42 = .ok (.iaload, 1) := by decide +kernel
theorem dX4_wants_43 : decode cX4_wants 43 = .ok (.iload_n 2, 1) := by decide +kernel
theorem dX4_wants_44 : decode cX4_wants 44 = .ok (.iload_n 3, 1) := by decide +kernel
theorem dX4_wants_45 : decode cX4_wants 45 = .ok (.invokestatic 187, 3) := by decide +kernel
theorem dX4_wants_48 : decode cX4_wants 48 = .ok (.ireturn, 1) := by decide +kernel
theorem dX4_air_0 : decode cX4_air 0 = .ok (.iload_n 1, 1) := by decide +kernel
theorem dX4_air_1 : decode cX4_air 1 = .ok (.ifCond .lt 9, 3) := by decide +kernel
theorem dX4_air_4 : decode cX4_air 4 = .ok (.iload_n 1, 1) := by decide +kernel
theorem dX4_air_5 : decode cX4_air 5 = .ok (.bipush 40, 2) := by decide +kernel
theorem dX4_air_7 : decode cX4_air 7 = .ok (.if_icmp .le 5, 3) := by decide +kernel
theorem dX4_air_10 : decode cX4_air 10 = .ok (.iconst (-1), 1) := by decide +kernel
theorem dX4_air_11 : decode cX4_air 11 = .ok (.ireturn, 1) := by decide +kernel
theorem dX4_air_12 : decode cX4_air 12 = .ok (.aload_n 0, 1) := by decide +kernel
theorem dX4_air_13 : decode cX4_air 13 = .ok (.getfield 36, 3) := by decide +kernel
theorem dX4_air_16 : decode cX4_air 16 = .ok (.getfield 128, 3) := by decide +kernel
theorem dX4_air_19 : decode cX4_air 19 = .ok (.ifCond .ne 6, 3) := by decide +kernel
theorem dX4_air_22 : decode cX4_air 22 = .ok (.bipush (-4), 2) := by decide +kernel
theorem dX4_air_24 : decode cX4_air 24 = .ok (.ireturn, 1) := by decide +kernel
theorem dX4_air_25 : decode cX4_air 25 = .ok (.aload_n 0, 1) := by decide +kernel
theorem dX4_air_26 : decode cX4_air 26 = .ok (.getfield 40, 3) := by decide +kernel
theorem dX4_air_29 : decode cX4_air 29 = .ok (.aload_n 0, 1) := by decide +kernel
theorem dX4_air_30 : decode cX4_air 30 = .ok (.getfield 36, 3) := by decide +kernel
theorem dX4_air_33 : decode cX4_air 33 = .ok (.invokevirtual 124, 3) := by decide +kernel
theorem dX4_air_36 : decode cX4_air 36 = .ok (.iconst 0, 1) := by decide +kernel
theorem dX4_air_37 : decode cX4_air 37 = .ok (.istore_n 2, 1) := by decide +kernel
theorem dX4_air_38 : decode cX4_air 38 = .ok (.iconst 0, 1) := by decide +kernel
theorem dX4_air_39 : decode cX4_air 39 = .ok (.istore_n 3, 1) := by decide +kernel
theorem dX4_air_40 : decode cX4_air 40 = .ok (.iload_n 3, 1) := by decide +kernel
theorem dX4_air_41 : decode cX4_air 41 = .ok (.iload_n 1, 1) := by decide +kernel
theorem dX4_air_42 : decode cX4_air 42 = .ok (.if_icmp .ge 17, 3) := by decide +kernel
theorem dX4_air_45 : decode cX4_air 45 = .ok (.aload_n 0, 1) := by decide +kernel
theorem dX4_air_46 : decode cX4_air 46 = .ok (.getfield 40, 3) := by decide +kernel
theorem dX4_air_49 : decode cX4_air 49 = .ok (.invokevirtual 191, 3) := by decide +kernel
theorem dX4_air_52 : decode cX4_air 52 = .ok (.istore_n 2, 1) := by decide +kernel
theorem dX4_air_53 : decode cX4_air 53 = .ok (.iinc 3 1, 3) := by decide +kernel
theorem dX4_air_56 : decode cX4_air 56 = .ok (.goto (-16), 3) := by decide +kernel
theorem dX4_air_59 : decode cX4_air 59 = .ok (.aload_n 0, 1) := by decide +kernel
theorem dX4_air_60 : decode cX4_air 60 = .ok (.iload_n 2, 1) := by decide +kernel
theorem dX4_air_61 : decode cX4_air 61 = .ok (.invokevirtual 101, 3) := by decide +kernel
theorem dX4_air_64 : decode cX4_air 64 = .ok (.pop, 1) := by decide +kernel
theorem dX4_air_65 : decode cX4_air 65 = .ok (.aload_n 0, 1) := by decide +kernel
theorem dX4_air_66 : decode cX4_air 66 = .ok (.getfield 40, 3) := by decide +kernel
theorem dX4_air_69 : decode cX4_air 69 = .ok (.getfield 152, 3) := by decide +kernel
theorem dX4_air_72 : decode cX4_air 72 = .ok (.ireturn, 1) := by decide +kernel
theorem dX4_says_0 : decode cX4_says 0 = .ok (.aload_n 0, 1) := by decide +kernel
theorem dX4_says_1 : decode cX4_says 1 = .ok (.getfield 36, 3) := by decide +kernel
theorem dX4_says_4 : decode cX4_says 4 = .ok (.iload_n 1, 1) := by decide +kernel
theorem dX4_says_5 : decode cX4_says 5 = .ok (.invokevirtual 131, 3) := by decide +kernel
theorem dX4_says_8 : decode cX4_says 8 = .ok (.ifCond .eq 13, 3) := by decide +kernel
theorem dX4_says_11 : decode cX4_says 11 = .ok (.iload_n 2, 1) := by decide +kernel
theorem dX4_says_12 : decode cX4_says 12 = .ok (.ifCond .lt 9, 3) := by decide +kernel
theorem dX4_says_15 : decode cX4_says 15 = .ok (.iload_n 2, 1) := by decide +kernel
theorem dX4_says_16 : decode cX4_says 16 = .ok (.bipush 40, 2) := by decide +kernel
theorem dX4_says_18 : decode cX4_says 18 = .ok (.if_icmp .le 5, 3) := by decide +kernel
theorem dX4_says_21 : decode cX4_says 21 = .ok (.iconst (-1), 1) := by decide +kernel
theorem dX4_says_22 : decode cX4_says 22 = .ok (.ireturn, 1) := by decide +kernel
theorem dX4_says_23 : decode cX4_says 23 = .ok (.aload_n 0, 1) := by decide +kernel
theorem dX4_says_24 : decode cX4_says 24 = .ok (.getfield 40, 3) := by decide +kernel
theorem dX4_says_27 : decode cX4_says 27 = .ok (.aload_n 0, 1) := by decide +kernel
theorem dX4_says_28 : decode cX4_says 28 = .ok (.getfield 36, 3) := by decide +kernel
theorem dX4_says_31 : decode cX4_says 31 = .ok (.invokevirtual 124, 3) := by decide +kernel
theorem dX4_says_34 : decode cX4_says 34 = .ok (.iconst 0, 1) := by decide +kernel
theorem dX4_says_35 : decode cX4_says 35 = .ok (.istore_n 3, 1) := by decide +kernel
theorem dX4_says_36 : decode cX4_says 36 = .ok (.iload_n 3, 1) := by decide +kernel
theorem dX4_says_37 : decode cX4_says 37 = .ok (.iload_n 2, 1) := by decide +kernel
theorem dX4_says_38 : decode cX4_says 38 = .ok (.if_icmp .ge 17, 3) := by decide +kernel
theorem dX4_says_41 : decode cX4_says 41 = .ok (.aload_n 0, 1) := by decide +kernel
theorem dX4_says_42 : decode cX4_says 42 = .ok (.getfield 40, 3) := by decide +kernel
theorem dX4_says_45 : decode cX4_says 45 = .ok (.invokevirtual 191, 3) := by decide +kernel
theorem dX4_says_48 : decode cX4_says 48 = .ok (.pop, 1) := by decide +kernel
theorem dX4_says_49 : decode cX4_says 49 = .ok (.iinc 3 1, 3) := by decide +kernel
theorem dX4_says_52 : decode cX4_says 52 = .ok (.goto (-16), 3) := by decide +kernel
theorem dX4_says_55 : decode cX4_says 55 = .ok (.aload_n 0, 1) := by decide +kernel
theorem dX4_says_56 : decode cX4_says 56 = .ok (.getfield 40, 3) := by decide +kernel
theorem dX4_says_59 : decode cX4_says 59 = .ok (.getfield 195, 3) := by decide +kernel
theorem dX4_says_62 : decode cX4_says 62 = .ok (.iload_n 1, 1) := by decide +kernel
theorem dX4_says_63 : decode cX4_says 63 = .ok (.iaload, 1) := by decide +kernel
theorem dX4_says_64 : decode cX4_says 64 = .ok (.aload_n 0, 1) := by decide +kernel
theorem dX4_says_65 : decode cX4_says 65 = .ok (.getfield 36, 3) := by decide +kernel
theorem dX4_says_68 : decode cX4_says 68 = .ok (.getfield 195, 3) := by decide +kernel
theorem dX4_says_71 : decode cX4_says 71 = .ok (.iload_n 1, 1) := by decide +kernel
theorem dX4_says_72 : decode cX4_says 72 = .ok (.iaload, 1) := by decide +kernel
theorem dX4_says_73 : decode cX4_says 73 = .ok (.isub, 1) := by decide +kernel
theorem dX4_says_74 : decode cX4_says 74 = .ok (.ireturn, 1) := by decide +kernel
theorem dX4_first_0 : decode cX4_first 0 = .ok (.aload_n 0, 1) := by decide +kernel
theorem dX4_first_1 : decode cX4_first 1 = .ok (.getfield 36, 3) := by decide +kernel
theorem dX4_first_4 : decode cX4_first 4 = .ok (.iload_n 1, 1) := by decide +kernel
theorem dX4_first_5 : decode cX4_first 5 = .ok (.invokevirtual 131, 3) := by decide +kernel
theorem dX4_first_8 : decode cX4_first 8 = .ok (.ifCond .ne 5, 3) := by decide +kernel
theorem dX4_first_11 : decode cX4_first 11 = .ok (.iconst (-1), 1) := by decide +kernel
theorem dX4_first_12 : decode cX4_first 12 = .ok (.ireturn, 1) := by decide +kernel
theorem dX4_first_13 : decode cX4_first 13 = .ok (.aload_n 0, 1) := by decide +kernel
theorem dX4_first_14 : decode cX4_first 14 = .ok (.getfield 40, 3) := by decide +kernel
theorem dX4_first_17 : decode cX4_first 17 = .ok (.aload_n 0, 1) := by decide +kernel
theorem dX4_first_18 : decode cX4_first 18 = .ok (.getfield 36, 3) := by decide +kernel
theorem dX4_first_21 : decode cX4_first 21 = .ok (.invokevirtual 124, 3) := by decide +kernel
theorem dX4_first_24 : decode cX4_first 24 = .ok (.iconst 1, 1) := by decide +kernel
theorem dX4_first_25 : decode cX4_first 25 = .ok (.istore_n 2, 1) := by decide +kernel
theorem dX4_first_26 : decode cX4_first 26 = .ok (.iload_n 2, 1) := by decide +kernel
theorem dX4_first_27 : decode cX4_first 27 = .ok (.bipush 40, 2) := by decide +kernel
theorem dX4_first_29 : decode cX4_first 29 = .ok (.if_icmp .gt 25, 3) := by decide +kernel
theorem dX4_first_32 : decode cX4_first 32 = .ok (.aload_n 0, 1) := by decide +kernel
theorem dX4_first_33 : decode cX4_first 33 = .ok (.getfield 40, 3) := by decide +kernel
theorem dX4_first_36 : decode cX4_first 36 = .ok (.invokevirtual 191, 3) := by decide +kernel
theorem dX4_first_39 : decode cX4_first 39 = .ok (.iload_n 1, 1) := by decide +kernel
theorem dX4_first_40 : decode cX4_first 40 = .ok (.invokestatic 198, 3) := by decide +kernel
theorem dX4_first_43 : decode cX4_first 43 = .ok (.ifCond .eq 5, 3) := by decide +kernel
theorem dX4_first_46 : decode cX4_first 46 = .ok (.iload_n 2, 1) := by decide +kernel
theorem dX4_first_47 : decode cX4_first 47 = .ok (.ireturn, 1) := by decide +kernel
theorem dX4_first_48 : decode cX4_first 48 = .ok (.iinc 2 1, 3) := by decide +kernel
theorem dX4_first_51 : decode cX4_first 51 = .ok (.goto (-25), 3) := by decide +kernel
theorem dX4_first_54 : decode cX4_first 54 = .ok (.bipush (-9), 2) := by decide +kernel
theorem dX4_first_56 : decode cX4_first 56 = .ok (.ireturn, 1) := by decide +kernel
theorem dX4_hush_0 : decode cX4_hush 0 = .ok (.aload_n 0, 1) := by decide +kernel
theorem dX4_hush_1 : decode cX4_hush 1 = .ok (.getfield 36, 3) := by decide +kernel
theorem dX4_hush_4 : decode cX4_hush 4 = .ok (.iload_n 1, 1) := by decide +kernel
theorem dX4_hush_5 : decode cX4_hush 5 = .ok (.invokevirtual 131, 3) := by decide +kernel
theorem dX4_hush_8 : decode cX4_hush 8 = .ok (.ifCond .ne 5, 3) := by decide +kernel
theorem dX4_hush_11 : decode cX4_hush 11 = .ok (.iconst (-1), 1) := by decide +kernel
theorem dX4_hush_12 : decode cX4_hush 12 = .ok (.ireturn, 1) := by decide +kernel
theorem dX4_hush_13 : decode cX4_hush 13 = .ok (.aload_n 0, 1) := by decide +kernel
theorem dX4_hush_14 : decode cX4_hush 14 = .ok (.getfield 36, 3) := by decide +kernel
theorem dX4_hush_17 : decode cX4_hush 17 = .ok (.invokevirtual 201, 3) := by decide +kernel
theorem dX4_hush_20 : decode cX4_hush 20 = .ok (.aload_n 0, 1) := by decide +kernel
theorem dX4_hush_21 : decode cX4_hush 21 = .ok (.getfield 36, 3) := by decide +kernel
theorem dX4_hush_24 : decode cX4_hush 24 = .ok (.getfield 204, 3) := by decide +kernel
theorem dX4_hush_27 : decode cX4_hush 27 = .ok (.iconst (-1), 1) := by decide +kernel
theorem dX4_hush_28 : decode cX4_hush 28 = .ok (.ixor, 1) := by decide +kernel
theorem dX4_hush_29 : decode cX4_hush 29 = .ok (.iand, 1) := by decide +kernel
theorem dX4_hush_30 : decode cX4_hush 30 = .ok (.iconst 1, 1) := by decide +kernel
theorem dX4_hush_31 : decode cX4_hush 31 = .ok (.iload_n 1, 1) := by decide +kernel
theorem dX4_hush_32 : decode cX4_hush 32 = .ok (.ishl, 1) := by decide +kernel
theorem dX4_hush_33 : decode cX4_hush 33 = .ok (.iconst (-1), 1) := by decide +kernel
theorem dX4_hush_34 : decode cX4_hush 34 = .ok (.ixor, 1) := by decide +kernel
theorem dX4_hush_35 : decode cX4_hush 35 = .ok (.iand, 1) := by decide +kernel
theorem dX4_hush_36 : decode cX4_hush 36 = .ok (.istore_n 2, 1) := by decide +kernel
theorem dX4_hush_37 : decode cX4_hush 37 = .ok (.bipush (-9), 2) := by decide +kernel
theorem dX4_hush_39 : decode cX4_hush 39 = .ok (.istore_n 3, 1) := by decide +kernel
theorem dX4_hush_40 : decode cX4_hush 40 = .ok (.bipush (-9), 2) := by decide +kernel
theorem dX4_hush_42 : decode cX4_hush 42 = .ok (.istore 4, 2) := by decide +kernel
theorem dX4_hush_44 : decode cX4_hush 44 = .ok (.iconst 0, 1) := by decide +kernel
theorem dX4_hush_45 : decode cX4_hush 45 = .ok (.istore 5, 2) := by decide +kernel
theorem dX4_hush_47 : decode cX4_hush 47 = .ok (.iload 5, 2) := by decide +kernel
theorem dX4_hush_49 : decode cX4_hush 49 = .ok (.iload_n 2, 1) := by decide +kernel
theorem dX4_hush_50 : decode cX4_hush 50 = .ok (.if_icmp .gt 77, 3) := by decide +kernel
theorem dX4_hush_53 : decode cX4_hush 53 = .ok (.iload 5, 2) := by decide +kernel
theorem dX4_hush_55 : decode cX4_hush 55 = .ok (.invokestatic 207, 3) := by decide +kernel
theorem dX4_hush_58 : decode cX4_hush 58 = .ok (.istore 6, 2) := by decide +kernel
theorem dX4_hush_60 : decode cX4_hush 60 = .ok (.iload_n 3, 1) := by decide +kernel
theorem dX4_hush_61 : decode cX4_hush 61 = .ok (.bipush (-9), 2) := by decide +kernel
theorem dX4_hush_63 : decode cX4_hush 63 = .ok (.if_icmp .eq 9, 3) := by decide +kernel
theorem dX4_hush_66 : decode cX4_hush 66 = .ok (.iload 6, 2) := by decide +kernel
