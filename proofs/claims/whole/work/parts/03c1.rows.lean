theorem dX3_cutOffSet_15 : decode cX3_cutOffSet 15 = .ok (.aload_n 0, 1) := by decide +kernel
theorem dX3_cutOffSet_16 : decode cX3_cutOffSet 16 = .ok (.getfield 38, 3) := by decide +kernel
theorem dX3_cutOffSet_19 : decode cX3_cutOffSet 19 = .ok (.iload_n 2, 1) := by decide +kernel
theorem dX3_cutOffSet_20 : decode cX3_cutOffSet 20 = .ok (.iaload, 1) := by decide +kernel
theorem dX3_cutOffSet_21 : decode cX3_cutOffSet 21 = .ok (.ifCond .lt 22, 3) := by decide +kernel
theorem dX3_cutOffSet_24 : decode cX3_cutOffSet 24 = .ok (.iload_n 1, 1) := by decide +kernel
theorem dX3_cutOffSet_25 : decode cX3_cutOffSet 25 = .ok (.aload_n 0, 1) := by decide +kernel
theorem dX3_cutOffSet_26 : decode cX3_cutOffSet 26 = .ok (.getfield 38, 3) := by decide +kernel
theorem dX3_cutOffSet_29 : decode cX3_cutOffSet 29 = .ok (.iload_n 2, 1) := by decide +kernel
theorem dX3_cutOffSet_30 : decode cX3_cutOffSet 30 = .ok (.iaload, 1) := by decide +kernel
theorem dX3_cutOffSet_31 : decode cX3_cutOffSet 31 = .ok (.invokestatic 92, 3) := by decide +kernel
theorem dX3_cutOffSet_34 : decode cX3_cutOffSet 34 = .ok (.ifCond .eq 9, 3) := by decide +kernel
theorem dX3_cutOffSet_37 : decode cX3_cutOffSet 37 = .ok (.iload_n 1, 1) := by decide +kernel
theorem dX3_cutOffSet_38 : decode cX3_cutOffSet 38 = .ok (.iconst 1, 1) := by decide +kernel
theorem dX3_cutOffSet_39 : decode cX3_cutOffSet 39 = .ok (.iload_n 2, 1) := by decide +kernel
theorem dX3_cutOffSet_40 : decode cX3_cutOffSet 40 = .ok (.ishl, 1) := by decide +kernel
theorem dX3_cutOffSet_41 : decode cX3_cutOffSet 41 = .ok (.ior, 1) := by decide +kernel
theorem dX3_cutOffSet_42 : decode cX3_cutOffSet 42 = .ok (.istore_n 1, 1) := by decide +kernel
theorem dX3_cutOffSet_43 : decode cX3_cutOffSet 43 = .ok (.iinc 2 1, 3) := by decide +kernel
theorem dX3_cutOffSet_46 : decode cX3_cutOffSet 46 = .ok (.goto (-39), 3) := by decide +kernel
theorem dX3_cutOffSet_49 : decode cX3_cutOffSet 49 = .ok (.iload_n 1, 1) := by decide +kernel
theorem dX3_cutOffSet_50 : decode cX3_cutOffSet 50 = .ok (.ireturn, 1) := by decide +kernel
theorem dX3_wantNext_0 : decode cX3_wantNext 0 = .ok (.aload_n 0, 1) := by decide +kernel
theorem dX3_wantNext_1 : decode cX3_wantNext 1 = .ok (.getfield 34, 3) := by decide +kernel
theorem dX3_wantNext_4 : decode cX3_wantNext 4 = .ok (.iload_n 1, 1) := by decide +kernel
theorem dX3_wantNext_5 : decode cX3_wantNext 5 = .ok (.iaload, 1) := by decide +kernel
theorem dX3_wantNext_6 : decode cX3_wantNext 6 = .ok (.aload_n 0, 1) := by decide +kernel
theorem dX3_wantNext_7 : decode cX3_wantNext 7 = .ok (.getfield 41, 3) := by decide +kernel
theorem dX3_wantNext_10 : decode cX3_wantNext 10 = .ok (.iload_n 1, 1) := by decide +kernel
theorem dX3_wantNext_11 : decode cX3_wantNext 11 = .ok (.iaload, 1) := by decide +kernel
theorem dX3_wantNext_12 : decode cX3_wantNext 12 = .ok (.aload_n 0, 1) := by decide +kernel
theorem dX3_wantNext_13 : decode cX3_wantNext 13 = .ok (.getfield 25, 3) := by decide +kernel
theorem dX3_wantNext_16 : decode cX3_wantNext 16 = .ok (.invokestatic 100, 3) := by decide +kernel
theorem dX3_wantNext_19 : decode cX3_wantNext 19 = .ok (.ireturn, 1) := by decide +kernel
theorem dX3_wantTogether_0 : decode cX3_wantTogether 0 = .ok (.iconst 0, 1) := by decide +kernel
theorem dX3_wantTogether_1 : decode cX3_wantTogether 1 = .ok (.istore_n 2, 1) := by decide +kernel
theorem dX3_wantTogether_2 : decode cX3_wantTogether 2 = .ok (.iconst 0, 1) := by decide +kernel
theorem dX3_wantTogether_3 : decode cX3_wantTogether 3 = .ok (.istore_n 3, 1) := by decide +kernel
theorem dX3_wantTogether_4 : decode cX3_wantTogether 4 = .ok (.iload_n 3, 1) := by decide +kernel
theorem dX3_wantTogether_5 : decode cX3_wantTogether 5 = .ok (.aload_n 0, 1) := by decide +kernel
theorem dX3_wantTogether_6 : decode cX3_wantTogether 6 = .ok (.getfield 7, 3) := by decide +kernel
theorem dX3_wantTogether_9 : decode cX3_wantTogether 9 = .ok (.if_icmp .ge 29, 3) := by decide +kernel
theorem dX3_wantTogether_12 : decode cX3_wantTogether 12 = .ok (.iload_n 2, 1) := by decide +kernel
theorem dX3_wantTogether_13 : decode cX3_wantTogether 13 = .ok (.iload_n 1, 1) := by decide +kernel
theorem dX3_wantTogether_14 : decode cX3_wantTogether 14 = .ok (.iload_n 3, 1) := by decide +kernel
theorem dX3_wantTogether_15 : decode cX3_wantTogether 15 = .ok (.invokestatic 92, 3) := by decide +kernel
theorem dX3_wantTogether_18 : decode cX3_wantTogether 18 = .ok (.ifCond .eq 11, 3) := by decide +kernel
theorem dX3_wantTogether_21 : decode cX3_wantTogether 21 = .ok (.aload_n 0, 1) := by decide +kernel
theorem dX3_wantTogether_22 : decode cX3_wantTogether 22 = .ok (.iload_n 3, 1) := by decide +kernel
theorem dX3_wantTogether_23 : decode cX3_wantTogether 23 = .ok (.invokevirtual 114, 3) := by decide +kernel
theorem dX3_wantTogether_26 : decode cX3_wantTogether 26 = .ok (.goto 4, 3) := by decide +kernel
theorem dX3_wantTogether_29 : decode cX3_wantTogether 29 = .ok (.iconst 0, 1) := by decide +kernel
theorem dX3_wantTogether_30 : decode cX3_wantTogether 30 = .ok (.iadd, 1) := by decide +kernel
theorem dX3_wantTogether_31 : decode cX3_wantTogether 31 = .ok (.istore_n 2, 1) := by decide +kernel
theorem dX3_wantTogether_32 : decode cX3_wantTogether 32 = .ok (.iinc 3 1, 3) := by decide +kernel
theorem dX3_wantTogether_35 : decode cX3_wantTogether 35 = .ok (.goto (-31), 3) := by decide +kernel
theorem dX3_wantTogether_38 : decode cX3_wantTogether 38 = .ok (.iload_n 2, 1) := by decide +kernel
theorem dX3_wantTogether_39 : decode cX3_wantTogether 39 = .ok (.ireturn, 1) := by decide +kernel
theorem dX3_sumOf_0 : decode cX3_sumOf 0 = .ok (.iconst 0, 1) := by decide +kernel
theorem dX3_sumOf_1 : decode cX3_sumOf 1 = .ok (.istore_n 2, 1) := by decide +kernel
theorem dX3_sumOf_2 : decode cX3_sumOf 2 = .ok (.iconst 0, 1) := by decide +kernel
theorem dX3_sumOf_3 : decode cX3_sumOf 3 = .ok (.istore_n 3, 1) := by decide +kernel
theorem dX3_sumOf_4 : decode cX3_sumOf 4 = .ok (.iload_n 3, 1) := by decide +kernel
theorem dX3_sumOf_5 : decode cX3_sumOf 5 = .ok (.aload_n 0, 1) := by decide +kernel
theorem dX3_sumOf_6 : decode cX3_sumOf 6 = .ok (.getfield 7, 3) := by decide +kernel
theorem dX3_sumOf_9 : decode cX3_sumOf 9 = .ok (.if_icmp .ge 21, 3) := by decide +kernel
theorem dX3_sumOf_12 : decode cX3_sumOf 12 = .ok (.iload_n 3, 1) := by decide +kernel
theorem dX3_sumOf_13 : decode cX3_sumOf 13 = .ok (.aload_n 1, 1) := by decide +kernel
theorem dX3_sumOf_14 : decode cX3_sumOf 14 = .ok (.arraylength, 1) := by decide +kernel
theorem dX3_sumOf_15 : decode cX3_sumOf 15 = .ok (.if_icmp .ge 15, 3) := by decide +kernel
theorem dX3_sumOf_18 : decode cX3_sumOf 18 = .ok (.iload_n 2, 1) := by decide +kernel
theorem dX3_sumOf_19 : decode cX3_sumOf 19 = .ok (.aload_n 1, 1) := by decide +kernel
theorem dX3_sumOf_20 : decode cX3_sumOf 20 = .ok (.iload_n 3, 1) := by decide +kernel
theorem dX3_sumOf_21 : decode cX3_sumOf 21 = .ok (.iaload, 1) := by decide +kernel
theorem dX3_sumOf_22 : decode cX3_sumOf 22 = .ok (.iadd, 1) := by decide +kernel
theorem dX3_sumOf_23 : decode cX3_sumOf 23 = .ok (.istore_n 2, 1) := by decide +kernel
theorem dX3_sumOf_24 : decode cX3_sumOf 24 = .ok (.iinc 3 1, 3) := by decide +kernel
theorem dX3_sumOf_27 : decode cX3_sumOf 27 = .ok (.goto (-23), 3) := by decide +kernel
theorem dX3_sumOf_30 : decode cX3_sumOf 30 = .ok (.iload_n 2, 1) := by decide +kernel
theorem dX3_sumOf_31 : decode cX3_sumOf 31 = .ok (.ireturn, 1) := by decide +kernel
theorem dX3_pipesOf_0 : decode cX3_pipesOf 0 = .ok (.iconst 0, 1) := by decide +kernel
theorem dX3_pipesOf_1 : decode cX3_pipesOf 1 = .ok (.istore_n 2, 1) := by decide +kernel
theorem dX3_pipesOf_2 : decode cX3_pipesOf 2 = .ok (.iconst 0, 1) := by decide +kernel
theorem dX3_pipesOf_3 : decode cX3_pipesOf 3 = .ok (.istore_n 3, 1) := by decide +kernel
theorem dX3_pipesOf_4 : decode cX3_pipesOf 4 = .ok (.iload_n 3, 1) := by decide +kernel
theorem dX3_pipesOf_5 : decode cX3_pipesOf 5 = .ok (.aload_n 0, 1) := by decide +kernel
theorem dX3_pipesOf_6 : decode cX3_pipesOf 6 = .ok (.getfield 7, 3) := by decide +kernel
theorem dX3_pipesOf_9 : decode cX3_pipesOf 9 = .ok (.if_icmp .ge 30, 3) := by decide +kernel
theorem dX3_pipesOf_12 : decode cX3_pipesOf 12 = .ok (.iload_n 2, 1) := by decide +kernel
theorem dX3_pipesOf_13 : decode cX3_pipesOf 13 = .ok (.aload_n 0, 1) := by decide +kernel
theorem dX3_pipesOf_14 : decode cX3_pipesOf 14 = .ok (.getfield 34, 3) := by decide +kernel
theorem dX3_pipesOf_17 : decode cX3_pipesOf 17 = .ok (.iload_n 3, 1) := by decide +kernel
theorem dX3_pipesOf_18 : decode cX3_pipesOf 18 = .ok (.iaload, 1) := by decide +kernel
theorem dX3_pipesOf_19 : decode cX3_pipesOf 19 = .ok (.iload_n 1, 1) := by decide +kernel
theorem dX3_pipesOf_20 : decode cX3_pipesOf 20 = .ok (.invokestatic 117, 3) := by decide +kernel
theorem dX3_pipesOf_23 : decode cX3_pipesOf 23 = .ok (.ifCond .eq 7, 3) := by decide +kernel
theorem dX3_pipesOf_26 : decode cX3_pipesOf 26 = .ok (.iconst 1, 1) := by decide +kernel
theorem dX3_pipesOf_27 : decode cX3_pipesOf 27 = .ok (.goto 4, 3) := by decide +kernel
theorem dX3_pipesOf_30 : decode cX3_pipesOf 30 = .ok (.iconst 0, 1) := by decide +kernel
theorem dX3_pipesOf_31 : decode cX3_pipesOf 31 = .ok (.iadd, 1) := by decide +kernel
theorem dX3_pipesOf_32 : decode cX3_pipesOf 32 = .ok (.istore_n 2, 1) := by decide +kernel
theorem dX3_pipesOf_33 : decode cX3_pipesOf 33 = .ok (.iinc 3 1, 3) := by decide +kernel
theorem dX3_pipesOf_36 : decode cX3_pipesOf 36 = .ok (.goto (-32), 3) := by decide +kernel
theorem dX3_pipesOf_39 : decode cX3_pipesOf 39 = .ok (.iload_n 2, 1) := by decide +kernel
theorem dX3_pipesOf_40 : decode cX3_pipesOf 40 = .ok (.ireturn, 1) := by decide +kernel
theorem dJ6_bitCount_0f7a4_0 : decode cJ6_bitCount_0f7a4 0 = .ok (.iload_n 0, 1) := by decide +kernel
theorem dJ6_bitCount_0f7a4_1 : decode cJ6_bitCount_0f7a4 1 = .ok (.iload_n 0, 1) := by decide +kernel
theorem dJ6_bitCount_0f7a4_2 : decode cJ6_bitCount_0f7a4 2 = .ok (.iconst 1, 1) := by decide +kernel
theorem dJ6_bitCount_0f7a4_3 : decode cJ6_bitCount_0f7a4 3 = .ok (.iushr, 1) := by decide +kernel
theorem dJ6_bitCount_0f7a4_4 : decode cJ6_bitCount_0f7a4 4 = .ok (.ldc_w 265, 3) := by decide +kernel
theorem dJ6_bitCount_0f7a4_7 : decode cJ6_bitCount_0f7a4 7 = .ok (.iand, 1) := by decide +kernel
theorem dJ6_bitCount_0f7a4_8 : decode cJ6_bitCount_0f7a4 8 = .ok (.isub, 1) := by decide +kernel
theorem dJ6_bitCount_0f7a4_9 : decode cJ6_bitCount_0f7a4 9 = .ok (.istore_n 0, 1) := by decide +kernel
theorem dJ6_bitCount_0f7a4_10 : decode cJ6_bitCount_0f7a4 10 = .ok (.iload_n 0, 1) := by decide +kernel
theorem dJ6_bitCount_0f7a4_11 : decode cJ6_bitCount_0f7a4 11 = .ok (.ldc_w 266, 3) := by decide +kernel
theorem dJ6_bitCount_0f7a4_14 : decode cJ6_bitCount_0f7a4 14 = .ok (.iand, 1) := by decide +kernel
theorem dJ6_bitCount_0f7a4_15 : decode cJ6_bitCount_0f7a4 15 = .ok (.iload_n 0, 1) := by decide +kernel
theorem dJ6_bitCount_0f7a4_16 : decode cJ6_bitCount_0f7a4 16 = .ok (.iconst 2, 1) := by decide +kernel
theorem dJ6_bitCount_0f7a4_17 : decode cJ6_bitCount_0f7a4 17 = .ok (.iushr, 1) := by decide +kernel
theorem dJ6_bitCount_0f7a4_18 : decode cJ6_bitCount_0f7a4 18 = .ok (.ldc_w 266, 3) := by decide +kernel
theorem dJ6_bitCount_0f7a4_21 : decode cJ6_bitCount_0f7a4 21 = .ok (.iand, 1) := by decide +kernel
theorem dJ6_bitCount_0f7a4_22 : decode cJ6_bitCount_0f7a4 22 = .ok (.iadd, 1) := by decide +kernel
theorem dJ6_bitCount_0f7a4_23 : decode cJ6_bitCount_0f7a4 23 = .ok (.istore_n 0, 1) := by decide +kernel
theorem dJ6_bitCount_0f7a4_24 : decode cJ6_bitCount_0f7a4 24 = .ok (.iload_n 0, 1) := by decide +kernel
theorem dJ6_bitCount_0f7a4_25 : decode cJ6_bitCount_0f7a4 25 = .ok (.iload_n 0, 1) := by decide +kernel
theorem dJ6_bitCount_0f7a4_26 : decode cJ6_bitCount_0f7a4 26 = .ok (.iconst 4, 1) := by decide +kernel
theorem dJ6_bitCount_0f7a4_27 : decode cJ6_bitCount_0f7a4 27 = .ok (.iushr, 1) := by decide +kernel
theorem dJ6_bitCount_0f7a4_28 : decode cJ6_bitCount_0f7a4 28 = .ok (.iadd, 1) := by decide +kernel
theorem dJ6_bitCount_0f7a4_29 : decode cJ6_bitCount_0f7a4 29 = .ok (.ldc_w 267, 3) := by decide +kernel
theorem dJ6_bitCount_0f7a4_32 : decode cJ6_bitCount_0f7a4 32 = .ok (.iand, 1) := by decide +kernel
theorem dJ6_bitCount_0f7a4_33 : decode cJ6_bitCount_0f7a4 33 = .ok (.istore_n 0, 1) := by decide +kernel
theorem dJ6_bitCount_0f7a4_34 : decode cJ6_bitCount_0f7a4 34 = .ok (.iload_n 0, 1) := by decide +kernel
theorem dJ6_bitCount_0f7a4_35 : decode cJ6_bitCount_0f7a4 35 = .ok (.iload_n 0, 1) := by decide +kernel
theorem dJ6_bitCount_0f7a4_36 : decode cJ6_bitCount_0f7a4 36 = .ok (.bipush 8, 2) := by decide +kernel
theorem dJ6_bitCount_0f7a4_38 : decode cJ6_bitCount_0f7a4 38 = .ok (.iushr, 1) := by decide +kernel
theorem dJ6_bitCount_0f7a4_39 : decode cJ6_bitCount_0f7a4 39 = .ok (.iadd, 1) := by decide +kernel
theorem dJ6_bitCount_0f7a4_40 : decode cJ6_bitCount_0f7a4 40 = .ok (.istore_n 0, 1) := by decide +kernel
theorem dJ6_bitCount_0f7a4_41 : decode cJ6_bitCount_0f7a4 41 = .ok (.iload_n 0, 1) := by decide +kernel
theorem dJ6_bitCount_0f7a4_42 : decode cJ6_bitCount_0f7a4 42 = .ok (.iload_n 0, 1) := by decide +kernel
theorem dJ6_bitCount_0f7a4_43 : decode cJ6_bitCount_0f7a4 43 = .ok (.bipush 16, 2) := by decide +kernel
theorem dJ6_bitCount_0f7a4_45 : decode cJ6_bitCount_0f7a4 45 = .ok (.iushr, 1) := by decide +kernel
theorem dJ6_bitCount_0f7a4_46 : decode cJ6_bitCount_0f7a4 46 = .ok (.iadd, 1) := by decide +kernel
theorem dJ6_bitCount_0f7a4_47 : decode cJ6_bitCount_0f7a4 47 = .ok (.istore_n 0, 1) := by decide +kernel
theorem dJ6_bitCount_0f7a4_48 : decode cJ6_bitCount_0f7a4 48 = .ok (.iload_n 0, 1) := by decide +kernel
theorem dJ6_bitCount_0f7a4_49 : decode cJ6_bitCount_0f7a4 49 = .ok (.bipush 63, 2) := by decide +kernel
theorem dJ6_bitCount_0f7a4_51 : decode cJ6_bitCount_0f7a4 51 = .ok (.iand, 1) := by decide +kernel
theorem dJ6_bitCount_0f7a4_52 : decode cJ6_bitCount_0f7a4 52 = .ok (.ireturn, 1) := by decide +kernel
theorem dJ9_max_7cf53_0 : decode cJ9_max_7cf53 0 = .ok (.iload_n 0, 1) := by decide +kernel
theorem dJ9_max_7cf53_1 : decode cJ9_max_7cf53 1 = .ok (.iload_n 1, 1) := by decide +kernel
theorem dJ9_max_7cf53_2 : decode cJ9_max_7cf53 2 = .ok (.if_icmp .lt 7, 3) := by decide +kernel
theorem dJ9_max_7cf53_5 : decode cJ9_max_7cf53 5 = .ok (.iload_n 0, 1) := by decide +kernel
theorem dJ9_max_7cf53_6 : decode cJ9_max_7cf53 6 = .ok (.goto 4, 3) := by decide +kernel
theorem dJ9_max_7cf53_9 : decode cJ9_max_7cf53 9 = .ok (.iload_n 1, 1) := by decide +kernel
theorem dJ9_max_7cf53_10 : decode cJ9_max_7cf53 10 = .ok (.ireturn, 1) := by decide +kernel
theorem dJ9_min_7cf53_0 : decode cJ9_min_7cf53 0 = .ok (.iload_n 0, 1) := by decide +kernel
theorem dJ9_min_7cf53_1 : decode cJ9_min_7cf53 1 = .ok (.iload_n 1, 1) := by decide +kernel
theorem dJ9_min_7cf53_2 : decode cJ9_min_7cf53 2 = .ok (.if_icmp .gt 7, 3) := by decide +kernel
theorem dJ9_min_7cf53_5 : decode cJ9_min_7cf53 5 = .ok (.iload_n 0, 1) := by decide +kernel
theorem dJ9_min_7cf53_6 : decode cJ9_min_7cf53 6 = .ok (.goto 4, 3) := by decide +kernel
theorem dJ9_min_7cf53_9 : decode cJ9_min_7cf53 9 = .ok (.iload_n 1, 1) := by decide +kernel
theorem dJ9_min_7cf53_10 : decode cJ9_min_7cf53 10 = .ok (.ireturn, 1) := by decide +kernel
theorem dJ7_fill_53178_0 : decode cJ7_fill_53178 0 = .ok (.iconst 0, 1) := by decide +kernel
theorem dJ7_fill_53178_1 : decode cJ7_fill_53178 1 = .ok (.istore_n 2, 1) := by decide +kernel
theorem dJ7_fill_53178_2 : decode cJ7_fill_53178 2 = .ok (.aload_n 0, 1) := by decide +kernel
theorem dJ7_fill_53178_3 : decode cJ7_fill_53178 3 = .ok (.arraylength, 1) := by decide +kernel
theorem dJ7_fill_53178_4 : decode cJ7_fill_53178 4 = .ok (.istore_n 3, 1) := by decide +kernel
theorem dJ7_fill_53178_5 : decode cJ7_fill_53178 5 = .ok (.iload_n 2, 1) := by decide +kernel
theorem dJ7_fill_53178_6 : decode cJ7_fill_53178 6 = .ok (.iload_n 3, 1) := by decide +kernel
theorem dJ7_fill_53178_7 : decode cJ7_fill_53178 7 = .ok (.if_icmp .ge 13, 3) := by decide +kernel
theorem dJ7_fill_53178_10 : decode cJ7_fill_53178 10 = .ok (.aload_n 0, 1) := by decide +kernel
theorem dJ7_fill_53178_11 : decode cJ7_fill_53178 11 = .ok (.iload_n 2, 1) := by decide +kernel
theorem dJ7_fill_53178_12 : decode cJ7_fill_53178 12 = .ok (.iload_n 1, 1) := by decide +kernel
theorem dJ7_fill_53178_13 : decode cJ7_fill_53178 13 = .ok (.iastore, 1) := by decide +kernel
theorem dJ7_fill_53178_14 : decode cJ7_fill_53178 14 = .ok (.iinc 2 1, 3) := by decide +kernel
theorem dJ7_fill_53178_17 : decode cJ7_fill_53178 17 = .ok (.goto (-12), 3) := by decide +kernel
theorem dJ7_fill_53178_20 : decode cJ7_fill_53178 20 = .ok (.return_, 1) := by decide +kernel
theorem dJ7_fill_031fb_0 : decode cJ7_fill_031fb 0 = .ok (.iconst 0, 1) := by decide +kernel
theorem dJ7_fill_031fb_1 : decode cJ7_fill_031fb 1 = .ok (.istore_n 2, 1) := by decide +kernel
theorem dJ7_fill_031fb_2 : decode cJ7_fill_031fb 2 = .ok (.aload_n 0, 1) := by decide +kernel
theorem dJ7_fill_031fb_3 : decode cJ7_fill_031fb 3 = .ok (.arraylength, 1) := by decide +kernel
theorem dJ7_fill_031fb_4 : decode cJ7_fill_031fb 4 = .ok (.istore_n 3, 1) := by decide +kernel
theorem dJ7_fill_031fb_5 : decode cJ7_fill_031fb 5 = .ok (.iload_n 2, 1) := by decide +kernel
theorem dJ7_fill_031fb_6 : decode cJ7_fill_031fb 6 = .ok (.iload_n 3, 1) := by decide +kernel
theorem dJ7_fill_031fb_7 : decode cJ7_fill_031fb 7 = .ok (.if_icmp .ge 13, 3) := by decide +kernel
theorem dJ7_fill_031fb_10 : decode cJ7_fill_031fb 10 = .ok (.aload_n 0, 1) := by decide +kernel
theorem dJ7_fill_031fb_11 : decode cJ7_fill_031fb 11 = .ok (.iload_n 2, 1) := by decide +kernel
theorem dJ7_fill_031fb_12 : decode cJ7_fill_031fb 12 = .ok (.iload_n 1, 1) := by decide +kernel
theorem dJ7_fill_031fb_13 : decode cJ7_fill_031fb 13 = .ok (.bastore, 1) := by decide +kernel
theorem dJ7_fill_031fb_14 : decode cJ7_fill_031fb 14 = .ok (.iinc 2 1, 3) := by decide +kernel
theorem dJ7_fill_031fb_17 : decode cJ7_fill_031fb 17 = .ok (.goto (-12), 3) := by decide +kernel
theorem dJ7_fill_031fb_20 : decode cJ7_fill_031fb 20 = .ok (.return_, 1) := by decide +kernel
