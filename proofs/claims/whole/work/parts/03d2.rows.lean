theorem dX4_greatestDivisor_33 : decode cX4_greatestDivisor 33 = .ok (.lstore 4, 2) := by decide +kernel
theorem dX4_greatestDivisor_35 : decode cX4_greatestDivisor 35 = .ok (.lload 9, 2) := by decide +kernel
theorem dX4_greatestDivisor_37 : decode cX4_greatestDivisor 37 = .ok (.lstore 6, 2) := by decide +kernel
theorem dX4_greatestDivisor_39 : decode cX4_greatestDivisor 39 = .ok (.iinc 8 1, 3) := by decide +kernel
theorem dX4_greatestDivisor_42 : decode cX4_greatestDivisor 42 = .ok (.goto (-33), 3) := by decide +kernel
theorem dX4_greatestDivisor_45 : decode cX4_greatestDivisor 45 = .ok (.lload 4, 2) := by decide +kernel
theorem dX4_greatestDivisor_47 : decode cX4_greatestDivisor 47 = .ok (.lreturn, 1) := by decide +kernel
theorem dX4_refusedPlace_0 : decode cX4_refusedPlace 0 = .ok (.iload_n 1, 1) := by decide +kernel
theorem dX4_refusedPlace_1 : decode cX4_refusedPlace 1 = .ok (.invokestatic 89, 3) := by decide +kernel
theorem dX4_refusedPlace_4 : decode cX4_refusedPlace 4 = .ok (.ifCond .ne 5, 3) := by decide +kernel
theorem dX4_refusedPlace_7 : decode cX4_refusedPlace 7 = .ok (.iconst (-1), 1) := by decide +kernel
theorem dX4_refusedPlace_8 : decode cX4_refusedPlace 8 = .ok (.ireturn, 1) := by decide +kernel
theorem dX4_refusedPlace_9 : decode cX4_refusedPlace 9 = .ok (.aload_n 0, 1) := by decide +kernel
theorem dX4_refusedPlace_10 : decode cX4_refusedPlace 10 = .ok (.getfield 14, 3) := by decide +kernel
theorem dX4_refusedPlace_13 : decode cX4_refusedPlace 13 = .ok (.iload_n 1, 1) := by decide +kernel
theorem dX4_refusedPlace_14 : decode cX4_refusedPlace 14 = .ok (.iaload, 1) := by decide +kernel
theorem dX4_refusedPlace_15 : decode cX4_refusedPlace 15 = .ok (.iconst (-1), 1) := by decide +kernel
theorem dX4_refusedPlace_16 : decode cX4_refusedPlace 16 = .ok (.if_icmp .ne 9, 3) := by decide +kernel
theorem dX4_refusedPlace_19 : decode cX4_refusedPlace 19 = .ok (.aload_n 0, 1) := by decide +kernel
theorem dX4_refusedPlace_20 : decode cX4_refusedPlace 20 = .ok (.iconst 1, 1) := by decide +kernel
theorem dX4_refusedPlace_21 : decode cX4_refusedPlace 21 = .ok (.invokevirtual 93, 3) := by decide +kernel
theorem dX4_refusedPlace_24 : decode cX4_refusedPlace 24 = .ok (.ireturn, 1) := by decide +kernel
theorem dX4_refusedPlace_25 : decode cX4_refusedPlace 25 = .ok (.aload_n 0, 1) := by decide +kernel
theorem dX4_refusedPlace_26 : decode cX4_refusedPlace 26 = .ok (.getfield 14, 3) := by decide +kernel
theorem dX4_refusedPlace_29 : decode cX4_refusedPlace 29 = .ok (.iload_n 1, 1) := by decide +kernel
theorem dX4_refusedPlace_30 : decode cX4_refusedPlace 30 = .ok (.iaload, 1) := by decide +kernel
theorem dX4_refusedPlace_31 : decode cX4_refusedPlace 31 = .ok (.iload_n 2, 1) := by decide +kernel
theorem dX4_refusedPlace_32 : decode cX4_refusedPlace 32 = .ok (.iconst 1, 1) := by decide +kernel
theorem dX4_refusedPlace_33 : decode cX4_refusedPlace 33 = .ok (.invokestatic 104, 3) := by decide +kernel
theorem dX4_refusedPlace_36 : decode cX4_refusedPlace 36 = .ok (.ifCond .eq 7, 3) := by decide +kernel
theorem dX4_refusedPlace_39 : decode cX4_refusedPlace 39 = .ok (.iconst 0, 1) := by decide +kernel
theorem dX4_refusedPlace_40 : decode cX4_refusedPlace 40 = .ok (.goto 8, 3) := by decide +kernel
theorem dX4_refusedPlace_43 : decode cX4_refusedPlace 43 = .ok (.aload_n 0, 1) := by decide +kernel
theorem dX4_refusedPlace_44 : decode cX4_refusedPlace 44 = .ok (.iconst 2, 1) := by decide +kernel
theorem dX4_refusedPlace_45 : decode cX4_refusedPlace 45 = .ok (.invokevirtual 93, 3) := by decide +kernel
theorem dX4_refusedPlace_48 : decode cX4_refusedPlace 48 = .ok (.ireturn, 1) := by decide +kernel
theorem dX4_refusedHearing_0 : decode cX4_refusedHearing 0 = .ok (.iload_n 1, 1) := by decide +kernel
theorem dX4_refusedHearing_1 : decode cX4_refusedHearing 1 = .ok (.invokestatic 89, 3) := by decide +kernel
theorem dX4_refusedHearing_4 : decode cX4_refusedHearing 4 = .ok (.ifCond .ne 5, 3) := by decide +kernel
theorem dX4_refusedHearing_7 : decode cX4_refusedHearing 7 = .ok (.iconst (-1), 1) := by decide +kernel
theorem dX4_refusedHearing_8 : decode cX4_refusedHearing 8 = .ok (.ireturn, 1) := by decide +kernel
theorem dX4_refusedHearing_9 : decode cX4_refusedHearing 9 = .ok (.aload_n 0, 1) := by decide +kernel
theorem dX4_refusedHearing_10 : decode cX4_refusedHearing 10 = .ok (.getfield 36, 3) := by decide +kernel
theorem dX4_refusedHearing_13 : decode cX4_refusedHearing 13 = .ok (.getfield 128, 3) := by decide +kernel
theorem dX4_refusedHearing_16 : decode cX4_refusedHearing 16 = .ok (.ifCond .ne 6, 3) := by decide +kernel
theorem dX4_refusedHearing_19 : decode cX4_refusedHearing 19 = .ok (.bipush (-4), 2) := by decide +kernel
theorem dX4_refusedHearing_21 : decode cX4_refusedHearing 21 = .ok (.ireturn, 1) := by decide +kernel
theorem dX4_refusedHearing_22 : decode cX4_refusedHearing 22 = .ok (.aload_n 0, 1) := by decide +kernel
theorem dX4_refusedHearing_23 : decode cX4_refusedHearing 23 = .ok (.getfield 14, 3) := by decide +kernel
theorem dX4_refusedHearing_26 : decode cX4_refusedHearing 26 = .ok (.iload_n 1, 1) := by decide +kernel
theorem dX4_refusedHearing_27 : decode cX4_refusedHearing 27 = .ok (.iaload, 1) := by decide +kernel
theorem dX4_refusedHearing_28 : decode cX4_refusedHearing 28 = .ok (.istore_n 2, 1) := by decide +kernel
theorem dX4_refusedHearing_29 : decode cX4_refusedHearing 29 = .ok (.iload_n 2, 1) := by decide +kernel
theorem dX4_refusedHearing_30 : decode cX4_refusedHearing 30 = .ok (.iconst (-1), 1) := by decide +kernel
theorem dX4_refusedHearing_31 : decode cX4_refusedHearing 31 = .ok (.if_icmp .ne 9, 3) := by decide +kernel
theorem dX4_refusedHearing_34 : decode cX4_refusedHearing 34 = .ok (.aload_n 0, 1) := by decide +kernel
theorem dX4_refusedHearing_35 : decode cX4_refusedHearing 35 = .ok (.iconst 1, 1) := by decide +kernel
theorem dX4_refusedHearing_36 : decode cX4_refusedHearing 36 = .ok (.invokevirtual 93, 3) := by decide +kernel
theorem dX4_refusedHearing_39 : decode cX4_refusedHearing 39 = .ok (.ireturn, 1) := by decide +kernel
theorem dX4_refusedHearing_40 : decode cX4_refusedHearing 40 = .ok (.iload_n 2, 1) := by decide +kernel
theorem dX4_refusedHearing_41 : decode cX4_refusedHearing 41 = .ok (.iconst 1, 1) := by decide +kernel
theorem dX4_refusedHearing_42 : decode cX4_refusedHearing 42 = .ok (.if_icmp .lt 9, 3) := by decide +kernel
theorem dX4_refusedHearing_45 : decode cX4_refusedHearing 45 = .ok (.iload_n 2, 1) := by decide +kernel
theorem dX4_refusedHearing_46 : decode cX4_refusedHearing 46 = .ok (.bipush 10, 2) := by decide +kernel
theorem dX4_refusedHearing_48 : decode cX4_refusedHearing 48 = .ok (.if_icmp .le 9, 3) := by decide +kernel
theorem dX4_refusedHearing_51 : decode cX4_refusedHearing 51 = .ok (.aload_n 0, 1) := by decide +kernel
theorem dX4_refusedHearing_52 : decode cX4_refusedHearing 52 = .ok (.iconst 5, 1) := by decide +kernel
theorem dX4_refusedHearing_53 : decode cX4_refusedHearing 53 = .ok (.invokevirtual 93, 3) := by decide +kernel
theorem dX4_refusedHearing_56 : decode cX4_refusedHearing 56 = .ok (.ireturn, 1) := by decide +kernel
theorem dX4_refusedHearing_57 : decode cX4_refusedHearing 57 = .ok (.iconst 0, 1) := by decide +kernel
theorem dX4_refusedHearing_58 : decode cX4_refusedHearing 58 = .ok (.istore_n 3, 1) := by decide +kernel
theorem dX4_refusedHearing_59 : decode cX4_refusedHearing 59 = .ok (.iload_n 3, 1) := by decide +kernel
theorem dX4_refusedHearing_60 : decode cX4_refusedHearing 60 = .ok (.iload_n 2, 1) := by decide +kernel
theorem dX4_refusedHearing_61 : decode cX4_refusedHearing 61 = .ok (.if_icmp .ge 33, 3) := by decide +kernel
theorem dX4_refusedHearing_64 : decode cX4_refusedHearing 64 = .ok (.aload_n 0, 1) := by decide +kernel
theorem dX4_refusedHearing_65 : decode cX4_refusedHearing 65 = .ok (.getfield 36, 3) := by decide +kernel
theorem dX4_refusedHearing_68 : decode cX4_refusedHearing 68 = .ok (.aload_n 0, 1) := by decide +kernel
theorem dX4_refusedHearing_69 : decode cX4_refusedHearing 69 = .ok (.getfield 11, 3) := by decide +kernel
theorem dX4_refusedHearing_72 : decode cX4_refusedHearing 72 = .ok (.iload_n 1, 1) := by decide +kernel
theorem dX4_refusedHearing_73 : decode cX4_refusedHearing 73 = .ok (.aaload, 1) := by decide +kernel
theorem dX4_refusedHearing_74 : decode cX4_refusedHearing 74 = .ok (.iload_n 3, 1) := by decide +kernel
theorem dX4_refusedHearing_75 : decode cX4_refusedHearing 75 = .ok (.iaload, 1) := by decide +kernel
theorem dX4_refusedHearing_76 : decode cX4_refusedHearing 76 = .ok (.invokevirtual 215, 3) := by decide +kernel
theorem dX4_refusedHearing_79 : decode cX4_refusedHearing 79 = .ok (.ifCond .ne 9, 3) := by decide +kernel
theorem dX4_refusedHearing_82 : decode cX4_refusedHearing 82 = .ok (.aload_n 0, 1) := by decide +kernel
theorem dX4_refusedHearing_83 : decode cX4_refusedHearing 83 = .ok (.iconst 3, 1) := by decide +kernel
theorem dX4_refusedHearing_84 : decode cX4_refusedHearing 84 = .ok (.invokevirtual 93, 3) := by decide +kernel
theorem dX4_refusedHearing_87 : decode cX4_refusedHearing 87 = .ok (.ireturn, 1) := by decide +kernel
theorem dX4_refusedHearing_88 : decode cX4_refusedHearing 88 = .ok (.iinc 3 1, 3) := by decide +kernel
theorem dX4_refusedHearing_91 : decode cX4_refusedHearing 91 = .ok (.goto (-32), 3) := by decide +kernel
theorem dX4_refusedHearing_94 : decode cX4_refusedHearing 94 = .ok (.iconst 0, 1) := by decide +kernel
theorem dX4_refusedHearing_95 : decode cX4_refusedHearing 95 = .ok (.ireturn, 1) := by decide +kernel
theorem dX4_refusedSum_0 : decode cX4_refusedSum 0 = .ok (.iload_n 1, 1) := by decide +kernel
theorem dX4_refusedSum_1 : decode cX4_refusedSum 1 = .ok (.ifCond .lt 9, 3) := by decide +kernel
theorem dX4_refusedSum_4 : decode cX4_refusedSum 4 = .ok (.iload_n 1, 1) := by decide +kernel
theorem dX4_refusedSum_5 : decode cX4_refusedSum 5 = .ok (.bipush 99, 2) := by decide +kernel
theorem dX4_refusedSum_7 : decode cX4_refusedSum 7 = .ok (.if_icmp .le 5, 3) := by decide +kernel
theorem dX4_refusedSum_10 : decode cX4_refusedSum 10 = .ok (.iconst (-1), 1) := by decide +kernel
theorem dX4_refusedSum_11 : decode cX4_refusedSum 11 = .ok (.ireturn, 1) := by decide +kernel
theorem dX4_refusedSum_12 : decode cX4_refusedSum 12 = .ok (.aload_n 0, 1) := by decide +kernel
theorem dX4_refusedSum_13 : decode cX4_refusedSum 13 = .ok (.getfield 36, 3) := by decide +kernel
theorem dX4_refusedSum_16 : decode cX4_refusedSum 16 = .ok (.getfield 128, 3) := by decide +kernel
theorem dX4_refusedSum_19 : decode cX4_refusedSum 19 = .ok (.ifCond .ne 8, 3) := by decide +kernel
theorem dX4_refusedSum_22 : decode cX4_refusedSum 22 = .ok (.bipush (-4), 2) := by decide +kernel
theorem dX4_refusedSum_24 : decode cX4_refusedSum 24 = .ok (.goto 4, 3) := by decide +kernel
theorem dX4_refusedSum_27 : decode cX4_refusedSum 27 = .ok (.iconst 0, 1) := by decide +kernel
theorem dX4_refusedSum_28 : decode cX4_refusedSum 28 = .ok (.ireturn, 1) := by decide +kernel
theorem dX4_thereOf_0 : decode cX4_thereOf 0 = .ok (.iconst 0, 1) := by decide +kernel
theorem dX4_thereOf_1 : decode cX4_thereOf 1 = .ok (.istore_n 1, 1) := by decide +kernel
theorem dX4_thereOf_2 : decode cX4_thereOf 2 = .ok (.aload_n 0, 1) := by decide +kernel
theorem dX4_thereOf_3 : decode cX4_thereOf 3 = .ok (.astore_n 2, 1) := by decide +kernel
theorem dX4_thereOf_4 : decode cX4_thereOf 4 = .ok (.aload_n 2, 1) := by decide +kernel
theorem dX4_thereOf_5 : decode cX4_thereOf 5 = .ok (.arraylength, 1) := by decide +kernel
theorem dX4_thereOf_6 : decode cX4_thereOf 6 = .ok (.istore_n 3, 1) := by decide +kernel
theorem dX4_thereOf_7 : decode cX4_thereOf 7 = .ok (.iconst 0, 1) := by decide +kernel
theorem dX4_thereOf_8 : decode cX4_thereOf 8 = .ok (.istore 4, 2) := by decide +kernel
theorem dX4_thereOf_10 : decode cX4_thereOf 10 = .ok (.iload 4, 2) := by decide +kernel
theorem dX4_thereOf_12 : decode cX4_thereOf 12 = .ok (.iload_n 3, 1) := by decide +kernel
theorem dX4_thereOf_13 : decode cX4_thereOf 13 = .ok (.if_icmp .ge 29, 3) := by decide +kernel
theorem dX4_thereOf_16 : decode cX4_thereOf 16 = .ok (.aload_n 2, 1) := by decide +kernel
theorem dX4_thereOf_17 : decode cX4_thereOf 17 = .ok (.iload 4, 2) := by decide +kernel
theorem dX4_thereOf_19 : decode cX4_thereOf 19 = .ok (.iaload, 1) := by decide +kernel
theorem dX4_thereOf_20 : decode cX4_thereOf 20 = .ok (.istore 5, 2) := by decide +kernel
theorem dX4_thereOf_22 : decode cX4_thereOf 22 = .ok (.iload_n 1, 1) := by decide +kernel
theorem dX4_thereOf_23 : decode cX4_thereOf 23 = .ok (.iload 5, 2) := by decide +kernel
theorem dX4_thereOf_25 : decode cX4_thereOf 25 = .ok (.iconst (-1), 1) := by decide +kernel
theorem dX4_thereOf_26 : decode cX4_thereOf 26 = .ok (.if_icmp .ne 7, 3) := by decide +kernel
theorem dX4_thereOf_29 : decode cX4_thereOf 29 = .ok (.iconst 0, 1) := by decide +kernel
theorem dX4_thereOf_30 : decode cX4_thereOf 30 = .ok (.goto 4, 3) := by decide +kernel
theorem dX4_thereOf_33 : decode cX4_thereOf 33 = .ok (.iconst 1, 1) := by decide +kernel
theorem dX4_thereOf_34 : decode cX4_thereOf 34 = .ok (.iadd, 1) := by decide +kernel
theorem dX4_thereOf_35 : decode cX4_thereOf 35 = .ok (.istore_n 1, 1) := by decide +kernel
theorem dX4_thereOf_36 : decode cX4_thereOf 36 = .ok (.iinc 4 1, 3) := by decide +kernel
theorem dX4_thereOf_39 : decode cX4_thereOf 39 = .ok (.goto (-29), 3) := by decide +kernel
theorem dX4_thereOf_42 : decode cX4_thereOf 42 = .ok (.iload_n 1, 1) := by decide +kernel
theorem dX4_thereOf_43 : decode cX4_thereOf 43 = .ok (.ireturn, 1) := by decide +kernel
theorem dX4_keptTowns_0 : decode cX4_keptTowns 0 = .ok (.iconst 0, 1) := by decide +kernel
theorem dX4_keptTowns_1 : decode cX4_keptTowns 1 = .ok (.istore_n 1, 1) := by decide +kernel
theorem dX4_keptTowns_2 : decode cX4_keptTowns 2 = .ok (.iconst 0, 1) := by decide +kernel
theorem dX4_keptTowns_3 : decode cX4_keptTowns 3 = .ok (.istore_n 2, 1) := by decide +kernel
theorem dX4_keptTowns_4 : decode cX4_keptTowns 4 = .ok (.iload_n 2, 1) := by decide +kernel
theorem dX4_keptTowns_5 : decode cX4_keptTowns 5 = .ok (.iconst 3, 1) := by decide +kernel
theorem dX4_keptTowns_6 : decode cX4_keptTowns 6 = .ok (.if_icmp .ge 30, 3) := by decide +kernel
theorem dX4_keptTowns_9 : decode cX4_keptTowns 9 = .ok (.iload_n 1, 1) := by decide +kernel
theorem dX4_keptTowns_10 : decode cX4_keptTowns 10 = .ok (.aload_n 0, 1) := by decide +kernel
theorem dX4_keptTowns_11 : decode cX4_keptTowns 11 = .ok (.getfield 50, 3) := by decide +kernel
theorem dX4_keptTowns_14 : decode cX4_keptTowns 14 = .ok (.iload_n 2, 1) := by decide +kernel
theorem dX4_keptTowns_15 : decode cX4_keptTowns 15 = .ok (.aaload, 1) := by decide +kernel
theorem dX4_keptTowns_16 : decode cX4_keptTowns 16 = .ok (.getfield 86, 3) := by decide +kernel
theorem dX4_keptTowns_19 : decode cX4_keptTowns 19 = .ok (.iconst (-1), 1) := by decide +kernel
theorem dX4_keptTowns_20 : decode cX4_keptTowns 20 = .ok (.if_icmp .ne 7, 3) := by decide +kernel
theorem dX4_keptTowns_23 : decode cX4_keptTowns 23 = .ok (.iconst 0, 1) := by decide +kernel
theorem dX4_keptTowns_24 : decode cX4_keptTowns 24 = .ok (.goto 4, 3) := by decide +kernel
theorem dX4_keptTowns_27 : decode cX4_keptTowns 27 = .ok (.iconst 1, 1) := by decide +kernel
theorem dX4_keptTowns_28 : decode cX4_keptTowns 28 = .ok (.iadd, 1) := by decide +kernel
theorem dX4_keptTowns_29 : decode cX4_keptTowns 29 = .ok (.istore_n 1, 1) := by decide +kernel
theorem dX4_keptTowns_30 : decode cX4_keptTowns 30 = .ok (.iinc 2 1, 3) := by decide +kernel
theorem dX4_keptTowns_33 : decode cX4_keptTowns 33 = .ok (.goto (-29), 3) := by decide +kernel
theorem dX4_keptTowns_36 : decode cX4_keptTowns 36 = .ok (.iload_n 1, 1) := by decide +kernel
theorem dX4_keptTowns_37 : decode cX4_keptTowns 37 = .ok (.ireturn, 1) := by decide +kernel
theorem dX4_pipeFact_0 : decode cX4_pipeFact 0 = .ok (.iload_n 2, 1) := by decide +kernel
theorem dX4_pipeFact_1 : decode cX4_pipeFact 1 = .ok (.tableswitch 122 0 6 #[43, 53, 63, 73, 82, 92, 102], 43) := by decide +kernel
theorem dX4_pipeFact_44 : decode cX4_pipeFact 44 = .ok (.aload_n 0, 1) := by decide +kernel
theorem dX4_pipeFact_45 : decode cX4_pipeFact 45 = .ok (.getfield 36, 3) := by decide +kernel
theorem dX4_pipeFact_48 : decode cX4_pipeFact 48 = .ok (.getfield 139, 3) := by decide +kernel
theorem dX4_pipeFact_51 : decode cX4_pipeFact 51 = .ok (.iload_n 1, 1) := by decide +kernel
theorem dX4_pipeFact_52 : decode cX4_pipeFact 52 = .ok (.iaload, 1) := by decide +kernel
theorem dX4_pipeFact_53 : decode cX4_pipeFact 53 = .ok (.ireturn, 1) := by decide +kernel
theorem dX4_pipeFact_54 : decode cX4_pipeFact 54 = .ok (.aload_n 0, 1) := by decide +kernel
theorem dX4_pipeFact_55 : decode cX4_pipeFact 55 = .ok (.getfield 36, 3) := by decide +kernel
theorem dX4_pipeFact_58 : decode cX4_pipeFact 58 = .ok (.getfield 292, 3) := by decide +kernel
theorem dX4_pipeFact_61 : decode cX4_pipeFact 61 = .ok (.iload_n 1, 1) := by decide +kernel
theorem dX4_pipeFact_62 : decode cX4_pipeFact 62 = .ok (.iaload, 1) := by decide +kernel
theorem dX4_pipeFact_63 : decode cX4_pipeFact 63 = .ok (.ireturn, 1) := by decide +kernel
theorem dX4_pipeFact_64 : decode cX4_pipeFact 64 = .ok (.aload_n 0, 1) := by decide +kernel
theorem dX4_pipeFact_65 : decode cX4_pipeFact 65 = .ok (.getfield 36, 3) := by decide +kernel
theorem dX4_pipeFact_68 : decode cX4_pipeFact 68 = .ok (.getfield 149, 3) := by decide +kernel
theorem dX4_pipeFact_71 : decode cX4_pipeFact 71 = .ok (.iload_n 1, 1) := by decide +kernel
theorem dX4_pipeFact_72 : decode cX4_pipeFact 72 = .ok (.iaload, 1) := by decide +kernel
theorem dX4_pipeFact_73 : decode cX4_pipeFact 73 = .ok (.ireturn, 1) := by decide +kernel
theorem dX4_pipeFact_74 : decode cX4_pipeFact 74 = .ok (.aload_n 0, 1) := by decide +kernel
theorem dX4_pipeFact_75 : decode cX4_pipeFact 75 = .ok (.getfield 36, 3) := by decide +kernel
theorem dX4_pipeFact_78 : decode cX4_pipeFact 78 = .ok (.iload_n 1, 1) := by decide +kernel
theorem dX4_pipeFact_79 : decode cX4_pipeFact 79 = .ok (.invokevirtual 160, 3) := by decide +kernel
theorem dX4_pipeFact_82 : decode cX4_pipeFact 82 = .ok (.ireturn, 1) := by decide +kernel
theorem dX4_pipeFact_83 : decode cX4_pipeFact 83 = .ok (.aload_n 0, 1) := by decide +kernel
theorem dX4_pipeFact_84 : decode cX4_pipeFact 84 = .ok (.getfield 36, 3) := by decide +kernel
theorem dX4_pipeFact_87 : decode cX4_pipeFact 87 = .ok (.getfield 146, 3) := by decide +kernel
theorem dX4_pipeFact_90 : decode cX4_pipeFact 90 = .ok (.iload_n 1, 1) := by decide +kernel
theorem dX4_pipeFact_91 : decode cX4_pipeFact 91 = .ok (.iaload, 1) := by decide +kernel
theorem dX4_pipeFact_92 : decode cX4_pipeFact 92 = .ok (.ireturn, 1) := by decide +kernel
theorem dX4_pipeFact_93 : decode cX4_pipeFact 93 = .ok (.aload_n 0, 1) := by decide +kernel
theorem dX4_pipeFact_94 : decode cX4_pipeFact 94 = .ok (.getfield 36, 3) := by decide +kernel
theorem dX4_pipeFact_97 : decode cX4_pipeFact 97 = .ok (.getfield 195, 3) := by decide +kernel
theorem dX4_pipeFact_100 : decode cX4_pipeFact 100 = .ok (.iload_n 1, 1) := by decide +kernel
theorem dX4_pipeFact_101 : decode cX4_pipeFact 101 = .ok (.iaload, 1) := by decide +kernel
theorem dX4_pipeFact_102 : decode cX4_pipeFact 102 = .ok (.ireturn, 1) := by decide +kernel
theorem dX4_pipeFact_103 : decode cX4_pipeFact 103 = .ok (.aload_n 0, 1) := by decide +kernel
theorem dX4_pipeFact_104 : decode cX4_pipeFact 104 = .ok (.getfield 36, 3) := by decide +kernel
theorem dX4_pipeFact_107 : decode cX4_pipeFact 107 = .ok (.invokevirtual 295, 3) := by decide +kernel
theorem dX4_pipeFact_110 : decode cX4_pipeFact 110 = .ok (.iload_n 1, 1) := by decide +kernel
theorem dX4_pipeFact_111 : decode cX4_pipeFact 111 = .ok (.invokestatic 198, 3) := by decide +kernel
theorem dX4_pipeFact_114 : decode cX4_pipeFact 114 = .ok (.ifCond .eq 7, 3) := by decide +kernel
theorem dX4_pipeFact_117 : decode cX4_pipeFact 117 = .ok (.iconst 1, 1) := by decide +kernel
theorem dX4_pipeFact_118 : decode cX4_pipeFact 118 = .ok (.goto 4, 3) := by decide +kernel
theorem dX4_pipeFact_121 : decode cX4_pipeFact 121 = .ok (.iconst 0, 1) := by decide +kernel
theorem dX4_pipeFact_122 : decode cX4_pipeFact 122 = .ok (.ireturn, 1) := by decide +kernel
theorem dX4_pipeFact_123 : decode cX4_pipeFact 123 = .ok (.aload_n 0, 1) := by decide +kernel
theorem dX4_pipeFact_124 : decode cX4_pipeFact 124 = .ok (.getfield 36, 3) := by decide +kernel
theorem dX4_pipeFact_127 : decode cX4_pipeFact 127 = .ok (.getfield 265, 3) := by decide +kernel
theorem dX4_pipeFact_130 : decode cX4_pipeFact 130 = .ok (.iload_n 1, 1) := by decide +kernel
theorem dX4_pipeFact_131 : decode cX4_pipeFact 131 = .ok (.invokestatic 198, 3) := by decide +kernel
theorem dX4_pipeFact_134 : decode cX4_pipeFact 134 = .ok (.ifCond .eq 7, 3) := by decide +kernel
theorem dX4_pipeFact_137 : decode cX4_pipeFact 137 = .ok (.iconst 1, 1) := by decide +kernel
theorem dX4_pipeFact_138 : decode cX4_pipeFact 138 = .ok (.goto 4, 3) := by decide +kernel
theorem dX4_pipeFact_141 : decode cX4_pipeFact 141 = .ok (.iconst 0, 1) := by decide +kernel
theorem dX4_pipeFact_142 : decode cX4_pipeFact 142 = .ok (.ireturn, 1) := by decide +kernel
theorem dX4_wantingNoMoreThan_0 : decode cX4_wantingNoMoreThan 0 = .ok (.aload_n 0, 1) := by decide +kernel
theorem dX4_wantingNoMoreThan_1 : decode cX4_wantingNoMoreThan 1 = .ok (.getfield 36, 3) := by decide +kernel
theorem dX4_wantingNoMoreThan_4 : decode cX4_wantingNoMoreThan 4 = .ok (.iload_n 1, 1) := by decide +kernel
theorem dX4_wantingNoMoreThan_5 : decode cX4_wantingNoMoreThan 5 = .ok (.invokevirtual 160, 3) := by decide +kernel
theorem dX4_wantingNoMoreThan_8 : decode cX4_wantingNoMoreThan 8 = .ok (.istore_n 2, 1) := by decide +kernel
theorem dX4_wantingNoMoreThan_9 : decode cX4_wantingNoMoreThan 9 = .ok (.iconst 0, 1) := by decide +kernel
theorem dX4_wantingNoMoreThan_10 : decode cX4_wantingNoMoreThan 10 = .ok (.istore_n 3, 1) := by decide +kernel
theorem dX4_wantingNoMoreThan_11 : decode cX4_wantingNoMoreThan 11 = .ok (.iconst 0, 1) := by decide +kernel
theorem dX4_wantingNoMoreThan_12 : decode cX4_wantingNoMoreThan 12 = .ok (.istore 4, 2) := by decide +kernel
theorem dX4_wantingNoMoreThan_14 : decode cX4_wantingNoMoreThan 14 = .ok (.iload 4, 2) := by decide +kernel
theorem dX4_wantingNoMoreThan_16 : decode cX4_wantingNoMoreThan 16 = .ok (.aload_n 0, 1) := by decide +kernel
theorem dX4_wantingNoMoreThan_17 : decode cX4_wantingNoMoreThan 17 = .ok (.getfield 36, 3) := by decide +kernel
theorem dX4_wantingNoMoreThan_20 : decode cX4_wantingNoMoreThan 20 = .ok (.getfield 128, 3) := by decide +kernel
theorem dX4_wantingNoMoreThan_23 : decode cX4_wantingNoMoreThan 23 = .ok (.if_icmp .ge 30, 3) := by decide +kernel
theorem dX4_wantingNoMoreThan_26 : decode cX4_wantingNoMoreThan 26 = .ok (.iload_n 3, 1) := by decide +kernel
theorem dX4_wantingNoMoreThan_27 : decode cX4_wantingNoMoreThan 27 = .ok (.aload_n 0, 1) := by decide +kernel
theorem dX4_wantingNoMoreThan_28 : decode cX4_wantingNoMoreThan 28 = .ok (.getfield 36, 3) := by decide +kernel
theorem dX4_wantingNoMoreThan_31 : decode cX4_wantingNoMoreThan 31 = .ok (.iload 4, 2) := by decide +kernel
theorem dX4_wantingNoMoreThan_33 : decode cX4_wantingNoMoreThan 33 = .ok (.invokevirtual 160, 3) := by decide +kernel
theorem dX4_wantingNoMoreThan_36 : decode cX4_wantingNoMoreThan 36 = .ok (.iload_n 2, 1) := by decide +kernel
theorem dX4_wantingNoMoreThan_37 : decode cX4_wantingNoMoreThan 37 = .ok (.if_icmp .gt 7, 3) := by decide +kernel
theorem dX4_wantingNoMoreThan_40 : decode cX4_wantingNoMoreThan 40 = .ok (.iconst 1, 1) := by decide +kernel
theorem dX4_wantingNoMoreThan_41 : decode cX4_wantingNoMoreThan 41 = .ok (.goto 4, 3) := by decide +kernel
theorem dX4_wantingNoMoreThan_44 : decode cX4_wantingNoMoreThan 44 = .ok (.iconst 0, 1) := by decide +kernel
theorem dX4_wantingNoMoreThan_45 : decode cX4_wantingNoMoreThan 45 = .ok (.iadd, 1) := by decide +kernel
theorem dX4_wantingNoMoreThan_46 : decode cX4_wantingNoMoreThan 46 = .ok (.istore_n 3, 1) := by decide +kernel
theorem dX4_wantingNoMoreThan_47 : decode cX4_wantingNoMoreThan 47 = .ok (.iinc 4 1, 3) := by decide +kernel
theorem dX4_wantingNoMoreThan_50 : decode cX4_wantingNoMoreThan 50 = .ok (.goto (-36), 3) := by decide +kernel
theorem dX4_wantingNoMoreThan_53 : decode cX4_wantingNoMoreThan 53 = .ok (.iload_n 3, 1) := by decide +kernel
theorem dX4_wantingNoMoreThan_54 : decode cX4_wantingNoMoreThan 54 = .ok (.ireturn, 1) := by decide +kernel
theorem dX4_perform_0 : decode cX4_perform 0 = .ok (.aload_n 0, 1) := by decide +kernel
theorem dX4_perform_1 : decode cX4_perform 1 = .ok (.getfield 46, 3) := by decide +kernel
theorem dX4_perform_4 : decode cX4_perform 4 = .ok (.iload_n 1, 1) := by decide +kernel
theorem dX4_perform_5 : decode cX4_perform 5 = .ok (.iload_n 2, 1) := by decide +kernel
theorem dX4_perform_6 : decode cX4_perform 6 = .ok (.invokevirtual 298, 3) := by decide +kernel
theorem dX4_perform_9 : decode cX4_perform 9 = .ok (.ifCond .eq 15, 3) := by decide +kernel
theorem dX4_perform_12 : decode cX4_perform 12 = .ok (.aload_n 0, 1) := by decide +kernel
theorem dX4_perform_13 : decode cX4_perform 13 = .ok (.getfield 36, 3) := by decide +kernel
theorem dX4_perform_16 : decode cX4_perform 16 = .ok (.iload_n 1, 1) := by decide +kernel
theorem dX4_perform_17 : decode cX4_perform 17 = .ok (.iload_n 2, 1) := by decide +kernel
theorem dX4_perform_18 : decode cX4_perform 18 = .ok (.invokevirtual 301, 3) := by decide +kernel
theorem dX4_perform_21 : decode cX4_perform 21 = .ok (.goto 5, 3) := by decide +kernel
theorem dX4_perform_24 : decode cX4_perform 24 = .ok (.bipush (-2), 2) := by decide +kernel
theorem dX4_perform_26 : decode cX4_perform 26 = .ok (.ireturn, 1) := by decide +kernel
theorem dX4_performLot_0 : decode cX4_performLot 0 = .ok (.aload_n 0, 1) := by decide +kernel
theorem dX4_performLot_1 : decode cX4_performLot 1 = .ok (.getfield 36, 3) := by decide +kernel
theorem dX4_performLot_4 : decode cX4_performLot 4 = .ok (.getfield 128, 3) := by decide +kernel
theorem dX4_performLot_7 : decode cX4_performLot 7 = .ok (.ifCond .le 15, 3) := by decide +kernel
theorem dX4_performLot_10 : decode cX4_performLot 10 = .ok (.iload_n 1, 1) := by decide +kernel
theorem dX4_performLot_11 : decode cX4_performLot 11 = .ok (.aload_n 0, 1) := by decide +kernel
theorem dX4_performLot_12 : decode cX4_performLot 12 = .ok (.getfield 36, 3) := by decide +kernel
theorem dX4_performLot_15 : decode cX4_performLot 15 = .ok (.getfield 128, 3) := by decide +kernel
theorem dX4_performLot_18 : decode cX4_performLot 18 = .ok (.irem, 1) := by decide +kernel
theorem dX4_performLot_19 : decode cX4_performLot 19 = .ok (.goto 4, 3) := by decide +kernel
theorem dX4_performLot_22 : decode cX4_performLot 22 = .ok (.iconst 0, 1) := by decide +kernel
theorem dX4_performLot_23 : decode cX4_performLot 23 = .ok (.istore_n 2, 1) := by decide +kernel
theorem dX4_performLot_24 : decode cX4_performLot 24 = .ok (.iload_n 1, 1) := by decide +kernel
theorem dX4_performLot_25 : decode cX4_performLot 25 = .ok (.bipush 8, 2) := by decide +kernel
theorem dX4_performLot_27 : decode cX4_performLot 27 = .ok (.idiv, 1) := by decide +kernel
theorem dX4_performLot_28 : decode cX4_performLot 28 = .ok (.bipush 8, 2) := by decide +kernel
theorem dX4_performLot_30 : decode cX4_performLot 30 = .ok (.irem, 1) := by decide +kernel
theorem dX4_performLot_31 : decode cX4_performLot 31 = .ok (.tableswitch 83 4 7 #[29, 39, 49, 65], 29) := by decide +kernel
theorem dX4_performLot_60 : decode cX4_performLot 60 = .ok (.aload_n 0, 1) := by decide +kernel
theorem dX4_performLot_61 : decode cX4_performLot 61 = .ok (.iconst 2, 1) := by decide +kernel
theorem dX4_performLot_62 : decode cX4_performLot 62 = .ok (.iload_n 2, 1) := by decide +kernel
theorem dX4_performLot_63 : decode cX4_performLot 63 = .ok (.invokevirtual 172, 3) := by decide +kernel
theorem dX4_performLot_66 : decode cX4_performLot 66 = .ok (.pop, 1) := by decide +kernel
theorem dX4_performLot_67 : decode cX4_performLot 67 = .ok (.goto 54, 3) := by decide +kernel
theorem dX4_performLot_70 : decode cX4_performLot 70 = .ok (.aload_n 0, 1) := by decide +kernel
theorem dX4_performLot_71 : decode cX4_performLot 71 = .ok (.iconst 3, 1) := by decide +kernel
theorem dX4_performLot_72 : decode cX4_performLot 72 = .ok (.iload_n 2, 1) := by decide +kernel
theorem dX4_performLot_73 : decode cX4_performLot 73 = .ok (.invokevirtual 172, 3) := by decide +kernel
theorem dX4_performLot_76 : decode cX4_performLot 76 = .ok (.pop, 1) := by decide +kernel
theorem dX4_performLot_77 : decode cX4_performLot 77 = .ok (.goto 44, 3) := by decide +kernel
theorem dX4_performLot_80 : decode cX4_performLot 80 = .ok (.aload_n 0, 1) := by decide +kernel
theorem dX4_performLot_81 : decode cX4_performLot 81 = .ok (.iconst 4, 1) := by decide +kernel
theorem dX4_performLot_82 : decode cX4_performLot 82 = .ok (.iload_n 1, 1) := by decide +kernel
theorem dX4_performLot_83 : decode cX4_performLot 83 = .ok (.bipush 64, 2) := by decide +kernel
theorem dX4_performLot_85 : decode cX4_performLot 85 = .ok (.idiv, 1) := by decide +kernel
theorem dX4_performLot_86 : decode cX4_performLot 86 = .ok (.bipush 10, 2) := by decide +kernel
theorem dX4_performLot_88 : decode cX4_performLot 88 = .ok (.irem, 1) := by decide +kernel
theorem dX4_performLot_89 : decode cX4_performLot 89 = .ok (.invokevirtual 172, 3) := by decide +kernel
theorem dX4_performLot_92 : decode cX4_performLot 92 = .ok (.pop, 1) := by decide +kernel
theorem dX4_performLot_93 : decode cX4_performLot 93 = .ok (.goto 28, 3) := by decide +kernel
theorem dX4_performLot_96 : decode cX4_performLot 96 = .ok (.aload_n 0, 1) := by decide +kernel
theorem dX4_performLot_97 : decode cX4_performLot 97 = .ok (.iconst 1, 1) := by decide +kernel
theorem dX4_performLot_98 : decode cX4_performLot 98 = .ok (.iload_n 1, 1) := by decide +kernel
theorem dX4_performLot_99 : decode cX4_performLot 99 = .ok (.bipush 64, 2) := by decide +kernel
theorem dX4_performLot_101 : decode cX4_performLot 101 = .ok (.idiv, 1) := by decide +kernel
theorem dX4_performLot_102 : decode cX4_performLot 102 = .ok (.bipush 9, 2) := by decide +kernel
theorem dX4_performLot_104 : decode cX4_performLot 104 = .ok (.irem, 1) := by decide +kernel
theorem dX4_performLot_105 : decode cX4_performLot 105 = .ok (.iconst 1, 1) := by decide +kernel
theorem dX4_performLot_106 : decode cX4_performLot 106 = .ok (.iadd, 1) := by decide +kernel
theorem dX4_performLot_107 : decode cX4_performLot 107 = .ok (.invokevirtual 172, 3) := by decide +kernel
theorem dX4_performLot_110 : decode cX4_performLot 110 = .ok (.pop, 1) := by decide +kernel
theorem dX4_performLot_111 : decode cX4_performLot 111 = .ok (.goto 10, 3) := by decide +kernel
theorem dX4_performLot_114 : decode cX4_performLot 114 = .ok (.aload_n 0, 1) := by decide +kernel
theorem dX4_performLot_115 : decode cX4_performLot 115 = .ok (.iconst 0, 1) := by decide +kernel
theorem dX4_performLot_116 : decode cX4_performLot 116 = .ok (.iconst 0, 1) := by decide +kernel
theorem dX4_performLot_117 : decode cX4_performLot 117 = .ok (.invokevirtual 172, 3) := by decide +kernel
theorem dX4_performLot_120 : decode cX4_performLot 120 = .ok (.pop, 1) := by decide +kernel
theorem dX4_performLot_121 : decode cX4_performLot 121 = .ok (.return_, 1) := by decide +kernel
theorem dX4_spokenIfCut_0 : decode cX4_spokenIfCut 0 = .ok (.aload_n 0, 1) := by decide +kernel
theorem dX4_spokenIfCut_1 : decode cX4_spokenIfCut 1 = .ok (.getfield 40, 3) := by decide +kernel
theorem dX4_spokenIfCut_4 : decode cX4_spokenIfCut 4 = .ok (.aload_n 0, 1) := by decide +kernel
theorem dX4_spokenIfCut_5 : decode cX4_spokenIfCut 5 = .ok (.getfield 36, 3) := by decide +kernel
theorem dX4_spokenIfCut_8 : decode cX4_spokenIfCut 8 = .ok (.invokevirtual 124, 3) := by decide +kernel
theorem dX4_spokenIfCut_11 : decode cX4_spokenIfCut 11 = .ok (.aload_n 0, 1) := by decide +kernel
theorem dX4_spokenIfCut_12 : decode cX4_spokenIfCut 12 = .ok (.getfield 40, 3) := by decide +kernel
theorem dX4_spokenIfCut_15 : decode cX4_spokenIfCut 15 = .ok (.iload_n 1, 1) := by decide +kernel
theorem dX4_spokenIfCut_16 : decode cX4_spokenIfCut 16 = .ok (.putfield 204, 3) := by decide +kernel
theorem dX4_spokenIfCut_19 : decode cX4_spokenIfCut 19 = .ok (.aload_n 0, 1) := by decide +kernel
theorem dX4_spokenIfCut_20 : decode cX4_spokenIfCut 20 = .ok (.getfield 40, 3) := by decide +kernel
theorem dX4_spokenIfCut_23 : decode cX4_spokenIfCut 23 = .ok (.invokevirtual 191, 3) := by decide +kernel
theorem dX4_spokenIfCut_26 : decode cX4_spokenIfCut 26 = .ok (.ireturn, 1) := by decide +kernel
theorem dX4_speakAlways_0 : decode cX4_speakAlways 0 = .ok (.aload_n 0, 1) := by decide +kernel
theorem dX4_speakAlways_1 : decode cX4_speakAlways 1 = .ok (.getfield 40, 3) := by decide +kernel
theorem dX4_speakAlways_4 : decode cX4_speakAlways 4 = .ok (.aload_n 0, 1) := by decide +kernel
theorem dX4_speakAlways_5 : decode cX4_speakAlways 5 = .ok (.getfield 36, 3) := by decide +kernel
theorem dX4_speakAlways_8 : decode cX4_speakAlways 8 = .ok (.invokevirtual 124, 3) := by decide +kernel
theorem dX4_speakAlways_11 : decode cX4_speakAlways 11 = .ok (.aload_n 0, 1) := by decide +kernel
theorem dX4_speakAlways_12 : decode cX4_speakAlways 12 = .ok (.getfield 40, 3) := by decide +kernel
theorem dX4_speakAlways_15 : decode cX4_speakAlways 15 = .ok (.iload_n 3, 1) := by decide +kernel
theorem dX4_speakAlways_16 : decode cX4_speakAlways 16 = .ok (.putfield 175, 3) := by decide +kernel
theorem dX4_speakAlways_19 : decode cX4_speakAlways 19 = .ok (.iconst 1, 1) := by decide +kernel
theorem dX4_speakAlways_20 : decode cX4_speakAlways 20 = .ok (.istore 4, 2) := by decide +kernel
theorem dX4_speakAlways_22 : decode cX4_speakAlways 22 = .ok (.iconst 0, 1) := by decide +kernel
theorem dX4_speakAlways_23 : decode cX4_speakAlways 23 = .ok (.istore 5, 2) := by decide +kernel
theorem dX4_speakAlways_25 : decode cX4_speakAlways 25 = .ok (.iload 4, 2) := by decide +kernel
theorem dX4_speakAlways_27 : decode cX4_speakAlways 27 = .ok (.ifCond .eq 36, 3) := by decide +kernel
theorem dX4_speakAlways_30 : decode cX4_speakAlways 30 = .ok (.iload 5, 2) := by decide +kernel
theorem dX4_speakAlways_32 : decode cX4_speakAlways 32 = .ok (.iload_n 2, 1) := by decide +kernel
theorem dX4_speakAlways_33 : decode cX4_speakAlways 33 = .ok (.if_icmp .ge 30, 3) := by decide +kernel
theorem dX4_speakAlways_36 : decode cX4_speakAlways 36 = .ok (.iload_n 1, 1) := by decide +kernel
theorem dX4_speakAlways_37 : decode cX4_speakAlways 37 = .ok (.aload_n 0, 1) := by decide +kernel
theorem dX4_speakAlways_38 : decode cX4_speakAlways 38 = .ok (.getfield 40, 3) := by decide +kernel
theorem dX4_speakAlways_41 : decode cX4_speakAlways 41 = .ok (.invokevirtual 191, 3) := by decide +kernel
theorem dX4_speakAlways_44 : decode cX4_speakAlways 44 = .ok (.iconst (-1), 1) := by decide +kernel
theorem dX4_speakAlways_45 : decode cX4_speakAlways 45 = .ok (.ixor, 1) := by decide +kernel
theorem dX4_speakAlways_46 : decode cX4_speakAlways 46 = .ok (.iand, 1) := by decide +kernel
theorem dX4_speakAlways_47 : decode cX4_speakAlways 47 = .ok (.ifCond .ne 7, 3) := by decide +kernel
theorem dX4_speakAlways_50 : decode cX4_speakAlways 50 = .ok (.iconst 1, 1) := by decide +kernel
theorem dX4_speakAlways_51 : decode cX4_speakAlways 51 = .ok (.goto 4, 3) := by decide +kernel
theorem dX4_speakAlways_54 : decode cX4_speakAlways 54 = .ok (.iconst 0, 1) := by decide +kernel
theorem dX4_speakAlways_55 : decode cX4_speakAlways 55 = .ok (.istore 4, 2) := by decide +kernel
theorem dX4_speakAlways_57 : decode cX4_speakAlways 57 = .ok (.iinc 5 1, 3) := by decide +kernel
theorem dX4_speakAlways_60 : decode cX4_speakAlways 60 = .ok (.goto (-35), 3) := by decide +kernel
theorem dX4_speakAlways_63 : decode cX4_speakAlways 63 = .ok (.iload 4, 2) := by decide +kernel
theorem dX4_speakAlways_65 : decode cX4_speakAlways 65 = .ok (.ireturn, 1) := by decide +kernel
theorem dX4_leakingFits_0 : decode cX4_leakingFits 0 = .ok (.aload_n 0, 1) := by decide +kernel
theorem dX4_leakingFits_1 : decode cX4_leakingFits 1 = .ok (.getfield 40, 3) := by decide +kernel
theorem dX4_leakingFits_4 : decode cX4_leakingFits 4 = .ok (.aload_n 0, 1) := by decide +kernel
theorem dX4_leakingFits_5 : decode cX4_leakingFits 5 = .ok (.getfield 36, 3) := by decide +kernel
theorem dX4_leakingFits_8 : decode cX4_leakingFits 8 = .ok (.invokevirtual 124, 3) := by decide +kernel
theorem dX4_leakingFits_11 : decode cX4_leakingFits 11 = .ok (.aload_n 0, 1) := by decide +kernel
theorem dX4_leakingFits_12 : decode cX4_leakingFits 12 = .ok (.getfield 40, 3) := by decide +kernel
theorem dX4_leakingFits_15 : decode cX4_leakingFits 15 = .ok (.iload_n 1, 1) := by decide +kernel
theorem dX4_leakingFits_16 : decode cX4_leakingFits 16 = .ok (.putfield 265, 3) := by decide +kernel
theorem dX4_leakingFits_19 : decode cX4_leakingFits 19 = .ok (.aload_n 0, 1) := by decide +kernel
theorem dX4_leakingFits_20 : decode cX4_leakingFits 20 = .ok (.iload_n 2, 1) := by decide +kernel
theorem dX4_leakingFits_21 : decode cX4_leakingFits 21 = .ok (.invokevirtual 237, 3) := by decide +kernel
theorem dX4_leakingFits_24 : decode cX4_leakingFits 24 = .ok (.ireturn, 1) := by decide +kernel
theorem dX4_trialSpeaksLike_0 : decode cX4_trialSpeaksLike 0 = .ok (.iconst 1, 1) := by decide +kernel
theorem dX4_trialSpeaksLike_1 : decode cX4_trialSpeaksLike 1 = .ok (.istore_n 2, 1) := by decide +kernel
theorem dX4_trialSpeaksLike_2 : decode cX4_trialSpeaksLike 2 = .ok (.iconst 0, 1) := by decide +kernel
theorem dX4_trialSpeaksLike_3 : decode cX4_trialSpeaksLike 3 = .ok (.istore_n 3, 1) := by decide +kernel
theorem dX4_trialSpeaksLike_4 : decode cX4_trialSpeaksLike 4 = .ok (.iload_n 2, 1) := by decide +kernel
theorem dX4_trialSpeaksLike_5 : decode cX4_trialSpeaksLike 5 = .ok (.ifCond .eq 43, 3) := by decide +kernel
theorem dX4_trialSpeaksLike_8 : decode cX4_trialSpeaksLike 8 = .ok (.iload_n 3, 1) := by decide +kernel
theorem dX4_trialSpeaksLike_9 : decode cX4_trialSpeaksLike 9 = .ok (.aload_n 0, 1) := by decide +kernel
theorem dX4_trialSpeaksLike_10 : decode cX4_trialSpeaksLike 10 = .ok (.getfield 14, 3) := by decide +kernel
theorem dX4_trialSpeaksLike_13 : decode cX4_trialSpeaksLike 13 = .ok (.iload_n 1, 1) := by decide +kernel
theorem dX4_trialSpeaksLike_14 : decode cX4_trialSpeaksLike 14 = .ok (.iaload, 1) := by decide +kernel
theorem dX4_trialSpeaksLike_15 : decode cX4_trialSpeaksLike 15 = .ok (.if_icmp .ge 33, 3) := by decide +kernel
theorem dX4_trialSpeaksLike_18 : decode cX4_trialSpeaksLike 18 = .ok (.aload_n 0, 1) := by decide +kernel
theorem dX4_trialSpeaksLike_19 : decode cX4_trialSpeaksLike 19 = .ok (.getfield 40, 3) := by decide +kernel
theorem dX4_trialSpeaksLike_22 : decode cX4_trialSpeaksLike 22 = .ok (.invokevirtual 191, 3) := by decide +kernel
theorem dX4_trialSpeaksLike_25 : decode cX4_trialSpeaksLike 25 = .ok (.aload_n 0, 1) := by decide +kernel
theorem dX4_trialSpeaksLike_26 : decode cX4_trialSpeaksLike 26 = .ok (.getfield 11, 3) := by decide +kernel
theorem dX4_trialSpeaksLike_29 : decode cX4_trialSpeaksLike 29 = .ok (.iload_n 1, 1) := by decide +kernel
theorem dX4_trialSpeaksLike_30 : decode cX4_trialSpeaksLike 30 = .ok (.aaload, 1) := by decide +kernel
theorem dX4_trialSpeaksLike_31 : decode cX4_trialSpeaksLike 31 = .ok (.iload_n 3, 1) := by decide +kernel
theorem dX4_trialSpeaksLike_32 : decode cX4_trialSpeaksLike 32 = .ok (.iaload, 1) := by decide +kernel
theorem dX4_trialSpeaksLike_33 : decode cX4_trialSpeaksLike 33 = .ok (.if_icmp .ne 7, 3) := by decide +kernel
theorem dX4_trialSpeaksLike_36 : decode cX4_trialSpeaksLike 36 = .ok (.iconst 1, 1) := by decide +kernel
theorem dX4_trialSpeaksLike_37 : decode cX4_trialSpeaksLike 37 = .ok (.goto 4, 3) := by decide +kernel
theorem dX4_trialSpeaksLike_40 : decode cX4_trialSpeaksLike 40 = .ok (.iconst 0, 1) := by decide +kernel
theorem dX4_trialSpeaksLike_41 : decode cX4_trialSpeaksLike 41 = .ok (.istore_n 2, 1) := by decide +kernel
theorem dX4_trialSpeaksLike_42 : decode cX4_trialSpeaksLike 42 = .ok (.iinc 3 1, 3) := by decide +kernel
theorem dX4_trialSpeaksLike_45 : decode cX4_trialSpeaksLike 45 = .ok (.goto (-41), 3) := by decide +kernel
theorem dX4_trialSpeaksLike_48 : decode cX4_trialSpeaksLike 48 = .ok (.iload_n 2, 1) := by decide +kernel
theorem dX4_trialSpeaksLike_49 : decode cX4_trialSpeaksLike 49 = .ok (.ireturn, 1) := by decide +kernel
theorem dX4_tallyNextSpeakers_0 : decode cX4_tallyNextSpeakers 0 = .ok (.aload_n 0, 1) := by decide +kernel
theorem dX4_tallyNextSpeakers_1 : decode cX4_tallyNextSpeakers 1 = .ok (.getfield 54, 3) := by decide +kernel
theorem dX4_tallyNextSpeakers_4 : decode cX4_tallyNextSpeakers 4 = .ok (.iconst 0, 1) := by decide +kernel
theorem dX4_tallyNextSpeakers_5 : decode cX4_tallyNextSpeakers 5 = .ok (.invokestatic 80, 3) := by decide +kernel
theorem dX4_tallyNextSpeakers_8 : decode cX4_tallyNextSpeakers 8 = .ok (.iconst 0, 1) := by decide +kernel
theorem dX4_tallyNextSpeakers_9 : decode cX4_tallyNextSpeakers 9 = .ok (.istore_n 2, 1) := by decide +kernel
theorem dX4_tallyNextSpeakers_10 : decode cX4_tallyNextSpeakers 10 = .ok (.iconst 0, 1) := by decide +kernel
theorem dX4_tallyNextSpeakers_11 : decode cX4_tallyNextSpeakers 11 = .ok (.istore_n 3, 1) := by decide +kernel
theorem dX4_tallyNextSpeakers_12 : decode cX4_tallyNextSpeakers 12 = .ok (.iload_n 3, 1) := by decide +kernel
theorem dX4_tallyNextSpeakers_13 : decode cX4_tallyNextSpeakers 13 = .ok (.aload_n 0, 1) := by decide +kernel
theorem dX4_tallyNextSpeakers_14 : decode cX4_tallyNextSpeakers 14 = .ok (.getfield 36, 3) := by decide +kernel
theorem dX4_tallyNextSpeakers_17 : decode cX4_tallyNextSpeakers 17 = .ok (.invokevirtual 201, 3) := by decide +kernel
theorem dX4_tallyNextSpeakers_20 : decode cX4_tallyNextSpeakers 20 = .ok (.if_icmp .gt 76, 3) := by decide +kernel
theorem dX4_tallyNextSpeakers_23 : decode cX4_tallyNextSpeakers 23 = .ok (.aload_n 0, 1) := by decide +kernel
theorem dX4_tallyNextSpeakers_24 : decode cX4_tallyNextSpeakers 24 = .ok (.iload_n 3, 1) := by decide +kernel
theorem dX4_tallyNextSpeakers_25 : decode cX4_tallyNextSpeakers 25 = .ok (.iload_n 1, 1) := by decide +kernel
theorem dX4_tallyNextSpeakers_26 : decode cX4_tallyNextSpeakers 26 = .ok (.invokevirtual 224, 3) := by decide +kernel
theorem dX4_tallyNextSpeakers_29 : decode cX4_tallyNextSpeakers 29 = .ok (.ifCond .eq 61, 3) := by decide +kernel
theorem dX4_tallyNextSpeakers_32 : decode cX4_tallyNextSpeakers 32 = .ok (.iinc 2 1, 3) := by decide +kernel
theorem dX4_tallyNextSpeakers_35 : decode cX4_tallyNextSpeakers 35 = .ok (.aload_n 0, 1) := by decide +kernel
theorem dX4_tallyNextSpeakers_36 : decode cX4_tallyNextSpeakers 36 = .ok (.getfield 40, 3) := by decide +kernel
theorem dX4_tallyNextSpeakers_39 : decode cX4_tallyNextSpeakers 39 = .ok (.invokevirtual 191, 3) := by decide +kernel
theorem dX4_tallyNextSpeakers_42 : decode cX4_tallyNextSpeakers 42 = .ok (.istore 4, 2) := by decide +kernel
theorem dX4_tallyNextSpeakers_44 : decode cX4_tallyNextSpeakers 44 = .ok (.iconst 0, 1) := by decide +kernel
theorem dX4_tallyNextSpeakers_45 : decode cX4_tallyNextSpeakers 45 = .ok (.istore 5, 2) := by decide +kernel
theorem dX4_tallyNextSpeakers_47 : decode cX4_tallyNextSpeakers 47 = .ok (.iload 5, 2) := by decide +kernel
theorem dX4_tallyNextSpeakers_49 : decode cX4_tallyNextSpeakers 49 = .ok (.aload_n 0, 1) := by decide +kernel
theorem dX4_tallyNextSpeakers_50 : decode cX4_tallyNextSpeakers 50 = .ok (.getfield 36, 3) := by decide +kernel
theorem dX4_tallyNextSpeakers_53 : decode cX4_tallyNextSpeakers 53 = .ok (.getfield 128, 3) := by decide +kernel
theorem dX4_tallyNextSpeakers_56 : decode cX4_tallyNextSpeakers 56 = .ok (.if_icmp .ge 34, 3) := by decide +kernel
theorem dX4_tallyNextSpeakers_59 : decode cX4_tallyNextSpeakers 59 = .ok (.aload_n 0, 1) := by decide +kernel
theorem dX4_tallyNextSpeakers_60 : decode cX4_tallyNextSpeakers 60 = .ok (.getfield 54, 3) := by decide +kernel
theorem dX4_tallyNextSpeakers_63 : decode cX4_tallyNextSpeakers 63 = .ok (.iload 5, 2) := by decide +kernel
theorem dX4_tallyNextSpeakers_65 : decode cX4_tallyNextSpeakers 65 = .ok (.dup2, 1) := by decide +kernel
theorem dX4_tallyNextSpeakers_66 : decode cX4_tallyNextSpeakers 66 = .ok (.iaload, 1) := by decide +kernel
theorem dX4_tallyNextSpeakers_67 : decode cX4_tallyNextSpeakers 67 = .ok (.iload 4, 2) := by decide +kernel
theorem dX4_tallyNextSpeakers_69 : decode cX4_tallyNextSpeakers 69 = .ok (.iload 5, 2) := by decide +kernel
theorem dX4_tallyNextSpeakers_71 : decode cX4_tallyNextSpeakers 71 = .ok (.invokestatic 198, 3) := by decide +kernel
theorem dX4_tallyNextSpeakers_74 : decode cX4_tallyNextSpeakers 74 = .ok (.ifCond .eq 7, 3) := by decide +kernel
theorem dX4_tallyNextSpeakers_77 : decode cX4_tallyNextSpeakers 77 = .ok (.iconst 1, 1) := by decide +kernel
theorem dX4_tallyNextSpeakers_78 : decode cX4_tallyNextSpeakers 78 = .ok (.goto 4, 3) := by decide +kernel
theorem dX4_tallyNextSpeakers_81 : decode cX4_tallyNextSpeakers 81 = .ok (.iconst 0, 1) := by decide +kernel
theorem dX4_tallyNextSpeakers_82 : decode cX4_tallyNextSpeakers 82 = .ok (.iadd, 1) := by decide +kernel
theorem dX4_tallyNextSpeakers_83 : decode cX4_tallyNextSpeakers 83 = .ok (.iastore, 1) := by decide +kernel
theorem dX4_tallyNextSpeakers_84 : decode cX4_tallyNextSpeakers 84 = .ok (.iinc 5 1, 3) := by decide +kernel
theorem dX4_tallyNextSpeakers_87 : decode cX4_tallyNextSpeakers 87 = .ok (.goto (-40), 3) := by decide +kernel
theorem dX4_tallyNextSpeakers_90 : decode cX4_tallyNextSpeakers 90 = .ok (.iinc 3 1, 3) := by decide +kernel
theorem dX4_tallyNextSpeakers_93 : decode cX4_tallyNextSpeakers 93 = .ok (.goto (-81), 3) := by decide +kernel
theorem dX4_tallyNextSpeakers_96 : decode cX4_tallyNextSpeakers 96 = .ok (.iload_n 2, 1) := by decide +kernel
theorem dX4_tallyNextSpeakers_97 : decode cX4_tallyNextSpeakers 97 = .ok (.ireturn, 1) := by decide +kernel
theorem dX4_greaterPart_0 : decode cX4_greaterPart 0 = .ok (.aload_n 0, 1) := by decide +kernel
theorem dX4_greaterPart_1 : decode cX4_greaterPart 1 = .ok (.getfield 54, 3) := by decide +kernel
theorem dX4_greaterPart_4 : decode cX4_greaterPart 4 = .ok (.iload_n 1, 1) := by decide +kernel
theorem dX4_greaterPart_5 : decode cX4_greaterPart 5 = .ok (.iaload, 1) := by decide +kernel
theorem dX4_greaterPart_6 : decode cX4_greaterPart 6 = .ok (.iload_n 2, 1) := by decide +kernel
theorem dX4_greaterPart_7 : decode cX4_greaterPart 7 = .ok (.aload_n 0, 1) := by decide +kernel
theorem dX4_greaterPart_8 : decode cX4_greaterPart 8 = .ok (.getfield 54, 3) := by decide +kernel
theorem dX4_greaterPart_11 : decode cX4_greaterPart 11 = .ok (.iload_n 1, 1) := by decide +kernel
theorem dX4_greaterPart_12 : decode cX4_greaterPart 12 = .ok (.iaload, 1) := by decide +kernel
theorem dX4_greaterPart_13 : decode cX4_greaterPart 13 = .ok (.isub, 1) := by decide +kernel
theorem dX4_greaterPart_14 : decode cX4_greaterPart 14 = .ok (.invokestatic 155, 3) := by decide +kernel
theorem dX4_greaterPart_17 : decode cX4_greaterPart 17 = .ok (.ireturn, 1) := by decide +kernel
theorem dX4_evenBeyondUneven_0 : decode cX4_evenBeyondUneven 0 = .ok (.iload_n 0, 1) := by decide +kernel
theorem dX4_evenBeyondUneven_1 : decode cX4_evenBeyondUneven 1 = .ok (.bipush 21, 2) := by decide +kernel
theorem dX4_evenBeyondUneven_3 : decode cX4_evenBeyondUneven 3 = .ok (.iand, 1) := by decide +kernel
theorem dX4_evenBeyondUneven_4 : decode cX4_evenBeyondUneven 4 = .ok (.invokestatic 207, 3) := by decide +kernel
theorem dX4_evenBeyondUneven_7 : decode cX4_evenBeyondUneven 7 = .ok (.iload_n 0, 1) := by decide +kernel
theorem dX4_evenBeyondUneven_8 : decode cX4_evenBeyondUneven 8 = .ok (.bipush 42, 2) := by decide +kernel
theorem dX4_evenBeyondUneven_10 : decode cX4_evenBeyondUneven 10 = .ok (.iand, 1) := by decide +kernel
theorem dX4_evenBeyondUneven_11 : decode cX4_evenBeyondUneven 11 = .ok (.invokestatic 207, 3) := by decide +kernel
theorem dX4_evenBeyondUneven_14 : decode cX4_evenBeyondUneven 14 = .ok (.isub, 1) := by decide +kernel
theorem dX4_evenBeyondUneven_15 : decode cX4_evenBeyondUneven 15 = .ok (.ireturn, 1) := by decide +kernel
theorem dX4_bestGain_0 : decode cX4_bestGain 0 = .ok (.aload_n 0, 1) := by decide +kernel
theorem dX4_bestGain_1 : decode cX4_bestGain 1 = .ok (.getfield 57, 3) := by decide +kernel
theorem dX4_bestGain_4 : decode cX4_bestGain 4 = .ok (.iload_n 1, 1) := by decide +kernel
theorem dX4_bestGain_5 : decode cX4_bestGain 5 = .ok (.iaload, 1) := by decide +kernel
theorem dX4_bestGain_6 : decode cX4_bestGain 6 = .ok (.istore_n 3, 1) := by decide +kernel
theorem dX4_bestGain_7 : decode cX4_bestGain 7 = .ok (.iconst 0, 1) := by decide +kernel
theorem dX4_bestGain_8 : decode cX4_bestGain 8 = .ok (.istore 4, 2) := by decide +kernel
theorem dX4_bestGain_10 : decode cX4_bestGain 10 = .ok (.iload 4, 2) := by decide +kernel
theorem dX4_bestGain_12 : decode cX4_bestGain 12 = .ok (.aload_n 0, 1) := by decide +kernel
theorem dX4_bestGain_13 : decode cX4_bestGain 13 = .ok (.getfield 36, 3) := by decide +kernel
theorem dX4_bestGain_16 : decode cX4_bestGain 16 = .ok (.getfield 128, 3) := by decide +kernel
theorem dX4_bestGain_19 : decode cX4_bestGain 19 = .ok (.if_icmp .ge 42, 3) := by decide +kernel
theorem dX4_bestGain_22 : decode cX4_bestGain 22 = .ok (.aload_n 0, 1) := by decide +kernel
theorem dX4_bestGain_23 : decode cX4_bestGain 23 = .ok (.getfield 57, 3) := by decide +kernel
theorem dX4_bestGain_26 : decode cX4_bestGain 26 = .ok (.iload_n 1, 1) := by decide +kernel
theorem dX4_bestGain_27 : decode cX4_bestGain 27 = .ok (.iconst 1, 1) := by decide +kernel
theorem dX4_bestGain_28 : decode cX4_bestGain 28 = .ok (.iload 4, 2) := by decide +kernel
theorem dX4_bestGain_30 : decode cX4_bestGain 30 = .ok (.ishl, 1) := by decide +kernel
theorem dX4_bestGain_31 : decode cX4_bestGain 31 = .ok (.ixor, 1) := by decide +kernel
theorem dX4_bestGain_32 : decode cX4_bestGain 32 = .ok (.iaload, 1) := by decide +kernel
theorem dX4_bestGain_33 : decode cX4_bestGain 33 = .ok (.istore 5, 2) := by decide +kernel
theorem dX4_bestGain_35 : decode cX4_bestGain 35 = .ok (.iload_n 2, 1) := by decide +kernel
theorem dX4_bestGain_36 : decode cX4_bestGain 36 = .ok (.ifCond .eq 12, 3) := by decide +kernel
theorem dX4_bestGain_39 : decode cX4_bestGain 39 = .ok (.iload_n 3, 1) := by decide +kernel
theorem dX4_bestGain_40 : decode cX4_bestGain 40 = .ok (.iload 5, 2) := by decide +kernel
theorem dX4_bestGain_42 : decode cX4_bestGain 42 = .ok (.invokestatic 155, 3) := by decide +kernel
theorem dX4_bestGain_45 : decode cX4_bestGain 45 = .ok (.goto 9, 3) := by decide +kernel
theorem dX4_bestGain_48 : decode cX4_bestGain 48 = .ok (.iload_n 3, 1) := by decide +kernel
theorem dX4_bestGain_49 : decode cX4_bestGain 49 = .ok (.iload 5, 2) := by decide +kernel
theorem dX4_bestGain_51 : decode cX4_bestGain 51 = .ok (.invokestatic 304, 3) := by decide +kernel
theorem dX4_bestGain_54 : decode cX4_bestGain 54 = .ok (.istore_n 3, 1) := by decide +kernel
theorem dX4_bestGain_55 : decode cX4_bestGain 55 = .ok (.iinc 4 1, 3) := by decide +kernel
theorem dX4_bestGain_58 : decode cX4_bestGain 58 = .ok (.goto (-48), 3) := by decide +kernel
theorem dX4_bestGain_61 : decode cX4_bestGain 61 = .ok (.iload_n 3, 1) := by decide +kernel
theorem dX4_bestGain_62 : decode cX4_bestGain 62 = .ok (.ireturn, 1) := by decide +kernel
theorem dX4_tellMeanOfNextHour_0 : decode cX4_tellMeanOfNextHour 0 = .ok (.aload_n 0, 1) := by decide +kernel
theorem dX4_tellMeanOfNextHour_1 : decode cX4_tellMeanOfNextHour 1 = .ok (.getfield 36, 3) := by decide +kernel
theorem dX4_tellMeanOfNextHour_4 : decode cX4_tellMeanOfNextHour 4 = .ok (.invokevirtual 201, 3) := by decide +kernel
theorem dX4_tellMeanOfNextHour_7 : decode cX4_tellMeanOfNextHour 7 = .ok (.aload_n 0, 1) := by decide +kernel
theorem dX4_tellMeanOfNextHour_8 : decode cX4_tellMeanOfNextHour 8 = .ok (.getfield 36, 3) := by decide +kernel
theorem dX4_tellMeanOfNextHour_11 : decode cX4_tellMeanOfNextHour 11 = .ok (.getfield 265, 3) := by decide +kernel
theorem dX4_tellMeanOfNextHour_14 : decode cX4_tellMeanOfNextHour 14 = .ok (.iconst (-1), 1) := by decide +kernel
theorem dX4_tellMeanOfNextHour_15 : decode cX4_tellMeanOfNextHour 15 = .ok (.ixor, 1) := by decide +kernel
theorem dX4_tellMeanOfNextHour_16 : decode cX4_tellMeanOfNextHour 16 = .ok (.iand, 1) := by decide +kernel
theorem dX4_tellMeanOfNextHour_17 : decode cX4_tellMeanOfNextHour 17 = .ok (.istore_n 3, 1) := by decide +kernel
theorem dX4_tellMeanOfNextHour_18 : decode cX4_tellMeanOfNextHour 18 = .ok (.lconst 0, 1) := by decide +kernel
theorem dX4_tellMeanOfNextHour_19 : decode cX4_tellMeanOfNextHour 19 = .ok (.lstore 4, 2) := by decide +kernel
theorem dX4_tellMeanOfNextHour_21 : decode cX4_tellMeanOfNextHour 21 = .ok (.lconst 0, 1) := by decide +kernel
theorem dX4_tellMeanOfNextHour_22 : decode cX4_tellMeanOfNextHour 22 = .ok (.lstore 6, 2) := by decide +kernel
theorem dX4_tellMeanOfNextHour_24 : decode cX4_tellMeanOfNextHour 24 = .ok (.iconst 0, 1) := by decide +kernel
theorem dX4_tellMeanOfNextHour_25 : decode cX4_tellMeanOfNextHour 25 = .ok (.istore 8, 2) := by decide +kernel
theorem dX4_tellMeanOfNextHour_27 : decode cX4_tellMeanOfNextHour 27 = .ok (.iload 8, 2) := by decide +kernel
theorem dX4_tellMeanOfNextHour_29 : decode cX4_tellMeanOfNextHour 29 = .ok (.iload_n 3, 1) := by decide +kernel
theorem dX4_tellMeanOfNextHour_30 : decode cX4_tellMeanOfNextHour 30 = .ok (.if_icmp .gt 135, 3) := by decide +kernel
theorem dX4_tellMeanOfNextHour_33 : decode cX4_tellMeanOfNextHour 33 = .ok (.iload 8, 2) := by decide +kernel
theorem dX4_tellMeanOfNextHour_35 : decode cX4_tellMeanOfNextHour 35 = .ok (.iload_n 3, 1) := by decide +kernel
theorem dX4_tellMeanOfNextHour_36 : decode cX4_tellMeanOfNextHour 36 = .ok (.iconst (-1), 1) := by decide +kernel
theorem dX4_tellMeanOfNextHour_37 : decode cX4_tellMeanOfNextHour 37 = .ok (.ixor, 1) := by decide +kernel
theorem dX4_tellMeanOfNextHour_38 : decode cX4_tellMeanOfNextHour 38 = .ok (.iand, 1) := by decide +kernel
theorem dX4_tellMeanOfNextHour_39 : decode cX4_tellMeanOfNextHour 39 = .ok (.ifCond .ne 120, 3) := by decide +kernel
theorem dX4_tellMeanOfNextHour_42 : decode cX4_tellMeanOfNextHour 42 = .ok (.iload_n 2, 1) := by decide +kernel
theorem dX4_tellMeanOfNextHour_43 : decode cX4_tellMeanOfNextHour 43 = .ok (.i2l, 1) := by decide +kernel
theorem dX4_tellMeanOfNextHour_44 : decode cX4_tellMeanOfNextHour 44 = .ok (.iload 8, 2) := by decide +kernel
theorem dX4_tellMeanOfNextHour_46 : decode cX4_tellMeanOfNextHour 46 = .ok (.invokestatic 207, 3) := by decide +kernel
theorem dX4_tellMeanOfNextHour_49 : decode cX4_tellMeanOfNextHour 49 = .ok (.invokestatic 307, 3) := by decide +kernel
theorem dX4_tellMeanOfNextHour_52 : decode cX4_tellMeanOfNextHour 52 = .ok (.bipush 12, 2) := by decide +kernel
theorem dX4_tellMeanOfNextHour_54 : decode cX4_tellMeanOfNextHour 54 = .ok (.iload_n 2, 1) := by decide +kernel
theorem dX4_tellMeanOfNextHour_55 : decode cX4_tellMeanOfNextHour 55 = .ok (.isub, 1) := by decide +kernel
theorem dX4_tellMeanOfNextHour_56 : decode cX4_tellMeanOfNextHour 56 = .ok (.i2l, 1) := by decide +kernel
theorem dX4_tellMeanOfNextHour_57 : decode cX4_tellMeanOfNextHour 57 = .ok (.iload_n 3, 1) := by decide +kernel
theorem dX4_tellMeanOfNextHour_58 : decode cX4_tellMeanOfNextHour 58 = .ok (.iload 8, 2) := by decide +kernel
theorem dX4_tellMeanOfNextHour_60 : decode cX4_tellMeanOfNextHour 60 = .ok (.iconst (-1), 1) := by decide +kernel
theorem dX4_tellMeanOfNextHour_61 : decode cX4_tellMeanOfNextHour 61 = .ok (.ixor, 1) := by decide +kernel
theorem dX4_tellMeanOfNextHour_62 : decode cX4_tellMeanOfNextHour 62 = .ok (.iand, 1) := by decide +kernel
theorem dX4_tellMeanOfNextHour_63 : decode cX4_tellMeanOfNextHour 63 = .ok (.invokestatic 207, 3) := by decide +kernel
theorem dX4_tellMeanOfNextHour_66 : decode cX4_tellMeanOfNextHour 66 = .ok (.invokestatic 307, 3) := by decide +kernel
theorem dX4_tellMeanOfNextHour_69 : decode cX4_tellMeanOfNextHour 69 = .ok (.lmul, 1) := by decide +kernel
theorem dX4_tellMeanOfNextHour_70 : decode cX4_tellMeanOfNextHour 70 = .ok (.lstore 9, 2) := by decide +kernel
theorem dX4_tellMeanOfNextHour_72 : decode cX4_tellMeanOfNextHour 72 = .ok (.aload_n 0, 1) := by decide +kernel
theorem dX4_tellMeanOfNextHour_73 : decode cX4_tellMeanOfNextHour 73 = .ok (.getfield 40, 3) := by decide +kernel
theorem dX4_tellMeanOfNextHour_76 : decode cX4_tellMeanOfNextHour 76 = .ok (.aload_n 0, 1) := by decide +kernel
theorem dX4_tellMeanOfNextHour_77 : decode cX4_tellMeanOfNextHour 77 = .ok (.getfield 36, 3) := by decide +kernel
theorem dX4_tellMeanOfNextHour_80 : decode cX4_tellMeanOfNextHour 80 = .ok (.invokevirtual 124, 3) := by decide +kernel
theorem dX4_tellMeanOfNextHour_83 : decode cX4_tellMeanOfNextHour 83 = .ok (.aload_n 0, 1) := by decide +kernel
theorem dX4_tellMeanOfNextHour_84 : decode cX4_tellMeanOfNextHour 84 = .ok (.getfield 40, 3) := by decide +kernel
theorem dX4_tellMeanOfNextHour_87 : decode cX4_tellMeanOfNextHour 87 = .ok (.aload_n 0, 1) := by decide +kernel
theorem dX4_tellMeanOfNextHour_88 : decode cX4_tellMeanOfNextHour 88 = .ok (.getfield 36, 3) := by decide +kernel
theorem dX4_tellMeanOfNextHour_91 : decode cX4_tellMeanOfNextHour 91 = .ok (.getfield 265, 3) := by decide +kernel
theorem dX4_tellMeanOfNextHour_94 : decode cX4_tellMeanOfNextHour 94 = .ok (.iload 8, 2) := by decide +kernel
theorem dX4_tellMeanOfNextHour_96 : decode cX4_tellMeanOfNextHour 96 = .ok (.ior, 1) := by decide +kernel
theorem dX4_tellMeanOfNextHour_97 : decode cX4_tellMeanOfNextHour 97 = .ok (.putfield 265, 3) := by decide +kernel
theorem dX4_tellMeanOfNextHour_100 : decode cX4_tellMeanOfNextHour 100 = .ok (.aload_n 0, 1) := by decide +kernel
theorem dX4_tellMeanOfNextHour_101 : decode cX4_tellMeanOfNextHour 101 = .ok (.getfield 40, 3) := by decide +kernel
theorem dX4_tellMeanOfNextHour_104 : decode cX4_tellMeanOfNextHour 104 = .ok (.invokevirtual 191, 3) := by decide +kernel
theorem dX4_tellMeanOfNextHour_107 : decode cX4_tellMeanOfNextHour 107 = .ok (.istore 11, 2) := by decide +kernel
theorem dX4_tellMeanOfNextHour_109 : decode cX4_tellMeanOfNextHour 109 = .ok (.iload_n 1, 1) := by decide +kernel
theorem dX4_tellMeanOfNextHour_110 : decode cX4_tellMeanOfNextHour 110 = .ok (.bipush (-9), 2) := by decide +kernel
theorem dX4_tellMeanOfNextHour_112 : decode cX4_tellMeanOfNextHour 112 = .ok (.if_icmp .ne 13, 3) := by decide +kernel
theorem dX4_tellMeanOfNextHour_115 : decode cX4_tellMeanOfNextHour 115 = .ok (.aload_n 0, 1) := by decide +kernel
theorem dX4_tellMeanOfNextHour_116 : decode cX4_tellMeanOfNextHour 116 = .ok (.getfield 40, 3) := by decide +kernel
theorem dX4_tellMeanOfNextHour_119 : decode cX4_tellMeanOfNextHour 119 = .ok (.getfield 152, 3) := by decide +kernel
theorem dX4_tellMeanOfNextHour_122 : decode cX4_tellMeanOfNextHour 122 = .ok (.goto 17, 3) := by decide +kernel
theorem dX4_tellMeanOfNextHour_125 : decode cX4_tellMeanOfNextHour 125 = .ok (.iload 11, 2) := by decide +kernel
theorem dX4_tellMeanOfNextHour_127 : decode cX4_tellMeanOfNextHour 127 = .ok (.iload_n 1, 1) := by decide +kernel
theorem dX4_tellMeanOfNextHour_128 : decode cX4_tellMeanOfNextHour 128 = .ok (.invokestatic 198, 3) := by decide +kernel
theorem dX4_tellMeanOfNextHour_131 : decode cX4_tellMeanOfNextHour 131 = .ok (.ifCond .eq 7, 3) := by decide +kernel
theorem dX4_tellMeanOfNextHour_134 : decode cX4_tellMeanOfNextHour 134 = .ok (.iconst 1, 1) := by decide +kernel
theorem dX4_tellMeanOfNextHour_135 : decode cX4_tellMeanOfNextHour 135 = .ok (.goto 4, 3) := by decide +kernel
theorem dX4_tellMeanOfNextHour_138 : decode cX4_tellMeanOfNextHour 138 = .ok (.iconst 0, 1) := by decide +kernel
theorem dX4_tellMeanOfNextHour_139 : decode cX4_tellMeanOfNextHour 139 = .ok (.istore 12, 2) := by decide +kernel
theorem dX4_tellMeanOfNextHour_141 : decode cX4_tellMeanOfNextHour 141 = .ok (.lload 4, 2) := by decide +kernel
theorem dX4_tellMeanOfNextHour_143 : decode cX4_tellMeanOfNextHour 143 = .ok (.lload 9, 2) := by decide +kernel
theorem dX4_tellMeanOfNextHour_145 : decode cX4_tellMeanOfNextHour 145 = .ok (.iload 12, 2) := by decide +kernel
theorem dX4_tellMeanOfNextHour_147 : decode cX4_tellMeanOfNextHour 147 = .ok (.i2l, 1) := by decide +kernel
theorem dX4_tellMeanOfNextHour_148 : decode cX4_tellMeanOfNextHour 148 = .ok (.lmul, 1) := by decide +kernel
theorem dX4_tellMeanOfNextHour_149 : decode cX4_tellMeanOfNextHour 149 = .ok (.ladd, 1) := by decide +kernel
theorem dX4_tellMeanOfNextHour_150 : decode cX4_tellMeanOfNextHour 150 = .ok (.lstore 4, 2) := by decide +kernel
theorem dX4_tellMeanOfNextHour_152 : decode cX4_tellMeanOfNextHour 152 = .ok (.lload 6, 2) := by decide +kernel
theorem dX4_tellMeanOfNextHour_154 : decode cX4_tellMeanOfNextHour 154 = .ok (.lload 9, 2) := by decide +kernel
theorem dX4_tellMeanOfNextHour_156 : decode cX4_tellMeanOfNextHour 156 = .ok (.ladd, 1) := by decide +kernel
theorem dX4_tellMeanOfNextHour_157 : decode cX4_tellMeanOfNextHour 157 = .ok (.lstore 6, 2) := by decide +kernel
theorem dX4_tellMeanOfNextHour_159 : decode cX4_tellMeanOfNextHour 159 = .ok (.iinc 8 1, 3) := by decide +kernel
theorem dX4_tellMeanOfNextHour_162 : decode cX4_tellMeanOfNextHour 162 = .ok (.goto (-135), 3) := by decide +kernel
theorem dX4_tellMeanOfNextHour_165 : decode cX4_tellMeanOfNextHour 165 = .ok (.aload_n 0, 1) := by decide +kernel
theorem dX4_tellMeanOfNextHour_166 : decode cX4_tellMeanOfNextHour 166 = .ok (.lload 4, 2) := by decide +kernel
theorem dX4_tellMeanOfNextHour_168 : decode cX4_tellMeanOfNextHour 168 = .ok (.lload 6, 2) := by decide +kernel
theorem dX4_tellMeanOfNextHour_170 : decode cX4_tellMeanOfNextHour 170 = .ok (.invokevirtual 227, 3) := by decide +kernel
theorem dX4_tellMeanOfNextHour_173 : decode cX4_tellMeanOfNextHour 173 = .ok (.return_, 1) := by decide +kernel
theorem dX4_power_0 : decode cX4_power 0 = .ok (.lconst 1, 1) := by decide +kernel
theorem dX4_power_1 : decode cX4_power 1 = .ok (.lstore_n 3, 1) := by decide +kernel
theorem dX4_power_2 : decode cX4_power 2 = .ok (.iconst 0, 1) := by decide +kernel
theorem dX4_power_3 : decode cX4_power 3 = .ok (.istore 5, 2) := by decide +kernel
theorem dX4_power_5 : decode cX4_power 5 = .ok (.iload 5, 2) := by decide +kernel
theorem dX4_power_7 : decode cX4_power 7 = .ok (.iload_n 2, 1) := by decide +kernel
theorem dX4_power_8 : decode cX4_power 8 = .ok (.if_icmp .ge 13, 3) := by decide +kernel
theorem dX4_power_11 : decode cX4_power 11 = .ok (.lload_n 3, 1) := by decide +kernel
theorem dX4_power_12 : decode cX4_power 12 = .ok (.lload_n 0, 1) := by decide +kernel
theorem dX4_power_13 : decode cX4_power 13 = .ok (.lmul, 1) := by decide +kernel
theorem dX4_power_14 : decode cX4_power 14 = .ok (.lstore_n 3, 1) := by decide +kernel
theorem dX4_power_15 : decode cX4_power 15 = .ok (.iinc 5 1, 3) := by decide +kernel
theorem dX4_power_18 : decode cX4_power 18 = .ok (.goto (-13), 3) := by decide +kernel
theorem dX4_power_21 : decode cX4_power 21 = .ok (.lload_n 3, 1) := by decide +kernel
theorem dX4_power_22 : decode cX4_power 22 = .ok (.lreturn, 1) := by decide +kernel
