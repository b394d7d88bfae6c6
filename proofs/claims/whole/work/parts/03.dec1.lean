theorem dX2_countSilenced_18 : decode cX2_countSilenced 18 = .ok (.ifCond .eq 6, 3) := by decide +kernel
theorem dX2_countSilenced_21 : decode cX2_countSilenced 21 = .ok (.iinc 2 1, 3) := by decide +kernel
theorem dX2_countSilenced_24 : decode cX2_countSilenced 24 = .ok (.iinc 3 1, 3) := by decide +kernel
theorem dX2_countSilenced_27 : decode cX2_countSilenced 27 = .ok (.goto (-23), 3) := by decide +kernel
theorem dX2_countSilenced_30 : decode cX2_countSilenced 30 = .ok (.iload_n 2, 1) := by decide +kernel
theorem dX2_countSilenced_31 : decode cX2_countSilenced 31 = .ok (.ireturn, 1) := by decide +kernel
theorem dX2_countAfter_0 : decode cX2_countAfter 0 = .ok (.iconst 0, 1) := by decide +kernel
theorem dX2_countAfter_1 : decode cX2_countAfter 1 = .ok (.istore 4, 2) := by decide +kernel
theorem dX2_countAfter_3 : decode cX2_countAfter 3 = .ok (.iconst 0, 1) := by decide +kernel
theorem dX2_countAfter_4 : decode cX2_countAfter 4 = .ok (.istore 5, 2) := by decide +kernel
theorem dX2_countAfter_6 : decode cX2_countAfter 6 = .ok (.iload 5, 2) := by decide +kernel
theorem dX2_countAfter_8 : decode cX2_countAfter 8 = .ok (.aload_n 0, 1) := by decide +kernel
theorem dX2_countAfter_9 : decode cX2_countAfter 9 = .ok (.getfield 30, 3) := by decide +kernel
theorem dX2_countAfter_12 : decode cX2_countAfter 12 = .ok (.if_icmp .ge 49, 3) := by decide +kernel
theorem dX2_countAfter_15 : decode cX2_countAfter 15 = .ok (.iload_n 2, 1) := by decide +kernel
theorem dX2_countAfter_16 : decode cX2_countAfter 16 = .ok (.ifCond .eq 13, 3) := by decide +kernel
theorem dX2_countAfter_19 : decode cX2_countAfter 19 = .ok (.aload_n 0, 1) := by decide +kernel
theorem dX2_countAfter_20 : decode cX2_countAfter 20 = .ok (.iload 5, 2) := by decide +kernel
theorem dX2_countAfter_22 : decode cX2_countAfter 22 = .ok (.iload_n 3, 1) := by decide +kernel
theorem dX2_countAfter_23 : decode cX2_countAfter 23 = .ok (.invokevirtual 34, 3) := by decide +kernel
theorem dX2_countAfter_26 : decode cX2_countAfter 26 = .ok (.ifCond .ne 7, 3) := by decide +kernel
theorem dX2_countAfter_29 : decode cX2_countAfter 29 = .ok (.iconst 1, 1) := by decide +kernel
theorem dX2_countAfter_30 : decode cX2_countAfter 30 = .ok (.goto 4, 3) := by decide +kernel
theorem dX2_countAfter_33 : decode cX2_countAfter 33 = .ok (.iconst 0, 1) := by decide +kernel
theorem dX2_countAfter_34 : decode cX2_countAfter 34 = .ok (.istore 6, 2) := by decide +kernel
theorem dX2_countAfter_36 : decode cX2_countAfter 36 = .ok (.aload_n 0, 1) := by decide +kernel
theorem dX2_countAfter_37 : decode cX2_countAfter 37 = .ok (.getfield 21, 3) := by decide +kernel
theorem dX2_countAfter_40 : decode cX2_countAfter 40 = .ok (.iload 5, 2) := by decide +kernel
theorem dX2_countAfter_42 : decode cX2_countAfter 42 = .ok (.iaload, 1) := by decide +kernel
theorem dX2_countAfter_43 : decode cX2_countAfter 43 = .ok (.iload_n 1, 1) := by decide +kernel
theorem dX2_countAfter_44 : decode cX2_countAfter 44 = .ok (.if_icmp .le 11, 3) := by decide +kernel
theorem dX2_countAfter_47 : decode cX2_countAfter 47 = .ok (.iload 6, 2) := by decide +kernel
theorem dX2_countAfter_49 : decode cX2_countAfter 49 = .ok (.ifCond .eq 6, 3) := by decide +kernel
theorem dX2_countAfter_52 : decode cX2_countAfter 52 = .ok (.iinc 4 1, 3) := by decide +kernel
theorem dX2_countAfter_55 : decode cX2_countAfter 55 = .ok (.iinc 5 1, 3) := by decide +kernel
theorem dX2_countAfter_58 : decode cX2_countAfter 58 = .ok (.goto (-52), 3) := by decide +kernel
theorem dX2_countAfter_61 : decode cX2_countAfter 61 = .ok (.iload 4, 2) := by decide +kernel
theorem dX2_countAfter_63 : decode cX2_countAfter 63 = .ok (.ireturn, 1) := by decide +kernel
theorem dX3_init_0 : decode cX3_init 0 = .ok (.aload_n 0, 1) := by decide +kernel
theorem dX3_init_1 : decode cX3_init 1 = .ok (.invokespecial 3, 3) := by decide +kernel
theorem dX3_init_4 : decode cX3_init 4 = .ok (.aload_n 0, 1) := by decide +kernel
theorem dX3_init_5 : decode cX3_init 5 = .ok (.bipush 33, 2) := by decide +kernel
theorem dX3_init_7 : decode cX3_init 7 = .ok (.bipush 33, 2) := by decide +kernel
theorem dX3_init_9 : decode cX3_init 9 = .ok (.multianewarray 9 2, 4) := by decide +kernel
theorem dX3_init_13 : decode cX3_init 13 = .ok (.putfield 11, 3) := by decide +kernel
theorem dX3_init_16 : decode cX3_init 16 = .ok (.aload_n 0, 1) := by decide +kernel
theorem dX3_init_17 : decode cX3_init 17 = .ok (.bipush 32, 2) := by decide +kernel
theorem dX3_init_19 : decode cX3_init 19 = .ok (.newarray .int, 2) := by decide +kernel
theorem dX3_init_21 : decode cX3_init 21 = .ok (.putfield 16, 3) := by decide +kernel
theorem dX3_init_24 : decode cX3_init 24 = .ok (.return_, 1) := by decide +kernel
theorem dX3_idAt_0 : decode cX3_idAt 0 = .ok (.aload_n 0, 1) := by decide +kernel
theorem dX3_idAt_1 : decode cX3_idAt 1 = .ok (.getfield 16, 3) := by decide +kernel
theorem dX3_idAt_4 : decode cX3_idAt 4 = .ok (.iload_n 1, 1) := by decide +kernel
theorem dX3_idAt_5 : decode cX3_idAt 5 = .ok (.iaload, 1) := by decide +kernel
theorem dX3_idAt_6 : decode cX3_idAt 6 = .ok (.ireturn, 1) := by decide +kernel
theorem dX3_match_0 : decode cX3_match 0 = .ok (.aload_n 2, 1) := by decide +kernel
theorem dX3_match_1 : decode cX3_match 1 = .ok (.invokevirtual 20, 3) := by decide +kernel
theorem dX3_match_4 : decode cX3_match 4 = .ok (.bipush 32, 2) := by decide +kernel
theorem dX3_match_6 : decode cX3_match 6 = .ok (.if_icmp .le 5, 3) := by decide +kernel
theorem dX3_match_9 : decode cX3_match 9 = .ok (.iconst 0, 1) := by decide +kernel
theorem dX3_match_10 : decode cX3_match 10 = .ok (.ireturn, 1) := by decide +kernel
theorem dX3_match_11 : decode cX3_match 11 = .ok (.aload_n 0, 1) := by decide +kernel
theorem dX3_match_12 : decode cX3_match 12 = .ok (.aload_n 1, 1) := by decide +kernel
theorem dX3_match_13 : decode cX3_match 13 = .ok (.aload_n 2, 1) := by decide +kernel
theorem dX3_match_14 : decode cX3_match 14 = .ok (.invokevirtual 26, 3) := by decide +kernel
theorem dX3_match_17 : decode cX3_match 17 = .ok (.iconst 0, 1) := by decide +kernel
theorem dX3_match_18 : decode cX3_match 18 = .ok (.istore 4, 2) := by decide +kernel
theorem dX3_match_20 : decode cX3_match 20 = .ok (.iconst 0, 1) := by decide +kernel
theorem dX3_match_21 : decode cX3_match 21 = .ok (.istore 5, 2) := by decide +kernel
theorem dX3_match_23 : decode cX3_match 23 = .ok (.iconst 0, 1) := by decide +kernel
theorem dX3_match_24 : decode cX3_match 24 = .ok (.istore 6, 2) := by decide +kernel
theorem dX3_match_26 : decode cX3_match 26 = .ok (.iload 6, 2) := by decide +kernel
theorem dX3_match_28 : decode cX3_match 28 = .ok (.aload_n 2, 1) := by decide +kernel
theorem dX3_match_29 : decode cX3_match 29 = .ok (.invokevirtual 20, 3) := by decide +kernel
theorem dX3_match_32 : decode cX3_match 32 = .ok (.if_icmp .ge 97, 3) := by decide +kernel
theorem dX3_match_35 : decode cX3_match 35 = .ok (.iload 5, 2) := by decide +kernel
theorem dX3_match_37 : decode cX3_match 37 = .ok (.aload_n 1, 1) := by decide +kernel
theorem dX3_match_38 : decode cX3_match 38 = .ok (.invokevirtual 30, 3) := by decide +kernel
theorem dX3_match_41 : decode cX3_match 41 = .ok (.if_icmp .ge 22, 3) := by decide +kernel
theorem dX3_match_44 : decode cX3_match 44 = .ok (.aload_n 0, 1) := by decide +kernel
theorem dX3_match_45 : decode cX3_match 45 = .ok (.aload_n 1, 1) := by decide +kernel
theorem dX3_match_46 : decode cX3_match 46 = .ok (.aload_n 2, 1) := by decide +kernel
theorem dX3_match_47 : decode cX3_match 47 = .ok (.iload 5, 2) := by decide +kernel
theorem dX3_match_49 : decode cX3_match 49 = .ok (.iload 6, 2) := by decide +kernel
theorem dX3_match_51 : decode cX3_match 51 = .ok (.invokevirtual 33, 3) := by decide +kernel
theorem dX3_match_54 : decode cX3_match 54 = .ok (.ifCond .eq 9, 3) := by decide +kernel
theorem dX3_match_57 : decode cX3_match 57 = .ok (.iinc 5 1, 3) := by decide +kernel
theorem dX3_match_60 : decode cX3_match 60 = .ok (.goto (-25), 3) := by decide +kernel
theorem dX3_match_63 : decode cX3_match 63 = .ok (.iload 5, 2) := by decide +kernel
theorem dX3_match_65 : decode cX3_match 65 = .ok (.aload_n 1, 1) := by decide +kernel
theorem dX3_match_66 : decode cX3_match 66 = .ok (.invokevirtual 30, 3) := by decide +kernel
theorem dX3_match_69 : decode cX3_match 69 = .ok (.if_icmp .ge 40, 3) := by decide +kernel
theorem dX3_match_72 : decode cX3_match 72 = .ok (.aload_n 1, 1) := by decide +kernel
theorem dX3_match_73 : decode cX3_match 73 = .ok (.iload 5, 2) := by decide +kernel
theorem dX3_match_75 : decode cX3_match 75 = .ok (.invokevirtual 37, 3) := by decide +kernel
theorem dX3_match_78 : decode cX3_match 78 = .ok (.aload_n 2, 1) := by decide +kernel
theorem dX3_match_79 : decode cX3_match 79 = .ok (.iload 6, 2) := by decide +kernel
theorem dX3_match_81 : decode cX3_match 81 = .ok (.invokevirtual 41, 3) := by decide +kernel
theorem dX3_match_84 : decode cX3_match 84 = .ok (.if_icmp .ne 25, 3) := by decide +kernel
theorem dX3_match_87 : decode cX3_match 87 = .ok (.aload_n 0, 1) := by decide +kernel
theorem dX3_match_88 : decode cX3_match 88 = .ok (.getfield 16, 3) := by decide +kernel
theorem dX3_match_91 : decode cX3_match 91 = .ok (.iload 6, 2) := by decide +kernel
theorem dX3_match_93 : decode cX3_match 93 = .ok (.aload_n 1, 1) := by decide +kernel
theorem dX3_match_94 : decode cX3_match 94 = .ok (.iload 5, 2) := by decide +kernel
theorem dX3_match_96 : decode cX3_match 96 = .ok (.invokevirtual 42, 3) := by decide +kernel
theorem dX3_match_99 : decode cX3_match 99 = .ok (.iastore, 1) := by decide +kernel
theorem dX3_match_100 : decode cX3_match 100 = .ok (.iinc 4 1, 3) := by decide +kernel
theorem dX3_match_103 : decode cX3_match 103 = .ok (.iinc 5 1, 3) := by decide +kernel
theorem dX3_match_106 : decode cX3_match 106 = .ok (.goto 17, 3) := by decide +kernel
theorem dX3_match_109 : decode cX3_match 109 = .ok (.aload_n 0, 1) := by decide +kernel
theorem dX3_match_110 : decode cX3_match 110 = .ok (.getfield 16, 3) := by decide +kernel
theorem dX3_match_113 : decode cX3_match 113 = .ok (.iload 6, 2) := by decide +kernel
theorem dX3_match_115 : decode cX3_match 115 = .ok (.iload_n 3, 1) := by decide +kernel
theorem dX3_match_116 : decode cX3_match 116 = .ok (.iload 6, 2) := by decide +kernel
theorem dX3_match_118 : decode cX3_match 118 = .ok (.iadd, 1) := by decide +kernel
theorem dX3_match_119 : decode cX3_match 119 = .ok (.iload 4, 2) := by decide +kernel
theorem dX3_match_121 : decode cX3_match 121 = .ok (.isub, 1) := by decide +kernel
theorem dX3_match_122 : decode cX3_match 122 = .ok (.iastore, 1) := by decide +kernel
theorem dX3_match_123 : decode cX3_match 123 = .ok (.iinc 6 1, 3) := by decide +kernel
theorem dX3_match_126 : decode cX3_match 126 = .ok (.goto (-100), 3) := by decide +kernel
theorem dX3_match_129 : decode cX3_match 129 = .ok (.iload 4, 2) := by decide +kernel
theorem dX3_match_131 : decode cX3_match 131 = .ok (.ireturn, 1) := by decide +kernel
theorem dX3_isGone_0 : decode cX3_isGone 0 = .ok (.aload_n 1, 1) := by decide +kernel
theorem dX3_isGone_1 : decode cX3_isGone 1 = .ok (.iload_n 3, 1) := by decide +kernel
theorem dX3_isGone_2 : decode cX3_isGone 2 = .ok (.invokevirtual 37, 3) := by decide +kernel
theorem dX3_isGone_5 : decode cX3_isGone 5 = .ok (.aload_n 2, 1) := by decide +kernel
theorem dX3_isGone_6 : decode cX3_isGone 6 = .ok (.iload 4, 2) := by decide +kernel
theorem dX3_isGone_8 : decode cX3_isGone 8 = .ok (.invokevirtual 41, 3) := by decide +kernel
theorem dX3_isGone_11 : decode cX3_isGone 11 = .ok (.if_icmp .eq 30, 3) := by decide +kernel
theorem dX3_isGone_14 : decode cX3_isGone 14 = .ok (.aload_n 0, 1) := by decide +kernel
theorem dX3_isGone_15 : decode cX3_isGone 15 = .ok (.getfield 11, 3) := by decide +kernel
theorem dX3_isGone_18 : decode cX3_isGone 18 = .ok (.iload_n 3, 1) := by decide +kernel
theorem dX3_isGone_19 : decode cX3_isGone 19 = .ok (.iconst 1, 1) := by decide +kernel
theorem dX3_isGone_20 : decode cX3_isGone 20 = .ok (.iadd, 1) := by decide +kernel
theorem dX3_isGone_21 : decode cX3_isGone 21 = .ok (.aaload, 1) := by decide +kernel
theorem dX3_isGone_22 : decode cX3_isGone 22 = .ok (.iload 4, 2) := by decide +kernel
theorem dX3_isGone_24 : decode cX3_isGone 24 = .ok (.iaload, 1) := by decide +kernel
theorem dX3_isGone_25 : decode cX3_isGone 25 = .ok (.aload_n 0, 1) := by decide +kernel
theorem dX3_isGone_26 : decode cX3_isGone 26 = .ok (.getfield 11, 3) := by decide +kernel
theorem dX3_isGone_29 : decode cX3_isGone 29 = .ok (.iload_n 3, 1) := by decide +kernel
theorem dX3_isGone_30 : decode cX3_isGone 30 = .ok (.aaload, 1) := by decide +kernel
theorem dX3_isGone_31 : decode cX3_isGone 31 = .ok (.iload 4, 2) := by decide +kernel
theorem dX3_isGone_33 : decode cX3_isGone 33 = .ok (.iaload, 1) := by decide +kernel
theorem dX3_isGone_34 : decode cX3_isGone 34 = .ok (.if_icmp .ne 7, 3) := by decide +kernel
theorem dX3_isGone_37 : decode cX3_isGone 37 = .ok (.iconst 1, 1) := by decide +kernel
theorem dX3_isGone_38 : decode cX3_isGone 38 = .ok (.goto 4, 3) := by decide +kernel
theorem dX3_isGone_41 : decode cX3_isGone 41 = .ok (.iconst 0, 1) := by decide +kernel
theorem dX3_isGone_42 : decode cX3_isGone 42 = .ok (.ireturn, 1) := by decide +kernel
theorem dX3_measure_0 : decode cX3_measure 0 = .ok (.aload_n 1, 1) := by decide +kernel
theorem dX3_measure_1 : decode cX3_measure 1 = .ok (.invokevirtual 30, 3) := by decide +kernel
theorem dX3_measure_4 : decode cX3_measure 4 = .ok (.istore_n 3, 1) := by decide +kernel
theorem dX3_measure_5 : decode cX3_measure 5 = .ok (.iload_n 3, 1) := by decide +kernel
theorem dX3_measure_6 : decode cX3_measure 6 = .ok (.ifCond .lt 44, 3) := by decide +kernel
theorem dX3_measure_9 : decode cX3_measure 9 = .ok (.aload_n 2, 1) := by decide +kernel
theorem dX3_measure_10 : decode cX3_measure 10 = .ok (.invokevirtual 20, 3) := by decide +kernel
theorem dX3_measure_13 : decode cX3_measure 13 = .ok (.istore 4, 2) := by decide +kernel
theorem dX3_measure_15 : decode cX3_measure 15 = .ok (.iload 4, 2) := by decide +kernel
theorem dX3_measure_17 : decode cX3_measure 17 = .ok (.ifCond .lt 27, 3) := by decide +kernel
theorem dX3_measure_20 : decode cX3_measure 20 = .ok (.aload_n 0, 1) := by decide +kernel
theorem dX3_measure_21 : decode cX3_measure 21 = .ok (.getfield 11, 3) := by decide +kernel
theorem dX3_measure_24 : decode cX3_measure 24 = .ok (.iload_n 3, 1) := by decide +kernel
theorem dX3_measure_25 : decode cX3_measure 25 = .ok (.aaload, 1) := by decide +kernel
theorem dX3_measure_26 : decode cX3_measure 26 = .ok (.iload 4, 2) := by decide +kernel
theorem dX3_measure_28 : decode cX3_measure 28 = .ok (.aload_n 0, 1) := by decide +kernel
theorem dX3_measure_29 : decode cX3_measure 29 = .ok (.aload_n 1, 1) := by decide +kernel
theorem dX3_measure_30 : decode cX3_measure 30 = .ok (.aload_n 2, 1) := by decide +kernel
theorem dX3_measure_31 : decode cX3_measure 31 = .ok (.iload_n 3, 1) := by decide +kernel
theorem dX3_measure_32 : decode cX3_measure 32 = .ok (.iload 4, 2) := by decide +kernel
theorem dX3_measure_34 : decode cX3_measure 34 = .ok (.invokevirtual 45, 3) := by decide +kernel
theorem dX3_measure_37 : decode cX3_measure 37 = .ok (.iastore, 1) := by decide +kernel
theorem dX3_measure_38 : decode cX3_measure 38 = .ok (.iinc 4 (-1), 3) := by decide +kernel
theorem dX3_measure_41 : decode cX3_measure 41 = .ok (.goto (-26), 3) := by decide +kernel
theorem dX3_measure_44 : decode cX3_measure 44 = .ok (.iinc 3 (-1), 3) := by decide +kernel
theorem dX3_measure_47 : decode cX3_measure 47 = .ok (.goto (-42), 3) := by decide +kernel
theorem dX3_measure_50 : decode cX3_measure 50 = .ok (.return_, 1) := by decide +kernel
theorem dX3_longestFrom_0 : decode cX3_longestFrom 0 = .ok (.iload_n 3, 1) := by decide +kernel
theorem dX3_longestFrom_1 : decode cX3_longestFrom 1 = .ok (.aload_n 1, 1) := by decide +kernel
theorem dX3_longestFrom_2 : decode cX3_longestFrom 2 = .ok (.invokevirtual 30, 3) := by decide +kernel
theorem dX3_longestFrom_5 : decode cX3_longestFrom 5 = .ok (.if_icmp .ge 12, 3) := by decide +kernel
theorem dX3_longestFrom_8 : decode cX3_longestFrom 8 = .ok (.iload 4, 2) := by decide +kernel
theorem dX3_longestFrom_10 : decode cX3_longestFrom 10 = .ok (.aload_n 2, 1) := by decide +kernel
theorem dX3_longestFrom_11 : decode cX3_longestFrom 11 = .ok (.invokevirtual 20, 3) := by decide +kernel
theorem dX3_longestFrom_14 : decode cX3_longestFrom 14 = .ok (.if_icmp .lt 5, 3) := by decide +kernel
theorem dX3_longestFrom_17 : decode cX3_longestFrom 17 = .ok (.iconst 0, 1) := by decide +kernel
theorem dX3_longestFrom_18 : decode cX3_longestFrom 18 = .ok (.ireturn, 1) := by decide +kernel
theorem dX3_longestFrom_19 : decode cX3_longestFrom 19 = .ok (.aload_n 1, 1) := by decide +kernel
theorem dX3_longestFrom_20 : decode cX3_longestFrom 20 = .ok (.iload_n 3, 1) := by decide +kernel
theorem dX3_longestFrom_21 : decode cX3_longestFrom 21 = .ok (.invokevirtual 37, 3) := by decide +kernel
theorem dX3_longestFrom_24 : decode cX3_longestFrom 24 = .ok (.aload_n 2, 1) := by decide +kernel
theorem dX3_longestFrom_25 : decode cX3_longestFrom 25 = .ok (.iload 4, 2) := by decide +kernel
theorem dX3_longestFrom_27 : decode cX3_longestFrom 27 = .ok (.invokevirtual 41, 3) := by decide +kernel
theorem dX3_longestFrom_30 : decode cX3_longestFrom 30 = .ok (.if_icmp .ne 19, 3) := by decide +kernel
theorem dX3_longestFrom_33 : decode cX3_longestFrom 33 = .ok (.iconst 1, 1) := by decide +kernel
theorem dX3_longestFrom_34 : decode cX3_longestFrom 34 = .ok (.aload_n 0, 1) := by decide +kernel
theorem dX3_longestFrom_35 : decode cX3_longestFrom 35 = .ok (.getfield 11, 3) := by decide +kernel
theorem dX3_longestFrom_38 : decode cX3_longestFrom 38 = .ok (.iload_n 3, 1) := by decide +kernel
theorem dX3_longestFrom_39 : decode cX3_longestFrom 39 = .ok (.iconst 1, 1) := by decide +kernel
theorem dX3_longestFrom_40 : decode cX3_longestFrom 40 = .ok (.iadd, 1) := by decide +kernel
theorem dX3_longestFrom_41 : decode cX3_longestFrom 41 = .ok (.aaload, 1) := by decide +kernel
theorem dX3_longestFrom_42 : decode cX3_longestFrom 42 = .ok (.iload 4, 2) := by decide +kernel
theorem dX3_longestFrom_44 : decode cX3_longestFrom 44 = .ok (.iconst 1, 1) := by decide +kernel
theorem dX3_longestFrom_45 : decode cX3_longestFrom 45 = .ok (.iadd, 1) := by decide +kernel
theorem dX3_longestFrom_46 : decode cX3_longestFrom 46 = .ok (.iaload, 1) := by decide +kernel
theorem dX3_longestFrom_47 : decode cX3_longestFrom 47 = .ok (.iadd, 1) := by decide +kernel
theorem dX3_longestFrom_48 : decode cX3_longestFrom 48 = .ok (.ireturn, 1) := by decide +kernel
theorem dX3_longestFrom_49 : decode cX3_longestFrom 49 = .ok (.aload_n 0, 1) := by decide +kernel
theorem dX3_longestFrom_50 : decode cX3_longestFrom 50 = .ok (.getfield 11, 3) := by decide +kernel
theorem dX3_longestFrom_53 : decode cX3_longestFrom 53 = .ok (.iload_n 3, 1) := by decide +kernel
theorem dX3_longestFrom_54 : decode cX3_longestFrom 54 = .ok (.iconst 1, 1) := by decide +kernel
theorem dX3_longestFrom_55 : decode cX3_longestFrom 55 = .ok (.iadd, 1) := by decide +kernel
theorem dX3_longestFrom_56 : decode cX3_longestFrom 56 = .ok (.aaload, 1) := by decide +kernel
theorem dX3_longestFrom_57 : decode cX3_longestFrom 57 = .ok (.iload 4, 2) := by decide +kernel
theorem dX3_longestFrom_59 : decode cX3_longestFrom 59 = .ok (.iaload, 1) := by decide +kernel
theorem dX3_longestFrom_60 : decode cX3_longestFrom 60 = .ok (.aload_n 0, 1) := by decide +kernel
theorem dX3_longestFrom_61 : decode cX3_longestFrom 61 = .ok (.getfield 11, 3) := by decide +kernel
theorem dX3_longestFrom_64 : decode cX3_longestFrom 64 = .ok (.iload_n 3, 1) := by decide +kernel
theorem dX3_longestFrom_65 : decode cX3_longestFrom 65 = .ok (.aaload, 1) := by decide +kernel
theorem dX3_longestFrom_66 : decode cX3_longestFrom 66 = .ok (.iload 4, 2) := by decide +kernel
theorem dX3_longestFrom_68 : decode cX3_longestFrom 68 = .ok (.iconst 1, 1) := by decide +kernel
theorem dX3_longestFrom_69 : decode cX3_longestFrom 69 = .ok (.iadd, 1) := by decide +kernel
theorem dX3_longestFrom_70 : decode cX3_longestFrom 70 = .ok (.iaload, 1) := by decide +kernel
theorem dX3_longestFrom_71 : decode cX3_longestFrom 71 = .ok (.invokestatic 49, 3) := by decide +kernel
theorem dX3_longestFrom_74 : decode cX3_longestFrom 74 = .ok (.ireturn, 1) := by decide +kernel
theorem dX4_init_0 : decode cX4_init 0 = .ok (.aload_n 0, 1) := by decide +kernel
theorem dX4_init_1 : decode cX4_init 1 = .ok (.invokespecial 3, 3) := by decide +kernel
theorem dX4_init_4 : decode cX4_init 4 = .ok (.aload_n 0, 1) := by decide +kernel
theorem dX4_init_5 : decode cX4_init 5 = .ok (.bipush 32, 2) := by decide +kernel
theorem dX4_init_7 : decode cX4_init 7 = .ok (.newarray .int, 2) := by decide +kernel
theorem dX4_init_9 : decode cX4_init 9 = .ok (.putfield 9, 3) := by decide +kernel
theorem dX4_init_12 : decode cX4_init 12 = .ok (.aload_n 0, 1) := by decide +kernel
theorem dX4_init_13 : decode cX4_init 13 = .ok (.bipush 32, 2) := by decide +kernel
theorem dX4_init_15 : decode cX4_init 15 = .ok (.newarray .int, 2) := by decide +kernel
theorem dX4_init_17 : decode cX4_init 17 = .ok (.putfield 15, 3) := by decide +kernel
theorem dX4_init_20 : decode cX4_init 20 = .ok (.aload_n 0, 1) := by decide +kernel
theorem dX4_init_21 : decode cX4_init 21 = .ok (.new 18, 3) := by decide +kernel
theorem dX4_init_24 : decode cX4_init 24 = .ok (.dup, 1) := by decide +kernel
theorem dX4_init_25 : decode cX4_init 25 = .ok (.invokespecial 20, 3) := by decide +kernel
theorem dX4_init_28 : decode cX4_init 28 = .ok (.putfield 21, 3) := by decide +kernel
theorem dX4_init_31 : decode cX4_init 31 = .ok (.aload_n 0, 1) := by decide +kernel
theorem dX4_init_32 : decode cX4_init 32 = .ok (.new 18, 3) := by decide +kernel
theorem dX4_init_35 : decode cX4_init 35 = .ok (.dup, 1) := by decide +kernel
theorem dX4_init_36 : decode cX4_init 36 = .ok (.invokespecial 20, 3) := by decide +kernel
theorem dX4_init_39 : decode cX4_init 39 = .ok (.putfield 25, 3) := by decide +kernel
theorem dX4_init_42 : decode cX4_init 42 = .ok (.return_, 1) := by decide +kernel
theorem dX4_size_0 : decode cX4_size 0 = .ok (.aload_n 0, 1) := by decide +kernel
theorem dX4_size_1 : decode cX4_size 1 = .ok (.getfield 28, 3) := by decide +kernel
theorem dX4_size_4 : decode cX4_size 4 = .ok (.ireturn, 1) := by decide +kernel
theorem dX4_hasLine_0 : decode cX4_hasLine 0 = .ok (.iload_n 1, 1) := by decide +kernel
theorem dX4_hasLine_1 : decode cX4_hasLine 1 = .ok (.ifCond .lt 15, 3) := by decide +kernel
theorem dX4_hasLine_4 : decode cX4_hasLine 4 = .ok (.iload_n 1, 1) := by decide +kernel
theorem dX4_hasLine_5 : decode cX4_hasLine 5 = .ok (.aload_n 0, 1) := by decide +kernel
theorem dX4_hasLine_6 : decode cX4_hasLine 6 = .ok (.getfield 28, 3) := by decide +kernel
theorem dX4_hasLine_9 : decode cX4_hasLine 9 = .ok (.if_icmp .ge 7, 3) := by decide +kernel
theorem dX4_hasLine_12 : decode cX4_hasLine 12 = .ok (.iconst 1, 1) := by decide +kernel
theorem dX4_hasLine_13 : decode cX4_hasLine 13 = .ok (.goto 4, 3) := by decide +kernel
theorem dX4_hasLine_16 : decode cX4_hasLine 16 = .ok (.iconst 0, 1) := by decide +kernel
theorem dX4_hasLine_17 : decode cX4_hasLine 17 = .ok (.ireturn, 1) := by decide +kernel
theorem dX4_takesLine_0 : decode cX4_takesLine 0 = .ok (.iload_n 1, 1) := by decide +kernel
theorem dX4_takesLine_1 : decode cX4_takesLine 1 = .ok (.ifCond .lt 24, 3) := by decide +kernel
theorem dX4_takesLine_4 : decode cX4_takesLine 4 = .ok (.iload_n 1, 1) := by decide +kernel
theorem dX4_takesLine_5 : decode cX4_takesLine 5 = .ok (.aload_n 0, 1) := by decide +kernel
theorem dX4_takesLine_6 : decode cX4_takesLine 6 = .ok (.getfield 28, 3) := by decide +kernel
theorem dX4_takesLine_9 : decode cX4_takesLine 9 = .ok (.if_icmp .gt 16, 3) := by decide +kernel
theorem dX4_takesLine_12 : decode cX4_takesLine 12 = .ok (.aload_n 0, 1) := by decide +kernel
theorem dX4_takesLine_13 : decode cX4_takesLine 13 = .ok (.getfield 28, 3) := by decide +kernel
theorem dX4_takesLine_16 : decode cX4_takesLine 16 = .ok (.bipush 32, 2) := by decide +kernel
theorem dX4_takesLine_18 : decode cX4_takesLine 18 = .ok (.if_icmp .ge 7, 3) := by decide +kernel
theorem dX4_takesLine_21 : decode cX4_takesLine 21 = .ok (.iconst 1, 1) := by decide +kernel
theorem dX4_takesLine_22 : decode cX4_takesLine 22 = .ok (.goto 4, 3) := by decide +kernel
theorem dX4_takesLine_25 : decode cX4_takesLine 25 = .ok (.iconst 0, 1) := by decide +kernel
theorem dX4_takesLine_26 : decode cX4_takesLine 26 = .ok (.ireturn, 1) := by decide +kernel
theorem dX4_byteAt_0 : decode cX4_byteAt 0 = .ok (.aload_n 0, 1) := by decide +kernel
theorem dX4_byteAt_1 : decode cX4_byteAt 1 = .ok (.getfield 9, 3) := by decide +kernel
theorem dX4_byteAt_4 : decode cX4_byteAt 4 = .ok (.iload_n 1, 1) := by decide +kernel
theorem dX4_byteAt_5 : decode cX4_byteAt 5 = .ok (.iaload, 1) := by decide +kernel
theorem dX4_byteAt_6 : decode cX4_byteAt 6 = .ok (.ireturn, 1) := by decide +kernel
theorem dX4_idAt_0 : decode cX4_idAt 0 = .ok (.aload_n 0, 1) := by decide +kernel
theorem dX4_idAt_1 : decode cX4_idAt 1 = .ok (.getfield 15, 3) := by decide +kernel
theorem dX4_idAt_4 : decode cX4_idAt 4 = .ok (.iload_n 1, 1) := by decide +kernel
theorem dX4_idAt_5 : decode cX4_idAt 5 = .ok (.iaload, 1) := by decide +kernel
theorem dX4_idAt_6 : decode cX4_idAt 6 = .ok (.ireturn, 1) := by decide +kernel
theorem dX4_kindAt_0 : decode cX4_kindAt 0 = .ok (.aload_n 0, 1) := by decide +kernel
theorem dX4_kindAt_1 : decode cX4_kindAt 1 = .ok (.getfield 9, 3) := by decide +kernel
theorem dX4_kindAt_4 : decode cX4_kindAt 4 = .ok (.iload_n 1, 1) := by decide +kernel
theorem dX4_kindAt_5 : decode cX4_kindAt 5 = .ok (.iaload, 1) := by decide +kernel
theorem dX4_kindAt_6 : decode cX4_kindAt 6 = .ok (.iconst 5, 1) := by decide +kernel
theorem dX4_kindAt_7 : decode cX4_kindAt 7 = .ok (.ishr, 1) := by decide +kernel
theorem dX4_kindAt_8 : decode cX4_kindAt 8 = .ok (.ireturn, 1) := by decide +kernel
theorem dX4_numberAt_0 : decode cX4_numberAt 0 = .ok (.aload_n 0, 1) := by decide +kernel
theorem dX4_numberAt_1 : decode cX4_numberAt 1 = .ok (.getfield 9, 3) := by decide +kernel
theorem dX4_numberAt_4 : decode cX4_numberAt 4 = .ok (.iload_n 1, 1) := by decide +kernel
theorem dX4_numberAt_5 : decode cX4_numberAt 5 = .ok (.iaload, 1) := by decide +kernel
theorem dX4_numberAt_6 : decode cX4_numberAt 6 = .ok (.bipush 31, 2) := by decide +kernel
theorem dX4_numberAt_8 : decode cX4_numberAt 8 = .ok (.iand, 1) := by decide +kernel
theorem dX4_numberAt_9 : decode cX4_numberAt 9 = .ok (.ireturn, 1) := by decide +kernel
theorem dX4_findings_0 : decode cX4_findings 0 = .ok (.aload_n 0, 1) := by decide +kernel
theorem dX4_findings_1 : decode cX4_findings 1 = .ok (.getfield 21, 3) := by decide +kernel
theorem dX4_findings_4 : decode cX4_findings 4 = .ok (.areturn, 1) := by decide +kernel
theorem dX4_insert_0 : decode cX4_insert 0 = .ok (.aload_n 0, 1) := by decide +kernel
theorem dX4_insert_1 : decode cX4_insert 1 = .ok (.getfield 28, 3) := by decide +kernel
theorem dX4_insert_4 : decode cX4_insert 4 = .ok (.istore 4, 2) := by decide +kernel
theorem dX4_insert_6 : decode cX4_insert 6 = .ok (.iload 4, 2) := by decide +kernel
theorem dX4_insert_8 : decode cX4_insert 8 = .ok (.iload_n 1, 1) := by decide +kernel
theorem dX4_insert_9 : decode cX4_insert 9 = .ok (.if_icmp .le 41, 3) := by decide +kernel
theorem dX4_insert_12 : decode cX4_insert 12 = .ok (.aload_n 0, 1) := by decide +kernel
theorem dX4_insert_13 : decode cX4_insert 13 = .ok (.getfield 9, 3) := by decide +kernel
theorem dX4_insert_16 : decode cX4_insert 16 = .ok (.iload 4, 2) := by decide +kernel
theorem dX4_insert_18 : decode cX4_insert 18 = .ok (.aload_n 0, 1) := by decide +kernel
theorem dX4_insert_19 : decode cX4_insert 19 = .ok (.getfield 9, 3) := by decide +kernel
theorem dX4_insert_22 : decode cX4_insert 22 = .ok (.iload 4, 2) := by decide +kernel
theorem dX4_insert_24 : decode cX4_insert 24 = .ok (.iconst 1, 1) := by decide +kernel
theorem dX4_insert_25 : decode cX4_insert 25 = .ok (.isub, 1) := by decide +kernel
theorem dX4_insert_26 : decode cX4_insert 26 = .ok (.iaload, 1) := by decide +kernel
theorem dX4_insert_27 : decode cX4_insert 27 = .ok (.iastore, 1) := by decide +kernel
theorem dX4_insert_28 : decode cX4_insert 28 = .ok (.aload_n 0, 1) := by decide +kernel
theorem dX4_insert_29 : decode cX4_insert 29 = .ok (.getfield 15, 3) := by decide +kernel
theorem dX4_insert_32 : decode cX4_insert 32 = .ok (.iload 4, 2) := by decide +kernel
theorem dX4_insert_34 : decode cX4_insert 34 = .ok (.aload_n 0, 1) := by decide +kernel
theorem dX4_insert_35 : decode cX4_insert 35 = .ok (.getfield 15, 3) := by decide +kernel
theorem dX4_insert_38 : decode cX4_insert 38 = .ok (.iload 4, 2) := by decide +kernel
theorem dX4_insert_40 : decode cX4_insert 40 = .ok (.iconst 1, 1) := by decide +kernel
theorem dX4_insert_41 : decode cX4_insert 41 = .ok (.isub, 1) := by decide +kernel
theorem dX4_insert_42 : decode cX4_insert 42 = .ok (.iaload, 1) := by decide +kernel
theorem dX4_insert_43 : decode cX4_insert 43 = .ok (.iastore, 1) := by decide +kernel
theorem dX4_insert_44 : decode cX4_insert 44 = .ok (.iinc 4 (-1), 3) := by decide +kernel
theorem dX4_insert_47 : decode cX4_insert 47 = .ok (.goto (-41), 3) := by decide +kernel
theorem dX4_insert_50 : decode cX4_insert 50 = .ok (.aload_n 0, 1) := by decide +kernel
theorem dX4_insert_51 : decode cX4_insert 51 = .ok (.getfield 9, 3) := by decide +kernel
theorem dX4_insert_54 : decode cX4_insert 54 = .ok (.iload_n 1, 1) := by decide +kernel
theorem dX4_insert_55 : decode cX4_insert 55 = .ok (.iload_n 2, 1) := by decide +kernel
theorem dX4_insert_56 : decode cX4_insert 56 = .ok (.iastore, 1) := by decide +kernel
theorem dX4_insert_57 : decode cX4_insert 57 = .ok (.aload_n 0, 1) := by decide +kernel
theorem dX4_insert_58 : decode cX4_insert 58 = .ok (.getfield 15, 3) := by decide +kernel
theorem dX4_insert_61 : decode cX4_insert 61 = .ok (.iload_n 1, 1) := by decide +kernel
theorem dX4_insert_62 : decode cX4_insert 62 = .ok (.iload_n 3, 1) := by decide +kernel
theorem dX4_insert_63 : decode cX4_insert 63 = .ok (.iastore, 1) := by decide +kernel
theorem dX4_insert_64 : decode cX4_insert 64 = .ok (.aload_n 0, 1) := by decide +kernel
theorem dX4_insert_65 : decode cX4_insert 65 = .ok (.dup, 1) := by decide +kernel
theorem dX4_insert_66 : decode cX4_insert 66 = .ok (.getfield 28, 3) := by decide +kernel
theorem dX4_insert_69 : decode cX4_insert 69 = .ok (.iconst 1, 1) := by decide +kernel
theorem dX4_insert_70 : decode cX4_insert 70 = .ok (.iadd, 1) := by decide +kernel
theorem dX4_insert_71 : decode cX4_insert 71 = .ok (.putfield 28, 3) := by decide +kernel
theorem dX4_insert_74 : decode cX4_insert 74 = .ok (.return_, 1) := by decide +kernel
theorem dX4_remove_0 : decode cX4_remove 0 = .ok (.aload_n 0, 1) := by decide +kernel
theorem dX4_remove_1 : decode cX4_remove 1 = .ok (.dup, 1) := by decide +kernel
theorem dX4_remove_2 : decode cX4_remove 2 = .ok (.getfield 28, 3) := by decide +kernel
theorem dX4_remove_5 : decode cX4_remove 5 = .ok (.iconst 1, 1) := by decide +kernel
theorem dX4_remove_6 : decode cX4_remove 6 = .ok (.isub, 1) := by decide +kernel
theorem dX4_remove_7 : decode cX4_remove 7 = .ok (.putfield 28, 3) := by decide +kernel
theorem dX4_remove_10 : decode cX4_remove 10 = .ok (.iload_n 1, 1) := by decide +kernel
theorem dX4_remove_11 : decode cX4_remove 11 = .ok (.istore_n 2, 1) := by decide +kernel
theorem dX4_remove_12 : decode cX4_remove 12 = .ok (.iload_n 2, 1) := by decide +kernel
theorem dX4_remove_13 : decode cX4_remove 13 = .ok (.aload_n 0, 1) := by decide +kernel
theorem dX4_remove_14 : decode cX4_remove 14 = .ok (.getfield 28, 3) := by decide +kernel
theorem dX4_remove_17 : decode cX4_remove 17 = .ok (.if_icmp .ge 37, 3) := by decide +kernel
theorem dX4_remove_20 : decode cX4_remove 20 = .ok (.aload_n 0, 1) := by decide +kernel
theorem dX4_remove_21 : decode cX4_remove 21 = .ok (.getfield 9, 3) := by decide +kernel
theorem dX4_remove_24 : decode cX4_remove 24 = .ok (.iload_n 2, 1) := by decide +kernel
theorem dX4_remove_25 : decode cX4_remove 25 = .ok (.aload_n 0, 1) := by decide +kernel
theorem dX4_remove_26 : decode cX4_remove 26 = .ok (.getfield 9, 3) := by decide +kernel
theorem dX4_remove_29 : decode cX4_remove 29 = .ok (.iload_n 2, 1) := by decide +kernel
theorem dX4_remove_30 : decode cX4_remove 30 = .ok (.iconst 1, 1) := by decide +kernel
theorem dX4_remove_31 : decode cX4_remove 31 = .ok (.iadd, 1) := by decide +kernel
theorem dX4_remove_32 : decode cX4_remove 32 = .ok (.iaload, 1) := by decide +kernel
theorem dX4_remove_33 : decode cX4_remove 33 = .ok (.iastore, 1) := by decide +kernel
theorem dX4_remove_34 : decode cX4_remove 34 = .ok (.aload_n 0, 1) := by decide +kernel
theorem dX4_remove_35 : decode cX4_remove 35 = .ok (.getfield 15, 3) := by decide +kernel
theorem dX4_remove_38 : decode cX4_remove 38 = .ok (.iload_n 2, 1) := by decide +kernel
theorem dX4_remove_39 : decode cX4_remove 39 = .ok (.aload_n 0, 1) := by decide +kernel
theorem dX4_remove_40 : decode cX4_remove 40 = .ok (.getfield 15, 3) := by decide +kernel
theorem dX4_remove_43 : decode cX4_remove 43 = .ok (.iload_n 2, 1) := by decide +kernel
theorem dX4_remove_44 : decode cX4_remove 44 = .ok (.iconst 1, 1) := by decide +kernel
theorem dX4_remove_45 : decode cX4_remove 45 = .ok (.iadd, 1) := by decide +kernel
theorem dX4_remove_46 : decode cX4_remove 46 = .ok (.iaload, 1) := by decide +kernel
theorem dX4_remove_47 : decode cX4_remove 47 = .ok (.iastore, 1) := by decide +kernel
theorem dX4_remove_48 : decode cX4_remove 48 = .ok (.iinc 2 1, 3) := by decide +kernel
theorem dX4_remove_51 : decode cX4_remove 51 = .ok (.goto (-39), 3) := by decide +kernel
theorem dX4_remove_54 : decode cX4_remove 54 = .ok (.return_, 1) := by decide +kernel
theorem dX4_replace_0 : decode cX4_replace 0 = .ok (.aload_n 0, 1) := by decide +kernel
theorem dX4_replace_1 : decode cX4_replace 1 = .ok (.getfield 9, 3) := by decide +kernel
theorem dX4_replace_4 : decode cX4_replace 4 = .ok (.iload_n 1, 1) := by decide +kernel
theorem dX4_replace_5 : decode cX4_replace 5 = .ok (.iload_n 2, 1) := by decide +kernel
theorem dX4_replace_6 : decode cX4_replace 6 = .ok (.iastore, 1) := by decide +kernel
theorem dX4_replace_7 : decode cX4_replace 7 = .ok (.return_, 1) := by decide +kernel
theorem dX4_retell_0 : decode cX4_retell 0 = .ok (.aload_n 0, 1) := by decide +kernel
theorem dX4_retell_1 : decode cX4_retell 1 = .ok (.aload_n 1, 1) := by decide +kernel
theorem dX4_retell_2 : decode cX4_retell 2 = .ok (.invokevirtual 32, 3) := by decide +kernel
theorem dX4_retell_5 : decode cX4_retell 5 = .ok (.putfield 28, 3) := by decide +kernel
theorem dX4_retell_8 : decode cX4_retell 8 = .ok (.iconst 0, 1) := by decide +kernel
theorem dX4_retell_9 : decode cX4_retell 9 = .ok (.istore_n 3, 1) := by decide +kernel
theorem dX4_retell_10 : decode cX4_retell 10 = .ok (.iload_n 3, 1) := by decide +kernel
theorem dX4_retell_11 : decode cX4_retell 11 = .ok (.aload_n 0, 1) := by decide +kernel
theorem dX4_retell_12 : decode cX4_retell 12 = .ok (.getfield 28, 3) := by decide +kernel
theorem dX4_retell_15 : decode cX4_retell 15 = .ok (.if_icmp .ge 31, 3) := by decide +kernel
theorem dX4_retell_18 : decode cX4_retell 18 = .ok (.aload_n 0, 1) := by decide +kernel
theorem dX4_retell_19 : decode cX4_retell 19 = .ok (.getfield 9, 3) := by decide +kernel
theorem dX4_retell_22 : decode cX4_retell 22 = .ok (.iload_n 3, 1) := by decide +kernel
theorem dX4_retell_23 : decode cX4_retell 23 = .ok (.aload_n 1, 1) := by decide +kernel
theorem dX4_retell_24 : decode cX4_retell 24 = .ok (.iload_n 3, 1) := by decide +kernel
theorem dX4_retell_25 : decode cX4_retell 25 = .ok (.invokevirtual 38, 3) := by decide +kernel
theorem dX4_retell_28 : decode cX4_retell 28 = .ok (.iastore, 1) := by decide +kernel
theorem dX4_retell_29 : decode cX4_retell 29 = .ok (.aload_n 0, 1) := by decide +kernel
theorem dX4_retell_30 : decode cX4_retell 30 = .ok (.getfield 15, 3) := by decide +kernel
theorem dX4_retell_33 : decode cX4_retell 33 = .ok (.iload_n 3, 1) := by decide +kernel
theorem dX4_retell_34 : decode cX4_retell 34 = .ok (.aload_n 2, 1) := by decide +kernel
theorem dX4_retell_35 : decode cX4_retell 35 = .ok (.iload_n 3, 1) := by decide +kernel
theorem dX4_retell_36 : decode cX4_retell 36 = .ok (.invokevirtual 42, 3) := by decide +kernel
theorem dX4_retell_39 : decode cX4_retell 39 = .ok (.iastore, 1) := by decide +kernel
theorem dX4_retell_40 : decode cX4_retell 40 = .ok (.iinc 3 1, 3) := by decide +kernel
theorem dX4_retell_43 : decode cX4_retell 43 = .ok (.goto (-33), 3) := by decide +kernel
theorem dX4_retell_46 : decode cX4_retell 46 = .ok (.return_, 1) := by decide +kernel
theorem dX4_numbersOf_0 : decode cX4_numbersOf 0 = .ok (.iconst 0, 1) := by decide +kernel
theorem dX4_numbersOf_1 : decode cX4_numbersOf 1 = .ok (.istore_n 2, 1) := by decide +kernel
theorem dX4_numbersOf_2 : decode cX4_numbersOf 2 = .ok (.iconst 0, 1) := by decide +kernel
theorem dX4_numbersOf_3 : decode cX4_numbersOf 3 = .ok (.istore_n 3, 1) := by decide +kernel
theorem dX4_numbersOf_4 : decode cX4_numbersOf 4 = .ok (.iload_n 3, 1) := by decide +kernel
theorem dX4_numbersOf_5 : decode cX4_numbersOf 5 = .ok (.aload_n 0, 1) := by decide +kernel
theorem dX4_numbersOf_6 : decode cX4_numbersOf 6 = .ok (.getfield 28, 3) := by decide +kernel
theorem dX4_numbersOf_9 : decode cX4_numbersOf 9 = .ok (.if_icmp .ge 28, 3) := by decide +kernel
theorem dX4_numbersOf_12 : decode cX4_numbersOf 12 = .ok (.aload_n 0, 1) := by decide +kernel
theorem dX4_numbersOf_13 : decode cX4_numbersOf 13 = .ok (.iload_n 3, 1) := by decide +kernel
theorem dX4_numbersOf_14 : decode cX4_numbersOf 14 = .ok (.invokevirtual 47, 3) := by decide +kernel
theorem dX4_numbersOf_17 : decode cX4_numbersOf 17 = .ok (.iload_n 1, 1) := by decide +kernel
theorem dX4_numbersOf_18 : decode cX4_numbersOf 18 = .ok (.if_icmp .ne 13, 3) := by decide +kernel
theorem dX4_numbersOf_21 : decode cX4_numbersOf 21 = .ok (.iload_n 2, 1) := by decide +kernel
theorem dX4_numbersOf_22 : decode cX4_numbersOf 22 = .ok (.iconst 1, 1) := by decide +kernel
theorem dX4_numbersOf_23 : decode cX4_numbersOf 23 = .ok (.aload_n 0, 1) := by decide +kernel
theorem dX4_numbersOf_24 : decode cX4_numbersOf 24 = .ok (.iload_n 3, 1) := by decide +kernel
theorem dX4_numbersOf_25 : decode cX4_numbersOf 25 = .ok (.invokevirtual 50, 3) := by decide +kernel
theorem dX4_numbersOf_28 : decode cX4_numbersOf 28 = .ok (.ishl, 1) := by decide +kernel
theorem dX4_numbersOf_29 : decode cX4_numbersOf 29 = .ok (.ior, 1) := by decide +kernel
theorem dX4_numbersOf_30 : decode cX4_numbersOf 30 = .ok (.istore_n 2, 1) := by decide +kernel
theorem dX4_numbersOf_31 : decode cX4_numbersOf 31 = .ok (.iinc 3 1, 3) := by decide +kernel
theorem dX4_numbersOf_34 : decode cX4_numbersOf 34 = .ok (.goto (-30), 3) := by decide +kernel
theorem dX4_numbersOf_37 : decode cX4_numbersOf 37 = .ok (.iload_n 2, 1) := by decide +kernel
theorem dX4_numbersOf_38 : decode cX4_numbersOf 38 = .ok (.ireturn, 1) := by decide +kernel
theorem dX4_importedFiles_0 : decode cX4_importedFiles 0 = .ok (.iconst 0, 1) := by decide +kernel
theorem dX4_importedFiles_1 : decode cX4_importedFiles 1 = .ok (.istore_n 1, 1) := by decide +kernel
theorem dX4_importedFiles_2 : decode cX4_importedFiles 2 = .ok (.iconst 0, 1) := by decide +kernel
theorem dX4_importedFiles_3 : decode cX4_importedFiles 3 = .ok (.istore_n 2, 1) := by decide +kernel
theorem dX4_importedFiles_4 : decode cX4_importedFiles 4 = .ok (.iload_n 2, 1) := by decide +kernel
theorem dX4_importedFiles_5 : decode cX4_importedFiles 5 = .ok (.aload_n 0, 1) := by decide +kernel
theorem dX4_importedFiles_6 : decode cX4_importedFiles 6 = .ok (.getfield 28, 3) := by decide +kernel
theorem dX4_importedFiles_9 : decode cX4_importedFiles 9 = .ok (.if_icmp .ge 31, 3) := by decide +kernel
theorem dX4_importedFiles_12 : decode cX4_importedFiles 12 = .ok (.aload_n 0, 1) := by decide +kernel
theorem dX4_importedFiles_13 : decode cX4_importedFiles 13 = .ok (.iload_n 2, 1) := by decide +kernel
theorem dX4_importedFiles_14 : decode cX4_importedFiles 14 = .ok (.invokevirtual 47, 3) := by decide +kernel
theorem dX4_importedFiles_17 : decode cX4_importedFiles 17 = .ok (.iconst 5, 1) := by decide +kernel
theorem dX4_importedFiles_18 : decode cX4_importedFiles 18 = .ok (.if_icmp .ne 16, 3) := by decide +kernel
theorem dX4_importedFiles_21 : decode cX4_importedFiles 21 = .ok (.iload_n 1, 1) := by decide +kernel
theorem dX4_importedFiles_22 : decode cX4_importedFiles 22 = .ok (.iconst 1, 1) := by decide +kernel
theorem dX4_importedFiles_23 : decode cX4_importedFiles 23 = .ok (.aload_n 0, 1) := by decide +kernel
theorem dX4_importedFiles_24 : decode cX4_importedFiles 24 = .ok (.iload_n 2, 1) := by decide +kernel
theorem dX4_importedFiles_25 : decode cX4_importedFiles 25 = .ok (.invokevirtual 50, 3) := by decide +kernel
theorem dX4_importedFiles_28 : decode cX4_importedFiles 28 = .ok (.bipush 6, 2) := by decide +kernel
theorem dX4_importedFiles_30 : decode cX4_importedFiles 30 = .ok (.irem, 1) := by decide +kernel
theorem dX4_importedFiles_31 : decode cX4_importedFiles 31 = .ok (.ishl, 1) := by decide +kernel
theorem dX4_importedFiles_32 : decode cX4_importedFiles 32 = .ok (.ior, 1) := by decide +kernel
theorem dX4_importedFiles_33 : decode cX4_importedFiles 33 = .ok (.istore_n 1, 1) := by decide +kernel
theorem dX4_importedFiles_34 : decode cX4_importedFiles 34 = .ok (.iinc 2 1, 3) := by decide +kernel
theorem dX4_importedFiles_37 : decode cX4_importedFiles 37 = .ok (.goto (-33), 3) := by decide +kernel
theorem dX4_importedFiles_40 : decode cX4_importedFiles 40 = .ok (.iload_n 1, 1) := by decide +kernel
theorem dX4_importedFiles_41 : decode cX4_importedFiles 41 = .ok (.ireturn, 1) := by decide +kernel
theorem dX4_renewFindings_0 : decode cX4_renewFindings 0 = .ok (.aload_n 0, 1) := by decide +kernel
theorem dX4_renewFindings_1 : decode cX4_renewFindings 1 = .ok (.getfield 25, 3) := by decide +kernel
theorem dX4_renewFindings_4 : decode cX4_renewFindings 4 = .ok (.astore 4, 2) := by decide +kernel
theorem dX4_renewFindings_6 : decode cX4_renewFindings 6 = .ok (.aload 4, 2) := by decide +kernel
theorem dX4_renewFindings_8 : decode cX4_renewFindings 8 = .ok (.invokevirtual 53, 3) := by decide +kernel
theorem dX4_renewFindings_11 : decode cX4_renewFindings 11 = .ok (.iconst 0, 1) := by decide +kernel
theorem dX4_renewFindings_12 : decode cX4_renewFindings 12 = .ok (.istore 5, 2) := by decide +kernel
theorem dX4_renewFindings_14 : decode cX4_renewFindings 14 = .ok (.iload 5, 2) := by decide +kernel
theorem dX4_renewFindings_16 : decode cX4_renewFindings 16 = .ok (.aload_n 0, 1) := by decide +kernel
theorem dX4_renewFindings_17 : decode cX4_renewFindings 17 = .ok (.getfield 28, 3) := by decide +kernel
theorem dX4_renewFindings_20 : decode cX4_renewFindings 20 = .ok (.if_icmp .ge 64, 3) := by decide +kernel
theorem dX4_renewFindings_23 : decode cX4_renewFindings 23 = .ok (.iconst 0, 1) := by decide +kernel
theorem dX4_renewFindings_24 : decode cX4_renewFindings 24 = .ok (.istore 6, 2) := by decide +kernel
theorem dX4_renewFindings_26 : decode cX4_renewFindings 26 = .ok (.iload 6, 2) := by decide +kernel
theorem dX4_renewFindings_28 : decode cX4_renewFindings 28 = .ok (.iconst 5, 1) := by decide +kernel
theorem dX4_renewFindings_29 : decode cX4_renewFindings 29 = .ok (.if_icmp .ge 49, 3) := by decide +kernel
theorem dX4_renewFindings_32 : decode cX4_renewFindings 32 = .ok (.aload_n 1, 1) := by decide +kernel
theorem dX4_renewFindings_33 : decode cX4_renewFindings 33 = .ok (.iload 6, 2) := by decide +kernel
theorem dX4_renewFindings_35 : decode cX4_renewFindings 35 = .ok (.invokevirtual 56, 3) := by decide +kernel
theorem dX4_renewFindings_38 : decode cX4_renewFindings 38 = .ok (.iload 5, 2) := by decide +kernel
theorem dX4_renewFindings_40 : decode cX4_renewFindings 40 = .ok (.invokestatic 61, 3) := by decide +kernel
theorem dX4_renewFindings_43 : decode cX4_renewFindings 43 = .ok (.ifCond .eq 29, 3) := by decide +kernel
theorem dX4_renewFindings_46 : decode cX4_renewFindings 46 = .ok (.aload 4, 2) := by decide +kernel
theorem dX4_renewFindings_48 : decode cX4_renewFindings 48 = .ok (.iload 6, 2) := by decide +kernel
theorem dX4_renewFindings_50 : decode cX4_renewFindings 50 = .ok (.iload 5, 2) := by decide +kernel
theorem dX4_renewFindings_52 : decode cX4_renewFindings 52 = .ok (.aload_n 0, 1) := by decide +kernel
theorem dX4_renewFindings_53 : decode cX4_renewFindings 53 = .ok (.getfield 15, 3) := by decide +kernel
theorem dX4_renewFindings_56 : decode cX4_renewFindings 56 = .ok (.iload 5, 2) := by decide +kernel
theorem dX4_renewFindings_58 : decode cX4_renewFindings 58 = .ok (.iaload, 1) := by decide +kernel
theorem dX4_renewFindings_59 : decode cX4_renewFindings 59 = .ok (.iload_n 2, 1) := by decide +kernel
theorem dX4_renewFindings_60 : decode cX4_renewFindings 60 = .ok (.invokevirtual 65, 3) := by decide +kernel
theorem dX4_renewFindings_63 : decode cX4_renewFindings 63 = .ok (.aload 4, 2) := by decide +kernel
theorem dX4_renewFindings_65 : decode cX4_renewFindings 65 = .ok (.aload_n 0, 1) := by decide +kernel
theorem dX4_renewFindings_66 : decode cX4_renewFindings 66 = .ok (.getfield 21, 3) := by decide +kernel
theorem dX4_renewFindings_69 : decode cX4_renewFindings 69 = .ok (.invokevirtual 69, 3) := by decide +kernel
theorem dX4_renewFindings_72 : decode cX4_renewFindings 72 = .ok (.iinc 6 1, 3) := by decide +kernel
theorem dX4_renewFindings_75 : decode cX4_renewFindings 75 = .ok (.goto (-49), 3) := by decide +kernel
theorem dX4_renewFindings_78 : decode cX4_renewFindings 78 = .ok (.iinc 5 1, 3) := by decide +kernel
theorem dX4_renewFindings_81 : decode cX4_renewFindings 81 = .ok (.goto (-67), 3) := by decide +kernel
theorem dX4_renewFindings_84 : decode cX4_renewFindings 84 = .ok (.aload_n 0, 1) := by decide +kernel
theorem dX4_renewFindings_85 : decode cX4_renewFindings 85 = .ok (.getfield 21, 3) := by decide +kernel
theorem dX4_renewFindings_88 : decode cX4_renewFindings 88 = .ok (.aload 4, 2) := by decide +kernel
theorem dX4_renewFindings_90 : decode cX4_renewFindings 90 = .ok (.iload_n 2, 1) := by decide +kernel
theorem dX4_renewFindings_91 : decode cX4_renewFindings 91 = .ok (.aload_n 3, 1) := by decide +kernel
theorem dX4_renewFindings_92 : decode cX4_renewFindings 92 = .ok (.invokevirtual 73, 3) := by decide +kernel
theorem dX4_renewFindings_95 : decode cX4_renewFindings 95 = .ok (.aload_n 0, 1) := by decide +kernel
theorem dX4_renewFindings_96 : decode cX4_renewFindings 96 = .ok (.aload_n 0, 1) := by decide +kernel
theorem dX4_renewFindings_97 : decode cX4_renewFindings 97 = .ok (.getfield 21, 3) := by decide +kernel
theorem dX4_renewFindings_100 : decode cX4_renewFindings 100 = .ok (.putfield 25, 3) := by decide +kernel
theorem dX4_renewFindings_103 : decode cX4_renewFindings 103 = .ok (.aload_n 0, 1) := by decide +kernel
theorem dX4_renewFindings_104 : decode cX4_renewFindings 104 = .ok (.aload 4, 2) := by decide +kernel
theorem dX4_renewFindings_106 : decode cX4_renewFindings 106 = .ok (.putfield 21, 3) := by decide +kernel
theorem dX4_renewFindings_109 : decode cX4_renewFindings 109 = .ok (.return_, 1) := by decide +kernel
theorem dX5_init_0 : decode cX5_init 0 = .ok (.aload_n 0, 1) := by decide +kernel
theorem dX5_init_1 : decode cX5_init 1 = .ok (.invokespecial 3, 3) := by decide +kernel
theorem dX5_init_4 : decode cX5_init 4 = .ok (.aload_n 0, 1) := by decide +kernel
theorem dX5_init_5 : decode cX5_init 5 = .ok (.bipush 40, 2) := by decide +kernel
theorem dX5_init_7 : decode cX5_init 7 = .ok (.newarray .int, 2) := by decide +kernel
theorem dX5_init_9 : decode cX5_init 9 = .ok (.putfield 9, 3) := by decide +kernel
theorem dX5_init_12 : decode cX5_init 12 = .ok (.return_, 1) := by decide +kernel
theorem dX5_size_0 : decode cX5_size 0 = .ok (.aload_n 0, 1) := by decide +kernel
theorem dX5_size_1 : decode cX5_size 1 = .ok (.getfield 15, 3) := by decide +kernel
theorem dX5_size_4 : decode cX5_size 4 = .ok (.ireturn, 1) := by decide +kernel
theorem dX5_byteAt_0 : decode cX5_byteAt 0 = .ok (.aload_n 0, 1) := by decide +kernel
theorem dX5_byteAt_1 : decode cX5_byteAt 1 = .ok (.getfield 9, 3) := by decide +kernel
theorem dX5_byteAt_4 : decode cX5_byteAt 4 = .ok (.iload_n 1, 1) := by decide +kernel
theorem dX5_byteAt_5 : decode cX5_byteAt 5 = .ok (.iaload, 1) := by decide +kernel
theorem dX5_byteAt_6 : decode cX5_byteAt 6 = .ok (.ireturn, 1) := by decide +kernel
theorem dX5_append_0 : decode cX5_append 0 = .ok (.bipush 24, 2) := by decide +kernel
theorem dX5_append_2 : decode cX5_append 2 = .ok (.istore_n 2, 1) := by decide +kernel
theorem dX5_append_3 : decode cX5_append 3 = .ok (.iload_n 2, 1) := by decide +kernel
theorem dX5_append_4 : decode cX5_append 4 = .ok (.ifCond .lt 44, 3) := by decide +kernel
theorem dX5_append_7 : decode cX5_append 7 = .ok (.aload_n 0, 1) := by decide +kernel
theorem dX5_append_8 : decode cX5_append 8 = .ok (.getfield 15, 3) := by decide +kernel
theorem dX5_append_11 : decode cX5_append 11 = .ok (.bipush 40, 2) := by decide +kernel
theorem dX5_append_13 : decode cX5_append 13 = .ok (.if_icmp .ge 35, 3) := by decide +kernel
theorem dX5_append_16 : decode cX5_append 16 = .ok (.aload_n 0, 1) := by decide +kernel
theorem dX5_append_17 : decode cX5_append 17 = .ok (.getfield 9, 3) := by decide +kernel
theorem dX5_append_20 : decode cX5_append 20 = .ok (.aload_n 0, 1) := by decide +kernel
theorem dX5_append_21 : decode cX5_append 21 = .ok (.getfield 15, 3) := by decide +kernel
theorem dX5_append_24 : decode cX5_append 24 = .ok (.iload_n 1, 1) := by decide +kernel
theorem dX5_append_25 : decode cX5_append 25 = .ok (.iload_n 2, 1) := by decide +kernel
theorem dX5_append_26 : decode cX5_append 26 = .ok (.iushr, 1) := by decide +kernel
theorem dX5_append_27 : decode cX5_append 27 = .ok (.sipush 255, 3) := by decide +kernel
theorem dX5_append_30 : decode cX5_append 30 = .ok (.iand, 1) := by decide +kernel
theorem dX5_append_31 : decode cX5_append 31 = .ok (.iastore, 1) := by decide +kernel
theorem dX5_append_32 : decode cX5_append 32 = .ok (.aload_n 0, 1) := by decide +kernel
theorem dX5_append_33 : decode cX5_append 33 = .ok (.dup, 1) := by decide +kernel
theorem dX5_append_34 : decode cX5_append 34 = .ok (.getfield 15, 3) := by decide +kernel
theorem dX5_append_37 : decode cX5_append 37 = .ok (.iconst 1, 1) := by decide +kernel
theorem dX5_append_38 : decode cX5_append 38 = .ok (.iadd, 1) := by decide +kernel
theorem dX5_append_39 : decode cX5_append 39 = .ok (.putfield 15, 3) := by decide +kernel
theorem dX5_append_42 : decode cX5_append 42 = .ok (.iinc 2 (-8), 3) := by decide +kernel
theorem dX5_append_45 : decode cX5_append 45 = .ok (.goto (-42), 3) := by decide +kernel
theorem dX5_append_48 : decode cX5_append 48 = .ok (.return_, 1) := by decide +kernel
theorem dX5_shorten_0 : decode cX5_shorten 0 = .ok (.aload_n 0, 1) := by decide +kernel
theorem dX5_shorten_1 : decode cX5_shorten 1 = .ok (.iload_n 1, 1) := by decide +kernel
theorem dX5_shorten_2 : decode cX5_shorten 2 = .ok (.putfield 15, 3) := by decide +kernel
theorem dX5_shorten_5 : decode cX5_shorten 5 = .ok (.return_, 1) := by decide +kernel
theorem dX6_init_0 : decode cX6_init 0 = .ok (.aload_n 0, 1) := by decide +kernel
theorem dX6_init_1 : decode cX6_init 1 = .ok (.invokespecial 1, 3) := by decide +kernel
theorem dX6_init_4 : decode cX6_init 4 = .ok (.aload_n 0, 1) := by decide +kernel
theorem dX6_init_5 : decode cX6_init 5 = .ok (.bipush 6, 2) := by decide +kernel
theorem dX6_init_7 : decode cX6_init 7 = .ok (.anewarray 9, 3) := by decide +kernel
theorem dX6_init_10 : decode cX6_init 10 = .ok (.putfield 11, 3) := by decide +kernel
theorem dX6_init_13 : decode cX6_init 13 = .ok (.iconst 0, 1) := by decide +kernel
theorem dX6_init_14 : decode cX6_init 14 = .ok (.istore_n 1, 1) := by decide +kernel
theorem dX6_init_15 : decode cX6_init 15 = .ok (.iload_n 1, 1) := by decide +kernel
theorem dX6_init_16 : decode cX6_init 16 = .ok (.bipush 6, 2) := by decide +kernel
theorem dX6_init_18 : decode cX6_init 18 = .ok (.if_icmp .ge 22, 3) := by decide +kernel
theorem dX6_init_21 : decode cX6_init 21 = .ok (.aload_n 0, 1) := by decide +kernel
theorem dX6_init_22 : decode cX6_init 22 = .ok (.getfield 11, 3) := by decide +kernel
theorem dX6_init_25 : decode cX6_init 25 = .ok (.iload_n 1, 1) := by decide +kernel
theorem dX6_init_26 : decode cX6_init 26 = .ok (.new 9, 3) := by decide +kernel
theorem dX6_init_29 : decode cX6_init 29 = .ok (.dup, 1) := by decide +kernel
theorem dX6_init_30 : decode cX6_init 30 = .ok (.invokespecial 15, 3) := by decide +kernel
theorem dX6_init_33 : decode cX6_init 33 = .ok (.aastore, 1) := by decide +kernel
theorem dX6_init_34 : decode cX6_init 34 = .ok (.iinc 1 1, 3) := by decide +kernel
theorem dX6_init_37 : decode cX6_init 37 = .ok (.goto (-22), 3) := by decide +kernel
theorem dX6_init_40 : decode cX6_init 40 = .ok (.aload_n 0, 1) := by decide +kernel
theorem dX6_init_41 : decode cX6_init 41 = .ok (.new 16, 3) := by decide +kernel
theorem dX6_init_44 : decode cX6_init 44 = .ok (.dup, 1) := by decide +kernel
theorem dX6_init_45 : decode cX6_init 45 = .ok (.invokespecial 18, 3) := by decide +kernel
theorem dX6_init_48 : decode cX6_init 48 = .ok (.putfield 19, 3) := by decide +kernel
theorem dX6_init_51 : decode cX6_init 51 = .ok (.aload_n 0, 1) := by decide +kernel
theorem dX6_init_52 : decode cX6_init 52 = .ok (.new 23, 3) := by decide +kernel
theorem dX6_init_55 : decode cX6_init 55 = .ok (.dup, 1) := by decide +kernel
theorem dX6_init_56 : decode cX6_init 56 = .ok (.invokespecial 25, 3) := by decide +kernel
theorem dX6_init_59 : decode cX6_init 59 = .ok (.putfield 26, 3) := by decide +kernel
theorem dX6_init_62 : decode cX6_init 62 = .ok (.aload_n 0, 1) := by decide +kernel
theorem dX6_init_63 : decode cX6_init 63 = .ok (.new 30, 3) := by decide +kernel
theorem dX6_init_66 : decode cX6_init 66 = .ok (.dup, 1) := by decide +kernel
theorem dX6_init_67 : decode cX6_init 67 = .ok (.invokespecial 32, 3) := by decide +kernel
theorem dX6_init_70 : decode cX6_init 70 = .ok (.putfield 33, 3) := by decide +kernel
theorem dX6_init_73 : decode cX6_init 73 = .ok (.aload_n 0, 1) := by decide +kernel
theorem dX6_init_74 : decode cX6_init 74 = .ok (.new 37, 3) := by decide +kernel
theorem dX6_init_77 : decode cX6_init 77 = .ok (.dup, 1) := by decide +kernel
theorem dX6_init_78 : decode cX6_init 78 = .ok (.invokespecial 39, 3) := by decide +kernel
theorem dX6_init_81 : decode cX6_init 81 = .ok (.putfield 40, 3) := by decide +kernel
theorem dX6_init_84 : decode cX6_init 84 = .ok (.return_, 1) := by decide +kernel
theorem dX6_put_0 : decode cX6_put 0 = .ok (.iload_n 1, 1) := by decide +kernel
theorem dX6_put_1 : decode cX6_put 1 = .ok (.invokestatic 44, 3) := by decide +kernel
theorem dX6_put_4 : decode cX6_put 4 = .ok (.ifCond .eq 23, 3) := by decide +kernel
theorem dX6_put_7 : decode cX6_put 7 = .ok (.iload_n 3, 1) := by decide +kernel
theorem dX6_put_8 : decode cX6_put 8 = .ok (.invokestatic 48, 3) := by decide +kernel
theorem dX6_put_11 : decode cX6_put 11 = .ok (.ifCond .eq 16, 3) := by decide +kernel
theorem dX6_put_14 : decode cX6_put 14 = .ok (.aload_n 0, 1) := by decide +kernel
theorem dX6_put_15 : decode cX6_put 15 = .ok (.getfield 11, 3) := by decide +kernel
theorem dX6_put_18 : decode cX6_put 18 = .ok (.iload_n 1, 1) := by decide +kernel
theorem dX6_put_19 : decode cX6_put 19 = .ok (.aaload, 1) := by decide +kernel
theorem dX6_put_20 : decode cX6_put 20 = .ok (.iload_n 2, 1) := by decide +kernel
theorem dX6_put_21 : decode cX6_put 21 = .ok (.invokevirtual 51, 3) := by decide +kernel
theorem dX6_put_24 : decode cX6_put 24 = .ok (.ifCond .ne 5, 3) := by decide +kernel
theorem dX6_put_27 : decode cX6_put 27 = .ok (.iconst (-1), 1) := by decide +kernel
theorem dX6_put_28 : decode cX6_put 28 = .ok (.ireturn, 1) := by decide +kernel
theorem dX6_put_29 : decode cX6_put 29 = .ok (.aload_n 0, 1) := by decide +kernel
theorem dX6_put_30 : decode cX6_put 30 = .ok (.getfield 11, 3) := by decide +kernel
theorem dX6_put_33 : decode cX6_put 33 = .ok (.iload_n 1, 1) := by decide +kernel
theorem dX6_put_34 : decode cX6_put 34 = .ok (.aaload, 1) := by decide +kernel
theorem dX6_put_35 : decode cX6_put 35 = .ok (.iconst 1, 1) := by decide +kernel
theorem dX6_put_36 : decode cX6_put 36 = .ok (.invokevirtual 54, 3) := by decide +kernel
theorem dX6_put_39 : decode cX6_put 39 = .ok (.istore 4, 2) := by decide +kernel
theorem dX6_put_41 : decode cX6_put 41 = .ok (.aload_n 0, 1) := by decide +kernel
theorem dX6_put_42 : decode cX6_put 42 = .ok (.getfield 58, 3) := by decide +kernel
theorem dX6_put_45 : decode cX6_put 45 = .ok (.istore 5, 2) := by decide +kernel
theorem dX6_put_47 : decode cX6_put 47 = .ok (.aload_n 0, 1) := by decide +kernel
theorem dX6_put_48 : decode cX6_put 48 = .ok (.dup, 1) := by decide +kernel
theorem dX6_put_49 : decode cX6_put 49 = .ok (.getfield 58, 3) := by decide +kernel
theorem dX6_put_52 : decode cX6_put 52 = .ok (.iconst 1, 1) := by decide +kernel
theorem dX6_put_53 : decode cX6_put 53 = .ok (.iadd, 1) := by decide +kernel
theorem dX6_put_54 : decode cX6_put 54 = .ok (.putfield 58, 3) := by decide +kernel
theorem dX6_put_57 : decode cX6_put 57 = .ok (.aload_n 0, 1) := by decide +kernel
theorem dX6_put_58 : decode cX6_put 58 = .ok (.getfield 11, 3) := by decide +kernel
theorem dX6_put_61 : decode cX6_put 61 = .ok (.iload_n 1, 1) := by decide +kernel
theorem dX6_put_62 : decode cX6_put 62 = .ok (.aaload, 1) := by decide +kernel
theorem dX6_put_63 : decode cX6_put 63 = .ok (.iload_n 2, 1) := by decide +kernel
theorem dX6_put_64 : decode cX6_put 64 = .ok (.iload_n 3, 1) := by decide +kernel
theorem dX6_put_65 : decode cX6_put 65 = .ok (.iload 5, 2) := by decide +kernel
theorem dX6_put_67 : decode cX6_put 67 = .ok (.invokevirtual 62, 3) := by decide +kernel
theorem dX6_put_70 : decode cX6_put 70 = .ok (.aload_n 0, 1) := by decide +kernel
theorem dX6_put_71 : decode cX6_put 71 = .ok (.iload_n 1, 1) := by decide +kernel
theorem dX6_put_72 : decode cX6_put 72 = .ok (.iload 4, 2) := by decide +kernel
theorem dX6_put_74 : decode cX6_put 74 = .ok (.invokevirtual 66, 3) := by decide +kernel
theorem dX6_put_77 : decode cX6_put 77 = .ok (.iload 5, 2) := by decide +kernel
theorem dX6_put_79 : decode cX6_put 79 = .ok (.ireturn, 1) := by decide +kernel
theorem dX6_cut_0 : decode cX6_cut 0 = .ok (.aload_n 0, 1) := by decide +kernel
theorem dX6_cut_1 : decode cX6_cut 1 = .ok (.iload_n 1, 1) := by decide +kernel
theorem dX6_cut_2 : decode cX6_cut 2 = .ok (.iload_n 2, 1) := by decide +kernel
theorem dX6_cut_3 : decode cX6_cut 3 = .ok (.invokevirtual 70, 3) := by decide +kernel
theorem dX6_cut_6 : decode cX6_cut 6 = .ok (.ifCond .ne 5, 3) := by decide +kernel
theorem dX6_cut_9 : decode cX6_cut 9 = .ok (.iconst 0, 1) := by decide +kernel
theorem dX6_cut_10 : decode cX6_cut 10 = .ok (.ireturn, 1) := by decide +kernel
theorem dX6_cut_11 : decode cX6_cut 11 = .ok (.aload_n 0, 1) := by decide +kernel
theorem dX6_cut_12 : decode cX6_cut 12 = .ok (.getfield 11, 3) := by decide +kernel
theorem dX6_cut_15 : decode cX6_cut 15 = .ok (.iload_n 1, 1) := by decide +kernel
theorem dX6_cut_16 : decode cX6_cut 16 = .ok (.aaload, 1) := by decide +kernel
theorem dX6_cut_17 : decode cX6_cut 17 = .ok (.iconst 1, 1) := by decide +kernel
theorem dX6_cut_18 : decode cX6_cut 18 = .ok (.invokevirtual 54, 3) := by decide +kernel
theorem dX6_cut_21 : decode cX6_cut 21 = .ok (.istore_n 3, 1) := by decide +kernel
theorem dX6_cut_22 : decode cX6_cut 22 = .ok (.aload_n 0, 1) := by decide +kernel
theorem dX6_cut_23 : decode cX6_cut 23 = .ok (.getfield 11, 3) := by decide +kernel
theorem dX6_cut_26 : decode cX6_cut 26 = .ok (.iload_n 1, 1) := by decide +kernel
theorem dX6_cut_27 : decode cX6_cut 27 = .ok (.aaload, 1) := by decide +kernel
theorem dX6_cut_28 : decode cX6_cut 28 = .ok (.iload_n 2, 1) := by decide +kernel
theorem dX6_cut_29 : decode cX6_cut 29 = .ok (.invokevirtual 74, 3) := by decide +kernel
theorem dX6_cut_32 : decode cX6_cut 32 = .ok (.aload_n 0, 1) := by decide +kernel
theorem dX6_cut_33 : decode cX6_cut 33 = .ok (.iload_n 1, 1) := by decide +kernel
theorem dX6_cut_34 : decode cX6_cut 34 = .ok (.iload_n 3, 1) := by decide +kernel
theorem dX6_cut_35 : decode cX6_cut 35 = .ok (.invokevirtual 66, 3) := by decide +kernel
theorem dX6_cut_38 : decode cX6_cut 38 = .ok (.iconst 1, 1) := by decide +kernel
theorem dX6_cut_39 : decode cX6_cut 39 = .ok (.ireturn, 1) := by decide +kernel
theorem dX6_change_0 : decode cX6_change 0 = .ok (.aload_n 0, 1) := by decide +kernel
theorem dX6_change_1 : decode cX6_change 1 = .ok (.iload_n 1, 1) := by decide +kernel
theorem dX6_change_2 : decode cX6_change 2 = .ok (.iload_n 2, 1) := by decide +kernel
theorem dX6_change_3 : decode cX6_change 3 = .ok (.invokevirtual 70, 3) := by decide +kernel
theorem dX6_change_6 : decode cX6_change 6 = .ok (.ifCond .eq 24, 3) := by decide +kernel
theorem dX6_change_9 : decode cX6_change 9 = .ok (.iload_n 3, 1) := by decide +kernel
theorem dX6_change_10 : decode cX6_change 10 = .ok (.invokestatic 48, 3) := by decide +kernel
theorem dX6_change_13 : decode cX6_change 13 = .ok (.ifCond .eq 17, 3) := by decide +kernel
theorem dX6_change_16 : decode cX6_change 16 = .ok (.aload_n 0, 1) := by decide +kernel
theorem dX6_change_17 : decode cX6_change 17 = .ok (.getfield 11, 3) := by decide +kernel
theorem dX6_change_20 : decode cX6_change 20 = .ok (.iload_n 1, 1) := by decide +kernel
theorem dX6_change_21 : decode cX6_change 21 = .ok (.aaload, 1) := by decide +kernel
theorem dX6_change_22 : decode cX6_change 22 = .ok (.iload_n 2, 1) := by decide +kernel
theorem dX6_change_23 : decode cX6_change 23 = .ok (.invokevirtual 78, 3) := by decide +kernel
theorem dX6_change_26 : decode cX6_change 26 = .ok (.iload_n 3, 1) := by decide +kernel
theorem dX6_change_27 : decode cX6_change 27 = .ok (.if_icmp .ne 5, 3) := by decide +kernel
theorem dX6_change_30 : decode cX6_change 30 = .ok (.iconst 0, 1) := by decide +kernel
theorem dX6_change_31 : decode cX6_change 31 = .ok (.ireturn, 1) := by decide +kernel
theorem dX6_change_32 : decode cX6_change 32 = .ok (.aload_n 0, 1) := by decide +kernel
theorem dX6_change_33 : decode cX6_change 33 = .ok (.getfield 11, 3) := by decide +kernel
theorem dX6_change_36 : decode cX6_change 36 = .ok (.iload_n 1, 1) := by decide +kernel
theorem dX6_change_37 : decode cX6_change 37 = .ok (.aaload, 1) := by decide +kernel
theorem dX6_change_38 : decode cX6_change 38 = .ok (.iconst 1, 1) := by decide +kernel
theorem dX6_change_39 : decode cX6_change 39 = .ok (.invokevirtual 54, 3) := by decide +kernel
theorem dX6_change_42 : decode cX6_change 42 = .ok (.istore 4, 2) := by decide +kernel
theorem dX6_change_44 : decode cX6_change 44 = .ok (.aload_n 0, 1) := by decide +kernel
theorem dX6_change_45 : decode cX6_change 45 = .ok (.getfield 11, 3) := by decide +kernel
theorem dX6_change_48 : decode cX6_change 48 = .ok (.iload_n 1, 1) := by decide +kernel
theorem dX6_change_49 : decode cX6_change 49 = .ok (.aaload, 1) := by decide +kernel
theorem dX6_change_50 : decode cX6_change 50 = .ok (.iload_n 2, 1) := by decide +kernel
theorem dX6_change_51 : decode cX6_change 51 = .ok (.iload_n 3, 1) := by decide +kernel
theorem dX6_change_52 : decode cX6_change 52 = .ok (.invokevirtual 81, 3) := by decide +kernel
theorem dX6_change_55 : decode cX6_change 55 = .ok (.aload_n 0, 1) := by decide +kernel
theorem dX6_change_56 : decode cX6_change 56 = .ok (.iload_n 1, 1) := by decide +kernel
theorem dX6_change_57 : decode cX6_change 57 = .ok (.iload 4, 2) := by decide +kernel
theorem dX6_change_59 : decode cX6_change 59 = .ok (.invokevirtual 66, 3) := by decide +kernel
theorem dX6_change_62 : decode cX6_change 62 = .ok (.iconst 1, 1) := by decide +kernel
theorem dX6_change_63 : decode cX6_change 63 = .ok (.ireturn, 1) := by decide +kernel
theorem dX6_feed_0 : decode cX6_feed 0 = .ok (.aload_n 0, 1) := by decide +kernel
theorem dX6_feed_1 : decode cX6_feed 1 = .ok (.getfield 19, 3) := by decide +kernel
theorem dX6_feed_4 : decode cX6_feed 4 = .ok (.invokevirtual 84, 3) := by decide +kernel
theorem dX6_feed_7 : decode cX6_feed 7 = .ok (.bipush 20, 2) := by decide +kernel
theorem dX6_feed_9 : decode cX6_feed 9 = .ok (.iadd, 1) := by decide +kernel
theorem dX6_feed_10 : decode cX6_feed 10 = .ok (.bipush 40, 2) := by decide +kernel
theorem dX6_feed_12 : decode cX6_feed 12 = .ok (.if_icmp .le 5, 3) := by decide +kernel
theorem dX6_feed_15 : decode cX6_feed 15 = .ok (.iconst (-1), 1) := by decide +kernel
theorem dX6_feed_16 : decode cX6_feed 16 = .ok (.ireturn, 1) := by decide +kernel
theorem dX6_feed_17 : decode cX6_feed 17 = .ok (.aload_n 0, 1) := by decide +kernel
theorem dX6_feed_18 : decode cX6_feed 18 = .ok (.getfield 19, 3) := by decide +kernel
theorem dX6_feed_21 : decode cX6_feed 21 = .ok (.iload_n 1, 1) := by decide +kernel
theorem dX6_feed_22 : decode cX6_feed 22 = .ok (.invokevirtual 88, 3) := by decide +kernel
theorem dX6_feed_25 : decode cX6_feed 25 = .ok (.aload_n 0, 1) := by decide +kernel
theorem dX6_feed_26 : decode cX6_feed 26 = .ok (.getfield 19, 3) := by decide +kernel
theorem dX6_feed_29 : decode cX6_feed 29 = .ok (.iload_n 2, 1) := by decide +kernel
theorem dX6_feed_30 : decode cX6_feed 30 = .ok (.invokevirtual 88, 3) := by decide +kernel
theorem dX6_feed_33 : decode cX6_feed 33 = .ok (.aload_n 0, 1) := by decide +kernel
theorem dX6_feed_34 : decode cX6_feed 34 = .ok (.getfield 19, 3) := by decide +kernel
theorem dX6_feed_37 : decode cX6_feed 37 = .ok (.iload_n 3, 1) := by decide +kernel
theorem dX6_feed_38 : decode cX6_feed 38 = .ok (.invokevirtual 88, 3) := by decide +kernel
theorem dX6_feed_41 : decode cX6_feed 41 = .ok (.aload_n 0, 1) := by decide +kernel
theorem dX6_feed_42 : decode cX6_feed 42 = .ok (.getfield 19, 3) := by decide +kernel
theorem dX6_feed_45 : decode cX6_feed 45 = .ok (.iload 4, 2) := by decide +kernel
theorem dX6_feed_47 : decode cX6_feed 47 = .ok (.invokevirtual 88, 3) := by decide +kernel
theorem dX6_feed_50 : decode cX6_feed 50 = .ok (.aload_n 0, 1) := by decide +kernel
theorem dX6_feed_51 : decode cX6_feed 51 = .ok (.getfield 19, 3) := by decide +kernel
theorem dX6_feed_54 : decode cX6_feed 54 = .ok (.iload 5, 2) := by decide +kernel
theorem dX6_feed_56 : decode cX6_feed 56 = .ok (.invokevirtual 88, 3) := by decide +kernel
theorem dX6_feed_59 : decode cX6_feed 59 = .ok (.aload_n 0, 1) := by decide +kernel
theorem dX6_feed_60 : decode cX6_feed 60 = .ok (.getfield 19, 3) := by decide +kernel
theorem dX6_feed_63 : decode cX6_feed 63 = .ok (.invokevirtual 84, 3) := by decide +kernel
theorem dX6_feed_66 : decode cX6_feed 66 = .ok (.ireturn, 1) := by decide +kernel
theorem dX6_end_0 : decode cX6_end 0 = .ok (.iload_n 1, 1) := by decide +kernel
theorem dX6_end_1 : decode cX6_end 1 = .ok (.ifCond .lt 14, 3) := by decide +kernel
theorem dX6_end_4 : decode cX6_end 4 = .ok (.iload_n 1, 1) := by decide +kernel
theorem dX6_end_5 : decode cX6_end 5 = .ok (.aload_n 0, 1) := by decide +kernel
theorem dX6_end_6 : decode cX6_end 6 = .ok (.getfield 19, 3) := by decide +kernel
theorem dX6_end_9 : decode cX6_end 9 = .ok (.invokevirtual 84, 3) := by decide +kernel
theorem dX6_end_12 : decode cX6_end 12 = .ok (.if_icmp .le 5, 3) := by decide +kernel
theorem dX6_end_15 : decode cX6_end 15 = .ok (.iconst 0, 1) := by decide +kernel
theorem dX6_end_16 : decode cX6_end 16 = .ok (.ireturn, 1) := by decide +kernel
theorem dX6_end_17 : decode cX6_end 17 = .ok (.aload_n 0, 1) := by decide +kernel
theorem dX6_end_18 : decode cX6_end 18 = .ok (.getfield 19, 3) := by decide +kernel
theorem dX6_end_21 : decode cX6_end 21 = .ok (.iload_n 1, 1) := by decide +kernel
theorem dX6_end_22 : decode cX6_end 22 = .ok (.invokevirtual 91, 3) := by decide +kernel
theorem dX6_end_25 : decode cX6_end 25 = .ok (.iconst 1, 1) := by decide +kernel
theorem dX6_end_26 : decode cX6_end 26 = .ok (.ireturn, 1) := by decide +kernel
theorem dX6_load_0 : decode cX6_load 0 = .ok (.aload_n 0, 1) := by decide +kernel
theorem dX6_load_1 : decode cX6_load 1 = .ok (.getfield 19, 3) := by decide +kernel
theorem dX6_load_4 : decode cX6_load 4 = .ok (.invokevirtual 84, 3) := by decide +kernel
theorem dX6_load_7 : decode cX6_load 7 = .ok (.istore_n 2, 1) := by decide +kernel
theorem dX6_load_8 : decode cX6_load 8 = .ok (.iload_n 1, 1) := by decide +kernel
theorem dX6_load_9 : decode cX6_load 9 = .ok (.invokestatic 44, 3) := by decide +kernel
theorem dX6_load_12 : decode cX6_load 12 = .ok (.ifCond .eq 9, 3) := by decide +kernel
theorem dX6_load_15 : decode cX6_load 15 = .ok (.iload_n 2, 1) := by decide +kernel
theorem dX6_load_16 : decode cX6_load 16 = .ok (.bipush 32, 2) := by decide +kernel
theorem dX6_load_18 : decode cX6_load 18 = .ok (.if_icmp .le 13, 3) := by decide +kernel
theorem dX6_load_21 : decode cX6_load 21 = .ok (.aload_n 0, 1) := by decide +kernel
theorem dX6_load_22 : decode cX6_load 22 = .ok (.getfield 19, 3) := by decide +kernel
theorem dX6_load_25 : decode cX6_load 25 = .ok (.iconst 0, 1) := by decide +kernel
theorem dX6_load_26 : decode cX6_load 26 = .ok (.invokevirtual 91, 3) := by decide +kernel
theorem dX6_load_29 : decode cX6_load 29 = .ok (.iconst (-1), 1) := by decide +kernel
theorem dX6_load_30 : decode cX6_load 30 = .ok (.ireturn, 1) := by decide +kernel
theorem dX6_load_31 : decode cX6_load 31 = .ok (.aload_n 0, 1) := by decide +kernel
theorem dX6_load_32 : decode cX6_load 32 = .ok (.getfield 11, 3) := by decide +kernel
theorem dX6_load_35 : decode cX6_load 35 = .ok (.iload_n 1, 1) := by decide +kernel
theorem dX6_load_36 : decode cX6_load 36 = .ok (.aaload, 1) := by decide +kernel
theorem dX6_load_37 : decode cX6_load 37 = .ok (.iconst 1, 1) := by decide +kernel
theorem dX6_load_38 : decode cX6_load 38 = .ok (.invokevirtual 54, 3) := by decide +kernel
theorem dX6_load_41 : decode cX6_load 41 = .ok (.istore_n 3, 1) := by decide +kernel
theorem dX6_load_42 : decode cX6_load 42 = .ok (.aload_n 0, 1) := by decide +kernel
theorem dX6_load_43 : decode cX6_load 43 = .ok (.getfield 26, 3) := by decide +kernel
theorem dX6_load_46 : decode cX6_load 46 = .ok (.aload_n 0, 1) := by decide +kernel
theorem dX6_load_47 : decode cX6_load 47 = .ok (.getfield 11, 3) := by decide +kernel
theorem dX6_load_50 : decode cX6_load 50 = .ok (.iload_n 1, 1) := by decide +kernel
theorem dX6_load_51 : decode cX6_load 51 = .ok (.aaload, 1) := by decide +kernel
theorem dX6_load_52 : decode cX6_load 52 = .ok (.aload_n 0, 1) := by decide +kernel
theorem dX6_load_53 : decode cX6_load 53 = .ok (.getfield 19, 3) := by decide +kernel
theorem dX6_load_56 : decode cX6_load 56 = .ok (.aload_n 0, 1) := by decide +kernel
theorem dX6_load_57 : decode cX6_load 57 = .ok (.getfield 58, 3) := by decide +kernel
theorem dX6_load_60 : decode cX6_load 60 = .ok (.invokevirtual 94, 3) := by decide +kernel
theorem dX6_load_63 : decode cX6_load 63 = .ok (.istore 4, 2) := by decide +kernel
theorem dX6_load_65 : decode cX6_load 65 = .ok (.aload_n 0, 1) := by decide +kernel
theorem dX6_load_66 : decode cX6_load 66 = .ok (.dup, 1) := by decide +kernel
theorem dX6_load_67 : decode cX6_load 67 = .ok (.getfield 58, 3) := by decide +kernel
theorem dX6_load_70 : decode cX6_load 70 = .ok (.iload_n 2, 1) := by decide +kernel
theorem dX6_load_71 : decode cX6_load 71 = .ok (.iload 4, 2) := by decide +kernel
theorem dX6_load_73 : decode cX6_load 73 = .ok (.isub, 1) := by decide +kernel
theorem dX6_load_74 : decode cX6_load 74 = .ok (.iadd, 1) := by decide +kernel
theorem dX6_load_75 : decode cX6_load 75 = .ok (.putfield 58, 3) := by decide +kernel
theorem dX6_load_78 : decode cX6_load 78 = .ok (.aload_n 0, 1) := by decide +kernel
theorem dX6_load_79 : decode cX6_load 79 = .ok (.getfield 11, 3) := by decide +kernel
theorem dX6_load_82 : decode cX6_load 82 = .ok (.iload_n 1, 1) := by decide +kernel
theorem dX6_load_83 : decode cX6_load 83 = .ok (.aaload, 1) := by decide +kernel
theorem dX6_load_84 : decode cX6_load 84 = .ok (.aload_n 0, 1) := by decide +kernel
theorem dX6_load_85 : decode cX6_load 85 = .ok (.getfield 19, 3) := by decide +kernel
theorem dX6_load_88 : decode cX6_load 88 = .ok (.aload_n 0, 1) := by decide +kernel
theorem dX6_load_89 : decode cX6_load 89 = .ok (.getfield 26, 3) := by decide +kernel
theorem dX6_load_92 : decode cX6_load 92 = .ok (.invokevirtual 98, 3) := by decide +kernel
theorem dX6_load_95 : decode cX6_load 95 = .ok (.aload_n 0, 1) := by decide +kernel
theorem dX6_load_96 : decode cX6_load 96 = .ok (.getfield 19, 3) := by decide +kernel
theorem dX6_load_99 : decode cX6_load 99 = .ok (.iconst 0, 1) := by decide +kernel
theorem dX6_load_100 : decode cX6_load 100 = .ok (.invokevirtual 91, 3) := by decide +kernel
theorem dX6_load_103 : decode cX6_load 103 = .ok (.aload_n 0, 1) := by decide +kernel
theorem dX6_load_104 : decode cX6_load 104 = .ok (.iload_n 1, 1) := by decide +kernel
theorem dX6_load_105 : decode cX6_load 105 = .ok (.iload_n 3, 1) := by decide +kernel
theorem dX6_load_106 : decode cX6_load 106 = .ok (.invokevirtual 66, 3) := by decide +kernel
theorem dX6_load_109 : decode cX6_load 109 = .ok (.iload 4, 2) := by decide +kernel
theorem dX6_load_111 : decode cX6_load 111 = .ok (.ireturn, 1) := by decide +kernel
theorem dX6_bad_0 : decode cX6_bad 0 = .ok (.iload_n 1, 1) := by decide +kernel
theorem dX6_bad_1 : decode cX6_bad 1 = .ok (.aload_n 0, 1) := by decide +kernel
theorem dX6_bad_2 : decode cX6_bad 2 = .ok (.getfield 102, 3) := by decide +kernel
theorem dX6_bad_5 : decode cX6_bad 5 = .ok (.if_icmp .ne 5, 3) := by decide +kernel
theorem dX6_bad_8 : decode cX6_bad 8 = .ok (.iconst 0, 1) := by decide +kernel
theorem dX6_bad_9 : decode cX6_bad 9 = .ok (.ireturn, 1) := by decide +kernel
theorem dX6_bad_10 : decode cX6_bad 10 = .ok (.iload_n 1, 1) := by decide +kernel
theorem dX6_bad_11 : decode cX6_bad 11 = .ok (.aload_n 0, 1) := by decide +kernel
theorem dX6_bad_12 : decode cX6_bad 12 = .ok (.getfield 102, 3) := by decide +kernel
theorem dX6_bad_15 : decode cX6_bad 15 = .ok (.ixor, 1) := by decide +kernel
theorem dX6_bad_16 : decode cX6_bad 16 = .ok (.istore_n 2, 1) := by decide +kernel
theorem dX6_bad_17 : decode cX6_bad 17 = .ok (.aload_n 0, 1) := by decide +kernel
theorem dX6_bad_18 : decode cX6_bad 18 = .ok (.iload_n 1, 1) := by decide +kernel
theorem dX6_bad_19 : decode cX6_bad 19 = .ok (.putfield 102, 3) := by decide +kernel
theorem dX6_bad_22 : decode cX6_bad 22 = .ok (.iconst 0, 1) := by decide +kernel
theorem dX6_bad_23 : decode cX6_bad 23 = .ok (.istore_n 3, 1) := by decide +kernel
theorem dX6_bad_24 : decode cX6_bad 24 = .ok (.iconst 0, 1) := by decide +kernel
theorem dX6_bad_25 : decode cX6_bad 25 = .ok (.istore 4, 2) := by decide +kernel
theorem dX6_bad_27 : decode cX6_bad 27 = .ok (.iload 4, 2) := by decide +kernel
theorem dX6_bad_29 : decode cX6_bad 29 = .ok (.bipush 6, 2) := by decide +kernel
theorem dX6_bad_31 : decode cX6_bad 31 = .ok (.if_icmp .ge 32, 3) := by decide +kernel
theorem dX6_bad_34 : decode cX6_bad 34 = .ok (.aload_n 0, 1) := by decide +kernel
theorem dX6_bad_35 : decode cX6_bad 35 = .ok (.getfield 11, 3) := by decide +kernel
theorem dX6_bad_38 : decode cX6_bad 38 = .ok (.iload 4, 2) := by decide +kernel
theorem dX6_bad_40 : decode cX6_bad 40 = .ok (.aaload, 1) := by decide +kernel
theorem dX6_bad_41 : decode cX6_bad 41 = .ok (.iconst 0, 1) := by decide +kernel
theorem dX6_bad_42 : decode cX6_bad 42 = .ok (.invokevirtual 54, 3) := by decide +kernel
theorem dX6_bad_45 : decode cX6_bad 45 = .ok (.iload_n 2, 1) := by decide +kernel
theorem dX6_bad_46 : decode cX6_bad 46 = .ok (.iand, 1) := by decide +kernel
theorem dX6_bad_47 : decode cX6_bad 47 = .ok (.ifCond .eq 10, 3) := by decide +kernel
theorem dX6_bad_50 : decode cX6_bad 50 = .ok (.iload_n 3, 1) := by decide +kernel
theorem dX6_bad_51 : decode cX6_bad 51 = .ok (.iconst 1, 1) := by decide +kernel
theorem dX6_bad_52 : decode cX6_bad 52 = .ok (.iload 4, 2) := by decide +kernel
theorem dX6_bad_54 : decode cX6_bad 54 = .ok (.ishl, 1) := by decide +kernel
theorem dX6_bad_55 : decode cX6_bad 55 = .ok (.ior, 1) := by decide +kernel
theorem dX6_bad_56 : decode cX6_bad 56 = .ok (.istore_n 3, 1) := by decide +kernel
theorem dX6_bad_57 : decode cX6_bad 57 = .ok (.iinc 4 1, 3) := by decide +kernel
theorem dX6_bad_60 : decode cX6_bad 60 = .ok (.goto (-33), 3) := by decide +kernel
theorem dX6_bad_63 : decode cX6_bad 63 = .ok (.aload_n 0, 1) := by decide +kernel
theorem dX6_bad_64 : decode cX6_bad 64 = .ok (.iload_n 3, 1) := by decide +kernel
theorem dX6_bad_65 : decode cX6_bad 65 = .ok (.invokevirtual 105, 3) := by decide +kernel
theorem dX6_bad_68 : decode cX6_bad 68 = .ok (.iconst 1, 1) := by decide +kernel
theorem dX6_bad_69 : decode cX6_bad 69 = .ok (.ireturn, 1) := by decide +kernel
theorem dX6_day_0 : decode cX6_day 0 = .ok (.aload_n 0, 1) := by decide +kernel
theorem dX6_day_1 : decode cX6_day 1 = .ok (.getfield 108, 3) := by decide +kernel
theorem dX6_day_4 : decode cX6_day 4 = .ok (.sipush 10000, 3) := by decide +kernel
theorem dX6_day_7 : decode cX6_day 7 = .ok (.if_icmp .lt 5, 3) := by decide +kernel
theorem dX6_day_10 : decode cX6_day 10 = .ok (.iconst (-1), 1) := by decide +kernel
theorem dX6_day_11 : decode cX6_day 11 = .ok (.ireturn, 1) := by decide +kernel
theorem dX6_day_12 : decode cX6_day 12 = .ok (.aload_n 0, 1) := by decide +kernel
theorem dX6_day_13 : decode cX6_day 13 = .ok (.dup, 1) := by decide +kernel
theorem dX6_day_14 : decode cX6_day 14 = .ok (.getfield 108, 3) := by decide +kernel
theorem dX6_day_17 : decode cX6_day 17 = .ok (.iconst 1, 1) := by decide +kernel
theorem dX6_day_18 : decode cX6_day 18 = .ok (.iadd, 1) := by decide +kernel
theorem dX6_day_19 : decode cX6_day 19 = .ok (.putfield 108, 3) := by decide +kernel
theorem dX6_day_22 : decode cX6_day 22 = .ok (.aload_n 0, 1) := by decide +kernel
theorem dX6_day_23 : decode cX6_day 23 = .ok (.getfield 108, 3) := by decide +kernel
theorem dX6_day_26 : decode cX6_day 26 = .ok (.ireturn, 1) := by decide +kernel
theorem dX6_look_0 : decode cX6_look 0 = .ok (.iload_n 1, 1) := by decide +kernel
theorem dX6_look_1 : decode cX6_look 1 = .ok (.tableswitch 101 0 8 #[51, 56, 61, 68, 73, 81, 86, 91, 96], 51) := by decide +kernel
theorem dX6_look_52 : decode cX6_look 52 = .ok (.aload_n 0, 1) := by decide +kernel
theorem dX6_look_53 : decode cX6_look 53 = .ok (.getfield 111, 3) := by decide +kernel
theorem dX6_look_56 : decode cX6_look 56 = .ok (.ireturn, 1) := by decide +kernel
theorem dX6_look_57 : decode cX6_look 57 = .ok (.aload_n 0, 1) := by decide +kernel
theorem dX6_look_58 : decode cX6_look 58 = .ok (.getfield 108, 3) := by decide +kernel
theorem dX6_look_61 : decode cX6_look 61 = .ok (.ireturn, 1) := by decide +kernel
theorem dX6_look_62 : decode cX6_look 62 = .ok (.aload_n 0, 1) := by decide +kernel
theorem dX6_look_63 : decode cX6_look 63 = .ok (.bipush 6, 2) := by decide +kernel
theorem dX6_look_65 : decode cX6_look 65 = .ok (.invokevirtual 114, 3) := by decide +kernel
theorem dX6_look_68 : decode cX6_look 68 = .ok (.ireturn, 1) := by decide +kernel
theorem dX6_look_69 : decode cX6_look 69 = .ok (.aload_n 0, 1) := by decide +kernel
theorem dX6_look_70 : decode cX6_look 70 = .ok (.invokevirtual 117, 3) := by decide +kernel
theorem dX6_look_73 : decode cX6_look 73 = .ok (.ireturn, 1) := by decide +kernel
theorem dX6_look_74 : decode cX6_look 74 = .ok (.aload_n 0, 1) := by decide +kernel
theorem dX6_look_75 : decode cX6_look 75 = .ok (.getfield 40, 3) := by decide +kernel
theorem dX6_look_78 : decode cX6_look 78 = .ok (.invokevirtual 120, 3) := by decide +kernel
theorem dX6_look_81 : decode cX6_look 81 = .ok (.ireturn, 1) := by decide +kernel
theorem dX6_look_82 : decode cX6_look 82 = .ok (.aload_n 0, 1) := by decide +kernel
theorem dX6_look_83 : decode cX6_look 83 = .ok (.getfield 121, 3) := by decide +kernel
theorem dX6_look_86 : decode cX6_look 86 = .ok (.ireturn, 1) := by decide +kernel
theorem dX6_look_87 : decode cX6_look 87 = .ok (.aload_n 0, 1) := by decide +kernel
theorem dX6_look_88 : decode cX6_look 88 = .ok (.invokevirtual 124, 3) := by decide +kernel
theorem dX6_look_91 : decode cX6_look 91 = .ok (.ireturn, 1) := by decide +kernel
theorem dX6_look_92 : decode cX6_look 92 = .ok (.aload_n 0, 1) := by decide +kernel
theorem dX6_look_93 : decode cX6_look 93 = .ok (.getfield 58, 3) := by decide +kernel
theorem dX6_look_96 : decode cX6_look 96 = .ok (.ireturn, 1) := by decide +kernel
theorem dX6_look_97 : decode cX6_look 97 = .ok (.aload_n 0, 1) := by decide +kernel
theorem dX6_look_98 : decode cX6_look 98 = .ok (.getfield 102, 3) := by decide +kernel
theorem dX6_look_101 : decode cX6_look 101 = .ok (.ireturn, 1) := by decide +kernel
theorem dX6_look_102 : decode cX6_look 102 = .ok (.iconst (-1), 1) := by decide +kernel
theorem dX6_look_103 : decode cX6_look 103 = .ok (.ireturn, 1) := by decide +kernel
theorem dX6_line_0 : decode cX6_line 0 = .ok (.aload_n 0, 1) := by decide +kernel
theorem dX6_line_1 : decode cX6_line 1 = .ok (.iload_n 1, 1) := by decide +kernel
theorem dX6_line_2 : decode cX6_line 2 = .ok (.iload_n 2, 1) := by decide +kernel
theorem dX6_line_3 : decode cX6_line 3 = .ok (.invokevirtual 70, 3) := by decide +kernel
theorem dX6_line_6 : decode cX6_line 6 = .ok (.ifCond .ne 5, 3) := by decide +kernel
theorem dX6_line_9 : decode cX6_line 9 = .ok (.iconst (-1), 1) := by decide +kernel
theorem dX6_line_10 : decode cX6_line 10 = .ok (.ireturn, 1) := by decide +kernel
theorem dX6_line_11 : decode cX6_line 11 = .ok (.iload_n 3, 1) := by decide +kernel
theorem dX6_line_12 : decode cX6_line 12 = .ok (.lookupswitch 50 #[(0, 28), (1, 39)], 28) := by decide +kernel
theorem dX6_line_40 : decode cX6_line 40 = .ok (.aload_n 0, 1) := by decide +kernel
theorem dX6_line_41 : decode cX6_line 41 = .ok (.getfield 11, 3) := by decide +kernel
theorem dX6_line_44 : decode cX6_line 44 = .ok (.iload_n 1, 1) := by decide +kernel
theorem dX6_line_45 : decode cX6_line 45 = .ok (.aaload, 1) := by decide +kernel
theorem dX6_line_46 : decode cX6_line 46 = .ok (.iload_n 2, 1) := by decide +kernel
theorem dX6_line_47 : decode cX6_line 47 = .ok (.invokevirtual 78, 3) := by decide +kernel
theorem dX6_line_50 : decode cX6_line 50 = .ok (.ireturn, 1) := by decide +kernel
theorem dX6_line_51 : decode cX6_line 51 = .ok (.aload_n 0, 1) := by decide +kernel
theorem dX6_line_52 : decode cX6_line 52 = .ok (.getfield 11, 3) := by decide +kernel
theorem dX6_line_55 : decode cX6_line 55 = .ok (.iload_n 1, 1) := by decide +kernel
theorem dX6_line_56 : decode cX6_line 56 = .ok (.aaload, 1) := by decide +kernel
theorem dX6_line_57 : decode cX6_line 57 = .ok (.iload_n 2, 1) := by decide +kernel
theorem dX6_line_58 : decode cX6_line 58 = .ok (.invokevirtual 127, 3) := by decide +kernel
theorem dX6_line_61 : decode cX6_line 61 = .ok (.ireturn, 1) := by decide +kernel
theorem dX6_line_62 : decode cX6_line 62 = .ok (.iconst (-1), 1) := by decide +kernel
theorem dX6_line_63 : decode cX6_line 63 = .ok (.ireturn, 1) := by decide +kernel
theorem dX6_finding_0 : decode cX6_finding 0 = .ok (.aload_n 0, 1) := by decide +kernel
theorem dX6_finding_1 : decode cX6_finding 1 = .ok (.iload_n 1, 1) := by decide +kernel
theorem dX6_finding_2 : decode cX6_finding 2 = .ok (.invokevirtual 130, 3) := by decide +kernel
theorem dX6_finding_5 : decode cX6_finding 5 = .ok (.istore_n 3, 1) := by decide +kernel
theorem dX6_finding_6 : decode cX6_finding 6 = .ok (.iload_n 3, 1) := by decide +kernel
theorem dX6_finding_7 : decode cX6_finding 7 = .ok (.iconst (-1), 1) := by decide +kernel
theorem dX6_finding_8 : decode cX6_finding 8 = .ok (.if_icmp .ne 5, 3) := by decide +kernel
theorem dX6_finding_11 : decode cX6_finding 11 = .ok (.iconst (-1), 1) := by decide +kernel
theorem dX6_finding_12 : decode cX6_finding 12 = .ok (.ireturn, 1) := by decide +kernel
theorem dX6_finding_13 : decode cX6_finding 13 = .ok (.aload_n 0, 1) := by decide +kernel
theorem dX6_finding_14 : decode cX6_finding 14 = .ok (.getfield 11, 3) := by decide +kernel
theorem dX6_finding_17 : decode cX6_finding 17 = .ok (.iload_n 3, 1) := by decide +kernel
theorem dX6_finding_18 : decode cX6_finding 18 = .ok (.aaload, 1) := by decide +kernel
theorem dX6_finding_19 : decode cX6_finding 19 = .ok (.invokevirtual 133, 3) := by decide +kernel
theorem dX6_finding_22 : decode cX6_finding 22 = .ok (.astore 4, 2) := by decide +kernel
theorem dX6_finding_24 : decode cX6_finding 24 = .ok (.iload_n 1, 1) := by decide +kernel
theorem dX6_finding_25 : decode cX6_finding 25 = .ok (.aload_n 0, 1) := by decide +kernel
theorem dX6_finding_26 : decode cX6_finding 26 = .ok (.iload_n 3, 1) := by decide +kernel
theorem dX6_finding_27 : decode cX6_finding 27 = .ok (.invokevirtual 114, 3) := by decide +kernel
theorem dX6_finding_30 : decode cX6_finding 30 = .ok (.isub, 1) := by decide +kernel
theorem dX6_finding_31 : decode cX6_finding 31 = .ok (.istore 5, 2) := by decide +kernel
theorem dX6_finding_33 : decode cX6_finding 33 = .ok (.iload_n 2, 1) := by decide +kernel
theorem dX6_finding_34 : decode cX6_finding 34 = .ok (.tableswitch 124 0 7 #[46, 54, 56, 64, 72, 80, 100, 112], 46) := by decide +kernel
theorem dX6_finding_80 : decode cX6_finding 80 = .ok (.aload 4, 2) := by decide +kernel
theorem dX6_finding_82 : decode cX6_finding 82 = .ok (.iload 5, 2) := by decide +kernel
theorem dX6_finding_84 : decode cX6_finding 84 = .ok (.invokevirtual 137, 3) := by decide +kernel
theorem dX6_finding_87 : decode cX6_finding 87 = .ok (.ireturn, 1) := by decide +kernel
theorem dX6_finding_88 : decode cX6_finding 88 = .ok (.iload_n 3, 1) := by decide +kernel
theorem dX6_finding_89 : decode cX6_finding 89 = .ok (.ireturn, 1) := by decide +kernel
theorem dX6_finding_90 : decode cX6_finding 90 = .ok (.aload 4, 2) := by decide +kernel
theorem dX6_finding_92 : decode cX6_finding 92 = .ok (.iload 5, 2) := by decide +kernel
theorem dX6_finding_94 : decode cX6_finding 94 = .ok (.invokevirtual 142, 3) := by decide +kernel
theorem dX6_finding_97 : decode cX6_finding 97 = .ok (.ireturn, 1) := by decide +kernel
theorem dX6_finding_98 : decode cX6_finding 98 = .ok (.aload 4, 2) := by decide +kernel
theorem dX6_finding_100 : decode cX6_finding 100 = .ok (.iload 5, 2) := by decide +kernel
theorem dX6_finding_102 : decode cX6_finding 102 = .ok (.invokevirtual 145, 3) := by decide +kernel
theorem dX6_finding_105 : decode cX6_finding 105 = .ok (.ireturn, 1) := by decide +kernel
theorem dX6_finding_106 : decode cX6_finding 106 = .ok (.aload 4, 2) := by decide +kernel
theorem dX6_finding_108 : decode cX6_finding 108 = .ok (.iload 5, 2) := by decide +kernel
theorem dX6_finding_110 : decode cX6_finding 110 = .ok (.invokevirtual 146, 3) := by decide +kernel
theorem dX6_finding_113 : decode cX6_finding 113 = .ok (.ireturn, 1) := by decide +kernel
theorem dX6_finding_114 : decode cX6_finding 114 = .ok (.aload 4, 2) := by decide +kernel
theorem dX6_finding_116 : decode cX6_finding 116 = .ok (.iload 5, 2) := by decide +kernel
theorem dX6_finding_118 : decode cX6_finding 118 = .ok (.aload_n 0, 1) := by decide +kernel
theorem dX6_finding_119 : decode cX6_finding 119 = .ok (.getfield 108, 3) := by decide +kernel
theorem dX6_finding_122 : decode cX6_finding 122 = .ok (.invokevirtual 149, 3) := by decide +kernel
theorem dX6_finding_125 : decode cX6_finding 125 = .ok (.ifCond .eq 7, 3) := by decide +kernel
theorem dX6_finding_128 : decode cX6_finding 128 = .ok (.iconst 1, 1) := by decide +kernel
theorem dX6_finding_129 : decode cX6_finding 129 = .ok (.goto 4, 3) := by decide +kernel
theorem dX6_finding_132 : decode cX6_finding 132 = .ok (.iconst 0, 1) := by decide +kernel
theorem dX6_finding_133 : decode cX6_finding 133 = .ok (.ireturn, 1) := by decide +kernel
theorem dX6_finding_134 : decode cX6_finding 134 = .ok (.aload 4, 2) := by decide +kernel
theorem dX6_finding_136 : decode cX6_finding 136 = .ok (.iload 5, 2) := by decide +kernel
theorem dX6_finding_138 : decode cX6_finding 138 = .ok (.aload_n 0, 1) := by decide +kernel
theorem dX6_finding_139 : decode cX6_finding 139 = .ok (.getfield 108, 3) := by decide +kernel
theorem dX6_finding_142 : decode cX6_finding 142 = .ok (.invokevirtual 152, 3) := by decide +kernel
theorem dX6_finding_145 : decode cX6_finding 145 = .ok (.ireturn, 1) := by decide +kernel
theorem dX6_finding_146 : decode cX6_finding 146 = .ok (.aload 4, 2) := by decide +kernel
theorem dX6_finding_148 : decode cX6_finding 148 = .ok (.iload 5, 2) := by decide +kernel
theorem dX6_finding_150 : decode cX6_finding 150 = .ok (.aload_n 0, 1) := by decide +kernel
theorem dX6_finding_151 : decode cX6_finding 151 = .ok (.getfield 108, 3) := by decide +kernel
theorem dX6_finding_154 : decode cX6_finding 154 = .ok (.invokevirtual 156, 3) := by decide +kernel
theorem dX6_finding_157 : decode cX6_finding 157 = .ok (.ireturn, 1) := by decide +kernel
theorem dX6_finding_158 : decode cX6_finding 158 = .ok (.iconst (-1), 1) := by decide +kernel
theorem dX6_finding_159 : decode cX6_finding 159 = .ok (.ireturn, 1) := by decide +kernel
theorem dX6_find_0 : decode cX6_find 0 = .ok (.iconst 0, 1) := by decide +kernel
theorem dX6_find_1 : decode cX6_find 1 = .ok (.istore_n 3, 1) := by decide +kernel
theorem dX6_find_2 : decode cX6_find 2 = .ok (.iload_n 3, 1) := by decide +kernel
theorem dX6_find_3 : decode cX6_find 3 = .ok (.bipush 6, 2) := by decide +kernel
theorem dX6_find_5 : decode cX6_find 5 = .ok (.if_icmp .ge 40, 3) := by decide +kernel
theorem dX6_find_8 : decode cX6_find 8 = .ok (.aload_n 0, 1) := by decide +kernel
theorem dX6_find_9 : decode cX6_find 9 = .ok (.getfield 11, 3) := by decide +kernel
theorem dX6_find_12 : decode cX6_find 12 = .ok (.iload_n 3, 1) := by decide +kernel
theorem dX6_find_13 : decode cX6_find 13 = .ok (.aaload, 1) := by decide +kernel
theorem dX6_find_14 : decode cX6_find 14 = .ok (.invokevirtual 133, 3) := by decide +kernel
theorem dX6_find_17 : decode cX6_find 17 = .ok (.iload_n 1, 1) := by decide +kernel
theorem dX6_find_18 : decode cX6_find 18 = .ok (.iload_n 2, 1) := by decide +kernel
theorem dX6_find_19 : decode cX6_find 19 = .ok (.invokevirtual 159, 3) := by decide +kernel
theorem dX6_find_22 : decode cX6_find 22 = .ok (.istore 4, 2) := by decide +kernel
theorem dX6_find_24 : decode cX6_find 24 = .ok (.iload 4, 2) := by decide +kernel
theorem dX6_find_26 : decode cX6_find 26 = .ok (.iconst (-1), 1) := by decide +kernel
theorem dX6_find_27 : decode cX6_find 27 = .ok (.if_icmp .eq 12, 3) := by decide +kernel
theorem dX6_find_30 : decode cX6_find 30 = .ok (.aload_n 0, 1) := by decide +kernel
theorem dX6_find_31 : decode cX6_find 31 = .ok (.iload_n 3, 1) := by decide +kernel
theorem dX6_find_32 : decode cX6_find 32 = .ok (.invokevirtual 114, 3) := by decide +kernel
theorem dX6_find_35 : decode cX6_find 35 = .ok (.iload 4, 2) := by decide +kernel
theorem dX6_find_37 : decode cX6_find 37 = .ok (.iadd, 1) := by decide +kernel
theorem dX6_find_38 : decode cX6_find 38 = .ok (.ireturn, 1) := by decide +kernel
theorem dX6_find_39 : decode cX6_find 39 = .ok (.iinc 3 1, 3) := by decide +kernel
theorem dX6_find_42 : decode cX6_find 42 = .ok (.goto (-40), 3) := by decide +kernel
theorem dX6_find_45 : decode cX6_find 45 = .ok (.iconst (-1), 1) := by decide +kernel
theorem dX6_find_46 : decode cX6_find 46 = .ok (.ireturn, 1) := by decide +kernel
theorem dX6_silence_0 : decode cX6_silence 0 = .ok (.aload_n 0, 1) := by decide +kernel
theorem dX6_silence_1 : decode cX6_silence 1 = .ok (.iload_n 1, 1) := by decide +kernel
theorem dX6_silence_2 : decode cX6_silence 2 = .ok (.invokevirtual 130, 3) := by decide +kernel
theorem dX6_silence_5 : decode cX6_silence 5 = .ok (.istore 4, 2) := by decide +kernel
theorem dX6_silence_7 : decode cX6_silence 7 = .ok (.iload_n 2, 1) := by decide +kernel
theorem dX6_silence_8 : decode cX6_silence 8 = .ok (.iconst 1, 1) := by decide +kernel
theorem dX6_silence_9 : decode cX6_silence 9 = .ok (.if_icmp .lt 13, 3) := by decide +kernel
theorem dX6_silence_12 : decode cX6_silence 12 = .ok (.iload_n 2, 1) := by decide +kernel
theorem dX6_silence_13 : decode cX6_silence 13 = .ok (.bipush 99, 2) := by decide +kernel
theorem dX6_silence_15 : decode cX6_silence 15 = .ok (.if_icmp .gt 7, 3) := by decide +kernel
theorem dX6_silence_18 : decode cX6_silence 18 = .ok (.iconst 1, 1) := by decide +kernel
theorem dX6_silence_19 : decode cX6_silence 19 = .ok (.goto 4, 3) := by decide +kernel
theorem dX6_silence_22 : decode cX6_silence 22 = .ok (.iconst 0, 1) := by decide +kernel
theorem dX6_silence_23 : decode cX6_silence 23 = .ok (.istore 5, 2) := by decide +kernel
theorem dX6_silence_25 : decode cX6_silence 25 = .ok (.iload_n 3, 1) := by decide +kernel
theorem dX6_silence_26 : decode cX6_silence 26 = .ok (.ifCond .lt 13, 3) := by decide +kernel
theorem dX6_silence_29 : decode cX6_silence 29 = .ok (.iload_n 3, 1) := by decide +kernel
theorem dX6_silence_30 : decode cX6_silence 30 = .ok (.bipush 99, 2) := by decide +kernel
theorem dX6_silence_32 : decode cX6_silence 32 = .ok (.if_icmp .gt 7, 3) := by decide +kernel
theorem dX6_silence_35 : decode cX6_silence 35 = .ok (.iconst 1, 1) := by decide +kernel
theorem dX6_silence_36 : decode cX6_silence 36 = .ok (.goto 4, 3) := by decide +kernel
theorem dX6_silence_39 : decode cX6_silence 39 = .ok (.iconst 0, 1) := by decide +kernel
theorem dX6_silence_40 : decode cX6_silence 40 = .ok (.istore 6, 2) := by decide +kernel
theorem dX6_silence_42 : decode cX6_silence 42 = .ok (.iload 4, 2) := by decide +kernel
theorem dX6_silence_44 : decode cX6_silence 44 = .ok (.iconst (-1), 1) := by decide +kernel
theorem dX6_silence_45 : decode cX6_silence 45 = .ok (.if_icmp .eq 13, 3) := by decide +kernel
theorem dX6_silence_48 : decode cX6_silence 48 = .ok (.iload 5, 2) := by decide +kernel
theorem dX6_silence_50 : decode cX6_silence 50 = .ok (.ifCond .eq 8, 3) := by decide +kernel
theorem dX6_silence_53 : decode cX6_silence 53 = .ok (.iload 6, 2) := by decide +kernel
theorem dX6_silence_55 : decode cX6_silence 55 = .ok (.ifCond .ne 5, 3) := by decide +kernel
theorem dX6_silence_58 : decode cX6_silence 58 = .ok (.iconst 0, 1) := by decide +kernel
theorem dX6_silence_59 : decode cX6_silence 59 = .ok (.ireturn, 1) := by decide +kernel
theorem dX6_silence_60 : decode cX6_silence 60 = .ok (.aload_n 0, 1) := by decide +kernel
theorem dX6_silence_61 : decode cX6_silence 61 = .ok (.getfield 11, 3) := by decide +kernel
theorem dX6_silence_64 : decode cX6_silence 64 = .ok (.iload 4, 2) := by decide +kernel
theorem dX6_silence_66 : decode cX6_silence 66 = .ok (.aaload, 1) := by decide +kernel
theorem dX6_silence_67 : decode cX6_silence 67 = .ok (.invokevirtual 133, 3) := by decide +kernel
theorem dX6_silence_70 : decode cX6_silence 70 = .ok (.iload_n 1, 1) := by decide +kernel
theorem dX6_silence_71 : decode cX6_silence 71 = .ok (.aload_n 0, 1) := by decide +kernel
theorem dX6_silence_72 : decode cX6_silence 72 = .ok (.iload 4, 2) := by decide +kernel
theorem dX6_silence_74 : decode cX6_silence 74 = .ok (.invokevirtual 114, 3) := by decide +kernel
theorem dX6_silence_77 : decode cX6_silence 77 = .ok (.isub, 1) := by decide +kernel
theorem dX6_silence_78 : decode cX6_silence 78 = .ok (.aload_n 0, 1) := by decide +kernel
theorem dX6_silence_79 : decode cX6_silence 79 = .ok (.getfield 108, 3) := by decide +kernel
theorem dX6_silence_82 : decode cX6_silence 82 = .ok (.iload_n 2, 1) := by decide +kernel
theorem dX6_silence_83 : decode cX6_silence 83 = .ok (.iadd, 1) := by decide +kernel
theorem dX6_silence_84 : decode cX6_silence 84 = .ok (.iload_n 3, 1) := by decide +kernel
theorem dX6_silence_85 : decode cX6_silence 85 = .ok (.invokevirtual 162, 3) := by decide +kernel
theorem dX6_silence_88 : decode cX6_silence 88 = .ok (.iconst 1, 1) := by decide +kernel
theorem dX6_silence_89 : decode cX6_silence 89 = .ok (.ireturn, 1) := by decide +kernel
theorem dX6_speak_0 : decode cX6_speak 0 = .ok (.aload_n 0, 1) := by decide +kernel
theorem dX6_speak_1 : decode cX6_speak 1 = .ok (.iload_n 1, 1) := by decide +kernel
theorem dX6_speak_2 : decode cX6_speak 2 = .ok (.invokevirtual 130, 3) := by decide +kernel
theorem dX6_speak_5 : decode cX6_speak 5 = .ok (.istore_n 2, 1) := by decide +kernel
theorem dX6_speak_6 : decode cX6_speak 6 = .ok (.iload_n 2, 1) := by decide +kernel
theorem dX6_speak_7 : decode cX6_speak 7 = .ok (.iconst (-1), 1) := by decide +kernel
theorem dX6_speak_8 : decode cX6_speak 8 = .ok (.if_icmp .ne 5, 3) := by decide +kernel
theorem dX6_speak_11 : decode cX6_speak 11 = .ok (.iconst 0, 1) := by decide +kernel
theorem dX6_speak_12 : decode cX6_speak 12 = .ok (.ireturn, 1) := by decide +kernel
theorem dX6_speak_13 : decode cX6_speak 13 = .ok (.aload_n 0, 1) := by decide +kernel
theorem dX6_speak_14 : decode cX6_speak 14 = .ok (.getfield 11, 3) := by decide +kernel
theorem dX6_speak_17 : decode cX6_speak 17 = .ok (.iload_n 2, 1) := by decide +kernel
theorem dX6_speak_18 : decode cX6_speak 18 = .ok (.aaload, 1) := by decide +kernel
theorem dX6_speak_19 : decode cX6_speak 19 = .ok (.invokevirtual 133, 3) := by decide +kernel
theorem dX6_speak_22 : decode cX6_speak 22 = .ok (.astore_n 3, 1) := by decide +kernel
theorem dX6_speak_23 : decode cX6_speak 23 = .ok (.iload_n 1, 1) := by decide +kernel
theorem dX6_speak_24 : decode cX6_speak 24 = .ok (.aload_n 0, 1) := by decide +kernel
theorem dX6_speak_25 : decode cX6_speak 25 = .ok (.iload_n 2, 1) := by decide +kernel
theorem dX6_speak_26 : decode cX6_speak 26 = .ok (.invokevirtual 114, 3) := by decide +kernel
theorem dX6_speak_29 : decode cX6_speak 29 = .ok (.isub, 1) := by decide +kernel
