theorem dX6_speak_30 : decode cX6_speak 30 = .ok (.istore 4, 2) := by decide +kernel
theorem dX6_speak_32 : decode cX6_speak 32 = .ok (.aload_n 3, 1) := by decide +kernel
theorem dX6_speak_33 : decode cX6_speak 33 = .ok (.iload 4, 2) := by decide +kernel
theorem dX6_speak_35 : decode cX6_speak 35 = .ok (.aload_n 0, 1) := by decide +kernel
theorem dX6_speak_36 : decode cX6_speak 36 = .ok (.getfield 108, 3) := by decide +kernel
theorem dX6_speak_39 : decode cX6_speak 39 = .ok (.invokevirtual 149, 3) := by decide +kernel
theorem dX6_speak_42 : decode cX6_speak 42 = .ok (.ifCond .ne 5, 3) := by decide +kernel
theorem dX6_speak_45 : decode cX6_speak 45 = .ok (.iconst 0, 1) := by decide +kernel
theorem dX6_speak_46 : decode cX6_speak 46 = .ok (.ireturn, 1) := by decide +kernel
theorem dX6_speak_47 : decode cX6_speak 47 = .ok (.aload_n 3, 1) := by decide +kernel
theorem dX6_speak_48 : decode cX6_speak 48 = .ok (.iload 4, 2) := by decide +kernel
theorem dX6_speak_50 : decode cX6_speak 50 = .ok (.invokevirtual 165, 3) := by decide +kernel
theorem dX6_speak_53 : decode cX6_speak 53 = .ok (.iconst 1, 1) := by decide +kernel
theorem dX6_speak_54 : decode cX6_speak 54 = .ok (.ireturn, 1) := by decide +kernel
theorem dX6_since_0 : decode cX6_since 0 = .ok (.iload_n 2, 1) := by decide +kernel
theorem dX6_since_1 : decode cX6_since 1 = .ok (.ifCond .eq 10, 3) := by decide +kernel
theorem dX6_since_4 : decode cX6_since 4 = .ok (.iload_n 2, 1) := by decide +kernel
theorem dX6_since_5 : decode cX6_since 5 = .ok (.iconst 1, 1) := by decide +kernel
theorem dX6_since_6 : decode cX6_since 6 = .ok (.if_icmp .eq 5, 3) := by decide +kernel
theorem dX6_since_9 : decode cX6_since 9 = .ok (.iconst (-1), 1) := by decide +kernel
theorem dX6_since_10 : decode cX6_since 10 = .ok (.ireturn, 1) := by decide +kernel
theorem dX6_since_11 : decode cX6_since 11 = .ok (.iconst 0, 1) := by decide +kernel
theorem dX6_since_12 : decode cX6_since 12 = .ok (.istore_n 3, 1) := by decide +kernel
theorem dX6_since_13 : decode cX6_since 13 = .ok (.iconst 0, 1) := by decide +kernel
theorem dX6_since_14 : decode cX6_since 14 = .ok (.istore 4, 2) := by decide +kernel
theorem dX6_since_16 : decode cX6_since 16 = .ok (.iload 4, 2) := by decide +kernel
theorem dX6_since_18 : decode cX6_since 18 = .ok (.bipush 6, 2) := by decide +kernel
theorem dX6_since_20 : decode cX6_since 20 = .ok (.if_icmp .ge 40, 3) := by decide +kernel
theorem dX6_since_23 : decode cX6_since 23 = .ok (.iload_n 3, 1) := by decide +kernel
theorem dX6_since_24 : decode cX6_since 24 = .ok (.aload_n 0, 1) := by decide +kernel
theorem dX6_since_25 : decode cX6_since 25 = .ok (.getfield 11, 3) := by decide +kernel
theorem dX6_since_28 : decode cX6_since 28 = .ok (.iload 4, 2) := by decide +kernel
theorem dX6_since_30 : decode cX6_since 30 = .ok (.aaload, 1) := by decide +kernel
theorem dX6_since_31 : decode cX6_since 31 = .ok (.invokevirtual 133, 3) := by decide +kernel
theorem dX6_since_34 : decode cX6_since 34 = .ok (.iload_n 1, 1) := by decide +kernel
theorem dX6_since_35 : decode cX6_since 35 = .ok (.iload_n 2, 1) := by decide +kernel
theorem dX6_since_36 : decode cX6_since 36 = .ok (.iconst 1, 1) := by decide +kernel
theorem dX6_since_37 : decode cX6_since 37 = .ok (.if_icmp .ne 7, 3) := by decide +kernel
theorem dX6_since_40 : decode cX6_since 40 = .ok (.iconst 1, 1) := by decide +kernel
theorem dX6_since_41 : decode cX6_since 41 = .ok (.goto 4, 3) := by decide +kernel
theorem dX6_since_44 : decode cX6_since 44 = .ok (.iconst 0, 1) := by decide +kernel
theorem dX6_since_45 : decode cX6_since 45 = .ok (.aload_n 0, 1) := by decide +kernel
theorem dX6_since_46 : decode cX6_since 46 = .ok (.getfield 108, 3) := by decide +kernel
theorem dX6_since_49 : decode cX6_since 49 = .ok (.invokevirtual 168, 3) := by decide +kernel
theorem dX6_since_52 : decode cX6_since 52 = .ok (.iadd, 1) := by decide +kernel
theorem dX6_since_53 : decode cX6_since 53 = .ok (.istore_n 3, 1) := by decide +kernel
theorem dX6_since_54 : decode cX6_since 54 = .ok (.iinc 4 1, 3) := by decide +kernel
theorem dX6_since_57 : decode cX6_since 57 = .ok (.goto (-41), 3) := by decide +kernel
theorem dX6_since_60 : decode cX6_since 60 = .ok (.iload_n 3, 1) := by decide +kernel
theorem dX6_since_61 : decode cX6_since 61 = .ok (.ireturn, 1) := by decide +kernel
theorem dX6_log_0 : decode cX6_log 0 = .ok (.iload_n 1, 1) := by decide +kernel
theorem dX6_log_1 : decode cX6_log 1 = .ok (.ifCond .lt 14, 3) := by decide +kernel
theorem dX6_log_4 : decode cX6_log 4 = .ok (.iload_n 1, 1) := by decide +kernel
theorem dX6_log_5 : decode cX6_log 5 = .ok (.aload_n 0, 1) := by decide +kernel
theorem dX6_log_6 : decode cX6_log 6 = .ok (.getfield 40, 3) := by decide +kernel
theorem dX6_log_9 : decode cX6_log 9 = .ok (.invokevirtual 120, 3) := by decide +kernel
theorem dX6_log_12 : decode cX6_log 12 = .ok (.if_icmp .lt 5, 3) := by decide +kernel
theorem dX6_log_15 : decode cX6_log 15 = .ok (.iconst (-1), 1) := by decide +kernel
theorem dX6_log_16 : decode cX6_log 16 = .ok (.ireturn, 1) := by decide +kernel
theorem dX6_log_17 : decode cX6_log 17 = .ok (.aload_n 0, 1) := by decide +kernel
theorem dX6_log_18 : decode cX6_log 18 = .ok (.getfield 40, 3) := by decide +kernel
theorem dX6_log_21 : decode cX6_log 21 = .ok (.iload_n 1, 1) := by decide +kernel
theorem dX6_log_22 : decode cX6_log 22 = .ok (.invokevirtual 172, 3) := by decide +kernel
theorem dX6_log_25 : decode cX6_log 25 = .ok (.istore_n 3, 1) := by decide +kernel
theorem dX6_log_26 : decode cX6_log 26 = .ok (.iload_n 2, 1) := by decide +kernel
theorem dX6_log_27 : decode cX6_log 27 = .ok (.tableswitch 65 0 3 #[29, 38, 47, 56], 29) := by decide +kernel
theorem dX6_log_56 : decode cX6_log 56 = .ok (.aload_n 0, 1) := by decide +kernel
theorem dX6_log_57 : decode cX6_log 57 = .ok (.getfield 40, 3) := by decide +kernel
theorem dX6_log_60 : decode cX6_log 60 = .ok (.iload_n 3, 1) := by decide +kernel
theorem dX6_log_61 : decode cX6_log 61 = .ok (.invokevirtual 174, 3) := by decide +kernel
theorem dX6_log_64 : decode cX6_log 64 = .ok (.ireturn, 1) := by decide +kernel
theorem dX6_log_65 : decode cX6_log 65 = .ok (.aload_n 0, 1) := by decide +kernel
theorem dX6_log_66 : decode cX6_log 66 = .ok (.getfield 40, 3) := by decide +kernel
theorem dX6_log_69 : decode cX6_log 69 = .ok (.iload_n 3, 1) := by decide +kernel
theorem dX6_log_70 : decode cX6_log 70 = .ok (.invokevirtual 175, 3) := by decide +kernel
theorem dX6_log_73 : decode cX6_log 73 = .ok (.ireturn, 1) := by decide +kernel
theorem dX6_log_74 : decode cX6_log 74 = .ok (.aload_n 0, 1) := by decide +kernel
theorem dX6_log_75 : decode cX6_log 75 = .ok (.getfield 40, 3) := by decide +kernel
theorem dX6_log_78 : decode cX6_log 78 = .ok (.iload_n 3, 1) := by decide +kernel
theorem dX6_log_79 : decode cX6_log 79 = .ok (.invokevirtual 176, 3) := by decide +kernel
theorem dX6_log_82 : decode cX6_log 82 = .ok (.ireturn, 1) := by decide +kernel
theorem dX6_log_83 : decode cX6_log 83 = .ok (.aload_n 0, 1) := by decide +kernel
theorem dX6_log_84 : decode cX6_log 84 = .ok (.getfield 40, 3) := by decide +kernel
theorem dX6_log_87 : decode cX6_log 87 = .ok (.iload_n 3, 1) := by decide +kernel
theorem dX6_log_88 : decode cX6_log 88 = .ok (.invokevirtual 177, 3) := by decide +kernel
theorem dX6_log_91 : decode cX6_log 91 = .ok (.ireturn, 1) := by decide +kernel
theorem dX6_log_92 : decode cX6_log 92 = .ok (.iconst (-1), 1) := by decide +kernel
theorem dX6_log_93 : decode cX6_log 93 = .ok (.ireturn, 1) := by decide +kernel
theorem dX6_isFile_0 : decode cX6_isFile 0 = .ok (.iload_n 0, 1) := by decide +kernel
theorem dX6_isFile_1 : decode cX6_isFile 1 = .ok (.ifCond .lt 13, 3) := by decide +kernel
theorem dX6_isFile_4 : decode cX6_isFile 4 = .ok (.iload_n 0, 1) := by decide +kernel
theorem dX6_isFile_5 : decode cX6_isFile 5 = .ok (.bipush 6, 2) := by decide +kernel
theorem dX6_isFile_7 : decode cX6_isFile 7 = .ok (.if_icmp .ge 7, 3) := by decide +kernel
theorem dX6_isFile_10 : decode cX6_isFile 10 = .ok (.iconst 1, 1) := by decide +kernel
theorem dX6_isFile_11 : decode cX6_isFile 11 = .ok (.goto 4, 3) := by decide +kernel
theorem dX6_isFile_14 : decode cX6_isFile 14 = .ok (.iconst 0, 1) := by decide +kernel
theorem dX6_isFile_15 : decode cX6_isFile 15 = .ok (.ireturn, 1) := by decide +kernel
theorem dX6_isByte_0 : decode cX6_isByte 0 = .ok (.iload_n 0, 1) := by decide +kernel
theorem dX6_isByte_1 : decode cX6_isByte 1 = .ok (.ifCond .lt 14, 3) := by decide +kernel
theorem dX6_isByte_4 : decode cX6_isByte 4 = .ok (.iload_n 0, 1) := by decide +kernel
theorem dX6_isByte_5 : decode cX6_isByte 5 = .ok (.sipush 255, 3) := by decide +kernel
theorem dX6_isByte_8 : decode cX6_isByte 8 = .ok (.if_icmp .gt 7, 3) := by decide +kernel
theorem dX6_isByte_11 : decode cX6_isByte 11 = .ok (.iconst 1, 1) := by decide +kernel
theorem dX6_isByte_12 : decode cX6_isByte 12 = .ok (.goto 4, 3) := by decide +kernel
theorem dX6_isByte_15 : decode cX6_isByte 15 = .ok (.iconst 0, 1) := by decide +kernel
theorem dX6_isByte_16 : decode cX6_isByte 16 = .ok (.ireturn, 1) := by decide +kernel
theorem dX6_isLine_0 : decode cX6_isLine 0 = .ok (.iload_n 1, 1) := by decide +kernel
theorem dX6_isLine_1 : decode cX6_isLine 1 = .ok (.invokestatic 44, 3) := by decide +kernel
theorem dX6_isLine_4 : decode cX6_isLine 4 = .ok (.ifCond .eq 20, 3) := by decide +kernel
theorem dX6_isLine_7 : decode cX6_isLine 7 = .ok (.aload_n 0, 1) := by decide +kernel
theorem dX6_isLine_8 : decode cX6_isLine 8 = .ok (.getfield 11, 3) := by decide +kernel
theorem dX6_isLine_11 : decode cX6_isLine 11 = .ok (.iload_n 1, 1) := by decide +kernel
theorem dX6_isLine_12 : decode cX6_isLine 12 = .ok (.aaload, 1) := by decide +kernel
theorem dX6_isLine_13 : decode cX6_isLine 13 = .ok (.iload_n 2, 1) := by decide +kernel
theorem dX6_isLine_14 : decode cX6_isLine 14 = .ok (.invokevirtual 180, 3) := by decide +kernel
theorem dX6_isLine_17 : decode cX6_isLine 17 = .ok (.ifCond .eq 7, 3) := by decide +kernel
theorem dX6_isLine_20 : decode cX6_isLine 20 = .ok (.iconst 1, 1) := by decide +kernel
theorem dX6_isLine_21 : decode cX6_isLine 21 = .ok (.goto 4, 3) := by decide +kernel
theorem dX6_isLine_24 : decode cX6_isLine 24 = .ok (.iconst 0, 1) := by decide +kernel
theorem dX6_isLine_25 : decode cX6_isLine 25 = .ok (.ireturn, 1) := by decide +kernel
theorem dX6_has_0 : decode cX6_has 0 = .ok (.iload_n 0, 1) := by decide +kernel
theorem dX6_has_1 : decode cX6_has 1 = .ok (.iload_n 1, 1) := by decide +kernel
theorem dX6_has_2 : decode cX6_has 2 = .ok (.iushr, 1) := by decide +kernel
theorem dX6_has_3 : decode cX6_has 3 = .ok (.iconst 1, 1) := by decide +kernel
theorem dX6_has_4 : decode cX6_has 4 = .ok (.iand, 1) := by decide +kernel
theorem dX6_has_5 : decode cX6_has 5 = .ok (.iconst 1, 1) := by decide +kernel
theorem dX6_has_6 : decode cX6_has 6 = .ok (.if_icmp .ne 7, 3) := by decide +kernel
theorem dX6_has_9 : decode cX6_has 9 = .ok (.iconst 1, 1) := by decide +kernel
theorem dX6_has_10 : decode cX6_has 10 = .ok (.goto 4, 3) := by decide +kernel
theorem dX6_has_13 : decode cX6_has 13 = .ok (.iconst 0, 1) := by decide +kernel
theorem dX6_has_14 : decode cX6_has 14 = .ok (.ireturn, 1) := by decide +kernel
theorem dX6_settle_0 : decode cX6_settle 0 = .ok (.iconst 1, 1) := by decide +kernel
theorem dX6_settle_1 : decode cX6_settle 1 = .ok (.iload_n 1, 1) := by decide +kernel
theorem dX6_settle_2 : decode cX6_settle 2 = .ok (.ishl, 1) := by decide +kernel
theorem dX6_settle_3 : decode cX6_settle 3 = .ok (.istore_n 3, 1) := by decide +kernel
theorem dX6_settle_4 : decode cX6_settle 4 = .ok (.aload_n 0, 1) := by decide +kernel
theorem dX6_settle_5 : decode cX6_settle 5 = .ok (.getfield 11, 3) := by decide +kernel
theorem dX6_settle_8 : decode cX6_settle 8 = .ok (.iload_n 1, 1) := by decide +kernel
theorem dX6_settle_9 : decode cX6_settle 9 = .ok (.aaload, 1) := by decide +kernel
theorem dX6_settle_10 : decode cX6_settle 10 = .ok (.iconst 1, 1) := by decide +kernel
theorem dX6_settle_11 : decode cX6_settle 11 = .ok (.invokevirtual 54, 3) := by decide +kernel
theorem dX6_settle_14 : decode cX6_settle 14 = .ok (.iload_n 2, 1) := by decide +kernel
theorem dX6_settle_15 : decode cX6_settle 15 = .ok (.if_icmp .eq 11, 3) := by decide +kernel
theorem dX6_settle_18 : decode cX6_settle 18 = .ok (.iload_n 3, 1) := by decide +kernel
theorem dX6_settle_19 : decode cX6_settle 19 = .ok (.aload_n 0, 1) := by decide +kernel
theorem dX6_settle_20 : decode cX6_settle 20 = .ok (.iload_n 1, 1) := by decide +kernel
theorem dX6_settle_21 : decode cX6_settle 21 = .ok (.invokevirtual 183, 3) := by decide +kernel
theorem dX6_settle_24 : decode cX6_settle 24 = .ok (.ior, 1) := by decide +kernel
theorem dX6_settle_25 : decode cX6_settle 25 = .ok (.istore_n 3, 1) := by decide +kernel
theorem dX6_settle_26 : decode cX6_settle 26 = .ok (.aload_n 0, 1) := by decide +kernel
theorem dX6_settle_27 : decode cX6_settle 27 = .ok (.iload_n 3, 1) := by decide +kernel
theorem dX6_settle_28 : decode cX6_settle 28 = .ok (.invokevirtual 105, 3) := by decide +kernel
theorem dX6_settle_31 : decode cX6_settle 31 = .ok (.return_, 1) := by decide +kernel
theorem dX6_importersOf_0 : decode cX6_importersOf 0 = .ok (.iconst 0, 1) := by decide +kernel
theorem dX6_importersOf_1 : decode cX6_importersOf 1 = .ok (.istore_n 2, 1) := by decide +kernel
theorem dX6_importersOf_2 : decode cX6_importersOf 2 = .ok (.iconst 0, 1) := by decide +kernel
theorem dX6_importersOf_3 : decode cX6_importersOf 3 = .ok (.istore_n 3, 1) := by decide +kernel
theorem dX6_importersOf_4 : decode cX6_importersOf 4 = .ok (.iload_n 3, 1) := by decide +kernel
theorem dX6_importersOf_5 : decode cX6_importersOf 5 = .ok (.bipush 6, 2) := by decide +kernel
theorem dX6_importersOf_7 : decode cX6_importersOf 7 = .ok (.if_icmp .ge 31, 3) := by decide +kernel
theorem dX6_importersOf_10 : decode cX6_importersOf 10 = .ok (.aload_n 0, 1) := by decide +kernel
theorem dX6_importersOf_11 : decode cX6_importersOf 11 = .ok (.getfield 11, 3) := by decide +kernel
theorem dX6_importersOf_14 : decode cX6_importersOf 14 = .ok (.iload_n 3, 1) := by decide +kernel
theorem dX6_importersOf_15 : decode cX6_importersOf 15 = .ok (.aaload, 1) := by decide +kernel
theorem dX6_importersOf_16 : decode cX6_importersOf 16 = .ok (.invokevirtual 186, 3) := by decide +kernel
theorem dX6_importersOf_19 : decode cX6_importersOf 19 = .ok (.iload_n 1, 1) := by decide +kernel
theorem dX6_importersOf_20 : decode cX6_importersOf 20 = .ok (.invokestatic 189, 3) := by decide +kernel
theorem dX6_importersOf_23 : decode cX6_importersOf 23 = .ok (.ifCond .eq 9, 3) := by decide +kernel
theorem dX6_importersOf_26 : decode cX6_importersOf 26 = .ok (.iload_n 2, 1) := by decide +kernel
theorem dX6_importersOf_27 : decode cX6_importersOf 27 = .ok (.iconst 1, 1) := by decide +kernel
theorem dX6_importersOf_28 : decode cX6_importersOf 28 = .ok (.iload_n 3, 1) := by decide +kernel
theorem dX6_importersOf_29 : decode cX6_importersOf 29 = .ok (.ishl, 1) := by decide +kernel
theorem dX6_importersOf_30 : decode cX6_importersOf 30 = .ok (.ior, 1) := by decide +kernel
theorem dX6_importersOf_31 : decode cX6_importersOf 31 = .ok (.istore_n 2, 1) := by decide +kernel
theorem dX6_importersOf_32 : decode cX6_importersOf 32 = .ok (.iinc 3 1, 3) := by decide +kernel
theorem dX6_importersOf_35 : decode cX6_importersOf 35 = .ok (.goto (-31), 3) := by decide +kernel
theorem dX6_importersOf_38 : decode cX6_importersOf 38 = .ok (.iload_n 2, 1) := by decide +kernel
theorem dX6_importersOf_39 : decode cX6_importersOf 39 = .ok (.ireturn, 1) := by decide +kernel
theorem dX6_work_0 : decode cX6_work 0 = .ok (.aload_n 0, 1) := by decide +kernel
theorem dX6_work_1 : decode cX6_work 1 = .ok (.dup, 1) := by decide +kernel
theorem dX6_work_2 : decode cX6_work 2 = .ok (.getfield 111, 3) := by decide +kernel
theorem dX6_work_5 : decode cX6_work 5 = .ok (.iconst 1, 1) := by decide +kernel
theorem dX6_work_6 : decode cX6_work 6 = .ok (.iadd, 1) := by decide +kernel
theorem dX6_work_7 : decode cX6_work 7 = .ok (.putfield 111, 3) := by decide +kernel
theorem dX6_work_10 : decode cX6_work 10 = .ok (.aload_n 0, 1) := by decide +kernel
theorem dX6_work_11 : decode cX6_work 11 = .ok (.iload_n 1, 1) := by decide +kernel
theorem dX6_work_12 : decode cX6_work 12 = .ok (.putfield 121, 3) := by decide +kernel
theorem dX6_work_15 : decode cX6_work 15 = .ok (.iconst 0, 1) := by decide +kernel
theorem dX6_work_16 : decode cX6_work 16 = .ok (.istore_n 2, 1) := by decide +kernel
theorem dX6_work_17 : decode cX6_work 17 = .ok (.iload_n 2, 1) := by decide +kernel
theorem dX6_work_18 : decode cX6_work 18 = .ok (.bipush 6, 2) := by decide +kernel
theorem dX6_work_20 : decode cX6_work 20 = .ok (.if_icmp .ge 54, 3) := by decide +kernel
theorem dX6_work_23 : decode cX6_work 23 = .ok (.iload_n 1, 1) := by decide +kernel
theorem dX6_work_24 : decode cX6_work 24 = .ok (.iload_n 2, 1) := by decide +kernel
theorem dX6_work_25 : decode cX6_work 25 = .ok (.invokestatic 189, 3) := by decide +kernel
theorem dX6_work_28 : decode cX6_work 28 = .ok (.ifCond .eq 40, 3) := by decide +kernel
theorem dX6_work_31 : decode cX6_work 31 = .ok (.aload_n 0, 1) := by decide +kernel
theorem dX6_work_32 : decode cX6_work 32 = .ok (.getfield 33, 3) := by decide +kernel
theorem dX6_work_35 : decode cX6_work 35 = .ok (.aload_n 0, 1) := by decide +kernel
theorem dX6_work_36 : decode cX6_work 36 = .ok (.getfield 11, 3) := by decide +kernel
theorem dX6_work_39 : decode cX6_work 39 = .ok (.iload_n 2, 1) := by decide +kernel
theorem dX6_work_40 : decode cX6_work 40 = .ok (.aload_n 0, 1) := by decide +kernel
theorem dX6_work_41 : decode cX6_work 41 = .ok (.getfield 102, 3) := by decide +kernel
theorem dX6_work_44 : decode cX6_work 44 = .ok (.invokevirtual 192, 3) := by decide +kernel
theorem dX6_work_47 : decode cX6_work 47 = .ok (.aload_n 0, 1) := by decide +kernel
theorem dX6_work_48 : decode cX6_work 48 = .ok (.getfield 11, 3) := by decide +kernel
theorem dX6_work_51 : decode cX6_work 51 = .ok (.iload_n 2, 1) := by decide +kernel
theorem dX6_work_52 : decode cX6_work 52 = .ok (.aaload, 1) := by decide +kernel
theorem dX6_work_53 : decode cX6_work 53 = .ok (.aload_n 0, 1) := by decide +kernel
theorem dX6_work_54 : decode cX6_work 54 = .ok (.getfield 33, 3) := by decide +kernel
theorem dX6_work_57 : decode cX6_work 57 = .ok (.aload_n 0, 1) := by decide +kernel
theorem dX6_work_58 : decode cX6_work 58 = .ok (.getfield 111, 3) := by decide +kernel
theorem dX6_work_61 : decode cX6_work 61 = .ok (.aload_n 0, 1) := by decide +kernel
theorem dX6_work_62 : decode cX6_work 62 = .ok (.getfield 40, 3) := by decide +kernel
theorem dX6_work_65 : decode cX6_work 65 = .ok (.invokevirtual 196, 3) := by decide +kernel
theorem dX6_work_68 : decode cX6_work 68 = .ok (.iinc 2 1, 3) := by decide +kernel
theorem dX6_work_71 : decode cX6_work 71 = .ok (.goto (-54), 3) := by decide +kernel
theorem dX6_work_74 : decode cX6_work 74 = .ok (.return_, 1) := by decide +kernel
theorem dX6_findingsAhead_0 : decode cX6_findingsAhead 0 = .ok (.iconst 0, 1) := by decide +kernel
theorem dX6_findingsAhead_1 : decode cX6_findingsAhead 1 = .ok (.istore_n 2, 1) := by decide +kernel
theorem dX6_findingsAhead_2 : decode cX6_findingsAhead 2 = .ok (.iconst 0, 1) := by decide +kernel
theorem dX6_findingsAhead_3 : decode cX6_findingsAhead 3 = .ok (.istore_n 3, 1) := by decide +kernel
theorem dX6_findingsAhead_4 : decode cX6_findingsAhead 4 = .ok (.iload_n 3, 1) := by decide +kernel
theorem dX6_findingsAhead_5 : decode cX6_findingsAhead 5 = .ok (.iload_n 1, 1) := by decide +kernel
theorem dX6_findingsAhead_6 : decode cX6_findingsAhead 6 = .ok (.if_icmp .ge 30, 3) := by decide +kernel
theorem dX6_findingsAhead_9 : decode cX6_findingsAhead 9 = .ok (.iload_n 3, 1) := by decide +kernel
theorem dX6_findingsAhead_10 : decode cX6_findingsAhead 10 = .ok (.bipush 6, 2) := by decide +kernel
theorem dX6_findingsAhead_12 : decode cX6_findingsAhead 12 = .ok (.if_icmp .ge 24, 3) := by decide +kernel
theorem dX6_findingsAhead_15 : decode cX6_findingsAhead 15 = .ok (.iload_n 2, 1) := by decide +kernel
theorem dX6_findingsAhead_16 : decode cX6_findingsAhead 16 = .ok (.aload_n 0, 1) := by decide +kernel
theorem dX6_findingsAhead_17 : decode cX6_findingsAhead 17 = .ok (.getfield 11, 3) := by decide +kernel
theorem dX6_findingsAhead_20 : decode cX6_findingsAhead 20 = .ok (.iload_n 3, 1) := by decide +kernel
theorem dX6_findingsAhead_21 : decode cX6_findingsAhead 21 = .ok (.aaload, 1) := by decide +kernel
theorem dX6_findingsAhead_22 : decode cX6_findingsAhead 22 = .ok (.invokevirtual 133, 3) := by decide +kernel
theorem dX6_findingsAhead_25 : decode cX6_findingsAhead 25 = .ok (.invokevirtual 200, 3) := by decide +kernel
theorem dX6_findingsAhead_28 : decode cX6_findingsAhead 28 = .ok (.iadd, 1) := by decide +kernel
theorem dX6_findingsAhead_29 : decode cX6_findingsAhead 29 = .ok (.istore_n 2, 1) := by decide +kernel
theorem dX6_findingsAhead_30 : decode cX6_findingsAhead 30 = .ok (.iinc 3 1, 3) := by decide +kernel
theorem dX6_findingsAhead_33 : decode cX6_findingsAhead 33 = .ok (.goto (-29), 3) := by decide +kernel
theorem dX6_findingsAhead_36 : decode cX6_findingsAhead 36 = .ok (.iload_n 2, 1) := by decide +kernel
theorem dX6_findingsAhead_37 : decode cX6_findingsAhead 37 = .ok (.ireturn, 1) := by decide +kernel
theorem dX6_fileOfFinding_0 : decode cX6_fileOfFinding 0 = .ok (.iload_n 1, 1) := by decide +kernel
theorem dX6_fileOfFinding_1 : decode cX6_fileOfFinding 1 = .ok (.ifCond .ge 5, 3) := by decide +kernel
theorem dX6_fileOfFinding_4 : decode cX6_fileOfFinding 4 = .ok (.iconst (-1), 1) := by decide +kernel
theorem dX6_fileOfFinding_5 : decode cX6_fileOfFinding 5 = .ok (.ireturn, 1) := by decide +kernel
theorem dX6_fileOfFinding_6 : decode cX6_fileOfFinding 6 = .ok (.iload_n 1, 1) := by decide +kernel
theorem dX6_fileOfFinding_7 : decode cX6_fileOfFinding 7 = .ok (.istore_n 2, 1) := by decide +kernel
theorem dX6_fileOfFinding_8 : decode cX6_fileOfFinding 8 = .ok (.iconst 0, 1) := by decide +kernel
theorem dX6_fileOfFinding_9 : decode cX6_fileOfFinding 9 = .ok (.istore_n 3, 1) := by decide +kernel
theorem dX6_fileOfFinding_10 : decode cX6_fileOfFinding 10 = .ok (.iload_n 3, 1) := by decide +kernel
theorem dX6_fileOfFinding_11 : decode cX6_fileOfFinding 11 = .ok (.bipush 6, 2) := by decide +kernel
theorem dX6_fileOfFinding_13 : decode cX6_fileOfFinding 13 = .ok (.if_icmp .ge 36, 3) := by decide +kernel
theorem dX6_fileOfFinding_16 : decode cX6_fileOfFinding 16 = .ok (.aload_n 0, 1) := by decide +kernel
theorem dX6_fileOfFinding_17 : decode cX6_fileOfFinding 17 = .ok (.getfield 11, 3) := by decide +kernel
theorem dX6_fileOfFinding_20 : decode cX6_fileOfFinding 20 = .ok (.iload_n 3, 1) := by decide +kernel
theorem dX6_fileOfFinding_21 : decode cX6_fileOfFinding 21 = .ok (.aaload, 1) := by decide +kernel
theorem dX6_fileOfFinding_22 : decode cX6_fileOfFinding 22 = .ok (.invokevirtual 133, 3) := by decide +kernel
theorem dX6_fileOfFinding_25 : decode cX6_fileOfFinding 25 = .ok (.invokevirtual 200, 3) := by decide +kernel
theorem dX6_fileOfFinding_28 : decode cX6_fileOfFinding 28 = .ok (.istore 4, 2) := by decide +kernel
theorem dX6_fileOfFinding_30 : decode cX6_fileOfFinding 30 = .ok (.iload_n 2, 1) := by decide +kernel
theorem dX6_fileOfFinding_31 : decode cX6_fileOfFinding 31 = .ok (.iload 4, 2) := by decide +kernel
theorem dX6_fileOfFinding_33 : decode cX6_fileOfFinding 33 = .ok (.if_icmp .ge 5, 3) := by decide +kernel
theorem dX6_fileOfFinding_36 : decode cX6_fileOfFinding 36 = .ok (.iload_n 3, 1) := by decide +kernel
theorem dX6_fileOfFinding_37 : decode cX6_fileOfFinding 37 = .ok (.ireturn, 1) := by decide +kernel
theorem dX6_fileOfFinding_38 : decode cX6_fileOfFinding 38 = .ok (.iload_n 2, 1) := by decide +kernel
theorem dX6_fileOfFinding_39 : decode cX6_fileOfFinding 39 = .ok (.iload 4, 2) := by decide +kernel
theorem dX6_fileOfFinding_41 : decode cX6_fileOfFinding 41 = .ok (.isub, 1) := by decide +kernel
theorem dX6_fileOfFinding_42 : decode cX6_fileOfFinding 42 = .ok (.istore_n 2, 1) := by decide +kernel
theorem dX6_fileOfFinding_43 : decode cX6_fileOfFinding 43 = .ok (.iinc 3 1, 3) := by decide +kernel
theorem dX6_fileOfFinding_46 : decode cX6_fileOfFinding 46 = .ok (.goto (-36), 3) := by decide +kernel
theorem dX6_fileOfFinding_49 : decode cX6_fileOfFinding 49 = .ok (.iconst (-1), 1) := by decide +kernel
theorem dX6_fileOfFinding_50 : decode cX6_fileOfFinding 50 = .ok (.ireturn, 1) := by decide +kernel
theorem dX6_countSilenced_0 : decode cX6_countSilenced 0 = .ok (.iconst 0, 1) := by decide +kernel
theorem dX6_countSilenced_1 : decode cX6_countSilenced 1 = .ok (.istore_n 1, 1) := by decide +kernel
theorem dX6_countSilenced_2 : decode cX6_countSilenced 2 = .ok (.iconst 0, 1) := by decide +kernel
theorem dX6_countSilenced_3 : decode cX6_countSilenced 3 = .ok (.istore_n 2, 1) := by decide +kernel
theorem dX6_countSilenced_4 : decode cX6_countSilenced 4 = .ok (.iload_n 2, 1) := by decide +kernel
theorem dX6_countSilenced_5 : decode cX6_countSilenced 5 = .ok (.bipush 6, 2) := by decide +kernel
theorem dX6_countSilenced_7 : decode cX6_countSilenced 7 = .ok (.if_icmp .ge 28, 3) := by decide +kernel
theorem dX6_countSilenced_10 : decode cX6_countSilenced 10 = .ok (.iload_n 1, 1) := by decide +kernel
theorem dX6_countSilenced_11 : decode cX6_countSilenced 11 = .ok (.aload_n 0, 1) := by decide +kernel
theorem dX6_countSilenced_12 : decode cX6_countSilenced 12 = .ok (.getfield 11, 3) := by decide +kernel
theorem dX6_countSilenced_15 : decode cX6_countSilenced 15 = .ok (.iload_n 2, 1) := by decide +kernel
theorem dX6_countSilenced_16 : decode cX6_countSilenced 16 = .ok (.aaload, 1) := by decide +kernel
theorem dX6_countSilenced_17 : decode cX6_countSilenced 17 = .ok (.invokevirtual 133, 3) := by decide +kernel
theorem dX6_countSilenced_20 : decode cX6_countSilenced 20 = .ok (.aload_n 0, 1) := by decide +kernel
theorem dX6_countSilenced_21 : decode cX6_countSilenced 21 = .ok (.getfield 108, 3) := by decide +kernel
theorem dX6_countSilenced_24 : decode cX6_countSilenced 24 = .ok (.invokevirtual 201, 3) := by decide +kernel
theorem dX6_countSilenced_27 : decode cX6_countSilenced 27 = .ok (.iadd, 1) := by decide +kernel
theorem dX6_countSilenced_28 : decode cX6_countSilenced 28 = .ok (.istore_n 1, 1) := by decide +kernel
theorem dX6_countSilenced_29 : decode cX6_countSilenced 29 = .ok (.iinc 2 1, 3) := by decide +kernel
theorem dX6_countSilenced_32 : decode cX6_countSilenced 32 = .ok (.goto (-28), 3) := by decide +kernel
theorem dX6_countSilenced_35 : decode cX6_countSilenced 35 = .ok (.iload_n 1, 1) := by decide +kernel
theorem dX6_countSilenced_36 : decode cX6_countSilenced 36 = .ok (.ireturn, 1) := by decide +kernel
theorem dX6_countLines_0 : decode cX6_countLines 0 = .ok (.iconst 0, 1) := by decide +kernel
theorem dX6_countLines_1 : decode cX6_countLines 1 = .ok (.istore_n 1, 1) := by decide +kernel
theorem dX6_countLines_2 : decode cX6_countLines 2 = .ok (.iconst 0, 1) := by decide +kernel
theorem dX6_countLines_3 : decode cX6_countLines 3 = .ok (.istore_n 2, 1) := by decide +kernel
theorem dX6_countLines_4 : decode cX6_countLines 4 = .ok (.iload_n 2, 1) := by decide +kernel
theorem dX6_countLines_5 : decode cX6_countLines 5 = .ok (.bipush 6, 2) := by decide +kernel
theorem dX6_countLines_7 : decode cX6_countLines 7 = .ok (.if_icmp .ge 21, 3) := by decide +kernel
theorem dX6_countLines_10 : decode cX6_countLines 10 = .ok (.iload_n 1, 1) := by decide +kernel
theorem dX6_countLines_11 : decode cX6_countLines 11 = .ok (.aload_n 0, 1) := by decide +kernel
theorem dX6_countLines_12 : decode cX6_countLines 12 = .ok (.getfield 11, 3) := by decide +kernel
theorem dX6_countLines_15 : decode cX6_countLines 15 = .ok (.iload_n 2, 1) := by decide +kernel
theorem dX6_countLines_16 : decode cX6_countLines 16 = .ok (.aaload, 1) := by decide +kernel
theorem dX6_countLines_17 : decode cX6_countLines 17 = .ok (.invokevirtual 203, 3) := by decide +kernel
theorem dX6_countLines_20 : decode cX6_countLines 20 = .ok (.iadd, 1) := by decide +kernel
theorem dX6_countLines_21 : decode cX6_countLines 21 = .ok (.istore_n 1, 1) := by decide +kernel
theorem dX6_countLines_22 : decode cX6_countLines 22 = .ok (.iinc 2 1, 3) := by decide +kernel
theorem dX6_countLines_25 : decode cX6_countLines 25 = .ok (.goto (-21), 3) := by decide +kernel
theorem dX6_countLines_28 : decode cX6_countLines 28 = .ok (.iload_n 1, 1) := by decide +kernel
theorem dX6_countLines_29 : decode cX6_countLines 29 = .ok (.ireturn, 1) := by decide +kernel
theorem dX7_init_0 : decode cX7_init 0 = .ok (.aload_n 0, 1) := by decide +kernel
theorem dX7_init_1 : decode cX7_init 1 = .ok (.invokespecial 1, 3) := by decide +kernel
theorem dX7_init_4 : decode cX7_init 4 = .ok (.aload_n 0, 1) := by decide +kernel
theorem dX7_init_5 : decode cX7_init 5 = .ok (.bipush 6, 2) := by decide +kernel
theorem dX7_init_7 : decode cX7_init 7 = .ok (.newarray .int, 2) := by decide +kernel
theorem dX7_init_9 : decode cX7_init 9 = .ok (.putfield 7, 3) := by decide +kernel
theorem dX7_init_12 : decode cX7_init 12 = .ok (.aload_n 0, 1) := by decide +kernel
theorem dX7_init_13 : decode cX7_init 13 = .ok (.sipush 192, 3) := by decide +kernel
theorem dX7_init_16 : decode cX7_init 16 = .ok (.newarray .int, 2) := by decide +kernel
theorem dX7_init_18 : decode cX7_init 18 = .ok (.putfield 13, 3) := by decide +kernel
theorem dX7_init_21 : decode cX7_init 21 = .ok (.aload_n 0, 1) := by decide +kernel
theorem dX7_init_22 : decode cX7_init 22 = .ok (.sipush 192, 3) := by decide +kernel
theorem dX7_init_25 : decode cX7_init 25 = .ok (.newarray .int, 2) := by decide +kernel
theorem dX7_init_27 : decode cX7_init 27 = .ok (.putfield 16, 3) := by decide +kernel
theorem dX7_init_30 : decode cX7_init 30 = .ok (.aload_n 0, 1) := by decide +kernel
theorem dX7_init_31 : decode cX7_init 31 = .ok (.sipush 192, 3) := by decide +kernel
theorem dX7_init_34 : decode cX7_init 34 = .ok (.newarray .int, 2) := by decide +kernel
theorem dX7_init_36 : decode cX7_init 36 = .ok (.putfield 19, 3) := by decide +kernel
theorem dX7_init_39 : decode cX7_init 39 = .ok (.aload_n 0, 1) := by decide +kernel
theorem dX7_init_40 : decode cX7_init 40 = .ok (.sipush 192, 3) := by decide +kernel
theorem dX7_init_43 : decode cX7_init 43 = .ok (.newarray .int, 2) := by decide +kernel
theorem dX7_init_45 : decode cX7_init 45 = .ok (.putfield 22, 3) := by decide +kernel
theorem dX7_init_48 : decode cX7_init 48 = .ok (.aload_n 0, 1) := by decide +kernel
theorem dX7_init_49 : decode cX7_init 49 = .ok (.sipush 192, 3) := by decide +kernel
theorem dX7_init_52 : decode cX7_init 52 = .ok (.newarray .int, 2) := by decide +kernel
theorem dX7_init_54 : decode cX7_init 54 = .ok (.putfield 25, 3) := by decide +kernel
theorem dX7_init_57 : decode cX7_init 57 = .ok (.aload_n 0, 1) := by decide +kernel
theorem dX7_init_58 : decode cX7_init 58 = .ok (.sipush 192, 3) := by decide +kernel
theorem dX7_init_61 : decode cX7_init 61 = .ok (.newarray .int, 2) := by decide +kernel
theorem dX7_init_63 : decode cX7_init 63 = .ok (.putfield 28, 3) := by decide +kernel
theorem dX7_init_66 : decode cX7_init 66 = .ok (.aload_n 0, 1) := by decide +kernel
theorem dX7_init_67 : decode cX7_init 67 = .ok (.sipush 192, 3) := by decide +kernel
theorem dX7_init_70 : decode cX7_init 70 = .ok (.newarray .int, 2) := by decide +kernel
theorem dX7_init_72 : decode cX7_init 72 = .ok (.putfield 31, 3) := by decide +kernel
theorem dX7_init_75 : decode cX7_init 75 = .ok (.aload_n 0, 1) := by decide +kernel
theorem dX7_init_76 : decode cX7_init 76 = .ok (.sipush 192, 3) := by decide +kernel
theorem dX7_init_79 : decode cX7_init 79 = .ok (.newarray .int, 2) := by decide +kernel
theorem dX7_init_81 : decode cX7_init 81 = .ok (.putfield 34, 3) := by decide +kernel
theorem dX7_init_84 : decode cX7_init 84 = .ok (.aload_n 0, 1) := by decide +kernel
theorem dX7_init_85 : decode cX7_init 85 = .ok (.sipush 192, 3) := by decide +kernel
theorem dX7_init_88 : decode cX7_init 88 = .ok (.newarray .int, 2) := by decide +kernel
theorem dX7_init_90 : decode cX7_init 90 = .ok (.putfield 37, 3) := by decide +kernel
theorem dX7_init_93 : decode cX7_init 93 = .ok (.aload_n 0, 1) := by decide +kernel
theorem dX7_init_94 : decode cX7_init 94 = .ok (.sipush 192, 3) := by decide +kernel
theorem dX7_init_97 : decode cX7_init 97 = .ok (.newarray .int, 2) := by decide +kernel
theorem dX7_init_99 : decode cX7_init 99 = .ok (.putfield 40, 3) := by decide +kernel
theorem dX7_init_102 : decode cX7_init 102 = .ok (.aload_n 0, 1) := by decide +kernel
theorem dX7_init_103 : decode cX7_init 103 = .ok (.sipush 192, 3) := by decide +kernel
theorem dX7_init_106 : decode cX7_init 106 = .ok (.newarray .int, 2) := by decide +kernel
theorem dX7_init_108 : decode cX7_init 108 = .ok (.putfield 43, 3) := by decide +kernel
theorem dX7_init_111 : decode cX7_init 111 = .ok (.aload_n 0, 1) := by decide +kernel
theorem dX7_init_112 : decode cX7_init 112 = .ok (.sipush 192, 3) := by decide +kernel
theorem dX7_init_115 : decode cX7_init 115 = .ok (.newarray .int, 2) := by decide +kernel
theorem dX7_init_117 : decode cX7_init 117 = .ok (.putfield 46, 3) := by decide +kernel
theorem dX7_init_120 : decode cX7_init 120 = .ok (.aload_n 0, 1) := by decide +kernel
theorem dX7_init_121 : decode cX7_init 121 = .ok (.sipush 192, 3) := by decide +kernel
theorem dX7_init_124 : decode cX7_init 124 = .ok (.newarray .int, 2) := by decide +kernel
theorem dX7_init_126 : decode cX7_init 126 = .ok (.putfield 49, 3) := by decide +kernel
theorem dX7_init_129 : decode cX7_init 129 = .ok (.aload_n 0, 1) := by decide +kernel
theorem dX7_init_130 : decode cX7_init 130 = .ok (.sipush 192, 3) := by decide +kernel
theorem dX7_init_133 : decode cX7_init 133 = .ok (.newarray .int, 2) := by decide +kernel
theorem dX7_init_135 : decode cX7_init 135 = .ok (.putfield 52, 3) := by decide +kernel
theorem dX7_init_138 : decode cX7_init 138 = .ok (.aload_n 0, 1) := by decide +kernel
theorem dX7_init_139 : decode cX7_init 139 = .ok (.bipush 60, 2) := by decide +kernel
theorem dX7_init_141 : decode cX7_init 141 = .ok (.newarray .int, 2) := by decide +kernel
theorem dX7_init_143 : decode cX7_init 143 = .ok (.putfield 55, 3) := by decide +kernel
theorem dX7_init_146 : decode cX7_init 146 = .ok (.aload_n 0, 1) := by decide +kernel
theorem dX7_init_147 : decode cX7_init 147 = .ok (.bipush 60, 2) := by decide +kernel
theorem dX7_init_149 : decode cX7_init 149 = .ok (.newarray .int, 2) := by decide +kernel
theorem dX7_init_151 : decode cX7_init 151 = .ok (.putfield 58, 3) := by decide +kernel
theorem dX7_init_154 : decode cX7_init 154 = .ok (.aload_n 0, 1) := by decide +kernel
theorem dX7_init_155 : decode cX7_init 155 = .ok (.bipush 60, 2) := by decide +kernel
theorem dX7_init_157 : decode cX7_init 157 = .ok (.newarray .int, 2) := by decide +kernel
theorem dX7_init_159 : decode cX7_init 159 = .ok (.putfield 61, 3) := by decide +kernel
theorem dX7_init_162 : decode cX7_init 162 = .ok (.aload_n 0, 1) := by decide +kernel
theorem dX7_init_163 : decode cX7_init 163 = .ok (.bipush 60, 2) := by decide +kernel
theorem dX7_init_165 : decode cX7_init 165 = .ok (.newarray .int, 2) := by decide +kernel
theorem dX7_init_167 : decode cX7_init 167 = .ok (.putfield 64, 3) := by decide +kernel
theorem dX7_init_170 : decode cX7_init 170 = .ok (.aload_n 0, 1) := by decide +kernel
theorem dX7_init_171 : decode cX7_init 171 = .ok (.bipush 40, 2) := by decide +kernel
theorem dX7_init_173 : decode cX7_init 173 = .ok (.newarray .int, 2) := by decide +kernel
theorem dX7_init_175 : decode cX7_init 175 = .ok (.putfield 67, 3) := by decide +kernel
theorem dX7_init_178 : decode cX7_init 178 = .ok (.aload_n 0, 1) := by decide +kernel
theorem dX7_init_179 : decode cX7_init 179 = .ok (.sipush 1089, 3) := by decide +kernel
theorem dX7_init_182 : decode cX7_init 182 = .ok (.newarray .int, 2) := by decide +kernel
theorem dX7_init_184 : decode cX7_init 184 = .ok (.putfield 70, 3) := by decide +kernel
theorem dX7_init_187 : decode cX7_init 187 = .ok (.aload_n 0, 1) := by decide +kernel
theorem dX7_init_188 : decode cX7_init 188 = .ok (.bipush 32, 2) := by decide +kernel
theorem dX7_init_190 : decode cX7_init 190 = .ok (.newarray .int, 2) := by decide +kernel
theorem dX7_init_192 : decode cX7_init 192 = .ok (.putfield 73, 3) := by decide +kernel
theorem dX7_init_195 : decode cX7_init 195 = .ok (.return_, 1) := by decide +kernel
theorem dX7_isIn_0 : decode cX7_isIn 0 = .ok (.iload_n 0, 1) := by decide +kernel
theorem dX7_isIn_1 : decode cX7_isIn 1 = .ok (.iload_n 1, 1) := by decide +kernel
theorem dX7_isIn_2 : decode cX7_isIn 2 = .ok (.if_icmp .lt 12, 3) := by decide +kernel
theorem dX7_isIn_5 : decode cX7_isIn 5 = .ok (.iload_n 0, 1) := by decide +kernel
theorem dX7_isIn_6 : decode cX7_isIn 6 = .ok (.iload_n 2, 1) := by decide +kernel
theorem dX7_isIn_7 : decode cX7_isIn 7 = .ok (.if_icmp .gt 7, 3) := by decide +kernel
theorem dX7_isIn_10 : decode cX7_isIn 10 = .ok (.iconst 1, 1) := by decide +kernel
theorem dX7_isIn_11 : decode cX7_isIn 11 = .ok (.goto 4, 3) := by decide +kernel
theorem dX7_isIn_14 : decode cX7_isIn 14 = .ok (.iconst 0, 1) := by decide +kernel
theorem dX7_isIn_15 : decode cX7_isIn 15 = .ok (.ireturn, 1) := by decide +kernel
theorem dX7_isFile_0 : decode cX7_isFile 0 = .ok (.iload_n 0, 1) := by decide +kernel
theorem dX7_isFile_1 : decode cX7_isFile 1 = .ok (.iconst 0, 1) := by decide +kernel
theorem dX7_isFile_2 : decode cX7_isFile 2 = .ok (.iconst 5, 1) := by decide +kernel
theorem dX7_isFile_3 : decode cX7_isFile 3 = .ok (.invokestatic 76, 3) := by decide +kernel
theorem dX7_isFile_6 : decode cX7_isFile 6 = .ok (.ireturn, 1) := by decide +kernel
theorem dX7_isLine_0 : decode cX7_isLine 0 = .ok (.iload_n 1, 1) := by decide +kernel
theorem dX7_isLine_1 : decode cX7_isLine 1 = .ok (.invokestatic 80, 3) := by decide +kernel
theorem dX7_isLine_4 : decode cX7_isLine 4 = .ok (.ifCond .eq 23, 3) := by decide +kernel
theorem dX7_isLine_7 : decode cX7_isLine 7 = .ok (.iload_n 2, 1) := by decide +kernel
theorem dX7_isLine_8 : decode cX7_isLine 8 = .ok (.iconst 0, 1) := by decide +kernel
theorem dX7_isLine_9 : decode cX7_isLine 9 = .ok (.aload_n 0, 1) := by decide +kernel
theorem dX7_isLine_10 : decode cX7_isLine 10 = .ok (.getfield 7, 3) := by decide +kernel
theorem dX7_isLine_13 : decode cX7_isLine 13 = .ok (.iload_n 1, 1) := by decide +kernel
theorem dX7_isLine_14 : decode cX7_isLine 14 = .ok (.iaload, 1) := by decide +kernel
theorem dX7_isLine_15 : decode cX7_isLine 15 = .ok (.iconst 1, 1) := by decide +kernel
theorem dX7_isLine_16 : decode cX7_isLine 16 = .ok (.isub, 1) := by decide +kernel
theorem dX7_isLine_17 : decode cX7_isLine 17 = .ok (.invokestatic 76, 3) := by decide +kernel
theorem dX7_isLine_20 : decode cX7_isLine 20 = .ok (.ifCond .eq 7, 3) := by decide +kernel
theorem dX7_isLine_23 : decode cX7_isLine 23 = .ok (.iconst 1, 1) := by decide +kernel
theorem dX7_isLine_24 : decode cX7_isLine 24 = .ok (.goto 4, 3) := by decide +kernel
theorem dX7_isLine_27 : decode cX7_isLine 27 = .ok (.iconst 0, 1) := by decide +kernel
theorem dX7_isLine_28 : decode cX7_isLine 28 = .ok (.ireturn, 1) := by decide +kernel
theorem dX7_kind_0 : decode cX7_kind 0 = .ok (.aload_n 0, 1) := by decide +kernel
theorem dX7_kind_1 : decode cX7_kind 1 = .ok (.getfield 13, 3) := by decide +kernel
theorem dX7_kind_4 : decode cX7_kind 4 = .ok (.bipush 32, 2) := by decide +kernel
theorem dX7_kind_6 : decode cX7_kind 6 = .ok (.iload_n 1, 1) := by decide +kernel
theorem dX7_kind_7 : decode cX7_kind 7 = .ok (.imul, 1) := by decide +kernel
theorem dX7_kind_8 : decode cX7_kind 8 = .ok (.iload_n 2, 1) := by decide +kernel
theorem dX7_kind_9 : decode cX7_kind 9 = .ok (.iadd, 1) := by decide +kernel
theorem dX7_kind_10 : decode cX7_kind 10 = .ok (.iaload, 1) := by decide +kernel
theorem dX7_kind_11 : decode cX7_kind 11 = .ok (.iconst 5, 1) := by decide +kernel
theorem dX7_kind_12 : decode cX7_kind 12 = .ok (.ishr, 1) := by decide +kernel
theorem dX7_kind_13 : decode cX7_kind 13 = .ok (.ireturn, 1) := by decide +kernel
theorem dX7_number_0 : decode cX7_number 0 = .ok (.aload_n 0, 1) := by decide +kernel
theorem dX7_number_1 : decode cX7_number 1 = .ok (.getfield 13, 3) := by decide +kernel
theorem dX7_number_4 : decode cX7_number 4 = .ok (.bipush 32, 2) := by decide +kernel
theorem dX7_number_6 : decode cX7_number 6 = .ok (.iload_n 1, 1) := by decide +kernel
theorem dX7_number_7 : decode cX7_number 7 = .ok (.imul, 1) := by decide +kernel
theorem dX7_number_8 : decode cX7_number 8 = .ok (.iload_n 2, 1) := by decide +kernel
theorem dX7_number_9 : decode cX7_number 9 = .ok (.iadd, 1) := by decide +kernel
theorem dX7_number_10 : decode cX7_number 10 = .ok (.iaload, 1) := by decide +kernel
theorem dX7_number_11 : decode cX7_number 11 = .ok (.bipush 31, 2) := by decide +kernel
theorem dX7_number_13 : decode cX7_number 13 = .ok (.iand, 1) := by decide +kernel
theorem dX7_number_14 : decode cX7_number 14 = .ok (.ireturn, 1) := by decide +kernel
theorem dX7_defs_0 : decode cX7_defs 0 = .ok (.iconst 0, 1) := by decide +kernel
theorem dX7_defs_1 : decode cX7_defs 1 = .ok (.istore_n 2, 1) := by decide +kernel
theorem dX7_defs_2 : decode cX7_defs 2 = .ok (.iconst 0, 1) := by decide +kernel
theorem dX7_defs_3 : decode cX7_defs 3 = .ok (.istore_n 3, 1) := by decide +kernel
theorem dX7_defs_4 : decode cX7_defs 4 = .ok (.iload_n 3, 1) := by decide +kernel
theorem dX7_defs_5 : decode cX7_defs 5 = .ok (.aload_n 0, 1) := by decide +kernel
theorem dX7_defs_6 : decode cX7_defs 6 = .ok (.getfield 7, 3) := by decide +kernel
theorem dX7_defs_9 : decode cX7_defs 9 = .ok (.iload_n 1, 1) := by decide +kernel
theorem dX7_defs_10 : decode cX7_defs 10 = .ok (.iaload, 1) := by decide +kernel
theorem dX7_defs_11 : decode cX7_defs 11 = .ok (.if_icmp .ge 30, 3) := by decide +kernel
theorem dX7_defs_14 : decode cX7_defs 14 = .ok (.aload_n 0, 1) := by decide +kernel
theorem dX7_defs_15 : decode cX7_defs 15 = .ok (.iload_n 1, 1) := by decide +kernel
theorem dX7_defs_16 : decode cX7_defs 16 = .ok (.iload_n 3, 1) := by decide +kernel
theorem dX7_defs_17 : decode cX7_defs 17 = .ok (.invokevirtual 84, 3) := by decide +kernel
theorem dX7_defs_20 : decode cX7_defs 20 = .ok (.iconst 1, 1) := by decide +kernel
theorem dX7_defs_21 : decode cX7_defs 21 = .ok (.if_icmp .ne 14, 3) := by decide +kernel
theorem dX7_defs_24 : decode cX7_defs 24 = .ok (.iload_n 2, 1) := by decide +kernel
theorem dX7_defs_25 : decode cX7_defs 25 = .ok (.iconst 1, 1) := by decide +kernel
theorem dX7_defs_26 : decode cX7_defs 26 = .ok (.aload_n 0, 1) := by decide +kernel
theorem dX7_defs_27 : decode cX7_defs 27 = .ok (.iload_n 1, 1) := by decide +kernel
theorem dX7_defs_28 : decode cX7_defs 28 = .ok (.iload_n 3, 1) := by decide +kernel
theorem dX7_defs_29 : decode cX7_defs 29 = .ok (.invokevirtual 88, 3) := by decide +kernel
theorem dX7_defs_32 : decode cX7_defs 32 = .ok (.ishl, 1) := by decide +kernel
theorem dX7_defs_33 : decode cX7_defs 33 = .ok (.ior, 1) := by decide +kernel
theorem dX7_defs_34 : decode cX7_defs 34 = .ok (.istore_n 2, 1) := by decide +kernel
theorem dX7_defs_35 : decode cX7_defs 35 = .ok (.iinc 3 1, 3) := by decide +kernel
theorem dX7_defs_38 : decode cX7_defs 38 = .ok (.goto (-34), 3) := by decide +kernel
theorem dX7_defs_41 : decode cX7_defs 41 = .ok (.iload_n 2, 1) := by decide +kernel
theorem dX7_defs_42 : decode cX7_defs 42 = .ok (.ireturn, 1) := by decide +kernel
theorem dX7_uses_0 : decode cX7_uses 0 = .ok (.iconst 0, 1) := by decide +kernel
theorem dX7_uses_1 : decode cX7_uses 1 = .ok (.istore_n 2, 1) := by decide +kernel
theorem dX7_uses_2 : decode cX7_uses 2 = .ok (.iconst 0, 1) := by decide +kernel
theorem dX7_uses_3 : decode cX7_uses 3 = .ok (.istore_n 3, 1) := by decide +kernel
theorem dX7_uses_4 : decode cX7_uses 4 = .ok (.iload_n 3, 1) := by decide +kernel
theorem dX7_uses_5 : decode cX7_uses 5 = .ok (.aload_n 0, 1) := by decide +kernel
theorem dX7_uses_6 : decode cX7_uses 6 = .ok (.getfield 7, 3) := by decide +kernel
theorem dX7_uses_9 : decode cX7_uses 9 = .ok (.iload_n 1, 1) := by decide +kernel
theorem dX7_uses_10 : decode cX7_uses 10 = .ok (.iaload, 1) := by decide +kernel
theorem dX7_uses_11 : decode cX7_uses 11 = .ok (.if_icmp .ge 30, 3) := by decide +kernel
theorem dX7_uses_14 : decode cX7_uses 14 = .ok (.aload_n 0, 1) := by decide +kernel
theorem dX7_uses_15 : decode cX7_uses 15 = .ok (.iload_n 1, 1) := by decide +kernel
theorem dX7_uses_16 : decode cX7_uses 16 = .ok (.iload_n 3, 1) := by decide +kernel
theorem dX7_uses_17 : decode cX7_uses 17 = .ok (.invokevirtual 84, 3) := by decide +kernel
theorem dX7_uses_20 : decode cX7_uses 20 = .ok (.iconst 2, 1) := by decide +kernel
theorem dX7_uses_21 : decode cX7_uses 21 = .ok (.if_icmp .ne 14, 3) := by decide +kernel
theorem dX7_uses_24 : decode cX7_uses 24 = .ok (.iload_n 2, 1) := by decide +kernel
theorem dX7_uses_25 : decode cX7_uses 25 = .ok (.iconst 1, 1) := by decide +kernel
theorem dX7_uses_26 : decode cX7_uses 26 = .ok (.aload_n 0, 1) := by decide +kernel
theorem dX7_uses_27 : decode cX7_uses 27 = .ok (.iload_n 1, 1) := by decide +kernel
theorem dX7_uses_28 : decode cX7_uses 28 = .ok (.iload_n 3, 1) := by decide +kernel
theorem dX7_uses_29 : decode cX7_uses 29 = .ok (.invokevirtual 88, 3) := by decide +kernel
theorem dX7_uses_32 : decode cX7_uses 32 = .ok (.ishl, 1) := by decide +kernel
theorem dX7_uses_33 : decode cX7_uses 33 = .ok (.ior, 1) := by decide +kernel
theorem dX7_uses_34 : decode cX7_uses 34 = .ok (.istore_n 2, 1) := by decide +kernel
theorem dX7_uses_35 : decode cX7_uses 35 = .ok (.iinc 3 1, 3) := by decide +kernel
theorem dX7_uses_38 : decode cX7_uses 38 = .ok (.goto (-34), 3) := by decide +kernel
theorem dX7_uses_41 : decode cX7_uses 41 = .ok (.iload_n 2, 1) := by decide +kernel
theorem dX7_uses_42 : decode cX7_uses 42 = .ok (.ireturn, 1) := by decide +kernel
theorem dX7_imports_0 : decode cX7_imports 0 = .ok (.iconst 0, 1) := by decide +kernel
theorem dX7_imports_1 : decode cX7_imports 1 = .ok (.istore_n 3, 1) := by decide +kernel
theorem dX7_imports_2 : decode cX7_imports 2 = .ok (.iconst 0, 1) := by decide +kernel
theorem dX7_imports_3 : decode cX7_imports 3 = .ok (.istore 4, 2) := by decide +kernel
theorem dX7_imports_5 : decode cX7_imports 5 = .ok (.iload 4, 2) := by decide +kernel
theorem dX7_imports_7 : decode cX7_imports 7 = .ok (.aload_n 0, 1) := by decide +kernel
theorem dX7_imports_8 : decode cX7_imports 8 = .ok (.getfield 7, 3) := by decide +kernel
theorem dX7_imports_11 : decode cX7_imports 11 = .ok (.iload_n 1, 1) := by decide +kernel
theorem dX7_imports_12 : decode cX7_imports 12 = .ok (.iaload, 1) := by decide +kernel
theorem dX7_imports_13 : decode cX7_imports 13 = .ok (.if_icmp .ge 44, 3) := by decide +kernel
theorem dX7_imports_16 : decode cX7_imports 16 = .ok (.iload_n 3, 1) := by decide +kernel
theorem dX7_imports_17 : decode cX7_imports 17 = .ok (.ifCond .ne 28, 3) := by decide +kernel
theorem dX7_imports_20 : decode cX7_imports 20 = .ok (.aload_n 0, 1) := by decide +kernel
theorem dX7_imports_21 : decode cX7_imports 21 = .ok (.iload_n 1, 1) := by decide +kernel
theorem dX7_imports_22 : decode cX7_imports 22 = .ok (.iload 4, 2) := by decide +kernel
theorem dX7_imports_24 : decode cX7_imports 24 = .ok (.invokevirtual 84, 3) := by decide +kernel
theorem dX7_imports_27 : decode cX7_imports 27 = .ok (.iconst 5, 1) := by decide +kernel
theorem dX7_imports_28 : decode cX7_imports 28 = .ok (.if_icmp .ne 21, 3) := by decide +kernel
theorem dX7_imports_31 : decode cX7_imports 31 = .ok (.aload_n 0, 1) := by decide +kernel
theorem dX7_imports_32 : decode cX7_imports 32 = .ok (.iload_n 1, 1) := by decide +kernel
theorem dX7_imports_33 : decode cX7_imports 33 = .ok (.iload 4, 2) := by decide +kernel
theorem dX7_imports_35 : decode cX7_imports 35 = .ok (.invokevirtual 88, 3) := by decide +kernel
theorem dX7_imports_38 : decode cX7_imports 38 = .ok (.bipush 6, 2) := by decide +kernel
theorem dX7_imports_40 : decode cX7_imports 40 = .ok (.irem, 1) := by decide +kernel
theorem dX7_imports_41 : decode cX7_imports 41 = .ok (.iload_n 2, 1) := by decide +kernel
theorem dX7_imports_42 : decode cX7_imports 42 = .ok (.if_icmp .ne 7, 3) := by decide +kernel
theorem dX7_imports_45 : decode cX7_imports 45 = .ok (.iconst 1, 1) := by decide +kernel
theorem dX7_imports_46 : decode cX7_imports 46 = .ok (.goto 4, 3) := by decide +kernel
theorem dX7_imports_49 : decode cX7_imports 49 = .ok (.iconst 0, 1) := by decide +kernel
theorem dX7_imports_50 : decode cX7_imports 50 = .ok (.istore_n 3, 1) := by decide +kernel
theorem dX7_imports_51 : decode cX7_imports 51 = .ok (.iinc 4 1, 3) := by decide +kernel
theorem dX7_imports_54 : decode cX7_imports 54 = .ok (.goto (-49), 3) := by decide +kernel
theorem dX7_imports_57 : decode cX7_imports 57 = .ok (.iload_n 3, 1) := by decide +kernel
theorem dX7_imports_58 : decode cX7_imports 58 = .ok (.ireturn, 1) := by decide +kernel
theorem dX7_isThere_0 : decode cX7_isThere 0 = .ok (.aload_n 0, 1) := by decide +kernel
theorem dX7_isThere_1 : decode cX7_isThere 1 = .ok (.iload_n 1, 1) := by decide +kernel
theorem dX7_isThere_2 : decode cX7_isThere 2 = .ok (.invokevirtual 91, 3) := by decide +kernel
theorem dX7_isThere_5 : decode cX7_isThere 5 = .ok (.iload_n 2, 1) := by decide +kernel
theorem dX7_isThere_6 : decode cX7_isThere 6 = .ok (.ishr, 1) := by decide +kernel
theorem dX7_isThere_7 : decode cX7_isThere 7 = .ok (.iconst 1, 1) := by decide +kernel
theorem dX7_isThere_8 : decode cX7_isThere 8 = .ok (.iand, 1) := by decide +kernel
theorem dX7_isThere_9 : decode cX7_isThere 9 = .ok (.iconst 1, 1) := by decide +kernel
theorem dX7_isThere_10 : decode cX7_isThere 10 = .ok (.if_icmp .ne 7, 3) := by decide +kernel
theorem dX7_isThere_13 : decode cX7_isThere 13 = .ok (.iconst 1, 1) := by decide +kernel
theorem dX7_isThere_14 : decode cX7_isThere 14 = .ok (.goto 4, 3) := by decide +kernel
theorem dX7_isThere_17 : decode cX7_isThere 17 = .ok (.iconst 0, 1) := by decide +kernel
theorem dX7_isThere_18 : decode cX7_isThere 18 = .ok (.istore_n 3, 1) := by decide +kernel
theorem dX7_isThere_19 : decode cX7_isThere 19 = .ok (.iconst 0, 1) := by decide +kernel
theorem dX7_isThere_20 : decode cX7_isThere 20 = .ok (.istore 4, 2) := by decide +kernel
theorem dX7_isThere_22 : decode cX7_isThere 22 = .ok (.iload 4, 2) := by decide +kernel
theorem dX7_isThere_24 : decode cX7_isThere 24 = .ok (.bipush 6, 2) := by decide +kernel
theorem dX7_isThere_26 : decode cX7_isThere 26 = .ok (.if_icmp .ge 43, 3) := by decide +kernel
theorem dX7_isThere_29 : decode cX7_isThere 29 = .ok (.iload_n 3, 1) := by decide +kernel
theorem dX7_isThere_30 : decode cX7_isThere 30 = .ok (.ifCond .ne 27, 3) := by decide +kernel
theorem dX7_isThere_33 : decode cX7_isThere 33 = .ok (.aload_n 0, 1) := by decide +kernel
theorem dX7_isThere_34 : decode cX7_isThere 34 = .ok (.iload_n 1, 1) := by decide +kernel
theorem dX7_isThere_35 : decode cX7_isThere 35 = .ok (.iload 4, 2) := by decide +kernel
theorem dX7_isThere_37 : decode cX7_isThere 37 = .ok (.invokevirtual 95, 3) := by decide +kernel
theorem dX7_isThere_40 : decode cX7_isThere 40 = .ok (.ifCond .eq 21, 3) := by decide +kernel
theorem dX7_isThere_43 : decode cX7_isThere 43 = .ok (.aload_n 0, 1) := by decide +kernel
theorem dX7_isThere_44 : decode cX7_isThere 44 = .ok (.iload 4, 2) := by decide +kernel
theorem dX7_isThere_46 : decode cX7_isThere 46 = .ok (.invokevirtual 91, 3) := by decide +kernel
theorem dX7_isThere_49 : decode cX7_isThere 49 = .ok (.iload_n 2, 1) := by decide +kernel
theorem dX7_isThere_50 : decode cX7_isThere 50 = .ok (.ishr, 1) := by decide +kernel
theorem dX7_isThere_51 : decode cX7_isThere 51 = .ok (.iconst 1, 1) := by decide +kernel
theorem dX7_isThere_52 : decode cX7_isThere 52 = .ok (.iand, 1) := by decide +kernel
theorem dX7_isThere_53 : decode cX7_isThere 53 = .ok (.iconst 1, 1) := by decide +kernel
theorem dX7_isThere_54 : decode cX7_isThere 54 = .ok (.if_icmp .ne 7, 3) := by decide +kernel
theorem dX7_isThere_57 : decode cX7_isThere 57 = .ok (.iconst 1, 1) := by decide +kernel
theorem dX7_isThere_58 : decode cX7_isThere 58 = .ok (.goto 4, 3) := by decide +kernel
theorem dX7_isThere_61 : decode cX7_isThere 61 = .ok (.iconst 0, 1) := by decide +kernel
theorem dX7_isThere_62 : decode cX7_isThere 62 = .ok (.istore_n 3, 1) := by decide +kernel
theorem dX7_isThere_63 : decode cX7_isThere 63 = .ok (.iinc 4 1, 3) := by decide +kernel
theorem dX7_isThere_66 : decode cX7_isThere 66 = .ok (.goto (-44), 3) := by decide +kernel
theorem dX7_isThere_69 : decode cX7_isThere 69 = .ok (.iload_n 3, 1) := by decide +kernel
theorem dX7_isThere_70 : decode cX7_isThere 70 = .ok (.ireturn, 1) := by decide +kernel
theorem dX7_isSecond_0 : decode cX7_isSecond 0 = .ok (.iconst 0, 1) := by decide +kernel
theorem dX7_isSecond_1 : decode cX7_isSecond 1 = .ok (.istore_n 3, 1) := by decide +kernel
theorem dX7_isSecond_2 : decode cX7_isSecond 2 = .ok (.iconst 0, 1) := by decide +kernel
theorem dX7_isSecond_3 : decode cX7_isSecond 3 = .ok (.istore 4, 2) := by decide +kernel
theorem dX7_isSecond_5 : decode cX7_isSecond 5 = .ok (.iload 4, 2) := by decide +kernel
theorem dX7_isSecond_7 : decode cX7_isSecond 7 = .ok (.iload_n 2, 1) := by decide +kernel
theorem dX7_isSecond_8 : decode cX7_isSecond 8 = .ok (.if_icmp .ge 45, 3) := by decide +kernel
theorem dX7_isSecond_11 : decode cX7_isSecond 11 = .ok (.iload_n 3, 1) := by decide +kernel
theorem dX7_isSecond_12 : decode cX7_isSecond 12 = .ok (.ifCond .ne 29, 3) := by decide +kernel
theorem dX7_isSecond_15 : decode cX7_isSecond 15 = .ok (.aload_n 0, 1) := by decide +kernel
theorem dX7_isSecond_16 : decode cX7_isSecond 16 = .ok (.getfield 13, 3) := by decide +kernel
theorem dX7_isSecond_19 : decode cX7_isSecond 19 = .ok (.bipush 32, 2) := by decide +kernel
theorem dX7_isSecond_21 : decode cX7_isSecond 21 = .ok (.iload_n 1, 1) := by decide +kernel
theorem dX7_isSecond_22 : decode cX7_isSecond 22 = .ok (.imul, 1) := by decide +kernel
theorem dX7_isSecond_23 : decode cX7_isSecond 23 = .ok (.iload 4, 2) := by decide +kernel
theorem dX7_isSecond_25 : decode cX7_isSecond 25 = .ok (.iadd, 1) := by decide +kernel
theorem dX7_isSecond_26 : decode cX7_isSecond 26 = .ok (.iaload, 1) := by decide +kernel
theorem dX7_isSecond_27 : decode cX7_isSecond 27 = .ok (.aload_n 0, 1) := by decide +kernel
theorem dX7_isSecond_28 : decode cX7_isSecond 28 = .ok (.getfield 13, 3) := by decide +kernel
theorem dX7_isSecond_31 : decode cX7_isSecond 31 = .ok (.bipush 32, 2) := by decide +kernel
theorem dX7_isSecond_33 : decode cX7_isSecond 33 = .ok (.iload_n 1, 1) := by decide +kernel
theorem dX7_isSecond_34 : decode cX7_isSecond 34 = .ok (.imul, 1) := by decide +kernel
theorem dX7_isSecond_35 : decode cX7_isSecond 35 = .ok (.iload_n 2, 1) := by decide +kernel
theorem dX7_isSecond_36 : decode cX7_isSecond 36 = .ok (.iadd, 1) := by decide +kernel
theorem dX7_isSecond_37 : decode cX7_isSecond 37 = .ok (.iaload, 1) := by decide +kernel
theorem dX7_isSecond_38 : decode cX7_isSecond 38 = .ok (.if_icmp .ne 7, 3) := by decide +kernel
theorem dX7_isSecond_41 : decode cX7_isSecond 41 = .ok (.iconst 1, 1) := by decide +kernel
theorem dX7_isSecond_42 : decode cX7_isSecond 42 = .ok (.goto 4, 3) := by decide +kernel
theorem dX7_isSecond_45 : decode cX7_isSecond 45 = .ok (.iconst 0, 1) := by decide +kernel
theorem dX7_isSecond_46 : decode cX7_isSecond 46 = .ok (.istore_n 3, 1) := by decide +kernel
theorem dX7_isSecond_47 : decode cX7_isSecond 47 = .ok (.iinc 4 1, 3) := by decide +kernel
theorem dX7_isSecond_50 : decode cX7_isSecond 50 = .ok (.goto (-45), 3) := by decide +kernel
theorem dX7_isSecond_53 : decode cX7_isSecond 53 = .ok (.iload_n 3, 1) := by decide +kernel
theorem dX7_isSecond_54 : decode cX7_isSecond 54 = .ok (.ireturn, 1) := by decide +kernel
theorem dX7_isLone_0 : decode cX7_isLone 0 = .ok (.iconst 0, 1) := by decide +kernel
theorem dX7_isLone_1 : decode cX7_isLone 1 = .ok (.istore_n 3, 1) := by decide +kernel
theorem dX7_isLone_2 : decode cX7_isLone 2 = .ok (.aload_n 0, 1) := by decide +kernel
theorem dX7_isLone_3 : decode cX7_isLone 3 = .ok (.iload_n 1, 1) := by decide +kernel
theorem dX7_isLone_4 : decode cX7_isLone 4 = .ok (.iload_n 2, 1) := by decide +kernel
theorem dX7_isLone_5 : decode cX7_isLone 5 = .ok (.invokevirtual 84, 3) := by decide +kernel
theorem dX7_isLone_8 : decode cX7_isLone 8 = .ok (.iconst 4, 1) := by decide +kernel
theorem dX7_isLone_9 : decode cX7_isLone 9 = .ok (.if_icmp .ne 63, 3) := by decide +kernel
theorem dX7_isLone_12 : decode cX7_isLone 12 = .ok (.iconst 0, 1) := by decide +kernel
theorem dX7_isLone_13 : decode cX7_isLone 13 = .ok (.istore 4, 2) := by decide +kernel
theorem dX7_isLone_15 : decode cX7_isLone 15 = .ok (.iload 4, 2) := by decide +kernel
theorem dX7_isLone_17 : decode cX7_isLone 17 = .ok (.iload_n 2, 1) := by decide +kernel
theorem dX7_isLone_18 : decode cX7_isLone 18 = .ok (.if_icmp .ge 44, 3) := by decide +kernel
theorem dX7_isLone_21 : decode cX7_isLone 21 = .ok (.aload_n 0, 1) := by decide +kernel
theorem dX7_isLone_22 : decode cX7_isLone 22 = .ok (.iload_n 1, 1) := by decide +kernel
theorem dX7_isLone_23 : decode cX7_isLone 23 = .ok (.iload 4, 2) := by decide +kernel
theorem dX7_isLone_25 : decode cX7_isLone 25 = .ok (.invokevirtual 84, 3) := by decide +kernel
theorem dX7_isLone_28 : decode cX7_isLone 28 = .ok (.iconst 3, 1) := by decide +kernel
theorem dX7_isLone_29 : decode cX7_isLone 29 = .ok (.if_icmp .ne 9, 3) := by decide +kernel
theorem dX7_isLone_32 : decode cX7_isLone 32 = .ok (.iinc 3 1, 3) := by decide +kernel
theorem dX7_isLone_35 : decode cX7_isLone 35 = .ok (.goto 21, 3) := by decide +kernel
theorem dX7_isLone_38 : decode cX7_isLone 38 = .ok (.aload_n 0, 1) := by decide +kernel
theorem dX7_isLone_39 : decode cX7_isLone 39 = .ok (.iload_n 1, 1) := by decide +kernel
theorem dX7_isLone_40 : decode cX7_isLone 40 = .ok (.iload 4, 2) := by decide +kernel
theorem dX7_isLone_42 : decode cX7_isLone 42 = .ok (.invokevirtual 84, 3) := by decide +kernel
theorem dX7_isLone_45 : decode cX7_isLone 45 = .ok (.iconst 4, 1) := by decide +kernel
theorem dX7_isLone_46 : decode cX7_isLone 46 = .ok (.if_icmp .ne 10, 3) := by decide +kernel
theorem dX7_isLone_49 : decode cX7_isLone 49 = .ok (.iload_n 3, 1) := by decide +kernel
theorem dX7_isLone_50 : decode cX7_isLone 50 = .ok (.ifCond .le 6, 3) := by decide +kernel
theorem dX7_isLone_53 : decode cX7_isLone 53 = .ok (.iinc 3 (-1), 3) := by decide +kernel
theorem dX7_isLone_56 : decode cX7_isLone 56 = .ok (.iinc 4 1, 3) := by decide +kernel
theorem dX7_isLone_59 : decode cX7_isLone 59 = .ok (.goto (-44), 3) := by decide +kernel
theorem dX7_isLone_62 : decode cX7_isLone 62 = .ok (.iload_n 3, 1) := by decide +kernel
theorem dX7_isLone_63 : decode cX7_isLone 63 = .ok (.ifCond .ne 7, 3) := by decide +kernel
theorem dX7_isLone_66 : decode cX7_isLone 66 = .ok (.iconst 1, 1) := by decide +kernel
theorem dX7_isLone_67 : decode cX7_isLone 67 = .ok (.goto 4, 3) := by decide +kernel
theorem dX7_isLone_70 : decode cX7_isLone 70 = .ok (.iconst 0, 1) := by decide +kernel
theorem dX7_isLone_71 : decode cX7_isLone 71 = .ok (.ireturn, 1) := by decide +kernel
theorem dX7_isLone_72 : decode cX7_isLone 72 = .ok (.iload_n 2, 1) := by decide +kernel
theorem dX7_isLone_73 : decode cX7_isLone 73 = .ok (.istore 4, 2) := by decide +kernel
theorem dX7_isLone_75 : decode cX7_isLone 75 = .ok (.iload 4, 2) := by decide +kernel
theorem dX7_isLone_77 : decode cX7_isLone 77 = .ok (.aload_n 0, 1) := by decide +kernel
theorem dX7_isLone_78 : decode cX7_isLone 78 = .ok (.getfield 7, 3) := by decide +kernel
theorem dX7_isLone_81 : decode cX7_isLone 81 = .ok (.iload_n 1, 1) := by decide +kernel
theorem dX7_isLone_82 : decode cX7_isLone 82 = .ok (.iaload, 1) := by decide +kernel
theorem dX7_isLone_83 : decode cX7_isLone 83 = .ok (.if_icmp .ge 46, 3) := by decide +kernel
theorem dX7_isLone_86 : decode cX7_isLone 86 = .ok (.aload_n 0, 1) := by decide +kernel
theorem dX7_isLone_87 : decode cX7_isLone 87 = .ok (.iload_n 1, 1) := by decide +kernel
theorem dX7_isLone_88 : decode cX7_isLone 88 = .ok (.iload 4, 2) := by decide +kernel
theorem dX7_isLone_90 : decode cX7_isLone 90 = .ok (.invokevirtual 84, 3) := by decide +kernel
theorem dX7_isLone_93 : decode cX7_isLone 93 = .ok (.iconst 3, 1) := by decide +kernel
theorem dX7_isLone_94 : decode cX7_isLone 94 = .ok (.if_icmp .ne 9, 3) := by decide +kernel
theorem dX7_isLone_97 : decode cX7_isLone 97 = .ok (.iinc 3 1, 3) := by decide +kernel
theorem dX7_isLone_100 : decode cX7_isLone 100 = .ok (.goto 17, 3) := by decide +kernel
theorem dX7_isLone_103 : decode cX7_isLone 103 = .ok (.aload_n 0, 1) := by decide +kernel
theorem dX7_isLone_104 : decode cX7_isLone 104 = .ok (.iload_n 1, 1) := by decide +kernel
theorem dX7_isLone_105 : decode cX7_isLone 105 = .ok (.iload 4, 2) := by decide +kernel
theorem dX7_isLone_107 : decode cX7_isLone 107 = .ok (.invokevirtual 84, 3) := by decide +kernel
theorem dX7_isLone_110 : decode cX7_isLone 110 = .ok (.iconst 4, 1) := by decide +kernel
theorem dX7_isLone_111 : decode cX7_isLone 111 = .ok (.if_icmp .ne 6, 3) := by decide +kernel
theorem dX7_isLone_114 : decode cX7_isLone 114 = .ok (.iinc 3 (-1), 3) := by decide +kernel
theorem dX7_isLone_117 : decode cX7_isLone 117 = .ok (.iload_n 3, 1) := by decide +kernel
theorem dX7_isLone_118 : decode cX7_isLone 118 = .ok (.ifCond .ne 5, 3) := by decide +kernel
theorem dX7_isLone_121 : decode cX7_isLone 121 = .ok (.iconst 0, 1) := by decide +kernel
theorem dX7_isLone_122 : decode cX7_isLone 122 = .ok (.ireturn, 1) := by decide +kernel
theorem dX7_isLone_123 : decode cX7_isLone 123 = .ok (.iinc 4 1, 3) := by decide +kernel
theorem dX7_isLone_126 : decode cX7_isLone 126 = .ok (.goto (-51), 3) := by decide +kernel
theorem dX7_isLone_129 : decode cX7_isLone 129 = .ok (.iconst 1, 1) := by decide +kernel
theorem dX7_isLone_130 : decode cX7_isLone 130 = .ok (.ireturn, 1) := by decide +kernel
theorem dX7_breaks_0 : decode cX7_breaks 0 = .ok (.aload_n 0, 1) := by decide +kernel
theorem dX7_breaks_1 : decode cX7_breaks 1 = .ok (.iload_n 1, 1) := by decide +kernel
theorem dX7_breaks_2 : decode cX7_breaks 2 = .ok (.iload_n 2, 1) := by decide +kernel
theorem dX7_breaks_3 : decode cX7_breaks 3 = .ok (.invokevirtual 88, 3) := by decide +kernel
theorem dX7_breaks_6 : decode cX7_breaks 6 = .ok (.istore_n 3, 1) := by decide +kernel
theorem dX7_breaks_7 : decode cX7_breaks 7 = .ok (.aload_n 0, 1) := by decide +kernel
theorem dX7_breaks_8 : decode cX7_breaks 8 = .ok (.iload_n 1, 1) := by decide +kernel
theorem dX7_breaks_9 : decode cX7_breaks 9 = .ok (.iload_n 2, 1) := by decide +kernel
theorem dX7_breaks_10 : decode cX7_breaks 10 = .ok (.invokevirtual 84, 3) := by decide +kernel
theorem dX7_breaks_13 : decode cX7_breaks 13 = .ok (.tableswitch 133 0 5 #[39, 57, 72, 87, 87, 102], 39) := by decide +kernel
theorem dX7_breaks_52 : decode cX7_breaks 52 = .ok (.aload_n 0, 1) := by decide +kernel
theorem dX7_breaks_53 : decode cX7_breaks 53 = .ok (.getfield 99, 3) := by decide +kernel
theorem dX7_breaks_56 : decode cX7_breaks 56 = .ok (.iload_n 3, 1) := by decide +kernel
theorem dX7_breaks_57 : decode cX7_breaks 57 = .ok (.ishr, 1) := by decide +kernel
theorem dX7_breaks_58 : decode cX7_breaks 58 = .ok (.iconst 1, 1) := by decide +kernel
theorem dX7_breaks_59 : decode cX7_breaks 59 = .ok (.iand, 1) := by decide +kernel
theorem dX7_breaks_60 : decode cX7_breaks 60 = .ok (.iconst 1, 1) := by decide +kernel
theorem dX7_breaks_61 : decode cX7_breaks 61 = .ok (.if_icmp .ne 7, 3) := by decide +kernel
theorem dX7_breaks_64 : decode cX7_breaks 64 = .ok (.iconst 3, 1) := by decide +kernel
theorem dX7_breaks_65 : decode cX7_breaks 65 = .ok (.goto 4, 3) := by decide +kernel
theorem dX7_breaks_68 : decode cX7_breaks 68 = .ok (.iconst (-1), 1) := by decide +kernel
theorem dX7_breaks_69 : decode cX7_breaks 69 = .ok (.ireturn, 1) := by decide +kernel
theorem dX7_breaks_70 : decode cX7_breaks 70 = .ok (.aload_n 0, 1) := by decide +kernel
theorem dX7_breaks_71 : decode cX7_breaks 71 = .ok (.iload_n 1, 1) := by decide +kernel
theorem dX7_breaks_72 : decode cX7_breaks 72 = .ok (.iload_n 2, 1) := by decide +kernel
theorem dX7_breaks_73 : decode cX7_breaks 73 = .ok (.invokevirtual 103, 3) := by decide +kernel
theorem dX7_breaks_76 : decode cX7_breaks 76 = .ok (.ifCond .eq 7, 3) := by decide +kernel
theorem dX7_breaks_79 : decode cX7_breaks 79 = .ok (.iconst 1, 1) := by decide +kernel
theorem dX7_breaks_80 : decode cX7_breaks 80 = .ok (.goto 4, 3) := by decide +kernel
theorem dX7_breaks_83 : decode cX7_breaks 83 = .ok (.iconst (-1), 1) := by decide +kernel
theorem dX7_breaks_84 : decode cX7_breaks 84 = .ok (.ireturn, 1) := by decide +kernel
theorem dX7_breaks_85 : decode cX7_breaks 85 = .ok (.aload_n 0, 1) := by decide +kernel
theorem dX7_breaks_86 : decode cX7_breaks 86 = .ok (.iload_n 1, 1) := by decide +kernel
theorem dX7_breaks_87 : decode cX7_breaks 87 = .ok (.iload_n 3, 1) := by decide +kernel
theorem dX7_breaks_88 : decode cX7_breaks 88 = .ok (.invokevirtual 106, 3) := by decide +kernel
theorem dX7_breaks_91 : decode cX7_breaks 91 = .ok (.ifCond .eq 7, 3) := by decide +kernel
theorem dX7_breaks_94 : decode cX7_breaks 94 = .ok (.iconst (-1), 1) := by decide +kernel
theorem dX7_breaks_95 : decode cX7_breaks 95 = .ok (.goto 4, 3) := by decide +kernel
theorem dX7_breaks_98 : decode cX7_breaks 98 = .ok (.iconst 0, 1) := by decide +kernel
theorem dX7_breaks_99 : decode cX7_breaks 99 = .ok (.ireturn, 1) := by decide +kernel
theorem dX7_breaks_100 : decode cX7_breaks 100 = .ok (.aload_n 0, 1) := by decide +kernel
theorem dX7_breaks_101 : decode cX7_breaks 101 = .ok (.iload_n 1, 1) := by decide +kernel
theorem dX7_breaks_102 : decode cX7_breaks 102 = .ok (.iload_n 2, 1) := by decide +kernel
theorem dX7_breaks_103 : decode cX7_breaks 103 = .ok (.invokevirtual 109, 3) := by decide +kernel
theorem dX7_breaks_106 : decode cX7_breaks 106 = .ok (.ifCond .eq 7, 3) := by decide +kernel
theorem dX7_breaks_109 : decode cX7_breaks 109 = .ok (.iconst 2, 1) := by decide +kernel
theorem dX7_breaks_110 : decode cX7_breaks 110 = .ok (.goto 4, 3) := by decide +kernel
theorem dX7_breaks_113 : decode cX7_breaks 113 = .ok (.iconst (-1), 1) := by decide +kernel
theorem dX7_breaks_114 : decode cX7_breaks 114 = .ok (.ireturn, 1) := by decide +kernel
theorem dX7_breaks_115 : decode cX7_breaks 115 = .ok (.iload_n 3, 1) := by decide +kernel
theorem dX7_breaks_116 : decode cX7_breaks 116 = .ok (.bipush 6, 2) := by decide +kernel
theorem dX7_breaks_118 : decode cX7_breaks 118 = .ok (.irem, 1) := by decide +kernel
theorem dX7_breaks_119 : decode cX7_breaks 119 = .ok (.iload_n 1, 1) := by decide +kernel
theorem dX7_breaks_120 : decode cX7_breaks 120 = .ok (.if_icmp .eq 20, 3) := by decide +kernel
theorem dX7_breaks_123 : decode cX7_breaks 123 = .ok (.aload_n 0, 1) := by decide +kernel
theorem dX7_breaks_124 : decode cX7_breaks 124 = .ok (.iload_n 3, 1) := by decide +kernel
theorem dX7_breaks_125 : decode cX7_breaks 125 = .ok (.bipush 6, 2) := by decide +kernel
theorem dX7_breaks_127 : decode cX7_breaks 127 = .ok (.irem, 1) := by decide +kernel
theorem dX7_breaks_128 : decode cX7_breaks 128 = .ok (.invokevirtual 91, 3) := by decide +kernel
theorem dX7_breaks_131 : decode cX7_breaks 131 = .ok (.aload_n 0, 1) := by decide +kernel
theorem dX7_breaks_132 : decode cX7_breaks 132 = .ok (.iload_n 1, 1) := by decide +kernel
theorem dX7_breaks_133 : decode cX7_breaks 133 = .ok (.invokevirtual 112, 3) := by decide +kernel
theorem dX7_breaks_136 : decode cX7_breaks 136 = .ok (.iand, 1) := by decide +kernel
theorem dX7_breaks_137 : decode cX7_breaks 137 = .ok (.ifCond .ne 7, 3) := by decide +kernel
theorem dX7_breaks_140 : decode cX7_breaks 140 = .ok (.iconst 4, 1) := by decide +kernel
theorem dX7_breaks_141 : decode cX7_breaks 141 = .ok (.goto 4, 3) := by decide +kernel
theorem dX7_breaks_144 : decode cX7_breaks 144 = .ok (.iconst (-1), 1) := by decide +kernel
theorem dX7_breaks_145 : decode cX7_breaks 145 = .ok (.ireturn, 1) := by decide +kernel
theorem dX7_breaks_146 : decode cX7_breaks 146 = .ok (.iconst (-1), 1) := by decide +kernel
theorem dX7_breaks_147 : decode cX7_breaks 147 = .ok (.ireturn, 1) := by decide +kernel
theorem dX7_begins_0 : decode cX7_begins 0 = .ok (.aload_n 0, 1) := by decide +kernel
theorem dX7_begins_1 : decode cX7_begins 1 = .ok (.dup, 1) := by decide +kernel
theorem dX7_begins_2 : decode cX7_begins 2 = .ok (.getfield 115, 3) := by decide +kernel
theorem dX7_begins_5 : decode cX7_begins 5 = .ok (.iconst 1, 1) := by decide +kernel
theorem dX7_begins_6 : decode cX7_begins 6 = .ok (.iadd, 1) := by decide +kernel
theorem dX7_begins_7 : decode cX7_begins 7 = .ok (.putfield 115, 3) := by decide +kernel
theorem dX7_begins_10 : decode cX7_begins 10 = .ok (.aload_n 0, 1) := by decide +kernel
theorem dX7_begins_11 : decode cX7_begins 11 = .ok (.aload_n 0, 1) := by decide +kernel
theorem dX7_begins_12 : decode cX7_begins 12 = .ok (.getfield 118, 3) := by decide +kernel
theorem dX7_begins_15 : decode cX7_begins 15 = .ok (.putfield 121, 3) := by decide +kernel
theorem dX7_begins_18 : decode cX7_begins 18 = .ok (.iconst 0, 1) := by decide +kernel
theorem dX7_begins_19 : decode cX7_begins 19 = .ok (.istore_n 1, 1) := by decide +kernel
theorem dX7_begins_20 : decode cX7_begins 20 = .ok (.iload_n 1, 1) := by decide +kernel
theorem dX7_begins_21 : decode cX7_begins 21 = .ok (.aload_n 0, 1) := by decide +kernel
theorem dX7_begins_22 : decode cX7_begins 22 = .ok (.getfield 118, 3) := by decide +kernel
theorem dX7_begins_25 : decode cX7_begins 25 = .ok (.if_icmp .ge 69, 3) := by decide +kernel
theorem dX7_begins_28 : decode cX7_begins 28 = .ok (.aload_n 0, 1) := by decide +kernel
theorem dX7_begins_29 : decode cX7_begins 29 = .ok (.getfield 40, 3) := by decide +kernel
theorem dX7_begins_32 : decode cX7_begins 32 = .ok (.iload_n 1, 1) := by decide +kernel
theorem dX7_begins_33 : decode cX7_begins 33 = .ok (.aload_n 0, 1) := by decide +kernel
theorem dX7_begins_34 : decode cX7_begins 34 = .ok (.getfield 19, 3) := by decide +kernel
theorem dX7_begins_37 : decode cX7_begins 37 = .ok (.iload_n 1, 1) := by decide +kernel
theorem dX7_begins_38 : decode cX7_begins 38 = .ok (.iaload, 1) := by decide +kernel
theorem dX7_begins_39 : decode cX7_begins 39 = .ok (.iastore, 1) := by decide +kernel
theorem dX7_begins_40 : decode cX7_begins 40 = .ok (.aload_n 0, 1) := by decide +kernel
theorem dX7_begins_41 : decode cX7_begins 41 = .ok (.getfield 43, 3) := by decide +kernel
theorem dX7_begins_44 : decode cX7_begins 44 = .ok (.iload_n 1, 1) := by decide +kernel
theorem dX7_begins_45 : decode cX7_begins 45 = .ok (.aload_n 0, 1) := by decide +kernel
theorem dX7_begins_46 : decode cX7_begins 46 = .ok (.getfield 28, 3) := by decide +kernel
theorem dX7_begins_49 : decode cX7_begins 49 = .ok (.iload_n 1, 1) := by decide +kernel
theorem dX7_begins_50 : decode cX7_begins 50 = .ok (.iaload, 1) := by decide +kernel
theorem dX7_begins_51 : decode cX7_begins 51 = .ok (.iastore, 1) := by decide +kernel
theorem dX7_begins_52 : decode cX7_begins 52 = .ok (.aload_n 0, 1) := by decide +kernel
theorem dX7_begins_53 : decode cX7_begins 53 = .ok (.getfield 46, 3) := by decide +kernel
theorem dX7_begins_56 : decode cX7_begins 56 = .ok (.iload_n 1, 1) := by decide +kernel
theorem dX7_begins_57 : decode cX7_begins 57 = .ok (.aload_n 0, 1) := by decide +kernel
theorem dX7_begins_58 : decode cX7_begins 58 = .ok (.getfield 31, 3) := by decide +kernel
theorem dX7_begins_61 : decode cX7_begins 61 = .ok (.iload_n 1, 1) := by decide +kernel
theorem dX7_begins_62 : decode cX7_begins 62 = .ok (.iaload, 1) := by decide +kernel
theorem dX7_begins_63 : decode cX7_begins 63 = .ok (.iastore, 1) := by decide +kernel
theorem dX7_begins_64 : decode cX7_begins 64 = .ok (.aload_n 0, 1) := by decide +kernel
theorem dX7_begins_65 : decode cX7_begins 65 = .ok (.getfield 49, 3) := by decide +kernel
theorem dX7_begins_68 : decode cX7_begins 68 = .ok (.iload_n 1, 1) := by decide +kernel
theorem dX7_begins_69 : decode cX7_begins 69 = .ok (.aload_n 0, 1) := by decide +kernel
theorem dX7_begins_70 : decode cX7_begins 70 = .ok (.getfield 34, 3) := by decide +kernel
theorem dX7_begins_73 : decode cX7_begins 73 = .ok (.iload_n 1, 1) := by decide +kernel
theorem dX7_begins_74 : decode cX7_begins 74 = .ok (.iaload, 1) := by decide +kernel
theorem dX7_begins_75 : decode cX7_begins 75 = .ok (.iastore, 1) := by decide +kernel
theorem dX7_begins_76 : decode cX7_begins 76 = .ok (.aload_n 0, 1) := by decide +kernel
theorem dX7_begins_77 : decode cX7_begins 77 = .ok (.getfield 52, 3) := by decide +kernel
theorem dX7_begins_80 : decode cX7_begins 80 = .ok (.iload_n 1, 1) := by decide +kernel
theorem dX7_begins_81 : decode cX7_begins 81 = .ok (.aload_n 0, 1) := by decide +kernel
theorem dX7_begins_82 : decode cX7_begins 82 = .ok (.getfield 37, 3) := by decide +kernel
theorem dX7_begins_85 : decode cX7_begins 85 = .ok (.iload_n 1, 1) := by decide +kernel
theorem dX7_begins_86 : decode cX7_begins 86 = .ok (.iaload, 1) := by decide +kernel
theorem dX7_begins_87 : decode cX7_begins 87 = .ok (.iastore, 1) := by decide +kernel
theorem dX7_begins_88 : decode cX7_begins 88 = .ok (.iinc 1 1, 3) := by decide +kernel
theorem dX7_begins_91 : decode cX7_begins 91 = .ok (.goto (-71), 3) := by decide +kernel
theorem dX7_begins_94 : decode cX7_begins 94 = .ok (.return_, 1) := by decide +kernel
theorem dX7_had_0 : decode cX7_had 0 = .ok (.iconst 0, 1) := by decide +kernel
theorem dX7_had_1 : decode cX7_had 1 = .ok (.istore_n 3, 1) := by decide +kernel
theorem dX7_had_2 : decode cX7_had 2 = .ok (.iload_n 3, 1) := by decide +kernel
theorem dX7_had_3 : decode cX7_had 3 = .ok (.aload_n 0, 1) := by decide +kernel
theorem dX7_had_4 : decode cX7_had 4 = .ok (.getfield 121, 3) := by decide +kernel
theorem dX7_had_7 : decode cX7_had 7 = .ok (.if_icmp .ge 31, 3) := by decide +kernel
theorem dX7_had_10 : decode cX7_had 10 = .ok (.aload_n 0, 1) := by decide +kernel
theorem dX7_had_11 : decode cX7_had 11 = .ok (.getfield 40, 3) := by decide +kernel
theorem dX7_had_14 : decode cX7_had 14 = .ok (.iload_n 3, 1) := by decide +kernel
theorem dX7_had_15 : decode cX7_had 15 = .ok (.iaload, 1) := by decide +kernel
theorem dX7_had_16 : decode cX7_had 16 = .ok (.iload_n 1, 1) := by decide +kernel
theorem dX7_had_17 : decode cX7_had 17 = .ok (.if_icmp .ne 15, 3) := by decide +kernel
theorem dX7_had_20 : decode cX7_had 20 = .ok (.aload_n 0, 1) := by decide +kernel
theorem dX7_had_21 : decode cX7_had 21 = .ok (.getfield 43, 3) := by decide +kernel
theorem dX7_had_24 : decode cX7_had 24 = .ok (.iload_n 3, 1) := by decide +kernel
theorem dX7_had_25 : decode cX7_had 25 = .ok (.iaload, 1) := by decide +kernel
theorem dX7_had_26 : decode cX7_had 26 = .ok (.iload_n 2, 1) := by decide +kernel
theorem dX7_had_27 : decode cX7_had 27 = .ok (.if_icmp .ne 5, 3) := by decide +kernel
theorem dX7_had_30 : decode cX7_had 30 = .ok (.iload_n 3, 1) := by decide +kernel
theorem dX7_had_31 : decode cX7_had 31 = .ok (.ireturn, 1) := by decide +kernel
theorem dX7_had_32 : decode cX7_had 32 = .ok (.iinc 3 1, 3) := by decide +kernel
theorem dX7_had_35 : decode cX7_had 35 = .ok (.goto (-33), 3) := by decide +kernel
theorem dX7_had_38 : decode cX7_had 38 = .ok (.iconst (-1), 1) := by decide +kernel
theorem dX7_had_39 : decode cX7_had 39 = .ok (.ireturn, 1) := by decide +kernel
theorem dX7_find_0 : decode cX7_find 0 = .ok (.iconst 0, 1) := by decide +kernel
theorem dX7_find_1 : decode cX7_find 1 = .ok (.istore_n 3, 1) := by decide +kernel
theorem dX7_find_2 : decode cX7_find 2 = .ok (.iload_n 3, 1) := by decide +kernel
theorem dX7_find_3 : decode cX7_find 3 = .ok (.aload_n 0, 1) := by decide +kernel
theorem dX7_find_4 : decode cX7_find 4 = .ok (.getfield 118, 3) := by decide +kernel
theorem dX7_find_7 : decode cX7_find 7 = .ok (.if_icmp .ge 31, 3) := by decide +kernel
theorem dX7_find_10 : decode cX7_find 10 = .ok (.aload_n 0, 1) := by decide +kernel
theorem dX7_find_11 : decode cX7_find 11 = .ok (.getfield 19, 3) := by decide +kernel
theorem dX7_find_14 : decode cX7_find 14 = .ok (.iload_n 3, 1) := by decide +kernel
theorem dX7_find_15 : decode cX7_find 15 = .ok (.iaload, 1) := by decide +kernel
theorem dX7_find_16 : decode cX7_find 16 = .ok (.iload_n 1, 1) := by decide +kernel
theorem dX7_find_17 : decode cX7_find 17 = .ok (.if_icmp .ne 15, 3) := by decide +kernel
theorem dX7_find_20 : decode cX7_find 20 = .ok (.aload_n 0, 1) := by decide +kernel
theorem dX7_find_21 : decode cX7_find 21 = .ok (.getfield 28, 3) := by decide +kernel
theorem dX7_find_24 : decode cX7_find 24 = .ok (.iload_n 3, 1) := by decide +kernel
theorem dX7_find_25 : decode cX7_find 25 = .ok (.iaload, 1) := by decide +kernel
theorem dX7_find_26 : decode cX7_find 26 = .ok (.iload_n 2, 1) := by decide +kernel
theorem dX7_find_27 : decode cX7_find 27 = .ok (.if_icmp .ne 5, 3) := by decide +kernel
theorem dX7_find_30 : decode cX7_find 30 = .ok (.iload_n 3, 1) := by decide +kernel
theorem dX7_find_31 : decode cX7_find 31 = .ok (.ireturn, 1) := by decide +kernel
theorem dX7_find_32 : decode cX7_find 32 = .ok (.iinc 3 1, 3) := by decide +kernel
theorem dX7_find_35 : decode cX7_find 35 = .ok (.goto (-33), 3) := by decide +kernel
theorem dX7_find_38 : decode cX7_find 38 = .ok (.iconst (-1), 1) := by decide +kernel
theorem dX7_find_39 : decode cX7_find 39 = .ok (.ireturn, 1) := by decide +kernel
theorem dX7_finds_0 : decode cX7_finds 0 = .ok (.aload_n 0, 1) := by decide +kernel
theorem dX7_finds_1 : decode cX7_finds 1 = .ok (.iconst 0, 1) := by decide +kernel
theorem dX7_finds_2 : decode cX7_finds 2 = .ok (.putfield 118, 3) := by decide +kernel
theorem dX7_finds_5 : decode cX7_finds 5 = .ok (.iconst 0, 1) := by decide +kernel
theorem dX7_finds_6 : decode cX7_finds 6 = .ok (.istore_n 1, 1) := by decide +kernel
theorem dX7_finds_7 : decode cX7_finds 7 = .ok (.iload_n 1, 1) := by decide +kernel
theorem dX7_finds_8 : decode cX7_finds 8 = .ok (.bipush 6, 2) := by decide +kernel
theorem dX7_finds_10 : decode cX7_finds 10 = .ok (.if_icmp .ge 201, 3) := by decide +kernel
theorem dX7_finds_13 : decode cX7_finds 13 = .ok (.iconst 0, 1) := by decide +kernel
theorem dX7_finds_14 : decode cX7_finds 14 = .ok (.istore_n 2, 1) := by decide +kernel
theorem dX7_finds_15 : decode cX7_finds 15 = .ok (.iload_n 2, 1) := by decide +kernel
theorem dX7_finds_16 : decode cX7_finds 16 = .ok (.aload_n 0, 1) := by decide +kernel
theorem dX7_finds_17 : decode cX7_finds 17 = .ok (.getfield 7, 3) := by decide +kernel
theorem dX7_finds_20 : decode cX7_finds 20 = .ok (.iload_n 1, 1) := by decide +kernel
theorem dX7_finds_21 : decode cX7_finds 21 = .ok (.iaload, 1) := by decide +kernel
theorem dX7_finds_22 : decode cX7_finds 22 = .ok (.if_icmp .ge 183, 3) := by decide +kernel
theorem dX7_finds_25 : decode cX7_finds 25 = .ok (.aload_n 0, 1) := by decide +kernel
theorem dX7_finds_26 : decode cX7_finds 26 = .ok (.iload_n 1, 1) := by decide +kernel
theorem dX7_finds_27 : decode cX7_finds 27 = .ok (.iload_n 2, 1) := by decide +kernel
theorem dX7_finds_28 : decode cX7_finds 28 = .ok (.invokevirtual 124, 3) := by decide +kernel
theorem dX7_finds_31 : decode cX7_finds 31 = .ok (.istore_n 3, 1) := by decide +kernel
theorem dX7_finds_32 : decode cX7_finds 32 = .ok (.iload_n 3, 1) := by decide +kernel
theorem dX7_finds_33 : decode cX7_finds 33 = .ok (.iconst (-1), 1) := by decide +kernel
theorem dX7_finds_34 : decode cX7_finds 34 = .ok (.if_icmp .ne 6, 3) := by decide +kernel
theorem dX7_finds_37 : decode cX7_finds 37 = .ok (.goto 162, 3) := by decide +kernel
theorem dX7_finds_40 : decode cX7_finds 40 = .ok (.aload_n 0, 1) := by decide +kernel
theorem dX7_finds_41 : decode cX7_finds 41 = .ok (.iload_n 3, 1) := by decide +kernel
theorem dX7_finds_42 : decode cX7_finds 42 = .ok (.aload_n 0, 1) := by decide +kernel
theorem dX7_finds_43 : decode cX7_finds 43 = .ok (.getfield 16, 3) := by decide +kernel
theorem dX7_finds_46 : decode cX7_finds 46 = .ok (.bipush 32, 2) := by decide +kernel
theorem dX7_finds_48 : decode cX7_finds 48 = .ok (.iload_n 1, 1) := by decide +kernel
theorem dX7_finds_49 : decode cX7_finds 49 = .ok (.imul, 1) := by decide +kernel
theorem dX7_finds_50 : decode cX7_finds 50 = .ok (.iload_n 2, 1) := by decide +kernel
theorem dX7_finds_51 : decode cX7_finds 51 = .ok (.iadd, 1) := by decide +kernel
theorem dX7_finds_52 : decode cX7_finds 52 = .ok (.iaload, 1) := by decide +kernel
theorem dX7_finds_53 : decode cX7_finds 53 = .ok (.invokevirtual 127, 3) := by decide +kernel
theorem dX7_finds_56 : decode cX7_finds 56 = .ok (.istore 4, 2) := by decide +kernel
theorem dX7_finds_58 : decode cX7_finds 58 = .ok (.aload_n 0, 1) := by decide +kernel
theorem dX7_finds_59 : decode cX7_finds 59 = .ok (.getfield 19, 3) := by decide +kernel
theorem dX7_finds_62 : decode cX7_finds 62 = .ok (.aload_n 0, 1) := by decide +kernel
theorem dX7_finds_63 : decode cX7_finds 63 = .ok (.getfield 118, 3) := by decide +kernel
theorem dX7_finds_66 : decode cX7_finds 66 = .ok (.iload_n 3, 1) := by decide +kernel
theorem dX7_finds_67 : decode cX7_finds 67 = .ok (.iastore, 1) := by decide +kernel
theorem dX7_finds_68 : decode cX7_finds 68 = .ok (.aload_n 0, 1) := by decide +kernel
theorem dX7_finds_69 : decode cX7_finds 69 = .ok (.getfield 22, 3) := by decide +kernel
theorem dX7_finds_72 : decode cX7_finds 72 = .ok (.aload_n 0, 1) := by decide +kernel
theorem dX7_finds_73 : decode cX7_finds 73 = .ok (.getfield 118, 3) := by decide +kernel
theorem dX7_finds_76 : decode cX7_finds 76 = .ok (.iload_n 1, 1) := by decide +kernel
theorem dX7_finds_77 : decode cX7_finds 77 = .ok (.iastore, 1) := by decide +kernel
theorem dX7_finds_78 : decode cX7_finds 78 = .ok (.aload_n 0, 1) := by decide +kernel
theorem dX7_finds_79 : decode cX7_finds 79 = .ok (.getfield 25, 3) := by decide +kernel
theorem dX7_finds_82 : decode cX7_finds 82 = .ok (.aload_n 0, 1) := by decide +kernel
theorem dX7_finds_83 : decode cX7_finds 83 = .ok (.getfield 118, 3) := by decide +kernel
theorem dX7_finds_86 : decode cX7_finds 86 = .ok (.iload_n 2, 1) := by decide +kernel
theorem dX7_finds_87 : decode cX7_finds 87 = .ok (.iastore, 1) := by decide +kernel
theorem dX7_finds_88 : decode cX7_finds 88 = .ok (.aload_n 0, 1) := by decide +kernel
theorem dX7_finds_89 : decode cX7_finds 89 = .ok (.getfield 28, 3) := by decide +kernel
theorem dX7_finds_92 : decode cX7_finds 92 = .ok (.aload_n 0, 1) := by decide +kernel
theorem dX7_finds_93 : decode cX7_finds 93 = .ok (.getfield 118, 3) := by decide +kernel
theorem dX7_finds_96 : decode cX7_finds 96 = .ok (.aload_n 0, 1) := by decide +kernel
theorem dX7_finds_97 : decode cX7_finds 97 = .ok (.getfield 16, 3) := by decide +kernel
theorem dX7_finds_100 : decode cX7_finds 100 = .ok (.bipush 32, 2) := by decide +kernel
theorem dX7_finds_102 : decode cX7_finds 102 = .ok (.iload_n 1, 1) := by decide +kernel
theorem dX7_finds_103 : decode cX7_finds 103 = .ok (.imul, 1) := by decide +kernel
theorem dX7_finds_104 : decode cX7_finds 104 = .ok (.iload_n 2, 1) := by decide +kernel
theorem dX7_finds_105 : decode cX7_finds 105 = .ok (.iadd, 1) := by decide +kernel
theorem dX7_finds_106 : decode cX7_finds 106 = .ok (.iaload, 1) := by decide +kernel
theorem dX7_finds_107 : decode cX7_finds 107 = .ok (.iastore, 1) := by decide +kernel
theorem dX7_finds_108 : decode cX7_finds 108 = .ok (.aload_n 0, 1) := by decide +kernel
theorem dX7_finds_109 : decode cX7_finds 109 = .ok (.getfield 31, 3) := by decide +kernel
theorem dX7_finds_112 : decode cX7_finds 112 = .ok (.aload_n 0, 1) := by decide +kernel
theorem dX7_finds_113 : decode cX7_finds 113 = .ok (.getfield 118, 3) := by decide +kernel
theorem dX7_finds_116 : decode cX7_finds 116 = .ok (.iload 4, 2) := by decide +kernel
theorem dX7_finds_118 : decode cX7_finds 118 = .ok (.iconst (-1), 1) := by decide +kernel
theorem dX7_finds_119 : decode cX7_finds 119 = .ok (.if_icmp .ne 10, 3) := by decide +kernel
theorem dX7_finds_122 : decode cX7_finds 122 = .ok (.aload_n 0, 1) := by decide +kernel
theorem dX7_finds_123 : decode cX7_finds 123 = .ok (.getfield 115, 3) := by decide +kernel
theorem dX7_finds_126 : decode cX7_finds 126 = .ok (.goto 10, 3) := by decide +kernel
theorem dX7_finds_129 : decode cX7_finds 129 = .ok (.aload_n 0, 1) := by decide +kernel
theorem dX7_finds_130 : decode cX7_finds 130 = .ok (.getfield 46, 3) := by decide +kernel
theorem dX7_finds_133 : decode cX7_finds 133 = .ok (.iload 4, 2) := by decide +kernel
theorem dX7_finds_135 : decode cX7_finds 135 = .ok (.iaload, 1) := by decide +kernel
theorem dX7_finds_136 : decode cX7_finds 136 = .ok (.iastore, 1) := by decide +kernel
theorem dX7_finds_137 : decode cX7_finds 137 = .ok (.aload_n 0, 1) := by decide +kernel
theorem dX7_finds_138 : decode cX7_finds 138 = .ok (.getfield 34, 3) := by decide +kernel
theorem dX7_finds_141 : decode cX7_finds 141 = .ok (.aload_n 0, 1) := by decide +kernel
theorem dX7_finds_142 : decode cX7_finds 142 = .ok (.getfield 118, 3) := by decide +kernel
theorem dX7_finds_145 : decode cX7_finds 145 = .ok (.iload 4, 2) := by decide +kernel
theorem dX7_finds_147 : decode cX7_finds 147 = .ok (.iconst (-1), 1) := by decide +kernel
theorem dX7_finds_148 : decode cX7_finds 148 = .ok (.if_icmp .ne 7, 3) := by decide +kernel
theorem dX7_finds_151 : decode cX7_finds 151 = .ok (.iconst 0, 1) := by decide +kernel
theorem dX7_finds_152 : decode cX7_finds 152 = .ok (.goto 10, 3) := by decide +kernel
theorem dX7_finds_155 : decode cX7_finds 155 = .ok (.aload_n 0, 1) := by decide +kernel
theorem dX7_finds_156 : decode cX7_finds 156 = .ok (.getfield 49, 3) := by decide +kernel
theorem dX7_finds_159 : decode cX7_finds 159 = .ok (.iload 4, 2) := by decide +kernel
theorem dX7_finds_161 : decode cX7_finds 161 = .ok (.iaload, 1) := by decide +kernel
theorem dX7_finds_162 : decode cX7_finds 162 = .ok (.iastore, 1) := by decide +kernel
theorem dX7_finds_163 : decode cX7_finds 163 = .ok (.aload_n 0, 1) := by decide +kernel
theorem dX7_finds_164 : decode cX7_finds 164 = .ok (.getfield 37, 3) := by decide +kernel
theorem dX7_finds_167 : decode cX7_finds 167 = .ok (.aload_n 0, 1) := by decide +kernel
theorem dX7_finds_168 : decode cX7_finds 168 = .ok (.getfield 118, 3) := by decide +kernel
theorem dX7_finds_171 : decode cX7_finds 171 = .ok (.iload 4, 2) := by decide +kernel
theorem dX7_finds_173 : decode cX7_finds 173 = .ok (.iconst (-1), 1) := by decide +kernel
theorem dX7_finds_174 : decode cX7_finds 174 = .ok (.if_icmp .ne 7, 3) := by decide +kernel
theorem dX7_finds_177 : decode cX7_finds 177 = .ok (.iconst (-1), 1) := by decide +kernel
theorem dX7_finds_178 : decode cX7_finds 178 = .ok (.goto 10, 3) := by decide +kernel
theorem dX7_finds_181 : decode cX7_finds 181 = .ok (.aload_n 0, 1) := by decide +kernel
theorem dX7_finds_182 : decode cX7_finds 182 = .ok (.getfield 52, 3) := by decide +kernel
theorem dX7_finds_185 : decode cX7_finds 185 = .ok (.iload 4, 2) := by decide +kernel
theorem dX7_finds_187 : decode cX7_finds 187 = .ok (.iaload, 1) := by decide +kernel
theorem dX7_finds_188 : decode cX7_finds 188 = .ok (.iastore, 1) := by decide +kernel
theorem dX7_finds_189 : decode cX7_finds 189 = .ok (.aload_n 0, 1) := by decide +kernel
theorem dX7_finds_190 : decode cX7_finds 190 = .ok (.dup, 1) := by decide +kernel
theorem dX7_finds_191 : decode cX7_finds 191 = .ok (.getfield 118, 3) := by decide +kernel
theorem dX7_finds_194 : decode cX7_finds 194 = .ok (.iconst 1, 1) := by decide +kernel
theorem dX7_finds_195 : decode cX7_finds 195 = .ok (.iadd, 1) := by decide +kernel
theorem dX7_finds_196 : decode cX7_finds 196 = .ok (.putfield 118, 3) := by decide +kernel
theorem dX7_finds_199 : decode cX7_finds 199 = .ok (.iinc 2 1, 3) := by decide +kernel
theorem dX7_finds_202 : decode cX7_finds 202 = .ok (.goto (-187), 3) := by decide +kernel
theorem dX7_finds_205 : decode cX7_finds 205 = .ok (.iinc 1 1, 3) := by decide +kernel
theorem dX7_finds_208 : decode cX7_finds 208 = .ok (.goto (-201), 3) := by decide +kernel
theorem dX7_finds_211 : decode cX7_finds 211 = .ok (.iconst 0, 1) := by decide +kernel
theorem dX7_finds_212 : decode cX7_finds 212 = .ok (.istore_n 1, 1) := by decide +kernel
theorem dX7_finds_213 : decode cX7_finds 213 = .ok (.iload_n 1, 1) := by decide +kernel
theorem dX7_finds_214 : decode cX7_finds 214 = .ok (.aload_n 0, 1) := by decide +kernel
theorem dX7_finds_215 : decode cX7_finds 215 = .ok (.getfield 121, 3) := by decide +kernel
theorem dX7_finds_218 : decode cX7_finds 218 = .ok (.if_icmp .ge 51, 3) := by decide +kernel
theorem dX7_finds_221 : decode cX7_finds 221 = .ok (.aload_n 0, 1) := by decide +kernel
theorem dX7_finds_222 : decode cX7_finds 222 = .ok (.aload_n 0, 1) := by decide +kernel
theorem dX7_finds_223 : decode cX7_finds 223 = .ok (.getfield 40, 3) := by decide +kernel
theorem dX7_finds_226 : decode cX7_finds 226 = .ok (.iload_n 1, 1) := by decide +kernel
theorem dX7_finds_227 : decode cX7_finds 227 = .ok (.iaload, 1) := by decide +kernel
theorem dX7_finds_228 : decode cX7_finds 228 = .ok (.aload_n 0, 1) := by decide +kernel
theorem dX7_finds_229 : decode cX7_finds 229 = .ok (.getfield 43, 3) := by decide +kernel
theorem dX7_finds_232 : decode cX7_finds 232 = .ok (.iload_n 1, 1) := by decide +kernel
theorem dX7_finds_233 : decode cX7_finds 233 = .ok (.iaload, 1) := by decide +kernel
theorem dX7_finds_234 : decode cX7_finds 234 = .ok (.invokevirtual 130, 3) := by decide +kernel
theorem dX7_finds_237 : decode cX7_finds 237 = .ok (.iconst (-1), 1) := by decide +kernel
theorem dX7_finds_238 : decode cX7_finds 238 = .ok (.if_icmp .ne 25, 3) := by decide +kernel
theorem dX7_finds_241 : decode cX7_finds 241 = .ok (.aload_n 0, 1) := by decide +kernel
theorem dX7_finds_242 : decode cX7_finds 242 = .ok (.aload_n 0, 1) := by decide +kernel
theorem dX7_finds_243 : decode cX7_finds 243 = .ok (.getfield 40, 3) := by decide +kernel
theorem dX7_finds_246 : decode cX7_finds 246 = .ok (.iload_n 1, 1) := by decide +kernel
theorem dX7_finds_247 : decode cX7_finds 247 = .ok (.iaload, 1) := by decide +kernel
theorem dX7_finds_248 : decode cX7_finds 248 = .ok (.aload_n 0, 1) := by decide +kernel
theorem dX7_finds_249 : decode cX7_finds 249 = .ok (.getfield 43, 3) := by decide +kernel
theorem dX7_finds_252 : decode cX7_finds 252 = .ok (.iload_n 1, 1) := by decide +kernel
theorem dX7_finds_253 : decode cX7_finds 253 = .ok (.iaload, 1) := by decide +kernel
theorem dX7_finds_254 : decode cX7_finds 254 = .ok (.aload_n 0, 1) := by decide +kernel
theorem dX7_finds_255 : decode cX7_finds 255 = .ok (.getfield 46, 3) := by decide +kernel
theorem dX7_finds_258 : decode cX7_finds 258 = .ok (.iload_n 1, 1) := by decide +kernel
theorem dX7_finds_259 : decode cX7_finds 259 = .ok (.iaload, 1) := by decide +kernel
theorem dX7_finds_260 : decode cX7_finds 260 = .ok (.invokevirtual 133, 3) := by decide +kernel
theorem dX7_finds_263 : decode cX7_finds 263 = .ok (.iinc 1 1, 3) := by decide +kernel
theorem dX7_finds_266 : decode cX7_finds 266 = .ok (.goto (-53), 3) := by decide +kernel
theorem dX7_finds_269 : decode cX7_finds 269 = .ok (.return_, 1) := by decide +kernel
theorem dX7_logs_0 : decode cX7_logs 0 = .ok (.aload_n 0, 1) := by decide +kernel
theorem dX7_logs_1 : decode cX7_logs 1 = .ok (.getfield 137, 3) := by decide +kernel
theorem dX7_logs_4 : decode cX7_logs 4 = .ok (.bipush 60, 2) := by decide +kernel
theorem dX7_logs_6 : decode cX7_logs 6 = .ok (.if_icmp .ne 95, 3) := by decide +kernel
theorem dX7_logs_9 : decode cX7_logs 9 = .ok (.iconst 0, 1) := by decide +kernel
theorem dX7_logs_10 : decode cX7_logs 10 = .ok (.istore 4, 2) := by decide +kernel
theorem dX7_logs_12 : decode cX7_logs 12 = .ok (.iload 4, 2) := by decide +kernel
theorem dX7_logs_14 : decode cX7_logs 14 = .ok (.iconst 1, 1) := by decide +kernel
theorem dX7_logs_15 : decode cX7_logs 15 = .ok (.iadd, 1) := by decide +kernel
theorem dX7_logs_16 : decode cX7_logs 16 = .ok (.bipush 60, 2) := by decide +kernel
theorem dX7_logs_18 : decode cX7_logs 18 = .ok (.if_icmp .ge 73, 3) := by decide +kernel
theorem dX7_logs_21 : decode cX7_logs 21 = .ok (.aload_n 0, 1) := by decide +kernel
theorem dX7_logs_22 : decode cX7_logs 22 = .ok (.getfield 55, 3) := by decide +kernel
theorem dX7_logs_25 : decode cX7_logs 25 = .ok (.iload 4, 2) := by decide +kernel
theorem dX7_logs_27 : decode cX7_logs 27 = .ok (.aload_n 0, 1) := by decide +kernel
theorem dX7_logs_28 : decode cX7_logs 28 = .ok (.getfield 55, 3) := by decide +kernel
theorem dX7_logs_31 : decode cX7_logs 31 = .ok (.iload 4, 2) := by decide +kernel
theorem dX7_logs_33 : decode cX7_logs 33 = .ok (.iconst 1, 1) := by decide +kernel
theorem dX7_logs_34 : decode cX7_logs 34 = .ok (.iadd, 1) := by decide +kernel
theorem dX7_logs_35 : decode cX7_logs 35 = .ok (.iaload, 1) := by decide +kernel
theorem dX7_logs_36 : decode cX7_logs 36 = .ok (.iastore, 1) := by decide +kernel
theorem dX7_logs_37 : decode cX7_logs 37 = .ok (.aload_n 0, 1) := by decide +kernel
theorem dX7_logs_38 : decode cX7_logs 38 = .ok (.getfield 58, 3) := by decide +kernel
theorem dX7_logs_41 : decode cX7_logs 41 = .ok (.iload 4, 2) := by decide +kernel
theorem dX7_logs_43 : decode cX7_logs 43 = .ok (.aload_n 0, 1) := by decide +kernel
theorem dX7_logs_44 : decode cX7_logs 44 = .ok (.getfield 58, 3) := by decide +kernel
theorem dX7_logs_47 : decode cX7_logs 47 = .ok (.iload 4, 2) := by decide +kernel
theorem dX7_logs_49 : decode cX7_logs 49 = .ok (.iconst 1, 1) := by decide +kernel
theorem dX7_logs_50 : decode cX7_logs 50 = .ok (.iadd, 1) := by decide +kernel
theorem dX7_logs_51 : decode cX7_logs 51 = .ok (.iaload, 1) := by decide +kernel
theorem dX7_logs_52 : decode cX7_logs 52 = .ok (.iastore, 1) := by decide +kernel
theorem dX7_logs_53 : decode cX7_logs 53 = .ok (.aload_n 0, 1) := by decide +kernel
theorem dX7_logs_54 : decode cX7_logs 54 = .ok (.getfield 61, 3) := by decide +kernel
theorem dX7_logs_57 : decode cX7_logs 57 = .ok (.iload 4, 2) := by decide +kernel
theorem dX7_logs_59 : decode cX7_logs 59 = .ok (.aload_n 0, 1) := by decide +kernel
theorem dX7_logs_60 : decode cX7_logs 60 = .ok (.getfield 61, 3) := by decide +kernel
theorem dX7_logs_63 : decode cX7_logs 63 = .ok (.iload 4, 2) := by decide +kernel
theorem dX7_logs_65 : decode cX7_logs 65 = .ok (.iconst 1, 1) := by decide +kernel
theorem dX7_logs_66 : decode cX7_logs 66 = .ok (.iadd, 1) := by decide +kernel
theorem dX7_logs_67 : decode cX7_logs 67 = .ok (.iaload, 1) := by decide +kernel
theorem dX7_logs_68 : decode cX7_logs 68 = .ok (.iastore, 1) := by decide +kernel
theorem dX7_logs_69 : decode cX7_logs 69 = .ok (.aload_n 0, 1) := by decide +kernel
theorem dX7_logs_70 : decode cX7_logs 70 = .ok (.getfield 64, 3) := by decide +kernel
theorem dX7_logs_73 : decode cX7_logs 73 = .ok (.iload 4, 2) := by decide +kernel
theorem dX7_logs_75 : decode cX7_logs 75 = .ok (.aload_n 0, 1) := by decide +kernel
theorem dX7_logs_76 : decode cX7_logs 76 = .ok (.getfield 64, 3) := by decide +kernel
theorem dX7_logs_79 : decode cX7_logs 79 = .ok (.iload 4, 2) := by decide +kernel
theorem dX7_logs_81 : decode cX7_logs 81 = .ok (.iconst 1, 1) := by decide +kernel
theorem dX7_logs_82 : decode cX7_logs 82 = .ok (.iadd, 1) := by decide +kernel
theorem dX7_logs_83 : decode cX7_logs 83 = .ok (.iaload, 1) := by decide +kernel
theorem dX7_logs_84 : decode cX7_logs 84 = .ok (.iastore, 1) := by decide +kernel
theorem dX7_logs_85 : decode cX7_logs 85 = .ok (.iinc 4 1, 3) := by decide +kernel
theorem dX7_logs_88 : decode cX7_logs 88 = .ok (.goto (-76), 3) := by decide +kernel
theorem dX7_logs_91 : decode cX7_logs 91 = .ok (.aload_n 0, 1) := by decide +kernel
theorem dX7_logs_92 : decode cX7_logs 92 = .ok (.dup, 1) := by decide +kernel
theorem dX7_logs_93 : decode cX7_logs 93 = .ok (.getfield 137, 3) := by decide +kernel
theorem dX7_logs_96 : decode cX7_logs 96 = .ok (.iconst 1, 1) := by decide +kernel
theorem dX7_logs_97 : decode cX7_logs 97 = .ok (.isub, 1) := by decide +kernel
theorem dX7_logs_98 : decode cX7_logs 98 = .ok (.putfield 137, 3) := by decide +kernel
theorem dX7_logs_101 : decode cX7_logs 101 = .ok (.aload_n 0, 1) := by decide +kernel
theorem dX7_logs_102 : decode cX7_logs 102 = .ok (.getfield 55, 3) := by decide +kernel
theorem dX7_logs_105 : decode cX7_logs 105 = .ok (.aload_n 0, 1) := by decide +kernel
theorem dX7_logs_106 : decode cX7_logs 106 = .ok (.getfield 137, 3) := by decide +kernel
theorem dX7_logs_109 : decode cX7_logs 109 = .ok (.iload_n 1, 1) := by decide +kernel
theorem dX7_logs_110 : decode cX7_logs 110 = .ok (.iastore, 1) := by decide +kernel
theorem dX7_logs_111 : decode cX7_logs 111 = .ok (.aload_n 0, 1) := by decide +kernel
theorem dX7_logs_112 : decode cX7_logs 112 = .ok (.getfield 58, 3) := by decide +kernel
theorem dX7_logs_115 : decode cX7_logs 115 = .ok (.aload_n 0, 1) := by decide +kernel
theorem dX7_logs_116 : decode cX7_logs 116 = .ok (.getfield 137, 3) := by decide +kernel
theorem dX7_logs_119 : decode cX7_logs 119 = .ok (.iload_n 2, 1) := by decide +kernel
theorem dX7_logs_120 : decode cX7_logs 120 = .ok (.iastore, 1) := by decide +kernel
theorem dX7_logs_121 : decode cX7_logs 121 = .ok (.aload_n 0, 1) := by decide +kernel
