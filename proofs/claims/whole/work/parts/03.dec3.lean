theorem dX7_logs_122 : decode cX7_logs 122 = .ok (.getfield 61, 3) := by decide +kernel
theorem dX7_logs_125 : decode cX7_logs 125 = .ok (.aload_n 0, 1) := by decide +kernel
theorem dX7_logs_126 : decode cX7_logs 126 = .ok (.getfield 137, 3) := by decide +kernel
theorem dX7_logs_129 : decode cX7_logs 129 = .ok (.iload_n 3, 1) := by decide +kernel
theorem dX7_logs_130 : decode cX7_logs 130 = .ok (.iastore, 1) := by decide +kernel
theorem dX7_logs_131 : decode cX7_logs 131 = .ok (.aload_n 0, 1) := by decide +kernel
theorem dX7_logs_132 : decode cX7_logs 132 = .ok (.getfield 64, 3) := by decide +kernel
theorem dX7_logs_135 : decode cX7_logs 135 = .ok (.aload_n 0, 1) := by decide +kernel
theorem dX7_logs_136 : decode cX7_logs 136 = .ok (.getfield 137, 3) := by decide +kernel
theorem dX7_logs_139 : decode cX7_logs 139 = .ok (.aload_n 0, 1) := by decide +kernel
theorem dX7_logs_140 : decode cX7_logs 140 = .ok (.getfield 115, 3) := by decide +kernel
theorem dX7_logs_143 : decode cX7_logs 143 = .ok (.iastore, 1) := by decide +kernel
theorem dX7_logs_144 : decode cX7_logs 144 = .ok (.aload_n 0, 1) := by decide +kernel
theorem dX7_logs_145 : decode cX7_logs 145 = .ok (.dup, 1) := by decide +kernel
theorem dX7_logs_146 : decode cX7_logs 146 = .ok (.getfield 137, 3) := by decide +kernel
theorem dX7_logs_149 : decode cX7_logs 149 = .ok (.iconst 1, 1) := by decide +kernel
theorem dX7_logs_150 : decode cX7_logs 150 = .ok (.iadd, 1) := by decide +kernel
theorem dX7_logs_151 : decode cX7_logs 151 = .ok (.putfield 137, 3) := by decide +kernel
theorem dX7_logs_154 : decode cX7_logs 154 = .ok (.return_, 1) := by decide +kernel
theorem dX7_log_0 : decode cX7_log 0 = .ok (.iload_n 1, 1) := by decide +kernel
theorem dX7_log_1 : decode cX7_log 1 = .ok (.iconst 0, 1) := by decide +kernel
theorem dX7_log_2 : decode cX7_log 2 = .ok (.aload_n 0, 1) := by decide +kernel
theorem dX7_log_3 : decode cX7_log 3 = .ok (.getfield 137, 3) := by decide +kernel
theorem dX7_log_6 : decode cX7_log 6 = .ok (.iconst 1, 1) := by decide +kernel
theorem dX7_log_7 : decode cX7_log 7 = .ok (.isub, 1) := by decide +kernel
theorem dX7_log_8 : decode cX7_log 8 = .ok (.invokestatic 76, 3) := by decide +kernel
theorem dX7_log_11 : decode cX7_log 11 = .ok (.ifCond .ne 5, 3) := by decide +kernel
theorem dX7_log_14 : decode cX7_log 14 = .ok (.iconst (-1), 1) := by decide +kernel
theorem dX7_log_15 : decode cX7_log 15 = .ok (.ireturn, 1) := by decide +kernel
theorem dX7_log_16 : decode cX7_log 16 = .ok (.aload_n 0, 1) := by decide +kernel
theorem dX7_log_17 : decode cX7_log 17 = .ok (.getfield 137, 3) := by decide +kernel
theorem dX7_log_20 : decode cX7_log 20 = .ok (.iconst 1, 1) := by decide +kernel
theorem dX7_log_21 : decode cX7_log 21 = .ok (.isub, 1) := by decide +kernel
theorem dX7_log_22 : decode cX7_log 22 = .ok (.iload_n 1, 1) := by decide +kernel
theorem dX7_log_23 : decode cX7_log 23 = .ok (.isub, 1) := by decide +kernel
theorem dX7_log_24 : decode cX7_log 24 = .ok (.istore_n 3, 1) := by decide +kernel
theorem dX7_log_25 : decode cX7_log 25 = .ok (.iload_n 2, 1) := by decide +kernel
theorem dX7_log_26 : decode cX7_log 26 = .ok (.ifCond .ne 12, 3) := by decide +kernel
theorem dX7_log_29 : decode cX7_log 29 = .ok (.aload_n 0, 1) := by decide +kernel
theorem dX7_log_30 : decode cX7_log 30 = .ok (.getfield 55, 3) := by decide +kernel
theorem dX7_log_33 : decode cX7_log 33 = .ok (.iload_n 3, 1) := by decide +kernel
theorem dX7_log_34 : decode cX7_log 34 = .ok (.iaload, 1) := by decide +kernel
theorem dX7_log_35 : decode cX7_log 35 = .ok (.goto 46, 3) := by decide +kernel
theorem dX7_log_38 : decode cX7_log 38 = .ok (.iload_n 2, 1) := by decide +kernel
theorem dX7_log_39 : decode cX7_log 39 = .ok (.iconst 1, 1) := by decide +kernel
theorem dX7_log_40 : decode cX7_log 40 = .ok (.if_icmp .ne 12, 3) := by decide +kernel
theorem dX7_log_43 : decode cX7_log 43 = .ok (.aload_n 0, 1) := by decide +kernel
theorem dX7_log_44 : decode cX7_log 44 = .ok (.getfield 58, 3) := by decide +kernel
theorem dX7_log_47 : decode cX7_log 47 = .ok (.iload_n 3, 1) := by decide +kernel
theorem dX7_log_48 : decode cX7_log 48 = .ok (.iaload, 1) := by decide +kernel
theorem dX7_log_49 : decode cX7_log 49 = .ok (.goto 32, 3) := by decide +kernel
theorem dX7_log_52 : decode cX7_log 52 = .ok (.iload_n 2, 1) := by decide +kernel
theorem dX7_log_53 : decode cX7_log 53 = .ok (.iconst 2, 1) := by decide +kernel
theorem dX7_log_54 : decode cX7_log 54 = .ok (.if_icmp .ne 12, 3) := by decide +kernel
theorem dX7_log_57 : decode cX7_log 57 = .ok (.aload_n 0, 1) := by decide +kernel
theorem dX7_log_58 : decode cX7_log 58 = .ok (.getfield 61, 3) := by decide +kernel
theorem dX7_log_61 : decode cX7_log 61 = .ok (.iload_n 3, 1) := by decide +kernel
theorem dX7_log_62 : decode cX7_log 62 = .ok (.iaload, 1) := by decide +kernel
theorem dX7_log_63 : decode cX7_log 63 = .ok (.goto 18, 3) := by decide +kernel
theorem dX7_log_66 : decode cX7_log 66 = .ok (.iload_n 2, 1) := by decide +kernel
theorem dX7_log_67 : decode cX7_log 67 = .ok (.iconst 3, 1) := by decide +kernel
theorem dX7_log_68 : decode cX7_log 68 = .ok (.if_icmp .ne 12, 3) := by decide +kernel
theorem dX7_log_71 : decode cX7_log 71 = .ok (.aload_n 0, 1) := by decide +kernel
theorem dX7_log_72 : decode cX7_log 72 = .ok (.getfield 64, 3) := by decide +kernel
theorem dX7_log_75 : decode cX7_log 75 = .ok (.iload_n 3, 1) := by decide +kernel
theorem dX7_log_76 : decode cX7_log 76 = .ok (.iaload, 1) := by decide +kernel
theorem dX7_log_77 : decode cX7_log 77 = .ok (.goto 4, 3) := by decide +kernel
theorem dX7_log_80 : decode cX7_log 80 = .ok (.iconst (-1), 1) := by decide +kernel
theorem dX7_log_81 : decode cX7_log 81 = .ok (.ireturn, 1) := by decide +kernel
theorem dX7_ends_0 : decode cX7_ends 0 = .ok (.aload_n 0, 1) := by decide +kernel
theorem dX7_ends_1 : decode cX7_ends 1 = .ok (.iconst 1, 1) := by decide +kernel
theorem dX7_ends_2 : decode cX7_ends 2 = .ok (.iload_n 1, 1) := by decide +kernel
theorem dX7_ends_3 : decode cX7_ends 3 = .ok (.ishl, 1) := by decide +kernel
theorem dX7_ends_4 : decode cX7_ends 4 = .ok (.putfield 140, 3) := by decide +kernel
theorem dX7_ends_7 : decode cX7_ends 7 = .ok (.iconst 0, 1) := by decide +kernel
theorem dX7_ends_8 : decode cX7_ends 8 = .ok (.istore_n 3, 1) := by decide +kernel
theorem dX7_ends_9 : decode cX7_ends 9 = .ok (.iload_n 3, 1) := by decide +kernel
theorem dX7_ends_10 : decode cX7_ends 10 = .ok (.bipush 6, 2) := by decide +kernel
theorem dX7_ends_12 : decode cX7_ends 12 = .ok (.if_icmp .ge 39, 3) := by decide +kernel
theorem dX7_ends_15 : decode cX7_ends 15 = .ok (.aload_n 0, 1) := by decide +kernel
theorem dX7_ends_16 : decode cX7_ends 16 = .ok (.iload_n 1, 1) := by decide +kernel
theorem dX7_ends_17 : decode cX7_ends 17 = .ok (.invokevirtual 91, 3) := by decide +kernel
theorem dX7_ends_20 : decode cX7_ends 20 = .ok (.iload_n 2, 1) := by decide +kernel
theorem dX7_ends_21 : decode cX7_ends 21 = .ok (.if_icmp .eq 24, 3) := by decide +kernel
theorem dX7_ends_24 : decode cX7_ends 24 = .ok (.aload_n 0, 1) := by decide +kernel
theorem dX7_ends_25 : decode cX7_ends 25 = .ok (.iload_n 3, 1) := by decide +kernel
theorem dX7_ends_26 : decode cX7_ends 26 = .ok (.iload_n 1, 1) := by decide +kernel
theorem dX7_ends_27 : decode cX7_ends 27 = .ok (.invokevirtual 95, 3) := by decide +kernel
theorem dX7_ends_30 : decode cX7_ends 30 = .ok (.ifCond .eq 15, 3) := by decide +kernel
theorem dX7_ends_33 : decode cX7_ends 33 = .ok (.aload_n 0, 1) := by decide +kernel
theorem dX7_ends_34 : decode cX7_ends 34 = .ok (.dup, 1) := by decide +kernel
theorem dX7_ends_35 : decode cX7_ends 35 = .ok (.getfield 140, 3) := by decide +kernel
theorem dX7_ends_38 : decode cX7_ends 38 = .ok (.iconst 1, 1) := by decide +kernel
theorem dX7_ends_39 : decode cX7_ends 39 = .ok (.iload_n 3, 1) := by decide +kernel
theorem dX7_ends_40 : decode cX7_ends 40 = .ok (.ishl, 1) := by decide +kernel
theorem dX7_ends_41 : decode cX7_ends 41 = .ok (.ior, 1) := by decide +kernel
theorem dX7_ends_42 : decode cX7_ends 42 = .ok (.putfield 140, 3) := by decide +kernel
theorem dX7_ends_45 : decode cX7_ends 45 = .ok (.iinc 3 1, 3) := by decide +kernel
theorem dX7_ends_48 : decode cX7_ends 48 = .ok (.goto (-39), 3) := by decide +kernel
theorem dX7_ends_51 : decode cX7_ends 51 = .ok (.aload_n 0, 1) := by decide +kernel
theorem dX7_ends_52 : decode cX7_ends 52 = .ok (.invokevirtual 143, 3) := by decide +kernel
theorem dX7_ends_55 : decode cX7_ends 55 = .ok (.return_, 1) := by decide +kernel
theorem dX7_isByte_0 : decode cX7_isByte 0 = .ok (.iload_n 0, 1) := by decide +kernel
theorem dX7_isByte_1 : decode cX7_isByte 1 = .ok (.iconst 0, 1) := by decide +kernel
theorem dX7_isByte_2 : decode cX7_isByte 2 = .ok (.sipush 255, 3) := by decide +kernel
theorem dX7_isByte_5 : decode cX7_isByte 5 = .ok (.invokestatic 76, 3) := by decide +kernel
theorem dX7_isByte_8 : decode cX7_isByte 8 = .ok (.ireturn, 1) := by decide +kernel
theorem dX7_put_0 : decode cX7_put 0 = .ok (.iload_n 1, 1) := by decide +kernel
theorem dX7_put_1 : decode cX7_put 1 = .ok (.invokestatic 80, 3) := by decide +kernel
theorem dX7_put_4 : decode cX7_put 4 = .ok (.ifCond .eq 35, 3) := by decide +kernel
theorem dX7_put_7 : decode cX7_put 7 = .ok (.iload_n 2, 1) := by decide +kernel
theorem dX7_put_8 : decode cX7_put 8 = .ok (.iconst 0, 1) := by decide +kernel
theorem dX7_put_9 : decode cX7_put 9 = .ok (.aload_n 0, 1) := by decide +kernel
theorem dX7_put_10 : decode cX7_put 10 = .ok (.getfield 7, 3) := by decide +kernel
theorem dX7_put_13 : decode cX7_put 13 = .ok (.iload_n 1, 1) := by decide +kernel
theorem dX7_put_14 : decode cX7_put 14 = .ok (.iaload, 1) := by decide +kernel
theorem dX7_put_15 : decode cX7_put 15 = .ok (.invokestatic 76, 3) := by decide +kernel
theorem dX7_put_18 : decode cX7_put 18 = .ok (.ifCond .eq 21, 3) := by decide +kernel
theorem dX7_put_21 : decode cX7_put 21 = .ok (.iload_n 3, 1) := by decide +kernel
theorem dX7_put_22 : decode cX7_put 22 = .ok (.invokestatic 146, 3) := by decide +kernel
theorem dX7_put_25 : decode cX7_put 25 = .ok (.ifCond .eq 14, 3) := by decide +kernel
theorem dX7_put_28 : decode cX7_put 28 = .ok (.aload_n 0, 1) := by decide +kernel
theorem dX7_put_29 : decode cX7_put 29 = .ok (.getfield 7, 3) := by decide +kernel
theorem dX7_put_32 : decode cX7_put 32 = .ok (.iload_n 1, 1) := by decide +kernel
theorem dX7_put_33 : decode cX7_put 33 = .ok (.iaload, 1) := by decide +kernel
theorem dX7_put_34 : decode cX7_put 34 = .ok (.bipush 32, 2) := by decide +kernel
theorem dX7_put_36 : decode cX7_put 36 = .ok (.if_icmp .ne 5, 3) := by decide +kernel
theorem dX7_put_39 : decode cX7_put 39 = .ok (.iconst (-1), 1) := by decide +kernel
theorem dX7_put_40 : decode cX7_put 40 = .ok (.ireturn, 1) := by decide +kernel
theorem dX7_put_41 : decode cX7_put 41 = .ok (.aload_n 0, 1) := by decide +kernel
theorem dX7_put_42 : decode cX7_put 42 = .ok (.invokevirtual 149, 3) := by decide +kernel
theorem dX7_put_45 : decode cX7_put 45 = .ok (.aload_n 0, 1) := by decide +kernel
theorem dX7_put_46 : decode cX7_put 46 = .ok (.iload_n 1, 1) := by decide +kernel
theorem dX7_put_47 : decode cX7_put 47 = .ok (.invokevirtual 91, 3) := by decide +kernel
theorem dX7_put_50 : decode cX7_put 50 = .ok (.istore 4, 2) := by decide +kernel
theorem dX7_put_52 : decode cX7_put 52 = .ok (.aload_n 0, 1) := by decide +kernel
theorem dX7_put_53 : decode cX7_put 53 = .ok (.getfield 7, 3) := by decide +kernel
theorem dX7_put_56 : decode cX7_put 56 = .ok (.iload_n 1, 1) := by decide +kernel
theorem dX7_put_57 : decode cX7_put 57 = .ok (.iaload, 1) := by decide +kernel
theorem dX7_put_58 : decode cX7_put 58 = .ok (.istore 5, 2) := by decide +kernel
theorem dX7_put_60 : decode cX7_put 60 = .ok (.iload 5, 2) := by decide +kernel
theorem dX7_put_62 : decode cX7_put 62 = .ok (.iload_n 2, 1) := by decide +kernel
theorem dX7_put_63 : decode cX7_put 63 = .ok (.if_icmp .le 61, 3) := by decide +kernel
theorem dX7_put_66 : decode cX7_put 66 = .ok (.aload_n 0, 1) := by decide +kernel
theorem dX7_put_67 : decode cX7_put 67 = .ok (.getfield 13, 3) := by decide +kernel
theorem dX7_put_70 : decode cX7_put 70 = .ok (.bipush 32, 2) := by decide +kernel
theorem dX7_put_72 : decode cX7_put 72 = .ok (.iload_n 1, 1) := by decide +kernel
theorem dX7_put_73 : decode cX7_put 73 = .ok (.imul, 1) := by decide +kernel
theorem dX7_put_74 : decode cX7_put 74 = .ok (.iload 5, 2) := by decide +kernel
theorem dX7_put_76 : decode cX7_put 76 = .ok (.iadd, 1) := by decide +kernel
theorem dX7_put_77 : decode cX7_put 77 = .ok (.aload_n 0, 1) := by decide +kernel
theorem dX7_put_78 : decode cX7_put 78 = .ok (.getfield 13, 3) := by decide +kernel
theorem dX7_put_81 : decode cX7_put 81 = .ok (.bipush 32, 2) := by decide +kernel
theorem dX7_put_83 : decode cX7_put 83 = .ok (.iload_n 1, 1) := by decide +kernel
theorem dX7_put_84 : decode cX7_put 84 = .ok (.imul, 1) := by decide +kernel
theorem dX7_put_85 : decode cX7_put 85 = .ok (.iload 5, 2) := by decide +kernel
theorem dX7_put_87 : decode cX7_put 87 = .ok (.iadd, 1) := by decide +kernel
theorem dX7_put_88 : decode cX7_put 88 = .ok (.iconst 1, 1) := by decide +kernel
theorem dX7_put_89 : decode cX7_put 89 = .ok (.isub, 1) := by decide +kernel
theorem dX7_put_90 : decode cX7_put 90 = .ok (.iaload, 1) := by decide +kernel
theorem dX7_put_91 : decode cX7_put 91 = .ok (.iastore, 1) := by decide +kernel
theorem dX7_put_92 : decode cX7_put 92 = .ok (.aload_n 0, 1) := by decide +kernel
theorem dX7_put_93 : decode cX7_put 93 = .ok (.getfield 16, 3) := by decide +kernel
theorem dX7_put_96 : decode cX7_put 96 = .ok (.bipush 32, 2) := by decide +kernel
theorem dX7_put_98 : decode cX7_put 98 = .ok (.iload_n 1, 1) := by decide +kernel
theorem dX7_put_99 : decode cX7_put 99 = .ok (.imul, 1) := by decide +kernel
theorem dX7_put_100 : decode cX7_put 100 = .ok (.iload 5, 2) := by decide +kernel
theorem dX7_put_102 : decode cX7_put 102 = .ok (.iadd, 1) := by decide +kernel
theorem dX7_put_103 : decode cX7_put 103 = .ok (.aload_n 0, 1) := by decide +kernel
theorem dX7_put_104 : decode cX7_put 104 = .ok (.getfield 16, 3) := by decide +kernel
theorem dX7_put_107 : decode cX7_put 107 = .ok (.bipush 32, 2) := by decide +kernel
theorem dX7_put_109 : decode cX7_put 109 = .ok (.iload_n 1, 1) := by decide +kernel
theorem dX7_put_110 : decode cX7_put 110 = .ok (.imul, 1) := by decide +kernel
theorem dX7_put_111 : decode cX7_put 111 = .ok (.iload 5, 2) := by decide +kernel
theorem dX7_put_113 : decode cX7_put 113 = .ok (.iadd, 1) := by decide +kernel
theorem dX7_put_114 : decode cX7_put 114 = .ok (.iconst 1, 1) := by decide +kernel
theorem dX7_put_115 : decode cX7_put 115 = .ok (.isub, 1) := by decide +kernel
theorem dX7_put_116 : decode cX7_put 116 = .ok (.iaload, 1) := by decide +kernel
theorem dX7_put_117 : decode cX7_put 117 = .ok (.iastore, 1) := by decide +kernel
theorem dX7_put_118 : decode cX7_put 118 = .ok (.iinc 5 (-1), 3) := by decide +kernel
theorem dX7_put_121 : decode cX7_put 121 = .ok (.goto (-61), 3) := by decide +kernel
theorem dX7_put_124 : decode cX7_put 124 = .ok (.aload_n 0, 1) := by decide +kernel
theorem dX7_put_125 : decode cX7_put 125 = .ok (.getfield 13, 3) := by decide +kernel
theorem dX7_put_128 : decode cX7_put 128 = .ok (.bipush 32, 2) := by decide +kernel
theorem dX7_put_130 : decode cX7_put 130 = .ok (.iload_n 1, 1) := by decide +kernel
theorem dX7_put_131 : decode cX7_put 131 = .ok (.imul, 1) := by decide +kernel
theorem dX7_put_132 : decode cX7_put 132 = .ok (.iload_n 2, 1) := by decide +kernel
theorem dX7_put_133 : decode cX7_put 133 = .ok (.iadd, 1) := by decide +kernel
theorem dX7_put_134 : decode cX7_put 134 = .ok (.iload_n 3, 1) := by decide +kernel
theorem dX7_put_135 : decode cX7_put 135 = .ok (.iastore, 1) := by decide +kernel
theorem dX7_put_136 : decode cX7_put 136 = .ok (.aload_n 0, 1) := by decide +kernel
theorem dX7_put_137 : decode cX7_put 137 = .ok (.getfield 16, 3) := by decide +kernel
theorem dX7_put_140 : decode cX7_put 140 = .ok (.bipush 32, 2) := by decide +kernel
theorem dX7_put_142 : decode cX7_put 142 = .ok (.iload_n 1, 1) := by decide +kernel
theorem dX7_put_143 : decode cX7_put 143 = .ok (.imul, 1) := by decide +kernel
theorem dX7_put_144 : decode cX7_put 144 = .ok (.iload_n 2, 1) := by decide +kernel
theorem dX7_put_145 : decode cX7_put 145 = .ok (.iadd, 1) := by decide +kernel
theorem dX7_put_146 : decode cX7_put 146 = .ok (.aload_n 0, 1) := by decide +kernel
theorem dX7_put_147 : decode cX7_put 147 = .ok (.getfield 152, 3) := by decide +kernel
theorem dX7_put_150 : decode cX7_put 150 = .ok (.iastore, 1) := by decide +kernel
theorem dX7_put_151 : decode cX7_put 151 = .ok (.aload_n 0, 1) := by decide +kernel
theorem dX7_put_152 : decode cX7_put 152 = .ok (.dup, 1) := by decide +kernel
theorem dX7_put_153 : decode cX7_put 153 = .ok (.getfield 152, 3) := by decide +kernel
theorem dX7_put_156 : decode cX7_put 156 = .ok (.iconst 1, 1) := by decide +kernel
theorem dX7_put_157 : decode cX7_put 157 = .ok (.iadd, 1) := by decide +kernel
theorem dX7_put_158 : decode cX7_put 158 = .ok (.putfield 152, 3) := by decide +kernel
theorem dX7_put_161 : decode cX7_put 161 = .ok (.aload_n 0, 1) := by decide +kernel
theorem dX7_put_162 : decode cX7_put 162 = .ok (.getfield 7, 3) := by decide +kernel
theorem dX7_put_165 : decode cX7_put 165 = .ok (.iload_n 1, 1) := by decide +kernel
theorem dX7_put_166 : decode cX7_put 166 = .ok (.dup2, 1) := by decide +kernel
theorem dX7_put_167 : decode cX7_put 167 = .ok (.iaload, 1) := by decide +kernel
theorem dX7_put_168 : decode cX7_put 168 = .ok (.iconst 1, 1) := by decide +kernel
theorem dX7_put_169 : decode cX7_put 169 = .ok (.iadd, 1) := by decide +kernel
theorem dX7_put_170 : decode cX7_put 170 = .ok (.iastore, 1) := by decide +kernel
theorem dX7_put_171 : decode cX7_put 171 = .ok (.aload_n 0, 1) := by decide +kernel
theorem dX7_put_172 : decode cX7_put 172 = .ok (.iload_n 1, 1) := by decide +kernel
theorem dX7_put_173 : decode cX7_put 173 = .ok (.iload 4, 2) := by decide +kernel
theorem dX7_put_175 : decode cX7_put 175 = .ok (.invokevirtual 155, 3) := by decide +kernel
theorem dX7_put_178 : decode cX7_put 178 = .ok (.aload_n 0, 1) := by decide +kernel
theorem dX7_put_179 : decode cX7_put 179 = .ok (.getfield 152, 3) := by decide +kernel
theorem dX7_put_182 : decode cX7_put 182 = .ok (.iconst 1, 1) := by decide +kernel
theorem dX7_put_183 : decode cX7_put 183 = .ok (.isub, 1) := by decide +kernel
theorem dX7_put_184 : decode cX7_put 184 = .ok (.ireturn, 1) := by decide +kernel
theorem dX7_cut_0 : decode cX7_cut 0 = .ok (.aload_n 0, 1) := by decide +kernel
theorem dX7_cut_1 : decode cX7_cut 1 = .ok (.iload_n 1, 1) := by decide +kernel
theorem dX7_cut_2 : decode cX7_cut 2 = .ok (.iload_n 2, 1) := by decide +kernel
theorem dX7_cut_3 : decode cX7_cut 3 = .ok (.invokevirtual 159, 3) := by decide +kernel
theorem dX7_cut_6 : decode cX7_cut 6 = .ok (.ifCond .ne 5, 3) := by decide +kernel
theorem dX7_cut_9 : decode cX7_cut 9 = .ok (.iconst 0, 1) := by decide +kernel
theorem dX7_cut_10 : decode cX7_cut 10 = .ok (.ireturn, 1) := by decide +kernel
theorem dX7_cut_11 : decode cX7_cut 11 = .ok (.aload_n 0, 1) := by decide +kernel
theorem dX7_cut_12 : decode cX7_cut 12 = .ok (.invokevirtual 149, 3) := by decide +kernel
theorem dX7_cut_15 : decode cX7_cut 15 = .ok (.aload_n 0, 1) := by decide +kernel
theorem dX7_cut_16 : decode cX7_cut 16 = .ok (.iload_n 1, 1) := by decide +kernel
theorem dX7_cut_17 : decode cX7_cut 17 = .ok (.invokevirtual 91, 3) := by decide +kernel
theorem dX7_cut_20 : decode cX7_cut 20 = .ok (.istore_n 3, 1) := by decide +kernel
theorem dX7_cut_21 : decode cX7_cut 21 = .ok (.aload_n 0, 1) := by decide +kernel
theorem dX7_cut_22 : decode cX7_cut 22 = .ok (.getfield 7, 3) := by decide +kernel
theorem dX7_cut_25 : decode cX7_cut 25 = .ok (.iload_n 1, 1) := by decide +kernel
theorem dX7_cut_26 : decode cX7_cut 26 = .ok (.dup2, 1) := by decide +kernel
theorem dX7_cut_27 : decode cX7_cut 27 = .ok (.iaload, 1) := by decide +kernel
theorem dX7_cut_28 : decode cX7_cut 28 = .ok (.iconst 1, 1) := by decide +kernel
theorem dX7_cut_29 : decode cX7_cut 29 = .ok (.isub, 1) := by decide +kernel
theorem dX7_cut_30 : decode cX7_cut 30 = .ok (.iastore, 1) := by decide +kernel
theorem dX7_cut_31 : decode cX7_cut 31 = .ok (.iload_n 2, 1) := by decide +kernel
theorem dX7_cut_32 : decode cX7_cut 32 = .ok (.istore 4, 2) := by decide +kernel
theorem dX7_cut_34 : decode cX7_cut 34 = .ok (.iload 4, 2) := by decide +kernel
theorem dX7_cut_36 : decode cX7_cut 36 = .ok (.aload_n 0, 1) := by decide +kernel
theorem dX7_cut_37 : decode cX7_cut 37 = .ok (.getfield 7, 3) := by decide +kernel
theorem dX7_cut_40 : decode cX7_cut 40 = .ok (.iload_n 1, 1) := by decide +kernel
theorem dX7_cut_41 : decode cX7_cut 41 = .ok (.iaload, 1) := by decide +kernel
theorem dX7_cut_42 : decode cX7_cut 42 = .ok (.if_icmp .ge 61, 3) := by decide +kernel
theorem dX7_cut_45 : decode cX7_cut 45 = .ok (.aload_n 0, 1) := by decide +kernel
theorem dX7_cut_46 : decode cX7_cut 46 = .ok (.getfield 13, 3) := by decide +kernel
theorem dX7_cut_49 : decode cX7_cut 49 = .ok (.bipush 32, 2) := by decide +kernel
theorem dX7_cut_51 : decode cX7_cut 51 = .ok (.iload_n 1, 1) := by decide +kernel
theorem dX7_cut_52 : decode cX7_cut 52 = .ok (.imul, 1) := by decide +kernel
theorem dX7_cut_53 : decode cX7_cut 53 = .ok (.iload 4, 2) := by decide +kernel
theorem dX7_cut_55 : decode cX7_cut 55 = .ok (.iadd, 1) := by decide +kernel
theorem dX7_cut_56 : decode cX7_cut 56 = .ok (.aload_n 0, 1) := by decide +kernel
theorem dX7_cut_57 : decode cX7_cut 57 = .ok (.getfield 13, 3) := by decide +kernel
theorem dX7_cut_60 : decode cX7_cut 60 = .ok (.bipush 32, 2) := by decide +kernel
theorem dX7_cut_62 : decode cX7_cut 62 = .ok (.iload_n 1, 1) := by decide +kernel
theorem dX7_cut_63 : decode cX7_cut 63 = .ok (.imul, 1) := by decide +kernel
theorem dX7_cut_64 : decode cX7_cut 64 = .ok (.iload 4, 2) := by decide +kernel
theorem dX7_cut_66 : decode cX7_cut 66 = .ok (.iadd, 1) := by decide +kernel
theorem dX7_cut_67 : decode cX7_cut 67 = .ok (.iconst 1, 1) := by decide +kernel
theorem dX7_cut_68 : decode cX7_cut 68 = .ok (.iadd, 1) := by decide +kernel
theorem dX7_cut_69 : decode cX7_cut 69 = .ok (.iaload, 1) := by decide +kernel
theorem dX7_cut_70 : decode cX7_cut 70 = .ok (.iastore, 1) := by decide +kernel
theorem dX7_cut_71 : decode cX7_cut 71 = .ok (.aload_n 0, 1) := by decide +kernel
theorem dX7_cut_72 : decode cX7_cut 72 = .ok (.getfield 16, 3) := by decide +kernel
theorem dX7_cut_75 : decode cX7_cut 75 = .ok (.bipush 32, 2) := by decide +kernel
theorem dX7_cut_77 : decode cX7_cut 77 = .ok (.iload_n 1, 1) := by decide +kernel
theorem dX7_cut_78 : decode cX7_cut 78 = .ok (.imul, 1) := by decide +kernel
theorem dX7_cut_79 : decode cX7_cut 79 = .ok (.iload 4, 2) := by decide +kernel
theorem dX7_cut_81 : decode cX7_cut 81 = .ok (.iadd, 1) := by decide +kernel
theorem dX7_cut_82 : decode cX7_cut 82 = .ok (.aload_n 0, 1) := by decide +kernel
theorem dX7_cut_83 : decode cX7_cut 83 = .ok (.getfield 16, 3) := by decide +kernel
theorem dX7_cut_86 : decode cX7_cut 86 = .ok (.bipush 32, 2) := by decide +kernel
theorem dX7_cut_88 : decode cX7_cut 88 = .ok (.iload_n 1, 1) := by decide +kernel
theorem dX7_cut_89 : decode cX7_cut 89 = .ok (.imul, 1) := by decide +kernel
theorem dX7_cut_90 : decode cX7_cut 90 = .ok (.iload 4, 2) := by decide +kernel
theorem dX7_cut_92 : decode cX7_cut 92 = .ok (.iadd, 1) := by decide +kernel
theorem dX7_cut_93 : decode cX7_cut 93 = .ok (.iconst 1, 1) := by decide +kernel
theorem dX7_cut_94 : decode cX7_cut 94 = .ok (.iadd, 1) := by decide +kernel
theorem dX7_cut_95 : decode cX7_cut 95 = .ok (.iaload, 1) := by decide +kernel
theorem dX7_cut_96 : decode cX7_cut 96 = .ok (.iastore, 1) := by decide +kernel
theorem dX7_cut_97 : decode cX7_cut 97 = .ok (.iinc 4 1, 3) := by decide +kernel
theorem dX7_cut_100 : decode cX7_cut 100 = .ok (.goto (-66), 3) := by decide +kernel
theorem dX7_cut_103 : decode cX7_cut 103 = .ok (.aload_n 0, 1) := by decide +kernel
theorem dX7_cut_104 : decode cX7_cut 104 = .ok (.iload_n 1, 1) := by decide +kernel
theorem dX7_cut_105 : decode cX7_cut 105 = .ok (.iload_n 3, 1) := by decide +kernel
theorem dX7_cut_106 : decode cX7_cut 106 = .ok (.invokevirtual 155, 3) := by decide +kernel
theorem dX7_cut_109 : decode cX7_cut 109 = .ok (.iconst 1, 1) := by decide +kernel
theorem dX7_cut_110 : decode cX7_cut 110 = .ok (.ireturn, 1) := by decide +kernel
theorem dX7_change_0 : decode cX7_change 0 = .ok (.aload_n 0, 1) := by decide +kernel
theorem dX7_change_1 : decode cX7_change 1 = .ok (.iload_n 1, 1) := by decide +kernel
theorem dX7_change_2 : decode cX7_change 2 = .ok (.iload_n 2, 1) := by decide +kernel
theorem dX7_change_3 : decode cX7_change 3 = .ok (.invokevirtual 159, 3) := by decide +kernel
theorem dX7_change_6 : decode cX7_change 6 = .ok (.ifCond .eq 25, 3) := by decide +kernel
theorem dX7_change_9 : decode cX7_change 9 = .ok (.iload_n 3, 1) := by decide +kernel
theorem dX7_change_10 : decode cX7_change 10 = .ok (.invokestatic 146, 3) := by decide +kernel
theorem dX7_change_13 : decode cX7_change 13 = .ok (.ifCond .eq 18, 3) := by decide +kernel
theorem dX7_change_16 : decode cX7_change 16 = .ok (.aload_n 0, 1) := by decide +kernel
theorem dX7_change_17 : decode cX7_change 17 = .ok (.getfield 13, 3) := by decide +kernel
theorem dX7_change_20 : decode cX7_change 20 = .ok (.bipush 32, 2) := by decide +kernel
theorem dX7_change_22 : decode cX7_change 22 = .ok (.iload_n 1, 1) := by decide +kernel
theorem dX7_change_23 : decode cX7_change 23 = .ok (.imul, 1) := by decide +kernel
theorem dX7_change_24 : decode cX7_change 24 = .ok (.iload_n 2, 1) := by decide +kernel
theorem dX7_change_25 : decode cX7_change 25 = .ok (.iadd, 1) := by decide +kernel
theorem dX7_change_26 : decode cX7_change 26 = .ok (.iaload, 1) := by decide +kernel
theorem dX7_change_27 : decode cX7_change 27 = .ok (.iload_n 3, 1) := by decide +kernel
theorem dX7_change_28 : decode cX7_change 28 = .ok (.if_icmp .ne 5, 3) := by decide +kernel
theorem dX7_change_31 : decode cX7_change 31 = .ok (.iconst 0, 1) := by decide +kernel
theorem dX7_change_32 : decode cX7_change 32 = .ok (.ireturn, 1) := by decide +kernel
theorem dX7_change_33 : decode cX7_change 33 = .ok (.aload_n 0, 1) := by decide +kernel
theorem dX7_change_34 : decode cX7_change 34 = .ok (.invokevirtual 149, 3) := by decide +kernel
theorem dX7_change_37 : decode cX7_change 37 = .ok (.aload_n 0, 1) := by decide +kernel
theorem dX7_change_38 : decode cX7_change 38 = .ok (.iload_n 1, 1) := by decide +kernel
theorem dX7_change_39 : decode cX7_change 39 = .ok (.invokevirtual 91, 3) := by decide +kernel
theorem dX7_change_42 : decode cX7_change 42 = .ok (.istore 4, 2) := by decide +kernel
theorem dX7_change_44 : decode cX7_change 44 = .ok (.aload_n 0, 1) := by decide +kernel
theorem dX7_change_45 : decode cX7_change 45 = .ok (.getfield 13, 3) := by decide +kernel
theorem dX7_change_48 : decode cX7_change 48 = .ok (.bipush 32, 2) := by decide +kernel
theorem dX7_change_50 : decode cX7_change 50 = .ok (.iload_n 1, 1) := by decide +kernel
theorem dX7_change_51 : decode cX7_change 51 = .ok (.imul, 1) := by decide +kernel
theorem dX7_change_52 : decode cX7_change 52 = .ok (.iload_n 2, 1) := by decide +kernel
theorem dX7_change_53 : decode cX7_change 53 = .ok (.iadd, 1) := by decide +kernel
theorem dX7_change_54 : decode cX7_change 54 = .ok (.iload_n 3, 1) := by decide +kernel
theorem dX7_change_55 : decode cX7_change 55 = .ok (.iastore, 1) := by decide +kernel
theorem dX7_change_56 : decode cX7_change 56 = .ok (.aload_n 0, 1) := by decide +kernel
theorem dX7_change_57 : decode cX7_change 57 = .ok (.iload_n 1, 1) := by decide +kernel
theorem dX7_change_58 : decode cX7_change 58 = .ok (.iload 4, 2) := by decide +kernel
theorem dX7_change_60 : decode cX7_change 60 = .ok (.invokevirtual 155, 3) := by decide +kernel
theorem dX7_change_63 : decode cX7_change 63 = .ok (.iconst 1, 1) := by decide +kernel
theorem dX7_change_64 : decode cX7_change 64 = .ok (.ireturn, 1) := by decide +kernel
theorem dX7_bad_0 : decode cX7_bad 0 = .ok (.iload_n 1, 1) := by decide +kernel
theorem dX7_bad_1 : decode cX7_bad 1 = .ok (.aload_n 0, 1) := by decide +kernel
theorem dX7_bad_2 : decode cX7_bad 2 = .ok (.getfield 99, 3) := by decide +kernel
theorem dX7_bad_5 : decode cX7_bad 5 = .ok (.if_icmp .ne 5, 3) := by decide +kernel
theorem dX7_bad_8 : decode cX7_bad 8 = .ok (.iconst 0, 1) := by decide +kernel
theorem dX7_bad_9 : decode cX7_bad 9 = .ok (.ireturn, 1) := by decide +kernel
theorem dX7_bad_10 : decode cX7_bad 10 = .ok (.aload_n 0, 1) := by decide +kernel
theorem dX7_bad_11 : decode cX7_bad 11 = .ok (.invokevirtual 149, 3) := by decide +kernel
theorem dX7_bad_14 : decode cX7_bad 14 = .ok (.iload_n 1, 1) := by decide +kernel
theorem dX7_bad_15 : decode cX7_bad 15 = .ok (.aload_n 0, 1) := by decide +kernel
theorem dX7_bad_16 : decode cX7_bad 16 = .ok (.getfield 99, 3) := by decide +kernel
theorem dX7_bad_19 : decode cX7_bad 19 = .ok (.ixor, 1) := by decide +kernel
theorem dX7_bad_20 : decode cX7_bad 20 = .ok (.istore_n 2, 1) := by decide +kernel
theorem dX7_bad_21 : decode cX7_bad 21 = .ok (.aload_n 0, 1) := by decide +kernel
theorem dX7_bad_22 : decode cX7_bad 22 = .ok (.iload_n 1, 1) := by decide +kernel
theorem dX7_bad_23 : decode cX7_bad 23 = .ok (.putfield 99, 3) := by decide +kernel
theorem dX7_bad_26 : decode cX7_bad 26 = .ok (.aload_n 0, 1) := by decide +kernel
theorem dX7_bad_27 : decode cX7_bad 27 = .ok (.iconst 0, 1) := by decide +kernel
theorem dX7_bad_28 : decode cX7_bad 28 = .ok (.putfield 140, 3) := by decide +kernel
theorem dX7_bad_31 : decode cX7_bad 31 = .ok (.iconst 0, 1) := by decide +kernel
theorem dX7_bad_32 : decode cX7_bad 32 = .ok (.istore_n 3, 1) := by decide +kernel
theorem dX7_bad_33 : decode cX7_bad 33 = .ok (.iload_n 3, 1) := by decide +kernel
theorem dX7_bad_34 : decode cX7_bad 34 = .ok (.bipush 6, 2) := by decide +kernel
theorem dX7_bad_36 : decode cX7_bad 36 = .ok (.if_icmp .ge 66, 3) := by decide +kernel
theorem dX7_bad_39 : decode cX7_bad 39 = .ok (.iconst 0, 1) := by decide +kernel
theorem dX7_bad_40 : decode cX7_bad 40 = .ok (.istore 4, 2) := by decide +kernel
theorem dX7_bad_42 : decode cX7_bad 42 = .ok (.iload 4, 2) := by decide +kernel
theorem dX7_bad_44 : decode cX7_bad 44 = .ok (.aload_n 0, 1) := by decide +kernel
theorem dX7_bad_45 : decode cX7_bad 45 = .ok (.getfield 7, 3) := by decide +kernel
theorem dX7_bad_48 : decode cX7_bad 48 = .ok (.iload_n 3, 1) := by decide +kernel
theorem dX7_bad_49 : decode cX7_bad 49 = .ok (.iaload, 1) := by decide +kernel
theorem dX7_bad_50 : decode cX7_bad 50 = .ok (.if_icmp .ge 46, 3) := by decide +kernel
theorem dX7_bad_53 : decode cX7_bad 53 = .ok (.aload_n 0, 1) := by decide +kernel
theorem dX7_bad_54 : decode cX7_bad 54 = .ok (.iload_n 3, 1) := by decide +kernel
theorem dX7_bad_55 : decode cX7_bad 55 = .ok (.iload 4, 2) := by decide +kernel
theorem dX7_bad_57 : decode cX7_bad 57 = .ok (.invokevirtual 84, 3) := by decide +kernel
theorem dX7_bad_60 : decode cX7_bad 60 = .ok (.ifCond .ne 30, 3) := by decide +kernel
theorem dX7_bad_63 : decode cX7_bad 63 = .ok (.iload_n 2, 1) := by decide +kernel
theorem dX7_bad_64 : decode cX7_bad 64 = .ok (.aload_n 0, 1) := by decide +kernel
theorem dX7_bad_65 : decode cX7_bad 65 = .ok (.iload_n 3, 1) := by decide +kernel
theorem dX7_bad_66 : decode cX7_bad 66 = .ok (.iload 4, 2) := by decide +kernel
theorem dX7_bad_68 : decode cX7_bad 68 = .ok (.invokevirtual 88, 3) := by decide +kernel
theorem dX7_bad_71 : decode cX7_bad 71 = .ok (.ishr, 1) := by decide +kernel
theorem dX7_bad_72 : decode cX7_bad 72 = .ok (.iconst 1, 1) := by decide +kernel
theorem dX7_bad_73 : decode cX7_bad 73 = .ok (.iand, 1) := by decide +kernel
theorem dX7_bad_74 : decode cX7_bad 74 = .ok (.iconst 1, 1) := by decide +kernel
theorem dX7_bad_75 : decode cX7_bad 75 = .ok (.if_icmp .ne 15, 3) := by decide +kernel
theorem dX7_bad_78 : decode cX7_bad 78 = .ok (.aload_n 0, 1) := by decide +kernel
theorem dX7_bad_79 : decode cX7_bad 79 = .ok (.dup, 1) := by decide +kernel
theorem dX7_bad_80 : decode cX7_bad 80 = .ok (.getfield 140, 3) := by decide +kernel
theorem dX7_bad_83 : decode cX7_bad 83 = .ok (.iconst 1, 1) := by decide +kernel
theorem dX7_bad_84 : decode cX7_bad 84 = .ok (.iload_n 3, 1) := by decide +kernel
theorem dX7_bad_85 : decode cX7_bad 85 = .ok (.ishl, 1) := by decide +kernel
theorem dX7_bad_86 : decode cX7_bad 86 = .ok (.ior, 1) := by decide +kernel
theorem dX7_bad_87 : decode cX7_bad 87 = .ok (.putfield 140, 3) := by decide +kernel
theorem dX7_bad_90 : decode cX7_bad 90 = .ok (.iinc 4 1, 3) := by decide +kernel
theorem dX7_bad_93 : decode cX7_bad 93 = .ok (.goto (-51), 3) := by decide +kernel
theorem dX7_bad_96 : decode cX7_bad 96 = .ok (.iinc 3 1, 3) := by decide +kernel
theorem dX7_bad_99 : decode cX7_bad 99 = .ok (.goto (-66), 3) := by decide +kernel
theorem dX7_bad_102 : decode cX7_bad 102 = .ok (.aload_n 0, 1) := by decide +kernel
theorem dX7_bad_103 : decode cX7_bad 103 = .ok (.invokevirtual 143, 3) := by decide +kernel
theorem dX7_bad_106 : decode cX7_bad 106 = .ok (.iconst 1, 1) := by decide +kernel
theorem dX7_bad_107 : decode cX7_bad 107 = .ok (.ireturn, 1) := by decide +kernel
theorem dX7_feed_0 : decode cX7_feed 0 = .ok (.aload_n 0, 1) := by decide +kernel
theorem dX7_feed_1 : decode cX7_feed 1 = .ok (.getfield 162, 3) := by decide +kernel
theorem dX7_feed_4 : decode cX7_feed 4 = .ok (.bipush 20, 2) := by decide +kernel
theorem dX7_feed_6 : decode cX7_feed 6 = .ok (.iadd, 1) := by decide +kernel
theorem dX7_feed_7 : decode cX7_feed 7 = .ok (.bipush 40, 2) := by decide +kernel
theorem dX7_feed_9 : decode cX7_feed 9 = .ok (.if_icmp .le 5, 3) := by decide +kernel
theorem dX7_feed_12 : decode cX7_feed 12 = .ok (.iconst (-1), 1) := by decide +kernel
theorem dX7_feed_13 : decode cX7_feed 13 = .ok (.ireturn, 1) := by decide +kernel
theorem dX7_feed_14 : decode cX7_feed 14 = .ok (.iconst 0, 1) := by decide +kernel
theorem dX7_feed_15 : decode cX7_feed 15 = .ok (.istore 6, 2) := by decide +kernel
theorem dX7_feed_17 : decode cX7_feed 17 = .ok (.iload 6, 2) := by decide +kernel
theorem dX7_feed_19 : decode cX7_feed 19 = .ok (.bipush 20, 2) := by decide +kernel
theorem dX7_feed_21 : decode cX7_feed 21 = .ok (.if_icmp .ge 93, 3) := by decide +kernel
theorem dX7_feed_24 : decode cX7_feed 24 = .ok (.iload 6, 2) := by decide +kernel
theorem dX7_feed_26 : decode cX7_feed 26 = .ok (.iconst 4, 1) := by decide +kernel
theorem dX7_feed_27 : decode cX7_feed 27 = .ok (.if_icmp .ge 7, 3) := by decide +kernel
theorem dX7_feed_30 : decode cX7_feed 30 = .ok (.iload_n 1, 1) := by decide +kernel
theorem dX7_feed_31 : decode cX7_feed 31 = .ok (.goto 39, 3) := by decide +kernel
theorem dX7_feed_34 : decode cX7_feed 34 = .ok (.iload 6, 2) := by decide +kernel
theorem dX7_feed_36 : decode cX7_feed 36 = .ok (.bipush 8, 2) := by decide +kernel
theorem dX7_feed_38 : decode cX7_feed 38 = .ok (.if_icmp .ge 7, 3) := by decide +kernel
theorem dX7_feed_41 : decode cX7_feed 41 = .ok (.iload_n 2, 1) := by decide +kernel
theorem dX7_feed_42 : decode cX7_feed 42 = .ok (.goto 28, 3) := by decide +kernel
theorem dX7_feed_45 : decode cX7_feed 45 = .ok (.iload 6, 2) := by decide +kernel
theorem dX7_feed_47 : decode cX7_feed 47 = .ok (.bipush 12, 2) := by decide +kernel
theorem dX7_feed_49 : decode cX7_feed 49 = .ok (.if_icmp .ge 7, 3) := by decide +kernel
theorem dX7_feed_52 : decode cX7_feed 52 = .ok (.iload_n 3, 1) := by decide +kernel
theorem dX7_feed_53 : decode cX7_feed 53 = .ok (.goto 17, 3) := by decide +kernel
theorem dX7_feed_56 : decode cX7_feed 56 = .ok (.iload 6, 2) := by decide +kernel
theorem dX7_feed_58 : decode cX7_feed 58 = .ok (.bipush 16, 2) := by decide +kernel
theorem dX7_feed_60 : decode cX7_feed 60 = .ok (.if_icmp .ge 8, 3) := by decide +kernel
theorem dX7_feed_63 : decode cX7_feed 63 = .ok (.iload 4, 2) := by decide +kernel
theorem dX7_feed_65 : decode cX7_feed 65 = .ok (.goto 5, 3) := by decide +kernel
theorem dX7_feed_68 : decode cX7_feed 68 = .ok (.iload 5, 2) := by decide +kernel
theorem dX7_feed_70 : decode cX7_feed 70 = .ok (.istore 7, 2) := by decide +kernel
theorem dX7_feed_72 : decode cX7_feed 72 = .ok (.aload_n 0, 1) := by decide +kernel
theorem dX7_feed_73 : decode cX7_feed 73 = .ok (.getfield 67, 3) := by decide +kernel
theorem dX7_feed_76 : decode cX7_feed 76 = .ok (.aload_n 0, 1) := by decide +kernel
theorem dX7_feed_77 : decode cX7_feed 77 = .ok (.getfield 162, 3) := by decide +kernel
theorem dX7_feed_80 : decode cX7_feed 80 = .ok (.iload 7, 2) := by decide +kernel
theorem dX7_feed_82 : decode cX7_feed 82 = .ok (.bipush 24, 2) := by decide +kernel
theorem dX7_feed_84 : decode cX7_feed 84 = .ok (.bipush 8, 2) := by decide +kernel
theorem dX7_feed_86 : decode cX7_feed 86 = .ok (.iload 6, 2) := by decide +kernel
theorem dX7_feed_88 : decode cX7_feed 88 = .ok (.iconst 4, 1) := by decide +kernel
theorem dX7_feed_89 : decode cX7_feed 89 = .ok (.irem, 1) := by decide +kernel
theorem dX7_feed_90 : decode cX7_feed 90 = .ok (.imul, 1) := by decide +kernel
theorem dX7_feed_91 : decode cX7_feed 91 = .ok (.isub, 1) := by decide +kernel
theorem dX7_feed_92 : decode cX7_feed 92 = .ok (.ishr, 1) := by decide +kernel
theorem dX7_feed_93 : decode cX7_feed 93 = .ok (.sipush 255, 3) := by decide +kernel
theorem dX7_feed_96 : decode cX7_feed 96 = .ok (.iand, 1) := by decide +kernel
theorem dX7_feed_97 : decode cX7_feed 97 = .ok (.iastore, 1) := by decide +kernel
theorem dX7_feed_98 : decode cX7_feed 98 = .ok (.aload_n 0, 1) := by decide +kernel
theorem dX7_feed_99 : decode cX7_feed 99 = .ok (.dup, 1) := by decide +kernel
theorem dX7_feed_100 : decode cX7_feed 100 = .ok (.getfield 162, 3) := by decide +kernel
theorem dX7_feed_103 : decode cX7_feed 103 = .ok (.iconst 1, 1) := by decide +kernel
theorem dX7_feed_104 : decode cX7_feed 104 = .ok (.iadd, 1) := by decide +kernel
theorem dX7_feed_105 : decode cX7_feed 105 = .ok (.putfield 162, 3) := by decide +kernel
theorem dX7_feed_108 : decode cX7_feed 108 = .ok (.iinc 6 1, 3) := by decide +kernel
theorem dX7_feed_111 : decode cX7_feed 111 = .ok (.goto (-94), 3) := by decide +kernel
theorem dX7_feed_114 : decode cX7_feed 114 = .ok (.aload_n 0, 1) := by decide +kernel
theorem dX7_feed_115 : decode cX7_feed 115 = .ok (.getfield 162, 3) := by decide +kernel
theorem dX7_feed_118 : decode cX7_feed 118 = .ok (.ireturn, 1) := by decide +kernel
theorem dX7_end_0 : decode cX7_end 0 = .ok (.iload_n 1, 1) := by decide +kernel
theorem dX7_end_1 : decode cX7_end 1 = .ok (.iconst 0, 1) := by decide +kernel
theorem dX7_end_2 : decode cX7_end 2 = .ok (.aload_n 0, 1) := by decide +kernel
theorem dX7_end_3 : decode cX7_end 3 = .ok (.getfield 162, 3) := by decide +kernel
theorem dX7_end_6 : decode cX7_end 6 = .ok (.invokestatic 76, 3) := by decide +kernel
theorem dX7_end_9 : decode cX7_end 9 = .ok (.ifCond .ne 5, 3) := by decide +kernel
theorem dX7_end_12 : decode cX7_end 12 = .ok (.iconst 0, 1) := by decide +kernel
theorem dX7_end_13 : decode cX7_end 13 = .ok (.ireturn, 1) := by decide +kernel
theorem dX7_end_14 : decode cX7_end 14 = .ok (.aload_n 0, 1) := by decide +kernel
theorem dX7_end_15 : decode cX7_end 15 = .ok (.iload_n 1, 1) := by decide +kernel
theorem dX7_end_16 : decode cX7_end 16 = .ok (.putfield 162, 3) := by decide +kernel
theorem dX7_end_19 : decode cX7_end 19 = .ok (.iconst 1, 1) := by decide +kernel
theorem dX7_end_20 : decode cX7_end 20 = .ok (.ireturn, 1) := by decide +kernel
theorem dX7_commons_0 : decode cX7_commons 0 = .ok (.aload_n 0, 1) := by decide +kernel
theorem dX7_commons_1 : decode cX7_commons 1 = .ok (.getfield 7, 3) := by decide +kernel
theorem dX7_commons_4 : decode cX7_commons 4 = .ok (.iload_n 1, 1) := by decide +kernel
theorem dX7_commons_5 : decode cX7_commons 5 = .ok (.iaload, 1) := by decide +kernel
theorem dX7_commons_6 : decode cX7_commons 6 = .ok (.istore_n 3, 1) := by decide +kernel
theorem dX7_commons_7 : decode cX7_commons 7 = .ok (.iload_n 3, 1) := by decide +kernel
theorem dX7_commons_8 : decode cX7_commons 8 = .ok (.ifCond .lt 135, 3) := by decide +kernel
theorem dX7_commons_11 : decode cX7_commons 11 = .ok (.iload_n 2, 1) := by decide +kernel
theorem dX7_commons_12 : decode cX7_commons 12 = .ok (.istore 4, 2) := by decide +kernel
theorem dX7_commons_14 : decode cX7_commons 14 = .ok (.iload 4, 2) := by decide +kernel
theorem dX7_commons_16 : decode cX7_commons 16 = .ok (.ifCond .lt 121, 3) := by decide +kernel
theorem dX7_commons_19 : decode cX7_commons 19 = .ok (.iconst 0, 1) := by decide +kernel
theorem dX7_commons_20 : decode cX7_commons 20 = .ok (.istore 5, 2) := by decide +kernel
theorem dX7_commons_22 : decode cX7_commons 22 = .ok (.iload_n 3, 1) := by decide +kernel
theorem dX7_commons_23 : decode cX7_commons 23 = .ok (.aload_n 0, 1) := by decide +kernel
theorem dX7_commons_24 : decode cX7_commons 24 = .ok (.getfield 7, 3) := by decide +kernel
theorem dX7_commons_27 : decode cX7_commons 27 = .ok (.iload_n 1, 1) := by decide +kernel
theorem dX7_commons_28 : decode cX7_commons 28 = .ok (.iaload, 1) := by decide +kernel
theorem dX7_commons_29 : decode cX7_commons 29 = .ok (.if_icmp .ge 88, 3) := by decide +kernel
theorem dX7_commons_32 : decode cX7_commons 32 = .ok (.iload 4, 2) := by decide +kernel
theorem dX7_commons_34 : decode cX7_commons 34 = .ok (.iload_n 2, 1) := by decide +kernel
theorem dX7_commons_35 : decode cX7_commons 35 = .ok (.if_icmp .ge 82, 3) := by decide +kernel
theorem dX7_commons_38 : decode cX7_commons 38 = .ok (.aload_n 0, 1) := by decide +kernel
theorem dX7_commons_39 : decode cX7_commons 39 = .ok (.getfield 70, 3) := by decide +kernel
theorem dX7_commons_42 : decode cX7_commons 42 = .ok (.bipush 33, 2) := by decide +kernel
theorem dX7_commons_44 : decode cX7_commons 44 = .ok (.iload_n 3, 1) := by decide +kernel
theorem dX7_commons_45 : decode cX7_commons 45 = .ok (.iconst 1, 1) := by decide +kernel
theorem dX7_commons_46 : decode cX7_commons 46 = .ok (.iadd, 1) := by decide +kernel
theorem dX7_commons_47 : decode cX7_commons 47 = .ok (.imul, 1) := by decide +kernel
theorem dX7_commons_48 : decode cX7_commons 48 = .ok (.iload 4, 2) := by decide +kernel
theorem dX7_commons_50 : decode cX7_commons 50 = .ok (.iadd, 1) := by decide +kernel
theorem dX7_commons_51 : decode cX7_commons 51 = .ok (.iaload, 1) := by decide +kernel
theorem dX7_commons_52 : decode cX7_commons 52 = .ok (.aload_n 0, 1) := by decide +kernel
theorem dX7_commons_53 : decode cX7_commons 53 = .ok (.getfield 70, 3) := by decide +kernel
theorem dX7_commons_56 : decode cX7_commons 56 = .ok (.bipush 33, 2) := by decide +kernel
theorem dX7_commons_58 : decode cX7_commons 58 = .ok (.iload_n 3, 1) := by decide +kernel
theorem dX7_commons_59 : decode cX7_commons 59 = .ok (.imul, 1) := by decide +kernel
theorem dX7_commons_60 : decode cX7_commons 60 = .ok (.iload 4, 2) := by decide +kernel
theorem dX7_commons_62 : decode cX7_commons 62 = .ok (.iadd, 1) := by decide +kernel
theorem dX7_commons_63 : decode cX7_commons 63 = .ok (.iconst 1, 1) := by decide +kernel
theorem dX7_commons_64 : decode cX7_commons 64 = .ok (.iadd, 1) := by decide +kernel
theorem dX7_commons_65 : decode cX7_commons 65 = .ok (.iaload, 1) := by decide +kernel
theorem dX7_commons_66 : decode cX7_commons 66 = .ok (.invokestatic 165, 3) := by decide +kernel
theorem dX7_commons_69 : decode cX7_commons 69 = .ok (.istore 5, 2) := by decide +kernel
theorem dX7_commons_71 : decode cX7_commons 71 = .ok (.aload_n 0, 1) := by decide +kernel
theorem dX7_commons_72 : decode cX7_commons 72 = .ok (.getfield 13, 3) := by decide +kernel
theorem dX7_commons_75 : decode cX7_commons 75 = .ok (.bipush 32, 2) := by decide +kernel
theorem dX7_commons_77 : decode cX7_commons 77 = .ok (.iload_n 1, 1) := by decide +kernel
theorem dX7_commons_78 : decode cX7_commons 78 = .ok (.imul, 1) := by decide +kernel
theorem dX7_commons_79 : decode cX7_commons 79 = .ok (.iload_n 3, 1) := by decide +kernel
theorem dX7_commons_80 : decode cX7_commons 80 = .ok (.iadd, 1) := by decide +kernel
theorem dX7_commons_81 : decode cX7_commons 81 = .ok (.iaload, 1) := by decide +kernel
theorem dX7_commons_82 : decode cX7_commons 82 = .ok (.aload_n 0, 1) := by decide +kernel
theorem dX7_commons_83 : decode cX7_commons 83 = .ok (.getfield 67, 3) := by decide +kernel
theorem dX7_commons_86 : decode cX7_commons 86 = .ok (.iload 4, 2) := by decide +kernel
theorem dX7_commons_88 : decode cX7_commons 88 = .ok (.iaload, 1) := by decide +kernel
theorem dX7_commons_89 : decode cX7_commons 89 = .ok (.if_icmp .ne 28, 3) := by decide +kernel
theorem dX7_commons_92 : decode cX7_commons 92 = .ok (.iload 5, 2) := by decide +kernel
theorem dX7_commons_94 : decode cX7_commons 94 = .ok (.iconst 1, 1) := by decide +kernel
theorem dX7_commons_95 : decode cX7_commons 95 = .ok (.aload_n 0, 1) := by decide +kernel
theorem dX7_commons_96 : decode cX7_commons 96 = .ok (.getfield 70, 3) := by decide +kernel
theorem dX7_commons_99 : decode cX7_commons 99 = .ok (.bipush 33, 2) := by decide +kernel
theorem dX7_commons_101 : decode cX7_commons 101 = .ok (.iload_n 3, 1) := by decide +kernel
theorem dX7_commons_102 : decode cX7_commons 102 = .ok (.iconst 1, 1) := by decide +kernel
theorem dX7_commons_103 : decode cX7_commons 103 = .ok (.iadd, 1) := by decide +kernel
theorem dX7_commons_104 : decode cX7_commons 104 = .ok (.imul, 1) := by decide +kernel
theorem dX7_commons_105 : decode cX7_commons 105 = .ok (.iload 4, 2) := by decide +kernel
theorem dX7_commons_107 : decode cX7_commons 107 = .ok (.iadd, 1) := by decide +kernel
theorem dX7_commons_108 : decode cX7_commons 108 = .ok (.iconst 1, 1) := by decide +kernel
theorem dX7_commons_109 : decode cX7_commons 109 = .ok (.iadd, 1) := by decide +kernel
theorem dX7_commons_110 : decode cX7_commons 110 = .ok (.iaload, 1) := by decide +kernel
theorem dX7_commons_111 : decode cX7_commons 111 = .ok (.iadd, 1) := by decide +kernel
theorem dX7_commons_112 : decode cX7_commons 112 = .ok (.invokestatic 165, 3) := by decide +kernel
theorem dX7_commons_115 : decode cX7_commons 115 = .ok (.istore 5, 2) := by decide +kernel
theorem dX7_commons_117 : decode cX7_commons 117 = .ok (.aload_n 0, 1) := by decide +kernel
theorem dX7_commons_118 : decode cX7_commons 118 = .ok (.getfield 70, 3) := by decide +kernel
theorem dX7_commons_121 : decode cX7_commons 121 = .ok (.bipush 33, 2) := by decide +kernel
theorem dX7_commons_123 : decode cX7_commons 123 = .ok (.iload_n 3, 1) := by decide +kernel
theorem dX7_commons_124 : decode cX7_commons 124 = .ok (.imul, 1) := by decide +kernel
theorem dX7_commons_125 : decode cX7_commons 125 = .ok (.iload 4, 2) := by decide +kernel
theorem dX7_commons_127 : decode cX7_commons 127 = .ok (.iadd, 1) := by decide +kernel
theorem dX7_commons_128 : decode cX7_commons 128 = .ok (.iload 5, 2) := by decide +kernel
theorem dX7_commons_130 : decode cX7_commons 130 = .ok (.iastore, 1) := by decide +kernel
theorem dX7_commons_131 : decode cX7_commons 131 = .ok (.iinc 4 (-1), 3) := by decide +kernel
theorem dX7_commons_134 : decode cX7_commons 134 = .ok (.goto (-120), 3) := by decide +kernel
theorem dX7_commons_137 : decode cX7_commons 137 = .ok (.iinc 3 (-1), 3) := by decide +kernel
theorem dX7_commons_140 : decode cX7_commons 140 = .ok (.goto (-133), 3) := by decide +kernel
theorem dX7_commons_143 : decode cX7_commons 143 = .ok (.return_, 1) := by decide +kernel
theorem dX7_load_0 : decode cX7_load 0 = .ok (.aload_n 0, 1) := by decide +kernel
theorem dX7_load_1 : decode cX7_load 1 = .ok (.getfield 162, 3) := by decide +kernel
theorem dX7_load_4 : decode cX7_load 4 = .ok (.istore_n 2, 1) := by decide +kernel
theorem dX7_load_5 : decode cX7_load 5 = .ok (.aload_n 0, 1) := by decide +kernel
theorem dX7_load_6 : decode cX7_load 6 = .ok (.iconst 0, 1) := by decide +kernel
theorem dX7_load_7 : decode cX7_load 7 = .ok (.putfield 162, 3) := by decide +kernel
theorem dX7_load_10 : decode cX7_load 10 = .ok (.iload_n 1, 1) := by decide +kernel
theorem dX7_load_11 : decode cX7_load 11 = .ok (.invokestatic 80, 3) := by decide +kernel
theorem dX7_load_14 : decode cX7_load 14 = .ok (.ifCond .eq 9, 3) := by decide +kernel
theorem dX7_load_17 : decode cX7_load 17 = .ok (.iload_n 2, 1) := by decide +kernel
theorem dX7_load_18 : decode cX7_load 18 = .ok (.bipush 32, 2) := by decide +kernel
theorem dX7_load_20 : decode cX7_load 20 = .ok (.if_icmp .le 5, 3) := by decide +kernel
theorem dX7_load_23 : decode cX7_load 23 = .ok (.iconst (-1), 1) := by decide +kernel
theorem dX7_load_24 : decode cX7_load 24 = .ok (.ireturn, 1) := by decide +kernel
theorem dX7_load_25 : decode cX7_load 25 = .ok (.aload_n 0, 1) := by decide +kernel
theorem dX7_load_26 : decode cX7_load 26 = .ok (.invokevirtual 149, 3) := by decide +kernel
theorem dX7_load_29 : decode cX7_load 29 = .ok (.aload_n 0, 1) := by decide +kernel
theorem dX7_load_30 : decode cX7_load 30 = .ok (.iload_n 1, 1) := by decide +kernel
theorem dX7_load_31 : decode cX7_load 31 = .ok (.invokevirtual 91, 3) := by decide +kernel
theorem dX7_load_34 : decode cX7_load 34 = .ok (.istore_n 3, 1) := by decide +kernel
theorem dX7_load_35 : decode cX7_load 35 = .ok (.aload_n 0, 1) := by decide +kernel
theorem dX7_load_36 : decode cX7_load 36 = .ok (.iload_n 1, 1) := by decide +kernel
theorem dX7_load_37 : decode cX7_load 37 = .ok (.iload_n 2, 1) := by decide +kernel
theorem dX7_load_38 : decode cX7_load 38 = .ok (.invokevirtual 170, 3) := by decide +kernel
theorem dX7_load_41 : decode cX7_load 41 = .ok (.iconst 0, 1) := by decide +kernel
theorem dX7_load_42 : decode cX7_load 42 = .ok (.istore 4, 2) := by decide +kernel
theorem dX7_load_44 : decode cX7_load 44 = .ok (.iload 4, 2) := by decide +kernel
theorem dX7_load_46 : decode cX7_load 46 = .ok (.iload_n 2, 1) := by decide +kernel
theorem dX7_load_47 : decode cX7_load 47 = .ok (.if_icmp .ge 17, 3) := by decide +kernel
theorem dX7_load_50 : decode cX7_load 50 = .ok (.aload_n 0, 1) := by decide +kernel
theorem dX7_load_51 : decode cX7_load 51 = .ok (.getfield 73, 3) := by decide +kernel
theorem dX7_load_54 : decode cX7_load 54 = .ok (.iload 4, 2) := by decide +kernel
theorem dX7_load_56 : decode cX7_load 56 = .ok (.iconst (-1), 1) := by decide +kernel
theorem dX7_load_57 : decode cX7_load 57 = .ok (.iastore, 1) := by decide +kernel
theorem dX7_load_58 : decode cX7_load 58 = .ok (.iinc 4 1, 3) := by decide +kernel
theorem dX7_load_61 : decode cX7_load 61 = .ok (.goto (-17), 3) := by decide +kernel
theorem dX7_load_64 : decode cX7_load 64 = .ok (.iconst 0, 1) := by decide +kernel
theorem dX7_load_65 : decode cX7_load 65 = .ok (.istore 4, 2) := by decide +kernel
theorem dX7_load_67 : decode cX7_load 67 = .ok (.iconst 0, 1) := by decide +kernel
theorem dX7_load_68 : decode cX7_load 68 = .ok (.istore 5, 2) := by decide +kernel
theorem dX7_load_70 : decode cX7_load 70 = .ok (.iconst 0, 1) := by decide +kernel
theorem dX7_load_71 : decode cX7_load 71 = .ok (.istore 6, 2) := by decide +kernel
theorem dX7_load_73 : decode cX7_load 73 = .ok (.iload 4, 2) := by decide +kernel
theorem dX7_load_75 : decode cX7_load 75 = .ok (.aload_n 0, 1) := by decide +kernel
theorem dX7_load_76 : decode cX7_load 76 = .ok (.getfield 7, 3) := by decide +kernel
theorem dX7_load_79 : decode cX7_load 79 = .ok (.iload_n 1, 1) := by decide +kernel
theorem dX7_load_80 : decode cX7_load 80 = .ok (.iaload, 1) := by decide +kernel
theorem dX7_load_81 : decode cX7_load 81 = .ok (.if_icmp .ge 133, 3) := by decide +kernel
theorem dX7_load_84 : decode cX7_load 84 = .ok (.iload 5, 2) := by decide +kernel
theorem dX7_load_86 : decode cX7_load 86 = .ok (.iload_n 2, 1) := by decide +kernel
theorem dX7_load_87 : decode cX7_load 87 = .ok (.if_icmp .ge 127, 3) := by decide +kernel
theorem dX7_load_90 : decode cX7_load 90 = .ok (.aload_n 0, 1) := by decide +kernel
theorem dX7_load_91 : decode cX7_load 91 = .ok (.getfield 70, 3) := by decide +kernel
theorem dX7_load_94 : decode cX7_load 94 = .ok (.bipush 33, 2) := by decide +kernel
theorem dX7_load_96 : decode cX7_load 96 = .ok (.iload 4, 2) := by decide +kernel
theorem dX7_load_98 : decode cX7_load 98 = .ok (.imul, 1) := by decide +kernel
theorem dX7_load_99 : decode cX7_load 99 = .ok (.iload 5, 2) := by decide +kernel
theorem dX7_load_101 : decode cX7_load 101 = .ok (.iadd, 1) := by decide +kernel
theorem dX7_load_102 : decode cX7_load 102 = .ok (.iaload, 1) := by decide +kernel
theorem dX7_load_103 : decode cX7_load 103 = .ok (.istore 7, 2) := by decide +kernel
theorem dX7_load_105 : decode cX7_load 105 = .ok (.aload_n 0, 1) := by decide +kernel
theorem dX7_load_106 : decode cX7_load 106 = .ok (.getfield 13, 3) := by decide +kernel
theorem dX7_load_109 : decode cX7_load 109 = .ok (.bipush 32, 2) := by decide +kernel
theorem dX7_load_111 : decode cX7_load 111 = .ok (.iload_n 1, 1) := by decide +kernel
theorem dX7_load_112 : decode cX7_load 112 = .ok (.imul, 1) := by decide +kernel
theorem dX7_load_113 : decode cX7_load 113 = .ok (.iload 4, 2) := by decide +kernel
theorem dX7_load_115 : decode cX7_load 115 = .ok (.iadd, 1) := by decide +kernel
theorem dX7_load_116 : decode cX7_load 116 = .ok (.iaload, 1) := by decide +kernel
theorem dX7_load_117 : decode cX7_load 117 = .ok (.aload_n 0, 1) := by decide +kernel
theorem dX7_load_118 : decode cX7_load 118 = .ok (.getfield 67, 3) := by decide +kernel
theorem dX7_load_121 : decode cX7_load 121 = .ok (.iload 5, 2) := by decide +kernel
theorem dX7_load_123 : decode cX7_load 123 = .ok (.iaload, 1) := by decide +kernel
theorem dX7_load_124 : decode cX7_load 124 = .ok (.if_icmp .ne 58, 3) := by decide +kernel
theorem dX7_load_127 : decode cX7_load 127 = .ok (.iload 7, 2) := by decide +kernel
theorem dX7_load_129 : decode cX7_load 129 = .ok (.iconst 1, 1) := by decide +kernel
theorem dX7_load_130 : decode cX7_load 130 = .ok (.aload_n 0, 1) := by decide +kernel
theorem dX7_load_131 : decode cX7_load 131 = .ok (.getfield 70, 3) := by decide +kernel
theorem dX7_load_134 : decode cX7_load 134 = .ok (.bipush 33, 2) := by decide +kernel
theorem dX7_load_136 : decode cX7_load 136 = .ok (.iload 4, 2) := by decide +kernel
theorem dX7_load_138 : decode cX7_load 138 = .ok (.iconst 1, 1) := by decide +kernel
theorem dX7_load_139 : decode cX7_load 139 = .ok (.iadd, 1) := by decide +kernel
theorem dX7_load_140 : decode cX7_load 140 = .ok (.imul, 1) := by decide +kernel
theorem dX7_load_141 : decode cX7_load 141 = .ok (.iload 5, 2) := by decide +kernel
theorem dX7_load_143 : decode cX7_load 143 = .ok (.iadd, 1) := by decide +kernel
theorem dX7_load_144 : decode cX7_load 144 = .ok (.iconst 1, 1) := by decide +kernel
theorem dX7_load_145 : decode cX7_load 145 = .ok (.iadd, 1) := by decide +kernel
theorem dX7_load_146 : decode cX7_load 146 = .ok (.iaload, 1) := by decide +kernel
theorem dX7_load_147 : decode cX7_load 147 = .ok (.iadd, 1) := by decide +kernel
theorem dX7_load_148 : decode cX7_load 148 = .ok (.if_icmp .ne 34, 3) := by decide +kernel
theorem dX7_load_151 : decode cX7_load 151 = .ok (.aload_n 0, 1) := by decide +kernel
theorem dX7_load_152 : decode cX7_load 152 = .ok (.getfield 73, 3) := by decide +kernel
theorem dX7_load_155 : decode cX7_load 155 = .ok (.iload 5, 2) := by decide +kernel
theorem dX7_load_157 : decode cX7_load 157 = .ok (.aload_n 0, 1) := by decide +kernel
theorem dX7_load_158 : decode cX7_load 158 = .ok (.getfield 16, 3) := by decide +kernel
theorem dX7_load_161 : decode cX7_load 161 = .ok (.bipush 32, 2) := by decide +kernel
theorem dX7_load_163 : decode cX7_load 163 = .ok (.iload_n 1, 1) := by decide +kernel
theorem dX7_load_164 : decode cX7_load 164 = .ok (.imul, 1) := by decide +kernel
theorem dX7_load_165 : decode cX7_load 165 = .ok (.iload 4, 2) := by decide +kernel
theorem dX7_load_167 : decode cX7_load 167 = .ok (.iadd, 1) := by decide +kernel
theorem dX7_load_168 : decode cX7_load 168 = .ok (.iaload, 1) := by decide +kernel
theorem dX7_load_169 : decode cX7_load 169 = .ok (.iastore, 1) := by decide +kernel
theorem dX7_load_170 : decode cX7_load 170 = .ok (.iinc 6 1, 3) := by decide +kernel
theorem dX7_load_173 : decode cX7_load 173 = .ok (.iinc 4 1, 3) := by decide +kernel
theorem dX7_load_176 : decode cX7_load 176 = .ok (.iinc 5 1, 3) := by decide +kernel
theorem dX7_load_179 : decode cX7_load 179 = .ok (.goto 32, 3) := by decide +kernel
theorem dX7_load_182 : decode cX7_load 182 = .ok (.aload_n 0, 1) := by decide +kernel
theorem dX7_load_183 : decode cX7_load 183 = .ok (.getfield 70, 3) := by decide +kernel
theorem dX7_load_186 : decode cX7_load 186 = .ok (.bipush 33, 2) := by decide +kernel
theorem dX7_load_188 : decode cX7_load 188 = .ok (.iload 4, 2) := by decide +kernel
theorem dX7_load_190 : decode cX7_load 190 = .ok (.iconst 1, 1) := by decide +kernel
theorem dX7_load_191 : decode cX7_load 191 = .ok (.iadd, 1) := by decide +kernel
theorem dX7_load_192 : decode cX7_load 192 = .ok (.imul, 1) := by decide +kernel
theorem dX7_load_193 : decode cX7_load 193 = .ok (.iload 5, 2) := by decide +kernel
theorem dX7_load_195 : decode cX7_load 195 = .ok (.iadd, 1) := by decide +kernel
theorem dX7_load_196 : decode cX7_load 196 = .ok (.iaload, 1) := by decide +kernel
theorem dX7_load_197 : decode cX7_load 197 = .ok (.iload 7, 2) := by decide +kernel
theorem dX7_load_199 : decode cX7_load 199 = .ok (.if_icmp .ne 9, 3) := by decide +kernel
theorem dX7_load_202 : decode cX7_load 202 = .ok (.iinc 4 1, 3) := by decide +kernel
theorem dX7_load_205 : decode cX7_load 205 = .ok (.goto 6, 3) := by decide +kernel
theorem dX7_load_208 : decode cX7_load 208 = .ok (.iinc 5 1, 3) := by decide +kernel
theorem dX7_load_211 : decode cX7_load 211 = .ok (.goto (-138), 3) := by decide +kernel
theorem dX7_load_214 : decode cX7_load 214 = .ok (.iconst 0, 1) := by decide +kernel
theorem dX7_load_215 : decode cX7_load 215 = .ok (.istore 7, 2) := by decide +kernel
theorem dX7_load_217 : decode cX7_load 217 = .ok (.iload 7, 2) := by decide +kernel
theorem dX7_load_219 : decode cX7_load 219 = .ok (.iload_n 2, 1) := by decide +kernel
theorem dX7_load_220 : decode cX7_load 220 = .ok (.if_icmp .ge 79, 3) := by decide +kernel
theorem dX7_load_223 : decode cX7_load 223 = .ok (.aload_n 0, 1) := by decide +kernel
theorem dX7_load_224 : decode cX7_load 224 = .ok (.getfield 73, 3) := by decide +kernel
theorem dX7_load_227 : decode cX7_load 227 = .ok (.iload 7, 2) := by decide +kernel
theorem dX7_load_229 : decode cX7_load 229 = .ok (.iaload, 1) := by decide +kernel
theorem dX7_load_230 : decode cX7_load 230 = .ok (.iconst (-1), 1) := by decide +kernel
theorem dX7_load_231 : decode cX7_load 231 = .ok (.if_icmp .ne 24, 3) := by decide +kernel
theorem dX7_load_234 : decode cX7_load 234 = .ok (.aload_n 0, 1) := by decide +kernel
theorem dX7_load_235 : decode cX7_load 235 = .ok (.getfield 73, 3) := by decide +kernel
theorem dX7_load_238 : decode cX7_load 238 = .ok (.iload 7, 2) := by decide +kernel
theorem dX7_load_240 : decode cX7_load 240 = .ok (.aload_n 0, 1) := by decide +kernel
theorem dX7_load_241 : decode cX7_load 241 = .ok (.getfield 152, 3) := by decide +kernel
theorem dX7_load_244 : decode cX7_load 244 = .ok (.iastore, 1) := by decide +kernel
theorem dX7_load_245 : decode cX7_load 245 = .ok (.aload_n 0, 1) := by decide +kernel
theorem dX7_load_246 : decode cX7_load 246 = .ok (.dup, 1) := by decide +kernel
theorem dX7_load_247 : decode cX7_load 247 = .ok (.getfield 152, 3) := by decide +kernel
theorem dX7_load_250 : decode cX7_load 250 = .ok (.iconst 1, 1) := by decide +kernel
theorem dX7_load_251 : decode cX7_load 251 = .ok (.iadd, 1) := by decide +kernel
theorem dX7_load_252 : decode cX7_load 252 = .ok (.putfield 152, 3) := by decide +kernel
theorem dX7_load_255 : decode cX7_load 255 = .ok (.aload_n 0, 1) := by decide +kernel
theorem dX7_load_256 : decode cX7_load 256 = .ok (.getfield 13, 3) := by decide +kernel
theorem dX7_load_259 : decode cX7_load 259 = .ok (.bipush 32, 2) := by decide +kernel
theorem dX7_load_261 : decode cX7_load 261 = .ok (.iload_n 1, 1) := by decide +kernel
theorem dX7_load_262 : decode cX7_load 262 = .ok (.imul, 1) := by decide +kernel
theorem dX7_load_263 : decode cX7_load 263 = .ok (.iload 7, 2) := by decide +kernel
theorem dX7_load_265 : decode cX7_load 265 = .ok (.iadd, 1) := by decide +kernel
theorem dX7_load_266 : decode cX7_load 266 = .ok (.aload_n 0, 1) := by decide +kernel
theorem dX7_load_267 : decode cX7_load 267 = .ok (.getfield 67, 3) := by decide +kernel
theorem dX7_load_270 : decode cX7_load 270 = .ok (.iload 7, 2) := by decide +kernel
theorem dX7_load_272 : decode cX7_load 272 = .ok (.iaload, 1) := by decide +kernel
theorem dX7_load_273 : decode cX7_load 273 = .ok (.iastore, 1) := by decide +kernel
theorem dX7_load_274 : decode cX7_load 274 = .ok (.aload_n 0, 1) := by decide +kernel
theorem dX7_load_275 : decode cX7_load 275 = .ok (.getfield 16, 3) := by decide +kernel
theorem dX7_load_278 : decode cX7_load 278 = .ok (.bipush 32, 2) := by decide +kernel
theorem dX7_load_280 : decode cX7_load 280 = .ok (.iload_n 1, 1) := by decide +kernel
theorem dX7_load_281 : decode cX7_load 281 = .ok (.imul, 1) := by decide +kernel
theorem dX7_load_282 : decode cX7_load 282 = .ok (.iload 7, 2) := by decide +kernel
theorem dX7_load_284 : decode cX7_load 284 = .ok (.iadd, 1) := by decide +kernel
theorem dX7_load_285 : decode cX7_load 285 = .ok (.aload_n 0, 1) := by decide +kernel
theorem dX7_load_286 : decode cX7_load 286 = .ok (.getfield 73, 3) := by decide +kernel
theorem dX7_load_289 : decode cX7_load 289 = .ok (.iload 7, 2) := by decide +kernel
theorem dX7_load_291 : decode cX7_load 291 = .ok (.iaload, 1) := by decide +kernel
theorem dX7_load_292 : decode cX7_load 292 = .ok (.iastore, 1) := by decide +kernel
theorem dX7_load_293 : decode cX7_load 293 = .ok (.iinc 7 1, 3) := by decide +kernel
theorem dX7_load_296 : decode cX7_load 296 = .ok (.goto (-79), 3) := by decide +kernel
theorem dX7_load_299 : decode cX7_load 299 = .ok (.aload_n 0, 1) := by decide +kernel
theorem dX7_load_300 : decode cX7_load 300 = .ok (.getfield 7, 3) := by decide +kernel
theorem dX7_load_303 : decode cX7_load 303 = .ok (.iload_n 1, 1) := by decide +kernel
theorem dX7_load_304 : decode cX7_load 304 = .ok (.iload_n 2, 1) := by decide +kernel
theorem dX7_load_305 : decode cX7_load 305 = .ok (.iastore, 1) := by decide +kernel
theorem dX7_load_306 : decode cX7_load 306 = .ok (.aload_n 0, 1) := by decide +kernel
theorem dX7_load_307 : decode cX7_load 307 = .ok (.iload_n 1, 1) := by decide +kernel
theorem dX7_load_308 : decode cX7_load 308 = .ok (.iload_n 3, 1) := by decide +kernel
theorem dX7_load_309 : decode cX7_load 309 = .ok (.invokevirtual 155, 3) := by decide +kernel
theorem dX7_load_312 : decode cX7_load 312 = .ok (.iload 6, 2) := by decide +kernel
theorem dX7_load_314 : decode cX7_load 314 = .ok (.ireturn, 1) := by decide +kernel
theorem dX7_day_0 : decode cX7_day 0 = .ok (.aload_n 0, 1) := by decide +kernel
theorem dX7_day_1 : decode cX7_day 1 = .ok (.getfield 173, 3) := by decide +kernel
theorem dX7_day_4 : decode cX7_day 4 = .ok (.sipush 10000, 3) := by decide +kernel
theorem dX7_day_7 : decode cX7_day 7 = .ok (.if_icmp .ne 5, 3) := by decide +kernel
theorem dX7_day_10 : decode cX7_day 10 = .ok (.iconst (-1), 1) := by decide +kernel
theorem dX7_day_11 : decode cX7_day 11 = .ok (.ireturn, 1) := by decide +kernel
theorem dX7_day_12 : decode cX7_day 12 = .ok (.aload_n 0, 1) := by decide +kernel
theorem dX7_day_13 : decode cX7_day 13 = .ok (.dup, 1) := by decide +kernel
theorem dX7_day_14 : decode cX7_day 14 = .ok (.getfield 173, 3) := by decide +kernel
theorem dX7_day_17 : decode cX7_day 17 = .ok (.iconst 1, 1) := by decide +kernel
theorem dX7_day_18 : decode cX7_day 18 = .ok (.iadd, 1) := by decide +kernel
theorem dX7_day_19 : decode cX7_day 19 = .ok (.putfield 173, 3) := by decide +kernel
theorem dX7_day_22 : decode cX7_day 22 = .ok (.aload_n 0, 1) := by decide +kernel
theorem dX7_day_23 : decode cX7_day 23 = .ok (.getfield 173, 3) := by decide +kernel
theorem dX7_day_26 : decode cX7_day 26 = .ok (.ireturn, 1) := by decide +kernel
theorem dX7_isSilent_0 : decode cX7_isSilent 0 = .ok (.aload_n 0, 1) := by decide +kernel
theorem dX7_isSilent_1 : decode cX7_isSilent 1 = .ok (.getfield 173, 3) := by decide +kernel
theorem dX7_isSilent_4 : decode cX7_isSilent 4 = .ok (.aload_n 0, 1) := by decide +kernel
theorem dX7_isSilent_5 : decode cX7_isSilent 5 = .ok (.getfield 34, 3) := by decide +kernel
theorem dX7_isSilent_8 : decode cX7_isSilent 8 = .ok (.iload_n 1, 1) := by decide +kernel
theorem dX7_isSilent_9 : decode cX7_isSilent 9 = .ok (.iaload, 1) := by decide +kernel
theorem dX7_isSilent_10 : decode cX7_isSilent 10 = .ok (.if_icmp .ge 7, 3) := by decide +kernel
theorem dX7_isSilent_13 : decode cX7_isSilent 13 = .ok (.iconst 1, 1) := by decide +kernel
theorem dX7_isSilent_14 : decode cX7_isSilent 14 = .ok (.goto 4, 3) := by decide +kernel
theorem dX7_isSilent_17 : decode cX7_isSilent 17 = .ok (.iconst 0, 1) := by decide +kernel
theorem dX7_isSilent_18 : decode cX7_isSilent 18 = .ok (.ireturn, 1) := by decide +kernel
theorem dX7_isFinding_0 : decode cX7_isFinding 0 = .ok (.iload_n 1, 1) := by decide +kernel
theorem dX7_isFinding_1 : decode cX7_isFinding 1 = .ok (.iconst 0, 1) := by decide +kernel
theorem dX7_isFinding_2 : decode cX7_isFinding 2 = .ok (.aload_n 0, 1) := by decide +kernel
theorem dX7_isFinding_3 : decode cX7_isFinding 3 = .ok (.getfield 118, 3) := by decide +kernel
theorem dX7_isFinding_6 : decode cX7_isFinding 6 = .ok (.iconst 1, 1) := by decide +kernel
theorem dX7_isFinding_7 : decode cX7_isFinding 7 = .ok (.isub, 1) := by decide +kernel
theorem dX7_isFinding_8 : decode cX7_isFinding 8 = .ok (.invokestatic 76, 3) := by decide +kernel
theorem dX7_isFinding_11 : decode cX7_isFinding 11 = .ok (.ireturn, 1) := by decide +kernel
theorem dX7_silence_0 : decode cX7_silence 0 = .ok (.aload_n 0, 1) := by decide +kernel
theorem dX7_silence_1 : decode cX7_silence 1 = .ok (.iload_n 1, 1) := by decide +kernel
theorem dX7_silence_2 : decode cX7_silence 2 = .ok (.invokevirtual 176, 3) := by decide +kernel
theorem dX7_silence_5 : decode cX7_silence 5 = .ok (.ifCond .eq 23, 3) := by decide +kernel
theorem dX7_silence_8 : decode cX7_silence 8 = .ok (.iload_n 2, 1) := by decide +kernel
theorem dX7_silence_9 : decode cX7_silence 9 = .ok (.iconst 1, 1) := by decide +kernel
theorem dX7_silence_10 : decode cX7_silence 10 = .ok (.bipush 99, 2) := by decide +kernel
theorem dX7_silence_12 : decode cX7_silence 12 = .ok (.invokestatic 76, 3) := by decide +kernel
theorem dX7_silence_15 : decode cX7_silence 15 = .ok (.ifCond .eq 13, 3) := by decide +kernel
theorem dX7_silence_18 : decode cX7_silence 18 = .ok (.iload_n 3, 1) := by decide +kernel
theorem dX7_silence_19 : decode cX7_silence 19 = .ok (.iconst 0, 1) := by decide +kernel
theorem dX7_silence_20 : decode cX7_silence 20 = .ok (.bipush 99, 2) := by decide +kernel
theorem dX7_silence_22 : decode cX7_silence 22 = .ok (.invokestatic 76, 3) := by decide +kernel
theorem dX7_silence_25 : decode cX7_silence 25 = .ok (.ifCond .ne 5, 3) := by decide +kernel
theorem dX7_silence_28 : decode cX7_silence 28 = .ok (.iconst 0, 1) := by decide +kernel
theorem dX7_silence_29 : decode cX7_silence 29 = .ok (.ireturn, 1) := by decide +kernel
theorem dX7_silence_30 : decode cX7_silence 30 = .ok (.aload_n 0, 1) := by decide +kernel
theorem dX7_silence_31 : decode cX7_silence 31 = .ok (.getfield 34, 3) := by decide +kernel
theorem dX7_silence_34 : decode cX7_silence 34 = .ok (.iload_n 1, 1) := by decide +kernel
theorem dX7_silence_35 : decode cX7_silence 35 = .ok (.aload_n 0, 1) := by decide +kernel
theorem dX7_silence_36 : decode cX7_silence 36 = .ok (.getfield 173, 3) := by decide +kernel
theorem dX7_silence_39 : decode cX7_silence 39 = .ok (.iload_n 2, 1) := by decide +kernel
theorem dX7_silence_40 : decode cX7_silence 40 = .ok (.iadd, 1) := by decide +kernel
theorem dX7_silence_41 : decode cX7_silence 41 = .ok (.iastore, 1) := by decide +kernel
theorem dX7_silence_42 : decode cX7_silence 42 = .ok (.aload_n 0, 1) := by decide +kernel
theorem dX7_silence_43 : decode cX7_silence 43 = .ok (.getfield 37, 3) := by decide +kernel
theorem dX7_silence_46 : decode cX7_silence 46 = .ok (.iload_n 1, 1) := by decide +kernel
theorem dX7_silence_47 : decode cX7_silence 47 = .ok (.iload_n 3, 1) := by decide +kernel
theorem dX7_silence_48 : decode cX7_silence 48 = .ok (.iastore, 1) := by decide +kernel
theorem dX7_silence_49 : decode cX7_silence 49 = .ok (.iconst 1, 1) := by decide +kernel
theorem dX7_silence_50 : decode cX7_silence 50 = .ok (.ireturn, 1) := by decide +kernel
theorem dX7_speak_0 : decode cX7_speak 0 = .ok (.aload_n 0, 1) := by decide +kernel
theorem dX7_speak_1 : decode cX7_speak 1 = .ok (.iload_n 1, 1) := by decide +kernel
theorem dX7_speak_2 : decode cX7_speak 2 = .ok (.invokevirtual 176, 3) := by decide +kernel
theorem dX7_speak_5 : decode cX7_speak 5 = .ok (.ifCond .eq 11, 3) := by decide +kernel
theorem dX7_speak_8 : decode cX7_speak 8 = .ok (.aload_n 0, 1) := by decide +kernel
theorem dX7_speak_9 : decode cX7_speak 9 = .ok (.iload_n 1, 1) := by decide +kernel
theorem dX7_speak_10 : decode cX7_speak 10 = .ok (.invokevirtual 179, 3) := by decide +kernel
theorem dX7_speak_13 : decode cX7_speak 13 = .ok (.ifCond .ne 5, 3) := by decide +kernel
theorem dX7_speak_16 : decode cX7_speak 16 = .ok (.iconst 0, 1) := by decide +kernel
theorem dX7_speak_17 : decode cX7_speak 17 = .ok (.ireturn, 1) := by decide +kernel
theorem dX7_speak_18 : decode cX7_speak 18 = .ok (.aload_n 0, 1) := by decide +kernel
theorem dX7_speak_19 : decode cX7_speak 19 = .ok (.getfield 34, 3) := by decide +kernel
theorem dX7_speak_22 : decode cX7_speak 22 = .ok (.iload_n 1, 1) := by decide +kernel
theorem dX7_speak_23 : decode cX7_speak 23 = .ok (.iconst 0, 1) := by decide +kernel
theorem dX7_speak_24 : decode cX7_speak 24 = .ok (.iastore, 1) := by decide +kernel
theorem dX7_speak_25 : decode cX7_speak 25 = .ok (.iconst 1, 1) := by decide +kernel
theorem dX7_speak_26 : decode cX7_speak 26 = .ok (.ireturn, 1) := by decide +kernel
theorem dX7_look_0 : decode cX7_look 0 = .ok (.iconst 0, 1) := by decide +kernel
theorem dX7_look_1 : decode cX7_look 1 = .ok (.istore_n 2, 1) := by decide +kernel
theorem dX7_look_2 : decode cX7_look 2 = .ok (.iload_n 1, 1) := by decide +kernel
theorem dX7_look_3 : decode cX7_look 3 = .ok (.tableswitch 143 0 8 #[49, 54, 59, 64, 98, 103, 108, 133, 138], 49) := by decide +kernel
theorem dX7_look_52 : decode cX7_look 52 = .ok (.aload_n 0, 1) := by decide +kernel
theorem dX7_look_53 : decode cX7_look 53 = .ok (.getfield 115, 3) := by decide +kernel
theorem dX7_look_56 : decode cX7_look 56 = .ok (.ireturn, 1) := by decide +kernel
theorem dX7_look_57 : decode cX7_look 57 = .ok (.aload_n 0, 1) := by decide +kernel
theorem dX7_look_58 : decode cX7_look 58 = .ok (.getfield 173, 3) := by decide +kernel
theorem dX7_look_61 : decode cX7_look 61 = .ok (.ireturn, 1) := by decide +kernel
theorem dX7_look_62 : decode cX7_look 62 = .ok (.aload_n 0, 1) := by decide +kernel
theorem dX7_look_63 : decode cX7_look 63 = .ok (.getfield 118, 3) := by decide +kernel
theorem dX7_look_66 : decode cX7_look 66 = .ok (.ireturn, 1) := by decide +kernel
theorem dX7_look_67 : decode cX7_look 67 = .ok (.iconst 0, 1) := by decide +kernel
theorem dX7_look_68 : decode cX7_look 68 = .ok (.istore_n 3, 1) := by decide +kernel
theorem dX7_look_69 : decode cX7_look 69 = .ok (.iload_n 3, 1) := by decide +kernel
theorem dX7_look_70 : decode cX7_look 70 = .ok (.aload_n 0, 1) := by decide +kernel
theorem dX7_look_71 : decode cX7_look 71 = .ok (.getfield 118, 3) := by decide +kernel
theorem dX7_look_74 : decode cX7_look 74 = .ok (.if_icmp .ge 25, 3) := by decide +kernel
theorem dX7_look_77 : decode cX7_look 77 = .ok (.iload_n 2, 1) := by decide +kernel
theorem dX7_look_78 : decode cX7_look 78 = .ok (.aload_n 0, 1) := by decide +kernel
theorem dX7_look_79 : decode cX7_look 79 = .ok (.iload_n 3, 1) := by decide +kernel
theorem dX7_look_80 : decode cX7_look 80 = .ok (.invokevirtual 179, 3) := by decide +kernel
theorem dX7_look_83 : decode cX7_look 83 = .ok (.ifCond .eq 7, 3) := by decide +kernel
theorem dX7_look_86 : decode cX7_look 86 = .ok (.iconst 1, 1) := by decide +kernel
theorem dX7_look_87 : decode cX7_look 87 = .ok (.goto 4, 3) := by decide +kernel
theorem dX7_look_90 : decode cX7_look 90 = .ok (.iconst 0, 1) := by decide +kernel
theorem dX7_look_91 : decode cX7_look 91 = .ok (.iadd, 1) := by decide +kernel
theorem dX7_look_92 : decode cX7_look 92 = .ok (.istore_n 2, 1) := by decide +kernel
theorem dX7_look_93 : decode cX7_look 93 = .ok (.iinc 3 1, 3) := by decide +kernel
theorem dX7_look_96 : decode cX7_look 96 = .ok (.goto (-27), 3) := by decide +kernel
theorem dX7_look_99 : decode cX7_look 99 = .ok (.iload_n 2, 1) := by decide +kernel
theorem dX7_look_100 : decode cX7_look 100 = .ok (.ireturn, 1) := by decide +kernel
theorem dX7_look_101 : decode cX7_look 101 = .ok (.aload_n 0, 1) := by decide +kernel
theorem dX7_look_102 : decode cX7_look 102 = .ok (.getfield 137, 3) := by decide +kernel
theorem dX7_look_105 : decode cX7_look 105 = .ok (.ireturn, 1) := by decide +kernel
theorem dX7_look_106 : decode cX7_look 106 = .ok (.aload_n 0, 1) := by decide +kernel
theorem dX7_look_107 : decode cX7_look 107 = .ok (.getfield 140, 3) := by decide +kernel
theorem dX7_look_110 : decode cX7_look 110 = .ok (.ireturn, 1) := by decide +kernel
theorem dX7_look_111 : decode cX7_look 111 = .ok (.iconst 0, 1) := by decide +kernel
theorem dX7_look_112 : decode cX7_look 112 = .ok (.istore_n 3, 1) := by decide +kernel
theorem dX7_look_113 : decode cX7_look 113 = .ok (.iload_n 3, 1) := by decide +kernel
theorem dX7_look_114 : decode cX7_look 114 = .ok (.bipush 6, 2) := by decide +kernel
theorem dX7_look_116 : decode cX7_look 116 = .ok (.if_icmp .ge 18, 3) := by decide +kernel
theorem dX7_look_119 : decode cX7_look 119 = .ok (.iload_n 2, 1) := by decide +kernel
theorem dX7_look_120 : decode cX7_look 120 = .ok (.aload_n 0, 1) := by decide +kernel
theorem dX7_look_121 : decode cX7_look 121 = .ok (.getfield 7, 3) := by decide +kernel
theorem dX7_look_124 : decode cX7_look 124 = .ok (.iload_n 3, 1) := by decide +kernel
theorem dX7_look_125 : decode cX7_look 125 = .ok (.iaload, 1) := by decide +kernel
theorem dX7_look_126 : decode cX7_look 126 = .ok (.iadd, 1) := by decide +kernel
theorem dX7_look_127 : decode cX7_look 127 = .ok (.istore_n 2, 1) := by decide +kernel
theorem dX7_look_128 : decode cX7_look 128 = .ok (.iinc 3 1, 3) := by decide +kernel
theorem dX7_look_131 : decode cX7_look 131 = .ok (.goto (-18), 3) := by decide +kernel
theorem dX7_look_134 : decode cX7_look 134 = .ok (.iload_n 2, 1) := by decide +kernel
theorem dX7_look_135 : decode cX7_look 135 = .ok (.ireturn, 1) := by decide +kernel
theorem dX7_look_136 : decode cX7_look 136 = .ok (.aload_n 0, 1) := by decide +kernel
theorem dX7_look_137 : decode cX7_look 137 = .ok (.getfield 152, 3) := by decide +kernel
theorem dX7_look_140 : decode cX7_look 140 = .ok (.ireturn, 1) := by decide +kernel
theorem dX7_look_141 : decode cX7_look 141 = .ok (.aload_n 0, 1) := by decide +kernel
theorem dX7_look_142 : decode cX7_look 142 = .ok (.getfield 99, 3) := by decide +kernel
theorem dX7_look_145 : decode cX7_look 145 = .ok (.ireturn, 1) := by decide +kernel
theorem dX7_look_146 : decode cX7_look 146 = .ok (.iconst (-1), 1) := by decide +kernel
theorem dX7_look_147 : decode cX7_look 147 = .ok (.ireturn, 1) := by decide +kernel
theorem dX7_line_0 : decode cX7_line 0 = .ok (.aload_n 0, 1) := by decide +kernel
theorem dX7_line_1 : decode cX7_line 1 = .ok (.iload_n 1, 1) := by decide +kernel
theorem dX7_line_2 : decode cX7_line 2 = .ok (.iload_n 2, 1) := by decide +kernel
theorem dX7_line_3 : decode cX7_line 3 = .ok (.invokevirtual 159, 3) := by decide +kernel
theorem dX7_line_6 : decode cX7_line 6 = .ok (.ifCond .ne 7, 3) := by decide +kernel
theorem dX7_line_9 : decode cX7_line 9 = .ok (.iconst (-1), 1) := by decide +kernel
theorem dX7_line_10 : decode cX7_line 10 = .ok (.goto 41, 3) := by decide +kernel
theorem dX7_line_13 : decode cX7_line 13 = .ok (.iload_n 3, 1) := by decide +kernel
theorem dX7_line_14 : decode cX7_line 14 = .ok (.ifCond .ne 17, 3) := by decide +kernel
theorem dX7_line_17 : decode cX7_line 17 = .ok (.aload_n 0, 1) := by decide +kernel
theorem dX7_line_18 : decode cX7_line 18 = .ok (.getfield 13, 3) := by decide +kernel
theorem dX7_line_21 : decode cX7_line 21 = .ok (.bipush 32, 2) := by decide +kernel
theorem dX7_line_23 : decode cX7_line 23 = .ok (.iload_n 1, 1) := by decide +kernel
theorem dX7_line_24 : decode cX7_line 24 = .ok (.imul, 1) := by decide +kernel
theorem dX7_line_25 : decode cX7_line 25 = .ok (.iload_n 2, 1) := by decide +kernel
theorem dX7_line_26 : decode cX7_line 26 = .ok (.iadd, 1) := by decide +kernel
theorem dX7_line_27 : decode cX7_line 27 = .ok (.iaload, 1) := by decide +kernel
theorem dX7_line_28 : decode cX7_line 28 = .ok (.goto 23, 3) := by decide +kernel
theorem dX7_line_31 : decode cX7_line 31 = .ok (.iload_n 3, 1) := by decide +kernel
theorem dX7_line_32 : decode cX7_line 32 = .ok (.iconst 1, 1) := by decide +kernel
theorem dX7_line_33 : decode cX7_line 33 = .ok (.if_icmp .ne 17, 3) := by decide +kernel
theorem dX7_line_36 : decode cX7_line 36 = .ok (.aload_n 0, 1) := by decide +kernel
theorem dX7_line_37 : decode cX7_line 37 = .ok (.getfield 16, 3) := by decide +kernel
theorem dX7_line_40 : decode cX7_line 40 = .ok (.bipush 32, 2) := by decide +kernel
theorem dX7_line_42 : decode cX7_line 42 = .ok (.iload_n 1, 1) := by decide +kernel
theorem dX7_line_43 : decode cX7_line 43 = .ok (.imul, 1) := by decide +kernel
theorem dX7_line_44 : decode cX7_line 44 = .ok (.iload_n 2, 1) := by decide +kernel
theorem dX7_line_45 : decode cX7_line 45 = .ok (.iadd, 1) := by decide +kernel
theorem dX7_line_46 : decode cX7_line 46 = .ok (.iaload, 1) := by decide +kernel
theorem dX7_line_47 : decode cX7_line 47 = .ok (.goto 4, 3) := by decide +kernel
theorem dX7_line_50 : decode cX7_line 50 = .ok (.iconst (-1), 1) := by decide +kernel
theorem dX7_line_51 : decode cX7_line 51 = .ok (.ireturn, 1) := by decide +kernel
theorem dX7_finding_0 : decode cX7_finding 0 = .ok (.aload_n 0, 1) := by decide +kernel
theorem dX7_finding_1 : decode cX7_finding 1 = .ok (.iload_n 1, 1) := by decide +kernel
theorem dX7_finding_2 : decode cX7_finding 2 = .ok (.invokevirtual 176, 3) := by decide +kernel
theorem dX7_finding_5 : decode cX7_finding 5 = .ok (.ifCond .ne 5, 3) := by decide +kernel
theorem dX7_finding_8 : decode cX7_finding 8 = .ok (.iconst (-1), 1) := by decide +kernel
theorem dX7_finding_9 : decode cX7_finding 9 = .ok (.ireturn, 1) := by decide +kernel
theorem dX7_finding_10 : decode cX7_finding 10 = .ok (.iload_n 2, 1) := by decide +kernel
theorem dX7_finding_11 : decode cX7_finding 11 = .ok (.tableswitch 137 0 7 #[45, 52, 59, 66, 73, 80, 94, 118], 45) := by decide +kernel
theorem dX7_finding_56 : decode cX7_finding 56 = .ok (.aload_n 0, 1) := by decide +kernel
theorem dX7_finding_57 : decode cX7_finding 57 = .ok (.getfield 19, 3) := by decide +kernel
theorem dX7_finding_60 : decode cX7_finding 60 = .ok (.iload_n 1, 1) := by decide +kernel
theorem dX7_finding_61 : decode cX7_finding 61 = .ok (.iaload, 1) := by decide +kernel
theorem dX7_finding_62 : decode cX7_finding 62 = .ok (.ireturn, 1) := by decide +kernel
theorem dX7_finding_63 : decode cX7_finding 63 = .ok (.aload_n 0, 1) := by decide +kernel
theorem dX7_finding_64 : decode cX7_finding 64 = .ok (.getfield 22, 3) := by decide +kernel
theorem dX7_finding_67 : decode cX7_finding 67 = .ok (.iload_n 1, 1) := by decide +kernel
theorem dX7_finding_68 : decode cX7_finding 68 = .ok (.iaload, 1) := by decide +kernel
theorem dX7_finding_69 : decode cX7_finding 69 = .ok (.ireturn, 1) := by decide +kernel
theorem dX7_finding_70 : decode cX7_finding 70 = .ok (.aload_n 0, 1) := by decide +kernel
theorem dX7_finding_71 : decode cX7_finding 71 = .ok (.getfield 25, 3) := by decide +kernel
theorem dX7_finding_74 : decode cX7_finding 74 = .ok (.iload_n 1, 1) := by decide +kernel
theorem dX7_finding_75 : decode cX7_finding 75 = .ok (.iaload, 1) := by decide +kernel
theorem dX7_finding_76 : decode cX7_finding 76 = .ok (.ireturn, 1) := by decide +kernel
theorem dX7_finding_77 : decode cX7_finding 77 = .ok (.aload_n 0, 1) := by decide +kernel
theorem dX7_finding_78 : decode cX7_finding 78 = .ok (.getfield 28, 3) := by decide +kernel
theorem dX7_finding_81 : decode cX7_finding 81 = .ok (.iload_n 1, 1) := by decide +kernel
theorem dX7_finding_82 : decode cX7_finding 82 = .ok (.iaload, 1) := by decide +kernel
theorem dX7_finding_83 : decode cX7_finding 83 = .ok (.ireturn, 1) := by decide +kernel
theorem dX7_finding_84 : decode cX7_finding 84 = .ok (.aload_n 0, 1) := by decide +kernel
theorem dX7_finding_85 : decode cX7_finding 85 = .ok (.getfield 31, 3) := by decide +kernel
theorem dX7_finding_88 : decode cX7_finding 88 = .ok (.iload_n 1, 1) := by decide +kernel
theorem dX7_finding_89 : decode cX7_finding 89 = .ok (.iaload, 1) := by decide +kernel
theorem dX7_finding_90 : decode cX7_finding 90 = .ok (.ireturn, 1) := by decide +kernel
theorem dX7_finding_91 : decode cX7_finding 91 = .ok (.aload_n 0, 1) := by decide +kernel
theorem dX7_finding_92 : decode cX7_finding 92 = .ok (.iload_n 1, 1) := by decide +kernel
theorem dX7_finding_93 : decode cX7_finding 93 = .ok (.invokevirtual 179, 3) := by decide +kernel
theorem dX7_finding_96 : decode cX7_finding 96 = .ok (.ifCond .eq 7, 3) := by decide +kernel
theorem dX7_finding_99 : decode cX7_finding 99 = .ok (.iconst 1, 1) := by decide +kernel
theorem dX7_finding_100 : decode cX7_finding 100 = .ok (.goto 4, 3) := by decide +kernel
theorem dX7_finding_103 : decode cX7_finding 103 = .ok (.iconst 0, 1) := by decide +kernel
theorem dX7_finding_104 : decode cX7_finding 104 = .ok (.ireturn, 1) := by decide +kernel
theorem dX7_finding_105 : decode cX7_finding 105 = .ok (.aload_n 0, 1) := by decide +kernel
theorem dX7_finding_106 : decode cX7_finding 106 = .ok (.iload_n 1, 1) := by decide +kernel
theorem dX7_finding_107 : decode cX7_finding 107 = .ok (.invokevirtual 179, 3) := by decide +kernel
theorem dX7_finding_110 : decode cX7_finding 110 = .ok (.ifCond .eq 17, 3) := by decide +kernel
theorem dX7_finding_113 : decode cX7_finding 113 = .ok (.aload_n 0, 1) := by decide +kernel
theorem dX7_finding_114 : decode cX7_finding 114 = .ok (.getfield 34, 3) := by decide +kernel
theorem dX7_finding_117 : decode cX7_finding 117 = .ok (.iload_n 1, 1) := by decide +kernel
theorem dX7_finding_118 : decode cX7_finding 118 = .ok (.iaload, 1) := by decide +kernel
theorem dX7_finding_119 : decode cX7_finding 119 = .ok (.aload_n 0, 1) := by decide +kernel
theorem dX7_finding_120 : decode cX7_finding 120 = .ok (.getfield 173, 3) := by decide +kernel
theorem dX7_finding_123 : decode cX7_finding 123 = .ok (.isub, 1) := by decide +kernel
theorem dX7_finding_124 : decode cX7_finding 124 = .ok (.goto 4, 3) := by decide +kernel
theorem dX7_finding_127 : decode cX7_finding 127 = .ok (.iconst 0, 1) := by decide +kernel
theorem dX7_finding_128 : decode cX7_finding 128 = .ok (.ireturn, 1) := by decide +kernel
theorem dX7_finding_129 : decode cX7_finding 129 = .ok (.aload_n 0, 1) := by decide +kernel
theorem dX7_finding_130 : decode cX7_finding 130 = .ok (.iload_n 1, 1) := by decide +kernel
theorem dX7_finding_131 : decode cX7_finding 131 = .ok (.invokevirtual 179, 3) := by decide +kernel
theorem dX7_finding_134 : decode cX7_finding 134 = .ok (.ifCond .eq 12, 3) := by decide +kernel
theorem dX7_finding_137 : decode cX7_finding 137 = .ok (.aload_n 0, 1) := by decide +kernel
theorem dX7_finding_138 : decode cX7_finding 138 = .ok (.getfield 37, 3) := by decide +kernel
theorem dX7_finding_141 : decode cX7_finding 141 = .ok (.iload_n 1, 1) := by decide +kernel
theorem dX7_finding_142 : decode cX7_finding 142 = .ok (.iaload, 1) := by decide +kernel
theorem dX7_finding_143 : decode cX7_finding 143 = .ok (.goto 4, 3) := by decide +kernel
theorem dX7_finding_146 : decode cX7_finding 146 = .ok (.iconst (-1), 1) := by decide +kernel
theorem dX7_finding_147 : decode cX7_finding 147 = .ok (.ireturn, 1) := by decide +kernel
theorem dX7_finding_148 : decode cX7_finding 148 = .ok (.iconst (-1), 1) := by decide +kernel
theorem dX7_finding_149 : decode cX7_finding 149 = .ok (.ireturn, 1) := by decide +kernel
theorem dX7_since_0 : decode cX7_since 0 = .ok (.iload_n 2, 1) := by decide +kernel
theorem dX7_since_1 : decode cX7_since 1 = .ok (.iconst 0, 1) := by decide +kernel
theorem dX7_since_2 : decode cX7_since 2 = .ok (.iconst 1, 1) := by decide +kernel
theorem dX7_since_3 : decode cX7_since 3 = .ok (.invokestatic 76, 3) := by decide +kernel
theorem dX7_since_6 : decode cX7_since 6 = .ok (.ifCond .ne 5, 3) := by decide +kernel
theorem dX7_since_9 : decode cX7_since 9 = .ok (.iconst (-1), 1) := by decide +kernel
theorem dX7_since_10 : decode cX7_since 10 = .ok (.ireturn, 1) := by decide +kernel
theorem dX7_since_11 : decode cX7_since 11 = .ok (.iconst 0, 1) := by decide +kernel
theorem dX7_since_12 : decode cX7_since 12 = .ok (.istore_n 3, 1) := by decide +kernel
theorem dX7_since_13 : decode cX7_since 13 = .ok (.iconst 0, 1) := by decide +kernel
theorem dX7_since_14 : decode cX7_since 14 = .ok (.istore 4, 2) := by decide +kernel
theorem dX7_since_16 : decode cX7_since 16 = .ok (.iload 4, 2) := by decide +kernel
theorem dX7_since_18 : decode cX7_since 18 = .ok (.aload_n 0, 1) := by decide +kernel
theorem dX7_since_19 : decode cX7_since 19 = .ok (.getfield 118, 3) := by decide +kernel
theorem dX7_since_22 : decode cX7_since 22 = .ok (.if_icmp .ge 41, 3) := by decide +kernel
theorem dX7_since_25 : decode cX7_since 25 = .ok (.iload_n 3, 1) := by decide +kernel
theorem dX7_since_26 : decode cX7_since 26 = .ok (.aload_n 0, 1) := by decide +kernel
theorem dX7_since_27 : decode cX7_since 27 = .ok (.getfield 31, 3) := by decide +kernel
theorem dX7_since_30 : decode cX7_since 30 = .ok (.iload 4, 2) := by decide +kernel
theorem dX7_since_32 : decode cX7_since 32 = .ok (.iaload, 1) := by decide +kernel
theorem dX7_since_33 : decode cX7_since 33 = .ok (.iload_n 1, 1) := by decide +kernel
theorem dX7_since_34 : decode cX7_since 34 = .ok (.if_icmp .le 20, 3) := by decide +kernel
theorem dX7_since_37 : decode cX7_since 37 = .ok (.iload_n 2, 1) := by decide +kernel
theorem dX7_since_38 : decode cX7_since 38 = .ok (.ifCond .eq 12, 3) := by decide +kernel
theorem dX7_since_41 : decode cX7_since 41 = .ok (.aload_n 0, 1) := by decide +kernel
theorem dX7_since_42 : decode cX7_since 42 = .ok (.iload 4, 2) := by decide +kernel
theorem dX7_since_44 : decode cX7_since 44 = .ok (.invokevirtual 179, 3) := by decide +kernel
theorem dX7_since_47 : decode cX7_since 47 = .ok (.ifCond .ne 7, 3) := by decide +kernel
theorem dX7_since_50 : decode cX7_since 50 = .ok (.iconst 1, 1) := by decide +kernel
theorem dX7_since_51 : decode cX7_since 51 = .ok (.goto 4, 3) := by decide +kernel
theorem dX7_since_54 : decode cX7_since 54 = .ok (.iconst 0, 1) := by decide +kernel
theorem dX7_since_55 : decode cX7_since 55 = .ok (.iadd, 1) := by decide +kernel
theorem dX7_since_56 : decode cX7_since 56 = .ok (.istore_n 3, 1) := by decide +kernel
theorem dX7_since_57 : decode cX7_since 57 = .ok (.iinc 4 1, 3) := by decide +kernel
theorem dX7_since_60 : decode cX7_since 60 = .ok (.goto (-44), 3) := by decide +kernel
theorem dX7_since_63 : decode cX7_since 63 = .ok (.iload_n 3, 1) := by decide +kernel
theorem dX7_since_64 : decode cX7_since 64 = .ok (.ireturn, 1) := by decide +kernel
