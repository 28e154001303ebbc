theorem d_M_close_18 : decode prog_7_method_11_code 18 = .ok (.return_, 1) := by decide +kernel
theorem d_M_tellItself_0 : decode prog_7_method_7_code 0 = .ok (.iconst 0, 1) := by decide +kernel
theorem d_M_tellItself_1 : decode prog_7_method_7_code 1 = .ok (.istore_n 1, 1) := by decide +kernel
theorem d_M_tellItself_2 : decode prog_7_method_7_code 2 = .ok (.iload_n 1, 1) := by decide +kernel
theorem d_M_tellItself_3 : decode prog_7_method_7_code 3 = .ok (.aload_n 0, 1) := by decide +kernel
theorem d_M_tellItself_4 : decode prog_7_method_7_code 4 = .ok (.getfield 60, 3) := by decide +kernel
theorem d_M_tellItself_7 : decode prog_7_method_7_code 7 = .ok (.if_icmp .ge 58, 3) := by decide +kernel
theorem d_M_tellItself_10 : decode prog_7_method_7_code 10 = .ok (.iconst 0, 1) := by decide +kernel
theorem d_M_tellItself_11 : decode prog_7_method_7_code 11 = .ok (.istore_n 2, 1) := by decide +kernel
theorem d_M_tellItself_12 : decode prog_7_method_7_code 12 = .ok (.iload_n 2, 1) := by decide +kernel
theorem d_M_tellItself_13 : decode prog_7_method_7_code 13 = .ok (.bipush 20, 2) := by decide +kernel
theorem d_M_tellItself_15 : decode prog_7_method_7_code 15 = .ok (.if_icmp .gt 44, 3) := by decide +kernel
theorem d_M_tellItself_18 : decode prog_7_method_7_code 18 = .ok (.iload_n 2, 1) := by decide +kernel
theorem d_M_tellItself_19 : decode prog_7_method_7_code 19 = .ok (.aload_n 0, 1) := by decide +kernel
theorem d_M_tellItself_20 : decode prog_7_method_7_code 20 = .ok (.getfield 60, 3) := by decide +kernel
theorem d_M_tellItself_23 : decode prog_7_method_7_code 23 = .ok (.if_icmp .lt 9, 3) := by decide +kernel
theorem d_M_tellItself_26 : decode prog_7_method_7_code 26 = .ok (.iload_n 2, 1) := by decide +kernel
theorem d_M_tellItself_27 : decode prog_7_method_7_code 27 = .ok (.bipush 20, 2) := by decide +kernel
theorem d_M_tellItself_29 : decode prog_7_method_7_code 29 = .ok (.if_icmp .ne 24, 3) := by decide +kernel
theorem d_M_tellItself_32 : decode prog_7_method_7_code 32 = .ok (.aload_n 0, 1) := by decide +kernel
theorem d_M_tellItself_33 : decode prog_7_method_7_code 33 = .ok (.iload_n 1, 1) := by decide +kernel
theorem d_M_tellItself_34 : decode prog_7_method_7_code 34 = .ok (.iload_n 2, 1) := by decide +kernel
theorem d_M_tellItself_35 : decode prog_7_method_7_code 35 = .ok (.invokevirtual 70, 3) := by decide +kernel
theorem d_M_tellItself_38 : decode prog_7_method_7_code 38 = .ok (.ifCond .eq 15, 3) := by decide +kernel
theorem d_M_tellItself_41 : decode prog_7_method_7_code 41 = .ok (.aload_n 0, 1) := by decide +kernel
theorem d_M_tellItself_42 : decode prog_7_method_7_code 42 = .ok (.getfield 30, 3) := by decide +kernel
theorem d_M_tellItself_45 : decode prog_7_method_7_code 45 = .ok (.bipush 21, 2) := by decide +kernel
theorem d_M_tellItself_47 : decode prog_7_method_7_code 47 = .ok (.iload_n 1, 1) := by decide +kernel
theorem d_M_tellItself_48 : decode prog_7_method_7_code 48 = .ok (.imul, 1) := by decide +kernel
theorem d_M_tellItself_49 : decode prog_7_method_7_code 49 = .ok (.iload_n 2, 1) := by decide +kernel
theorem d_M_tellItself_50 : decode prog_7_method_7_code 50 = .ok (.iadd, 1) := by decide +kernel
theorem d_M_tellItself_51 : decode prog_7_method_7_code 51 = .ok (.iconst 1, 1) := by decide +kernel
theorem d_M_tellItself_52 : decode prog_7_method_7_code 52 = .ok (.iastore, 1) := by decide +kernel
theorem d_M_tellItself_53 : decode prog_7_method_7_code 53 = .ok (.iinc 2 1, 3) := by decide +kernel
theorem d_M_tellItself_56 : decode prog_7_method_7_code 56 = .ok (.goto (-44), 3) := by decide +kernel
theorem d_M_tellItself_59 : decode prog_7_method_7_code 59 = .ok (.iinc 1 1, 3) := by decide +kernel
theorem d_M_tellItself_62 : decode prog_7_method_7_code 62 = .ok (.goto (-60), 3) := by decide +kernel
theorem d_M_tellItself_65 : decode prog_7_method_7_code 65 = .ok (.return_, 1) := by decide +kernel
theorem d_M_isItself_0 : decode prog_7_method_6_code 0 = .ok (.iload_n 1, 1) := by decide +kernel
theorem d_M_isItself_1 : decode prog_7_method_6_code 1 = .ok (.iload_n 2, 1) := by decide +kernel
theorem d_M_isItself_2 : decode prog_7_method_6_code 2 = .ok (.if_icmp .ne 7, 3) := by decide +kernel
theorem d_M_isItself_5 : decode prog_7_method_6_code 5 = .ok (.iconst 1, 1) := by decide +kernel
theorem d_M_isItself_6 : decode prog_7_method_6_code 6 = .ok (.goto 4, 3) := by decide +kernel
theorem d_M_isItself_9 : decode prog_7_method_6_code 9 = .ok (.iconst 0, 1) := by decide +kernel
theorem d_M_isItself_10 : decode prog_7_method_6_code 10 = .ok (.istore_n 3, 1) := by decide +kernel
theorem d_M_isItself_11 : decode prog_7_method_6_code 11 = .ok (.iconst 0, 1) := by decide +kernel
theorem d_M_isItself_12 : decode prog_7_method_6_code 12 = .ok (.istore 4, 2) := by decide +kernel
theorem d_M_isItself_14 : decode prog_7_method_6_code 14 = .ok (.iload 4, 2) := by decide +kernel
theorem d_M_isItself_16 : decode prog_7_method_6_code 16 = .ok (.aload_n 0, 1) := by decide +kernel
theorem d_M_isItself_17 : decode prog_7_method_6_code 17 = .ok (.getfield 67, 3) := by decide +kernel
theorem d_M_isItself_20 : decode prog_7_method_6_code 20 = .ok (.if_icmp .ge 62, 3) := by decide +kernel
theorem d_M_isItself_23 : decode prog_7_method_6_code 23 = .ok (.iload_n 3, 1) := by decide +kernel
theorem d_M_isItself_24 : decode prog_7_method_6_code 24 = .ok (.ifCond .ne 46, 3) := by decide +kernel
theorem d_M_isItself_27 : decode prog_7_method_6_code 27 = .ok (.aload_n 0, 1) := by decide +kernel
theorem d_M_isItself_28 : decode prog_7_method_6_code 28 = .ok (.getfield 23, 3) := by decide +kernel
theorem d_M_isItself_31 : decode prog_7_method_6_code 31 = .ok (.iload 4, 2) := by decide +kernel
theorem d_M_isItself_33 : decode prog_7_method_6_code 33 = .ok (.baload, 1) := by decide +kernel
theorem d_M_isItself_34 : decode prog_7_method_6_code 34 = .ok (.ifCond .eq 40, 3) := by decide +kernel
theorem d_M_isItself_37 : decode prog_7_method_6_code 37 = .ok (.aload_n 0, 1) := by decide +kernel
theorem d_M_isItself_38 : decode prog_7_method_6_code 38 = .ok (.getfield 13, 3) := by decide +kernel
theorem d_M_isItself_41 : decode prog_7_method_6_code 41 = .ok (.iload 4, 2) := by decide +kernel
theorem d_M_isItself_43 : decode prog_7_method_6_code 43 = .ok (.iaload, 1) := by decide +kernel
theorem d_M_isItself_44 : decode prog_7_method_6_code 44 = .ok (.iload_n 1, 1) := by decide +kernel
theorem d_M_isItself_45 : decode prog_7_method_6_code 45 = .ok (.if_icmp .ne 29, 3) := by decide +kernel
theorem d_M_isItself_48 : decode prog_7_method_6_code 48 = .ok (.aload_n 0, 1) := by decide +kernel
theorem d_M_isItself_49 : decode prog_7_method_6_code 49 = .ok (.getfield 17, 3) := by decide +kernel
theorem d_M_isItself_52 : decode prog_7_method_6_code 52 = .ok (.iload 4, 2) := by decide +kernel
theorem d_M_isItself_54 : decode prog_7_method_6_code 54 = .ok (.iaload, 1) := by decide +kernel
theorem d_M_isItself_55 : decode prog_7_method_6_code 55 = .ok (.iconst (-1), 1) := by decide +kernel
theorem d_M_isItself_56 : decode prog_7_method_6_code 56 = .ok (.if_icmp .ne 18, 3) := by decide +kernel
theorem d_M_isItself_59 : decode prog_7_method_6_code 59 = .ok (.aload_n 0, 1) := by decide +kernel
theorem d_M_isItself_60 : decode prog_7_method_6_code 60 = .ok (.getfield 20, 3) := by decide +kernel
theorem d_M_isItself_63 : decode prog_7_method_6_code 63 = .ok (.iload 4, 2) := by decide +kernel
theorem d_M_isItself_65 : decode prog_7_method_6_code 65 = .ok (.iaload, 1) := by decide +kernel
theorem d_M_isItself_66 : decode prog_7_method_6_code 66 = .ok (.iload_n 2, 1) := by decide +kernel
theorem d_M_isItself_67 : decode prog_7_method_6_code 67 = .ok (.if_icmp .ne 7, 3) := by decide +kernel
theorem d_M_isItself_70 : decode prog_7_method_6_code 70 = .ok (.iconst 1, 1) := by decide +kernel
theorem d_M_isItself_71 : decode prog_7_method_6_code 71 = .ok (.goto 4, 3) := by decide +kernel
theorem d_M_isItself_74 : decode prog_7_method_6_code 74 = .ok (.iconst 0, 1) := by decide +kernel
theorem d_M_isItself_75 : decode prog_7_method_6_code 75 = .ok (.istore_n 3, 1) := by decide +kernel
theorem d_M_isItself_76 : decode prog_7_method_6_code 76 = .ok (.iinc 4 1, 3) := by decide +kernel
theorem d_M_isItself_79 : decode prog_7_method_6_code 79 = .ok (.goto (-65), 3) := by decide +kernel
theorem d_M_isItself_82 : decode prog_7_method_6_code 82 = .ok (.iload_n 3, 1) := by decide +kernel
theorem d_M_isItself_83 : decode prog_7_method_6_code 83 = .ok (.ireturn, 1) := by decide +kernel
theorem d_M_closeOnce_0 : decode prog_7_method_9_code 0 = .ok (.iconst 0, 1) := by decide +kernel
theorem d_M_closeOnce_1 : decode prog_7_method_9_code 1 = .ok (.istore_n 1, 1) := by decide +kernel
theorem d_M_closeOnce_2 : decode prog_7_method_9_code 2 = .ok (.iconst 0, 1) := by decide +kernel
theorem d_M_closeOnce_3 : decode prog_7_method_9_code 3 = .ok (.istore_n 2, 1) := by decide +kernel
theorem d_M_closeOnce_4 : decode prog_7_method_9_code 4 = .ok (.iload_n 2, 1) := by decide +kernel
theorem d_M_closeOnce_5 : decode prog_7_method_9_code 5 = .ok (.aload_n 0, 1) := by decide +kernel
theorem d_M_closeOnce_6 : decode prog_7_method_9_code 6 = .ok (.getfield 60, 3) := by decide +kernel
theorem d_M_closeOnce_9 : decode prog_7_method_9_code 9 = .ok (.if_icmp .ge 106, 3) := by decide +kernel
theorem d_M_closeOnce_12 : decode prog_7_method_9_code 12 = .ok (.iconst 0, 1) := by decide +kernel
theorem d_M_closeOnce_13 : decode prog_7_method_9_code 13 = .ok (.istore_n 3, 1) := by decide +kernel
theorem d_M_closeOnce_14 : decode prog_7_method_9_code 14 = .ok (.iload_n 3, 1) := by decide +kernel
theorem d_M_closeOnce_15 : decode prog_7_method_9_code 15 = .ok (.bipush 20, 2) := by decide +kernel
theorem d_M_closeOnce_17 : decode prog_7_method_9_code 17 = .ok (.if_icmp .gt 92, 3) := by decide +kernel
theorem d_M_closeOnce_20 : decode prog_7_method_9_code 20 = .ok (.aload_n 0, 1) := by decide +kernel
theorem d_M_closeOnce_21 : decode prog_7_method_9_code 21 = .ok (.iload_n 3, 1) := by decide +kernel
theorem d_M_closeOnce_22 : decode prog_7_method_9_code 22 = .ok (.invokevirtual 74, 3) := by decide +kernel
theorem d_M_closeOnce_25 : decode prog_7_method_9_code 25 = .ok (.ifCond .eq 78, 3) := by decide +kernel
theorem d_M_closeOnce_28 : decode prog_7_method_9_code 28 = .ok (.aload_n 0, 1) := by decide +kernel
theorem d_M_closeOnce_29 : decode prog_7_method_9_code 29 = .ok (.iload_n 2, 1) := by decide +kernel
theorem d_M_closeOnce_30 : decode prog_7_method_9_code 30 = .ok (.iload_n 3, 1) := by decide +kernel
theorem d_M_closeOnce_31 : decode prog_7_method_9_code 31 = .ok (.invokevirtual 77, 3) := by decide +kernel
theorem d_M_closeOnce_34 : decode prog_7_method_9_code 34 = .ok (.ifCond .eq 69, 3) := by decide +kernel
theorem d_M_closeOnce_37 : decode prog_7_method_9_code 37 = .ok (.iconst 0, 1) := by decide +kernel
theorem d_M_closeOnce_38 : decode prog_7_method_9_code 38 = .ok (.istore 4, 2) := by decide +kernel
theorem d_M_closeOnce_40 : decode prog_7_method_9_code 40 = .ok (.iload 4, 2) := by decide +kernel
theorem d_M_closeOnce_42 : decode prog_7_method_9_code 42 = .ok (.bipush 20, 2) := by decide +kernel
theorem d_M_closeOnce_44 : decode prog_7_method_9_code 44 = .ok (.if_icmp .gt 59, 3) := by decide +kernel
theorem d_M_closeOnce_47 : decode prog_7_method_9_code 47 = .ok (.aload_n 0, 1) := by decide +kernel
theorem d_M_closeOnce_48 : decode prog_7_method_9_code 48 = .ok (.iload 4, 2) := by decide +kernel
theorem d_M_closeOnce_50 : decode prog_7_method_9_code 50 = .ok (.invokevirtual 74, 3) := by decide +kernel
theorem d_M_closeOnce_53 : decode prog_7_method_9_code 53 = .ok (.ifCond .eq 44, 3) := by decide +kernel
theorem d_M_closeOnce_56 : decode prog_7_method_9_code 56 = .ok (.aload_n 0, 1) := by decide +kernel
theorem d_M_closeOnce_57 : decode prog_7_method_9_code 57 = .ok (.iload_n 3, 1) := by decide +kernel
theorem d_M_closeOnce_58 : decode prog_7_method_9_code 58 = .ok (.iload 4, 2) := by decide +kernel
theorem d_M_closeOnce_60 : decode prog_7_method_9_code 60 = .ok (.invokevirtual 77, 3) := by decide +kernel
theorem d_M_closeOnce_63 : decode prog_7_method_9_code 63 = .ok (.ifCond .eq 34, 3) := by decide +kernel
theorem d_M_closeOnce_66 : decode prog_7_method_9_code 66 = .ok (.aload_n 0, 1) := by decide +kernel
theorem d_M_closeOnce_67 : decode prog_7_method_9_code 67 = .ok (.getfield 30, 3) := by decide +kernel
theorem d_M_closeOnce_70 : decode prog_7_method_9_code 70 = .ok (.bipush 21, 2) := by decide +kernel
theorem d_M_closeOnce_72 : decode prog_7_method_9_code 72 = .ok (.iload_n 2, 1) := by decide +kernel
theorem d_M_closeOnce_73 : decode prog_7_method_9_code 73 = .ok (.imul, 1) := by decide +kernel
theorem d_M_closeOnce_74 : decode prog_7_method_9_code 74 = .ok (.iload 4, 2) := by decide +kernel
theorem d_M_closeOnce_76 : decode prog_7_method_9_code 76 = .ok (.iadd, 1) := by decide +kernel
theorem d_M_closeOnce_77 : decode prog_7_method_9_code 77 = .ok (.iaload, 1) := by decide +kernel
theorem d_M_closeOnce_78 : decode prog_7_method_9_code 78 = .ok (.iconst 1, 1) := by decide +kernel
theorem d_M_closeOnce_79 : decode prog_7_method_9_code 79 = .ok (.if_icmp .eq 18, 3) := by decide +kernel
theorem d_M_closeOnce_82 : decode prog_7_method_9_code 82 = .ok (.aload_n 0, 1) := by decide +kernel
theorem d_M_closeOnce_83 : decode prog_7_method_9_code 83 = .ok (.getfield 30, 3) := by decide +kernel
theorem d_M_closeOnce_86 : decode prog_7_method_9_code 86 = .ok (.bipush 21, 2) := by decide +kernel
theorem d_M_closeOnce_88 : decode prog_7_method_9_code 88 = .ok (.iload_n 2, 1) := by decide +kernel
theorem d_M_closeOnce_89 : decode prog_7_method_9_code 89 = .ok (.imul, 1) := by decide +kernel
theorem d_M_closeOnce_90 : decode prog_7_method_9_code 90 = .ok (.iload 4, 2) := by decide +kernel
theorem d_M_closeOnce_92 : decode prog_7_method_9_code 92 = .ok (.iadd, 1) := by decide +kernel
theorem d_M_closeOnce_93 : decode prog_7_method_9_code 93 = .ok (.iconst 1, 1) := by decide +kernel
theorem d_M_closeOnce_94 : decode prog_7_method_9_code 94 = .ok (.iastore, 1) := by decide +kernel
theorem d_M_closeOnce_95 : decode prog_7_method_9_code 95 = .ok (.iconst 1, 1) := by decide +kernel
theorem d_M_closeOnce_96 : decode prog_7_method_9_code 96 = .ok (.istore_n 1, 1) := by decide +kernel
theorem d_M_closeOnce_97 : decode prog_7_method_9_code 97 = .ok (.iinc 4 1, 3) := by decide +kernel
theorem d_M_closeOnce_100 : decode prog_7_method_9_code 100 = .ok (.goto (-60), 3) := by decide +kernel
theorem d_M_closeOnce_103 : decode prog_7_method_9_code 103 = .ok (.iinc 3 1, 3) := by decide +kernel
theorem d_M_closeOnce_106 : decode prog_7_method_9_code 106 = .ok (.goto (-92), 3) := by decide +kernel
theorem d_M_closeOnce_109 : decode prog_7_method_9_code 109 = .ok (.iinc 2 1, 3) := by decide +kernel
theorem d_M_closeOnce_112 : decode prog_7_method_9_code 112 = .ok (.goto (-108), 3) := by decide +kernel
theorem d_M_closeOnce_115 : decode prog_7_method_9_code 115 = .ok (.iconst 0, 1) := by decide +kernel
theorem d_M_closeOnce_116 : decode prog_7_method_9_code 116 = .ok (.istore_n 2, 1) := by decide +kernel
theorem d_M_closeOnce_117 : decode prog_7_method_9_code 117 = .ok (.iload_n 2, 1) := by decide +kernel
theorem d_M_closeOnce_118 : decode prog_7_method_9_code 118 = .ok (.aload_n 0, 1) := by decide +kernel
theorem d_M_closeOnce_119 : decode prog_7_method_9_code 119 = .ok (.getfield 60, 3) := by decide +kernel
theorem d_M_closeOnce_122 : decode prog_7_method_9_code 122 = .ok (.if_icmp .ge 64, 3) := by decide +kernel
theorem d_M_closeOnce_125 : decode prog_7_method_9_code 125 = .ok (.iconst 0, 1) := by decide +kernel
theorem d_M_closeOnce_126 : decode prog_7_method_9_code 126 = .ok (.istore_n 3, 1) := by decide +kernel
theorem d_M_closeOnce_127 : decode prog_7_method_9_code 127 = .ok (.iload_n 3, 1) := by decide +kernel
theorem d_M_closeOnce_128 : decode prog_7_method_9_code 128 = .ok (.bipush 20, 2) := by decide +kernel
theorem d_M_closeOnce_130 : decode prog_7_method_9_code 130 = .ok (.if_icmp .gt 50, 3) := by decide +kernel
theorem d_M_closeOnce_133 : decode prog_7_method_9_code 133 = .ok (.aload_n 0, 1) := by decide +kernel
theorem d_M_closeOnce_134 : decode prog_7_method_9_code 134 = .ok (.iload_n 3, 1) := by decide +kernel
theorem d_M_closeOnce_135 : decode prog_7_method_9_code 135 = .ok (.invokevirtual 74, 3) := by decide +kernel
theorem d_M_closeOnce_138 : decode prog_7_method_9_code 138 = .ok (.ifCond .eq 36, 3) := by decide +kernel
theorem d_M_closeOnce_141 : decode prog_7_method_9_code 141 = .ok (.aload_n 0, 1) := by decide +kernel
theorem d_M_closeOnce_142 : decode prog_7_method_9_code 142 = .ok (.getfield 30, 3) := by decide +kernel
theorem d_M_closeOnce_145 : decode prog_7_method_9_code 145 = .ok (.bipush 21, 2) := by decide +kernel
theorem d_M_closeOnce_147 : decode prog_7_method_9_code 147 = .ok (.iload_n 2, 1) := by decide +kernel
theorem d_M_closeOnce_148 : decode prog_7_method_9_code 148 = .ok (.imul, 1) := by decide +kernel
theorem d_M_closeOnce_149 : decode prog_7_method_9_code 149 = .ok (.iload_n 3, 1) := by decide +kernel
theorem d_M_closeOnce_150 : decode prog_7_method_9_code 150 = .ok (.iadd, 1) := by decide +kernel
theorem d_M_closeOnce_151 : decode prog_7_method_9_code 151 = .ok (.iaload, 1) := by decide +kernel
theorem d_M_closeOnce_152 : decode prog_7_method_9_code 152 = .ok (.ifCond .ne 22, 3) := by decide +kernel
theorem d_M_closeOnce_155 : decode prog_7_method_9_code 155 = .ok (.aload_n 0, 1) := by decide +kernel
theorem d_M_closeOnce_156 : decode prog_7_method_9_code 156 = .ok (.iload_n 2, 1) := by decide +kernel
theorem d_M_closeOnce_157 : decode prog_7_method_9_code 157 = .ok (.iload_n 3, 1) := by decide +kernel
theorem d_M_closeOnce_158 : decode prog_7_method_9_code 158 = .ok (.invokevirtual 80, 3) := by decide +kernel
theorem d_M_closeOnce_161 : decode prog_7_method_9_code 161 = .ok (.ifCond .ne 7, 3) := by decide +kernel
theorem d_M_closeOnce_164 : decode prog_7_method_9_code 164 = .ok (.iload_n 1, 1) := by decide +kernel
theorem d_M_closeOnce_165 : decode prog_7_method_9_code 165 = .ok (.ifCond .eq 7, 3) := by decide +kernel
theorem d_M_closeOnce_168 : decode prog_7_method_9_code 168 = .ok (.iconst 1, 1) := by decide +kernel
theorem d_M_closeOnce_169 : decode prog_7_method_9_code 169 = .ok (.goto 4, 3) := by decide +kernel
theorem d_M_closeOnce_172 : decode prog_7_method_9_code 172 = .ok (.iconst 0, 1) := by decide +kernel
theorem d_M_closeOnce_173 : decode prog_7_method_9_code 173 = .ok (.istore_n 1, 1) := by decide +kernel
theorem d_M_closeOnce_174 : decode prog_7_method_9_code 174 = .ok (.iinc 3 1, 3) := by decide +kernel
theorem d_M_closeOnce_177 : decode prog_7_method_9_code 177 = .ok (.goto (-50), 3) := by decide +kernel
theorem d_M_closeOnce_180 : decode prog_7_method_9_code 180 = .ok (.iinc 2 1, 3) := by decide +kernel
theorem d_M_closeOnce_183 : decode prog_7_method_9_code 183 = .ok (.goto (-66), 3) := by decide +kernel
theorem d_M_closeOnce_186 : decode prog_7_method_9_code 186 = .ok (.iload_n 1, 1) := by decide +kernel
theorem d_M_closeOnce_187 : decode prog_7_method_9_code 187 = .ok (.ireturn, 1) := by decide +kernel
theorem d_M_isHere_0 : decode prog_7_method_8_code 0 = .ok (.iload_n 1, 1) := by decide +kernel
theorem d_M_isHere_1 : decode prog_7_method_8_code 1 = .ok (.aload_n 0, 1) := by decide +kernel
theorem d_M_isHere_2 : decode prog_7_method_8_code 2 = .ok (.getfield 60, 3) := by decide +kernel
theorem d_M_isHere_5 : decode prog_7_method_8_code 5 = .ok (.if_icmp .lt 9, 3) := by decide +kernel
theorem d_M_isHere_8 : decode prog_7_method_8_code 8 = .ok (.iload_n 1, 1) := by decide +kernel
theorem d_M_isHere_9 : decode prog_7_method_8_code 9 = .ok (.bipush 20, 2) := by decide +kernel
theorem d_M_isHere_11 : decode prog_7_method_8_code 11 = .ok (.if_icmp .ne 7, 3) := by decide +kernel
theorem d_M_isHere_14 : decode prog_7_method_8_code 14 = .ok (.iconst 1, 1) := by decide +kernel
theorem d_M_isHere_15 : decode prog_7_method_8_code 15 = .ok (.goto 4, 3) := by decide +kernel
theorem d_M_isHere_18 : decode prog_7_method_8_code 18 = .ok (.iconst 0, 1) := by decide +kernel
theorem d_M_isHere_19 : decode prog_7_method_8_code 19 = .ok (.ireturn, 1) := by decide +kernel
theorem d_M_below_0 : decode prog_7_method_5_code 0 = .ok (.iload_n 1, 1) := by decide +kernel
theorem d_M_below_1 : decode prog_7_method_5_code 1 = .ok (.bipush 20, 2) := by decide +kernel
theorem d_M_below_3 : decode prog_7_method_5_code 3 = .ok (.if_icmp .eq 18, 3) := by decide +kernel
theorem d_M_below_6 : decode prog_7_method_5_code 6 = .ok (.aload_n 0, 1) := by decide +kernel
theorem d_M_below_7 : decode prog_7_method_5_code 7 = .ok (.getfield 30, 3) := by decide +kernel
theorem d_M_below_10 : decode prog_7_method_5_code 10 = .ok (.bipush 21, 2) := by decide +kernel
theorem d_M_below_12 : decode prog_7_method_5_code 12 = .ok (.iload_n 1, 1) := by decide +kernel
theorem d_M_below_13 : decode prog_7_method_5_code 13 = .ok (.imul, 1) := by decide +kernel
theorem d_M_below_14 : decode prog_7_method_5_code 14 = .ok (.iload_n 2, 1) := by decide +kernel
theorem d_M_below_15 : decode prog_7_method_5_code 15 = .ok (.iadd, 1) := by decide +kernel
theorem d_M_below_16 : decode prog_7_method_5_code 16 = .ok (.iaload, 1) := by decide +kernel
theorem d_M_below_17 : decode prog_7_method_5_code 17 = .ok (.iconst 1, 1) := by decide +kernel
theorem d_M_below_18 : decode prog_7_method_5_code 18 = .ok (.if_icmp .ne 7, 3) := by decide +kernel
theorem d_M_below_21 : decode prog_7_method_5_code 21 = .ok (.iconst 1, 1) := by decide +kernel
theorem d_M_below_22 : decode prog_7_method_5_code 22 = .ok (.goto 4, 3) := by decide +kernel
theorem d_M_below_25 : decode prog_7_method_5_code 25 = .ok (.iconst 0, 1) := by decide +kernel
theorem d_M_below_26 : decode prog_7_method_5_code 26 = .ok (.ireturn, 1) := by decide +kernel
theorem d_M_spreadNo_0 : decode prog_7_method_10_code 0 = .ok (.iconst 0, 1) := by decide +kernel
theorem d_M_spreadNo_1 : decode prog_7_method_10_code 1 = .ok (.istore_n 3, 1) := by decide +kernel
theorem d_M_spreadNo_2 : decode prog_7_method_10_code 2 = .ok (.iconst 0, 1) := by decide +kernel
theorem d_M_spreadNo_3 : decode prog_7_method_10_code 3 = .ok (.istore 4, 2) := by decide +kernel
theorem d_M_spreadNo_5 : decode prog_7_method_10_code 5 = .ok (.iload 4, 2) := by decide +kernel
theorem d_M_spreadNo_7 : decode prog_7_method_10_code 7 = .ok (.aload_n 0, 1) := by decide +kernel
theorem d_M_spreadNo_8 : decode prog_7_method_10_code 8 = .ok (.getfield 60, 3) := by decide +kernel
theorem d_M_spreadNo_11 : decode prog_7_method_10_code 11 = .ok (.if_icmp .ge 96, 3) := by decide +kernel
theorem d_M_spreadNo_14 : decode prog_7_method_10_code 14 = .ok (.aload_n 0, 1) := by decide +kernel
theorem d_M_spreadNo_15 : decode prog_7_method_10_code 15 = .ok (.iload_n 1, 1) := by decide +kernel
theorem d_M_spreadNo_16 : decode prog_7_method_10_code 16 = .ok (.iload 4, 2) := by decide +kernel
theorem d_M_spreadNo_18 : decode prog_7_method_10_code 18 = .ok (.invokevirtual 77, 3) := by decide +kernel
theorem d_M_spreadNo_21 : decode prog_7_method_10_code 21 = .ok (.ifCond .eq 80, 3) := by decide +kernel
theorem d_M_spreadNo_24 : decode prog_7_method_10_code 24 = .ok (.iconst 0, 1) := by decide +kernel
theorem d_M_spreadNo_25 : decode prog_7_method_10_code 25 = .ok (.istore 5, 2) := by decide +kernel
theorem d_M_spreadNo_27 : decode prog_7_method_10_code 27 = .ok (.iload 5, 2) := by decide +kernel
theorem d_M_spreadNo_29 : decode prog_7_method_10_code 29 = .ok (.bipush 20, 2) := by decide +kernel
theorem d_M_spreadNo_31 : decode prog_7_method_10_code 31 = .ok (.if_icmp .gt 70, 3) := by decide +kernel
theorem d_M_spreadNo_34 : decode prog_7_method_10_code 34 = .ok (.aload_n 0, 1) := by decide +kernel
theorem d_M_spreadNo_35 : decode prog_7_method_10_code 35 = .ok (.getfield 30, 3) := by decide +kernel
theorem d_M_spreadNo_38 : decode prog_7_method_10_code 38 = .ok (.bipush 21, 2) := by decide +kernel
theorem d_M_spreadNo_40 : decode prog_7_method_10_code 40 = .ok (.iload 4, 2) := by decide +kernel
theorem d_M_spreadNo_42 : decode prog_7_method_10_code 42 = .ok (.imul, 1) := by decide +kernel
theorem d_M_spreadNo_43 : decode prog_7_method_10_code 43 = .ok (.iload 5, 2) := by decide +kernel
theorem d_M_spreadNo_45 : decode prog_7_method_10_code 45 = .ok (.iadd, 1) := by decide +kernel
theorem d_M_spreadNo_46 : decode prog_7_method_10_code 46 = .ok (.iaload, 1) := by decide +kernel
theorem d_M_spreadNo_47 : decode prog_7_method_10_code 47 = .ok (.istore 6, 2) := by decide +kernel
theorem d_M_spreadNo_49 : decode prog_7_method_10_code 49 = .ok (.aload_n 0, 1) := by decide +kernel
theorem d_M_spreadNo_50 : decode prog_7_method_10_code 50 = .ok (.iload 5, 2) := by decide +kernel
theorem d_M_spreadNo_52 : decode prog_7_method_10_code 52 = .ok (.invokevirtual 74, 3) := by decide +kernel
theorem d_M_spreadNo_55 : decode prog_7_method_10_code 55 = .ok (.ifCond .eq 40, 3) := by decide +kernel
theorem d_M_spreadNo_58 : decode prog_7_method_10_code 58 = .ok (.aload_n 0, 1) := by decide +kernel
theorem d_M_spreadNo_59 : decode prog_7_method_10_code 59 = .ok (.iload 5, 2) := by decide +kernel
theorem d_M_spreadNo_61 : decode prog_7_method_10_code 61 = .ok (.iload_n 2, 1) := by decide +kernel
theorem d_M_spreadNo_62 : decode prog_7_method_10_code 62 = .ok (.invokevirtual 77, 3) := by decide +kernel
theorem d_M_spreadNo_65 : decode prog_7_method_10_code 65 = .ok (.ifCond .eq 30, 3) := by decide +kernel
theorem d_M_spreadNo_68 : decode prog_7_method_10_code 68 = .ok (.iload 6, 2) := by decide +kernel
theorem d_M_spreadNo_70 : decode prog_7_method_10_code 70 = .ok (.ifCond .eq 25, 3) := by decide +kernel
theorem d_M_spreadNo_73 : decode prog_7_method_10_code 73 = .ok (.iload 6, 2) := by decide +kernel
theorem d_M_spreadNo_75 : decode prog_7_method_10_code 75 = .ok (.iconst 1, 1) := by decide +kernel
theorem d_M_spreadNo_76 : decode prog_7_method_10_code 76 = .ok (.if_icmp .eq 19, 3) := by decide +kernel
theorem d_M_spreadNo_79 : decode prog_7_method_10_code 79 = .ok (.aload_n 0, 1) := by decide +kernel
theorem d_M_spreadNo_80 : decode prog_7_method_10_code 80 = .ok (.getfield 30, 3) := by decide +kernel
theorem d_M_spreadNo_83 : decode prog_7_method_10_code 83 = .ok (.bipush 21, 2) := by decide +kernel
theorem d_M_spreadNo_85 : decode prog_7_method_10_code 85 = .ok (.iload 4, 2) := by decide +kernel
theorem d_M_spreadNo_87 : decode prog_7_method_10_code 87 = .ok (.imul, 1) := by decide +kernel
theorem d_M_spreadNo_88 : decode prog_7_method_10_code 88 = .ok (.iload 5, 2) := by decide +kernel
theorem d_M_spreadNo_90 : decode prog_7_method_10_code 90 = .ok (.iadd, 1) := by decide +kernel
theorem d_M_spreadNo_91 : decode prog_7_method_10_code 91 = .ok (.iconst 0, 1) := by decide +kernel
theorem d_M_spreadNo_92 : decode prog_7_method_10_code 92 = .ok (.iastore, 1) := by decide +kernel
theorem d_M_spreadNo_93 : decode prog_7_method_10_code 93 = .ok (.iconst 1, 1) := by decide +kernel
theorem d_M_spreadNo_94 : decode prog_7_method_10_code 94 = .ok (.istore_n 3, 1) := by decide +kernel
theorem d_M_spreadNo_95 : decode prog_7_method_10_code 95 = .ok (.iinc 5 1, 3) := by decide +kernel
theorem d_M_spreadNo_98 : decode prog_7_method_10_code 98 = .ok (.goto (-71), 3) := by decide +kernel
theorem d_M_spreadNo_101 : decode prog_7_method_10_code 101 = .ok (.iinc 4 1, 3) := by decide +kernel
theorem d_M_spreadNo_104 : decode prog_7_method_10_code 104 = .ok (.goto (-99), 3) := by decide +kernel
theorem d_M_spreadNo_107 : decode prog_7_method_10_code 107 = .ok (.iload_n 3, 1) := by decide +kernel
theorem d_M_spreadNo_108 : decode prog_7_method_10_code 108 = .ok (.ireturn, 1) := by decide +kernel
theorem d_M_thing_0 : decode prog_7_method_16_code 0 = .ok (.aload_n 0, 1) := by decide +kernel
theorem d_M_thing_1 : decode prog_7_method_16_code 1 = .ok (.getfield 104, 3) := by decide +kernel
theorem d_M_thing_4 : decode prog_7_method_16_code 4 = .ok (.bipush 8, 2) := by decide +kernel
theorem d_M_thing_6 : decode prog_7_method_16_code 6 = .ok (.if_icmp .ne 6, 3) := by decide +kernel
theorem d_M_thing_9 : decode prog_7_method_16_code 9 = .ok (.bipush (-4), 2) := by decide +kernel
theorem d_M_thing_11 : decode prog_7_method_16_code 11 = .ok (.ireturn, 1) := by decide +kernel
theorem d_M_thing_12 : decode prog_7_method_16_code 12 = .ok (.aload_n 0, 1) := by decide +kernel
theorem d_M_thing_13 : decode prog_7_method_16_code 13 = .ok (.dup, 1) := by decide +kernel
theorem d_M_thing_14 : decode prog_7_method_16_code 14 = .ok (.getfield 104, 3) := by decide +kernel
theorem d_M_thing_17 : decode prog_7_method_16_code 17 = .ok (.iconst 1, 1) := by decide +kernel
theorem d_M_thing_18 : decode prog_7_method_16_code 18 = .ok (.iadd, 1) := by decide +kernel
theorem d_M_thing_19 : decode prog_7_method_16_code 19 = .ok (.putfield 104, 3) := by decide +kernel
theorem d_M_thing_22 : decode prog_7_method_16_code 22 = .ok (.aload_n 0, 1) := by decide +kernel
theorem d_M_thing_23 : decode prog_7_method_16_code 23 = .ok (.getfield 104, 3) := by decide +kernel
theorem d_M_thing_26 : decode prog_7_method_16_code 26 = .ok (.iconst 1, 1) := by decide +kernel
theorem d_M_thing_27 : decode prog_7_method_16_code 27 = .ok (.isub, 1) := by decide +kernel
theorem d_M_thing_28 : decode prog_7_method_16_code 28 = .ok (.ireturn, 1) := by decide +kernel
theorem d_M_axiom_0 : decode prog_7_method_19_code 0 = .ok (.aload_n 0, 1) := by decide +kernel
theorem d_M_axiom_1 : decode prog_7_method_19_code 1 = .ok (.iload_n 1, 1) := by decide +kernel
theorem d_M_axiom_2 : decode prog_7_method_19_code 2 = .ok (.invokevirtual 63, 3) := by decide +kernel
theorem d_M_axiom_5 : decode prog_7_method_19_code 5 = .ok (.ifCond .eq 29, 3) := by decide +kernel
theorem d_M_axiom_8 : decode prog_7_method_19_code 8 = .ok (.iload_n 2, 1) := by decide +kernel
theorem d_M_axiom_9 : decode prog_7_method_19_code 9 = .ok (.iconst (-1), 1) := by decide +kernel
theorem d_M_axiom_10 : decode prog_7_method_19_code 10 = .ok (.if_icmp .eq 11, 3) := by decide +kernel
theorem d_M_axiom_13 : decode prog_7_method_19_code 13 = .ok (.aload_n 0, 1) := by decide +kernel
theorem d_M_axiom_14 : decode prog_7_method_19_code 14 = .ok (.iload_n 2, 1) := by decide +kernel
theorem d_M_axiom_15 : decode prog_7_method_19_code 15 = .ok (.invokevirtual 63, 3) := by decide +kernel
theorem d_M_axiom_18 : decode prog_7_method_19_code 18 = .ok (.ifCond .eq 16, 3) := by decide +kernel
theorem d_M_axiom_21 : decode prog_7_method_19_code 21 = .ok (.iload_n 3, 1) := by decide +kernel
theorem d_M_axiom_22 : decode prog_7_method_19_code 22 = .ok (.iconst (-1), 1) := by decide +kernel
theorem d_M_axiom_23 : decode prog_7_method_19_code 23 = .ok (.if_icmp .eq 13, 3) := by decide +kernel
theorem d_M_axiom_26 : decode prog_7_method_19_code 26 = .ok (.aload_n 0, 1) := by decide +kernel
theorem d_M_axiom_27 : decode prog_7_method_19_code 27 = .ok (.iload_n 3, 1) := by decide +kernel
theorem d_M_axiom_28 : decode prog_7_method_19_code 28 = .ok (.invokevirtual 63, 3) := by decide +kernel
theorem d_M_axiom_31 : decode prog_7_method_19_code 31 = .ok (.ifCond .ne 5, 3) := by decide +kernel
theorem d_M_axiom_34 : decode prog_7_method_19_code 34 = .ok (.iconst (-1), 1) := by decide +kernel
theorem d_M_axiom_35 : decode prog_7_method_19_code 35 = .ok (.ireturn, 1) := by decide +kernel
theorem d_M_axiom_36 : decode prog_7_method_19_code 36 = .ok (.iload_n 2, 1) := by decide +kernel
theorem d_M_axiom_37 : decode prog_7_method_19_code 37 = .ok (.iload_n 1, 1) := by decide +kernel
theorem d_M_axiom_38 : decode prog_7_method_19_code 38 = .ok (.if_icmp .ne 6, 3) := by decide +kernel
theorem d_M_axiom_41 : decode prog_7_method_19_code 41 = .ok (.bipush (-2), 2) := by decide +kernel
theorem d_M_axiom_43 : decode prog_7_method_19_code 43 = .ok (.ireturn, 1) := by decide +kernel
theorem d_M_axiom_44 : decode prog_7_method_19_code 44 = .ok (.aload_n 0, 1) := by decide +kernel
theorem d_M_axiom_45 : decode prog_7_method_19_code 45 = .ok (.getfield 67, 3) := by decide +kernel
theorem d_M_axiom_48 : decode prog_7_method_19_code 48 = .ok (.bipush 40, 2) := by decide +kernel
theorem d_M_axiom_50 : decode prog_7_method_19_code 50 = .ok (.if_icmp .ne 6, 3) := by decide +kernel
theorem d_M_axiom_53 : decode prog_7_method_19_code 53 = .ok (.bipush (-4), 2) := by decide +kernel
theorem d_M_axiom_55 : decode prog_7_method_19_code 55 = .ok (.ireturn, 1) := by decide +kernel
theorem d_M_axiom_56 : decode prog_7_method_19_code 56 = .ok (.aload_n 0, 1) := by decide +kernel
theorem d_M_axiom_57 : decode prog_7_method_19_code 57 = .ok (.getfield 13, 3) := by decide +kernel
theorem d_M_axiom_60 : decode prog_7_method_19_code 60 = .ok (.aload_n 0, 1) := by decide +kernel
theorem d_M_axiom_61 : decode prog_7_method_19_code 61 = .ok (.getfield 67, 3) := by decide +kernel
theorem d_M_axiom_64 : decode prog_7_method_19_code 64 = .ok (.iload_n 1, 1) := by decide +kernel
theorem d_M_axiom_65 : decode prog_7_method_19_code 65 = .ok (.iastore, 1) := by decide +kernel
theorem d_M_axiom_66 : decode prog_7_method_19_code 66 = .ok (.aload_n 0, 1) := by decide +kernel
theorem d_M_axiom_67 : decode prog_7_method_19_code 67 = .ok (.getfield 17, 3) := by decide +kernel
theorem d_M_axiom_70 : decode prog_7_method_19_code 70 = .ok (.aload_n 0, 1) := by decide +kernel
theorem d_M_axiom_71 : decode prog_7_method_19_code 71 = .ok (.getfield 67, 3) := by decide +kernel
theorem d_M_axiom_74 : decode prog_7_method_19_code 74 = .ok (.iload_n 2, 1) := by decide +kernel
theorem d_M_axiom_75 : decode prog_7_method_19_code 75 = .ok (.iastore, 1) := by decide +kernel
theorem d_M_axiom_76 : decode prog_7_method_19_code 76 = .ok (.aload_n 0, 1) := by decide +kernel
theorem d_M_axiom_77 : decode prog_7_method_19_code 77 = .ok (.getfield 20, 3) := by decide +kernel
theorem d_M_axiom_80 : decode prog_7_method_19_code 80 = .ok (.aload_n 0, 1) := by decide +kernel
theorem d_M_axiom_81 : decode prog_7_method_19_code 81 = .ok (.getfield 67, 3) := by decide +kernel
theorem d_M_axiom_84 : decode prog_7_method_19_code 84 = .ok (.iload_n 3, 1) := by decide +kernel
theorem d_M_axiom_85 : decode prog_7_method_19_code 85 = .ok (.ifCond .ge 8, 3) := by decide +kernel
theorem d_M_axiom_88 : decode prog_7_method_19_code 88 = .ok (.bipush 20, 2) := by decide +kernel
theorem d_M_axiom_90 : decode prog_7_method_19_code 90 = .ok (.goto 4, 3) := by decide +kernel
theorem d_M_axiom_93 : decode prog_7_method_19_code 93 = .ok (.iload_n 3, 1) := by decide +kernel
theorem d_M_axiom_94 : decode prog_7_method_19_code 94 = .ok (.iastore, 1) := by decide +kernel
theorem d_M_axiom_95 : decode prog_7_method_19_code 95 = .ok (.aload_n 0, 1) := by decide +kernel
theorem d_M_axiom_96 : decode prog_7_method_19_code 96 = .ok (.getfield 23, 3) := by decide +kernel
theorem d_M_axiom_99 : decode prog_7_method_19_code 99 = .ok (.aload_n 0, 1) := by decide +kernel
theorem d_M_axiom_100 : decode prog_7_method_19_code 100 = .ok (.getfield 67, 3) := by decide +kernel
theorem d_M_axiom_103 : decode prog_7_method_19_code 103 = .ok (.iconst 1, 1) := by decide +kernel
theorem d_M_axiom_104 : decode prog_7_method_19_code 104 = .ok (.bastore, 1) := by decide +kernel
theorem d_M_axiom_105 : decode prog_7_method_19_code 105 = .ok (.aload_n 0, 1) := by decide +kernel
theorem d_M_axiom_106 : decode prog_7_method_19_code 106 = .ok (.dup, 1) := by decide +kernel
theorem d_M_axiom_107 : decode prog_7_method_19_code 107 = .ok (.getfield 67, 3) := by decide +kernel
theorem d_M_axiom_110 : decode prog_7_method_19_code 110 = .ok (.iconst 1, 1) := by decide +kernel
theorem d_M_axiom_111 : decode prog_7_method_19_code 111 = .ok (.iadd, 1) := by decide +kernel
theorem d_M_axiom_112 : decode prog_7_method_19_code 112 = .ok (.putfield 67, 3) := by decide +kernel
theorem d_M_axiom_115 : decode prog_7_method_19_code 115 = .ok (.aload_n 0, 1) := by decide +kernel
theorem d_M_axiom_116 : decode prog_7_method_19_code 116 = .ok (.iconst 0, 1) := by decide +kernel
theorem d_M_axiom_117 : decode prog_7_method_19_code 117 = .ok (.putfield 97, 3) := by decide +kernel
theorem d_M_axiom_120 : decode prog_7_method_19_code 120 = .ok (.aload_n 0, 1) := by decide +kernel
theorem d_M_axiom_121 : decode prog_7_method_19_code 121 = .ok (.aload_n 0, 1) := by decide +kernel
theorem d_M_axiom_122 : decode prog_7_method_19_code 122 = .ok (.getfield 67, 3) := by decide +kernel
theorem d_M_axiom_125 : decode prog_7_method_19_code 125 = .ok (.iconst 1, 1) := by decide +kernel
theorem d_M_axiom_126 : decode prog_7_method_19_code 126 = .ok (.isub, 1) := by decide +kernel
theorem d_M_axiom_127 : decode prog_7_method_19_code 127 = .ok (.iconst 0, 1) := by decide +kernel
theorem d_M_axiom_128 : decode prog_7_method_19_code 128 = .ok (.invokevirtual 110, 3) := by decide +kernel
theorem d_M_axiom_131 : decode prog_7_method_19_code 131 = .ok (.aload_n 0, 1) := by decide +kernel
theorem d_M_axiom_132 : decode prog_7_method_19_code 132 = .ok (.invokevirtual 101, 3) := by decide +kernel
theorem d_M_axiom_135 : decode prog_7_method_19_code 135 = .ok (.aload_n 0, 1) := by decide +kernel
theorem d_M_axiom_136 : decode prog_7_method_19_code 136 = .ok (.getfield 67, 3) := by decide +kernel
theorem d_M_axiom_139 : decode prog_7_method_19_code 139 = .ok (.iconst 1, 1) := by decide +kernel
theorem d_M_axiom_140 : decode prog_7_method_19_code 140 = .ok (.isub, 1) := by decide +kernel
theorem d_M_axiom_141 : decode prog_7_method_19_code 141 = .ok (.ireturn, 1) := by decide +kernel
theorem d_M_isClass_0 : decode prog_7_method_3_code 0 = .ok (.iload_n 1, 1) := by decide +kernel
theorem d_M_isClass_1 : decode prog_7_method_3_code 1 = .ok (.ifCond .lt 15, 3) := by decide +kernel
theorem d_M_isClass_4 : decode prog_7_method_3_code 4 = .ok (.iload_n 1, 1) := by decide +kernel
theorem d_M_isClass_5 : decode prog_7_method_3_code 5 = .ok (.aload_n 0, 1) := by decide +kernel
theorem d_M_isClass_6 : decode prog_7_method_3_code 6 = .ok (.getfield 60, 3) := by decide +kernel
theorem d_M_isClass_9 : decode prog_7_method_3_code 9 = .ok (.if_icmp .ge 7, 3) := by decide +kernel
theorem d_M_isClass_12 : decode prog_7_method_3_code 12 = .ok (.iconst 1, 1) := by decide +kernel
theorem d_M_isClass_13 : decode prog_7_method_3_code 13 = .ok (.goto 4, 3) := by decide +kernel
theorem d_M_isClass_16 : decode prog_7_method_3_code 16 = .ok (.iconst 0, 1) := by decide +kernel
theorem d_M_isClass_17 : decode prog_7_method_3_code 17 = .ok (.ireturn, 1) := by decide +kernel
theorem d_M_forget_0 : decode prog_7_method_18_code 0 = .ok (.iconst 0, 1) := by decide +kernel
theorem d_M_forget_1 : decode prog_7_method_18_code 1 = .ok (.istore_n 3, 1) := by decide +kernel
theorem d_M_forget_2 : decode prog_7_method_18_code 2 = .ok (.iload_n 3, 1) := by decide +kernel
theorem d_M_forget_3 : decode prog_7_method_18_code 3 = .ok (.aload_n 0, 1) := by decide +kernel
theorem d_M_forget_4 : decode prog_7_method_18_code 4 = .ok (.getfield 60, 3) := by decide +kernel
theorem d_M_forget_7 : decode prog_7_method_18_code 7 = .ok (.if_icmp .ge 73, 3) := by decide +kernel
theorem d_M_forget_10 : decode prog_7_method_18_code 10 = .ok (.aload_n 0, 1) := by decide +kernel
theorem d_M_forget_11 : decode prog_7_method_18_code 11 = .ok (.iload_n 3, 1) := by decide +kernel
theorem d_M_forget_12 : decode prog_7_method_18_code 12 = .ok (.iload_n 1, 1) := by decide +kernel
theorem d_M_forget_13 : decode prog_7_method_18_code 13 = .ok (.invokevirtual 107, 3) := by decide +kernel
theorem d_M_forget_16 : decode prog_7_method_18_code 16 = .ok (.ifCond .eq 58, 3) := by decide +kernel
theorem d_M_forget_19 : decode prog_7_method_18_code 19 = .ok (.iconst 0, 1) := by decide +kernel
theorem d_M_forget_20 : decode prog_7_method_18_code 20 = .ok (.istore 4, 2) := by decide +kernel
theorem d_M_forget_22 : decode prog_7_method_18_code 22 = .ok (.iload 4, 2) := by decide +kernel
theorem d_M_forget_24 : decode prog_7_method_18_code 24 = .ok (.bipush 20, 2) := by decide +kernel
theorem d_M_forget_26 : decode prog_7_method_18_code 26 = .ok (.if_icmp .gt 48, 3) := by decide +kernel
theorem d_M_forget_29 : decode prog_7_method_18_code 29 = .ok (.aload_n 0, 1) := by decide +kernel
theorem d_M_forget_30 : decode prog_7_method_18_code 30 = .ok (.getfield 30, 3) := by decide +kernel
theorem d_M_forget_33 : decode prog_7_method_18_code 33 = .ok (.bipush 21, 2) := by decide +kernel
theorem d_M_forget_35 : decode prog_7_method_18_code 35 = .ok (.iload_n 3, 1) := by decide +kernel
theorem d_M_forget_36 : decode prog_7_method_18_code 36 = .ok (.imul, 1) := by decide +kernel
theorem d_M_forget_37 : decode prog_7_method_18_code 37 = .ok (.iload 4, 2) := by decide +kernel
theorem d_M_forget_39 : decode prog_7_method_18_code 39 = .ok (.iadd, 1) := by decide +kernel
theorem d_M_forget_40 : decode prog_7_method_18_code 40 = .ok (.iaload, 1) := by decide +kernel
theorem d_M_forget_41 : decode prog_7_method_18_code 41 = .ok (.istore 5, 2) := by decide +kernel
theorem d_M_forget_43 : decode prog_7_method_18_code 43 = .ok (.iload 5, 2) := by decide +kernel
theorem d_M_forget_45 : decode prog_7_method_18_code 45 = .ok (.iload_n 2, 1) := by decide +kernel
theorem d_M_forget_46 : decode prog_7_method_18_code 46 = .ok (.if_icmp .eq 9, 3) := by decide +kernel
theorem d_M_forget_49 : decode prog_7_method_18_code 49 = .ok (.iload 5, 2) := by decide +kernel
theorem d_M_forget_51 : decode prog_7_method_18_code 51 = .ok (.iconst 2, 1) := by decide +kernel
theorem d_M_forget_52 : decode prog_7_method_18_code 52 = .ok (.if_icmp .ne 16, 3) := by decide +kernel
theorem d_M_forget_55 : decode prog_7_method_18_code 55 = .ok (.aload_n 0, 1) := by decide +kernel
theorem d_M_forget_56 : decode prog_7_method_18_code 56 = .ok (.getfield 30, 3) := by decide +kernel
theorem d_M_forget_59 : decode prog_7_method_18_code 59 = .ok (.bipush 21, 2) := by decide +kernel
theorem d_M_forget_61 : decode prog_7_method_18_code 61 = .ok (.iload_n 3, 1) := by decide +kernel
theorem d_M_forget_62 : decode prog_7_method_18_code 62 = .ok (.imul, 1) := by decide +kernel
theorem d_M_forget_63 : decode prog_7_method_18_code 63 = .ok (.iload 4, 2) := by decide +kernel
theorem d_M_forget_65 : decode prog_7_method_18_code 65 = .ok (.iadd, 1) := by decide +kernel
theorem d_M_forget_66 : decode prog_7_method_18_code 66 = .ok (.iconst 3, 1) := by decide +kernel
theorem d_M_forget_67 : decode prog_7_method_18_code 67 = .ok (.iastore, 1) := by decide +kernel
theorem d_M_forget_68 : decode prog_7_method_18_code 68 = .ok (.iinc 4 1, 3) := by decide +kernel
theorem d_M_forget_71 : decode prog_7_method_18_code 71 = .ok (.goto (-49), 3) := by decide +kernel
theorem d_M_forget_74 : decode prog_7_method_18_code 74 = .ok (.iinc 3 1, 3) := by decide +kernel
theorem d_M_forget_77 : decode prog_7_method_18_code 77 = .ok (.goto (-75), 3) := by decide +kernel
theorem d_M_forget_80 : decode prog_7_method_18_code 80 = .ok (.return_, 1) := by decide +kernel
theorem d_M_isTouched_0 : decode prog_7_method_17_code 0 = .ok (.iconst 0, 1) := by decide +kernel
theorem d_M_isTouched_1 : decode prog_7_method_17_code 1 = .ok (.istore_n 3, 1) := by decide +kernel
theorem d_M_isTouched_2 : decode prog_7_method_17_code 2 = .ok (.iload_n 3, 1) := by decide +kernel
theorem d_M_isTouched_3 : decode prog_7_method_17_code 3 = .ok (.bipush 20, 2) := by decide +kernel
theorem d_M_isTouched_5 : decode prog_7_method_17_code 5 = .ok (.if_icmp .gt 25, 3) := by decide +kernel
theorem d_M_isTouched_8 : decode prog_7_method_17_code 8 = .ok (.aload_n 0, 1) := by decide +kernel
theorem d_M_isTouched_9 : decode prog_7_method_17_code 9 = .ok (.getfield 54, 3) := by decide +kernel
theorem d_M_isTouched_12 : decode prog_7_method_17_code 12 = .ok (.iload_n 3, 1) := by decide +kernel
theorem d_M_isTouched_13 : decode prog_7_method_17_code 13 = .ok (.iload_n 3, 1) := by decide +kernel
theorem d_M_isTouched_14 : decode prog_7_method_17_code 14 = .ok (.iload_n 1, 1) := by decide +kernel
theorem d_M_isTouched_15 : decode prog_7_method_17_code 15 = .ok (.if_icmp .ne 7, 3) := by decide +kernel
theorem d_M_isTouched_18 : decode prog_7_method_17_code 18 = .ok (.iconst 1, 1) := by decide +kernel
theorem d_M_isTouched_19 : decode prog_7_method_17_code 19 = .ok (.goto 4, 3) := by decide +kernel
theorem d_M_isTouched_22 : decode prog_7_method_17_code 22 = .ok (.iconst 0, 1) := by decide +kernel
theorem d_M_isTouched_23 : decode prog_7_method_17_code 23 = .ok (.bastore, 1) := by decide +kernel
theorem d_M_isTouched_24 : decode prog_7_method_17_code 24 = .ok (.iinc 3 1, 3) := by decide +kernel
theorem d_M_isTouched_27 : decode prog_7_method_17_code 27 = .ok (.goto (-25), 3) := by decide +kernel
theorem d_M_isTouched_30 : decode prog_7_method_17_code 30 = .ok (.iconst 1, 1) := by decide +kernel
theorem d_M_isTouched_31 : decode prog_7_method_17_code 31 = .ok (.istore_n 3, 1) := by decide +kernel
theorem d_M_isTouched_32 : decode prog_7_method_17_code 32 = .ok (.iload_n 3, 1) := by decide +kernel
theorem d_M_isTouched_33 : decode prog_7_method_17_code 33 = .ok (.ifCond .eq 206, 3) := by decide +kernel
theorem d_M_isTouched_36 : decode prog_7_method_17_code 36 = .ok (.iconst 0, 1) := by decide +kernel
theorem d_M_isTouched_37 : decode prog_7_method_17_code 37 = .ok (.istore_n 3, 1) := by decide +kernel
theorem d_M_isTouched_38 : decode prog_7_method_17_code 38 = .ok (.iconst 0, 1) := by decide +kernel
theorem d_M_isTouched_39 : decode prog_7_method_17_code 39 = .ok (.istore 4, 2) := by decide +kernel
theorem d_M_isTouched_41 : decode prog_7_method_17_code 41 = .ok (.iload 4, 2) := by decide +kernel
theorem d_M_isTouched_43 : decode prog_7_method_17_code 43 = .ok (.aload_n 0, 1) := by decide +kernel
theorem d_M_isTouched_44 : decode prog_7_method_17_code 44 = .ok (.getfield 67, 3) := by decide +kernel
theorem d_M_isTouched_47 : decode prog_7_method_17_code 47 = .ok (.if_icmp .ge 189, 3) := by decide +kernel
theorem d_M_isTouched_50 : decode prog_7_method_17_code 50 = .ok (.aload_n 0, 1) := by decide +kernel
theorem d_M_isTouched_51 : decode prog_7_method_17_code 51 = .ok (.getfield 23, 3) := by decide +kernel
theorem d_M_isTouched_54 : decode prog_7_method_17_code 54 = .ok (.iload 4, 2) := by decide +kernel
theorem d_M_isTouched_56 : decode prog_7_method_17_code 56 = .ok (.baload, 1) := by decide +kernel
theorem d_M_isTouched_57 : decode prog_7_method_17_code 57 = .ok (.ifCond .eq 47, 3) := by decide +kernel
theorem d_M_isTouched_60 : decode prog_7_method_17_code 60 = .ok (.aload_n 0, 1) := by decide +kernel
theorem d_M_isTouched_61 : decode prog_7_method_17_code 61 = .ok (.getfield 54, 3) := by decide +kernel
theorem d_M_isTouched_64 : decode prog_7_method_17_code 64 = .ok (.aload_n 0, 1) := by decide +kernel
theorem d_M_isTouched_65 : decode prog_7_method_17_code 65 = .ok (.getfield 13, 3) := by decide +kernel
theorem d_M_isTouched_68 : decode prog_7_method_17_code 68 = .ok (.iload 4, 2) := by decide +kernel
theorem d_M_isTouched_70 : decode prog_7_method_17_code 70 = .ok (.iaload, 1) := by decide +kernel
theorem d_M_isTouched_71 : decode prog_7_method_17_code 71 = .ok (.baload, 1) := by decide +kernel
theorem d_M_isTouched_72 : decode prog_7_method_17_code 72 = .ok (.ifCond .ne 28, 3) := by decide +kernel
theorem d_M_isTouched_75 : decode prog_7_method_17_code 75 = .ok (.aload_n 0, 1) := by decide +kernel
theorem d_M_isTouched_76 : decode prog_7_method_17_code 76 = .ok (.getfield 17, 3) := by decide +kernel
theorem d_M_isTouched_79 : decode prog_7_method_17_code 79 = .ok (.iload 4, 2) := by decide +kernel
theorem d_M_isTouched_81 : decode prog_7_method_17_code 81 = .ok (.iaload, 1) := by decide +kernel
theorem d_M_isTouched_82 : decode prog_7_method_17_code 82 = .ok (.ifCond .lt 22, 3) := by decide +kernel
theorem d_M_isTouched_85 : decode prog_7_method_17_code 85 = .ok (.aload_n 0, 1) := by decide +kernel
theorem d_M_isTouched_86 : decode prog_7_method_17_code 86 = .ok (.getfield 54, 3) := by decide +kernel
theorem d_M_isTouched_89 : decode prog_7_method_17_code 89 = .ok (.aload_n 0, 1) := by decide +kernel
theorem d_M_isTouched_90 : decode prog_7_method_17_code 90 = .ok (.getfield 17, 3) := by decide +kernel
theorem d_M_isTouched_93 : decode prog_7_method_17_code 93 = .ok (.iload 4, 2) := by decide +kernel
theorem d_M_isTouched_95 : decode prog_7_method_17_code 95 = .ok (.iaload, 1) := by decide +kernel
theorem d_M_isTouched_96 : decode prog_7_method_17_code 96 = .ok (.baload, 1) := by decide +kernel
theorem d_M_isTouched_97 : decode prog_7_method_17_code 97 = .ok (.ifCond .eq 7, 3) := by decide +kernel
theorem d_M_isTouched_100 : decode prog_7_method_17_code 100 = .ok (.iconst 1, 1) := by decide +kernel
theorem d_M_isTouched_101 : decode prog_7_method_17_code 101 = .ok (.goto 4, 3) := by decide +kernel
theorem d_M_isTouched_104 : decode prog_7_method_17_code 104 = .ok (.iconst 0, 1) := by decide +kernel
theorem d_M_isTouched_105 : decode prog_7_method_17_code 105 = .ok (.istore 5, 2) := by decide +kernel
theorem d_M_isTouched_107 : decode prog_7_method_17_code 107 = .ok (.aload_n 0, 1) := by decide +kernel
theorem d_M_isTouched_108 : decode prog_7_method_17_code 108 = .ok (.getfield 54, 3) := by decide +kernel
theorem d_M_isTouched_111 : decode prog_7_method_17_code 111 = .ok (.aload_n 0, 1) := by decide +kernel
theorem d_M_isTouched_112 : decode prog_7_method_17_code 112 = .ok (.getfield 13, 3) := by decide +kernel
theorem d_M_isTouched_115 : decode prog_7_method_17_code 115 = .ok (.iload 4, 2) := by decide +kernel
theorem d_M_isTouched_117 : decode prog_7_method_17_code 117 = .ok (.iaload, 1) := by decide +kernel
theorem d_M_isTouched_118 : decode prog_7_method_17_code 118 = .ok (.baload, 1) := by decide +kernel
theorem d_M_isTouched_119 : decode prog_7_method_17_code 119 = .ok (.ifCond .eq 47, 3) := by decide +kernel
theorem d_M_isTouched_122 : decode prog_7_method_17_code 122 = .ok (.aload_n 0, 1) := by decide +kernel
theorem d_M_isTouched_123 : decode prog_7_method_17_code 123 = .ok (.getfield 17, 3) := by decide +kernel
theorem d_M_isTouched_126 : decode prog_7_method_17_code 126 = .ok (.iload 4, 2) := by decide +kernel
theorem d_M_isTouched_128 : decode prog_7_method_17_code 128 = .ok (.iaload, 1) := by decide +kernel
theorem d_M_isTouched_129 : decode prog_7_method_17_code 129 = .ok (.ifCond .lt 18, 3) := by decide +kernel
theorem d_M_isTouched_132 : decode prog_7_method_17_code 132 = .ok (.aload_n 0, 1) := by decide +kernel
theorem d_M_isTouched_133 : decode prog_7_method_17_code 133 = .ok (.getfield 54, 3) := by decide +kernel
theorem d_M_isTouched_136 : decode prog_7_method_17_code 136 = .ok (.aload_n 0, 1) := by decide +kernel
theorem d_M_isTouched_137 : decode prog_7_method_17_code 137 = .ok (.getfield 17, 3) := by decide +kernel
theorem d_M_isTouched_140 : decode prog_7_method_17_code 140 = .ok (.iload 4, 2) := by decide +kernel
theorem d_M_isTouched_142 : decode prog_7_method_17_code 142 = .ok (.iaload, 1) := by decide +kernel
theorem d_M_isTouched_143 : decode prog_7_method_17_code 143 = .ok (.baload, 1) := by decide +kernel
theorem d_M_isTouched_144 : decode prog_7_method_17_code 144 = .ok (.ifCond .eq 22, 3) := by decide +kernel
theorem d_M_isTouched_147 : decode prog_7_method_17_code 147 = .ok (.aload_n 0, 1) := by decide +kernel
theorem d_M_isTouched_148 : decode prog_7_method_17_code 148 = .ok (.getfield 54, 3) := by decide +kernel
theorem d_M_isTouched_151 : decode prog_7_method_17_code 151 = .ok (.aload_n 0, 1) := by decide +kernel
theorem d_M_isTouched_152 : decode prog_7_method_17_code 152 = .ok (.getfield 20, 3) := by decide +kernel
theorem d_M_isTouched_155 : decode prog_7_method_17_code 155 = .ok (.iload 4, 2) := by decide +kernel
theorem d_M_isTouched_157 : decode prog_7_method_17_code 157 = .ok (.iaload, 1) := by decide +kernel
theorem d_M_isTouched_158 : decode prog_7_method_17_code 158 = .ok (.baload, 1) := by decide +kernel
theorem d_M_isTouched_159 : decode prog_7_method_17_code 159 = .ok (.ifCond .eq 7, 3) := by decide +kernel
theorem d_M_isTouched_162 : decode prog_7_method_17_code 162 = .ok (.iconst 1, 1) := by decide +kernel
theorem d_M_isTouched_163 : decode prog_7_method_17_code 163 = .ok (.goto 4, 3) := by decide +kernel
theorem d_M_isTouched_166 : decode prog_7_method_17_code 166 = .ok (.iconst 0, 1) := by decide +kernel
theorem d_M_isTouched_167 : decode prog_7_method_17_code 167 = .ok (.istore 6, 2) := by decide +kernel
theorem d_M_isTouched_169 : decode prog_7_method_17_code 169 = .ok (.iload 5, 2) := by decide +kernel
theorem d_M_isTouched_171 : decode prog_7_method_17_code 171 = .ok (.ifCond .eq 59, 3) := by decide +kernel
theorem d_M_isTouched_174 : decode prog_7_method_17_code 174 = .ok (.iload 6, 2) := by decide +kernel
theorem d_M_isTouched_176 : decode prog_7_method_17_code 176 = .ok (.ifCond .ne 54, 3) := by decide +kernel
theorem d_M_isTouched_179 : decode prog_7_method_17_code 179 = .ok (.aload_n 0, 1) := by decide +kernel
theorem d_M_isTouched_180 : decode prog_7_method_17_code 180 = .ok (.getfield 54, 3) := by decide +kernel
theorem d_M_isTouched_183 : decode prog_7_method_17_code 183 = .ok (.aload_n 0, 1) := by decide +kernel
theorem d_M_isTouched_184 : decode prog_7_method_17_code 184 = .ok (.getfield 13, 3) := by decide +kernel
theorem d_M_isTouched_187 : decode prog_7_method_17_code 187 = .ok (.iload 4, 2) := by decide +kernel
theorem d_M_isTouched_189 : decode prog_7_method_17_code 189 = .ok (.iaload, 1) := by decide +kernel
theorem d_M_isTouched_190 : decode prog_7_method_17_code 190 = .ok (.iconst 1, 1) := by decide +kernel
theorem d_M_isTouched_191 : decode prog_7_method_17_code 191 = .ok (.bastore, 1) := by decide +kernel
theorem d_M_isTouched_192 : decode prog_7_method_17_code 192 = .ok (.aload_n 0, 1) := by decide +kernel
theorem d_M_isTouched_193 : decode prog_7_method_17_code 193 = .ok (.getfield 17, 3) := by decide +kernel
theorem d_M_isTouched_196 : decode prog_7_method_17_code 196 = .ok (.iload 4, 2) := by decide +kernel
theorem d_M_isTouched_198 : decode prog_7_method_17_code 198 = .ok (.iaload, 1) := by decide +kernel
theorem d_M_isTouched_199 : decode prog_7_method_17_code 199 = .ok (.ifCond .lt 16, 3) := by decide +kernel
theorem d_M_isTouched_202 : decode prog_7_method_17_code 202 = .ok (.aload_n 0, 1) := by decide +kernel
theorem d_M_isTouched_203 : decode prog_7_method_17_code 203 = .ok (.getfield 54, 3) := by decide +kernel
theorem d_M_isTouched_206 : decode prog_7_method_17_code 206 = .ok (.aload_n 0, 1) := by decide +kernel
theorem d_M_isTouched_207 : decode prog_7_method_17_code 207 = .ok (.getfield 17, 3) := by decide +kernel
theorem d_M_isTouched_210 : decode prog_7_method_17_code 210 = .ok (.iload 4, 2) := by decide +kernel
theorem d_M_isTouched_212 : decode prog_7_method_17_code 212 = .ok (.iaload, 1) := by decide +kernel
theorem d_M_isTouched_213 : decode prog_7_method_17_code 213 = .ok (.iconst 1, 1) := by decide +kernel
theorem d_M_isTouched_214 : decode prog_7_method_17_code 214 = .ok (.bastore, 1) := by decide +kernel
theorem d_M_isTouched_215 : decode prog_7_method_17_code 215 = .ok (.aload_n 0, 1) := by decide +kernel
theorem d_M_isTouched_216 : decode prog_7_method_17_code 216 = .ok (.getfield 54, 3) := by decide +kernel
theorem d_M_isTouched_219 : decode prog_7_method_17_code 219 = .ok (.aload_n 0, 1) := by decide +kernel
theorem d_M_isTouched_220 : decode prog_7_method_17_code 220 = .ok (.getfield 20, 3) := by decide +kernel
theorem d_M_isTouched_223 : decode prog_7_method_17_code 223 = .ok (.iload 4, 2) := by decide +kernel
theorem d_M_isTouched_225 : decode prog_7_method_17_code 225 = .ok (.iaload, 1) := by decide +kernel
theorem d_M_isTouched_226 : decode prog_7_method_17_code 226 = .ok (.iconst 1, 1) := by decide +kernel
theorem d_M_isTouched_227 : decode prog_7_method_17_code 227 = .ok (.bastore, 1) := by decide +kernel
theorem d_M_isTouched_228 : decode prog_7_method_17_code 228 = .ok (.iconst 1, 1) := by decide +kernel
theorem d_M_isTouched_229 : decode prog_7_method_17_code 229 = .ok (.istore_n 3, 1) := by decide +kernel
theorem d_M_isTouched_230 : decode prog_7_method_17_code 230 = .ok (.iinc 4 1, 3) := by decide +kernel
theorem d_M_isTouched_233 : decode prog_7_method_17_code 233 = .ok (.goto (-192), 3) := by decide +kernel
theorem d_M_isTouched_236 : decode prog_7_method_17_code 236 = .ok (.goto (-204), 3) := by decide +kernel
theorem d_M_isTouched_239 : decode prog_7_method_17_code 239 = .ok (.aload_n 0, 1) := by decide +kernel
theorem d_M_isTouched_240 : decode prog_7_method_17_code 240 = .ok (.getfield 54, 3) := by decide +kernel
theorem d_M_isTouched_243 : decode prog_7_method_17_code 243 = .ok (.aload_n 0, 1) := by decide +kernel
theorem d_M_isTouched_244 : decode prog_7_method_17_code 244 = .ok (.getfield 13, 3) := by decide +kernel
theorem d_M_isTouched_247 : decode prog_7_method_17_code 247 = .ok (.iload_n 2, 1) := by decide +kernel
theorem d_M_isTouched_248 : decode prog_7_method_17_code 248 = .ok (.iaload, 1) := by decide +kernel
theorem d_M_isTouched_249 : decode prog_7_method_17_code 249 = .ok (.baload, 1) := by decide +kernel
theorem d_M_isTouched_250 : decode prog_7_method_17_code 250 = .ok (.ifCond .ne 26, 3) := by decide +kernel
theorem d_M_isTouched_253 : decode prog_7_method_17_code 253 = .ok (.aload_n 0, 1) := by decide +kernel
theorem d_M_isTouched_254 : decode prog_7_method_17_code 254 = .ok (.getfield 17, 3) := by decide +kernel
theorem d_M_isTouched_257 : decode prog_7_method_17_code 257 = .ok (.iload_n 2, 1) := by decide +kernel
theorem d_M_isTouched_258 : decode prog_7_method_17_code 258 = .ok (.iaload, 1) := by decide +kernel
theorem d_M_isTouched_259 : decode prog_7_method_17_code 259 = .ok (.ifCond .lt 21, 3) := by decide +kernel
theorem d_M_isTouched_262 : decode prog_7_method_17_code 262 = .ok (.aload_n 0, 1) := by decide +kernel
theorem d_M_isTouched_263 : decode prog_7_method_17_code 263 = .ok (.getfield 54, 3) := by decide +kernel
theorem d_M_isTouched_266 : decode prog_7_method_17_code 266 = .ok (.aload_n 0, 1) := by decide +kernel
theorem d_M_isTouched_267 : decode prog_7_method_17_code 267 = .ok (.getfield 17, 3) := by decide +kernel
theorem d_M_isTouched_270 : decode prog_7_method_17_code 270 = .ok (.iload_n 2, 1) := by decide +kernel
theorem d_M_isTouched_271 : decode prog_7_method_17_code 271 = .ok (.iaload, 1) := by decide +kernel
theorem d_M_isTouched_272 : decode prog_7_method_17_code 272 = .ok (.baload, 1) := by decide +kernel
theorem d_M_isTouched_273 : decode prog_7_method_17_code 273 = .ok (.ifCond .eq 7, 3) := by decide +kernel
theorem d_M_isTouched_276 : decode prog_7_method_17_code 276 = .ok (.iconst 1, 1) := by decide +kernel
theorem d_M_isTouched_277 : decode prog_7_method_17_code 277 = .ok (.goto 4, 3) := by decide +kernel
theorem d_M_isTouched_280 : decode prog_7_method_17_code 280 = .ok (.iconst 0, 1) := by decide +kernel
theorem d_M_isTouched_281 : decode prog_7_method_17_code 281 = .ok (.ireturn, 1) := by decide +kernel
theorem d_M_remove_0 : decode prog_7_method_20_code 0 = .ok (.iload_n 1, 1) := by decide +kernel
theorem d_M_remove_1 : decode prog_7_method_20_code 1 = .ok (.ifCond .lt 20, 3) := by decide +kernel
theorem d_M_remove_4 : decode prog_7_method_20_code 4 = .ok (.iload_n 1, 1) := by decide +kernel
theorem d_M_remove_5 : decode prog_7_method_20_code 5 = .ok (.aload_n 0, 1) := by decide +kernel
theorem d_M_remove_6 : decode prog_7_method_20_code 6 = .ok (.getfield 67, 3) := by decide +kernel
theorem d_M_remove_9 : decode prog_7_method_20_code 9 = .ok (.if_icmp .ge 12, 3) := by decide +kernel
theorem d_M_remove_12 : decode prog_7_method_20_code 12 = .ok (.aload_n 0, 1) := by decide +kernel
theorem d_M_remove_13 : decode prog_7_method_20_code 13 = .ok (.getfield 23, 3) := by decide +kernel
theorem d_M_remove_16 : decode prog_7_method_20_code 16 = .ok (.iload_n 1, 1) := by decide +kernel
theorem d_M_remove_17 : decode prog_7_method_20_code 17 = .ok (.baload, 1) := by decide +kernel
theorem d_M_remove_18 : decode prog_7_method_20_code 18 = .ok (.ifCond .ne 5, 3) := by decide +kernel
theorem d_M_remove_21 : decode prog_7_method_20_code 21 = .ok (.iconst (-1), 1) := by decide +kernel
theorem d_M_remove_22 : decode prog_7_method_20_code 22 = .ok (.ireturn, 1) := by decide +kernel
theorem d_M_remove_23 : decode prog_7_method_20_code 23 = .ok (.iconst 0, 1) := by decide +kernel
theorem d_M_remove_24 : decode prog_7_method_20_code 24 = .ok (.istore_n 2, 1) := by decide +kernel
theorem d_M_remove_25 : decode prog_7_method_20_code 25 = .ok (.iload_n 2, 1) := by decide +kernel
theorem d_M_remove_26 : decode prog_7_method_20_code 26 = .ok (.sipush 420, 3) := by decide +kernel
theorem d_M_remove_29 : decode prog_7_method_20_code 29 = .ok (.if_icmp .ge 21, 3) := by decide +kernel
theorem d_M_remove_32 : decode prog_7_method_20_code 32 = .ok (.aload_n 0, 1) := by decide +kernel
theorem d_M_remove_33 : decode prog_7_method_20_code 33 = .ok (.getfield 33, 3) := by decide +kernel
theorem d_M_remove_36 : decode prog_7_method_20_code 36 = .ok (.iload_n 2, 1) := by decide +kernel
theorem d_M_remove_37 : decode prog_7_method_20_code 37 = .ok (.aload_n 0, 1) := by decide +kernel
theorem d_M_remove_38 : decode prog_7_method_20_code 38 = .ok (.getfield 30, 3) := by decide +kernel
theorem d_M_remove_41 : decode prog_7_method_20_code 41 = .ok (.iload_n 2, 1) := by decide +kernel
theorem d_M_remove_42 : decode prog_7_method_20_code 42 = .ok (.iaload, 1) := by decide +kernel
theorem d_M_remove_43 : decode prog_7_method_20_code 43 = .ok (.iastore, 1) := by decide +kernel
theorem d_M_remove_44 : decode prog_7_method_20_code 44 = .ok (.iinc 2 1, 3) := by decide +kernel
theorem d_M_remove_47 : decode prog_7_method_20_code 47 = .ok (.goto (-22), 3) := by decide +kernel
theorem d_M_remove_50 : decode prog_7_method_20_code 50 = .ok (.aload_n 0, 1) := by decide +kernel
theorem d_M_remove_51 : decode prog_7_method_20_code 51 = .ok (.iload_n 1, 1) := by decide +kernel
theorem d_M_remove_52 : decode prog_7_method_20_code 52 = .ok (.iconst 1, 1) := by decide +kernel
theorem d_M_remove_53 : decode prog_7_method_20_code 53 = .ok (.invokevirtual 110, 3) := by decide +kernel
theorem d_M_remove_56 : decode prog_7_method_20_code 56 = .ok (.aload_n 0, 1) := by decide +kernel
theorem d_M_remove_57 : decode prog_7_method_20_code 57 = .ok (.getfield 23, 3) := by decide +kernel
theorem d_M_remove_60 : decode prog_7_method_20_code 60 = .ok (.iload_n 1, 1) := by decide +kernel
theorem d_M_remove_61 : decode prog_7_method_20_code 61 = .ok (.iconst 0, 1) := by decide +kernel
theorem d_M_remove_62 : decode prog_7_method_20_code 62 = .ok (.bastore, 1) := by decide +kernel
theorem d_M_remove_63 : decode prog_7_method_20_code 63 = .ok (.aload_n 0, 1) := by decide +kernel
theorem d_M_remove_64 : decode prog_7_method_20_code 64 = .ok (.iconst 0, 1) := by decide +kernel
theorem d_M_remove_65 : decode prog_7_method_20_code 65 = .ok (.putfield 97, 3) := by decide +kernel
theorem d_M_remove_68 : decode prog_7_method_20_code 68 = .ok (.aload_n 0, 1) := by decide +kernel
theorem d_M_remove_69 : decode prog_7_method_20_code 69 = .ok (.invokevirtual 101, 3) := by decide +kernel
theorem d_M_remove_72 : decode prog_7_method_20_code 72 = .ok (.iconst 0, 1) := by decide +kernel
theorem d_M_remove_73 : decode prog_7_method_20_code 73 = .ok (.istore_n 2, 1) := by decide +kernel
theorem d_M_remove_74 : decode prog_7_method_20_code 74 = .ok (.iconst 0, 1) := by decide +kernel
theorem d_M_remove_75 : decode prog_7_method_20_code 75 = .ok (.istore_n 3, 1) := by decide +kernel
theorem d_M_remove_76 : decode prog_7_method_20_code 76 = .ok (.iload_n 3, 1) := by decide +kernel
theorem d_M_remove_77 : decode prog_7_method_20_code 77 = .ok (.sipush 420, 3) := by decide +kernel
theorem d_M_remove_80 : decode prog_7_method_20_code 80 = .ok (.if_icmp .ge 37, 3) := by decide +kernel
theorem d_M_remove_83 : decode prog_7_method_20_code 83 = .ok (.iload_n 2, 1) := by decide +kernel
theorem d_M_remove_84 : decode prog_7_method_20_code 84 = .ok (.aload_n 0, 1) := by decide +kernel
theorem d_M_remove_85 : decode prog_7_method_20_code 85 = .ok (.getfield 33, 3) := by decide +kernel
theorem d_M_remove_88 : decode prog_7_method_20_code 88 = .ok (.iload_n 3, 1) := by decide +kernel
theorem d_M_remove_89 : decode prog_7_method_20_code 89 = .ok (.iaload, 1) := by decide +kernel
theorem d_M_remove_90 : decode prog_7_method_20_code 90 = .ok (.iconst 3, 1) := by decide +kernel
theorem d_M_remove_91 : decode prog_7_method_20_code 91 = .ok (.if_icmp .eq 17, 3) := by decide +kernel
theorem d_M_remove_94 : decode prog_7_method_20_code 94 = .ok (.aload_n 0, 1) := by decide +kernel
theorem d_M_remove_95 : decode prog_7_method_20_code 95 = .ok (.getfield 30, 3) := by decide +kernel
theorem d_M_remove_98 : decode prog_7_method_20_code 98 = .ok (.iload_n 3, 1) := by decide +kernel
theorem d_M_remove_99 : decode prog_7_method_20_code 99 = .ok (.iaload, 1) := by decide +kernel
theorem d_M_remove_100 : decode prog_7_method_20_code 100 = .ok (.iconst 3, 1) := by decide +kernel
theorem d_M_remove_101 : decode prog_7_method_20_code 101 = .ok (.if_icmp .ne 7, 3) := by decide +kernel
theorem d_M_remove_104 : decode prog_7_method_20_code 104 = .ok (.iconst 1, 1) := by decide +kernel
theorem d_M_remove_105 : decode prog_7_method_20_code 105 = .ok (.goto 4, 3) := by decide +kernel
theorem d_M_remove_108 : decode prog_7_method_20_code 108 = .ok (.iconst 0, 1) := by decide +kernel
theorem d_M_remove_109 : decode prog_7_method_20_code 109 = .ok (.iadd, 1) := by decide +kernel
theorem d_M_remove_110 : decode prog_7_method_20_code 110 = .ok (.istore_n 2, 1) := by decide +kernel
theorem d_M_remove_111 : decode prog_7_method_20_code 111 = .ok (.iinc 3 1, 3) := by decide +kernel
theorem d_M_remove_114 : decode prog_7_method_20_code 114 = .ok (.goto (-38), 3) := by decide +kernel
theorem d_M_remove_117 : decode prog_7_method_20_code 117 = .ok (.iload_n 2, 1) := by decide +kernel
theorem d_M_remove_118 : decode prog_7_method_20_code 118 = .ok (.ireturn, 1) := by decide +kernel
theorem d_M_fuel_0 : decode prog_7_method_22_code 0 = .ok (.iload_n 1, 1) := by decide +kernel
theorem d_M_fuel_1 : decode prog_7_method_22_code 1 = .ok (.ifCond .lt 9, 3) := by decide +kernel
theorem d_M_fuel_4 : decode prog_7_method_22_code 4 = .ok (.iload_n 1, 1) := by decide +kernel
theorem d_M_fuel_5 : decode prog_7_method_22_code 5 = .ok (.bipush 20, 2) := by decide +kernel
theorem d_M_fuel_7 : decode prog_7_method_22_code 7 = .ok (.if_icmp .le 6, 3) := by decide +kernel
theorem d_M_fuel_10 : decode prog_7_method_22_code 10 = .ok (.bipush (-2), 2) := by decide +kernel
theorem d_M_fuel_12 : decode prog_7_method_22_code 12 = .ok (.ireturn, 1) := by decide +kernel
theorem d_M_fuel_13 : decode prog_7_method_22_code 13 = .ok (.aload_n 0, 1) := by decide +kernel
theorem d_M_fuel_14 : decode prog_7_method_22_code 14 = .ok (.invokevirtual 114, 3) := by decide +kernel
theorem d_M_fuel_17 : decode prog_7_method_22_code 17 = .ok (.istore_n 2, 1) := by decide +kernel
theorem d_M_fuel_18 : decode prog_7_method_22_code 18 = .ok (.iconst 0, 1) := by decide +kernel
theorem d_M_fuel_19 : decode prog_7_method_22_code 19 = .ok (.istore_n 3, 1) := by decide +kernel
theorem d_M_fuel_20 : decode prog_7_method_22_code 20 = .ok (.iload_n 3, 1) := by decide +kernel
theorem d_M_fuel_21 : decode prog_7_method_22_code 21 = .ok (.sipush 420, 3) := by decide +kernel
theorem d_M_fuel_24 : decode prog_7_method_22_code 24 = .ok (.if_icmp .ge 35, 3) := by decide +kernel
theorem d_M_fuel_27 : decode prog_7_method_22_code 27 = .ok (.aload_n 0, 1) := by decide +kernel
theorem d_M_fuel_28 : decode prog_7_method_22_code 28 = .ok (.getfield 30, 3) := by decide +kernel
theorem d_M_fuel_31 : decode prog_7_method_22_code 31 = .ok (.iload_n 3, 1) := by decide +kernel
theorem d_M_fuel_32 : decode prog_7_method_22_code 32 = .ok (.aload_n 0, 1) := by decide +kernel
theorem d_M_fuel_33 : decode prog_7_method_22_code 33 = .ok (.getfield 30, 3) := by decide +kernel
theorem d_M_fuel_36 : decode prog_7_method_22_code 36 = .ok (.iload_n 3, 1) := by decide +kernel
theorem d_M_fuel_37 : decode prog_7_method_22_code 37 = .ok (.iaload, 1) := by decide +kernel
theorem d_M_fuel_38 : decode prog_7_method_22_code 38 = .ok (.iconst 2, 1) := by decide +kernel
theorem d_M_fuel_39 : decode prog_7_method_22_code 39 = .ok (.if_icmp .ne 7, 3) := by decide +kernel
theorem d_M_fuel_42 : decode prog_7_method_22_code 42 = .ok (.iconst 3, 1) := by decide +kernel
theorem d_M_fuel_43 : decode prog_7_method_22_code 43 = .ok (.goto 9, 3) := by decide +kernel
theorem d_M_fuel_46 : decode prog_7_method_22_code 46 = .ok (.aload_n 0, 1) := by decide +kernel
theorem d_M_fuel_47 : decode prog_7_method_22_code 47 = .ok (.getfield 30, 3) := by decide +kernel
theorem d_M_fuel_50 : decode prog_7_method_22_code 50 = .ok (.iload_n 3, 1) := by decide +kernel
theorem d_M_fuel_51 : decode prog_7_method_22_code 51 = .ok (.iaload, 1) := by decide +kernel
theorem d_M_fuel_52 : decode prog_7_method_22_code 52 = .ok (.iastore, 1) := by decide +kernel
theorem d_M_fuel_53 : decode prog_7_method_22_code 53 = .ok (.iinc 3 1, 3) := by decide +kernel
theorem d_M_fuel_56 : decode prog_7_method_22_code 56 = .ok (.goto (-36), 3) := by decide +kernel
theorem d_M_fuel_59 : decode prog_7_method_22_code 59 = .ok (.aload_n 0, 1) := by decide +kernel
theorem d_M_fuel_60 : decode prog_7_method_22_code 60 = .ok (.iload_n 1, 1) := by decide +kernel
theorem d_M_fuel_61 : decode prog_7_method_22_code 61 = .ok (.putfield 7, 3) := by decide +kernel
theorem d_M_fuel_64 : decode prog_7_method_22_code 64 = .ok (.aload_n 0, 1) := by decide +kernel
theorem d_M_fuel_65 : decode prog_7_method_22_code 65 = .ok (.iconst 0, 1) := by decide +kernel
theorem d_M_fuel_66 : decode prog_7_method_22_code 66 = .ok (.putfield 97, 3) := by decide +kernel
theorem d_M_fuel_69 : decode prog_7_method_22_code 69 = .ok (.iload_n 2, 1) := by decide +kernel
theorem d_M_fuel_70 : decode prog_7_method_22_code 70 = .ok (.ireturn, 1) := by decide +kernel
theorem d_M_openPairs_0 : decode prog_7_method_21_code 0 = .ok (.iconst 0, 1) := by decide +kernel
theorem d_M_openPairs_1 : decode prog_7_method_21_code 1 = .ok (.istore_n 1, 1) := by decide +kernel
theorem d_M_openPairs_2 : decode prog_7_method_21_code 2 = .ok (.iconst 0, 1) := by decide +kernel
theorem d_M_openPairs_3 : decode prog_7_method_21_code 3 = .ok (.istore_n 2, 1) := by decide +kernel
theorem d_M_openPairs_4 : decode prog_7_method_21_code 4 = .ok (.iload_n 2, 1) := by decide +kernel
theorem d_M_openPairs_5 : decode prog_7_method_21_code 5 = .ok (.sipush 420, 3) := by decide +kernel
theorem d_M_openPairs_8 : decode prog_7_method_21_code 8 = .ok (.if_icmp .ge 27, 3) := by decide +kernel
theorem d_M_openPairs_11 : decode prog_7_method_21_code 11 = .ok (.iload_n 1, 1) := by decide +kernel
theorem d_M_openPairs_12 : decode prog_7_method_21_code 12 = .ok (.aload_n 0, 1) := by decide +kernel
theorem d_M_openPairs_13 : decode prog_7_method_21_code 13 = .ok (.getfield 30, 3) := by decide +kernel
theorem d_M_openPairs_16 : decode prog_7_method_21_code 16 = .ok (.iload_n 2, 1) := by decide +kernel
theorem d_M_openPairs_17 : decode prog_7_method_21_code 17 = .ok (.iaload, 1) := by decide +kernel
theorem d_M_openPairs_18 : decode prog_7_method_21_code 18 = .ok (.iconst 2, 1) := by decide +kernel
theorem d_M_openPairs_19 : decode prog_7_method_21_code 19 = .ok (.if_icmp .ne 7, 3) := by decide +kernel
theorem d_M_openPairs_22 : decode prog_7_method_21_code 22 = .ok (.iconst 1, 1) := by decide +kernel
theorem d_M_openPairs_23 : decode prog_7_method_21_code 23 = .ok (.goto 4, 3) := by decide +kernel
theorem d_M_openPairs_26 : decode prog_7_method_21_code 26 = .ok (.iconst 0, 1) := by decide +kernel
theorem d_M_openPairs_27 : decode prog_7_method_21_code 27 = .ok (.iadd, 1) := by decide +kernel
theorem d_M_openPairs_28 : decode prog_7_method_21_code 28 = .ok (.istore_n 1, 1) := by decide +kernel
theorem d_M_openPairs_29 : decode prog_7_method_21_code 29 = .ok (.iinc 2 1, 3) := by decide +kernel
theorem d_M_openPairs_32 : decode prog_7_method_21_code 32 = .ok (.goto (-28), 3) := by decide +kernel
theorem d_M_openPairs_35 : decode prog_7_method_21_code 35 = .ok (.iload_n 1, 1) := by decide +kernel
theorem d_M_openPairs_36 : decode prog_7_method_21_code 36 = .ok (.ireturn, 1) := by decide +kernel
theorem d_M_known_0 : decode prog_7_method_23_code 0 = .ok (.aload_n 0, 1) := by decide +kernel
theorem d_M_known_1 : decode prog_7_method_23_code 1 = .ok (.iload_n 2, 1) := by decide +kernel
theorem d_M_known_2 : decode prog_7_method_23_code 2 = .ok (.invokevirtual 118, 3) := by decide +kernel
theorem d_M_known_5 : decode prog_7_method_23_code 5 = .ok (.istore_n 3, 1) := by decide +kernel
theorem d_M_known_6 : decode prog_7_method_23_code 6 = .ok (.aload_n 0, 1) := by decide +kernel
theorem d_M_known_7 : decode prog_7_method_23_code 7 = .ok (.iload_n 1, 1) := by decide +kernel
theorem d_M_known_8 : decode prog_7_method_23_code 8 = .ok (.invokevirtual 63, 3) := by decide +kernel
theorem d_M_known_11 : decode prog_7_method_23_code 11 = .ok (.ifCond .eq 7, 3) := by decide +kernel
theorem d_M_known_14 : decode prog_7_method_23_code 14 = .ok (.iload_n 3, 1) := by decide +kernel
theorem d_M_known_15 : decode prog_7_method_23_code 15 = .ok (.ifCond .ge 7, 3) := by decide +kernel
theorem d_M_known_18 : decode prog_7_method_23_code 18 = .ok (.iconst (-1), 1) := by decide +kernel
theorem d_M_known_19 : decode prog_7_method_23_code 19 = .ok (.goto 14, 3) := by decide +kernel
theorem d_M_known_22 : decode prog_7_method_23_code 22 = .ok (.aload_n 0, 1) := by decide +kernel
theorem d_M_known_23 : decode prog_7_method_23_code 23 = .ok (.getfield 30, 3) := by decide +kernel
theorem d_M_known_26 : decode prog_7_method_23_code 26 = .ok (.bipush 21, 2) := by decide +kernel
theorem d_M_known_28 : decode prog_7_method_23_code 28 = .ok (.iload_n 1, 1) := by decide +kernel
theorem d_M_known_29 : decode prog_7_method_23_code 29 = .ok (.imul, 1) := by decide +kernel
theorem d_M_known_30 : decode prog_7_method_23_code 30 = .ok (.iload_n 3, 1) := by decide +kernel
theorem d_M_known_31 : decode prog_7_method_23_code 31 = .ok (.iadd, 1) := by decide +kernel
theorem d_M_known_32 : decode prog_7_method_23_code 32 = .ok (.iaload, 1) := by decide +kernel
theorem d_M_known_33 : decode prog_7_method_23_code 33 = .ok (.ireturn, 1) := by decide +kernel
theorem d_M_goalOf_0 : decode prog_7_method_4_code 0 = .ok (.iload_n 1, 1) := by decide +kernel
theorem d_M_goalOf_1 : decode prog_7_method_4_code 1 = .ok (.iconst (-1), 1) := by decide +kernel
theorem d_M_goalOf_2 : decode prog_7_method_4_code 2 = .ok (.if_icmp .ne 8, 3) := by decide +kernel
theorem d_M_goalOf_5 : decode prog_7_method_4_code 5 = .ok (.bipush 20, 2) := by decide +kernel
theorem d_M_goalOf_7 : decode prog_7_method_4_code 7 = .ok (.goto 16, 3) := by decide +kernel
theorem d_M_goalOf_10 : decode prog_7_method_4_code 10 = .ok (.aload_n 0, 1) := by decide +kernel
theorem d_M_goalOf_11 : decode prog_7_method_4_code 11 = .ok (.iload_n 1, 1) := by decide +kernel
theorem d_M_goalOf_12 : decode prog_7_method_4_code 12 = .ok (.invokevirtual 63, 3) := by decide +kernel
theorem d_M_goalOf_15 : decode prog_7_method_4_code 15 = .ok (.ifCond .eq 7, 3) := by decide +kernel
theorem d_M_goalOf_18 : decode prog_7_method_4_code 18 = .ok (.iload_n 1, 1) := by decide +kernel
theorem d_M_goalOf_19 : decode prog_7_method_4_code 19 = .ok (.goto 4, 3) := by decide +kernel
theorem d_M_goalOf_22 : decode prog_7_method_4_code 22 = .ok (.iconst (-1), 1) := by decide +kernel
theorem d_M_goalOf_23 : decode prog_7_method_4_code 23 = .ok (.ireturn, 1) := by decide +kernel
theorem d_M_ask_0 : decode prog_7_method_24_code 0 = .ok (.aload_n 0, 1) := by decide +kernel
theorem d_M_ask_1 : decode prog_7_method_24_code 1 = .ok (.iload_n 2, 1) := by decide +kernel
theorem d_M_ask_2 : decode prog_7_method_24_code 2 = .ok (.invokevirtual 118, 3) := by decide +kernel
theorem d_M_ask_5 : decode prog_7_method_24_code 5 = .ok (.istore_n 3, 1) := by decide +kernel
theorem d_M_ask_6 : decode prog_7_method_24_code 6 = .ok (.aload_n 0, 1) := by decide +kernel
theorem d_M_ask_7 : decode prog_7_method_24_code 7 = .ok (.iload_n 1, 1) := by decide +kernel
theorem d_M_ask_8 : decode prog_7_method_24_code 8 = .ok (.invokevirtual 63, 3) := by decide +kernel
theorem d_M_ask_11 : decode prog_7_method_24_code 11 = .ok (.ifCond .eq 7, 3) := by decide +kernel
theorem d_M_ask_14 : decode prog_7_method_24_code 14 = .ok (.iload_n 3, 1) := by decide +kernel
theorem d_M_ask_15 : decode prog_7_method_24_code 15 = .ok (.ifCond .ge 7, 3) := by decide +kernel
theorem d_M_ask_18 : decode prog_7_method_24_code 18 = .ok (.iconst (-1), 1) := by decide +kernel
theorem d_M_ask_19 : decode prog_7_method_24_code 19 = .ok (.goto 9, 3) := by decide +kernel
theorem d_M_ask_22 : decode prog_7_method_24_code 22 = .ok (.aload_n 0, 1) := by decide +kernel
theorem d_M_ask_23 : decode prog_7_method_24_code 23 = .ok (.iload_n 1, 1) := by decide +kernel
theorem d_M_ask_24 : decode prog_7_method_24_code 24 = .ok (.iload_n 3, 1) := by decide +kernel
theorem d_M_ask_25 : decode prog_7_method_24_code 25 = .ok (.invokevirtual 121, 3) := by decide +kernel
theorem d_M_ask_28 : decode prog_7_method_24_code 28 = .ok (.ireturn, 1) := by decide +kernel
theorem d_M_reasonAlone_0 : decode prog_7_method_13_code 0 = .ok (.iconst 0, 1) := by decide +kernel
theorem d_M_reasonAlone_1 : decode prog_7_method_13_code 1 = .ok (.istore_n 3, 1) := by decide +kernel
theorem d_M_reasonAlone_2 : decode prog_7_method_13_code 2 = .ok (.iload_n 3, 1) := by decide +kernel
theorem d_M_reasonAlone_3 : decode prog_7_method_13_code 3 = .ok (.bipush 20, 2) := by decide +kernel
theorem d_M_reasonAlone_5 : decode prog_7_method_13_code 5 = .ok (.if_icmp .gt 25, 3) := by decide +kernel
theorem d_M_reasonAlone_8 : decode prog_7_method_13_code 8 = .ok (.aload_n 0, 1) := by decide +kernel
theorem d_M_reasonAlone_9 : decode prog_7_method_13_code 9 = .ok (.getfield 42, 3) := by decide +kernel
theorem d_M_reasonAlone_12 : decode prog_7_method_13_code 12 = .ok (.iload_n 3, 1) := by decide +kernel
theorem d_M_reasonAlone_13 : decode prog_7_method_13_code 13 = .ok (.iload_n 3, 1) := by decide +kernel
theorem d_M_reasonAlone_14 : decode prog_7_method_13_code 14 = .ok (.iload_n 1, 1) := by decide +kernel
theorem d_M_reasonAlone_15 : decode prog_7_method_13_code 15 = .ok (.if_icmp .ne 7, 3) := by decide +kernel
theorem d_M_reasonAlone_18 : decode prog_7_method_13_code 18 = .ok (.iconst 1, 1) := by decide +kernel
theorem d_M_reasonAlone_19 : decode prog_7_method_13_code 19 = .ok (.goto 4, 3) := by decide +kernel
theorem d_M_reasonAlone_22 : decode prog_7_method_13_code 22 = .ok (.iconst 0, 1) := by decide +kernel
theorem d_M_reasonAlone_23 : decode prog_7_method_13_code 23 = .ok (.bastore, 1) := by decide +kernel
theorem d_M_reasonAlone_24 : decode prog_7_method_13_code 24 = .ok (.iinc 3 1, 3) := by decide +kernel
theorem d_M_reasonAlone_27 : decode prog_7_method_13_code 27 = .ok (.goto (-25), 3) := by decide +kernel
theorem d_M_reasonAlone_30 : decode prog_7_method_13_code 30 = .ok (.aload_n 0, 1) := by decide +kernel
theorem d_M_reasonAlone_31 : decode prog_7_method_13_code 31 = .ok (.iload_n 2, 1) := by decide +kernel
theorem d_M_reasonAlone_32 : decode prog_7_method_13_code 32 = .ok (.invokevirtual 93, 3) := by decide +kernel
theorem d_M_reasonAlone_35 : decode prog_7_method_13_code 35 = .ok (.ireturn, 1) := by decide +kernel
theorem d_M_reason_0 : decode prog_7_method_12_code 0 = .ok (.aload_n 0, 1) := by decide +kernel
theorem d_M_reason_1 : decode prog_7_method_12_code 1 = .ok (.iconst 0, 1) := by decide +kernel
theorem d_M_reason_2 : decode prog_7_method_12_code 2 = .ok (.putfield 90, 3) := by decide +kernel
theorem d_M_reason_5 : decode prog_7_method_12_code 5 = .ok (.iconst 0, 1) := by decide +kernel
theorem d_M_reason_6 : decode prog_7_method_12_code 6 = .ok (.istore_n 2, 1) := by decide +kernel
theorem d_M_reason_7 : decode prog_7_method_12_code 7 = .ok (.iload_n 2, 1) := by decide +kernel
theorem d_M_reason_8 : decode prog_7_method_12_code 8 = .ok (.bipush 20, 2) := by decide +kernel
theorem d_M_reason_10 : decode prog_7_method_12_code 10 = .ok (.if_icmp .gt 16, 3) := by decide +kernel
theorem d_M_reason_13 : decode prog_7_method_12_code 13 = .ok (.aload_n 0, 1) := by decide +kernel
theorem d_M_reason_14 : decode prog_7_method_12_code 14 = .ok (.getfield 45, 3) := by decide +kernel
theorem d_M_reason_17 : decode prog_7_method_12_code 17 = .ok (.iload_n 2, 1) := by decide +kernel
theorem d_M_reason_18 : decode prog_7_method_12_code 18 = .ok (.iconst (-1), 1) := by decide +kernel
theorem d_M_reason_19 : decode prog_7_method_12_code 19 = .ok (.iastore, 1) := by decide +kernel
theorem d_M_reason_20 : decode prog_7_method_12_code 20 = .ok (.iinc 2 1, 3) := by decide +kernel
theorem d_M_reason_23 : decode prog_7_method_12_code 23 = .ok (.goto (-16), 3) := by decide +kernel
theorem d_M_reason_26 : decode prog_7_method_12_code 26 = .ok (.aload_n 0, 1) := by decide +kernel
theorem d_M_reason_27 : decode prog_7_method_12_code 27 = .ok (.getfield 42, 3) := by decide +kernel
theorem d_M_reason_30 : decode prog_7_method_12_code 30 = .ok (.iload_n 1, 1) := by decide +kernel
theorem d_M_reason_31 : decode prog_7_method_12_code 31 = .ok (.baload, 1) := by decide +kernel
theorem d_M_reason_32 : decode prog_7_method_12_code 32 = .ok (.ifCond .ne 176, 3) := by decide +kernel
theorem d_M_reason_35 : decode prog_7_method_12_code 35 = .ok (.aload_n 0, 1) := by decide +kernel
theorem d_M_reason_36 : decode prog_7_method_12_code 36 = .ok (.getfield 42, 3) := by decide +kernel
theorem d_M_reason_39 : decode prog_7_method_12_code 39 = .ok (.bipush 20, 2) := by decide +kernel
theorem d_M_reason_41 : decode prog_7_method_12_code 41 = .ok (.baload, 1) := by decide +kernel
theorem d_M_reason_42 : decode prog_7_method_12_code 42 = .ok (.ifCond .ne 166, 3) := by decide +kernel
theorem d_M_reason_45 : decode prog_7_method_12_code 45 = .ok (.iconst (-1), 1) := by decide +kernel
theorem d_M_reason_46 : decode prog_7_method_12_code 46 = .ok (.istore_n 2, 1) := by decide +kernel
theorem d_M_reason_47 : decode prog_7_method_12_code 47 = .ok (.aload_n 0, 1) := by decide +kernel
theorem d_M_reason_48 : decode prog_7_method_12_code 48 = .ok (.getfield 67, 3) := by decide +kernel
theorem d_M_reason_51 : decode prog_7_method_12_code 51 = .ok (.iconst 1, 1) := by decide +kernel
theorem d_M_reason_52 : decode prog_7_method_12_code 52 = .ok (.isub, 1) := by decide +kernel
theorem d_M_reason_53 : decode prog_7_method_12_code 53 = .ok (.istore_n 3, 1) := by decide +kernel
theorem d_M_reason_54 : decode prog_7_method_12_code 54 = .ok (.iload_n 3, 1) := by decide +kernel
theorem d_M_reason_55 : decode prog_7_method_12_code 55 = .ok (.ifCond .lt 87, 3) := by decide +kernel
theorem d_M_reason_58 : decode prog_7_method_12_code 58 = .ok (.aload_n 0, 1) := by decide +kernel
theorem d_M_reason_59 : decode prog_7_method_12_code 59 = .ok (.getfield 23, 3) := by decide +kernel
theorem d_M_reason_62 : decode prog_7_method_12_code 62 = .ok (.iload_n 3, 1) := by decide +kernel
theorem d_M_reason_63 : decode prog_7_method_12_code 63 = .ok (.baload, 1) := by decide +kernel
theorem d_M_reason_64 : decode prog_7_method_12_code 64 = .ok (.ifCond .eq 58, 3) := by decide +kernel
theorem d_M_reason_67 : decode prog_7_method_12_code 67 = .ok (.aload_n 0, 1) := by decide +kernel
theorem d_M_reason_68 : decode prog_7_method_12_code 68 = .ok (.getfield 42, 3) := by decide +kernel
theorem d_M_reason_71 : decode prog_7_method_12_code 71 = .ok (.aload_n 0, 1) := by decide +kernel
theorem d_M_reason_72 : decode prog_7_method_12_code 72 = .ok (.getfield 13, 3) := by decide +kernel
theorem d_M_reason_75 : decode prog_7_method_12_code 75 = .ok (.iload_n 3, 1) := by decide +kernel
theorem d_M_reason_76 : decode prog_7_method_12_code 76 = .ok (.iaload, 1) := by decide +kernel
theorem d_M_reason_77 : decode prog_7_method_12_code 77 = .ok (.baload, 1) := by decide +kernel
theorem d_M_reason_78 : decode prog_7_method_12_code 78 = .ok (.ifCond .eq 44, 3) := by decide +kernel
theorem d_M_reason_81 : decode prog_7_method_12_code 81 = .ok (.aload_n 0, 1) := by decide +kernel
theorem d_M_reason_82 : decode prog_7_method_12_code 82 = .ok (.getfield 17, 3) := by decide +kernel
theorem d_M_reason_85 : decode prog_7_method_12_code 85 = .ok (.iload_n 3, 1) := by decide +kernel
theorem d_M_reason_86 : decode prog_7_method_12_code 86 = .ok (.iaload, 1) := by decide +kernel
theorem d_M_reason_87 : decode prog_7_method_12_code 87 = .ok (.ifCond .lt 17, 3) := by decide +kernel
theorem d_M_reason_90 : decode prog_7_method_12_code 90 = .ok (.aload_n 0, 1) := by decide +kernel
theorem d_M_reason_91 : decode prog_7_method_12_code 91 = .ok (.getfield 42, 3) := by decide +kernel
theorem d_M_reason_94 : decode prog_7_method_12_code 94 = .ok (.aload_n 0, 1) := by decide +kernel
theorem d_M_reason_95 : decode prog_7_method_12_code 95 = .ok (.getfield 17, 3) := by decide +kernel
theorem d_M_reason_98 : decode prog_7_method_12_code 98 = .ok (.iload_n 3, 1) := by decide +kernel
theorem d_M_reason_99 : decode prog_7_method_12_code 99 = .ok (.iaload, 1) := by decide +kernel
theorem d_M_reason_100 : decode prog_7_method_12_code 100 = .ok (.baload, 1) := by decide +kernel
theorem d_M_reason_101 : decode prog_7_method_12_code 101 = .ok (.ifCond .eq 21, 3) := by decide +kernel
theorem d_M_reason_104 : decode prog_7_method_12_code 104 = .ok (.aload_n 0, 1) := by decide +kernel
theorem d_M_reason_105 : decode prog_7_method_12_code 105 = .ok (.getfield 42, 3) := by decide +kernel
theorem d_M_reason_108 : decode prog_7_method_12_code 108 = .ok (.aload_n 0, 1) := by decide +kernel
theorem d_M_reason_109 : decode prog_7_method_12_code 109 = .ok (.getfield 20, 3) := by decide +kernel
theorem d_M_reason_112 : decode prog_7_method_12_code 112 = .ok (.iload_n 3, 1) := by decide +kernel
theorem d_M_reason_113 : decode prog_7_method_12_code 113 = .ok (.iaload, 1) := by decide +kernel
theorem d_M_reason_114 : decode prog_7_method_12_code 114 = .ok (.baload, 1) := by decide +kernel
theorem d_M_reason_115 : decode prog_7_method_12_code 115 = .ok (.ifCond .ne 7, 3) := by decide +kernel
theorem d_M_reason_118 : decode prog_7_method_12_code 118 = .ok (.iconst 1, 1) := by decide +kernel
theorem d_M_reason_119 : decode prog_7_method_12_code 119 = .ok (.goto 4, 3) := by decide +kernel
theorem d_M_reason_122 : decode prog_7_method_12_code 122 = .ok (.iconst 0, 1) := by decide +kernel
theorem d_M_reason_123 : decode prog_7_method_12_code 123 = .ok (.istore 4, 2) := by decide +kernel
theorem d_M_reason_125 : decode prog_7_method_12_code 125 = .ok (.iload 4, 2) := by decide +kernel
theorem d_M_reason_127 : decode prog_7_method_12_code 127 = .ok (.ifCond .eq 7, 3) := by decide +kernel
theorem d_M_reason_130 : decode prog_7_method_12_code 130 = .ok (.iload_n 3, 1) := by decide +kernel
theorem d_M_reason_131 : decode prog_7_method_12_code 131 = .ok (.goto 4, 3) := by decide +kernel
theorem d_M_reason_134 : decode prog_7_method_12_code 134 = .ok (.iload_n 2, 1) := by decide +kernel
theorem d_M_reason_135 : decode prog_7_method_12_code 135 = .ok (.istore_n 2, 1) := by decide +kernel
theorem d_M_reason_136 : decode prog_7_method_12_code 136 = .ok (.iinc 3 (-1), 3) := by decide +kernel
theorem d_M_reason_139 : decode prog_7_method_12_code 139 = .ok (.goto (-85), 3) := by decide +kernel
theorem d_M_reason_142 : decode prog_7_method_12_code 142 = .ok (.iload_n 2, 1) := by decide +kernel
theorem d_M_reason_143 : decode prog_7_method_12_code 143 = .ok (.ifCond .ge 5, 3) := by decide +kernel
theorem d_M_reason_146 : decode prog_7_method_12_code 146 = .ok (.iconst 0, 1) := by decide +kernel
theorem d_M_reason_147 : decode prog_7_method_12_code 147 = .ok (.ireturn, 1) := by decide +kernel
theorem d_M_reason_148 : decode prog_7_method_12_code 148 = .ok (.aload_n 0, 1) := by decide +kernel
theorem d_M_reason_149 : decode prog_7_method_12_code 149 = .ok (.getfield 90, 3) := by decide +kernel
theorem d_M_reason_152 : decode prog_7_method_12_code 152 = .ok (.aload_n 0, 1) := by decide +kernel
theorem d_M_reason_153 : decode prog_7_method_12_code 153 = .ok (.getfield 7, 3) := by decide +kernel
theorem d_M_reason_156 : decode prog_7_method_12_code 156 = .ok (.if_icmp .ne 5, 3) := by decide +kernel
theorem d_M_reason_159 : decode prog_7_method_12_code 159 = .ok (.iconst 2, 1) := by decide +kernel
theorem d_M_reason_160 : decode prog_7_method_12_code 160 = .ok (.ireturn, 1) := by decide +kernel
theorem d_M_reason_161 : decode prog_7_method_12_code 161 = .ok (.aload_n 0, 1) := by decide +kernel
theorem d_M_reason_162 : decode prog_7_method_12_code 162 = .ok (.getfield 48, 3) := by decide +kernel
theorem d_M_reason_165 : decode prog_7_method_12_code 165 = .ok (.aload_n 0, 1) := by decide +kernel
theorem d_M_reason_166 : decode prog_7_method_12_code 166 = .ok (.getfield 90, 3) := by decide +kernel
theorem d_M_reason_169 : decode prog_7_method_12_code 169 = .ok (.iload_n 2, 1) := by decide +kernel
theorem d_M_reason_170 : decode prog_7_method_12_code 170 = .ok (.iastore, 1) := by decide +kernel
theorem d_M_reason_171 : decode prog_7_method_12_code 171 = .ok (.aload_n 0, 1) := by decide +kernel
theorem d_M_reason_172 : decode prog_7_method_12_code 172 = .ok (.dup, 1) := by decide +kernel
theorem d_M_reason_173 : decode prog_7_method_12_code 173 = .ok (.getfield 90, 3) := by decide +kernel
theorem d_M_reason_176 : decode prog_7_method_12_code 176 = .ok (.iconst 1, 1) := by decide +kernel
theorem d_M_reason_177 : decode prog_7_method_12_code 177 = .ok (.iadd, 1) := by decide +kernel
theorem d_M_reason_178 : decode prog_7_method_12_code 178 = .ok (.putfield 90, 3) := by decide +kernel
theorem d_M_reason_181 : decode prog_7_method_12_code 181 = .ok (.aload_n 0, 1) := by decide +kernel
theorem d_M_reason_182 : decode prog_7_method_12_code 182 = .ok (.getfield 42, 3) := by decide +kernel
theorem d_M_reason_185 : decode prog_7_method_12_code 185 = .ok (.aload_n 0, 1) := by decide +kernel
theorem d_M_reason_186 : decode prog_7_method_12_code 186 = .ok (.getfield 20, 3) := by decide +kernel
theorem d_M_reason_189 : decode prog_7_method_12_code 189 = .ok (.iload_n 2, 1) := by decide +kernel
theorem d_M_reason_190 : decode prog_7_method_12_code 190 = .ok (.iaload, 1) := by decide +kernel
theorem d_M_reason_191 : decode prog_7_method_12_code 191 = .ok (.iconst 1, 1) := by decide +kernel
