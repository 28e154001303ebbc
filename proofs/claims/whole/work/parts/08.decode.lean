theorem d_M_trace_163 : decode prog_7_method_41_code 163 = .ok (.aload_n 0, 1) := by decide +kernel
theorem d_M_trace_164 : decode prog_7_method_41_code 164 = .ok (.getfield 17, 3) := by decide +kernel
theorem d_M_trace_167 : decode prog_7_method_41_code 167 = .ok (.iload 6, 2) := by decide +kernel
theorem d_M_trace_169 : decode prog_7_method_41_code 169 = .ok (.iaload, 1) := by decide +kernel
theorem d_M_trace_170 : decode prog_7_method_41_code 170 = .ok (.iaload, 1) := by decide +kernel
theorem d_M_trace_171 : decode prog_7_method_41_code 171 = .ok (.ifCond .lt 21, 3) := by decide +kernel
theorem d_M_trace_174 : decode prog_7_method_41_code 174 = .ok (.aload_n 0, 1) := by decide +kernel
theorem d_M_trace_175 : decode prog_7_method_41_code 175 = .ok (.getfield 51, 3) := by decide +kernel
theorem d_M_trace_178 : decode prog_7_method_41_code 178 = .ok (.aload_n 0, 1) := by decide +kernel
theorem d_M_trace_179 : decode prog_7_method_41_code 179 = .ok (.getfield 45, 3) := by decide +kernel
theorem d_M_trace_182 : decode prog_7_method_41_code 182 = .ok (.aload_n 0, 1) := by decide +kernel
theorem d_M_trace_183 : decode prog_7_method_41_code 183 = .ok (.getfield 17, 3) := by decide +kernel
theorem d_M_trace_186 : decode prog_7_method_41_code 186 = .ok (.iload 6, 2) := by decide +kernel
theorem d_M_trace_188 : decode prog_7_method_41_code 188 = .ok (.iaload, 1) := by decide +kernel
theorem d_M_trace_189 : decode prog_7_method_41_code 189 = .ok (.iaload, 1) := by decide +kernel
theorem d_M_trace_190 : decode prog_7_method_41_code 190 = .ok (.iconst 1, 1) := by decide +kernel
theorem d_M_trace_191 : decode prog_7_method_41_code 191 = .ok (.bastore, 1) := by decide +kernel
theorem d_M_trace_192 : decode prog_7_method_41_code 192 = .ok (.iinc 5 (-1), 3) := by decide +kernel
theorem d_M_trace_195 : decode prog_7_method_41_code 195 = .ok (.goto (-103), 3) := by decide +kernel
theorem d_M_trace_198 : decode prog_7_method_41_code 198 = .ok (.iload_n 3, 1) := by decide +kernel
theorem d_M_trace_199 : decode prog_7_method_41_code 199 = .ok (.istore 5, 2) := by decide +kernel
theorem d_M_trace_201 : decode prog_7_method_41_code 201 = .ok (.iconst 0, 1) := by decide +kernel
theorem d_M_trace_202 : decode prog_7_method_41_code 202 = .ok (.istore 6, 2) := by decide +kernel
theorem d_M_trace_204 : decode prog_7_method_41_code 204 = .ok (.iload 6, 2) := by decide +kernel
theorem d_M_trace_206 : decode prog_7_method_41_code 206 = .ok (.aload_n 0, 1) := by decide +kernel
theorem d_M_trace_207 : decode prog_7_method_41_code 207 = .ok (.getfield 90, 3) := by decide +kernel
theorem d_M_trace_210 : decode prog_7_method_41_code 210 = .ok (.if_icmp .ge 60, 3) := by decide +kernel
theorem d_M_trace_213 : decode prog_7_method_41_code 213 = .ok (.iload_n 3, 1) := by decide +kernel
theorem d_M_trace_214 : decode prog_7_method_41_code 214 = .ok (.ifCond .lt 56, 3) := by decide +kernel
theorem d_M_trace_217 : decode prog_7_method_41_code 217 = .ok (.aload_n 0, 1) := by decide +kernel
theorem d_M_trace_218 : decode prog_7_method_41_code 218 = .ok (.getfield 51, 3) := by decide +kernel
theorem d_M_trace_221 : decode prog_7_method_41_code 221 = .ok (.aload_n 0, 1) := by decide +kernel
theorem d_M_trace_222 : decode prog_7_method_41_code 222 = .ok (.getfield 48, 3) := by decide +kernel
theorem d_M_trace_225 : decode prog_7_method_41_code 225 = .ok (.iload 6, 2) := by decide +kernel
theorem d_M_trace_227 : decode prog_7_method_41_code 227 = .ok (.iaload, 1) := by decide +kernel
theorem d_M_trace_228 : decode prog_7_method_41_code 228 = .ok (.baload, 1) := by decide +kernel
theorem d_M_trace_229 : decode prog_7_method_41_code 229 = .ok (.istore 7, 2) := by decide +kernel
theorem d_M_trace_231 : decode prog_7_method_41_code 231 = .ok (.iload 7, 2) := by decide +kernel
theorem d_M_trace_233 : decode prog_7_method_41_code 233 = .ok (.ifCond .eq 16, 3) := by decide +kernel
theorem d_M_trace_236 : decode prog_7_method_41_code 236 = .ok (.iload 5, 2) := by decide +kernel
theorem d_M_trace_238 : decode prog_7_method_41_code 238 = .ok (.ifCond .ne 11, 3) := by decide +kernel
theorem d_M_trace_241 : decode prog_7_method_41_code 241 = .ok (.aload_n 0, 1) := by decide +kernel
theorem d_M_trace_242 : decode prog_7_method_41_code 242 = .ok (.getfield 48, 3) := by decide +kernel
theorem d_M_trace_245 : decode prog_7_method_41_code 245 = .ok (.iload 6, 2) := by decide +kernel
theorem d_M_trace_247 : decode prog_7_method_41_code 247 = .ok (.iaload, 1) := by decide +kernel
theorem d_M_trace_248 : decode prog_7_method_41_code 248 = .ok (.ireturn, 1) := by decide +kernel
theorem d_M_trace_249 : decode prog_7_method_41_code 249 = .ok (.iload 5, 2) := by decide +kernel
theorem d_M_trace_251 : decode prog_7_method_41_code 251 = .ok (.iload 7, 2) := by decide +kernel
theorem d_M_trace_253 : decode prog_7_method_41_code 253 = .ok (.ifCond .eq 7, 3) := by decide +kernel
theorem d_M_trace_256 : decode prog_7_method_41_code 256 = .ok (.iconst 1, 1) := by decide +kernel
theorem d_M_trace_257 : decode prog_7_method_41_code 257 = .ok (.goto 4, 3) := by decide +kernel
theorem d_M_trace_260 : decode prog_7_method_41_code 260 = .ok (.iconst 0, 1) := by decide +kernel
theorem d_M_trace_261 : decode prog_7_method_41_code 261 = .ok (.isub, 1) := by decide +kernel
theorem d_M_trace_262 : decode prog_7_method_41_code 262 = .ok (.istore 5, 2) := by decide +kernel
theorem d_M_trace_264 : decode prog_7_method_41_code 264 = .ok (.iinc 6 1, 3) := by decide +kernel
theorem d_M_trace_267 : decode prog_7_method_41_code 267 = .ok (.goto (-63), 3) := by decide +kernel
theorem d_M_trace_270 : decode prog_7_method_41_code 270 = .ok (.bipush (-6), 2) := by decide +kernel
theorem d_M_trace_272 : decode prog_7_method_41_code 272 = .ok (.ireturn, 1) := by decide +kernel
theorem d_M_count_0 : decode prog_7_method_42_code 0 = .ok (.iconst 0, 1) := by decide +kernel
theorem d_M_count_1 : decode prog_7_method_42_code 1 = .ok (.istore_n 2, 1) := by decide +kernel
theorem d_M_count_2 : decode prog_7_method_42_code 2 = .ok (.iload_n 1, 1) := by decide +kernel
theorem d_M_count_3 : decode prog_7_method_42_code 3 = .ok (.tableswitch 151 0 6 #[41, 46, 81, 86, 91, 96, 109], 41) := by decide +kernel
theorem d_M_count_44 : decode prog_7_method_42_code 44 = .ok (.aload_n 0, 1) := by decide +kernel
theorem d_M_count_45 : decode prog_7_method_42_code 45 = .ok (.getfield 60, 3) := by decide +kernel
theorem d_M_count_48 : decode prog_7_method_42_code 48 = .ok (.ireturn, 1) := by decide +kernel
theorem d_M_count_49 : decode prog_7_method_42_code 49 = .ok (.iconst 0, 1) := by decide +kernel
theorem d_M_count_50 : decode prog_7_method_42_code 50 = .ok (.istore_n 3, 1) := by decide +kernel
theorem d_M_count_51 : decode prog_7_method_42_code 51 = .ok (.iload_n 3, 1) := by decide +kernel
theorem d_M_count_52 : decode prog_7_method_42_code 52 = .ok (.aload_n 0, 1) := by decide +kernel
theorem d_M_count_53 : decode prog_7_method_42_code 53 = .ok (.getfield 67, 3) := by decide +kernel
theorem d_M_count_56 : decode prog_7_method_42_code 56 = .ok (.if_icmp .ge 26, 3) := by decide +kernel
theorem d_M_count_59 : decode prog_7_method_42_code 59 = .ok (.iload_n 2, 1) := by decide +kernel
theorem d_M_count_60 : decode prog_7_method_42_code 60 = .ok (.aload_n 0, 1) := by decide +kernel
theorem d_M_count_61 : decode prog_7_method_42_code 61 = .ok (.getfield 23, 3) := by decide +kernel
theorem d_M_count_64 : decode prog_7_method_42_code 64 = .ok (.iload_n 3, 1) := by decide +kernel
theorem d_M_count_65 : decode prog_7_method_42_code 65 = .ok (.baload, 1) := by decide +kernel
theorem d_M_count_66 : decode prog_7_method_42_code 66 = .ok (.ifCond .eq 7, 3) := by decide +kernel
theorem d_M_count_69 : decode prog_7_method_42_code 69 = .ok (.iconst 1, 1) := by decide +kernel
theorem d_M_count_70 : decode prog_7_method_42_code 70 = .ok (.goto 4, 3) := by decide +kernel
theorem d_M_count_73 : decode prog_7_method_42_code 73 = .ok (.iconst 0, 1) := by decide +kernel
theorem d_M_count_74 : decode prog_7_method_42_code 74 = .ok (.iadd, 1) := by decide +kernel
theorem d_M_count_75 : decode prog_7_method_42_code 75 = .ok (.istore_n 2, 1) := by decide +kernel
theorem d_M_count_76 : decode prog_7_method_42_code 76 = .ok (.iinc 3 1, 3) := by decide +kernel
theorem d_M_count_79 : decode prog_7_method_42_code 79 = .ok (.goto (-28), 3) := by decide +kernel
theorem d_M_count_82 : decode prog_7_method_42_code 82 = .ok (.iload_n 2, 1) := by decide +kernel
theorem d_M_count_83 : decode prog_7_method_42_code 83 = .ok (.ireturn, 1) := by decide +kernel
theorem d_M_count_84 : decode prog_7_method_42_code 84 = .ok (.aload_n 0, 1) := by decide +kernel
theorem d_M_count_85 : decode prog_7_method_42_code 85 = .ok (.getfield 104, 3) := by decide +kernel
theorem d_M_count_88 : decode prog_7_method_42_code 88 = .ok (.ireturn, 1) := by decide +kernel
theorem d_M_count_89 : decode prog_7_method_42_code 89 = .ok (.aload_n 0, 1) := by decide +kernel
theorem d_M_count_90 : decode prog_7_method_42_code 90 = .ok (.getfield 145, 3) := by decide +kernel
theorem d_M_count_93 : decode prog_7_method_42_code 93 = .ok (.ireturn, 1) := by decide +kernel
theorem d_M_count_94 : decode prog_7_method_42_code 94 = .ok (.aload_n 0, 1) := by decide +kernel
theorem d_M_count_95 : decode prog_7_method_42_code 95 = .ok (.invokevirtual 114, 3) := by decide +kernel
theorem d_M_count_98 : decode prog_7_method_42_code 98 = .ok (.ireturn, 1) := by decide +kernel
theorem d_M_count_99 : decode prog_7_method_42_code 99 = .ok (.aload_n 0, 1) := by decide +kernel
theorem d_M_count_100 : decode prog_7_method_42_code 100 = .ok (.getfield 97, 3) := by decide +kernel
theorem d_M_count_103 : decode prog_7_method_42_code 103 = .ok (.ifCond .eq 7, 3) := by decide +kernel
theorem d_M_count_106 : decode prog_7_method_42_code 106 = .ok (.iconst 1, 1) := by decide +kernel
theorem d_M_count_107 : decode prog_7_method_42_code 107 = .ok (.goto 4, 3) := by decide +kernel
theorem d_M_count_110 : decode prog_7_method_42_code 110 = .ok (.iconst 0, 1) := by decide +kernel
theorem d_M_count_111 : decode prog_7_method_42_code 111 = .ok (.ireturn, 1) := by decide +kernel
theorem d_M_count_112 : decode prog_7_method_42_code 112 = .ok (.iconst 0, 1) := by decide +kernel
theorem d_M_count_113 : decode prog_7_method_42_code 113 = .ok (.istore_n 3, 1) := by decide +kernel
theorem d_M_count_114 : decode prog_7_method_42_code 114 = .ok (.iload_n 3, 1) := by decide +kernel
theorem d_M_count_115 : decode prog_7_method_42_code 115 = .ok (.aload_n 0, 1) := by decide +kernel
theorem d_M_count_116 : decode prog_7_method_42_code 116 = .ok (.getfield 60, 3) := by decide +kernel
theorem d_M_count_119 : decode prog_7_method_42_code 119 = .ok (.if_icmp .ge 33, 3) := by decide +kernel
theorem d_M_count_122 : decode prog_7_method_42_code 122 = .ok (.iload_n 2, 1) := by decide +kernel
theorem d_M_count_123 : decode prog_7_method_42_code 123 = .ok (.aload_n 0, 1) := by decide +kernel
theorem d_M_count_124 : decode prog_7_method_42_code 124 = .ok (.getfield 97, 3) := by decide +kernel
theorem d_M_count_127 : decode prog_7_method_42_code 127 = .ok (.ifCond .eq 16, 3) := by decide +kernel
theorem d_M_count_130 : decode prog_7_method_42_code 130 = .ok (.aload_n 0, 1) := by decide +kernel
theorem d_M_count_131 : decode prog_7_method_42_code 131 = .ok (.getfield 36, 3) := by decide +kernel
theorem d_M_count_134 : decode prog_7_method_42_code 134 = .ok (.iload_n 3, 1) := by decide +kernel
theorem d_M_count_135 : decode prog_7_method_42_code 135 = .ok (.baload, 1) := by decide +kernel
theorem d_M_count_136 : decode prog_7_method_42_code 136 = .ok (.ifCond .eq 7, 3) := by decide +kernel
theorem d_M_count_139 : decode prog_7_method_42_code 139 = .ok (.iconst 1, 1) := by decide +kernel
theorem d_M_count_140 : decode prog_7_method_42_code 140 = .ok (.goto 4, 3) := by decide +kernel
theorem d_M_count_143 : decode prog_7_method_42_code 143 = .ok (.iconst 0, 1) := by decide +kernel
theorem d_M_count_144 : decode prog_7_method_42_code 144 = .ok (.iadd, 1) := by decide +kernel
theorem d_M_count_145 : decode prog_7_method_42_code 145 = .ok (.istore_n 2, 1) := by decide +kernel
theorem d_M_count_146 : decode prog_7_method_42_code 146 = .ok (.iinc 3 1, 3) := by decide +kernel
theorem d_M_count_149 : decode prog_7_method_42_code 149 = .ok (.goto (-35), 3) := by decide +kernel
theorem d_M_count_152 : decode prog_7_method_42_code 152 = .ok (.iload_n 2, 1) := by decide +kernel
theorem d_M_count_153 : decode prog_7_method_42_code 153 = .ok (.ireturn, 1) := by decide +kernel
theorem d_M_count_154 : decode prog_7_method_42_code 154 = .ok (.bipush (-2), 2) := by decide +kernel
theorem d_M_count_156 : decode prog_7_method_42_code 156 = .ok (.ireturn, 1) := by decide +kernel
theorem d_XA_init_0 : decode prog_2_method_1_code 0 = .ok (.aload_n 0, 1) := by decide +kernel
theorem d_XA_init_1 : decode prog_2_method_1_code 1 = .ok (.invokespecial 3, 3) := by decide +kernel
theorem d_XA_init_4 : decode prog_2_method_1_code 4 = .ok (.aload_n 0, 1) := by decide +kernel
theorem d_XA_init_5 : decode prog_2_method_1_code 5 = .ok (.bipush 40, 2) := by decide +kernel
theorem d_XA_init_7 : decode prog_2_method_1_code 7 = .ok (.newarray .int, 2) := by decide +kernel
theorem d_XA_init_9 : decode prog_2_method_1_code 9 = .ok (.putfield 9, 3) := by decide +kernel
theorem d_XA_init_12 : decode prog_2_method_1_code 12 = .ok (.aload_n 0, 1) := by decide +kernel
theorem d_XA_init_13 : decode prog_2_method_1_code 13 = .ok (.bipush 40, 2) := by decide +kernel
theorem d_XA_init_15 : decode prog_2_method_1_code 15 = .ok (.newarray .int, 2) := by decide +kernel
theorem d_XA_init_17 : decode prog_2_method_1_code 17 = .ok (.putfield 15, 3) := by decide +kernel
theorem d_XA_init_20 : decode prog_2_method_1_code 20 = .ok (.aload_n 0, 1) := by decide +kernel
theorem d_XA_init_21 : decode prog_2_method_1_code 21 = .ok (.iconst 0, 1) := by decide +kernel
theorem d_XA_init_22 : decode prog_2_method_1_code 22 = .ok (.putfield 18, 3) := by decide +kernel
theorem d_XA_init_25 : decode prog_2_method_1_code 25 = .ok (.aload_n 0, 1) := by decide +kernel
theorem d_XA_init_26 : decode prog_2_method_1_code 26 = .ok (.iconst 0, 1) := by decide +kernel
theorem d_XA_init_27 : decode prog_2_method_1_code 27 = .ok (.putfield 22, 3) := by decide +kernel
theorem d_XA_init_30 : decode prog_2_method_1_code 30 = .ok (.return_, 1) := by decide +kernel
theorem d_XR_init_0 : decode prog_5_method_1_code 0 = .ok (.aload_n 0, 1) := by decide +kernel
theorem d_XR_init_1 : decode prog_5_method_1_code 1 = .ok (.invokespecial 3, 3) := by decide +kernel
theorem d_XR_init_4 : decode prog_5_method_1_code 4 = .ok (.aload_n 0, 1) := by decide +kernel
theorem d_XR_init_5 : decode prog_5_method_1_code 5 = .ok (.bipush 20, 2) := by decide +kernel
theorem d_XR_init_7 : decode prog_5_method_1_code 7 = .ok (.newarray .int, 2) := by decide +kernel
theorem d_XR_init_9 : decode prog_5_method_1_code 9 = .ok (.putfield 9, 3) := by decide +kernel
theorem d_XR_init_12 : decode prog_5_method_1_code 12 = .ok (.aload_n 0, 1) := by decide +kernel
theorem d_XR_init_13 : decode prog_5_method_1_code 13 = .ok (.bipush 20, 2) := by decide +kernel
theorem d_XR_init_15 : decode prog_5_method_1_code 15 = .ok (.putfield 15, 3) := by decide +kernel
theorem d_XR_init_18 : decode prog_5_method_1_code 18 = .ok (.aload_n 0, 1) := by decide +kernel
theorem d_XR_init_19 : decode prog_5_method_1_code 19 = .ok (.iconst 0, 1) := by decide +kernel
theorem d_XR_init_20 : decode prog_5_method_1_code 20 = .ok (.putfield 19, 3) := by decide +kernel
theorem d_XR_init_23 : decode prog_5_method_1_code 23 = .ok (.aload_n 0, 1) := by decide +kernel
theorem d_XR_init_24 : decode prog_5_method_1_code 24 = .ok (.iconst 0, 1) := by decide +kernel
theorem d_XR_init_25 : decode prog_5_method_1_code 25 = .ok (.putfield 22, 3) := by decide +kernel
theorem d_XR_init_28 : decode prog_5_method_1_code 28 = .ok (.aload_n 0, 1) := by decide +kernel
theorem d_XR_init_29 : decode prog_5_method_1_code 29 = .ok (.aload_n 1, 1) := by decide +kernel
theorem d_XR_init_30 : decode prog_5_method_1_code 30 = .ok (.putfield 25, 3) := by decide +kernel
theorem d_XR_init_33 : decode prog_5_method_1_code 33 = .ok (.return_, 1) := by decide +kernel
theorem d_XK_init_0 : decode prog_3_method_1_code 0 = .ok (.aload_n 0, 1) := by decide +kernel
theorem d_XK_init_1 : decode prog_3_method_1_code 1 = .ok (.invokespecial 3, 3) := by decide +kernel
theorem d_XK_init_4 : decode prog_3_method_1_code 4 = .ok (.aload_n 0, 1) := by decide +kernel
theorem d_XK_init_5 : decode prog_3_method_1_code 5 = .ok (.bipush 21, 2) := by decide +kernel
theorem d_XK_init_7 : decode prog_3_method_1_code 7 = .ok (.newarray .int, 2) := by decide +kernel
theorem d_XK_init_9 : decode prog_3_method_1_code 9 = .ok (.putfield 9, 3) := by decide +kernel
theorem d_XK_init_12 : decode prog_3_method_1_code 12 = .ok (.aload_n 0, 1) := by decide +kernel
theorem d_XK_init_13 : decode prog_3_method_1_code 13 = .ok (.bipush 21, 2) := by decide +kernel
theorem d_XK_init_15 : decode prog_3_method_1_code 15 = .ok (.newarray .int, 2) := by decide +kernel
theorem d_XK_init_17 : decode prog_3_method_1_code 17 = .ok (.putfield 15, 3) := by decide +kernel
theorem d_XK_init_20 : decode prog_3_method_1_code 20 = .ok (.aload_n 0, 1) := by decide +kernel
theorem d_XK_init_21 : decode prog_3_method_1_code 21 = .ok (.bipush 21, 2) := by decide +kernel
theorem d_XK_init_23 : decode prog_3_method_1_code 23 = .ok (.newarray .int, 2) := by decide +kernel
theorem d_XK_init_25 : decode prog_3_method_1_code 25 = .ok (.putfield 18, 3) := by decide +kernel
theorem d_XK_init_28 : decode prog_3_method_1_code 28 = .ok (.aload_n 0, 1) := by decide +kernel
theorem d_XK_init_29 : decode prog_3_method_1_code 29 = .ok (.bipush 21, 2) := by decide +kernel
theorem d_XK_init_31 : decode prog_3_method_1_code 31 = .ok (.newarray .int, 2) := by decide +kernel
theorem d_XK_init_33 : decode prog_3_method_1_code 33 = .ok (.putfield 21, 3) := by decide +kernel
theorem d_XK_init_36 : decode prog_3_method_1_code 36 = .ok (.aload_n 0, 1) := by decide +kernel
theorem d_XK_init_37 : decode prog_3_method_1_code 37 = .ok (.getfield 9, 3) := by decide +kernel
theorem d_XK_init_40 : decode prog_3_method_1_code 40 = .ok (.bipush 20, 2) := by decide +kernel
theorem d_XK_init_42 : decode prog_3_method_1_code 42 = .ok (.bipush 20, 2) := by decide +kernel
theorem d_XK_init_44 : decode prog_3_method_1_code 44 = .ok (.invokestatic 24, 3) := by decide +kernel
theorem d_XK_init_47 : decode prog_3_method_1_code 47 = .ok (.iastore, 1) := by decide +kernel
theorem d_XK_init_48 : decode prog_3_method_1_code 48 = .ok (.aload_n 0, 1) := by decide +kernel
theorem d_XK_init_49 : decode prog_3_method_1_code 49 = .ok (.getfield 15, 3) := by decide +kernel
theorem d_XK_init_52 : decode prog_3_method_1_code 52 = .ok (.bipush 20, 2) := by decide +kernel
theorem d_XK_init_54 : decode prog_3_method_1_code 54 = .ok (.bipush 20, 2) := by decide +kernel
theorem d_XK_init_56 : decode prog_3_method_1_code 56 = .ok (.invokestatic 24, 3) := by decide +kernel
theorem d_XK_init_59 : decode prog_3_method_1_code 59 = .ok (.iastore, 1) := by decide +kernel
theorem d_XK_init_60 : decode prog_3_method_1_code 60 = .ok (.return_, 1) := by decide +kernel
theorem d_XO_init_0 : decode prog_4_method_1_code 0 = .ok (.aload_n 0, 1) := by decide +kernel
theorem d_XO_init_1 : decode prog_4_method_1_code 1 = .ok (.invokespecial 3, 3) := by decide +kernel
theorem d_XO_init_4 : decode prog_4_method_1_code 4 = .ok (.aload_n 0, 1) := by decide +kernel
theorem d_XO_init_5 : decode prog_4_method_1_code 5 = .ok (.iconst 0, 1) := by decide +kernel
theorem d_XO_init_6 : decode prog_4_method_1_code 6 = .ok (.putfield 9, 3) := by decide +kernel
theorem d_XO_init_9 : decode prog_4_method_1_code 9 = .ok (.aload_n 0, 1) := by decide +kernel
theorem d_XO_init_10 : decode prog_4_method_1_code 10 = .ok (.iconst 0, 1) := by decide +kernel
theorem d_XO_init_11 : decode prog_4_method_1_code 11 = .ok (.putfield 15, 3) := by decide +kernel
theorem d_XO_init_14 : decode prog_4_method_1_code 14 = .ok (.aload_n 0, 1) := by decide +kernel
theorem d_XO_init_15 : decode prog_4_method_1_code 15 = .ok (.iconst 0, 1) := by decide +kernel
theorem d_XO_init_16 : decode prog_4_method_1_code 16 = .ok (.putfield 18, 3) := by decide +kernel
theorem d_XO_init_19 : decode prog_4_method_1_code 19 = .ok (.aload_n 0, 1) := by decide +kernel
theorem d_XO_init_20 : decode prog_4_method_1_code 20 = .ok (.aload_n 1, 1) := by decide +kernel
theorem d_XO_init_21 : decode prog_4_method_1_code 21 = .ok (.putfield 21, 3) := by decide +kernel
theorem d_XO_init_24 : decode prog_4_method_1_code 24 = .ok (.aload_n 0, 1) := by decide +kernel
theorem d_XO_init_25 : decode prog_4_method_1_code 25 = .ok (.aload_n 2, 1) := by decide +kernel
theorem d_XO_init_26 : decode prog_4_method_1_code 26 = .ok (.putfield 25, 3) := by decide +kernel
theorem d_XO_init_29 : decode prog_4_method_1_code 29 = .ok (.return_, 1) := by decide +kernel
theorem d_X_init_0 : decode prog_1_method_1_code 0 = .ok (.aload_n 0, 1) := by decide +kernel
theorem d_X_init_1 : decode prog_1_method_1_code 1 = .ok (.invokespecial 3, 3) := by decide +kernel
theorem d_X_init_4 : decode prog_1_method_1_code 4 = .ok (.aload_n 0, 1) := by decide +kernel
theorem d_X_init_5 : decode prog_1_method_1_code 5 = .ok (.new 9, 3) := by decide +kernel
theorem d_X_init_8 : decode prog_1_method_1_code 8 = .ok (.dup, 1) := by decide +kernel
theorem d_X_init_9 : decode prog_1_method_1_code 9 = .ok (.invokespecial 11, 3) := by decide +kernel
theorem d_X_init_12 : decode prog_1_method_1_code 12 = .ok (.putfield 12, 3) := by decide +kernel
theorem d_X_init_15 : decode prog_1_method_1_code 15 = .ok (.aload_n 0, 1) := by decide +kernel
theorem d_X_init_16 : decode prog_1_method_1_code 16 = .ok (.new 16, 3) := by decide +kernel
theorem d_X_init_19 : decode prog_1_method_1_code 19 = .ok (.dup, 1) := by decide +kernel
theorem d_X_init_20 : decode prog_1_method_1_code 20 = .ok (.aload_n 0, 1) := by decide +kernel
theorem d_X_init_21 : decode prog_1_method_1_code 21 = .ok (.getfield 12, 3) := by decide +kernel
theorem d_X_init_24 : decode prog_1_method_1_code 24 = .ok (.invokespecial 18, 3) := by decide +kernel
theorem d_X_init_27 : decode prog_1_method_1_code 27 = .ok (.putfield 21, 3) := by decide +kernel
theorem d_X_init_30 : decode prog_1_method_1_code 30 = .ok (.aload_n 0, 1) := by decide +kernel
theorem d_X_init_31 : decode prog_1_method_1_code 31 = .ok (.new 25, 3) := by decide +kernel
theorem d_X_init_34 : decode prog_1_method_1_code 34 = .ok (.dup, 1) := by decide +kernel
theorem d_X_init_35 : decode prog_1_method_1_code 35 = .ok (.invokespecial 27, 3) := by decide +kernel
theorem d_X_init_38 : decode prog_1_method_1_code 38 = .ok (.putfield 28, 3) := by decide +kernel
theorem d_X_init_41 : decode prog_1_method_1_code 41 = .ok (.aload_n 0, 1) := by decide +kernel
theorem d_X_init_42 : decode prog_1_method_1_code 42 = .ok (.new 32, 3) := by decide +kernel
theorem d_X_init_45 : decode prog_1_method_1_code 45 = .ok (.dup, 1) := by decide +kernel
theorem d_X_init_46 : decode prog_1_method_1_code 46 = .ok (.aload_n 0, 1) := by decide +kernel
theorem d_X_init_47 : decode prog_1_method_1_code 47 = .ok (.getfield 28, 3) := by decide +kernel
theorem d_X_init_50 : decode prog_1_method_1_code 50 = .ok (.aload_n 0, 1) := by decide +kernel
theorem d_X_init_51 : decode prog_1_method_1_code 51 = .ok (.getfield 21, 3) := by decide +kernel
theorem d_X_init_54 : decode prog_1_method_1_code 54 = .ok (.invokespecial 34, 3) := by decide +kernel
theorem d_X_init_57 : decode prog_1_method_1_code 57 = .ok (.putfield 37, 3) := by decide +kernel
theorem d_X_init_60 : decode prog_1_method_1_code 60 = .ok (.aload_n 0, 1) := by decide +kernel
theorem d_X_init_61 : decode prog_1_method_1_code 61 = .ok (.bipush 8, 2) := by decide +kernel
theorem d_X_init_63 : decode prog_1_method_1_code 63 = .ok (.newarray .int, 2) := by decide +kernel
theorem d_X_init_65 : decode prog_1_method_1_code 65 = .ok (.putfield 41, 3) := by decide +kernel
theorem d_X_init_68 : decode prog_1_method_1_code 68 = .ok (.aload_n 0, 1) := by decide +kernel
theorem d_X_init_69 : decode prog_1_method_1_code 69 = .ok (.iconst 0, 1) := by decide +kernel
theorem d_X_init_70 : decode prog_1_method_1_code 70 = .ok (.putfield 45, 3) := by decide +kernel
theorem d_X_init_73 : decode prog_1_method_1_code 73 = .ok (.aload_n 0, 1) := by decide +kernel
theorem d_X_init_74 : decode prog_1_method_1_code 74 = .ok (.iconst 0, 1) := by decide +kernel
theorem d_X_init_75 : decode prog_1_method_1_code 75 = .ok (.putfield 49, 3) := by decide +kernel
theorem d_X_init_78 : decode prog_1_method_1_code 78 = .ok (.aload_n 0, 1) := by decide +kernel
theorem d_X_init_79 : decode prog_1_method_1_code 79 = .ok (.iconst 0, 1) := by decide +kernel
theorem d_X_init_80 : decode prog_1_method_1_code 80 = .ok (.putfield 52, 3) := by decide +kernel
theorem d_X_init_83 : decode prog_1_method_1_code 83 = .ok (.aload_n 0, 1) := by decide +kernel
theorem d_X_init_84 : decode prog_1_method_1_code 84 = .ok (.iconst 0, 1) := by decide +kernel
theorem d_X_init_85 : decode prog_1_method_1_code 85 = .ok (.putfield 55, 3) := by decide +kernel
theorem d_X_init_88 : decode prog_1_method_1_code 88 = .ok (.return_, 1) := by decide +kernel
theorem d_M_init_0 : decode prog_7_method_1_code 0 = .ok (.aload_n 0, 1) := by decide +kernel
theorem d_M_init_1 : decode prog_7_method_1_code 1 = .ok (.invokespecial 1, 3) := by decide +kernel
theorem d_M_init_4 : decode prog_7_method_1_code 4 = .ok (.aload_n 0, 1) := by decide +kernel
theorem d_M_init_5 : decode prog_7_method_1_code 5 = .ok (.bipush 20, 2) := by decide +kernel
theorem d_M_init_7 : decode prog_7_method_1_code 7 = .ok (.putfield 7, 3) := by decide +kernel
theorem d_M_init_10 : decode prog_7_method_1_code 10 = .ok (.aload_n 0, 1) := by decide +kernel
theorem d_M_init_11 : decode prog_7_method_1_code 11 = .ok (.bipush 40, 2) := by decide +kernel
theorem d_M_init_13 : decode prog_7_method_1_code 13 = .ok (.newarray .int, 2) := by decide +kernel
theorem d_M_init_15 : decode prog_7_method_1_code 15 = .ok (.putfield 13, 3) := by decide +kernel
theorem d_M_init_18 : decode prog_7_method_1_code 18 = .ok (.aload_n 0, 1) := by decide +kernel
theorem d_M_init_19 : decode prog_7_method_1_code 19 = .ok (.bipush 40, 2) := by decide +kernel
theorem d_M_init_21 : decode prog_7_method_1_code 21 = .ok (.newarray .int, 2) := by decide +kernel
theorem d_M_init_23 : decode prog_7_method_1_code 23 = .ok (.putfield 17, 3) := by decide +kernel
theorem d_M_init_26 : decode prog_7_method_1_code 26 = .ok (.aload_n 0, 1) := by decide +kernel
theorem d_M_init_27 : decode prog_7_method_1_code 27 = .ok (.bipush 40, 2) := by decide +kernel
theorem d_M_init_29 : decode prog_7_method_1_code 29 = .ok (.newarray .int, 2) := by decide +kernel
theorem d_M_init_31 : decode prog_7_method_1_code 31 = .ok (.putfield 20, 3) := by decide +kernel
theorem d_M_init_34 : decode prog_7_method_1_code 34 = .ok (.aload_n 0, 1) := by decide +kernel
theorem d_M_init_35 : decode prog_7_method_1_code 35 = .ok (.bipush 40, 2) := by decide +kernel
theorem d_M_init_37 : decode prog_7_method_1_code 37 = .ok (.newarray .boolean, 2) := by decide +kernel
theorem d_M_init_39 : decode prog_7_method_1_code 39 = .ok (.putfield 23, 3) := by decide +kernel
theorem d_M_init_42 : decode prog_7_method_1_code 42 = .ok (.aload_n 0, 1) := by decide +kernel
theorem d_M_init_43 : decode prog_7_method_1_code 43 = .ok (.sipush 160, 3) := by decide +kernel
theorem d_M_init_46 : decode prog_7_method_1_code 46 = .ok (.newarray .boolean, 2) := by decide +kernel
theorem d_M_init_48 : decode prog_7_method_1_code 48 = .ok (.putfield 27, 3) := by decide +kernel
theorem d_M_init_51 : decode prog_7_method_1_code 51 = .ok (.aload_n 0, 1) := by decide +kernel
theorem d_M_init_52 : decode prog_7_method_1_code 52 = .ok (.sipush 420, 3) := by decide +kernel
theorem d_M_init_55 : decode prog_7_method_1_code 55 = .ok (.newarray .int, 2) := by decide +kernel
theorem d_M_init_57 : decode prog_7_method_1_code 57 = .ok (.putfield 30, 3) := by decide +kernel
theorem d_M_init_60 : decode prog_7_method_1_code 60 = .ok (.aload_n 0, 1) := by decide +kernel
theorem d_M_init_61 : decode prog_7_method_1_code 61 = .ok (.sipush 420, 3) := by decide +kernel
theorem d_M_init_64 : decode prog_7_method_1_code 64 = .ok (.newarray .int, 2) := by decide +kernel
theorem d_M_init_66 : decode prog_7_method_1_code 66 = .ok (.putfield 33, 3) := by decide +kernel
theorem d_M_init_69 : decode prog_7_method_1_code 69 = .ok (.aload_n 0, 1) := by decide +kernel
theorem d_M_init_70 : decode prog_7_method_1_code 70 = .ok (.bipush 20, 2) := by decide +kernel
theorem d_M_init_72 : decode prog_7_method_1_code 72 = .ok (.newarray .boolean, 2) := by decide +kernel
theorem d_M_init_74 : decode prog_7_method_1_code 74 = .ok (.putfield 36, 3) := by decide +kernel
theorem d_M_init_77 : decode prog_7_method_1_code 77 = .ok (.aload_n 0, 1) := by decide +kernel
theorem d_M_init_78 : decode prog_7_method_1_code 78 = .ok (.bipush 20, 2) := by decide +kernel
theorem d_M_init_80 : decode prog_7_method_1_code 80 = .ok (.newarray .boolean, 2) := by decide +kernel
theorem d_M_init_82 : decode prog_7_method_1_code 82 = .ok (.putfield 39, 3) := by decide +kernel
theorem d_M_init_85 : decode prog_7_method_1_code 85 = .ok (.aload_n 0, 1) := by decide +kernel
theorem d_M_init_86 : decode prog_7_method_1_code 86 = .ok (.bipush 21, 2) := by decide +kernel
theorem d_M_init_88 : decode prog_7_method_1_code 88 = .ok (.newarray .boolean, 2) := by decide +kernel
theorem d_M_init_90 : decode prog_7_method_1_code 90 = .ok (.putfield 42, 3) := by decide +kernel
theorem d_M_init_93 : decode prog_7_method_1_code 93 = .ok (.aload_n 0, 1) := by decide +kernel
theorem d_M_init_94 : decode prog_7_method_1_code 94 = .ok (.bipush 21, 2) := by decide +kernel
theorem d_M_init_96 : decode prog_7_method_1_code 96 = .ok (.newarray .int, 2) := by decide +kernel
theorem d_M_init_98 : decode prog_7_method_1_code 98 = .ok (.putfield 45, 3) := by decide +kernel
theorem d_M_init_101 : decode prog_7_method_1_code 101 = .ok (.aload_n 0, 1) := by decide +kernel
theorem d_M_init_102 : decode prog_7_method_1_code 102 = .ok (.bipush 40, 2) := by decide +kernel
theorem d_M_init_104 : decode prog_7_method_1_code 104 = .ok (.newarray .int, 2) := by decide +kernel
theorem d_M_init_106 : decode prog_7_method_1_code 106 = .ok (.putfield 48, 3) := by decide +kernel
theorem d_M_init_109 : decode prog_7_method_1_code 109 = .ok (.aload_n 0, 1) := by decide +kernel
theorem d_M_init_110 : decode prog_7_method_1_code 110 = .ok (.bipush 40, 2) := by decide +kernel
theorem d_M_init_112 : decode prog_7_method_1_code 112 = .ok (.newarray .boolean, 2) := by decide +kernel
theorem d_M_init_114 : decode prog_7_method_1_code 114 = .ok (.putfield 51, 3) := by decide +kernel
theorem d_M_init_117 : decode prog_7_method_1_code 117 = .ok (.aload_n 0, 1) := by decide +kernel
theorem d_M_init_118 : decode prog_7_method_1_code 118 = .ok (.bipush 21, 2) := by decide +kernel
theorem d_M_init_120 : decode prog_7_method_1_code 120 = .ok (.newarray .boolean, 2) := by decide +kernel
theorem d_M_init_122 : decode prog_7_method_1_code 122 = .ok (.putfield 54, 3) := by decide +kernel
theorem d_M_init_125 : decode prog_7_method_1_code 125 = .ok (.iconst 0, 1) := by decide +kernel
theorem d_M_init_126 : decode prog_7_method_1_code 126 = .ok (.istore_n 1, 1) := by decide +kernel
theorem d_M_init_127 : decode prog_7_method_1_code 127 = .ok (.iload_n 1, 1) := by decide +kernel
theorem d_M_init_128 : decode prog_7_method_1_code 128 = .ok (.sipush 420, 3) := by decide +kernel
theorem d_M_init_131 : decode prog_7_method_1_code 131 = .ok (.if_icmp .ge 16, 3) := by decide +kernel
theorem d_M_init_134 : decode prog_7_method_1_code 134 = .ok (.aload_n 0, 1) := by decide +kernel
theorem d_M_init_135 : decode prog_7_method_1_code 135 = .ok (.getfield 30, 3) := by decide +kernel
theorem d_M_init_138 : decode prog_7_method_1_code 138 = .ok (.iload_n 1, 1) := by decide +kernel
theorem d_M_init_139 : decode prog_7_method_1_code 139 = .ok (.iconst 3, 1) := by decide +kernel
theorem d_M_init_140 : decode prog_7_method_1_code 140 = .ok (.iastore, 1) := by decide +kernel
theorem d_M_init_141 : decode prog_7_method_1_code 141 = .ok (.iinc 1 1, 3) := by decide +kernel
theorem d_M_init_144 : decode prog_7_method_1_code 144 = .ok (.goto (-17), 3) := by decide +kernel
theorem d_M_init_147 : decode prog_7_method_1_code 147 = .ok (.return_, 1) := by decide +kernel
theorem d_L_law_0 : decode code 0 = .ok (.new 7, 3) := by decide +kernel
theorem d_L_law_3 : decode code 3 = .ok (.dup, 1) := by decide +kernel
theorem d_L_law_4 : decode code 4 = .ok (.invokespecial 9, 3) := by decide +kernel
theorem d_L_law_7 : decode code 7 = .ok (.astore_n 1, 1) := by decide +kernel
theorem d_L_law_8 : decode code 8 = .ok (.new 10, 3) := by decide +kernel
theorem d_L_law_11 : decode code 11 = .ok (.dup, 1) := by decide +kernel
theorem d_L_law_12 : decode code 12 = .ok (.invokespecial 12, 3) := by decide +kernel
theorem d_L_law_15 : decode code 15 = .ok (.astore_n 2, 1) := by decide +kernel
theorem d_L_law_16 : decode code 16 = .ok (.iconst 0, 1) := by decide +kernel
theorem d_L_law_17 : decode code 17 = .ok (.istore_n 3, 1) := by decide +kernel
theorem d_L_law_18 : decode code 18 = .ok (.iload_n 3, 1) := by decide +kernel
theorem d_L_law_19 : decode code 19 = .ok (.aload_n 0, 1) := by decide +kernel
theorem d_L_law_20 : decode code 20 = .ok (.arraylength, 1) := by decide +kernel
theorem d_L_law_21 : decode code 21 = .ok (.iconst 4, 1) := by decide +kernel
theorem d_L_law_22 : decode code 22 = .ok (.isub, 1) := by decide +kernel
theorem d_L_law_23 : decode code 23 = .ok (.if_icmp .gt 570, 3) := by decide +kernel
theorem d_L_law_26 : decode code 26 = .ok (.aload_n 0, 1) := by decide +kernel
theorem d_L_law_27 : decode code 27 = .ok (.iload_n 3, 1) := by decide +kernel
theorem d_L_law_28 : decode code 28 = .ok (.iaload, 1) := by decide +kernel
theorem d_L_law_29 : decode code 29 = .ok (.bipush 31, 2) := by decide +kernel
theorem d_L_law_31 : decode code 31 = .ok (.iand, 1) := by decide +kernel
theorem d_L_law_32 : decode code 32 = .ok (.tableswitch 555 0 16 #[84, 97, 110, 153, 176, 199, 232, 265, 278, 311, 344, 377, 400, 423, 456, 489, 532], 84) := by decide +kernel
theorem d_L_law_116 : decode code 116 = .ok (.aload_n 1, 1) := by decide +kernel
theorem d_L_law_117 : decode code 117 = .ok (.invokevirtual 13, 3) := by decide +kernel
theorem d_L_law_120 : decode code 120 = .ok (.aload_n 2, 1) := by decide +kernel
theorem d_L_law_121 : decode code 121 = .ok (.invokevirtual 17, 3) := by decide +kernel
theorem d_L_law_124 : decode code 124 = .ok (.if_icmp .eq 463, 3) := by decide +kernel
theorem d_L_law_127 : decode code 127 = .ok (.iconst 0, 1) := by decide +kernel
theorem d_L_law_128 : decode code 128 = .ok (.ireturn, 1) := by decide +kernel
theorem d_L_law_129 : decode code 129 = .ok (.aload_n 1, 1) := by decide +kernel
theorem d_L_law_130 : decode code 130 = .ok (.invokevirtual 18, 3) := by decide +kernel
theorem d_L_law_133 : decode code 133 = .ok (.aload_n 2, 1) := by decide +kernel
theorem d_L_law_134 : decode code 134 = .ok (.invokevirtual 21, 3) := by decide +kernel
theorem d_L_law_137 : decode code 137 = .ok (.if_icmp .eq 450, 3) := by decide +kernel
theorem d_L_law_140 : decode code 140 = .ok (.iconst 0, 1) := by decide +kernel
theorem d_L_law_141 : decode code 141 = .ok (.ireturn, 1) := by decide +kernel
theorem d_L_law_142 : decode code 142 = .ok (.aload_n 1, 1) := by decide +kernel
theorem d_L_law_143 : decode code 143 = .ok (.aload_n 0, 1) := by decide +kernel
theorem d_L_law_144 : decode code 144 = .ok (.iload_n 3, 1) := by decide +kernel
theorem d_L_law_145 : decode code 145 = .ok (.iconst 1, 1) := by decide +kernel
theorem d_L_law_146 : decode code 146 = .ok (.iadd, 1) := by decide +kernel
theorem d_L_law_147 : decode code 147 = .ok (.iaload, 1) := by decide +kernel
theorem d_L_law_148 : decode code 148 = .ok (.aload_n 0, 1) := by decide +kernel
theorem d_L_law_149 : decode code 149 = .ok (.iload_n 3, 1) := by decide +kernel
theorem d_L_law_150 : decode code 150 = .ok (.iconst 2, 1) := by decide +kernel
theorem d_L_law_151 : decode code 151 = .ok (.iadd, 1) := by decide +kernel
theorem d_L_law_152 : decode code 152 = .ok (.iaload, 1) := by decide +kernel
theorem d_L_law_153 : decode code 153 = .ok (.aload_n 0, 1) := by decide +kernel
theorem d_L_law_154 : decode code 154 = .ok (.iload_n 3, 1) := by decide +kernel
theorem d_L_law_155 : decode code 155 = .ok (.iconst 3, 1) := by decide +kernel
theorem d_L_law_156 : decode code 156 = .ok (.iadd, 1) := by decide +kernel
theorem d_L_law_157 : decode code 157 = .ok (.iaload, 1) := by decide +kernel
theorem d_L_law_158 : decode code 158 = .ok (.invokevirtual 22, 3) := by decide +kernel
theorem d_L_law_161 : decode code 161 = .ok (.aload_n 2, 1) := by decide +kernel
theorem d_L_law_162 : decode code 162 = .ok (.aload_n 0, 1) := by decide +kernel
theorem d_L_law_163 : decode code 163 = .ok (.iload_n 3, 1) := by decide +kernel
theorem d_L_law_164 : decode code 164 = .ok (.iconst 1, 1) := by decide +kernel
theorem d_L_law_165 : decode code 165 = .ok (.iadd, 1) := by decide +kernel
theorem d_L_law_166 : decode code 166 = .ok (.iaload, 1) := by decide +kernel
theorem d_L_law_167 : decode code 167 = .ok (.aload_n 0, 1) := by decide +kernel
theorem d_L_law_168 : decode code 168 = .ok (.iload_n 3, 1) := by decide +kernel
theorem d_L_law_169 : decode code 169 = .ok (.iconst 2, 1) := by decide +kernel
theorem d_L_law_170 : decode code 170 = .ok (.iadd, 1) := by decide +kernel
theorem d_L_law_171 : decode code 171 = .ok (.iaload, 1) := by decide +kernel
theorem d_L_law_172 : decode code 172 = .ok (.aload_n 0, 1) := by decide +kernel
theorem d_L_law_173 : decode code 173 = .ok (.iload_n 3, 1) := by decide +kernel
theorem d_L_law_174 : decode code 174 = .ok (.iconst 3, 1) := by decide +kernel
theorem d_L_law_175 : decode code 175 = .ok (.iadd, 1) := by decide +kernel
theorem d_L_law_176 : decode code 176 = .ok (.iaload, 1) := by decide +kernel
theorem d_L_law_177 : decode code 177 = .ok (.invokevirtual 26, 3) := by decide +kernel
theorem d_L_law_180 : decode code 180 = .ok (.if_icmp .eq 407, 3) := by decide +kernel
theorem d_L_law_183 : decode code 183 = .ok (.iconst 0, 1) := by decide +kernel
theorem d_L_law_184 : decode code 184 = .ok (.ireturn, 1) := by decide +kernel
theorem d_L_law_185 : decode code 185 = .ok (.aload_n 1, 1) := by decide +kernel
theorem d_L_law_186 : decode code 186 = .ok (.aload_n 0, 1) := by decide +kernel
theorem d_L_law_187 : decode code 187 = .ok (.iload_n 3, 1) := by decide +kernel
theorem d_L_law_188 : decode code 188 = .ok (.iconst 1, 1) := by decide +kernel
theorem d_L_law_189 : decode code 189 = .ok (.iadd, 1) := by decide +kernel
theorem d_L_law_190 : decode code 190 = .ok (.iaload, 1) := by decide +kernel
theorem d_L_law_191 : decode code 191 = .ok (.invokevirtual 27, 3) := by decide +kernel
theorem d_L_law_194 : decode code 194 = .ok (.aload_n 2, 1) := by decide +kernel
theorem d_L_law_195 : decode code 195 = .ok (.aload_n 0, 1) := by decide +kernel
theorem d_L_law_196 : decode code 196 = .ok (.iload_n 3, 1) := by decide +kernel
theorem d_L_law_197 : decode code 197 = .ok (.iconst 1, 1) := by decide +kernel
theorem d_L_law_198 : decode code 198 = .ok (.iadd, 1) := by decide +kernel
theorem d_L_law_199 : decode code 199 = .ok (.iaload, 1) := by decide +kernel
theorem d_L_law_200 : decode code 200 = .ok (.invokevirtual 31, 3) := by decide +kernel
theorem d_L_law_203 : decode code 203 = .ok (.if_icmp .eq 384, 3) := by decide +kernel
theorem d_L_law_206 : decode code 206 = .ok (.iconst 0, 1) := by decide +kernel
theorem d_L_law_207 : decode code 207 = .ok (.ireturn, 1) := by decide +kernel
theorem d_L_law_208 : decode code 208 = .ok (.aload_n 1, 1) := by decide +kernel
theorem d_L_law_209 : decode code 209 = .ok (.aload_n 0, 1) := by decide +kernel
theorem d_L_law_210 : decode code 210 = .ok (.iload_n 3, 1) := by decide +kernel
theorem d_L_law_211 : decode code 211 = .ok (.iconst 1, 1) := by decide +kernel
theorem d_L_law_212 : decode code 212 = .ok (.iadd, 1) := by decide +kernel
theorem d_L_law_213 : decode code 213 = .ok (.iaload, 1) := by decide +kernel
theorem d_L_law_214 : decode code 214 = .ok (.invokevirtual 32, 3) := by decide +kernel
theorem d_L_law_217 : decode code 217 = .ok (.aload_n 2, 1) := by decide +kernel
theorem d_L_law_218 : decode code 218 = .ok (.aload_n 0, 1) := by decide +kernel
theorem d_L_law_219 : decode code 219 = .ok (.iload_n 3, 1) := by decide +kernel
theorem d_L_law_220 : decode code 220 = .ok (.iconst 1, 1) := by decide +kernel
theorem d_L_law_221 : decode code 221 = .ok (.iadd, 1) := by decide +kernel
theorem d_L_law_222 : decode code 222 = .ok (.iaload, 1) := by decide +kernel
theorem d_L_law_223 : decode code 223 = .ok (.invokevirtual 35, 3) := by decide +kernel
theorem d_L_law_226 : decode code 226 = .ok (.if_icmp .eq 361, 3) := by decide +kernel
theorem d_L_law_229 : decode code 229 = .ok (.iconst 0, 1) := by decide +kernel
theorem d_L_law_230 : decode code 230 = .ok (.ireturn, 1) := by decide +kernel
theorem d_L_law_231 : decode code 231 = .ok (.aload_n 1, 1) := by decide +kernel
theorem d_L_law_232 : decode code 232 = .ok (.aload_n 0, 1) := by decide +kernel
theorem d_L_law_233 : decode code 233 = .ok (.iload_n 3, 1) := by decide +kernel
theorem d_L_law_234 : decode code 234 = .ok (.iconst 1, 1) := by decide +kernel
theorem d_L_law_235 : decode code 235 = .ok (.iadd, 1) := by decide +kernel
theorem d_L_law_236 : decode code 236 = .ok (.iaload, 1) := by decide +kernel
theorem d_L_law_237 : decode code 237 = .ok (.aload_n 0, 1) := by decide +kernel
theorem d_L_law_238 : decode code 238 = .ok (.iload_n 3, 1) := by decide +kernel
theorem d_L_law_239 : decode code 239 = .ok (.iconst 2, 1) := by decide +kernel
theorem d_L_law_240 : decode code 240 = .ok (.iadd, 1) := by decide +kernel
theorem d_L_law_241 : decode code 241 = .ok (.iaload, 1) := by decide +kernel
theorem d_L_law_242 : decode code 242 = .ok (.invokevirtual 36, 3) := by decide +kernel
theorem d_L_law_245 : decode code 245 = .ok (.aload_n 2, 1) := by decide +kernel
theorem d_L_law_246 : decode code 246 = .ok (.aload_n 0, 1) := by decide +kernel
theorem d_L_law_247 : decode code 247 = .ok (.iload_n 3, 1) := by decide +kernel
theorem d_L_law_248 : decode code 248 = .ok (.iconst 1, 1) := by decide +kernel
theorem d_L_law_249 : decode code 249 = .ok (.iadd, 1) := by decide +kernel
theorem d_L_law_250 : decode code 250 = .ok (.iaload, 1) := by decide +kernel
theorem d_L_law_251 : decode code 251 = .ok (.aload_n 0, 1) := by decide +kernel
theorem d_L_law_252 : decode code 252 = .ok (.iload_n 3, 1) := by decide +kernel
theorem d_L_law_253 : decode code 253 = .ok (.iconst 2, 1) := by decide +kernel
theorem d_L_law_254 : decode code 254 = .ok (.iadd, 1) := by decide +kernel
theorem d_L_law_255 : decode code 255 = .ok (.iaload, 1) := by decide +kernel
theorem d_L_law_256 : decode code 256 = .ok (.invokevirtual 40, 3) := by decide +kernel
theorem d_L_law_259 : decode code 259 = .ok (.if_icmp .eq 328, 3) := by decide +kernel
theorem d_L_law_262 : decode code 262 = .ok (.iconst 0, 1) := by decide +kernel
theorem d_L_law_263 : decode code 263 = .ok (.ireturn, 1) := by decide +kernel
theorem d_L_law_264 : decode code 264 = .ok (.aload_n 1, 1) := by decide +kernel
theorem d_L_law_265 : decode code 265 = .ok (.aload_n 0, 1) := by decide +kernel
theorem d_L_law_266 : decode code 266 = .ok (.iload_n 3, 1) := by decide +kernel
theorem d_L_law_267 : decode code 267 = .ok (.iconst 1, 1) := by decide +kernel
theorem d_L_law_268 : decode code 268 = .ok (.iadd, 1) := by decide +kernel
theorem d_L_law_269 : decode code 269 = .ok (.iaload, 1) := by decide +kernel
theorem d_L_law_270 : decode code 270 = .ok (.aload_n 0, 1) := by decide +kernel
theorem d_L_law_271 : decode code 271 = .ok (.iload_n 3, 1) := by decide +kernel
theorem d_L_law_272 : decode code 272 = .ok (.iconst 2, 1) := by decide +kernel
theorem d_L_law_273 : decode code 273 = .ok (.iadd, 1) := by decide +kernel
theorem d_L_law_274 : decode code 274 = .ok (.iaload, 1) := by decide +kernel
theorem d_L_law_275 : decode code 275 = .ok (.invokevirtual 41, 3) := by decide +kernel
theorem d_L_law_278 : decode code 278 = .ok (.aload_n 2, 1) := by decide +kernel
theorem d_L_law_279 : decode code 279 = .ok (.aload_n 0, 1) := by decide +kernel
theorem d_L_law_280 : decode code 280 = .ok (.iload_n 3, 1) := by decide +kernel
theorem d_L_law_281 : decode code 281 = .ok (.iconst 1, 1) := by decide +kernel
theorem d_L_law_282 : decode code 282 = .ok (.iadd, 1) := by decide +kernel
theorem d_L_law_283 : decode code 283 = .ok (.iaload, 1) := by decide +kernel
theorem d_L_law_284 : decode code 284 = .ok (.aload_n 0, 1) := by decide +kernel
theorem d_L_law_285 : decode code 285 = .ok (.iload_n 3, 1) := by decide +kernel
theorem d_L_law_286 : decode code 286 = .ok (.iconst 2, 1) := by decide +kernel
theorem d_L_law_287 : decode code 287 = .ok (.iadd, 1) := by decide +kernel
theorem d_L_law_288 : decode code 288 = .ok (.iaload, 1) := by decide +kernel
theorem d_L_law_289 : decode code 289 = .ok (.invokevirtual 44, 3) := by decide +kernel
theorem d_L_law_292 : decode code 292 = .ok (.if_icmp .eq 295, 3) := by decide +kernel
theorem d_L_law_295 : decode code 295 = .ok (.iconst 0, 1) := by decide +kernel
theorem d_L_law_296 : decode code 296 = .ok (.ireturn, 1) := by decide +kernel
theorem d_L_law_297 : decode code 297 = .ok (.aload_n 1, 1) := by decide +kernel
theorem d_L_law_298 : decode code 298 = .ok (.invokevirtual 45, 3) := by decide +kernel
theorem d_L_law_301 : decode code 301 = .ok (.aload_n 2, 1) := by decide +kernel
theorem d_L_law_302 : decode code 302 = .ok (.invokevirtual 48, 3) := by decide +kernel
theorem d_L_law_305 : decode code 305 = .ok (.if_icmp .eq 282, 3) := by decide +kernel
theorem d_L_law_308 : decode code 308 = .ok (.iconst 0, 1) := by decide +kernel
theorem d_L_law_309 : decode code 309 = .ok (.ireturn, 1) := by decide +kernel
theorem d_L_law_310 : decode code 310 = .ok (.aload_n 1, 1) := by decide +kernel
theorem d_L_law_311 : decode code 311 = .ok (.aload_n 0, 1) := by decide +kernel
theorem d_L_law_312 : decode code 312 = .ok (.iload_n 3, 1) := by decide +kernel
theorem d_L_law_313 : decode code 313 = .ok (.iconst 1, 1) := by decide +kernel
theorem d_L_law_314 : decode code 314 = .ok (.iadd, 1) := by decide +kernel
theorem d_L_law_315 : decode code 315 = .ok (.iaload, 1) := by decide +kernel
theorem d_L_law_316 : decode code 316 = .ok (.aload_n 0, 1) := by decide +kernel
theorem d_L_law_317 : decode code 317 = .ok (.iload_n 3, 1) := by decide +kernel
theorem d_L_law_318 : decode code 318 = .ok (.iconst 2, 1) := by decide +kernel
theorem d_L_law_319 : decode code 319 = .ok (.iadd, 1) := by decide +kernel
theorem d_L_law_320 : decode code 320 = .ok (.iaload, 1) := by decide +kernel
theorem d_L_law_321 : decode code 321 = .ok (.invokevirtual 49, 3) := by decide +kernel
theorem d_L_law_324 : decode code 324 = .ok (.aload_n 2, 1) := by decide +kernel
theorem d_L_law_325 : decode code 325 = .ok (.aload_n 0, 1) := by decide +kernel
theorem d_L_law_326 : decode code 326 = .ok (.iload_n 3, 1) := by decide +kernel
theorem d_L_law_327 : decode code 327 = .ok (.iconst 1, 1) := by decide +kernel
theorem d_L_law_328 : decode code 328 = .ok (.iadd, 1) := by decide +kernel
theorem d_L_law_329 : decode code 329 = .ok (.iaload, 1) := by decide +kernel
theorem d_L_law_330 : decode code 330 = .ok (.aload_n 0, 1) := by decide +kernel
theorem d_L_law_331 : decode code 331 = .ok (.iload_n 3, 1) := by decide +kernel
theorem d_L_law_332 : decode code 332 = .ok (.iconst 2, 1) := by decide +kernel
theorem d_L_law_333 : decode code 333 = .ok (.iadd, 1) := by decide +kernel
theorem d_L_law_334 : decode code 334 = .ok (.iaload, 1) := by decide +kernel
theorem d_L_law_335 : decode code 335 = .ok (.invokevirtual 52, 3) := by decide +kernel
theorem d_L_law_338 : decode code 338 = .ok (.if_icmp .eq 249, 3) := by decide +kernel
theorem d_L_law_341 : decode code 341 = .ok (.iconst 0, 1) := by decide +kernel
theorem d_L_law_342 : decode code 342 = .ok (.ireturn, 1) := by decide +kernel
theorem d_L_law_343 : decode code 343 = .ok (.aload_n 1, 1) := by decide +kernel
theorem d_L_law_344 : decode code 344 = .ok (.aload_n 0, 1) := by decide +kernel
theorem d_L_law_345 : decode code 345 = .ok (.iload_n 3, 1) := by decide +kernel
theorem d_L_law_346 : decode code 346 = .ok (.iconst 1, 1) := by decide +kernel
theorem d_L_law_347 : decode code 347 = .ok (.iadd, 1) := by decide +kernel
theorem d_L_law_348 : decode code 348 = .ok (.iaload, 1) := by decide +kernel
theorem d_L_law_349 : decode code 349 = .ok (.aload_n 0, 1) := by decide +kernel
theorem d_L_law_350 : decode code 350 = .ok (.iload_n 3, 1) := by decide +kernel
theorem d_L_law_351 : decode code 351 = .ok (.iconst 2, 1) := by decide +kernel
theorem d_L_law_352 : decode code 352 = .ok (.iadd, 1) := by decide +kernel
theorem d_L_law_353 : decode code 353 = .ok (.iaload, 1) := by decide +kernel
theorem d_L_law_354 : decode code 354 = .ok (.invokevirtual 53, 3) := by decide +kernel
theorem d_L_law_357 : decode code 357 = .ok (.aload_n 2, 1) := by decide +kernel
theorem d_L_law_358 : decode code 358 = .ok (.aload_n 0, 1) := by decide +kernel
theorem d_L_law_359 : decode code 359 = .ok (.iload_n 3, 1) := by decide +kernel
theorem d_L_law_360 : decode code 360 = .ok (.iconst 1, 1) := by decide +kernel
theorem d_L_law_361 : decode code 361 = .ok (.iadd, 1) := by decide +kernel
theorem d_L_law_362 : decode code 362 = .ok (.iaload, 1) := by decide +kernel
theorem d_L_law_363 : decode code 363 = .ok (.aload_n 0, 1) := by decide +kernel
theorem d_L_law_364 : decode code 364 = .ok (.iload_n 3, 1) := by decide +kernel
theorem d_L_law_365 : decode code 365 = .ok (.iconst 2, 1) := by decide +kernel
theorem d_L_law_366 : decode code 366 = .ok (.iadd, 1) := by decide +kernel
theorem d_L_law_367 : decode code 367 = .ok (.iaload, 1) := by decide +kernel
theorem d_L_law_368 : decode code 368 = .ok (.invokevirtual 56, 3) := by decide +kernel
theorem d_L_law_371 : decode code 371 = .ok (.if_icmp .eq 216, 3) := by decide +kernel
theorem d_L_law_374 : decode code 374 = .ok (.iconst 0, 1) := by decide +kernel
theorem d_L_law_375 : decode code 375 = .ok (.ireturn, 1) := by decide +kernel
theorem d_L_law_376 : decode code 376 = .ok (.aload_n 1, 1) := by decide +kernel
theorem d_L_law_377 : decode code 377 = .ok (.aload_n 0, 1) := by decide +kernel
theorem d_L_law_378 : decode code 378 = .ok (.iload_n 3, 1) := by decide +kernel
theorem d_L_law_379 : decode code 379 = .ok (.iconst 1, 1) := by decide +kernel
theorem d_L_law_380 : decode code 380 = .ok (.iadd, 1) := by decide +kernel
theorem d_L_law_381 : decode code 381 = .ok (.iaload, 1) := by decide +kernel
theorem d_L_law_382 : decode code 382 = .ok (.aload_n 0, 1) := by decide +kernel
theorem d_L_law_383 : decode code 383 = .ok (.iload_n 3, 1) := by decide +kernel
theorem d_L_law_384 : decode code 384 = .ok (.iconst 2, 1) := by decide +kernel
theorem d_L_law_385 : decode code 385 = .ok (.iadd, 1) := by decide +kernel
theorem d_L_law_386 : decode code 386 = .ok (.iaload, 1) := by decide +kernel
theorem d_L_law_387 : decode code 387 = .ok (.invokevirtual 57, 3) := by decide +kernel
theorem d_L_law_390 : decode code 390 = .ok (.aload_n 2, 1) := by decide +kernel
theorem d_L_law_391 : decode code 391 = .ok (.aload_n 0, 1) := by decide +kernel
theorem d_L_law_392 : decode code 392 = .ok (.iload_n 3, 1) := by decide +kernel
theorem d_L_law_393 : decode code 393 = .ok (.iconst 1, 1) := by decide +kernel
theorem d_L_law_394 : decode code 394 = .ok (.iadd, 1) := by decide +kernel
theorem d_L_law_395 : decode code 395 = .ok (.iaload, 1) := by decide +kernel
theorem d_L_law_396 : decode code 396 = .ok (.aload_n 0, 1) := by decide +kernel
theorem d_L_law_397 : decode code 397 = .ok (.iload_n 3, 1) := by decide +kernel
theorem d_L_law_398 : decode code 398 = .ok (.iconst 2, 1) := by decide +kernel
theorem d_L_law_399 : decode code 399 = .ok (.iadd, 1) := by decide +kernel
theorem d_L_law_400 : decode code 400 = .ok (.iaload, 1) := by decide +kernel
theorem d_L_law_401 : decode code 401 = .ok (.invokevirtual 60, 3) := by decide +kernel
theorem d_L_law_404 : decode code 404 = .ok (.if_icmp .eq 183, 3) := by decide +kernel
theorem d_L_law_407 : decode code 407 = .ok (.iconst 0, 1) := by decide +kernel
theorem d_L_law_408 : decode code 408 = .ok (.ireturn, 1) := by decide +kernel
theorem d_L_law_409 : decode code 409 = .ok (.aload_n 1, 1) := by decide +kernel
theorem d_L_law_410 : decode code 410 = .ok (.aload_n 0, 1) := by decide +kernel
theorem d_L_law_411 : decode code 411 = .ok (.iload_n 3, 1) := by decide +kernel
theorem d_L_law_412 : decode code 412 = .ok (.iconst 1, 1) := by decide +kernel
theorem d_L_law_413 : decode code 413 = .ok (.iadd, 1) := by decide +kernel
theorem d_L_law_414 : decode code 414 = .ok (.iaload, 1) := by decide +kernel
theorem d_L_law_415 : decode code 415 = .ok (.invokevirtual 61, 3) := by decide +kernel
theorem d_L_law_418 : decode code 418 = .ok (.aload_n 2, 1) := by decide +kernel
theorem d_L_law_419 : decode code 419 = .ok (.aload_n 0, 1) := by decide +kernel
theorem d_L_law_420 : decode code 420 = .ok (.iload_n 3, 1) := by decide +kernel
theorem d_L_law_421 : decode code 421 = .ok (.iconst 1, 1) := by decide +kernel
theorem d_L_law_422 : decode code 422 = .ok (.iadd, 1) := by decide +kernel
theorem d_L_law_423 : decode code 423 = .ok (.iaload, 1) := by decide +kernel
theorem d_L_law_424 : decode code 424 = .ok (.invokevirtual 64, 3) := by decide +kernel
theorem d_L_law_427 : decode code 427 = .ok (.if_icmp .eq 160, 3) := by decide +kernel
theorem d_L_law_430 : decode code 430 = .ok (.iconst 0, 1) := by decide +kernel
theorem d_L_law_431 : decode code 431 = .ok (.ireturn, 1) := by decide +kernel
theorem d_L_law_432 : decode code 432 = .ok (.aload_n 1, 1) := by decide +kernel
theorem d_L_law_433 : decode code 433 = .ok (.aload_n 0, 1) := by decide +kernel
theorem d_L_law_434 : decode code 434 = .ok (.iload_n 3, 1) := by decide +kernel
theorem d_L_law_435 : decode code 435 = .ok (.iconst 1, 1) := by decide +kernel
theorem d_L_law_436 : decode code 436 = .ok (.iadd, 1) := by decide +kernel
theorem d_L_law_437 : decode code 437 = .ok (.iaload, 1) := by decide +kernel
theorem d_L_law_438 : decode code 438 = .ok (.invokevirtual 65, 3) := by decide +kernel
theorem d_L_law_441 : decode code 441 = .ok (.aload_n 2, 1) := by decide +kernel
theorem d_L_law_442 : decode code 442 = .ok (.aload_n 0, 1) := by decide +kernel
theorem d_L_law_443 : decode code 443 = .ok (.iload_n 3, 1) := by decide +kernel
theorem d_L_law_444 : decode code 444 = .ok (.iconst 1, 1) := by decide +kernel
theorem d_L_law_445 : decode code 445 = .ok (.iadd, 1) := by decide +kernel
theorem d_L_law_446 : decode code 446 = .ok (.iaload, 1) := by decide +kernel
theorem d_L_law_447 : decode code 447 = .ok (.invokevirtual 68, 3) := by decide +kernel
theorem d_L_law_450 : decode code 450 = .ok (.if_icmp .eq 137, 3) := by decide +kernel
theorem d_L_law_453 : decode code 453 = .ok (.iconst 0, 1) := by decide +kernel
theorem d_L_law_454 : decode code 454 = .ok (.ireturn, 1) := by decide +kernel
theorem d_L_law_455 : decode code 455 = .ok (.aload_n 1, 1) := by decide +kernel
theorem d_L_law_456 : decode code 456 = .ok (.aload_n 0, 1) := by decide +kernel
theorem d_L_law_457 : decode code 457 = .ok (.iload_n 3, 1) := by decide +kernel
theorem d_L_law_458 : decode code 458 = .ok (.iconst 1, 1) := by decide +kernel
theorem d_L_law_459 : decode code 459 = .ok (.iadd, 1) := by decide +kernel
theorem d_L_law_460 : decode code 460 = .ok (.iaload, 1) := by decide +kernel
theorem d_L_law_461 : decode code 461 = .ok (.aload_n 0, 1) := by decide +kernel
theorem d_L_law_462 : decode code 462 = .ok (.iload_n 3, 1) := by decide +kernel
theorem d_L_law_463 : decode code 463 = .ok (.iconst 2, 1) := by decide +kernel
theorem d_L_law_464 : decode code 464 = .ok (.iadd, 1) := by decide +kernel
theorem d_L_law_465 : decode code 465 = .ok (.iaload, 1) := by decide +kernel
theorem d_L_law_466 : decode code 466 = .ok (.invokevirtual 69, 3) := by decide +kernel
theorem d_L_law_469 : decode code 469 = .ok (.aload_n 2, 1) := by decide +kernel
theorem d_L_law_470 : decode code 470 = .ok (.aload_n 0, 1) := by decide +kernel
theorem d_L_law_471 : decode code 471 = .ok (.iload_n 3, 1) := by decide +kernel
theorem d_L_law_472 : decode code 472 = .ok (.iconst 1, 1) := by decide +kernel
theorem d_L_law_473 : decode code 473 = .ok (.iadd, 1) := by decide +kernel
theorem d_L_law_474 : decode code 474 = .ok (.iaload, 1) := by decide +kernel
theorem d_L_law_475 : decode code 475 = .ok (.aload_n 0, 1) := by decide +kernel
theorem d_L_law_476 : decode code 476 = .ok (.iload_n 3, 1) := by decide +kernel
theorem d_L_law_477 : decode code 477 = .ok (.iconst 2, 1) := by decide +kernel
theorem d_L_law_478 : decode code 478 = .ok (.iadd, 1) := by decide +kernel
theorem d_L_law_479 : decode code 479 = .ok (.iaload, 1) := by decide +kernel
theorem d_L_law_480 : decode code 480 = .ok (.invokevirtual 72, 3) := by decide +kernel
theorem d_L_law_483 : decode code 483 = .ok (.if_icmp .eq 104, 3) := by decide +kernel
theorem d_L_law_486 : decode code 486 = .ok (.iconst 0, 1) := by decide +kernel
theorem d_L_law_487 : decode code 487 = .ok (.ireturn, 1) := by decide +kernel
theorem d_L_law_488 : decode code 488 = .ok (.aload_n 1, 1) := by decide +kernel
theorem d_L_law_489 : decode code 489 = .ok (.aload_n 0, 1) := by decide +kernel
theorem d_L_law_490 : decode code 490 = .ok (.iload_n 3, 1) := by decide +kernel
theorem d_L_law_491 : decode code 491 = .ok (.iconst 1, 1) := by decide +kernel
theorem d_L_law_492 : decode code 492 = .ok (.iadd, 1) := by decide +kernel
theorem d_L_law_493 : decode code 493 = .ok (.iaload, 1) := by decide +kernel
theorem d_L_law_494 : decode code 494 = .ok (.aload_n 0, 1) := by decide +kernel
theorem d_L_law_495 : decode code 495 = .ok (.iload_n 3, 1) := by decide +kernel
theorem d_L_law_496 : decode code 496 = .ok (.iconst 2, 1) := by decide +kernel
theorem d_L_law_497 : decode code 497 = .ok (.iadd, 1) := by decide +kernel
theorem d_L_law_498 : decode code 498 = .ok (.iaload, 1) := by decide +kernel
theorem d_L_law_499 : decode code 499 = .ok (.invokevirtual 73, 3) := by decide +kernel
theorem d_L_law_502 : decode code 502 = .ok (.aload_n 2, 1) := by decide +kernel
theorem d_L_law_503 : decode code 503 = .ok (.aload_n 0, 1) := by decide +kernel
theorem d_L_law_504 : decode code 504 = .ok (.iload_n 3, 1) := by decide +kernel
theorem d_L_law_505 : decode code 505 = .ok (.iconst 1, 1) := by decide +kernel
theorem d_L_law_506 : decode code 506 = .ok (.iadd, 1) := by decide +kernel
theorem d_L_law_507 : decode code 507 = .ok (.iaload, 1) := by decide +kernel
theorem d_L_law_508 : decode code 508 = .ok (.aload_n 0, 1) := by decide +kernel
theorem d_L_law_509 : decode code 509 = .ok (.iload_n 3, 1) := by decide +kernel
theorem d_L_law_510 : decode code 510 = .ok (.iconst 2, 1) := by decide +kernel
theorem d_L_law_511 : decode code 511 = .ok (.iadd, 1) := by decide +kernel
theorem d_L_law_512 : decode code 512 = .ok (.iaload, 1) := by decide +kernel
theorem d_L_law_513 : decode code 513 = .ok (.invokevirtual 76, 3) := by decide +kernel
theorem d_L_law_516 : decode code 516 = .ok (.if_icmp .eq 71, 3) := by decide +kernel
theorem d_L_law_519 : decode code 519 = .ok (.iconst 0, 1) := by decide +kernel
theorem d_L_law_520 : decode code 520 = .ok (.ireturn, 1) := by decide +kernel
theorem d_L_law_521 : decode code 521 = .ok (.aload_n 1, 1) := by decide +kernel
theorem d_L_law_522 : decode code 522 = .ok (.aload_n 0, 1) := by decide +kernel
theorem d_L_law_523 : decode code 523 = .ok (.iload_n 3, 1) := by decide +kernel
theorem d_L_law_524 : decode code 524 = .ok (.iconst 1, 1) := by decide +kernel
theorem d_L_law_525 : decode code 525 = .ok (.iadd, 1) := by decide +kernel
theorem d_L_law_526 : decode code 526 = .ok (.iaload, 1) := by decide +kernel
theorem d_L_law_527 : decode code 527 = .ok (.aload_n 0, 1) := by decide +kernel
theorem d_L_law_528 : decode code 528 = .ok (.iload_n 3, 1) := by decide +kernel
theorem d_L_law_529 : decode code 529 = .ok (.iconst 2, 1) := by decide +kernel
theorem d_L_law_530 : decode code 530 = .ok (.iadd, 1) := by decide +kernel
theorem d_L_law_531 : decode code 531 = .ok (.iaload, 1) := by decide +kernel
theorem d_L_law_532 : decode code 532 = .ok (.aload_n 0, 1) := by decide +kernel
theorem d_L_law_533 : decode code 533 = .ok (.iload_n 3, 1) := by decide +kernel
theorem d_L_law_534 : decode code 534 = .ok (.iconst 3, 1) := by decide +kernel
theorem d_L_law_535 : decode code 535 = .ok (.iadd, 1) := by decide +kernel
theorem d_L_law_536 : decode code 536 = .ok (.iaload, 1) := by decide +kernel
theorem d_L_law_537 : decode code 537 = .ok (.invokevirtual 77, 3) := by decide +kernel
theorem d_L_law_540 : decode code 540 = .ok (.aload_n 2, 1) := by decide +kernel
theorem d_L_law_541 : decode code 541 = .ok (.aload_n 0, 1) := by decide +kernel
theorem d_L_law_542 : decode code 542 = .ok (.iload_n 3, 1) := by decide +kernel
theorem d_L_law_543 : decode code 543 = .ok (.iconst 1, 1) := by decide +kernel
theorem d_L_law_544 : decode code 544 = .ok (.iadd, 1) := by decide +kernel
theorem d_L_law_545 : decode code 545 = .ok (.iaload, 1) := by decide +kernel
theorem d_L_law_546 : decode code 546 = .ok (.aload_n 0, 1) := by decide +kernel
theorem d_L_law_547 : decode code 547 = .ok (.iload_n 3, 1) := by decide +kernel
theorem d_L_law_548 : decode code 548 = .ok (.iconst 2, 1) := by decide +kernel
theorem d_L_law_549 : decode code 549 = .ok (.iadd, 1) := by decide +kernel
theorem d_L_law_550 : decode code 550 = .ok (.iaload, 1) := by decide +kernel
theorem d_L_law_551 : decode code 551 = .ok (.aload_n 0, 1) := by decide +kernel
theorem d_L_law_552 : decode code 552 = .ok (.iload_n 3, 1) := by decide +kernel
theorem d_L_law_553 : decode code 553 = .ok (.iconst 3, 1) := by decide +kernel
theorem d_L_law_554 : decode code 554 = .ok (.iadd, 1) := by decide +kernel
theorem d_L_law_555 : decode code 555 = .ok (.iaload, 1) := by decide +kernel
theorem d_L_law_556 : decode code 556 = .ok (.invokevirtual 80, 3) := by decide +kernel
theorem d_L_law_559 : decode code 559 = .ok (.if_icmp .eq 28, 3) := by decide +kernel
theorem d_L_law_562 : decode code 562 = .ok (.iconst 0, 1) := by decide +kernel
theorem d_L_law_563 : decode code 563 = .ok (.ireturn, 1) := by decide +kernel
theorem d_L_law_564 : decode code 564 = .ok (.aload_n 1, 1) := by decide +kernel
theorem d_L_law_565 : decode code 565 = .ok (.aload_n 0, 1) := by decide +kernel
theorem d_L_law_566 : decode code 566 = .ok (.iload_n 3, 1) := by decide +kernel
theorem d_L_law_567 : decode code 567 = .ok (.iconst 1, 1) := by decide +kernel
theorem d_L_law_568 : decode code 568 = .ok (.iadd, 1) := by decide +kernel
theorem d_L_law_569 : decode code 569 = .ok (.iaload, 1) := by decide +kernel
theorem d_L_law_570 : decode code 570 = .ok (.invokevirtual 81, 3) := by decide +kernel
theorem d_L_law_573 : decode code 573 = .ok (.aload_n 2, 1) := by decide +kernel
theorem d_L_law_574 : decode code 574 = .ok (.aload_n 0, 1) := by decide +kernel
theorem d_L_law_575 : decode code 575 = .ok (.iload_n 3, 1) := by decide +kernel
theorem d_L_law_576 : decode code 576 = .ok (.iconst 1, 1) := by decide +kernel
theorem d_L_law_577 : decode code 577 = .ok (.iadd, 1) := by decide +kernel
theorem d_L_law_578 : decode code 578 = .ok (.iaload, 1) := by decide +kernel
theorem d_L_law_579 : decode code 579 = .ok (.invokevirtual 84, 3) := by decide +kernel
theorem d_L_law_582 : decode code 582 = .ok (.if_icmp .eq 5, 3) := by decide +kernel
theorem d_L_law_585 : decode code 585 = .ok (.iconst 0, 1) := by decide +kernel
theorem d_L_law_586 : decode code 586 = .ok (.ireturn, 1) := by decide +kernel
theorem d_L_law_587 : decode code 587 = .ok (.iinc 3 4, 3) := by decide +kernel
theorem d_L_law_590 : decode code 590 = .ok (.goto (-572), 3) := by decide +kernel
theorem d_L_law_593 : decode code 593 = .ok (.iconst 1, 1) := by decide +kernel
theorem d_L_law_594 : decode code 594 = .ok (.ireturn, 1) := by decide +kernel
