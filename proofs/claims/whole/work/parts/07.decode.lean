theorem d_M_reason_192 : decode prog_7_method_12_code 192 = .ok (.bastore, 1) := by decide +kernel
theorem d_M_reason_193 : decode prog_7_method_12_code 193 = .ok (.aload_n 0, 1) := by decide +kernel
theorem d_M_reason_194 : decode prog_7_method_12_code 194 = .ok (.getfield 45, 3) := by decide +kernel
theorem d_M_reason_197 : decode prog_7_method_12_code 197 = .ok (.aload_n 0, 1) := by decide +kernel
theorem d_M_reason_198 : decode prog_7_method_12_code 198 = .ok (.getfield 20, 3) := by decide +kernel
theorem d_M_reason_201 : decode prog_7_method_12_code 201 = .ok (.iload_n 2, 1) := by decide +kernel
theorem d_M_reason_202 : decode prog_7_method_12_code 202 = .ok (.iaload, 1) := by decide +kernel
theorem d_M_reason_203 : decode prog_7_method_12_code 203 = .ok (.iload_n 2, 1) := by decide +kernel
theorem d_M_reason_204 : decode prog_7_method_12_code 204 = .ok (.iastore, 1) := by decide +kernel
theorem d_M_reason_205 : decode prog_7_method_12_code 205 = .ok (.goto (-179), 3) := by decide +kernel
theorem d_M_reason_208 : decode prog_7_method_12_code 208 = .ok (.iconst 1, 1) := by decide +kernel
theorem d_M_reason_209 : decode prog_7_method_12_code 209 = .ok (.ireturn, 1) := by decide +kernel
theorem d_M_run_0 : decode prog_7_method_30_code 0 = .ok (.aload_n 0, 1) := by decide +kernel
theorem d_M_run_1 : decode prog_7_method_30_code 1 = .ok (.iconst 0, 1) := by decide +kernel
theorem d_M_run_2 : decode prog_7_method_30_code 2 = .ok (.putfield 125, 3) := by decide +kernel
theorem d_M_run_5 : decode prog_7_method_30_code 5 = .ok (.iconst 0, 1) := by decide +kernel
theorem d_M_run_6 : decode prog_7_method_30_code 6 = .ok (.istore_n 1, 1) := by decide +kernel
theorem d_M_run_7 : decode prog_7_method_30_code 7 = .ok (.iload_n 1, 1) := by decide +kernel
theorem d_M_run_8 : decode prog_7_method_30_code 8 = .ok (.bipush 20, 2) := by decide +kernel
theorem d_M_run_10 : decode prog_7_method_30_code 10 = .ok (.if_icmp .ge 16, 3) := by decide +kernel
theorem d_M_run_13 : decode prog_7_method_30_code 13 = .ok (.aload_n 0, 1) := by decide +kernel
theorem d_M_run_14 : decode prog_7_method_30_code 14 = .ok (.getfield 36, 3) := by decide +kernel
theorem d_M_run_17 : decode prog_7_method_30_code 17 = .ok (.iload_n 1, 1) := by decide +kernel
theorem d_M_run_18 : decode prog_7_method_30_code 18 = .ok (.iconst 0, 1) := by decide +kernel
theorem d_M_run_19 : decode prog_7_method_30_code 19 = .ok (.bastore, 1) := by decide +kernel
theorem d_M_run_20 : decode prog_7_method_30_code 20 = .ok (.iinc 1 1, 3) := by decide +kernel
theorem d_M_run_23 : decode prog_7_method_30_code 23 = .ok (.goto (-16), 3) := by decide +kernel
theorem d_M_run_26 : decode prog_7_method_30_code 26 = .ok (.iconst 0, 1) := by decide +kernel
theorem d_M_run_27 : decode prog_7_method_30_code 27 = .ok (.istore_n 1, 1) := by decide +kernel
theorem d_M_run_28 : decode prog_7_method_30_code 28 = .ok (.iload_n 1, 1) := by decide +kernel
theorem d_M_run_29 : decode prog_7_method_30_code 29 = .ok (.aload_n 0, 1) := by decide +kernel
theorem d_M_run_30 : decode prog_7_method_30_code 30 = .ok (.getfield 60, 3) := by decide +kernel
theorem d_M_run_33 : decode prog_7_method_30_code 33 = .ok (.if_icmp .ge 38, 3) := by decide +kernel
theorem d_M_run_36 : decode prog_7_method_30_code 36 = .ok (.aload_n 0, 1) := by decide +kernel
theorem d_M_run_37 : decode prog_7_method_30_code 37 = .ok (.iload_n 1, 1) := by decide +kernel
theorem d_M_run_38 : decode prog_7_method_30_code 38 = .ok (.bipush 20, 2) := by decide +kernel
theorem d_M_run_40 : decode prog_7_method_30_code 40 = .ok (.invokevirtual 138, 3) := by decide +kernel
theorem d_M_run_43 : decode prog_7_method_30_code 43 = .ok (.ifCond .ne 22, 3) := by decide +kernel
theorem d_M_run_46 : decode prog_7_method_30_code 46 = .ok (.aload_n 0, 1) := by decide +kernel
theorem d_M_run_47 : decode prog_7_method_30_code 47 = .ok (.iload_n 1, 1) := by decide +kernel
theorem d_M_run_48 : decode prog_7_method_30_code 48 = .ok (.iconst 1, 1) := by decide +kernel
theorem d_M_run_49 : decode prog_7_method_30_code 49 = .ok (.invokevirtual 141, 3) := by decide +kernel
theorem d_M_run_52 : decode prog_7_method_30_code 52 = .ok (.aload_n 0, 1) := by decide +kernel
theorem d_M_run_53 : decode prog_7_method_30_code 53 = .ok (.iload_n 1, 1) := by decide +kernel
theorem d_M_run_54 : decode prog_7_method_30_code 54 = .ok (.iconst 0, 1) := by decide +kernel
theorem d_M_run_55 : decode prog_7_method_30_code 55 = .ok (.invokevirtual 141, 3) := by decide +kernel
theorem d_M_run_58 : decode prog_7_method_30_code 58 = .ok (.aload_n 0, 1) := by decide +kernel
theorem d_M_run_59 : decode prog_7_method_30_code 59 = .ok (.getfield 36, 3) := by decide +kernel
theorem d_M_run_62 : decode prog_7_method_30_code 62 = .ok (.iload_n 1, 1) := by decide +kernel
theorem d_M_run_63 : decode prog_7_method_30_code 63 = .ok (.iconst 1, 1) := by decide +kernel
theorem d_M_run_64 : decode prog_7_method_30_code 64 = .ok (.bastore, 1) := by decide +kernel
theorem d_M_run_65 : decode prog_7_method_30_code 65 = .ok (.iinc 1 1, 3) := by decide +kernel
theorem d_M_run_68 : decode prog_7_method_30_code 68 = .ok (.goto (-40), 3) := by decide +kernel
theorem d_M_run_71 : decode prog_7_method_30_code 71 = .ok (.aload_n 0, 1) := by decide +kernel
theorem d_M_run_72 : decode prog_7_method_30_code 72 = .ok (.iconst 1, 1) := by decide +kernel
theorem d_M_run_73 : decode prog_7_method_30_code 73 = .ok (.putfield 97, 3) := by decide +kernel
theorem d_M_run_76 : decode prog_7_method_30_code 76 = .ok (.aload_n 0, 1) := by decide +kernel
theorem d_M_run_77 : decode prog_7_method_30_code 77 = .ok (.dup, 1) := by decide +kernel
theorem d_M_run_78 : decode prog_7_method_30_code 78 = .ok (.getfield 145, 3) := by decide +kernel
theorem d_M_run_81 : decode prog_7_method_30_code 81 = .ok (.aload_n 0, 1) := by decide +kernel
theorem d_M_run_82 : decode prog_7_method_30_code 82 = .ok (.getfield 125, 3) := by decide +kernel
theorem d_M_run_85 : decode prog_7_method_30_code 85 = .ok (.iadd, 1) := by decide +kernel
theorem d_M_run_86 : decode prog_7_method_30_code 86 = .ok (.putfield 145, 3) := by decide +kernel
theorem d_M_run_89 : decode prog_7_method_30_code 89 = .ok (.aload_n 0, 1) := by decide +kernel
theorem d_M_run_90 : decode prog_7_method_30_code 90 = .ok (.getfield 125, 3) := by decide +kernel
theorem d_M_run_93 : decode prog_7_method_30_code 93 = .ok (.ireturn, 1) := by decide +kernel
theorem d_M_look_0 : decode prog_7_method_25_code 0 = .ok (.aload_n 0, 1) := by decide +kernel
theorem d_M_look_1 : decode prog_7_method_25_code 1 = .ok (.getfield 30, 3) := by decide +kernel
theorem d_M_look_4 : decode prog_7_method_25_code 4 = .ok (.bipush 21, 2) := by decide +kernel
theorem d_M_look_6 : decode prog_7_method_25_code 6 = .ok (.iload_n 1, 1) := by decide +kernel
theorem d_M_look_7 : decode prog_7_method_25_code 7 = .ok (.imul, 1) := by decide +kernel
theorem d_M_look_8 : decode prog_7_method_25_code 8 = .ok (.iload_n 2, 1) := by decide +kernel
theorem d_M_look_9 : decode prog_7_method_25_code 9 = .ok (.iadd, 1) := by decide +kernel
theorem d_M_look_10 : decode prog_7_method_25_code 10 = .ok (.iaload, 1) := by decide +kernel
theorem d_M_look_11 : decode prog_7_method_25_code 11 = .ok (.iconst 3, 1) := by decide +kernel
theorem d_M_look_12 : decode prog_7_method_25_code 12 = .ok (.if_icmp .ne 34, 3) := by decide +kernel
theorem d_M_look_15 : decode prog_7_method_25_code 15 = .ok (.aload_n 0, 1) := by decide +kernel
theorem d_M_look_16 : decode prog_7_method_25_code 16 = .ok (.dup, 1) := by decide +kernel
theorem d_M_look_17 : decode prog_7_method_25_code 17 = .ok (.getfield 125, 3) := by decide +kernel
theorem d_M_look_20 : decode prog_7_method_25_code 20 = .ok (.iconst 1, 1) := by decide +kernel
theorem d_M_look_21 : decode prog_7_method_25_code 21 = .ok (.iadd, 1) := by decide +kernel
theorem d_M_look_22 : decode prog_7_method_25_code 22 = .ok (.putfield 125, 3) := by decide +kernel
theorem d_M_look_25 : decode prog_7_method_25_code 25 = .ok (.aload_n 0, 1) := by decide +kernel
theorem d_M_look_26 : decode prog_7_method_25_code 26 = .ok (.getfield 30, 3) := by decide +kernel
theorem d_M_look_29 : decode prog_7_method_25_code 29 = .ok (.bipush 21, 2) := by decide +kernel
theorem d_M_look_31 : decode prog_7_method_25_code 31 = .ok (.iload_n 1, 1) := by decide +kernel
theorem d_M_look_32 : decode prog_7_method_25_code 32 = .ok (.imul, 1) := by decide +kernel
theorem d_M_look_33 : decode prog_7_method_25_code 33 = .ok (.iload_n 2, 1) := by decide +kernel
theorem d_M_look_34 : decode prog_7_method_25_code 34 = .ok (.iadd, 1) := by decide +kernel
theorem d_M_look_35 : decode prog_7_method_25_code 35 = .ok (.aload_n 0, 1) := by decide +kernel
theorem d_M_look_36 : decode prog_7_method_25_code 36 = .ok (.iload_n 1, 1) := by decide +kernel
theorem d_M_look_37 : decode prog_7_method_25_code 37 = .ok (.iload_n 2, 1) := by decide +kernel
theorem d_M_look_38 : decode prog_7_method_25_code 38 = .ok (.invokevirtual 121, 3) := by decide +kernel
theorem d_M_look_41 : decode prog_7_method_25_code 41 = .ok (.iastore, 1) := by decide +kernel
theorem d_M_look_42 : decode prog_7_method_25_code 42 = .ok (.aload_n 0, 1) := by decide +kernel
theorem d_M_look_43 : decode prog_7_method_25_code 43 = .ok (.invokevirtual 101, 3) := by decide +kernel
theorem d_M_look_46 : decode prog_7_method_25_code 46 = .ok (.aload_n 0, 1) := by decide +kernel
theorem d_M_look_47 : decode prog_7_method_25_code 47 = .ok (.getfield 30, 3) := by decide +kernel
theorem d_M_look_50 : decode prog_7_method_25_code 50 = .ok (.bipush 21, 2) := by decide +kernel
theorem d_M_look_52 : decode prog_7_method_25_code 52 = .ok (.iload_n 1, 1) := by decide +kernel
theorem d_M_look_53 : decode prog_7_method_25_code 53 = .ok (.imul, 1) := by decide +kernel
theorem d_M_look_54 : decode prog_7_method_25_code 54 = .ok (.iload_n 2, 1) := by decide +kernel
theorem d_M_look_55 : decode prog_7_method_25_code 55 = .ok (.iadd, 1) := by decide +kernel
theorem d_M_look_56 : decode prog_7_method_25_code 56 = .ok (.iaload, 1) := by decide +kernel
theorem d_M_look_57 : decode prog_7_method_25_code 57 = .ok (.iconst 1, 1) := by decide +kernel
theorem d_M_look_58 : decode prog_7_method_25_code 58 = .ok (.if_icmp .ne 7, 3) := by decide +kernel
theorem d_M_look_61 : decode prog_7_method_25_code 61 = .ok (.iconst 1, 1) := by decide +kernel
theorem d_M_look_62 : decode prog_7_method_25_code 62 = .ok (.goto 4, 3) := by decide +kernel
theorem d_M_look_65 : decode prog_7_method_25_code 65 = .ok (.iconst 0, 1) := by decide +kernel
theorem d_M_look_66 : decode prog_7_method_25_code 66 = .ok (.ireturn, 1) := by decide +kernel
theorem d_M_go_0 : decode prog_7_method_29_code 0 = .ok (.iconst 0, 1) := by decide +kernel
theorem d_M_go_1 : decode prog_7_method_29_code 1 = .ok (.istore_n 3, 1) := by decide +kernel
theorem d_M_go_2 : decode prog_7_method_29_code 2 = .ok (.iload_n 3, 1) := by decide +kernel
theorem d_M_go_3 : decode prog_7_method_29_code 3 = .ok (.bipush 20, 2) := by decide +kernel
theorem d_M_go_5 : decode prog_7_method_29_code 5 = .ok (.if_icmp .ge 16, 3) := by decide +kernel
theorem d_M_go_8 : decode prog_7_method_29_code 8 = .ok (.aload_n 0, 1) := by decide +kernel
theorem d_M_go_9 : decode prog_7_method_29_code 9 = .ok (.getfield 39, 3) := by decide +kernel
theorem d_M_go_12 : decode prog_7_method_29_code 12 = .ok (.iload_n 3, 1) := by decide +kernel
theorem d_M_go_13 : decode prog_7_method_29_code 13 = .ok (.iconst 0, 1) := by decide +kernel
theorem d_M_go_14 : decode prog_7_method_29_code 14 = .ok (.bastore, 1) := by decide +kernel
theorem d_M_go_15 : decode prog_7_method_29_code 15 = .ok (.iinc 3 1, 3) := by decide +kernel
theorem d_M_go_18 : decode prog_7_method_29_code 18 = .ok (.goto (-16), 3) := by decide +kernel
theorem d_M_go_21 : decode prog_7_method_29_code 21 = .ok (.aload_n 0, 1) := by decide +kernel
theorem d_M_go_22 : decode prog_7_method_29_code 22 = .ok (.iload_n 1, 1) := by decide +kernel
theorem d_M_go_23 : decode prog_7_method_29_code 23 = .ok (.iload_n 2, 1) := by decide +kernel
theorem d_M_go_24 : decode prog_7_method_29_code 24 = .ok (.invokevirtual 134, 3) := by decide +kernel
theorem d_M_go_27 : decode prog_7_method_29_code 27 = .ok (.istore_n 3, 1) := by decide +kernel
theorem d_M_go_28 : decode prog_7_method_29_code 28 = .ok (.iload_n 3, 1) := by decide +kernel
theorem d_M_go_29 : decode prog_7_method_29_code 29 = .ok (.ifCond .lt 41, 3) := by decide +kernel
theorem d_M_go_32 : decode prog_7_method_29_code 32 = .ok (.aload_n 0, 1) := by decide +kernel
theorem d_M_go_33 : decode prog_7_method_29_code 33 = .ok (.getfield 39, 3) := by decide +kernel
theorem d_M_go_36 : decode prog_7_method_29_code 36 = .ok (.iload_n 3, 1) := by decide +kernel
theorem d_M_go_37 : decode prog_7_method_29_code 37 = .ok (.iconst 1, 1) := by decide +kernel
theorem d_M_go_38 : decode prog_7_method_29_code 38 = .ok (.bastore, 1) := by decide +kernel
theorem d_M_go_39 : decode prog_7_method_29_code 39 = .ok (.iload_n 2, 1) := by decide +kernel
theorem d_M_go_40 : decode prog_7_method_29_code 40 = .ok (.ifCond .eq 12, 3) := by decide +kernel
theorem d_M_go_43 : decode prog_7_method_29_code 43 = .ok (.aload_n 0, 1) := by decide +kernel
theorem d_M_go_44 : decode prog_7_method_29_code 44 = .ok (.iload_n 1, 1) := by decide +kernel
theorem d_M_go_45 : decode prog_7_method_29_code 45 = .ok (.iload_n 3, 1) := by decide +kernel
theorem d_M_go_46 : decode prog_7_method_29_code 46 = .ok (.invokevirtual 138, 3) := by decide +kernel
theorem d_M_go_49 : decode prog_7_method_29_code 49 = .ok (.goto 9, 3) := by decide +kernel
theorem d_M_go_52 : decode prog_7_method_29_code 52 = .ok (.aload_n 0, 1) := by decide +kernel
theorem d_M_go_53 : decode prog_7_method_29_code 53 = .ok (.iload_n 3, 1) := by decide +kernel
theorem d_M_go_54 : decode prog_7_method_29_code 54 = .ok (.iload_n 1, 1) := by decide +kernel
theorem d_M_go_55 : decode prog_7_method_29_code 55 = .ok (.invokevirtual 138, 3) := by decide +kernel
theorem d_M_go_58 : decode prog_7_method_29_code 58 = .ok (.istore 4, 2) := by decide +kernel
theorem d_M_go_60 : decode prog_7_method_29_code 60 = .ok (.aload_n 0, 1) := by decide +kernel
theorem d_M_go_61 : decode prog_7_method_29_code 61 = .ok (.iload_n 1, 1) := by decide +kernel
theorem d_M_go_62 : decode prog_7_method_29_code 62 = .ok (.iload_n 2, 1) := by decide +kernel
theorem d_M_go_63 : decode prog_7_method_29_code 63 = .ok (.invokevirtual 134, 3) := by decide +kernel
theorem d_M_go_66 : decode prog_7_method_29_code 66 = .ok (.istore_n 3, 1) := by decide +kernel
theorem d_M_go_67 : decode prog_7_method_29_code 67 = .ok (.goto (-39), 3) := by decide +kernel
theorem d_M_go_70 : decode prog_7_method_29_code 70 = .ok (.return_, 1) := by decide +kernel
theorem d_M_nextFor_0 : decode prog_7_method_28_code 0 = .ok (.iconst (-1), 1) := by decide +kernel
theorem d_M_nextFor_1 : decode prog_7_method_28_code 1 = .ok (.istore_n 3, 1) := by decide +kernel
theorem d_M_nextFor_2 : decode prog_7_method_28_code 2 = .ok (.aload_n 0, 1) := by decide +kernel
theorem d_M_nextFor_3 : decode prog_7_method_28_code 3 = .ok (.getfield 60, 3) := by decide +kernel
theorem d_M_nextFor_6 : decode prog_7_method_28_code 6 = .ok (.iconst 1, 1) := by decide +kernel
theorem d_M_nextFor_7 : decode prog_7_method_28_code 7 = .ok (.isub, 1) := by decide +kernel
theorem d_M_nextFor_8 : decode prog_7_method_28_code 8 = .ok (.istore 4, 2) := by decide +kernel
theorem d_M_nextFor_10 : decode prog_7_method_28_code 10 = .ok (.iload 4, 2) := by decide +kernel
theorem d_M_nextFor_12 : decode prog_7_method_28_code 12 = .ok (.ifCond .lt 175, 3) := by decide +kernel
theorem d_M_nextFor_15 : decode prog_7_method_28_code 15 = .ok (.aload_n 0, 1) := by decide +kernel
theorem d_M_nextFor_16 : decode prog_7_method_28_code 16 = .ok (.getfield 36, 3) := by decide +kernel
theorem d_M_nextFor_19 : decode prog_7_method_28_code 19 = .ok (.iload 4, 2) := by decide +kernel
theorem d_M_nextFor_21 : decode prog_7_method_28_code 21 = .ok (.baload, 1) := by decide +kernel
theorem d_M_nextFor_22 : decode prog_7_method_28_code 22 = .ok (.ifCond .eq 17, 3) := by decide +kernel
theorem d_M_nextFor_25 : decode prog_7_method_28_code 25 = .ok (.aload_n 0, 1) := by decide +kernel
theorem d_M_nextFor_26 : decode prog_7_method_28_code 26 = .ok (.getfield 39, 3) := by decide +kernel
theorem d_M_nextFor_29 : decode prog_7_method_28_code 29 = .ok (.iload 4, 2) := by decide +kernel
theorem d_M_nextFor_31 : decode prog_7_method_28_code 31 = .ok (.baload, 1) := by decide +kernel
theorem d_M_nextFor_32 : decode prog_7_method_28_code 32 = .ok (.ifCond .ne 7, 3) := by decide +kernel
theorem d_M_nextFor_35 : decode prog_7_method_28_code 35 = .ok (.iconst 1, 1) := by decide +kernel
theorem d_M_nextFor_36 : decode prog_7_method_28_code 36 = .ok (.goto 4, 3) := by decide +kernel
theorem d_M_nextFor_39 : decode prog_7_method_28_code 39 = .ok (.iconst 0, 1) := by decide +kernel
theorem d_M_nextFor_40 : decode prog_7_method_28_code 40 = .ok (.istore 5, 2) := by decide +kernel
theorem d_M_nextFor_42 : decode prog_7_method_28_code 42 = .ok (.iconst 0, 1) := by decide +kernel
theorem d_M_nextFor_43 : decode prog_7_method_28_code 43 = .ok (.istore 6, 2) := by decide +kernel
theorem d_M_nextFor_45 : decode prog_7_method_28_code 45 = .ok (.iload 6, 2) := by decide +kernel
theorem d_M_nextFor_47 : decode prog_7_method_28_code 47 = .ok (.aload_n 0, 1) := by decide +kernel
theorem d_M_nextFor_48 : decode prog_7_method_28_code 48 = .ok (.getfield 60, 3) := by decide +kernel
theorem d_M_nextFor_51 : decode prog_7_method_28_code 51 = .ok (.if_icmp .ge 118, 3) := by decide +kernel
theorem d_M_nextFor_54 : decode prog_7_method_28_code 54 = .ok (.iload 5, 2) := by decide +kernel
theorem d_M_nextFor_56 : decode prog_7_method_28_code 56 = .ok (.ifCond .eq 113, 3) := by decide +kernel
theorem d_M_nextFor_59 : decode prog_7_method_28_code 59 = .ok (.iload_n 2, 1) := by decide +kernel
theorem d_M_nextFor_60 : decode prog_7_method_28_code 60 = .ok (.ifCond .eq 34, 3) := by decide +kernel
theorem d_M_nextFor_63 : decode prog_7_method_28_code 63 = .ok (.aload_n 0, 1) := by decide +kernel
theorem d_M_nextFor_64 : decode prog_7_method_28_code 64 = .ok (.iload 4, 2) := by decide +kernel
theorem d_M_nextFor_66 : decode prog_7_method_28_code 66 = .ok (.iload 6, 2) := by decide +kernel
theorem d_M_nextFor_68 : decode prog_7_method_28_code 68 = .ok (.invokevirtual 131, 3) := by decide +kernel
theorem d_M_nextFor_71 : decode prog_7_method_28_code 71 = .ok (.ifCond .eq 13, 3) := by decide +kernel
theorem d_M_nextFor_74 : decode prog_7_method_28_code 74 = .ok (.aload_n 0, 1) := by decide +kernel
theorem d_M_nextFor_75 : decode prog_7_method_28_code 75 = .ok (.iload_n 1, 1) := by decide +kernel
theorem d_M_nextFor_76 : decode prog_7_method_28_code 76 = .ok (.iload 6, 2) := by decide +kernel
theorem d_M_nextFor_78 : decode prog_7_method_28_code 78 = .ok (.invokevirtual 77, 3) := by decide +kernel
theorem d_M_nextFor_81 : decode prog_7_method_28_code 81 = .ok (.ifCond .eq 7, 3) := by decide +kernel
theorem d_M_nextFor_84 : decode prog_7_method_28_code 84 = .ok (.iconst 1, 1) := by decide +kernel
theorem d_M_nextFor_85 : decode prog_7_method_28_code 85 = .ok (.goto 4, 3) := by decide +kernel
theorem d_M_nextFor_88 : decode prog_7_method_28_code 88 = .ok (.iconst 0, 1) := by decide +kernel
theorem d_M_nextFor_89 : decode prog_7_method_28_code 89 = .ok (.istore 5, 2) := by decide +kernel
theorem d_M_nextFor_91 : decode prog_7_method_28_code 91 = .ok (.goto 72, 3) := by decide +kernel
theorem d_M_nextFor_94 : decode prog_7_method_28_code 94 = .ok (.aload_n 0, 1) := by decide +kernel
theorem d_M_nextFor_95 : decode prog_7_method_28_code 95 = .ok (.getfield 36, 3) := by decide +kernel
theorem d_M_nextFor_98 : decode prog_7_method_28_code 98 = .ok (.iload 6, 2) := by decide +kernel
theorem d_M_nextFor_100 : decode prog_7_method_28_code 100 = .ok (.baload, 1) := by decide +kernel
theorem d_M_nextFor_101 : decode prog_7_method_28_code 101 = .ok (.ifCond .eq 24, 3) := by decide +kernel
theorem d_M_nextFor_104 : decode prog_7_method_28_code 104 = .ok (.aload_n 0, 1) := by decide +kernel
theorem d_M_nextFor_105 : decode prog_7_method_28_code 105 = .ok (.iload_n 1, 1) := by decide +kernel
theorem d_M_nextFor_106 : decode prog_7_method_28_code 106 = .ok (.iload 6, 2) := by decide +kernel
theorem d_M_nextFor_108 : decode prog_7_method_28_code 108 = .ok (.invokevirtual 77, 3) := by decide +kernel
theorem d_M_nextFor_111 : decode prog_7_method_28_code 111 = .ok (.ifCond .eq 14, 3) := by decide +kernel
theorem d_M_nextFor_114 : decode prog_7_method_28_code 114 = .ok (.aload_n 0, 1) := by decide +kernel
theorem d_M_nextFor_115 : decode prog_7_method_28_code 115 = .ok (.iload 4, 2) := by decide +kernel
theorem d_M_nextFor_117 : decode prog_7_method_28_code 117 = .ok (.iload 6, 2) := by decide +kernel
theorem d_M_nextFor_119 : decode prog_7_method_28_code 119 = .ok (.invokevirtual 77, 3) := by decide +kernel
theorem d_M_nextFor_122 : decode prog_7_method_28_code 122 = .ok (.ifCond .eq 38, 3) := by decide +kernel
theorem d_M_nextFor_125 : decode prog_7_method_28_code 125 = .ok (.aload_n 0, 1) := by decide +kernel
theorem d_M_nextFor_126 : decode prog_7_method_28_code 126 = .ok (.getfield 36, 3) := by decide +kernel
theorem d_M_nextFor_129 : decode prog_7_method_28_code 129 = .ok (.iload 6, 2) := by decide +kernel
theorem d_M_nextFor_131 : decode prog_7_method_28_code 131 = .ok (.baload, 1) := by decide +kernel
theorem d_M_nextFor_132 : decode prog_7_method_28_code 132 = .ok (.ifCond .eq 24, 3) := by decide +kernel
theorem d_M_nextFor_135 : decode prog_7_method_28_code 135 = .ok (.aload_n 0, 1) := by decide +kernel
theorem d_M_nextFor_136 : decode prog_7_method_28_code 136 = .ok (.iload 6, 2) := by decide +kernel
theorem d_M_nextFor_138 : decode prog_7_method_28_code 138 = .ok (.iload 4, 2) := by decide +kernel
theorem d_M_nextFor_140 : decode prog_7_method_28_code 140 = .ok (.invokevirtual 131, 3) := by decide +kernel
theorem d_M_nextFor_143 : decode prog_7_method_28_code 143 = .ok (.ifCond .eq 13, 3) := by decide +kernel
theorem d_M_nextFor_146 : decode prog_7_method_28_code 146 = .ok (.aload_n 0, 1) := by decide +kernel
theorem d_M_nextFor_147 : decode prog_7_method_28_code 147 = .ok (.iload 6, 2) := by decide +kernel
theorem d_M_nextFor_149 : decode prog_7_method_28_code 149 = .ok (.iload_n 1, 1) := by decide +kernel
theorem d_M_nextFor_150 : decode prog_7_method_28_code 150 = .ok (.invokevirtual 77, 3) := by decide +kernel
theorem d_M_nextFor_153 : decode prog_7_method_28_code 153 = .ok (.ifCond .eq 7, 3) := by decide +kernel
theorem d_M_nextFor_156 : decode prog_7_method_28_code 156 = .ok (.iconst 1, 1) := by decide +kernel
theorem d_M_nextFor_157 : decode prog_7_method_28_code 157 = .ok (.goto 4, 3) := by decide +kernel
theorem d_M_nextFor_160 : decode prog_7_method_28_code 160 = .ok (.iconst 0, 1) := by decide +kernel
theorem d_M_nextFor_161 : decode prog_7_method_28_code 161 = .ok (.istore 5, 2) := by decide +kernel
theorem d_M_nextFor_163 : decode prog_7_method_28_code 163 = .ok (.iinc 6 1, 3) := by decide +kernel
theorem d_M_nextFor_166 : decode prog_7_method_28_code 166 = .ok (.goto (-121), 3) := by decide +kernel
theorem d_M_nextFor_169 : decode prog_7_method_28_code 169 = .ok (.iload 5, 2) := by decide +kernel
theorem d_M_nextFor_171 : decode prog_7_method_28_code 171 = .ok (.ifCond .eq 8, 3) := by decide +kernel
theorem d_M_nextFor_174 : decode prog_7_method_28_code 174 = .ok (.iload 4, 2) := by decide +kernel
theorem d_M_nextFor_176 : decode prog_7_method_28_code 176 = .ok (.goto 4, 3) := by decide +kernel
theorem d_M_nextFor_179 : decode prog_7_method_28_code 179 = .ok (.iload_n 3, 1) := by decide +kernel
theorem d_M_nextFor_180 : decode prog_7_method_28_code 180 = .ok (.istore_n 3, 1) := by decide +kernel
theorem d_M_nextFor_181 : decode prog_7_method_28_code 181 = .ok (.iinc 4 (-1), 3) := by decide +kernel
theorem d_M_nextFor_184 : decode prog_7_method_28_code 184 = .ok (.goto (-174), 3) := by decide +kernel
theorem d_M_nextFor_187 : decode prog_7_method_28_code 187 = .ok (.iload_n 3, 1) := by decide +kernel
theorem d_M_nextFor_188 : decode prog_7_method_28_code 188 = .ok (.ireturn, 1) := by decide +kernel
theorem d_M_isDirect_0 : decode prog_7_method_27_code 0 = .ok (.aload_n 0, 1) := by decide +kernel
theorem d_M_isDirect_1 : decode prog_7_method_27_code 1 = .ok (.getfield 36, 3) := by decide +kernel
theorem d_M_isDirect_4 : decode prog_7_method_27_code 4 = .ok (.iload_n 2, 1) := by decide +kernel
theorem d_M_isDirect_5 : decode prog_7_method_27_code 5 = .ok (.baload, 1) := by decide +kernel
theorem d_M_isDirect_6 : decode prog_7_method_27_code 6 = .ok (.ifCond .eq 16, 3) := by decide +kernel
theorem d_M_isDirect_9 : decode prog_7_method_27_code 9 = .ok (.aload_n 0, 1) := by decide +kernel
theorem d_M_isDirect_10 : decode prog_7_method_27_code 10 = .ok (.iload_n 1, 1) := by decide +kernel
theorem d_M_isDirect_11 : decode prog_7_method_27_code 11 = .ok (.iload_n 2, 1) := by decide +kernel
theorem d_M_isDirect_12 : decode prog_7_method_27_code 12 = .ok (.invokevirtual 128, 3) := by decide +kernel
theorem d_M_isDirect_15 : decode prog_7_method_27_code 15 = .ok (.ifCond .eq 7, 3) := by decide +kernel
theorem d_M_isDirect_18 : decode prog_7_method_27_code 18 = .ok (.iconst 1, 1) := by decide +kernel
theorem d_M_isDirect_19 : decode prog_7_method_27_code 19 = .ok (.goto 4, 3) := by decide +kernel
theorem d_M_isDirect_22 : decode prog_7_method_27_code 22 = .ok (.iconst 0, 1) := by decide +kernel
theorem d_M_isDirect_23 : decode prog_7_method_27_code 23 = .ok (.istore_n 3, 1) := by decide +kernel
theorem d_M_isDirect_24 : decode prog_7_method_27_code 24 = .ok (.iconst 0, 1) := by decide +kernel
theorem d_M_isDirect_25 : decode prog_7_method_27_code 25 = .ok (.istore 4, 2) := by decide +kernel
theorem d_M_isDirect_27 : decode prog_7_method_27_code 27 = .ok (.iload 4, 2) := by decide +kernel
theorem d_M_isDirect_29 : decode prog_7_method_27_code 29 = .ok (.aload_n 0, 1) := by decide +kernel
theorem d_M_isDirect_30 : decode prog_7_method_27_code 30 = .ok (.getfield 60, 3) := by decide +kernel
theorem d_M_isDirect_33 : decode prog_7_method_27_code 33 = .ok (.if_icmp .ge 49, 3) := by decide +kernel
theorem d_M_isDirect_36 : decode prog_7_method_27_code 36 = .ok (.iload_n 3, 1) := by decide +kernel
theorem d_M_isDirect_37 : decode prog_7_method_27_code 37 = .ok (.ifCond .eq 37, 3) := by decide +kernel
theorem d_M_isDirect_40 : decode prog_7_method_27_code 40 = .ok (.aload_n 0, 1) := by decide +kernel
theorem d_M_isDirect_41 : decode prog_7_method_27_code 41 = .ok (.getfield 36, 3) := by decide +kernel
theorem d_M_isDirect_44 : decode prog_7_method_27_code 44 = .ok (.iload 4, 2) := by decide +kernel
theorem d_M_isDirect_46 : decode prog_7_method_27_code 46 = .ok (.baload, 1) := by decide +kernel
theorem d_M_isDirect_47 : decode prog_7_method_27_code 47 = .ok (.ifCond .eq 23, 3) := by decide +kernel
theorem d_M_isDirect_50 : decode prog_7_method_27_code 50 = .ok (.aload_n 0, 1) := by decide +kernel
theorem d_M_isDirect_51 : decode prog_7_method_27_code 51 = .ok (.iload_n 1, 1) := by decide +kernel
theorem d_M_isDirect_52 : decode prog_7_method_27_code 52 = .ok (.iload 4, 2) := by decide +kernel
theorem d_M_isDirect_54 : decode prog_7_method_27_code 54 = .ok (.invokevirtual 128, 3) := by decide +kernel
theorem d_M_isDirect_57 : decode prog_7_method_27_code 57 = .ok (.ifCond .eq 13, 3) := by decide +kernel
theorem d_M_isDirect_60 : decode prog_7_method_27_code 60 = .ok (.aload_n 0, 1) := by decide +kernel
theorem d_M_isDirect_61 : decode prog_7_method_27_code 61 = .ok (.iload 4, 2) := by decide +kernel
theorem d_M_isDirect_63 : decode prog_7_method_27_code 63 = .ok (.iload_n 2, 1) := by decide +kernel
theorem d_M_isDirect_64 : decode prog_7_method_27_code 64 = .ok (.invokevirtual 128, 3) := by decide +kernel
theorem d_M_isDirect_67 : decode prog_7_method_27_code 67 = .ok (.ifCond .ne 7, 3) := by decide +kernel
theorem d_M_isDirect_70 : decode prog_7_method_27_code 70 = .ok (.iconst 1, 1) := by decide +kernel
theorem d_M_isDirect_71 : decode prog_7_method_27_code 71 = .ok (.goto 4, 3) := by decide +kernel
theorem d_M_isDirect_74 : decode prog_7_method_27_code 74 = .ok (.iconst 0, 1) := by decide +kernel
theorem d_M_isDirect_75 : decode prog_7_method_27_code 75 = .ok (.istore_n 3, 1) := by decide +kernel
theorem d_M_isDirect_76 : decode prog_7_method_27_code 76 = .ok (.iinc 4 1, 3) := by decide +kernel
theorem d_M_isDirect_79 : decode prog_7_method_27_code 79 = .ok (.goto (-52), 3) := by decide +kernel
theorem d_M_isDirect_82 : decode prog_7_method_27_code 82 = .ok (.iload_n 3, 1) := by decide +kernel
theorem d_M_isDirect_83 : decode prog_7_method_27_code 83 = .ok (.ireturn, 1) := by decide +kernel
theorem d_M_isUnder_0 : decode prog_7_method_26_code 0 = .ok (.aload_n 0, 1) := by decide +kernel
theorem d_M_isUnder_1 : decode prog_7_method_26_code 1 = .ok (.iload_n 1, 1) := by decide +kernel
theorem d_M_isUnder_2 : decode prog_7_method_26_code 2 = .ok (.iload_n 2, 1) := by decide +kernel
theorem d_M_isUnder_3 : decode prog_7_method_26_code 3 = .ok (.invokevirtual 77, 3) := by decide +kernel
theorem d_M_isUnder_6 : decode prog_7_method_26_code 6 = .ok (.ifCond .eq 16, 3) := by decide +kernel
theorem d_M_isUnder_9 : decode prog_7_method_26_code 9 = .ok (.aload_n 0, 1) := by decide +kernel
theorem d_M_isUnder_10 : decode prog_7_method_26_code 10 = .ok (.iload_n 2, 1) := by decide +kernel
theorem d_M_isUnder_11 : decode prog_7_method_26_code 11 = .ok (.iload_n 1, 1) := by decide +kernel
theorem d_M_isUnder_12 : decode prog_7_method_26_code 12 = .ok (.invokevirtual 77, 3) := by decide +kernel
theorem d_M_isUnder_15 : decode prog_7_method_26_code 15 = .ok (.ifCond .ne 7, 3) := by decide +kernel
theorem d_M_isUnder_18 : decode prog_7_method_26_code 18 = .ok (.iconst 1, 1) := by decide +kernel
theorem d_M_isUnder_19 : decode prog_7_method_26_code 19 = .ok (.goto 4, 3) := by decide +kernel
theorem d_M_isUnder_22 : decode prog_7_method_26_code 22 = .ok (.iconst 0, 1) := by decide +kernel
theorem d_M_isUnder_23 : decode prog_7_method_26_code 23 = .ok (.ireturn, 1) := by decide +kernel
theorem d_M_parent_0 : decode prog_7_method_33_code 0 = .ok (.aload_n 0, 1) := by decide +kernel
theorem d_M_parent_1 : decode prog_7_method_33_code 1 = .ok (.iload_n 1, 1) := by decide +kernel
theorem d_M_parent_2 : decode prog_7_method_33_code 2 = .ok (.invokevirtual 63, 3) := by decide +kernel
theorem d_M_parent_5 : decode prog_7_method_33_code 5 = .ok (.ifCond .ne 5, 3) := by decide +kernel
theorem d_M_parent_8 : decode prog_7_method_33_code 8 = .ok (.iconst (-1), 1) := by decide +kernel
theorem d_M_parent_9 : decode prog_7_method_33_code 9 = .ok (.ireturn, 1) := by decide +kernel
theorem d_M_parent_10 : decode prog_7_method_33_code 10 = .ok (.aload_n 0, 1) := by decide +kernel
theorem d_M_parent_11 : decode prog_7_method_33_code 11 = .ok (.getfield 97, 3) := by decide +kernel
theorem d_M_parent_14 : decode prog_7_method_33_code 14 = .ok (.ifCond .ne 6, 3) := by decide +kernel
theorem d_M_parent_17 : decode prog_7_method_33_code 17 = .ok (.bipush (-3), 2) := by decide +kernel
theorem d_M_parent_19 : decode prog_7_method_33_code 19 = .ok (.ireturn, 1) := by decide +kernel
theorem d_M_parent_20 : decode prog_7_method_33_code 20 = .ok (.iload_n 2, 1) := by decide +kernel
theorem d_M_parent_21 : decode prog_7_method_33_code 21 = .ok (.istore_n 3, 1) := by decide +kernel
theorem d_M_parent_22 : decode prog_7_method_33_code 22 = .ok (.iconst 0, 1) := by decide +kernel
theorem d_M_parent_23 : decode prog_7_method_33_code 23 = .ok (.istore 4, 2) := by decide +kernel
theorem d_M_parent_25 : decode prog_7_method_33_code 25 = .ok (.iload 4, 2) := by decide +kernel
theorem d_M_parent_27 : decode prog_7_method_33_code 27 = .ok (.aload_n 0, 1) := by decide +kernel
theorem d_M_parent_28 : decode prog_7_method_33_code 28 = .ok (.getfield 60, 3) := by decide +kernel
theorem d_M_parent_31 : decode prog_7_method_33_code 31 = .ok (.if_icmp .ge 95, 3) := by decide +kernel
theorem d_M_parent_34 : decode prog_7_method_33_code 34 = .ok (.iload_n 2, 1) := by decide +kernel
theorem d_M_parent_35 : decode prog_7_method_33_code 35 = .ok (.ifCond .lt 91, 3) := by decide +kernel
theorem d_M_parent_38 : decode prog_7_method_33_code 38 = .ok (.aload_n 0, 1) := by decide +kernel
theorem d_M_parent_39 : decode prog_7_method_33_code 39 = .ok (.getfield 36, 3) := by decide +kernel
theorem d_M_parent_42 : decode prog_7_method_33_code 42 = .ok (.iload 4, 2) := by decide +kernel
theorem d_M_parent_44 : decode prog_7_method_33_code 44 = .ok (.baload, 1) := by decide +kernel
theorem d_M_parent_45 : decode prog_7_method_33_code 45 = .ok (.ifCond .eq 47, 3) := by decide +kernel
theorem d_M_parent_48 : decode prog_7_method_33_code 48 = .ok (.aload_n 0, 1) := by decide +kernel
theorem d_M_parent_49 : decode prog_7_method_33_code 49 = .ok (.iload 4, 2) := by decide +kernel
theorem d_M_parent_51 : decode prog_7_method_33_code 51 = .ok (.invokevirtual 148, 3) := by decide +kernel
theorem d_M_parent_54 : decode prog_7_method_33_code 54 = .ok (.ifCond .ne 38, 3) := by decide +kernel
theorem d_M_parent_57 : decode prog_7_method_33_code 57 = .ok (.aload_n 0, 1) := by decide +kernel
theorem d_M_parent_58 : decode prog_7_method_33_code 58 = .ok (.getfield 36, 3) := by decide +kernel
theorem d_M_parent_61 : decode prog_7_method_33_code 61 = .ok (.iload_n 1, 1) := by decide +kernel
theorem d_M_parent_62 : decode prog_7_method_33_code 62 = .ok (.baload, 1) := by decide +kernel
theorem d_M_parent_63 : decode prog_7_method_33_code 63 = .ok (.ifCond .eq 16, 3) := by decide +kernel
theorem d_M_parent_66 : decode prog_7_method_33_code 66 = .ok (.aload_n 0, 1) := by decide +kernel
theorem d_M_parent_67 : decode prog_7_method_33_code 67 = .ok (.iload_n 1, 1) := by decide +kernel
theorem d_M_parent_68 : decode prog_7_method_33_code 68 = .ok (.iload 4, 2) := by decide +kernel
theorem d_M_parent_70 : decode prog_7_method_33_code 70 = .ok (.invokevirtual 131, 3) := by decide +kernel
theorem d_M_parent_73 : decode prog_7_method_33_code 73 = .ok (.ifCond .eq 19, 3) := by decide +kernel
theorem d_M_parent_76 : decode prog_7_method_33_code 76 = .ok (.goto 12, 3) := by decide +kernel
theorem d_M_parent_79 : decode prog_7_method_33_code 79 = .ok (.aload_n 0, 1) := by decide +kernel
theorem d_M_parent_80 : decode prog_7_method_33_code 80 = .ok (.iload 4, 2) := by decide +kernel
theorem d_M_parent_82 : decode prog_7_method_33_code 82 = .ok (.invokevirtual 151, 3) := by decide +kernel
theorem d_M_parent_85 : decode prog_7_method_33_code 85 = .ok (.ifCond .ne 7, 3) := by decide +kernel
theorem d_M_parent_88 : decode prog_7_method_33_code 88 = .ok (.iconst 1, 1) := by decide +kernel
theorem d_M_parent_89 : decode prog_7_method_33_code 89 = .ok (.goto 4, 3) := by decide +kernel
theorem d_M_parent_92 : decode prog_7_method_33_code 92 = .ok (.iconst 0, 1) := by decide +kernel
theorem d_M_parent_93 : decode prog_7_method_33_code 93 = .ok (.istore 5, 2) := by decide +kernel
theorem d_M_parent_95 : decode prog_7_method_33_code 95 = .ok (.iload 5, 2) := by decide +kernel
theorem d_M_parent_97 : decode prog_7_method_33_code 97 = .ok (.ifCond .eq 10, 3) := by decide +kernel
theorem d_M_parent_100 : decode prog_7_method_33_code 100 = .ok (.iload_n 3, 1) := by decide +kernel
theorem d_M_parent_101 : decode prog_7_method_33_code 101 = .ok (.ifCond .ne 6, 3) := by decide +kernel
theorem d_M_parent_104 : decode prog_7_method_33_code 104 = .ok (.iload 4, 2) := by decide +kernel
theorem d_M_parent_106 : decode prog_7_method_33_code 106 = .ok (.ireturn, 1) := by decide +kernel
theorem d_M_parent_107 : decode prog_7_method_33_code 107 = .ok (.iload_n 3, 1) := by decide +kernel
theorem d_M_parent_108 : decode prog_7_method_33_code 108 = .ok (.iload 5, 2) := by decide +kernel
theorem d_M_parent_110 : decode prog_7_method_33_code 110 = .ok (.ifCond .eq 7, 3) := by decide +kernel
theorem d_M_parent_113 : decode prog_7_method_33_code 113 = .ok (.iconst 1, 1) := by decide +kernel
theorem d_M_parent_114 : decode prog_7_method_33_code 114 = .ok (.goto 4, 3) := by decide +kernel
theorem d_M_parent_117 : decode prog_7_method_33_code 117 = .ok (.iconst 0, 1) := by decide +kernel
theorem d_M_parent_118 : decode prog_7_method_33_code 118 = .ok (.isub, 1) := by decide +kernel
theorem d_M_parent_119 : decode prog_7_method_33_code 119 = .ok (.istore_n 3, 1) := by decide +kernel
theorem d_M_parent_120 : decode prog_7_method_33_code 120 = .ok (.iinc 4 1, 3) := by decide +kernel
theorem d_M_parent_123 : decode prog_7_method_33_code 123 = .ok (.goto (-98), 3) := by decide +kernel
theorem d_M_parent_126 : decode prog_7_method_33_code 126 = .ok (.bipush (-6), 2) := by decide +kernel
theorem d_M_parent_128 : decode prog_7_method_33_code 128 = .ok (.ireturn, 1) := by decide +kernel
theorem d_M_isSecond_0 : decode prog_7_method_31_code 0 = .ok (.iconst 0, 1) := by decide +kernel
theorem d_M_isSecond_1 : decode prog_7_method_31_code 1 = .ok (.istore_n 2, 1) := by decide +kernel
theorem d_M_isSecond_2 : decode prog_7_method_31_code 2 = .ok (.iconst 0, 1) := by decide +kernel
theorem d_M_isSecond_3 : decode prog_7_method_31_code 3 = .ok (.istore_n 3, 1) := by decide +kernel
theorem d_M_isSecond_4 : decode prog_7_method_31_code 4 = .ok (.iload_n 3, 1) := by decide +kernel
theorem d_M_isSecond_5 : decode prog_7_method_31_code 5 = .ok (.iload_n 1, 1) := by decide +kernel
theorem d_M_isSecond_6 : decode prog_7_method_31_code 6 = .ok (.if_icmp .ge 46, 3) := by decide +kernel
theorem d_M_isSecond_9 : decode prog_7_method_31_code 9 = .ok (.iload_n 2, 1) := by decide +kernel
theorem d_M_isSecond_10 : decode prog_7_method_31_code 10 = .ok (.ifCond .ne 30, 3) := by decide +kernel
theorem d_M_isSecond_13 : decode prog_7_method_31_code 13 = .ok (.aload_n 0, 1) := by decide +kernel
theorem d_M_isSecond_14 : decode prog_7_method_31_code 14 = .ok (.getfield 36, 3) := by decide +kernel
theorem d_M_isSecond_17 : decode prog_7_method_31_code 17 = .ok (.iload_n 3, 1) := by decide +kernel
theorem d_M_isSecond_18 : decode prog_7_method_31_code 18 = .ok (.baload, 1) := by decide +kernel
theorem d_M_isSecond_19 : decode prog_7_method_31_code 19 = .ok (.ifCond .eq 25, 3) := by decide +kernel
theorem d_M_isSecond_22 : decode prog_7_method_31_code 22 = .ok (.aload_n 0, 1) := by decide +kernel
theorem d_M_isSecond_23 : decode prog_7_method_31_code 23 = .ok (.iload_n 3, 1) := by decide +kernel
theorem d_M_isSecond_24 : decode prog_7_method_31_code 24 = .ok (.iload_n 1, 1) := by decide +kernel
theorem d_M_isSecond_25 : decode prog_7_method_31_code 25 = .ok (.invokevirtual 77, 3) := by decide +kernel
theorem d_M_isSecond_28 : decode prog_7_method_31_code 28 = .ok (.ifCond .eq 16, 3) := by decide +kernel
theorem d_M_isSecond_31 : decode prog_7_method_31_code 31 = .ok (.aload_n 0, 1) := by decide +kernel
theorem d_M_isSecond_32 : decode prog_7_method_31_code 32 = .ok (.iload_n 1, 1) := by decide +kernel
theorem d_M_isSecond_33 : decode prog_7_method_31_code 33 = .ok (.iload_n 3, 1) := by decide +kernel
theorem d_M_isSecond_34 : decode prog_7_method_31_code 34 = .ok (.invokevirtual 77, 3) := by decide +kernel
theorem d_M_isSecond_37 : decode prog_7_method_31_code 37 = .ok (.ifCond .eq 7, 3) := by decide +kernel
theorem d_M_isSecond_40 : decode prog_7_method_31_code 40 = .ok (.iconst 1, 1) := by decide +kernel
theorem d_M_isSecond_41 : decode prog_7_method_31_code 41 = .ok (.goto 4, 3) := by decide +kernel
theorem d_M_isSecond_44 : decode prog_7_method_31_code 44 = .ok (.iconst 0, 1) := by decide +kernel
theorem d_M_isSecond_45 : decode prog_7_method_31_code 45 = .ok (.istore_n 2, 1) := by decide +kernel
theorem d_M_isSecond_46 : decode prog_7_method_31_code 46 = .ok (.iinc 3 1, 3) := by decide +kernel
theorem d_M_isSecond_49 : decode prog_7_method_31_code 49 = .ok (.goto (-45), 3) := by decide +kernel
theorem d_M_isSecond_52 : decode prog_7_method_31_code 52 = .ok (.iload_n 2, 1) := by decide +kernel
theorem d_M_isSecond_53 : decode prog_7_method_31_code 53 = .ok (.ireturn, 1) := by decide +kernel
theorem d_M_hasBelow_0 : decode prog_7_method_32_code 0 = .ok (.iconst 0, 1) := by decide +kernel
theorem d_M_hasBelow_1 : decode prog_7_method_32_code 1 = .ok (.istore_n 2, 1) := by decide +kernel
theorem d_M_hasBelow_2 : decode prog_7_method_32_code 2 = .ok (.iconst 0, 1) := by decide +kernel
theorem d_M_hasBelow_3 : decode prog_7_method_32_code 3 = .ok (.istore_n 3, 1) := by decide +kernel
theorem d_M_hasBelow_4 : decode prog_7_method_32_code 4 = .ok (.iload_n 3, 1) := by decide +kernel
theorem d_M_hasBelow_5 : decode prog_7_method_32_code 5 = .ok (.aload_n 0, 1) := by decide +kernel
theorem d_M_hasBelow_6 : decode prog_7_method_32_code 6 = .ok (.getfield 60, 3) := by decide +kernel
theorem d_M_hasBelow_9 : decode prog_7_method_32_code 9 = .ok (.if_icmp .ge 37, 3) := by decide +kernel
theorem d_M_hasBelow_12 : decode prog_7_method_32_code 12 = .ok (.iload_n 2, 1) := by decide +kernel
theorem d_M_hasBelow_13 : decode prog_7_method_32_code 13 = .ok (.ifCond .ne 21, 3) := by decide +kernel
theorem d_M_hasBelow_16 : decode prog_7_method_32_code 16 = .ok (.aload_n 0, 1) := by decide +kernel
theorem d_M_hasBelow_17 : decode prog_7_method_32_code 17 = .ok (.getfield 36, 3) := by decide +kernel
theorem d_M_hasBelow_20 : decode prog_7_method_32_code 20 = .ok (.iload_n 3, 1) := by decide +kernel
theorem d_M_hasBelow_21 : decode prog_7_method_32_code 21 = .ok (.baload, 1) := by decide +kernel
theorem d_M_hasBelow_22 : decode prog_7_method_32_code 22 = .ok (.ifCond .eq 16, 3) := by decide +kernel
theorem d_M_hasBelow_25 : decode prog_7_method_32_code 25 = .ok (.aload_n 0, 1) := by decide +kernel
theorem d_M_hasBelow_26 : decode prog_7_method_32_code 26 = .ok (.iload_n 3, 1) := by decide +kernel
theorem d_M_hasBelow_27 : decode prog_7_method_32_code 27 = .ok (.iload_n 1, 1) := by decide +kernel
theorem d_M_hasBelow_28 : decode prog_7_method_32_code 28 = .ok (.invokevirtual 131, 3) := by decide +kernel
theorem d_M_hasBelow_31 : decode prog_7_method_32_code 31 = .ok (.ifCond .eq 7, 3) := by decide +kernel
theorem d_M_hasBelow_34 : decode prog_7_method_32_code 34 = .ok (.iconst 1, 1) := by decide +kernel
theorem d_M_hasBelow_35 : decode prog_7_method_32_code 35 = .ok (.goto 4, 3) := by decide +kernel
theorem d_M_hasBelow_38 : decode prog_7_method_32_code 38 = .ok (.iconst 0, 1) := by decide +kernel
theorem d_M_hasBelow_39 : decode prog_7_method_32_code 39 = .ok (.istore_n 2, 1) := by decide +kernel
theorem d_M_hasBelow_40 : decode prog_7_method_32_code 40 = .ok (.iinc 3 1, 3) := by decide +kernel
theorem d_M_hasBelow_43 : decode prog_7_method_32_code 43 = .ok (.goto (-39), 3) := by decide +kernel
theorem d_M_hasBelow_46 : decode prog_7_method_32_code 46 = .ok (.iload_n 2, 1) := by decide +kernel
theorem d_M_hasBelow_47 : decode prog_7_method_32_code 47 = .ok (.ireturn, 1) := by decide +kernel
theorem d_M_child_0 : decode prog_7_method_34_code 0 = .ok (.aload_n 0, 1) := by decide +kernel
theorem d_M_child_1 : decode prog_7_method_34_code 1 = .ok (.iload_n 1, 1) := by decide +kernel
theorem d_M_child_2 : decode prog_7_method_34_code 2 = .ok (.invokevirtual 63, 3) := by decide +kernel
theorem d_M_child_5 : decode prog_7_method_34_code 5 = .ok (.ifCond .ne 5, 3) := by decide +kernel
theorem d_M_child_8 : decode prog_7_method_34_code 8 = .ok (.iconst (-1), 1) := by decide +kernel
theorem d_M_child_9 : decode prog_7_method_34_code 9 = .ok (.ireturn, 1) := by decide +kernel
theorem d_M_child_10 : decode prog_7_method_34_code 10 = .ok (.aload_n 0, 1) := by decide +kernel
theorem d_M_child_11 : decode prog_7_method_34_code 11 = .ok (.getfield 97, 3) := by decide +kernel
theorem d_M_child_14 : decode prog_7_method_34_code 14 = .ok (.ifCond .ne 6, 3) := by decide +kernel
theorem d_M_child_17 : decode prog_7_method_34_code 17 = .ok (.bipush (-3), 2) := by decide +kernel
theorem d_M_child_19 : decode prog_7_method_34_code 19 = .ok (.ireturn, 1) := by decide +kernel
theorem d_M_child_20 : decode prog_7_method_34_code 20 = .ok (.iload_n 2, 1) := by decide +kernel
theorem d_M_child_21 : decode prog_7_method_34_code 21 = .ok (.istore_n 3, 1) := by decide +kernel
theorem d_M_child_22 : decode prog_7_method_34_code 22 = .ok (.iconst 0, 1) := by decide +kernel
theorem d_M_child_23 : decode prog_7_method_34_code 23 = .ok (.istore 4, 2) := by decide +kernel
theorem d_M_child_25 : decode prog_7_method_34_code 25 = .ok (.iload 4, 2) := by decide +kernel
theorem d_M_child_27 : decode prog_7_method_34_code 27 = .ok (.aload_n 0, 1) := by decide +kernel
theorem d_M_child_28 : decode prog_7_method_34_code 28 = .ok (.getfield 60, 3) := by decide +kernel
theorem d_M_child_31 : decode prog_7_method_34_code 31 = .ok (.if_icmp .ge 83, 3) := by decide +kernel
theorem d_M_child_34 : decode prog_7_method_34_code 34 = .ok (.iload_n 2, 1) := by decide +kernel
theorem d_M_child_35 : decode prog_7_method_34_code 35 = .ok (.ifCond .lt 79, 3) := by decide +kernel
theorem d_M_child_38 : decode prog_7_method_34_code 38 = .ok (.aload_n 0, 1) := by decide +kernel
theorem d_M_child_39 : decode prog_7_method_34_code 39 = .ok (.getfield 36, 3) := by decide +kernel
theorem d_M_child_42 : decode prog_7_method_34_code 42 = .ok (.iload_n 1, 1) := by decide +kernel
theorem d_M_child_43 : decode prog_7_method_34_code 43 = .ok (.baload, 1) := by decide +kernel
theorem d_M_child_44 : decode prog_7_method_34_code 44 = .ok (.ifCond .eq 70, 3) := by decide +kernel
theorem d_M_child_47 : decode prog_7_method_34_code 47 = .ok (.aload_n 0, 1) := by decide +kernel
theorem d_M_child_48 : decode prog_7_method_34_code 48 = .ok (.getfield 36, 3) := by decide +kernel
theorem d_M_child_51 : decode prog_7_method_34_code 51 = .ok (.iload 4, 2) := by decide +kernel
theorem d_M_child_53 : decode prog_7_method_34_code 53 = .ok (.baload, 1) := by decide +kernel
theorem d_M_child_54 : decode prog_7_method_34_code 54 = .ok (.ifCond .eq 26, 3) := by decide +kernel
theorem d_M_child_57 : decode prog_7_method_34_code 57 = .ok (.aload_n 0, 1) := by decide +kernel
theorem d_M_child_58 : decode prog_7_method_34_code 58 = .ok (.iload 4, 2) := by decide +kernel
theorem d_M_child_60 : decode prog_7_method_34_code 60 = .ok (.invokevirtual 148, 3) := by decide +kernel
theorem d_M_child_63 : decode prog_7_method_34_code 63 = .ok (.ifCond .ne 17, 3) := by decide +kernel
theorem d_M_child_66 : decode prog_7_method_34_code 66 = .ok (.aload_n 0, 1) := by decide +kernel
theorem d_M_child_67 : decode prog_7_method_34_code 67 = .ok (.iload 4, 2) := by decide +kernel
theorem d_M_child_69 : decode prog_7_method_34_code 69 = .ok (.iload_n 1, 1) := by decide +kernel
theorem d_M_child_70 : decode prog_7_method_34_code 70 = .ok (.invokevirtual 131, 3) := by decide +kernel
theorem d_M_child_73 : decode prog_7_method_34_code 73 = .ok (.ifCond .eq 7, 3) := by decide +kernel
theorem d_M_child_76 : decode prog_7_method_34_code 76 = .ok (.iconst 1, 1) := by decide +kernel
theorem d_M_child_77 : decode prog_7_method_34_code 77 = .ok (.goto 4, 3) := by decide +kernel
theorem d_M_child_80 : decode prog_7_method_34_code 80 = .ok (.iconst 0, 1) := by decide +kernel
theorem d_M_child_81 : decode prog_7_method_34_code 81 = .ok (.istore 5, 2) := by decide +kernel
theorem d_M_child_83 : decode prog_7_method_34_code 83 = .ok (.iload 5, 2) := by decide +kernel
theorem d_M_child_85 : decode prog_7_method_34_code 85 = .ok (.ifCond .eq 10, 3) := by decide +kernel
theorem d_M_child_88 : decode prog_7_method_34_code 88 = .ok (.iload_n 3, 1) := by decide +kernel
theorem d_M_child_89 : decode prog_7_method_34_code 89 = .ok (.ifCond .ne 6, 3) := by decide +kernel
theorem d_M_child_92 : decode prog_7_method_34_code 92 = .ok (.iload 4, 2) := by decide +kernel
theorem d_M_child_94 : decode prog_7_method_34_code 94 = .ok (.ireturn, 1) := by decide +kernel
theorem d_M_child_95 : decode prog_7_method_34_code 95 = .ok (.iload_n 3, 1) := by decide +kernel
theorem d_M_child_96 : decode prog_7_method_34_code 96 = .ok (.iload 5, 2) := by decide +kernel
theorem d_M_child_98 : decode prog_7_method_34_code 98 = .ok (.ifCond .eq 7, 3) := by decide +kernel
theorem d_M_child_101 : decode prog_7_method_34_code 101 = .ok (.iconst 1, 1) := by decide +kernel
theorem d_M_child_102 : decode prog_7_method_34_code 102 = .ok (.goto 4, 3) := by decide +kernel
theorem d_M_child_105 : decode prog_7_method_34_code 105 = .ok (.iconst 0, 1) := by decide +kernel
theorem d_M_child_106 : decode prog_7_method_34_code 106 = .ok (.isub, 1) := by decide +kernel
theorem d_M_child_107 : decode prog_7_method_34_code 107 = .ok (.istore_n 3, 1) := by decide +kernel
theorem d_M_child_108 : decode prog_7_method_34_code 108 = .ok (.iinc 4 1, 3) := by decide +kernel
theorem d_M_child_111 : decode prog_7_method_34_code 111 = .ok (.goto (-86), 3) := by decide +kernel
theorem d_M_child_114 : decode prog_7_method_34_code 114 = .ok (.bipush (-6), 2) := by decide +kernel
theorem d_M_child_116 : decode prog_7_method_34_code 116 = .ok (.ireturn, 1) := by decide +kernel
theorem d_M_equal_0 : decode prog_7_method_35_code 0 = .ok (.aload_n 0, 1) := by decide +kernel
theorem d_M_equal_1 : decode prog_7_method_35_code 1 = .ok (.iload_n 1, 1) := by decide +kernel
theorem d_M_equal_2 : decode prog_7_method_35_code 2 = .ok (.invokevirtual 63, 3) := by decide +kernel
theorem d_M_equal_5 : decode prog_7_method_35_code 5 = .ok (.ifCond .ne 5, 3) := by decide +kernel
theorem d_M_equal_8 : decode prog_7_method_35_code 8 = .ok (.iconst (-1), 1) := by decide +kernel
theorem d_M_equal_9 : decode prog_7_method_35_code 9 = .ok (.ireturn, 1) := by decide +kernel
theorem d_M_equal_10 : decode prog_7_method_35_code 10 = .ok (.aload_n 0, 1) := by decide +kernel
theorem d_M_equal_11 : decode prog_7_method_35_code 11 = .ok (.getfield 97, 3) := by decide +kernel
theorem d_M_equal_14 : decode prog_7_method_35_code 14 = .ok (.ifCond .ne 6, 3) := by decide +kernel
theorem d_M_equal_17 : decode prog_7_method_35_code 17 = .ok (.bipush (-3), 2) := by decide +kernel
theorem d_M_equal_19 : decode prog_7_method_35_code 19 = .ok (.ireturn, 1) := by decide +kernel
theorem d_M_equal_20 : decode prog_7_method_35_code 20 = .ok (.iload_n 2, 1) := by decide +kernel
theorem d_M_equal_21 : decode prog_7_method_35_code 21 = .ok (.istore_n 3, 1) := by decide +kernel
theorem d_M_equal_22 : decode prog_7_method_35_code 22 = .ok (.iconst 0, 1) := by decide +kernel
theorem d_M_equal_23 : decode prog_7_method_35_code 23 = .ok (.istore 4, 2) := by decide +kernel
theorem d_M_equal_25 : decode prog_7_method_35_code 25 = .ok (.iload 4, 2) := by decide +kernel
theorem d_M_equal_27 : decode prog_7_method_35_code 27 = .ok (.aload_n 0, 1) := by decide +kernel
theorem d_M_equal_28 : decode prog_7_method_35_code 28 = .ok (.getfield 60, 3) := by decide +kernel
theorem d_M_equal_31 : decode prog_7_method_35_code 31 = .ok (.if_icmp .ge 65, 3) := by decide +kernel
theorem d_M_equal_34 : decode prog_7_method_35_code 34 = .ok (.iload_n 2, 1) := by decide +kernel
theorem d_M_equal_35 : decode prog_7_method_35_code 35 = .ok (.ifCond .lt 61, 3) := by decide +kernel
theorem d_M_equal_38 : decode prog_7_method_35_code 38 = .ok (.aload_n 0, 1) := by decide +kernel
theorem d_M_equal_39 : decode prog_7_method_35_code 39 = .ok (.iload_n 1, 1) := by decide +kernel
theorem d_M_equal_40 : decode prog_7_method_35_code 40 = .ok (.iload 4, 2) := by decide +kernel
theorem d_M_equal_42 : decode prog_7_method_35_code 42 = .ok (.invokevirtual 77, 3) := by decide +kernel
theorem d_M_equal_45 : decode prog_7_method_35_code 45 = .ok (.ifCond .eq 17, 3) := by decide +kernel
theorem d_M_equal_48 : decode prog_7_method_35_code 48 = .ok (.aload_n 0, 1) := by decide +kernel
theorem d_M_equal_49 : decode prog_7_method_35_code 49 = .ok (.iload 4, 2) := by decide +kernel
theorem d_M_equal_51 : decode prog_7_method_35_code 51 = .ok (.iload_n 1, 1) := by decide +kernel
theorem d_M_equal_52 : decode prog_7_method_35_code 52 = .ok (.invokevirtual 77, 3) := by decide +kernel
theorem d_M_equal_55 : decode prog_7_method_35_code 55 = .ok (.ifCond .eq 7, 3) := by decide +kernel
theorem d_M_equal_58 : decode prog_7_method_35_code 58 = .ok (.iconst 1, 1) := by decide +kernel
theorem d_M_equal_59 : decode prog_7_method_35_code 59 = .ok (.goto 4, 3) := by decide +kernel
theorem d_M_equal_62 : decode prog_7_method_35_code 62 = .ok (.iconst 0, 1) := by decide +kernel
theorem d_M_equal_63 : decode prog_7_method_35_code 63 = .ok (.istore 5, 2) := by decide +kernel
theorem d_M_equal_65 : decode prog_7_method_35_code 65 = .ok (.iload 5, 2) := by decide +kernel
theorem d_M_equal_67 : decode prog_7_method_35_code 67 = .ok (.ifCond .eq 10, 3) := by decide +kernel
theorem d_M_equal_70 : decode prog_7_method_35_code 70 = .ok (.iload_n 3, 1) := by decide +kernel
theorem d_M_equal_71 : decode prog_7_method_35_code 71 = .ok (.ifCond .ne 6, 3) := by decide +kernel
theorem d_M_equal_74 : decode prog_7_method_35_code 74 = .ok (.iload 4, 2) := by decide +kernel
theorem d_M_equal_76 : decode prog_7_method_35_code 76 = .ok (.ireturn, 1) := by decide +kernel
theorem d_M_equal_77 : decode prog_7_method_35_code 77 = .ok (.iload_n 3, 1) := by decide +kernel
theorem d_M_equal_78 : decode prog_7_method_35_code 78 = .ok (.iload 5, 2) := by decide +kernel
theorem d_M_equal_80 : decode prog_7_method_35_code 80 = .ok (.ifCond .eq 7, 3) := by decide +kernel
theorem d_M_equal_83 : decode prog_7_method_35_code 83 = .ok (.iconst 1, 1) := by decide +kernel
theorem d_M_equal_84 : decode prog_7_method_35_code 84 = .ok (.goto 4, 3) := by decide +kernel
theorem d_M_equal_87 : decode prog_7_method_35_code 87 = .ok (.iconst 0, 1) := by decide +kernel
theorem d_M_equal_88 : decode prog_7_method_35_code 88 = .ok (.isub, 1) := by decide +kernel
theorem d_M_equal_89 : decode prog_7_method_35_code 89 = .ok (.istore_n 3, 1) := by decide +kernel
theorem d_M_equal_90 : decode prog_7_method_35_code 90 = .ok (.iinc 4 1, 3) := by decide +kernel
theorem d_M_equal_93 : decode prog_7_method_35_code 93 = .ok (.goto (-68), 3) := by decide +kernel
theorem d_M_equal_96 : decode prog_7_method_35_code 96 = .ok (.bipush (-6), 2) := by decide +kernel
theorem d_M_equal_98 : decode prog_7_method_35_code 98 = .ok (.ireturn, 1) := by decide +kernel
theorem d_M_empty_0 : decode prog_7_method_36_code 0 = .ok (.aload_n 0, 1) := by decide +kernel
theorem d_M_empty_1 : decode prog_7_method_36_code 1 = .ok (.getfield 97, 3) := by decide +kernel
theorem d_M_empty_4 : decode prog_7_method_36_code 4 = .ok (.ifCond .ne 6, 3) := by decide +kernel
theorem d_M_empty_7 : decode prog_7_method_36_code 7 = .ok (.bipush (-3), 2) := by decide +kernel
theorem d_M_empty_9 : decode prog_7_method_36_code 9 = .ok (.ireturn, 1) := by decide +kernel
theorem d_M_empty_10 : decode prog_7_method_36_code 10 = .ok (.iload_n 1, 1) := by decide +kernel
theorem d_M_empty_11 : decode prog_7_method_36_code 11 = .ok (.istore_n 2, 1) := by decide +kernel
theorem d_M_empty_12 : decode prog_7_method_36_code 12 = .ok (.iconst 0, 1) := by decide +kernel
theorem d_M_empty_13 : decode prog_7_method_36_code 13 = .ok (.istore_n 3, 1) := by decide +kernel
theorem d_M_empty_14 : decode prog_7_method_36_code 14 = .ok (.iload_n 3, 1) := by decide +kernel
theorem d_M_empty_15 : decode prog_7_method_36_code 15 = .ok (.aload_n 0, 1) := by decide +kernel
theorem d_M_empty_16 : decode prog_7_method_36_code 16 = .ok (.getfield 60, 3) := by decide +kernel
theorem d_M_empty_19 : decode prog_7_method_36_code 19 = .ok (.if_icmp .ge 45, 3) := by decide +kernel
theorem d_M_empty_22 : decode prog_7_method_36_code 22 = .ok (.iload_n 1, 1) := by decide +kernel
theorem d_M_empty_23 : decode prog_7_method_36_code 23 = .ok (.ifCond .lt 41, 3) := by decide +kernel
theorem d_M_empty_26 : decode prog_7_method_36_code 26 = .ok (.aload_n 0, 1) := by decide +kernel
theorem d_M_empty_27 : decode prog_7_method_36_code 27 = .ok (.getfield 36, 3) := by decide +kernel
theorem d_M_empty_30 : decode prog_7_method_36_code 30 = .ok (.iload_n 3, 1) := by decide +kernel
theorem d_M_empty_31 : decode prog_7_method_36_code 31 = .ok (.baload, 1) := by decide +kernel
theorem d_M_empty_32 : decode prog_7_method_36_code 32 = .ok (.ifCond .ne 9, 3) := by decide +kernel
theorem d_M_empty_35 : decode prog_7_method_36_code 35 = .ok (.iload_n 2, 1) := by decide +kernel
theorem d_M_empty_36 : decode prog_7_method_36_code 36 = .ok (.ifCond .ne 5, 3) := by decide +kernel
theorem d_M_empty_39 : decode prog_7_method_36_code 39 = .ok (.iload_n 3, 1) := by decide +kernel
theorem d_M_empty_40 : decode prog_7_method_36_code 40 = .ok (.ireturn, 1) := by decide +kernel
theorem d_M_empty_41 : decode prog_7_method_36_code 41 = .ok (.iload_n 2, 1) := by decide +kernel
theorem d_M_empty_42 : decode prog_7_method_36_code 42 = .ok (.aload_n 0, 1) := by decide +kernel
theorem d_M_empty_43 : decode prog_7_method_36_code 43 = .ok (.getfield 36, 3) := by decide +kernel
theorem d_M_empty_46 : decode prog_7_method_36_code 46 = .ok (.iload_n 3, 1) := by decide +kernel
theorem d_M_empty_47 : decode prog_7_method_36_code 47 = .ok (.baload, 1) := by decide +kernel
theorem d_M_empty_48 : decode prog_7_method_36_code 48 = .ok (.ifCond .eq 7, 3) := by decide +kernel
theorem d_M_empty_51 : decode prog_7_method_36_code 51 = .ok (.iconst 0, 1) := by decide +kernel
theorem d_M_empty_52 : decode prog_7_method_36_code 52 = .ok (.goto 4, 3) := by decide +kernel
theorem d_M_empty_55 : decode prog_7_method_36_code 55 = .ok (.iconst 1, 1) := by decide +kernel
theorem d_M_empty_56 : decode prog_7_method_36_code 56 = .ok (.isub, 1) := by decide +kernel
theorem d_M_empty_57 : decode prog_7_method_36_code 57 = .ok (.istore_n 2, 1) := by decide +kernel
theorem d_M_empty_58 : decode prog_7_method_36_code 58 = .ok (.iinc 3 1, 3) := by decide +kernel
theorem d_M_empty_61 : decode prog_7_method_36_code 61 = .ok (.goto (-47), 3) := by decide +kernel
theorem d_M_empty_64 : decode prog_7_method_36_code 64 = .ok (.bipush (-6), 2) := by decide +kernel
theorem d_M_empty_66 : decode prog_7_method_36_code 66 = .ok (.ireturn, 1) := by decide +kernel
theorem d_M_open_0 : decode prog_7_method_37_code 0 = .ok (.iload_n 1, 1) := by decide +kernel
theorem d_M_open_1 : decode prog_7_method_37_code 1 = .ok (.istore_n 2, 1) := by decide +kernel
theorem d_M_open_2 : decode prog_7_method_37_code 2 = .ok (.iconst 0, 1) := by decide +kernel
theorem d_M_open_3 : decode prog_7_method_37_code 3 = .ok (.istore_n 3, 1) := by decide +kernel
theorem d_M_open_4 : decode prog_7_method_37_code 4 = .ok (.iload_n 3, 1) := by decide +kernel
theorem d_M_open_5 : decode prog_7_method_37_code 5 = .ok (.sipush 420, 3) := by decide +kernel
theorem d_M_open_8 : decode prog_7_method_37_code 8 = .ok (.if_icmp .ge 79, 3) := by decide +kernel
theorem d_M_open_11 : decode prog_7_method_37_code 11 = .ok (.iload_n 1, 1) := by decide +kernel
theorem d_M_open_12 : decode prog_7_method_37_code 12 = .ok (.ifCond .lt 75, 3) := by decide +kernel
theorem d_M_open_15 : decode prog_7_method_37_code 15 = .ok (.aload_n 0, 1) := by decide +kernel
theorem d_M_open_16 : decode prog_7_method_37_code 16 = .ok (.getfield 30, 3) := by decide +kernel
theorem d_M_open_19 : decode prog_7_method_37_code 19 = .ok (.iload_n 3, 1) := by decide +kernel
theorem d_M_open_20 : decode prog_7_method_37_code 20 = .ok (.iaload, 1) := by decide +kernel
theorem d_M_open_21 : decode prog_7_method_37_code 21 = .ok (.iconst 2, 1) := by decide +kernel
theorem d_M_open_22 : decode prog_7_method_37_code 22 = .ok (.if_icmp .ne 7, 3) := by decide +kernel
theorem d_M_open_25 : decode prog_7_method_37_code 25 = .ok (.iconst 1, 1) := by decide +kernel
theorem d_M_open_26 : decode prog_7_method_37_code 26 = .ok (.goto 4, 3) := by decide +kernel
theorem d_M_open_29 : decode prog_7_method_37_code 29 = .ok (.iconst 0, 1) := by decide +kernel
theorem d_M_open_30 : decode prog_7_method_37_code 30 = .ok (.istore 4, 2) := by decide +kernel
theorem d_M_open_32 : decode prog_7_method_37_code 32 = .ok (.iload 4, 2) := by decide +kernel
theorem d_M_open_34 : decode prog_7_method_37_code 34 = .ok (.ifCond .eq 34, 3) := by decide +kernel
theorem d_M_open_37 : decode prog_7_method_37_code 37 = .ok (.iload_n 2, 1) := by decide +kernel
theorem d_M_open_38 : decode prog_7_method_37_code 38 = .ok (.ifCond .ne 30, 3) := by decide +kernel
theorem d_M_open_41 : decode prog_7_method_37_code 41 = .ok (.bipush 32, 2) := by decide +kernel
theorem d_M_open_43 : decode prog_7_method_37_code 43 = .ok (.iload_n 3, 1) := by decide +kernel
theorem d_M_open_44 : decode prog_7_method_37_code 44 = .ok (.bipush 21, 2) := by decide +kernel
theorem d_M_open_46 : decode prog_7_method_37_code 46 = .ok (.idiv, 1) := by decide +kernel
theorem d_M_open_47 : decode prog_7_method_37_code 47 = .ok (.imul, 1) := by decide +kernel
theorem d_M_open_48 : decode prog_7_method_37_code 48 = .ok (.iload_n 3, 1) := by decide +kernel
theorem d_M_open_49 : decode prog_7_method_37_code 49 = .ok (.bipush 21, 2) := by decide +kernel
theorem d_M_open_51 : decode prog_7_method_37_code 51 = .ok (.irem, 1) := by decide +kernel
theorem d_M_open_52 : decode prog_7_method_37_code 52 = .ok (.bipush 20, 2) := by decide +kernel
theorem d_M_open_54 : decode prog_7_method_37_code 54 = .ok (.if_icmp .ne 8, 3) := by decide +kernel
theorem d_M_open_57 : decode prog_7_method_37_code 57 = .ok (.bipush 31, 2) := by decide +kernel
theorem d_M_open_59 : decode prog_7_method_37_code 59 = .ok (.goto 7, 3) := by decide +kernel
theorem d_M_open_62 : decode prog_7_method_37_code 62 = .ok (.iload_n 3, 1) := by decide +kernel
theorem d_M_open_63 : decode prog_7_method_37_code 63 = .ok (.bipush 21, 2) := by decide +kernel
theorem d_M_open_65 : decode prog_7_method_37_code 65 = .ok (.irem, 1) := by decide +kernel
theorem d_M_open_66 : decode prog_7_method_37_code 66 = .ok (.iadd, 1) := by decide +kernel
theorem d_M_open_67 : decode prog_7_method_37_code 67 = .ok (.ireturn, 1) := by decide +kernel
theorem d_M_open_68 : decode prog_7_method_37_code 68 = .ok (.iload_n 2, 1) := by decide +kernel
theorem d_M_open_69 : decode prog_7_method_37_code 69 = .ok (.iload 4, 2) := by decide +kernel
theorem d_M_open_71 : decode prog_7_method_37_code 71 = .ok (.ifCond .eq 7, 3) := by decide +kernel
theorem d_M_open_74 : decode prog_7_method_37_code 74 = .ok (.iconst 1, 1) := by decide +kernel
theorem d_M_open_75 : decode prog_7_method_37_code 75 = .ok (.goto 4, 3) := by decide +kernel
theorem d_M_open_78 : decode prog_7_method_37_code 78 = .ok (.iconst 0, 1) := by decide +kernel
theorem d_M_open_79 : decode prog_7_method_37_code 79 = .ok (.isub, 1) := by decide +kernel
theorem d_M_open_80 : decode prog_7_method_37_code 80 = .ok (.istore_n 2, 1) := by decide +kernel
theorem d_M_open_81 : decode prog_7_method_37_code 81 = .ok (.iinc 3 1, 3) := by decide +kernel
theorem d_M_open_84 : decode prog_7_method_37_code 84 = .ok (.goto (-80), 3) := by decide +kernel
theorem d_M_open_87 : decode prog_7_method_37_code 87 = .ok (.bipush (-6), 2) := by decide +kernel
theorem d_M_open_89 : decode prog_7_method_37_code 89 = .ok (.ireturn, 1) := by decide +kernel
theorem d_M_put_0 : decode prog_7_method_38_code 0 = .ok (.iload_n 1, 1) := by decide +kernel
theorem d_M_put_1 : decode prog_7_method_38_code 1 = .ok (.ifCond .lt 19, 3) := by decide +kernel
theorem d_M_put_4 : decode prog_7_method_38_code 4 = .ok (.iload_n 1, 1) := by decide +kernel
theorem d_M_put_5 : decode prog_7_method_38_code 5 = .ok (.aload_n 0, 1) := by decide +kernel
theorem d_M_put_6 : decode prog_7_method_38_code 6 = .ok (.getfield 104, 3) := by decide +kernel
theorem d_M_put_9 : decode prog_7_method_38_code 9 = .ok (.if_icmp .ge 11, 3) := by decide +kernel
theorem d_M_put_12 : decode prog_7_method_38_code 12 = .ok (.aload_n 0, 1) := by decide +kernel
theorem d_M_put_13 : decode prog_7_method_38_code 13 = .ok (.iload_n 2, 1) := by decide +kernel
theorem d_M_put_14 : decode prog_7_method_38_code 14 = .ok (.invokevirtual 63, 3) := by decide +kernel
theorem d_M_put_17 : decode prog_7_method_38_code 17 = .ok (.ifCond .ne 5, 3) := by decide +kernel
theorem d_M_put_20 : decode prog_7_method_38_code 20 = .ok (.iconst (-1), 1) := by decide +kernel
theorem d_M_put_21 : decode prog_7_method_38_code 21 = .ok (.ireturn, 1) := by decide +kernel
theorem d_M_put_22 : decode prog_7_method_38_code 22 = .ok (.aload_n 0, 1) := by decide +kernel
theorem d_M_put_23 : decode prog_7_method_38_code 23 = .ok (.getfield 27, 3) := by decide +kernel
theorem d_M_put_26 : decode prog_7_method_38_code 26 = .ok (.bipush 20, 2) := by decide +kernel
theorem d_M_put_28 : decode prog_7_method_38_code 28 = .ok (.iload_n 1, 1) := by decide +kernel
theorem d_M_put_29 : decode prog_7_method_38_code 29 = .ok (.imul, 1) := by decide +kernel
theorem d_M_put_30 : decode prog_7_method_38_code 30 = .ok (.iload_n 2, 1) := by decide +kernel
theorem d_M_put_31 : decode prog_7_method_38_code 31 = .ok (.iadd, 1) := by decide +kernel
theorem d_M_put_32 : decode prog_7_method_38_code 32 = .ok (.baload, 1) := by decide +kernel
theorem d_M_put_33 : decode prog_7_method_38_code 33 = .ok (.istore_n 3, 1) := by decide +kernel
theorem d_M_put_34 : decode prog_7_method_38_code 34 = .ok (.aload_n 0, 1) := by decide +kernel
theorem d_M_put_35 : decode prog_7_method_38_code 35 = .ok (.getfield 27, 3) := by decide +kernel
theorem d_M_put_38 : decode prog_7_method_38_code 38 = .ok (.bipush 20, 2) := by decide +kernel
theorem d_M_put_40 : decode prog_7_method_38_code 40 = .ok (.iload_n 1, 1) := by decide +kernel
theorem d_M_put_41 : decode prog_7_method_38_code 41 = .ok (.imul, 1) := by decide +kernel
theorem d_M_put_42 : decode prog_7_method_38_code 42 = .ok (.iload_n 2, 1) := by decide +kernel
theorem d_M_put_43 : decode prog_7_method_38_code 43 = .ok (.iadd, 1) := by decide +kernel
theorem d_M_put_44 : decode prog_7_method_38_code 44 = .ok (.iconst 1, 1) := by decide +kernel
theorem d_M_put_45 : decode prog_7_method_38_code 45 = .ok (.bastore, 1) := by decide +kernel
theorem d_M_put_46 : decode prog_7_method_38_code 46 = .ok (.iload_n 3, 1) := by decide +kernel
theorem d_M_put_47 : decode prog_7_method_38_code 47 = .ok (.ifCond .eq 7, 3) := by decide +kernel
theorem d_M_put_50 : decode prog_7_method_38_code 50 = .ok (.iconst 0, 1) := by decide +kernel
theorem d_M_put_51 : decode prog_7_method_38_code 51 = .ok (.goto 4, 3) := by decide +kernel
theorem d_M_put_54 : decode prog_7_method_38_code 54 = .ok (.iconst 1, 1) := by decide +kernel
theorem d_M_put_55 : decode prog_7_method_38_code 55 = .ok (.ireturn, 1) := by decide +kernel
theorem d_M_type_0 : decode prog_7_method_40_code 0 = .ok (.iload_n 1, 1) := by decide +kernel
theorem d_M_type_1 : decode prog_7_method_40_code 1 = .ok (.ifCond .lt 11, 3) := by decide +kernel
theorem d_M_type_4 : decode prog_7_method_40_code 4 = .ok (.iload_n 1, 1) := by decide +kernel
theorem d_M_type_5 : decode prog_7_method_40_code 5 = .ok (.aload_n 0, 1) := by decide +kernel
theorem d_M_type_6 : decode prog_7_method_40_code 6 = .ok (.getfield 104, 3) := by decide +kernel
theorem d_M_type_9 : decode prog_7_method_40_code 9 = .ok (.if_icmp .lt 5, 3) := by decide +kernel
theorem d_M_type_12 : decode prog_7_method_40_code 12 = .ok (.iconst (-1), 1) := by decide +kernel
theorem d_M_type_13 : decode prog_7_method_40_code 13 = .ok (.ireturn, 1) := by decide +kernel
theorem d_M_type_14 : decode prog_7_method_40_code 14 = .ok (.aload_n 0, 1) := by decide +kernel
theorem d_M_type_15 : decode prog_7_method_40_code 15 = .ok (.getfield 97, 3) := by decide +kernel
theorem d_M_type_18 : decode prog_7_method_40_code 18 = .ok (.ifCond .ne 6, 3) := by decide +kernel
theorem d_M_type_21 : decode prog_7_method_40_code 21 = .ok (.bipush (-3), 2) := by decide +kernel
theorem d_M_type_23 : decode prog_7_method_40_code 23 = .ok (.ireturn, 1) := by decide +kernel
theorem d_M_type_24 : decode prog_7_method_40_code 24 = .ok (.aload_n 0, 1) := by decide +kernel
theorem d_M_type_25 : decode prog_7_method_40_code 25 = .ok (.iload_n 1, 1) := by decide +kernel
theorem d_M_type_26 : decode prog_7_method_40_code 26 = .ok (.bipush 20, 2) := by decide +kernel
theorem d_M_type_28 : decode prog_7_method_40_code 28 = .ok (.invokevirtual 154, 3) := by decide +kernel
theorem d_M_type_31 : decode prog_7_method_40_code 31 = .ok (.iconst 1, 1) := by decide +kernel
theorem d_M_type_32 : decode prog_7_method_40_code 32 = .ok (.if_icmp .ne 6, 3) := by decide +kernel
theorem d_M_type_35 : decode prog_7_method_40_code 35 = .ok (.bipush (-5), 2) := by decide +kernel
theorem d_M_type_37 : decode prog_7_method_40_code 37 = .ok (.ireturn, 1) := by decide +kernel
theorem d_M_type_38 : decode prog_7_method_40_code 38 = .ok (.iload_n 2, 1) := by decide +kernel
theorem d_M_type_39 : decode prog_7_method_40_code 39 = .ok (.istore_n 3, 1) := by decide +kernel
theorem d_M_type_40 : decode prog_7_method_40_code 40 = .ok (.iconst 0, 1) := by decide +kernel
theorem d_M_type_41 : decode prog_7_method_40_code 41 = .ok (.istore 4, 2) := by decide +kernel
theorem d_M_type_43 : decode prog_7_method_40_code 43 = .ok (.iload 4, 2) := by decide +kernel
theorem d_M_type_45 : decode prog_7_method_40_code 45 = .ok (.aload_n 0, 1) := by decide +kernel
theorem d_M_type_46 : decode prog_7_method_40_code 46 = .ok (.getfield 60, 3) := by decide +kernel
theorem d_M_type_49 : decode prog_7_method_40_code 49 = .ok (.if_icmp .ge 135, 3) := by decide +kernel
theorem d_M_type_52 : decode prog_7_method_40_code 52 = .ok (.iload_n 2, 1) := by decide +kernel
theorem d_M_type_53 : decode prog_7_method_40_code 53 = .ok (.ifCond .lt 131, 3) := by decide +kernel
theorem d_M_type_56 : decode prog_7_method_40_code 56 = .ok (.aload_n 0, 1) := by decide +kernel
theorem d_M_type_57 : decode prog_7_method_40_code 57 = .ok (.getfield 36, 3) := by decide +kernel
theorem d_M_type_60 : decode prog_7_method_40_code 60 = .ok (.iload 4, 2) := by decide +kernel
theorem d_M_type_62 : decode prog_7_method_40_code 62 = .ok (.baload, 1) := by decide +kernel
theorem d_M_type_63 : decode prog_7_method_40_code 63 = .ok (.ifCond .eq 26, 3) := by decide +kernel
theorem d_M_type_66 : decode prog_7_method_40_code 66 = .ok (.aload_n 0, 1) := by decide +kernel
theorem d_M_type_67 : decode prog_7_method_40_code 67 = .ok (.iload 4, 2) := by decide +kernel
theorem d_M_type_69 : decode prog_7_method_40_code 69 = .ok (.invokevirtual 148, 3) := by decide +kernel
theorem d_M_type_72 : decode prog_7_method_40_code 72 = .ok (.ifCond .ne 17, 3) := by decide +kernel
theorem d_M_type_75 : decode prog_7_method_40_code 75 = .ok (.aload_n 0, 1) := by decide +kernel
theorem d_M_type_76 : decode prog_7_method_40_code 76 = .ok (.iload_n 1, 1) := by decide +kernel
theorem d_M_type_77 : decode prog_7_method_40_code 77 = .ok (.iload 4, 2) := by decide +kernel
theorem d_M_type_79 : decode prog_7_method_40_code 79 = .ok (.invokevirtual 157, 3) := by decide +kernel
theorem d_M_type_82 : decode prog_7_method_40_code 82 = .ok (.ifCond .eq 7, 3) := by decide +kernel
theorem d_M_type_85 : decode prog_7_method_40_code 85 = .ok (.iconst 1, 1) := by decide +kernel
theorem d_M_type_86 : decode prog_7_method_40_code 86 = .ok (.goto 4, 3) := by decide +kernel
theorem d_M_type_89 : decode prog_7_method_40_code 89 = .ok (.iconst 0, 1) := by decide +kernel
theorem d_M_type_90 : decode prog_7_method_40_code 90 = .ok (.istore 5, 2) := by decide +kernel
theorem d_M_type_92 : decode prog_7_method_40_code 92 = .ok (.iconst 0, 1) := by decide +kernel
theorem d_M_type_93 : decode prog_7_method_40_code 93 = .ok (.istore 6, 2) := by decide +kernel
theorem d_M_type_95 : decode prog_7_method_40_code 95 = .ok (.iload 6, 2) := by decide +kernel
theorem d_M_type_97 : decode prog_7_method_40_code 97 = .ok (.aload_n 0, 1) := by decide +kernel
theorem d_M_type_98 : decode prog_7_method_40_code 98 = .ok (.getfield 60, 3) := by decide +kernel
theorem d_M_type_101 : decode prog_7_method_40_code 101 = .ok (.if_icmp .ge 52, 3) := by decide +kernel
theorem d_M_type_104 : decode prog_7_method_40_code 104 = .ok (.iload 5, 2) := by decide +kernel
theorem d_M_type_106 : decode prog_7_method_40_code 106 = .ok (.ifCond .eq 47, 3) := by decide +kernel
theorem d_M_type_109 : decode prog_7_method_40_code 109 = .ok (.aload_n 0, 1) := by decide +kernel
theorem d_M_type_110 : decode prog_7_method_40_code 110 = .ok (.getfield 36, 3) := by decide +kernel
theorem d_M_type_113 : decode prog_7_method_40_code 113 = .ok (.iload 6, 2) := by decide +kernel
theorem d_M_type_115 : decode prog_7_method_40_code 115 = .ok (.baload, 1) := by decide +kernel
theorem d_M_type_116 : decode prog_7_method_40_code 116 = .ok (.ifCond .eq 24, 3) := by decide +kernel
theorem d_M_type_119 : decode prog_7_method_40_code 119 = .ok (.aload_n 0, 1) := by decide +kernel
theorem d_M_type_120 : decode prog_7_method_40_code 120 = .ok (.iload 6, 2) := by decide +kernel
theorem d_M_type_122 : decode prog_7_method_40_code 122 = .ok (.iload 4, 2) := by decide +kernel
theorem d_M_type_124 : decode prog_7_method_40_code 124 = .ok (.invokevirtual 131, 3) := by decide +kernel
theorem d_M_type_127 : decode prog_7_method_40_code 127 = .ok (.ifCond .eq 13, 3) := by decide +kernel
theorem d_M_type_130 : decode prog_7_method_40_code 130 = .ok (.aload_n 0, 1) := by decide +kernel
theorem d_M_type_131 : decode prog_7_method_40_code 131 = .ok (.iload_n 1, 1) := by decide +kernel
theorem d_M_type_132 : decode prog_7_method_40_code 132 = .ok (.iload 6, 2) := by decide +kernel
theorem d_M_type_134 : decode prog_7_method_40_code 134 = .ok (.invokevirtual 157, 3) := by decide +kernel
theorem d_M_type_137 : decode prog_7_method_40_code 137 = .ok (.ifCond .ne 7, 3) := by decide +kernel
theorem d_M_type_140 : decode prog_7_method_40_code 140 = .ok (.iconst 1, 1) := by decide +kernel
theorem d_M_type_141 : decode prog_7_method_40_code 141 = .ok (.goto 4, 3) := by decide +kernel
theorem d_M_type_144 : decode prog_7_method_40_code 144 = .ok (.iconst 0, 1) := by decide +kernel
theorem d_M_type_145 : decode prog_7_method_40_code 145 = .ok (.istore 5, 2) := by decide +kernel
theorem d_M_type_147 : decode prog_7_method_40_code 147 = .ok (.iinc 6 1, 3) := by decide +kernel
theorem d_M_type_150 : decode prog_7_method_40_code 150 = .ok (.goto (-55), 3) := by decide +kernel
theorem d_M_type_153 : decode prog_7_method_40_code 153 = .ok (.iload 5, 2) := by decide +kernel
theorem d_M_type_155 : decode prog_7_method_40_code 155 = .ok (.ifCond .eq 10, 3) := by decide +kernel
theorem d_M_type_158 : decode prog_7_method_40_code 158 = .ok (.iload_n 3, 1) := by decide +kernel
theorem d_M_type_159 : decode prog_7_method_40_code 159 = .ok (.ifCond .ne 6, 3) := by decide +kernel
theorem d_M_type_162 : decode prog_7_method_40_code 162 = .ok (.iload 4, 2) := by decide +kernel
theorem d_M_type_164 : decode prog_7_method_40_code 164 = .ok (.ireturn, 1) := by decide +kernel
theorem d_M_type_165 : decode prog_7_method_40_code 165 = .ok (.iload_n 3, 1) := by decide +kernel
theorem d_M_type_166 : decode prog_7_method_40_code 166 = .ok (.iload 5, 2) := by decide +kernel
theorem d_M_type_168 : decode prog_7_method_40_code 168 = .ok (.ifCond .eq 7, 3) := by decide +kernel
theorem d_M_type_171 : decode prog_7_method_40_code 171 = .ok (.iconst 1, 1) := by decide +kernel
theorem d_M_type_172 : decode prog_7_method_40_code 172 = .ok (.goto 4, 3) := by decide +kernel
theorem d_M_type_175 : decode prog_7_method_40_code 175 = .ok (.iconst 0, 1) := by decide +kernel
theorem d_M_type_176 : decode prog_7_method_40_code 176 = .ok (.isub, 1) := by decide +kernel
theorem d_M_type_177 : decode prog_7_method_40_code 177 = .ok (.istore_n 3, 1) := by decide +kernel
theorem d_M_type_178 : decode prog_7_method_40_code 178 = .ok (.iinc 4 1, 3) := by decide +kernel
theorem d_M_type_181 : decode prog_7_method_40_code 181 = .ok (.goto (-138), 3) := by decide +kernel
theorem d_M_type_184 : decode prog_7_method_40_code 184 = .ok (.bipush (-6), 2) := by decide +kernel
theorem d_M_type_186 : decode prog_7_method_40_code 186 = .ok (.ireturn, 1) := by decide +kernel
theorem d_M_reasonThing_0 : decode prog_7_method_14_code 0 = .ok (.iconst 0, 1) := by decide +kernel
theorem d_M_reasonThing_1 : decode prog_7_method_14_code 1 = .ok (.istore_n 3, 1) := by decide +kernel
theorem d_M_reasonThing_2 : decode prog_7_method_14_code 2 = .ok (.iload_n 3, 1) := by decide +kernel
theorem d_M_reasonThing_3 : decode prog_7_method_14_code 3 = .ok (.bipush 20, 2) := by decide +kernel
theorem d_M_reasonThing_5 : decode prog_7_method_14_code 5 = .ok (.if_icmp .gt 40, 3) := by decide +kernel
theorem d_M_reasonThing_8 : decode prog_7_method_14_code 8 = .ok (.aload_n 0, 1) := by decide +kernel
theorem d_M_reasonThing_9 : decode prog_7_method_14_code 9 = .ok (.getfield 42, 3) := by decide +kernel
theorem d_M_reasonThing_12 : decode prog_7_method_14_code 12 = .ok (.iload_n 3, 1) := by decide +kernel
theorem d_M_reasonThing_13 : decode prog_7_method_14_code 13 = .ok (.iload_n 3, 1) := by decide +kernel
theorem d_M_reasonThing_14 : decode prog_7_method_14_code 14 = .ok (.bipush 20, 2) := by decide +kernel
theorem d_M_reasonThing_16 : decode prog_7_method_14_code 16 = .ok (.if_icmp .ge 21, 3) := by decide +kernel
theorem d_M_reasonThing_19 : decode prog_7_method_14_code 19 = .ok (.aload_n 0, 1) := by decide +kernel
theorem d_M_reasonThing_20 : decode prog_7_method_14_code 20 = .ok (.getfield 27, 3) := by decide +kernel
theorem d_M_reasonThing_23 : decode prog_7_method_14_code 23 = .ok (.bipush 20, 2) := by decide +kernel
theorem d_M_reasonThing_25 : decode prog_7_method_14_code 25 = .ok (.iload_n 1, 1) := by decide +kernel
theorem d_M_reasonThing_26 : decode prog_7_method_14_code 26 = .ok (.imul, 1) := by decide +kernel
theorem d_M_reasonThing_27 : decode prog_7_method_14_code 27 = .ok (.iload_n 3, 1) := by decide +kernel
theorem d_M_reasonThing_28 : decode prog_7_method_14_code 28 = .ok (.iadd, 1) := by decide +kernel
theorem d_M_reasonThing_29 : decode prog_7_method_14_code 29 = .ok (.baload, 1) := by decide +kernel
theorem d_M_reasonThing_30 : decode prog_7_method_14_code 30 = .ok (.ifCond .eq 7, 3) := by decide +kernel
theorem d_M_reasonThing_33 : decode prog_7_method_14_code 33 = .ok (.iconst 1, 1) := by decide +kernel
theorem d_M_reasonThing_34 : decode prog_7_method_14_code 34 = .ok (.goto 4, 3) := by decide +kernel
theorem d_M_reasonThing_37 : decode prog_7_method_14_code 37 = .ok (.iconst 0, 1) := by decide +kernel
theorem d_M_reasonThing_38 : decode prog_7_method_14_code 38 = .ok (.bastore, 1) := by decide +kernel
theorem d_M_reasonThing_39 : decode prog_7_method_14_code 39 = .ok (.iinc 3 1, 3) := by decide +kernel
theorem d_M_reasonThing_42 : decode prog_7_method_14_code 42 = .ok (.goto (-40), 3) := by decide +kernel
theorem d_M_reasonThing_45 : decode prog_7_method_14_code 45 = .ok (.aload_n 0, 1) := by decide +kernel
theorem d_M_reasonThing_46 : decode prog_7_method_14_code 46 = .ok (.iload_n 2, 1) := by decide +kernel
theorem d_M_reasonThing_47 : decode prog_7_method_14_code 47 = .ok (.invokevirtual 93, 3) := by decide +kernel
theorem d_M_reasonThing_50 : decode prog_7_method_14_code 50 = .ok (.ireturn, 1) := by decide +kernel
theorem d_M_isIn_0 : decode prog_7_method_39_code 0 = .ok (.aload_n 0, 1) := by decide +kernel
theorem d_M_isIn_1 : decode prog_7_method_39_code 1 = .ok (.iload_n 1, 1) := by decide +kernel
theorem d_M_isIn_2 : decode prog_7_method_39_code 2 = .ok (.iload_n 2, 1) := by decide +kernel
theorem d_M_isIn_3 : decode prog_7_method_39_code 3 = .ok (.invokevirtual 154, 3) := by decide +kernel
theorem d_M_isIn_6 : decode prog_7_method_39_code 6 = .ok (.iconst 1, 1) := by decide +kernel
theorem d_M_isIn_7 : decode prog_7_method_39_code 7 = .ok (.if_icmp .ne 7, 3) := by decide +kernel
theorem d_M_isIn_10 : decode prog_7_method_39_code 10 = .ok (.iconst 1, 1) := by decide +kernel
theorem d_M_isIn_11 : decode prog_7_method_39_code 11 = .ok (.goto 4, 3) := by decide +kernel
theorem d_M_isIn_14 : decode prog_7_method_39_code 14 = .ok (.iconst 0, 1) := by decide +kernel
theorem d_M_isIn_15 : decode prog_7_method_39_code 15 = .ok (.ireturn, 1) := by decide +kernel
theorem d_M_trace_0 : decode prog_7_method_41_code 0 = .ok (.aload_n 0, 1) := by decide +kernel
theorem d_M_trace_1 : decode prog_7_method_41_code 1 = .ok (.iload_n 2, 1) := by decide +kernel
theorem d_M_trace_2 : decode prog_7_method_41_code 2 = .ok (.invokevirtual 118, 3) := by decide +kernel
theorem d_M_trace_5 : decode prog_7_method_41_code 5 = .ok (.istore 4, 2) := by decide +kernel
theorem d_M_trace_7 : decode prog_7_method_41_code 7 = .ok (.aload_n 0, 1) := by decide +kernel
theorem d_M_trace_8 : decode prog_7_method_41_code 8 = .ok (.iload_n 1, 1) := by decide +kernel
theorem d_M_trace_9 : decode prog_7_method_41_code 9 = .ok (.invokevirtual 63, 3) := by decide +kernel
theorem d_M_trace_12 : decode prog_7_method_41_code 12 = .ok (.ifCond .eq 8, 3) := by decide +kernel
theorem d_M_trace_15 : decode prog_7_method_41_code 15 = .ok (.iload 4, 2) := by decide +kernel
theorem d_M_trace_17 : decode prog_7_method_41_code 17 = .ok (.ifCond .ge 5, 3) := by decide +kernel
theorem d_M_trace_20 : decode prog_7_method_41_code 20 = .ok (.iconst (-1), 1) := by decide +kernel
theorem d_M_trace_21 : decode prog_7_method_41_code 21 = .ok (.ireturn, 1) := by decide +kernel
theorem d_M_trace_22 : decode prog_7_method_41_code 22 = .ok (.aload_n 0, 1) := by decide +kernel
theorem d_M_trace_23 : decode prog_7_method_41_code 23 = .ok (.iload_n 1, 1) := by decide +kernel
theorem d_M_trace_24 : decode prog_7_method_41_code 24 = .ok (.iload 4, 2) := by decide +kernel
theorem d_M_trace_26 : decode prog_7_method_41_code 26 = .ok (.invokevirtual 121, 3) := by decide +kernel
theorem d_M_trace_29 : decode prog_7_method_41_code 29 = .ok (.iconst 1, 1) := by decide +kernel
theorem d_M_trace_30 : decode prog_7_method_41_code 30 = .ok (.if_icmp .ne 10, 3) := by decide +kernel
theorem d_M_trace_33 : decode prog_7_method_41_code 33 = .ok (.aload_n 0, 1) := by decide +kernel
theorem d_M_trace_34 : decode prog_7_method_41_code 34 = .ok (.getfield 90, 3) := by decide +kernel
theorem d_M_trace_37 : decode prog_7_method_41_code 37 = .ok (.ifCond .ne 6, 3) := by decide +kernel
theorem d_M_trace_40 : decode prog_7_method_41_code 40 = .ok (.bipush (-6), 2) := by decide +kernel
theorem d_M_trace_42 : decode prog_7_method_41_code 42 = .ok (.ireturn, 1) := by decide +kernel
theorem d_M_trace_43 : decode prog_7_method_41_code 43 = .ok (.iconst 0, 1) := by decide +kernel
theorem d_M_trace_44 : decode prog_7_method_41_code 44 = .ok (.istore 5, 2) := by decide +kernel
theorem d_M_trace_46 : decode prog_7_method_41_code 46 = .ok (.iload 5, 2) := by decide +kernel
theorem d_M_trace_48 : decode prog_7_method_41_code 48 = .ok (.bipush 40, 2) := by decide +kernel
theorem d_M_trace_50 : decode prog_7_method_41_code 50 = .ok (.if_icmp .ge 17, 3) := by decide +kernel
theorem d_M_trace_53 : decode prog_7_method_41_code 53 = .ok (.aload_n 0, 1) := by decide +kernel
theorem d_M_trace_54 : decode prog_7_method_41_code 54 = .ok (.getfield 51, 3) := by decide +kernel
theorem d_M_trace_57 : decode prog_7_method_41_code 57 = .ok (.iload 5, 2) := by decide +kernel
theorem d_M_trace_59 : decode prog_7_method_41_code 59 = .ok (.iconst 0, 1) := by decide +kernel
theorem d_M_trace_60 : decode prog_7_method_41_code 60 = .ok (.bastore, 1) := by decide +kernel
theorem d_M_trace_61 : decode prog_7_method_41_code 61 = .ok (.iinc 5 1, 3) := by decide +kernel
theorem d_M_trace_64 : decode prog_7_method_41_code 64 = .ok (.goto (-18), 3) := by decide +kernel
theorem d_M_trace_67 : decode prog_7_method_41_code 67 = .ok (.aload_n 0, 1) := by decide +kernel
theorem d_M_trace_68 : decode prog_7_method_41_code 68 = .ok (.getfield 51, 3) := by decide +kernel
theorem d_M_trace_71 : decode prog_7_method_41_code 71 = .ok (.aload_n 0, 1) := by decide +kernel
theorem d_M_trace_72 : decode prog_7_method_41_code 72 = .ok (.getfield 48, 3) := by decide +kernel
theorem d_M_trace_75 : decode prog_7_method_41_code 75 = .ok (.aload_n 0, 1) := by decide +kernel
theorem d_M_trace_76 : decode prog_7_method_41_code 76 = .ok (.getfield 90, 3) := by decide +kernel
theorem d_M_trace_79 : decode prog_7_method_41_code 79 = .ok (.iconst 1, 1) := by decide +kernel
theorem d_M_trace_80 : decode prog_7_method_41_code 80 = .ok (.isub, 1) := by decide +kernel
theorem d_M_trace_81 : decode prog_7_method_41_code 81 = .ok (.iaload, 1) := by decide +kernel
theorem d_M_trace_82 : decode prog_7_method_41_code 82 = .ok (.iconst 1, 1) := by decide +kernel
theorem d_M_trace_83 : decode prog_7_method_41_code 83 = .ok (.bastore, 1) := by decide +kernel
theorem d_M_trace_84 : decode prog_7_method_41_code 84 = .ok (.aload_n 0, 1) := by decide +kernel
theorem d_M_trace_85 : decode prog_7_method_41_code 85 = .ok (.getfield 90, 3) := by decide +kernel
theorem d_M_trace_88 : decode prog_7_method_41_code 88 = .ok (.iconst 1, 1) := by decide +kernel
theorem d_M_trace_89 : decode prog_7_method_41_code 89 = .ok (.isub, 1) := by decide +kernel
theorem d_M_trace_90 : decode prog_7_method_41_code 90 = .ok (.istore 5, 2) := by decide +kernel
theorem d_M_trace_92 : decode prog_7_method_41_code 92 = .ok (.iload 5, 2) := by decide +kernel
theorem d_M_trace_94 : decode prog_7_method_41_code 94 = .ok (.ifCond .lt 104, 3) := by decide +kernel
theorem d_M_trace_97 : decode prog_7_method_41_code 97 = .ok (.aload_n 0, 1) := by decide +kernel
theorem d_M_trace_98 : decode prog_7_method_41_code 98 = .ok (.getfield 48, 3) := by decide +kernel
theorem d_M_trace_101 : decode prog_7_method_41_code 101 = .ok (.iload 5, 2) := by decide +kernel
theorem d_M_trace_103 : decode prog_7_method_41_code 103 = .ok (.iaload, 1) := by decide +kernel
theorem d_M_trace_104 : decode prog_7_method_41_code 104 = .ok (.istore 6, 2) := by decide +kernel
theorem d_M_trace_106 : decode prog_7_method_41_code 106 = .ok (.aload_n 0, 1) := by decide +kernel
theorem d_M_trace_107 : decode prog_7_method_41_code 107 = .ok (.getfield 51, 3) := by decide +kernel
theorem d_M_trace_110 : decode prog_7_method_41_code 110 = .ok (.iload 6, 2) := by decide +kernel
theorem d_M_trace_112 : decode prog_7_method_41_code 112 = .ok (.baload, 1) := by decide +kernel
theorem d_M_trace_113 : decode prog_7_method_41_code 113 = .ok (.ifCond .eq 79, 3) := by decide +kernel
theorem d_M_trace_116 : decode prog_7_method_41_code 116 = .ok (.aload_n 0, 1) := by decide +kernel
theorem d_M_trace_117 : decode prog_7_method_41_code 117 = .ok (.getfield 45, 3) := by decide +kernel
theorem d_M_trace_120 : decode prog_7_method_41_code 120 = .ok (.aload_n 0, 1) := by decide +kernel
theorem d_M_trace_121 : decode prog_7_method_41_code 121 = .ok (.getfield 13, 3) := by decide +kernel
theorem d_M_trace_124 : decode prog_7_method_41_code 124 = .ok (.iload 6, 2) := by decide +kernel
theorem d_M_trace_126 : decode prog_7_method_41_code 126 = .ok (.iaload, 1) := by decide +kernel
theorem d_M_trace_127 : decode prog_7_method_41_code 127 = .ok (.iaload, 1) := by decide +kernel
theorem d_M_trace_128 : decode prog_7_method_41_code 128 = .ok (.ifCond .lt 21, 3) := by decide +kernel
theorem d_M_trace_131 : decode prog_7_method_41_code 131 = .ok (.aload_n 0, 1) := by decide +kernel
theorem d_M_trace_132 : decode prog_7_method_41_code 132 = .ok (.getfield 51, 3) := by decide +kernel
theorem d_M_trace_135 : decode prog_7_method_41_code 135 = .ok (.aload_n 0, 1) := by decide +kernel
theorem d_M_trace_136 : decode prog_7_method_41_code 136 = .ok (.getfield 45, 3) := by decide +kernel
theorem d_M_trace_139 : decode prog_7_method_41_code 139 = .ok (.aload_n 0, 1) := by decide +kernel
theorem d_M_trace_140 : decode prog_7_method_41_code 140 = .ok (.getfield 13, 3) := by decide +kernel
theorem d_M_trace_143 : decode prog_7_method_41_code 143 = .ok (.iload 6, 2) := by decide +kernel
theorem d_M_trace_145 : decode prog_7_method_41_code 145 = .ok (.iaload, 1) := by decide +kernel
theorem d_M_trace_146 : decode prog_7_method_41_code 146 = .ok (.iaload, 1) := by decide +kernel
theorem d_M_trace_147 : decode prog_7_method_41_code 147 = .ok (.iconst 1, 1) := by decide +kernel
theorem d_M_trace_148 : decode prog_7_method_41_code 148 = .ok (.bastore, 1) := by decide +kernel
theorem d_M_trace_149 : decode prog_7_method_41_code 149 = .ok (.aload_n 0, 1) := by decide +kernel
theorem d_M_trace_150 : decode prog_7_method_41_code 150 = .ok (.getfield 17, 3) := by decide +kernel
theorem d_M_trace_153 : decode prog_7_method_41_code 153 = .ok (.iload 6, 2) := by decide +kernel
theorem d_M_trace_155 : decode prog_7_method_41_code 155 = .ok (.iaload, 1) := by decide +kernel
theorem d_M_trace_156 : decode prog_7_method_41_code 156 = .ok (.ifCond .lt 36, 3) := by decide +kernel
theorem d_M_trace_159 : decode prog_7_method_41_code 159 = .ok (.aload_n 0, 1) := by decide +kernel
theorem d_M_trace_160 : decode prog_7_method_41_code 160 = .ok (.getfield 45, 3) := by decide +kernel
