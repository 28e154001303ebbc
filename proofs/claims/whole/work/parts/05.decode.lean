theorem d_XA_firstThatFires_24 : decode prog_2_method_9_code 24 = .ok (.ixor, 1) := by decide +kernel
theorem d_XA_firstThatFires_25 : decode prog_2_method_9_code 25 = .ok (.iand, 1) := by decide +kernel
theorem d_XA_firstThatFires_26 : decode prog_2_method_9_code 26 = .ok (.ifCond .ne 18, 3) := by decide +kernel
theorem d_XA_firstThatFires_29 : decode prog_2_method_9_code 29 = .ok (.iload_n 1, 1) := by decide +kernel
theorem d_XA_firstThatFires_30 : decode prog_2_method_9_code 30 = .ok (.aload_n 0, 1) := by decide +kernel
theorem d_XA_firstThatFires_31 : decode prog_2_method_9_code 31 = .ok (.getfield 15, 3) := by decide +kernel
theorem d_XA_firstThatFires_34 : decode prog_2_method_9_code 34 = .ok (.iload_n 2, 1) := by decide +kernel
theorem d_XA_firstThatFires_35 : decode prog_2_method_9_code 35 = .ok (.iaload, 1) := by decide +kernel
theorem d_XA_firstThatFires_36 : decode prog_2_method_9_code 36 = .ok (.invokestatic 37, 3) := by decide +kernel
theorem d_XA_firstThatFires_39 : decode prog_2_method_9_code 39 = .ok (.ifCond .ne 5, 3) := by decide +kernel
theorem d_XA_firstThatFires_42 : decode prog_2_method_9_code 42 = .ok (.iload_n 2, 1) := by decide +kernel
theorem d_XA_firstThatFires_43 : decode prog_2_method_9_code 43 = .ok (.ireturn, 1) := by decide +kernel
theorem d_XA_firstThatFires_44 : decode prog_2_method_9_code 44 = .ok (.iinc 2 1, 3) := by decide +kernel
theorem d_XA_firstThatFires_47 : decode prog_2_method_9_code 47 = .ok (.goto (-45), 3) := by decide +kernel
theorem d_XA_firstThatFires_50 : decode prog_2_method_9_code 50 = .ok (.bipush (-6), 2) := by decide +kernel
theorem d_XA_firstThatFires_52 : decode prog_2_method_9_code 52 = .ok (.ireturn, 1) := by decide +kernel
theorem d_X_run_0 : decode prog_1_method_9_code 0 = .ok (.aload_n 0, 1) := by decide +kernel
theorem d_X_run_1 : decode prog_1_method_9_code 1 = .ok (.getfield 37, 3) := by decide +kernel
theorem d_X_run_4 : decode prog_1_method_9_code 4 = .ok (.aload_n 0, 1) := by decide +kernel
theorem d_X_run_5 : decode prog_1_method_9_code 5 = .ok (.getfield 45, 3) := by decide +kernel
theorem d_X_run_8 : decode prog_1_method_9_code 8 = .ok (.invokevirtual 121, 3) := by decide +kernel
theorem d_X_run_11 : decode prog_1_method_9_code 11 = .ok (.istore_n 1, 1) := by decide +kernel
theorem d_X_run_12 : decode prog_1_method_9_code 12 = .ok (.aload_n 0, 1) := by decide +kernel
theorem d_X_run_13 : decode prog_1_method_9_code 13 = .ok (.dup, 1) := by decide +kernel
theorem d_X_run_14 : decode prog_1_method_9_code 14 = .ok (.getfield 52, 3) := by decide +kernel
theorem d_X_run_17 : decode prog_1_method_9_code 17 = .ok (.iload_n 1, 1) := by decide +kernel
theorem d_X_run_18 : decode prog_1_method_9_code 18 = .ok (.iadd, 1) := by decide +kernel
theorem d_X_run_19 : decode prog_1_method_9_code 19 = .ok (.putfield 52, 3) := by decide +kernel
theorem d_X_run_22 : decode prog_1_method_9_code 22 = .ok (.aload_n 0, 1) := by decide +kernel
theorem d_X_run_23 : decode prog_1_method_9_code 23 = .ok (.iconst 1, 1) := by decide +kernel
theorem d_X_run_24 : decode prog_1_method_9_code 24 = .ok (.putfield 55, 3) := by decide +kernel
theorem d_X_run_27 : decode prog_1_method_9_code 27 = .ok (.iload_n 1, 1) := by decide +kernel
theorem d_X_run_28 : decode prog_1_method_9_code 28 = .ok (.ireturn, 1) := by decide +kernel
theorem d_XO_sort_0 : decode prog_4_method_5_code 0 = .ok (.aload_n 0, 1) := by decide +kernel
theorem d_XO_sort_1 : decode prog_4_method_5_code 1 = .ok (.iconst 0, 1) := by decide +kernel
theorem d_XO_sort_2 : decode prog_4_method_5_code 2 = .ok (.putfield 9, 3) := by decide +kernel
theorem d_XO_sort_5 : decode prog_4_method_5_code 5 = .ok (.aload_n 0, 1) := by decide +kernel
theorem d_XO_sort_6 : decode prog_4_method_5_code 6 = .ok (.iconst 0, 1) := by decide +kernel
theorem d_XO_sort_7 : decode prog_4_method_5_code 7 = .ok (.putfield 15, 3) := by decide +kernel
theorem d_XO_sort_10 : decode prog_4_method_5_code 10 = .ok (.aload_n 0, 1) := by decide +kernel
theorem d_XO_sort_11 : decode prog_4_method_5_code 11 = .ok (.iconst 0, 1) := by decide +kernel
theorem d_XO_sort_12 : decode prog_4_method_5_code 12 = .ok (.putfield 18, 3) := by decide +kernel
theorem d_XO_sort_15 : decode prog_4_method_5_code 15 = .ok (.iconst 0, 1) := by decide +kernel
theorem d_XO_sort_16 : decode prog_4_method_5_code 16 = .ok (.istore_n 2, 1) := by decide +kernel
theorem d_XO_sort_17 : decode prog_4_method_5_code 17 = .ok (.iload_n 2, 1) := by decide +kernel
theorem d_XO_sort_18 : decode prog_4_method_5_code 18 = .ok (.iload_n 1, 1) := by decide +kernel
theorem d_XO_sort_19 : decode prog_4_method_5_code 19 = .ok (.if_icmp .ge 65, 3) := by decide +kernel
theorem d_XO_sort_22 : decode prog_4_method_5_code 22 = .ok (.iload_n 2, 1) := by decide +kernel
theorem d_XO_sort_23 : decode prog_4_method_5_code 23 = .ok (.bipush 20, 2) := by decide +kernel
theorem d_XO_sort_25 : decode prog_4_method_5_code 25 = .ok (.if_icmp .ge 59, 3) := by decide +kernel
theorem d_XO_sort_28 : decode prog_4_method_5_code 28 = .ok (.aload_n 0, 1) := by decide +kernel
theorem d_XO_sort_29 : decode prog_4_method_5_code 29 = .ok (.iload_n 2, 1) := by decide +kernel
theorem d_XO_sort_30 : decode prog_4_method_5_code 30 = .ok (.bipush 20, 2) := by decide +kernel
theorem d_XO_sort_32 : decode prog_4_method_5_code 32 = .ok (.invokevirtual 33, 3) := by decide +kernel
theorem d_XO_sort_35 : decode prog_4_method_5_code 35 = .ok (.iconst 1, 1) := by decide +kernel
theorem d_XO_sort_36 : decode prog_4_method_5_code 36 = .ok (.if_icmp .ne 19, 3) := by decide +kernel
theorem d_XO_sort_39 : decode prog_4_method_5_code 39 = .ok (.aload_n 0, 1) := by decide +kernel
theorem d_XO_sort_40 : decode prog_4_method_5_code 40 = .ok (.dup, 1) := by decide +kernel
theorem d_XO_sort_41 : decode prog_4_method_5_code 41 = .ok (.getfield 15, 3) := by decide +kernel
theorem d_XO_sort_44 : decode prog_4_method_5_code 44 = .ok (.iload_n 2, 1) := by decide +kernel
theorem d_XO_sort_45 : decode prog_4_method_5_code 45 = .ok (.invokestatic 37, 3) := by decide +kernel
theorem d_XO_sort_48 : decode prog_4_method_5_code 48 = .ok (.ior, 1) := by decide +kernel
theorem d_XO_sort_49 : decode prog_4_method_5_code 49 = .ok (.putfield 15, 3) := by decide +kernel
theorem d_XO_sort_52 : decode prog_4_method_5_code 52 = .ok (.goto 26, 3) := by decide +kernel
theorem d_XO_sort_55 : decode prog_4_method_5_code 55 = .ok (.aload_n 0, 1) := by decide +kernel
theorem d_XO_sort_56 : decode prog_4_method_5_code 56 = .ok (.iload_n 2, 1) := by decide +kernel
theorem d_XO_sort_57 : decode prog_4_method_5_code 57 = .ok (.invokevirtual 41, 3) := by decide +kernel
theorem d_XO_sort_60 : decode prog_4_method_5_code 60 = .ok (.aload_n 0, 1) := by decide +kernel
theorem d_XO_sort_61 : decode prog_4_method_5_code 61 = .ok (.iload_n 2, 1) := by decide +kernel
theorem d_XO_sort_62 : decode prog_4_method_5_code 62 = .ok (.invokevirtual 45, 3) := by decide +kernel
theorem d_XO_sort_65 : decode prog_4_method_5_code 65 = .ok (.aload_n 0, 1) := by decide +kernel
theorem d_XO_sort_66 : decode prog_4_method_5_code 66 = .ok (.dup, 1) := by decide +kernel
theorem d_XO_sort_67 : decode prog_4_method_5_code 67 = .ok (.getfield 9, 3) := by decide +kernel
theorem d_XO_sort_70 : decode prog_4_method_5_code 70 = .ok (.iload_n 2, 1) := by decide +kernel
theorem d_XO_sort_71 : decode prog_4_method_5_code 71 = .ok (.invokestatic 37, 3) := by decide +kernel
theorem d_XO_sort_74 : decode prog_4_method_5_code 74 = .ok (.ior, 1) := by decide +kernel
theorem d_XO_sort_75 : decode prog_4_method_5_code 75 = .ok (.putfield 9, 3) := by decide +kernel
theorem d_XO_sort_78 : decode prog_4_method_5_code 78 = .ok (.iinc 2 1, 3) := by decide +kernel
theorem d_XO_sort_81 : decode prog_4_method_5_code 81 = .ok (.goto (-64), 3) := by decide +kernel
theorem d_XO_sort_84 : decode prog_4_method_5_code 84 = .ok (.aload_n 0, 1) := by decide +kernel
theorem d_XO_sort_85 : decode prog_4_method_5_code 85 = .ok (.getfield 18, 3) := by decide +kernel
theorem d_XO_sort_88 : decode prog_4_method_5_code 88 = .ok (.ireturn, 1) := by decide +kernel
theorem d_XO_answer_0 : decode prog_4_method_6_code 0 = .ok (.aload_n 0, 1) := by decide +kernel
theorem d_XO_answer_1 : decode prog_4_method_6_code 1 = .ok (.getfield 21, 3) := by decide +kernel
theorem d_XO_answer_4 : decode prog_4_method_6_code 4 = .ok (.iload_n 1, 1) := by decide +kernel
theorem d_XO_answer_5 : decode prog_4_method_6_code 5 = .ok (.iload_n 2, 1) := by decide +kernel
theorem d_XO_answer_6 : decode prog_4_method_6_code 6 = .ok (.invokevirtual 48, 3) := by decide +kernel
theorem d_XO_answer_9 : decode prog_4_method_6_code 9 = .ok (.iconst 3, 1) := by decide +kernel
theorem d_XO_answer_10 : decode prog_4_method_6_code 10 = .ok (.if_icmp .ne 34, 3) := by decide +kernel
theorem d_XO_answer_13 : decode prog_4_method_6_code 13 = .ok (.aload_n 0, 1) := by decide +kernel
theorem d_XO_answer_14 : decode prog_4_method_6_code 14 = .ok (.dup, 1) := by decide +kernel
theorem d_XO_answer_15 : decode prog_4_method_6_code 15 = .ok (.getfield 18, 3) := by decide +kernel
theorem d_XO_answer_18 : decode prog_4_method_6_code 18 = .ok (.iconst 1, 1) := by decide +kernel
theorem d_XO_answer_19 : decode prog_4_method_6_code 19 = .ok (.iadd, 1) := by decide +kernel
theorem d_XO_answer_20 : decode prog_4_method_6_code 20 = .ok (.putfield 18, 3) := by decide +kernel
theorem d_XO_answer_23 : decode prog_4_method_6_code 23 = .ok (.aload_n 0, 1) := by decide +kernel
theorem d_XO_answer_24 : decode prog_4_method_6_code 24 = .ok (.getfield 21, 3) := by decide +kernel
theorem d_XO_answer_27 : decode prog_4_method_6_code 27 = .ok (.iload_n 1, 1) := by decide +kernel
theorem d_XO_answer_28 : decode prog_4_method_6_code 28 = .ok (.iload_n 2, 1) := by decide +kernel
theorem d_XO_answer_29 : decode prog_4_method_6_code 29 = .ok (.aload_n 0, 1) := by decide +kernel
theorem d_XO_answer_30 : decode prog_4_method_6_code 30 = .ok (.getfield 25, 3) := by decide +kernel
theorem d_XO_answer_33 : decode prog_4_method_6_code 33 = .ok (.iload_n 1, 1) := by decide +kernel
theorem d_XO_answer_34 : decode prog_4_method_6_code 34 = .ok (.invokestatic 37, 3) := by decide +kernel
theorem d_XO_answer_37 : decode prog_4_method_6_code 37 = .ok (.iload_n 2, 1) := by decide +kernel
theorem d_XO_answer_38 : decode prog_4_method_6_code 38 = .ok (.invokevirtual 53, 3) := by decide +kernel
theorem d_XO_answer_41 : decode prog_4_method_6_code 41 = .ok (.invokevirtual 58, 3) := by decide +kernel
theorem d_XO_answer_44 : decode prog_4_method_6_code 44 = .ok (.aload_n 0, 1) := by decide +kernel
theorem d_XO_answer_45 : decode prog_4_method_6_code 45 = .ok (.getfield 21, 3) := by decide +kernel
theorem d_XO_answer_48 : decode prog_4_method_6_code 48 = .ok (.iload_n 1, 1) := by decide +kernel
theorem d_XO_answer_49 : decode prog_4_method_6_code 49 = .ok (.iload_n 2, 1) := by decide +kernel
theorem d_XO_answer_50 : decode prog_4_method_6_code 50 = .ok (.invokevirtual 48, 3) := by decide +kernel
theorem d_XO_answer_53 : decode prog_4_method_6_code 53 = .ok (.ireturn, 1) := by decide +kernel
theorem d_XK_learn_0 : decode prog_3_method_10_code 0 = .ok (.iload_n 3, 1) := by decide +kernel
theorem d_XK_learn_1 : decode prog_3_method_10_code 1 = .ok (.iconst 1, 1) := by decide +kernel
theorem d_XK_learn_2 : decode prog_3_method_10_code 2 = .ok (.if_icmp .ne 12, 3) := by decide +kernel
theorem d_XK_learn_5 : decode prog_3_method_10_code 5 = .ok (.aload_n 0, 1) := by decide +kernel
theorem d_XK_learn_6 : decode prog_3_method_10_code 6 = .ok (.iload_n 1, 1) := by decide +kernel
theorem d_XK_learn_7 : decode prog_3_method_10_code 7 = .ok (.iload_n 2, 1) := by decide +kernel
theorem d_XK_learn_8 : decode prog_3_method_10_code 8 = .ok (.invokevirtual 28, 3) := by decide +kernel
theorem d_XK_learn_11 : decode prog_3_method_10_code 11 = .ok (.goto 36, 3) := by decide +kernel
theorem d_XK_learn_14 : decode prog_3_method_10_code 14 = .ok (.iload_n 3, 1) := by decide +kernel
theorem d_XK_learn_15 : decode prog_3_method_10_code 15 = .ok (.ifCond .ne 19, 3) := by decide +kernel
theorem d_XK_learn_18 : decode prog_3_method_10_code 18 = .ok (.aload_n 0, 1) := by decide +kernel
theorem d_XK_learn_19 : decode prog_3_method_10_code 19 = .ok (.getfield 18, 3) := by decide +kernel
theorem d_XK_learn_22 : decode prog_3_method_10_code 22 = .ok (.iload_n 1, 1) := by decide +kernel
theorem d_XK_learn_23 : decode prog_3_method_10_code 23 = .ok (.dup2, 1) := by decide +kernel
theorem d_XK_learn_24 : decode prog_3_method_10_code 24 = .ok (.iaload, 1) := by decide +kernel
theorem d_XK_learn_25 : decode prog_3_method_10_code 25 = .ok (.iload_n 2, 1) := by decide +kernel
theorem d_XK_learn_26 : decode prog_3_method_10_code 26 = .ok (.invokestatic 24, 3) := by decide +kernel
theorem d_XK_learn_29 : decode prog_3_method_10_code 29 = .ok (.ior, 1) := by decide +kernel
theorem d_XK_learn_30 : decode prog_3_method_10_code 30 = .ok (.iastore, 1) := by decide +kernel
theorem d_XK_learn_31 : decode prog_3_method_10_code 31 = .ok (.goto 16, 3) := by decide +kernel
theorem d_XK_learn_34 : decode prog_3_method_10_code 34 = .ok (.aload_n 0, 1) := by decide +kernel
theorem d_XK_learn_35 : decode prog_3_method_10_code 35 = .ok (.getfield 21, 3) := by decide +kernel
theorem d_XK_learn_38 : decode prog_3_method_10_code 38 = .ok (.iload_n 1, 1) := by decide +kernel
theorem d_XK_learn_39 : decode prog_3_method_10_code 39 = .ok (.dup2, 1) := by decide +kernel
theorem d_XK_learn_40 : decode prog_3_method_10_code 40 = .ok (.iaload, 1) := by decide +kernel
theorem d_XK_learn_41 : decode prog_3_method_10_code 41 = .ok (.iload_n 2, 1) := by decide +kernel
theorem d_XK_learn_42 : decode prog_3_method_10_code 42 = .ok (.invokestatic 24, 3) := by decide +kernel
theorem d_XK_learn_45 : decode prog_3_method_10_code 45 = .ok (.ior, 1) := by decide +kernel
theorem d_XK_learn_46 : decode prog_3_method_10_code 46 = .ok (.iastore, 1) := by decide +kernel
theorem d_XK_learn_47 : decode prog_3_method_10_code 47 = .ok (.aload_n 0, 1) := by decide +kernel
theorem d_XK_learn_48 : decode prog_3_method_10_code 48 = .ok (.invokevirtual 32, 3) := by decide +kernel
theorem d_XK_learn_51 : decode prog_3_method_10_code 51 = .ok (.return_, 1) := by decide +kernel
theorem d_XO_searchDown_0 : decode prog_4_method_7_code 0 = .ok (.aload_n 0, 1) := by decide +kernel
theorem d_XO_searchDown_1 : decode prog_4_method_7_code 1 = .ok (.getfield 9, 3) := by decide +kernel
theorem d_XO_searchDown_4 : decode prog_4_method_7_code 4 = .ok (.istore_n 2, 1) := by decide +kernel
theorem d_XO_searchDown_5 : decode prog_4_method_7_code 5 = .ok (.iconst 0, 1) := by decide +kernel
theorem d_XO_searchDown_6 : decode prog_4_method_7_code 6 = .ok (.istore_n 3, 1) := by decide +kernel
theorem d_XO_searchDown_7 : decode prog_4_method_7_code 7 = .ok (.iload_n 3, 1) := by decide +kernel
theorem d_XO_searchDown_8 : decode prog_4_method_7_code 8 = .ok (.bipush 20, 2) := by decide +kernel
theorem d_XO_searchDown_10 : decode prog_4_method_7_code 10 = .ok (.if_icmp .ge 43, 3) := by decide +kernel
theorem d_XO_searchDown_13 : decode prog_4_method_7_code 13 = .ok (.aload_n 0, 1) := by decide +kernel
theorem d_XO_searchDown_14 : decode prog_4_method_7_code 14 = .ok (.iload_n 1, 1) := by decide +kernel
theorem d_XO_searchDown_15 : decode prog_4_method_7_code 15 = .ok (.iload_n 2, 1) := by decide +kernel
theorem d_XO_searchDown_16 : decode prog_4_method_7_code 16 = .ok (.invokevirtual 62, 3) := by decide +kernel
theorem d_XO_searchDown_19 : decode prog_4_method_7_code 19 = .ok (.istore 4, 2) := by decide +kernel
theorem d_XO_searchDown_21 : decode prog_4_method_7_code 21 = .ok (.iload 4, 2) := by decide +kernel
theorem d_XO_searchDown_23 : decode prog_4_method_7_code 23 = .ok (.bipush (-6), 2) := by decide +kernel
theorem d_XO_searchDown_25 : decode prog_4_method_7_code 25 = .ok (.if_icmp .ne 4, 3) := by decide +kernel
theorem d_XO_searchDown_28 : decode prog_4_method_7_code 28 = .ok (.return_, 1) := by decide +kernel
theorem d_XO_searchDown_29 : decode prog_4_method_7_code 29 = .ok (.iload_n 2, 1) := by decide +kernel
theorem d_XO_searchDown_30 : decode prog_4_method_7_code 30 = .ok (.iload 4, 2) := by decide +kernel
theorem d_XO_searchDown_32 : decode prog_4_method_7_code 32 = .ok (.invokestatic 37, 3) := by decide +kernel
theorem d_XO_searchDown_35 : decode prog_4_method_7_code 35 = .ok (.iconst (-1), 1) := by decide +kernel
theorem d_XO_searchDown_36 : decode prog_4_method_7_code 36 = .ok (.ixor, 1) := by decide +kernel
theorem d_XO_searchDown_37 : decode prog_4_method_7_code 37 = .ok (.iand, 1) := by decide +kernel
theorem d_XO_searchDown_38 : decode prog_4_method_7_code 38 = .ok (.istore_n 2, 1) := by decide +kernel
theorem d_XO_searchDown_39 : decode prog_4_method_7_code 39 = .ok (.aload_n 0, 1) := by decide +kernel
theorem d_XO_searchDown_40 : decode prog_4_method_7_code 40 = .ok (.iload_n 1, 1) := by decide +kernel
theorem d_XO_searchDown_41 : decode prog_4_method_7_code 41 = .ok (.iload 4, 2) := by decide +kernel
theorem d_XO_searchDown_43 : decode prog_4_method_7_code 43 = .ok (.invokevirtual 33, 3) := by decide +kernel
theorem d_XO_searchDown_46 : decode prog_4_method_7_code 46 = .ok (.pop, 1) := by decide +kernel
theorem d_XO_searchDown_47 : decode prog_4_method_7_code 47 = .ok (.iinc 3 1, 3) := by decide +kernel
theorem d_XO_searchDown_50 : decode prog_4_method_7_code 50 = .ok (.goto (-43), 3) := by decide +kernel
theorem d_XO_searchDown_53 : decode prog_4_method_7_code 53 = .ok (.return_, 1) := by decide +kernel
theorem d_XO_nextDown_0 : decode prog_4_method_9_code 0 = .ok (.aload_n 0, 1) := by decide +kernel
theorem d_XO_nextDown_1 : decode prog_4_method_9_code 1 = .ok (.getfield 21, 3) := by decide +kernel
theorem d_XO_nextDown_4 : decode prog_4_method_9_code 4 = .ok (.iload_n 1, 1) := by decide +kernel
theorem d_XO_nextDown_5 : decode prog_4_method_9_code 5 = .ok (.invokevirtual 68, 3) := by decide +kernel
theorem d_XO_nextDown_8 : decode prog_4_method_9_code 8 = .ok (.istore_n 3, 1) := by decide +kernel
theorem d_XO_nextDown_9 : decode prog_4_method_9_code 9 = .ok (.iconst 0, 1) := by decide +kernel
theorem d_XO_nextDown_10 : decode prog_4_method_9_code 10 = .ok (.istore 4, 2) := by decide +kernel
theorem d_XO_nextDown_12 : decode prog_4_method_9_code 12 = .ok (.iload 4, 2) := by decide +kernel
theorem d_XO_nextDown_14 : decode prog_4_method_9_code 14 = .ok (.bipush 20, 2) := by decide +kernel
theorem d_XO_nextDown_16 : decode prog_4_method_9_code 16 = .ok (.if_icmp .ge 42, 3) := by decide +kernel
theorem d_XO_nextDown_19 : decode prog_4_method_9_code 19 = .ok (.iload_n 2, 1) := by decide +kernel
theorem d_XO_nextDown_20 : decode prog_4_method_9_code 20 = .ok (.iload 4, 2) := by decide +kernel
theorem d_XO_nextDown_22 : decode prog_4_method_9_code 22 = .ok (.invokestatic 29, 3) := by decide +kernel
theorem d_XO_nextDown_25 : decode prog_4_method_9_code 25 = .ok (.ifCond .eq 27, 3) := by decide +kernel
theorem d_XO_nextDown_28 : decode prog_4_method_9_code 28 = .ok (.aload_n 0, 1) := by decide +kernel
theorem d_XO_nextDown_29 : decode prog_4_method_9_code 29 = .ok (.getfield 21, 3) := by decide +kernel
theorem d_XO_nextDown_32 : decode prog_4_method_9_code 32 = .ok (.iload 4, 2) := by decide +kernel
theorem d_XO_nextDown_34 : decode prog_4_method_9_code 34 = .ok (.invokevirtual 71, 3) := by decide +kernel
theorem d_XO_nextDown_37 : decode prog_4_method_9_code 37 = .ok (.aload_n 0, 1) := by decide +kernel
theorem d_XO_nextDown_38 : decode prog_4_method_9_code 38 = .ok (.getfield 9, 3) := by decide +kernel
theorem d_XO_nextDown_41 : decode prog_4_method_9_code 41 = .ok (.iand, 1) := by decide +kernel
theorem d_XO_nextDown_42 : decode prog_4_method_9_code 42 = .ok (.iload_n 3, 1) := by decide +kernel
theorem d_XO_nextDown_43 : decode prog_4_method_9_code 43 = .ok (.iconst (-1), 1) := by decide +kernel
theorem d_XO_nextDown_44 : decode prog_4_method_9_code 44 = .ok (.ixor, 1) := by decide +kernel
theorem d_XO_nextDown_45 : decode prog_4_method_9_code 45 = .ok (.iand, 1) := by decide +kernel
theorem d_XO_nextDown_46 : decode prog_4_method_9_code 46 = .ok (.ifCond .ne 6, 3) := by decide +kernel
theorem d_XO_nextDown_49 : decode prog_4_method_9_code 49 = .ok (.iload 4, 2) := by decide +kernel
theorem d_XO_nextDown_51 : decode prog_4_method_9_code 51 = .ok (.ireturn, 1) := by decide +kernel
theorem d_XO_nextDown_52 : decode prog_4_method_9_code 52 = .ok (.iinc 4 1, 3) := by decide +kernel
theorem d_XO_nextDown_55 : decode prog_4_method_9_code 55 = .ok (.goto (-43), 3) := by decide +kernel
theorem d_XO_nextDown_58 : decode prog_4_method_9_code 58 = .ok (.bipush (-6), 2) := by decide +kernel
theorem d_XO_nextDown_60 : decode prog_4_method_9_code 60 = .ok (.ireturn, 1) := by decide +kernel
theorem d_XK_allAbove_0 : decode prog_3_method_4_code 0 = .ok (.aload_n 0, 1) := by decide +kernel
theorem d_XK_allAbove_1 : decode prog_3_method_4_code 1 = .ok (.getfield 9, 3) := by decide +kernel
theorem d_XK_allAbove_4 : decode prog_3_method_4_code 4 = .ok (.iload_n 1, 1) := by decide +kernel
theorem d_XK_allAbove_5 : decode prog_3_method_4_code 5 = .ok (.iaload, 1) := by decide +kernel
theorem d_XK_allAbove_6 : decode prog_3_method_4_code 6 = .ok (.ireturn, 1) := by decide +kernel
theorem d_XK_strictlyAbove_0 : decode prog_3_method_6_code 0 = .ok (.aload_n 0, 1) := by decide +kernel
theorem d_XK_strictlyAbove_1 : decode prog_3_method_6_code 1 = .ok (.getfield 9, 3) := by decide +kernel
theorem d_XK_strictlyAbove_4 : decode prog_3_method_6_code 4 = .ok (.iload_n 1, 1) := by decide +kernel
theorem d_XK_strictlyAbove_5 : decode prog_3_method_6_code 5 = .ok (.iaload, 1) := by decide +kernel
theorem d_XK_strictlyAbove_6 : decode prog_3_method_6_code 6 = .ok (.aload_n 0, 1) := by decide +kernel
theorem d_XK_strictlyAbove_7 : decode prog_3_method_6_code 7 = .ok (.getfield 15, 3) := by decide +kernel
theorem d_XK_strictlyAbove_10 : decode prog_3_method_6_code 10 = .ok (.iload_n 1, 1) := by decide +kernel
theorem d_XK_strictlyAbove_11 : decode prog_3_method_6_code 11 = .ok (.iaload, 1) := by decide +kernel
theorem d_XK_strictlyAbove_12 : decode prog_3_method_6_code 12 = .ok (.iconst (-1), 1) := by decide +kernel
theorem d_XK_strictlyAbove_13 : decode prog_3_method_6_code 13 = .ok (.ixor, 1) := by decide +kernel
theorem d_XK_strictlyAbove_14 : decode prog_3_method_6_code 14 = .ok (.iand, 1) := by decide +kernel
theorem d_XK_strictlyAbove_15 : decode prog_3_method_6_code 15 = .ok (.ireturn, 1) := by decide +kernel
theorem d_XO_searchUp_0 : decode prog_4_method_8_code 0 = .ok (.aload_n 0, 1) := by decide +kernel
theorem d_XO_searchUp_1 : decode prog_4_method_8_code 1 = .ok (.getfield 9, 3) := by decide +kernel
theorem d_XO_searchUp_4 : decode prog_4_method_8_code 4 = .ok (.istore_n 2, 1) := by decide +kernel
theorem d_XO_searchUp_5 : decode prog_4_method_8_code 5 = .ok (.iconst 0, 1) := by decide +kernel
theorem d_XO_searchUp_6 : decode prog_4_method_8_code 6 = .ok (.istore_n 3, 1) := by decide +kernel
theorem d_XO_searchUp_7 : decode prog_4_method_8_code 7 = .ok (.iload_n 3, 1) := by decide +kernel
theorem d_XO_searchUp_8 : decode prog_4_method_8_code 8 = .ok (.bipush 20, 2) := by decide +kernel
theorem d_XO_searchUp_10 : decode prog_4_method_8_code 10 = .ok (.if_icmp .ge 43, 3) := by decide +kernel
theorem d_XO_searchUp_13 : decode prog_4_method_8_code 13 = .ok (.aload_n 0, 1) := by decide +kernel
theorem d_XO_searchUp_14 : decode prog_4_method_8_code 14 = .ok (.iload_n 1, 1) := by decide +kernel
theorem d_XO_searchUp_15 : decode prog_4_method_8_code 15 = .ok (.iload_n 2, 1) := by decide +kernel
theorem d_XO_searchUp_16 : decode prog_4_method_8_code 16 = .ok (.invokevirtual 65, 3) := by decide +kernel
theorem d_XO_searchUp_19 : decode prog_4_method_8_code 19 = .ok (.istore 4, 2) := by decide +kernel
theorem d_XO_searchUp_21 : decode prog_4_method_8_code 21 = .ok (.iload 4, 2) := by decide +kernel
theorem d_XO_searchUp_23 : decode prog_4_method_8_code 23 = .ok (.bipush (-6), 2) := by decide +kernel
theorem d_XO_searchUp_25 : decode prog_4_method_8_code 25 = .ok (.if_icmp .ne 4, 3) := by decide +kernel
theorem d_XO_searchUp_28 : decode prog_4_method_8_code 28 = .ok (.return_, 1) := by decide +kernel
theorem d_XO_searchUp_29 : decode prog_4_method_8_code 29 = .ok (.iload_n 2, 1) := by decide +kernel
theorem d_XO_searchUp_30 : decode prog_4_method_8_code 30 = .ok (.iload 4, 2) := by decide +kernel
theorem d_XO_searchUp_32 : decode prog_4_method_8_code 32 = .ok (.invokestatic 37, 3) := by decide +kernel
theorem d_XO_searchUp_35 : decode prog_4_method_8_code 35 = .ok (.iconst (-1), 1) := by decide +kernel
theorem d_XO_searchUp_36 : decode prog_4_method_8_code 36 = .ok (.ixor, 1) := by decide +kernel
theorem d_XO_searchUp_37 : decode prog_4_method_8_code 37 = .ok (.iand, 1) := by decide +kernel
theorem d_XO_searchUp_38 : decode prog_4_method_8_code 38 = .ok (.istore_n 2, 1) := by decide +kernel
theorem d_XO_searchUp_39 : decode prog_4_method_8_code 39 = .ok (.aload_n 0, 1) := by decide +kernel
theorem d_XO_searchUp_40 : decode prog_4_method_8_code 40 = .ok (.iload 4, 2) := by decide +kernel
theorem d_XO_searchUp_42 : decode prog_4_method_8_code 42 = .ok (.iload_n 1, 1) := by decide +kernel
theorem d_XO_searchUp_43 : decode prog_4_method_8_code 43 = .ok (.invokevirtual 33, 3) := by decide +kernel
theorem d_XO_searchUp_46 : decode prog_4_method_8_code 46 = .ok (.pop, 1) := by decide +kernel
theorem d_XO_searchUp_47 : decode prog_4_method_8_code 47 = .ok (.iinc 3 1, 3) := by decide +kernel
theorem d_XO_searchUp_50 : decode prog_4_method_8_code 50 = .ok (.goto (-43), 3) := by decide +kernel
theorem d_XO_searchUp_53 : decode prog_4_method_8_code 53 = .ok (.return_, 1) := by decide +kernel
theorem d_XO_nextUp_0 : decode prog_4_method_10_code 0 = .ok (.aload_n 0, 1) := by decide +kernel
theorem d_XO_nextUp_1 : decode prog_4_method_10_code 1 = .ok (.getfield 21, 3) := by decide +kernel
theorem d_XO_nextUp_4 : decode prog_4_method_10_code 4 = .ok (.iload_n 1, 1) := by decide +kernel
theorem d_XO_nextUp_5 : decode prog_4_method_10_code 5 = .ok (.invokevirtual 68, 3) := by decide +kernel
theorem d_XO_nextUp_8 : decode prog_4_method_10_code 8 = .ok (.aload_n 0, 1) := by decide +kernel
theorem d_XO_nextUp_9 : decode prog_4_method_10_code 9 = .ok (.getfield 9, 3) := by decide +kernel
theorem d_XO_nextUp_12 : decode prog_4_method_10_code 12 = .ok (.iand, 1) := by decide +kernel
theorem d_XO_nextUp_13 : decode prog_4_method_10_code 13 = .ok (.istore_n 3, 1) := by decide +kernel
theorem d_XO_nextUp_14 : decode prog_4_method_10_code 14 = .ok (.aload_n 0, 1) := by decide +kernel
theorem d_XO_nextUp_15 : decode prog_4_method_10_code 15 = .ok (.getfield 21, 3) := by decide +kernel
theorem d_XO_nextUp_18 : decode prog_4_method_10_code 18 = .ok (.iload_n 1, 1) := by decide +kernel
theorem d_XO_nextUp_19 : decode prog_4_method_10_code 19 = .ok (.invokevirtual 74, 3) := by decide +kernel
theorem d_XO_nextUp_22 : decode prog_4_method_10_code 22 = .ok (.istore 4, 2) := by decide +kernel
theorem d_XO_nextUp_24 : decode prog_4_method_10_code 24 = .ok (.iconst 0, 1) := by decide +kernel
theorem d_XO_nextUp_25 : decode prog_4_method_10_code 25 = .ok (.istore 5, 2) := by decide +kernel
theorem d_XO_nextUp_27 : decode prog_4_method_10_code 27 = .ok (.iload 5, 2) := by decide +kernel
theorem d_XO_nextUp_29 : decode prog_4_method_10_code 29 = .ok (.bipush 20, 2) := by decide +kernel
theorem d_XO_nextUp_31 : decode prog_4_method_10_code 31 = .ok (.if_icmp .ge 59, 3) := by decide +kernel
theorem d_XO_nextUp_34 : decode prog_4_method_10_code 34 = .ok (.iload_n 2, 1) := by decide +kernel
theorem d_XO_nextUp_35 : decode prog_4_method_10_code 35 = .ok (.iload 5, 2) := by decide +kernel
theorem d_XO_nextUp_37 : decode prog_4_method_10_code 37 = .ok (.invokestatic 29, 3) := by decide +kernel
theorem d_XO_nextUp_40 : decode prog_4_method_10_code 40 = .ok (.ifCond .eq 44, 3) := by decide +kernel
theorem d_XO_nextUp_43 : decode prog_4_method_10_code 43 = .ok (.iload_n 3, 1) := by decide +kernel
theorem d_XO_nextUp_44 : decode prog_4_method_10_code 44 = .ok (.aload_n 0, 1) := by decide +kernel
theorem d_XO_nextUp_45 : decode prog_4_method_10_code 45 = .ok (.getfield 21, 3) := by decide +kernel
theorem d_XO_nextUp_48 : decode prog_4_method_10_code 48 = .ok (.iload 5, 2) := by decide +kernel
theorem d_XO_nextUp_50 : decode prog_4_method_10_code 50 = .ok (.invokevirtual 68, 3) := by decide +kernel
theorem d_XO_nextUp_53 : decode prog_4_method_10_code 53 = .ok (.iconst (-1), 1) := by decide +kernel
theorem d_XO_nextUp_54 : decode prog_4_method_10_code 54 = .ok (.ixor, 1) := by decide +kernel
theorem d_XO_nextUp_55 : decode prog_4_method_10_code 55 = .ok (.iand, 1) := by decide +kernel
theorem d_XO_nextUp_56 : decode prog_4_method_10_code 56 = .ok (.ifCond .ne 28, 3) := by decide +kernel
theorem d_XO_nextUp_59 : decode prog_4_method_10_code 59 = .ok (.aload_n 0, 1) := by decide +kernel
theorem d_XO_nextUp_60 : decode prog_4_method_10_code 60 = .ok (.getfield 21, 3) := by decide +kernel
theorem d_XO_nextUp_63 : decode prog_4_method_10_code 63 = .ok (.iload 5, 2) := by decide +kernel
theorem d_XO_nextUp_65 : decode prog_4_method_10_code 65 = .ok (.invokevirtual 77, 3) := by decide +kernel
theorem d_XO_nextUp_68 : decode prog_4_method_10_code 68 = .ok (.aload_n 0, 1) := by decide +kernel
theorem d_XO_nextUp_69 : decode prog_4_method_10_code 69 = .ok (.getfield 9, 3) := by decide +kernel
theorem d_XO_nextUp_72 : decode prog_4_method_10_code 72 = .ok (.iand, 1) := by decide +kernel
theorem d_XO_nextUp_73 : decode prog_4_method_10_code 73 = .ok (.iload 4, 2) := by decide +kernel
theorem d_XO_nextUp_75 : decode prog_4_method_10_code 75 = .ok (.iconst (-1), 1) := by decide +kernel
theorem d_XO_nextUp_76 : decode prog_4_method_10_code 76 = .ok (.ixor, 1) := by decide +kernel
theorem d_XO_nextUp_77 : decode prog_4_method_10_code 77 = .ok (.iand, 1) := by decide +kernel
theorem d_XO_nextUp_78 : decode prog_4_method_10_code 78 = .ok (.ifCond .ne 6, 3) := by decide +kernel
theorem d_XO_nextUp_81 : decode prog_4_method_10_code 81 = .ok (.iload 5, 2) := by decide +kernel
theorem d_XO_nextUp_83 : decode prog_4_method_10_code 83 = .ok (.ireturn, 1) := by decide +kernel
theorem d_XO_nextUp_84 : decode prog_4_method_10_code 84 = .ok (.iinc 5 1, 3) := by decide +kernel
theorem d_XO_nextUp_87 : decode prog_4_method_10_code 87 = .ok (.goto (-60), 3) := by decide +kernel
theorem d_XO_nextUp_90 : decode prog_4_method_10_code 90 = .ok (.bipush (-6), 2) := by decide +kernel
theorem d_XO_nextUp_92 : decode prog_4_method_10_code 92 = .ok (.ireturn, 1) := by decide +kernel
theorem d_XK_allBelow_0 : decode prog_3_method_5_code 0 = .ok (.aload_n 0, 1) := by decide +kernel
theorem d_XK_allBelow_1 : decode prog_3_method_5_code 1 = .ok (.getfield 15, 3) := by decide +kernel
theorem d_XK_allBelow_4 : decode prog_3_method_5_code 4 = .ok (.iload_n 1, 1) := by decide +kernel
theorem d_XK_allBelow_5 : decode prog_3_method_5_code 5 = .ok (.iaload, 1) := by decide +kernel
theorem d_XK_allBelow_6 : decode prog_3_method_5_code 6 = .ok (.ireturn, 1) := by decide +kernel
theorem d_XK_strictlyBelow_0 : decode prog_3_method_7_code 0 = .ok (.aload_n 0, 1) := by decide +kernel
theorem d_XK_strictlyBelow_1 : decode prog_3_method_7_code 1 = .ok (.getfield 15, 3) := by decide +kernel
theorem d_XK_strictlyBelow_4 : decode prog_3_method_7_code 4 = .ok (.iload_n 1, 1) := by decide +kernel
theorem d_XK_strictlyBelow_5 : decode prog_3_method_7_code 5 = .ok (.iaload, 1) := by decide +kernel
theorem d_XK_strictlyBelow_6 : decode prog_3_method_7_code 6 = .ok (.aload_n 0, 1) := by decide +kernel
theorem d_XK_strictlyBelow_7 : decode prog_3_method_7_code 7 = .ok (.getfield 9, 3) := by decide +kernel
theorem d_XK_strictlyBelow_10 : decode prog_3_method_7_code 10 = .ok (.iload_n 1, 1) := by decide +kernel
theorem d_XK_strictlyBelow_11 : decode prog_3_method_7_code 11 = .ok (.iaload, 1) := by decide +kernel
theorem d_XK_strictlyBelow_12 : decode prog_3_method_7_code 12 = .ok (.iconst (-1), 1) := by decide +kernel
theorem d_XK_strictlyBelow_13 : decode prog_3_method_7_code 13 = .ok (.ixor, 1) := by decide +kernel
theorem d_XK_strictlyBelow_14 : decode prog_3_method_7_code 14 = .ok (.iand, 1) := by decide +kernel
theorem d_XK_strictlyBelow_15 : decode prog_3_method_7_code 15 = .ok (.ireturn, 1) := by decide +kernel
theorem d_X_parent_0 : decode prog_1_method_10_code 0 = .ok (.aload_n 0, 1) := by decide +kernel
theorem d_X_parent_1 : decode prog_1_method_10_code 1 = .ok (.iload_n 1, 1) := by decide +kernel
theorem d_X_parent_2 : decode prog_1_method_10_code 2 = .ok (.invokevirtual 63, 3) := by decide +kernel
theorem d_X_parent_5 : decode prog_1_method_10_code 5 = .ok (.ifCond .ne 5, 3) := by decide +kernel
theorem d_X_parent_8 : decode prog_1_method_10_code 8 = .ok (.iconst (-1), 1) := by decide +kernel
theorem d_X_parent_9 : decode prog_1_method_10_code 9 = .ok (.ireturn, 1) := by decide +kernel
theorem d_X_parent_10 : decode prog_1_method_10_code 10 = .ok (.aload_n 0, 1) := by decide +kernel
theorem d_X_parent_11 : decode prog_1_method_10_code 11 = .ok (.getfield 55, 3) := by decide +kernel
theorem d_X_parent_14 : decode prog_1_method_10_code 14 = .ok (.ifCond .ne 6, 3) := by decide +kernel
theorem d_X_parent_17 : decode prog_1_method_10_code 17 = .ok (.bipush (-3), 2) := by decide +kernel
theorem d_X_parent_19 : decode prog_1_method_10_code 19 = .ok (.ireturn, 1) := by decide +kernel
theorem d_X_parent_20 : decode prog_1_method_10_code 20 = .ok (.aload_n 0, 1) := by decide +kernel
theorem d_X_parent_21 : decode prog_1_method_10_code 21 = .ok (.getfield 37, 3) := by decide +kernel
theorem d_X_parent_24 : decode prog_1_method_10_code 24 = .ok (.iload_n 1, 1) := by decide +kernel
theorem d_X_parent_25 : decode prog_1_method_10_code 25 = .ok (.invokevirtual 124, 3) := by decide +kernel
theorem d_X_parent_28 : decode prog_1_method_10_code 28 = .ok (.ifCond .eq 13, 3) := by decide +kernel
theorem d_X_parent_31 : decode prog_1_method_10_code 31 = .ok (.aload_n 0, 1) := by decide +kernel
theorem d_X_parent_32 : decode prog_1_method_10_code 32 = .ok (.getfield 37, 3) := by decide +kernel
theorem d_X_parent_35 : decode prog_1_method_10_code 35 = .ok (.invokevirtual 127, 3) := by decide +kernel
theorem d_X_parent_38 : decode prog_1_method_10_code 38 = .ok (.goto 11, 3) := by decide +kernel
theorem d_X_parent_41 : decode prog_1_method_10_code 41 = .ok (.aload_n 0, 1) := by decide +kernel
theorem d_X_parent_42 : decode prog_1_method_10_code 42 = .ok (.getfield 37, 3) := by decide +kernel
theorem d_X_parent_45 : decode prog_1_method_10_code 45 = .ok (.iload_n 1, 1) := by decide +kernel
theorem d_X_parent_46 : decode prog_1_method_10_code 46 = .ok (.invokevirtual 131, 3) := by decide +kernel
theorem d_X_parent_49 : decode prog_1_method_10_code 49 = .ok (.istore_n 3, 1) := by decide +kernel
theorem d_X_parent_50 : decode prog_1_method_10_code 50 = .ok (.aload_n 0, 1) := by decide +kernel
theorem d_X_parent_51 : decode prog_1_method_10_code 51 = .ok (.getfield 37, 3) := by decide +kernel
theorem d_X_parent_54 : decode prog_1_method_10_code 54 = .ok (.iload_n 3, 1) := by decide +kernel
theorem d_X_parent_55 : decode prog_1_method_10_code 55 = .ok (.invokevirtual 134, 3) := by decide +kernel
theorem d_X_parent_58 : decode prog_1_method_10_code 58 = .ok (.iload_n 2, 1) := by decide +kernel
theorem d_X_parent_59 : decode prog_1_method_10_code 59 = .ok (.invokestatic 137, 3) := by decide +kernel
theorem d_X_parent_62 : decode prog_1_method_10_code 62 = .ok (.ireturn, 1) := by decide +kernel
theorem d_XO_isEmptyClass_0 : decode prog_4_method_4_code 0 = .ok (.aload_n 0, 1) := by decide +kernel
theorem d_XO_isEmptyClass_1 : decode prog_4_method_4_code 1 = .ok (.getfield 15, 3) := by decide +kernel
theorem d_XO_isEmptyClass_4 : decode prog_4_method_4_code 4 = .ok (.iload_n 1, 1) := by decide +kernel
theorem d_XO_isEmptyClass_5 : decode prog_4_method_4_code 5 = .ok (.invokestatic 29, 3) := by decide +kernel
theorem d_XO_isEmptyClass_8 : decode prog_4_method_4_code 8 = .ok (.ireturn, 1) := by decide +kernel
theorem d_XO_firstOfSame_0 : decode prog_4_method_15_code 0 = .ok (.iconst 0, 1) := by decide +kernel
theorem d_XO_firstOfSame_1 : decode prog_4_method_15_code 1 = .ok (.istore_n 2, 1) := by decide +kernel
theorem d_XO_firstOfSame_2 : decode prog_4_method_15_code 2 = .ok (.iconst 0, 1) := by decide +kernel
theorem d_XO_firstOfSame_3 : decode prog_4_method_15_code 3 = .ok (.istore_n 3, 1) := by decide +kernel
theorem d_XO_firstOfSame_4 : decode prog_4_method_15_code 4 = .ok (.iload_n 3, 1) := by decide +kernel
theorem d_XO_firstOfSame_5 : decode prog_4_method_15_code 5 = .ok (.bipush 20, 2) := by decide +kernel
theorem d_XO_firstOfSame_7 : decode prog_4_method_15_code 7 = .ok (.if_icmp .ge 47, 3) := by decide +kernel
theorem d_XO_firstOfSame_10 : decode prog_4_method_15_code 10 = .ok (.iload_n 1, 1) := by decide +kernel
theorem d_XO_firstOfSame_11 : decode prog_4_method_15_code 11 = .ok (.iload_n 3, 1) := by decide +kernel
theorem d_XO_firstOfSame_12 : decode prog_4_method_15_code 12 = .ok (.invokestatic 29, 3) := by decide +kernel
theorem d_XO_firstOfSame_15 : decode prog_4_method_15_code 15 = .ok (.ifCond .eq 33, 3) := by decide +kernel
theorem d_XO_firstOfSame_18 : decode prog_4_method_15_code 18 = .ok (.aload_n 0, 1) := by decide +kernel
theorem d_XO_firstOfSame_19 : decode prog_4_method_15_code 19 = .ok (.getfield 21, 3) := by decide +kernel
theorem d_XO_firstOfSame_22 : decode prog_4_method_15_code 22 = .ok (.iload_n 3, 1) := by decide +kernel
theorem d_XO_firstOfSame_23 : decode prog_4_method_15_code 23 = .ok (.invokevirtual 86, 3) := by decide +kernel
theorem d_XO_firstOfSame_26 : decode prog_4_method_15_code 26 = .ok (.aload_n 0, 1) := by decide +kernel
theorem d_XO_firstOfSame_27 : decode prog_4_method_15_code 27 = .ok (.getfield 9, 3) := by decide +kernel
theorem d_XO_firstOfSame_30 : decode prog_4_method_15_code 30 = .ok (.iand, 1) := by decide +kernel
theorem d_XO_firstOfSame_31 : decode prog_4_method_15_code 31 = .ok (.iload_n 3, 1) := by decide +kernel
theorem d_XO_firstOfSame_32 : decode prog_4_method_15_code 32 = .ok (.invokestatic 37, 3) := by decide +kernel
theorem d_XO_firstOfSame_35 : decode prog_4_method_15_code 35 = .ok (.iconst 1, 1) := by decide +kernel
theorem d_XO_firstOfSame_36 : decode prog_4_method_15_code 36 = .ok (.isub, 1) := by decide +kernel
theorem d_XO_firstOfSame_37 : decode prog_4_method_15_code 37 = .ok (.iand, 1) := by decide +kernel
theorem d_XO_firstOfSame_38 : decode prog_4_method_15_code 38 = .ok (.ifCond .ne 10, 3) := by decide +kernel
theorem d_XO_firstOfSame_41 : decode prog_4_method_15_code 41 = .ok (.iload_n 2, 1) := by decide +kernel
theorem d_XO_firstOfSame_42 : decode prog_4_method_15_code 42 = .ok (.iload_n 3, 1) := by decide +kernel
theorem d_XO_firstOfSame_43 : decode prog_4_method_15_code 43 = .ok (.invokestatic 37, 3) := by decide +kernel
theorem d_XO_firstOfSame_46 : decode prog_4_method_15_code 46 = .ok (.ior, 1) := by decide +kernel
theorem d_XO_firstOfSame_47 : decode prog_4_method_15_code 47 = .ok (.istore_n 2, 1) := by decide +kernel
theorem d_XO_firstOfSame_48 : decode prog_4_method_15_code 48 = .ok (.iinc 3 1, 3) := by decide +kernel
theorem d_XO_firstOfSame_51 : decode prog_4_method_15_code 51 = .ok (.goto (-47), 3) := by decide +kernel
theorem d_XO_firstOfSame_54 : decode prog_4_method_15_code 54 = .ok (.iload_n 2, 1) := by decide +kernel
theorem d_XO_firstOfSame_55 : decode prog_4_method_15_code 55 = .ok (.ireturn, 1) := by decide +kernel
theorem d_XK_sameAs_0 : decode prog_3_method_8_code 0 = .ok (.aload_n 0, 1) := by decide +kernel
theorem d_XK_sameAs_1 : decode prog_3_method_8_code 1 = .ok (.getfield 9, 3) := by decide +kernel
theorem d_XK_sameAs_4 : decode prog_3_method_8_code 4 = .ok (.iload_n 1, 1) := by decide +kernel
theorem d_XK_sameAs_5 : decode prog_3_method_8_code 5 = .ok (.iaload, 1) := by decide +kernel
theorem d_XK_sameAs_6 : decode prog_3_method_8_code 6 = .ok (.aload_n 0, 1) := by decide +kernel
theorem d_XK_sameAs_7 : decode prog_3_method_8_code 7 = .ok (.getfield 15, 3) := by decide +kernel
theorem d_XK_sameAs_10 : decode prog_3_method_8_code 10 = .ok (.iload_n 1, 1) := by decide +kernel
theorem d_XK_sameAs_11 : decode prog_3_method_8_code 11 = .ok (.iaload, 1) := by decide +kernel
theorem d_XK_sameAs_12 : decode prog_3_method_8_code 12 = .ok (.iand, 1) := by decide +kernel
theorem d_XK_sameAs_13 : decode prog_3_method_8_code 13 = .ok (.ireturn, 1) := by decide +kernel
theorem d_X_pick_0 : decode prog_1_method_26_code 0 = .ok (.iload_n 1, 1) := by decide +kernel
theorem d_X_pick_1 : decode prog_1_method_26_code 1 = .ok (.istore_n 2, 1) := by decide +kernel
theorem d_X_pick_2 : decode prog_1_method_26_code 2 = .ok (.iconst 0, 1) := by decide +kernel
theorem d_X_pick_3 : decode prog_1_method_26_code 3 = .ok (.istore_n 3, 1) := by decide +kernel
theorem d_X_pick_4 : decode prog_1_method_26_code 4 = .ok (.iload_n 3, 1) := by decide +kernel
theorem d_X_pick_5 : decode prog_1_method_26_code 5 = .ok (.bipush 21, 2) := by decide +kernel
theorem d_X_pick_7 : decode prog_1_method_26_code 7 = .ok (.if_icmp .ge 26, 3) := by decide +kernel
theorem d_X_pick_10 : decode prog_1_method_26_code 10 = .ok (.iload_n 0, 1) := by decide +kernel
theorem d_X_pick_11 : decode prog_1_method_26_code 11 = .ok (.iload_n 3, 1) := by decide +kernel
theorem d_X_pick_12 : decode prog_1_method_26_code 12 = .ok (.invokestatic 160, 3) := by decide +kernel
theorem d_X_pick_15 : decode prog_1_method_26_code 15 = .ok (.ifCond .eq 12, 3) := by decide +kernel
theorem d_X_pick_18 : decode prog_1_method_26_code 18 = .ok (.iload_n 2, 1) := by decide +kernel
theorem d_X_pick_19 : decode prog_1_method_26_code 19 = .ok (.ifCond .ne 5, 3) := by decide +kernel
theorem d_X_pick_22 : decode prog_1_method_26_code 22 = .ok (.iload_n 3, 1) := by decide +kernel
theorem d_X_pick_23 : decode prog_1_method_26_code 23 = .ok (.ireturn, 1) := by decide +kernel
theorem d_X_pick_24 : decode prog_1_method_26_code 24 = .ok (.iinc 2 (-1), 3) := by decide +kernel
theorem d_X_pick_27 : decode prog_1_method_26_code 27 = .ok (.iinc 3 1, 3) := by decide +kernel
theorem d_X_pick_30 : decode prog_1_method_26_code 30 = .ok (.goto (-26), 3) := by decide +kernel
theorem d_X_pick_33 : decode prog_1_method_26_code 33 = .ok (.bipush (-6), 2) := by decide +kernel
theorem d_X_pick_35 : decode prog_1_method_26_code 35 = .ok (.ireturn, 1) := by decide +kernel
theorem d_XO_directlyAbove_0 : decode prog_4_method_11_code 0 = .ok (.aload_n 0, 1) := by decide +kernel
theorem d_XO_directlyAbove_1 : decode prog_4_method_11_code 1 = .ok (.getfield 21, 3) := by decide +kernel
theorem d_XO_directlyAbove_4 : decode prog_4_method_11_code 4 = .ok (.iload_n 1, 1) := by decide +kernel
theorem d_XO_directlyAbove_5 : decode prog_4_method_11_code 5 = .ok (.invokevirtual 71, 3) := by decide +kernel
theorem d_XO_directlyAbove_8 : decode prog_4_method_11_code 8 = .ok (.aload_n 0, 1) := by decide +kernel
theorem d_XO_directlyAbove_9 : decode prog_4_method_11_code 9 = .ok (.getfield 9, 3) := by decide +kernel
theorem d_XO_directlyAbove_12 : decode prog_4_method_11_code 12 = .ok (.iand, 1) := by decide +kernel
theorem d_XO_directlyAbove_13 : decode prog_4_method_11_code 13 = .ok (.istore_n 2, 1) := by decide +kernel
theorem d_XO_directlyAbove_14 : decode prog_4_method_11_code 14 = .ok (.iconst 0, 1) := by decide +kernel
theorem d_XO_directlyAbove_15 : decode prog_4_method_11_code 15 = .ok (.istore_n 3, 1) := by decide +kernel
theorem d_XO_directlyAbove_16 : decode prog_4_method_11_code 16 = .ok (.iconst 0, 1) := by decide +kernel
theorem d_XO_directlyAbove_17 : decode prog_4_method_11_code 17 = .ok (.istore 4, 2) := by decide +kernel
theorem d_XO_directlyAbove_19 : decode prog_4_method_11_code 19 = .ok (.iload 4, 2) := by decide +kernel
theorem d_XO_directlyAbove_21 : decode prog_4_method_11_code 21 = .ok (.bipush 20, 2) := by decide +kernel
theorem d_XO_directlyAbove_23 : decode prog_4_method_11_code 23 = .ok (.if_icmp .ge 40, 3) := by decide +kernel
theorem d_XO_directlyAbove_26 : decode prog_4_method_11_code 26 = .ok (.iload_n 2, 1) := by decide +kernel
theorem d_XO_directlyAbove_27 : decode prog_4_method_11_code 27 = .ok (.iload 4, 2) := by decide +kernel
theorem d_XO_directlyAbove_29 : decode prog_4_method_11_code 29 = .ok (.invokestatic 29, 3) := by decide +kernel
theorem d_XO_directlyAbove_32 : decode prog_4_method_11_code 32 = .ok (.ifCond .eq 25, 3) := by decide +kernel
theorem d_XO_directlyAbove_35 : decode prog_4_method_11_code 35 = .ok (.iload_n 2, 1) := by decide +kernel
theorem d_XO_directlyAbove_36 : decode prog_4_method_11_code 36 = .ok (.aload_n 0, 1) := by decide +kernel
theorem d_XO_directlyAbove_37 : decode prog_4_method_11_code 37 = .ok (.getfield 21, 3) := by decide +kernel
theorem d_XO_directlyAbove_40 : decode prog_4_method_11_code 40 = .ok (.iload 4, 2) := by decide +kernel
theorem d_XO_directlyAbove_42 : decode prog_4_method_11_code 42 = .ok (.invokevirtual 77, 3) := by decide +kernel
theorem d_XO_directlyAbove_45 : decode prog_4_method_11_code 45 = .ok (.iand, 1) := by decide +kernel
theorem d_XO_directlyAbove_46 : decode prog_4_method_11_code 46 = .ok (.ifCond .ne 11, 3) := by decide +kernel
theorem d_XO_directlyAbove_49 : decode prog_4_method_11_code 49 = .ok (.iload_n 3, 1) := by decide +kernel
theorem d_XO_directlyAbove_50 : decode prog_4_method_11_code 50 = .ok (.iload 4, 2) := by decide +kernel
theorem d_XO_directlyAbove_52 : decode prog_4_method_11_code 52 = .ok (.invokestatic 37, 3) := by decide +kernel
theorem d_XO_directlyAbove_55 : decode prog_4_method_11_code 55 = .ok (.ior, 1) := by decide +kernel
theorem d_XO_directlyAbove_56 : decode prog_4_method_11_code 56 = .ok (.istore_n 3, 1) := by decide +kernel
theorem d_XO_directlyAbove_57 : decode prog_4_method_11_code 57 = .ok (.iinc 4 1, 3) := by decide +kernel
theorem d_XO_directlyAbove_60 : decode prog_4_method_11_code 60 = .ok (.goto (-41), 3) := by decide +kernel
theorem d_XO_directlyAbove_63 : decode prog_4_method_11_code 63 = .ok (.iload_n 3, 1) := by decide +kernel
theorem d_XO_directlyAbove_64 : decode prog_4_method_11_code 64 = .ok (.ireturn, 1) := by decide +kernel
theorem d_XO_lowest_0 : decode prog_4_method_13_code 0 = .ok (.aload_n 0, 1) := by decide +kernel
theorem d_XO_lowest_1 : decode prog_4_method_13_code 1 = .ok (.aload_n 0, 1) := by decide +kernel
theorem d_XO_lowest_2 : decode prog_4_method_13_code 2 = .ok (.getfield 9, 3) := by decide +kernel
theorem d_XO_lowest_5 : decode prog_4_method_13_code 5 = .ok (.invokevirtual 80, 3) := by decide +kernel
theorem d_XO_lowest_8 : decode prog_4_method_13_code 8 = .ok (.ireturn, 1) := by decide +kernel
theorem d_XO_lowestAmong_0 : decode prog_4_method_14_code 0 = .ok (.iconst 0, 1) := by decide +kernel
theorem d_XO_lowestAmong_1 : decode prog_4_method_14_code 1 = .ok (.istore_n 2, 1) := by decide +kernel
theorem d_XO_lowestAmong_2 : decode prog_4_method_14_code 2 = .ok (.iconst 0, 1) := by decide +kernel
theorem d_XO_lowestAmong_3 : decode prog_4_method_14_code 3 = .ok (.istore_n 3, 1) := by decide +kernel
theorem d_XO_lowestAmong_4 : decode prog_4_method_14_code 4 = .ok (.iload_n 3, 1) := by decide +kernel
theorem d_XO_lowestAmong_5 : decode prog_4_method_14_code 5 = .ok (.bipush 20, 2) := by decide +kernel
theorem d_XO_lowestAmong_7 : decode prog_4_method_14_code 7 = .ok (.if_icmp .ge 39, 3) := by decide +kernel
theorem d_XO_lowestAmong_10 : decode prog_4_method_14_code 10 = .ok (.iload_n 1, 1) := by decide +kernel
theorem d_XO_lowestAmong_11 : decode prog_4_method_14_code 11 = .ok (.aload_n 0, 1) := by decide +kernel
theorem d_XO_lowestAmong_12 : decode prog_4_method_14_code 12 = .ok (.getfield 9, 3) := by decide +kernel
theorem d_XO_lowestAmong_15 : decode prog_4_method_14_code 15 = .ok (.iand, 1) := by decide +kernel
theorem d_XO_lowestAmong_16 : decode prog_4_method_14_code 16 = .ok (.iload_n 3, 1) := by decide +kernel
theorem d_XO_lowestAmong_17 : decode prog_4_method_14_code 17 = .ok (.invokestatic 29, 3) := by decide +kernel
theorem d_XO_lowestAmong_20 : decode prog_4_method_14_code 20 = .ok (.ifCond .eq 20, 3) := by decide +kernel
theorem d_XO_lowestAmong_23 : decode prog_4_method_14_code 23 = .ok (.aload_n 0, 1) := by decide +kernel
theorem d_XO_lowestAmong_24 : decode prog_4_method_14_code 24 = .ok (.iload_n 3, 1) := by decide +kernel
theorem d_XO_lowestAmong_25 : decode prog_4_method_14_code 25 = .ok (.invokevirtual 83, 3) := by decide +kernel
theorem d_XO_lowestAmong_28 : decode prog_4_method_14_code 28 = .ok (.iload_n 1, 1) := by decide +kernel
theorem d_XO_lowestAmong_29 : decode prog_4_method_14_code 29 = .ok (.iand, 1) := by decide +kernel
theorem d_XO_lowestAmong_30 : decode prog_4_method_14_code 30 = .ok (.ifCond .ne 10, 3) := by decide +kernel
theorem d_XO_lowestAmong_33 : decode prog_4_method_14_code 33 = .ok (.iload_n 2, 1) := by decide +kernel
theorem d_XO_lowestAmong_34 : decode prog_4_method_14_code 34 = .ok (.iload_n 3, 1) := by decide +kernel
theorem d_XO_lowestAmong_35 : decode prog_4_method_14_code 35 = .ok (.invokestatic 37, 3) := by decide +kernel
theorem d_XO_lowestAmong_38 : decode prog_4_method_14_code 38 = .ok (.ior, 1) := by decide +kernel
theorem d_XO_lowestAmong_39 : decode prog_4_method_14_code 39 = .ok (.istore_n 2, 1) := by decide +kernel
theorem d_XO_lowestAmong_40 : decode prog_4_method_14_code 40 = .ok (.iinc 3 1, 3) := by decide +kernel
theorem d_XO_lowestAmong_43 : decode prog_4_method_14_code 43 = .ok (.goto (-39), 3) := by decide +kernel
theorem d_XO_lowestAmong_46 : decode prog_4_method_14_code 46 = .ok (.iload_n 2, 1) := by decide +kernel
theorem d_XO_lowestAmong_47 : decode prog_4_method_14_code 47 = .ok (.ireturn, 1) := by decide +kernel
theorem d_XO_directlyBelow_0 : decode prog_4_method_12_code 0 = .ok (.aload_n 0, 1) := by decide +kernel
theorem d_XO_directlyBelow_1 : decode prog_4_method_12_code 1 = .ok (.getfield 21, 3) := by decide +kernel
theorem d_XO_directlyBelow_4 : decode prog_4_method_12_code 4 = .ok (.iload_n 1, 1) := by decide +kernel
theorem d_XO_directlyBelow_5 : decode prog_4_method_12_code 5 = .ok (.invokevirtual 77, 3) := by decide +kernel
theorem d_XO_directlyBelow_8 : decode prog_4_method_12_code 8 = .ok (.aload_n 0, 1) := by decide +kernel
theorem d_XO_directlyBelow_9 : decode prog_4_method_12_code 9 = .ok (.getfield 9, 3) := by decide +kernel
theorem d_XO_directlyBelow_12 : decode prog_4_method_12_code 12 = .ok (.iand, 1) := by decide +kernel
theorem d_XO_directlyBelow_13 : decode prog_4_method_12_code 13 = .ok (.istore_n 2, 1) := by decide +kernel
theorem d_XO_directlyBelow_14 : decode prog_4_method_12_code 14 = .ok (.iconst 0, 1) := by decide +kernel
theorem d_XO_directlyBelow_15 : decode prog_4_method_12_code 15 = .ok (.istore_n 3, 1) := by decide +kernel
theorem d_XO_directlyBelow_16 : decode prog_4_method_12_code 16 = .ok (.iconst 0, 1) := by decide +kernel
theorem d_XO_directlyBelow_17 : decode prog_4_method_12_code 17 = .ok (.istore 4, 2) := by decide +kernel
theorem d_XO_directlyBelow_19 : decode prog_4_method_12_code 19 = .ok (.iload 4, 2) := by decide +kernel
theorem d_XO_directlyBelow_21 : decode prog_4_method_12_code 21 = .ok (.bipush 20, 2) := by decide +kernel
theorem d_XO_directlyBelow_23 : decode prog_4_method_12_code 23 = .ok (.if_icmp .ge 40, 3) := by decide +kernel
theorem d_XO_directlyBelow_26 : decode prog_4_method_12_code 26 = .ok (.iload_n 2, 1) := by decide +kernel
theorem d_XO_directlyBelow_27 : decode prog_4_method_12_code 27 = .ok (.iload 4, 2) := by decide +kernel
theorem d_XO_directlyBelow_29 : decode prog_4_method_12_code 29 = .ok (.invokestatic 29, 3) := by decide +kernel
theorem d_XO_directlyBelow_32 : decode prog_4_method_12_code 32 = .ok (.ifCond .eq 25, 3) := by decide +kernel
theorem d_XO_directlyBelow_35 : decode prog_4_method_12_code 35 = .ok (.iload_n 2, 1) := by decide +kernel
theorem d_XO_directlyBelow_36 : decode prog_4_method_12_code 36 = .ok (.aload_n 0, 1) := by decide +kernel
theorem d_XO_directlyBelow_37 : decode prog_4_method_12_code 37 = .ok (.getfield 21, 3) := by decide +kernel
theorem d_XO_directlyBelow_40 : decode prog_4_method_12_code 40 = .ok (.iload 4, 2) := by decide +kernel
theorem d_XO_directlyBelow_42 : decode prog_4_method_12_code 42 = .ok (.invokevirtual 71, 3) := by decide +kernel
theorem d_XO_directlyBelow_45 : decode prog_4_method_12_code 45 = .ok (.iand, 1) := by decide +kernel
theorem d_XO_directlyBelow_46 : decode prog_4_method_12_code 46 = .ok (.ifCond .ne 11, 3) := by decide +kernel
theorem d_XO_directlyBelow_49 : decode prog_4_method_12_code 49 = .ok (.iload_n 3, 1) := by decide +kernel
theorem d_XO_directlyBelow_50 : decode prog_4_method_12_code 50 = .ok (.iload 4, 2) := by decide +kernel
theorem d_XO_directlyBelow_52 : decode prog_4_method_12_code 52 = .ok (.invokestatic 37, 3) := by decide +kernel
theorem d_XO_directlyBelow_55 : decode prog_4_method_12_code 55 = .ok (.ior, 1) := by decide +kernel
theorem d_XO_directlyBelow_56 : decode prog_4_method_12_code 56 = .ok (.istore_n 3, 1) := by decide +kernel
theorem d_XO_directlyBelow_57 : decode prog_4_method_12_code 57 = .ok (.iinc 4 1, 3) := by decide +kernel
theorem d_XO_directlyBelow_60 : decode prog_4_method_12_code 60 = .ok (.goto (-41), 3) := by decide +kernel
theorem d_XO_directlyBelow_63 : decode prog_4_method_12_code 63 = .ok (.iload_n 3, 1) := by decide +kernel
theorem d_XO_directlyBelow_64 : decode prog_4_method_12_code 64 = .ok (.ireturn, 1) := by decide +kernel
theorem d_X_child_0 : decode prog_1_method_11_code 0 = .ok (.aload_n 0, 1) := by decide +kernel
theorem d_X_child_1 : decode prog_1_method_11_code 1 = .ok (.iload_n 1, 1) := by decide +kernel
theorem d_X_child_2 : decode prog_1_method_11_code 2 = .ok (.invokevirtual 63, 3) := by decide +kernel
theorem d_X_child_5 : decode prog_1_method_11_code 5 = .ok (.ifCond .ne 5, 3) := by decide +kernel
theorem d_X_child_8 : decode prog_1_method_11_code 8 = .ok (.iconst (-1), 1) := by decide +kernel
theorem d_X_child_9 : decode prog_1_method_11_code 9 = .ok (.ireturn, 1) := by decide +kernel
theorem d_X_child_10 : decode prog_1_method_11_code 10 = .ok (.aload_n 0, 1) := by decide +kernel
theorem d_X_child_11 : decode prog_1_method_11_code 11 = .ok (.getfield 55, 3) := by decide +kernel
theorem d_X_child_14 : decode prog_1_method_11_code 14 = .ok (.ifCond .ne 6, 3) := by decide +kernel
theorem d_X_child_17 : decode prog_1_method_11_code 17 = .ok (.bipush (-3), 2) := by decide +kernel
theorem d_X_child_19 : decode prog_1_method_11_code 19 = .ok (.ireturn, 1) := by decide +kernel
theorem d_X_child_20 : decode prog_1_method_11_code 20 = .ok (.aload_n 0, 1) := by decide +kernel
theorem d_X_child_21 : decode prog_1_method_11_code 21 = .ok (.getfield 37, 3) := by decide +kernel
theorem d_X_child_24 : decode prog_1_method_11_code 24 = .ok (.iload_n 1, 1) := by decide +kernel
theorem d_X_child_25 : decode prog_1_method_11_code 25 = .ok (.invokevirtual 124, 3) := by decide +kernel
theorem d_X_child_28 : decode prog_1_method_11_code 28 = .ok (.ifCond .eq 7, 3) := by decide +kernel
theorem d_X_child_31 : decode prog_1_method_11_code 31 = .ok (.iconst 0, 1) := by decide +kernel
theorem d_X_child_32 : decode prog_1_method_11_code 32 = .ok (.goto 11, 3) := by decide +kernel
theorem d_X_child_35 : decode prog_1_method_11_code 35 = .ok (.aload_n 0, 1) := by decide +kernel
theorem d_X_child_36 : decode prog_1_method_11_code 36 = .ok (.getfield 37, 3) := by decide +kernel
theorem d_X_child_39 : decode prog_1_method_11_code 39 = .ok (.iload_n 1, 1) := by decide +kernel
theorem d_X_child_40 : decode prog_1_method_11_code 40 = .ok (.invokevirtual 140, 3) := by decide +kernel
theorem d_X_child_43 : decode prog_1_method_11_code 43 = .ok (.istore_n 3, 1) := by decide +kernel
theorem d_X_child_44 : decode prog_1_method_11_code 44 = .ok (.aload_n 0, 1) := by decide +kernel
theorem d_X_child_45 : decode prog_1_method_11_code 45 = .ok (.getfield 37, 3) := by decide +kernel
theorem d_X_child_48 : decode prog_1_method_11_code 48 = .ok (.iload_n 3, 1) := by decide +kernel
theorem d_X_child_49 : decode prog_1_method_11_code 49 = .ok (.invokevirtual 134, 3) := by decide +kernel
theorem d_X_child_52 : decode prog_1_method_11_code 52 = .ok (.iload_n 2, 1) := by decide +kernel
theorem d_X_child_53 : decode prog_1_method_11_code 53 = .ok (.invokestatic 137, 3) := by decide +kernel
theorem d_X_child_56 : decode prog_1_method_11_code 56 = .ok (.ireturn, 1) := by decide +kernel
theorem d_X_equal_0 : decode prog_1_method_12_code 0 = .ok (.aload_n 0, 1) := by decide +kernel
theorem d_X_equal_1 : decode prog_1_method_12_code 1 = .ok (.iload_n 1, 1) := by decide +kernel
theorem d_X_equal_2 : decode prog_1_method_12_code 2 = .ok (.invokevirtual 63, 3) := by decide +kernel
theorem d_X_equal_5 : decode prog_1_method_12_code 5 = .ok (.ifCond .ne 5, 3) := by decide +kernel
theorem d_X_equal_8 : decode prog_1_method_12_code 8 = .ok (.iconst (-1), 1) := by decide +kernel
theorem d_X_equal_9 : decode prog_1_method_12_code 9 = .ok (.ireturn, 1) := by decide +kernel
theorem d_X_equal_10 : decode prog_1_method_12_code 10 = .ok (.aload_n 0, 1) := by decide +kernel
theorem d_X_equal_11 : decode prog_1_method_12_code 11 = .ok (.getfield 55, 3) := by decide +kernel
theorem d_X_equal_14 : decode prog_1_method_12_code 14 = .ok (.ifCond .ne 6, 3) := by decide +kernel
theorem d_X_equal_17 : decode prog_1_method_12_code 17 = .ok (.bipush (-3), 2) := by decide +kernel
theorem d_X_equal_19 : decode prog_1_method_12_code 19 = .ok (.ireturn, 1) := by decide +kernel
theorem d_X_equal_20 : decode prog_1_method_12_code 20 = .ok (.aload_n 0, 1) := by decide +kernel
theorem d_X_equal_21 : decode prog_1_method_12_code 21 = .ok (.getfield 28, 3) := by decide +kernel
theorem d_X_equal_24 : decode prog_1_method_12_code 24 = .ok (.iload_n 1, 1) := by decide +kernel
theorem d_X_equal_25 : decode prog_1_method_12_code 25 = .ok (.invokevirtual 143, 3) := by decide +kernel
theorem d_X_equal_28 : decode prog_1_method_12_code 28 = .ok (.bipush 20, 2) := by decide +kernel
theorem d_X_equal_30 : decode prog_1_method_12_code 30 = .ok (.invokestatic 74, 3) := by decide +kernel
theorem d_X_equal_33 : decode prog_1_method_12_code 33 = .ok (.iconst (-1), 1) := by decide +kernel
theorem d_X_equal_34 : decode prog_1_method_12_code 34 = .ok (.ixor, 1) := by decide +kernel
theorem d_X_equal_35 : decode prog_1_method_12_code 35 = .ok (.iand, 1) := by decide +kernel
theorem d_X_equal_36 : decode prog_1_method_12_code 36 = .ok (.iload_n 2, 1) := by decide +kernel
theorem d_X_equal_37 : decode prog_1_method_12_code 37 = .ok (.invokestatic 137, 3) := by decide +kernel
theorem d_X_equal_40 : decode prog_1_method_12_code 40 = .ok (.ireturn, 1) := by decide +kernel
theorem d_X_empty_0 : decode prog_1_method_13_code 0 = .ok (.aload_n 0, 1) := by decide +kernel
theorem d_X_empty_1 : decode prog_1_method_13_code 1 = .ok (.getfield 55, 3) := by decide +kernel
theorem d_X_empty_4 : decode prog_1_method_13_code 4 = .ok (.ifCond .ne 6, 3) := by decide +kernel
theorem d_X_empty_7 : decode prog_1_method_13_code 7 = .ok (.bipush (-3), 2) := by decide +kernel
theorem d_X_empty_9 : decode prog_1_method_13_code 9 = .ok (.ireturn, 1) := by decide +kernel
theorem d_X_empty_10 : decode prog_1_method_13_code 10 = .ok (.aload_n 0, 1) := by decide +kernel
theorem d_X_empty_11 : decode prog_1_method_13_code 11 = .ok (.getfield 37, 3) := by decide +kernel
theorem d_X_empty_14 : decode prog_1_method_13_code 14 = .ok (.invokevirtual 146, 3) := by decide +kernel
theorem d_X_empty_17 : decode prog_1_method_13_code 17 = .ok (.iload_n 1, 1) := by decide +kernel
theorem d_X_empty_18 : decode prog_1_method_13_code 18 = .ok (.invokestatic 137, 3) := by decide +kernel
theorem d_X_empty_21 : decode prog_1_method_13_code 21 = .ok (.ireturn, 1) := by decide +kernel
theorem d_XO_emptyClasses_0 : decode prog_4_method_3_code 0 = .ok (.aload_n 0, 1) := by decide +kernel
theorem d_XO_emptyClasses_1 : decode prog_4_method_3_code 1 = .ok (.getfield 15, 3) := by decide +kernel
theorem d_XO_emptyClasses_4 : decode prog_4_method_3_code 4 = .ok (.ireturn, 1) := by decide +kernel
theorem d_X_open_0 : decode prog_1_method_14_code 0 = .ok (.iload_n 1, 1) := by decide +kernel
theorem d_X_open_1 : decode prog_1_method_14_code 1 = .ok (.istore_n 2, 1) := by decide +kernel
theorem d_X_open_2 : decode prog_1_method_14_code 2 = .ok (.iconst 0, 1) := by decide +kernel
theorem d_X_open_3 : decode prog_1_method_14_code 3 = .ok (.istore_n 3, 1) := by decide +kernel
theorem d_X_open_4 : decode prog_1_method_14_code 4 = .ok (.iload_n 3, 1) := by decide +kernel
theorem d_X_open_5 : decode prog_1_method_14_code 5 = .ok (.aload_n 0, 1) := by decide +kernel
theorem d_X_open_6 : decode prog_1_method_14_code 6 = .ok (.getfield 45, 3) := by decide +kernel
theorem d_X_open_9 : decode prog_1_method_14_code 9 = .ok (.if_icmp .ge 62, 3) := by decide +kernel
theorem d_X_open_12 : decode prog_1_method_14_code 12 = .ok (.aload_n 0, 1) := by decide +kernel
theorem d_X_open_13 : decode prog_1_method_14_code 13 = .ok (.getfield 28, 3) := by decide +kernel
theorem d_X_open_16 : decode prog_1_method_14_code 16 = .ok (.iload_n 3, 1) := by decide +kernel
theorem d_X_open_17 : decode prog_1_method_14_code 17 = .ok (.invokevirtual 149, 3) := by decide +kernel
theorem d_X_open_20 : decode prog_1_method_14_code 20 = .ok (.istore 4, 2) := by decide +kernel
theorem d_X_open_22 : decode prog_1_method_14_code 22 = .ok (.iload 4, 2) := by decide +kernel
theorem d_X_open_24 : decode prog_1_method_14_code 24 = .ok (.iload_n 2, 1) := by decide +kernel
theorem d_X_open_25 : decode prog_1_method_14_code 25 = .ok (.invokestatic 137, 3) := by decide +kernel
theorem d_X_open_28 : decode prog_1_method_14_code 28 = .ok (.istore 5, 2) := by decide +kernel
theorem d_X_open_30 : decode prog_1_method_14_code 30 = .ok (.iload 5, 2) := by decide +kernel
theorem d_X_open_32 : decode prog_1_method_14_code 32 = .ok (.bipush (-6), 2) := by decide +kernel
theorem d_X_open_34 : decode prog_1_method_14_code 34 = .ok (.if_icmp .eq 23, 3) := by decide +kernel
theorem d_X_open_37 : decode prog_1_method_14_code 37 = .ok (.bipush 32, 2) := by decide +kernel
theorem d_X_open_39 : decode prog_1_method_14_code 39 = .ok (.iload_n 3, 1) := by decide +kernel
theorem d_X_open_40 : decode prog_1_method_14_code 40 = .ok (.imul, 1) := by decide +kernel
theorem d_X_open_41 : decode prog_1_method_14_code 41 = .ok (.iload 5, 2) := by decide +kernel
theorem d_X_open_43 : decode prog_1_method_14_code 43 = .ok (.bipush 20, 2) := by decide +kernel
theorem d_X_open_45 : decode prog_1_method_14_code 45 = .ok (.if_icmp .ne 8, 3) := by decide +kernel
theorem d_X_open_48 : decode prog_1_method_14_code 48 = .ok (.bipush 31, 2) := by decide +kernel
theorem d_X_open_50 : decode prog_1_method_14_code 50 = .ok (.goto 5, 3) := by decide +kernel
theorem d_X_open_53 : decode prog_1_method_14_code 53 = .ok (.iload 5, 2) := by decide +kernel
theorem d_X_open_55 : decode prog_1_method_14_code 55 = .ok (.iadd, 1) := by decide +kernel
theorem d_X_open_56 : decode prog_1_method_14_code 56 = .ok (.ireturn, 1) := by decide +kernel
theorem d_X_open_57 : decode prog_1_method_14_code 57 = .ok (.iload_n 2, 1) := by decide +kernel
theorem d_X_open_58 : decode prog_1_method_14_code 58 = .ok (.iload 4, 2) := by decide +kernel
theorem d_X_open_60 : decode prog_1_method_14_code 60 = .ok (.invokestatic 152, 3) := by decide +kernel
theorem d_X_open_63 : decode prog_1_method_14_code 63 = .ok (.isub, 1) := by decide +kernel
theorem d_X_open_64 : decode prog_1_method_14_code 64 = .ok (.istore_n 2, 1) := by decide +kernel
theorem d_X_open_65 : decode prog_1_method_14_code 65 = .ok (.iinc 3 1, 3) := by decide +kernel
theorem d_X_open_68 : decode prog_1_method_14_code 68 = .ok (.goto (-64), 3) := by decide +kernel
theorem d_X_open_71 : decode prog_1_method_14_code 71 = .ok (.bipush (-6), 2) := by decide +kernel
theorem d_X_open_73 : decode prog_1_method_14_code 73 = .ok (.ireturn, 1) := by decide +kernel
theorem d_XK_openOf_0 : decode prog_3_method_9_code 0 = .ok (.aload_n 0, 1) := by decide +kernel
theorem d_XK_openOf_1 : decode prog_3_method_9_code 1 = .ok (.getfield 21, 3) := by decide +kernel
theorem d_XK_openOf_4 : decode prog_3_method_9_code 4 = .ok (.iload_n 1, 1) := by decide +kernel
theorem d_XK_openOf_5 : decode prog_3_method_9_code 5 = .ok (.iaload, 1) := by decide +kernel
theorem d_XK_openOf_6 : decode prog_3_method_9_code 6 = .ok (.ireturn, 1) := by decide +kernel
theorem d_X_put_0 : decode prog_1_method_15_code 0 = .ok (.aload_n 0, 1) := by decide +kernel
theorem d_X_put_1 : decode prog_1_method_15_code 1 = .ok (.iload_n 1, 1) := by decide +kernel
theorem d_X_put_2 : decode prog_1_method_15_code 2 = .ok (.invokevirtual 157, 3) := by decide +kernel
theorem d_X_put_5 : decode prog_1_method_15_code 5 = .ok (.ifCond .eq 11, 3) := by decide +kernel
theorem d_X_put_8 : decode prog_1_method_15_code 8 = .ok (.aload_n 0, 1) := by decide +kernel
theorem d_X_put_9 : decode prog_1_method_15_code 9 = .ok (.iload_n 2, 1) := by decide +kernel
theorem d_X_put_10 : decode prog_1_method_15_code 10 = .ok (.invokevirtual 63, 3) := by decide +kernel
theorem d_X_put_13 : decode prog_1_method_15_code 13 = .ok (.ifCond .ne 5, 3) := by decide +kernel
theorem d_X_put_16 : decode prog_1_method_15_code 16 = .ok (.iconst (-1), 1) := by decide +kernel
theorem d_X_put_17 : decode prog_1_method_15_code 17 = .ok (.ireturn, 1) := by decide +kernel
theorem d_X_put_18 : decode prog_1_method_15_code 18 = .ok (.aload_n 0, 1) := by decide +kernel
theorem d_X_put_19 : decode prog_1_method_15_code 19 = .ok (.getfield 41, 3) := by decide +kernel
theorem d_X_put_22 : decode prog_1_method_15_code 22 = .ok (.iload_n 1, 1) := by decide +kernel
theorem d_X_put_23 : decode prog_1_method_15_code 23 = .ok (.iaload, 1) := by decide +kernel
theorem d_X_put_24 : decode prog_1_method_15_code 24 = .ok (.iload_n 2, 1) := by decide +kernel
theorem d_X_put_25 : decode prog_1_method_15_code 25 = .ok (.invokestatic 160, 3) := by decide +kernel
theorem d_X_put_28 : decode prog_1_method_15_code 28 = .ok (.ifCond .eq 5, 3) := by decide +kernel
theorem d_X_put_31 : decode prog_1_method_15_code 31 = .ok (.iconst 0, 1) := by decide +kernel
theorem d_X_put_32 : decode prog_1_method_15_code 32 = .ok (.ireturn, 1) := by decide +kernel
theorem d_X_put_33 : decode prog_1_method_15_code 33 = .ok (.aload_n 0, 1) := by decide +kernel
theorem d_X_put_34 : decode prog_1_method_15_code 34 = .ok (.getfield 41, 3) := by decide +kernel
theorem d_X_put_37 : decode prog_1_method_15_code 37 = .ok (.iload_n 1, 1) := by decide +kernel
theorem d_X_put_38 : decode prog_1_method_15_code 38 = .ok (.dup2, 1) := by decide +kernel
theorem d_X_put_39 : decode prog_1_method_15_code 39 = .ok (.iaload, 1) := by decide +kernel
theorem d_X_put_40 : decode prog_1_method_15_code 40 = .ok (.iload_n 2, 1) := by decide +kernel
theorem d_X_put_41 : decode prog_1_method_15_code 41 = .ok (.invokestatic 74, 3) := by decide +kernel
theorem d_X_put_44 : decode prog_1_method_15_code 44 = .ok (.ior, 1) := by decide +kernel
theorem d_X_put_45 : decode prog_1_method_15_code 45 = .ok (.iastore, 1) := by decide +kernel
theorem d_X_put_46 : decode prog_1_method_15_code 46 = .ok (.iconst 1, 1) := by decide +kernel
theorem d_X_put_47 : decode prog_1_method_15_code 47 = .ok (.ireturn, 1) := by decide +kernel
theorem d_X_isThing_0 : decode prog_1_method_20_code 0 = .ok (.iload_n 1, 1) := by decide +kernel
theorem d_X_isThing_1 : decode prog_1_method_20_code 1 = .ok (.ifCond .lt 15, 3) := by decide +kernel
theorem d_X_isThing_4 : decode prog_1_method_20_code 4 = .ok (.iload_n 1, 1) := by decide +kernel
theorem d_X_isThing_5 : decode prog_1_method_20_code 5 = .ok (.aload_n 0, 1) := by decide +kernel
theorem d_X_isThing_6 : decode prog_1_method_20_code 6 = .ok (.getfield 49, 3) := by decide +kernel
theorem d_X_isThing_9 : decode prog_1_method_20_code 9 = .ok (.if_icmp .ge 7, 3) := by decide +kernel
theorem d_X_isThing_12 : decode prog_1_method_20_code 12 = .ok (.iconst 1, 1) := by decide +kernel
theorem d_X_isThing_13 : decode prog_1_method_20_code 13 = .ok (.goto 4, 3) := by decide +kernel
theorem d_X_isThing_16 : decode prog_1_method_20_code 16 = .ok (.iconst 0, 1) := by decide +kernel
theorem d_X_isThing_17 : decode prog_1_method_20_code 17 = .ok (.ireturn, 1) := by decide +kernel
theorem d_X_type_0 : decode prog_1_method_16_code 0 = .ok (.aload_n 0, 1) := by decide +kernel
theorem d_X_type_1 : decode prog_1_method_16_code 1 = .ok (.iload_n 1, 1) := by decide +kernel
theorem d_X_type_2 : decode prog_1_method_16_code 2 = .ok (.invokevirtual 157, 3) := by decide +kernel
theorem d_X_type_5 : decode prog_1_method_16_code 5 = .ok (.ifCond .ne 5, 3) := by decide +kernel
theorem d_X_type_8 : decode prog_1_method_16_code 8 = .ok (.iconst (-1), 1) := by decide +kernel
theorem d_X_type_9 : decode prog_1_method_16_code 9 = .ok (.ireturn, 1) := by decide +kernel
theorem d_X_type_10 : decode prog_1_method_16_code 10 = .ok (.aload_n 0, 1) := by decide +kernel
theorem d_X_type_11 : decode prog_1_method_16_code 11 = .ok (.getfield 55, 3) := by decide +kernel
theorem d_X_type_14 : decode prog_1_method_16_code 14 = .ok (.ifCond .ne 6, 3) := by decide +kernel
theorem d_X_type_17 : decode prog_1_method_16_code 17 = .ok (.bipush (-3), 2) := by decide +kernel
theorem d_X_type_19 : decode prog_1_method_16_code 19 = .ok (.ireturn, 1) := by decide +kernel
theorem d_X_type_20 : decode prog_1_method_16_code 20 = .ok (.aload_n 0, 1) := by decide +kernel
theorem d_X_type_21 : decode prog_1_method_16_code 21 = .ok (.getfield 21, 3) := by decide +kernel
theorem d_X_type_24 : decode prog_1_method_16_code 24 = .ok (.aload_n 0, 1) := by decide +kernel
theorem d_X_type_25 : decode prog_1_method_16_code 25 = .ok (.getfield 41, 3) := by decide +kernel
theorem d_X_type_28 : decode prog_1_method_16_code 28 = .ok (.iload_n 1, 1) := by decide +kernel
theorem d_X_type_29 : decode prog_1_method_16_code 29 = .ok (.iaload, 1) := by decide +kernel
theorem d_X_type_30 : decode prog_1_method_16_code 30 = .ok (.bipush 20, 2) := by decide +kernel
theorem d_X_type_32 : decode prog_1_method_16_code 32 = .ok (.invokevirtual 118, 3) := by decide +kernel
theorem d_X_type_35 : decode prog_1_method_16_code 35 = .ok (.iconst 1, 1) := by decide +kernel
theorem d_X_type_36 : decode prog_1_method_16_code 36 = .ok (.if_icmp .ne 6, 3) := by decide +kernel
theorem d_X_type_39 : decode prog_1_method_16_code 39 = .ok (.bipush (-5), 2) := by decide +kernel
theorem d_X_type_41 : decode prog_1_method_16_code 41 = .ok (.ireturn, 1) := by decide +kernel
theorem d_X_type_42 : decode prog_1_method_16_code 42 = .ok (.aload_n 0, 1) := by decide +kernel
theorem d_X_type_43 : decode prog_1_method_16_code 43 = .ok (.getfield 37, 3) := by decide +kernel
theorem d_X_type_46 : decode prog_1_method_16_code 46 = .ok (.aload_n 0, 1) := by decide +kernel
theorem d_X_type_47 : decode prog_1_method_16_code 47 = .ok (.getfield 37, 3) := by decide +kernel
theorem d_X_type_50 : decode prog_1_method_16_code 50 = .ok (.aload_n 0, 1) := by decide +kernel
theorem d_X_type_51 : decode prog_1_method_16_code 51 = .ok (.getfield 21, 3) := by decide +kernel
theorem d_X_type_54 : decode prog_1_method_16_code 54 = .ok (.invokevirtual 164, 3) := by decide +kernel
theorem d_X_type_57 : decode prog_1_method_16_code 57 = .ok (.invokevirtual 167, 3) := by decide +kernel
theorem d_X_type_60 : decode prog_1_method_16_code 60 = .ok (.invokevirtual 134, 3) := by decide +kernel
theorem d_X_type_63 : decode prog_1_method_16_code 63 = .ok (.iload_n 2, 1) := by decide +kernel
theorem d_X_type_64 : decode prog_1_method_16_code 64 = .ok (.invokestatic 137, 3) := by decide +kernel
theorem d_X_type_67 : decode prog_1_method_16_code 67 = .ok (.ireturn, 1) := by decide +kernel
theorem d_XR_facts_0 : decode prog_5_method_3_code 0 = .ok (.aload_n 0, 1) := by decide +kernel
theorem d_XR_facts_1 : decode prog_5_method_3_code 1 = .ok (.getfield 22, 3) := by decide +kernel
theorem d_XR_facts_4 : decode prog_5_method_3_code 4 = .ok (.ireturn, 1) := by decide +kernel
theorem d_X_trace_0 : decode prog_1_method_17_code 0 = .ok (.aload_n 0, 1) := by decide +kernel
theorem d_X_trace_1 : decode prog_1_method_17_code 1 = .ok (.iload_n 1, 1) := by decide +kernel
theorem d_X_trace_2 : decode prog_1_method_17_code 2 = .ok (.invokevirtual 63, 3) := by decide +kernel
theorem d_X_trace_5 : decode prog_1_method_17_code 5 = .ok (.ifCond .eq 11, 3) := by decide +kernel
theorem d_X_trace_8 : decode prog_1_method_17_code 8 = .ok (.aload_n 0, 1) := by decide +kernel
theorem d_X_trace_9 : decode prog_1_method_17_code 9 = .ok (.iload_n 2, 1) := by decide +kernel
theorem d_X_trace_10 : decode prog_1_method_17_code 10 = .ok (.invokevirtual 67, 3) := by decide +kernel
theorem d_X_trace_13 : decode prog_1_method_17_code 13 = .ok (.ifCond .ne 5, 3) := by decide +kernel
theorem d_X_trace_16 : decode prog_1_method_17_code 16 = .ok (.iconst (-1), 1) := by decide +kernel
theorem d_X_trace_17 : decode prog_1_method_17_code 17 = .ok (.ireturn, 1) := by decide +kernel
theorem d_X_trace_18 : decode prog_1_method_17_code 18 = .ok (.aload_n 0, 1) := by decide +kernel
theorem d_X_trace_19 : decode prog_1_method_17_code 19 = .ok (.getfield 21, 3) := by decide +kernel
theorem d_X_trace_22 : decode prog_1_method_17_code 22 = .ok (.iload_n 1, 1) := by decide +kernel
theorem d_X_trace_23 : decode prog_1_method_17_code 23 = .ok (.invokestatic 74, 3) := by decide +kernel
theorem d_X_trace_26 : decode prog_1_method_17_code 26 = .ok (.iload_n 2, 1) := by decide +kernel
theorem d_X_trace_27 : decode prog_1_method_17_code 27 = .ok (.invokestatic 78, 3) := by decide +kernel
theorem d_X_trace_30 : decode prog_1_method_17_code 30 = .ok (.invokevirtual 118, 3) := by decide +kernel
theorem d_X_trace_33 : decode prog_1_method_17_code 33 = .ok (.iconst 1, 1) := by decide +kernel
theorem d_X_trace_34 : decode prog_1_method_17_code 34 = .ok (.if_icmp .eq 6, 3) := by decide +kernel
theorem d_X_trace_37 : decode prog_1_method_17_code 37 = .ok (.bipush (-6), 2) := by decide +kernel
theorem d_X_trace_39 : decode prog_1_method_17_code 39 = .ok (.ireturn, 1) := by decide +kernel
theorem d_X_trace_40 : decode prog_1_method_17_code 40 = .ok (.aload_n 0, 1) := by decide +kernel
theorem d_X_trace_41 : decode prog_1_method_17_code 41 = .ok (.getfield 21, 3) := by decide +kernel
theorem d_X_trace_44 : decode prog_1_method_17_code 44 = .ok (.invokevirtual 170, 3) := by decide +kernel
theorem d_X_trace_47 : decode prog_1_method_17_code 47 = .ok (.iload_n 3, 1) := by decide +kernel
theorem d_X_trace_48 : decode prog_1_method_17_code 48 = .ok (.invokestatic 137, 3) := by decide +kernel
theorem d_X_trace_51 : decode prog_1_method_17_code 51 = .ok (.istore 4, 2) := by decide +kernel
theorem d_X_trace_53 : decode prog_1_method_17_code 53 = .ok (.iload 4, 2) := by decide +kernel
theorem d_X_trace_55 : decode prog_1_method_17_code 55 = .ok (.bipush (-6), 2) := by decide +kernel
theorem d_X_trace_57 : decode prog_1_method_17_code 57 = .ok (.if_icmp .ne 8, 3) := by decide +kernel
theorem d_X_trace_60 : decode prog_1_method_17_code 60 = .ok (.bipush (-6), 2) := by decide +kernel
theorem d_X_trace_62 : decode prog_1_method_17_code 62 = .ok (.goto 12, 3) := by decide +kernel
theorem d_X_trace_65 : decode prog_1_method_17_code 65 = .ok (.aload_n 0, 1) := by decide +kernel
theorem d_X_trace_66 : decode prog_1_method_17_code 66 = .ok (.getfield 21, 3) := by decide +kernel
theorem d_X_trace_69 : decode prog_1_method_17_code 69 = .ok (.iload 4, 2) := by decide +kernel
theorem d_X_trace_71 : decode prog_1_method_17_code 71 = .ok (.invokevirtual 173, 3) := by decide +kernel
theorem d_X_trace_74 : decode prog_1_method_17_code 74 = .ok (.ireturn, 1) := by decide +kernel
theorem d_XR_neededSteps_0 : decode prog_5_method_6_code 0 = .ok (.iconst 0, 1) := by decide +kernel
theorem d_XR_neededSteps_1 : decode prog_5_method_6_code 1 = .ok (.istore_n 1, 1) := by decide +kernel
theorem d_XR_neededSteps_2 : decode prog_5_method_6_code 2 = .ok (.aload_n 0, 1) := by decide +kernel
theorem d_XR_neededSteps_3 : decode prog_5_method_6_code 3 = .ok (.getfield 19, 3) := by decide +kernel
theorem d_XR_neededSteps_6 : decode prog_5_method_6_code 6 = .ok (.ifCond .le 27, 3) := by decide +kernel
theorem d_XR_neededSteps_9 : decode prog_5_method_6_code 9 = .ok (.aload_n 0, 1) := by decide +kernel
theorem d_XR_neededSteps_10 : decode prog_5_method_6_code 10 = .ok (.getfield 25, 3) := by decide +kernel
theorem d_XR_neededSteps_13 : decode prog_5_method_6_code 13 = .ok (.aload_n 0, 1) := by decide +kernel
theorem d_XR_neededSteps_14 : decode prog_5_method_6_code 14 = .ok (.getfield 9, 3) := by decide +kernel
theorem d_XR_neededSteps_17 : decode prog_5_method_6_code 17 = .ok (.aload_n 0, 1) := by decide +kernel
theorem d_XR_neededSteps_18 : decode prog_5_method_6_code 18 = .ok (.getfield 19, 3) := by decide +kernel
theorem d_XR_neededSteps_21 : decode prog_5_method_6_code 21 = .ok (.iconst 1, 1) := by decide +kernel
theorem d_XR_neededSteps_22 : decode prog_5_method_6_code 22 = .ok (.isub, 1) := by decide +kernel
theorem d_XR_neededSteps_23 : decode prog_5_method_6_code 23 = .ok (.iaload, 1) := by decide +kernel
theorem d_XR_neededSteps_24 : decode prog_5_method_6_code 24 = .ok (.invokevirtual 47, 3) := by decide +kernel
theorem d_XR_neededSteps_27 : decode prog_5_method_6_code 27 = .ok (.invokestatic 38, 3) := by decide +kernel
theorem d_XR_neededSteps_30 : decode prog_5_method_6_code 30 = .ok (.goto 4, 3) := by decide +kernel
theorem d_XR_neededSteps_33 : decode prog_5_method_6_code 33 = .ok (.iconst 0, 1) := by decide +kernel
theorem d_XR_neededSteps_34 : decode prog_5_method_6_code 34 = .ok (.istore_n 2, 1) := by decide +kernel
theorem d_XR_neededSteps_35 : decode prog_5_method_6_code 35 = .ok (.aload_n 0, 1) := by decide +kernel
theorem d_XR_neededSteps_36 : decode prog_5_method_6_code 36 = .ok (.getfield 19, 3) := by decide +kernel
theorem d_XR_neededSteps_39 : decode prog_5_method_6_code 39 = .ok (.iconst 1, 1) := by decide +kernel
theorem d_XR_neededSteps_40 : decode prog_5_method_6_code 40 = .ok (.isub, 1) := by decide +kernel
theorem d_XR_neededSteps_41 : decode prog_5_method_6_code 41 = .ok (.istore_n 3, 1) := by decide +kernel
theorem d_XR_neededSteps_42 : decode prog_5_method_6_code 42 = .ok (.iload_n 3, 1) := by decide +kernel
theorem d_XR_neededSteps_43 : decode prog_5_method_6_code 43 = .ok (.ifCond .lt 52, 3) := by decide +kernel
theorem d_XR_neededSteps_46 : decode prog_5_method_6_code 46 = .ok (.iload_n 2, 1) := by decide +kernel
theorem d_XR_neededSteps_47 : decode prog_5_method_6_code 47 = .ok (.aload_n 0, 1) := by decide +kernel
theorem d_XR_neededSteps_48 : decode prog_5_method_6_code 48 = .ok (.getfield 25, 3) := by decide +kernel
theorem d_XR_neededSteps_51 : decode prog_5_method_6_code 51 = .ok (.aload_n 0, 1) := by decide +kernel
theorem d_XR_neededSteps_52 : decode prog_5_method_6_code 52 = .ok (.getfield 9, 3) := by decide +kernel
theorem d_XR_neededSteps_55 : decode prog_5_method_6_code 55 = .ok (.iload_n 3, 1) := by decide +kernel
theorem d_XR_neededSteps_56 : decode prog_5_method_6_code 56 = .ok (.iaload, 1) := by decide +kernel
theorem d_XR_neededSteps_57 : decode prog_5_method_6_code 57 = .ok (.invokevirtual 47, 3) := by decide +kernel
theorem d_XR_neededSteps_60 : decode prog_5_method_6_code 60 = .ok (.invokestatic 50, 3) := by decide +kernel
theorem d_XR_neededSteps_63 : decode prog_5_method_6_code 63 = .ok (.ifCond .eq 26, 3) := by decide +kernel
theorem d_XR_neededSteps_66 : decode prog_5_method_6_code 66 = .ok (.iload_n 1, 1) := by decide +kernel
theorem d_XR_neededSteps_67 : decode prog_5_method_6_code 67 = .ok (.iload_n 3, 1) := by decide +kernel
theorem d_XR_neededSteps_68 : decode prog_5_method_6_code 68 = .ok (.invokestatic 38, 3) := by decide +kernel
theorem d_XR_neededSteps_71 : decode prog_5_method_6_code 71 = .ok (.ior, 1) := by decide +kernel
theorem d_XR_neededSteps_72 : decode prog_5_method_6_code 72 = .ok (.istore_n 1, 1) := by decide +kernel
theorem d_XR_neededSteps_73 : decode prog_5_method_6_code 73 = .ok (.iload_n 2, 1) := by decide +kernel
theorem d_XR_neededSteps_74 : decode prog_5_method_6_code 74 = .ok (.aload_n 0, 1) := by decide +kernel
theorem d_XR_neededSteps_75 : decode prog_5_method_6_code 75 = .ok (.getfield 25, 3) := by decide +kernel
theorem d_XR_neededSteps_78 : decode prog_5_method_6_code 78 = .ok (.aload_n 0, 1) := by decide +kernel
theorem d_XR_neededSteps_79 : decode prog_5_method_6_code 79 = .ok (.getfield 9, 3) := by decide +kernel
theorem d_XR_neededSteps_82 : decode prog_5_method_6_code 82 = .ok (.iload_n 3, 1) := by decide +kernel
theorem d_XR_neededSteps_83 : decode prog_5_method_6_code 83 = .ok (.iaload, 1) := by decide +kernel
theorem d_XR_neededSteps_84 : decode prog_5_method_6_code 84 = .ok (.invokevirtual 54, 3) := by decide +kernel
theorem d_XR_neededSteps_87 : decode prog_5_method_6_code 87 = .ok (.ior, 1) := by decide +kernel
theorem d_XR_neededSteps_88 : decode prog_5_method_6_code 88 = .ok (.istore_n 2, 1) := by decide +kernel
theorem d_XR_neededSteps_89 : decode prog_5_method_6_code 89 = .ok (.iinc 3 (-1), 3) := by decide +kernel
theorem d_XR_neededSteps_92 : decode prog_5_method_6_code 92 = .ok (.goto (-50), 3) := by decide +kernel
theorem d_XR_neededSteps_95 : decode prog_5_method_6_code 95 = .ok (.iload_n 1, 1) := by decide +kernel
theorem d_XR_neededSteps_96 : decode prog_5_method_6_code 96 = .ok (.ireturn, 1) := by decide +kernel
theorem d_XR_firedAt_0 : decode prog_5_method_4_code 0 = .ok (.iload_n 1, 1) := by decide +kernel
theorem d_XR_firedAt_1 : decode prog_5_method_4_code 1 = .ok (.ifCond .lt 20, 3) := by decide +kernel
theorem d_XR_firedAt_4 : decode prog_5_method_4_code 4 = .ok (.iload_n 1, 1) := by decide +kernel
theorem d_XR_firedAt_5 : decode prog_5_method_4_code 5 = .ok (.aload_n 0, 1) := by decide +kernel
theorem d_XR_firedAt_6 : decode prog_5_method_4_code 6 = .ok (.getfield 19, 3) := by decide +kernel
theorem d_XR_firedAt_9 : decode prog_5_method_4_code 9 = .ok (.if_icmp .ge 12, 3) := by decide +kernel
theorem d_XR_firedAt_12 : decode prog_5_method_4_code 12 = .ok (.aload_n 0, 1) := by decide +kernel
theorem d_XR_firedAt_13 : decode prog_5_method_4_code 13 = .ok (.getfield 9, 3) := by decide +kernel
theorem d_XR_firedAt_16 : decode prog_5_method_4_code 16 = .ok (.iload_n 1, 1) := by decide +kernel
theorem d_XR_firedAt_17 : decode prog_5_method_4_code 17 = .ok (.iaload, 1) := by decide +kernel
theorem d_XR_firedAt_18 : decode prog_5_method_4_code 18 = .ok (.goto 5, 3) := by decide +kernel
theorem d_XR_firedAt_21 : decode prog_5_method_4_code 21 = .ok (.bipush (-6), 2) := by decide +kernel
theorem d_XR_firedAt_23 : decode prog_5_method_4_code 23 = .ok (.ireturn, 1) := by decide +kernel
theorem d_X_count_0 : decode prog_1_method_18_code 0 = .ok (.iload_n 1, 1) := by decide +kernel
theorem d_X_count_1 : decode prog_1_method_18_code 1 = .ok (.tableswitch 113 0 6 #[43, 48, 56, 61, 66, 78, 91], 43) := by decide +kernel
theorem d_X_count_44 : decode prog_1_method_18_code 44 = .ok (.aload_n 0, 1) := by decide +kernel
theorem d_X_count_45 : decode prog_1_method_18_code 45 = .ok (.getfield 45, 3) := by decide +kernel
theorem d_X_count_48 : decode prog_1_method_18_code 48 = .ok (.ireturn, 1) := by decide +kernel
theorem d_X_count_49 : decode prog_1_method_18_code 49 = .ok (.aload_n 0, 1) := by decide +kernel
theorem d_X_count_50 : decode prog_1_method_18_code 50 = .ok (.getfield 12, 3) := by decide +kernel
theorem d_X_count_53 : decode prog_1_method_18_code 53 = .ok (.invokevirtual 176, 3) := by decide +kernel
theorem d_X_count_56 : decode prog_1_method_18_code 56 = .ok (.ireturn, 1) := by decide +kernel
theorem d_X_count_57 : decode prog_1_method_18_code 57 = .ok (.aload_n 0, 1) := by decide +kernel
theorem d_X_count_58 : decode prog_1_method_18_code 58 = .ok (.getfield 49, 3) := by decide +kernel
theorem d_X_count_61 : decode prog_1_method_18_code 61 = .ok (.ireturn, 1) := by decide +kernel
theorem d_X_count_62 : decode prog_1_method_18_code 62 = .ok (.aload_n 0, 1) := by decide +kernel
theorem d_X_count_63 : decode prog_1_method_18_code 63 = .ok (.getfield 52, 3) := by decide +kernel
theorem d_X_count_66 : decode prog_1_method_18_code 66 = .ok (.ireturn, 1) := by decide +kernel
theorem d_X_count_67 : decode prog_1_method_18_code 67 = .ok (.aload_n 0, 1) := by decide +kernel
theorem d_X_count_68 : decode prog_1_method_18_code 68 = .ok (.getfield 28, 3) := by decide +kernel
theorem d_X_count_71 : decode prog_1_method_18_code 71 = .ok (.aload_n 0, 1) := by decide +kernel
theorem d_X_count_72 : decode prog_1_method_18_code 72 = .ok (.getfield 45, 3) := by decide +kernel
theorem d_X_count_75 : decode prog_1_method_18_code 75 = .ok (.invokevirtual 106, 3) := by decide +kernel
theorem d_X_count_78 : decode prog_1_method_18_code 78 = .ok (.ireturn, 1) := by decide +kernel
theorem d_X_count_79 : decode prog_1_method_18_code 79 = .ok (.aload_n 0, 1) := by decide +kernel
theorem d_X_count_80 : decode prog_1_method_18_code 80 = .ok (.getfield 55, 3) := by decide +kernel
theorem d_X_count_83 : decode prog_1_method_18_code 83 = .ok (.ifCond .eq 7, 3) := by decide +kernel
theorem d_X_count_86 : decode prog_1_method_18_code 86 = .ok (.iconst 1, 1) := by decide +kernel
theorem d_X_count_87 : decode prog_1_method_18_code 87 = .ok (.goto 4, 3) := by decide +kernel
theorem d_X_count_90 : decode prog_1_method_18_code 90 = .ok (.iconst 0, 1) := by decide +kernel
theorem d_X_count_91 : decode prog_1_method_18_code 91 = .ok (.ireturn, 1) := by decide +kernel
theorem d_X_count_92 : decode prog_1_method_18_code 92 = .ok (.aload_n 0, 1) := by decide +kernel
theorem d_X_count_93 : decode prog_1_method_18_code 93 = .ok (.getfield 55, 3) := by decide +kernel
theorem d_X_count_96 : decode prog_1_method_18_code 96 = .ok (.ifCond .eq 16, 3) := by decide +kernel
theorem d_X_count_99 : decode prog_1_method_18_code 99 = .ok (.aload_n 0, 1) := by decide +kernel
theorem d_X_count_100 : decode prog_1_method_18_code 100 = .ok (.getfield 37, 3) := by decide +kernel
theorem d_X_count_103 : decode prog_1_method_18_code 103 = .ok (.invokevirtual 179, 3) := by decide +kernel
theorem d_X_count_106 : decode prog_1_method_18_code 106 = .ok (.invokestatic 152, 3) := by decide +kernel
theorem d_X_count_109 : decode prog_1_method_18_code 109 = .ok (.goto 4, 3) := by decide +kernel
theorem d_X_count_112 : decode prog_1_method_18_code 112 = .ok (.iconst 0, 1) := by decide +kernel
theorem d_X_count_113 : decode prog_1_method_18_code 113 = .ok (.ireturn, 1) := by decide +kernel
theorem d_X_count_114 : decode prog_1_method_18_code 114 = .ok (.bipush (-2), 2) := by decide +kernel
theorem d_X_count_116 : decode prog_1_method_18_code 116 = .ok (.ireturn, 1) := by decide +kernel
theorem d_XA_thereNow_0 : decode prog_2_method_4_code 0 = .ok (.aload_n 0, 1) := by decide +kernel
theorem d_XA_thereNow_1 : decode prog_2_method_4_code 1 = .ok (.getfield 22, 3) := by decide +kernel
theorem d_XA_thereNow_4 : decode prog_2_method_4_code 4 = .ok (.ireturn, 1) := by decide +kernel
theorem d_XO_placedClasses_0 : decode prog_4_method_2_code 0 = .ok (.aload_n 0, 1) := by decide +kernel
theorem d_XO_placedClasses_1 : decode prog_4_method_2_code 1 = .ok (.getfield 9, 3) := by decide +kernel
theorem d_XO_placedClasses_4 : decode prog_4_method_2_code 4 = .ok (.ireturn, 1) := by decide +kernel
theorem d_M_class0_0 : decode prog_7_method_15_code 0 = .ok (.aload_n 0, 1) := by decide +kernel
theorem d_M_class0_1 : decode prog_7_method_15_code 1 = .ok (.getfield 60, 3) := by decide +kernel
theorem d_M_class0_4 : decode prog_7_method_15_code 4 = .ok (.bipush 20, 2) := by decide +kernel
theorem d_M_class0_6 : decode prog_7_method_15_code 6 = .ok (.if_icmp .ne 6, 3) := by decide +kernel
theorem d_M_class0_9 : decode prog_7_method_15_code 9 = .ok (.bipush (-4), 2) := by decide +kernel
theorem d_M_class0_11 : decode prog_7_method_15_code 11 = .ok (.ireturn, 1) := by decide +kernel
theorem d_M_class0_12 : decode prog_7_method_15_code 12 = .ok (.aload_n 0, 1) := by decide +kernel
theorem d_M_class0_13 : decode prog_7_method_15_code 13 = .ok (.dup, 1) := by decide +kernel
theorem d_M_class0_14 : decode prog_7_method_15_code 14 = .ok (.getfield 60, 3) := by decide +kernel
theorem d_M_class0_17 : decode prog_7_method_15_code 17 = .ok (.iconst 1, 1) := by decide +kernel
theorem d_M_class0_18 : decode prog_7_method_15_code 18 = .ok (.iadd, 1) := by decide +kernel
theorem d_M_class0_19 : decode prog_7_method_15_code 19 = .ok (.putfield 60, 3) := by decide +kernel
theorem d_M_class0_22 : decode prog_7_method_15_code 22 = .ok (.aload_n 0, 1) := by decide +kernel
theorem d_M_class0_23 : decode prog_7_method_15_code 23 = .ok (.iconst 0, 1) := by decide +kernel
theorem d_M_class0_24 : decode prog_7_method_15_code 24 = .ok (.putfield 97, 3) := by decide +kernel
theorem d_M_class0_27 : decode prog_7_method_15_code 27 = .ok (.aload_n 0, 1) := by decide +kernel
theorem d_M_class0_28 : decode prog_7_method_15_code 28 = .ok (.invokevirtual 101, 3) := by decide +kernel
theorem d_M_class0_31 : decode prog_7_method_15_code 31 = .ok (.aload_n 0, 1) := by decide +kernel
theorem d_M_class0_32 : decode prog_7_method_15_code 32 = .ok (.getfield 60, 3) := by decide +kernel
theorem d_M_class0_35 : decode prog_7_method_15_code 35 = .ok (.iconst 1, 1) := by decide +kernel
theorem d_M_class0_36 : decode prog_7_method_15_code 36 = .ok (.isub, 1) := by decide +kernel
theorem d_M_class0_37 : decode prog_7_method_15_code 37 = .ok (.ireturn, 1) := by decide +kernel
theorem d_M_close_0 : decode prog_7_method_11_code 0 = .ok (.aload_n 0, 1) := by decide +kernel
theorem d_M_close_1 : decode prog_7_method_11_code 1 = .ok (.invokevirtual 83, 3) := by decide +kernel
theorem d_M_close_4 : decode prog_7_method_11_code 4 = .ok (.iconst 1, 1) := by decide +kernel
theorem d_M_close_5 : decode prog_7_method_11_code 5 = .ok (.istore_n 1, 1) := by decide +kernel
theorem d_M_close_6 : decode prog_7_method_11_code 6 = .ok (.iload_n 1, 1) := by decide +kernel
theorem d_M_close_7 : decode prog_7_method_11_code 7 = .ok (.ifCond .eq 11, 3) := by decide +kernel
theorem d_M_close_10 : decode prog_7_method_11_code 10 = .ok (.aload_n 0, 1) := by decide +kernel
theorem d_M_close_11 : decode prog_7_method_11_code 11 = .ok (.invokevirtual 86, 3) := by decide +kernel
theorem d_M_close_14 : decode prog_7_method_11_code 14 = .ok (.istore_n 1, 1) := by decide +kernel
theorem d_M_close_15 : decode prog_7_method_11_code 15 = .ok (.goto (-9), 3) := by decide +kernel
