theorem d_X_class0_0 : decode prog_1_method_2_code 0 = .ok (.aload_n 0, 1) := by decide +kernel
theorem d_X_class0_1 : decode prog_1_method_2_code 1 = .ok (.getfield 45, 3) := by decide +kernel
theorem d_X_class0_4 : decode prog_1_method_2_code 4 = .ok (.bipush 20, 2) := by decide +kernel
theorem d_X_class0_6 : decode prog_1_method_2_code 6 = .ok (.if_icmp .lt 6, 3) := by decide +kernel
theorem d_X_class0_9 : decode prog_1_method_2_code 9 = .ok (.bipush (-4), 2) := by decide +kernel
theorem d_X_class0_11 : decode prog_1_method_2_code 11 = .ok (.ireturn, 1) := by decide +kernel
theorem d_X_class0_12 : decode prog_1_method_2_code 12 = .ok (.aload_n 0, 1) := by decide +kernel
theorem d_X_class0_13 : decode prog_1_method_2_code 13 = .ok (.getfield 28, 3) := by decide +kernel
theorem d_X_class0_16 : decode prog_1_method_2_code 16 = .ok (.aload_n 0, 1) := by decide +kernel
theorem d_X_class0_17 : decode prog_1_method_2_code 17 = .ok (.getfield 45, 3) := by decide +kernel
theorem d_X_class0_20 : decode prog_1_method_2_code 20 = .ok (.invokevirtual 59, 3) := by decide +kernel
theorem d_X_class0_23 : decode prog_1_method_2_code 23 = .ok (.aload_n 0, 1) := by decide +kernel
theorem d_X_class0_24 : decode prog_1_method_2_code 24 = .ok (.iconst 0, 1) := by decide +kernel
theorem d_X_class0_25 : decode prog_1_method_2_code 25 = .ok (.putfield 55, 3) := by decide +kernel
theorem d_X_class0_28 : decode prog_1_method_2_code 28 = .ok (.aload_n 0, 1) := by decide +kernel
theorem d_X_class0_29 : decode prog_1_method_2_code 29 = .ok (.dup, 1) := by decide +kernel
theorem d_X_class0_30 : decode prog_1_method_2_code 30 = .ok (.getfield 45, 3) := by decide +kernel
theorem d_X_class0_33 : decode prog_1_method_2_code 33 = .ok (.iconst 1, 1) := by decide +kernel
theorem d_X_class0_34 : decode prog_1_method_2_code 34 = .ok (.iadd, 1) := by decide +kernel
theorem d_X_class0_35 : decode prog_1_method_2_code 35 = .ok (.putfield 45, 3) := by decide +kernel
theorem d_X_class0_38 : decode prog_1_method_2_code 38 = .ok (.aload_n 0, 1) := by decide +kernel
theorem d_X_class0_39 : decode prog_1_method_2_code 39 = .ok (.getfield 45, 3) := by decide +kernel
theorem d_X_class0_42 : decode prog_1_method_2_code 42 = .ok (.iconst 1, 1) := by decide +kernel
theorem d_X_class0_43 : decode prog_1_method_2_code 43 = .ok (.isub, 1) := by decide +kernel
theorem d_X_class0_44 : decode prog_1_method_2_code 44 = .ok (.ireturn, 1) := by decide +kernel
theorem d_XK_addClass_0 : decode prog_3_method_2_code 0 = .ok (.aload_n 0, 1) := by decide +kernel
theorem d_XK_addClass_1 : decode prog_3_method_2_code 1 = .ok (.getfield 9, 3) := by decide +kernel
theorem d_XK_addClass_4 : decode prog_3_method_2_code 4 = .ok (.iload_n 1, 1) := by decide +kernel
theorem d_XK_addClass_5 : decode prog_3_method_2_code 5 = .ok (.iload_n 1, 1) := by decide +kernel
theorem d_XK_addClass_6 : decode prog_3_method_2_code 6 = .ok (.invokestatic 24, 3) := by decide +kernel
theorem d_XK_addClass_9 : decode prog_3_method_2_code 9 = .ok (.iastore, 1) := by decide +kernel
theorem d_XK_addClass_10 : decode prog_3_method_2_code 10 = .ok (.aload_n 0, 1) := by decide +kernel
theorem d_XK_addClass_11 : decode prog_3_method_2_code 11 = .ok (.getfield 15, 3) := by decide +kernel
theorem d_XK_addClass_14 : decode prog_3_method_2_code 14 = .ok (.iload_n 1, 1) := by decide +kernel
theorem d_XK_addClass_15 : decode prog_3_method_2_code 15 = .ok (.iload_n 1, 1) := by decide +kernel
theorem d_XK_addClass_16 : decode prog_3_method_2_code 16 = .ok (.invokestatic 24, 3) := by decide +kernel
theorem d_XK_addClass_19 : decode prog_3_method_2_code 19 = .ok (.iastore, 1) := by decide +kernel
theorem d_XK_addClass_20 : decode prog_3_method_2_code 20 = .ok (.aload_n 0, 1) := by decide +kernel
theorem d_XK_addClass_21 : decode prog_3_method_2_code 21 = .ok (.bipush 20, 2) := by decide +kernel
theorem d_XK_addClass_23 : decode prog_3_method_2_code 23 = .ok (.iload_n 1, 1) := by decide +kernel
theorem d_XK_addClass_24 : decode prog_3_method_2_code 24 = .ok (.invokevirtual 28, 3) := by decide +kernel
theorem d_XK_addClass_27 : decode prog_3_method_2_code 27 = .ok (.aload_n 0, 1) := by decide +kernel
theorem d_XK_addClass_28 : decode prog_3_method_2_code 28 = .ok (.invokevirtual 32, 3) := by decide +kernel
theorem d_XK_addClass_31 : decode prog_3_method_2_code 31 = .ok (.return_, 1) := by decide +kernel
theorem d_X_bit_0 : decode prog_1_method_24_code 0 = .ok (.iconst 1, 1) := by decide +kernel
theorem d_X_bit_1 : decode prog_1_method_24_code 1 = .ok (.iload_n 0, 1) := by decide +kernel
theorem d_X_bit_2 : decode prog_1_method_24_code 2 = .ok (.ishl, 1) := by decide +kernel
theorem d_X_bit_3 : decode prog_1_method_24_code 3 = .ok (.ireturn, 1) := by decide +kernel
theorem d_XK_tellYes_0 : decode prog_3_method_11_code 0 = .ok (.aload_n 0, 1) := by decide +kernel
theorem d_XK_tellYes_1 : decode prog_3_method_11_code 1 = .ok (.getfield 9, 3) := by decide +kernel
theorem d_XK_tellYes_4 : decode prog_3_method_11_code 4 = .ok (.iload_n 1, 1) := by decide +kernel
theorem d_XK_tellYes_5 : decode prog_3_method_11_code 5 = .ok (.iaload, 1) := by decide +kernel
theorem d_XK_tellYes_6 : decode prog_3_method_11_code 6 = .ok (.iload_n 2, 1) := by decide +kernel
theorem d_XK_tellYes_7 : decode prog_3_method_11_code 7 = .ok (.invokestatic 35, 3) := by decide +kernel
theorem d_XK_tellYes_10 : decode prog_3_method_11_code 10 = .ok (.ifCond .eq 4, 3) := by decide +kernel
theorem d_XK_tellYes_13 : decode prog_3_method_11_code 13 = .ok (.return_, 1) := by decide +kernel
theorem d_XK_tellYes_14 : decode prog_3_method_11_code 14 = .ok (.aload_n 0, 1) := by decide +kernel
theorem d_XK_tellYes_15 : decode prog_3_method_11_code 15 = .ok (.getfield 15, 3) := by decide +kernel
theorem d_XK_tellYes_18 : decode prog_3_method_11_code 18 = .ok (.iload_n 1, 1) := by decide +kernel
theorem d_XK_tellYes_19 : decode prog_3_method_11_code 19 = .ok (.iaload, 1) := by decide +kernel
theorem d_XK_tellYes_20 : decode prog_3_method_11_code 20 = .ok (.istore_n 3, 1) := by decide +kernel
theorem d_XK_tellYes_21 : decode prog_3_method_11_code 21 = .ok (.aload_n 0, 1) := by decide +kernel
theorem d_XK_tellYes_22 : decode prog_3_method_11_code 22 = .ok (.getfield 9, 3) := by decide +kernel
theorem d_XK_tellYes_25 : decode prog_3_method_11_code 25 = .ok (.iload_n 2, 1) := by decide +kernel
theorem d_XK_tellYes_26 : decode prog_3_method_11_code 26 = .ok (.iaload, 1) := by decide +kernel
theorem d_XK_tellYes_27 : decode prog_3_method_11_code 27 = .ok (.istore 4, 2) := by decide +kernel
theorem d_XK_tellYes_29 : decode prog_3_method_11_code 29 = .ok (.iconst 0, 1) := by decide +kernel
theorem d_XK_tellYes_30 : decode prog_3_method_11_code 30 = .ok (.istore 5, 2) := by decide +kernel
theorem d_XK_tellYes_32 : decode prog_3_method_11_code 32 = .ok (.iload 5, 2) := by decide +kernel
theorem d_XK_tellYes_34 : decode prog_3_method_11_code 34 = .ok (.bipush 21, 2) := by decide +kernel
theorem d_XK_tellYes_36 : decode prog_3_method_11_code 36 = .ok (.if_icmp .ge 51, 3) := by decide +kernel
theorem d_XK_tellYes_39 : decode prog_3_method_11_code 39 = .ok (.iload_n 3, 1) := by decide +kernel
theorem d_XK_tellYes_40 : decode prog_3_method_11_code 40 = .ok (.iload 5, 2) := by decide +kernel
theorem d_XK_tellYes_42 : decode prog_3_method_11_code 42 = .ok (.invokestatic 35, 3) := by decide +kernel
theorem d_XK_tellYes_45 : decode prog_3_method_11_code 45 = .ok (.ifCond .eq 15, 3) := by decide +kernel
theorem d_XK_tellYes_48 : decode prog_3_method_11_code 48 = .ok (.aload_n 0, 1) := by decide +kernel
theorem d_XK_tellYes_49 : decode prog_3_method_11_code 49 = .ok (.getfield 9, 3) := by decide +kernel
theorem d_XK_tellYes_52 : decode prog_3_method_11_code 52 = .ok (.iload 5, 2) := by decide +kernel
theorem d_XK_tellYes_54 : decode prog_3_method_11_code 54 = .ok (.dup2, 1) := by decide +kernel
theorem d_XK_tellYes_55 : decode prog_3_method_11_code 55 = .ok (.iaload, 1) := by decide +kernel
theorem d_XK_tellYes_56 : decode prog_3_method_11_code 56 = .ok (.iload 4, 2) := by decide +kernel
theorem d_XK_tellYes_58 : decode prog_3_method_11_code 58 = .ok (.ior, 1) := by decide +kernel
theorem d_XK_tellYes_59 : decode prog_3_method_11_code 59 = .ok (.iastore, 1) := by decide +kernel
theorem d_XK_tellYes_60 : decode prog_3_method_11_code 60 = .ok (.iload 4, 2) := by decide +kernel
theorem d_XK_tellYes_62 : decode prog_3_method_11_code 62 = .ok (.iload 5, 2) := by decide +kernel
theorem d_XK_tellYes_64 : decode prog_3_method_11_code 64 = .ok (.invokestatic 35, 3) := by decide +kernel
theorem d_XK_tellYes_67 : decode prog_3_method_11_code 67 = .ok (.ifCond .eq 14, 3) := by decide +kernel
theorem d_XK_tellYes_70 : decode prog_3_method_11_code 70 = .ok (.aload_n 0, 1) := by decide +kernel
theorem d_XK_tellYes_71 : decode prog_3_method_11_code 71 = .ok (.getfield 15, 3) := by decide +kernel
theorem d_XK_tellYes_74 : decode prog_3_method_11_code 74 = .ok (.iload 5, 2) := by decide +kernel
theorem d_XK_tellYes_76 : decode prog_3_method_11_code 76 = .ok (.dup2, 1) := by decide +kernel
theorem d_XK_tellYes_77 : decode prog_3_method_11_code 77 = .ok (.iaload, 1) := by decide +kernel
theorem d_XK_tellYes_78 : decode prog_3_method_11_code 78 = .ok (.iload_n 3, 1) := by decide +kernel
theorem d_XK_tellYes_79 : decode prog_3_method_11_code 79 = .ok (.ior, 1) := by decide +kernel
theorem d_XK_tellYes_80 : decode prog_3_method_11_code 80 = .ok (.iastore, 1) := by decide +kernel
theorem d_XK_tellYes_81 : decode prog_3_method_11_code 81 = .ok (.iinc 5 1, 3) := by decide +kernel
theorem d_XK_tellYes_84 : decode prog_3_method_11_code 84 = .ok (.goto (-52), 3) := by decide +kernel
theorem d_XK_tellYes_87 : decode prog_3_method_11_code 87 = .ok (.return_, 1) := by decide +kernel
theorem d_X_has_0 : decode prog_1_method_25_code 0 = .ok (.iload_n 0, 1) := by decide +kernel
theorem d_X_has_1 : decode prog_1_method_25_code 1 = .ok (.iload_n 1, 1) := by decide +kernel
theorem d_X_has_2 : decode prog_1_method_25_code 2 = .ok (.invokestatic 74, 3) := by decide +kernel
theorem d_X_has_5 : decode prog_1_method_25_code 5 = .ok (.iand, 1) := by decide +kernel
theorem d_X_has_6 : decode prog_1_method_25_code 6 = .ok (.ifCond .eq 7, 3) := by decide +kernel
theorem d_X_has_9 : decode prog_1_method_25_code 9 = .ok (.iconst 1, 1) := by decide +kernel
theorem d_X_has_10 : decode prog_1_method_25_code 10 = .ok (.goto 4, 3) := by decide +kernel
theorem d_X_has_13 : decode prog_1_method_25_code 13 = .ok (.iconst 0, 1) := by decide +kernel
theorem d_X_has_14 : decode prog_1_method_25_code 14 = .ok (.ireturn, 1) := by decide +kernel
theorem d_XK_close_0 : decode prog_3_method_12_code 0 = .ok (.iconst 0, 1) := by decide +kernel
theorem d_XK_close_1 : decode prog_3_method_12_code 1 = .ok (.istore_n 1, 1) := by decide +kernel
theorem d_XK_close_2 : decode prog_3_method_12_code 2 = .ok (.iload_n 1, 1) := by decide +kernel
theorem d_XK_close_3 : decode prog_3_method_12_code 3 = .ok (.bipush 21, 2) := by decide +kernel
theorem d_XK_close_5 : decode prog_3_method_12_code 5 = .ok (.if_icmp .ge 61, 3) := by decide +kernel
theorem d_XK_close_8 : decode prog_3_method_12_code 8 = .ok (.aload_n 0, 1) := by decide +kernel
theorem d_XK_close_9 : decode prog_3_method_12_code 9 = .ok (.getfield 18, 3) := by decide +kernel
theorem d_XK_close_12 : decode prog_3_method_12_code 12 = .ok (.aload_n 0, 1) := by decide +kernel
theorem d_XK_close_13 : decode prog_3_method_12_code 13 = .ok (.getfield 15, 3) := by decide +kernel
theorem d_XK_close_16 : decode prog_3_method_12_code 16 = .ok (.iload_n 1, 1) := by decide +kernel
theorem d_XK_close_17 : decode prog_3_method_12_code 17 = .ok (.iaload, 1) := by decide +kernel
theorem d_XK_close_18 : decode prog_3_method_12_code 18 = .ok (.invokestatic 39, 3) := by decide +kernel
theorem d_XK_close_21 : decode prog_3_method_12_code 21 = .ok (.istore_n 2, 1) := by decide +kernel
theorem d_XK_close_22 : decode prog_3_method_12_code 22 = .ok (.aload_n 0, 1) := by decide +kernel
theorem d_XK_close_23 : decode prog_3_method_12_code 23 = .ok (.getfield 18, 3) := by decide +kernel
theorem d_XK_close_26 : decode prog_3_method_12_code 26 = .ok (.iload_n 1, 1) := by decide +kernel
theorem d_XK_close_27 : decode prog_3_method_12_code 27 = .ok (.aload_n 0, 1) := by decide +kernel
theorem d_XK_close_28 : decode prog_3_method_12_code 28 = .ok (.getfield 15, 3) := by decide +kernel
theorem d_XK_close_31 : decode prog_3_method_12_code 31 = .ok (.iload_n 2, 1) := by decide +kernel
theorem d_XK_close_32 : decode prog_3_method_12_code 32 = .ok (.invokestatic 39, 3) := by decide +kernel
theorem d_XK_close_35 : decode prog_3_method_12_code 35 = .ok (.iastore, 1) := by decide +kernel
theorem d_XK_close_36 : decode prog_3_method_12_code 36 = .ok (.aload_n 0, 1) := by decide +kernel
theorem d_XK_close_37 : decode prog_3_method_12_code 37 = .ok (.getfield 21, 3) := by decide +kernel
theorem d_XK_close_40 : decode prog_3_method_12_code 40 = .ok (.iload_n 1, 1) := by decide +kernel
theorem d_XK_close_41 : decode prog_3_method_12_code 41 = .ok (.dup2, 1) := by decide +kernel
theorem d_XK_close_42 : decode prog_3_method_12_code 42 = .ok (.iaload, 1) := by decide +kernel
theorem d_XK_close_43 : decode prog_3_method_12_code 43 = .ok (.aload_n 0, 1) := by decide +kernel
theorem d_XK_close_44 : decode prog_3_method_12_code 44 = .ok (.getfield 9, 3) := by decide +kernel
theorem d_XK_close_47 : decode prog_3_method_12_code 47 = .ok (.iload_n 1, 1) := by decide +kernel
theorem d_XK_close_48 : decode prog_3_method_12_code 48 = .ok (.iaload, 1) := by decide +kernel
theorem d_XK_close_49 : decode prog_3_method_12_code 49 = .ok (.aload_n 0, 1) := by decide +kernel
theorem d_XK_close_50 : decode prog_3_method_12_code 50 = .ok (.getfield 18, 3) := by decide +kernel
theorem d_XK_close_53 : decode prog_3_method_12_code 53 = .ok (.iload_n 1, 1) := by decide +kernel
theorem d_XK_close_54 : decode prog_3_method_12_code 54 = .ok (.iaload, 1) := by decide +kernel
theorem d_XK_close_55 : decode prog_3_method_12_code 55 = .ok (.ior, 1) := by decide +kernel
theorem d_XK_close_56 : decode prog_3_method_12_code 56 = .ok (.iconst (-1), 1) := by decide +kernel
theorem d_XK_close_57 : decode prog_3_method_12_code 57 = .ok (.ixor, 1) := by decide +kernel
theorem d_XK_close_58 : decode prog_3_method_12_code 58 = .ok (.iand, 1) := by decide +kernel
theorem d_XK_close_59 : decode prog_3_method_12_code 59 = .ok (.iastore, 1) := by decide +kernel
theorem d_XK_close_60 : decode prog_3_method_12_code 60 = .ok (.iinc 1 1, 3) := by decide +kernel
theorem d_XK_close_63 : decode prog_3_method_12_code 63 = .ok (.goto (-61), 3) := by decide +kernel
theorem d_XK_close_66 : decode prog_3_method_12_code 66 = .ok (.return_, 1) := by decide +kernel
theorem d_XK_union_0 : decode prog_3_method_18_code 0 = .ok (.iconst 0, 1) := by decide +kernel
theorem d_XK_union_1 : decode prog_3_method_18_code 1 = .ok (.istore_n 2, 1) := by decide +kernel
theorem d_XK_union_2 : decode prog_3_method_18_code 2 = .ok (.iconst 0, 1) := by decide +kernel
theorem d_XK_union_3 : decode prog_3_method_18_code 3 = .ok (.istore_n 3, 1) := by decide +kernel
theorem d_XK_union_4 : decode prog_3_method_18_code 4 = .ok (.iload_n 3, 1) := by decide +kernel
theorem d_XK_union_5 : decode prog_3_method_18_code 5 = .ok (.bipush 21, 2) := by decide +kernel
theorem d_XK_union_7 : decode prog_3_method_18_code 7 = .ok (.if_icmp .ge 23, 3) := by decide +kernel
theorem d_XK_union_10 : decode prog_3_method_18_code 10 = .ok (.iload_n 1, 1) := by decide +kernel
theorem d_XK_union_11 : decode prog_3_method_18_code 11 = .ok (.iload_n 3, 1) := by decide +kernel
theorem d_XK_union_12 : decode prog_3_method_18_code 12 = .ok (.invokestatic 35, 3) := by decide +kernel
theorem d_XK_union_15 : decode prog_3_method_18_code 15 = .ok (.ifCond .eq 9, 3) := by decide +kernel
theorem d_XK_union_18 : decode prog_3_method_18_code 18 = .ok (.iload_n 2, 1) := by decide +kernel
theorem d_XK_union_19 : decode prog_3_method_18_code 19 = .ok (.aload_n 0, 1) := by decide +kernel
theorem d_XK_union_20 : decode prog_3_method_18_code 20 = .ok (.iload_n 3, 1) := by decide +kernel
theorem d_XK_union_21 : decode prog_3_method_18_code 21 = .ok (.iaload, 1) := by decide +kernel
theorem d_XK_union_22 : decode prog_3_method_18_code 22 = .ok (.ior, 1) := by decide +kernel
theorem d_XK_union_23 : decode prog_3_method_18_code 23 = .ok (.istore_n 2, 1) := by decide +kernel
theorem d_XK_union_24 : decode prog_3_method_18_code 24 = .ok (.iinc 3 1, 3) := by decide +kernel
theorem d_XK_union_27 : decode prog_3_method_18_code 27 = .ok (.goto (-23), 3) := by decide +kernel
theorem d_XK_union_30 : decode prog_3_method_18_code 30 = .ok (.iload_n 2, 1) := by decide +kernel
theorem d_XK_union_31 : decode prog_3_method_18_code 31 = .ok (.ireturn, 1) := by decide +kernel
theorem d_X_thing_0 : decode prog_1_method_3_code 0 = .ok (.aload_n 0, 1) := by decide +kernel
theorem d_X_thing_1 : decode prog_1_method_3_code 1 = .ok (.getfield 49, 3) := by decide +kernel
theorem d_X_thing_4 : decode prog_1_method_3_code 4 = .ok (.bipush 8, 2) := by decide +kernel
theorem d_X_thing_6 : decode prog_1_method_3_code 6 = .ok (.if_icmp .lt 6, 3) := by decide +kernel
theorem d_X_thing_9 : decode prog_1_method_3_code 9 = .ok (.bipush (-4), 2) := by decide +kernel
theorem d_X_thing_11 : decode prog_1_method_3_code 11 = .ok (.ireturn, 1) := by decide +kernel
theorem d_X_thing_12 : decode prog_1_method_3_code 12 = .ok (.aload_n 0, 1) := by decide +kernel
theorem d_X_thing_13 : decode prog_1_method_3_code 13 = .ok (.dup, 1) := by decide +kernel
theorem d_X_thing_14 : decode prog_1_method_3_code 14 = .ok (.getfield 49, 3) := by decide +kernel
theorem d_X_thing_17 : decode prog_1_method_3_code 17 = .ok (.iconst 1, 1) := by decide +kernel
theorem d_X_thing_18 : decode prog_1_method_3_code 18 = .ok (.iadd, 1) := by decide +kernel
theorem d_X_thing_19 : decode prog_1_method_3_code 19 = .ok (.putfield 49, 3) := by decide +kernel
theorem d_X_thing_22 : decode prog_1_method_3_code 22 = .ok (.aload_n 0, 1) := by decide +kernel
theorem d_X_thing_23 : decode prog_1_method_3_code 23 = .ok (.getfield 49, 3) := by decide +kernel
theorem d_X_thing_26 : decode prog_1_method_3_code 26 = .ok (.iconst 1, 1) := by decide +kernel
theorem d_X_thing_27 : decode prog_1_method_3_code 27 = .ok (.isub, 1) := by decide +kernel
theorem d_X_thing_28 : decode prog_1_method_3_code 28 = .ok (.ireturn, 1) := by decide +kernel
theorem d_X_axiom_0 : decode prog_1_method_4_code 0 = .ok (.iload_n 2, 1) := by decide +kernel
theorem d_X_axiom_1 : decode prog_1_method_4_code 1 = .ok (.iconst (-1), 1) := by decide +kernel
theorem d_X_axiom_2 : decode prog_1_method_4_code 2 = .ok (.if_icmp .ne 7, 3) := by decide +kernel
theorem d_X_axiom_5 : decode prog_1_method_4_code 5 = .ok (.iconst 1, 1) := by decide +kernel
theorem d_X_axiom_6 : decode prog_1_method_4_code 6 = .ok (.goto 4, 3) := by decide +kernel
theorem d_X_axiom_9 : decode prog_1_method_4_code 9 = .ok (.iconst 0, 1) := by decide +kernel
theorem d_X_axiom_10 : decode prog_1_method_4_code 10 = .ok (.istore 4, 2) := by decide +kernel
theorem d_X_axiom_12 : decode prog_1_method_4_code 12 = .ok (.aload_n 0, 1) := by decide +kernel
theorem d_X_axiom_13 : decode prog_1_method_4_code 13 = .ok (.iload_n 1, 1) := by decide +kernel
theorem d_X_axiom_14 : decode prog_1_method_4_code 14 = .ok (.invokevirtual 63, 3) := by decide +kernel
theorem d_X_axiom_17 : decode prog_1_method_4_code 17 = .ok (.ifCond .eq 24, 3) := by decide +kernel
theorem d_X_axiom_20 : decode prog_1_method_4_code 20 = .ok (.iload 4, 2) := by decide +kernel
theorem d_X_axiom_22 : decode prog_1_method_4_code 22 = .ok (.ifCond .ne 11, 3) := by decide +kernel
theorem d_X_axiom_25 : decode prog_1_method_4_code 25 = .ok (.aload_n 0, 1) := by decide +kernel
theorem d_X_axiom_26 : decode prog_1_method_4_code 26 = .ok (.iload_n 2, 1) := by decide +kernel
theorem d_X_axiom_27 : decode prog_1_method_4_code 27 = .ok (.invokevirtual 63, 3) := by decide +kernel
theorem d_X_axiom_30 : decode prog_1_method_4_code 30 = .ok (.ifCond .eq 11, 3) := by decide +kernel
theorem d_X_axiom_33 : decode prog_1_method_4_code 33 = .ok (.aload_n 0, 1) := by decide +kernel
theorem d_X_axiom_34 : decode prog_1_method_4_code 34 = .ok (.iload_n 3, 1) := by decide +kernel
theorem d_X_axiom_35 : decode prog_1_method_4_code 35 = .ok (.invokevirtual 67, 3) := by decide +kernel
theorem d_X_axiom_38 : decode prog_1_method_4_code 38 = .ok (.ifCond .ne 5, 3) := by decide +kernel
theorem d_X_axiom_41 : decode prog_1_method_4_code 41 = .ok (.iconst (-1), 1) := by decide +kernel
theorem d_X_axiom_42 : decode prog_1_method_4_code 42 = .ok (.ireturn, 1) := by decide +kernel
theorem d_X_axiom_43 : decode prog_1_method_4_code 43 = .ok (.iload_n 2, 1) := by decide +kernel
theorem d_X_axiom_44 : decode prog_1_method_4_code 44 = .ok (.iload_n 1, 1) := by decide +kernel
theorem d_X_axiom_45 : decode prog_1_method_4_code 45 = .ok (.if_icmp .ne 6, 3) := by decide +kernel
theorem d_X_axiom_48 : decode prog_1_method_4_code 48 = .ok (.bipush (-2), 2) := by decide +kernel
theorem d_X_axiom_50 : decode prog_1_method_4_code 50 = .ok (.ireturn, 1) := by decide +kernel
theorem d_X_axiom_51 : decode prog_1_method_4_code 51 = .ok (.aload_n 0, 1) := by decide +kernel
theorem d_X_axiom_52 : decode prog_1_method_4_code 52 = .ok (.getfield 12, 3) := by decide +kernel
theorem d_X_axiom_55 : decode prog_1_method_4_code 55 = .ok (.invokevirtual 70, 3) := by decide +kernel
theorem d_X_axiom_58 : decode prog_1_method_4_code 58 = .ok (.ifCond .eq 6, 3) := by decide +kernel
theorem d_X_axiom_61 : decode prog_1_method_4_code 61 = .ok (.bipush (-4), 2) := by decide +kernel
theorem d_X_axiom_63 : decode prog_1_method_4_code 63 = .ok (.ireturn, 1) := by decide +kernel
theorem d_X_axiom_64 : decode prog_1_method_4_code 64 = .ok (.aload_n 0, 1) := by decide +kernel
theorem d_X_axiom_65 : decode prog_1_method_4_code 65 = .ok (.getfield 12, 3) := by decide +kernel
theorem d_X_axiom_68 : decode prog_1_method_4_code 68 = .ok (.iload 4, 2) := by decide +kernel
theorem d_X_axiom_70 : decode prog_1_method_4_code 70 = .ok (.ifCond .eq 10, 3) := by decide +kernel
theorem d_X_axiom_73 : decode prog_1_method_4_code 73 = .ok (.iload_n 1, 1) := by decide +kernel
theorem d_X_axiom_74 : decode prog_1_method_4_code 74 = .ok (.invokestatic 74, 3) := by decide +kernel
theorem d_X_axiom_77 : decode prog_1_method_4_code 77 = .ok (.goto 12, 3) := by decide +kernel
theorem d_X_axiom_80 : decode prog_1_method_4_code 80 = .ok (.iload_n 1, 1) := by decide +kernel
theorem d_X_axiom_81 : decode prog_1_method_4_code 81 = .ok (.invokestatic 74, 3) := by decide +kernel
theorem d_X_axiom_84 : decode prog_1_method_4_code 84 = .ok (.iload_n 2, 1) := by decide +kernel
theorem d_X_axiom_85 : decode prog_1_method_4_code 85 = .ok (.invokestatic 74, 3) := by decide +kernel
theorem d_X_axiom_88 : decode prog_1_method_4_code 88 = .ok (.ior, 1) := by decide +kernel
theorem d_X_axiom_89 : decode prog_1_method_4_code 89 = .ok (.iload_n 3, 1) := by decide +kernel
theorem d_X_axiom_90 : decode prog_1_method_4_code 90 = .ok (.invokestatic 78, 3) := by decide +kernel
theorem d_X_axiom_93 : decode prog_1_method_4_code 93 = .ok (.invokevirtual 81, 3) := by decide +kernel
theorem d_X_axiom_96 : decode prog_1_method_4_code 96 = .ok (.istore 5, 2) := by decide +kernel
theorem d_X_axiom_98 : decode prog_1_method_4_code 98 = .ok (.aload_n 0, 1) := by decide +kernel
theorem d_X_axiom_99 : decode prog_1_method_4_code 99 = .ok (.getfield 28, 3) := by decide +kernel
theorem d_X_axiom_102 : decode prog_1_method_4_code 102 = .ok (.aload_n 0, 1) := by decide +kernel
theorem d_X_axiom_103 : decode prog_1_method_4_code 103 = .ok (.getfield 12, 3) := by decide +kernel
theorem d_X_axiom_106 : decode prog_1_method_4_code 106 = .ok (.iload 5, 2) := by decide +kernel
theorem d_X_axiom_108 : decode prog_1_method_4_code 108 = .ok (.invokevirtual 85, 3) := by decide +kernel
theorem d_X_axiom_111 : decode prog_1_method_4_code 111 = .ok (.invokevirtual 88, 3) := by decide +kernel
theorem d_X_axiom_114 : decode prog_1_method_4_code 114 = .ok (.aload_n 0, 1) := by decide +kernel
theorem d_X_axiom_115 : decode prog_1_method_4_code 115 = .ok (.invokevirtual 91, 3) := by decide +kernel
theorem d_X_axiom_118 : decode prog_1_method_4_code 118 = .ok (.aload_n 0, 1) := by decide +kernel
theorem d_X_axiom_119 : decode prog_1_method_4_code 119 = .ok (.iconst 0, 1) := by decide +kernel
theorem d_X_axiom_120 : decode prog_1_method_4_code 120 = .ok (.putfield 55, 3) := by decide +kernel
theorem d_X_axiom_123 : decode prog_1_method_4_code 123 = .ok (.iload 5, 2) := by decide +kernel
theorem d_X_axiom_125 : decode prog_1_method_4_code 125 = .ok (.ireturn, 1) := by decide +kernel
theorem d_X_isClass_0 : decode prog_1_method_19_code 0 = .ok (.iload_n 1, 1) := by decide +kernel
theorem d_X_isClass_1 : decode prog_1_method_19_code 1 = .ok (.ifCond .lt 15, 3) := by decide +kernel
theorem d_X_isClass_4 : decode prog_1_method_19_code 4 = .ok (.iload_n 1, 1) := by decide +kernel
theorem d_X_isClass_5 : decode prog_1_method_19_code 5 = .ok (.aload_n 0, 1) := by decide +kernel
theorem d_X_isClass_6 : decode prog_1_method_19_code 6 = .ok (.getfield 45, 3) := by decide +kernel
theorem d_X_isClass_9 : decode prog_1_method_19_code 9 = .ok (.if_icmp .ge 7, 3) := by decide +kernel
theorem d_X_isClass_12 : decode prog_1_method_19_code 12 = .ok (.iconst 1, 1) := by decide +kernel
theorem d_X_isClass_13 : decode prog_1_method_19_code 13 = .ok (.goto 4, 3) := by decide +kernel
theorem d_X_isClass_16 : decode prog_1_method_19_code 16 = .ok (.iconst 0, 1) := by decide +kernel
theorem d_X_isClass_17 : decode prog_1_method_19_code 17 = .ok (.ireturn, 1) := by decide +kernel
theorem d_X_isGoal_0 : decode prog_1_method_21_code 0 = .ok (.iload_n 1, 1) := by decide +kernel
theorem d_X_isGoal_1 : decode prog_1_method_21_code 1 = .ok (.iconst (-1), 1) := by decide +kernel
theorem d_X_isGoal_2 : decode prog_1_method_21_code 2 = .ok (.if_icmp .eq 11, 3) := by decide +kernel
theorem d_X_isGoal_5 : decode prog_1_method_21_code 5 = .ok (.aload_n 0, 1) := by decide +kernel
theorem d_X_isGoal_6 : decode prog_1_method_21_code 6 = .ok (.iload_n 1, 1) := by decide +kernel
theorem d_X_isGoal_7 : decode prog_1_method_21_code 7 = .ok (.invokevirtual 63, 3) := by decide +kernel
theorem d_X_isGoal_10 : decode prog_1_method_21_code 10 = .ok (.ifCond .eq 7, 3) := by decide +kernel
theorem d_X_isGoal_13 : decode prog_1_method_21_code 13 = .ok (.iconst 1, 1) := by decide +kernel
theorem d_X_isGoal_14 : decode prog_1_method_21_code 14 = .ok (.goto 4, 3) := by decide +kernel
theorem d_X_isGoal_17 : decode prog_1_method_21_code 17 = .ok (.iconst 0, 1) := by decide +kernel
theorem d_X_isGoal_18 : decode prog_1_method_21_code 18 = .ok (.ireturn, 1) := by decide +kernel
theorem d_XA_isFull_0 : decode prog_2_method_2_code 0 = .ok (.aload_n 0, 1) := by decide +kernel
theorem d_XA_isFull_1 : decode prog_2_method_2_code 1 = .ok (.getfield 18, 3) := by decide +kernel
theorem d_XA_isFull_4 : decode prog_2_method_2_code 4 = .ok (.bipush 40, 2) := by decide +kernel
theorem d_XA_isFull_6 : decode prog_2_method_2_code 6 = .ok (.if_icmp .lt 7, 3) := by decide +kernel
theorem d_XA_isFull_9 : decode prog_2_method_2_code 9 = .ok (.iconst 1, 1) := by decide +kernel
theorem d_XA_isFull_10 : decode prog_2_method_2_code 10 = .ok (.goto 4, 3) := by decide +kernel
theorem d_XA_isFull_13 : decode prog_2_method_2_code 13 = .ok (.iconst 0, 1) := by decide +kernel
theorem d_XA_isFull_14 : decode prog_2_method_2_code 14 = .ok (.ireturn, 1) := by decide +kernel
theorem d_X_slot_0 : decode prog_1_method_23_code 0 = .ok (.iload_n 0, 1) := by decide +kernel
theorem d_X_slot_1 : decode prog_1_method_23_code 1 = .ok (.iconst (-1), 1) := by decide +kernel
theorem d_X_slot_2 : decode prog_1_method_23_code 2 = .ok (.if_icmp .ne 8, 3) := by decide +kernel
theorem d_X_slot_5 : decode prog_1_method_23_code 5 = .ok (.bipush 20, 2) := by decide +kernel
theorem d_X_slot_7 : decode prog_1_method_23_code 7 = .ok (.goto 4, 3) := by decide +kernel
theorem d_X_slot_10 : decode prog_1_method_23_code 10 = .ok (.iload_n 0, 1) := by decide +kernel
theorem d_X_slot_11 : decode prog_1_method_23_code 11 = .ok (.ireturn, 1) := by decide +kernel
theorem d_XA_add_0 : decode prog_2_method_7_code 0 = .ok (.aload_n 0, 1) := by decide +kernel
theorem d_XA_add_1 : decode prog_2_method_7_code 1 = .ok (.invokevirtual 29, 3) := by decide +kernel
theorem d_XA_add_4 : decode prog_2_method_7_code 4 = .ok (.ifCond .eq 6, 3) := by decide +kernel
theorem d_XA_add_7 : decode prog_2_method_7_code 7 = .ok (.bipush (-4), 2) := by decide +kernel
theorem d_XA_add_9 : decode prog_2_method_7_code 9 = .ok (.ireturn, 1) := by decide +kernel
theorem d_XA_add_10 : decode prog_2_method_7_code 10 = .ok (.aload_n 0, 1) := by decide +kernel
theorem d_XA_add_11 : decode prog_2_method_7_code 11 = .ok (.getfield 9, 3) := by decide +kernel
theorem d_XA_add_14 : decode prog_2_method_7_code 14 = .ok (.aload_n 0, 1) := by decide +kernel
theorem d_XA_add_15 : decode prog_2_method_7_code 15 = .ok (.getfield 18, 3) := by decide +kernel
theorem d_XA_add_18 : decode prog_2_method_7_code 18 = .ok (.iload_n 1, 1) := by decide +kernel
theorem d_XA_add_19 : decode prog_2_method_7_code 19 = .ok (.iastore, 1) := by decide +kernel
theorem d_XA_add_20 : decode prog_2_method_7_code 20 = .ok (.aload_n 0, 1) := by decide +kernel
theorem d_XA_add_21 : decode prog_2_method_7_code 21 = .ok (.getfield 15, 3) := by decide +kernel
theorem d_XA_add_24 : decode prog_2_method_7_code 24 = .ok (.aload_n 0, 1) := by decide +kernel
theorem d_XA_add_25 : decode prog_2_method_7_code 25 = .ok (.getfield 18, 3) := by decide +kernel
theorem d_XA_add_28 : decode prog_2_method_7_code 28 = .ok (.iload_n 2, 1) := by decide +kernel
theorem d_XA_add_29 : decode prog_2_method_7_code 29 = .ok (.iastore, 1) := by decide +kernel
theorem d_XA_add_30 : decode prog_2_method_7_code 30 = .ok (.aload_n 0, 1) := by decide +kernel
theorem d_XA_add_31 : decode prog_2_method_7_code 31 = .ok (.dup, 1) := by decide +kernel
theorem d_XA_add_32 : decode prog_2_method_7_code 32 = .ok (.getfield 18, 3) := by decide +kernel
theorem d_XA_add_35 : decode prog_2_method_7_code 35 = .ok (.iconst 1, 1) := by decide +kernel
theorem d_XA_add_36 : decode prog_2_method_7_code 36 = .ok (.iadd, 1) := by decide +kernel
theorem d_XA_add_37 : decode prog_2_method_7_code 37 = .ok (.putfield 18, 3) := by decide +kernel
theorem d_XA_add_40 : decode prog_2_method_7_code 40 = .ok (.aload_n 0, 1) := by decide +kernel
theorem d_XA_add_41 : decode prog_2_method_7_code 41 = .ok (.dup, 1) := by decide +kernel
theorem d_XA_add_42 : decode prog_2_method_7_code 42 = .ok (.getfield 22, 3) := by decide +kernel
theorem d_XA_add_45 : decode prog_2_method_7_code 45 = .ok (.iconst 1, 1) := by decide +kernel
theorem d_XA_add_46 : decode prog_2_method_7_code 46 = .ok (.iadd, 1) := by decide +kernel
theorem d_XA_add_47 : decode prog_2_method_7_code 47 = .ok (.putfield 22, 3) := by decide +kernel
theorem d_XA_add_50 : decode prog_2_method_7_code 50 = .ok (.aload_n 0, 1) := by decide +kernel
theorem d_XA_add_51 : decode prog_2_method_7_code 51 = .ok (.getfield 18, 3) := by decide +kernel
theorem d_XA_add_54 : decode prog_2_method_7_code 54 = .ok (.iconst 1, 1) := by decide +kernel
theorem d_XA_add_55 : decode prog_2_method_7_code 55 = .ok (.isub, 1) := by decide +kernel
theorem d_XA_add_56 : decode prog_2_method_7_code 56 = .ok (.ireturn, 1) := by decide +kernel
theorem d_XA_touchedBy_0 : decode prog_2_method_10_code 0 = .ok (.aload_n 0, 1) := by decide +kernel
theorem d_XA_touchedBy_1 : decode prog_2_method_10_code 1 = .ok (.iload_n 1, 1) := by decide +kernel
theorem d_XA_touchedBy_2 : decode prog_2_method_10_code 2 = .ok (.invokevirtual 25, 3) := by decide +kernel
theorem d_XA_touchedBy_5 : decode prog_2_method_10_code 5 = .ok (.istore_n 2, 1) := by decide +kernel
theorem d_XA_touchedBy_6 : decode prog_2_method_10_code 6 = .ok (.iconst 0, 1) := by decide +kernel
theorem d_XA_touchedBy_7 : decode prog_2_method_10_code 7 = .ok (.istore_n 3, 1) := by decide +kernel
theorem d_XA_touchedBy_8 : decode prog_2_method_10_code 8 = .ok (.iload_n 3, 1) := by decide +kernel
theorem d_XA_touchedBy_9 : decode prog_2_method_10_code 9 = .ok (.bipush 20, 2) := by decide +kernel
theorem d_XA_touchedBy_11 : decode prog_2_method_10_code 11 = .ok (.if_icmp .ge 81, 3) := by decide +kernel
theorem d_XA_touchedBy_14 : decode prog_2_method_10_code 14 = .ok (.iload_n 2, 1) := by decide +kernel
theorem d_XA_touchedBy_15 : decode prog_2_method_10_code 15 = .ok (.istore 4, 2) := by decide +kernel
theorem d_XA_touchedBy_17 : decode prog_2_method_10_code 17 = .ok (.iconst 0, 1) := by decide +kernel
theorem d_XA_touchedBy_18 : decode prog_2_method_10_code 18 = .ok (.istore 5, 2) := by decide +kernel
theorem d_XA_touchedBy_20 : decode prog_2_method_10_code 20 = .ok (.iload 5, 2) := by decide +kernel
theorem d_XA_touchedBy_22 : decode prog_2_method_10_code 22 = .ok (.aload_n 0, 1) := by decide +kernel
theorem d_XA_touchedBy_23 : decode prog_2_method_10_code 23 = .ok (.getfield 18, 3) := by decide +kernel
theorem d_XA_touchedBy_26 : decode prog_2_method_10_code 26 = .ok (.if_icmp .ge 52, 3) := by decide +kernel
theorem d_XA_touchedBy_29 : decode prog_2_method_10_code 29 = .ok (.aload_n 0, 1) := by decide +kernel
theorem d_XA_touchedBy_30 : decode prog_2_method_10_code 30 = .ok (.getfield 9, 3) := by decide +kernel
theorem d_XA_touchedBy_33 : decode prog_2_method_10_code 33 = .ok (.iload 5, 2) := by decide +kernel
theorem d_XA_touchedBy_35 : decode prog_2_method_10_code 35 = .ok (.iaload, 1) := by decide +kernel
theorem d_XA_touchedBy_36 : decode prog_2_method_10_code 36 = .ok (.ifCond .eq 36, 3) := by decide +kernel
theorem d_XA_touchedBy_39 : decode prog_2_method_10_code 39 = .ok (.aload_n 0, 1) := by decide +kernel
theorem d_XA_touchedBy_40 : decode prog_2_method_10_code 40 = .ok (.getfield 9, 3) := by decide +kernel
theorem d_XA_touchedBy_43 : decode prog_2_method_10_code 43 = .ok (.iload 5, 2) := by decide +kernel
theorem d_XA_touchedBy_45 : decode prog_2_method_10_code 45 = .ok (.iaload, 1) := by decide +kernel
theorem d_XA_touchedBy_46 : decode prog_2_method_10_code 46 = .ok (.aload_n 0, 1) := by decide +kernel
theorem d_XA_touchedBy_47 : decode prog_2_method_10_code 47 = .ok (.getfield 15, 3) := by decide +kernel
theorem d_XA_touchedBy_50 : decode prog_2_method_10_code 50 = .ok (.iload 5, 2) := by decide +kernel
theorem d_XA_touchedBy_52 : decode prog_2_method_10_code 52 = .ok (.iaload, 1) := by decide +kernel
theorem d_XA_touchedBy_53 : decode prog_2_method_10_code 53 = .ok (.invokestatic 41, 3) := by decide +kernel
theorem d_XA_touchedBy_56 : decode prog_2_method_10_code 56 = .ok (.ior, 1) := by decide +kernel
theorem d_XA_touchedBy_57 : decode prog_2_method_10_code 57 = .ok (.iload_n 2, 1) := by decide +kernel
theorem d_XA_touchedBy_58 : decode prog_2_method_10_code 58 = .ok (.iand, 1) := by decide +kernel
theorem d_XA_touchedBy_59 : decode prog_2_method_10_code 59 = .ok (.ifCond .eq 13, 3) := by decide +kernel
theorem d_XA_touchedBy_62 : decode prog_2_method_10_code 62 = .ok (.iload_n 2, 1) := by decide +kernel
theorem d_XA_touchedBy_63 : decode prog_2_method_10_code 63 = .ok (.aload_n 0, 1) := by decide +kernel
theorem d_XA_touchedBy_64 : decode prog_2_method_10_code 64 = .ok (.getfield 9, 3) := by decide +kernel
theorem d_XA_touchedBy_67 : decode prog_2_method_10_code 67 = .ok (.iload 5, 2) := by decide +kernel
theorem d_XA_touchedBy_69 : decode prog_2_method_10_code 69 = .ok (.iaload, 1) := by decide +kernel
theorem d_XA_touchedBy_70 : decode prog_2_method_10_code 70 = .ok (.ior, 1) := by decide +kernel
theorem d_XA_touchedBy_71 : decode prog_2_method_10_code 71 = .ok (.istore_n 2, 1) := by decide +kernel
theorem d_XA_touchedBy_72 : decode prog_2_method_10_code 72 = .ok (.iinc 5 1, 3) := by decide +kernel
theorem d_XA_touchedBy_75 : decode prog_2_method_10_code 75 = .ok (.goto (-55), 3) := by decide +kernel
theorem d_XA_touchedBy_78 : decode prog_2_method_10_code 78 = .ok (.iload_n 2, 1) := by decide +kernel
theorem d_XA_touchedBy_79 : decode prog_2_method_10_code 79 = .ok (.iload 4, 2) := by decide +kernel
theorem d_XA_touchedBy_81 : decode prog_2_method_10_code 81 = .ok (.if_icmp .ne 5, 3) := by decide +kernel
theorem d_XA_touchedBy_84 : decode prog_2_method_10_code 84 = .ok (.iload_n 2, 1) := by decide +kernel
theorem d_XA_touchedBy_85 : decode prog_2_method_10_code 85 = .ok (.ireturn, 1) := by decide +kernel
theorem d_XA_touchedBy_86 : decode prog_2_method_10_code 86 = .ok (.iinc 3 1, 3) := by decide +kernel
theorem d_XA_touchedBy_89 : decode prog_2_method_10_code 89 = .ok (.goto (-81), 3) := by decide +kernel
theorem d_XA_touchedBy_92 : decode prog_2_method_10_code 92 = .ok (.iload_n 2, 1) := by decide +kernel
theorem d_XA_touchedBy_93 : decode prog_2_method_10_code 93 = .ok (.ireturn, 1) := by decide +kernel
theorem d_XA_leftOf_0 : decode prog_2_method_5_code 0 = .ok (.iload_n 1, 1) := by decide +kernel
theorem d_XA_leftOf_1 : decode prog_2_method_5_code 1 = .ok (.ifCond .lt 20, 3) := by decide +kernel
theorem d_XA_leftOf_4 : decode prog_2_method_5_code 4 = .ok (.iload_n 1, 1) := by decide +kernel
theorem d_XA_leftOf_5 : decode prog_2_method_5_code 5 = .ok (.aload_n 0, 1) := by decide +kernel
theorem d_XA_leftOf_6 : decode prog_2_method_5_code 6 = .ok (.getfield 18, 3) := by decide +kernel
theorem d_XA_leftOf_9 : decode prog_2_method_5_code 9 = .ok (.if_icmp .ge 12, 3) := by decide +kernel
theorem d_XA_leftOf_12 : decode prog_2_method_5_code 12 = .ok (.aload_n 0, 1) := by decide +kernel
theorem d_XA_leftOf_13 : decode prog_2_method_5_code 13 = .ok (.getfield 9, 3) := by decide +kernel
theorem d_XA_leftOf_16 : decode prog_2_method_5_code 16 = .ok (.iload_n 1, 1) := by decide +kernel
theorem d_XA_leftOf_17 : decode prog_2_method_5_code 17 = .ok (.iaload, 1) := by decide +kernel
theorem d_XA_leftOf_18 : decode prog_2_method_5_code 18 = .ok (.goto 4, 3) := by decide +kernel
theorem d_XA_leftOf_21 : decode prog_2_method_5_code 21 = .ok (.iconst 0, 1) := by decide +kernel
theorem d_XA_leftOf_22 : decode prog_2_method_5_code 22 = .ok (.ireturn, 1) := by decide +kernel
theorem d_XK_forgetNo_0 : decode prog_3_method_13_code 0 = .ok (.iconst 0, 1) := by decide +kernel
theorem d_XK_forgetNo_1 : decode prog_3_method_13_code 1 = .ok (.istore_n 2, 1) := by decide +kernel
theorem d_XK_forgetNo_2 : decode prog_3_method_13_code 2 = .ok (.iload_n 2, 1) := by decide +kernel
theorem d_XK_forgetNo_3 : decode prog_3_method_13_code 3 = .ok (.bipush 20, 2) := by decide +kernel
theorem d_XK_forgetNo_5 : decode prog_3_method_13_code 5 = .ok (.if_icmp .ge 31, 3) := by decide +kernel
theorem d_XK_forgetNo_8 : decode prog_3_method_13_code 8 = .ok (.iload_n 1, 1) := by decide +kernel
theorem d_XK_forgetNo_9 : decode prog_3_method_13_code 9 = .ok (.iload_n 2, 1) := by decide +kernel
theorem d_XK_forgetNo_10 : decode prog_3_method_13_code 10 = .ok (.invokestatic 35, 3) := by decide +kernel
theorem d_XK_forgetNo_13 : decode prog_3_method_13_code 13 = .ok (.ifCond .eq 17, 3) := by decide +kernel
theorem d_XK_forgetNo_16 : decode prog_3_method_13_code 16 = .ok (.aload_n 0, 1) := by decide +kernel
theorem d_XK_forgetNo_17 : decode prog_3_method_13_code 17 = .ok (.getfield 18, 3) := by decide +kernel
theorem d_XK_forgetNo_20 : decode prog_3_method_13_code 20 = .ok (.iload_n 2, 1) := by decide +kernel
theorem d_XK_forgetNo_21 : decode prog_3_method_13_code 21 = .ok (.iconst 0, 1) := by decide +kernel
theorem d_XK_forgetNo_22 : decode prog_3_method_13_code 22 = .ok (.iastore, 1) := by decide +kernel
theorem d_XK_forgetNo_23 : decode prog_3_method_13_code 23 = .ok (.aload_n 0, 1) := by decide +kernel
theorem d_XK_forgetNo_24 : decode prog_3_method_13_code 24 = .ok (.getfield 21, 3) := by decide +kernel
theorem d_XK_forgetNo_27 : decode prog_3_method_13_code 27 = .ok (.iload_n 2, 1) := by decide +kernel
theorem d_XK_forgetNo_28 : decode prog_3_method_13_code 28 = .ok (.iconst 0, 1) := by decide +kernel
theorem d_XK_forgetNo_29 : decode prog_3_method_13_code 29 = .ok (.iastore, 1) := by decide +kernel
theorem d_XK_forgetNo_30 : decode prog_3_method_13_code 30 = .ok (.iinc 2 1, 3) := by decide +kernel
theorem d_XK_forgetNo_33 : decode prog_3_method_13_code 33 = .ok (.goto (-31), 3) := by decide +kernel
theorem d_XK_forgetNo_36 : decode prog_3_method_13_code 36 = .ok (.return_, 1) := by decide +kernel
theorem d_X_tellAxioms_0 : decode prog_1_method_22_code 0 = .ok (.iconst 0, 1) := by decide +kernel
theorem d_X_tellAxioms_1 : decode prog_1_method_22_code 1 = .ok (.istore_n 1, 1) := by decide +kernel
theorem d_X_tellAxioms_2 : decode prog_1_method_22_code 2 = .ok (.iload_n 1, 1) := by decide +kernel
theorem d_X_tellAxioms_3 : decode prog_1_method_22_code 3 = .ok (.bipush 40, 2) := by decide +kernel
theorem d_X_tellAxioms_5 : decode prog_1_method_22_code 5 = .ok (.if_icmp .ge 45, 3) := by decide +kernel
theorem d_X_tellAxioms_8 : decode prog_1_method_22_code 8 = .ok (.aload_n 0, 1) := by decide +kernel
theorem d_X_tellAxioms_9 : decode prog_1_method_22_code 9 = .ok (.getfield 12, 3) := by decide +kernel
theorem d_X_tellAxioms_12 : decode prog_1_method_22_code 12 = .ok (.iload_n 1, 1) := by decide +kernel
theorem d_X_tellAxioms_13 : decode prog_1_method_22_code 13 = .ok (.invokevirtual 182, 3) := by decide +kernel
theorem d_X_tellAxioms_16 : decode prog_1_method_22_code 16 = .ok (.istore_n 2, 1) := by decide +kernel
theorem d_X_tellAxioms_17 : decode prog_1_method_22_code 17 = .ok (.iload_n 2, 1) := by decide +kernel
theorem d_X_tellAxioms_18 : decode prog_1_method_22_code 18 = .ok (.invokestatic 152, 3) := by decide +kernel
theorem d_X_tellAxioms_21 : decode prog_1_method_22_code 21 = .ok (.iconst 1, 1) := by decide +kernel
theorem d_X_tellAxioms_22 : decode prog_1_method_22_code 22 = .ok (.if_icmp .ne 22, 3) := by decide +kernel
theorem d_X_tellAxioms_25 : decode prog_1_method_22_code 25 = .ok (.aload_n 0, 1) := by decide +kernel
theorem d_X_tellAxioms_26 : decode prog_1_method_22_code 26 = .ok (.getfield 28, 3) := by decide +kernel
theorem d_X_tellAxioms_29 : decode prog_1_method_22_code 29 = .ok (.iload_n 2, 1) := by decide +kernel
theorem d_X_tellAxioms_30 : decode prog_1_method_22_code 30 = .ok (.invokestatic 185, 3) := by decide +kernel
theorem d_X_tellAxioms_33 : decode prog_1_method_22_code 33 = .ok (.aload_n 0, 1) := by decide +kernel
theorem d_X_tellAxioms_34 : decode prog_1_method_22_code 34 = .ok (.getfield 12, 3) := by decide +kernel
theorem d_X_tellAxioms_37 : decode prog_1_method_22_code 37 = .ok (.iload_n 1, 1) := by decide +kernel
theorem d_X_tellAxioms_38 : decode prog_1_method_22_code 38 = .ok (.invokevirtual 188, 3) := by decide +kernel
theorem d_X_tellAxioms_41 : decode prog_1_method_22_code 41 = .ok (.invokevirtual 191, 3) := by decide +kernel
theorem d_X_tellAxioms_44 : decode prog_1_method_22_code 44 = .ok (.iinc 1 1, 3) := by decide +kernel
theorem d_X_tellAxioms_47 : decode prog_1_method_22_code 47 = .ok (.goto (-45), 3) := by decide +kernel
theorem d_X_tellAxioms_50 : decode prog_1_method_22_code 50 = .ok (.aload_n 0, 1) := by decide +kernel
theorem d_X_tellAxioms_51 : decode prog_1_method_22_code 51 = .ok (.getfield 28, 3) := by decide +kernel
theorem d_X_tellAxioms_54 : decode prog_1_method_22_code 54 = .ok (.invokevirtual 195, 3) := by decide +kernel
theorem d_X_tellAxioms_57 : decode prog_1_method_22_code 57 = .ok (.return_, 1) := by decide +kernel
theorem d_JI_bitCount_0 : decode prog_8_method_49_code 0 = .ok (.iload_n 0, 1) := by decide +kernel
theorem d_JI_bitCount_1 : decode prog_8_method_49_code 1 = .ok (.iload_n 0, 1) := by decide +kernel
theorem d_JI_bitCount_2 : decode prog_8_method_49_code 2 = .ok (.iconst 1, 1) := by decide +kernel
theorem d_JI_bitCount_3 : decode prog_8_method_49_code 3 = .ok (.iushr, 1) := by decide +kernel
theorem d_JI_bitCount_4 : decode prog_8_method_49_code 4 = .ok (.ldc_w 265, 3) := by decide +kernel
theorem d_JI_bitCount_7 : decode prog_8_method_49_code 7 = .ok (.iand, 1) := by decide +kernel
theorem d_JI_bitCount_8 : decode prog_8_method_49_code 8 = .ok (.isub, 1) := by decide +kernel
theorem d_JI_bitCount_9 : decode prog_8_method_49_code 9 = .ok (.istore_n 0, 1) := by decide +kernel
theorem d_JI_bitCount_10 : decode prog_8_method_49_code 10 = .ok (.iload_n 0, 1) := by decide +kernel
theorem d_JI_bitCount_11 : decode prog_8_method_49_code 11 = .ok (.ldc_w 266, 3) := by decide +kernel
theorem d_JI_bitCount_14 : decode prog_8_method_49_code 14 = .ok (.iand, 1) := by decide +kernel
theorem d_JI_bitCount_15 : decode prog_8_method_49_code 15 = .ok (.iload_n 0, 1) := by decide +kernel
theorem d_JI_bitCount_16 : decode prog_8_method_49_code 16 = .ok (.iconst 2, 1) := by decide +kernel
theorem d_JI_bitCount_17 : decode prog_8_method_49_code 17 = .ok (.iushr, 1) := by decide +kernel
theorem d_JI_bitCount_18 : decode prog_8_method_49_code 18 = .ok (.ldc_w 266, 3) := by decide +kernel
theorem d_JI_bitCount_21 : decode prog_8_method_49_code 21 = .ok (.iand, 1) := by decide +kernel
theorem d_JI_bitCount_22 : decode prog_8_method_49_code 22 = .ok (.iadd, 1) := by decide +kernel
theorem d_JI_bitCount_23 : decode prog_8_method_49_code 23 = .ok (.istore_n 0, 1) := by decide +kernel
theorem d_JI_bitCount_24 : decode prog_8_method_49_code 24 = .ok (.iload_n 0, 1) := by decide +kernel
theorem d_JI_bitCount_25 : decode prog_8_method_49_code 25 = .ok (.iload_n 0, 1) := by decide +kernel
theorem d_JI_bitCount_26 : decode prog_8_method_49_code 26 = .ok (.iconst 4, 1) := by decide +kernel
theorem d_JI_bitCount_27 : decode prog_8_method_49_code 27 = .ok (.iushr, 1) := by decide +kernel
theorem d_JI_bitCount_28 : decode prog_8_method_49_code 28 = .ok (.iadd, 1) := by decide +kernel
theorem d_JI_bitCount_29 : decode prog_8_method_49_code 29 = .ok (.ldc_w 267, 3) := by decide +kernel
theorem d_JI_bitCount_32 : decode prog_8_method_49_code 32 = .ok (.iand, 1) := by decide +kernel
theorem d_JI_bitCount_33 : decode prog_8_method_49_code 33 = .ok (.istore_n 0, 1) := by decide +kernel
theorem d_JI_bitCount_34 : decode prog_8_method_49_code 34 = .ok (.iload_n 0, 1) := by decide +kernel
theorem d_JI_bitCount_35 : decode prog_8_method_49_code 35 = .ok (.iload_n 0, 1) := by decide +kernel
theorem d_JI_bitCount_36 : decode prog_8_method_49_code 36 = .ok (.bipush 8, 2) := by decide +kernel
theorem d_JI_bitCount_38 : decode prog_8_method_49_code 38 = .ok (.iushr, 1) := by decide +kernel
theorem d_JI_bitCount_39 : decode prog_8_method_49_code 39 = .ok (.iadd, 1) := by decide +kernel
theorem d_JI_bitCount_40 : decode prog_8_method_49_code 40 = .ok (.istore_n 0, 1) := by decide +kernel
theorem d_JI_bitCount_41 : decode prog_8_method_49_code 41 = .ok (.iload_n 0, 1) := by decide +kernel
theorem d_JI_bitCount_42 : decode prog_8_method_49_code 42 = .ok (.iload_n 0, 1) := by decide +kernel
theorem d_JI_bitCount_43 : decode prog_8_method_49_code 43 = .ok (.bipush 16, 2) := by decide +kernel
theorem d_JI_bitCount_45 : decode prog_8_method_49_code 45 = .ok (.iushr, 1) := by decide +kernel
theorem d_JI_bitCount_46 : decode prog_8_method_49_code 46 = .ok (.iadd, 1) := by decide +kernel
theorem d_JI_bitCount_47 : decode prog_8_method_49_code 47 = .ok (.istore_n 0, 1) := by decide +kernel
theorem d_JI_bitCount_48 : decode prog_8_method_49_code 48 = .ok (.iload_n 0, 1) := by decide +kernel
theorem d_JI_bitCount_49 : decode prog_8_method_49_code 49 = .ok (.bipush 63, 2) := by decide +kernel
theorem d_JI_bitCount_51 : decode prog_8_method_49_code 51 = .ok (.iand, 1) := by decide +kernel
theorem d_JI_bitCount_52 : decode prog_8_method_49_code 52 = .ok (.ireturn, 1) := by decide +kernel
theorem d_JI_numberOfTrailingZeros_0 : decode prog_8_method_48_code 0 = .ok (.iload_n 0, 1) := by decide +kernel
theorem d_JI_numberOfTrailingZeros_1 : decode prog_8_method_48_code 1 = .ok (.iconst (-1), 1) := by decide +kernel
theorem d_JI_numberOfTrailingZeros_2 : decode prog_8_method_48_code 2 = .ok (.ixor, 1) := by decide +kernel
theorem d_JI_numberOfTrailingZeros_3 : decode prog_8_method_48_code 3 = .ok (.iload_n 0, 1) := by decide +kernel
theorem d_JI_numberOfTrailingZeros_4 : decode prog_8_method_48_code 4 = .ok (.iconst 1, 1) := by decide +kernel
theorem d_JI_numberOfTrailingZeros_5 : decode prog_8_method_48_code 5 = .ok (.isub, 1) := by decide +kernel
theorem d_JI_numberOfTrailingZeros_6 : decode prog_8_method_48_code 6 = .ok (.iand, 1) := by decide +kernel
theorem d_JI_numberOfTrailingZeros_7 : decode prog_8_method_48_code 7 = .ok (.istore_n 0, 1) := by decide +kernel
theorem d_JI_numberOfTrailingZeros_8 : decode prog_8_method_48_code 8 = .ok (.iload_n 0, 1) := by decide +kernel
theorem d_JI_numberOfTrailingZeros_9 : decode prog_8_method_48_code 9 = .ok (.ifCond .gt 8, 3) := by decide +kernel
theorem d_JI_numberOfTrailingZeros_12 : decode prog_8_method_48_code 12 = .ok (.iload_n 0, 1) := by decide +kernel
theorem d_JI_numberOfTrailingZeros_13 : decode prog_8_method_48_code 13 = .ok (.bipush 32, 2) := by decide +kernel
theorem d_JI_numberOfTrailingZeros_15 : decode prog_8_method_48_code 15 = .ok (.iand, 1) := by decide +kernel
theorem d_JI_numberOfTrailingZeros_16 : decode prog_8_method_48_code 16 = .ok (.ireturn, 1) := by decide +kernel
theorem d_JI_numberOfTrailingZeros_17 : decode prog_8_method_48_code 17 = .ok (.iconst 1, 1) := by decide +kernel
theorem d_JI_numberOfTrailingZeros_18 : decode prog_8_method_48_code 18 = .ok (.istore_n 1, 1) := by decide +kernel
theorem d_JI_numberOfTrailingZeros_19 : decode prog_8_method_48_code 19 = .ok (.iload_n 0, 1) := by decide +kernel
theorem d_JI_numberOfTrailingZeros_20 : decode prog_8_method_48_code 20 = .ok (.ldc_w 264, 3) := by decide +kernel
theorem d_JI_numberOfTrailingZeros_23 : decode prog_8_method_48_code 23 = .ok (.if_icmp .le 11, 3) := by decide +kernel
theorem d_JI_numberOfTrailingZeros_26 : decode prog_8_method_48_code 26 = .ok (.iinc 1 16, 3) := by decide +kernel
theorem d_JI_numberOfTrailingZeros_29 : decode prog_8_method_48_code 29 = .ok (.iload_n 0, 1) := by decide +kernel
theorem d_JI_numberOfTrailingZeros_30 : decode prog_8_method_48_code 30 = .ok (.bipush 16, 2) := by decide +kernel
theorem d_JI_numberOfTrailingZeros_32 : decode prog_8_method_48_code 32 = .ok (.iushr, 1) := by decide +kernel
theorem d_JI_numberOfTrailingZeros_33 : decode prog_8_method_48_code 33 = .ok (.istore_n 0, 1) := by decide +kernel
theorem d_JI_numberOfTrailingZeros_34 : decode prog_8_method_48_code 34 = .ok (.iload_n 0, 1) := by decide +kernel
theorem d_JI_numberOfTrailingZeros_35 : decode prog_8_method_48_code 35 = .ok (.sipush 256, 3) := by decide +kernel
theorem d_JI_numberOfTrailingZeros_38 : decode prog_8_method_48_code 38 = .ok (.if_icmp .le 11, 3) := by decide +kernel
theorem d_JI_numberOfTrailingZeros_41 : decode prog_8_method_48_code 41 = .ok (.iinc 1 8, 3) := by decide +kernel
theorem d_JI_numberOfTrailingZeros_44 : decode prog_8_method_48_code 44 = .ok (.iload_n 0, 1) := by decide +kernel
theorem d_JI_numberOfTrailingZeros_45 : decode prog_8_method_48_code 45 = .ok (.bipush 8, 2) := by decide +kernel
theorem d_JI_numberOfTrailingZeros_47 : decode prog_8_method_48_code 47 = .ok (.iushr, 1) := by decide +kernel
theorem d_JI_numberOfTrailingZeros_48 : decode prog_8_method_48_code 48 = .ok (.istore_n 0, 1) := by decide +kernel
theorem d_JI_numberOfTrailingZeros_49 : decode prog_8_method_48_code 49 = .ok (.iload_n 0, 1) := by decide +kernel
theorem d_JI_numberOfTrailingZeros_50 : decode prog_8_method_48_code 50 = .ok (.bipush 16, 2) := by decide +kernel
theorem d_JI_numberOfTrailingZeros_52 : decode prog_8_method_48_code 52 = .ok (.if_icmp .le 10, 3) := by decide +kernel
theorem d_JI_numberOfTrailingZeros_55 : decode prog_8_method_48_code 55 = .ok (.iinc 1 4, 3) := by decide +kernel
theorem d_JI_numberOfTrailingZeros_58 : decode prog_8_method_48_code 58 = .ok (.iload_n 0, 1) := by decide +kernel
theorem d_JI_numberOfTrailingZeros_59 : decode prog_8_method_48_code 59 = .ok (.iconst 4, 1) := by decide +kernel
theorem d_JI_numberOfTrailingZeros_60 : decode prog_8_method_48_code 60 = .ok (.iushr, 1) := by decide +kernel
theorem d_JI_numberOfTrailingZeros_61 : decode prog_8_method_48_code 61 = .ok (.istore_n 0, 1) := by decide +kernel
theorem d_JI_numberOfTrailingZeros_62 : decode prog_8_method_48_code 62 = .ok (.iload_n 0, 1) := by decide +kernel
theorem d_JI_numberOfTrailingZeros_63 : decode prog_8_method_48_code 63 = .ok (.iconst 4, 1) := by decide +kernel
theorem d_JI_numberOfTrailingZeros_64 : decode prog_8_method_48_code 64 = .ok (.if_icmp .le 10, 3) := by decide +kernel
theorem d_JI_numberOfTrailingZeros_67 : decode prog_8_method_48_code 67 = .ok (.iinc 1 2, 3) := by decide +kernel
theorem d_JI_numberOfTrailingZeros_70 : decode prog_8_method_48_code 70 = .ok (.iload_n 0, 1) := by decide +kernel
theorem d_JI_numberOfTrailingZeros_71 : decode prog_8_method_48_code 71 = .ok (.iconst 2, 1) := by decide +kernel
theorem d_JI_numberOfTrailingZeros_72 : decode prog_8_method_48_code 72 = .ok (.iushr, 1) := by decide +kernel
theorem d_JI_numberOfTrailingZeros_73 : decode prog_8_method_48_code 73 = .ok (.istore_n 0, 1) := by decide +kernel
theorem d_JI_numberOfTrailingZeros_74 : decode prog_8_method_48_code 74 = .ok (.iload_n 1, 1) := by decide +kernel
theorem d_JI_numberOfTrailingZeros_75 : decode prog_8_method_48_code 75 = .ok (.iload_n 0, 1) := by decide +kernel
theorem d_JI_numberOfTrailingZeros_76 : decode prog_8_method_48_code 76 = .ok (.iconst 1, 1) := by decide +kernel
theorem d_JI_numberOfTrailingZeros_77 : decode prog_8_method_48_code 77 = .ok (.iushr, 1) := by decide +kernel
theorem d_JI_numberOfTrailingZeros_78 : decode prog_8_method_48_code 78 = .ok (.iadd, 1) := by decide +kernel
theorem d_JI_numberOfTrailingZeros_79 : decode prog_8_method_48_code 79 = .ok (.ireturn, 1) := by decide +kernel
theorem d_XA_rightOf_0 : decode prog_2_method_6_code 0 = .ok (.iload_n 1, 1) := by decide +kernel
theorem d_XA_rightOf_1 : decode prog_2_method_6_code 1 = .ok (.ifCond .lt 20, 3) := by decide +kernel
theorem d_XA_rightOf_4 : decode prog_2_method_6_code 4 = .ok (.iload_n 1, 1) := by decide +kernel
theorem d_XA_rightOf_5 : decode prog_2_method_6_code 5 = .ok (.aload_n 0, 1) := by decide +kernel
theorem d_XA_rightOf_6 : decode prog_2_method_6_code 6 = .ok (.getfield 18, 3) := by decide +kernel
theorem d_XA_rightOf_9 : decode prog_2_method_6_code 9 = .ok (.if_icmp .ge 12, 3) := by decide +kernel
theorem d_XA_rightOf_12 : decode prog_2_method_6_code 12 = .ok (.aload_n 0, 1) := by decide +kernel
theorem d_XA_rightOf_13 : decode prog_2_method_6_code 13 = .ok (.getfield 15, 3) := by decide +kernel
theorem d_XA_rightOf_16 : decode prog_2_method_6_code 16 = .ok (.iload_n 1, 1) := by decide +kernel
theorem d_XA_rightOf_17 : decode prog_2_method_6_code 17 = .ok (.iaload, 1) := by decide +kernel
theorem d_XA_rightOf_18 : decode prog_2_method_6_code 18 = .ok (.goto 5, 3) := by decide +kernel
theorem d_XA_rightOf_21 : decode prog_2_method_6_code 21 = .ok (.bipush 20, 2) := by decide +kernel
theorem d_XA_rightOf_23 : decode prog_2_method_6_code 23 = .ok (.ireturn, 1) := by decide +kernel
theorem d_X_remove_0 : decode prog_1_method_5_code 0 = .ok (.aload_n 0, 1) := by decide +kernel
theorem d_X_remove_1 : decode prog_1_method_5_code 1 = .ok (.getfield 12, 3) := by decide +kernel
theorem d_X_remove_4 : decode prog_1_method_5_code 4 = .ok (.iload_n 1, 1) := by decide +kernel
theorem d_X_remove_5 : decode prog_1_method_5_code 5 = .ok (.invokevirtual 94, 3) := by decide +kernel
theorem d_X_remove_8 : decode prog_1_method_5_code 8 = .ok (.ifCond .ne 5, 3) := by decide +kernel
theorem d_X_remove_11 : decode prog_1_method_5_code 11 = .ok (.iconst (-1), 1) := by decide +kernel
theorem d_X_remove_12 : decode prog_1_method_5_code 12 = .ok (.ireturn, 1) := by decide +kernel
theorem d_X_remove_13 : decode prog_1_method_5_code 13 = .ok (.aload_n 0, 1) := by decide +kernel
theorem d_X_remove_14 : decode prog_1_method_5_code 14 = .ok (.getfield 28, 3) := by decide +kernel
theorem d_X_remove_17 : decode prog_1_method_5_code 17 = .ok (.aload_n 0, 1) := by decide +kernel
theorem d_X_remove_18 : decode prog_1_method_5_code 18 = .ok (.getfield 45, 3) := by decide +kernel
theorem d_X_remove_21 : decode prog_1_method_5_code 21 = .ok (.invokevirtual 97, 3) := by decide +kernel
theorem d_X_remove_24 : decode prog_1_method_5_code 24 = .ok (.istore_n 2, 1) := by decide +kernel
theorem d_X_remove_25 : decode prog_1_method_5_code 25 = .ok (.aload_n 0, 1) := by decide +kernel
theorem d_X_remove_26 : decode prog_1_method_5_code 26 = .ok (.getfield 12, 3) := by decide +kernel
theorem d_X_remove_29 : decode prog_1_method_5_code 29 = .ok (.iload_n 1, 1) := by decide +kernel
theorem d_X_remove_30 : decode prog_1_method_5_code 30 = .ok (.invokevirtual 85, 3) := by decide +kernel
theorem d_X_remove_33 : decode prog_1_method_5_code 33 = .ok (.istore_n 3, 1) := by decide +kernel
theorem d_X_remove_34 : decode prog_1_method_5_code 34 = .ok (.aload_n 0, 1) := by decide +kernel
theorem d_X_remove_35 : decode prog_1_method_5_code 35 = .ok (.getfield 12, 3) := by decide +kernel
theorem d_X_remove_38 : decode prog_1_method_5_code 38 = .ok (.iload_n 1, 1) := by decide +kernel
theorem d_X_remove_39 : decode prog_1_method_5_code 39 = .ok (.invokevirtual 100, 3) := by decide +kernel
theorem d_X_remove_42 : decode prog_1_method_5_code 42 = .ok (.aload_n 0, 1) := by decide +kernel
theorem d_X_remove_43 : decode prog_1_method_5_code 43 = .ok (.getfield 28, 3) := by decide +kernel
theorem d_X_remove_46 : decode prog_1_method_5_code 46 = .ok (.iload_n 3, 1) := by decide +kernel
theorem d_X_remove_47 : decode prog_1_method_5_code 47 = .ok (.invokevirtual 103, 3) := by decide +kernel
theorem d_X_remove_50 : decode prog_1_method_5_code 50 = .ok (.aload_n 0, 1) := by decide +kernel
theorem d_X_remove_51 : decode prog_1_method_5_code 51 = .ok (.invokevirtual 91, 3) := by decide +kernel
theorem d_X_remove_54 : decode prog_1_method_5_code 54 = .ok (.aload_n 0, 1) := by decide +kernel
theorem d_X_remove_55 : decode prog_1_method_5_code 55 = .ok (.iconst 0, 1) := by decide +kernel
theorem d_X_remove_56 : decode prog_1_method_5_code 56 = .ok (.putfield 55, 3) := by decide +kernel
theorem d_X_remove_59 : decode prog_1_method_5_code 59 = .ok (.iload_n 2, 1) := by decide +kernel
theorem d_X_remove_60 : decode prog_1_method_5_code 60 = .ok (.aload_n 0, 1) := by decide +kernel
theorem d_X_remove_61 : decode prog_1_method_5_code 61 = .ok (.getfield 28, 3) := by decide +kernel
theorem d_X_remove_64 : decode prog_1_method_5_code 64 = .ok (.aload_n 0, 1) := by decide +kernel
theorem d_X_remove_65 : decode prog_1_method_5_code 65 = .ok (.getfield 45, 3) := by decide +kernel
theorem d_X_remove_68 : decode prog_1_method_5_code 68 = .ok (.invokevirtual 97, 3) := by decide +kernel
theorem d_X_remove_71 : decode prog_1_method_5_code 71 = .ok (.isub, 1) := by decide +kernel
theorem d_X_remove_72 : decode prog_1_method_5_code 72 = .ok (.ireturn, 1) := by decide +kernel
theorem d_XA_isThere_0 : decode prog_2_method_3_code 0 = .ok (.aload_n 0, 1) := by decide +kernel
theorem d_XA_isThere_1 : decode prog_2_method_3_code 1 = .ok (.iload_n 1, 1) := by decide +kernel
theorem d_XA_isThere_2 : decode prog_2_method_3_code 2 = .ok (.invokevirtual 25, 3) := by decide +kernel
theorem d_XA_isThere_5 : decode prog_2_method_3_code 5 = .ok (.ifCond .eq 7, 3) := by decide +kernel
theorem d_XA_isThere_8 : decode prog_2_method_3_code 8 = .ok (.iconst 1, 1) := by decide +kernel
theorem d_XA_isThere_9 : decode prog_2_method_3_code 9 = .ok (.goto 4, 3) := by decide +kernel
theorem d_XA_isThere_12 : decode prog_2_method_3_code 12 = .ok (.iconst 0, 1) := by decide +kernel
theorem d_XA_isThere_13 : decode prog_2_method_3_code 13 = .ok (.ireturn, 1) := by decide +kernel
theorem d_XK_knownPairs_0 : decode prog_3_method_16_code 0 = .ok (.iconst 0, 1) := by decide +kernel
theorem d_XK_knownPairs_1 : decode prog_3_method_16_code 1 = .ok (.istore_n 2, 1) := by decide +kernel
theorem d_XK_knownPairs_2 : decode prog_3_method_16_code 2 = .ok (.iconst 0, 1) := by decide +kernel
theorem d_XK_knownPairs_3 : decode prog_3_method_16_code 3 = .ok (.istore_n 3, 1) := by decide +kernel
theorem d_XK_knownPairs_4 : decode prog_3_method_16_code 4 = .ok (.iload_n 3, 1) := by decide +kernel
theorem d_XK_knownPairs_5 : decode prog_3_method_16_code 5 = .ok (.iload_n 1, 1) := by decide +kernel
theorem d_XK_knownPairs_6 : decode prog_3_method_16_code 6 = .ok (.if_icmp .ge 41, 3) := by decide +kernel
theorem d_XK_knownPairs_9 : decode prog_3_method_16_code 9 = .ok (.iload_n 3, 1) := by decide +kernel
theorem d_XK_knownPairs_10 : decode prog_3_method_16_code 10 = .ok (.bipush 20, 2) := by decide +kernel
theorem d_XK_knownPairs_12 : decode prog_3_method_16_code 12 = .ok (.if_icmp .ge 35, 3) := by decide +kernel
theorem d_XK_knownPairs_15 : decode prog_3_method_16_code 15 = .ok (.iload_n 2, 1) := by decide +kernel
theorem d_XK_knownPairs_16 : decode prog_3_method_16_code 16 = .ok (.aload_n 0, 1) := by decide +kernel
theorem d_XK_knownPairs_17 : decode prog_3_method_16_code 17 = .ok (.getfield 9, 3) := by decide +kernel
theorem d_XK_knownPairs_20 : decode prog_3_method_16_code 20 = .ok (.iload_n 3, 1) := by decide +kernel
theorem d_XK_knownPairs_21 : decode prog_3_method_16_code 21 = .ok (.iaload, 1) := by decide +kernel
theorem d_XK_knownPairs_22 : decode prog_3_method_16_code 22 = .ok (.aload_n 0, 1) := by decide +kernel
theorem d_XK_knownPairs_23 : decode prog_3_method_16_code 23 = .ok (.getfield 18, 3) := by decide +kernel
theorem d_XK_knownPairs_26 : decode prog_3_method_16_code 26 = .ok (.iload_n 3, 1) := by decide +kernel
theorem d_XK_knownPairs_27 : decode prog_3_method_16_code 27 = .ok (.iaload, 1) := by decide +kernel
theorem d_XK_knownPairs_28 : decode prog_3_method_16_code 28 = .ok (.ior, 1) := by decide +kernel
theorem d_XK_knownPairs_29 : decode prog_3_method_16_code 29 = .ok (.aload_n 0, 1) := by decide +kernel
theorem d_XK_knownPairs_30 : decode prog_3_method_16_code 30 = .ok (.getfield 21, 3) := by decide +kernel
theorem d_XK_knownPairs_33 : decode prog_3_method_16_code 33 = .ok (.iload_n 3, 1) := by decide +kernel
theorem d_XK_knownPairs_34 : decode prog_3_method_16_code 34 = .ok (.iaload, 1) := by decide +kernel
theorem d_XK_knownPairs_35 : decode prog_3_method_16_code 35 = .ok (.ior, 1) := by decide +kernel
theorem d_XK_knownPairs_36 : decode prog_3_method_16_code 36 = .ok (.invokestatic 43, 3) := by decide +kernel
theorem d_XK_knownPairs_39 : decode prog_3_method_16_code 39 = .ok (.iadd, 1) := by decide +kernel
theorem d_XK_knownPairs_40 : decode prog_3_method_16_code 40 = .ok (.istore_n 2, 1) := by decide +kernel
theorem d_XK_knownPairs_41 : decode prog_3_method_16_code 41 = .ok (.iinc 3 1, 3) := by decide +kernel
theorem d_XK_knownPairs_44 : decode prog_3_method_16_code 44 = .ok (.goto (-40), 3) := by decide +kernel
theorem d_XK_knownPairs_47 : decode prog_3_method_16_code 47 = .ok (.iload_n 2, 1) := by decide +kernel
theorem d_XK_knownPairs_48 : decode prog_3_method_16_code 48 = .ok (.ireturn, 1) := by decide +kernel
theorem d_XA_drop_0 : decode prog_2_method_8_code 0 = .ok (.aload_n 0, 1) := by decide +kernel
theorem d_XA_drop_1 : decode prog_2_method_8_code 1 = .ok (.iload_n 1, 1) := by decide +kernel
theorem d_XA_drop_2 : decode prog_2_method_8_code 2 = .ok (.invokevirtual 33, 3) := by decide +kernel
theorem d_XA_drop_5 : decode prog_2_method_8_code 5 = .ok (.ifCond .eq 20, 3) := by decide +kernel
theorem d_XA_drop_8 : decode prog_2_method_8_code 8 = .ok (.aload_n 0, 1) := by decide +kernel
theorem d_XA_drop_9 : decode prog_2_method_8_code 9 = .ok (.getfield 9, 3) := by decide +kernel
theorem d_XA_drop_12 : decode prog_2_method_8_code 12 = .ok (.iload_n 1, 1) := by decide +kernel
theorem d_XA_drop_13 : decode prog_2_method_8_code 13 = .ok (.iconst 0, 1) := by decide +kernel
theorem d_XA_drop_14 : decode prog_2_method_8_code 14 = .ok (.iastore, 1) := by decide +kernel
theorem d_XA_drop_15 : decode prog_2_method_8_code 15 = .ok (.aload_n 0, 1) := by decide +kernel
theorem d_XA_drop_16 : decode prog_2_method_8_code 16 = .ok (.dup, 1) := by decide +kernel
theorem d_XA_drop_17 : decode prog_2_method_8_code 17 = .ok (.getfield 22, 3) := by decide +kernel
theorem d_XA_drop_20 : decode prog_2_method_8_code 20 = .ok (.iconst 1, 1) := by decide +kernel
theorem d_XA_drop_21 : decode prog_2_method_8_code 21 = .ok (.isub, 1) := by decide +kernel
theorem d_XA_drop_22 : decode prog_2_method_8_code 22 = .ok (.putfield 22, 3) := by decide +kernel
theorem d_XA_drop_25 : decode prog_2_method_8_code 25 = .ok (.return_, 1) := by decide +kernel
theorem d_XK_forgetYes_0 : decode prog_3_method_14_code 0 = .ok (.iconst 0, 1) := by decide +kernel
theorem d_XK_forgetYes_1 : decode prog_3_method_14_code 1 = .ok (.istore_n 2, 1) := by decide +kernel
theorem d_XK_forgetYes_2 : decode prog_3_method_14_code 2 = .ok (.iload_n 2, 1) := by decide +kernel
theorem d_XK_forgetYes_3 : decode prog_3_method_14_code 3 = .ok (.bipush 21, 2) := by decide +kernel
theorem d_XK_forgetYes_5 : decode prog_3_method_14_code 5 = .ok (.if_icmp .ge 59, 3) := by decide +kernel
theorem d_XK_forgetYes_8 : decode prog_3_method_14_code 8 = .ok (.aload_n 0, 1) := by decide +kernel
theorem d_XK_forgetYes_9 : decode prog_3_method_14_code 9 = .ok (.getfield 15, 3) := by decide +kernel
theorem d_XK_forgetYes_12 : decode prog_3_method_14_code 12 = .ok (.iload_n 2, 1) := by decide +kernel
theorem d_XK_forgetYes_13 : decode prog_3_method_14_code 13 = .ok (.dup2, 1) := by decide +kernel
theorem d_XK_forgetYes_14 : decode prog_3_method_14_code 14 = .ok (.iaload, 1) := by decide +kernel
theorem d_XK_forgetYes_15 : decode prog_3_method_14_code 15 = .ok (.iload_n 1, 1) := by decide +kernel
theorem d_XK_forgetYes_16 : decode prog_3_method_14_code 16 = .ok (.iconst (-1), 1) := by decide +kernel
theorem d_XK_forgetYes_17 : decode prog_3_method_14_code 17 = .ok (.ixor, 1) := by decide +kernel
theorem d_XK_forgetYes_18 : decode prog_3_method_14_code 18 = .ok (.iand, 1) := by decide +kernel
theorem d_XK_forgetYes_19 : decode prog_3_method_14_code 19 = .ok (.iastore, 1) := by decide +kernel
theorem d_XK_forgetYes_20 : decode prog_3_method_14_code 20 = .ok (.iload_n 1, 1) := by decide +kernel
theorem d_XK_forgetYes_21 : decode prog_3_method_14_code 21 = .ok (.iload_n 2, 1) := by decide +kernel
theorem d_XK_forgetYes_22 : decode prog_3_method_14_code 22 = .ok (.invokestatic 35, 3) := by decide +kernel
theorem d_XK_forgetYes_25 : decode prog_3_method_14_code 25 = .ok (.ifCond .eq 33, 3) := by decide +kernel
theorem d_XK_forgetYes_28 : decode prog_3_method_14_code 28 = .ok (.aload_n 0, 1) := by decide +kernel
theorem d_XK_forgetYes_29 : decode prog_3_method_14_code 29 = .ok (.getfield 9, 3) := by decide +kernel
theorem d_XK_forgetYes_32 : decode prog_3_method_14_code 32 = .ok (.iload_n 2, 1) := by decide +kernel
theorem d_XK_forgetYes_33 : decode prog_3_method_14_code 33 = .ok (.iload_n 2, 1) := by decide +kernel
theorem d_XK_forgetYes_34 : decode prog_3_method_14_code 34 = .ok (.invokestatic 24, 3) := by decide +kernel
theorem d_XK_forgetYes_37 : decode prog_3_method_14_code 37 = .ok (.iastore, 1) := by decide +kernel
theorem d_XK_forgetYes_38 : decode prog_3_method_14_code 38 = .ok (.aload_n 0, 1) := by decide +kernel
theorem d_XK_forgetYes_39 : decode prog_3_method_14_code 39 = .ok (.getfield 15, 3) := by decide +kernel
theorem d_XK_forgetYes_42 : decode prog_3_method_14_code 42 = .ok (.iload_n 2, 1) := by decide +kernel
theorem d_XK_forgetYes_43 : decode prog_3_method_14_code 43 = .ok (.dup2, 1) := by decide +kernel
theorem d_XK_forgetYes_44 : decode prog_3_method_14_code 44 = .ok (.iaload, 1) := by decide +kernel
theorem d_XK_forgetYes_45 : decode prog_3_method_14_code 45 = .ok (.iload_n 2, 1) := by decide +kernel
theorem d_XK_forgetYes_46 : decode prog_3_method_14_code 46 = .ok (.invokestatic 24, 3) := by decide +kernel
theorem d_XK_forgetYes_49 : decode prog_3_method_14_code 49 = .ok (.ior, 1) := by decide +kernel
theorem d_XK_forgetYes_50 : decode prog_3_method_14_code 50 = .ok (.iastore, 1) := by decide +kernel
theorem d_XK_forgetYes_51 : decode prog_3_method_14_code 51 = .ok (.aload_n 0, 1) := by decide +kernel
theorem d_XK_forgetYes_52 : decode prog_3_method_14_code 52 = .ok (.getfield 21, 3) := by decide +kernel
theorem d_XK_forgetYes_55 : decode prog_3_method_14_code 55 = .ok (.iload_n 2, 1) := by decide +kernel
theorem d_XK_forgetYes_56 : decode prog_3_method_14_code 56 = .ok (.iconst 0, 1) := by decide +kernel
theorem d_XK_forgetYes_57 : decode prog_3_method_14_code 57 = .ok (.iastore, 1) := by decide +kernel
theorem d_XK_forgetYes_58 : decode prog_3_method_14_code 58 = .ok (.iinc 2 1, 3) := by decide +kernel
theorem d_XK_forgetYes_61 : decode prog_3_method_14_code 61 = .ok (.goto (-59), 3) := by decide +kernel
theorem d_XK_forgetYes_64 : decode prog_3_method_14_code 64 = .ok (.return_, 1) := by decide +kernel
theorem d_X_fuel_0 : decode prog_1_method_6_code 0 = .ok (.iload_n 1, 1) := by decide +kernel
theorem d_X_fuel_1 : decode prog_1_method_6_code 1 = .ok (.ifCond .lt 9, 3) := by decide +kernel
theorem d_X_fuel_4 : decode prog_1_method_6_code 4 = .ok (.iload_n 1, 1) := by decide +kernel
theorem d_X_fuel_5 : decode prog_1_method_6_code 5 = .ok (.bipush 20, 2) := by decide +kernel
theorem d_X_fuel_7 : decode prog_1_method_6_code 7 = .ok (.if_icmp .le 6, 3) := by decide +kernel
theorem d_X_fuel_10 : decode prog_1_method_6_code 10 = .ok (.bipush (-2), 2) := by decide +kernel
theorem d_X_fuel_12 : decode prog_1_method_6_code 12 = .ok (.ireturn, 1) := by decide +kernel
theorem d_X_fuel_13 : decode prog_1_method_6_code 13 = .ok (.aload_n 0, 1) := by decide +kernel
theorem d_X_fuel_14 : decode prog_1_method_6_code 14 = .ok (.getfield 28, 3) := by decide +kernel
theorem d_X_fuel_17 : decode prog_1_method_6_code 17 = .ok (.aload_n 0, 1) := by decide +kernel
theorem d_X_fuel_18 : decode prog_1_method_6_code 18 = .ok (.getfield 45, 3) := by decide +kernel
theorem d_X_fuel_21 : decode prog_1_method_6_code 21 = .ok (.invokevirtual 106, 3) := by decide +kernel
theorem d_X_fuel_24 : decode prog_1_method_6_code 24 = .ok (.istore_n 2, 1) := by decide +kernel
theorem d_X_fuel_25 : decode prog_1_method_6_code 25 = .ok (.aload_n 0, 1) := by decide +kernel
theorem d_X_fuel_26 : decode prog_1_method_6_code 26 = .ok (.getfield 21, 3) := by decide +kernel
theorem d_X_fuel_29 : decode prog_1_method_6_code 29 = .ok (.iload_n 1, 1) := by decide +kernel
theorem d_X_fuel_30 : decode prog_1_method_6_code 30 = .ok (.invokevirtual 109, 3) := by decide +kernel
theorem d_X_fuel_33 : decode prog_1_method_6_code 33 = .ok (.aload_n 0, 1) := by decide +kernel
theorem d_X_fuel_34 : decode prog_1_method_6_code 34 = .ok (.getfield 28, 3) := by decide +kernel
theorem d_X_fuel_37 : decode prog_1_method_6_code 37 = .ok (.invokevirtual 112, 3) := by decide +kernel
theorem d_X_fuel_40 : decode prog_1_method_6_code 40 = .ok (.aload_n 0, 1) := by decide +kernel
theorem d_X_fuel_41 : decode prog_1_method_6_code 41 = .ok (.iconst 0, 1) := by decide +kernel
theorem d_X_fuel_42 : decode prog_1_method_6_code 42 = .ok (.putfield 55, 3) := by decide +kernel
theorem d_X_fuel_45 : decode prog_1_method_6_code 45 = .ok (.iload_n 2, 1) := by decide +kernel
theorem d_X_fuel_46 : decode prog_1_method_6_code 46 = .ok (.ireturn, 1) := by decide +kernel
theorem d_XK_openPairs_0 : decode prog_3_method_17_code 0 = .ok (.iconst 0, 1) := by decide +kernel
theorem d_XK_openPairs_1 : decode prog_3_method_17_code 1 = .ok (.istore_n 2, 1) := by decide +kernel
theorem d_XK_openPairs_2 : decode prog_3_method_17_code 2 = .ok (.iconst 0, 1) := by decide +kernel
theorem d_XK_openPairs_3 : decode prog_3_method_17_code 3 = .ok (.istore_n 3, 1) := by decide +kernel
theorem d_XK_openPairs_4 : decode prog_3_method_17_code 4 = .ok (.iload_n 3, 1) := by decide +kernel
theorem d_XK_openPairs_5 : decode prog_3_method_17_code 5 = .ok (.iload_n 1, 1) := by decide +kernel
theorem d_XK_openPairs_6 : decode prog_3_method_17_code 6 = .ok (.if_icmp .ge 27, 3) := by decide +kernel
theorem d_XK_openPairs_9 : decode prog_3_method_17_code 9 = .ok (.iload_n 3, 1) := by decide +kernel
theorem d_XK_openPairs_10 : decode prog_3_method_17_code 10 = .ok (.bipush 20, 2) := by decide +kernel
theorem d_XK_openPairs_12 : decode prog_3_method_17_code 12 = .ok (.if_icmp .ge 21, 3) := by decide +kernel
theorem d_XK_openPairs_15 : decode prog_3_method_17_code 15 = .ok (.iload_n 2, 1) := by decide +kernel
theorem d_XK_openPairs_16 : decode prog_3_method_17_code 16 = .ok (.aload_n 0, 1) := by decide +kernel
theorem d_XK_openPairs_17 : decode prog_3_method_17_code 17 = .ok (.getfield 21, 3) := by decide +kernel
theorem d_XK_openPairs_20 : decode prog_3_method_17_code 20 = .ok (.iload_n 3, 1) := by decide +kernel
theorem d_XK_openPairs_21 : decode prog_3_method_17_code 21 = .ok (.iaload, 1) := by decide +kernel
theorem d_XK_openPairs_22 : decode prog_3_method_17_code 22 = .ok (.invokestatic 43, 3) := by decide +kernel
theorem d_XK_openPairs_25 : decode prog_3_method_17_code 25 = .ok (.iadd, 1) := by decide +kernel
theorem d_XK_openPairs_26 : decode prog_3_method_17_code 26 = .ok (.istore_n 2, 1) := by decide +kernel
theorem d_XK_openPairs_27 : decode prog_3_method_17_code 27 = .ok (.iinc 3 1, 3) := by decide +kernel
theorem d_XK_openPairs_30 : decode prog_3_method_17_code 30 = .ok (.goto (-26), 3) := by decide +kernel
theorem d_XK_openPairs_33 : decode prog_3_method_17_code 33 = .ok (.iload_n 2, 1) := by decide +kernel
theorem d_XK_openPairs_34 : decode prog_3_method_17_code 34 = .ok (.ireturn, 1) := by decide +kernel
theorem d_XR_fillUp_0 : decode prog_5_method_2_code 0 = .ok (.aload_n 0, 1) := by decide +kernel
theorem d_XR_fillUp_1 : decode prog_5_method_2_code 1 = .ok (.iconst 0, 1) := by decide +kernel
theorem d_XR_fillUp_2 : decode prog_5_method_2_code 2 = .ok (.iload_n 1, 1) := by decide +kernel
theorem d_XR_fillUp_3 : decode prog_5_method_2_code 3 = .ok (.bipush 20, 2) := by decide +kernel
theorem d_XR_fillUp_5 : decode prog_5_method_2_code 5 = .ok (.invokestatic 29, 3) := by decide +kernel
theorem d_XR_fillUp_8 : decode prog_5_method_2_code 8 = .ok (.invokestatic 35, 3) := by decide +kernel
theorem d_XR_fillUp_11 : decode prog_5_method_2_code 11 = .ok (.putfield 15, 3) := by decide +kernel
theorem d_XR_fillUp_14 : decode prog_5_method_2_code 14 = .ok (.return_, 1) := by decide +kernel
theorem d_XK_forgetOpen_0 : decode prog_3_method_15_code 0 = .ok (.iconst 0, 1) := by decide +kernel
theorem d_XK_forgetOpen_1 : decode prog_3_method_15_code 1 = .ok (.istore_n 1, 1) := by decide +kernel
theorem d_XK_forgetOpen_2 : decode prog_3_method_15_code 2 = .ok (.iload_n 1, 1) := by decide +kernel
theorem d_XK_forgetOpen_3 : decode prog_3_method_15_code 3 = .ok (.bipush 21, 2) := by decide +kernel
theorem d_XK_forgetOpen_5 : decode prog_3_method_15_code 5 = .ok (.if_icmp .ge 16, 3) := by decide +kernel
theorem d_XK_forgetOpen_8 : decode prog_3_method_15_code 8 = .ok (.aload_n 0, 1) := by decide +kernel
theorem d_XK_forgetOpen_9 : decode prog_3_method_15_code 9 = .ok (.getfield 21, 3) := by decide +kernel
theorem d_XK_forgetOpen_12 : decode prog_3_method_15_code 12 = .ok (.iload_n 1, 1) := by decide +kernel
theorem d_XK_forgetOpen_13 : decode prog_3_method_15_code 13 = .ok (.iconst 0, 1) := by decide +kernel
theorem d_XK_forgetOpen_14 : decode prog_3_method_15_code 14 = .ok (.iastore, 1) := by decide +kernel
theorem d_XK_forgetOpen_15 : decode prog_3_method_15_code 15 = .ok (.iinc 1 1, 3) := by decide +kernel
theorem d_XK_forgetOpen_18 : decode prog_3_method_15_code 18 = .ok (.goto (-16), 3) := by decide +kernel
theorem d_XK_forgetOpen_21 : decode prog_3_method_15_code 21 = .ok (.return_, 1) := by decide +kernel
theorem d_X_known_0 : decode prog_1_method_7_code 0 = .ok (.aload_n 0, 1) := by decide +kernel
theorem d_X_known_1 : decode prog_1_method_7_code 1 = .ok (.iload_n 1, 1) := by decide +kernel
theorem d_X_known_2 : decode prog_1_method_7_code 2 = .ok (.invokevirtual 63, 3) := by decide +kernel
theorem d_X_known_5 : decode prog_1_method_7_code 5 = .ok (.ifCond .eq 11, 3) := by decide +kernel
theorem d_X_known_8 : decode prog_1_method_7_code 8 = .ok (.aload_n 0, 1) := by decide +kernel
theorem d_X_known_9 : decode prog_1_method_7_code 9 = .ok (.iload_n 2, 1) := by decide +kernel
theorem d_X_known_10 : decode prog_1_method_7_code 10 = .ok (.invokevirtual 67, 3) := by decide +kernel
theorem d_X_known_13 : decode prog_1_method_7_code 13 = .ok (.ifCond .ne 5, 3) := by decide +kernel
theorem d_X_known_16 : decode prog_1_method_7_code 16 = .ok (.iconst (-1), 1) := by decide +kernel
theorem d_X_known_17 : decode prog_1_method_7_code 17 = .ok (.ireturn, 1) := by decide +kernel
theorem d_X_known_18 : decode prog_1_method_7_code 18 = .ok (.aload_n 0, 1) := by decide +kernel
theorem d_X_known_19 : decode prog_1_method_7_code 19 = .ok (.getfield 28, 3) := by decide +kernel
theorem d_X_known_22 : decode prog_1_method_7_code 22 = .ok (.iload_n 1, 1) := by decide +kernel
theorem d_X_known_23 : decode prog_1_method_7_code 23 = .ok (.iload_n 2, 1) := by decide +kernel
theorem d_X_known_24 : decode prog_1_method_7_code 24 = .ok (.invokestatic 78, 3) := by decide +kernel
theorem d_X_known_27 : decode prog_1_method_7_code 27 = .ok (.invokevirtual 115, 3) := by decide +kernel
theorem d_X_known_30 : decode prog_1_method_7_code 30 = .ok (.ireturn, 1) := by decide +kernel
theorem d_XK_of_0 : decode prog_3_method_3_code 0 = .ok (.aload_n 0, 1) := by decide +kernel
theorem d_XK_of_1 : decode prog_3_method_3_code 1 = .ok (.getfield 9, 3) := by decide +kernel
theorem d_XK_of_4 : decode prog_3_method_3_code 4 = .ok (.iload_n 1, 1) := by decide +kernel
theorem d_XK_of_5 : decode prog_3_method_3_code 5 = .ok (.iaload, 1) := by decide +kernel
theorem d_XK_of_6 : decode prog_3_method_3_code 6 = .ok (.iload_n 2, 1) := by decide +kernel
theorem d_XK_of_7 : decode prog_3_method_3_code 7 = .ok (.invokestatic 35, 3) := by decide +kernel
theorem d_XK_of_10 : decode prog_3_method_3_code 10 = .ok (.ifCond .eq 5, 3) := by decide +kernel
theorem d_XK_of_13 : decode prog_3_method_3_code 13 = .ok (.iconst 1, 1) := by decide +kernel
theorem d_XK_of_14 : decode prog_3_method_3_code 14 = .ok (.ireturn, 1) := by decide +kernel
theorem d_XK_of_15 : decode prog_3_method_3_code 15 = .ok (.aload_n 0, 1) := by decide +kernel
theorem d_XK_of_16 : decode prog_3_method_3_code 16 = .ok (.getfield 18, 3) := by decide +kernel
theorem d_XK_of_19 : decode prog_3_method_3_code 19 = .ok (.iload_n 1, 1) := by decide +kernel
theorem d_XK_of_20 : decode prog_3_method_3_code 20 = .ok (.iaload, 1) := by decide +kernel
theorem d_XK_of_21 : decode prog_3_method_3_code 21 = .ok (.iload_n 2, 1) := by decide +kernel
theorem d_XK_of_22 : decode prog_3_method_3_code 22 = .ok (.invokestatic 35, 3) := by decide +kernel
theorem d_XK_of_25 : decode prog_3_method_3_code 25 = .ok (.ifCond .eq 5, 3) := by decide +kernel
theorem d_XK_of_28 : decode prog_3_method_3_code 28 = .ok (.iconst 0, 1) := by decide +kernel
theorem d_XK_of_29 : decode prog_3_method_3_code 29 = .ok (.ireturn, 1) := by decide +kernel
theorem d_XK_of_30 : decode prog_3_method_3_code 30 = .ok (.aload_n 0, 1) := by decide +kernel
theorem d_XK_of_31 : decode prog_3_method_3_code 31 = .ok (.getfield 21, 3) := by decide +kernel
theorem d_XK_of_34 : decode prog_3_method_3_code 34 = .ok (.iload_n 1, 1) := by decide +kernel
theorem d_XK_of_35 : decode prog_3_method_3_code 35 = .ok (.iaload, 1) := by decide +kernel
theorem d_XK_of_36 : decode prog_3_method_3_code 36 = .ok (.iload_n 2, 1) := by decide +kernel
theorem d_XK_of_37 : decode prog_3_method_3_code 37 = .ok (.invokestatic 35, 3) := by decide +kernel
theorem d_XK_of_40 : decode prog_3_method_3_code 40 = .ok (.ifCond .eq 7, 3) := by decide +kernel
theorem d_XK_of_43 : decode prog_3_method_3_code 43 = .ok (.iconst 2, 1) := by decide +kernel
theorem d_XK_of_44 : decode prog_3_method_3_code 44 = .ok (.goto 4, 3) := by decide +kernel
theorem d_XK_of_47 : decode prog_3_method_3_code 47 = .ok (.iconst 3, 1) := by decide +kernel
theorem d_XK_of_48 : decode prog_3_method_3_code 48 = .ok (.ireturn, 1) := by decide +kernel
theorem d_X_ask_0 : decode prog_1_method_8_code 0 = .ok (.aload_n 0, 1) := by decide +kernel
theorem d_X_ask_1 : decode prog_1_method_8_code 1 = .ok (.iload_n 1, 1) := by decide +kernel
theorem d_X_ask_2 : decode prog_1_method_8_code 2 = .ok (.invokevirtual 63, 3) := by decide +kernel
theorem d_X_ask_5 : decode prog_1_method_8_code 5 = .ok (.ifCond .eq 11, 3) := by decide +kernel
theorem d_X_ask_8 : decode prog_1_method_8_code 8 = .ok (.aload_n 0, 1) := by decide +kernel
theorem d_X_ask_9 : decode prog_1_method_8_code 9 = .ok (.iload_n 2, 1) := by decide +kernel
theorem d_X_ask_10 : decode prog_1_method_8_code 10 = .ok (.invokevirtual 67, 3) := by decide +kernel
theorem d_X_ask_13 : decode prog_1_method_8_code 13 = .ok (.ifCond .ne 5, 3) := by decide +kernel
theorem d_X_ask_16 : decode prog_1_method_8_code 16 = .ok (.iconst (-1), 1) := by decide +kernel
theorem d_X_ask_17 : decode prog_1_method_8_code 17 = .ok (.ireturn, 1) := by decide +kernel
theorem d_X_ask_18 : decode prog_1_method_8_code 18 = .ok (.aload_n 0, 1) := by decide +kernel
theorem d_X_ask_19 : decode prog_1_method_8_code 19 = .ok (.getfield 21, 3) := by decide +kernel
theorem d_X_ask_22 : decode prog_1_method_8_code 22 = .ok (.iload_n 1, 1) := by decide +kernel
theorem d_X_ask_23 : decode prog_1_method_8_code 23 = .ok (.invokestatic 74, 3) := by decide +kernel
theorem d_X_ask_26 : decode prog_1_method_8_code 26 = .ok (.iload_n 2, 1) := by decide +kernel
theorem d_X_ask_27 : decode prog_1_method_8_code 27 = .ok (.invokestatic 78, 3) := by decide +kernel
theorem d_X_ask_30 : decode prog_1_method_8_code 30 = .ok (.invokevirtual 118, 3) := by decide +kernel
theorem d_X_ask_33 : decode prog_1_method_8_code 33 = .ok (.ireturn, 1) := by decide +kernel
theorem d_XR_decide_0 : decode prog_5_method_5_code 0 = .ok (.iload_n 2, 1) := by decide +kernel
theorem d_XR_decide_1 : decode prog_5_method_5_code 1 = .ok (.invokestatic 38, 3) := by decide +kernel
theorem d_XR_decide_4 : decode prog_5_method_5_code 4 = .ok (.bipush 20, 2) := by decide +kernel
theorem d_XR_decide_6 : decode prog_5_method_5_code 6 = .ok (.invokestatic 38, 3) := by decide +kernel
theorem d_XR_decide_9 : decode prog_5_method_5_code 9 = .ok (.ior, 1) := by decide +kernel
theorem d_XR_decide_10 : decode prog_5_method_5_code 10 = .ok (.istore_n 3, 1) := by decide +kernel
theorem d_XR_decide_11 : decode prog_5_method_5_code 11 = .ok (.aload_n 0, 1) := by decide +kernel
theorem d_XR_decide_12 : decode prog_5_method_5_code 12 = .ok (.iload_n 1, 1) := by decide +kernel
theorem d_XR_decide_13 : decode prog_5_method_5_code 13 = .ok (.putfield 22, 3) := by decide +kernel
theorem d_XR_decide_16 : decode prog_5_method_5_code 16 = .ok (.aload_n 0, 1) := by decide +kernel
theorem d_XR_decide_17 : decode prog_5_method_5_code 17 = .ok (.iconst 0, 1) := by decide +kernel
theorem d_XR_decide_18 : decode prog_5_method_5_code 18 = .ok (.putfield 19, 3) := by decide +kernel
theorem d_XR_decide_21 : decode prog_5_method_5_code 21 = .ok (.iconst 0, 1) := by decide +kernel
theorem d_XR_decide_22 : decode prog_5_method_5_code 22 = .ok (.istore 4, 2) := by decide +kernel
theorem d_XR_decide_24 : decode prog_5_method_5_code 24 = .ok (.iload 4, 2) := by decide +kernel
theorem d_XR_decide_26 : decode prog_5_method_5_code 26 = .ok (.bipush 20, 2) := by decide +kernel
theorem d_XR_decide_28 : decode prog_5_method_5_code 28 = .ok (.if_icmp .gt 97, 3) := by decide +kernel
theorem d_XR_decide_31 : decode prog_5_method_5_code 31 = .ok (.aload_n 0, 1) := by decide +kernel
theorem d_XR_decide_32 : decode prog_5_method_5_code 32 = .ok (.getfield 22, 3) := by decide +kernel
theorem d_XR_decide_35 : decode prog_5_method_5_code 35 = .ok (.iload_n 3, 1) := by decide +kernel
theorem d_XR_decide_36 : decode prog_5_method_5_code 36 = .ok (.iand, 1) := by decide +kernel
theorem d_XR_decide_37 : decode prog_5_method_5_code 37 = .ok (.ifCond .eq 5, 3) := by decide +kernel
theorem d_XR_decide_40 : decode prog_5_method_5_code 40 = .ok (.iconst 1, 1) := by decide +kernel
theorem d_XR_decide_41 : decode prog_5_method_5_code 41 = .ok (.ireturn, 1) := by decide +kernel
theorem d_XR_decide_42 : decode prog_5_method_5_code 42 = .ok (.aload_n 0, 1) := by decide +kernel
theorem d_XR_decide_43 : decode prog_5_method_5_code 43 = .ok (.getfield 25, 3) := by decide +kernel
theorem d_XR_decide_46 : decode prog_5_method_5_code 46 = .ok (.aload_n 0, 1) := by decide +kernel
theorem d_XR_decide_47 : decode prog_5_method_5_code 47 = .ok (.getfield 22, 3) := by decide +kernel
theorem d_XR_decide_50 : decode prog_5_method_5_code 50 = .ok (.invokevirtual 42, 3) := by decide +kernel
theorem d_XR_decide_53 : decode prog_5_method_5_code 53 = .ok (.istore 5, 2) := by decide +kernel
theorem d_XR_decide_55 : decode prog_5_method_5_code 55 = .ok (.iload 5, 2) := by decide +kernel
theorem d_XR_decide_57 : decode prog_5_method_5_code 57 = .ok (.bipush (-6), 2) := by decide +kernel
theorem d_XR_decide_59 : decode prog_5_method_5_code 59 = .ok (.if_icmp .ne 5, 3) := by decide +kernel
theorem d_XR_decide_62 : decode prog_5_method_5_code 62 = .ok (.iconst 0, 1) := by decide +kernel
theorem d_XR_decide_63 : decode prog_5_method_5_code 63 = .ok (.ireturn, 1) := by decide +kernel
theorem d_XR_decide_64 : decode prog_5_method_5_code 64 = .ok (.aload_n 0, 1) := by decide +kernel
theorem d_XR_decide_65 : decode prog_5_method_5_code 65 = .ok (.getfield 19, 3) := by decide +kernel
theorem d_XR_decide_68 : decode prog_5_method_5_code 68 = .ok (.aload_n 0, 1) := by decide +kernel
theorem d_XR_decide_69 : decode prog_5_method_5_code 69 = .ok (.getfield 15, 3) := by decide +kernel
theorem d_XR_decide_72 : decode prog_5_method_5_code 72 = .ok (.if_icmp .lt 5, 3) := by decide +kernel
theorem d_XR_decide_75 : decode prog_5_method_5_code 75 = .ok (.iconst 2, 1) := by decide +kernel
theorem d_XR_decide_76 : decode prog_5_method_5_code 76 = .ok (.ireturn, 1) := by decide +kernel
theorem d_XR_decide_77 : decode prog_5_method_5_code 77 = .ok (.aload_n 0, 1) := by decide +kernel
theorem d_XR_decide_78 : decode prog_5_method_5_code 78 = .ok (.getfield 9, 3) := by decide +kernel
theorem d_XR_decide_81 : decode prog_5_method_5_code 81 = .ok (.aload_n 0, 1) := by decide +kernel
theorem d_XR_decide_82 : decode prog_5_method_5_code 82 = .ok (.getfield 19, 3) := by decide +kernel
theorem d_XR_decide_85 : decode prog_5_method_5_code 85 = .ok (.iload 5, 2) := by decide +kernel
theorem d_XR_decide_87 : decode prog_5_method_5_code 87 = .ok (.iastore, 1) := by decide +kernel
theorem d_XR_decide_88 : decode prog_5_method_5_code 88 = .ok (.aload_n 0, 1) := by decide +kernel
theorem d_XR_decide_89 : decode prog_5_method_5_code 89 = .ok (.dup, 1) := by decide +kernel
theorem d_XR_decide_90 : decode prog_5_method_5_code 90 = .ok (.getfield 19, 3) := by decide +kernel
theorem d_XR_decide_93 : decode prog_5_method_5_code 93 = .ok (.iconst 1, 1) := by decide +kernel
theorem d_XR_decide_94 : decode prog_5_method_5_code 94 = .ok (.iadd, 1) := by decide +kernel
theorem d_XR_decide_95 : decode prog_5_method_5_code 95 = .ok (.putfield 19, 3) := by decide +kernel
theorem d_XR_decide_98 : decode prog_5_method_5_code 98 = .ok (.aload_n 0, 1) := by decide +kernel
theorem d_XR_decide_99 : decode prog_5_method_5_code 99 = .ok (.dup, 1) := by decide +kernel
theorem d_XR_decide_100 : decode prog_5_method_5_code 100 = .ok (.getfield 22, 3) := by decide +kernel
theorem d_XR_decide_103 : decode prog_5_method_5_code 103 = .ok (.aload_n 0, 1) := by decide +kernel
theorem d_XR_decide_104 : decode prog_5_method_5_code 104 = .ok (.getfield 25, 3) := by decide +kernel
theorem d_XR_decide_107 : decode prog_5_method_5_code 107 = .ok (.iload 5, 2) := by decide +kernel
theorem d_XR_decide_109 : decode prog_5_method_5_code 109 = .ok (.invokevirtual 47, 3) := by decide +kernel
theorem d_XR_decide_112 : decode prog_5_method_5_code 112 = .ok (.invokestatic 38, 3) := by decide +kernel
theorem d_XR_decide_115 : decode prog_5_method_5_code 115 = .ok (.ior, 1) := by decide +kernel
theorem d_XR_decide_116 : decode prog_5_method_5_code 116 = .ok (.putfield 22, 3) := by decide +kernel
theorem d_XR_decide_119 : decode prog_5_method_5_code 119 = .ok (.iinc 4 1, 3) := by decide +kernel
theorem d_XR_decide_122 : decode prog_5_method_5_code 122 = .ok (.goto (-98), 3) := by decide +kernel
theorem d_XR_decide_125 : decode prog_5_method_5_code 125 = .ok (.iconst 2, 1) := by decide +kernel
theorem d_XR_decide_126 : decode prog_5_method_5_code 126 = .ok (.ireturn, 1) := by decide +kernel
theorem d_XA_firstThatFires_0 : decode prog_2_method_9_code 0 = .ok (.iconst 0, 1) := by decide +kernel
theorem d_XA_firstThatFires_1 : decode prog_2_method_9_code 1 = .ok (.istore_n 2, 1) := by decide +kernel
theorem d_XA_firstThatFires_2 : decode prog_2_method_9_code 2 = .ok (.iload_n 2, 1) := by decide +kernel
theorem d_XA_firstThatFires_3 : decode prog_2_method_9_code 3 = .ok (.aload_n 0, 1) := by decide +kernel
theorem d_XA_firstThatFires_4 : decode prog_2_method_9_code 4 = .ok (.getfield 18, 3) := by decide +kernel
theorem d_XA_firstThatFires_7 : decode prog_2_method_9_code 7 = .ok (.if_icmp .ge 43, 3) := by decide +kernel
theorem d_XA_firstThatFires_10 : decode prog_2_method_9_code 10 = .ok (.aload_n 0, 1) := by decide +kernel
theorem d_XA_firstThatFires_11 : decode prog_2_method_9_code 11 = .ok (.getfield 9, 3) := by decide +kernel
theorem d_XA_firstThatFires_14 : decode prog_2_method_9_code 14 = .ok (.iload_n 2, 1) := by decide +kernel
theorem d_XA_firstThatFires_15 : decode prog_2_method_9_code 15 = .ok (.iaload, 1) := by decide +kernel
theorem d_XA_firstThatFires_16 : decode prog_2_method_9_code 16 = .ok (.istore_n 3, 1) := by decide +kernel
theorem d_XA_firstThatFires_17 : decode prog_2_method_9_code 17 = .ok (.iload_n 3, 1) := by decide +kernel
theorem d_XA_firstThatFires_18 : decode prog_2_method_9_code 18 = .ok (.ifCond .eq 26, 3) := by decide +kernel
theorem d_XA_firstThatFires_21 : decode prog_2_method_9_code 21 = .ok (.iload_n 3, 1) := by decide +kernel
theorem d_XA_firstThatFires_22 : decode prog_2_method_9_code 22 = .ok (.iload_n 1, 1) := by decide +kernel
theorem d_XA_firstThatFires_23 : decode prog_2_method_9_code 23 = .ok (.iconst (-1), 1) := by decide +kernel
