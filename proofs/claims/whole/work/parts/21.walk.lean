theorem d_Rm_best_0 : decode prog_8_method_42_code 0 = .ok (.ldc 195, 2) := by decide +kernel
theorem d_Rm_best_2 : decode prog_8_method_42_code 2 = .ok (.istore_n 3, 1) := by decide +kernel
theorem d_Rm_best_3 : decode prog_8_method_42_code 3 = .ok (.iconst 0, 1) := by decide +kernel
theorem d_Rm_best_4 : decode prog_8_method_42_code 4 = .ok (.istore 4, 2) := by decide +kernel
theorem d_Rm_best_6 : decode prog_8_method_42_code 6 = .ok (.iconst 0, 1) := by decide +kernel
theorem d_Rm_best_7 : decode prog_8_method_42_code 7 = .ok (.istore 5, 2) := by decide +kernel
theorem d_Rm_best_9 : decode prog_8_method_42_code 9 = .ok (.iload 5, 2) := by decide +kernel
theorem d_Rm_best_11 : decode prog_8_method_42_code 11 = .ok (.aload_n 0, 1) := by decide +kernel
theorem d_Rm_best_12 : decode prog_8_method_42_code 12 = .ok (.getfield 66, 3) := by decide +kernel
theorem d_Rm_best_15 : decode prog_8_method_42_code 15 = .ok (.iload_n 1, 1) := by decide +kernel
theorem d_Rm_best_16 : decode prog_8_method_42_code 16 = .ok (.iaload, 1) := by decide +kernel
theorem d_Rm_best_17 : decode prog_8_method_42_code 17 = .ok (.if_icmp .ge 85, 3) := by decide +kernel
theorem d_Rm_best_20 : decode prog_8_method_42_code 20 = .ok (.aload_n 0, 1) := by decide +kernel
theorem d_Rm_best_21 : decode prog_8_method_42_code 21 = .ok (.iload_n 1, 1) := by decide +kernel
theorem d_Rm_best_22 : decode prog_8_method_42_code 22 = .ok (.iload 5, 2) := by decide +kernel
theorem d_Rm_best_24 : decode prog_8_method_42_code 24 = .ok (.aload_n 0, 1) := by decide +kernel
theorem d_Rm_best_25 : decode prog_8_method_42_code 25 = .ok (.getfield 48, 3) := by decide +kernel
theorem d_Rm_best_28 : decode prog_8_method_42_code 28 = .ok (.invokevirtual 183, 3) := by decide +kernel
theorem d_Rm_best_31 : decode prog_8_method_42_code 31 = .ok (.aload_n 0, 1) := by decide +kernel
theorem d_Rm_best_32 : decode prog_8_method_42_code 32 = .ok (.getfield 69, 3) := by decide +kernel
theorem d_Rm_best_35 : decode prog_8_method_42_code 35 = .ok (.sipush 800, 3) := by decide +kernel
theorem d_Rm_best_38 : decode prog_8_method_42_code 38 = .ok (.iload_n 1, 1) := by decide +kernel
theorem d_Rm_best_39 : decode prog_8_method_42_code 39 = .ok (.imul, 1) := by decide +kernel
theorem d_Rm_best_40 : decode prog_8_method_42_code 40 = .ok (.iload 5, 2) := by decide +kernel
theorem d_Rm_best_42 : decode prog_8_method_42_code 42 = .ok (.iadd, 1) := by decide +kernel
theorem d_Rm_best_43 : decode prog_8_method_42_code 43 = .ok (.iaload, 1) := by decide +kernel
theorem d_Rm_best_44 : decode prog_8_method_42_code 44 = .ok (.ldc 195, 2) := by decide +kernel
theorem d_Rm_best_46 : decode prog_8_method_42_code 46 = .ok (.if_icmp .ge 33, 3) := by decide +kernel
theorem d_Rm_best_49 : decode prog_8_method_42_code 49 = .ok (.aload_n 0, 1) := by decide +kernel
theorem d_Rm_best_50 : decode prog_8_method_42_code 50 = .ok (.iload_n 1, 1) := by decide +kernel
theorem d_Rm_best_51 : decode prog_8_method_42_code 51 = .ok (.invokevirtual 187, 3) := by decide +kernel
theorem d_Rm_best_54 : decode prog_8_method_42_code 54 = .ok (.ifCond .ne 25, 3) := by decide +kernel
theorem d_Rm_best_57 : decode prog_8_method_42_code 57 = .ok (.aload_n 0, 1) := by decide +kernel
theorem d_Rm_best_58 : decode prog_8_method_42_code 58 = .ok (.iload_n 1, 1) := by decide +kernel
theorem d_Rm_best_59 : decode prog_8_method_42_code 59 = .ok (.invokevirtual 196, 3) := by decide +kernel
theorem d_Rm_best_62 : decode prog_8_method_42_code 62 = .ok (.aload_n 0, 1) := by decide +kernel
theorem d_Rm_best_63 : decode prog_8_method_42_code 63 = .ok (.getfield 69, 3) := by decide +kernel
theorem d_Rm_best_66 : decode prog_8_method_42_code 66 = .ok (.sipush 800, 3) := by decide +kernel
theorem d_Rm_best_69 : decode prog_8_method_42_code 69 = .ok (.iload_n 1, 1) := by decide +kernel
theorem d_Rm_best_70 : decode prog_8_method_42_code 70 = .ok (.imul, 1) := by decide +kernel
theorem d_Rm_best_71 : decode prog_8_method_42_code 71 = .ok (.iload 5, 2) := by decide +kernel
theorem d_Rm_best_73 : decode prog_8_method_42_code 73 = .ok (.iadd, 1) := by decide +kernel
theorem d_Rm_best_74 : decode prog_8_method_42_code 74 = .ok (.iaload, 1) := by decide +kernel
theorem d_Rm_best_75 : decode prog_8_method_42_code 75 = .ok (.iadd, 1) := by decide +kernel
theorem d_Rm_best_76 : decode prog_8_method_42_code 76 = .ok (.goto 5, 3) := by decide +kernel
theorem d_Rm_best_79 : decode prog_8_method_42_code 79 = .ok (.ldc 195, 2) := by decide +kernel
theorem d_Rm_best_81 : decode prog_8_method_42_code 81 = .ok (.istore 6, 2) := by decide +kernel
theorem d_Rm_best_83 : decode prog_8_method_42_code 83 = .ok (.iload 6, 2) := by decide +kernel
theorem d_Rm_best_85 : decode prog_8_method_42_code 85 = .ok (.iload_n 3, 1) := by decide +kernel
theorem d_Rm_best_86 : decode prog_8_method_42_code 86 = .ok (.if_icmp .ge 10, 3) := by decide +kernel
theorem d_Rm_best_89 : decode prog_8_method_42_code 89 = .ok (.iload 6, 2) := by decide +kernel
theorem d_Rm_best_91 : decode prog_8_method_42_code 91 = .ok (.istore_n 3, 1) := by decide +kernel
theorem d_Rm_best_92 : decode prog_8_method_42_code 92 = .ok (.iload 5, 2) := by decide +kernel
theorem d_Rm_best_94 : decode prog_8_method_42_code 94 = .ok (.istore 4, 2) := by decide +kernel
theorem d_Rm_best_96 : decode prog_8_method_42_code 96 = .ok (.iinc 5 1, 3) := by decide +kernel
theorem d_Rm_best_99 : decode prog_8_method_42_code 99 = .ok (.goto (-90), 3) := by decide +kernel
theorem d_Rm_best_102 : decode prog_8_method_42_code 102 = .ok (.aload_n 0, 1) := by decide +kernel
theorem d_Rm_best_103 : decode prog_8_method_42_code 103 = .ok (.iload_n 1, 1) := by decide +kernel
theorem d_Rm_best_104 : decode prog_8_method_42_code 104 = .ok (.iload 4, 2) := by decide +kernel
theorem d_Rm_best_106 : decode prog_8_method_42_code 106 = .ok (.aload_n 2, 1) := by decide +kernel
theorem d_Rm_best_107 : decode prog_8_method_42_code 107 = .ok (.invokevirtual 183, 3) := by decide +kernel
theorem d_Rm_best_110 : decode prog_8_method_42_code 110 = .ok (.iload_n 3, 1) := by decide +kernel
theorem d_Rm_best_111 : decode prog_8_method_42_code 111 = .ok (.ireturn, 1) := by decide +kernel
theorem d_Rm_solve_0 : decode prog_8_method_43_code 0 = .ok (.aload_n 0, 1) := by decide +kernel
theorem d_Rm_solve_1 : decode prog_8_method_43_code 1 = .ok (.iconst 0, 1) := by decide +kernel
theorem d_Rm_solve_2 : decode prog_8_method_43_code 2 = .ok (.putfield 1, 3) := by decide +kernel
theorem d_Rm_solve_5 : decode prog_8_method_43_code 5 = .ok (.aload_n 0, 1) := by decide +kernel
theorem d_Rm_solve_6 : decode prog_8_method_43_code 6 = .ok (.getfield 79, 3) := by decide +kernel
theorem d_Rm_solve_9 : decode prog_8_method_43_code 9 = .ok (.ifCond .ne 6, 3) := by decide +kernel
theorem d_Rm_solve_12 : decode prog_8_method_43_code 12 = .ok (.bipush (-2), 2) := by decide +kernel
theorem d_Rm_solve_14 : decode prog_8_method_43_code 14 = .ok (.ireturn, 1) := by decide +kernel
theorem d_Rm_solve_15 : decode prog_8_method_43_code 15 = .ok (.aload_n 0, 1) := by decide +kernel
theorem d_Rm_solve_16 : decode prog_8_method_43_code 16 = .ok (.invokevirtual 199, 3) := by decide +kernel
theorem d_Rm_solve_19 : decode prog_8_method_43_code 19 = .ok (.aload_n 0, 1) := by decide +kernel
theorem d_Rm_solve_20 : decode prog_8_method_43_code 20 = .ok (.getfield 177, 3) := by decide +kernel
theorem d_Rm_solve_23 : decode prog_8_method_43_code 23 = .ok (.ifCond .lt 13, 3) := by decide +kernel
theorem d_Rm_solve_26 : decode prog_8_method_43_code 26 = .ok (.bipush (-10), 2) := by decide +kernel
theorem d_Rm_solve_28 : decode prog_8_method_43_code 28 = .ok (.aload_n 0, 1) := by decide +kernel
theorem d_Rm_solve_29 : decode prog_8_method_43_code 29 = .ok (.getfield 177, 3) := by decide +kernel
theorem d_Rm_solve_32 : decode prog_8_method_43_code 32 = .ok (.isub, 1) := by decide +kernel
theorem d_Rm_solve_33 : decode prog_8_method_43_code 33 = .ok (.goto 12, 3) := by decide +kernel
theorem d_Rm_solve_36 : decode prog_8_method_43_code 36 = .ok (.aload_n 0, 1) := by decide +kernel
theorem d_Rm_solve_37 : decode prog_8_method_43_code 37 = .ok (.iconst 0, 1) := by decide +kernel
theorem d_Rm_solve_38 : decode prog_8_method_43_code 38 = .ok (.aload_n 0, 1) := by decide +kernel
theorem d_Rm_solve_39 : decode prog_8_method_43_code 39 = .ok (.getfield 76, 3) := by decide +kernel
theorem d_Rm_solve_42 : decode prog_8_method_43_code 42 = .ok (.invokevirtual 202, 3) := by decide +kernel
theorem d_Rm_solve_45 : decode prog_8_method_43_code 45 = .ok (.ireturn, 1) := by decide +kernel
theorem d_Br_note_0 : decode prog_1_method_16_code 0 = .ok (.aload_n 0, 1) := by decide +kernel
theorem d_Br_note_1 : decode prog_1_method_16_code 1 = .ok (.iload_n 1, 1) := by decide +kernel
theorem d_Br_note_2 : decode prog_1_method_16_code 2 = .ok (.invokevirtual 62, 3) := by decide +kernel
theorem d_Br_note_5 : decode prog_1_method_16_code 5 = .ok (.ifCond .eq 10, 3) := by decide +kernel
theorem d_Br_note_8 : decode prog_1_method_16_code 8 = .ok (.iload_n 2, 1) := by decide +kernel
theorem d_Br_note_9 : decode prog_1_method_16_code 9 = .ok (.invokestatic 88, 3) := by decide +kernel
theorem d_Br_note_12 : decode prog_1_method_16_code 12 = .ok (.ifCond .ne 5, 3) := by decide +kernel
theorem d_Br_note_15 : decode prog_1_method_16_code 15 = .ok (.iconst (-1), 1) := by decide +kernel
theorem d_Br_note_16 : decode prog_1_method_16_code 16 = .ok (.ireturn, 1) := by decide +kernel
theorem d_Br_note_17 : decode prog_1_method_16_code 17 = .ok (.aload_n 0, 1) := by decide +kernel
theorem d_Br_note_18 : decode prog_1_method_16_code 18 = .ok (.getfield 10, 3) := by decide +kernel
theorem d_Br_note_21 : decode prog_1_method_16_code 21 = .ok (.aload_n 0, 1) := by decide +kernel
theorem d_Br_note_22 : decode prog_1_method_16_code 22 = .ok (.getfield 33, 3) := by decide +kernel
theorem d_Br_note_25 : decode prog_1_method_16_code 25 = .ok (.invokevirtual 137, 3) := by decide +kernel
theorem d_Br_note_28 : decode prog_1_method_16_code 28 = .ok (.aload_n 0, 1) := by decide +kernel
theorem d_Br_note_29 : decode prog_1_method_16_code 29 = .ok (.getfield 10, 3) := by decide +kernel
theorem d_Br_note_32 : decode prog_1_method_16_code 32 = .ok (.getfield 140, 3) := by decide +kernel
theorem d_Br_note_35 : decode prog_1_method_16_code 35 = .ok (.iconst (-1), 1) := by decide +kernel
theorem d_Br_note_36 : decode prog_1_method_16_code 36 = .ok (.if_icmp .ne 19, 3) := by decide +kernel
theorem d_Br_note_39 : decode prog_1_method_16_code 39 = .ok (.aload_n 0, 1) := by decide +kernel
theorem d_Br_note_40 : decode prog_1_method_16_code 40 = .ok (.getfield 10, 3) := by decide +kernel
theorem d_Br_note_43 : decode prog_1_method_16_code 43 = .ok (.getfield 146, 3) := by decide +kernel
theorem d_Br_note_46 : decode prog_1_method_16_code 46 = .ok (.iload_n 1, 1) := by decide +kernel
theorem d_Br_note_47 : decode prog_1_method_16_code 47 = .ok (.iaload, 1) := by decide +kernel
theorem d_Br_note_48 : decode prog_1_method_16_code 48 = .ok (.iload_n 2, 1) := by decide +kernel
theorem d_Br_note_49 : decode prog_1_method_16_code 49 = .ok (.invokestatic 133, 3) := by decide +kernel
theorem d_Br_note_52 : decode prog_1_method_16_code 52 = .ok (.goto 5, 3) := by decide +kernel
theorem d_Br_note_55 : decode prog_1_method_16_code 55 = .ok (.bipush (-2), 2) := by decide +kernel
theorem d_Br_note_57 : decode prog_1_method_16_code 57 = .ok (.ireturn, 1) := by decide +kernel
theorem d_Rm_note_0 : decode prog_8_method_44_code 0 = .ok (.aload_n 0, 1) := by decide +kernel
theorem d_Rm_note_1 : decode prog_8_method_44_code 1 = .ok (.iconst 0, 1) := by decide +kernel
theorem d_Rm_note_2 : decode prog_8_method_44_code 2 = .ok (.putfield 1, 3) := by decide +kernel
theorem d_Rm_note_5 : decode prog_8_method_44_code 5 = .ok (.aload_n 0, 1) := by decide +kernel
theorem d_Rm_note_6 : decode prog_8_method_44_code 6 = .ok (.iload_n 1, 1) := by decide +kernel
theorem d_Rm_note_7 : decode prog_8_method_44_code 7 = .ok (.invokevirtual 103, 3) := by decide +kernel
theorem d_Rm_note_10 : decode prog_8_method_44_code 10 = .ok (.ifCond .ne 15, 3) := by decide +kernel
theorem d_Rm_note_13 : decode prog_8_method_44_code 13 = .ok (.iload_n 2, 1) := by decide +kernel
theorem d_Rm_note_14 : decode prog_8_method_44_code 14 = .ok (.i2l, 1) := by decide +kernel
theorem d_Rm_note_15 : decode prog_8_method_44_code 15 = .ok (.lconst 0, 1) := by decide +kernel
theorem d_Rm_note_16 : decode prog_8_method_44_code 16 = .ok (.ldc2_w 107, 3) := by decide +kernel
theorem d_Rm_note_19 : decode prog_8_method_44_code 19 = .ok (.invokestatic 82, 3) := by decide +kernel
theorem d_Rm_note_22 : decode prog_8_method_44_code 22 = .ok (.ifCond .ne 5, 3) := by decide +kernel
theorem d_Rm_note_25 : decode prog_8_method_44_code 25 = .ok (.iconst (-1), 1) := by decide +kernel
theorem d_Rm_note_26 : decode prog_8_method_44_code 26 = .ok (.ireturn, 1) := by decide +kernel
theorem d_Rm_note_27 : decode prog_8_method_44_code 27 = .ok (.aload_n 0, 1) := by decide +kernel
theorem d_Rm_note_28 : decode prog_8_method_44_code 28 = .ok (.invokevirtual 199, 3) := by decide +kernel
theorem d_Rm_note_31 : decode prog_8_method_44_code 31 = .ok (.aload_n 0, 1) := by decide +kernel
theorem d_Rm_note_32 : decode prog_8_method_44_code 32 = .ok (.getfield 177, 3) := by decide +kernel
theorem d_Rm_note_35 : decode prog_8_method_44_code 35 = .ok (.ifCond .lt 6, 3) := by decide +kernel
theorem d_Rm_note_38 : decode prog_8_method_44_code 38 = .ok (.bipush (-2), 2) := by decide +kernel
theorem d_Rm_note_40 : decode prog_8_method_44_code 40 = .ok (.ireturn, 1) := by decide +kernel
theorem d_Rm_note_41 : decode prog_8_method_44_code 41 = .ok (.iconst 0, 1) := by decide +kernel
theorem d_Rm_note_42 : decode prog_8_method_44_code 42 = .ok (.istore_n 3, 1) := by decide +kernel
theorem d_Rm_note_43 : decode prog_8_method_44_code 43 = .ok (.iload_n 3, 1) := by decide +kernel
theorem d_Rm_note_44 : decode prog_8_method_44_code 44 = .ok (.iload_n 1, 1) := by decide +kernel
theorem d_Rm_note_45 : decode prog_8_method_44_code 45 = .ok (.if_icmp .gt 49, 3) := by decide +kernel
theorem d_Rm_note_48 : decode prog_8_method_44_code 48 = .ok (.aload_n 0, 1) := by decide +kernel
theorem d_Rm_note_49 : decode prog_8_method_44_code 49 = .ok (.iload_n 3, 1) := by decide +kernel
theorem d_Rm_note_50 : decode prog_8_method_44_code 50 = .ok (.aload_n 0, 1) := by decide +kernel
theorem d_Rm_note_51 : decode prog_8_method_44_code 51 = .ok (.getfield 76, 3) := by decide +kernel
theorem d_Rm_note_54 : decode prog_8_method_44_code 54 = .ok (.invokevirtual 202, 3) := by decide +kernel
theorem d_Rm_note_57 : decode prog_8_method_44_code 57 = .ok (.istore 4, 2) := by decide +kernel
theorem d_Rm_note_59 : decode prog_8_method_44_code 59 = .ok (.iconst 0, 1) := by decide +kernel
theorem d_Rm_note_60 : decode prog_8_method_44_code 60 = .ok (.istore 5, 2) := by decide +kernel
theorem d_Rm_note_62 : decode prog_8_method_44_code 62 = .ok (.iload 5, 2) := by decide +kernel
theorem d_Rm_note_64 : decode prog_8_method_44_code 64 = .ok (.iconst 4, 1) := by decide +kernel
theorem d_Rm_note_65 : decode prog_8_method_44_code 65 = .ok (.if_icmp .ge 23, 3) := by decide +kernel
theorem d_Rm_note_68 : decode prog_8_method_44_code 68 = .ok (.aload_n 0, 1) := by decide +kernel
theorem d_Rm_note_69 : decode prog_8_method_44_code 69 = .ok (.getfield 51, 3) := by decide +kernel
theorem d_Rm_note_72 : decode prog_8_method_44_code 72 = .ok (.iload 5, 2) := by decide +kernel
theorem d_Rm_note_74 : decode prog_8_method_44_code 74 = .ok (.aload_n 0, 1) := by decide +kernel
theorem d_Rm_note_75 : decode prog_8_method_44_code 75 = .ok (.getfield 76, 3) := by decide +kernel
theorem d_Rm_note_78 : decode prog_8_method_44_code 78 = .ok (.iload 5, 2) := by decide +kernel
theorem d_Rm_note_80 : decode prog_8_method_44_code 80 = .ok (.iaload, 1) := by decide +kernel
theorem d_Rm_note_81 : decode prog_8_method_44_code 81 = .ok (.iastore, 1) := by decide +kernel
theorem d_Rm_note_82 : decode prog_8_method_44_code 82 = .ok (.iinc 5 1, 3) := by decide +kernel
theorem d_Rm_note_85 : decode prog_8_method_44_code 85 = .ok (.goto (-23), 3) := by decide +kernel
theorem d_Rm_note_88 : decode prog_8_method_44_code 88 = .ok (.iinc 3 1, 3) := by decide +kernel
theorem d_Rm_note_91 : decode prog_8_method_44_code 91 = .ok (.goto (-48), 3) := by decide +kernel
theorem d_Rm_note_94 : decode prog_8_method_44_code 94 = .ok (.aload_n 0, 1) := by decide +kernel
theorem d_Rm_note_95 : decode prog_8_method_44_code 95 = .ok (.getfield 76, 3) := by decide +kernel
theorem d_Rm_note_98 : decode prog_8_method_44_code 98 = .ok (.iload_n 2, 1) := by decide +kernel
theorem d_Rm_note_99 : decode prog_8_method_44_code 99 = .ok (.iaload, 1) := by decide +kernel
theorem d_Rm_note_100 : decode prog_8_method_44_code 100 = .ok (.ireturn, 1) := by decide +kernel
theorem d_Br_many_0 : decode prog_1_method_17_code 0 = .ok (.aload_n 0, 1) := by decide +kernel
theorem d_Br_many_1 : decode prog_1_method_17_code 1 = .ok (.getfield 33, 3) := by decide +kernel
theorem d_Br_many_4 : decode prog_1_method_17_code 4 = .ok (.ifCond .ne 6, 3) := by decide +kernel
theorem d_Br_many_7 : decode prog_1_method_17_code 7 = .ok (.bipush (-2), 2) := by decide +kernel
theorem d_Br_many_9 : decode prog_1_method_17_code 9 = .ok (.ireturn, 1) := by decide +kernel
theorem d_Br_many_10 : decode prog_1_method_17_code 10 = .ok (.aload_n 0, 1) := by decide +kernel
theorem d_Br_many_11 : decode prog_1_method_17_code 11 = .ok (.getfield 10, 3) := by decide +kernel
theorem d_Br_many_14 : decode prog_1_method_17_code 14 = .ok (.aload_n 0, 1) := by decide +kernel
theorem d_Br_many_15 : decode prog_1_method_17_code 15 = .ok (.getfield 33, 3) := by decide +kernel
theorem d_Br_many_18 : decode prog_1_method_17_code 18 = .ok (.invokevirtual 137, 3) := by decide +kernel
theorem d_Br_many_21 : decode prog_1_method_17_code 21 = .ok (.aload_n 0, 1) := by decide +kernel
theorem d_Br_many_22 : decode prog_1_method_17_code 22 = .ok (.getfield 10, 3) := by decide +kernel
theorem d_Br_many_25 : decode prog_1_method_17_code 25 = .ok (.getfield 149, 3) := by decide +kernel
theorem d_Br_many_28 : decode prog_1_method_17_code 28 = .ok (.ireturn, 1) := by decide +kernel
theorem d_Rm_many_0_0 : decode prog_8_method_45_code 0 = .ok (.aload_n 0, 1) := by decide +kernel
theorem d_Rm_many_0_1 : decode prog_8_method_45_code 1 = .ok (.iconst 0, 1) := by decide +kernel
theorem d_Rm_many_0_2 : decode prog_8_method_45_code 2 = .ok (.putfield 1, 3) := by decide +kernel
theorem d_Rm_many_0_5 : decode prog_8_method_45_code 5 = .ok (.aload_n 0, 1) := by decide +kernel
theorem d_Rm_many_0_6 : decode prog_8_method_45_code 6 = .ok (.getfield 79, 3) := by decide +kernel
theorem d_Rm_many_0_9 : decode prog_8_method_45_code 9 = .ok (.ifCond .ne 6, 3) := by decide +kernel
theorem d_Rm_many_0_12 : decode prog_8_method_45_code 12 = .ok (.bipush (-2), 2) := by decide +kernel
theorem d_Rm_many_0_14 : decode prog_8_method_45_code 14 = .ok (.ireturn, 1) := by decide +kernel
theorem d_Rm_many_0_15 : decode prog_8_method_45_code 15 = .ok (.aload_n 0, 1) := by decide +kernel
theorem d_Rm_many_0_16 : decode prog_8_method_45_code 16 = .ok (.invokevirtual 199, 3) := by decide +kernel
theorem d_Rm_many_0_19 : decode prog_8_method_45_code 19 = .ok (.lconst 0, 1) := by decide +kernel
theorem d_Rm_many_0_20 : decode prog_8_method_45_code 20 = .ok (.lstore_n 1, 1) := by decide +kernel
theorem d_Rm_many_0_21 : decode prog_8_method_45_code 21 = .ok (.iconst 0, 1) := by decide +kernel
theorem d_Rm_many_0_22 : decode prog_8_method_45_code 22 = .ok (.istore_n 3, 1) := by decide +kernel
theorem d_Rm_many_0_23 : decode prog_8_method_45_code 23 = .ok (.iload_n 3, 1) := by decide +kernel
theorem d_Rm_many_0_24 : decode prog_8_method_45_code 24 = .ok (.aload_n 0, 1) := by decide +kernel
theorem d_Rm_many_0_25 : decode prog_8_method_45_code 25 = .ok (.getfield 66, 3) := by decide +kernel
theorem d_Rm_many_0_28 : decode prog_8_method_45_code 28 = .ok (.aload_n 0, 1) := by decide +kernel
theorem d_Rm_many_0_29 : decode prog_8_method_45_code 29 = .ok (.getfield 79, 3) := by decide +kernel
theorem d_Rm_many_0_32 : decode prog_8_method_45_code 32 = .ok (.iconst 1, 1) := by decide +kernel
theorem d_Rm_many_0_33 : decode prog_8_method_45_code 33 = .ok (.isub, 1) := by decide +kernel
theorem d_Rm_many_0_34 : decode prog_8_method_45_code 34 = .ok (.iaload, 1) := by decide +kernel
theorem d_Rm_many_0_35 : decode prog_8_method_45_code 35 = .ok (.if_icmp .ge 29, 3) := by decide +kernel
theorem d_Rm_many_0_38 : decode prog_8_method_45_code 38 = .ok (.lload_n 1, 1) := by decide +kernel
theorem d_Rm_many_0_39 : decode prog_8_method_45_code 39 = .ok (.aload_n 0, 1) := by decide +kernel
theorem d_Rm_many_0_40 : decode prog_8_method_45_code 40 = .ok (.getfield 72, 3) := by decide +kernel
theorem d_Rm_many_0_43 : decode prog_8_method_45_code 43 = .ok (.sipush 800, 3) := by decide +kernel
theorem d_Rm_many_0_46 : decode prog_8_method_45_code 46 = .ok (.aload_n 0, 1) := by decide +kernel
theorem d_Rm_many_0_47 : decode prog_8_method_45_code 47 = .ok (.getfield 79, 3) := by decide +kernel
theorem d_Rm_many_0_50 : decode prog_8_method_45_code 50 = .ok (.iconst 1, 1) := by decide +kernel
theorem d_Rm_many_0_51 : decode prog_8_method_45_code 51 = .ok (.isub, 1) := by decide +kernel
theorem d_Rm_many_0_52 : decode prog_8_method_45_code 52 = .ok (.imul, 1) := by decide +kernel
theorem d_Rm_many_0_53 : decode prog_8_method_45_code 53 = .ok (.iload_n 3, 1) := by decide +kernel
theorem d_Rm_many_0_54 : decode prog_8_method_45_code 54 = .ok (.iadd, 1) := by decide +kernel
theorem d_Rm_many_0_55 : decode prog_8_method_45_code 55 = .ok (.laload, 1) := by decide +kernel
theorem d_Rm_many_0_56 : decode prog_8_method_45_code 56 = .ok (.ladd, 1) := by decide +kernel
theorem d_Rm_many_0_57 : decode prog_8_method_45_code 57 = .ok (.lstore_n 1, 1) := by decide +kernel
theorem d_Rm_many_0_58 : decode prog_8_method_45_code 58 = .ok (.iinc 3 1, 3) := by decide +kernel
theorem d_Rm_many_0_61 : decode prog_8_method_45_code 61 = .ok (.goto (-38), 3) := by decide +kernel
theorem d_Rm_many_0_64 : decode prog_8_method_45_code 64 = .ok (.lload_n 1, 1) := by decide +kernel
theorem d_Rm_many_0_65 : decode prog_8_method_45_code 65 = .ok (.ldc2_w 190, 3) := by decide +kernel
theorem d_Rm_many_0_68 : decode prog_8_method_45_code 68 = .ok (.lcmp, 1) := by decide +kernel
theorem d_Rm_many_0_69 : decode prog_8_method_45_code 69 = .ok (.ifCond .le 8, 3) := by decide +kernel
theorem d_Rm_many_0_72 : decode prog_8_method_45_code 72 = .ok (.ldc 206, 2) := by decide +kernel
theorem d_Rm_many_0_74 : decode prog_8_method_45_code 74 = .ok (.goto 5, 3) := by decide +kernel
theorem d_Rm_many_0_77 : decode prog_8_method_45_code 77 = .ok (.lload_n 1, 1) := by decide +kernel
theorem d_Rm_many_0_78 : decode prog_8_method_45_code 78 = .ok (.l2i, 1) := by decide +kernel
theorem d_Rm_many_0_79 : decode prog_8_method_45_code 79 = .ok (.ireturn, 1) := by decide +kernel
theorem d_Br_sing_0 : decode prog_1_method_18_code 0 = .ok (.aload_n 0, 1) := by decide +kernel
theorem d_Br_sing_1 : decode prog_1_method_18_code 1 = .ok (.iload_n 1, 1) := by decide +kernel
theorem d_Br_sing_2 : decode prog_1_method_18_code 2 = .ok (.invokevirtual 62, 3) := by decide +kernel
theorem d_Br_sing_5 : decode prog_1_method_18_code 5 = .ok (.ifCond .eq 25, 3) := by decide +kernel
theorem d_Br_sing_8 : decode prog_1_method_18_code 8 = .ok (.iload_n 2, 1) := by decide +kernel
theorem d_Br_sing_9 : decode prog_1_method_18_code 9 = .ok (.invokestatic 91, 3) := by decide +kernel
theorem d_Br_sing_12 : decode prog_1_method_18_code 12 = .ok (.ifCond .eq 18, 3) := by decide +kernel
theorem d_Br_sing_15 : decode prog_1_method_18_code 15 = .ok (.iload_n 3, 1) := by decide +kernel
theorem d_Br_sing_16 : decode prog_1_method_18_code 16 = .ok (.invokestatic 91, 3) := by decide +kernel
theorem d_Br_sing_19 : decode prog_1_method_18_code 19 = .ok (.ifCond .eq 11, 3) := by decide +kernel
theorem d_Br_sing_22 : decode prog_1_method_18_code 22 = .ok (.iload 4, 2) := by decide +kernel
theorem d_Br_sing_24 : decode prog_1_method_18_code 24 = .ok (.invokestatic 91, 3) := by decide +kernel
theorem d_Br_sing_27 : decode prog_1_method_18_code 27 = .ok (.ifCond .ne 5, 3) := by decide +kernel
theorem d_Br_sing_30 : decode prog_1_method_18_code 30 = .ok (.iconst (-1), 1) := by decide +kernel
theorem d_Br_sing_31 : decode prog_1_method_18_code 31 = .ok (.ireturn, 1) := by decide +kernel
theorem d_Br_sing_32 : decode prog_1_method_18_code 32 = .ok (.aload_n 0, 1) := by decide +kernel
theorem d_Br_sing_33 : decode prog_1_method_18_code 33 = .ok (.getfield 20, 3) := by decide +kernel
theorem d_Br_sing_36 : decode prog_1_method_18_code 36 = .ok (.iload_n 1, 1) := by decide +kernel
theorem d_Br_sing_37 : decode prog_1_method_18_code 37 = .ok (.aaload, 1) := by decide +kernel
theorem d_Br_sing_38 : decode prog_1_method_18_code 38 = .ok (.iload_n 2, 1) := by decide +kernel
theorem d_Br_sing_39 : decode prog_1_method_18_code 39 = .ok (.iload_n 3, 1) := by decide +kernel
theorem d_Br_sing_40 : decode prog_1_method_18_code 40 = .ok (.iload 4, 2) := by decide +kernel
theorem d_Br_sing_42 : decode prog_1_method_18_code 42 = .ok (.invokestatic 152, 3) := by decide +kernel
theorem d_Br_sing_45 : decode prog_1_method_18_code 45 = .ok (.putfield 155, 3) := by decide +kernel
theorem d_Br_sing_48 : decode prog_1_method_18_code 48 = .ok (.iconst 1, 1) := by decide +kernel
theorem d_Br_sing_49 : decode prog_1_method_18_code 49 = .ok (.ireturn, 1) := by decide +kernel
theorem d_Rm_sing_0 : decode prog_8_method_46_code 0 = .ok (.aload_n 0, 1) := by decide +kernel
theorem d_Rm_sing_1 : decode prog_8_method_46_code 1 = .ok (.iconst 0, 1) := by decide +kernel
theorem d_Rm_sing_2 : decode prog_8_method_46_code 2 = .ok (.putfield 1, 3) := by decide +kernel
theorem d_Rm_sing_5 : decode prog_8_method_46_code 5 = .ok (.aload_n 0, 1) := by decide +kernel
theorem d_Rm_sing_6 : decode prog_8_method_46_code 6 = .ok (.iload_n 1, 1) := by decide +kernel
theorem d_Rm_sing_7 : decode prog_8_method_46_code 7 = .ok (.invokevirtual 103, 3) := by decide +kernel
theorem d_Rm_sing_10 : decode prog_8_method_46_code 10 = .ok (.ifCond .ne 40, 3) := by decide +kernel
theorem d_Rm_sing_13 : decode prog_8_method_46_code 13 = .ok (.iload_n 2, 1) := by decide +kernel
theorem d_Rm_sing_14 : decode prog_8_method_46_code 14 = .ok (.i2l, 1) := by decide +kernel
theorem d_Rm_sing_15 : decode prog_8_method_46_code 15 = .ok (.lconst 0, 1) := by decide +kernel
theorem d_Rm_sing_16 : decode prog_8_method_46_code 16 = .ok (.ldc2_w 117, 3) := by decide +kernel
theorem d_Rm_sing_19 : decode prog_8_method_46_code 19 = .ok (.invokestatic 82, 3) := by decide +kernel
theorem d_Rm_sing_22 : decode prog_8_method_46_code 22 = .ok (.ifCond .eq 28, 3) := by decide +kernel
theorem d_Rm_sing_25 : decode prog_8_method_46_code 25 = .ok (.iload_n 3, 1) := by decide +kernel
theorem d_Rm_sing_26 : decode prog_8_method_46_code 26 = .ok (.i2l, 1) := by decide +kernel
theorem d_Rm_sing_27 : decode prog_8_method_46_code 27 = .ok (.lconst 0, 1) := by decide +kernel
theorem d_Rm_sing_28 : decode prog_8_method_46_code 28 = .ok (.ldc2_w 117, 3) := by decide +kernel
theorem d_Rm_sing_31 : decode prog_8_method_46_code 31 = .ok (.invokestatic 82, 3) := by decide +kernel
theorem d_Rm_sing_34 : decode prog_8_method_46_code 34 = .ok (.ifCond .eq 16, 3) := by decide +kernel
theorem d_Rm_sing_37 : decode prog_8_method_46_code 37 = .ok (.iload 4, 2) := by decide +kernel
theorem d_Rm_sing_39 : decode prog_8_method_46_code 39 = .ok (.i2l, 1) := by decide +kernel
theorem d_Rm_sing_40 : decode prog_8_method_46_code 40 = .ok (.lconst 0, 1) := by decide +kernel
theorem d_Rm_sing_41 : decode prog_8_method_46_code 41 = .ok (.ldc2_w 117, 3) := by decide +kernel
theorem d_Rm_sing_44 : decode prog_8_method_46_code 44 = .ok (.invokestatic 82, 3) := by decide +kernel
theorem d_Rm_sing_47 : decode prog_8_method_46_code 47 = .ok (.ifCond .ne 5, 3) := by decide +kernel
theorem d_Rm_sing_50 : decode prog_8_method_46_code 50 = .ok (.iconst (-1), 1) := by decide +kernel
theorem d_Rm_sing_51 : decode prog_8_method_46_code 51 = .ok (.ireturn, 1) := by decide +kernel
theorem d_Rm_sing_52 : decode prog_8_method_46_code 52 = .ok (.aload_n 0, 1) := by decide +kernel
theorem d_Rm_sing_53 : decode prog_8_method_46_code 53 = .ok (.getfield 41, 3) := by decide +kernel
theorem d_Rm_sing_56 : decode prog_8_method_46_code 56 = .ok (.iconst 3, 1) := by decide +kernel
theorem d_Rm_sing_57 : decode prog_8_method_46_code 57 = .ok (.iload_n 1, 1) := by decide +kernel
theorem d_Rm_sing_58 : decode prog_8_method_46_code 58 = .ok (.imul, 1) := by decide +kernel
theorem d_Rm_sing_59 : decode prog_8_method_46_code 59 = .ok (.iload_n 2, 1) := by decide +kernel
theorem d_Rm_sing_60 : decode prog_8_method_46_code 60 = .ok (.iastore, 1) := by decide +kernel
theorem d_Rm_sing_61 : decode prog_8_method_46_code 61 = .ok (.aload_n 0, 1) := by decide +kernel
theorem d_Rm_sing_62 : decode prog_8_method_46_code 62 = .ok (.getfield 41, 3) := by decide +kernel
theorem d_Rm_sing_65 : decode prog_8_method_46_code 65 = .ok (.iconst 3, 1) := by decide +kernel
theorem d_Rm_sing_66 : decode prog_8_method_46_code 66 = .ok (.iload_n 1, 1) := by decide +kernel
theorem d_Rm_sing_67 : decode prog_8_method_46_code 67 = .ok (.imul, 1) := by decide +kernel
theorem d_Rm_sing_68 : decode prog_8_method_46_code 68 = .ok (.iconst 1, 1) := by decide +kernel
theorem d_Rm_sing_69 : decode prog_8_method_46_code 69 = .ok (.iadd, 1) := by decide +kernel
theorem d_Rm_sing_70 : decode prog_8_method_46_code 70 = .ok (.iload_n 3, 1) := by decide +kernel
theorem d_Rm_sing_71 : decode prog_8_method_46_code 71 = .ok (.iastore, 1) := by decide +kernel
theorem d_Rm_sing_72 : decode prog_8_method_46_code 72 = .ok (.aload_n 0, 1) := by decide +kernel
theorem d_Rm_sing_73 : decode prog_8_method_46_code 73 = .ok (.getfield 41, 3) := by decide +kernel
theorem d_Rm_sing_76 : decode prog_8_method_46_code 76 = .ok (.iconst 3, 1) := by decide +kernel
theorem d_Rm_sing_77 : decode prog_8_method_46_code 77 = .ok (.iload_n 1, 1) := by decide +kernel
theorem d_Rm_sing_78 : decode prog_8_method_46_code 78 = .ok (.imul, 1) := by decide +kernel
theorem d_Rm_sing_79 : decode prog_8_method_46_code 79 = .ok (.iconst 2, 1) := by decide +kernel
theorem d_Rm_sing_80 : decode prog_8_method_46_code 80 = .ok (.iadd, 1) := by decide +kernel
theorem d_Rm_sing_81 : decode prog_8_method_46_code 81 = .ok (.iload 4, 2) := by decide +kernel
theorem d_Rm_sing_83 : decode prog_8_method_46_code 83 = .ok (.iastore, 1) := by decide +kernel
theorem d_Rm_sing_84 : decode prog_8_method_46_code 84 = .ok (.aload_n 0, 1) := by decide +kernel
theorem d_Rm_sing_85 : decode prog_8_method_46_code 85 = .ok (.getfield 44, 3) := by decide +kernel
theorem d_Rm_sing_88 : decode prog_8_method_46_code 88 = .ok (.iload_n 1, 1) := by decide +kernel
theorem d_Rm_sing_89 : decode prog_8_method_46_code 89 = .ok (.iconst 1, 1) := by decide +kernel
theorem d_Rm_sing_90 : decode prog_8_method_46_code 90 = .ok (.bastore, 1) := by decide +kernel
theorem d_Rm_sing_91 : decode prog_8_method_46_code 91 = .ok (.iconst 1, 1) := by decide +kernel
theorem d_Rm_sing_92 : decode prog_8_method_46_code 92 = .ok (.ireturn, 1) := by decide +kernel
theorem d_Br_moveTo_0 : decode prog_1_method_23_code 0 = .ok (.aload_n 0, 1) := by decide +kernel
theorem d_Br_moveTo_1 : decode prog_1_method_23_code 1 = .ok (.getfield 29, 3) := by decide +kernel
theorem d_Br_moveTo_4 : decode prog_1_method_23_code 4 = .ok (.aload_n 0, 1) := by decide +kernel
theorem d_Br_moveTo_5 : decode prog_1_method_23_code 5 = .ok (.getfield 20, 3) := by decide +kernel
theorem d_Br_moveTo_8 : decode prog_1_method_23_code 8 = .ok (.iload_n 1, 1) := by decide +kernel
theorem d_Br_moveTo_9 : decode prog_1_method_23_code 9 = .ok (.iconst 1, 1) := by decide +kernel
theorem d_Br_moveTo_10 : decode prog_1_method_23_code 10 = .ok (.isub, 1) := by decide +kernel
theorem d_Br_moveTo_11 : decode prog_1_method_23_code 11 = .ok (.aaload, 1) := by decide +kernel
theorem d_Br_moveTo_12 : decode prog_1_method_23_code 12 = .ok (.aload_n 0, 1) := by decide +kernel
theorem d_Br_moveTo_13 : decode prog_1_method_23_code 13 = .ok (.getfield 20, 3) := by decide +kernel
theorem d_Br_moveTo_16 : decode prog_1_method_23_code 16 = .ok (.iload_n 1, 1) := by decide +kernel
theorem d_Br_moveTo_17 : decode prog_1_method_23_code 17 = .ok (.iconst 1, 1) := by decide +kernel
theorem d_Br_moveTo_18 : decode prog_1_method_23_code 18 = .ok (.isub, 1) := by decide +kernel
theorem d_Br_moveTo_19 : decode prog_1_method_23_code 19 = .ok (.aaload, 1) := by decide +kernel
theorem d_Br_moveTo_20 : decode prog_1_method_23_code 20 = .ok (.getfield 155, 3) := by decide +kernel
theorem d_Br_moveTo_23 : decode prog_1_method_23_code 23 = .ok (.invokevirtual 191, 3) := by decide +kernel
theorem d_Br_moveTo_26 : decode prog_1_method_23_code 26 = .ok (.aload_n 0, 1) := by decide +kernel
theorem d_Br_moveTo_27 : decode prog_1_method_23_code 27 = .ok (.getfield 29, 3) := by decide +kernel
theorem d_Br_moveTo_30 : decode prog_1_method_23_code 30 = .ok (.aload_n 0, 1) := by decide +kernel
theorem d_Br_moveTo_31 : decode prog_1_method_23_code 31 = .ok (.getfield 20, 3) := by decide +kernel
theorem d_Br_moveTo_34 : decode prog_1_method_23_code 34 = .ok (.iload_n 1, 1) := by decide +kernel
theorem d_Br_moveTo_35 : decode prog_1_method_23_code 35 = .ok (.aaload, 1) := by decide +kernel
theorem d_Br_moveTo_36 : decode prog_1_method_23_code 36 = .ok (.aload_n 0, 1) := by decide +kernel
theorem d_Br_moveTo_37 : decode prog_1_method_23_code 37 = .ok (.getfield 20, 3) := by decide +kernel
theorem d_Br_moveTo_40 : decode prog_1_method_23_code 40 = .ok (.iload_n 1, 1) := by decide +kernel
theorem d_Br_moveTo_41 : decode prog_1_method_23_code 41 = .ok (.aaload, 1) := by decide +kernel
theorem d_Br_moveTo_42 : decode prog_1_method_23_code 42 = .ok (.getfield 155, 3) := by decide +kernel
theorem d_Br_moveTo_45 : decode prog_1_method_23_code 45 = .ok (.invokevirtual 195, 3) := by decide +kernel
theorem d_Br_moveTo_48 : decode prog_1_method_23_code 48 = .ok (.aload_n 0, 1) := by decide +kernel
theorem d_Br_moveTo_49 : decode prog_1_method_23_code 49 = .ok (.getfield 29, 3) := by decide +kernel
theorem d_Br_moveTo_52 : decode prog_1_method_23_code 52 = .ok (.areturn, 1) := by decide +kernel
theorem d_Br_faultAt_0 : decode prog_1_method_22_code 0 = .ok (.aload_n 0, 1) := by decide +kernel
theorem d_Br_faultAt_1 : decode prog_1_method_22_code 1 = .ok (.getfield 20, 3) := by decide +kernel
theorem d_Br_faultAt_4 : decode prog_1_method_22_code 4 = .ok (.iload_n 1, 1) := by decide +kernel
theorem d_Br_faultAt_5 : decode prog_1_method_22_code 5 = .ok (.aaload, 1) := by decide +kernel
theorem d_Br_faultAt_6 : decode prog_1_method_22_code 6 = .ok (.astore_n 2, 1) := by decide +kernel
theorem d_Br_faultAt_7 : decode prog_1_method_22_code 7 = .ok (.aload_n 0, 1) := by decide +kernel
theorem d_Br_faultAt_8 : decode prog_1_method_22_code 8 = .ok (.getfield 25, 3) := by decide +kernel
theorem d_Br_faultAt_11 : decode prog_1_method_22_code 11 = .ok (.aload_n 2, 1) := by decide +kernel
theorem d_Br_faultAt_12 : decode prog_1_method_22_code 12 = .ok (.aload_n 2, 1) := by decide +kernel
theorem d_Br_faultAt_13 : decode prog_1_method_22_code 13 = .ok (.getfield 155, 3) := by decide +kernel
theorem d_Br_faultAt_16 : decode prog_1_method_22_code 16 = .ok (.invokevirtual 181, 3) := by decide +kernel
theorem d_Br_faultAt_19 : decode prog_1_method_22_code 19 = .ok (.istore_n 3, 1) := by decide +kernel
theorem d_Br_faultAt_20 : decode prog_1_method_22_code 20 = .ok (.iload_n 3, 1) := by decide +kernel
theorem d_Br_faultAt_21 : decode prog_1_method_22_code 21 = .ok (.ifCond .eq 5, 3) := by decide +kernel
theorem d_Br_faultAt_24 : decode prog_1_method_22_code 24 = .ok (.iload_n 3, 1) := by decide +kernel
theorem d_Br_faultAt_25 : decode prog_1_method_22_code 25 = .ok (.ireturn, 1) := by decide +kernel
theorem d_Br_faultAt_26 : decode prog_1_method_22_code 26 = .ok (.iload_n 1, 1) := by decide +kernel
theorem d_Br_faultAt_27 : decode prog_1_method_22_code 27 = .ok (.ifCond .ne 16, 3) := by decide +kernel
theorem d_Br_faultAt_30 : decode prog_1_method_22_code 30 = .ok (.aload_n 0, 1) := by decide +kernel
theorem d_Br_faultAt_31 : decode prog_1_method_22_code 31 = .ok (.getfield 25, 3) := by decide +kernel
theorem d_Br_faultAt_34 : decode prog_1_method_22_code 34 = .ok (.aload_n 2, 1) := by decide +kernel
theorem d_Br_faultAt_35 : decode prog_1_method_22_code 35 = .ok (.aload_n 2, 1) := by decide +kernel
theorem d_Br_faultAt_36 : decode prog_1_method_22_code 36 = .ok (.getfield 155, 3) := by decide +kernel
theorem d_Br_faultAt_39 : decode prog_1_method_22_code 39 = .ok (.invokevirtual 185, 3) := by decide +kernel
theorem d_Br_faultAt_42 : decode prog_1_method_22_code 42 = .ok (.ireturn, 1) := by decide +kernel
theorem d_Br_faultAt_43 : decode prog_1_method_22_code 43 = .ok (.aload_n 0, 1) := by decide +kernel
theorem d_Br_faultAt_44 : decode prog_1_method_22_code 44 = .ok (.getfield 20, 3) := by decide +kernel
theorem d_Br_faultAt_47 : decode prog_1_method_22_code 47 = .ok (.iload_n 1, 1) := by decide +kernel
theorem d_Br_faultAt_48 : decode prog_1_method_22_code 48 = .ok (.iconst 1, 1) := by decide +kernel
theorem d_Br_faultAt_49 : decode prog_1_method_22_code 49 = .ok (.isub, 1) := by decide +kernel
theorem d_Br_faultAt_50 : decode prog_1_method_22_code 50 = .ok (.aaload, 1) := by decide +kernel
theorem d_Br_faultAt_51 : decode prog_1_method_22_code 51 = .ok (.getfield 155, 3) := by decide +kernel
theorem d_Br_faultAt_54 : decode prog_1_method_22_code 54 = .ok (.iconst (-1), 1) := by decide +kernel
theorem d_Br_faultAt_55 : decode prog_1_method_22_code 55 = .ok (.if_icmp .ne 5, 3) := by decide +kernel
theorem d_Br_faultAt_58 : decode prog_1_method_22_code 58 = .ok (.iconst 0, 1) := by decide +kernel
theorem d_Br_faultAt_59 : decode prog_1_method_22_code 59 = .ok (.ireturn, 1) := by decide +kernel
theorem d_Br_faultAt_60 : decode prog_1_method_22_code 60 = .ok (.aload_n 0, 1) := by decide +kernel
theorem d_Br_faultAt_61 : decode prog_1_method_22_code 61 = .ok (.iload_n 1, 1) := by decide +kernel
theorem d_Br_faultAt_62 : decode prog_1_method_22_code 62 = .ok (.invokevirtual 164, 3) := by decide +kernel
theorem d_Br_faultAt_65 : decode prog_1_method_22_code 65 = .ok (.aload_n 0, 1) := by decide +kernel
theorem d_Br_faultAt_66 : decode prog_1_method_22_code 66 = .ok (.getfield 25, 3) := by decide +kernel
theorem d_Br_faultAt_69 : decode prog_1_method_22_code 69 = .ok (.getfield 107, 3) := by decide +kernel
theorem d_Br_faultAt_72 : decode prog_1_method_22_code 72 = .ok (.invokevirtual 188, 3) := by decide +kernel
theorem d_Br_faultAt_75 : decode prog_1_method_22_code 75 = .ok (.ireturn, 1) := by decide +kernel
theorem d_Br_fault_0 : decode prog_1_method_19_code 0 = .ok (.aload_n 0, 1) := by decide +kernel
theorem d_Br_fault_1 : decode prog_1_method_19_code 1 = .ok (.iload_n 1, 1) := by decide +kernel
theorem d_Br_fault_2 : decode prog_1_method_19_code 2 = .ok (.invokevirtual 62, 3) := by decide +kernel
theorem d_Br_fault_5 : decode prog_1_method_19_code 5 = .ok (.ifCond .ne 5, 3) := by decide +kernel
theorem d_Br_fault_8 : decode prog_1_method_19_code 8 = .ok (.iconst (-1), 1) := by decide +kernel
theorem d_Br_fault_9 : decode prog_1_method_19_code 9 = .ok (.ireturn, 1) := by decide +kernel
theorem d_Br_fault_10 : decode prog_1_method_19_code 10 = .ok (.aload_n 0, 1) := by decide +kernel
theorem d_Br_fault_11 : decode prog_1_method_19_code 11 = .ok (.getfield 20, 3) := by decide +kernel
theorem d_Br_fault_14 : decode prog_1_method_19_code 14 = .ok (.iload_n 1, 1) := by decide +kernel
theorem d_Br_fault_15 : decode prog_1_method_19_code 15 = .ok (.aaload, 1) := by decide +kernel
theorem d_Br_fault_16 : decode prog_1_method_19_code 16 = .ok (.getfield 155, 3) := by decide +kernel
theorem d_Br_fault_19 : decode prog_1_method_19_code 19 = .ok (.iconst (-1), 1) := by decide +kernel
theorem d_Br_fault_20 : decode prog_1_method_19_code 20 = .ok (.if_icmp .ne 8, 3) := by decide +kernel
theorem d_Br_fault_23 : decode prog_1_method_19_code 23 = .ok (.bipush (-2), 2) := by decide +kernel
theorem d_Br_fault_25 : decode prog_1_method_19_code 25 = .ok (.goto 8, 3) := by decide +kernel
theorem d_Br_fault_28 : decode prog_1_method_19_code 28 = .ok (.aload_n 0, 1) := by decide +kernel
theorem d_Br_fault_29 : decode prog_1_method_19_code 29 = .ok (.iload_n 1, 1) := by decide +kernel
theorem d_Br_fault_30 : decode prog_1_method_19_code 30 = .ok (.invokevirtual 158, 3) := by decide +kernel
theorem d_Br_fault_33 : decode prog_1_method_19_code 33 = .ok (.ireturn, 1) := by decide +kernel
def wp_Rm_best_96 (K9 : Nat → Int32 → Nat → Int32 → Int32 → Int32 → MH → Prop) (Post : Int32 → MH → Prop) (l0 : Nat) (l1 : Int32) (l2 : Nat) (l3 : Int32) (l4 : Int32) (l5 : Int32) (h : MH) : Prop :=
  K9 l0 l1 l2 l3 l4 (l5 + (1 : Int32)) h
def wp_Rm_best_81 (K9 : Nat → Int32 → Nat → Int32 → Int32 → Int32 → MH → Prop) (Post : Int32 → MH → Prop) (l0 : Nat) (l1 : Int32) (l2 : Nat) (l3 : Int32) (l4 : Int32) (l5 : Int32) (y0 : Int32) (h : MH) : Prop :=
  ((l3 ≤ y0) →
    (wp_Rm_best_96 K9 Post l0 l1 l2 l3 l4 l5 h)) ∧
  ((¬ l3 ≤ y0) →
    (wp_Rm_best_96 K9 Post l0 l1 l2 y0 l5 l5 h))
def wp_Rm_best_79 (K9 : Nat → Int32 → Nat → Int32 → Int32 → Int32 → MH → Prop) (Post : Int32 → MH → Prop) (l0 : Nat) (l1 : Int32) (l2 : Nat) (l3 : Int32) (l4 : Int32) (l5 : Int32) (h : MH) : Prop :=
  wp_Rm_best_81 K9 Post l0 l1 l2 l3 l4 l5 (100000000 : Int32) h
def wb_Rm_best_9 (K9 : Nat → Int32 → Nat → Int32 → Int32 → Int32 → MH → Prop) (Post : Int32 → MH → Prop) (l0 : Nat) (l1 : Int32) (l2 : Nat) (l3 : Int32) (l4 : Int32) (l5 : Int32) (h : MH) : Prop :=
  ∃ x12 : Nat, gF h l0 6 21 = some (.inr (some x12)) ∧
  (∃ (n16 : Nat) (f16 : Nat → Int32), gA h x12 0 = some (n16, f16) ∧ vp_in l1 n16 ∧
    ((((f16 (l1).toNatClampNeg) ≤ l5) →
        (gC h l0 = some 6 ∧ wp_Rm_take (fun (h107 : MH) =>
            (Post l3 h107)) l0 l1 l4 l2 h)) ∧
      ((¬ (f16 (l1).toNatClampNeg) ≤ l5) →
        (∃ x25 : Nat, gF h l0 6 14 = some (.inr (some x25)) ∧
          (gC h l0 = some 6 ∧ wp_Rm_take (fun (h28 : MH) =>
              (∃ x32 : Nat, gF h28 l0 6 22 = some (.inr (some x32)) ∧
                (∃ (n43 : Nat) (f43 : Nat → Int32), gA h28 x32 0 = some (n43, f43) ∧ vp_in (((800 : Int32) * l1) + l5) n43 ∧
                  ((((100000000 : Int32) ≤ (f43 (((800 : Int32) * l1) + l5).toNatClampNeg)) →
                      (wp_Rm_best_79 K9 Post l0 l1 l2 l3 l4 l5 h28)) ∧
                    ((¬ (100000000 : Int32) ≤ (f43 (((800 : Int32) * l1) + l5).toNatClampNeg)) →
                      (gC h28 l0 = some 6 ∧ wp_Rm_pairRule (fun (r51 : Int32) (h51 : MH) =>
                        (((¬ r51 = 0) →
                        (wp_Rm_best_79 K9 Post l0 l1 l2 l3 l4 l5 h51)) ∧
                        ((r51 = 0) →
                        (gC h51 l0 = some 6 ∧ wp_Rm_cost (fun (r59 : Int32) (h59 : MH) =>
                        (∃ x63 : Nat, gF h59 l0 6 22 = some (.inr (some x63)) ∧
                        (∃ (n74 : Nat) (f74 : Nat → Int32), gA h59 x63 0 = some (n74, f74) ∧ vp_in (((800 : Int32) * l1) + l5) n74 ∧
                        (wp_Rm_best_81 K9 Post l0 l1 l2 l3 l4 l5 (r59 + (f74 (((800 : Int32) * l1) + l5).toNatClampNeg)) h59)))) l0 l1 h51)))) l0 l1 h28)))))) l0 l1 l5 x25 h)))))
def wn_Rm_best_9 (Post : Int32 → MH → Prop) : Nat → Nat → Int32 → Nat → Int32 → Int32 → Int32 → MH → Prop
  | 0 => fun _ _ _ _ _ _ _ => False
  | n + 1 => wb_Rm_best_9 (wn_Rm_best_9 Post n) Post
def wp_Rm_best_9 (Post : Int32 → MH → Prop) (l0 : Nat) (l1 : Int32) (l2 : Nat) (l3 : Int32) (l4 : Int32) (l5 : Int32) (h : MH) : Prop := ∃ n, wn_Rm_best_9 Post n l0 l1 l2 l3 l4 l5 h
def wp_Rm_best (Post : Int32 → MH → Prop) (l0 : Nat) (l1 : Int32) (l2 : Nat) (h : MH) : Prop :=
  wp_Rm_best_9 Post l0 l1 l2 (100000000 : Int32) (0 : Int32) (0 : Int32) h
set_option maxRecDepth 100000 in
set_option maxHeartbeats 4000000 in
theorem t_Rm_best_96 {p : Program} {l : Launch} {e : Env} {R : Room} {s : State} {m : MethodId} {args : Array Value} {below : List Frame} {meth : Method} {c : Code} (G : mG) (C0 : Cx G p s m args c prog_8_method_42_code 7 "BassRealiserModel") (hR : 3 ≤ R.frames ∧ 73 ≤ R.locals ∧ 0 ≤ R.cells ∧ 0 ≤ R.slots) (hr : meth.sig.returnType = some .int) (hlk : meth.locks = false) {Post : Int32 → MH → Prop} {K9 : Nat → Int32 → Nat → Int32 → Int32 → Int32 → MH → Prop} (hK9 : ∀ (l0 : Nat) (l1 : Int32) (l2 : Nat) (l3 : Int32) (l4 : Int32) (l5 : Int32) (h : MH), K9 l0 l1 l2 l3 l4 l5 h → WG p l e R s m args below meth c 0 0 (MQ below (va_Qi Post (Wd G) (mA G)) args s 0 0 (mA G)) G 7 [(0, .ref (m_b G + l0)), (1, .int l1), (2, .ref (m_b G + l2)), (3, .int l3), (4, .int l4), (5, .int l5)] 9 [] h) (l0 : Nat) (l1 : Int32) (l2 : Nat) (l3 : Int32) (l4 : Int32) (l5 : Int32) (h : MH) (hwp : wp_Rm_best_96 K9 Post l0 l1 l2 l3 l4 l5 h) : WG p l e R s m args below meth c 0 0 (MQ below (va_Qi Post (Wd G) (mA G)) args s 0 0 (mA G)) G 7 [(0, .ref (m_b G + l0)), (1, .int l1), (2, .ref (m_b G + l2)), (3, .int l3), (4, .int l4), (5, .int l5)] 96 [] h := by
  unfold wp_Rm_best_96 at hwp
  refine x_iinc C0 5 d_Rm_best_96 rfl rfl (by decide) (lv' := [(5, .int (l5 + (1 : Int32))), (0, .ref (m_b G + l0)), (1, .int l1), (2, .ref (m_b G + l2)), (3, .int l3), (4, .int l4)]) rfl ?_
  refine x_goto (tgt := 9) C0 d_Rm_best_99 (by decide) ?_
  exact x_sub [1, 2, 3, 4, 5, 0] rfl (hK9 _ _ _ _ _ _ _ hwp)
set_option maxRecDepth 100000 in
set_option maxHeartbeats 4000000 in
theorem t_Rm_best_81 {p : Program} {l : Launch} {e : Env} {R : Room} {s : State} {m : MethodId} {args : Array Value} {below : List Frame} {meth : Method} {c : Code} (G : mG) (C0 : Cx G p s m args c prog_8_method_42_code 7 "BassRealiserModel") (hR : 3 ≤ R.frames ∧ 73 ≤ R.locals ∧ 0 ≤ R.cells ∧ 0 ≤ R.slots) (hr : meth.sig.returnType = some .int) (hlk : meth.locks = false) {Post : Int32 → MH → Prop} {K9 : Nat → Int32 → Nat → Int32 → Int32 → Int32 → MH → Prop} (hK9 : ∀ (l0 : Nat) (l1 : Int32) (l2 : Nat) (l3 : Int32) (l4 : Int32) (l5 : Int32) (h : MH), K9 l0 l1 l2 l3 l4 l5 h → WG p l e R s m args below meth c 0 0 (MQ below (va_Qi Post (Wd G) (mA G)) args s 0 0 (mA G)) G 7 [(0, .ref (m_b G + l0)), (1, .int l1), (2, .ref (m_b G + l2)), (3, .int l3), (4, .int l4), (5, .int l5)] 9 [] h) (l0 : Nat) (l1 : Int32) (l2 : Nat) (l3 : Int32) (l4 : Int32) (l5 : Int32) (y0 : Int32) (h : MH) (hwp : wp_Rm_best_81 K9 Post l0 l1 l2 l3 l4 l5 y0 h) : WG p l e R s m args below meth c 0 0 (MQ below (va_Qi Post (Wd G) (mA G)) args s 0 0 (mA G)) G 7 [(0, .ref (m_b G + l0)), (1, .int l1), (2, .ref (m_b G + l2)), (3, .int l3), (4, .int l4), (5, .int l5)] 81 [.int y0] h := by
  unfold wp_Rm_best_81 at hwp
  refine x_istore C0 d_Rm_best_81 (by decide) (lv' := [(6, .int y0), (0, .ref (m_b G + l0)), (1, .int l1), (2, .ref (m_b G + l2)), (3, .int l3), (4, .int l4), (5, .int l5)]) rfl ?_
  refine x_iload C0 0 d_Rm_best_83 rfl ?_
  refine x_iload_n C0 4 d_Rm_best_85 rfl rfl ?_
  refine x_icmp_ge (tgt := 96) C0 d_Rm_best_86 (by decide) (fun c86 => ?_) (fun c86 => ?_)
  · replace hwp := hwp.1 c86
    exact x_sub [1, 2, 3, 4, 5, 6] rfl (t_Rm_best_96 G C0 hR hr hlk hK9 _ _ _ _ _ _ _ hwp)
  · replace hwp := hwp.2 c86
    refine x_iload C0 0 d_Rm_best_89 rfl ?_
    refine x_istore_n C0 d_Rm_best_91 rfl (by decide) (lv' := [(3, .int y0), (6, .int y0), (0, .ref (m_b G + l0)), (1, .int l1), (2, .ref (m_b G + l2)), (4, .int l4), (5, .int l5)]) rfl ?_
    refine x_iload C0 6 d_Rm_best_92 rfl ?_
    refine x_istore C0 d_Rm_best_94 (by decide) (lv' := [(4, .int l5), (3, .int y0), (6, .int y0), (0, .ref (m_b G + l0)), (1, .int l1), (2, .ref (m_b G + l2)), (5, .int l5)]) rfl ?_
    exact x_sub [3, 4, 5, 1, 0, 6] rfl (t_Rm_best_96 G C0 hR hr hlk hK9 _ _ _ _ _ _ _ hwp)
set_option maxRecDepth 100000 in
set_option maxHeartbeats 4000000 in
theorem t_Rm_best_79 {p : Program} {l : Launch} {e : Env} {R : Room} {s : State} {m : MethodId} {args : Array Value} {below : List Frame} {meth : Method} {c : Code} (G : mG) (C0 : Cx G p s m args c prog_8_method_42_code 7 "BassRealiserModel") (hR : 3 ≤ R.frames ∧ 73 ≤ R.locals ∧ 0 ≤ R.cells ∧ 0 ≤ R.slots) (hr : meth.sig.returnType = some .int) (hlk : meth.locks = false) {Post : Int32 → MH → Prop} {K9 : Nat → Int32 → Nat → Int32 → Int32 → Int32 → MH → Prop} (hK9 : ∀ (l0 : Nat) (l1 : Int32) (l2 : Nat) (l3 : Int32) (l4 : Int32) (l5 : Int32) (h : MH), K9 l0 l1 l2 l3 l4 l5 h → WG p l e R s m args below meth c 0 0 (MQ below (va_Qi Post (Wd G) (mA G)) args s 0 0 (mA G)) G 7 [(0, .ref (m_b G + l0)), (1, .int l1), (2, .ref (m_b G + l2)), (3, .int l3), (4, .int l4), (5, .int l5)] 9 [] h) (l0 : Nat) (l1 : Int32) (l2 : Nat) (l3 : Int32) (l4 : Int32) (l5 : Int32) (h : MH) (hwp : wp_Rm_best_79 K9 Post l0 l1 l2 l3 l4 l5 h) : WG p l e R s m args below meth c 0 0 (MQ below (va_Qi Post (Wd G) (mA G)) args s 0 0 (mA G)) G 7 [(0, .ref (m_b G + l0)), (1, .int l1), (2, .ref (m_b G + l2)), (3, .int l3), (4, .int l4), (5, .int l5)] 79 [] h := by
  unfold wp_Rm_best_79 at hwp
  refine x_ldc (v := 100000000) C0 kw_4_81 d_Rm_best_79 ?_
  exact x_sub [0, 1, 2, 3, 4, 5] rfl (t_Rm_best_81 G C0 hR hr hlk hK9 _ _ _ _ _ _ _ _ hwp)
set_option maxRecDepth 100000 in
set_option maxHeartbeats 4000000 in
theorem tb_Rm_best_9 {p : Program} {l : Launch} {e : Env} {R : Room} {s : State} {m : MethodId} {args : Array Value} {below : List Frame} {meth : Method} {c : Code} (G : mG) (C0 : Cx G p s m args c prog_8_method_42_code 7 "BassRealiserModel") (hR : 3 ≤ R.frames ∧ 73 ≤ R.locals ∧ 0 ≤ R.cells ∧ 0 ≤ R.slots) (hr : meth.sig.returnType = some .int) (hlk : meth.locks = false) {Post : Int32 → MH → Prop} {K9 : Nat → Int32 → Nat → Int32 → Int32 → Int32 → MH → Prop} (hK9 : ∀ (l0 : Nat) (l1 : Int32) (l2 : Nat) (l3 : Int32) (l4 : Int32) (l5 : Int32) (h : MH), K9 l0 l1 l2 l3 l4 l5 h → WG p l e R s m args below meth c 0 0 (MQ below (va_Qi Post (Wd G) (mA G)) args s 0 0 (mA G)) G 7 [(0, .ref (m_b G + l0)), (1, .int l1), (2, .ref (m_b G + l2)), (3, .int l3), (4, .int l4), (5, .int l5)] 9 [] h) (l0 : Nat) (l1 : Int32) (l2 : Nat) (l3 : Int32) (l4 : Int32) (l5 : Int32) (h : MH) (hwp : wb_Rm_best_9 K9 Post l0 l1 l2 l3 l4 l5 h) : WG p l e R s m args below meth c 0 0 (MQ below (va_Qi Post (Wd G) (mA G)) args s 0 0 (mA G)) G 7 [(0, .ref (m_b G + l0)), (1, .int l1), (2, .ref (m_b G + l2)), (3, .int l3), (4, .int l4), (5, .int l5)] 9 [] h := by
  unfold wb_Rm_best_9 at hwp
  refine x_iload C0 5 d_Rm_best_9 rfl ?_
  refine x_aload_n C0 0 d_Rm_best_11 rfl rfl ?_
  obtain ⟨x12, e12, hwp⟩ := hwp
  refine x_getR C0 fk_Rm_66 e12 d_Rm_best_12 ?_
  refine x_iload_n C0 1 d_Rm_best_15 rfl rfl ?_
  obtain ⟨n16, f16, e16, i16, hwp⟩ := hwp
  refine x_iald C0 e16 i16 d_Rm_best_16 ?_
  refine x_icmp_ge (tgt := 102) C0 d_Rm_best_17 (by decide) (fun c17 => ?_) (fun c17 => ?_)
  · replace hwp := hwp.1 c17
    refine x_aload_n C0 0 d_Rm_best_102 rfl rfl ?_
    refine x_iload_n C0 1 d_Rm_best_103 rfl rfl ?_
    refine x_iload C0 4 d_Rm_best_104 rfl ?_
    refine x_aload_n C0 2 d_Rm_best_106 rfl rfl ?_
    obtain ⟨g107, hwp⟩ := hwp
    refine x_callVv0 (k := l0) (As := [.int l1, .int l4, .ref (m_b G + l2)]) (st := []) C0 (c_Rm_take l G hwp) kw_4_61 mk_Rm_take vk_Rm_take rfl g107 rfl (Nat.le_of_ble_eq_true rfl) rfl rfl ⟨Nat.le_trans (by decide) hR.1, Nat.le_trans (by decide) hR.2.1⟩ ⟨Nat.zero_le _, Nat.zero_le _⟩ rfl d_Rm_best_107 (fun h107 hwp => ?_)
    refine x_iload_n C0 3 d_Rm_best_110 rfl rfl ?_
    exact x_iret C0 hr hlk hwp d_Rm_best_111
  · replace hwp := hwp.2 c17
    refine x_aload_n C0 0 d_Rm_best_20 rfl rfl ?_
    refine x_iload_n C0 1 d_Rm_best_21 rfl rfl ?_
    refine x_iload C0 5 d_Rm_best_22 rfl ?_
    refine x_aload_n C0 0 d_Rm_best_24 rfl rfl ?_
    obtain ⟨x25, e25, hwp⟩ := hwp
    refine x_getR C0 fk_Rm_48 e25 d_Rm_best_25 ?_
    obtain ⟨g28, hwp⟩ := hwp
    refine x_callVv0 (k := l0) (As := [.int l1, .int l5, .ref (m_b G + x25)]) (st := []) C0 (c_Rm_take l G hwp) kw_4_61 mk_Rm_take vk_Rm_take rfl g28 rfl (Nat.le_of_ble_eq_true rfl) rfl rfl ⟨Nat.le_trans (by decide) hR.1, Nat.le_trans (by decide) hR.2.1⟩ ⟨Nat.zero_le _, Nat.zero_le _⟩ rfl d_Rm_best_28 (fun h28 hwp => ?_)
    refine x_aload_n C0 0 d_Rm_best_31 rfl rfl ?_
    obtain ⟨x32, e32, hwp⟩ := hwp
    refine x_getR C0 fk_Rm_69 e32 d_Rm_best_32 ?_
    refine x_sipush (v := 800) C0 d_Rm_best_35 (by decide) ?_
    refine x_iload_n C0 1 d_Rm_best_38 rfl rfl ?_
    refine x_imul C0 d_Rm_best_39 ?_
    refine x_iload C0 5 d_Rm_best_40 rfl ?_
    refine x_iadd C0 d_Rm_best_42 ?_
    obtain ⟨n43, f43, e43, i43, hwp⟩ := hwp
    refine x_iald C0 e43 i43 d_Rm_best_43 ?_
    refine x_ldc (v := 100000000) C0 kw_4_81 d_Rm_best_44 ?_
    refine x_icmp_ge (tgt := 79) C0 d_Rm_best_46 (by decide) (fun c46 => ?_) (fun c46 => ?_)
    · replace hwp := hwp.1 c46
      exact x_sub [0, 1, 2, 3, 4, 5] rfl (t_Rm_best_79 G C0 hR hr hlk hK9 _ _ _ _ _ _ _ hwp)
    · replace hwp := hwp.2 c46
      refine x_aload_n C0 0 d_Rm_best_49 rfl rfl ?_
      refine x_iload_n C0 1 d_Rm_best_50 rfl rfl ?_
      obtain ⟨g51, hwp⟩ := hwp
      refine x_callVi0 (k := l0) (As := [.int l1]) (st := []) C0 (c_Rm_pairRule l G hwp) kw_4_65 mk_Rm_pairRule vk_Rm_pairRule rfl g51 rfl (Nat.le_of_ble_eq_true rfl) rfl rfl ⟨Nat.le_trans (by decide) hR.1, Nat.le_trans (by decide) hR.2.1⟩ ⟨Nat.zero_le _, Nat.zero_le _⟩ rfl d_Rm_best_51 (fun r51 h51 hwp => ?_)
      refine x_if_ne (tgt := 79) C0 d_Rm_best_54 (by decide) (fun c54 => ?_) (fun c54 => ?_)
      · replace hwp := hwp.1 c54
        exact x_sub [0, 1, 2, 3, 4, 5] rfl (t_Rm_best_79 G C0 hR hr hlk hK9 _ _ _ _ _ _ _ hwp)
      · replace hwp := hwp.2 c54
        refine x_aload_n C0 0 d_Rm_best_57 rfl rfl ?_
        refine x_iload_n C0 1 d_Rm_best_58 rfl rfl ?_
        obtain ⟨g59, hwp⟩ := hwp
        refine x_callVi0 (k := l0) (As := [.int l1]) (st := []) C0 (c_Rm_cost l G hwp) kw_4_82 mk_Rm_cost vk_Rm_cost rfl g59 rfl (Nat.le_of_ble_eq_true rfl) rfl rfl ⟨Nat.le_trans (by decide) hR.1, Nat.le_trans (by decide) hR.2.1⟩ ⟨Nat.zero_le _, Nat.zero_le _⟩ rfl d_Rm_best_59 (fun r59 h59 hwp => ?_)
        refine x_aload_n C0 0 d_Rm_best_62 rfl rfl ?_
        obtain ⟨x63, e63, hwp⟩ := hwp
        refine x_getR C0 fk_Rm_69 e63 d_Rm_best_63 ?_
        refine x_sipush (v := 800) C0 d_Rm_best_66 (by decide) ?_
        refine x_iload_n C0 1 d_Rm_best_69 rfl rfl ?_
        refine x_imul C0 d_Rm_best_70 ?_
        refine x_iload C0 5 d_Rm_best_71 rfl ?_
        refine x_iadd C0 d_Rm_best_73 ?_
        obtain ⟨n74, f74, e74, i74, hwp⟩ := hwp
        refine x_iald C0 e74 i74 d_Rm_best_74 ?_
        refine x_iadd C0 d_Rm_best_75 ?_
        refine x_goto (tgt := 81) C0 d_Rm_best_76 (by decide) ?_
        exact x_sub [0, 1, 2, 3, 4, 5] rfl (t_Rm_best_81 G C0 hR hr hlk hK9 _ _ _ _ _ _ _ _ hwp)
theorem t_Rm_best_9 {p : Program} {l : Launch} {e : Env} {R : Room} {s : State} {m : MethodId} {args : Array Value} {below : List Frame} {meth : Method} {c : Code} (G : mG) (C0 : Cx G p s m args c prog_8_method_42_code 7 "BassRealiserModel") (hR : 3 ≤ R.frames ∧ 73 ≤ R.locals ∧ 0 ≤ R.cells ∧ 0 ≤ R.slots) (hr : meth.sig.returnType = some .int) (hlk : meth.locks = false) {Post : Int32 → MH → Prop} (l0 : Nat) (l1 : Int32) (l2 : Nat) (l3 : Int32) (l4 : Int32) (l5 : Int32) (h : MH) (hwp : wp_Rm_best_9 Post l0 l1 l2 l3 l4 l5 h) : WG p l e R s m args below meth c 0 0 (MQ below (va_Qi Post (Wd G) (mA G)) args s 0 0 (mA G)) G 7 [(0, .ref (m_b G + l0)), (1, .int l1), (2, .ref (m_b G + l2)), (3, .int l3), (4, .int l4), (5, .int l5)] 9 [] h := by
  obtain ⟨n, hwp⟩ := hwp
  induction n generalizing l0 l1 l2 l3 l4 l5 h with
  | zero => exact False.elim hwp
  | succ n ih => exact tb_Rm_best_9 G C0 hR hr hlk (fun l0 l1 l2 l3 l4 l5 h hwp => ih l0 l1 l2 l3 l4 l5 h hwp) l0 l1 l2 l3 l4 l5 h hwp
set_option maxRecDepth 100000 in
set_option maxHeartbeats 4000000 in
theorem t_Rm_best {p : Program} {l : Launch} {e : Env} {R : Room} {s : State} {m : MethodId} {args : Array Value} {below : List Frame} {meth : Method} {c : Code} (G : mG) (C0 : Cx G p s m args c prog_8_method_42_code 7 "BassRealiserModel") (hR : 3 ≤ R.frames ∧ 73 ≤ R.locals ∧ 0 ≤ R.cells ∧ 0 ≤ R.slots) (hr : meth.sig.returnType = some .int) (hlk : meth.locks = false) {Post : Int32 → MH → Prop} (l0 : Nat) (l1 : Int32) (l2 : Nat) (h : MH) (hwp : wp_Rm_best Post l0 l1 l2 h) : WG p l e R s m args below meth c 0 0 (MQ below (va_Qi Post (Wd G) (mA G)) args s 0 0 (mA G)) G 7 [(0, .ref (m_b G + l0)), (1, .int l1), (2, .ref (m_b G + l2))] 0 [] h := by
  unfold wp_Rm_best at hwp
  refine x_ldc (v := 100000000) C0 kw_4_81 d_Rm_best_0 ?_
  refine x_istore_n C0 d_Rm_best_2 rfl (by decide) (lv' := [(3, .int (100000000 : Int32)), (0, .ref (m_b G + l0)), (1, .int l1), (2, .ref (m_b G + l2))]) rfl ?_
  refine x_iconst (v := 0) C0 d_Rm_best_3 (by decide) ?_
  refine x_istore C0 d_Rm_best_4 (by decide) (lv' := [(4, .int (0 : Int32)), (3, .int (100000000 : Int32)), (0, .ref (m_b G + l0)), (1, .int l1), (2, .ref (m_b G + l2))]) rfl ?_
  refine x_iconst (v := 0) C0 d_Rm_best_6 (by decide) ?_
  refine x_istore C0 d_Rm_best_7 (by decide) (lv' := [(5, .int (0 : Int32)), (4, .int (0 : Int32)), (3, .int (100000000 : Int32)), (0, .ref (m_b G + l0)), (1, .int l1), (2, .ref (m_b G + l2))]) rfl ?_
  exact x_sub [3, 4, 5, 2, 1, 0] rfl (t_Rm_best_9 G C0 hR hr hlk  _ _ _ _ _ _ _ hwp)
set_option maxRecDepth 100000 in
set_option maxHeartbeats 4000000 in
theorem c_Rm_best (l : Launch) (G : mG) {Post : Int32 → MH → Prop} {l0 : Nat} {l1 : Int32} {l2 : Nat} {h : MH} (hwp : wp_Rm_best Post l0 l1 l2 h) : Met l y_Rm_best (Cond.code y_Rm_best prog_8_method_42_code 7 (Option.some Jvm.ClassFile.FieldType.int) :: lw_good) ({ frames := 3, cells := 0, slots := 0, locals := 73 }) (va_Pc [.ref (m_b G + l0), .int l1, .ref (m_b G + l2)] (Wd G h)) (va_Qi Post (Wd G) (mA G)) 0 0 (mA G) := by
  refine Met.ofW (cc := prog_8_method_42_code) (maxL := 7) (ret := (Option.some Jvm.ClassFile.FieldType.int)) (by decide +kernel) rfl ?_
  intro p e s m args below meth c s₁ B hml hv
  obtain ⟨rfl, hP, hz, hK, hSt⟩ := hv
  have hts := atoms_spec (ws := Cond.code y_Rm_best prog_8_method_42_code 7 (Option.some Jvm.ClassFile.FieldType.int) :: lw_good) B.pre
  have C0 : Cx G p s m ([.ref (m_b G + l0), .int l1, .ref (m_b G + l2)] : List Value).toArray c prog_8_method_42_code 7 "BassRealiserModel" := ⟨⟨B.exec, B.bytes, hml, findClass_of_methodNamed B.named, fun w h => hts w (List.mem_cons_of_mem _ h)⟩, hK, hSt, by rw [hz]; exact Nat.le_add_right _ _⟩
  have hl := lv_entry ([.ref (m_b G + l0), .int l1, .ref (m_b G + l2)]) (n := 7) (Nat.le_of_ble_eq_true rfl)
  rw [lg_entry_eq]
  exact t_Rm_best G C0 ⟨Nat.le_refl _, Nat.le_refl _, Nat.le_refl _, Nat.le_refl _⟩ B.returns B.notSynchronized _ _ _ _ hwp _ _ _ ⟨hP, hz, va_S.rf⟩ hl
def wp_Rm_solve (Post : Int32 → MH → Prop) (l0 : Nat) (h : MH) : Prop :=
  (∃ o : MV, gF h l0 6 0 = some o) ∧ ∀ h2 : MH, h2 = fset h l0 0 (.inl (0 : Int32) : MV) →
  (∃ x6 : Int32, gF h2 l0 6 2 = some (.inl x6) ∧
    (((¬ x6 = 0) →
        (gC h2 l0 = some 6 ∧ wp_Rm_lay (fun (h16 : MH) =>
            (∃ x20 : Int32, gF h16 l0 6 24 = some (.inl x20) ∧
              (((x20 < 0) →
                  (∃ x39 : Nat, gF h16 l0 6 25 = some (.inr (some x39)) ∧
                    (gC h16 l0 = some 6 ∧ wp_Rm_best (fun (r42 : Int32) (h42 : MH) =>
                        (Post r42 h42)) l0 (0 : Int32) x39 h16))) ∧
                ((¬ x20 < 0) →
                  (∃ x29 : Int32, gF h16 l0 6 24 = some (.inl x29) ∧
                    (Post ((-10 : Int32) - x29) h16)))))) l0 h2)) ∧
      ((x6 = 0) →
        (Post (-2 : Int32) h2))))
set_option maxRecDepth 100000 in
set_option maxHeartbeats 4000000 in
theorem t_Rm_solve {p : Program} {l : Launch} {e : Env} {R : Room} {s : State} {m : MethodId} {args : Array Value} {below : List Frame} {meth : Method} {c : Code} (G : mG) (C0 : Cx G p s m args c prog_8_method_43_code 1 "BassRealiserModel") (hR : 6 ≤ R.frames ∧ 141 ≤ R.locals ∧ 0 ≤ R.cells ∧ 0 ≤ R.slots) (hr : meth.sig.returnType = some .int) (hlk : meth.locks = false) {Post : Int32 → MH → Prop} (l0 : Nat) (h : MH) (hwp : wp_Rm_solve Post l0 h) : WG p l e R s m args below meth c 0 0 (MQ below (va_Qi Post (Wd G) (mA G)) args s 0 0 (mA G)) G 1 [(0, .ref (m_b G + l0))] 0 [] h := by
  unfold wp_Rm_solve at hwp
  refine x_aload_n C0 0 d_Rm_solve_0 rfl rfl ?_
  refine x_iconst (v := 0) C0 d_Rm_solve_1 (by decide) ?_
  obtain ⟨⟨o2, e2⟩, hwp⟩ := hwp
  refine x_put (x := (.inl (0 : Int32) : MV)) C0 pk_Rm_1 e2 rfl rfl d_Rm_solve_2 ?_
  refine x_nh (fun h2 eh2 => ?_)
  replace hwp := hwp h2 eh2
  refine x_aload_n C0 0 d_Rm_solve_5 rfl rfl ?_
  obtain ⟨x6, e6, hwp⟩ := hwp
  refine x_getI C0 fk_Rm_79 e6 d_Rm_solve_6 ?_
  refine x_if_ne (tgt := 15) C0 d_Rm_solve_9 (by decide) (fun c9 => ?_) (fun c9 => ?_)
  · replace hwp := hwp.1 c9
    refine x_aload_n C0 0 d_Rm_solve_15 rfl rfl ?_
    obtain ⟨g16, hwp⟩ := hwp
    refine x_callVv0 (k := l0) (As := []) (st := []) C0 (c_Rm_lay l G hwp) kw_4_38 mk_Rm_lay vk_Rm_lay rfl g16 rfl (Nat.le_of_ble_eq_true rfl) rfl rfl ⟨Nat.le_trans (by decide) hR.1, Nat.le_trans (by decide) hR.2.1⟩ ⟨Nat.zero_le _, Nat.zero_le _⟩ rfl d_Rm_solve_16 (fun h16 hwp => ?_)
    refine x_aload_n C0 0 d_Rm_solve_19 rfl rfl ?_
    obtain ⟨x20, e20, hwp⟩ := hwp
    refine x_getI C0 fk_Rm_177 e20 d_Rm_solve_20 ?_
    refine x_if_lt (tgt := 36) C0 d_Rm_solve_23 (by decide) (fun c23 => ?_) (fun c23 => ?_)
    · replace hwp := hwp.1 c23
      refine x_aload_n C0 0 d_Rm_solve_36 rfl rfl ?_
      refine x_iconst (v := 0) C0 d_Rm_solve_37 (by decide) ?_
      refine x_aload_n C0 0 d_Rm_solve_38 rfl rfl ?_
      obtain ⟨x39, e39, hwp⟩ := hwp
      refine x_getR C0 fk_Rm_76 e39 d_Rm_solve_39 ?_
      obtain ⟨g42, hwp⟩ := hwp
      refine x_callVi0 (k := l0) (As := [.int (0 : Int32), .ref (m_b G + x39)]) (st := []) C0 (c_Rm_best l G hwp) kw_4_94 mk_Rm_best vk_Rm_best rfl g42 rfl (Nat.le_of_ble_eq_true rfl) rfl rfl ⟨Nat.le_trans (by decide) hR.1, Nat.le_trans (by decide) hR.2.1⟩ ⟨Nat.zero_le _, Nat.zero_le _⟩ rfl d_Rm_solve_42 (fun r42 h42 hwp => ?_)
      exact x_iret C0 hr hlk hwp d_Rm_solve_45
    · replace hwp := hwp.2 c23
      refine x_bipush (v := -10) C0 d_Rm_solve_26 (by decide) ?_
      refine x_aload_n C0 0 d_Rm_solve_28 rfl rfl ?_
      obtain ⟨x29, e29, hwp⟩ := hwp
      refine x_getI C0 fk_Rm_177 e29 d_Rm_solve_29 ?_
      refine x_isub C0 d_Rm_solve_32 ?_
      refine x_goto (tgt := 45) C0 d_Rm_solve_33 (by decide) ?_
      exact x_iret C0 hr hlk hwp d_Rm_solve_45
  · replace hwp := hwp.2 c9
    refine x_bipush (v := -2) C0 d_Rm_solve_12 (by decide) ?_
    exact x_iret C0 hr hlk hwp d_Rm_solve_14
set_option maxRecDepth 100000 in
set_option maxHeartbeats 4000000 in
theorem c_Rm_solve (l : Launch) (G : mG) {Post : Int32 → MH → Prop} {l0 : Nat} {h : MH} (hwp : wp_Rm_solve Post l0 h) : Met l y_Rm_solve (Cond.code y_Rm_solve prog_8_method_43_code 1 (Option.some Jvm.ClassFile.FieldType.int) :: lw_good) ({ frames := 6, cells := 0, slots := 0, locals := 141 }) (va_Pc [.ref (m_b G + l0)] (Wd G h)) (va_Qi Post (Wd G) (mA G)) 0 0 (mA G) := by
  refine Met.ofW (cc := prog_8_method_43_code) (maxL := 1) (ret := (Option.some Jvm.ClassFile.FieldType.int)) (by decide +kernel) rfl ?_
  intro p e s m args below meth c s₁ B hml hv
  obtain ⟨rfl, hP, hz, hK, hSt⟩ := hv
  have hts := atoms_spec (ws := Cond.code y_Rm_solve prog_8_method_43_code 1 (Option.some Jvm.ClassFile.FieldType.int) :: lw_good) B.pre
  have C0 : Cx G p s m ([.ref (m_b G + l0)] : List Value).toArray c prog_8_method_43_code 1 "BassRealiserModel" := ⟨⟨B.exec, B.bytes, hml, findClass_of_methodNamed B.named, fun w h => hts w (List.mem_cons_of_mem _ h)⟩, hK, hSt, by rw [hz]; exact Nat.le_add_right _ _⟩
  have hl := lv_entry ([.ref (m_b G + l0)]) (n := 1) (Nat.le_of_ble_eq_true rfl)
  rw [lg_entry_eq]
  exact t_Rm_solve G C0 ⟨Nat.le_refl _, Nat.le_refl _, Nat.le_refl _, Nat.le_refl _⟩ B.returns B.notSynchronized _ _ hwp _ _ _ ⟨hP, hz, va_S.rf⟩ hl
def wp_Br_note (Post : Int32 → MH → Prop) (l0 : Nat) (l1 : Int32) (l2 : Int32) (h : MH) : Prop :=
  gC h l0 = some 5 ∧ wp_Br_hasChord (fun (r2 : Int32) (h2 : MH) =>
    (((r2 = 0) →
        (Post (-1 : Int32) h2)) ∧
      ((¬ r2 = 0) →
        (wp_Br_isVoice (fun (r9 : Int32) (h9 : MH) =>
            (((¬ r9 = 0) →
                (∃ x18 : Nat, gF h9 l0 5 0 = some (.inr (some x18)) ∧
                  (∃ x22 : Int32, gF h9 l0 5 4 = some (.inl x22) ∧
                    (gC h9 x18 = some 4 ∧ wp_Se_settle (fun (h25 : MH) =>
                        (∃ x29 : Nat, gF h25 l0 5 0 = some (.inr (some x29)) ∧
                        (∃ x32 : Int32, gF h25 x29 4 5 = some (.inl x32) ∧
                        (((¬ x32 = (-1 : Int32)) →
                        (Post (-2 : Int32) h25)) ∧
                        ((x32 = (-1 : Int32)) →
                        (∃ x40 : Nat, gF h25 l0 5 0 = some (.inr (some x40)) ∧
                        (∃ x43 : Nat, gF h25 x40 4 4 = some (.inr (some x43)) ∧
                        (∃ (n47 : Nat) (f47 : Nat → Int32), gA h25 x43 0 = some (n47, f47) ∧ vp_in l1 n47 ∧
                        (wp_Br_pitchOf (fun (r49 : Int32) (h49 : MH) =>
                        (Post r49 h49)) (f47 (l1).toNatClampNeg) l2 h25))))))))) x18 x22 h9)))) ∧
              ((r9 = 0) →
                (Post (-1 : Int32) h9)))) l2 h2)))) l0 l1 h
set_option maxRecDepth 100000 in
set_option maxHeartbeats 4000000 in
theorem t_Br_note {p : Program} {l : Launch} {e : Env} {R : Room} {s : State} {m : MethodId} {args : Array Value} {below : List Frame} {meth : Method} {c : Code} (G : mG) (C0 : Cx G p s m args c prog_1_method_16_code 3 "BassRealiser") (hR : 7 ≤ R.frames ∧ 171 ≤ R.locals ∧ 0 ≤ R.cells ∧ 0 ≤ R.slots) (hr : meth.sig.returnType = some .int) (hlk : meth.locks = false) {Post : Int32 → MH → Prop} (l0 : Nat) (l1 : Int32) (l2 : Int32) (h : MH) (hwp : wp_Br_note Post l0 l1 l2 h) : WG p l e R s m args below meth c 0 0 (MQ below (va_Qi Post (Wd G) (mA G)) args s 0 0 (mA G)) G 3 [(0, .ref (m_b G + l0)), (1, .int l1), (2, .int l2)] 0 [] h := by
  unfold wp_Br_note at hwp
  refine x_aload_n C0 0 d_Br_note_0 rfl rfl ?_
  refine x_iload_n C0 1 d_Br_note_1 rfl rfl ?_
  obtain ⟨g2, hwp⟩ := hwp
  refine x_callVi0 (k := l0) (As := [.int l1]) (st := []) C0 (c_Br_hasChord l G hwp) kw_2_64 mk_Br_hasChord vk_Br_hasChord rfl g2 rfl (Nat.le_of_ble_eq_true rfl) rfl rfl ⟨Nat.le_trans (by decide) hR.1, Nat.le_trans (by decide) hR.2.1⟩ ⟨Nat.zero_le _, Nat.zero_le _⟩ rfl d_Br_note_2 (fun r2 h2 hwp => ?_)
  refine x_if_eq (tgt := 15) C0 d_Br_note_5 (by decide) (fun c5 => ?_) (fun c5 => ?_)
  · replace hwp := hwp.1 c5
    refine x_iconst (v := -1) C0 d_Br_note_15 (by decide) ?_
    exact x_iret C0 hr hlk hwp d_Br_note_16
  · replace hwp := hwp.2 c5
    refine x_iload_n C0 2 d_Br_note_8 rfl rfl ?_
    refine x_callSi0 (As := [.int l2]) (st := []) C0 (c_Br_isVoice l G hwp) kw_2_88 mk_Br_isVoice kw_2_89 rfl (Nat.le_of_ble_eq_true rfl) rfl rfl ⟨Nat.le_trans (by decide) hR.1, Nat.le_trans (by decide) hR.2.1⟩ ⟨Nat.zero_le _, Nat.zero_le _⟩ rfl d_Br_note_9 (fun r9 h9 hwp => ?_)
    refine x_if_ne (tgt := 17) C0 d_Br_note_12 (by decide) (fun c12 => ?_) (fun c12 => ?_)
    · replace hwp := hwp.1 c12
      refine x_aload_n C0 0 d_Br_note_17 rfl rfl ?_
      obtain ⟨x18, e18, hwp⟩ := hwp
      refine x_getR C0 fk_Br_10 e18 d_Br_note_18 ?_
      refine x_aload_n C0 0 d_Br_note_21 rfl rfl ?_
      obtain ⟨x22, e22, hwp⟩ := hwp
      refine x_getI C0 fk_Br_33 e22 d_Br_note_22 ?_
      obtain ⟨g25, hwp⟩ := hwp
      refine x_callVv0 (k := x18) (As := [.int x22]) (st := []) C0 (c_Se_settle l G hwp) kw_2_183 mk_Se_settle vk_Se_settle rfl g25 rfl (Nat.le_of_ble_eq_true rfl) rfl rfl ⟨Nat.le_trans (by decide) hR.1, Nat.le_trans (by decide) hR.2.1⟩ ⟨Nat.zero_le _, Nat.zero_le _⟩ rfl d_Br_note_25 (fun h25 hwp => ?_)
      refine x_aload_n C0 0 d_Br_note_28 rfl rfl ?_
      obtain ⟨x29, e29, hwp⟩ := hwp
      refine x_getR C0 fk_Br_10 e29 d_Br_note_29 ?_
      obtain ⟨x32, e32, hwp⟩ := hwp
      refine x_getI C0 fk_Br_140 e32 d_Br_note_32 ?_
      refine x_iconst (v := -1) C0 d_Br_note_35 (by decide) ?_
      refine x_icmp_ne (tgt := 55) C0 d_Br_note_36 (by decide) (fun c36 => ?_) (fun c36 => ?_)
      · replace hwp := hwp.1 c36
        refine x_bipush (v := -2) C0 d_Br_note_55 (by decide) ?_
        exact x_iret C0 hr hlk hwp d_Br_note_57
      · replace hwp := hwp.2 c36
        refine x_aload_n C0 0 d_Br_note_39 rfl rfl ?_
        obtain ⟨x40, e40, hwp⟩ := hwp
        refine x_getR C0 fk_Br_10 e40 d_Br_note_40 ?_
        obtain ⟨x43, e43, hwp⟩ := hwp
        refine x_getR C0 fk_Br_146 e43 d_Br_note_43 ?_
        refine x_iload_n C0 1 d_Br_note_46 rfl rfl ?_
        obtain ⟨n47, f47, e47, i47, hwp⟩ := hwp
        refine x_iald C0 e47 i47 d_Br_note_47 ?_
        refine x_iload_n C0 2 d_Br_note_48 rfl rfl ?_
        refine x_callSi0 (As := [.int (f47 (l1).toNatClampNeg), .int l2]) (st := []) C0 (c_Br_pitchOf l G hwp) kw_2_178 mk_Br_pitchOf kw_2_158 rfl (Nat.le_of_ble_eq_true rfl) rfl rfl ⟨Nat.le_trans (by decide) hR.1, Nat.le_trans (by decide) hR.2.1⟩ ⟨Nat.zero_le _, Nat.zero_le _⟩ rfl d_Br_note_49 (fun r49 h49 hwp => ?_)
        refine x_goto (tgt := 57) C0 d_Br_note_52 (by decide) ?_
        exact x_iret C0 hr hlk hwp d_Br_note_57
    · replace hwp := hwp.2 c12
      refine x_iconst (v := -1) C0 d_Br_note_15 (by decide) ?_
      exact x_iret C0 hr hlk hwp d_Br_note_16
set_option maxRecDepth 100000 in
set_option maxHeartbeats 4000000 in
theorem c_Br_note (l : Launch) (G : mG) {Post : Int32 → MH → Prop} {l0 : Nat} {l1 : Int32} {l2 : Int32} {h : MH} (hwp : wp_Br_note Post l0 l1 l2 h) : Met l y_Br_note (Cond.code y_Br_note prog_1_method_16_code 3 (Option.some Jvm.ClassFile.FieldType.int) :: lw_good) ({ frames := 7, cells := 0, slots := 0, locals := 171 }) (va_Pc [.ref (m_b G + l0), .int l1, .int l2] (Wd G h)) (va_Qi Post (Wd G) (mA G)) 0 0 (mA G) := by
  refine Met.ofW (cc := prog_1_method_16_code) (maxL := 3) (ret := (Option.some Jvm.ClassFile.FieldType.int)) (by decide +kernel) rfl ?_
  intro p e s m args below meth c s₁ B hml hv
  obtain ⟨rfl, hP, hz, hK, hSt⟩ := hv
  have hts := atoms_spec (ws := Cond.code y_Br_note prog_1_method_16_code 3 (Option.some Jvm.ClassFile.FieldType.int) :: lw_good) B.pre
  have C0 : Cx G p s m ([.ref (m_b G + l0), .int l1, .int l2] : List Value).toArray c prog_1_method_16_code 3 "BassRealiser" := ⟨⟨B.exec, B.bytes, hml, findClass_of_methodNamed B.named, fun w h => hts w (List.mem_cons_of_mem _ h)⟩, hK, hSt, by rw [hz]; exact Nat.le_add_right _ _⟩
  have hl := lv_entry ([.ref (m_b G + l0), .int l1, .int l2]) (n := 3) (Nat.le_of_ble_eq_true rfl)
  rw [lg_entry_eq]
  exact t_Br_note G C0 ⟨Nat.le_refl _, Nat.le_refl _, Nat.le_refl _, Nat.le_refl _⟩ B.returns B.notSynchronized _ _ _ _ hwp _ _ _ ⟨hP, hz, va_S.rf⟩ hl
def wb_Rm_note_62 (K43 : Nat → Int32 → Int32 → Int32 → MH → Prop) (K62 : Nat → Int32 → Int32 → Int32 → Int32 → MH → Prop) (Post : Int32 → MH → Prop) (l0 : Nat) (l1 : Int32) (l2 : Int32) (l3 : Int32) (l5 : Int32) (h : MH) : Prop :=
  (((4 : Int32) ≤ l5) →
    (K43 l0 l1 l2 (l3 + (1 : Int32)) h)) ∧
  ((¬ (4 : Int32) ≤ l5) →
    (∃ x69 : Nat, gF h l0 6 15 = some (.inr (some x69)) ∧
      (∃ x75 : Nat, gF h l0 6 25 = some (.inr (some x75)) ∧
        (∃ (n80 : Nat) (f80 : Nat → Int32), gA h x75 0 = some (n80, f80) ∧ vp_in l5 n80 ∧
          (∃ (n81 : Nat) (f81 : Nat → Int32), gA h x69 0 = some (n81, f81) ∧ vp_in l5 n81 ∧ ∀ h81 : MH, h81 = mset h x69 (.inr (0, n81, .inl (upd f81 (l5).toNatClampNeg (f80 (l5).toNatClampNeg)))) →
            (K62 l0 l1 l2 l3 (l5 + (1 : Int32)) h81))))))
def wn_Rm_note_62 (K43 : Nat → Int32 → Int32 → Int32 → MH → Prop) (Post : Int32 → MH → Prop) : Nat → Nat → Int32 → Int32 → Int32 → Int32 → MH → Prop
  | 0 => fun _ _ _ _ _ _ => False
  | n + 1 => wb_Rm_note_62 K43 (wn_Rm_note_62 K43 Post n) Post
def wp_Rm_note_62 (K43 : Nat → Int32 → Int32 → Int32 → MH → Prop) (Post : Int32 → MH → Prop) (l0 : Nat) (l1 : Int32) (l2 : Int32) (l3 : Int32) (l5 : Int32) (h : MH) : Prop := ∃ n, wn_Rm_note_62 K43 Post n l0 l1 l2 l3 l5 h
def wb_Rm_note_43 (K43 : Nat → Int32 → Int32 → Int32 → MH → Prop) (Post : Int32 → MH → Prop) (l0 : Nat) (l1 : Int32) (l2 : Int32) (l3 : Int32) (h : MH) : Prop :=
  ((l1 < l3) →
    (∃ x95 : Nat, gF h l0 6 25 = some (.inr (some x95)) ∧
      (∃ (n99 : Nat) (f99 : Nat → Int32), gA h x95 0 = some (n99, f99) ∧ vp_in l2 n99 ∧
        (Post (f99 (l2).toNatClampNeg) h)))) ∧
  ((¬ l1 < l3) →
    (∃ x51 : Nat, gF h l0 6 25 = some (.inr (some x51)) ∧
      (gC h l0 = some 6 ∧ wp_Rm_best (fun (r54 : Int32) (h54 : MH) =>
          (wp_Rm_note_62 K43 Post l0 l1 l2 l3 (0 : Int32) h54)) l0 l3 x51 h)))
def wn_Rm_note_43 (Post : Int32 → MH → Prop) : Nat → Nat → Int32 → Int32 → Int32 → MH → Prop
  | 0 => fun _ _ _ _ _ => False
  | n + 1 => wb_Rm_note_43 (wn_Rm_note_43 Post n) Post
def wp_Rm_note_43 (Post : Int32 → MH → Prop) (l0 : Nat) (l1 : Int32) (l2 : Int32) (l3 : Int32) (h : MH) : Prop := ∃ n, wn_Rm_note_43 Post n l0 l1 l2 l3 h
def wp_Rm_note (Post : Int32 → MH → Prop) (l0 : Nat) (l1 : Int32) (l2 : Int32) (h : MH) : Prop :=
  (∃ o : MV, gF h l0 6 0 = some o) ∧ ∀ h2 : MH, h2 = fset h l0 0 (.inl (0 : Int32) : MV) →
  (gC h2 l0 = some 6 ∧ wp_Rm_noChord (fun (r7 : Int32) (h7 : MH) =>
      (((¬ r7 = 0) →
          (Post (-1 : Int32) h7)) ∧
        ((r7 = 0) →
          (wp_Rm_in (fun (r19 : Int32) (h19 : MH) =>
              (((¬ r19 = 0) →
                  (gC h19 l0 = some 6 ∧ wp_Rm_lay (fun (h28 : MH) =>
                      (∃ x32 : Int32, gF h28 l0 6 24 = some (.inl x32) ∧
                        (((x32 < 0) →
                        (wp_Rm_note_43 Post l0 l1 l2 (0 : Int32) h28)) ∧
                        ((¬ x32 < 0) →
                        (Post (-2 : Int32) h28))))) l0 h19)) ∧
                ((r19 = 0) →
                  (Post (-1 : Int32) h19)))) ((l2).toInt64) (0 : Int64) (2 : Int64) h7)))) l0 l1 h2)
set_option maxRecDepth 100000 in
set_option maxHeartbeats 4000000 in
theorem tb_Rm_note_62 {p : Program} {l : Launch} {e : Env} {R : Room} {s : State} {m : MethodId} {args : Array Value} {below : List Frame} {meth : Method} {c : Code} (G : mG) (C0 : Cx G p s m args c prog_8_method_44_code 6 "BassRealiserModel") (hR : 6 ≤ R.frames ∧ 141 ≤ R.locals ∧ 0 ≤ R.cells ∧ 0 ≤ R.slots) (hr : meth.sig.returnType = some .int) (hlk : meth.locks = false) {Post : Int32 → MH → Prop} {K43 : Nat → Int32 → Int32 → Int32 → MH → Prop} {K62 : Nat → Int32 → Int32 → Int32 → Int32 → MH → Prop} (hK43 : ∀ (l0 : Nat) (l1 : Int32) (l2 : Int32) (l3 : Int32) (h : MH), K43 l0 l1 l2 l3 h → WG p l e R s m args below meth c 0 0 (MQ below (va_Qi Post (Wd G) (mA G)) args s 0 0 (mA G)) G 6 [(0, .ref (m_b G + l0)), (1, .int l1), (2, .int l2), (3, .int l3)] 43 [] h) (hK62 : ∀ (l0 : Nat) (l1 : Int32) (l2 : Int32) (l3 : Int32) (l5 : Int32) (h : MH), K62 l0 l1 l2 l3 l5 h → WG p l e R s m args below meth c 0 0 (MQ below (va_Qi Post (Wd G) (mA G)) args s 0 0 (mA G)) G 6 [(0, .ref (m_b G + l0)), (1, .int l1), (2, .int l2), (3, .int l3), (5, .int l5)] 62 [] h) (l0 : Nat) (l1 : Int32) (l2 : Int32) (l3 : Int32) (l5 : Int32) (h : MH) (hwp : wb_Rm_note_62 K43 K62 Post l0 l1 l2 l3 l5 h) : WG p l e R s m args below meth c 0 0 (MQ below (va_Qi Post (Wd G) (mA G)) args s 0 0 (mA G)) G 6 [(0, .ref (m_b G + l0)), (1, .int l1), (2, .int l2), (3, .int l3), (5, .int l5)] 62 [] h := by
  unfold wb_Rm_note_62 at hwp
  refine x_iload C0 4 d_Rm_note_62 rfl ?_
  refine x_iconst (v := 4) C0 d_Rm_note_64 (by decide) ?_
  refine x_icmp_ge (tgt := 88) C0 d_Rm_note_65 (by decide) (fun c65 => ?_) (fun c65 => ?_)
  · replace hwp := hwp.1 c65
    refine x_iinc C0 3 d_Rm_note_88 rfl rfl (by decide) (lv' := [(3, .int (l3 + (1 : Int32))), (0, .ref (m_b G + l0)), (1, .int l1), (2, .int l2), (5, .int l5)]) rfl ?_
    refine x_goto (tgt := 43) C0 d_Rm_note_91 (by decide) ?_
    exact x_sub [1, 2, 3, 0] rfl (hK43 _ _ _ _ _ hwp)
  · replace hwp := hwp.2 c65
    refine x_aload_n C0 0 d_Rm_note_68 rfl rfl ?_
    obtain ⟨x69, e69, hwp⟩ := hwp
    refine x_getR C0 fk_Rm_51 e69 d_Rm_note_69 ?_
    refine x_iload C0 4 d_Rm_note_72 rfl ?_
    refine x_aload_n C0 0 d_Rm_note_74 rfl rfl ?_
    obtain ⟨x75, e75, hwp⟩ := hwp
    refine x_getR C0 fk_Rm_76 e75 d_Rm_note_75 ?_
    refine x_iload C0 4 d_Rm_note_78 rfl ?_
    obtain ⟨n80, f80, e80, i80, hwp⟩ := hwp
    refine x_iald C0 e80 i80 d_Rm_note_80 ?_
    obtain ⟨n81, f81, e81, i81, hwp⟩ := hwp
    refine x_iast C0 e81 i81 d_Rm_note_81 ?_
    refine x_nh (fun h81 eh81 => ?_)
    replace hwp := hwp h81 eh81
    refine x_iinc C0 4 d_Rm_note_82 rfl rfl (by decide) (lv' := [(5, .int (l5 + (1 : Int32))), (0, .ref (m_b G + l0)), (1, .int l1), (2, .int l2), (3, .int l3)]) rfl ?_
    refine x_goto (tgt := 62) C0 d_Rm_note_85 (by decide) ?_
    exact x_sub [1, 2, 3, 4, 0] rfl (hK62 _ _ _ _ _ _ hwp)
theorem t_Rm_note_62 {p : Program} {l : Launch} {e : Env} {R : Room} {s : State} {m : MethodId} {args : Array Value} {below : List Frame} {meth : Method} {c : Code} (G : mG) (C0 : Cx G p s m args c prog_8_method_44_code 6 "BassRealiserModel") (hR : 6 ≤ R.frames ∧ 141 ≤ R.locals ∧ 0 ≤ R.cells ∧ 0 ≤ R.slots) (hr : meth.sig.returnType = some .int) (hlk : meth.locks = false) {Post : Int32 → MH → Prop} {K43 : Nat → Int32 → Int32 → Int32 → MH → Prop} (hK43 : ∀ (l0 : Nat) (l1 : Int32) (l2 : Int32) (l3 : Int32) (h : MH), K43 l0 l1 l2 l3 h → WG p l e R s m args below meth c 0 0 (MQ below (va_Qi Post (Wd G) (mA G)) args s 0 0 (mA G)) G 6 [(0, .ref (m_b G + l0)), (1, .int l1), (2, .int l2), (3, .int l3)] 43 [] h) (l0 : Nat) (l1 : Int32) (l2 : Int32) (l3 : Int32) (l5 : Int32) (h : MH) (hwp : wp_Rm_note_62 K43 Post l0 l1 l2 l3 l5 h) : WG p l e R s m args below meth c 0 0 (MQ below (va_Qi Post (Wd G) (mA G)) args s 0 0 (mA G)) G 6 [(0, .ref (m_b G + l0)), (1, .int l1), (2, .int l2), (3, .int l3), (5, .int l5)] 62 [] h := by
  obtain ⟨n, hwp⟩ := hwp
  induction n generalizing l0 l1 l2 l3 l5 h with
  | zero => exact False.elim hwp
  | succ n ih => exact tb_Rm_note_62 G C0 hR hr hlk hK43 (fun l0 l1 l2 l3 l5 h hwp => ih l0 l1 l2 l3 l5 h hwp) l0 l1 l2 l3 l5 h hwp
set_option maxRecDepth 100000 in
set_option maxHeartbeats 4000000 in
theorem tb_Rm_note_43 {p : Program} {l : Launch} {e : Env} {R : Room} {s : State} {m : MethodId} {args : Array Value} {below : List Frame} {meth : Method} {c : Code} (G : mG) (C0 : Cx G p s m args c prog_8_method_44_code 6 "BassRealiserModel") (hR : 6 ≤ R.frames ∧ 141 ≤ R.locals ∧ 0 ≤ R.cells ∧ 0 ≤ R.slots) (hr : meth.sig.returnType = some .int) (hlk : meth.locks = false) {Post : Int32 → MH → Prop} {K43 : Nat → Int32 → Int32 → Int32 → MH → Prop} (hK43 : ∀ (l0 : Nat) (l1 : Int32) (l2 : Int32) (l3 : Int32) (h : MH), K43 l0 l1 l2 l3 h → WG p l e R s m args below meth c 0 0 (MQ below (va_Qi Post (Wd G) (mA G)) args s 0 0 (mA G)) G 6 [(0, .ref (m_b G + l0)), (1, .int l1), (2, .int l2), (3, .int l3)] 43 [] h) (l0 : Nat) (l1 : Int32) (l2 : Int32) (l3 : Int32) (h : MH) (hwp : wb_Rm_note_43 K43 Post l0 l1 l2 l3 h) : WG p l e R s m args below meth c 0 0 (MQ below (va_Qi Post (Wd G) (mA G)) args s 0 0 (mA G)) G 6 [(0, .ref (m_b G + l0)), (1, .int l1), (2, .int l2), (3, .int l3)] 43 [] h := by
  unfold wb_Rm_note_43 at hwp
  refine x_iload_n C0 3 d_Rm_note_43 rfl rfl ?_
  refine x_iload_n C0 1 d_Rm_note_44 rfl rfl ?_
  refine x_icmp_gt (tgt := 94) C0 d_Rm_note_45 (by decide) (fun c45 => ?_) (fun c45 => ?_)
  · replace hwp := hwp.1 c45
    refine x_aload_n C0 0 d_Rm_note_94 rfl rfl ?_
    obtain ⟨x95, e95, hwp⟩ := hwp
    refine x_getR C0 fk_Rm_76 e95 d_Rm_note_95 ?_
    refine x_iload_n C0 2 d_Rm_note_98 rfl rfl ?_
    obtain ⟨n99, f99, e99, i99, hwp⟩ := hwp
    refine x_iald C0 e99 i99 d_Rm_note_99 ?_
    exact x_iret C0 hr hlk hwp d_Rm_note_100
  · replace hwp := hwp.2 c45
    refine x_aload_n C0 0 d_Rm_note_48 rfl rfl ?_
    refine x_iload_n C0 3 d_Rm_note_49 rfl rfl ?_
    refine x_aload_n C0 0 d_Rm_note_50 rfl rfl ?_
    obtain ⟨x51, e51, hwp⟩ := hwp
    refine x_getR C0 fk_Rm_76 e51 d_Rm_note_51 ?_
    obtain ⟨g54, hwp⟩ := hwp
    refine x_callVi0 (k := l0) (As := [.int l3, .ref (m_b G + x51)]) (st := []) C0 (c_Rm_best l G hwp) kw_4_94 mk_Rm_best vk_Rm_best rfl g54 rfl (Nat.le_of_ble_eq_true rfl) rfl rfl ⟨Nat.le_trans (by decide) hR.1, Nat.le_trans (by decide) hR.2.1⟩ ⟨Nat.zero_le _, Nat.zero_le _⟩ rfl d_Rm_note_54 (fun r54 h54 hwp => ?_)
    refine x_istore C0 d_Rm_note_57 (by decide) (lv' := [(4, .int r54), (0, .ref (m_b G + l0)), (1, .int l1), (2, .int l2), (3, .int l3)]) rfl ?_
    refine x_iconst (v := 0) C0 d_Rm_note_59 (by decide) ?_
    refine x_istore C0 d_Rm_note_60 (by decide) (lv' := [(5, .int (0 : Int32)), (4, .int r54), (0, .ref (m_b G + l0)), (1, .int l1), (2, .int l2), (3, .int l3)]) rfl ?_
    exact x_sub [2, 3, 4, 5, 0] rfl (t_Rm_note_62 G C0 hR hr hlk hK43 _ _ _ _ _ _ hwp)
theorem t_Rm_note_43 {p : Program} {l : Launch} {e : Env} {R : Room} {s : State} {m : MethodId} {args : Array Value} {below : List Frame} {meth : Method} {c : Code} (G : mG) (C0 : Cx G p s m args c prog_8_method_44_code 6 "BassRealiserModel") (hR : 6 ≤ R.frames ∧ 141 ≤ R.locals ∧ 0 ≤ R.cells ∧ 0 ≤ R.slots) (hr : meth.sig.returnType = some .int) (hlk : meth.locks = false) {Post : Int32 → MH → Prop} (l0 : Nat) (l1 : Int32) (l2 : Int32) (l3 : Int32) (h : MH) (hwp : wp_Rm_note_43 Post l0 l1 l2 l3 h) : WG p l e R s m args below meth c 0 0 (MQ below (va_Qi Post (Wd G) (mA G)) args s 0 0 (mA G)) G 6 [(0, .ref (m_b G + l0)), (1, .int l1), (2, .int l2), (3, .int l3)] 43 [] h := by
  obtain ⟨n, hwp⟩ := hwp
  induction n generalizing l0 l1 l2 l3 h with
  | zero => exact False.elim hwp
  | succ n ih => exact tb_Rm_note_43 G C0 hR hr hlk (fun l0 l1 l2 l3 h hwp => ih l0 l1 l2 l3 h hwp) l0 l1 l2 l3 h hwp
set_option maxRecDepth 100000 in
set_option maxHeartbeats 4000000 in
theorem t_Rm_note {p : Program} {l : Launch} {e : Env} {R : Room} {s : State} {m : MethodId} {args : Array Value} {below : List Frame} {meth : Method} {c : Code} (G : mG) (C0 : Cx G p s m args c prog_8_method_44_code 6 "BassRealiserModel") (hR : 6 ≤ R.frames ∧ 141 ≤ R.locals ∧ 0 ≤ R.cells ∧ 0 ≤ R.slots) (hr : meth.sig.returnType = some .int) (hlk : meth.locks = false) {Post : Int32 → MH → Prop} (l0 : Nat) (l1 : Int32) (l2 : Int32) (h : MH) (hwp : wp_Rm_note Post l0 l1 l2 h) : WG p l e R s m args below meth c 0 0 (MQ below (va_Qi Post (Wd G) (mA G)) args s 0 0 (mA G)) G 6 [(0, .ref (m_b G + l0)), (1, .int l1), (2, .int l2)] 0 [] h := by
  unfold wp_Rm_note at hwp
  refine x_aload_n C0 0 d_Rm_note_0 rfl rfl ?_
  refine x_iconst (v := 0) C0 d_Rm_note_1 (by decide) ?_
  obtain ⟨⟨o2, e2⟩, hwp⟩ := hwp
  refine x_put (x := (.inl (0 : Int32) : MV)) C0 pk_Rm_1 e2 rfl rfl d_Rm_note_2 ?_
  refine x_nh (fun h2 eh2 => ?_)
  replace hwp := hwp h2 eh2
  refine x_aload_n C0 0 d_Rm_note_5 rfl rfl ?_
  refine x_iload_n C0 1 d_Rm_note_6 rfl rfl ?_
  obtain ⟨g7, hwp⟩ := hwp
  refine x_callVi0 (k := l0) (As := [.int l1]) (st := []) C0 (c_Rm_noChord l G hwp) kw_3_191 mk_Rm_noChord vk_Rm_noChord rfl g7 rfl (Nat.le_of_ble_eq_true rfl) rfl rfl ⟨Nat.le_trans (by decide) hR.1, Nat.le_trans (by decide) hR.2.1⟩ ⟨Nat.zero_le _, Nat.zero_le _⟩ rfl d_Rm_note_7 (fun r7 h7 hwp => ?_)
  refine x_if_ne (tgt := 25) C0 d_Rm_note_10 (by decide) (fun c10 => ?_) (fun c10 => ?_)
  · replace hwp := hwp.1 c10
    refine x_iconst (v := -1) C0 d_Rm_note_25 (by decide) ?_
    exact x_iret C0 hr hlk hwp d_Rm_note_26
  · replace hwp := hwp.2 c10
    refine x_iload_n C0 2 d_Rm_note_13 rfl rfl ?_
    refine x_i2l C0 d_Rm_note_14 ?_
    refine x_lconst (v := 0) C0 d_Rm_note_15 (by decide) ?_
    refine x_ldc2 (v := 2) C0 kw_3_195 d_Rm_note_16 ?_
    refine x_callSi0 (As := [.long ((l2).toInt64), .long (0 : Int64), .long (2 : Int64)]) (st := []) C0 (c_Rm_in l G hwp) kw_3_173 mk_Rm_in kw_3_174 rfl (Nat.le_of_ble_eq_true rfl) rfl rfl ⟨Nat.le_trans (by decide) hR.1, Nat.le_trans (by decide) hR.2.1⟩ ⟨Nat.zero_le _, Nat.zero_le _⟩ rfl d_Rm_note_19 (fun r19 h19 hwp => ?_)
    refine x_if_ne (tgt := 27) C0 d_Rm_note_22 (by decide) (fun c22 => ?_) (fun c22 => ?_)
    · replace hwp := hwp.1 c22
      refine x_aload_n C0 0 d_Rm_note_27 rfl rfl ?_
      obtain ⟨g28, hwp⟩ := hwp
      refine x_callVv0 (k := l0) (As := []) (st := []) C0 (c_Rm_lay l G hwp) kw_4_38 mk_Rm_lay vk_Rm_lay rfl g28 rfl (Nat.le_of_ble_eq_true rfl) rfl rfl ⟨Nat.le_trans (by decide) hR.1, Nat.le_trans (by decide) hR.2.1⟩ ⟨Nat.zero_le _, Nat.zero_le _⟩ rfl d_Rm_note_28 (fun h28 hwp => ?_)
      refine x_aload_n C0 0 d_Rm_note_31 rfl rfl ?_
      obtain ⟨x32, e32, hwp⟩ := hwp
      refine x_getI C0 fk_Rm_177 e32 d_Rm_note_32 ?_
      refine x_if_lt (tgt := 41) C0 d_Rm_note_35 (by decide) (fun c35 => ?_) (fun c35 => ?_)
      · replace hwp := hwp.1 c35
        refine x_iconst (v := 0) C0 d_Rm_note_41 (by decide) ?_
        refine x_istore_n C0 d_Rm_note_42 rfl (by decide) (lv' := [(3, .int (0 : Int32)), (0, .ref (m_b G + l0)), (1, .int l1), (2, .int l2)]) rfl ?_
        exact x_sub [1, 2, 3, 0] rfl (t_Rm_note_43 G C0 hR hr hlk  _ _ _ _ _ hwp)
      · replace hwp := hwp.2 c35
        refine x_bipush (v := -2) C0 d_Rm_note_38 (by decide) ?_
        exact x_iret C0 hr hlk hwp d_Rm_note_40
    · replace hwp := hwp.2 c22
      refine x_iconst (v := -1) C0 d_Rm_note_25 (by decide) ?_
      exact x_iret C0 hr hlk hwp d_Rm_note_26
set_option maxRecDepth 100000 in
set_option maxHeartbeats 4000000 in
theorem c_Rm_note (l : Launch) (G : mG) {Post : Int32 → MH → Prop} {l0 : Nat} {l1 : Int32} {l2 : Int32} {h : MH} (hwp : wp_Rm_note Post l0 l1 l2 h) : Met l y_Rm_note (Cond.code y_Rm_note prog_8_method_44_code 6 (Option.some Jvm.ClassFile.FieldType.int) :: lw_good) ({ frames := 6, cells := 0, slots := 0, locals := 141 }) (va_Pc [.ref (m_b G + l0), .int l1, .int l2] (Wd G h)) (va_Qi Post (Wd G) (mA G)) 0 0 (mA G) := by
  refine Met.ofW (cc := prog_8_method_44_code) (maxL := 6) (ret := (Option.some Jvm.ClassFile.FieldType.int)) (by decide +kernel) rfl ?_
  intro p e s m args below meth c s₁ B hml hv
  obtain ⟨rfl, hP, hz, hK, hSt⟩ := hv
  have hts := atoms_spec (ws := Cond.code y_Rm_note prog_8_method_44_code 6 (Option.some Jvm.ClassFile.FieldType.int) :: lw_good) B.pre
  have C0 : Cx G p s m ([.ref (m_b G + l0), .int l1, .int l2] : List Value).toArray c prog_8_method_44_code 6 "BassRealiserModel" := ⟨⟨B.exec, B.bytes, hml, findClass_of_methodNamed B.named, fun w h => hts w (List.mem_cons_of_mem _ h)⟩, hK, hSt, by rw [hz]; exact Nat.le_add_right _ _⟩
  have hl := lv_entry ([.ref (m_b G + l0), .int l1, .int l2]) (n := 6) (Nat.le_of_ble_eq_true rfl)
  rw [lg_entry_eq]
  exact t_Rm_note G C0 ⟨Nat.le_refl _, Nat.le_refl _, Nat.le_refl _, Nat.le_refl _⟩ B.returns B.notSynchronized _ _ _ _ hwp _ _ _ ⟨hP, hz, va_S.rf⟩ hl
def wp_Br_many (Post : Int32 → MH → Prop) (l0 : Nat) (h : MH) : Prop :=
  ∃ x1 : Int32, gF h l0 5 4 = some (.inl x1) ∧
  (((¬ x1 = 0) →
      (∃ x11 : Nat, gF h l0 5 0 = some (.inr (some x11)) ∧
        (∃ x15 : Int32, gF h l0 5 4 = some (.inl x15) ∧
          (gC h x11 = some 4 ∧ wp_Se_settle (fun (h18 : MH) =>
              (∃ x22 : Nat, gF h18 l0 5 0 = some (.inr (some x22)) ∧
                (∃ x25 : Int32, gF h18 x22 4 7 = some (.inl x25) ∧
                  (Post x25 h18)))) x11 x15 h)))) ∧
    ((x1 = 0) →
      (Post (-2 : Int32) h)))
set_option maxRecDepth 100000 in
set_option maxHeartbeats 4000000 in
theorem t_Br_many {p : Program} {l : Launch} {e : Env} {R : Room} {s : State} {m : MethodId} {args : Array Value} {below : List Frame} {meth : Method} {c : Code} (G : mG) (C0 : Cx G p s m args c prog_1_method_17_code 1 "BassRealiser") (hR : 7 ≤ R.frames ∧ 171 ≤ R.locals ∧ 0 ≤ R.cells ∧ 0 ≤ R.slots) (hr : meth.sig.returnType = some .int) (hlk : meth.locks = false) {Post : Int32 → MH → Prop} (l0 : Nat) (h : MH) (hwp : wp_Br_many Post l0 h) : WG p l e R s m args below meth c 0 0 (MQ below (va_Qi Post (Wd G) (mA G)) args s 0 0 (mA G)) G 1 [(0, .ref (m_b G + l0))] 0 [] h := by
  unfold wp_Br_many at hwp
  refine x_aload_n C0 0 d_Br_many_0 rfl rfl ?_
  obtain ⟨x1, e1, hwp⟩ := hwp
  refine x_getI C0 fk_Br_33 e1 d_Br_many_1 ?_
  refine x_if_ne (tgt := 10) C0 d_Br_many_4 (by decide) (fun c4 => ?_) (fun c4 => ?_)
  · replace hwp := hwp.1 c4
    refine x_aload_n C0 0 d_Br_many_10 rfl rfl ?_
    obtain ⟨x11, e11, hwp⟩ := hwp
    refine x_getR C0 fk_Br_10 e11 d_Br_many_11 ?_
    refine x_aload_n C0 0 d_Br_many_14 rfl rfl ?_
    obtain ⟨x15, e15, hwp⟩ := hwp
    refine x_getI C0 fk_Br_33 e15 d_Br_many_15 ?_
    obtain ⟨g18, hwp⟩ := hwp
    refine x_callVv0 (k := x11) (As := [.int x15]) (st := []) C0 (c_Se_settle l G hwp) kw_2_183 mk_Se_settle vk_Se_settle rfl g18 rfl (Nat.le_of_ble_eq_true rfl) rfl rfl ⟨Nat.le_trans (by decide) hR.1, Nat.le_trans (by decide) hR.2.1⟩ ⟨Nat.zero_le _, Nat.zero_le _⟩ rfl d_Br_many_18 (fun h18 hwp => ?_)
    refine x_aload_n C0 0 d_Br_many_21 rfl rfl ?_
    obtain ⟨x22, e22, hwp⟩ := hwp
    refine x_getR C0 fk_Br_10 e22 d_Br_many_22 ?_
    obtain ⟨x25, e25, hwp⟩ := hwp
    refine x_getI C0 fk_Br_149 e25 d_Br_many_25 ?_
    exact x_iret C0 hr hlk hwp d_Br_many_28
  · replace hwp := hwp.2 c4
    refine x_bipush (v := -2) C0 d_Br_many_7 (by decide) ?_
    exact x_iret C0 hr hlk hwp d_Br_many_9
set_option maxRecDepth 100000 in
set_option maxHeartbeats 4000000 in
theorem c_Br_many (l : Launch) (G : mG) {Post : Int32 → MH → Prop} {l0 : Nat} {h : MH} (hwp : wp_Br_many Post l0 h) : Met l y_Br_many (Cond.code y_Br_many prog_1_method_17_code 1 (Option.some Jvm.ClassFile.FieldType.int) :: lw_good) ({ frames := 7, cells := 0, slots := 0, locals := 171 }) (va_Pc [.ref (m_b G + l0)] (Wd G h)) (va_Qi Post (Wd G) (mA G)) 0 0 (mA G) := by
  refine Met.ofW (cc := prog_1_method_17_code) (maxL := 1) (ret := (Option.some Jvm.ClassFile.FieldType.int)) (by decide +kernel) rfl ?_
  intro p e s m args below meth c s₁ B hml hv
  obtain ⟨rfl, hP, hz, hK, hSt⟩ := hv
  have hts := atoms_spec (ws := Cond.code y_Br_many prog_1_method_17_code 1 (Option.some Jvm.ClassFile.FieldType.int) :: lw_good) B.pre
  have C0 : Cx G p s m ([.ref (m_b G + l0)] : List Value).toArray c prog_1_method_17_code 1 "BassRealiser" := ⟨⟨B.exec, B.bytes, hml, findClass_of_methodNamed B.named, fun w h => hts w (List.mem_cons_of_mem _ h)⟩, hK, hSt, by rw [hz]; exact Nat.le_add_right _ _⟩
  have hl := lv_entry ([.ref (m_b G + l0)]) (n := 1) (Nat.le_of_ble_eq_true rfl)
  rw [lg_entry_eq]
  exact t_Br_many G C0 ⟨Nat.le_refl _, Nat.le_refl _, Nat.le_refl _, Nat.le_refl _⟩ B.returns B.notSynchronized _ _ hwp _ _ _ ⟨hP, hz, va_S.rf⟩ hl
def wb_Rm_many_0_23 (K23 : Nat → Int64 → Int32 → MH → Prop) (Post : Int32 → MH → Prop) (l0 : Nat) (l1 : Int64) (l3 : Int32) (h : MH) : Prop :=
  ∃ x25 : Nat, gF h l0 6 21 = some (.inr (some x25)) ∧
  (∃ x29 : Int32, gF h l0 6 2 = some (.inl x29) ∧
    (∃ (n34 : Nat) (f34 : Nat → Int32), gA h x25 0 = some (n34, f34) ∧ vp_in (x29 - (1 : Int32)) n34 ∧
      ((((f34 (x29 - (1 : Int32)).toNatClampNeg) ≤ l3) →
          ((((lg_cmp l1 (1000000000 : Int64)) ≤ 0) →
              (Post ((l1).toInt32) h)) ∧
            ((¬ (lg_cmp l1 (1000000000 : Int64)) ≤ 0) →
              (Post (1000000000 : Int32) h)))) ∧
        ((¬ (f34 (x29 - (1 : Int32)).toNatClampNeg) ≤ l3) →
          (∃ x40 : Nat, gF h l0 6 23 = some (.inr (some x40)) ∧
            (∃ x47 : Int32, gF h l0 6 2 = some (.inl x47) ∧
              (∃ (n55 : Nat) (f55 : Nat → Int64), gL h x40 2 = some (n55, f55) ∧ vp_in (((800 : Int32) * (x47 - (1 : Int32))) + l3) n55 ∧
                (∀ z57 : Int64, z57 = l1 + (f55 (((800 : Int32) * (x47 - (1 : Int32))) + l3).toNatClampNeg) →
                  (K23 l0 z57 (l3 + (1 : Int32)) h)))))))))
def wn_Rm_many_0_23 (Post : Int32 → MH → Prop) : Nat → Nat → Int64 → Int32 → MH → Prop
  | 0 => fun _ _ _ _ => False
  | n + 1 => wb_Rm_many_0_23 (wn_Rm_many_0_23 Post n) Post
def wp_Rm_many_0_23 (Post : Int32 → MH → Prop) (l0 : Nat) (l1 : Int64) (l3 : Int32) (h : MH) : Prop := ∃ n, wn_Rm_many_0_23 Post n l0 l1 l3 h
def wp_Rm_many_0 (Post : Int32 → MH → Prop) (l0 : Nat) (h : MH) : Prop :=
  (∃ o : MV, gF h l0 6 0 = some o) ∧ ∀ h2 : MH, h2 = fset h l0 0 (.inl (0 : Int32) : MV) →
  (∃ x6 : Int32, gF h2 l0 6 2 = some (.inl x6) ∧
    (((¬ x6 = 0) →
        (gC h2 l0 = some 6 ∧ wp_Rm_lay (fun (h16 : MH) =>
            (wp_Rm_many_0_23 Post l0 (0 : Int64) (0 : Int32) h16)) l0 h2)) ∧
      ((x6 = 0) →
        (Post (-2 : Int32) h2))))
set_option maxRecDepth 100000 in
set_option maxHeartbeats 4000000 in
theorem tb_Rm_many_0_23 {p : Program} {l : Launch} {e : Env} {R : Room} {s : State} {m : MethodId} {args : Array Value} {below : List Frame} {meth : Method} {c : Code} (G : mG) (C0 : Cx G p s m args c prog_8_method_45_code 4 "BassRealiserModel") (hR : 6 ≤ R.frames ∧ 141 ≤ R.locals ∧ 0 ≤ R.cells ∧ 0 ≤ R.slots) (hr : meth.sig.returnType = some .int) (hlk : meth.locks = false) {Post : Int32 → MH → Prop} {K23 : Nat → Int64 → Int32 → MH → Prop} (hK23 : ∀ (l0 : Nat) (l1 : Int64) (l3 : Int32) (h : MH), K23 l0 l1 l3 h → WG p l e R s m args below meth c 0 0 (MQ below (va_Qi Post (Wd G) (mA G)) args s 0 0 (mA G)) G 4 [(0, .ref (m_b G + l0)), (1, .long l1), (3, .int l3)] 23 [] h) (l0 : Nat) (l1 : Int64) (l3 : Int32) (h : MH) (hwp : wb_Rm_many_0_23 K23 Post l0 l1 l3 h) : WG p l e R s m args below meth c 0 0 (MQ below (va_Qi Post (Wd G) (mA G)) args s 0 0 (mA G)) G 4 [(0, .ref (m_b G + l0)), (1, .long l1), (3, .int l3)] 23 [] h := by
  unfold wb_Rm_many_0_23 at hwp
  refine x_iload_n C0 2 d_Rm_many_0_23 rfl rfl ?_
  refine x_aload_n C0 0 d_Rm_many_0_24 rfl rfl ?_
  obtain ⟨x25, e25, hwp⟩ := hwp
  refine x_getR C0 fk_Rm_66 e25 d_Rm_many_0_25 ?_
  refine x_aload_n C0 0 d_Rm_many_0_28 rfl rfl ?_
  obtain ⟨x29, e29, hwp⟩ := hwp
  refine x_getI C0 fk_Rm_79 e29 d_Rm_many_0_29 ?_
  refine x_iconst (v := 1) C0 d_Rm_many_0_32 (by decide) ?_
  refine x_isub C0 d_Rm_many_0_33 ?_
  obtain ⟨n34, f34, e34, i34, hwp⟩ := hwp
  refine x_iald C0 e34 i34 d_Rm_many_0_34 ?_
  refine x_icmp_ge (tgt := 64) C0 d_Rm_many_0_35 (by decide) (fun c35 => ?_) (fun c35 => ?_)
  · replace hwp := hwp.1 c35
    refine x_lload_n C0 1 d_Rm_many_0_64 rfl rfl ?_
    refine x_ldc2 (v := 1000000000) C0 kw_4_76 d_Rm_many_0_65 ?_
    refine x_lcmp C0 d_Rm_many_0_68 ?_
    refine x_if_le (tgt := 77) C0 d_Rm_many_0_69 (by decide) (fun c69 => ?_) (fun c69 => ?_)
    · replace hwp := hwp.1 c69
      refine x_lload_n C0 1 d_Rm_many_0_77 rfl rfl ?_
      refine x_l2i C0 d_Rm_many_0_78 ?_
      exact x_iret C0 hr hlk hwp d_Rm_many_0_79
    · replace hwp := hwp.2 c69
      refine x_ldc (v := 1000000000) C0 kw_4_106 d_Rm_many_0_72 ?_
      refine x_goto (tgt := 79) C0 d_Rm_many_0_74 (by decide) ?_
      exact x_iret C0 hr hlk hwp d_Rm_many_0_79
  · replace hwp := hwp.2 c35
    refine x_lload_n C0 1 d_Rm_many_0_38 rfl rfl ?_
    refine x_aload_n C0 0 d_Rm_many_0_39 rfl rfl ?_
    obtain ⟨x40, e40, hwp⟩ := hwp
    refine x_getR C0 fk_Rm_72 e40 d_Rm_many_0_40 ?_
    refine x_sipush (v := 800) C0 d_Rm_many_0_43 (by decide) ?_
    refine x_aload_n C0 0 d_Rm_many_0_46 rfl rfl ?_
    obtain ⟨x47, e47, hwp⟩ := hwp
    refine x_getI C0 fk_Rm_79 e47 d_Rm_many_0_47 ?_
    refine x_iconst (v := 1) C0 d_Rm_many_0_50 (by decide) ?_
    refine x_isub C0 d_Rm_many_0_51 ?_
    refine x_imul C0 d_Rm_many_0_52 ?_
    refine x_iload_n C0 2 d_Rm_many_0_53 rfl rfl ?_
    refine x_iadd C0 d_Rm_many_0_54 ?_
    obtain ⟨n55, f55, e55, i55, hwp⟩ := hwp
    refine x_lald C0 e55 i55 d_Rm_many_0_55 ?_
    refine x_ladd C0 d_Rm_many_0_56 ?_
    refine x_topJ (fun z57 e57 => ?_)
    replace hwp := hwp z57 e57
    refine x_lstore_n C0 d_Rm_many_0_57 rfl (by decide) (lv' := [(1, .long z57), (0, .ref (m_b G + l0)), (3, .int l3)]) rfl ?_
    refine x_iinc C0 2 d_Rm_many_0_58 rfl rfl (by decide) (lv' := [(3, .int (l3 + (1 : Int32))), (1, .long z57), (0, .ref (m_b G + l0))]) rfl ?_
    refine x_goto (tgt := 23) C0 d_Rm_many_0_61 (by decide) ?_
    exact x_sub [2, 1, 0] rfl (hK23 _ _ _ _ hwp)
theorem t_Rm_many_0_23 {p : Program} {l : Launch} {e : Env} {R : Room} {s : State} {m : MethodId} {args : Array Value} {below : List Frame} {meth : Method} {c : Code} (G : mG) (C0 : Cx G p s m args c prog_8_method_45_code 4 "BassRealiserModel") (hR : 6 ≤ R.frames ∧ 141 ≤ R.locals ∧ 0 ≤ R.cells ∧ 0 ≤ R.slots) (hr : meth.sig.returnType = some .int) (hlk : meth.locks = false) {Post : Int32 → MH → Prop} (l0 : Nat) (l1 : Int64) (l3 : Int32) (h : MH) (hwp : wp_Rm_many_0_23 Post l0 l1 l3 h) : WG p l e R s m args below meth c 0 0 (MQ below (va_Qi Post (Wd G) (mA G)) args s 0 0 (mA G)) G 4 [(0, .ref (m_b G + l0)), (1, .long l1), (3, .int l3)] 23 [] h := by
  obtain ⟨n, hwp⟩ := hwp
  induction n generalizing l0 l1 l3 h with
  | zero => exact False.elim hwp
  | succ n ih => exact tb_Rm_many_0_23 G C0 hR hr hlk (fun l0 l1 l3 h hwp => ih l0 l1 l3 h hwp) l0 l1 l3 h hwp
set_option maxRecDepth 100000 in
set_option maxHeartbeats 4000000 in
theorem t_Rm_many_0 {p : Program} {l : Launch} {e : Env} {R : Room} {s : State} {m : MethodId} {args : Array Value} {below : List Frame} {meth : Method} {c : Code} (G : mG) (C0 : Cx G p s m args c prog_8_method_45_code 4 "BassRealiserModel") (hR : 6 ≤ R.frames ∧ 141 ≤ R.locals ∧ 0 ≤ R.cells ∧ 0 ≤ R.slots) (hr : meth.sig.returnType = some .int) (hlk : meth.locks = false) {Post : Int32 → MH → Prop} (l0 : Nat) (h : MH) (hwp : wp_Rm_many_0 Post l0 h) : WG p l e R s m args below meth c 0 0 (MQ below (va_Qi Post (Wd G) (mA G)) args s 0 0 (mA G)) G 4 [(0, .ref (m_b G + l0))] 0 [] h := by
  unfold wp_Rm_many_0 at hwp
  refine x_aload_n C0 0 d_Rm_many_0_0 rfl rfl ?_
  refine x_iconst (v := 0) C0 d_Rm_many_0_1 (by decide) ?_
  obtain ⟨⟨o2, e2⟩, hwp⟩ := hwp
  refine x_put (x := (.inl (0 : Int32) : MV)) C0 pk_Rm_1 e2 rfl rfl d_Rm_many_0_2 ?_
  refine x_nh (fun h2 eh2 => ?_)
  replace hwp := hwp h2 eh2
  refine x_aload_n C0 0 d_Rm_many_0_5 rfl rfl ?_
  obtain ⟨x6, e6, hwp⟩ := hwp
  refine x_getI C0 fk_Rm_79 e6 d_Rm_many_0_6 ?_
  refine x_if_ne (tgt := 15) C0 d_Rm_many_0_9 (by decide) (fun c9 => ?_) (fun c9 => ?_)
  · replace hwp := hwp.1 c9
    refine x_aload_n C0 0 d_Rm_many_0_15 rfl rfl ?_
    obtain ⟨g16, hwp⟩ := hwp
    refine x_callVv0 (k := l0) (As := []) (st := []) C0 (c_Rm_lay l G hwp) kw_4_38 mk_Rm_lay vk_Rm_lay rfl g16 rfl (Nat.le_of_ble_eq_true rfl) rfl rfl ⟨Nat.le_trans (by decide) hR.1, Nat.le_trans (by decide) hR.2.1⟩ ⟨Nat.zero_le _, Nat.zero_le _⟩ rfl d_Rm_many_0_16 (fun h16 hwp => ?_)
    refine x_lconst (v := 0) C0 d_Rm_many_0_19 (by decide) ?_
    refine x_lstore_n C0 d_Rm_many_0_20 rfl (by decide) (lv' := [(1, .long (0 : Int64)), (0, .ref (m_b G + l0))]) rfl ?_
    refine x_iconst (v := 0) C0 d_Rm_many_0_21 (by decide) ?_
    refine x_istore_n C0 d_Rm_many_0_22 rfl (by decide) (lv' := [(3, .int (0 : Int32)), (1, .long (0 : Int64)), (0, .ref (m_b G + l0))]) rfl ?_
    exact x_sub [2, 1, 0] rfl (t_Rm_many_0_23 G C0 hR hr hlk  _ _ _ _ hwp)
  · replace hwp := hwp.2 c9
    refine x_bipush (v := -2) C0 d_Rm_many_0_12 (by decide) ?_
    exact x_iret C0 hr hlk hwp d_Rm_many_0_14
set_option maxRecDepth 100000 in
set_option maxHeartbeats 4000000 in
theorem c_Rm_many_0 (l : Launch) (G : mG) {Post : Int32 → MH → Prop} {l0 : Nat} {h : MH} (hwp : wp_Rm_many_0 Post l0 h) : Met l y_Rm_many_0 (Cond.code y_Rm_many_0 prog_8_method_45_code 4 (Option.some Jvm.ClassFile.FieldType.int) :: lw_good) ({ frames := 6, cells := 0, slots := 0, locals := 141 }) (va_Pc [.ref (m_b G + l0)] (Wd G h)) (va_Qi Post (Wd G) (mA G)) 0 0 (mA G) := by
  refine Met.ofW (cc := prog_8_method_45_code) (maxL := 4) (ret := (Option.some Jvm.ClassFile.FieldType.int)) (by decide +kernel) rfl ?_
  intro p e s m args below meth c s₁ B hml hv
  obtain ⟨rfl, hP, hz, hK, hSt⟩ := hv
  have hts := atoms_spec (ws := Cond.code y_Rm_many_0 prog_8_method_45_code 4 (Option.some Jvm.ClassFile.FieldType.int) :: lw_good) B.pre
  have C0 : Cx G p s m ([.ref (m_b G + l0)] : List Value).toArray c prog_8_method_45_code 4 "BassRealiserModel" := ⟨⟨B.exec, B.bytes, hml, findClass_of_methodNamed B.named, fun w h => hts w (List.mem_cons_of_mem _ h)⟩, hK, hSt, by rw [hz]; exact Nat.le_add_right _ _⟩
  have hl := lv_entry ([.ref (m_b G + l0)]) (n := 4) (Nat.le_of_ble_eq_true rfl)
  rw [lg_entry_eq]
  exact t_Rm_many_0 G C0 ⟨Nat.le_refl _, Nat.le_refl _, Nat.le_refl _, Nat.le_refl _⟩ B.returns B.notSynchronized _ _ hwp _ _ _ ⟨hP, hz, va_S.rf⟩ hl
def wp_Br_sing (Post : Int32 → MH → Prop) (l0 : Nat) (l1 : Int32) (l2 : Int32) (l3 : Int32) (l4 : Int32) (h : MH) : Prop :=
  gC h l0 = some 5 ∧ wp_Br_hasChord (fun (r2 : Int32) (h2 : MH) =>
    (((r2 = 0) →
        (Post (-1 : Int32) h2)) ∧
      ((¬ r2 = 0) →
        (wp_Br_isPitch (fun (r9 : Int32) (h9 : MH) =>
            (((r9 = 0) →
                (Post (-1 : Int32) h9)) ∧
              ((¬ r9 = 0) →
                (wp_Br_isPitch (fun (r16 : Int32) (h16 : MH) =>
                    (((r16 = 0) →
                        (Post (-1 : Int32) h16)) ∧
                      ((¬ r16 = 0) →
                        (wp_Br_isPitch (fun (r24 : Int32) (h24 : MH) =>
                        (((¬ r24 = 0) →
                        (∃ x33 : Nat, gF h24 l0 5 1 = some (.inr (some x33)) ∧
                        (∃ (n37 : Nat) (f37 : Nat → Option Nat) (q37 : Nat), gR h24 x33 3 = some (n37, f37) ∧ vp_in l1 n37 ∧ f37 (l1).toNatClampNeg = some q37 ∧
                        (wp_Br_pack (fun (r42 : Int32) (h42 : MH) =>
                        ((∃ o : MV, gF h42 q37 0 6 = some o) ∧ ∀ h45 : MH, h45 = fset h42 q37 6 (.inl r42 : MV) →
                        (Post (1 : Int32) h45))) l2 l3 l4 h24)))) ∧
                        ((r24 = 0) →
                        (Post (-1 : Int32) h24)))) l4 h16)))) l3 h9)))) l2 h2)))) l0 l1 h
set_option maxRecDepth 100000 in
set_option maxHeartbeats 4000000 in
theorem t_Br_sing {p : Program} {l : Launch} {e : Env} {R : Room} {s : State} {m : MethodId} {args : Array Value} {below : List Frame} {meth : Method} {c : Code} (G : mG) (C0 : Cx G p s m args c prog_1_method_18_code 5 "BassRealiser") (hR : 1 ≤ R.frames ∧ 22 ≤ R.locals ∧ 0 ≤ R.cells ∧ 0 ≤ R.slots) (hr : meth.sig.returnType = some .int) (hlk : meth.locks = false) {Post : Int32 → MH → Prop} (l0 : Nat) (l1 : Int32) (l2 : Int32) (l3 : Int32) (l4 : Int32) (h : MH) (hwp : wp_Br_sing Post l0 l1 l2 l3 l4 h) : WG p l e R s m args below meth c 0 0 (MQ below (va_Qi Post (Wd G) (mA G)) args s 0 0 (mA G)) G 5 [(0, .ref (m_b G + l0)), (1, .int l1), (2, .int l2), (3, .int l3), (4, .int l4)] 0 [] h := by
  unfold wp_Br_sing at hwp
  refine x_aload_n C0 0 d_Br_sing_0 rfl rfl ?_
  refine x_iload_n C0 1 d_Br_sing_1 rfl rfl ?_
  obtain ⟨g2, hwp⟩ := hwp
  refine x_callVi0 (k := l0) (As := [.int l1]) (st := []) C0 (c_Br_hasChord l G hwp) kw_2_64 mk_Br_hasChord vk_Br_hasChord rfl g2 rfl (Nat.le_of_ble_eq_true rfl) rfl rfl ⟨Nat.le_trans (by decide) hR.1, Nat.le_trans (by decide) hR.2.1⟩ ⟨Nat.zero_le _, Nat.zero_le _⟩ rfl d_Br_sing_2 (fun r2 h2 hwp => ?_)
  refine x_if_eq (tgt := 30) C0 d_Br_sing_5 (by decide) (fun c5 => ?_) (fun c5 => ?_)
  · replace hwp := hwp.1 c5
    refine x_iconst (v := -1) C0 d_Br_sing_30 (by decide) ?_
    exact x_iret C0 hr hlk hwp d_Br_sing_31
  · replace hwp := hwp.2 c5
    refine x_iload_n C0 2 d_Br_sing_8 rfl rfl ?_
    refine x_callSi0 (As := [.int l2]) (st := []) C0 (c_Br_isPitch l G hwp) kw_2_91 mk_Br_isPitch kw_2_92 rfl (Nat.le_of_ble_eq_true rfl) rfl rfl ⟨Nat.le_trans (by decide) hR.1, Nat.le_trans (by decide) hR.2.1⟩ ⟨Nat.zero_le _, Nat.zero_le _⟩ rfl d_Br_sing_9 (fun r9 h9 hwp => ?_)
    refine x_if_eq (tgt := 30) C0 d_Br_sing_12 (by decide) (fun c12 => ?_) (fun c12 => ?_)
    · replace hwp := hwp.1 c12
      refine x_iconst (v := -1) C0 d_Br_sing_30 (by decide) ?_
      exact x_iret C0 hr hlk hwp d_Br_sing_31
    · replace hwp := hwp.2 c12
      refine x_iload_n C0 3 d_Br_sing_15 rfl rfl ?_
      refine x_callSi0 (As := [.int l3]) (st := []) C0 (c_Br_isPitch l G hwp) kw_2_91 mk_Br_isPitch kw_2_92 rfl (Nat.le_of_ble_eq_true rfl) rfl rfl ⟨Nat.le_trans (by decide) hR.1, Nat.le_trans (by decide) hR.2.1⟩ ⟨Nat.zero_le _, Nat.zero_le _⟩ rfl d_Br_sing_16 (fun r16 h16 hwp => ?_)
      refine x_if_eq (tgt := 30) C0 d_Br_sing_19 (by decide) (fun c19 => ?_) (fun c19 => ?_)
      · replace hwp := hwp.1 c19
        refine x_iconst (v := -1) C0 d_Br_sing_30 (by decide) ?_
        exact x_iret C0 hr hlk hwp d_Br_sing_31
      · replace hwp := hwp.2 c19
        refine x_iload C0 4 d_Br_sing_22 rfl ?_
        refine x_callSi0 (As := [.int l4]) (st := []) C0 (c_Br_isPitch l G hwp) kw_2_91 mk_Br_isPitch kw_2_92 rfl (Nat.le_of_ble_eq_true rfl) rfl rfl ⟨Nat.le_trans (by decide) hR.1, Nat.le_trans (by decide) hR.2.1⟩ ⟨Nat.zero_le _, Nat.zero_le _⟩ rfl d_Br_sing_24 (fun r24 h24 hwp => ?_)
        refine x_if_ne (tgt := 32) C0 d_Br_sing_27 (by decide) (fun c27 => ?_) (fun c27 => ?_)
        · replace hwp := hwp.1 c27
          refine x_aload_n C0 0 d_Br_sing_32 rfl rfl ?_
          obtain ⟨x33, e33, hwp⟩ := hwp
          refine x_getR C0 fk_Br_20 e33 d_Br_sing_33 ?_
          refine x_iload_n C0 1 d_Br_sing_36 rfl rfl ?_
          obtain ⟨n37, f37, q37, e37, i37, g37, hwp⟩ := hwp
          refine x_aald (t := 3) C0 e37 rfl i37 g37 d_Br_sing_37 ?_
          refine x_iload_n C0 2 d_Br_sing_38 rfl rfl ?_
          refine x_iload_n C0 3 d_Br_sing_39 rfl rfl ?_
          refine x_iload C0 4 d_Br_sing_40 rfl ?_
          refine x_callSi0 (As := [.int l2, .int l3, .int l4]) (st := [.ref (m_b G + q37)]) C0 (c_Br_pack l G hwp) kw_3_41 mk_Br_pack kw_2_151 rfl (Nat.le_of_ble_eq_true rfl) rfl rfl ⟨Nat.le_trans (by decide) hR.1, Nat.le_trans (by decide) hR.2.1⟩ ⟨Nat.zero_le _, Nat.zero_le _⟩ rfl d_Br_sing_42 (fun r42 h42 hwp => ?_)
          obtain ⟨⟨o45, e45⟩, hwp⟩ := hwp
          refine x_put (x := (.inl r42 : MV)) C0 pk_Br_155 e45 rfl rfl d_Br_sing_45 ?_
          refine x_nh (fun h45 eh45 => ?_)
          replace hwp := hwp h45 eh45
          refine x_iconst (v := 1) C0 d_Br_sing_48 (by decide) ?_
          exact x_iret C0 hr hlk hwp d_Br_sing_49
        · replace hwp := hwp.2 c27
          refine x_iconst (v := -1) C0 d_Br_sing_30 (by decide) ?_
          exact x_iret C0 hr hlk hwp d_Br_sing_31
set_option maxRecDepth 100000 in
set_option maxHeartbeats 4000000 in
theorem c_Br_sing (l : Launch) (G : mG) {Post : Int32 → MH → Prop} {l0 : Nat} {l1 : Int32} {l2 : Int32} {l3 : Int32} {l4 : Int32} {h : MH} (hwp : wp_Br_sing Post l0 l1 l2 l3 l4 h) : Met l y_Br_sing (Cond.code y_Br_sing prog_1_method_18_code 5 (Option.some Jvm.ClassFile.FieldType.int) :: lw_good) ({ frames := 1, cells := 0, slots := 0, locals := 22 }) (va_Pc [.ref (m_b G + l0), .int l1, .int l2, .int l3, .int l4] (Wd G h)) (va_Qi Post (Wd G) (mA G)) 0 0 (mA G) := by
  refine Met.ofW (cc := prog_1_method_18_code) (maxL := 5) (ret := (Option.some Jvm.ClassFile.FieldType.int)) (by decide +kernel) rfl ?_
  intro p e s m args below meth c s₁ B hml hv
  obtain ⟨rfl, hP, hz, hK, hSt⟩ := hv
  have hts := atoms_spec (ws := Cond.code y_Br_sing prog_1_method_18_code 5 (Option.some Jvm.ClassFile.FieldType.int) :: lw_good) B.pre
  have C0 : Cx G p s m ([.ref (m_b G + l0), .int l1, .int l2, .int l3, .int l4] : List Value).toArray c prog_1_method_18_code 5 "BassRealiser" := ⟨⟨B.exec, B.bytes, hml, findClass_of_methodNamed B.named, fun w h => hts w (List.mem_cons_of_mem _ h)⟩, hK, hSt, by rw [hz]; exact Nat.le_add_right _ _⟩
  have hl := lv_entry ([.ref (m_b G + l0), .int l1, .int l2, .int l3, .int l4]) (n := 5) (Nat.le_of_ble_eq_true rfl)
  rw [lg_entry_eq]
  exact t_Br_sing G C0 ⟨Nat.le_refl _, Nat.le_refl _, Nat.le_refl _, Nat.le_refl _⟩ B.returns B.notSynchronized _ _ _ _ _ _ hwp _ _ _ ⟨hP, hz, va_S.rf⟩ hl
def wp_Rm_sing (Post : Int32 → MH → Prop) (l0 : Nat) (l1 : Int32) (l2 : Int32) (l3 : Int32) (l4 : Int32) (h : MH) : Prop :=
  (∃ o : MV, gF h l0 6 0 = some o) ∧ ∀ h2 : MH, h2 = fset h l0 0 (.inl (0 : Int32) : MV) →
  (gC h2 l0 = some 6 ∧ wp_Rm_noChord (fun (r7 : Int32) (h7 : MH) =>
      (((¬ r7 = 0) →
          (Post (-1 : Int32) h7)) ∧
        ((r7 = 0) →
          (wp_Rm_in (fun (r19 : Int32) (h19 : MH) =>
              (((r19 = 0) →
                  (Post (-1 : Int32) h19)) ∧
                ((¬ r19 = 0) →
                  (wp_Rm_in (fun (r31 : Int32) (h31 : MH) =>
                      (((r31 = 0) →
                        (Post (-1 : Int32) h31)) ∧
                        ((¬ r31 = 0) →
                        (wp_Rm_in (fun (r44 : Int32) (h44 : MH) =>
                        (((¬ r44 = 0) →
                        (∃ x53 : Nat, gF h44 l0 6 12 = some (.inr (some x53)) ∧
                        (∃ (n60 : Nat) (f60 : Nat → Int32), gA h44 x53 0 = some (n60, f60) ∧ vp_in ((3 : Int32) * l1) n60 ∧ ∀ h60 : MH, h60 = mset h44 x53 (.inr (0, n60, .inl (upd f60 ((3 : Int32) * l1).toNatClampNeg l2))) →
                        (∃ x62 : Nat, gF h60 l0 6 12 = some (.inr (some x62)) ∧
                        (∃ (n71 : Nat) (f71 : Nat → Int32), gA h60 x62 0 = some (n71, f71) ∧ vp_in (((3 : Int32) * l1) + (1 : Int32)) n71 ∧ ∀ h71 : MH, h71 = mset h60 x62 (.inr (0, n71, .inl (upd f71 (((3 : Int32) * l1) + (1 : Int32)).toNatClampNeg l3))) →
                        (∃ x73 : Nat, gF h71 l0 6 12 = some (.inr (some x73)) ∧
                        (∃ (n83 : Nat) (f83 : Nat → Int32), gA h71 x73 0 = some (n83, f83) ∧ vp_in (((3 : Int32) * l1) + (2 : Int32)) n83 ∧ ∀ h83 : MH, h83 = mset h71 x73 (.inr (0, n83, .inl (upd f83 (((3 : Int32) * l1) + (2 : Int32)).toNatClampNeg l4))) →
                        (∃ x85 : Nat, gF h83 l0 6 13 = some (.inr (some x85)) ∧
                        (∃ (n90 : Nat) (f90 : Nat → Int32), gA h83 x85 1 = some (n90, f90) ∧ vp_in l1 n90 ∧ ∀ h90 : MH, h90 = mset h83 x85 (.inr (1, n90, .inl (upd f90 (l1).toNatClampNeg (vp_nar .boolean (1 : Int32))))) →
                        (Post (1 : Int32) h90)))))))))) ∧
                        ((r44 = 0) →
                        (Post (-1 : Int32) h44)))) ((l4).toInt64) (0 : Int64) (127 : Int64) h31)))) ((l3).toInt64) (0 : Int64) (127 : Int64) h19)))) ((l2).toInt64) (0 : Int64) (127 : Int64) h7)))) l0 l1 h2)
set_option maxRecDepth 100000 in
set_option maxHeartbeats 4000000 in
theorem t_Rm_sing {p : Program} {l : Launch} {e : Env} {R : Room} {s : State} {m : MethodId} {args : Array Value} {below : List Frame} {meth : Method} {c : Code} (G : mG) (C0 : Cx G p s m args c prog_8_method_46_code 5 "BassRealiserModel") (hR : 2 ≤ R.frames ∧ 46 ≤ R.locals ∧ 0 ≤ R.cells ∧ 0 ≤ R.slots) (hr : meth.sig.returnType = some .int) (hlk : meth.locks = false) {Post : Int32 → MH → Prop} (l0 : Nat) (l1 : Int32) (l2 : Int32) (l3 : Int32) (l4 : Int32) (h : MH) (hwp : wp_Rm_sing Post l0 l1 l2 l3 l4 h) : WG p l e R s m args below meth c 0 0 (MQ below (va_Qi Post (Wd G) (mA G)) args s 0 0 (mA G)) G 5 [(0, .ref (m_b G + l0)), (1, .int l1), (2, .int l2), (3, .int l3), (4, .int l4)] 0 [] h := by
  unfold wp_Rm_sing at hwp
  refine x_aload_n C0 0 d_Rm_sing_0 rfl rfl ?_
  refine x_iconst (v := 0) C0 d_Rm_sing_1 (by decide) ?_
  obtain ⟨⟨o2, e2⟩, hwp⟩ := hwp
  refine x_put (x := (.inl (0 : Int32) : MV)) C0 pk_Rm_1 e2 rfl rfl d_Rm_sing_2 ?_
  refine x_nh (fun h2 eh2 => ?_)
  replace hwp := hwp h2 eh2
  refine x_aload_n C0 0 d_Rm_sing_5 rfl rfl ?_
  refine x_iload_n C0 1 d_Rm_sing_6 rfl rfl ?_
  obtain ⟨g7, hwp⟩ := hwp
  refine x_callVi0 (k := l0) (As := [.int l1]) (st := []) C0 (c_Rm_noChord l G hwp) kw_3_191 mk_Rm_noChord vk_Rm_noChord rfl g7 rfl (Nat.le_of_ble_eq_true rfl) rfl rfl ⟨Nat.le_trans (by decide) hR.1, Nat.le_trans (by decide) hR.2.1⟩ ⟨Nat.zero_le _, Nat.zero_le _⟩ rfl d_Rm_sing_7 (fun r7 h7 hwp => ?_)
  refine x_if_ne (tgt := 50) C0 d_Rm_sing_10 (by decide) (fun c10 => ?_) (fun c10 => ?_)
  · replace hwp := hwp.1 c10
    refine x_iconst (v := -1) C0 d_Rm_sing_50 (by decide) ?_
    exact x_iret C0 hr hlk hwp d_Rm_sing_51
  · replace hwp := hwp.2 c10
    refine x_iload_n C0 2 d_Rm_sing_13 rfl rfl ?_
    refine x_i2l C0 d_Rm_sing_14 ?_
    refine x_lconst (v := 0) C0 d_Rm_sing_15 (by decide) ?_
    refine x_ldc2 (v := 127) C0 kw_3_218 d_Rm_sing_16 ?_
    refine x_callSi0 (As := [.long ((l2).toInt64), .long (0 : Int64), .long (127 : Int64)]) (st := []) C0 (c_Rm_in l G hwp) kw_3_173 mk_Rm_in kw_3_174 rfl (Nat.le_of_ble_eq_true rfl) rfl rfl ⟨Nat.le_trans (by decide) hR.1, Nat.le_trans (by decide) hR.2.1⟩ ⟨Nat.zero_le _, Nat.zero_le _⟩ rfl d_Rm_sing_19 (fun r19 h19 hwp => ?_)
    refine x_if_eq (tgt := 50) C0 d_Rm_sing_22 (by decide) (fun c22 => ?_) (fun c22 => ?_)
    · replace hwp := hwp.1 c22
      refine x_iconst (v := -1) C0 d_Rm_sing_50 (by decide) ?_
      exact x_iret C0 hr hlk hwp d_Rm_sing_51
    · replace hwp := hwp.2 c22
      refine x_iload_n C0 3 d_Rm_sing_25 rfl rfl ?_
      refine x_i2l C0 d_Rm_sing_26 ?_
      refine x_lconst (v := 0) C0 d_Rm_sing_27 (by decide) ?_
      refine x_ldc2 (v := 127) C0 kw_3_218 d_Rm_sing_28 ?_
      refine x_callSi0 (As := [.long ((l3).toInt64), .long (0 : Int64), .long (127 : Int64)]) (st := []) C0 (c_Rm_in l G hwp) kw_3_173 mk_Rm_in kw_3_174 rfl (Nat.le_of_ble_eq_true rfl) rfl rfl ⟨Nat.le_trans (by decide) hR.1, Nat.le_trans (by decide) hR.2.1⟩ ⟨Nat.zero_le _, Nat.zero_le _⟩ rfl d_Rm_sing_31 (fun r31 h31 hwp => ?_)
      refine x_if_eq (tgt := 50) C0 d_Rm_sing_34 (by decide) (fun c34 => ?_) (fun c34 => ?_)
      · replace hwp := hwp.1 c34
        refine x_iconst (v := -1) C0 d_Rm_sing_50 (by decide) ?_
        exact x_iret C0 hr hlk hwp d_Rm_sing_51
      · replace hwp := hwp.2 c34
        refine x_iload C0 4 d_Rm_sing_37 rfl ?_
        refine x_i2l C0 d_Rm_sing_39 ?_
        refine x_lconst (v := 0) C0 d_Rm_sing_40 (by decide) ?_
        refine x_ldc2 (v := 127) C0 kw_3_218 d_Rm_sing_41 ?_
        refine x_callSi0 (As := [.long ((l4).toInt64), .long (0 : Int64), .long (127 : Int64)]) (st := []) C0 (c_Rm_in l G hwp) kw_3_173 mk_Rm_in kw_3_174 rfl (Nat.le_of_ble_eq_true rfl) rfl rfl ⟨Nat.le_trans (by decide) hR.1, Nat.le_trans (by decide) hR.2.1⟩ ⟨Nat.zero_le _, Nat.zero_le _⟩ rfl d_Rm_sing_44 (fun r44 h44 hwp => ?_)
        refine x_if_ne (tgt := 52) C0 d_Rm_sing_47 (by decide) (fun c47 => ?_) (fun c47 => ?_)
        · replace hwp := hwp.1 c47
          refine x_aload_n C0 0 d_Rm_sing_52 rfl rfl ?_
          obtain ⟨x53, e53, hwp⟩ := hwp
          refine x_getR C0 fk_Rm_41 e53 d_Rm_sing_53 ?_
          refine x_iconst (v := 3) C0 d_Rm_sing_56 (by decide) ?_
          refine x_iload_n C0 1 d_Rm_sing_57 rfl rfl ?_
          refine x_imul C0 d_Rm_sing_58 ?_
          refine x_iload_n C0 2 d_Rm_sing_59 rfl rfl ?_
          obtain ⟨n60, f60, e60, i60, hwp⟩ := hwp
          refine x_iast C0 e60 i60 d_Rm_sing_60 ?_
          refine x_nh (fun h60 eh60 => ?_)
          replace hwp := hwp h60 eh60
          refine x_aload_n C0 0 d_Rm_sing_61 rfl rfl ?_
          obtain ⟨x62, e62, hwp⟩ := hwp
          refine x_getR C0 fk_Rm_41 e62 d_Rm_sing_62 ?_
          refine x_iconst (v := 3) C0 d_Rm_sing_65 (by decide) ?_
          refine x_iload_n C0 1 d_Rm_sing_66 rfl rfl ?_
          refine x_imul C0 d_Rm_sing_67 ?_
          refine x_iconst (v := 1) C0 d_Rm_sing_68 (by decide) ?_
          refine x_iadd C0 d_Rm_sing_69 ?_
          refine x_iload_n C0 3 d_Rm_sing_70 rfl rfl ?_
          obtain ⟨n71, f71, e71, i71, hwp⟩ := hwp
          refine x_iast C0 e71 i71 d_Rm_sing_71 ?_
          refine x_nh (fun h71 eh71 => ?_)
          replace hwp := hwp h71 eh71
          refine x_aload_n C0 0 d_Rm_sing_72 rfl rfl ?_
          obtain ⟨x73, e73, hwp⟩ := hwp
          refine x_getR C0 fk_Rm_41 e73 d_Rm_sing_73 ?_
          refine x_iconst (v := 3) C0 d_Rm_sing_76 (by decide) ?_
          refine x_iload_n C0 1 d_Rm_sing_77 rfl rfl ?_
          refine x_imul C0 d_Rm_sing_78 ?_
          refine x_iconst (v := 2) C0 d_Rm_sing_79 (by decide) ?_
          refine x_iadd C0 d_Rm_sing_80 ?_
          refine x_iload C0 4 d_Rm_sing_81 rfl ?_
          obtain ⟨n83, f83, e83, i83, hwp⟩ := hwp
          refine x_iast C0 e83 i83 d_Rm_sing_83 ?_
          refine x_nh (fun h83 eh83 => ?_)
          replace hwp := hwp h83 eh83
          refine x_aload_n C0 0 d_Rm_sing_84 rfl rfl ?_
          obtain ⟨x85, e85, hwp⟩ := hwp
          refine x_getR C0 fk_Rm_44 e85 d_Rm_sing_85 ?_
          refine x_iload_n C0 1 d_Rm_sing_88 rfl rfl ?_
          refine x_iconst (v := 1) C0 d_Rm_sing_89 (by decide) ?_
          obtain ⟨n90, f90, e90, i90, hwp⟩ := hwp
          refine x_zast C0 e90 i90 d_Rm_sing_90 ?_
          refine x_nh (fun h90 eh90 => ?_)
          replace hwp := hwp h90 eh90
          refine x_iconst (v := 1) C0 d_Rm_sing_91 (by decide) ?_
          exact x_iret C0 hr hlk hwp d_Rm_sing_92
        · replace hwp := hwp.2 c47
          refine x_iconst (v := -1) C0 d_Rm_sing_50 (by decide) ?_
          exact x_iret C0 hr hlk hwp d_Rm_sing_51
set_option maxRecDepth 100000 in
set_option maxHeartbeats 4000000 in
theorem c_Rm_sing (l : Launch) (G : mG) {Post : Int32 → MH → Prop} {l0 : Nat} {l1 : Int32} {l2 : Int32} {l3 : Int32} {l4 : Int32} {h : MH} (hwp : wp_Rm_sing Post l0 l1 l2 l3 l4 h) : Met l y_Rm_sing (Cond.code y_Rm_sing prog_8_method_46_code 5 (Option.some Jvm.ClassFile.FieldType.int) :: lw_good) ({ frames := 2, cells := 0, slots := 0, locals := 46 }) (va_Pc [.ref (m_b G + l0), .int l1, .int l2, .int l3, .int l4] (Wd G h)) (va_Qi Post (Wd G) (mA G)) 0 0 (mA G) := by
  refine Met.ofW (cc := prog_8_method_46_code) (maxL := 5) (ret := (Option.some Jvm.ClassFile.FieldType.int)) (by decide +kernel) rfl ?_
  intro p e s m args below meth c s₁ B hml hv
  obtain ⟨rfl, hP, hz, hK, hSt⟩ := hv
  have hts := atoms_spec (ws := Cond.code y_Rm_sing prog_8_method_46_code 5 (Option.some Jvm.ClassFile.FieldType.int) :: lw_good) B.pre
  have C0 : Cx G p s m ([.ref (m_b G + l0), .int l1, .int l2, .int l3, .int l4] : List Value).toArray c prog_8_method_46_code 5 "BassRealiserModel" := ⟨⟨B.exec, B.bytes, hml, findClass_of_methodNamed B.named, fun w h => hts w (List.mem_cons_of_mem _ h)⟩, hK, hSt, by rw [hz]; exact Nat.le_add_right _ _⟩
  have hl := lv_entry ([.ref (m_b G + l0), .int l1, .int l2, .int l3, .int l4]) (n := 5) (Nat.le_of_ble_eq_true rfl)
  rw [lg_entry_eq]
  exact t_Rm_sing G C0 ⟨Nat.le_refl _, Nat.le_refl _, Nat.le_refl _, Nat.le_refl _⟩ B.returns B.notSynchronized _ _ _ _ _ _ hwp _ _ _ ⟨hP, hz, va_S.rf⟩ hl
def wp_Br_moveTo (Post : Nat → MH → Prop) (l0 : Nat) (l1 : Int32) (h : MH) : Prop :=
  ∃ x1 : Nat, gF h l0 5 3 = some (.inr (some x1)) ∧
  (∃ x5 : Nat, gF h l0 5 1 = some (.inr (some x5)) ∧
    (∃ (n11 : Nat) (f11 : Nat → Option Nat) (q11 : Nat), gR h x5 3 = some (n11, f11) ∧ vp_in (l1 - (1 : Int32)) n11 ∧ f11 (l1 - (1 : Int32)).toNatClampNeg = some q11 ∧
      (∃ x13 : Nat, gF h l0 5 1 = some (.inr (some x13)) ∧
        (∃ (n19 : Nat) (f19 : Nat → Option Nat) (q19 : Nat), gR h x13 3 = some (n19, f19) ∧ vp_in (l1 - (1 : Int32)) n19 ∧ f19 (l1 - (1 : Int32)).toNatClampNeg = some q19 ∧
          (∃ x20 : Int32, gF h q19 0 6 = some (.inl x20) ∧
            (gC h x1 = some 2 ∧ wp_Mv_leave (fun (h23 : MH) =>
                (∃ x27 : Nat, gF h23 l0 5 3 = some (.inr (some x27)) ∧
                  (∃ x31 : Nat, gF h23 l0 5 1 = some (.inr (some x31)) ∧
                    (∃ (n35 : Nat) (f35 : Nat → Option Nat) (q35 : Nat), gR h23 x31 3 = some (n35, f35) ∧ vp_in l1 n35 ∧ f35 (l1).toNatClampNeg = some q35 ∧
                      (∃ x37 : Nat, gF h23 l0 5 1 = some (.inr (some x37)) ∧
                        (∃ (n41 : Nat) (f41 : Nat → Option Nat) (q41 : Nat), gR h23 x37 3 = some (n41, f41) ∧ vp_in l1 n41 ∧ f41 (l1).toNatClampNeg = some q41 ∧
                        (∃ x42 : Int32, gF h23 q41 0 6 = some (.inl x42) ∧
                        (gC h23 x27 = some 2 ∧ wp_Mv_arrive (fun (h45 : MH) =>
                        (∃ x49 : Nat, gF h45 l0 5 3 = some (.inr (some x49)) ∧
                        (Post x49 h45))) x27 q35 x42 h23)))))))) x1 q11 x20 h))))))
set_option maxRecDepth 100000 in
set_option maxHeartbeats 4000000 in
theorem t_Br_moveTo {p : Program} {l : Launch} {e : Env} {R : Room} {s : State} {m : MethodId} {args : Array Value} {below : List Frame} {meth : Method} {c : Code} (G : mG) (C0 : Cx G p s m args c prog_1_method_23_code 2 "BassRealiser") (hR : 2 ≤ R.frames ∧ 44 ≤ R.locals ∧ 0 ≤ R.cells ∧ 0 ≤ R.slots) (hr : meth.sig.returnType = some (.object "BassRealiser$Move")) (hlk : meth.locks = false) {Post : Nat → MH → Prop} (l0 : Nat) (l1 : Int32) (h : MH) (hwp : wp_Br_moveTo Post l0 l1 h) : WG p l e R s m args below meth c 0 0 (MQ below (va_Qr (fun u : Nat × MH => Post u.1 u.2) (fun u a t => a = m_b G + u.1 ∧ Wd G u.2 t) (mA G)) args s 0 0 (mA G)) G 2 [(0, .ref (m_b G + l0)), (1, .int l1)] 0 [] h := by
  unfold wp_Br_moveTo at hwp
  refine x_aload_n C0 0 d_Br_moveTo_0 rfl rfl ?_
  obtain ⟨x1, e1, hwp⟩ := hwp
  refine x_getR C0 fk_Br_29 e1 d_Br_moveTo_1 ?_
  refine x_aload_n C0 0 d_Br_moveTo_4 rfl rfl ?_
  obtain ⟨x5, e5, hwp⟩ := hwp
  refine x_getR C0 fk_Br_20 e5 d_Br_moveTo_5 ?_
  refine x_iload_n C0 1 d_Br_moveTo_8 rfl rfl ?_
  refine x_iconst (v := 1) C0 d_Br_moveTo_9 (by decide) ?_
  refine x_isub C0 d_Br_moveTo_10 ?_
  obtain ⟨n11, f11, q11, e11, i11, g11, hwp⟩ := hwp
  refine x_aald (t := 3) C0 e11 rfl i11 g11 d_Br_moveTo_11 ?_
  refine x_aload_n C0 0 d_Br_moveTo_12 rfl rfl ?_
  obtain ⟨x13, e13, hwp⟩ := hwp
  refine x_getR C0 fk_Br_20 e13 d_Br_moveTo_13 ?_
  refine x_iload_n C0 1 d_Br_moveTo_16 rfl rfl ?_
  refine x_iconst (v := 1) C0 d_Br_moveTo_17 (by decide) ?_
  refine x_isub C0 d_Br_moveTo_18 ?_
  obtain ⟨n19, f19, q19, e19, i19, g19, hwp⟩ := hwp
  refine x_aald (t := 3) C0 e19 rfl i19 g19 d_Br_moveTo_19 ?_
  obtain ⟨x20, e20, hwp⟩ := hwp
  refine x_getI C0 fk_Br_155 e20 d_Br_moveTo_20 ?_
  obtain ⟨g23, hwp⟩ := hwp
  refine x_callVv0 (k := x1) (As := [.ref (m_b G + q11), .int x20]) (st := []) C0 (c_Mv_leave l G hwp) kw_3_56 mk_Mv_leave vk_Mv_leave rfl g23 rfl (Nat.le_of_ble_eq_true rfl) rfl rfl ⟨Nat.le_trans (by decide) hR.1, Nat.le_trans (by decide) hR.2.1⟩ ⟨Nat.zero_le _, Nat.zero_le _⟩ rfl d_Br_moveTo_23 (fun h23 hwp => ?_)
  refine x_aload_n C0 0 d_Br_moveTo_26 rfl rfl ?_
  obtain ⟨x27, e27, hwp⟩ := hwp
  refine x_getR C0 fk_Br_29 e27 d_Br_moveTo_27 ?_
  refine x_aload_n C0 0 d_Br_moveTo_30 rfl rfl ?_
  obtain ⟨x31, e31, hwp⟩ := hwp
  refine x_getR C0 fk_Br_20 e31 d_Br_moveTo_31 ?_
  refine x_iload_n C0 1 d_Br_moveTo_34 rfl rfl ?_
  obtain ⟨n35, f35, q35, e35, i35, g35, hwp⟩ := hwp
  refine x_aald (t := 3) C0 e35 rfl i35 g35 d_Br_moveTo_35 ?_
  refine x_aload_n C0 0 d_Br_moveTo_36 rfl rfl ?_
  obtain ⟨x37, e37, hwp⟩ := hwp
  refine x_getR C0 fk_Br_20 e37 d_Br_moveTo_37 ?_
  refine x_iload_n C0 1 d_Br_moveTo_40 rfl rfl ?_
  obtain ⟨n41, f41, q41, e41, i41, g41, hwp⟩ := hwp
  refine x_aald (t := 3) C0 e41 rfl i41 g41 d_Br_moveTo_41 ?_
  obtain ⟨x42, e42, hwp⟩ := hwp
  refine x_getI C0 fk_Br_155 e42 d_Br_moveTo_42 ?_
  obtain ⟨g45, hwp⟩ := hwp
  refine x_callVv0 (k := x27) (As := [.ref (m_b G + q35), .int x42]) (st := []) C0 (c_Mv_arrive l G hwp) kw_3_57 mk_Mv_arrive vk_Mv_arrive rfl g45 rfl (Nat.le_of_ble_eq_true rfl) rfl rfl ⟨Nat.le_trans (by decide) hR.1, Nat.le_trans (by decide) hR.2.1⟩ ⟨Nat.zero_le _, Nat.zero_le _⟩ rfl d_Br_moveTo_45 (fun h45 hwp => ?_)
  refine x_aload_n C0 0 d_Br_moveTo_48 rfl rfl ?_
  obtain ⟨x49, e49, hwp⟩ := hwp
  refine x_getR C0 fk_Br_29 e49 d_Br_moveTo_49 ?_
  exact x_aret C0 hr (by first | exact Or.inl ⟨_, rfl⟩ | exact Or.inr ⟨_, rfl⟩) hlk hwp d_Br_moveTo_52
set_option maxRecDepth 100000 in
set_option maxHeartbeats 4000000 in
theorem c_Br_moveTo (l : Launch) (G : mG) {Post : Nat → MH → Prop} {l0 : Nat} {l1 : Int32} {h : MH} (hwp : wp_Br_moveTo Post l0 l1 h) : Met l y_Br_moveTo (Cond.code y_Br_moveTo prog_1_method_23_code 2 (Option.some (Jvm.ClassFile.FieldType.object "BassRealiser$Move")) :: lw_good) ({ frames := 2, cells := 0, slots := 0, locals := 44 }) (va_Pc [.ref (m_b G + l0), .int l1] (Wd G h)) (va_Qr (fun u : Nat × MH => Post u.1 u.2) (fun u a t => a = m_b G + u.1 ∧ Wd G u.2 t) (mA G)) 0 0 (mA G) := by
  refine Met.ofW (cc := prog_1_method_23_code) (maxL := 2) (ret := (Option.some (Jvm.ClassFile.FieldType.object "BassRealiser$Move"))) (by decide +kernel) rfl ?_
  intro p e s m args below meth c s₁ B hml hv
  obtain ⟨rfl, hP, hz, hK, hSt⟩ := hv
  have hts := atoms_spec (ws := Cond.code y_Br_moveTo prog_1_method_23_code 2 (Option.some (Jvm.ClassFile.FieldType.object "BassRealiser$Move")) :: lw_good) B.pre
  have C0 : Cx G p s m ([.ref (m_b G + l0), .int l1] : List Value).toArray c prog_1_method_23_code 2 "BassRealiser" := ⟨⟨B.exec, B.bytes, hml, findClass_of_methodNamed B.named, fun w h => hts w (List.mem_cons_of_mem _ h)⟩, hK, hSt, by rw [hz]; exact Nat.le_add_right _ _⟩
  have hl := lv_entry ([.ref (m_b G + l0), .int l1]) (n := 2) (Nat.le_of_ble_eq_true rfl)
  rw [lg_entry_eq]
  exact t_Br_moveTo G C0 ⟨Nat.le_refl _, Nat.le_refl _, Nat.le_refl _, Nat.le_refl _⟩ B.returns B.notSynchronized _ _ _ hwp _ _ _ ⟨hP, hz, va_S.rf⟩ hl
def wp_Br_faultAt (Post : Int32 → MH → Prop) (l0 : Nat) (l1 : Int32) (h : MH) : Prop :=
  ∃ x1 : Nat, gF h l0 5 1 = some (.inr (some x1)) ∧
  (∃ (n5 : Nat) (f5 : Nat → Option Nat) (q5 : Nat), gR h x1 3 = some (n5, f5) ∧ vp_in l1 n5 ∧ f5 (l1).toNatClampNeg = some q5 ∧
    (∃ x8 : Nat, gF h l0 5 2 = some (.inr (some x8)) ∧
      (∃ x13 : Int32, gF h q5 0 6 = some (.inl x13) ∧
        (gC h x8 = some 3 ∧ wp_Ru_ofVoicing (fun (r16 : Int32) (h16 : MH) =>
            (((r16 = 0) →
                (((¬ l1 = 0) →
                    (∃ x44 : Nat, gF h16 l0 5 1 = some (.inr (some x44)) ∧
                      (∃ (n50 : Nat) (f50 : Nat → Option Nat) (q50 : Nat), gR h16 x44 3 = some (n50, f50) ∧ vp_in (l1 - (1 : Int32)) n50 ∧ f50 (l1 - (1 : Int32)).toNatClampNeg = some q50 ∧
                        (∃ x51 : Int32, gF h16 q50 0 6 = some (.inl x51) ∧
                        (((¬ x51 = (-1 : Int32)) →
                        (gC h16 l0 = some 5 ∧ wp_Br_moveTo (fun (r62 : Nat) (h62 : MH) =>
                        (∃ x66 : Nat, gF h62 l0 5 2 = some (.inr (some x66)) ∧
                        (∃ x69 : Int32, gF h62 x66 3 3 = some (.inl x69) ∧
                        (gC h62 r62 = some 2 ∧ wp_Mv_rule (fun (r72 : Int32) (h72 : MH) =>
                        (Post r72 h72)) r62 x69 h62)))) l0 l1 h16)) ∧
                        ((x51 = (-1 : Int32)) →
                        (Post (0 : Int32) h16))))))) ∧
                  ((l1 = 0) →
                    (∃ x31 : Nat, gF h16 l0 5 2 = some (.inr (some x31)) ∧
                      (∃ x36 : Int32, gF h16 q5 0 6 = some (.inl x36) ∧
                        (gC h16 x31 = some 3 ∧ wp_Ru_ofStart (fun (r39 : Int32) (h39 : MH) =>
                        (Post r39 h39)) x31 q5 x36 h16)))))) ∧
              ((¬ r16 = 0) →
                (Post r16 h16)))) x8 q5 x13 h))))
set_option maxRecDepth 100000 in
set_option maxHeartbeats 4000000 in
theorem t_Br_faultAt {p : Program} {l : Launch} {e : Env} {R : Room} {s : State} {m : MethodId} {args : Array Value} {below : List Frame} {meth : Method} {c : Code} (G : mG) (C0 : Cx G p s m args c prog_1_method_22_code 4 "BassRealiser") (hR : 3 ≤ R.frames ∧ 74 ≤ R.locals ∧ 0 ≤ R.cells ∧ 0 ≤ R.slots) (hr : meth.sig.returnType = some .int) (hlk : meth.locks = false) {Post : Int32 → MH → Prop} (l0 : Nat) (l1 : Int32) (h : MH) (hwp : wp_Br_faultAt Post l0 l1 h) : WG p l e R s m args below meth c 0 0 (MQ below (va_Qi Post (Wd G) (mA G)) args s 0 0 (mA G)) G 4 [(0, .ref (m_b G + l0)), (1, .int l1)] 0 [] h := by
  unfold wp_Br_faultAt at hwp
  refine x_aload_n C0 0 d_Br_faultAt_0 rfl rfl ?_
  obtain ⟨x1, e1, hwp⟩ := hwp
  refine x_getR C0 fk_Br_20 e1 d_Br_faultAt_1 ?_
  refine x_iload_n C0 1 d_Br_faultAt_4 rfl rfl ?_
  obtain ⟨n5, f5, q5, e5, i5, g5, hwp⟩ := hwp
  refine x_aald (t := 3) C0 e5 rfl i5 g5 d_Br_faultAt_5 ?_
  refine x_astore_n C0 d_Br_faultAt_6 rfl (by decide) (lv' := [(2, .ref (m_b G + q5)), (0, .ref (m_b G + l0)), (1, .int l1)]) rfl ?_
  refine x_aload_n C0 1 d_Br_faultAt_7 rfl rfl ?_
  obtain ⟨x8, e8, hwp⟩ := hwp
  refine x_getR C0 fk_Br_25 e8 d_Br_faultAt_8 ?_
  refine x_aload_n C0 0 d_Br_faultAt_11 rfl rfl ?_
  refine x_aload_n C0 0 d_Br_faultAt_12 rfl rfl ?_
  obtain ⟨x13, e13, hwp⟩ := hwp
  refine x_getI C0 fk_Br_155 e13 d_Br_faultAt_13 ?_
  obtain ⟨g16, hwp⟩ := hwp
  refine x_callVi0 (k := x8) (As := [.ref (m_b G + q5), .int x13]) (st := []) C0 (c_Ru_ofVoicing l G hwp) kw_3_50 mk_Ru_ofVoicing vk_Ru_ofVoicing rfl g16 rfl (Nat.le_of_ble_eq_true rfl) rfl rfl ⟨Nat.le_trans (by decide) hR.1, Nat.le_trans (by decide) hR.2.1⟩ ⟨Nat.zero_le _, Nat.zero_le _⟩ rfl d_Br_faultAt_16 (fun r16 h16 hwp => ?_)
  refine x_istore_n C0 d_Br_faultAt_19 rfl (by decide) (lv' := [(3, .int r16), (2, .ref (m_b G + q5)), (0, .ref (m_b G + l0)), (1, .int l1)]) rfl ?_
  refine x_iload_n C0 0 d_Br_faultAt_20 rfl rfl ?_
  refine x_if_eq (tgt := 26) C0 d_Br_faultAt_21 (by decide) (fun c21 => ?_) (fun c21 => ?_)
  · replace hwp := hwp.1 c21
    refine x_iload_n C0 3 d_Br_faultAt_26 rfl rfl ?_
    refine x_if_ne (tgt := 43) C0 d_Br_faultAt_27 (by decide) (fun c27 => ?_) (fun c27 => ?_)
    · replace hwp := hwp.1 c27
      refine x_aload_n C0 2 d_Br_faultAt_43 rfl rfl ?_
      obtain ⟨x44, e44, hwp⟩ := hwp
      refine x_getR C0 fk_Br_20 e44 d_Br_faultAt_44 ?_
      refine x_iload_n C0 3 d_Br_faultAt_47 rfl rfl ?_
      refine x_iconst (v := 1) C0 d_Br_faultAt_48 (by decide) ?_
      refine x_isub C0 d_Br_faultAt_49 ?_
      obtain ⟨n50, f50, q50, e50, i50, g50, hwp⟩ := hwp
      refine x_aald (t := 3) C0 e50 rfl i50 g50 d_Br_faultAt_50 ?_
      obtain ⟨x51, e51, hwp⟩ := hwp
      refine x_getI C0 fk_Br_155 e51 d_Br_faultAt_51 ?_
      refine x_iconst (v := -1) C0 d_Br_faultAt_54 (by decide) ?_
      refine x_icmp_ne (tgt := 60) C0 d_Br_faultAt_55 (by decide) (fun c55 => ?_) (fun c55 => ?_)
      · replace hwp := hwp.1 c55
        refine x_aload_n C0 2 d_Br_faultAt_60 rfl rfl ?_
        refine x_iload_n C0 3 d_Br_faultAt_61 rfl rfl ?_
        obtain ⟨g62, hwp⟩ := hwp
        refine x_callVr0 (k := l0) (As := [.int l1]) (st := []) C0 (c_Br_moveTo l G hwp) kw_3_52 mk_Br_moveTo vk_Br_moveTo rfl g62 rfl (Nat.le_of_ble_eq_true rfl) rfl rfl ⟨Nat.le_trans (by decide) hR.1, Nat.le_trans (by decide) hR.2.1⟩ ⟨Nat.zero_le _, Nat.zero_le _⟩ rfl d_Br_faultAt_62 (fun r62 h62 hwp => ?_)
        refine x_aload_n C0 2 d_Br_faultAt_65 rfl rfl ?_
        obtain ⟨x66, e66, hwp⟩ := hwp
        refine x_getR C0 fk_Br_25 e66 d_Br_faultAt_66 ?_
        obtain ⟨x69, e69, hwp⟩ := hwp
        refine x_getI C0 fk_Br_107 e69 d_Br_faultAt_69 ?_
        obtain ⟨g72, hwp⟩ := hwp
        refine x_callVi0 (k := r62) (As := [.int x69]) (st := []) C0 (c_Mv_rule l G hwp) kw_3_58 mk_Mv_rule vk_Mv_rule rfl g72 rfl (Nat.le_of_ble_eq_true rfl) rfl rfl ⟨Nat.le_trans (by decide) hR.1, Nat.le_trans (by decide) hR.2.1⟩ ⟨Nat.zero_le _, Nat.zero_le _⟩ rfl d_Br_faultAt_72 (fun r72 h72 hwp => ?_)
        exact x_iret C0 hr hlk hwp d_Br_faultAt_75
      · replace hwp := hwp.2 c55
        refine x_iconst (v := 0) C0 d_Br_faultAt_58 (by decide) ?_
        exact x_iret C0 hr hlk hwp d_Br_faultAt_59
    · replace hwp := hwp.2 c27
      refine x_aload_n C0 2 d_Br_faultAt_30 rfl rfl ?_
      obtain ⟨x31, e31, hwp⟩ := hwp
      refine x_getR C0 fk_Br_25 e31 d_Br_faultAt_31 ?_
      refine x_aload_n C0 1 d_Br_faultAt_34 rfl rfl ?_
      refine x_aload_n C0 1 d_Br_faultAt_35 rfl rfl ?_
      obtain ⟨x36, e36, hwp⟩ := hwp
      refine x_getI C0 fk_Br_155 e36 d_Br_faultAt_36 ?_
      obtain ⟨g39, hwp⟩ := hwp
      refine x_callVi0 (k := x31) (As := [.ref (m_b G + q5), .int x36]) (st := []) C0 (c_Ru_ofStart l G hwp) kw_3_51 mk_Ru_ofStart vk_Ru_ofStart rfl g39 rfl (Nat.le_of_ble_eq_true rfl) rfl rfl ⟨Nat.le_trans (by decide) hR.1, Nat.le_trans (by decide) hR.2.1⟩ ⟨Nat.zero_le _, Nat.zero_le _⟩ rfl d_Br_faultAt_39 (fun r39 h39 hwp => ?_)
      exact x_iret C0 hr hlk hwp d_Br_faultAt_42
  · replace hwp := hwp.2 c21
    refine x_iload_n C0 0 d_Br_faultAt_24 rfl rfl ?_
    exact x_iret C0 hr hlk hwp d_Br_faultAt_25
set_option maxRecDepth 100000 in
set_option maxHeartbeats 4000000 in
theorem c_Br_faultAt (l : Launch) (G : mG) {Post : Int32 → MH → Prop} {l0 : Nat} {l1 : Int32} {h : MH} (hwp : wp_Br_faultAt Post l0 l1 h) : Met l y_Br_faultAt (Cond.code y_Br_faultAt prog_1_method_22_code 4 (Option.some Jvm.ClassFile.FieldType.int) :: lw_good) ({ frames := 3, cells := 0, slots := 0, locals := 74 }) (va_Pc [.ref (m_b G + l0), .int l1] (Wd G h)) (va_Qi Post (Wd G) (mA G)) 0 0 (mA G) := by
  refine Met.ofW (cc := prog_1_method_22_code) (maxL := 4) (ret := (Option.some Jvm.ClassFile.FieldType.int)) (by decide +kernel) rfl ?_
  intro p e s m args below meth c s₁ B hml hv
  obtain ⟨rfl, hP, hz, hK, hSt⟩ := hv
  have hts := atoms_spec (ws := Cond.code y_Br_faultAt prog_1_method_22_code 4 (Option.some Jvm.ClassFile.FieldType.int) :: lw_good) B.pre
  have C0 : Cx G p s m ([.ref (m_b G + l0), .int l1] : List Value).toArray c prog_1_method_22_code 4 "BassRealiser" := ⟨⟨B.exec, B.bytes, hml, findClass_of_methodNamed B.named, fun w h => hts w (List.mem_cons_of_mem _ h)⟩, hK, hSt, by rw [hz]; exact Nat.le_add_right _ _⟩
  have hl := lv_entry ([.ref (m_b G + l0), .int l1]) (n := 4) (Nat.le_of_ble_eq_true rfl)
  rw [lg_entry_eq]
  exact t_Br_faultAt G C0 ⟨Nat.le_refl _, Nat.le_refl _, Nat.le_refl _, Nat.le_refl _⟩ B.returns B.notSynchronized _ _ _ hwp _ _ _ ⟨hP, hz, va_S.rf⟩ hl
def wp_Br_fault (Post : Int32 → MH → Prop) (l0 : Nat) (l1 : Int32) (h : MH) : Prop :=
  gC h l0 = some 5 ∧ wp_Br_hasChord (fun (r2 : Int32) (h2 : MH) =>
    (((¬ r2 = 0) →
        (∃ x11 : Nat, gF h2 l0 5 1 = some (.inr (some x11)) ∧
          (∃ (n15 : Nat) (f15 : Nat → Option Nat) (q15 : Nat), gR h2 x11 3 = some (n15, f15) ∧ vp_in l1 n15 ∧ f15 (l1).toNatClampNeg = some q15 ∧
            (∃ x16 : Int32, gF h2 q15 0 6 = some (.inl x16) ∧
              (((¬ x16 = (-1 : Int32)) →
                  (gC h2 l0 = some 5 ∧ wp_Br_faultAt (fun (r30 : Int32) (h30 : MH) =>
                      (Post r30 h30)) l0 l1 h2)) ∧
                ((x16 = (-1 : Int32)) →
                  (Post (-2 : Int32) h2))))))) ∧
      ((r2 = 0) →
        (Post (-1 : Int32) h2)))) l0 l1 h
set_option maxRecDepth 100000 in
set_option maxHeartbeats 4000000 in
theorem t_Br_fault {p : Program} {l : Launch} {e : Env} {R : Room} {s : State} {m : MethodId} {args : Array Value} {below : List Frame} {meth : Method} {c : Code} (G : mG) (C0 : Cx G p s m args c prog_1_method_19_code 2 "BassRealiser") (hR : 4 ≤ R.frames ∧ 97 ≤ R.locals ∧ 0 ≤ R.cells ∧ 0 ≤ R.slots) (hr : meth.sig.returnType = some .int) (hlk : meth.locks = false) {Post : Int32 → MH → Prop} (l0 : Nat) (l1 : Int32) (h : MH) (hwp : wp_Br_fault Post l0 l1 h) : WG p l e R s m args below meth c 0 0 (MQ below (va_Qi Post (Wd G) (mA G)) args s 0 0 (mA G)) G 2 [(0, .ref (m_b G + l0)), (1, .int l1)] 0 [] h := by
  unfold wp_Br_fault at hwp
  refine x_aload_n C0 0 d_Br_fault_0 rfl rfl ?_
  refine x_iload_n C0 1 d_Br_fault_1 rfl rfl ?_
  obtain ⟨g2, hwp⟩ := hwp
  refine x_callVi0 (k := l0) (As := [.int l1]) (st := []) C0 (c_Br_hasChord l G hwp) kw_2_64 mk_Br_hasChord vk_Br_hasChord rfl g2 rfl (Nat.le_of_ble_eq_true rfl) rfl rfl ⟨Nat.le_trans (by decide) hR.1, Nat.le_trans (by decide) hR.2.1⟩ ⟨Nat.zero_le _, Nat.zero_le _⟩ rfl d_Br_fault_2 (fun r2 h2 hwp => ?_)
  refine x_if_ne (tgt := 10) C0 d_Br_fault_5 (by decide) (fun c5 => ?_) (fun c5 => ?_)
  · replace hwp := hwp.1 c5
    refine x_aload_n C0 0 d_Br_fault_10 rfl rfl ?_
    obtain ⟨x11, e11, hwp⟩ := hwp
    refine x_getR C0 fk_Br_20 e11 d_Br_fault_11 ?_
    refine x_iload_n C0 1 d_Br_fault_14 rfl rfl ?_
    obtain ⟨n15, f15, q15, e15, i15, g15, hwp⟩ := hwp
    refine x_aald (t := 3) C0 e15 rfl i15 g15 d_Br_fault_15 ?_
    obtain ⟨x16, e16, hwp⟩ := hwp
    refine x_getI C0 fk_Br_155 e16 d_Br_fault_16 ?_
    refine x_iconst (v := -1) C0 d_Br_fault_19 (by decide) ?_
    refine x_icmp_ne (tgt := 28) C0 d_Br_fault_20 (by decide) (fun c20 => ?_) (fun c20 => ?_)
    · replace hwp := hwp.1 c20
      refine x_aload_n C0 0 d_Br_fault_28 rfl rfl ?_
      refine x_iload_n C0 1 d_Br_fault_29 rfl rfl ?_
      obtain ⟨g30, hwp⟩ := hwp
      refine x_callVi0 (k := l0) (As := [.int l1]) (st := []) C0 (c_Br_faultAt l G hwp) kw_3_46 mk_Br_faultAt vk_Br_faultAt rfl g30 rfl (Nat.le_of_ble_eq_true rfl) rfl rfl ⟨Nat.le_trans (by decide) hR.1, Nat.le_trans (by decide) hR.2.1⟩ ⟨Nat.zero_le _, Nat.zero_le _⟩ rfl d_Br_fault_30 (fun r30 h30 hwp => ?_)
      exact x_iret C0 hr hlk hwp d_Br_fault_33
    · replace hwp := hwp.2 c20
      refine x_bipush (v := -2) C0 d_Br_fault_23 (by decide) ?_
      refine x_goto (tgt := 33) C0 d_Br_fault_25 (by decide) ?_
      exact x_iret C0 hr hlk hwp d_Br_fault_33
  · replace hwp := hwp.2 c5
    refine x_iconst (v := -1) C0 d_Br_fault_8 (by decide) ?_
    exact x_iret C0 hr hlk hwp d_Br_fault_9
set_option maxRecDepth 100000 in
set_option maxHeartbeats 4000000 in
theorem c_Br_fault (l : Launch) (G : mG) {Post : Int32 → MH → Prop} {l0 : Nat} {l1 : Int32} {h : MH} (hwp : wp_Br_fault Post l0 l1 h) : Met l y_Br_fault (Cond.code y_Br_fault prog_1_method_19_code 2 (Option.some Jvm.ClassFile.FieldType.int) :: lw_good) ({ frames := 4, cells := 0, slots := 0, locals := 97 }) (va_Pc [.ref (m_b G + l0), .int l1] (Wd G h)) (va_Qi Post (Wd G) (mA G)) 0 0 (mA G) := by
  refine Met.ofW (cc := prog_1_method_19_code) (maxL := 2) (ret := (Option.some Jvm.ClassFile.FieldType.int)) (by decide +kernel) rfl ?_
  intro p e s m args below meth c s₁ B hml hv
  obtain ⟨rfl, hP, hz, hK, hSt⟩ := hv
  have hts := atoms_spec (ws := Cond.code y_Br_fault prog_1_method_19_code 2 (Option.some Jvm.ClassFile.FieldType.int) :: lw_good) B.pre
  have C0 : Cx G p s m ([.ref (m_b G + l0), .int l1] : List Value).toArray c prog_1_method_19_code 2 "BassRealiser" := ⟨⟨B.exec, B.bytes, hml, findClass_of_methodNamed B.named, fun w h => hts w (List.mem_cons_of_mem _ h)⟩, hK, hSt, by rw [hz]; exact Nat.le_add_right _ _⟩
  have hl := lv_entry ([.ref (m_b G + l0), .int l1]) (n := 2) (Nat.le_of_ble_eq_true rfl)
  rw [lg_entry_eq]
  exact t_Br_fault G C0 ⟨Nat.le_refl _, Nat.le_refl _, Nat.le_refl _, Nat.le_refl _⟩ B.returns B.notSynchronized _ _ _ hwp _ _ _ ⟨hP, hz, va_S.rf⟩ hl
