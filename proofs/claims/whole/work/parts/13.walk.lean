theorem d_Rm_figure_0 : decode prog_8_method_8_code 0 = .ok (.aload_n 0, 1) := by decide +kernel
theorem d_Rm_figure_1 : decode prog_8_method_8_code 1 = .ok (.iconst 0, 1) := by decide +kernel
theorem d_Rm_figure_2 : decode prog_8_method_8_code 2 = .ok (.putfield 1, 3) := by decide +kernel
theorem d_Rm_figure_5 : decode prog_8_method_8_code 5 = .ok (.aload_n 0, 1) := by decide +kernel
theorem d_Rm_figure_6 : decode prog_8_method_8_code 6 = .ok (.iload_n 1, 1) := by decide +kernel
theorem d_Rm_figure_7 : decode prog_8_method_8_code 7 = .ok (.invokevirtual 103, 3) := by decide +kernel
theorem d_Rm_figure_10 : decode prog_8_method_8_code 10 = .ok (.ifCond .ne 29, 3) := by decide +kernel
theorem d_Rm_figure_13 : decode prog_8_method_8_code 13 = .ok (.iload_n 2, 1) := by decide +kernel
theorem d_Rm_figure_14 : decode prog_8_method_8_code 14 = .ok (.i2l, 1) := by decide +kernel
theorem d_Rm_figure_15 : decode prog_8_method_8_code 15 = .ok (.ldc2_w 107, 3) := by decide +kernel
theorem d_Rm_figure_18 : decode prog_8_method_8_code 18 = .ok (.ldc2_w 109, 3) := by decide +kernel
theorem d_Rm_figure_21 : decode prog_8_method_8_code 21 = .ok (.invokestatic 82, 3) := by decide +kernel
theorem d_Rm_figure_24 : decode prog_8_method_8_code 24 = .ok (.ifCond .eq 15, 3) := by decide +kernel
theorem d_Rm_figure_27 : decode prog_8_method_8_code 27 = .ok (.iload_n 3, 1) := by decide +kernel
theorem d_Rm_figure_28 : decode prog_8_method_8_code 28 = .ok (.i2l, 1) := by decide +kernel
theorem d_Rm_figure_29 : decode prog_8_method_8_code 29 = .ok (.lconst 0, 1) := by decide +kernel
theorem d_Rm_figure_30 : decode prog_8_method_8_code 30 = .ok (.ldc2_w 111, 3) := by decide +kernel
theorem d_Rm_figure_33 : decode prog_8_method_8_code 33 = .ok (.invokestatic 82, 3) := by decide +kernel
theorem d_Rm_figure_36 : decode prog_8_method_8_code 36 = .ok (.ifCond .ne 5, 3) := by decide +kernel
theorem d_Rm_figure_39 : decode prog_8_method_8_code 39 = .ok (.iconst (-1), 1) := by decide +kernel
theorem d_Rm_figure_40 : decode prog_8_method_8_code 40 = .ok (.ireturn, 1) := by decide +kernel
theorem d_Rm_figure_41 : decode prog_8_method_8_code 41 = .ok (.aload_n 0, 1) := by decide +kernel
theorem d_Rm_figure_42 : decode prog_8_method_8_code 42 = .ok (.getfield 23, 3) := by decide +kernel
theorem d_Rm_figure_45 : decode prog_8_method_8_code 45 = .ok (.bipush 10, 2) := by decide +kernel
theorem d_Rm_figure_47 : decode prog_8_method_8_code 47 = .ok (.iload_n 1, 1) := by decide +kernel
theorem d_Rm_figure_48 : decode prog_8_method_8_code 48 = .ok (.imul, 1) := by decide +kernel
theorem d_Rm_figure_49 : decode prog_8_method_8_code 49 = .ok (.iload_n 2, 1) := by decide +kernel
theorem d_Rm_figure_50 : decode prog_8_method_8_code 50 = .ok (.iadd, 1) := by decide +kernel
theorem d_Rm_figure_51 : decode prog_8_method_8_code 51 = .ok (.iaload, 1) := by decide +kernel
theorem d_Rm_figure_52 : decode prog_8_method_8_code 52 = .ok (.istore 4, 2) := by decide +kernel
theorem d_Rm_figure_54 : decode prog_8_method_8_code 54 = .ok (.aload_n 0, 1) := by decide +kernel
theorem d_Rm_figure_55 : decode prog_8_method_8_code 55 = .ok (.getfield 23, 3) := by decide +kernel
theorem d_Rm_figure_58 : decode prog_8_method_8_code 58 = .ok (.bipush 10, 2) := by decide +kernel
theorem d_Rm_figure_60 : decode prog_8_method_8_code 60 = .ok (.iload_n 1, 1) := by decide +kernel
theorem d_Rm_figure_61 : decode prog_8_method_8_code 61 = .ok (.imul, 1) := by decide +kernel
theorem d_Rm_figure_62 : decode prog_8_method_8_code 62 = .ok (.iload_n 2, 1) := by decide +kernel
theorem d_Rm_figure_63 : decode prog_8_method_8_code 63 = .ok (.iadd, 1) := by decide +kernel
theorem d_Rm_figure_64 : decode prog_8_method_8_code 64 = .ok (.iload_n 3, 1) := by decide +kernel
theorem d_Rm_figure_65 : decode prog_8_method_8_code 65 = .ok (.iconst 1, 1) := by decide +kernel
theorem d_Rm_figure_66 : decode prog_8_method_8_code 66 = .ok (.iadd, 1) := by decide +kernel
theorem d_Rm_figure_67 : decode prog_8_method_8_code 67 = .ok (.iastore, 1) := by decide +kernel
theorem d_Rm_figure_68 : decode prog_8_method_8_code 68 = .ok (.aload_n 0, 1) := by decide +kernel
theorem d_Rm_figure_69 : decode prog_8_method_8_code 69 = .ok (.iload_n 1, 1) := by decide +kernel
theorem d_Rm_figure_70 : decode prog_8_method_8_code 70 = .ok (.invokevirtual 113, 3) := by decide +kernel
theorem d_Rm_figure_73 : decode prog_8_method_8_code 73 = .ok (.istore 5, 2) := by decide +kernel
theorem d_Rm_figure_75 : decode prog_8_method_8_code 75 = .ok (.iload 5, 2) := by decide +kernel
theorem d_Rm_figure_77 : decode prog_8_method_8_code 77 = .ok (.iconst 3, 1) := by decide +kernel
theorem d_Rm_figure_78 : decode prog_8_method_8_code 78 = .ok (.if_icmp .le 19, 3) := by decide +kernel
theorem d_Rm_figure_81 : decode prog_8_method_8_code 81 = .ok (.aload_n 0, 1) := by decide +kernel
theorem d_Rm_figure_82 : decode prog_8_method_8_code 82 = .ok (.getfield 23, 3) := by decide +kernel
theorem d_Rm_figure_85 : decode prog_8_method_8_code 85 = .ok (.bipush 10, 2) := by decide +kernel
theorem d_Rm_figure_87 : decode prog_8_method_8_code 87 = .ok (.iload_n 1, 1) := by decide +kernel
theorem d_Rm_figure_88 : decode prog_8_method_8_code 88 = .ok (.imul, 1) := by decide +kernel
theorem d_Rm_figure_89 : decode prog_8_method_8_code 89 = .ok (.iload_n 2, 1) := by decide +kernel
theorem d_Rm_figure_90 : decode prog_8_method_8_code 90 = .ok (.iadd, 1) := by decide +kernel
theorem d_Rm_figure_91 : decode prog_8_method_8_code 91 = .ok (.iload 4, 2) := by decide +kernel
theorem d_Rm_figure_93 : decode prog_8_method_8_code 93 = .ok (.iastore, 1) := by decide +kernel
theorem d_Rm_figure_94 : decode prog_8_method_8_code 94 = .ok (.bipush (-3), 2) := by decide +kernel
theorem d_Rm_figure_96 : decode prog_8_method_8_code 96 = .ok (.ireturn, 1) := by decide +kernel
theorem d_Rm_figure_97 : decode prog_8_method_8_code 97 = .ok (.aload_n 0, 1) := by decide +kernel
theorem d_Rm_figure_98 : decode prog_8_method_8_code 98 = .ok (.iconst 0, 1) := by decide +kernel
theorem d_Rm_figure_99 : decode prog_8_method_8_code 99 = .ok (.putfield 93, 3) := by decide +kernel
theorem d_Rm_figure_102 : decode prog_8_method_8_code 102 = .ok (.iload 5, 2) := by decide +kernel
theorem d_Rm_figure_104 : decode prog_8_method_8_code 104 = .ok (.ireturn, 1) := by decide +kernel
theorem d_Br_plain_0 : decode prog_1_method_6_code 0 = .ok (.aload_n 0, 1) := by decide +kernel
theorem d_Br_plain_1 : decode prog_1_method_6_code 1 = .ok (.iload_n 1, 1) := by decide +kernel
theorem d_Br_plain_2 : decode prog_1_method_6_code 2 = .ok (.invokevirtual 62, 3) := by decide +kernel
theorem d_Br_plain_5 : decode prog_1_method_6_code 5 = .ok (.ifCond .ne 5, 3) := by decide +kernel
theorem d_Br_plain_8 : decode prog_1_method_6_code 8 = .ok (.iconst (-1), 1) := by decide +kernel
theorem d_Br_plain_9 : decode prog_1_method_6_code 9 = .ok (.ireturn, 1) := by decide +kernel
theorem d_Br_plain_10 : decode prog_1_method_6_code 10 = .ok (.aload_n 0, 1) := by decide +kernel
theorem d_Br_plain_11 : decode prog_1_method_6_code 11 = .ok (.getfield 20, 3) := by decide +kernel
theorem d_Br_plain_14 : decode prog_1_method_6_code 14 = .ok (.iload_n 1, 1) := by decide +kernel
theorem d_Br_plain_15 : decode prog_1_method_6_code 15 = .ok (.aaload, 1) := by decide +kernel
theorem d_Br_plain_16 : decode prog_1_method_6_code 16 = .ok (.getfield 66, 3) := by decide +kernel
theorem d_Br_plain_19 : decode prog_1_method_6_code 19 = .ok (.invokestatic 73, 3) := by decide +kernel
theorem d_Br_plain_22 : decode prog_1_method_6_code 22 = .ok (.istore_n 2, 1) := by decide +kernel
theorem d_Br_plain_23 : decode prog_1_method_6_code 23 = .ok (.aload_n 0, 1) := by decide +kernel
theorem d_Br_plain_24 : decode prog_1_method_6_code 24 = .ok (.getfield 20, 3) := by decide +kernel
theorem d_Br_plain_27 : decode prog_1_method_6_code 27 = .ok (.iload_n 1, 1) := by decide +kernel
theorem d_Br_plain_28 : decode prog_1_method_6_code 28 = .ok (.aaload, 1) := by decide +kernel
theorem d_Br_plain_29 : decode prog_1_method_6_code 29 = .ok (.invokevirtual 85, 3) := by decide +kernel
theorem d_Br_plain_32 : decode prog_1_method_6_code 32 = .ok (.aload_n 0, 1) := by decide +kernel
theorem d_Br_plain_33 : decode prog_1_method_6_code 33 = .ok (.getfield 20, 3) := by decide +kernel
theorem d_Br_plain_36 : decode prog_1_method_6_code 36 = .ok (.iload_n 1, 1) := by decide +kernel
theorem d_Br_plain_37 : decode prog_1_method_6_code 37 = .ok (.aaload, 1) := by decide +kernel
theorem d_Br_plain_38 : decode prog_1_method_6_code 38 = .ok (.aload_n 0, 1) := by decide +kernel
theorem d_Br_plain_39 : decode prog_1_method_6_code 39 = .ok (.getfield 25, 3) := by decide +kernel
theorem d_Br_plain_42 : decode prog_1_method_6_code 42 = .ok (.getfield 41, 3) := by decide +kernel
theorem d_Br_plain_45 : decode prog_1_method_6_code 45 = .ok (.invokevirtual 46, 3) := by decide +kernel
theorem d_Br_plain_48 : decode prog_1_method_6_code 48 = .ok (.aload_n 0, 1) := by decide +kernel
theorem d_Br_plain_49 : decode prog_1_method_6_code 49 = .ok (.getfield 10, 3) := by decide +kernel
theorem d_Br_plain_52 : decode prog_1_method_6_code 52 = .ok (.iload_n 1, 1) := by decide +kernel
theorem d_Br_plain_53 : decode prog_1_method_6_code 53 = .ok (.invokevirtual 59, 3) := by decide +kernel
theorem d_Br_plain_56 : decode prog_1_method_6_code 56 = .ok (.iload_n 2, 1) := by decide +kernel
theorem d_Br_plain_57 : decode prog_1_method_6_code 57 = .ok (.ireturn, 1) := by decide +kernel
theorem d_Rm_plain_0 : decode prog_8_method_9_code 0 = .ok (.aload_n 0, 1) := by decide +kernel
theorem d_Rm_plain_1 : decode prog_8_method_9_code 1 = .ok (.iconst 0, 1) := by decide +kernel
theorem d_Rm_plain_2 : decode prog_8_method_9_code 2 = .ok (.putfield 1, 3) := by decide +kernel
theorem d_Rm_plain_5 : decode prog_8_method_9_code 5 = .ok (.aload_n 0, 1) := by decide +kernel
theorem d_Rm_plain_6 : decode prog_8_method_9_code 6 = .ok (.iload_n 1, 1) := by decide +kernel
theorem d_Rm_plain_7 : decode prog_8_method_9_code 7 = .ok (.invokevirtual 103, 3) := by decide +kernel
theorem d_Rm_plain_10 : decode prog_8_method_9_code 10 = .ok (.ifCond .eq 5, 3) := by decide +kernel
theorem d_Rm_plain_13 : decode prog_8_method_9_code 13 = .ok (.iconst (-1), 1) := by decide +kernel
theorem d_Rm_plain_14 : decode prog_8_method_9_code 14 = .ok (.ireturn, 1) := by decide +kernel
theorem d_Rm_plain_15 : decode prog_8_method_9_code 15 = .ok (.iconst 0, 1) := by decide +kernel
theorem d_Rm_plain_16 : decode prog_8_method_9_code 16 = .ok (.istore_n 2, 1) := by decide +kernel
theorem d_Rm_plain_17 : decode prog_8_method_9_code 17 = .ok (.iconst 2, 1) := by decide +kernel
theorem d_Rm_plain_18 : decode prog_8_method_9_code 18 = .ok (.istore_n 3, 1) := by decide +kernel
theorem d_Rm_plain_19 : decode prog_8_method_9_code 19 = .ok (.iload_n 3, 1) := by decide +kernel
theorem d_Rm_plain_20 : decode prog_8_method_9_code 20 = .ok (.bipush 10, 2) := by decide +kernel
theorem d_Rm_plain_22 : decode prog_8_method_9_code 22 = .ok (.if_icmp .ge 43, 3) := by decide +kernel
theorem d_Rm_plain_25 : decode prog_8_method_9_code 25 = .ok (.aload_n 0, 1) := by decide +kernel
theorem d_Rm_plain_26 : decode prog_8_method_9_code 26 = .ok (.getfield 23, 3) := by decide +kernel
theorem d_Rm_plain_29 : decode prog_8_method_9_code 29 = .ok (.bipush 10, 2) := by decide +kernel
theorem d_Rm_plain_31 : decode prog_8_method_9_code 31 = .ok (.iload_n 1, 1) := by decide +kernel
theorem d_Rm_plain_32 : decode prog_8_method_9_code 32 = .ok (.imul, 1) := by decide +kernel
theorem d_Rm_plain_33 : decode prog_8_method_9_code 33 = .ok (.iload_n 3, 1) := by decide +kernel
theorem d_Rm_plain_34 : decode prog_8_method_9_code 34 = .ok (.iadd, 1) := by decide +kernel
theorem d_Rm_plain_35 : decode prog_8_method_9_code 35 = .ok (.iaload, 1) := by decide +kernel
theorem d_Rm_plain_36 : decode prog_8_method_9_code 36 = .ok (.ifCond .le 9, 3) := by decide +kernel
theorem d_Rm_plain_39 : decode prog_8_method_9_code 39 = .ok (.iload_n 2, 1) := by decide +kernel
theorem d_Rm_plain_40 : decode prog_8_method_9_code 40 = .ok (.iconst 1, 1) := by decide +kernel
theorem d_Rm_plain_41 : decode prog_8_method_9_code 41 = .ok (.iadd, 1) := by decide +kernel
theorem d_Rm_plain_42 : decode prog_8_method_9_code 42 = .ok (.goto 4, 3) := by decide +kernel
theorem d_Rm_plain_45 : decode prog_8_method_9_code 45 = .ok (.iload_n 2, 1) := by decide +kernel
theorem d_Rm_plain_46 : decode prog_8_method_9_code 46 = .ok (.istore_n 2, 1) := by decide +kernel
theorem d_Rm_plain_47 : decode prog_8_method_9_code 47 = .ok (.aload_n 0, 1) := by decide +kernel
theorem d_Rm_plain_48 : decode prog_8_method_9_code 48 = .ok (.getfield 23, 3) := by decide +kernel
theorem d_Rm_plain_51 : decode prog_8_method_9_code 51 = .ok (.bipush 10, 2) := by decide +kernel
theorem d_Rm_plain_53 : decode prog_8_method_9_code 53 = .ok (.iload_n 1, 1) := by decide +kernel
theorem d_Rm_plain_54 : decode prog_8_method_9_code 54 = .ok (.imul, 1) := by decide +kernel
theorem d_Rm_plain_55 : decode prog_8_method_9_code 55 = .ok (.iload_n 3, 1) := by decide +kernel
theorem d_Rm_plain_56 : decode prog_8_method_9_code 56 = .ok (.iadd, 1) := by decide +kernel
theorem d_Rm_plain_57 : decode prog_8_method_9_code 57 = .ok (.iconst 0, 1) := by decide +kernel
theorem d_Rm_plain_58 : decode prog_8_method_9_code 58 = .ok (.iastore, 1) := by decide +kernel
theorem d_Rm_plain_59 : decode prog_8_method_9_code 59 = .ok (.iinc 3 1, 3) := by decide +kernel
theorem d_Rm_plain_62 : decode prog_8_method_9_code 62 = .ok (.goto (-43), 3) := by decide +kernel
theorem d_Rm_plain_65 : decode prog_8_method_9_code 65 = .ok (.aload_n 0, 1) := by decide +kernel
theorem d_Rm_plain_66 : decode prog_8_method_9_code 66 = .ok (.iconst 0, 1) := by decide +kernel
theorem d_Rm_plain_67 : decode prog_8_method_9_code 67 = .ok (.putfield 93, 3) := by decide +kernel
theorem d_Rm_plain_70 : decode prog_8_method_9_code 70 = .ok (.iload_n 2, 1) := by decide +kernel
theorem d_Rm_plain_71 : decode prog_8_method_9_code 71 = .ok (.ireturn, 1) := by decide +kernel
theorem d_Br_isVoice_0 : decode prog_1_method_28_code 0 = .ok (.iload_n 0, 1) := by decide +kernel
theorem d_Br_isVoice_1 : decode prog_1_method_28_code 1 = .ok (.ifCond .lt 12, 3) := by decide +kernel
theorem d_Br_isVoice_4 : decode prog_1_method_28_code 4 = .ok (.iload_n 0, 1) := by decide +kernel
theorem d_Br_isVoice_5 : decode prog_1_method_28_code 5 = .ok (.iconst 3, 1) := by decide +kernel
theorem d_Br_isVoice_6 : decode prog_1_method_28_code 6 = .ok (.if_icmp .ge 7, 3) := by decide +kernel
theorem d_Br_isVoice_9 : decode prog_1_method_28_code 9 = .ok (.iconst 1, 1) := by decide +kernel
theorem d_Br_isVoice_10 : decode prog_1_method_28_code 10 = .ok (.goto 4, 3) := by decide +kernel
theorem d_Br_isVoice_13 : decode prog_1_method_28_code 13 = .ok (.iconst 0, 1) := by decide +kernel
theorem d_Br_isVoice_14 : decode prog_1_method_28_code 14 = .ok (.ireturn, 1) := by decide +kernel
theorem d_Br_isPitch_0 : decode prog_1_method_29_code 0 = .ok (.iload_n 0, 1) := by decide +kernel
theorem d_Br_isPitch_1 : decode prog_1_method_29_code 1 = .ok (.ifCond .lt 13, 3) := by decide +kernel
theorem d_Br_isPitch_4 : decode prog_1_method_29_code 4 = .ok (.iload_n 0, 1) := by decide +kernel
theorem d_Br_isPitch_5 : decode prog_1_method_29_code 5 = .ok (.bipush 127, 2) := by decide +kernel
theorem d_Br_isPitch_7 : decode prog_1_method_29_code 7 = .ok (.if_icmp .gt 7, 3) := by decide +kernel
theorem d_Br_isPitch_10 : decode prog_1_method_29_code 10 = .ok (.iconst 1, 1) := by decide +kernel
theorem d_Br_isPitch_11 : decode prog_1_method_29_code 11 = .ok (.goto 4, 3) := by decide +kernel
theorem d_Br_isPitch_14 : decode prog_1_method_29_code 14 = .ok (.iconst 0, 1) := by decide +kernel
theorem d_Br_isPitch_15 : decode prog_1_method_29_code 15 = .ok (.ireturn, 1) := by decide +kernel
theorem d_Br_range_0 : decode prog_1_method_7_code 0 = .ok (.iload_n 1, 1) := by decide +kernel
theorem d_Br_range_1 : decode prog_1_method_7_code 1 = .ok (.invokestatic 88, 3) := by decide +kernel
theorem d_Br_range_4 : decode prog_1_method_7_code 4 = .ok (.ifCond .eq 17, 3) := by decide +kernel
theorem d_Br_range_7 : decode prog_1_method_7_code 7 = .ok (.iload_n 2, 1) := by decide +kernel
theorem d_Br_range_8 : decode prog_1_method_7_code 8 = .ok (.invokestatic 91, 3) := by decide +kernel
theorem d_Br_range_11 : decode prog_1_method_7_code 11 = .ok (.ifCond .eq 10, 3) := by decide +kernel
theorem d_Br_range_14 : decode prog_1_method_7_code 14 = .ok (.iload_n 3, 1) := by decide +kernel
theorem d_Br_range_15 : decode prog_1_method_7_code 15 = .ok (.invokestatic 91, 3) := by decide +kernel
theorem d_Br_range_18 : decode prog_1_method_7_code 18 = .ok (.ifCond .ne 5, 3) := by decide +kernel
theorem d_Br_range_21 : decode prog_1_method_7_code 21 = .ok (.iconst (-1), 1) := by decide +kernel
theorem d_Br_range_22 : decode prog_1_method_7_code 22 = .ok (.ireturn, 1) := by decide +kernel
theorem d_Br_range_23 : decode prog_1_method_7_code 23 = .ok (.iload_n 3, 1) := by decide +kernel
theorem d_Br_range_24 : decode prog_1_method_7_code 24 = .ok (.iload_n 2, 1) := by decide +kernel
theorem d_Br_range_25 : decode prog_1_method_7_code 25 = .ok (.isub, 1) := by decide +kernel
theorem d_Br_range_26 : decode prog_1_method_7_code 26 = .ok (.iconst 0, 1) := by decide +kernel
theorem d_Br_range_27 : decode prog_1_method_7_code 27 = .ok (.bipush 24, 2) := by decide +kernel
theorem d_Br_range_29 : decode prog_1_method_7_code 29 = .ok (.invokestatic 37, 3) := by decide +kernel
theorem d_Br_range_32 : decode prog_1_method_7_code 32 = .ok (.ifCond .ne 5, 3) := by decide +kernel
theorem d_Br_range_35 : decode prog_1_method_7_code 35 = .ok (.iconst (-1), 1) := by decide +kernel
theorem d_Br_range_36 : decode prog_1_method_7_code 36 = .ok (.ireturn, 1) := by decide +kernel
theorem d_Br_range_37 : decode prog_1_method_7_code 37 = .ok (.aload_n 0, 1) := by decide +kernel
theorem d_Br_range_38 : decode prog_1_method_7_code 38 = .ok (.getfield 25, 3) := by decide +kernel
theorem d_Br_range_41 : decode prog_1_method_7_code 41 = .ok (.getfield 94, 3) := by decide +kernel
theorem d_Br_range_44 : decode prog_1_method_7_code 44 = .ok (.iload_n 1, 1) := by decide +kernel
theorem d_Br_range_45 : decode prog_1_method_7_code 45 = .ok (.iload_n 2, 1) := by decide +kernel
theorem d_Br_range_46 : decode prog_1_method_7_code 46 = .ok (.iastore, 1) := by decide +kernel
theorem d_Br_range_47 : decode prog_1_method_7_code 47 = .ok (.aload_n 0, 1) := by decide +kernel
theorem d_Br_range_48 : decode prog_1_method_7_code 48 = .ok (.getfield 25, 3) := by decide +kernel
theorem d_Br_range_51 : decode prog_1_method_7_code 51 = .ok (.getfield 98, 3) := by decide +kernel
theorem d_Br_range_54 : decode prog_1_method_7_code 54 = .ok (.iload_n 1, 1) := by decide +kernel
theorem d_Br_range_55 : decode prog_1_method_7_code 55 = .ok (.iload_n 3, 1) := by decide +kernel
theorem d_Br_range_56 : decode prog_1_method_7_code 56 = .ok (.iastore, 1) := by decide +kernel
theorem d_Br_range_57 : decode prog_1_method_7_code 57 = .ok (.aload_n 0, 1) := by decide +kernel
theorem d_Br_range_58 : decode prog_1_method_7_code 58 = .ok (.getfield 10, 3) := by decide +kernel
theorem d_Br_range_61 : decode prog_1_method_7_code 61 = .ok (.invokevirtual 52, 3) := by decide +kernel
theorem d_Br_range_64 : decode prog_1_method_7_code 64 = .ok (.iconst 1, 1) := by decide +kernel
theorem d_Br_range_65 : decode prog_1_method_7_code 65 = .ok (.ireturn, 1) := by decide +kernel
theorem d_Rm_range_0 : decode prog_8_method_10_code 0 = .ok (.aload_n 0, 1) := by decide +kernel
theorem d_Rm_range_1 : decode prog_8_method_10_code 1 = .ok (.iconst 0, 1) := by decide +kernel
theorem d_Rm_range_2 : decode prog_8_method_10_code 2 = .ok (.putfield 1, 3) := by decide +kernel
theorem d_Rm_range_5 : decode prog_8_method_10_code 5 = .ok (.iload_n 1, 1) := by decide +kernel
theorem d_Rm_range_6 : decode prog_8_method_10_code 6 = .ok (.i2l, 1) := by decide +kernel
theorem d_Rm_range_7 : decode prog_8_method_10_code 7 = .ok (.lconst 0, 1) := by decide +kernel
theorem d_Rm_range_8 : decode prog_8_method_10_code 8 = .ok (.ldc2_w 107, 3) := by decide +kernel
theorem d_Rm_range_11 : decode prog_8_method_10_code 11 = .ok (.invokestatic 82, 3) := by decide +kernel
theorem d_Rm_range_14 : decode prog_8_method_10_code 14 = .ok (.ifCond .eq 36, 3) := by decide +kernel
theorem d_Rm_range_17 : decode prog_8_method_10_code 17 = .ok (.iload_n 2, 1) := by decide +kernel
theorem d_Rm_range_18 : decode prog_8_method_10_code 18 = .ok (.i2l, 1) := by decide +kernel
theorem d_Rm_range_19 : decode prog_8_method_10_code 19 = .ok (.lconst 0, 1) := by decide +kernel
theorem d_Rm_range_20 : decode prog_8_method_10_code 20 = .ok (.ldc2_w 117, 3) := by decide +kernel
theorem d_Rm_range_23 : decode prog_8_method_10_code 23 = .ok (.invokestatic 82, 3) := by decide +kernel
theorem d_Rm_range_26 : decode prog_8_method_10_code 26 = .ok (.ifCond .eq 24, 3) := by decide +kernel
theorem d_Rm_range_29 : decode prog_8_method_10_code 29 = .ok (.iload_n 3, 1) := by decide +kernel
theorem d_Rm_range_30 : decode prog_8_method_10_code 30 = .ok (.i2l, 1) := by decide +kernel
theorem d_Rm_range_31 : decode prog_8_method_10_code 31 = .ok (.iload_n 2, 1) := by decide +kernel
theorem d_Rm_range_32 : decode prog_8_method_10_code 32 = .ok (.i2l, 1) := by decide +kernel
theorem d_Rm_range_33 : decode prog_8_method_10_code 33 = .ok (.ldc2_w 117, 3) := by decide +kernel
theorem d_Rm_range_36 : decode prog_8_method_10_code 36 = .ok (.invokestatic 82, 3) := by decide +kernel
theorem d_Rm_range_39 : decode prog_8_method_10_code 39 = .ok (.ifCond .eq 11, 3) := by decide +kernel
theorem d_Rm_range_42 : decode prog_8_method_10_code 42 = .ok (.iload_n 3, 1) := by decide +kernel
theorem d_Rm_range_43 : decode prog_8_method_10_code 43 = .ok (.iload_n 2, 1) := by decide +kernel
theorem d_Rm_range_44 : decode prog_8_method_10_code 44 = .ok (.isub, 1) := by decide +kernel
theorem d_Rm_range_45 : decode prog_8_method_10_code 45 = .ok (.bipush 24, 2) := by decide +kernel
theorem d_Rm_range_47 : decode prog_8_method_10_code 47 = .ok (.if_icmp .le 5, 3) := by decide +kernel
theorem d_Rm_range_50 : decode prog_8_method_10_code 50 = .ok (.iconst (-1), 1) := by decide +kernel
theorem d_Rm_range_51 : decode prog_8_method_10_code 51 = .ok (.ireturn, 1) := by decide +kernel
theorem d_Rm_range_52 : decode prog_8_method_10_code 52 = .ok (.aload_n 0, 1) := by decide +kernel
theorem d_Rm_range_53 : decode prog_8_method_10_code 53 = .ok (.getfield 26, 3) := by decide +kernel
theorem d_Rm_range_56 : decode prog_8_method_10_code 56 = .ok (.iload_n 1, 1) := by decide +kernel
theorem d_Rm_range_57 : decode prog_8_method_10_code 57 = .ok (.iload_n 2, 1) := by decide +kernel
theorem d_Rm_range_58 : decode prog_8_method_10_code 58 = .ok (.iastore, 1) := by decide +kernel
theorem d_Rm_range_59 : decode prog_8_method_10_code 59 = .ok (.aload_n 0, 1) := by decide +kernel
theorem d_Rm_range_60 : decode prog_8_method_10_code 60 = .ok (.getfield 29, 3) := by decide +kernel
theorem d_Rm_range_63 : decode prog_8_method_10_code 63 = .ok (.iload_n 1, 1) := by decide +kernel
theorem d_Rm_range_64 : decode prog_8_method_10_code 64 = .ok (.iload_n 3, 1) := by decide +kernel
theorem d_Rm_range_65 : decode prog_8_method_10_code 65 = .ok (.iastore, 1) := by decide +kernel
theorem d_Rm_range_66 : decode prog_8_method_10_code 66 = .ok (.aload_n 0, 1) := by decide +kernel
theorem d_Rm_range_67 : decode prog_8_method_10_code 67 = .ok (.iconst 0, 1) := by decide +kernel
theorem d_Rm_range_68 : decode prog_8_method_10_code 68 = .ok (.putfield 93, 3) := by decide +kernel
theorem d_Rm_range_71 : decode prog_8_method_10_code 71 = .ok (.iconst 1, 1) := by decide +kernel
theorem d_Rm_range_72 : decode prog_8_method_10_code 72 = .ok (.ireturn, 1) := by decide +kernel
theorem d_Se_forgetRealising_0 : decode prog_6_method_4_code 0 = .ok (.aload_n 0, 1) := by decide +kernel
theorem d_Se_forgetRealising_1 : decode prog_6_method_4_code 1 = .ok (.iconst 0, 1) := by decide +kernel
theorem d_Se_forgetRealising_2 : decode prog_6_method_4_code 2 = .ok (.putfield 51, 3) := by decide +kernel
theorem d_Se_forgetRealising_5 : decode prog_6_method_4_code 5 = .ok (.return_, 1) := by decide +kernel
theorem d_Br_home_0 : decode prog_1_method_8_code 0 = .ok (.iload_n 1, 1) := by decide +kernel
theorem d_Br_home_1 : decode prog_1_method_8_code 1 = .ok (.invokestatic 88, 3) := by decide +kernel
theorem d_Br_home_4 : decode prog_1_method_8_code 4 = .ok (.ifCond .eq 10, 3) := by decide +kernel
theorem d_Br_home_7 : decode prog_1_method_8_code 7 = .ok (.iload_n 2, 1) := by decide +kernel
theorem d_Br_home_8 : decode prog_1_method_8_code 8 = .ok (.invokestatic 91, 3) := by decide +kernel
theorem d_Br_home_11 : decode prog_1_method_8_code 11 = .ok (.ifCond .ne 5, 3) := by decide +kernel
theorem d_Br_home_14 : decode prog_1_method_8_code 14 = .ok (.iconst (-1), 1) := by decide +kernel
theorem d_Br_home_15 : decode prog_1_method_8_code 15 = .ok (.ireturn, 1) := by decide +kernel
theorem d_Br_home_16 : decode prog_1_method_8_code 16 = .ok (.aload_n 0, 1) := by decide +kernel
theorem d_Br_home_17 : decode prog_1_method_8_code 17 = .ok (.getfield 25, 3) := by decide +kernel
theorem d_Br_home_20 : decode prog_1_method_8_code 20 = .ok (.getfield 101, 3) := by decide +kernel
theorem d_Br_home_23 : decode prog_1_method_8_code 23 = .ok (.iload_n 1, 1) := by decide +kernel
theorem d_Br_home_24 : decode prog_1_method_8_code 24 = .ok (.iaload, 1) := by decide +kernel
theorem d_Br_home_25 : decode prog_1_method_8_code 25 = .ok (.istore_n 3, 1) := by decide +kernel
theorem d_Br_home_26 : decode prog_1_method_8_code 26 = .ok (.aload_n 0, 1) := by decide +kernel
theorem d_Br_home_27 : decode prog_1_method_8_code 27 = .ok (.getfield 25, 3) := by decide +kernel
theorem d_Br_home_30 : decode prog_1_method_8_code 30 = .ok (.getfield 101, 3) := by decide +kernel
theorem d_Br_home_33 : decode prog_1_method_8_code 33 = .ok (.iload_n 1, 1) := by decide +kernel
theorem d_Br_home_34 : decode prog_1_method_8_code 34 = .ok (.iload_n 2, 1) := by decide +kernel
theorem d_Br_home_35 : decode prog_1_method_8_code 35 = .ok (.iastore, 1) := by decide +kernel
theorem d_Br_home_36 : decode prog_1_method_8_code 36 = .ok (.aload_n 0, 1) := by decide +kernel
theorem d_Br_home_37 : decode prog_1_method_8_code 37 = .ok (.getfield 10, 3) := by decide +kernel
theorem d_Br_home_40 : decode prog_1_method_8_code 40 = .ok (.invokevirtual 104, 3) := by decide +kernel
theorem d_Br_home_43 : decode prog_1_method_8_code 43 = .ok (.iload_n 3, 1) := by decide +kernel
theorem d_Br_home_44 : decode prog_1_method_8_code 44 = .ok (.ireturn, 1) := by decide +kernel
theorem d_Rm_home_0 : decode prog_8_method_11_code 0 = .ok (.aload_n 0, 1) := by decide +kernel
theorem d_Rm_home_1 : decode prog_8_method_11_code 1 = .ok (.iconst 0, 1) := by decide +kernel
theorem d_Rm_home_2 : decode prog_8_method_11_code 2 = .ok (.putfield 1, 3) := by decide +kernel
theorem d_Rm_home_5 : decode prog_8_method_11_code 5 = .ok (.iload_n 1, 1) := by decide +kernel
theorem d_Rm_home_6 : decode prog_8_method_11_code 6 = .ok (.i2l, 1) := by decide +kernel
theorem d_Rm_home_7 : decode prog_8_method_11_code 7 = .ok (.lconst 0, 1) := by decide +kernel
theorem d_Rm_home_8 : decode prog_8_method_11_code 8 = .ok (.ldc2_w 107, 3) := by decide +kernel
theorem d_Rm_home_11 : decode prog_8_method_11_code 11 = .ok (.invokestatic 82, 3) := by decide +kernel
theorem d_Rm_home_14 : decode prog_8_method_11_code 14 = .ok (.ifCond .eq 15, 3) := by decide +kernel
theorem d_Rm_home_17 : decode prog_8_method_11_code 17 = .ok (.iload_n 2, 1) := by decide +kernel
theorem d_Rm_home_18 : decode prog_8_method_11_code 18 = .ok (.i2l, 1) := by decide +kernel
theorem d_Rm_home_19 : decode prog_8_method_11_code 19 = .ok (.lconst 0, 1) := by decide +kernel
theorem d_Rm_home_20 : decode prog_8_method_11_code 20 = .ok (.ldc2_w 117, 3) := by decide +kernel
theorem d_Rm_home_23 : decode prog_8_method_11_code 23 = .ok (.invokestatic 82, 3) := by decide +kernel
theorem d_Rm_home_26 : decode prog_8_method_11_code 26 = .ok (.ifCond .ne 5, 3) := by decide +kernel
theorem d_Rm_home_29 : decode prog_8_method_11_code 29 = .ok (.iconst (-1), 1) := by decide +kernel
theorem d_Rm_home_30 : decode prog_8_method_11_code 30 = .ok (.ireturn, 1) := by decide +kernel
theorem d_Rm_home_31 : decode prog_8_method_11_code 31 = .ok (.aload_n 0, 1) := by decide +kernel
theorem d_Rm_home_32 : decode prog_8_method_11_code 32 = .ok (.getfield 32, 3) := by decide +kernel
theorem d_Rm_home_35 : decode prog_8_method_11_code 35 = .ok (.iload_n 1, 1) := by decide +kernel
theorem d_Rm_home_36 : decode prog_8_method_11_code 36 = .ok (.iaload, 1) := by decide +kernel
theorem d_Rm_home_37 : decode prog_8_method_11_code 37 = .ok (.istore_n 3, 1) := by decide +kernel
theorem d_Rm_home_38 : decode prog_8_method_11_code 38 = .ok (.aload_n 0, 1) := by decide +kernel
theorem d_Rm_home_39 : decode prog_8_method_11_code 39 = .ok (.getfield 32, 3) := by decide +kernel
theorem d_Rm_home_42 : decode prog_8_method_11_code 42 = .ok (.iload_n 1, 1) := by decide +kernel
theorem d_Rm_home_43 : decode prog_8_method_11_code 43 = .ok (.iload_n 2, 1) := by decide +kernel
theorem d_Rm_home_44 : decode prog_8_method_11_code 44 = .ok (.iastore, 1) := by decide +kernel
theorem d_Rm_home_45 : decode prog_8_method_11_code 45 = .ok (.aload_n 0, 1) := by decide +kernel
theorem d_Rm_home_46 : decode prog_8_method_11_code 46 = .ok (.iconst 0, 1) := by decide +kernel
theorem d_Rm_home_47 : decode prog_8_method_11_code 47 = .ok (.putfield 93, 3) := by decide +kernel
theorem d_Rm_home_50 : decode prog_8_method_11_code 50 = .ok (.iload_n 3, 1) := by decide +kernel
theorem d_Rm_home_51 : decode prog_8_method_11_code 51 = .ok (.ireturn, 1) := by decide +kernel
theorem d_Br_leap_0 : decode prog_1_method_9_code 0 = .ok (.iload_n 1, 1) := by decide +kernel
theorem d_Br_leap_1 : decode prog_1_method_9_code 1 = .ok (.iconst 0, 1) := by decide +kernel
theorem d_Br_leap_2 : decode prog_1_method_9_code 2 = .ok (.bipush 24, 2) := by decide +kernel
theorem d_Br_leap_4 : decode prog_1_method_9_code 4 = .ok (.invokestatic 37, 3) := by decide +kernel
theorem d_Br_leap_7 : decode prog_1_method_9_code 7 = .ok (.ifCond .ne 5, 3) := by decide +kernel
theorem d_Br_leap_10 : decode prog_1_method_9_code 10 = .ok (.iconst (-1), 1) := by decide +kernel
theorem d_Br_leap_11 : decode prog_1_method_9_code 11 = .ok (.ireturn, 1) := by decide +kernel
theorem d_Br_leap_12 : decode prog_1_method_9_code 12 = .ok (.aload_n 0, 1) := by decide +kernel
theorem d_Br_leap_13 : decode prog_1_method_9_code 13 = .ok (.getfield 25, 3) := by decide +kernel
theorem d_Br_leap_16 : decode prog_1_method_9_code 16 = .ok (.getfield 107, 3) := by decide +kernel
theorem d_Br_leap_19 : decode prog_1_method_9_code 19 = .ok (.istore_n 2, 1) := by decide +kernel
theorem d_Br_leap_20 : decode prog_1_method_9_code 20 = .ok (.aload_n 0, 1) := by decide +kernel
theorem d_Br_leap_21 : decode prog_1_method_9_code 21 = .ok (.getfield 25, 3) := by decide +kernel
theorem d_Br_leap_24 : decode prog_1_method_9_code 24 = .ok (.iload_n 1, 1) := by decide +kernel
theorem d_Br_leap_25 : decode prog_1_method_9_code 25 = .ok (.putfield 107, 3) := by decide +kernel
theorem d_Br_leap_28 : decode prog_1_method_9_code 28 = .ok (.aload_n 0, 1) := by decide +kernel
theorem d_Br_leap_29 : decode prog_1_method_9_code 29 = .ok (.getfield 10, 3) := by decide +kernel
theorem d_Br_leap_32 : decode prog_1_method_9_code 32 = .ok (.invokevirtual 104, 3) := by decide +kernel
theorem d_Br_leap_35 : decode prog_1_method_9_code 35 = .ok (.iload_n 2, 1) := by decide +kernel
theorem d_Br_leap_36 : decode prog_1_method_9_code 36 = .ok (.ireturn, 1) := by decide +kernel
theorem d_Rm_leap_0 : decode prog_8_method_12_code 0 = .ok (.aload_n 0, 1) := by decide +kernel
theorem d_Rm_leap_1 : decode prog_8_method_12_code 1 = .ok (.iconst 0, 1) := by decide +kernel
theorem d_Rm_leap_2 : decode prog_8_method_12_code 2 = .ok (.putfield 1, 3) := by decide +kernel
theorem d_Rm_leap_5 : decode prog_8_method_12_code 5 = .ok (.iload_n 1, 1) := by decide +kernel
theorem d_Rm_leap_6 : decode prog_8_method_12_code 6 = .ok (.i2l, 1) := by decide +kernel
theorem d_Rm_leap_7 : decode prog_8_method_12_code 7 = .ok (.lconst 0, 1) := by decide +kernel
theorem d_Rm_leap_8 : decode prog_8_method_12_code 8 = .ok (.ldc2_w 119, 3) := by decide +kernel
theorem d_Rm_leap_11 : decode prog_8_method_12_code 11 = .ok (.invokestatic 82, 3) := by decide +kernel
theorem d_Rm_leap_14 : decode prog_8_method_12_code 14 = .ok (.ifCond .ne 5, 3) := by decide +kernel
theorem d_Rm_leap_17 : decode prog_8_method_12_code 17 = .ok (.iconst (-1), 1) := by decide +kernel
theorem d_Rm_leap_18 : decode prog_8_method_12_code 18 = .ok (.ireturn, 1) := by decide +kernel
theorem d_Rm_leap_19 : decode prog_8_method_12_code 19 = .ok (.aload_n 0, 1) := by decide +kernel
theorem d_Rm_leap_20 : decode prog_8_method_12_code 20 = .ok (.getfield 35, 3) := by decide +kernel
theorem d_Rm_leap_23 : decode prog_8_method_12_code 23 = .ok (.istore_n 2, 1) := by decide +kernel
theorem d_Rm_leap_24 : decode prog_8_method_12_code 24 = .ok (.aload_n 0, 1) := by decide +kernel
theorem d_Rm_leap_25 : decode prog_8_method_12_code 25 = .ok (.iload_n 1, 1) := by decide +kernel
theorem d_Rm_leap_26 : decode prog_8_method_12_code 26 = .ok (.putfield 35, 3) := by decide +kernel
theorem d_Rm_leap_29 : decode prog_8_method_12_code 29 = .ok (.aload_n 0, 1) := by decide +kernel
theorem d_Rm_leap_30 : decode prog_8_method_12_code 30 = .ok (.iconst 0, 1) := by decide +kernel
theorem d_Rm_leap_31 : decode prog_8_method_12_code 31 = .ok (.putfield 93, 3) := by decide +kernel
theorem d_Rm_leap_34 : decode prog_8_method_12_code 34 = .ok (.iload_n 2, 1) := by decide +kernel
theorem d_Rm_leap_35 : decode prog_8_method_12_code 35 = .ok (.ireturn, 1) := by decide +kernel
theorem d_Br_given_0 : decode prog_1_method_10_code 0 = .ok (.aload_n 0, 1) := by decide +kernel
theorem d_Br_given_1 : decode prog_1_method_10_code 1 = .ok (.iload_n 1, 1) := by decide +kernel
theorem d_Br_given_2 : decode prog_1_method_10_code 2 = .ok (.invokevirtual 62, 3) := by decide +kernel
theorem d_Br_given_5 : decode prog_1_method_10_code 5 = .ok (.ifCond .eq 22, 3) := by decide +kernel
theorem d_Br_given_8 : decode prog_1_method_10_code 8 = .ok (.iload_n 2, 1) := by decide +kernel
theorem d_Br_given_9 : decode prog_1_method_10_code 9 = .ok (.invokestatic 88, 3) := by decide +kernel
theorem d_Br_given_12 : decode prog_1_method_10_code 12 = .ok (.ifCond .eq 15, 3) := by decide +kernel
theorem d_Br_given_15 : decode prog_1_method_10_code 15 = .ok (.iload_n 3, 1) := by decide +kernel
theorem d_Br_given_16 : decode prog_1_method_10_code 16 = .ok (.iconst (-1), 1) := by decide +kernel
theorem d_Br_given_17 : decode prog_1_method_10_code 17 = .ok (.if_icmp .eq 12, 3) := by decide +kernel
theorem d_Br_given_20 : decode prog_1_method_10_code 20 = .ok (.iload_n 3, 1) := by decide +kernel
theorem d_Br_given_21 : decode prog_1_method_10_code 21 = .ok (.invokestatic 91, 3) := by decide +kernel
theorem d_Br_given_24 : decode prog_1_method_10_code 24 = .ok (.ifCond .ne 5, 3) := by decide +kernel
theorem d_Br_given_27 : decode prog_1_method_10_code 27 = .ok (.iconst (-1), 1) := by decide +kernel
theorem d_Br_given_28 : decode prog_1_method_10_code 28 = .ok (.ireturn, 1) := by decide +kernel
theorem d_Br_given_29 : decode prog_1_method_10_code 29 = .ok (.aload_n 0, 1) := by decide +kernel
theorem d_Br_given_30 : decode prog_1_method_10_code 30 = .ok (.getfield 20, 3) := by decide +kernel
theorem d_Br_given_33 : decode prog_1_method_10_code 33 = .ok (.iload_n 1, 1) := by decide +kernel
theorem d_Br_given_34 : decode prog_1_method_10_code 34 = .ok (.aaload, 1) := by decide +kernel
theorem d_Br_given_35 : decode prog_1_method_10_code 35 = .ok (.getfield 110, 3) := by decide +kernel
theorem d_Br_given_38 : decode prog_1_method_10_code 38 = .ok (.iload_n 2, 1) := by decide +kernel
theorem d_Br_given_39 : decode prog_1_method_10_code 39 = .ok (.iaload, 1) := by decide +kernel
theorem d_Br_given_40 : decode prog_1_method_10_code 40 = .ok (.istore 4, 2) := by decide +kernel
theorem d_Br_given_42 : decode prog_1_method_10_code 42 = .ok (.aload_n 0, 1) := by decide +kernel
theorem d_Br_given_43 : decode prog_1_method_10_code 43 = .ok (.getfield 20, 3) := by decide +kernel
theorem d_Br_given_46 : decode prog_1_method_10_code 46 = .ok (.iload_n 1, 1) := by decide +kernel
theorem d_Br_given_47 : decode prog_1_method_10_code 47 = .ok (.aaload, 1) := by decide +kernel
theorem d_Br_given_48 : decode prog_1_method_10_code 48 = .ok (.getfield 110, 3) := by decide +kernel
theorem d_Br_given_51 : decode prog_1_method_10_code 51 = .ok (.iload_n 2, 1) := by decide +kernel
theorem d_Br_given_52 : decode prog_1_method_10_code 52 = .ok (.iload_n 3, 1) := by decide +kernel
theorem d_Br_given_53 : decode prog_1_method_10_code 53 = .ok (.iastore, 1) := by decide +kernel
theorem d_Br_given_54 : decode prog_1_method_10_code 54 = .ok (.aload_n 0, 1) := by decide +kernel
theorem d_Br_given_55 : decode prog_1_method_10_code 55 = .ok (.getfield 10, 3) := by decide +kernel
theorem d_Br_given_58 : decode prog_1_method_10_code 58 = .ok (.iload_n 1, 1) := by decide +kernel
theorem d_Br_given_59 : decode prog_1_method_10_code 59 = .ok (.invokevirtual 59, 3) := by decide +kernel
theorem d_Br_given_62 : decode prog_1_method_10_code 62 = .ok (.iload 4, 2) := by decide +kernel
theorem d_Br_given_64 : decode prog_1_method_10_code 64 = .ok (.iconst (-1), 1) := by decide +kernel
theorem d_Br_given_65 : decode prog_1_method_10_code 65 = .ok (.if_icmp .ne 8, 3) := by decide +kernel
theorem d_Br_given_68 : decode prog_1_method_10_code 68 = .ok (.bipush (-2), 2) := by decide +kernel
theorem d_Br_given_70 : decode prog_1_method_10_code 70 = .ok (.goto 5, 3) := by decide +kernel
theorem d_Br_given_73 : decode prog_1_method_10_code 73 = .ok (.iload 4, 2) := by decide +kernel
theorem d_Br_given_75 : decode prog_1_method_10_code 75 = .ok (.ireturn, 1) := by decide +kernel
def wp_Rm_figure (Post : Int32 → MH → Prop) (l0 : Nat) (l1 : Int32) (l2 : Int32) (l3 : Int32) (h : MH) : Prop :=
  (∃ o : MV, gF h l0 6 0 = some o) ∧ ∀ h2 : MH, h2 = fset h l0 0 (.inl (0 : Int32) : MV) →
  (gC h2 l0 = some 6 ∧ wp_Rm_noChord (fun (r7 : Int32) (h7 : MH) =>
      (((¬ r7 = 0) →
          (Post (-1 : Int32) h7)) ∧
        ((r7 = 0) →
          (wp_Rm_in (fun (r21 : Int32) (h21 : MH) =>
              (((r21 = 0) →
                  (Post (-1 : Int32) h21)) ∧
                ((¬ r21 = 0) →
                  (wp_Rm_in (fun (r33 : Int32) (h33 : MH) =>
                      (((¬ r33 = 0) →
                        (∃ x42 : Nat, gF h33 l0 6 6 = some (.inr (some x42)) ∧
                        (∃ (n51 : Nat) (f51 : Nat → Int32), gA h33 x42 0 = some (n51, f51) ∧ vp_in (((10 : Int32) * l1) + l2) n51 ∧
                        (∀ z52 : Int32, z52 = f51 (((10 : Int32) * l1) + l2).toNatClampNeg →
                        (∃ x55 : Nat, gF h33 l0 6 6 = some (.inr (some x55)) ∧
                        (∃ (n67 : Nat) (f67 : Nat → Int32), gA h33 x55 0 = some (n67, f67) ∧ vp_in (((10 : Int32) * l1) + l2) n67 ∧ ∀ h67 : MH, h67 = mset h33 x55 (.inr (0, n67, .inl (upd f67 (((10 : Int32) * l1) + l2).toNatClampNeg (l3 + (1 : Int32))))) →
                        (gC h67 l0 = some 6 ∧ wp_Rm_many_i1 (fun (r70 : Int32) (h70 : MH) =>
                        (((r70 ≤ (3 : Int32)) →
                        ((∃ o : MV, gF h70 l0 6 19 = some o) ∧ ∀ h99 : MH, h99 = fset h70 l0 19 (.inl (0 : Int32) : MV) →
                        (Post r70 h99))) ∧
                        ((¬ r70 ≤ (3 : Int32)) →
                        (∃ x82 : Nat, gF h70 l0 6 6 = some (.inr (some x82)) ∧
                        (∃ (n93 : Nat) (f93 : Nat → Int32), gA h70 x82 0 = some (n93, f93) ∧ vp_in (((10 : Int32) * l1) + l2) n93 ∧ ∀ h93 : MH, h93 = mset h70 x82 (.inr (0, n93, .inl (upd f93 (((10 : Int32) * l1) + l2).toNatClampNeg z52))) →
                        (Post (-3 : Int32) h93)))))) l0 l1 h67))))))) ∧
                        ((r33 = 0) →
                        (Post (-1 : Int32) h33)))) ((l3).toInt64) (0 : Int64) (3 : Int64) h21)))) ((l2).toInt64) (2 : Int64) (9 : Int64) h7)))) l0 l1 h2)
set_option maxRecDepth 100000 in
set_option maxHeartbeats 4000000 in
theorem t_Rm_figure {p : Program} {l : Launch} {e : Env} {R : Room} {s : State} {m : MethodId} {args : Array Value} {below : List Frame} {meth : Method} {c : Code} (G : mG) (C0 : Cx G p s m args c prog_8_method_8_code 6 "BassRealiserModel") (hR : 3 ≤ R.frames ∧ 69 ≤ R.locals ∧ 0 ≤ R.cells ∧ 0 ≤ R.slots) (hr : meth.sig.returnType = some .int) (hlk : meth.locks = false) {Post : Int32 → MH → Prop} (l0 : Nat) (l1 : Int32) (l2 : Int32) (l3 : Int32) (h : MH) (hwp : wp_Rm_figure Post l0 l1 l2 l3 h) : WG p l e R s m args below meth c 0 0 (MQ below (va_Qi Post (Wd G) (mA G)) args s 0 0 (mA G)) G 6 [(0, .ref (m_b G + l0)), (1, .int l1), (2, .int l2), (3, .int l3)] 0 [] h := by
  unfold wp_Rm_figure at hwp
  refine x_aload_n C0 0 d_Rm_figure_0 rfl rfl ?_
  refine x_iconst (v := 0) C0 d_Rm_figure_1 (by decide) ?_
  obtain ⟨⟨o2, e2⟩, hwp⟩ := hwp
  refine x_put (x := (.inl (0 : Int32) : MV)) C0 pk_Rm_1 e2 rfl rfl d_Rm_figure_2 ?_
  refine x_nh (fun h2 eh2 => ?_)
  replace hwp := hwp h2 eh2
  refine x_aload_n C0 0 d_Rm_figure_5 rfl rfl ?_
  refine x_iload_n C0 1 d_Rm_figure_6 rfl rfl ?_
  obtain ⟨g7, hwp⟩ := hwp
  refine x_callVi0 (k := l0) (As := [.int l1]) (st := []) C0 (c_Rm_noChord l G hwp) kw_3_191 mk_Rm_noChord vk_Rm_noChord rfl g7 rfl (Nat.le_of_ble_eq_true rfl) rfl rfl ⟨Nat.le_trans (by decide) hR.1, Nat.le_trans (by decide) hR.2.1⟩ ⟨Nat.zero_le _, Nat.zero_le _⟩ rfl d_Rm_figure_7 (fun r7 h7 hwp => ?_)
  refine x_if_ne (tgt := 39) C0 d_Rm_figure_10 (by decide) (fun c10 => ?_) (fun c10 => ?_)
  · replace hwp := hwp.1 c10
    refine x_iconst (v := -1) C0 d_Rm_figure_39 (by decide) ?_
    exact x_iret C0 hr hlk hwp d_Rm_figure_40
  · replace hwp := hwp.2 c10
    refine x_iload_n C0 2 d_Rm_figure_13 rfl rfl ?_
    refine x_i2l C0 d_Rm_figure_14 ?_
    refine x_ldc2 (v := 2) C0 kw_3_195 d_Rm_figure_15 ?_
    refine x_ldc2 (v := 9) C0 kw_3_196 d_Rm_figure_18 ?_
    refine x_callSi0 (As := [.long ((l2).toInt64), .long (2 : Int64), .long (9 : Int64)]) (st := []) C0 (c_Rm_in l G hwp) kw_3_173 mk_Rm_in kw_3_174 rfl (Nat.le_of_ble_eq_true rfl) rfl rfl ⟨Nat.le_trans (by decide) hR.1, Nat.le_trans (by decide) hR.2.1⟩ ⟨Nat.zero_le _, Nat.zero_le _⟩ rfl d_Rm_figure_21 (fun r21 h21 hwp => ?_)
    refine x_if_eq (tgt := 39) C0 d_Rm_figure_24 (by decide) (fun c24 => ?_) (fun c24 => ?_)
    · replace hwp := hwp.1 c24
      refine x_iconst (v := -1) C0 d_Rm_figure_39 (by decide) ?_
      exact x_iret C0 hr hlk hwp d_Rm_figure_40
    · replace hwp := hwp.2 c24
      refine x_iload_n C0 3 d_Rm_figure_27 rfl rfl ?_
      refine x_i2l C0 d_Rm_figure_28 ?_
      refine x_lconst (v := 0) C0 d_Rm_figure_29 (by decide) ?_
      refine x_ldc2 (v := 3) C0 kw_3_197 d_Rm_figure_30 ?_
      refine x_callSi0 (As := [.long ((l3).toInt64), .long (0 : Int64), .long (3 : Int64)]) (st := []) C0 (c_Rm_in l G hwp) kw_3_173 mk_Rm_in kw_3_174 rfl (Nat.le_of_ble_eq_true rfl) rfl rfl ⟨Nat.le_trans (by decide) hR.1, Nat.le_trans (by decide) hR.2.1⟩ ⟨Nat.zero_le _, Nat.zero_le _⟩ rfl d_Rm_figure_33 (fun r33 h33 hwp => ?_)
      refine x_if_ne (tgt := 41) C0 d_Rm_figure_36 (by decide) (fun c36 => ?_) (fun c36 => ?_)
      · replace hwp := hwp.1 c36
        refine x_aload_n C0 0 d_Rm_figure_41 rfl rfl ?_
        obtain ⟨x42, e42, hwp⟩ := hwp
        refine x_getR C0 fk_Rm_23 e42 d_Rm_figure_42 ?_
        refine x_bipush (v := 10) C0 d_Rm_figure_45 (by decide) ?_
        refine x_iload_n C0 1 d_Rm_figure_47 rfl rfl ?_
        refine x_imul C0 d_Rm_figure_48 ?_
        refine x_iload_n C0 2 d_Rm_figure_49 rfl rfl ?_
        refine x_iadd C0 d_Rm_figure_50 ?_
        obtain ⟨n51, f51, e51, i51, hwp⟩ := hwp
        refine x_iald C0 e51 i51 d_Rm_figure_51 ?_
        refine x_topI (fun z52 e52 => ?_)
        replace hwp := hwp z52 e52
        refine x_istore C0 d_Rm_figure_52 (by decide) (lv' := [(4, .int z52), (0, .ref (m_b G + l0)), (1, .int l1), (2, .int l2), (3, .int l3)]) rfl ?_
        refine x_aload_n C0 1 d_Rm_figure_54 rfl rfl ?_
        obtain ⟨x55, e55, hwp⟩ := hwp
        refine x_getR C0 fk_Rm_23 e55 d_Rm_figure_55 ?_
        refine x_bipush (v := 10) C0 d_Rm_figure_58 (by decide) ?_
        refine x_iload_n C0 2 d_Rm_figure_60 rfl rfl ?_
        refine x_imul C0 d_Rm_figure_61 ?_
        refine x_iload_n C0 3 d_Rm_figure_62 rfl rfl ?_
        refine x_iadd C0 d_Rm_figure_63 ?_
        refine x_iload_n C0 4 d_Rm_figure_64 rfl rfl ?_
        refine x_iconst (v := 1) C0 d_Rm_figure_65 (by decide) ?_
        refine x_iadd C0 d_Rm_figure_66 ?_
        obtain ⟨n67, f67, e67, i67, hwp⟩ := hwp
        refine x_iast C0 e67 i67 d_Rm_figure_67 ?_
        refine x_nh (fun h67 eh67 => ?_)
        replace hwp := hwp h67 eh67
        refine x_aload_n C0 1 d_Rm_figure_68 rfl rfl ?_
        refine x_iload_n C0 2 d_Rm_figure_69 rfl rfl ?_
        obtain ⟨g70, hwp⟩ := hwp
        refine x_callVi0 (k := l0) (As := [.int l1]) (st := []) C0 (c_Rm_many_i1 l G hwp) kw_3_198 mk_Rm_many_i1 vk_Rm_many_i1 rfl g70 rfl (Nat.le_of_ble_eq_true rfl) rfl rfl ⟨Nat.le_trans (by decide) hR.1, Nat.le_trans (by decide) hR.2.1⟩ ⟨Nat.zero_le _, Nat.zero_le _⟩ rfl d_Rm_figure_70 (fun r70 h70 hwp => ?_)
        refine x_istore C0 d_Rm_figure_73 (by decide) (lv' := [(5, .int r70), (4, .int z52), (0, .ref (m_b G + l0)), (1, .int l1), (2, .int l2), (3, .int l3)]) rfl ?_
        refine x_iload C0 0 d_Rm_figure_75 rfl ?_
        refine x_iconst (v := 3) C0 d_Rm_figure_77 (by decide) ?_
        refine x_icmp_le (tgt := 97) C0 d_Rm_figure_78 (by decide) (fun c78 => ?_) (fun c78 => ?_)
        · replace hwp := hwp.1 c78
          refine x_aload_n C0 2 d_Rm_figure_97 rfl rfl ?_
          refine x_iconst (v := 0) C0 d_Rm_figure_98 (by decide) ?_
          obtain ⟨⟨o99, e99⟩, hwp⟩ := hwp
          refine x_put (x := (.inl (0 : Int32) : MV)) C0 pk_Rm_93 e99 rfl rfl d_Rm_figure_99 ?_
          refine x_nh (fun h99 eh99 => ?_)
          replace hwp := hwp h99 eh99
          refine x_iload C0 0 d_Rm_figure_102 rfl ?_
          exact x_iret C0 hr hlk hwp d_Rm_figure_104
        · replace hwp := hwp.2 c78
          refine x_aload_n C0 2 d_Rm_figure_81 rfl rfl ?_
          obtain ⟨x82, e82, hwp⟩ := hwp
          refine x_getR C0 fk_Rm_23 e82 d_Rm_figure_82 ?_
          refine x_bipush (v := 10) C0 d_Rm_figure_85 (by decide) ?_
          refine x_iload_n C0 3 d_Rm_figure_87 rfl rfl ?_
          refine x_imul C0 d_Rm_figure_88 ?_
          refine x_iload_n C0 4 d_Rm_figure_89 rfl rfl ?_
          refine x_iadd C0 d_Rm_figure_90 ?_
          refine x_iload C0 1 d_Rm_figure_91 rfl ?_
          obtain ⟨n93, f93, e93, i93, hwp⟩ := hwp
          refine x_iast C0 e93 i93 d_Rm_figure_93 ?_
          refine x_nh (fun h93 eh93 => ?_)
          replace hwp := hwp h93 eh93
          refine x_bipush (v := -3) C0 d_Rm_figure_94 (by decide) ?_
          exact x_iret C0 hr hlk hwp d_Rm_figure_96
      · replace hwp := hwp.2 c36
        refine x_iconst (v := -1) C0 d_Rm_figure_39 (by decide) ?_
        exact x_iret C0 hr hlk hwp d_Rm_figure_40
set_option maxRecDepth 100000 in
set_option maxHeartbeats 4000000 in
theorem c_Rm_figure (l : Launch) (G : mG) {Post : Int32 → MH → Prop} {l0 : Nat} {l1 : Int32} {l2 : Int32} {l3 : Int32} {h : MH} (hwp : wp_Rm_figure Post l0 l1 l2 l3 h) : Met l y_Rm_figure (Cond.code y_Rm_figure prog_8_method_8_code 6 (Option.some Jvm.ClassFile.FieldType.int) :: lw_good) ({ frames := 3, cells := 0, slots := 0, locals := 69 }) (va_Pc [.ref (m_b G + l0), .int l1, .int l2, .int l3] (Wd G h)) (va_Qi Post (Wd G) (mA G)) 0 0 (mA G) := by
  refine Met.ofW (cc := prog_8_method_8_code) (maxL := 6) (ret := (Option.some Jvm.ClassFile.FieldType.int)) (by decide +kernel) rfl ?_
  intro p e s m args below meth c s₁ B hml hv
  obtain ⟨rfl, hP, hz, hK, hSt⟩ := hv
  have hts := atoms_spec (ws := Cond.code y_Rm_figure prog_8_method_8_code 6 (Option.some Jvm.ClassFile.FieldType.int) :: lw_good) B.pre
  have C0 : Cx G p s m ([.ref (m_b G + l0), .int l1, .int l2, .int l3] : List Value).toArray c prog_8_method_8_code 6 "BassRealiserModel" := ⟨⟨B.exec, B.bytes, hml, findClass_of_methodNamed B.named, fun w h => hts w (List.mem_cons_of_mem _ h)⟩, hK, hSt, by rw [hz]; exact Nat.le_add_right _ _⟩
  have hl := lv_entry ([.ref (m_b G + l0), .int l1, .int l2, .int l3]) (n := 6) (Nat.le_of_ble_eq_true rfl)
  rw [lg_entry_eq]
  exact t_Rm_figure G C0 ⟨Nat.le_refl _, Nat.le_refl _, Nat.le_refl _, Nat.le_refl _⟩ B.returns B.notSynchronized _ _ _ _ _ hwp _ _ _ ⟨hP, hz, va_S.rf⟩ hl
def wp_Br_plain (Post : Int32 → MH → Prop) (l0 : Nat) (l1 : Int32) (h : MH) : Prop :=
  gC h l0 = some 5 ∧ wp_Br_hasChord (fun (r2 : Int32) (h2 : MH) =>
    (((¬ r2 = 0) →
        (∃ x11 : Nat, gF h2 l0 5 1 = some (.inr (some x11)) ∧
          (∃ (n15 : Nat) (f15 : Nat → Option Nat) (q15 : Nat), gR h2 x11 3 = some (n15, f15) ∧ vp_in l1 n15 ∧ f15 (l1).toNatClampNeg = some q15 ∧
            (∃ x16 : Int32, gF h2 q15 0 2 = some (.inl x16) ∧
              (wp_In_bitCount (fun (r19 : Int32) (h19 : MH) =>
                  (∃ x24 : Nat, gF h19 l0 5 1 = some (.inr (some x24)) ∧
                    (∃ (n28 : Nat) (f28 : Nat → Option Nat) (q28 : Nat), gR h19 x24 3 = some (n28, f28) ∧ vp_in l1 n28 ∧ f28 (l1).toNatClampNeg = some q28 ∧
                      (gC h19 q28 = some 0 ∧ wp_Ch_untell (fun (h29 : MH) =>
                        (∃ x33 : Nat, gF h29 l0 5 1 = some (.inr (some x33)) ∧
                        (∃ (n37 : Nat) (f37 : Nat → Option Nat) (q37 : Nat), gR h29 x33 3 = some (n37, f37) ∧ vp_in l1 n37 ∧ f37 (l1).toNatClampNeg = some q37 ∧
                        (∃ x39 : Nat, gF h29 l0 5 2 = some (.inr (some x39)) ∧
                        (∃ x42 : Int32, gF h29 x39 3 4 = some (.inl x42) ∧
                        (gC h29 q37 = some 0 ∧ wp_Ch_tune (fun (h45 : MH) =>
                        (∃ x49 : Nat, gF h45 l0 5 0 = some (.inr (some x49)) ∧
                        (gC h45 x49 = some 4 ∧ wp_Se_forgetChord (fun (h53 : MH) =>
                        (Post r19 h53)) x49 l1 h45))) q37 x42 h29)))))) q28 h19)))) x16 h2))))) ∧
      ((r2 = 0) →
        (Post (-1 : Int32) h2)))) l0 l1 h
set_option maxRecDepth 100000 in
set_option maxHeartbeats 4000000 in
theorem t_Br_plain {p : Program} {l : Launch} {e : Env} {R : Room} {s : State} {m : MethodId} {args : Array Value} {below : List Frame} {meth : Method} {c : Code} (G : mG) (C0 : Cx G p s m args c prog_1_method_6_code 3 "BassRealiser") (hR : 5 ≤ R.frames ∧ 112 ≤ R.locals ∧ 0 ≤ R.cells ∧ 0 ≤ R.slots) (hr : meth.sig.returnType = some .int) (hlk : meth.locks = false) {Post : Int32 → MH → Prop} (l0 : Nat) (l1 : Int32) (h : MH) (hwp : wp_Br_plain Post l0 l1 h) : WG p l e R s m args below meth c 0 0 (MQ below (va_Qi Post (Wd G) (mA G)) args s 0 0 (mA G)) G 3 [(0, .ref (m_b G + l0)), (1, .int l1)] 0 [] h := by
  unfold wp_Br_plain at hwp
  refine x_aload_n C0 0 d_Br_plain_0 rfl rfl ?_
  refine x_iload_n C0 1 d_Br_plain_1 rfl rfl ?_
  obtain ⟨g2, hwp⟩ := hwp
  refine x_callVi0 (k := l0) (As := [.int l1]) (st := []) C0 (c_Br_hasChord l G hwp) kw_2_64 mk_Br_hasChord vk_Br_hasChord rfl g2 rfl (Nat.le_of_ble_eq_true rfl) rfl rfl ⟨Nat.le_trans (by decide) hR.1, Nat.le_trans (by decide) hR.2.1⟩ ⟨Nat.zero_le _, Nat.zero_le _⟩ rfl d_Br_plain_2 (fun r2 h2 hwp => ?_)
  refine x_if_ne (tgt := 10) C0 d_Br_plain_5 (by decide) (fun c5 => ?_) (fun c5 => ?_)
  · replace hwp := hwp.1 c5
    refine x_aload_n C0 0 d_Br_plain_10 rfl rfl ?_
    obtain ⟨x11, e11, hwp⟩ := hwp
    refine x_getR C0 fk_Br_20 e11 d_Br_plain_11 ?_
    refine x_iload_n C0 1 d_Br_plain_14 rfl rfl ?_
    obtain ⟨n15, f15, q15, e15, i15, g15, hwp⟩ := hwp
    refine x_aald (t := 3) C0 e15 rfl i15 g15 d_Br_plain_15 ?_
    obtain ⟨x16, e16, hwp⟩ := hwp
    refine x_getI C0 fk_Br_66 e16 d_Br_plain_16 ?_
    refine x_callSi0 (As := [.int x16]) (st := []) C0 (c_In_bitCount l G hwp) kw_2_69 mk_In_bitCount kw_2_70 rfl (Nat.le_of_ble_eq_true rfl) rfl rfl ⟨Nat.le_trans (by decide) hR.1, Nat.le_trans (by decide) hR.2.1⟩ ⟨Nat.zero_le _, Nat.zero_le _⟩ rfl d_Br_plain_19 (fun r19 h19 hwp => ?_)
    refine x_istore_n C0 d_Br_plain_22 rfl (by decide) (lv' := [(2, .int r19), (0, .ref (m_b G + l0)), (1, .int l1)]) rfl ?_
    refine x_aload_n C0 1 d_Br_plain_23 rfl rfl ?_
    obtain ⟨x24, e24, hwp⟩ := hwp
    refine x_getR C0 fk_Br_20 e24 d_Br_plain_24 ?_
    refine x_iload_n C0 2 d_Br_plain_27 rfl rfl ?_
    obtain ⟨n28, f28, q28, e28, i28, g28, hwp⟩ := hwp
    refine x_aald (t := 3) C0 e28 rfl i28 g28 d_Br_plain_28 ?_
    obtain ⟨g29, hwp⟩ := hwp
    refine x_callVv0 (k := q28) (As := []) (st := []) C0 (c_Ch_untell l G hwp) kw_2_83 mk_Ch_untell vk_Ch_untell rfl g29 rfl (Nat.le_of_ble_eq_true rfl) rfl rfl ⟨Nat.le_trans (by decide) hR.1, Nat.le_trans (by decide) hR.2.1⟩ ⟨Nat.zero_le _, Nat.zero_le _⟩ rfl d_Br_plain_29 (fun h29 hwp => ?_)
    refine x_aload_n C0 1 d_Br_plain_32 rfl rfl ?_
    obtain ⟨x33, e33, hwp⟩ := hwp
    refine x_getR C0 fk_Br_20 e33 d_Br_plain_33 ?_
    refine x_iload_n C0 2 d_Br_plain_36 rfl rfl ?_
    obtain ⟨n37, f37, q37, e37, i37, g37, hwp⟩ := hwp
    refine x_aald (t := 3) C0 e37 rfl i37 g37 d_Br_plain_37 ?_
    refine x_aload_n C0 1 d_Br_plain_38 rfl rfl ?_
    obtain ⟨x39, e39, hwp⟩ := hwp
    refine x_getR C0 fk_Br_25 e39 d_Br_plain_39 ?_
    obtain ⟨x42, e42, hwp⟩ := hwp
    refine x_getI C0 fk_Br_41 e42 d_Br_plain_42 ?_
    obtain ⟨g45, hwp⟩ := hwp
    refine x_callVv0 (k := q37) (As := [.int x42]) (st := []) C0 (c_Ch_tune l G hwp) kw_1_229 mk_Ch_tune vk_Ch_tune rfl g45 rfl (Nat.le_of_ble_eq_true rfl) rfl rfl ⟨Nat.le_trans (by decide) hR.1, Nat.le_trans (by decide) hR.2.1⟩ ⟨Nat.zero_le _, Nat.zero_le _⟩ rfl d_Br_plain_45 (fun h45 hwp => ?_)
    refine x_aload_n C0 1 d_Br_plain_48 rfl rfl ?_
    obtain ⟨x49, e49, hwp⟩ := hwp
    refine x_getR C0 fk_Br_10 e49 d_Br_plain_49 ?_
    refine x_iload_n C0 2 d_Br_plain_52 rfl rfl ?_
    obtain ⟨g53, hwp⟩ := hwp
    refine x_callVv0 (k := x49) (As := [.int l1]) (st := []) C0 (c_Se_forgetChord l G hwp) kw_2_52 mk_Se_forgetChord vk_Se_forgetChord rfl g53 rfl (Nat.le_of_ble_eq_true rfl) rfl rfl ⟨Nat.le_trans (by decide) hR.1, Nat.le_trans (by decide) hR.2.1⟩ ⟨Nat.zero_le _, Nat.zero_le _⟩ rfl d_Br_plain_53 (fun h53 hwp => ?_)
    refine x_iload_n C0 0 d_Br_plain_56 rfl rfl ?_
    exact x_iret C0 hr hlk hwp d_Br_plain_57
  · replace hwp := hwp.2 c5
    refine x_iconst (v := -1) C0 d_Br_plain_8 (by decide) ?_
    exact x_iret C0 hr hlk hwp d_Br_plain_9
set_option maxRecDepth 100000 in
set_option maxHeartbeats 4000000 in
theorem c_Br_plain (l : Launch) (G : mG) {Post : Int32 → MH → Prop} {l0 : Nat} {l1 : Int32} {h : MH} (hwp : wp_Br_plain Post l0 l1 h) : Met l y_Br_plain (Cond.code y_Br_plain prog_1_method_6_code 3 (Option.some Jvm.ClassFile.FieldType.int) :: lw_good) ({ frames := 5, cells := 0, slots := 0, locals := 112 }) (va_Pc [.ref (m_b G + l0), .int l1] (Wd G h)) (va_Qi Post (Wd G) (mA G)) 0 0 (mA G) := by
  refine Met.ofW (cc := prog_1_method_6_code) (maxL := 3) (ret := (Option.some Jvm.ClassFile.FieldType.int)) (by decide +kernel) rfl ?_
  intro p e s m args below meth c s₁ B hml hv
  obtain ⟨rfl, hP, hz, hK, hSt⟩ := hv
  have hts := atoms_spec (ws := Cond.code y_Br_plain prog_1_method_6_code 3 (Option.some Jvm.ClassFile.FieldType.int) :: lw_good) B.pre
  have C0 : Cx G p s m ([.ref (m_b G + l0), .int l1] : List Value).toArray c prog_1_method_6_code 3 "BassRealiser" := ⟨⟨B.exec, B.bytes, hml, findClass_of_methodNamed B.named, fun w h => hts w (List.mem_cons_of_mem _ h)⟩, hK, hSt, by rw [hz]; exact Nat.le_add_right _ _⟩
  have hl := lv_entry ([.ref (m_b G + l0), .int l1]) (n := 3) (Nat.le_of_ble_eq_true rfl)
  rw [lg_entry_eq]
  exact t_Br_plain G C0 ⟨Nat.le_refl _, Nat.le_refl _, Nat.le_refl _, Nat.le_refl _⟩ B.returns B.notSynchronized _ _ _ hwp _ _ _ ⟨hP, hz, va_S.rf⟩ hl
def wp_Rm_plain_46 (K19 : Nat → Int32 → Int32 → Int32 → MH → Prop) (Post : Int32 → MH → Prop) (l0 : Nat) (l1 : Int32) (l3 : Int32) (y0 : Int32) (h : MH) : Prop :=
  ∃ x48 : Nat, gF h l0 6 6 = some (.inr (some x48)) ∧
  (∃ (n58 : Nat) (f58 : Nat → Int32), gA h x48 0 = some (n58, f58) ∧ vp_in (((10 : Int32) * l1) + l3) n58 ∧ ∀ h58 : MH, h58 = mset h x48 (.inr (0, n58, .inl (upd f58 (((10 : Int32) * l1) + l3).toNatClampNeg (0 : Int32)))) →
    (K19 l0 l1 y0 (l3 + (1 : Int32)) h58))
def wb_Rm_plain_19 (K19 : Nat → Int32 → Int32 → Int32 → MH → Prop) (Post : Int32 → MH → Prop) (l0 : Nat) (l1 : Int32) (l2 : Int32) (l3 : Int32) (h : MH) : Prop :=
  (((10 : Int32) ≤ l3) →
    ((∃ o : MV, gF h l0 6 19 = some o) ∧ ∀ h67 : MH, h67 = fset h l0 19 (.inl (0 : Int32) : MV) →
      (Post l2 h67))) ∧
  ((¬ (10 : Int32) ≤ l3) →
    (∃ x26 : Nat, gF h l0 6 6 = some (.inr (some x26)) ∧
      (∃ (n35 : Nat) (f35 : Nat → Int32), gA h x26 0 = some (n35, f35) ∧ vp_in (((10 : Int32) * l1) + l3) n35 ∧
        ((((f35 (((10 : Int32) * l1) + l3).toNatClampNeg) ≤ 0) →
            (wp_Rm_plain_46 K19 Post l0 l1 l3 l2 h)) ∧
          ((¬ (f35 (((10 : Int32) * l1) + l3).toNatClampNeg) ≤ 0) →
            (wp_Rm_plain_46 K19 Post l0 l1 l3 (l2 + (1 : Int32)) h))))))
def wn_Rm_plain_19 (Post : Int32 → MH → Prop) : Nat → Nat → Int32 → Int32 → Int32 → MH → Prop
  | 0 => fun _ _ _ _ _ => False
  | n + 1 => wb_Rm_plain_19 (wn_Rm_plain_19 Post n) Post
def wp_Rm_plain_19 (Post : Int32 → MH → Prop) (l0 : Nat) (l1 : Int32) (l2 : Int32) (l3 : Int32) (h : MH) : Prop := ∃ n, wn_Rm_plain_19 Post n l0 l1 l2 l3 h
def wp_Rm_plain (Post : Int32 → MH → Prop) (l0 : Nat) (l1 : Int32) (h : MH) : Prop :=
  (∃ o : MV, gF h l0 6 0 = some o) ∧ ∀ h2 : MH, h2 = fset h l0 0 (.inl (0 : Int32) : MV) →
  (gC h2 l0 = some 6 ∧ wp_Rm_noChord (fun (r7 : Int32) (h7 : MH) =>
      (((r7 = 0) →
          (wp_Rm_plain_19 Post l0 l1 (0 : Int32) (2 : Int32) h7)) ∧
        ((¬ r7 = 0) →
          (Post (-1 : Int32) h7)))) l0 l1 h2)
set_option maxRecDepth 100000 in
set_option maxHeartbeats 4000000 in
theorem t_Rm_plain_46 {p : Program} {l : Launch} {e : Env} {R : Room} {s : State} {m : MethodId} {args : Array Value} {below : List Frame} {meth : Method} {c : Code} (G : mG) (C0 : Cx G p s m args c prog_8_method_9_code 4 "BassRealiserModel") (hR : 2 ≤ R.frames ∧ 46 ≤ R.locals ∧ 0 ≤ R.cells ∧ 0 ≤ R.slots) (hr : meth.sig.returnType = some .int) (hlk : meth.locks = false) {Post : Int32 → MH → Prop} {K19 : Nat → Int32 → Int32 → Int32 → MH → Prop} (hK19 : ∀ (l0 : Nat) (l1 : Int32) (l2 : Int32) (l3 : Int32) (h : MH), K19 l0 l1 l2 l3 h → WG p l e R s m args below meth c 0 0 (MQ below (va_Qi Post (Wd G) (mA G)) args s 0 0 (mA G)) G 4 [(0, .ref (m_b G + l0)), (1, .int l1), (2, .int l2), (3, .int l3)] 19 [] h) (l0 : Nat) (l1 : Int32) (l3 : Int32) (y0 : Int32) (h : MH) (hwp : wp_Rm_plain_46 K19 Post l0 l1 l3 y0 h) : WG p l e R s m args below meth c 0 0 (MQ below (va_Qi Post (Wd G) (mA G)) args s 0 0 (mA G)) G 4 [(0, .ref (m_b G + l0)), (1, .int l1), (3, .int l3)] 46 [.int y0] h := by
  unfold wp_Rm_plain_46 at hwp
  refine x_istore_n C0 d_Rm_plain_46 rfl (by decide) (lv' := [(2, .int y0), (0, .ref (m_b G + l0)), (1, .int l1), (3, .int l3)]) rfl ?_
  refine x_aload_n C0 1 d_Rm_plain_47 rfl rfl ?_
  obtain ⟨x48, e48, hwp⟩ := hwp
  refine x_getR C0 fk_Rm_23 e48 d_Rm_plain_48 ?_
  refine x_bipush (v := 10) C0 d_Rm_plain_51 (by decide) ?_
  refine x_iload_n C0 2 d_Rm_plain_53 rfl rfl ?_
  refine x_imul C0 d_Rm_plain_54 ?_
  refine x_iload_n C0 3 d_Rm_plain_55 rfl rfl ?_
  refine x_iadd C0 d_Rm_plain_56 ?_
  refine x_iconst (v := 0) C0 d_Rm_plain_57 (by decide) ?_
  obtain ⟨n58, f58, e58, i58, hwp⟩ := hwp
  refine x_iast C0 e58 i58 d_Rm_plain_58 ?_
  refine x_nh (fun h58 eh58 => ?_)
  replace hwp := hwp h58 eh58
  refine x_iinc C0 3 d_Rm_plain_59 rfl rfl (by decide) (lv' := [(3, .int (l3 + (1 : Int32))), (2, .int y0), (0, .ref (m_b G + l0)), (1, .int l1)]) rfl ?_
  refine x_goto (tgt := 19) C0 d_Rm_plain_62 (by decide) ?_
  exact x_sub [2, 3, 1, 0] rfl (hK19 _ _ _ _ _ hwp)
set_option maxRecDepth 100000 in
set_option maxHeartbeats 4000000 in
theorem tb_Rm_plain_19 {p : Program} {l : Launch} {e : Env} {R : Room} {s : State} {m : MethodId} {args : Array Value} {below : List Frame} {meth : Method} {c : Code} (G : mG) (C0 : Cx G p s m args c prog_8_method_9_code 4 "BassRealiserModel") (hR : 2 ≤ R.frames ∧ 46 ≤ R.locals ∧ 0 ≤ R.cells ∧ 0 ≤ R.slots) (hr : meth.sig.returnType = some .int) (hlk : meth.locks = false) {Post : Int32 → MH → Prop} {K19 : Nat → Int32 → Int32 → Int32 → MH → Prop} (hK19 : ∀ (l0 : Nat) (l1 : Int32) (l2 : Int32) (l3 : Int32) (h : MH), K19 l0 l1 l2 l3 h → WG p l e R s m args below meth c 0 0 (MQ below (va_Qi Post (Wd G) (mA G)) args s 0 0 (mA G)) G 4 [(0, .ref (m_b G + l0)), (1, .int l1), (2, .int l2), (3, .int l3)] 19 [] h) (l0 : Nat) (l1 : Int32) (l2 : Int32) (l3 : Int32) (h : MH) (hwp : wb_Rm_plain_19 K19 Post l0 l1 l2 l3 h) : WG p l e R s m args below meth c 0 0 (MQ below (va_Qi Post (Wd G) (mA G)) args s 0 0 (mA G)) G 4 [(0, .ref (m_b G + l0)), (1, .int l1), (2, .int l2), (3, .int l3)] 19 [] h := by
  unfold wb_Rm_plain_19 at hwp
  refine x_iload_n C0 3 d_Rm_plain_19 rfl rfl ?_
  refine x_bipush (v := 10) C0 d_Rm_plain_20 (by decide) ?_
  refine x_icmp_ge (tgt := 65) C0 d_Rm_plain_22 (by decide) (fun c22 => ?_) (fun c22 => ?_)
  · replace hwp := hwp.1 c22
    refine x_aload_n C0 0 d_Rm_plain_65 rfl rfl ?_
    refine x_iconst (v := 0) C0 d_Rm_plain_66 (by decide) ?_
    obtain ⟨⟨o67, e67⟩, hwp⟩ := hwp
    refine x_put (x := (.inl (0 : Int32) : MV)) C0 pk_Rm_93 e67 rfl rfl d_Rm_plain_67 ?_
    refine x_nh (fun h67 eh67 => ?_)
    replace hwp := hwp h67 eh67
    refine x_iload_n C0 2 d_Rm_plain_70 rfl rfl ?_
    exact x_iret C0 hr hlk hwp d_Rm_plain_71
  · replace hwp := hwp.2 c22
    refine x_aload_n C0 0 d_Rm_plain_25 rfl rfl ?_
    obtain ⟨x26, e26, hwp⟩ := hwp
    refine x_getR C0 fk_Rm_23 e26 d_Rm_plain_26 ?_
    refine x_bipush (v := 10) C0 d_Rm_plain_29 (by decide) ?_
    refine x_iload_n C0 1 d_Rm_plain_31 rfl rfl ?_
    refine x_imul C0 d_Rm_plain_32 ?_
    refine x_iload_n C0 3 d_Rm_plain_33 rfl rfl ?_
    refine x_iadd C0 d_Rm_plain_34 ?_
    obtain ⟨n35, f35, e35, i35, hwp⟩ := hwp
    refine x_iald C0 e35 i35 d_Rm_plain_35 ?_
    refine x_if_le (tgt := 45) C0 d_Rm_plain_36 (by decide) (fun c36 => ?_) (fun c36 => ?_)
    · replace hwp := hwp.1 c36
      refine x_iload_n C0 2 d_Rm_plain_45 rfl rfl ?_
      exact x_sub [0, 1, 3] rfl (t_Rm_plain_46 G C0 hR hr hlk hK19 _ _ _ _ _ hwp)
    · replace hwp := hwp.2 c36
      refine x_iload_n C0 2 d_Rm_plain_39 rfl rfl ?_
      refine x_iconst (v := 1) C0 d_Rm_plain_40 (by decide) ?_
      refine x_iadd C0 d_Rm_plain_41 ?_
      refine x_goto (tgt := 46) C0 d_Rm_plain_42 (by decide) ?_
      exact x_sub [0, 1, 3] rfl (t_Rm_plain_46 G C0 hR hr hlk hK19 _ _ _ _ _ hwp)
theorem t_Rm_plain_19 {p : Program} {l : Launch} {e : Env} {R : Room} {s : State} {m : MethodId} {args : Array Value} {below : List Frame} {meth : Method} {c : Code} (G : mG) (C0 : Cx G p s m args c prog_8_method_9_code 4 "BassRealiserModel") (hR : 2 ≤ R.frames ∧ 46 ≤ R.locals ∧ 0 ≤ R.cells ∧ 0 ≤ R.slots) (hr : meth.sig.returnType = some .int) (hlk : meth.locks = false) {Post : Int32 → MH → Prop} (l0 : Nat) (l1 : Int32) (l2 : Int32) (l3 : Int32) (h : MH) (hwp : wp_Rm_plain_19 Post l0 l1 l2 l3 h) : WG p l e R s m args below meth c 0 0 (MQ below (va_Qi Post (Wd G) (mA G)) args s 0 0 (mA G)) G 4 [(0, .ref (m_b G + l0)), (1, .int l1), (2, .int l2), (3, .int l3)] 19 [] h := by
  obtain ⟨n, hwp⟩ := hwp
  induction n generalizing l0 l1 l2 l3 h with
  | zero => exact False.elim hwp
  | succ n ih => exact tb_Rm_plain_19 G C0 hR hr hlk (fun l0 l1 l2 l3 h hwp => ih l0 l1 l2 l3 h hwp) l0 l1 l2 l3 h hwp
set_option maxRecDepth 100000 in
set_option maxHeartbeats 4000000 in
theorem t_Rm_plain {p : Program} {l : Launch} {e : Env} {R : Room} {s : State} {m : MethodId} {args : Array Value} {below : List Frame} {meth : Method} {c : Code} (G : mG) (C0 : Cx G p s m args c prog_8_method_9_code 4 "BassRealiserModel") (hR : 2 ≤ R.frames ∧ 46 ≤ R.locals ∧ 0 ≤ R.cells ∧ 0 ≤ R.slots) (hr : meth.sig.returnType = some .int) (hlk : meth.locks = false) {Post : Int32 → MH → Prop} (l0 : Nat) (l1 : Int32) (h : MH) (hwp : wp_Rm_plain Post l0 l1 h) : WG p l e R s m args below meth c 0 0 (MQ below (va_Qi Post (Wd G) (mA G)) args s 0 0 (mA G)) G 4 [(0, .ref (m_b G + l0)), (1, .int l1)] 0 [] h := by
  unfold wp_Rm_plain at hwp
  refine x_aload_n C0 0 d_Rm_plain_0 rfl rfl ?_
  refine x_iconst (v := 0) C0 d_Rm_plain_1 (by decide) ?_
  obtain ⟨⟨o2, e2⟩, hwp⟩ := hwp
  refine x_put (x := (.inl (0 : Int32) : MV)) C0 pk_Rm_1 e2 rfl rfl d_Rm_plain_2 ?_
  refine x_nh (fun h2 eh2 => ?_)
  replace hwp := hwp h2 eh2
  refine x_aload_n C0 0 d_Rm_plain_5 rfl rfl ?_
  refine x_iload_n C0 1 d_Rm_plain_6 rfl rfl ?_
  obtain ⟨g7, hwp⟩ := hwp
  refine x_callVi0 (k := l0) (As := [.int l1]) (st := []) C0 (c_Rm_noChord l G hwp) kw_3_191 mk_Rm_noChord vk_Rm_noChord rfl g7 rfl (Nat.le_of_ble_eq_true rfl) rfl rfl ⟨Nat.le_trans (by decide) hR.1, Nat.le_trans (by decide) hR.2.1⟩ ⟨Nat.zero_le _, Nat.zero_le _⟩ rfl d_Rm_plain_7 (fun r7 h7 hwp => ?_)
  refine x_if_eq (tgt := 15) C0 d_Rm_plain_10 (by decide) (fun c10 => ?_) (fun c10 => ?_)
  · replace hwp := hwp.1 c10
    refine x_iconst (v := 0) C0 d_Rm_plain_15 (by decide) ?_
    refine x_istore_n C0 d_Rm_plain_16 rfl (by decide) (lv' := [(2, .int (0 : Int32)), (0, .ref (m_b G + l0)), (1, .int l1)]) rfl ?_
    refine x_iconst (v := 2) C0 d_Rm_plain_17 (by decide) ?_
    refine x_istore_n C0 d_Rm_plain_18 rfl (by decide) (lv' := [(3, .int (2 : Int32)), (2, .int (0 : Int32)), (0, .ref (m_b G + l0)), (1, .int l1)]) rfl ?_
    exact x_sub [2, 3, 1, 0] rfl (t_Rm_plain_19 G C0 hR hr hlk  _ _ _ _ _ hwp)
  · replace hwp := hwp.2 c10
    refine x_iconst (v := -1) C0 d_Rm_plain_13 (by decide) ?_
    exact x_iret C0 hr hlk hwp d_Rm_plain_14
set_option maxRecDepth 100000 in
set_option maxHeartbeats 4000000 in
theorem c_Rm_plain (l : Launch) (G : mG) {Post : Int32 → MH → Prop} {l0 : Nat} {l1 : Int32} {h : MH} (hwp : wp_Rm_plain Post l0 l1 h) : Met l y_Rm_plain (Cond.code y_Rm_plain prog_8_method_9_code 4 (Option.some Jvm.ClassFile.FieldType.int) :: lw_good) ({ frames := 2, cells := 0, slots := 0, locals := 46 }) (va_Pc [.ref (m_b G + l0), .int l1] (Wd G h)) (va_Qi Post (Wd G) (mA G)) 0 0 (mA G) := by
  refine Met.ofW (cc := prog_8_method_9_code) (maxL := 4) (ret := (Option.some Jvm.ClassFile.FieldType.int)) (by decide +kernel) rfl ?_
  intro p e s m args below meth c s₁ B hml hv
  obtain ⟨rfl, hP, hz, hK, hSt⟩ := hv
  have hts := atoms_spec (ws := Cond.code y_Rm_plain prog_8_method_9_code 4 (Option.some Jvm.ClassFile.FieldType.int) :: lw_good) B.pre
  have C0 : Cx G p s m ([.ref (m_b G + l0), .int l1] : List Value).toArray c prog_8_method_9_code 4 "BassRealiserModel" := ⟨⟨B.exec, B.bytes, hml, findClass_of_methodNamed B.named, fun w h => hts w (List.mem_cons_of_mem _ h)⟩, hK, hSt, by rw [hz]; exact Nat.le_add_right _ _⟩
  have hl := lv_entry ([.ref (m_b G + l0), .int l1]) (n := 4) (Nat.le_of_ble_eq_true rfl)
  rw [lg_entry_eq]
  exact t_Rm_plain G C0 ⟨Nat.le_refl _, Nat.le_refl _, Nat.le_refl _, Nat.le_refl _⟩ B.returns B.notSynchronized _ _ _ hwp _ _ _ ⟨hP, hz, va_S.rf⟩ hl
def wp_Br_isVoice (Post : Int32 → MH → Prop) (l0 : Int32) (h : MH) : Prop :=
  ((l0 < 0) →
    (Post (0 : Int32) h)) ∧
  ((¬ l0 < 0) →
    ((((3 : Int32) ≤ l0) →
        (Post (0 : Int32) h)) ∧
      ((¬ (3 : Int32) ≤ l0) →
        (Post (1 : Int32) h))))
set_option maxRecDepth 100000 in
set_option maxHeartbeats 4000000 in
theorem t_Br_isVoice {p : Program} {l : Launch} {e : Env} {R : Room} {s : State} {m : MethodId} {args : Array Value} {below : List Frame} {meth : Method} {c : Code} (G : mG) (C0 : Cx G p s m args c prog_1_method_28_code 1 "BassRealiser") (hR : 0 ≤ R.frames ∧ 0 ≤ R.locals ∧ 0 ≤ R.cells ∧ 0 ≤ R.slots) (hr : meth.sig.returnType = some .boolean) (hlk : meth.locks = false) {Post : Int32 → MH → Prop} (l0 : Int32) (h : MH) (hwp : wp_Br_isVoice Post l0 h) : WG p l e R s m args below meth c 0 0 (MQ below (va_Qi Post (Wd G) (mA G)) args s 0 0 (mA G)) G 1 [(0, .int l0)] 0 [] h := by
  unfold wp_Br_isVoice at hwp
  refine x_iload_n C0 0 d_Br_isVoice_0 rfl rfl ?_
  refine x_if_lt (tgt := 13) C0 d_Br_isVoice_1 (by decide) (fun c1 => ?_) (fun c1 => ?_)
  · replace hwp := hwp.1 c1
    refine x_iconst (v := 0) C0 d_Br_isVoice_13 (by decide) ?_
    exact x_zret C0 hr rfl hlk hwp d_Br_isVoice_14
  · replace hwp := hwp.2 c1
    refine x_iload_n C0 0 d_Br_isVoice_4 rfl rfl ?_
    refine x_iconst (v := 3) C0 d_Br_isVoice_5 (by decide) ?_
    refine x_icmp_ge (tgt := 13) C0 d_Br_isVoice_6 (by decide) (fun c6 => ?_) (fun c6 => ?_)
    · replace hwp := hwp.1 c6
      refine x_iconst (v := 0) C0 d_Br_isVoice_13 (by decide) ?_
      exact x_zret C0 hr rfl hlk hwp d_Br_isVoice_14
    · replace hwp := hwp.2 c6
      refine x_iconst (v := 1) C0 d_Br_isVoice_9 (by decide) ?_
      refine x_goto (tgt := 14) C0 d_Br_isVoice_10 (by decide) ?_
      exact x_zret C0 hr rfl hlk hwp d_Br_isVoice_14
set_option maxRecDepth 100000 in
set_option maxHeartbeats 4000000 in
theorem c_Br_isVoice (l : Launch) (G : mG) {Post : Int32 → MH → Prop} {l0 : Int32} {h : MH} (hwp : wp_Br_isVoice Post l0 h) : Met l y_Br_isVoice (Cond.code y_Br_isVoice prog_1_method_28_code 1 (Option.some Jvm.ClassFile.FieldType.boolean) :: lw_good) ({ frames := 0, cells := 0, slots := 0, locals := 0 }) (va_Pc [.int l0] (Wd G h)) (va_Qi Post (Wd G) (mA G)) 0 0 (mA G) := by
  refine Met.ofW (cc := prog_1_method_28_code) (maxL := 1) (ret := (Option.some Jvm.ClassFile.FieldType.boolean)) (by decide +kernel) rfl ?_
  intro p e s m args below meth c s₁ B hml hv
  obtain ⟨rfl, hP, hz, hK, hSt⟩ := hv
  have hts := atoms_spec (ws := Cond.code y_Br_isVoice prog_1_method_28_code 1 (Option.some Jvm.ClassFile.FieldType.boolean) :: lw_good) B.pre
  have C0 : Cx G p s m ([.int l0] : List Value).toArray c prog_1_method_28_code 1 "BassRealiser" := ⟨⟨B.exec, B.bytes, hml, findClass_of_methodNamed B.named, fun w h => hts w (List.mem_cons_of_mem _ h)⟩, hK, hSt, by rw [hz]; exact Nat.le_add_right _ _⟩
  have hl := lv_entry ([.int l0]) (n := 1) (Nat.le_of_ble_eq_true rfl)
  rw [lg_entry_eq]
  exact t_Br_isVoice G C0 ⟨Nat.le_refl _, Nat.le_refl _, Nat.le_refl _, Nat.le_refl _⟩ B.returns B.notSynchronized _ _ hwp _ _ _ ⟨hP, hz, va_S.rf⟩ hl
def wp_Br_isPitch (Post : Int32 → MH → Prop) (l0 : Int32) (h : MH) : Prop :=
  ((l0 < 0) →
    (Post (0 : Int32) h)) ∧
  ((¬ l0 < 0) →
    ((((127 : Int32) < l0) →
        (Post (0 : Int32) h)) ∧
      ((¬ (127 : Int32) < l0) →
        (Post (1 : Int32) h))))
set_option maxRecDepth 100000 in
set_option maxHeartbeats 4000000 in
theorem t_Br_isPitch {p : Program} {l : Launch} {e : Env} {R : Room} {s : State} {m : MethodId} {args : Array Value} {below : List Frame} {meth : Method} {c : Code} (G : mG) (C0 : Cx G p s m args c prog_1_method_29_code 1 "BassRealiser") (hR : 0 ≤ R.frames ∧ 0 ≤ R.locals ∧ 0 ≤ R.cells ∧ 0 ≤ R.slots) (hr : meth.sig.returnType = some .boolean) (hlk : meth.locks = false) {Post : Int32 → MH → Prop} (l0 : Int32) (h : MH) (hwp : wp_Br_isPitch Post l0 h) : WG p l e R s m args below meth c 0 0 (MQ below (va_Qi Post (Wd G) (mA G)) args s 0 0 (mA G)) G 1 [(0, .int l0)] 0 [] h := by
  unfold wp_Br_isPitch at hwp
  refine x_iload_n C0 0 d_Br_isPitch_0 rfl rfl ?_
  refine x_if_lt (tgt := 14) C0 d_Br_isPitch_1 (by decide) (fun c1 => ?_) (fun c1 => ?_)
  · replace hwp := hwp.1 c1
    refine x_iconst (v := 0) C0 d_Br_isPitch_14 (by decide) ?_
    exact x_zret C0 hr rfl hlk hwp d_Br_isPitch_15
  · replace hwp := hwp.2 c1
    refine x_iload_n C0 0 d_Br_isPitch_4 rfl rfl ?_
    refine x_bipush (v := 127) C0 d_Br_isPitch_5 (by decide) ?_
    refine x_icmp_gt (tgt := 14) C0 d_Br_isPitch_7 (by decide) (fun c7 => ?_) (fun c7 => ?_)
    · replace hwp := hwp.1 c7
      refine x_iconst (v := 0) C0 d_Br_isPitch_14 (by decide) ?_
      exact x_zret C0 hr rfl hlk hwp d_Br_isPitch_15
    · replace hwp := hwp.2 c7
      refine x_iconst (v := 1) C0 d_Br_isPitch_10 (by decide) ?_
      refine x_goto (tgt := 15) C0 d_Br_isPitch_11 (by decide) ?_
      exact x_zret C0 hr rfl hlk hwp d_Br_isPitch_15
set_option maxRecDepth 100000 in
set_option maxHeartbeats 4000000 in
theorem c_Br_isPitch (l : Launch) (G : mG) {Post : Int32 → MH → Prop} {l0 : Int32} {h : MH} (hwp : wp_Br_isPitch Post l0 h) : Met l y_Br_isPitch (Cond.code y_Br_isPitch prog_1_method_29_code 1 (Option.some Jvm.ClassFile.FieldType.boolean) :: lw_good) ({ frames := 0, cells := 0, slots := 0, locals := 0 }) (va_Pc [.int l0] (Wd G h)) (va_Qi Post (Wd G) (mA G)) 0 0 (mA G) := by
  refine Met.ofW (cc := prog_1_method_29_code) (maxL := 1) (ret := (Option.some Jvm.ClassFile.FieldType.boolean)) (by decide +kernel) rfl ?_
  intro p e s m args below meth c s₁ B hml hv
  obtain ⟨rfl, hP, hz, hK, hSt⟩ := hv
  have hts := atoms_spec (ws := Cond.code y_Br_isPitch prog_1_method_29_code 1 (Option.some Jvm.ClassFile.FieldType.boolean) :: lw_good) B.pre
  have C0 : Cx G p s m ([.int l0] : List Value).toArray c prog_1_method_29_code 1 "BassRealiser" := ⟨⟨B.exec, B.bytes, hml, findClass_of_methodNamed B.named, fun w h => hts w (List.mem_cons_of_mem _ h)⟩, hK, hSt, by rw [hz]; exact Nat.le_add_right _ _⟩
  have hl := lv_entry ([.int l0]) (n := 1) (Nat.le_of_ble_eq_true rfl)
  rw [lg_entry_eq]
  exact t_Br_isPitch G C0 ⟨Nat.le_refl _, Nat.le_refl _, Nat.le_refl _, Nat.le_refl _⟩ B.returns B.notSynchronized _ _ hwp _ _ _ ⟨hP, hz, va_S.rf⟩ hl
def wp_Br_range (Post : Int32 → MH → Prop) (l0 : Nat) (l1 : Int32) (l2 : Int32) (l3 : Int32) (h : MH) : Prop :=
  wp_Br_isVoice (fun (r1 : Int32) (h1 : MH) =>
    (((r1 = 0) →
        (Post (-1 : Int32) h1)) ∧
      ((¬ r1 = 0) →
        (wp_Br_isPitch (fun (r8 : Int32) (h8 : MH) =>
            (((r8 = 0) →
                (Post (-1 : Int32) h8)) ∧
              ((¬ r8 = 0) →
                (wp_Br_isPitch (fun (r15 : Int32) (h15 : MH) =>
                    (((¬ r15 = 0) →
                        (wp_Br_within (fun (r29 : Int32) (h29 : MH) =>
                        (((¬ r29 = 0) →
                        (∃ x38 : Nat, gF h29 l0 5 2 = some (.inr (some x38)) ∧
                        (∃ x41 : Nat, gF h29 x38 3 0 = some (.inr (some x41)) ∧
                        (∃ (n46 : Nat) (f46 : Nat → Int32), gA h29 x41 0 = some (n46, f46) ∧ vp_in l1 n46 ∧ ∀ h46 : MH, h46 = mset h29 x41 (.inr (0, n46, .inl (upd f46 (l1).toNatClampNeg l2))) →
                        (∃ x48 : Nat, gF h46 l0 5 2 = some (.inr (some x48)) ∧
                        (∃ x51 : Nat, gF h46 x48 3 1 = some (.inr (some x51)) ∧
                        (∃ (n56 : Nat) (f56 : Nat → Int32), gA h46 x51 0 = some (n56, f56) ∧ vp_in l1 n56 ∧ ∀ h56 : MH, h56 = mset h46 x51 (.inr (0, n56, .inl (upd f56 (l1).toNatClampNeg l3))) →
                        (∃ x58 : Nat, gF h56 l0 5 0 = some (.inr (some x58)) ∧
                        (gC h56 x58 = some 4 ∧ wp_Se_forgetAll (fun (h61 : MH) =>
                        (Post (1 : Int32) h61)) x58 h56))))))))) ∧
                        ((r29 = 0) →
                        (Post (-1 : Int32) h29)))) (l3 - l2) (0 : Int32) (24 : Int32) h15)) ∧
                      ((r15 = 0) →
                        (Post (-1 : Int32) h15)))) l3 h8)))) l2 h1)))) l1 h
set_option maxRecDepth 100000 in
set_option maxHeartbeats 4000000 in
theorem t_Br_range {p : Program} {l : Launch} {e : Env} {R : Room} {s : State} {m : MethodId} {args : Array Value} {below : List Frame} {meth : Method} {c : Code} (G : mG) (C0 : Cx G p s m args c prog_1_method_7_code 4 "BassRealiser") (hR : 1 ≤ R.frames ∧ 22 ≤ R.locals ∧ 0 ≤ R.cells ∧ 0 ≤ R.slots) (hr : meth.sig.returnType = some .int) (hlk : meth.locks = false) {Post : Int32 → MH → Prop} (l0 : Nat) (l1 : Int32) (l2 : Int32) (l3 : Int32) (h : MH) (hwp : wp_Br_range Post l0 l1 l2 l3 h) : WG p l e R s m args below meth c 0 0 (MQ below (va_Qi Post (Wd G) (mA G)) args s 0 0 (mA G)) G 4 [(0, .ref (m_b G + l0)), (1, .int l1), (2, .int l2), (3, .int l3)] 0 [] h := by
  unfold wp_Br_range at hwp
  refine x_iload_n C0 1 d_Br_range_0 rfl rfl ?_
  refine x_callSi0 (As := [.int l1]) (st := []) C0 (c_Br_isVoice l G hwp) kw_2_88 mk_Br_isVoice kw_2_89 rfl (Nat.le_of_ble_eq_true rfl) rfl rfl ⟨Nat.le_trans (by decide) hR.1, Nat.le_trans (by decide) hR.2.1⟩ ⟨Nat.zero_le _, Nat.zero_le _⟩ rfl d_Br_range_1 (fun r1 h1 hwp => ?_)
  refine x_if_eq (tgt := 21) C0 d_Br_range_4 (by decide) (fun c4 => ?_) (fun c4 => ?_)
  · replace hwp := hwp.1 c4
    refine x_iconst (v := -1) C0 d_Br_range_21 (by decide) ?_
    exact x_iret C0 hr hlk hwp d_Br_range_22
  · replace hwp := hwp.2 c4
    refine x_iload_n C0 2 d_Br_range_7 rfl rfl ?_
    refine x_callSi0 (As := [.int l2]) (st := []) C0 (c_Br_isPitch l G hwp) kw_2_91 mk_Br_isPitch kw_2_92 rfl (Nat.le_of_ble_eq_true rfl) rfl rfl ⟨Nat.le_trans (by decide) hR.1, Nat.le_trans (by decide) hR.2.1⟩ ⟨Nat.zero_le _, Nat.zero_le _⟩ rfl d_Br_range_8 (fun r8 h8 hwp => ?_)
    refine x_if_eq (tgt := 21) C0 d_Br_range_11 (by decide) (fun c11 => ?_) (fun c11 => ?_)
    · replace hwp := hwp.1 c11
      refine x_iconst (v := -1) C0 d_Br_range_21 (by decide) ?_
      exact x_iret C0 hr hlk hwp d_Br_range_22
    · replace hwp := hwp.2 c11
      refine x_iload_n C0 3 d_Br_range_14 rfl rfl ?_
      refine x_callSi0 (As := [.int l3]) (st := []) C0 (c_Br_isPitch l G hwp) kw_2_91 mk_Br_isPitch kw_2_92 rfl (Nat.le_of_ble_eq_true rfl) rfl rfl ⟨Nat.le_trans (by decide) hR.1, Nat.le_trans (by decide) hR.2.1⟩ ⟨Nat.zero_le _, Nat.zero_le _⟩ rfl d_Br_range_15 (fun r15 h15 hwp => ?_)
      refine x_if_ne (tgt := 23) C0 d_Br_range_18 (by decide) (fun c18 => ?_) (fun c18 => ?_)
      · replace hwp := hwp.1 c18
        refine x_iload_n C0 3 d_Br_range_23 rfl rfl ?_
        refine x_iload_n C0 2 d_Br_range_24 rfl rfl ?_
        refine x_isub C0 d_Br_range_25 ?_
        refine x_iconst (v := 0) C0 d_Br_range_26 (by decide) ?_
        refine x_bipush (v := 24) C0 d_Br_range_27 (by decide) ?_
        refine x_callSi0 (As := [.int (l3 - l2), .int (0 : Int32), .int (24 : Int32)]) (st := []) C0 (c_Br_within l G hwp) kw_1_226 mk_Br_within kw_1_227 rfl (Nat.le_of_ble_eq_true rfl) rfl rfl ⟨Nat.le_trans (by decide) hR.1, Nat.le_trans (by decide) hR.2.1⟩ ⟨Nat.zero_le _, Nat.zero_le _⟩ rfl d_Br_range_29 (fun r29 h29 hwp => ?_)
        refine x_if_ne (tgt := 37) C0 d_Br_range_32 (by decide) (fun c32 => ?_) (fun c32 => ?_)
        · replace hwp := hwp.1 c32
          refine x_aload_n C0 0 d_Br_range_37 rfl rfl ?_
          obtain ⟨x38, e38, hwp⟩ := hwp
          refine x_getR C0 fk_Br_25 e38 d_Br_range_38 ?_
          obtain ⟨x41, e41, hwp⟩ := hwp
          refine x_getR C0 fk_Br_94 e41 d_Br_range_41 ?_
          refine x_iload_n C0 1 d_Br_range_44 rfl rfl ?_
          refine x_iload_n C0 2 d_Br_range_45 rfl rfl ?_
          obtain ⟨n46, f46, e46, i46, hwp⟩ := hwp
          refine x_iast C0 e46 i46 d_Br_range_46 ?_
          refine x_nh (fun h46 eh46 => ?_)
          replace hwp := hwp h46 eh46
          refine x_aload_n C0 0 d_Br_range_47 rfl rfl ?_
          obtain ⟨x48, e48, hwp⟩ := hwp
          refine x_getR C0 fk_Br_25 e48 d_Br_range_48 ?_
          obtain ⟨x51, e51, hwp⟩ := hwp
          refine x_getR C0 fk_Br_98 e51 d_Br_range_51 ?_
          refine x_iload_n C0 1 d_Br_range_54 rfl rfl ?_
          refine x_iload_n C0 3 d_Br_range_55 rfl rfl ?_
          obtain ⟨n56, f56, e56, i56, hwp⟩ := hwp
          refine x_iast C0 e56 i56 d_Br_range_56 ?_
          refine x_nh (fun h56 eh56 => ?_)
          replace hwp := hwp h56 eh56
          refine x_aload_n C0 0 d_Br_range_57 rfl rfl ?_
          obtain ⟨x58, e58, hwp⟩ := hwp
          refine x_getR C0 fk_Br_10 e58 d_Br_range_58 ?_
          obtain ⟨g61, hwp⟩ := hwp
          refine x_callVv0 (k := x58) (As := []) (st := []) C0 (c_Se_forgetAll l G hwp) kw_2_36 mk_Se_forgetAll vk_Se_forgetAll rfl g61 rfl (Nat.le_of_ble_eq_true rfl) rfl rfl ⟨Nat.le_trans (by decide) hR.1, Nat.le_trans (by decide) hR.2.1⟩ ⟨Nat.zero_le _, Nat.zero_le _⟩ rfl d_Br_range_61 (fun h61 hwp => ?_)
          refine x_iconst (v := 1) C0 d_Br_range_64 (by decide) ?_
          exact x_iret C0 hr hlk hwp d_Br_range_65
        · replace hwp := hwp.2 c32
          refine x_iconst (v := -1) C0 d_Br_range_35 (by decide) ?_
          exact x_iret C0 hr hlk hwp d_Br_range_36
      · replace hwp := hwp.2 c18
        refine x_iconst (v := -1) C0 d_Br_range_21 (by decide) ?_
        exact x_iret C0 hr hlk hwp d_Br_range_22
set_option maxRecDepth 100000 in
set_option maxHeartbeats 4000000 in
theorem c_Br_range (l : Launch) (G : mG) {Post : Int32 → MH → Prop} {l0 : Nat} {l1 : Int32} {l2 : Int32} {l3 : Int32} {h : MH} (hwp : wp_Br_range Post l0 l1 l2 l3 h) : Met l y_Br_range (Cond.code y_Br_range prog_1_method_7_code 4 (Option.some Jvm.ClassFile.FieldType.int) :: lw_good) ({ frames := 1, cells := 0, slots := 0, locals := 22 }) (va_Pc [.ref (m_b G + l0), .int l1, .int l2, .int l3] (Wd G h)) (va_Qi Post (Wd G) (mA G)) 0 0 (mA G) := by
  refine Met.ofW (cc := prog_1_method_7_code) (maxL := 4) (ret := (Option.some Jvm.ClassFile.FieldType.int)) (by decide +kernel) rfl ?_
  intro p e s m args below meth c s₁ B hml hv
  obtain ⟨rfl, hP, hz, hK, hSt⟩ := hv
  have hts := atoms_spec (ws := Cond.code y_Br_range prog_1_method_7_code 4 (Option.some Jvm.ClassFile.FieldType.int) :: lw_good) B.pre
  have C0 : Cx G p s m ([.ref (m_b G + l0), .int l1, .int l2, .int l3] : List Value).toArray c prog_1_method_7_code 4 "BassRealiser" := ⟨⟨B.exec, B.bytes, hml, findClass_of_methodNamed B.named, fun w h => hts w (List.mem_cons_of_mem _ h)⟩, hK, hSt, by rw [hz]; exact Nat.le_add_right _ _⟩
  have hl := lv_entry ([.ref (m_b G + l0), .int l1, .int l2, .int l3]) (n := 4) (Nat.le_of_ble_eq_true rfl)
  rw [lg_entry_eq]
  exact t_Br_range G C0 ⟨Nat.le_refl _, Nat.le_refl _, Nat.le_refl _, Nat.le_refl _⟩ B.returns B.notSynchronized _ _ _ _ _ hwp _ _ _ ⟨hP, hz, va_S.rf⟩ hl
def wp_Rm_range (Post : Int32 → MH → Prop) (l0 : Nat) (l1 : Int32) (l2 : Int32) (l3 : Int32) (h : MH) : Prop :=
  (∃ o : MV, gF h l0 6 0 = some o) ∧ ∀ h2 : MH, h2 = fset h l0 0 (.inl (0 : Int32) : MV) →
  (wp_Rm_in (fun (r11 : Int32) (h11 : MH) =>
      (((r11 = 0) →
          (Post (-1 : Int32) h11)) ∧
        ((¬ r11 = 0) →
          (wp_Rm_in (fun (r23 : Int32) (h23 : MH) =>
              (((r23 = 0) →
                  (Post (-1 : Int32) h23)) ∧
                ((¬ r23 = 0) →
                  (wp_Rm_in (fun (r36 : Int32) (h36 : MH) =>
                      (((r36 = 0) →
                        (Post (-1 : Int32) h36)) ∧
                        ((¬ r36 = 0) →
                        ((((l3 - l2) ≤ (24 : Int32)) →
                        (∃ x53 : Nat, gF h36 l0 6 7 = some (.inr (some x53)) ∧
                        (∃ (n58 : Nat) (f58 : Nat → Int32), gA h36 x53 0 = some (n58, f58) ∧ vp_in l1 n58 ∧ ∀ h58 : MH, h58 = mset h36 x53 (.inr (0, n58, .inl (upd f58 (l1).toNatClampNeg l2))) →
                        (∃ x60 : Nat, gF h58 l0 6 8 = some (.inr (some x60)) ∧
                        (∃ (n65 : Nat) (f65 : Nat → Int32), gA h58 x60 0 = some (n65, f65) ∧ vp_in l1 n65 ∧ ∀ h65 : MH, h65 = mset h58 x60 (.inr (0, n65, .inl (upd f65 (l1).toNatClampNeg l3))) →
                        ((∃ o : MV, gF h65 l0 6 19 = some o) ∧ ∀ h68 : MH, h68 = fset h65 l0 19 (.inl (0 : Int32) : MV) →
                        (Post (1 : Int32) h68))))))) ∧
                        ((¬ (l3 - l2) ≤ (24 : Int32)) →
                        (Post (-1 : Int32) h36)))))) ((l3).toInt64) ((l2).toInt64) (127 : Int64) h23)))) ((l2).toInt64) (0 : Int64) (127 : Int64) h11)))) ((l1).toInt64) (0 : Int64) (2 : Int64) h2)
set_option maxRecDepth 100000 in
set_option maxHeartbeats 4000000 in
theorem t_Rm_range {p : Program} {l : Launch} {e : Env} {R : Room} {s : State} {m : MethodId} {args : Array Value} {below : List Frame} {meth : Method} {c : Code} (G : mG) (C0 : Cx G p s m args c prog_8_method_10_code 4 "BassRealiserModel") (hR : 1 ≤ R.frames ∧ 25 ≤ R.locals ∧ 0 ≤ R.cells ∧ 0 ≤ R.slots) (hr : meth.sig.returnType = some .int) (hlk : meth.locks = false) {Post : Int32 → MH → Prop} (l0 : Nat) (l1 : Int32) (l2 : Int32) (l3 : Int32) (h : MH) (hwp : wp_Rm_range Post l0 l1 l2 l3 h) : WG p l e R s m args below meth c 0 0 (MQ below (va_Qi Post (Wd G) (mA G)) args s 0 0 (mA G)) G 4 [(0, .ref (m_b G + l0)), (1, .int l1), (2, .int l2), (3, .int l3)] 0 [] h := by
  unfold wp_Rm_range at hwp
  refine x_aload_n C0 0 d_Rm_range_0 rfl rfl ?_
  refine x_iconst (v := 0) C0 d_Rm_range_1 (by decide) ?_
  obtain ⟨⟨o2, e2⟩, hwp⟩ := hwp
  refine x_put (x := (.inl (0 : Int32) : MV)) C0 pk_Rm_1 e2 rfl rfl d_Rm_range_2 ?_
  refine x_nh (fun h2 eh2 => ?_)
  replace hwp := hwp h2 eh2
  refine x_iload_n C0 1 d_Rm_range_5 rfl rfl ?_
  refine x_i2l C0 d_Rm_range_6 ?_
  refine x_lconst (v := 0) C0 d_Rm_range_7 (by decide) ?_
  refine x_ldc2 (v := 2) C0 kw_3_195 d_Rm_range_8 ?_
  refine x_callSi0 (As := [.long ((l1).toInt64), .long (0 : Int64), .long (2 : Int64)]) (st := []) C0 (c_Rm_in l G hwp) kw_3_173 mk_Rm_in kw_3_174 rfl (Nat.le_of_ble_eq_true rfl) rfl rfl ⟨Nat.le_trans (by decide) hR.1, Nat.le_trans (by decide) hR.2.1⟩ ⟨Nat.zero_le _, Nat.zero_le _⟩ rfl d_Rm_range_11 (fun r11 h11 hwp => ?_)
  refine x_if_eq (tgt := 50) C0 d_Rm_range_14 (by decide) (fun c14 => ?_) (fun c14 => ?_)
  · replace hwp := hwp.1 c14
    refine x_iconst (v := -1) C0 d_Rm_range_50 (by decide) ?_
    exact x_iret C0 hr hlk hwp d_Rm_range_51
  · replace hwp := hwp.2 c14
    refine x_iload_n C0 2 d_Rm_range_17 rfl rfl ?_
    refine x_i2l C0 d_Rm_range_18 ?_
    refine x_lconst (v := 0) C0 d_Rm_range_19 (by decide) ?_
    refine x_ldc2 (v := 127) C0 kw_3_218 d_Rm_range_20 ?_
    refine x_callSi0 (As := [.long ((l2).toInt64), .long (0 : Int64), .long (127 : Int64)]) (st := []) C0 (c_Rm_in l G hwp) kw_3_173 mk_Rm_in kw_3_174 rfl (Nat.le_of_ble_eq_true rfl) rfl rfl ⟨Nat.le_trans (by decide) hR.1, Nat.le_trans (by decide) hR.2.1⟩ ⟨Nat.zero_le _, Nat.zero_le _⟩ rfl d_Rm_range_23 (fun r23 h23 hwp => ?_)
    refine x_if_eq (tgt := 50) C0 d_Rm_range_26 (by decide) (fun c26 => ?_) (fun c26 => ?_)
    · replace hwp := hwp.1 c26
      refine x_iconst (v := -1) C0 d_Rm_range_50 (by decide) ?_
      exact x_iret C0 hr hlk hwp d_Rm_range_51
    · replace hwp := hwp.2 c26
      refine x_iload_n C0 3 d_Rm_range_29 rfl rfl ?_
      refine x_i2l C0 d_Rm_range_30 ?_
      refine x_iload_n C0 2 d_Rm_range_31 rfl rfl ?_
      refine x_i2l C0 d_Rm_range_32 ?_
      refine x_ldc2 (v := 127) C0 kw_3_218 d_Rm_range_33 ?_
      refine x_callSi0 (As := [.long ((l3).toInt64), .long ((l2).toInt64), .long (127 : Int64)]) (st := []) C0 (c_Rm_in l G hwp) kw_3_173 mk_Rm_in kw_3_174 rfl (Nat.le_of_ble_eq_true rfl) rfl rfl ⟨Nat.le_trans (by decide) hR.1, Nat.le_trans (by decide) hR.2.1⟩ ⟨Nat.zero_le _, Nat.zero_le _⟩ rfl d_Rm_range_36 (fun r36 h36 hwp => ?_)
      refine x_if_eq (tgt := 50) C0 d_Rm_range_39 (by decide) (fun c39 => ?_) (fun c39 => ?_)
      · replace hwp := hwp.1 c39
        refine x_iconst (v := -1) C0 d_Rm_range_50 (by decide) ?_
        exact x_iret C0 hr hlk hwp d_Rm_range_51
      · replace hwp := hwp.2 c39
        refine x_iload_n C0 3 d_Rm_range_42 rfl rfl ?_
        refine x_iload_n C0 2 d_Rm_range_43 rfl rfl ?_
        refine x_isub C0 d_Rm_range_44 ?_
        refine x_bipush (v := 24) C0 d_Rm_range_45 (by decide) ?_
        refine x_icmp_le (tgt := 52) C0 d_Rm_range_47 (by decide) (fun c47 => ?_) (fun c47 => ?_)
        · replace hwp := hwp.1 c47
          refine x_aload_n C0 0 d_Rm_range_52 rfl rfl ?_
          obtain ⟨x53, e53, hwp⟩ := hwp
          refine x_getR C0 fk_Rm_26 e53 d_Rm_range_53 ?_
          refine x_iload_n C0 1 d_Rm_range_56 rfl rfl ?_
          refine x_iload_n C0 2 d_Rm_range_57 rfl rfl ?_
          obtain ⟨n58, f58, e58, i58, hwp⟩ := hwp
          refine x_iast C0 e58 i58 d_Rm_range_58 ?_
          refine x_nh (fun h58 eh58 => ?_)
          replace hwp := hwp h58 eh58
          refine x_aload_n C0 0 d_Rm_range_59 rfl rfl ?_
          obtain ⟨x60, e60, hwp⟩ := hwp
          refine x_getR C0 fk_Rm_29 e60 d_Rm_range_60 ?_
          refine x_iload_n C0 1 d_Rm_range_63 rfl rfl ?_
          refine x_iload_n C0 3 d_Rm_range_64 rfl rfl ?_
          obtain ⟨n65, f65, e65, i65, hwp⟩ := hwp
          refine x_iast C0 e65 i65 d_Rm_range_65 ?_
          refine x_nh (fun h65 eh65 => ?_)
          replace hwp := hwp h65 eh65
          refine x_aload_n C0 0 d_Rm_range_66 rfl rfl ?_
          refine x_iconst (v := 0) C0 d_Rm_range_67 (by decide) ?_
          obtain ⟨⟨o68, e68⟩, hwp⟩ := hwp
          refine x_put (x := (.inl (0 : Int32) : MV)) C0 pk_Rm_93 e68 rfl rfl d_Rm_range_68 ?_
          refine x_nh (fun h68 eh68 => ?_)
          replace hwp := hwp h68 eh68
          refine x_iconst (v := 1) C0 d_Rm_range_71 (by decide) ?_
          exact x_iret C0 hr hlk hwp d_Rm_range_72
        · replace hwp := hwp.2 c47
          refine x_iconst (v := -1) C0 d_Rm_range_50 (by decide) ?_
          exact x_iret C0 hr hlk hwp d_Rm_range_51
set_option maxRecDepth 100000 in
set_option maxHeartbeats 4000000 in
theorem c_Rm_range (l : Launch) (G : mG) {Post : Int32 → MH → Prop} {l0 : Nat} {l1 : Int32} {l2 : Int32} {l3 : Int32} {h : MH} (hwp : wp_Rm_range Post l0 l1 l2 l3 h) : Met l y_Rm_range (Cond.code y_Rm_range prog_8_method_10_code 4 (Option.some Jvm.ClassFile.FieldType.int) :: lw_good) ({ frames := 1, cells := 0, slots := 0, locals := 25 }) (va_Pc [.ref (m_b G + l0), .int l1, .int l2, .int l3] (Wd G h)) (va_Qi Post (Wd G) (mA G)) 0 0 (mA G) := by
  refine Met.ofW (cc := prog_8_method_10_code) (maxL := 4) (ret := (Option.some Jvm.ClassFile.FieldType.int)) (by decide +kernel) rfl ?_
  intro p e s m args below meth c s₁ B hml hv
  obtain ⟨rfl, hP, hz, hK, hSt⟩ := hv
  have hts := atoms_spec (ws := Cond.code y_Rm_range prog_8_method_10_code 4 (Option.some Jvm.ClassFile.FieldType.int) :: lw_good) B.pre
  have C0 : Cx G p s m ([.ref (m_b G + l0), .int l1, .int l2, .int l3] : List Value).toArray c prog_8_method_10_code 4 "BassRealiserModel" := ⟨⟨B.exec, B.bytes, hml, findClass_of_methodNamed B.named, fun w h => hts w (List.mem_cons_of_mem _ h)⟩, hK, hSt, by rw [hz]; exact Nat.le_add_right _ _⟩
  have hl := lv_entry ([.ref (m_b G + l0), .int l1, .int l2, .int l3]) (n := 4) (Nat.le_of_ble_eq_true rfl)
  rw [lg_entry_eq]
  exact t_Rm_range G C0 ⟨Nat.le_refl _, Nat.le_refl _, Nat.le_refl _, Nat.le_refl _⟩ B.returns B.notSynchronized _ _ _ _ _ hwp _ _ _ ⟨hP, hz, va_S.rf⟩ hl
def wp_Se_forgetRealising (Post : MH → Prop) (l0 : Nat) (h : MH) : Prop :=
  (∃ o : MV, gF h l0 4 8 = some o) ∧ ∀ h2 : MH, h2 = fset h l0 8 (.inl (0 : Int32) : MV) →
  (Post h2)
set_option maxRecDepth 100000 in
set_option maxHeartbeats 4000000 in
theorem t_Se_forgetRealising {p : Program} {l : Launch} {e : Env} {R : Room} {s : State} {m : MethodId} {args : Array Value} {below : List Frame} {meth : Method} {c : Code} (G : mG) (C0 : Cx G p s m args c prog_6_method_4_code 1 "BassRealiser$Search") (hR : 0 ≤ R.frames ∧ 0 ≤ R.locals ∧ 0 ≤ R.cells ∧ 0 ≤ R.slots) (hr : meth.sig.returnType = none) (hlk : meth.locks = false) {Post : MH → Prop} (l0 : Nat) (h : MH) (hwp : wp_Se_forgetRealising Post l0 h) : WG p l e R s m args below meth c 0 0 (MQ below (va_Qv Post (Wd G) (mA G)) args s 0 0 (mA G)) G 1 [(0, .ref (m_b G + l0))] 0 [] h := by
  unfold wp_Se_forgetRealising at hwp
  refine x_aload_n C0 0 d_Se_forgetRealising_0 rfl rfl ?_
  refine x_iconst (v := 0) C0 d_Se_forgetRealising_1 (by decide) ?_
  obtain ⟨⟨o2, e2⟩, hwp⟩ := hwp
  refine x_put (x := (.inl (0 : Int32) : MV)) C0 pk_Se_51 e2 rfl rfl d_Se_forgetRealising_2 ?_
  refine x_nh (fun h2 eh2 => ?_)
  replace hwp := hwp h2 eh2
  exact x_vret C0 hr hlk hwp d_Se_forgetRealising_5
set_option maxRecDepth 100000 in
set_option maxHeartbeats 4000000 in
theorem c_Se_forgetRealising (l : Launch) (G : mG) {Post : MH → Prop} {l0 : Nat} {h : MH} (hwp : wp_Se_forgetRealising Post l0 h) : Met l y_Se_forgetRealising (Cond.code y_Se_forgetRealising prog_6_method_4_code 1 (Option.none : Option Jvm.ClassFile.FieldType) :: lw_good) ({ frames := 0, cells := 0, slots := 0, locals := 0 }) (va_Pc [.ref (m_b G + l0)] (Wd G h)) (va_Qv Post (Wd G) (mA G)) 0 0 (mA G) := by
  refine Met.ofW (cc := prog_6_method_4_code) (maxL := 1) (ret := (Option.none : Option Jvm.ClassFile.FieldType)) (by decide +kernel) rfl ?_
  intro p e s m args below meth c s₁ B hml hv
  obtain ⟨rfl, hP, hz, hK, hSt⟩ := hv
  have hts := atoms_spec (ws := Cond.code y_Se_forgetRealising prog_6_method_4_code 1 (Option.none : Option Jvm.ClassFile.FieldType) :: lw_good) B.pre
  have C0 : Cx G p s m ([.ref (m_b G + l0)] : List Value).toArray c prog_6_method_4_code 1 "BassRealiser$Search" := ⟨⟨B.exec, B.bytes, hml, findClass_of_methodNamed B.named, fun w h => hts w (List.mem_cons_of_mem _ h)⟩, hK, hSt, by rw [hz]; exact Nat.le_add_right _ _⟩
  have hl := lv_entry ([.ref (m_b G + l0)]) (n := 1) (Nat.le_of_ble_eq_true rfl)
  rw [lg_entry_eq]
  exact t_Se_forgetRealising G C0 ⟨Nat.le_refl _, Nat.le_refl _, Nat.le_refl _, Nat.le_refl _⟩ B.returns B.notSynchronized _ _ hwp _ _ _ ⟨hP, hz, va_S.rf⟩ hl
def wp_Br_home (Post : Int32 → MH → Prop) (l0 : Nat) (l1 : Int32) (l2 : Int32) (h : MH) : Prop :=
  wp_Br_isVoice (fun (r1 : Int32) (h1 : MH) =>
    (((r1 = 0) →
        (Post (-1 : Int32) h1)) ∧
      ((¬ r1 = 0) →
        (wp_Br_isPitch (fun (r8 : Int32) (h8 : MH) =>
            (((¬ r8 = 0) →
                (∃ x17 : Nat, gF h8 l0 5 2 = some (.inr (some x17)) ∧
                  (∃ x20 : Nat, gF h8 x17 3 2 = some (.inr (some x20)) ∧
                    (∃ (n24 : Nat) (f24 : Nat → Int32), gA h8 x20 0 = some (n24, f24) ∧ vp_in l1 n24 ∧
                      (∀ z25 : Int32, z25 = f24 (l1).toNatClampNeg →
                        (∃ x27 : Nat, gF h8 l0 5 2 = some (.inr (some x27)) ∧
                        (∃ x30 : Nat, gF h8 x27 3 2 = some (.inr (some x30)) ∧
                        (∃ (n35 : Nat) (f35 : Nat → Int32), gA h8 x30 0 = some (n35, f35) ∧ vp_in l1 n35 ∧ ∀ h35 : MH, h35 = mset h8 x30 (.inr (0, n35, .inl (upd f35 (l1).toNatClampNeg l2))) →
                        (∃ x37 : Nat, gF h35 l0 5 0 = some (.inr (some x37)) ∧
                        (gC h35 x37 = some 4 ∧ wp_Se_forgetRealising (fun (h40 : MH) =>
                        (Post z25 h40)) x37 h35)))))))))) ∧
              ((r8 = 0) →
                (Post (-1 : Int32) h8)))) l2 h1)))) l1 h
set_option maxRecDepth 100000 in
set_option maxHeartbeats 4000000 in
theorem t_Br_home {p : Program} {l : Launch} {e : Env} {R : Room} {s : State} {m : MethodId} {args : Array Value} {below : List Frame} {meth : Method} {c : Code} (G : mG) (C0 : Cx G p s m args c prog_1_method_8_code 4 "BassRealiser") (hR : 1 ≤ R.frames ∧ 20 ≤ R.locals ∧ 0 ≤ R.cells ∧ 0 ≤ R.slots) (hr : meth.sig.returnType = some .int) (hlk : meth.locks = false) {Post : Int32 → MH → Prop} (l0 : Nat) (l1 : Int32) (l2 : Int32) (h : MH) (hwp : wp_Br_home Post l0 l1 l2 h) : WG p l e R s m args below meth c 0 0 (MQ below (va_Qi Post (Wd G) (mA G)) args s 0 0 (mA G)) G 4 [(0, .ref (m_b G + l0)), (1, .int l1), (2, .int l2)] 0 [] h := by
  unfold wp_Br_home at hwp
  refine x_iload_n C0 1 d_Br_home_0 rfl rfl ?_
  refine x_callSi0 (As := [.int l1]) (st := []) C0 (c_Br_isVoice l G hwp) kw_2_88 mk_Br_isVoice kw_2_89 rfl (Nat.le_of_ble_eq_true rfl) rfl rfl ⟨Nat.le_trans (by decide) hR.1, Nat.le_trans (by decide) hR.2.1⟩ ⟨Nat.zero_le _, Nat.zero_le _⟩ rfl d_Br_home_1 (fun r1 h1 hwp => ?_)
  refine x_if_eq (tgt := 14) C0 d_Br_home_4 (by decide) (fun c4 => ?_) (fun c4 => ?_)
  · replace hwp := hwp.1 c4
    refine x_iconst (v := -1) C0 d_Br_home_14 (by decide) ?_
    exact x_iret C0 hr hlk hwp d_Br_home_15
  · replace hwp := hwp.2 c4
    refine x_iload_n C0 2 d_Br_home_7 rfl rfl ?_
    refine x_callSi0 (As := [.int l2]) (st := []) C0 (c_Br_isPitch l G hwp) kw_2_91 mk_Br_isPitch kw_2_92 rfl (Nat.le_of_ble_eq_true rfl) rfl rfl ⟨Nat.le_trans (by decide) hR.1, Nat.le_trans (by decide) hR.2.1⟩ ⟨Nat.zero_le _, Nat.zero_le _⟩ rfl d_Br_home_8 (fun r8 h8 hwp => ?_)
    refine x_if_ne (tgt := 16) C0 d_Br_home_11 (by decide) (fun c11 => ?_) (fun c11 => ?_)
    · replace hwp := hwp.1 c11
      refine x_aload_n C0 0 d_Br_home_16 rfl rfl ?_
      obtain ⟨x17, e17, hwp⟩ := hwp
      refine x_getR C0 fk_Br_25 e17 d_Br_home_17 ?_
      obtain ⟨x20, e20, hwp⟩ := hwp
      refine x_getR C0 fk_Br_101 e20 d_Br_home_20 ?_
      refine x_iload_n C0 1 d_Br_home_23 rfl rfl ?_
      obtain ⟨n24, f24, e24, i24, hwp⟩ := hwp
      refine x_iald C0 e24 i24 d_Br_home_24 ?_
      refine x_topI (fun z25 e25 => ?_)
      replace hwp := hwp z25 e25
      refine x_istore_n C0 d_Br_home_25 rfl (by decide) (lv' := [(3, .int z25), (0, .ref (m_b G + l0)), (1, .int l1), (2, .int l2)]) rfl ?_
      refine x_aload_n C0 1 d_Br_home_26 rfl rfl ?_
      obtain ⟨x27, e27, hwp⟩ := hwp
      refine x_getR C0 fk_Br_25 e27 d_Br_home_27 ?_
      obtain ⟨x30, e30, hwp⟩ := hwp
      refine x_getR C0 fk_Br_101 e30 d_Br_home_30 ?_
      refine x_iload_n C0 2 d_Br_home_33 rfl rfl ?_
      refine x_iload_n C0 3 d_Br_home_34 rfl rfl ?_
      obtain ⟨n35, f35, e35, i35, hwp⟩ := hwp
      refine x_iast C0 e35 i35 d_Br_home_35 ?_
      refine x_nh (fun h35 eh35 => ?_)
      replace hwp := hwp h35 eh35
      refine x_aload_n C0 1 d_Br_home_36 rfl rfl ?_
      obtain ⟨x37, e37, hwp⟩ := hwp
      refine x_getR C0 fk_Br_10 e37 d_Br_home_37 ?_
      obtain ⟨g40, hwp⟩ := hwp
      refine x_callVv0 (k := x37) (As := []) (st := []) C0 (c_Se_forgetRealising l G hwp) kw_2_98 mk_Se_forgetRealising vk_Se_forgetRealising rfl g40 rfl (Nat.le_of_ble_eq_true rfl) rfl rfl ⟨Nat.le_trans (by decide) hR.1, Nat.le_trans (by decide) hR.2.1⟩ ⟨Nat.zero_le _, Nat.zero_le _⟩ rfl d_Br_home_40 (fun h40 hwp => ?_)
      refine x_iload_n C0 0 d_Br_home_43 rfl rfl ?_
      exact x_iret C0 hr hlk hwp d_Br_home_44
    · replace hwp := hwp.2 c11
      refine x_iconst (v := -1) C0 d_Br_home_14 (by decide) ?_
      exact x_iret C0 hr hlk hwp d_Br_home_15
set_option maxRecDepth 100000 in
set_option maxHeartbeats 4000000 in
theorem c_Br_home (l : Launch) (G : mG) {Post : Int32 → MH → Prop} {l0 : Nat} {l1 : Int32} {l2 : Int32} {h : MH} (hwp : wp_Br_home Post l0 l1 l2 h) : Met l y_Br_home (Cond.code y_Br_home prog_1_method_8_code 4 (Option.some Jvm.ClassFile.FieldType.int) :: lw_good) ({ frames := 1, cells := 0, slots := 0, locals := 20 }) (va_Pc [.ref (m_b G + l0), .int l1, .int l2] (Wd G h)) (va_Qi Post (Wd G) (mA G)) 0 0 (mA G) := by
  refine Met.ofW (cc := prog_1_method_8_code) (maxL := 4) (ret := (Option.some Jvm.ClassFile.FieldType.int)) (by decide +kernel) rfl ?_
  intro p e s m args below meth c s₁ B hml hv
  obtain ⟨rfl, hP, hz, hK, hSt⟩ := hv
  have hts := atoms_spec (ws := Cond.code y_Br_home prog_1_method_8_code 4 (Option.some Jvm.ClassFile.FieldType.int) :: lw_good) B.pre
  have C0 : Cx G p s m ([.ref (m_b G + l0), .int l1, .int l2] : List Value).toArray c prog_1_method_8_code 4 "BassRealiser" := ⟨⟨B.exec, B.bytes, hml, findClass_of_methodNamed B.named, fun w h => hts w (List.mem_cons_of_mem _ h)⟩, hK, hSt, by rw [hz]; exact Nat.le_add_right _ _⟩
  have hl := lv_entry ([.ref (m_b G + l0), .int l1, .int l2]) (n := 4) (Nat.le_of_ble_eq_true rfl)
  rw [lg_entry_eq]
  exact t_Br_home G C0 ⟨Nat.le_refl _, Nat.le_refl _, Nat.le_refl _, Nat.le_refl _⟩ B.returns B.notSynchronized _ _ _ _ hwp _ _ _ ⟨hP, hz, va_S.rf⟩ hl
def wp_Rm_home (Post : Int32 → MH → Prop) (l0 : Nat) (l1 : Int32) (l2 : Int32) (h : MH) : Prop :=
  (∃ o : MV, gF h l0 6 0 = some o) ∧ ∀ h2 : MH, h2 = fset h l0 0 (.inl (0 : Int32) : MV) →
  (wp_Rm_in (fun (r11 : Int32) (h11 : MH) =>
      (((r11 = 0) →
          (Post (-1 : Int32) h11)) ∧
        ((¬ r11 = 0) →
          (wp_Rm_in (fun (r23 : Int32) (h23 : MH) =>
              (((¬ r23 = 0) →
                  (∃ x32 : Nat, gF h23 l0 6 9 = some (.inr (some x32)) ∧
                    (∃ (n36 : Nat) (f36 : Nat → Int32), gA h23 x32 0 = some (n36, f36) ∧ vp_in l1 n36 ∧
                      (∀ z37 : Int32, z37 = f36 (l1).toNatClampNeg →
                        (∃ x39 : Nat, gF h23 l0 6 9 = some (.inr (some x39)) ∧
                        (∃ (n44 : Nat) (f44 : Nat → Int32), gA h23 x39 0 = some (n44, f44) ∧ vp_in l1 n44 ∧ ∀ h44 : MH, h44 = mset h23 x39 (.inr (0, n44, .inl (upd f44 (l1).toNatClampNeg l2))) →
                        ((∃ o : MV, gF h44 l0 6 19 = some o) ∧ ∀ h47 : MH, h47 = fset h44 l0 19 (.inl (0 : Int32) : MV) →
                        (Post z37 h47)))))))) ∧
                ((r23 = 0) →
                  (Post (-1 : Int32) h23)))) ((l2).toInt64) (0 : Int64) (127 : Int64) h11)))) ((l1).toInt64) (0 : Int64) (2 : Int64) h2)
set_option maxRecDepth 100000 in
set_option maxHeartbeats 4000000 in
theorem t_Rm_home {p : Program} {l : Launch} {e : Env} {R : Room} {s : State} {m : MethodId} {args : Array Value} {below : List Frame} {meth : Method} {c : Code} (G : mG) (C0 : Cx G p s m args c prog_8_method_11_code 4 "BassRealiserModel") (hR : 1 ≤ R.frames ∧ 25 ≤ R.locals ∧ 0 ≤ R.cells ∧ 0 ≤ R.slots) (hr : meth.sig.returnType = some .int) (hlk : meth.locks = false) {Post : Int32 → MH → Prop} (l0 : Nat) (l1 : Int32) (l2 : Int32) (h : MH) (hwp : wp_Rm_home Post l0 l1 l2 h) : WG p l e R s m args below meth c 0 0 (MQ below (va_Qi Post (Wd G) (mA G)) args s 0 0 (mA G)) G 4 [(0, .ref (m_b G + l0)), (1, .int l1), (2, .int l2)] 0 [] h := by
  unfold wp_Rm_home at hwp
  refine x_aload_n C0 0 d_Rm_home_0 rfl rfl ?_
  refine x_iconst (v := 0) C0 d_Rm_home_1 (by decide) ?_
  obtain ⟨⟨o2, e2⟩, hwp⟩ := hwp
  refine x_put (x := (.inl (0 : Int32) : MV)) C0 pk_Rm_1 e2 rfl rfl d_Rm_home_2 ?_
  refine x_nh (fun h2 eh2 => ?_)
  replace hwp := hwp h2 eh2
  refine x_iload_n C0 1 d_Rm_home_5 rfl rfl ?_
  refine x_i2l C0 d_Rm_home_6 ?_
  refine x_lconst (v := 0) C0 d_Rm_home_7 (by decide) ?_
  refine x_ldc2 (v := 2) C0 kw_3_195 d_Rm_home_8 ?_
  refine x_callSi0 (As := [.long ((l1).toInt64), .long (0 : Int64), .long (2 : Int64)]) (st := []) C0 (c_Rm_in l G hwp) kw_3_173 mk_Rm_in kw_3_174 rfl (Nat.le_of_ble_eq_true rfl) rfl rfl ⟨Nat.le_trans (by decide) hR.1, Nat.le_trans (by decide) hR.2.1⟩ ⟨Nat.zero_le _, Nat.zero_le _⟩ rfl d_Rm_home_11 (fun r11 h11 hwp => ?_)
  refine x_if_eq (tgt := 29) C0 d_Rm_home_14 (by decide) (fun c14 => ?_) (fun c14 => ?_)
  · replace hwp := hwp.1 c14
    refine x_iconst (v := -1) C0 d_Rm_home_29 (by decide) ?_
    exact x_iret C0 hr hlk hwp d_Rm_home_30
  · replace hwp := hwp.2 c14
    refine x_iload_n C0 2 d_Rm_home_17 rfl rfl ?_
    refine x_i2l C0 d_Rm_home_18 ?_
    refine x_lconst (v := 0) C0 d_Rm_home_19 (by decide) ?_
    refine x_ldc2 (v := 127) C0 kw_3_218 d_Rm_home_20 ?_
    refine x_callSi0 (As := [.long ((l2).toInt64), .long (0 : Int64), .long (127 : Int64)]) (st := []) C0 (c_Rm_in l G hwp) kw_3_173 mk_Rm_in kw_3_174 rfl (Nat.le_of_ble_eq_true rfl) rfl rfl ⟨Nat.le_trans (by decide) hR.1, Nat.le_trans (by decide) hR.2.1⟩ ⟨Nat.zero_le _, Nat.zero_le _⟩ rfl d_Rm_home_23 (fun r23 h23 hwp => ?_)
    refine x_if_ne (tgt := 31) C0 d_Rm_home_26 (by decide) (fun c26 => ?_) (fun c26 => ?_)
    · replace hwp := hwp.1 c26
      refine x_aload_n C0 0 d_Rm_home_31 rfl rfl ?_
      obtain ⟨x32, e32, hwp⟩ := hwp
      refine x_getR C0 fk_Rm_32 e32 d_Rm_home_32 ?_
      refine x_iload_n C0 1 d_Rm_home_35 rfl rfl ?_
      obtain ⟨n36, f36, e36, i36, hwp⟩ := hwp
      refine x_iald C0 e36 i36 d_Rm_home_36 ?_
      refine x_topI (fun z37 e37 => ?_)
      replace hwp := hwp z37 e37
      refine x_istore_n C0 d_Rm_home_37 rfl (by decide) (lv' := [(3, .int z37), (0, .ref (m_b G + l0)), (1, .int l1), (2, .int l2)]) rfl ?_
      refine x_aload_n C0 1 d_Rm_home_38 rfl rfl ?_
      obtain ⟨x39, e39, hwp⟩ := hwp
      refine x_getR C0 fk_Rm_32 e39 d_Rm_home_39 ?_
      refine x_iload_n C0 2 d_Rm_home_42 rfl rfl ?_
      refine x_iload_n C0 3 d_Rm_home_43 rfl rfl ?_
      obtain ⟨n44, f44, e44, i44, hwp⟩ := hwp
      refine x_iast C0 e44 i44 d_Rm_home_44 ?_
      refine x_nh (fun h44 eh44 => ?_)
      replace hwp := hwp h44 eh44
      refine x_aload_n C0 1 d_Rm_home_45 rfl rfl ?_
      refine x_iconst (v := 0) C0 d_Rm_home_46 (by decide) ?_
      obtain ⟨⟨o47, e47⟩, hwp⟩ := hwp
      refine x_put (x := (.inl (0 : Int32) : MV)) C0 pk_Rm_93 e47 rfl rfl d_Rm_home_47 ?_
      refine x_nh (fun h47 eh47 => ?_)
      replace hwp := hwp h47 eh47
      refine x_iload_n C0 0 d_Rm_home_50 rfl rfl ?_
      exact x_iret C0 hr hlk hwp d_Rm_home_51
    · replace hwp := hwp.2 c26
      refine x_iconst (v := -1) C0 d_Rm_home_29 (by decide) ?_
      exact x_iret C0 hr hlk hwp d_Rm_home_30
set_option maxRecDepth 100000 in
set_option maxHeartbeats 4000000 in
theorem c_Rm_home (l : Launch) (G : mG) {Post : Int32 → MH → Prop} {l0 : Nat} {l1 : Int32} {l2 : Int32} {h : MH} (hwp : wp_Rm_home Post l0 l1 l2 h) : Met l y_Rm_home (Cond.code y_Rm_home prog_8_method_11_code 4 (Option.some Jvm.ClassFile.FieldType.int) :: lw_good) ({ frames := 1, cells := 0, slots := 0, locals := 25 }) (va_Pc [.ref (m_b G + l0), .int l1, .int l2] (Wd G h)) (va_Qi Post (Wd G) (mA G)) 0 0 (mA G) := by
  refine Met.ofW (cc := prog_8_method_11_code) (maxL := 4) (ret := (Option.some Jvm.ClassFile.FieldType.int)) (by decide +kernel) rfl ?_
  intro p e s m args below meth c s₁ B hml hv
  obtain ⟨rfl, hP, hz, hK, hSt⟩ := hv
  have hts := atoms_spec (ws := Cond.code y_Rm_home prog_8_method_11_code 4 (Option.some Jvm.ClassFile.FieldType.int) :: lw_good) B.pre
  have C0 : Cx G p s m ([.ref (m_b G + l0), .int l1, .int l2] : List Value).toArray c prog_8_method_11_code 4 "BassRealiserModel" := ⟨⟨B.exec, B.bytes, hml, findClass_of_methodNamed B.named, fun w h => hts w (List.mem_cons_of_mem _ h)⟩, hK, hSt, by rw [hz]; exact Nat.le_add_right _ _⟩
  have hl := lv_entry ([.ref (m_b G + l0), .int l1, .int l2]) (n := 4) (Nat.le_of_ble_eq_true rfl)
  rw [lg_entry_eq]
  exact t_Rm_home G C0 ⟨Nat.le_refl _, Nat.le_refl _, Nat.le_refl _, Nat.le_refl _⟩ B.returns B.notSynchronized _ _ _ _ hwp _ _ _ ⟨hP, hz, va_S.rf⟩ hl
def wp_Br_leap (Post : Int32 → MH → Prop) (l0 : Nat) (l1 : Int32) (h : MH) : Prop :=
  wp_Br_within (fun (r4 : Int32) (h4 : MH) =>
    (((¬ r4 = 0) →
        (∃ x13 : Nat, gF h4 l0 5 2 = some (.inr (some x13)) ∧
          (∃ x16 : Int32, gF h4 x13 3 3 = some (.inl x16) ∧
            (∃ x21 : Nat, gF h4 l0 5 2 = some (.inr (some x21)) ∧
              ((∃ o : MV, gF h4 x21 3 3 = some o) ∧ ∀ h25 : MH, h25 = fset h4 x21 3 (.inl l1 : MV) →
                (∃ x29 : Nat, gF h25 l0 5 0 = some (.inr (some x29)) ∧
                  (gC h25 x29 = some 4 ∧ wp_Se_forgetRealising (fun (h32 : MH) =>
                      (Post x16 h32)) x29 h25))))))) ∧
      ((r4 = 0) →
        (Post (-1 : Int32) h4)))) l1 (0 : Int32) (24 : Int32) h
set_option maxRecDepth 100000 in
set_option maxHeartbeats 4000000 in
theorem t_Br_leap {p : Program} {l : Launch} {e : Env} {R : Room} {s : State} {m : MethodId} {args : Array Value} {below : List Frame} {meth : Method} {c : Code} (G : mG) (C0 : Cx G p s m args c prog_1_method_9_code 3 "BassRealiser") (hR : 1 ≤ R.frames ∧ 22 ≤ R.locals ∧ 0 ≤ R.cells ∧ 0 ≤ R.slots) (hr : meth.sig.returnType = some .int) (hlk : meth.locks = false) {Post : Int32 → MH → Prop} (l0 : Nat) (l1 : Int32) (h : MH) (hwp : wp_Br_leap Post l0 l1 h) : WG p l e R s m args below meth c 0 0 (MQ below (va_Qi Post (Wd G) (mA G)) args s 0 0 (mA G)) G 3 [(0, .ref (m_b G + l0)), (1, .int l1)] 0 [] h := by
  unfold wp_Br_leap at hwp
  refine x_iload_n C0 1 d_Br_leap_0 rfl rfl ?_
  refine x_iconst (v := 0) C0 d_Br_leap_1 (by decide) ?_
  refine x_bipush (v := 24) C0 d_Br_leap_2 (by decide) ?_
  refine x_callSi0 (As := [.int l1, .int (0 : Int32), .int (24 : Int32)]) (st := []) C0 (c_Br_within l G hwp) kw_1_226 mk_Br_within kw_1_227 rfl (Nat.le_of_ble_eq_true rfl) rfl rfl ⟨Nat.le_trans (by decide) hR.1, Nat.le_trans (by decide) hR.2.1⟩ ⟨Nat.zero_le _, Nat.zero_le _⟩ rfl d_Br_leap_4 (fun r4 h4 hwp => ?_)
  refine x_if_ne (tgt := 12) C0 d_Br_leap_7 (by decide) (fun c7 => ?_) (fun c7 => ?_)
  · replace hwp := hwp.1 c7
    refine x_aload_n C0 0 d_Br_leap_12 rfl rfl ?_
    obtain ⟨x13, e13, hwp⟩ := hwp
    refine x_getR C0 fk_Br_25 e13 d_Br_leap_13 ?_
    obtain ⟨x16, e16, hwp⟩ := hwp
    refine x_getI C0 fk_Br_107 e16 d_Br_leap_16 ?_
    refine x_istore_n C0 d_Br_leap_19 rfl (by decide) (lv' := [(2, .int x16), (0, .ref (m_b G + l0)), (1, .int l1)]) rfl ?_
    refine x_aload_n C0 1 d_Br_leap_20 rfl rfl ?_
    obtain ⟨x21, e21, hwp⟩ := hwp
    refine x_getR C0 fk_Br_25 e21 d_Br_leap_21 ?_
    refine x_iload_n C0 2 d_Br_leap_24 rfl rfl ?_
    obtain ⟨⟨o25, e25⟩, hwp⟩ := hwp
    refine x_put (x := (.inl l1 : MV)) C0 pk_Br_107 e25 rfl rfl d_Br_leap_25 ?_
    refine x_nh (fun h25 eh25 => ?_)
    replace hwp := hwp h25 eh25
    refine x_aload_n C0 1 d_Br_leap_28 rfl rfl ?_
    obtain ⟨x29, e29, hwp⟩ := hwp
    refine x_getR C0 fk_Br_10 e29 d_Br_leap_29 ?_
    obtain ⟨g32, hwp⟩ := hwp
    refine x_callVv0 (k := x29) (As := []) (st := []) C0 (c_Se_forgetRealising l G hwp) kw_2_98 mk_Se_forgetRealising vk_Se_forgetRealising rfl g32 rfl (Nat.le_of_ble_eq_true rfl) rfl rfl ⟨Nat.le_trans (by decide) hR.1, Nat.le_trans (by decide) hR.2.1⟩ ⟨Nat.zero_le _, Nat.zero_le _⟩ rfl d_Br_leap_32 (fun h32 hwp => ?_)
    refine x_iload_n C0 0 d_Br_leap_35 rfl rfl ?_
    exact x_iret C0 hr hlk hwp d_Br_leap_36
  · replace hwp := hwp.2 c7
    refine x_iconst (v := -1) C0 d_Br_leap_10 (by decide) ?_
    exact x_iret C0 hr hlk hwp d_Br_leap_11
set_option maxRecDepth 100000 in
set_option maxHeartbeats 4000000 in
theorem c_Br_leap (l : Launch) (G : mG) {Post : Int32 → MH → Prop} {l0 : Nat} {l1 : Int32} {h : MH} (hwp : wp_Br_leap Post l0 l1 h) : Met l y_Br_leap (Cond.code y_Br_leap prog_1_method_9_code 3 (Option.some Jvm.ClassFile.FieldType.int) :: lw_good) ({ frames := 1, cells := 0, slots := 0, locals := 22 }) (va_Pc [.ref (m_b G + l0), .int l1] (Wd G h)) (va_Qi Post (Wd G) (mA G)) 0 0 (mA G) := by
  refine Met.ofW (cc := prog_1_method_9_code) (maxL := 3) (ret := (Option.some Jvm.ClassFile.FieldType.int)) (by decide +kernel) rfl ?_
  intro p e s m args below meth c s₁ B hml hv
  obtain ⟨rfl, hP, hz, hK, hSt⟩ := hv
  have hts := atoms_spec (ws := Cond.code y_Br_leap prog_1_method_9_code 3 (Option.some Jvm.ClassFile.FieldType.int) :: lw_good) B.pre
  have C0 : Cx G p s m ([.ref (m_b G + l0), .int l1] : List Value).toArray c prog_1_method_9_code 3 "BassRealiser" := ⟨⟨B.exec, B.bytes, hml, findClass_of_methodNamed B.named, fun w h => hts w (List.mem_cons_of_mem _ h)⟩, hK, hSt, by rw [hz]; exact Nat.le_add_right _ _⟩
  have hl := lv_entry ([.ref (m_b G + l0), .int l1]) (n := 3) (Nat.le_of_ble_eq_true rfl)
  rw [lg_entry_eq]
  exact t_Br_leap G C0 ⟨Nat.le_refl _, Nat.le_refl _, Nat.le_refl _, Nat.le_refl _⟩ B.returns B.notSynchronized _ _ _ hwp _ _ _ ⟨hP, hz, va_S.rf⟩ hl
def wp_Rm_leap (Post : Int32 → MH → Prop) (l0 : Nat) (l1 : Int32) (h : MH) : Prop :=
  (∃ o : MV, gF h l0 6 0 = some o) ∧ ∀ h2 : MH, h2 = fset h l0 0 (.inl (0 : Int32) : MV) →
  (wp_Rm_in (fun (r11 : Int32) (h11 : MH) =>
      (((¬ r11 = 0) →
          (∃ x20 : Int32, gF h11 l0 6 10 = some (.inl x20) ∧
            ((∃ o : MV, gF h11 l0 6 10 = some o) ∧ ∀ h26 : MH, h26 = fset h11 l0 10 (.inl l1 : MV) →
              ((∃ o : MV, gF h26 l0 6 19 = some o) ∧ ∀ h31 : MH, h31 = fset h26 l0 19 (.inl (0 : Int32) : MV) →
                (Post x20 h31))))) ∧
        ((r11 = 0) →
          (Post (-1 : Int32) h11)))) ((l1).toInt64) (0 : Int64) (24 : Int64) h2)
set_option maxRecDepth 100000 in
set_option maxHeartbeats 4000000 in
theorem t_Rm_leap {p : Program} {l : Launch} {e : Env} {R : Room} {s : State} {m : MethodId} {args : Array Value} {below : List Frame} {meth : Method} {c : Code} (G : mG) (C0 : Cx G p s m args c prog_8_method_12_code 3 "BassRealiserModel") (hR : 1 ≤ R.frames ∧ 25 ≤ R.locals ∧ 0 ≤ R.cells ∧ 0 ≤ R.slots) (hr : meth.sig.returnType = some .int) (hlk : meth.locks = false) {Post : Int32 → MH → Prop} (l0 : Nat) (l1 : Int32) (h : MH) (hwp : wp_Rm_leap Post l0 l1 h) : WG p l e R s m args below meth c 0 0 (MQ below (va_Qi Post (Wd G) (mA G)) args s 0 0 (mA G)) G 3 [(0, .ref (m_b G + l0)), (1, .int l1)] 0 [] h := by
  unfold wp_Rm_leap at hwp
  refine x_aload_n C0 0 d_Rm_leap_0 rfl rfl ?_
  refine x_iconst (v := 0) C0 d_Rm_leap_1 (by decide) ?_
  obtain ⟨⟨o2, e2⟩, hwp⟩ := hwp
  refine x_put (x := (.inl (0 : Int32) : MV)) C0 pk_Rm_1 e2 rfl rfl d_Rm_leap_2 ?_
  refine x_nh (fun h2 eh2 => ?_)
  replace hwp := hwp h2 eh2
  refine x_iload_n C0 1 d_Rm_leap_5 rfl rfl ?_
  refine x_i2l C0 d_Rm_leap_6 ?_
  refine x_lconst (v := 0) C0 d_Rm_leap_7 (by decide) ?_
  refine x_ldc2 (v := 24) C0 kw_3_227 d_Rm_leap_8 ?_
  refine x_callSi0 (As := [.long ((l1).toInt64), .long (0 : Int64), .long (24 : Int64)]) (st := []) C0 (c_Rm_in l G hwp) kw_3_173 mk_Rm_in kw_3_174 rfl (Nat.le_of_ble_eq_true rfl) rfl rfl ⟨Nat.le_trans (by decide) hR.1, Nat.le_trans (by decide) hR.2.1⟩ ⟨Nat.zero_le _, Nat.zero_le _⟩ rfl d_Rm_leap_11 (fun r11 h11 hwp => ?_)
  refine x_if_ne (tgt := 19) C0 d_Rm_leap_14 (by decide) (fun c14 => ?_) (fun c14 => ?_)
  · replace hwp := hwp.1 c14
    refine x_aload_n C0 0 d_Rm_leap_19 rfl rfl ?_
    obtain ⟨x20, e20, hwp⟩ := hwp
    refine x_getI C0 fk_Rm_35 e20 d_Rm_leap_20 ?_
    refine x_istore_n C0 d_Rm_leap_23 rfl (by decide) (lv' := [(2, .int x20), (0, .ref (m_b G + l0)), (1, .int l1)]) rfl ?_
    refine x_aload_n C0 1 d_Rm_leap_24 rfl rfl ?_
    refine x_iload_n C0 2 d_Rm_leap_25 rfl rfl ?_
    obtain ⟨⟨o26, e26⟩, hwp⟩ := hwp
    refine x_put (x := (.inl l1 : MV)) C0 pk_Rm_35 e26 rfl rfl d_Rm_leap_26 ?_
    refine x_nh (fun h26 eh26 => ?_)
    replace hwp := hwp h26 eh26
    refine x_aload_n C0 1 d_Rm_leap_29 rfl rfl ?_
    refine x_iconst (v := 0) C0 d_Rm_leap_30 (by decide) ?_
    obtain ⟨⟨o31, e31⟩, hwp⟩ := hwp
    refine x_put (x := (.inl (0 : Int32) : MV)) C0 pk_Rm_93 e31 rfl rfl d_Rm_leap_31 ?_
    refine x_nh (fun h31 eh31 => ?_)
    replace hwp := hwp h31 eh31
    refine x_iload_n C0 0 d_Rm_leap_34 rfl rfl ?_
    exact x_iret C0 hr hlk hwp d_Rm_leap_35
  · replace hwp := hwp.2 c14
    refine x_iconst (v := -1) C0 d_Rm_leap_17 (by decide) ?_
    exact x_iret C0 hr hlk hwp d_Rm_leap_18
set_option maxRecDepth 100000 in
set_option maxHeartbeats 4000000 in
theorem c_Rm_leap (l : Launch) (G : mG) {Post : Int32 → MH → Prop} {l0 : Nat} {l1 : Int32} {h : MH} (hwp : wp_Rm_leap Post l0 l1 h) : Met l y_Rm_leap (Cond.code y_Rm_leap prog_8_method_12_code 3 (Option.some Jvm.ClassFile.FieldType.int) :: lw_good) ({ frames := 1, cells := 0, slots := 0, locals := 25 }) (va_Pc [.ref (m_b G + l0), .int l1] (Wd G h)) (va_Qi Post (Wd G) (mA G)) 0 0 (mA G) := by
  refine Met.ofW (cc := prog_8_method_12_code) (maxL := 3) (ret := (Option.some Jvm.ClassFile.FieldType.int)) (by decide +kernel) rfl ?_
  intro p e s m args below meth c s₁ B hml hv
  obtain ⟨rfl, hP, hz, hK, hSt⟩ := hv
  have hts := atoms_spec (ws := Cond.code y_Rm_leap prog_8_method_12_code 3 (Option.some Jvm.ClassFile.FieldType.int) :: lw_good) B.pre
  have C0 : Cx G p s m ([.ref (m_b G + l0), .int l1] : List Value).toArray c prog_8_method_12_code 3 "BassRealiserModel" := ⟨⟨B.exec, B.bytes, hml, findClass_of_methodNamed B.named, fun w h => hts w (List.mem_cons_of_mem _ h)⟩, hK, hSt, by rw [hz]; exact Nat.le_add_right _ _⟩
  have hl := lv_entry ([.ref (m_b G + l0), .int l1]) (n := 3) (Nat.le_of_ble_eq_true rfl)
  rw [lg_entry_eq]
  exact t_Rm_leap G C0 ⟨Nat.le_refl _, Nat.le_refl _, Nat.le_refl _, Nat.le_refl _⟩ B.returns B.notSynchronized _ _ _ hwp _ _ _ ⟨hP, hz, va_S.rf⟩ hl
def wp_Br_given_29 (Post : Int32 → MH → Prop) (l0 : Nat) (l1 : Int32) (l2 : Int32) (l3 : Int32) (h : MH) : Prop :=
  ∃ x30 : Nat, gF h l0 5 1 = some (.inr (some x30)) ∧
  (∃ (n34 : Nat) (f34 : Nat → Option Nat) (q34 : Nat), gR h x30 3 = some (n34, f34) ∧ vp_in l1 n34 ∧ f34 (l1).toNatClampNeg = some q34 ∧
    (∃ x35 : Nat, gF h q34 0 5 = some (.inr (some x35)) ∧
      (∃ (n39 : Nat) (f39 : Nat → Int32), gA h x35 0 = some (n39, f39) ∧ vp_in l2 n39 ∧
        (∀ z40 : Int32, z40 = f39 (l2).toNatClampNeg →
          (∃ x43 : Nat, gF h l0 5 1 = some (.inr (some x43)) ∧
            (∃ (n47 : Nat) (f47 : Nat → Option Nat) (q47 : Nat), gR h x43 3 = some (n47, f47) ∧ vp_in l1 n47 ∧ f47 (l1).toNatClampNeg = some q47 ∧
              (∃ x48 : Nat, gF h q47 0 5 = some (.inr (some x48)) ∧
                (∃ (n53 : Nat) (f53 : Nat → Int32), gA h x48 0 = some (n53, f53) ∧ vp_in l2 n53 ∧ ∀ h53 : MH, h53 = mset h x48 (.inr (0, n53, .inl (upd f53 (l2).toNatClampNeg l3))) →
                  (∃ x55 : Nat, gF h53 l0 5 0 = some (.inr (some x55)) ∧
                    (gC h53 x55 = some 4 ∧ wp_Se_forgetChord (fun (h59 : MH) =>
                        (((¬ z40 = (-1 : Int32)) →
                        (Post z40 h59)) ∧
                        ((z40 = (-1 : Int32)) →
                        (Post (-2 : Int32) h59)))) x55 l1 h53))))))))))
def wp_Br_given (Post : Int32 → MH → Prop) (l0 : Nat) (l1 : Int32) (l2 : Int32) (l3 : Int32) (h : MH) : Prop :=
  gC h l0 = some 5 ∧ wp_Br_hasChord (fun (r2 : Int32) (h2 : MH) =>
    (((r2 = 0) →
        (Post (-1 : Int32) h2)) ∧
      ((¬ r2 = 0) →
        (wp_Br_isVoice (fun (r9 : Int32) (h9 : MH) =>
            (((r9 = 0) →
                (Post (-1 : Int32) h9)) ∧
              ((¬ r9 = 0) →
                (((l3 = (-1 : Int32)) →
                    (wp_Br_given_29 Post l0 l1 l2 l3 h9)) ∧
                  ((¬ l3 = (-1 : Int32)) →
                    (wp_Br_isPitch (fun (r21 : Int32) (h21 : MH) =>
                        (((¬ r21 = 0) →
                        (wp_Br_given_29 Post l0 l1 l2 l3 h21)) ∧
                        ((r21 = 0) →
                        (Post (-1 : Int32) h21)))) l3 h9)))))) l2 h2)))) l0 l1 h
set_option maxRecDepth 100000 in
set_option maxHeartbeats 4000000 in
theorem t_Br_given_29 {p : Program} {l : Launch} {e : Env} {R : Room} {s : State} {m : MethodId} {args : Array Value} {below : List Frame} {meth : Method} {c : Code} (G : mG) (C0 : Cx G p s m args c prog_1_method_10_code 5 "BassRealiser") (hR : 1 ≤ R.frames ∧ 21 ≤ R.locals ∧ 0 ≤ R.cells ∧ 0 ≤ R.slots) (hr : meth.sig.returnType = some .int) (hlk : meth.locks = false) {Post : Int32 → MH → Prop} (l0 : Nat) (l1 : Int32) (l2 : Int32) (l3 : Int32) (h : MH) (hwp : wp_Br_given_29 Post l0 l1 l2 l3 h) : WG p l e R s m args below meth c 0 0 (MQ below (va_Qi Post (Wd G) (mA G)) args s 0 0 (mA G)) G 5 [(0, .ref (m_b G + l0)), (1, .int l1), (2, .int l2), (3, .int l3)] 29 [] h := by
  unfold wp_Br_given_29 at hwp
  refine x_aload_n C0 0 d_Br_given_29 rfl rfl ?_
  obtain ⟨x30, e30, hwp⟩ := hwp
  refine x_getR C0 fk_Br_20 e30 d_Br_given_30 ?_
  refine x_iload_n C0 1 d_Br_given_33 rfl rfl ?_
  obtain ⟨n34, f34, q34, e34, i34, g34, hwp⟩ := hwp
  refine x_aald (t := 3) C0 e34 rfl i34 g34 d_Br_given_34 ?_
  obtain ⟨x35, e35, hwp⟩ := hwp
  refine x_getR C0 fk_Br_110 e35 d_Br_given_35 ?_
  refine x_iload_n C0 2 d_Br_given_38 rfl rfl ?_
  obtain ⟨n39, f39, e39, i39, hwp⟩ := hwp
  refine x_iald C0 e39 i39 d_Br_given_39 ?_
  refine x_topI (fun z40 e40 => ?_)
  replace hwp := hwp z40 e40
  refine x_istore C0 d_Br_given_40 (by decide) (lv' := [(4, .int z40), (0, .ref (m_b G + l0)), (1, .int l1), (2, .int l2), (3, .int l3)]) rfl ?_
  refine x_aload_n C0 1 d_Br_given_42 rfl rfl ?_
  obtain ⟨x43, e43, hwp⟩ := hwp
  refine x_getR C0 fk_Br_20 e43 d_Br_given_43 ?_
  refine x_iload_n C0 2 d_Br_given_46 rfl rfl ?_
  obtain ⟨n47, f47, q47, e47, i47, g47, hwp⟩ := hwp
  refine x_aald (t := 3) C0 e47 rfl i47 g47 d_Br_given_47 ?_
  obtain ⟨x48, e48, hwp⟩ := hwp
  refine x_getR C0 fk_Br_110 e48 d_Br_given_48 ?_
  refine x_iload_n C0 3 d_Br_given_51 rfl rfl ?_
  refine x_iload_n C0 4 d_Br_given_52 rfl rfl ?_
  obtain ⟨n53, f53, e53, i53, hwp⟩ := hwp
  refine x_iast C0 e53 i53 d_Br_given_53 ?_
  refine x_nh (fun h53 eh53 => ?_)
  replace hwp := hwp h53 eh53
  refine x_aload_n C0 1 d_Br_given_54 rfl rfl ?_
  obtain ⟨x55, e55, hwp⟩ := hwp
  refine x_getR C0 fk_Br_10 e55 d_Br_given_55 ?_
  refine x_iload_n C0 2 d_Br_given_58 rfl rfl ?_
  obtain ⟨g59, hwp⟩ := hwp
  refine x_callVv0 (k := x55) (As := [.int l1]) (st := []) C0 (c_Se_forgetChord l G hwp) kw_2_52 mk_Se_forgetChord vk_Se_forgetChord rfl g59 rfl (Nat.le_of_ble_eq_true rfl) rfl rfl ⟨Nat.le_trans (by decide) hR.1, Nat.le_trans (by decide) hR.2.1⟩ ⟨Nat.zero_le _, Nat.zero_le _⟩ rfl d_Br_given_59 (fun h59 hwp => ?_)
  refine x_iload C0 0 d_Br_given_62 rfl ?_
  refine x_iconst (v := -1) C0 d_Br_given_64 (by decide) ?_
  refine x_icmp_ne (tgt := 73) C0 d_Br_given_65 (by decide) (fun c65 => ?_) (fun c65 => ?_)
  · replace hwp := hwp.1 c65
    refine x_iload C0 0 d_Br_given_73 rfl ?_
    exact x_iret C0 hr hlk hwp d_Br_given_75
  · replace hwp := hwp.2 c65
    refine x_bipush (v := -2) C0 d_Br_given_68 (by decide) ?_
    refine x_goto (tgt := 75) C0 d_Br_given_70 (by decide) ?_
    exact x_iret C0 hr hlk hwp d_Br_given_75
set_option maxRecDepth 100000 in
set_option maxHeartbeats 4000000 in
theorem t_Br_given {p : Program} {l : Launch} {e : Env} {R : Room} {s : State} {m : MethodId} {args : Array Value} {below : List Frame} {meth : Method} {c : Code} (G : mG) (C0 : Cx G p s m args c prog_1_method_10_code 5 "BassRealiser") (hR : 1 ≤ R.frames ∧ 21 ≤ R.locals ∧ 0 ≤ R.cells ∧ 0 ≤ R.slots) (hr : meth.sig.returnType = some .int) (hlk : meth.locks = false) {Post : Int32 → MH → Prop} (l0 : Nat) (l1 : Int32) (l2 : Int32) (l3 : Int32) (h : MH) (hwp : wp_Br_given Post l0 l1 l2 l3 h) : WG p l e R s m args below meth c 0 0 (MQ below (va_Qi Post (Wd G) (mA G)) args s 0 0 (mA G)) G 5 [(0, .ref (m_b G + l0)), (1, .int l1), (2, .int l2), (3, .int l3)] 0 [] h := by
  unfold wp_Br_given at hwp
  refine x_aload_n C0 0 d_Br_given_0 rfl rfl ?_
  refine x_iload_n C0 1 d_Br_given_1 rfl rfl ?_
  obtain ⟨g2, hwp⟩ := hwp
  refine x_callVi0 (k := l0) (As := [.int l1]) (st := []) C0 (c_Br_hasChord l G hwp) kw_2_64 mk_Br_hasChord vk_Br_hasChord rfl g2 rfl (Nat.le_of_ble_eq_true rfl) rfl rfl ⟨Nat.le_trans (by decide) hR.1, Nat.le_trans (by decide) hR.2.1⟩ ⟨Nat.zero_le _, Nat.zero_le _⟩ rfl d_Br_given_2 (fun r2 h2 hwp => ?_)
  refine x_if_eq (tgt := 27) C0 d_Br_given_5 (by decide) (fun c5 => ?_) (fun c5 => ?_)
  · replace hwp := hwp.1 c5
    refine x_iconst (v := -1) C0 d_Br_given_27 (by decide) ?_
    exact x_iret C0 hr hlk hwp d_Br_given_28
  · replace hwp := hwp.2 c5
    refine x_iload_n C0 2 d_Br_given_8 rfl rfl ?_
    refine x_callSi0 (As := [.int l2]) (st := []) C0 (c_Br_isVoice l G hwp) kw_2_88 mk_Br_isVoice kw_2_89 rfl (Nat.le_of_ble_eq_true rfl) rfl rfl ⟨Nat.le_trans (by decide) hR.1, Nat.le_trans (by decide) hR.2.1⟩ ⟨Nat.zero_le _, Nat.zero_le _⟩ rfl d_Br_given_9 (fun r9 h9 hwp => ?_)
    refine x_if_eq (tgt := 27) C0 d_Br_given_12 (by decide) (fun c12 => ?_) (fun c12 => ?_)
    · replace hwp := hwp.1 c12
      refine x_iconst (v := -1) C0 d_Br_given_27 (by decide) ?_
      exact x_iret C0 hr hlk hwp d_Br_given_28
    · replace hwp := hwp.2 c12
      refine x_iload_n C0 3 d_Br_given_15 rfl rfl ?_
      refine x_iconst (v := -1) C0 d_Br_given_16 (by decide) ?_
      refine x_icmp_eq (tgt := 29) C0 d_Br_given_17 (by decide) (fun c17 => ?_) (fun c17 => ?_)
      · replace hwp := hwp.1 c17
        exact x_sub [0, 1, 2, 3] rfl (t_Br_given_29 G C0 hR hr hlk  _ _ _ _ _ hwp)
      · replace hwp := hwp.2 c17
        refine x_iload_n C0 3 d_Br_given_20 rfl rfl ?_
        refine x_callSi0 (As := [.int l3]) (st := []) C0 (c_Br_isPitch l G hwp) kw_2_91 mk_Br_isPitch kw_2_92 rfl (Nat.le_of_ble_eq_true rfl) rfl rfl ⟨Nat.le_trans (by decide) hR.1, Nat.le_trans (by decide) hR.2.1⟩ ⟨Nat.zero_le _, Nat.zero_le _⟩ rfl d_Br_given_21 (fun r21 h21 hwp => ?_)
        refine x_if_ne (tgt := 29) C0 d_Br_given_24 (by decide) (fun c24 => ?_) (fun c24 => ?_)
        · replace hwp := hwp.1 c24
          exact x_sub [0, 1, 2, 3] rfl (t_Br_given_29 G C0 hR hr hlk  _ _ _ _ _ hwp)
        · replace hwp := hwp.2 c24
          refine x_iconst (v := -1) C0 d_Br_given_27 (by decide) ?_
          exact x_iret C0 hr hlk hwp d_Br_given_28
set_option maxRecDepth 100000 in
set_option maxHeartbeats 4000000 in
theorem c_Br_given (l : Launch) (G : mG) {Post : Int32 → MH → Prop} {l0 : Nat} {l1 : Int32} {l2 : Int32} {l3 : Int32} {h : MH} (hwp : wp_Br_given Post l0 l1 l2 l3 h) : Met l y_Br_given (Cond.code y_Br_given prog_1_method_10_code 5 (Option.some Jvm.ClassFile.FieldType.int) :: lw_good) ({ frames := 1, cells := 0, slots := 0, locals := 21 }) (va_Pc [.ref (m_b G + l0), .int l1, .int l2, .int l3] (Wd G h)) (va_Qi Post (Wd G) (mA G)) 0 0 (mA G) := by
  refine Met.ofW (cc := prog_1_method_10_code) (maxL := 5) (ret := (Option.some Jvm.ClassFile.FieldType.int)) (by decide +kernel) rfl ?_
  intro p e s m args below meth c s₁ B hml hv
  obtain ⟨rfl, hP, hz, hK, hSt⟩ := hv
  have hts := atoms_spec (ws := Cond.code y_Br_given prog_1_method_10_code 5 (Option.some Jvm.ClassFile.FieldType.int) :: lw_good) B.pre
  have C0 : Cx G p s m ([.ref (m_b G + l0), .int l1, .int l2, .int l3] : List Value).toArray c prog_1_method_10_code 5 "BassRealiser" := ⟨⟨B.exec, B.bytes, hml, findClass_of_methodNamed B.named, fun w h => hts w (List.mem_cons_of_mem _ h)⟩, hK, hSt, by rw [hz]; exact Nat.le_add_right _ _⟩
  have hl := lv_entry ([.ref (m_b G + l0), .int l1, .int l2, .int l3]) (n := 5) (Nat.le_of_ble_eq_true rfl)
  rw [lg_entry_eq]
  exact t_Br_given G C0 ⟨Nat.le_refl _, Nat.le_refl _, Nat.le_refl _, Nat.le_refl _⟩ B.returns B.notSynchronized _ _ _ _ _ hwp _ _ _ ⟨hP, hz, va_S.rf⟩ hl
