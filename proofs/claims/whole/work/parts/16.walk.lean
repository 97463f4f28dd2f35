theorem d_Br_voicings_0 : decode prog_1_method_13_code 0 = .ok (.aload_n 0, 1) := by decide +kernel
theorem d_Br_voicings_1 : decode prog_1_method_13_code 1 = .ok (.iload_n 1, 1) := by decide +kernel
theorem d_Br_voicings_2 : decode prog_1_method_13_code 2 = .ok (.invokevirtual 62, 3) := by decide +kernel
theorem d_Br_voicings_5 : decode prog_1_method_13_code 5 = .ok (.ifCond .eq 17, 3) := by decide +kernel
theorem d_Br_voicings_8 : decode prog_1_method_13_code 8 = .ok (.aload_n 0, 1) := by decide +kernel
theorem d_Br_voicings_9 : decode prog_1_method_13_code 9 = .ok (.getfield 10, 3) := by decide +kernel
theorem d_Br_voicings_12 : decode prog_1_method_13_code 12 = .ok (.iload_n 1, 1) := by decide +kernel
theorem d_Br_voicings_13 : decode prog_1_method_13_code 13 = .ok (.invokevirtual 123, 3) := by decide +kernel
theorem d_Br_voicings_16 : decode prog_1_method_13_code 16 = .ok (.getfield 127, 3) := by decide +kernel
theorem d_Br_voicings_19 : decode prog_1_method_13_code 19 = .ok (.goto 4, 3) := by decide +kernel
theorem d_Br_voicings_22 : decode prog_1_method_13_code 22 = .ok (.iconst (-1), 1) := by decide +kernel
theorem d_Br_voicings_23 : decode prog_1_method_13_code 23 = .ok (.ireturn, 1) := by decide +kernel
theorem d_Rm_look_0 : decode prog_8_method_28_code 0 = .ok (.aload_n 0, 1) := by decide +kernel
theorem d_Rm_look_1 : decode prog_8_method_28_code 1 = .ok (.getfield 54, 3) := by decide +kernel
theorem d_Rm_look_4 : decode prog_8_method_28_code 4 = .ok (.iload_n 1, 1) := by decide +kernel
theorem d_Rm_look_5 : decode prog_8_method_28_code 5 = .ok (.iconst 0, 1) := by decide +kernel
theorem d_Rm_look_6 : decode prog_8_method_28_code 6 = .ok (.iastore, 1) := by decide +kernel
theorem d_Rm_look_7 : decode prog_8_method_28_code 7 = .ok (.aload_n 0, 1) := by decide +kernel
theorem d_Rm_look_8 : decode prog_8_method_28_code 8 = .ok (.getfield 57, 3) := by decide +kernel
theorem d_Rm_look_11 : decode prog_8_method_28_code 11 = .ok (.iload_n 1, 1) := by decide +kernel
theorem d_Rm_look_12 : decode prog_8_method_28_code 12 = .ok (.iconst 0, 1) := by decide +kernel
theorem d_Rm_look_13 : decode prog_8_method_28_code 13 = .ok (.iastore, 1) := by decide +kernel
theorem d_Rm_look_14 : decode prog_8_method_28_code 14 = .ok (.aload_n 0, 1) := by decide +kernel
theorem d_Rm_look_15 : decode prog_8_method_28_code 15 = .ok (.getfield 60, 3) := by decide +kernel
theorem d_Rm_look_18 : decode prog_8_method_28_code 18 = .ok (.iload_n 1, 1) := by decide +kernel
theorem d_Rm_look_19 : decode prog_8_method_28_code 19 = .ok (.iconst 0, 1) := by decide +kernel
theorem d_Rm_look_20 : decode prog_8_method_28_code 20 = .ok (.iastore, 1) := by decide +kernel
theorem d_Rm_look_21 : decode prog_8_method_28_code 21 = .ok (.iconst 2, 1) := by decide +kernel
theorem d_Rm_look_22 : decode prog_8_method_28_code 22 = .ok (.istore_n 2, 1) := by decide +kernel
theorem d_Rm_look_23 : decode prog_8_method_28_code 23 = .ok (.iload_n 2, 1) := by decide +kernel
theorem d_Rm_look_24 : decode prog_8_method_28_code 24 = .ok (.bipush 10, 2) := by decide +kernel
theorem d_Rm_look_26 : decode prog_8_method_28_code 26 = .ok (.if_icmp .ge 102, 3) := by decide +kernel
theorem d_Rm_look_29 : decode prog_8_method_28_code 29 = .ok (.aload_n 0, 1) := by decide +kernel
theorem d_Rm_look_30 : decode prog_8_method_28_code 30 = .ok (.iload_n 1, 1) := by decide +kernel
theorem d_Rm_look_31 : decode prog_8_method_28_code 31 = .ok (.iload_n 2, 1) := by decide +kernel
theorem d_Rm_look_32 : decode prog_8_method_28_code 32 = .ok (.invokevirtual 131, 3) := by decide +kernel
theorem d_Rm_look_35 : decode prog_8_method_28_code 35 = .ok (.ifCond .eq 87, 3) := by decide +kernel
theorem d_Rm_look_38 : decode prog_8_method_28_code 38 = .ok (.iconst 1, 1) := by decide +kernel
theorem d_Rm_look_39 : decode prog_8_method_28_code 39 = .ok (.aload_n 0, 1) := by decide +kernel
theorem d_Rm_look_40 : decode prog_8_method_28_code 40 = .ok (.iload_n 1, 1) := by decide +kernel
theorem d_Rm_look_41 : decode prog_8_method_28_code 41 = .ok (.iload_n 2, 1) := by decide +kernel
theorem d_Rm_look_42 : decode prog_8_method_28_code 42 = .ok (.invokevirtual 151, 3) := by decide +kernel
theorem d_Rm_look_45 : decode prog_8_method_28_code 45 = .ok (.ishl, 1) := by decide +kernel
theorem d_Rm_look_46 : decode prog_8_method_28_code 46 = .ok (.istore_n 3, 1) := by decide +kernel
theorem d_Rm_look_47 : decode prog_8_method_28_code 47 = .ok (.aload_n 0, 1) := by decide +kernel
theorem d_Rm_look_48 : decode prog_8_method_28_code 48 = .ok (.getfield 54, 3) := by decide +kernel
theorem d_Rm_look_51 : decode prog_8_method_28_code 51 = .ok (.iload_n 1, 1) := by decide +kernel
theorem d_Rm_look_52 : decode prog_8_method_28_code 52 = .ok (.aload_n 0, 1) := by decide +kernel
theorem d_Rm_look_53 : decode prog_8_method_28_code 53 = .ok (.getfield 54, 3) := by decide +kernel
theorem d_Rm_look_56 : decode prog_8_method_28_code 56 = .ok (.iload_n 1, 1) := by decide +kernel
theorem d_Rm_look_57 : decode prog_8_method_28_code 57 = .ok (.iaload, 1) := by decide +kernel
theorem d_Rm_look_58 : decode prog_8_method_28_code 58 = .ok (.iload_n 3, 1) := by decide +kernel
theorem d_Rm_look_59 : decode prog_8_method_28_code 59 = .ok (.ior, 1) := by decide +kernel
theorem d_Rm_look_60 : decode prog_8_method_28_code 60 = .ok (.iastore, 1) := by decide +kernel
theorem d_Rm_look_61 : decode prog_8_method_28_code 61 = .ok (.aload_n 0, 1) := by decide +kernel
theorem d_Rm_look_62 : decode prog_8_method_28_code 62 = .ok (.getfield 57, 3) := by decide +kernel
theorem d_Rm_look_65 : decode prog_8_method_28_code 65 = .ok (.iload_n 1, 1) := by decide +kernel
theorem d_Rm_look_66 : decode prog_8_method_28_code 66 = .ok (.aload_n 0, 1) := by decide +kernel
theorem d_Rm_look_67 : decode prog_8_method_28_code 67 = .ok (.iload_n 1, 1) := by decide +kernel
theorem d_Rm_look_68 : decode prog_8_method_28_code 68 = .ok (.iload_n 2, 1) := by decide +kernel
theorem d_Rm_look_69 : decode prog_8_method_28_code 69 = .ok (.invokevirtual 154, 3) := by decide +kernel
theorem d_Rm_look_72 : decode prog_8_method_28_code 72 = .ok (.ifCond .eq 14, 3) := by decide +kernel
theorem d_Rm_look_75 : decode prog_8_method_28_code 75 = .ok (.aload_n 0, 1) := by decide +kernel
theorem d_Rm_look_76 : decode prog_8_method_28_code 76 = .ok (.getfield 57, 3) := by decide +kernel
theorem d_Rm_look_79 : decode prog_8_method_28_code 79 = .ok (.iload_n 1, 1) := by decide +kernel
theorem d_Rm_look_80 : decode prog_8_method_28_code 80 = .ok (.iaload, 1) := by decide +kernel
theorem d_Rm_look_81 : decode prog_8_method_28_code 81 = .ok (.iload_n 3, 1) := by decide +kernel
theorem d_Rm_look_82 : decode prog_8_method_28_code 82 = .ok (.ior, 1) := by decide +kernel
theorem d_Rm_look_83 : decode prog_8_method_28_code 83 = .ok (.goto 9, 3) := by decide +kernel
theorem d_Rm_look_86 : decode prog_8_method_28_code 86 = .ok (.aload_n 0, 1) := by decide +kernel
theorem d_Rm_look_87 : decode prog_8_method_28_code 87 = .ok (.getfield 57, 3) := by decide +kernel
theorem d_Rm_look_90 : decode prog_8_method_28_code 90 = .ok (.iload_n 1, 1) := by decide +kernel
theorem d_Rm_look_91 : decode prog_8_method_28_code 91 = .ok (.iaload, 1) := by decide +kernel
theorem d_Rm_look_92 : decode prog_8_method_28_code 92 = .ok (.iastore, 1) := by decide +kernel
theorem d_Rm_look_93 : decode prog_8_method_28_code 93 = .ok (.aload_n 0, 1) := by decide +kernel
theorem d_Rm_look_94 : decode prog_8_method_28_code 94 = .ok (.getfield 60, 3) := by decide +kernel
theorem d_Rm_look_97 : decode prog_8_method_28_code 97 = .ok (.iload_n 1, 1) := by decide +kernel
theorem d_Rm_look_98 : decode prog_8_method_28_code 98 = .ok (.iload_n 2, 1) := by decide +kernel
theorem d_Rm_look_99 : decode prog_8_method_28_code 99 = .ok (.bipush 7, 2) := by decide +kernel
theorem d_Rm_look_101 : decode prog_8_method_28_code 101 = .ok (.if_icmp .ne 14, 3) := by decide +kernel
theorem d_Rm_look_104 : decode prog_8_method_28_code 104 = .ok (.aload_n 0, 1) := by decide +kernel
theorem d_Rm_look_105 : decode prog_8_method_28_code 105 = .ok (.getfield 60, 3) := by decide +kernel
theorem d_Rm_look_108 : decode prog_8_method_28_code 108 = .ok (.iload_n 1, 1) := by decide +kernel
theorem d_Rm_look_109 : decode prog_8_method_28_code 109 = .ok (.iaload, 1) := by decide +kernel
theorem d_Rm_look_110 : decode prog_8_method_28_code 110 = .ok (.iload_n 3, 1) := by decide +kernel
theorem d_Rm_look_111 : decode prog_8_method_28_code 111 = .ok (.ior, 1) := by decide +kernel
theorem d_Rm_look_112 : decode prog_8_method_28_code 112 = .ok (.goto 9, 3) := by decide +kernel
theorem d_Rm_look_115 : decode prog_8_method_28_code 115 = .ok (.aload_n 0, 1) := by decide +kernel
theorem d_Rm_look_116 : decode prog_8_method_28_code 116 = .ok (.getfield 60, 3) := by decide +kernel
theorem d_Rm_look_119 : decode prog_8_method_28_code 119 = .ok (.iload_n 1, 1) := by decide +kernel
theorem d_Rm_look_120 : decode prog_8_method_28_code 120 = .ok (.iaload, 1) := by decide +kernel
theorem d_Rm_look_121 : decode prog_8_method_28_code 121 = .ok (.iastore, 1) := by decide +kernel
theorem d_Rm_look_122 : decode prog_8_method_28_code 122 = .ok (.iinc 2 1, 3) := by decide +kernel
theorem d_Rm_look_125 : decode prog_8_method_28_code 125 = .ok (.goto (-102), 3) := by decide +kernel
theorem d_Rm_look_128 : decode prog_8_method_28_code 128 = .ok (.return_, 1) := by decide +kernel
theorem d_Rm_has_0 : decode prog_8_method_29_code 0 = .ok (.iload_n 0, 1) := by decide +kernel
theorem d_Rm_has_1 : decode prog_8_method_29_code 1 = .ok (.iload_n 1, 1) := by decide +kernel
theorem d_Rm_has_2 : decode prog_8_method_29_code 2 = .ok (.ishr, 1) := by decide +kernel
theorem d_Rm_has_3 : decode prog_8_method_29_code 3 = .ok (.iconst 1, 1) := by decide +kernel
theorem d_Rm_has_4 : decode prog_8_method_29_code 4 = .ok (.iand, 1) := by decide +kernel
theorem d_Rm_has_5 : decode prog_8_method_29_code 5 = .ok (.iconst 1, 1) := by decide +kernel
theorem d_Rm_has_6 : decode prog_8_method_29_code 6 = .ok (.if_icmp .ne 7, 3) := by decide +kernel
theorem d_Rm_has_9 : decode prog_8_method_29_code 9 = .ok (.iconst 1, 1) := by decide +kernel
theorem d_Rm_has_10 : decode prog_8_method_29_code 10 = .ok (.goto 4, 3) := by decide +kernel
theorem d_Rm_has_13 : decode prog_8_method_29_code 13 = .ok (.iconst 0, 1) := by decide +kernel
theorem d_Rm_has_14 : decode prog_8_method_29_code 14 = .ok (.ireturn, 1) := by decide +kernel
theorem d_Rm_classes_0 : decode prog_8_method_30_code 0 = .ok (.iconst 0, 1) := by decide +kernel
theorem d_Rm_classes_1 : decode prog_8_method_30_code 1 = .ok (.istore_n 1, 1) := by decide +kernel
theorem d_Rm_classes_2 : decode prog_8_method_30_code 2 = .ok (.iconst 0, 1) := by decide +kernel
theorem d_Rm_classes_3 : decode prog_8_method_30_code 3 = .ok (.istore_n 2, 1) := by decide +kernel
theorem d_Rm_classes_4 : decode prog_8_method_30_code 4 = .ok (.iload_n 2, 1) := by decide +kernel
theorem d_Rm_classes_5 : decode prog_8_method_30_code 5 = .ok (.iconst 4, 1) := by decide +kernel
theorem d_Rm_classes_6 : decode prog_8_method_30_code 6 = .ok (.if_icmp .ge 23, 3) := by decide +kernel
theorem d_Rm_classes_9 : decode prog_8_method_30_code 9 = .ok (.iload_n 1, 1) := by decide +kernel
theorem d_Rm_classes_10 : decode prog_8_method_30_code 10 = .ok (.iconst 1, 1) := by decide +kernel
theorem d_Rm_classes_11 : decode prog_8_method_30_code 11 = .ok (.aload_n 0, 1) := by decide +kernel
theorem d_Rm_classes_12 : decode prog_8_method_30_code 12 = .ok (.getfield 48, 3) := by decide +kernel
theorem d_Rm_classes_15 : decode prog_8_method_30_code 15 = .ok (.iload_n 2, 1) := by decide +kernel
theorem d_Rm_classes_16 : decode prog_8_method_30_code 16 = .ok (.iaload, 1) := by decide +kernel
theorem d_Rm_classes_17 : decode prog_8_method_30_code 17 = .ok (.bipush 12, 2) := by decide +kernel
theorem d_Rm_classes_19 : decode prog_8_method_30_code 19 = .ok (.irem, 1) := by decide +kernel
theorem d_Rm_classes_20 : decode prog_8_method_30_code 20 = .ok (.ishl, 1) := by decide +kernel
theorem d_Rm_classes_21 : decode prog_8_method_30_code 21 = .ok (.ior, 1) := by decide +kernel
theorem d_Rm_classes_22 : decode prog_8_method_30_code 22 = .ok (.istore_n 1, 1) := by decide +kernel
theorem d_Rm_classes_23 : decode prog_8_method_30_code 23 = .ok (.iinc 2 1, 3) := by decide +kernel
theorem d_Rm_classes_26 : decode prog_8_method_30_code 26 = .ok (.goto (-22), 3) := by decide +kernel
theorem d_Rm_classes_29 : decode prog_8_method_30_code 29 = .ok (.iload_n 1, 1) := by decide +kernel
theorem d_Rm_classes_30 : decode prog_8_method_30_code 30 = .ok (.ireturn, 1) := by decide +kernel
theorem d_Rm_aloneRule_0 : decode prog_8_method_31_code 0 = .ok (.iconst 0, 1) := by decide +kernel
theorem d_Rm_aloneRule_1 : decode prog_8_method_31_code 1 = .ok (.istore_n 2, 1) := by decide +kernel
theorem d_Rm_aloneRule_2 : decode prog_8_method_31_code 2 = .ok (.iload_n 2, 1) := by decide +kernel
theorem d_Rm_aloneRule_3 : decode prog_8_method_31_code 3 = .ok (.iconst 3, 1) := by decide +kernel
theorem d_Rm_aloneRule_4 : decode prog_8_method_31_code 4 = .ok (.if_icmp .ge 38, 3) := by decide +kernel
theorem d_Rm_aloneRule_7 : decode prog_8_method_31_code 7 = .ok (.aload_n 0, 1) := by decide +kernel
theorem d_Rm_aloneRule_8 : decode prog_8_method_31_code 8 = .ok (.getfield 48, 3) := by decide +kernel
theorem d_Rm_aloneRule_11 : decode prog_8_method_31_code 11 = .ok (.iload_n 2, 1) := by decide +kernel
theorem d_Rm_aloneRule_12 : decode prog_8_method_31_code 12 = .ok (.iaload, 1) := by decide +kernel
theorem d_Rm_aloneRule_13 : decode prog_8_method_31_code 13 = .ok (.i2l, 1) := by decide +kernel
theorem d_Rm_aloneRule_14 : decode prog_8_method_31_code 14 = .ok (.aload_n 0, 1) := by decide +kernel
theorem d_Rm_aloneRule_15 : decode prog_8_method_31_code 15 = .ok (.getfield 26, 3) := by decide +kernel
theorem d_Rm_aloneRule_18 : decode prog_8_method_31_code 18 = .ok (.iload_n 2, 1) := by decide +kernel
theorem d_Rm_aloneRule_19 : decode prog_8_method_31_code 19 = .ok (.iaload, 1) := by decide +kernel
theorem d_Rm_aloneRule_20 : decode prog_8_method_31_code 20 = .ok (.i2l, 1) := by decide +kernel
theorem d_Rm_aloneRule_21 : decode prog_8_method_31_code 21 = .ok (.aload_n 0, 1) := by decide +kernel
theorem d_Rm_aloneRule_22 : decode prog_8_method_31_code 22 = .ok (.getfield 29, 3) := by decide +kernel
theorem d_Rm_aloneRule_25 : decode prog_8_method_31_code 25 = .ok (.iload_n 2, 1) := by decide +kernel
theorem d_Rm_aloneRule_26 : decode prog_8_method_31_code 26 = .ok (.iaload, 1) := by decide +kernel
theorem d_Rm_aloneRule_27 : decode prog_8_method_31_code 27 = .ok (.i2l, 1) := by decide +kernel
theorem d_Rm_aloneRule_28 : decode prog_8_method_31_code 28 = .ok (.invokestatic 82, 3) := by decide +kernel
theorem d_Rm_aloneRule_31 : decode prog_8_method_31_code 31 = .ok (.ifCond .ne 5, 3) := by decide +kernel
theorem d_Rm_aloneRule_34 : decode prog_8_method_31_code 34 = .ok (.iconst 1, 1) := by decide +kernel
theorem d_Rm_aloneRule_35 : decode prog_8_method_31_code 35 = .ok (.ireturn, 1) := by decide +kernel
theorem d_Rm_aloneRule_36 : decode prog_8_method_31_code 36 = .ok (.iinc 2 1, 3) := by decide +kernel
theorem d_Rm_aloneRule_39 : decode prog_8_method_31_code 39 = .ok (.goto (-37), 3) := by decide +kernel
theorem d_Rm_aloneRule_42 : decode prog_8_method_31_code 42 = .ok (.iconst 0, 1) := by decide +kernel
theorem d_Rm_aloneRule_43 : decode prog_8_method_31_code 43 = .ok (.istore_n 2, 1) := by decide +kernel
theorem d_Rm_aloneRule_44 : decode prog_8_method_31_code 44 = .ok (.iload_n 2, 1) := by decide +kernel
theorem d_Rm_aloneRule_45 : decode prog_8_method_31_code 45 = .ok (.iconst 3, 1) := by decide +kernel
theorem d_Rm_aloneRule_46 : decode prog_8_method_31_code 46 = .ok (.if_icmp .ge 53, 3) := by decide +kernel
theorem d_Rm_aloneRule_49 : decode prog_8_method_31_code 49 = .ok (.aload_n 0, 1) := by decide +kernel
theorem d_Rm_aloneRule_50 : decode prog_8_method_31_code 50 = .ok (.getfield 48, 3) := by decide +kernel
theorem d_Rm_aloneRule_53 : decode prog_8_method_31_code 53 = .ok (.iload_n 2, 1) := by decide +kernel
theorem d_Rm_aloneRule_54 : decode prog_8_method_31_code 54 = .ok (.iaload, 1) := by decide +kernel
theorem d_Rm_aloneRule_55 : decode prog_8_method_31_code 55 = .ok (.bipush 12, 2) := by decide +kernel
theorem d_Rm_aloneRule_57 : decode prog_8_method_31_code 57 = .ok (.irem, 1) := by decide +kernel
theorem d_Rm_aloneRule_58 : decode prog_8_method_31_code 58 = .ok (.aload_n 0, 1) := by decide +kernel
theorem d_Rm_aloneRule_59 : decode prog_8_method_31_code 59 = .ok (.getfield 48, 3) := by decide +kernel
theorem d_Rm_aloneRule_62 : decode prog_8_method_31_code 62 = .ok (.iconst 3, 1) := by decide +kernel
theorem d_Rm_aloneRule_63 : decode prog_8_method_31_code 63 = .ok (.iaload, 1) := by decide +kernel
theorem d_Rm_aloneRule_64 : decode prog_8_method_31_code 64 = .ok (.bipush 12, 2) := by decide +kernel
theorem d_Rm_aloneRule_66 : decode prog_8_method_31_code 66 = .ok (.irem, 1) := by decide +kernel
theorem d_Rm_aloneRule_67 : decode prog_8_method_31_code 67 = .ok (.if_icmp .eq 26, 3) := by decide +kernel
theorem d_Rm_aloneRule_70 : decode prog_8_method_31_code 70 = .ok (.aload_n 0, 1) := by decide +kernel
theorem d_Rm_aloneRule_71 : decode prog_8_method_31_code 71 = .ok (.getfield 54, 3) := by decide +kernel
theorem d_Rm_aloneRule_74 : decode prog_8_method_31_code 74 = .ok (.iload_n 1, 1) := by decide +kernel
theorem d_Rm_aloneRule_75 : decode prog_8_method_31_code 75 = .ok (.iaload, 1) := by decide +kernel
theorem d_Rm_aloneRule_76 : decode prog_8_method_31_code 76 = .ok (.aload_n 0, 1) := by decide +kernel
theorem d_Rm_aloneRule_77 : decode prog_8_method_31_code 77 = .ok (.getfield 48, 3) := by decide +kernel
theorem d_Rm_aloneRule_80 : decode prog_8_method_31_code 80 = .ok (.iload_n 2, 1) := by decide +kernel
theorem d_Rm_aloneRule_81 : decode prog_8_method_31_code 81 = .ok (.iaload, 1) := by decide +kernel
theorem d_Rm_aloneRule_82 : decode prog_8_method_31_code 82 = .ok (.bipush 12, 2) := by decide +kernel
theorem d_Rm_aloneRule_84 : decode prog_8_method_31_code 84 = .ok (.irem, 1) := by decide +kernel
theorem d_Rm_aloneRule_85 : decode prog_8_method_31_code 85 = .ok (.invokestatic 157, 3) := by decide +kernel
theorem d_Rm_aloneRule_88 : decode prog_8_method_31_code 88 = .ok (.ifCond .ne 5, 3) := by decide +kernel
theorem d_Rm_aloneRule_91 : decode prog_8_method_31_code 91 = .ok (.iconst 2, 1) := by decide +kernel
theorem d_Rm_aloneRule_92 : decode prog_8_method_31_code 92 = .ok (.ireturn, 1) := by decide +kernel
theorem d_Rm_aloneRule_93 : decode prog_8_method_31_code 93 = .ok (.iinc 2 1, 3) := by decide +kernel
theorem d_Rm_aloneRule_96 : decode prog_8_method_31_code 96 = .ok (.goto (-52), 3) := by decide +kernel
theorem d_Rm_aloneRule_99 : decode prog_8_method_31_code 99 = .ok (.aload_n 0, 1) := by decide +kernel
theorem d_Rm_aloneRule_100 : decode prog_8_method_31_code 100 = .ok (.getfield 54, 3) := by decide +kernel
theorem d_Rm_aloneRule_103 : decode prog_8_method_31_code 103 = .ok (.iload_n 1, 1) := by decide +kernel
theorem d_Rm_aloneRule_104 : decode prog_8_method_31_code 104 = .ok (.iaload, 1) := by decide +kernel
theorem d_Rm_aloneRule_105 : decode prog_8_method_31_code 105 = .ok (.aload_n 0, 1) := by decide +kernel
theorem d_Rm_aloneRule_106 : decode prog_8_method_31_code 106 = .ok (.invokevirtual 160, 3) := by decide +kernel
theorem d_Rm_aloneRule_109 : decode prog_8_method_31_code 109 = .ok (.iconst (-1), 1) := by decide +kernel
theorem d_Rm_aloneRule_110 : decode prog_8_method_31_code 110 = .ok (.ixor, 1) := by decide +kernel
theorem d_Rm_aloneRule_111 : decode prog_8_method_31_code 111 = .ok (.iand, 1) := by decide +kernel
theorem d_Rm_aloneRule_112 : decode prog_8_method_31_code 112 = .ok (.ifCond .eq 5, 3) := by decide +kernel
theorem d_Rm_aloneRule_115 : decode prog_8_method_31_code 115 = .ok (.iconst 3, 1) := by decide +kernel
theorem d_Rm_aloneRule_116 : decode prog_8_method_31_code 116 = .ok (.ireturn, 1) := by decide +kernel
theorem d_Rm_aloneRule_117 : decode prog_8_method_31_code 117 = .ok (.aload_n 0, 1) := by decide +kernel
theorem d_Rm_aloneRule_118 : decode prog_8_method_31_code 118 = .ok (.getfield 48, 3) := by decide +kernel
theorem d_Rm_aloneRule_121 : decode prog_8_method_31_code 121 = .ok (.iconst 0, 1) := by decide +kernel
theorem d_Rm_aloneRule_122 : decode prog_8_method_31_code 122 = .ok (.iaload, 1) := by decide +kernel
theorem d_Rm_aloneRule_123 : decode prog_8_method_31_code 123 = .ok (.aload_n 0, 1) := by decide +kernel
theorem d_Rm_aloneRule_124 : decode prog_8_method_31_code 124 = .ok (.getfield 48, 3) := by decide +kernel
theorem d_Rm_aloneRule_127 : decode prog_8_method_31_code 127 = .ok (.iconst 1, 1) := by decide +kernel
theorem d_Rm_aloneRule_128 : decode prog_8_method_31_code 128 = .ok (.iaload, 1) := by decide +kernel
theorem d_Rm_aloneRule_129 : decode prog_8_method_31_code 129 = .ok (.if_icmp .lt 33, 3) := by decide +kernel
theorem d_Rm_aloneRule_132 : decode prog_8_method_31_code 132 = .ok (.aload_n 0, 1) := by decide +kernel
theorem d_Rm_aloneRule_133 : decode prog_8_method_31_code 133 = .ok (.getfield 48, 3) := by decide +kernel
theorem d_Rm_aloneRule_136 : decode prog_8_method_31_code 136 = .ok (.iconst 1, 1) := by decide +kernel
theorem d_Rm_aloneRule_137 : decode prog_8_method_31_code 137 = .ok (.iaload, 1) := by decide +kernel
theorem d_Rm_aloneRule_138 : decode prog_8_method_31_code 138 = .ok (.aload_n 0, 1) := by decide +kernel
theorem d_Rm_aloneRule_139 : decode prog_8_method_31_code 139 = .ok (.getfield 48, 3) := by decide +kernel
theorem d_Rm_aloneRule_142 : decode prog_8_method_31_code 142 = .ok (.iconst 2, 1) := by decide +kernel
theorem d_Rm_aloneRule_143 : decode prog_8_method_31_code 143 = .ok (.iaload, 1) := by decide +kernel
theorem d_Rm_aloneRule_144 : decode prog_8_method_31_code 144 = .ok (.if_icmp .lt 18, 3) := by decide +kernel
theorem d_Rm_aloneRule_147 : decode prog_8_method_31_code 147 = .ok (.aload_n 0, 1) := by decide +kernel
theorem d_Rm_aloneRule_148 : decode prog_8_method_31_code 148 = .ok (.getfield 48, 3) := by decide +kernel
theorem d_Rm_aloneRule_151 : decode prog_8_method_31_code 151 = .ok (.iconst 2, 1) := by decide +kernel
theorem d_Rm_aloneRule_152 : decode prog_8_method_31_code 152 = .ok (.iaload, 1) := by decide +kernel
theorem d_Rm_aloneRule_153 : decode prog_8_method_31_code 153 = .ok (.aload_n 0, 1) := by decide +kernel
theorem d_Rm_aloneRule_154 : decode prog_8_method_31_code 154 = .ok (.getfield 48, 3) := by decide +kernel
theorem d_Rm_aloneRule_157 : decode prog_8_method_31_code 157 = .ok (.iconst 3, 1) := by decide +kernel
theorem d_Rm_aloneRule_158 : decode prog_8_method_31_code 158 = .ok (.iaload, 1) := by decide +kernel
theorem d_Rm_aloneRule_159 : decode prog_8_method_31_code 159 = .ok (.if_icmp .ge 5, 3) := by decide +kernel
theorem d_Rm_aloneRule_162 : decode prog_8_method_31_code 162 = .ok (.iconst 4, 1) := by decide +kernel
theorem d_Rm_aloneRule_163 : decode prog_8_method_31_code 163 = .ok (.ireturn, 1) := by decide +kernel
theorem d_Rm_aloneRule_164 : decode prog_8_method_31_code 164 = .ok (.aload_n 0, 1) := by decide +kernel
theorem d_Rm_aloneRule_165 : decode prog_8_method_31_code 165 = .ok (.getfield 48, 3) := by decide +kernel
theorem d_Rm_aloneRule_168 : decode prog_8_method_31_code 168 = .ok (.iconst 0, 1) := by decide +kernel
theorem d_Rm_aloneRule_169 : decode prog_8_method_31_code 169 = .ok (.iaload, 1) := by decide +kernel
theorem d_Rm_aloneRule_170 : decode prog_8_method_31_code 170 = .ok (.aload_n 0, 1) := by decide +kernel
theorem d_Rm_aloneRule_171 : decode prog_8_method_31_code 171 = .ok (.getfield 48, 3) := by decide +kernel
theorem d_Rm_aloneRule_174 : decode prog_8_method_31_code 174 = .ok (.iconst 1, 1) := by decide +kernel
theorem d_Rm_aloneRule_175 : decode prog_8_method_31_code 175 = .ok (.iaload, 1) := by decide +kernel
theorem d_Rm_aloneRule_176 : decode prog_8_method_31_code 176 = .ok (.isub, 1) := by decide +kernel
theorem d_Rm_aloneRule_177 : decode prog_8_method_31_code 177 = .ok (.bipush 12, 2) := by decide +kernel
theorem d_Rm_aloneRule_179 : decode prog_8_method_31_code 179 = .ok (.if_icmp .gt 21, 3) := by decide +kernel
theorem d_Rm_aloneRule_182 : decode prog_8_method_31_code 182 = .ok (.aload_n 0, 1) := by decide +kernel
theorem d_Rm_aloneRule_183 : decode prog_8_method_31_code 183 = .ok (.getfield 48, 3) := by decide +kernel
theorem d_Rm_aloneRule_186 : decode prog_8_method_31_code 186 = .ok (.iconst 1, 1) := by decide +kernel
theorem d_Rm_aloneRule_187 : decode prog_8_method_31_code 187 = .ok (.iaload, 1) := by decide +kernel
theorem d_Rm_aloneRule_188 : decode prog_8_method_31_code 188 = .ok (.aload_n 0, 1) := by decide +kernel
theorem d_Rm_aloneRule_189 : decode prog_8_method_31_code 189 = .ok (.getfield 48, 3) := by decide +kernel
theorem d_Rm_aloneRule_192 : decode prog_8_method_31_code 192 = .ok (.iconst 2, 1) := by decide +kernel
theorem d_Rm_aloneRule_193 : decode prog_8_method_31_code 193 = .ok (.iaload, 1) := by decide +kernel
theorem d_Rm_aloneRule_194 : decode prog_8_method_31_code 194 = .ok (.isub, 1) := by decide +kernel
theorem d_Rm_aloneRule_195 : decode prog_8_method_31_code 195 = .ok (.bipush 12, 2) := by decide +kernel
theorem d_Rm_aloneRule_197 : decode prog_8_method_31_code 197 = .ok (.if_icmp .le 5, 3) := by decide +kernel
theorem d_Rm_aloneRule_200 : decode prog_8_method_31_code 200 = .ok (.iconst 5, 1) := by decide +kernel
theorem d_Rm_aloneRule_201 : decode prog_8_method_31_code 201 = .ok (.ireturn, 1) := by decide +kernel
theorem d_Rm_aloneRule_202 : decode prog_8_method_31_code 202 = .ok (.bipush 7, 2) := by decide +kernel
theorem d_Rm_aloneRule_204 : decode prog_8_method_31_code 204 = .ok (.aload_n 0, 1) := by decide +kernel
theorem d_Rm_aloneRule_205 : decode prog_8_method_31_code 205 = .ok (.getfield 90, 3) := by decide +kernel
theorem d_Rm_aloneRule_208 : decode prog_8_method_31_code 208 = .ok (.imul, 1) := by decide +kernel
theorem d_Rm_aloneRule_209 : decode prog_8_method_31_code 209 = .ok (.bipush 11, 2) := by decide +kernel
theorem d_Rm_aloneRule_211 : decode prog_8_method_31_code 211 = .ok (.iadd, 1) := by decide +kernel
theorem d_Rm_aloneRule_212 : decode prog_8_method_31_code 212 = .ok (.bipush 12, 2) := by decide +kernel
theorem d_Rm_aloneRule_214 : decode prog_8_method_31_code 214 = .ok (.invokestatic 144, 3) := by decide +kernel
theorem d_Rm_aloneRule_217 : decode prog_8_method_31_code 217 = .ok (.istore_n 2, 1) := by decide +kernel
theorem d_Rm_aloneRule_218 : decode prog_8_method_31_code 218 = .ok (.iconst 0, 1) := by decide +kernel
theorem d_Rm_aloneRule_219 : decode prog_8_method_31_code 219 = .ok (.istore_n 3, 1) := by decide +kernel
theorem d_Rm_aloneRule_220 : decode prog_8_method_31_code 220 = .ok (.iconst 0, 1) := by decide +kernel
theorem d_Rm_aloneRule_221 : decode prog_8_method_31_code 221 = .ok (.istore 4, 2) := by decide +kernel
theorem d_Rm_aloneRule_223 : decode prog_8_method_31_code 223 = .ok (.iload 4, 2) := by decide +kernel
theorem d_Rm_aloneRule_225 : decode prog_8_method_31_code 225 = .ok (.iconst 4, 1) := by decide +kernel
theorem d_Rm_aloneRule_226 : decode prog_8_method_31_code 226 = .ok (.if_icmp .ge 31, 3) := by decide +kernel
theorem d_Rm_aloneRule_229 : decode prog_8_method_31_code 229 = .ok (.aload_n 0, 1) := by decide +kernel
theorem d_Rm_aloneRule_230 : decode prog_8_method_31_code 230 = .ok (.getfield 48, 3) := by decide +kernel
theorem d_Rm_aloneRule_233 : decode prog_8_method_31_code 233 = .ok (.iload 4, 2) := by decide +kernel
theorem d_Rm_aloneRule_235 : decode prog_8_method_31_code 235 = .ok (.iaload, 1) := by decide +kernel
theorem d_Rm_aloneRule_236 : decode prog_8_method_31_code 236 = .ok (.bipush 12, 2) := by decide +kernel
theorem d_Rm_aloneRule_238 : decode prog_8_method_31_code 238 = .ok (.irem, 1) := by decide +kernel
theorem d_Rm_aloneRule_239 : decode prog_8_method_31_code 239 = .ok (.iload_n 2, 1) := by decide +kernel
theorem d_Rm_aloneRule_240 : decode prog_8_method_31_code 240 = .ok (.if_icmp .ne 9, 3) := by decide +kernel
theorem d_Rm_aloneRule_243 : decode prog_8_method_31_code 243 = .ok (.iload_n 3, 1) := by decide +kernel
theorem d_Rm_aloneRule_244 : decode prog_8_method_31_code 244 = .ok (.iconst 1, 1) := by decide +kernel
theorem d_Rm_aloneRule_245 : decode prog_8_method_31_code 245 = .ok (.iadd, 1) := by decide +kernel
theorem d_Rm_aloneRule_246 : decode prog_8_method_31_code 246 = .ok (.goto 4, 3) := by decide +kernel
theorem d_Rm_aloneRule_249 : decode prog_8_method_31_code 249 = .ok (.iload_n 3, 1) := by decide +kernel
theorem d_Rm_aloneRule_250 : decode prog_8_method_31_code 250 = .ok (.istore_n 3, 1) := by decide +kernel
theorem d_Rm_aloneRule_251 : decode prog_8_method_31_code 251 = .ok (.iinc 4 1, 3) := by decide +kernel
theorem d_Rm_aloneRule_254 : decode prog_8_method_31_code 254 = .ok (.goto (-31), 3) := by decide +kernel
theorem d_Rm_aloneRule_257 : decode prog_8_method_31_code 257 = .ok (.iload_n 3, 1) := by decide +kernel
theorem d_Rm_aloneRule_258 : decode prog_8_method_31_code 258 = .ok (.iconst 1, 1) := by decide +kernel
theorem d_Rm_aloneRule_259 : decode prog_8_method_31_code 259 = .ok (.if_icmp .le 6, 3) := by decide +kernel
theorem d_Rm_aloneRule_262 : decode prog_8_method_31_code 262 = .ok (.bipush 6, 2) := by decide +kernel
theorem d_Rm_aloneRule_264 : decode prog_8_method_31_code 264 = .ok (.ireturn, 1) := by decide +kernel
theorem d_Rm_aloneRule_265 : decode prog_8_method_31_code 265 = .ok (.iconst 0, 1) := by decide +kernel
theorem d_Rm_aloneRule_266 : decode prog_8_method_31_code 266 = .ok (.istore 4, 2) := by decide +kernel
theorem d_Rm_aloneRule_268 : decode prog_8_method_31_code 268 = .ok (.iload 4, 2) := by decide +kernel
theorem d_Rm_aloneRule_270 : decode prog_8_method_31_code 270 = .ok (.iconst 3, 1) := by decide +kernel
theorem d_Rm_aloneRule_271 : decode prog_8_method_31_code 271 = .ok (.if_icmp .ge 47, 3) := by decide +kernel
theorem d_Rm_aloneRule_274 : decode prog_8_method_31_code 274 = .ok (.aload_n 0, 1) := by decide +kernel
theorem d_Rm_aloneRule_275 : decode prog_8_method_31_code 275 = .ok (.getfield 38, 3) := by decide +kernel
theorem d_Rm_aloneRule_278 : decode prog_8_method_31_code 278 = .ok (.iconst 3, 1) := by decide +kernel
theorem d_Rm_aloneRule_279 : decode prog_8_method_31_code 279 = .ok (.iload_n 1, 1) := by decide +kernel
theorem d_Rm_aloneRule_280 : decode prog_8_method_31_code 280 = .ok (.imul, 1) := by decide +kernel
theorem d_Rm_aloneRule_281 : decode prog_8_method_31_code 281 = .ok (.iload 4, 2) := by decide +kernel
theorem d_Rm_aloneRule_283 : decode prog_8_method_31_code 283 = .ok (.iadd, 1) := by decide +kernel
theorem d_Rm_aloneRule_284 : decode prog_8_method_31_code 284 = .ok (.iaload, 1) := by decide +kernel
theorem d_Rm_aloneRule_285 : decode prog_8_method_31_code 285 = .ok (.ifCond .lt 27, 3) := by decide +kernel
theorem d_Rm_aloneRule_288 : decode prog_8_method_31_code 288 = .ok (.aload_n 0, 1) := by decide +kernel
theorem d_Rm_aloneRule_289 : decode prog_8_method_31_code 289 = .ok (.getfield 38, 3) := by decide +kernel
theorem d_Rm_aloneRule_292 : decode prog_8_method_31_code 292 = .ok (.iconst 3, 1) := by decide +kernel
theorem d_Rm_aloneRule_293 : decode prog_8_method_31_code 293 = .ok (.iload_n 1, 1) := by decide +kernel
theorem d_Rm_aloneRule_294 : decode prog_8_method_31_code 294 = .ok (.imul, 1) := by decide +kernel
theorem d_Rm_aloneRule_295 : decode prog_8_method_31_code 295 = .ok (.iload 4, 2) := by decide +kernel
theorem d_Rm_aloneRule_297 : decode prog_8_method_31_code 297 = .ok (.iadd, 1) := by decide +kernel
theorem d_Rm_aloneRule_298 : decode prog_8_method_31_code 298 = .ok (.iaload, 1) := by decide +kernel
theorem d_Rm_aloneRule_299 : decode prog_8_method_31_code 299 = .ok (.aload_n 0, 1) := by decide +kernel
theorem d_Rm_aloneRule_300 : decode prog_8_method_31_code 300 = .ok (.getfield 48, 3) := by decide +kernel
theorem d_Rm_aloneRule_303 : decode prog_8_method_31_code 303 = .ok (.iload 4, 2) := by decide +kernel
theorem d_Rm_aloneRule_305 : decode prog_8_method_31_code 305 = .ok (.iaload, 1) := by decide +kernel
theorem d_Rm_aloneRule_306 : decode prog_8_method_31_code 306 = .ok (.if_icmp .eq 6, 3) := by decide +kernel
theorem d_Rm_aloneRule_309 : decode prog_8_method_31_code 309 = .ok (.bipush 7, 2) := by decide +kernel
theorem d_Rm_aloneRule_311 : decode prog_8_method_31_code 311 = .ok (.ireturn, 1) := by decide +kernel
theorem d_Rm_aloneRule_312 : decode prog_8_method_31_code 312 = .ok (.iinc 4 1, 3) := by decide +kernel
theorem d_Rm_aloneRule_315 : decode prog_8_method_31_code 315 = .ok (.goto (-47), 3) := by decide +kernel
theorem d_Rm_aloneRule_318 : decode prog_8_method_31_code 318 = .ok (.iconst 0, 1) := by decide +kernel
theorem d_Rm_aloneRule_319 : decode prog_8_method_31_code 319 = .ok (.ireturn, 1) := by decide +kernel
def wp_Br_voicings (Post : Int32 → MH → Prop) (l0 : Nat) (l1 : Int32) (h : MH) : Prop :=
  gC h l0 = some 5 ∧ wp_Br_hasChord (fun (r2 : Int32) (h2 : MH) =>
    (((r2 = 0) →
        (Post (-1 : Int32) h2)) ∧
      ((¬ r2 = 0) →
        (∃ x9 : Nat, gF h2 l0 5 0 = some (.inr (some x9)) ∧
          (gC h2 x9 = some 4 ∧ wp_Se_listed (fun (r13 : Nat) (h13 : MH) =>
              (∃ x16 : Int32, gF h13 r13 1 4 = some (.inl x16) ∧
                (Post x16 h13))) x9 l1 h2))))) l0 l1 h
set_option maxRecDepth 100000 in
set_option maxHeartbeats 4000000 in
theorem t_Br_voicings {p : Program} {l : Launch} {e : Env} {R : Room} {s : State} {m : MethodId} {args : Array Value} {below : List Frame} {meth : Method} {c : Code} (G : mG) (C0 : Cx G p s m args c prog_1_method_13_code 2 "BassRealiser") (hR : 6 ≤ R.frames ∧ 149 ≤ R.locals ∧ 0 ≤ R.cells ∧ 0 ≤ R.slots) (hr : meth.sig.returnType = some .int) (hlk : meth.locks = false) {Post : Int32 → MH → Prop} (l0 : Nat) (l1 : Int32) (h : MH) (hwp : wp_Br_voicings Post l0 l1 h) : WG p l e R s m args below meth c 0 0 (MQ below (va_Qi Post (Wd G) (mA G)) args s 0 0 (mA G)) G 2 [(0, .ref (m_b G + l0)), (1, .int l1)] 0 [] h := by
  unfold wp_Br_voicings at hwp
  refine x_aload_n C0 0 d_Br_voicings_0 rfl rfl ?_
  refine x_iload_n C0 1 d_Br_voicings_1 rfl rfl ?_
  obtain ⟨g2, hwp⟩ := hwp
  refine x_callVi0 (k := l0) (As := [.int l1]) (st := []) C0 (c_Br_hasChord l G hwp) kw_2_64 mk_Br_hasChord vk_Br_hasChord rfl g2 rfl (Nat.le_of_ble_eq_true rfl) rfl rfl ⟨Nat.le_trans (by decide) hR.1, Nat.le_trans (by decide) hR.2.1⟩ ⟨Nat.zero_le _, Nat.zero_le _⟩ rfl d_Br_voicings_2 (fun r2 h2 hwp => ?_)
  refine x_if_eq (tgt := 22) C0 d_Br_voicings_5 (by decide) (fun c5 => ?_) (fun c5 => ?_)
  · replace hwp := hwp.1 c5
    refine x_iconst (v := -1) C0 d_Br_voicings_22 (by decide) ?_
    exact x_iret C0 hr hlk hwp d_Br_voicings_23
  · replace hwp := hwp.2 c5
    refine x_aload_n C0 0 d_Br_voicings_8 rfl rfl ?_
    obtain ⟨x9, e9, hwp⟩ := hwp
    refine x_getR C0 fk_Br_10 e9 d_Br_voicings_9 ?_
    refine x_iload_n C0 1 d_Br_voicings_12 rfl rfl ?_
    obtain ⟨g13, hwp⟩ := hwp
    refine x_callVr0 (k := x9) (As := [.int l1]) (st := []) C0 (c_Se_listed l G hwp) kw_2_130 mk_Se_listed vk_Se_listed rfl g13 rfl (Nat.le_of_ble_eq_true rfl) rfl rfl ⟨Nat.le_trans (by decide) hR.1, Nat.le_trans (by decide) hR.2.1⟩ ⟨Nat.zero_le _, Nat.zero_le _⟩ rfl d_Br_voicings_13 (fun r13 h13 hwp => ?_)
    obtain ⟨x16, e16, hwp⟩ := hwp
    refine x_getI C0 fk_Br_127 e16 d_Br_voicings_16 ?_
    refine x_goto (tgt := 23) C0 d_Br_voicings_19 (by decide) ?_
    exact x_iret C0 hr hlk hwp d_Br_voicings_23
set_option maxRecDepth 100000 in
set_option maxHeartbeats 4000000 in
theorem c_Br_voicings (l : Launch) (G : mG) {Post : Int32 → MH → Prop} {l0 : Nat} {l1 : Int32} {h : MH} (hwp : wp_Br_voicings Post l0 l1 h) : Met l y_Br_voicings (Cond.code y_Br_voicings prog_1_method_13_code 2 (Option.some Jvm.ClassFile.FieldType.int) :: lw_good) ({ frames := 6, cells := 0, slots := 0, locals := 149 }) (va_Pc [.ref (m_b G + l0), .int l1] (Wd G h)) (va_Qi Post (Wd G) (mA G)) 0 0 (mA G) := by
  refine Met.ofW (cc := prog_1_method_13_code) (maxL := 2) (ret := (Option.some Jvm.ClassFile.FieldType.int)) (by decide +kernel) rfl ?_
  intro p e s m args below meth c s₁ B hml hv
  obtain ⟨rfl, hP, hz, hK, hSt⟩ := hv
  have hts := atoms_spec (ws := Cond.code y_Br_voicings prog_1_method_13_code 2 (Option.some Jvm.ClassFile.FieldType.int) :: lw_good) B.pre
  have C0 : Cx G p s m ([.ref (m_b G + l0), .int l1] : List Value).toArray c prog_1_method_13_code 2 "BassRealiser" := ⟨⟨B.exec, B.bytes, hml, findClass_of_methodNamed B.named, fun w h => hts w (List.mem_cons_of_mem _ h)⟩, hK, hSt, by rw [hz]; exact Nat.le_add_right _ _⟩
  have hl := lv_entry ([.ref (m_b G + l0), .int l1]) (n := 2) (Nat.le_of_ble_eq_true rfl)
  rw [lg_entry_eq]
  exact t_Br_voicings G C0 ⟨Nat.le_refl _, Nat.le_refl _, Nat.le_refl _, Nat.le_refl _⟩ B.returns B.notSynchronized _ _ _ hwp _ _ _ ⟨hP, hz, va_S.rf⟩ hl
def wp_Rm_look_122 (K23 : Nat → Int32 → Int32 → MH → Prop) (Post : MH → Prop) (l0 : Nat) (l1 : Int32) (l2 : Int32) (h : MH) : Prop :=
  K23 l0 l1 (l2 + (1 : Int32)) h
def wp_Rm_look_121 (K23 : Nat → Int32 → Int32 → MH → Prop) (Post : MH → Prop) (l0 : Nat) (l1 : Int32) (l2 : Int32) (y0 : Nat) (y1 : Int32) (y2 : Int32) (h : MH) : Prop :=
  ∃ (n121 : Nat) (f121 : Nat → Int32), gA h y0 0 = some (n121, f121) ∧ vp_in y1 n121 ∧ ∀ h121 : MH, h121 = mset h y0 (.inr (0, n121, .inl (upd f121 (y1).toNatClampNeg y2))) →
  (wp_Rm_look_122 K23 Post l0 l1 l2 h121)
def wp_Rm_look_92 (K23 : Nat → Int32 → Int32 → MH → Prop) (Post : MH → Prop) (l0 : Nat) (l1 : Int32) (l2 : Int32) (l3 : Int32) (y0 : Nat) (y1 : Int32) (y2 : Int32) (h : MH) : Prop :=
  ∃ (n92 : Nat) (f92 : Nat → Int32), gA h y0 0 = some (n92, f92) ∧ vp_in y1 n92 ∧ ∀ h92 : MH, h92 = mset h y0 (.inr (0, n92, .inl (upd f92 (y1).toNatClampNeg y2))) →
  (∃ x94 : Nat, gF h92 l0 6 18 = some (.inr (some x94)) ∧
    (((¬ l2 = (7 : Int32)) →
        (∃ x116 : Nat, gF h92 l0 6 18 = some (.inr (some x116)) ∧
          (∃ (n120 : Nat) (f120 : Nat → Int32), gA h92 x116 0 = some (n120, f120) ∧ vp_in l1 n120 ∧
            (wp_Rm_look_121 K23 Post l0 l1 l2 x94 l1 (f120 (l1).toNatClampNeg) h92)))) ∧
      ((l2 = (7 : Int32)) →
        (∃ x105 : Nat, gF h92 l0 6 18 = some (.inr (some x105)) ∧
          (∃ (n109 : Nat) (f109 : Nat → Int32), gA h92 x105 0 = some (n109, f109) ∧ vp_in l1 n109 ∧
            (wp_Rm_look_121 K23 Post l0 l1 l2 x94 l1 ((f109 (l1).toNatClampNeg) ||| l3) h92))))))
def wb_Rm_look_23 (K23 : Nat → Int32 → Int32 → MH → Prop) (Post : MH → Prop) (l0 : Nat) (l1 : Int32) (l2 : Int32) (h : MH) : Prop :=
  (((10 : Int32) ≤ l2) →
    (Post h)) ∧
  ((¬ (10 : Int32) ≤ l2) →
    (gC h l0 = some 6 ∧ wp_Rm_isWorked (fun (r32 : Int32) (h32 : MH) =>
        (((r32 = 0) →
            (wp_Rm_look_122 K23 Post l0 l1 l2 h32)) ∧
          ((¬ r32 = 0) →
            (gC h32 l0 = some 6 ∧ wp_Rm_classOf (fun (r42 : Int32) (h42 : MH) =>
                (∀ z46 : Int32, z46 = (1 : Int32) <<< (r42 &&& 31) →
                  (∃ x48 : Nat, gF h42 l0 6 16 = some (.inr (some x48)) ∧
                    (∃ x53 : Nat, gF h42 l0 6 16 = some (.inr (some x53)) ∧
                      (∃ (n57 : Nat) (f57 : Nat → Int32), gA h42 x53 0 = some (n57, f57) ∧ vp_in l1 n57 ∧
                        (∃ (n60 : Nat) (f60 : Nat → Int32), gA h42 x48 0 = some (n60, f60) ∧ vp_in l1 n60 ∧ ∀ h60 : MH, h60 = mset h42 x48 (.inr (0, n60, .inl (upd f60 (l1).toNatClampNeg ((f57 (l1).toNatClampNeg) ||| z46)))) →
                        (∃ x62 : Nat, gF h60 l0 6 17 = some (.inr (some x62)) ∧
                        (gC h60 l0 = some 6 ∧ wp_Rm_isSuspended (fun (r69 : Int32) (h69 : MH) =>
                        (((r69 = 0) →
                        (∃ x87 : Nat, gF h69 l0 6 17 = some (.inr (some x87)) ∧
                        (∃ (n91 : Nat) (f91 : Nat → Int32), gA h69 x87 0 = some (n91, f91) ∧ vp_in l1 n91 ∧
                        (wp_Rm_look_92 K23 Post l0 l1 l2 z46 x62 l1 (f91 (l1).toNatClampNeg) h69)))) ∧
                        ((¬ r69 = 0) →
                        (∃ x76 : Nat, gF h69 l0 6 17 = some (.inr (some x76)) ∧
                        (∃ (n80 : Nat) (f80 : Nat → Int32), gA h69 x76 0 = some (n80, f80) ∧ vp_in l1 n80 ∧
                        (wp_Rm_look_92 K23 Post l0 l1 l2 z46 x62 l1 ((f80 (l1).toNatClampNeg) ||| z46) h69)))))) l0 l1 l2 h60)))))))) l0 l1 l2 h32)))) l0 l1 l2 h))
def wn_Rm_look_23 (Post : MH → Prop) : Nat → Nat → Int32 → Int32 → MH → Prop
  | 0 => fun _ _ _ _ => False
  | n + 1 => wb_Rm_look_23 (wn_Rm_look_23 Post n) Post
def wp_Rm_look_23 (Post : MH → Prop) (l0 : Nat) (l1 : Int32) (l2 : Int32) (h : MH) : Prop := ∃ n, wn_Rm_look_23 Post n l0 l1 l2 h
def wp_Rm_look (Post : MH → Prop) (l0 : Nat) (l1 : Int32) (h : MH) : Prop :=
  ∃ x1 : Nat, gF h l0 6 16 = some (.inr (some x1)) ∧
  (∃ (n6 : Nat) (f6 : Nat → Int32), gA h x1 0 = some (n6, f6) ∧ vp_in l1 n6 ∧ ∀ h6 : MH, h6 = mset h x1 (.inr (0, n6, .inl (upd f6 (l1).toNatClampNeg (0 : Int32)))) →
    (∃ x8 : Nat, gF h6 l0 6 17 = some (.inr (some x8)) ∧
      (∃ (n13 : Nat) (f13 : Nat → Int32), gA h6 x8 0 = some (n13, f13) ∧ vp_in l1 n13 ∧ ∀ h13 : MH, h13 = mset h6 x8 (.inr (0, n13, .inl (upd f13 (l1).toNatClampNeg (0 : Int32)))) →
        (∃ x15 : Nat, gF h13 l0 6 18 = some (.inr (some x15)) ∧
          (∃ (n20 : Nat) (f20 : Nat → Int32), gA h13 x15 0 = some (n20, f20) ∧ vp_in l1 n20 ∧ ∀ h20 : MH, h20 = mset h13 x15 (.inr (0, n20, .inl (upd f20 (l1).toNatClampNeg (0 : Int32)))) →
            (wp_Rm_look_23 Post l0 l1 (2 : Int32) h20))))))
set_option maxRecDepth 100000 in
set_option maxHeartbeats 4000000 in
theorem t_Rm_look_122 {p : Program} {l : Launch} {e : Env} {R : Room} {s : State} {m : MethodId} {args : Array Value} {below : List Frame} {meth : Method} {c : Code} (G : mG) (C0 : Cx G p s m args c prog_8_method_28_code 4 "BassRealiserModel") (hR : 3 ≤ R.frames ∧ 68 ≤ R.locals ∧ 0 ≤ R.cells ∧ 0 ≤ R.slots) (hr : meth.sig.returnType = none) (hlk : meth.locks = false) {Post : MH → Prop} {K23 : Nat → Int32 → Int32 → MH → Prop} (hK23 : ∀ (l0 : Nat) (l1 : Int32) (l2 : Int32) (h : MH), K23 l0 l1 l2 h → WG p l e R s m args below meth c 0 0 (MQ below (va_Qv Post (Wd G) (mA G)) args s 0 0 (mA G)) G 4 [(0, .ref (m_b G + l0)), (1, .int l1), (2, .int l2)] 23 [] h) (l0 : Nat) (l1 : Int32) (l2 : Int32) (h : MH) (hwp : wp_Rm_look_122 K23 Post l0 l1 l2 h) : WG p l e R s m args below meth c 0 0 (MQ below (va_Qv Post (Wd G) (mA G)) args s 0 0 (mA G)) G 4 [(0, .ref (m_b G + l0)), (1, .int l1), (2, .int l2)] 122 [] h := by
  unfold wp_Rm_look_122 at hwp
  refine x_iinc C0 2 d_Rm_look_122 rfl rfl (by decide) (lv' := [(2, .int (l2 + (1 : Int32))), (0, .ref (m_b G + l0)), (1, .int l1)]) rfl ?_
  refine x_goto (tgt := 23) C0 d_Rm_look_125 (by decide) ?_
  exact x_sub [1, 2, 0] rfl (hK23 _ _ _ _ hwp)
set_option maxRecDepth 100000 in
set_option maxHeartbeats 4000000 in
theorem t_Rm_look_121 {p : Program} {l : Launch} {e : Env} {R : Room} {s : State} {m : MethodId} {args : Array Value} {below : List Frame} {meth : Method} {c : Code} (G : mG) (C0 : Cx G p s m args c prog_8_method_28_code 4 "BassRealiserModel") (hR : 3 ≤ R.frames ∧ 68 ≤ R.locals ∧ 0 ≤ R.cells ∧ 0 ≤ R.slots) (hr : meth.sig.returnType = none) (hlk : meth.locks = false) {Post : MH → Prop} {K23 : Nat → Int32 → Int32 → MH → Prop} (hK23 : ∀ (l0 : Nat) (l1 : Int32) (l2 : Int32) (h : MH), K23 l0 l1 l2 h → WG p l e R s m args below meth c 0 0 (MQ below (va_Qv Post (Wd G) (mA G)) args s 0 0 (mA G)) G 4 [(0, .ref (m_b G + l0)), (1, .int l1), (2, .int l2)] 23 [] h) (l0 : Nat) (l1 : Int32) (l2 : Int32) (y0 : Nat) (y1 : Int32) (y2 : Int32) (h : MH) (hwp : wp_Rm_look_121 K23 Post l0 l1 l2 y0 y1 y2 h) : WG p l e R s m args below meth c 0 0 (MQ below (va_Qv Post (Wd G) (mA G)) args s 0 0 (mA G)) G 4 [(0, .ref (m_b G + l0)), (1, .int l1), (2, .int l2)] 121 [.int y2, .int y1, .ref (m_b G + y0)] h := by
  unfold wp_Rm_look_121 at hwp
  obtain ⟨n121, f121, e121, i121, hwp⟩ := hwp
  refine x_iast C0 e121 i121 d_Rm_look_121 ?_
  refine x_nh (fun h121 eh121 => ?_)
  replace hwp := hwp h121 eh121
  exact x_sub [0, 1, 2] rfl (t_Rm_look_122 G C0 hR hr hlk hK23 _ _ _ _ hwp)
set_option maxRecDepth 100000 in
set_option maxHeartbeats 4000000 in
theorem t_Rm_look_92 {p : Program} {l : Launch} {e : Env} {R : Room} {s : State} {m : MethodId} {args : Array Value} {below : List Frame} {meth : Method} {c : Code} (G : mG) (C0 : Cx G p s m args c prog_8_method_28_code 4 "BassRealiserModel") (hR : 3 ≤ R.frames ∧ 68 ≤ R.locals ∧ 0 ≤ R.cells ∧ 0 ≤ R.slots) (hr : meth.sig.returnType = none) (hlk : meth.locks = false) {Post : MH → Prop} {K23 : Nat → Int32 → Int32 → MH → Prop} (hK23 : ∀ (l0 : Nat) (l1 : Int32) (l2 : Int32) (h : MH), K23 l0 l1 l2 h → WG p l e R s m args below meth c 0 0 (MQ below (va_Qv Post (Wd G) (mA G)) args s 0 0 (mA G)) G 4 [(0, .ref (m_b G + l0)), (1, .int l1), (2, .int l2)] 23 [] h) (l0 : Nat) (l1 : Int32) (l2 : Int32) (l3 : Int32) (y0 : Nat) (y1 : Int32) (y2 : Int32) (h : MH) (hwp : wp_Rm_look_92 K23 Post l0 l1 l2 l3 y0 y1 y2 h) : WG p l e R s m args below meth c 0 0 (MQ below (va_Qv Post (Wd G) (mA G)) args s 0 0 (mA G)) G 4 [(0, .ref (m_b G + l0)), (1, .int l1), (2, .int l2), (3, .int l3)] 92 [.int y2, .int y1, .ref (m_b G + y0)] h := by
  unfold wp_Rm_look_92 at hwp
  obtain ⟨n92, f92, e92, i92, hwp⟩ := hwp
  refine x_iast C0 e92 i92 d_Rm_look_92 ?_
  refine x_nh (fun h92 eh92 => ?_)
  replace hwp := hwp h92 eh92
  refine x_aload_n C0 0 d_Rm_look_93 rfl rfl ?_
  obtain ⟨x94, e94, hwp⟩ := hwp
  refine x_getR C0 fk_Rm_60 e94 d_Rm_look_94 ?_
  refine x_iload_n C0 1 d_Rm_look_97 rfl rfl ?_
  refine x_iload_n C0 2 d_Rm_look_98 rfl rfl ?_
  refine x_bipush (v := 7) C0 d_Rm_look_99 (by decide) ?_
  refine x_icmp_ne (tgt := 115) C0 d_Rm_look_101 (by decide) (fun c101 => ?_) (fun c101 => ?_)
  · replace hwp := hwp.1 c101
    refine x_aload_n C0 0 d_Rm_look_115 rfl rfl ?_
    obtain ⟨x116, e116, hwp⟩ := hwp
    refine x_getR C0 fk_Rm_60 e116 d_Rm_look_116 ?_
    refine x_iload_n C0 1 d_Rm_look_119 rfl rfl ?_
    obtain ⟨n120, f120, e120, i120, hwp⟩ := hwp
    refine x_iald C0 e120 i120 d_Rm_look_120 ?_
    exact x_sub [0, 1, 2] rfl (t_Rm_look_121 G C0 hR hr hlk hK23 _ _ _ _ _ _ _ hwp)
  · replace hwp := hwp.2 c101
    refine x_aload_n C0 0 d_Rm_look_104 rfl rfl ?_
    obtain ⟨x105, e105, hwp⟩ := hwp
    refine x_getR C0 fk_Rm_60 e105 d_Rm_look_105 ?_
    refine x_iload_n C0 1 d_Rm_look_108 rfl rfl ?_
    obtain ⟨n109, f109, e109, i109, hwp⟩ := hwp
    refine x_iald C0 e109 i109 d_Rm_look_109 ?_
    refine x_iload_n C0 3 d_Rm_look_110 rfl rfl ?_
    refine x_ior C0 d_Rm_look_111 ?_
    refine x_goto (tgt := 121) C0 d_Rm_look_112 (by decide) ?_
    exact x_sub [0, 1, 2] rfl (t_Rm_look_121 G C0 hR hr hlk hK23 _ _ _ _ _ _ _ hwp)
set_option maxRecDepth 100000 in
set_option maxHeartbeats 4000000 in
theorem tb_Rm_look_23 {p : Program} {l : Launch} {e : Env} {R : Room} {s : State} {m : MethodId} {args : Array Value} {below : List Frame} {meth : Method} {c : Code} (G : mG) (C0 : Cx G p s m args c prog_8_method_28_code 4 "BassRealiserModel") (hR : 3 ≤ R.frames ∧ 68 ≤ R.locals ∧ 0 ≤ R.cells ∧ 0 ≤ R.slots) (hr : meth.sig.returnType = none) (hlk : meth.locks = false) {Post : MH → Prop} {K23 : Nat → Int32 → Int32 → MH → Prop} (hK23 : ∀ (l0 : Nat) (l1 : Int32) (l2 : Int32) (h : MH), K23 l0 l1 l2 h → WG p l e R s m args below meth c 0 0 (MQ below (va_Qv Post (Wd G) (mA G)) args s 0 0 (mA G)) G 4 [(0, .ref (m_b G + l0)), (1, .int l1), (2, .int l2)] 23 [] h) (l0 : Nat) (l1 : Int32) (l2 : Int32) (h : MH) (hwp : wb_Rm_look_23 K23 Post l0 l1 l2 h) : WG p l e R s m args below meth c 0 0 (MQ below (va_Qv Post (Wd G) (mA G)) args s 0 0 (mA G)) G 4 [(0, .ref (m_b G + l0)), (1, .int l1), (2, .int l2)] 23 [] h := by
  unfold wb_Rm_look_23 at hwp
  refine x_iload_n C0 2 d_Rm_look_23 rfl rfl ?_
  refine x_bipush (v := 10) C0 d_Rm_look_24 (by decide) ?_
  refine x_icmp_ge (tgt := 128) C0 d_Rm_look_26 (by decide) (fun c26 => ?_) (fun c26 => ?_)
  · replace hwp := hwp.1 c26
    exact x_vret C0 hr hlk hwp d_Rm_look_128
  · replace hwp := hwp.2 c26
    refine x_aload_n C0 0 d_Rm_look_29 rfl rfl ?_
    refine x_iload_n C0 1 d_Rm_look_30 rfl rfl ?_
    refine x_iload_n C0 2 d_Rm_look_31 rfl rfl ?_
    obtain ⟨g32, hwp⟩ := hwp
    refine x_callVi0 (k := l0) (As := [.int l1, .int l2]) (st := []) C0 (c_Rm_isWorked l G hwp) kw_3_202 mk_Rm_isWorked vk_Rm_isWorked rfl g32 rfl (Nat.le_of_ble_eq_true rfl) rfl rfl ⟨Nat.le_trans (by decide) hR.1, Nat.le_trans (by decide) hR.2.1⟩ ⟨Nat.zero_le _, Nat.zero_le _⟩ rfl d_Rm_look_32 (fun r32 h32 hwp => ?_)
    refine x_if_eq (tgt := 122) C0 d_Rm_look_35 (by decide) (fun c35 => ?_) (fun c35 => ?_)
    · replace hwp := hwp.1 c35
      exact x_sub [0, 1, 2] rfl (t_Rm_look_122 G C0 hR hr hlk hK23 _ _ _ _ hwp)
    · replace hwp := hwp.2 c35
      refine x_iconst (v := 1) C0 d_Rm_look_38 (by decide) ?_
      refine x_aload_n C0 0 d_Rm_look_39 rfl rfl ?_
      refine x_iload_n C0 1 d_Rm_look_40 rfl rfl ?_
      refine x_iload_n C0 2 d_Rm_look_41 rfl rfl ?_
      obtain ⟨g42, hwp⟩ := hwp
      refine x_callVi0 (k := l0) (As := [.int l1, .int l2]) (st := [.int (1 : Int32)]) C0 (c_Rm_classOf l G hwp) kw_4_23 mk_Rm_classOf vk_Rm_classOf rfl g42 rfl (Nat.le_of_ble_eq_true rfl) rfl rfl ⟨Nat.le_trans (by decide) hR.1, Nat.le_trans (by decide) hR.2.1⟩ ⟨Nat.zero_le _, Nat.zero_le _⟩ rfl d_Rm_look_42 (fun r42 h42 hwp => ?_)
      refine x_ishl C0 d_Rm_look_45 ?_
      refine x_topI (fun z46 e46 => ?_)
      replace hwp := hwp z46 e46
      refine x_istore_n C0 d_Rm_look_46 rfl (by decide) (lv' := [(3, .int z46), (0, .ref (m_b G + l0)), (1, .int l1), (2, .int l2)]) rfl ?_
      refine x_aload_n C0 1 d_Rm_look_47 rfl rfl ?_
      obtain ⟨x48, e48, hwp⟩ := hwp
      refine x_getR C0 fk_Rm_54 e48 d_Rm_look_48 ?_
      refine x_iload_n C0 2 d_Rm_look_51 rfl rfl ?_
      refine x_aload_n C0 1 d_Rm_look_52 rfl rfl ?_
      obtain ⟨x53, e53, hwp⟩ := hwp
      refine x_getR C0 fk_Rm_54 e53 d_Rm_look_53 ?_
      refine x_iload_n C0 2 d_Rm_look_56 rfl rfl ?_
      obtain ⟨n57, f57, e57, i57, hwp⟩ := hwp
      refine x_iald C0 e57 i57 d_Rm_look_57 ?_
      refine x_iload_n C0 0 d_Rm_look_58 rfl rfl ?_
      refine x_ior C0 d_Rm_look_59 ?_
      obtain ⟨n60, f60, e60, i60, hwp⟩ := hwp
      refine x_iast C0 e60 i60 d_Rm_look_60 ?_
      refine x_nh (fun h60 eh60 => ?_)
      replace hwp := hwp h60 eh60
      refine x_aload_n C0 1 d_Rm_look_61 rfl rfl ?_
      obtain ⟨x62, e62, hwp⟩ := hwp
      refine x_getR C0 fk_Rm_57 e62 d_Rm_look_62 ?_
      refine x_iload_n C0 2 d_Rm_look_65 rfl rfl ?_
      refine x_aload_n C0 1 d_Rm_look_66 rfl rfl ?_
      refine x_iload_n C0 2 d_Rm_look_67 rfl rfl ?_
      refine x_iload_n C0 3 d_Rm_look_68 rfl rfl ?_
      obtain ⟨g69, hwp⟩ := hwp
      refine x_callVi0 (k := l0) (As := [.int l1, .int l2]) (st := [.int l1, .ref (m_b G + x62)]) C0 (c_Rm_isSuspended l G hwp) kw_4_30 mk_Rm_isSuspended vk_Rm_isSuspended rfl g69 rfl (Nat.le_of_ble_eq_true rfl) rfl rfl ⟨Nat.le_trans (by decide) hR.1, Nat.le_trans (by decide) hR.2.1⟩ ⟨Nat.zero_le _, Nat.zero_le _⟩ rfl d_Rm_look_69 (fun r69 h69 hwp => ?_)
      refine x_if_eq (tgt := 86) C0 d_Rm_look_72 (by decide) (fun c72 => ?_) (fun c72 => ?_)
      · replace hwp := hwp.1 c72
        refine x_aload_n C0 1 d_Rm_look_86 rfl rfl ?_
        obtain ⟨x87, e87, hwp⟩ := hwp
        refine x_getR C0 fk_Rm_57 e87 d_Rm_look_87 ?_
        refine x_iload_n C0 2 d_Rm_look_90 rfl rfl ?_
        obtain ⟨n91, f91, e91, i91, hwp⟩ := hwp
        refine x_iald C0 e91 i91 d_Rm_look_91 ?_
        exact x_sub [1, 2, 3, 0] rfl (t_Rm_look_92 G C0 hR hr hlk hK23 _ _ _ _ _ _ _ _ hwp)
      · replace hwp := hwp.2 c72
        refine x_aload_n C0 1 d_Rm_look_75 rfl rfl ?_
        obtain ⟨x76, e76, hwp⟩ := hwp
        refine x_getR C0 fk_Rm_57 e76 d_Rm_look_76 ?_
        refine x_iload_n C0 2 d_Rm_look_79 rfl rfl ?_
        obtain ⟨n80, f80, e80, i80, hwp⟩ := hwp
        refine x_iald C0 e80 i80 d_Rm_look_80 ?_
        refine x_iload_n C0 0 d_Rm_look_81 rfl rfl ?_
        refine x_ior C0 d_Rm_look_82 ?_
        refine x_goto (tgt := 92) C0 d_Rm_look_83 (by decide) ?_
        exact x_sub [1, 2, 3, 0] rfl (t_Rm_look_92 G C0 hR hr hlk hK23 _ _ _ _ _ _ _ _ hwp)
theorem t_Rm_look_23 {p : Program} {l : Launch} {e : Env} {R : Room} {s : State} {m : MethodId} {args : Array Value} {below : List Frame} {meth : Method} {c : Code} (G : mG) (C0 : Cx G p s m args c prog_8_method_28_code 4 "BassRealiserModel") (hR : 3 ≤ R.frames ∧ 68 ≤ R.locals ∧ 0 ≤ R.cells ∧ 0 ≤ R.slots) (hr : meth.sig.returnType = none) (hlk : meth.locks = false) {Post : MH → Prop} (l0 : Nat) (l1 : Int32) (l2 : Int32) (h : MH) (hwp : wp_Rm_look_23 Post l0 l1 l2 h) : WG p l e R s m args below meth c 0 0 (MQ below (va_Qv Post (Wd G) (mA G)) args s 0 0 (mA G)) G 4 [(0, .ref (m_b G + l0)), (1, .int l1), (2, .int l2)] 23 [] h := by
  obtain ⟨n, hwp⟩ := hwp
  induction n generalizing l0 l1 l2 h with
  | zero => exact False.elim hwp
  | succ n ih => exact tb_Rm_look_23 G C0 hR hr hlk (fun l0 l1 l2 h hwp => ih l0 l1 l2 h hwp) l0 l1 l2 h hwp
set_option maxRecDepth 100000 in
set_option maxHeartbeats 4000000 in
theorem t_Rm_look {p : Program} {l : Launch} {e : Env} {R : Room} {s : State} {m : MethodId} {args : Array Value} {below : List Frame} {meth : Method} {c : Code} (G : mG) (C0 : Cx G p s m args c prog_8_method_28_code 4 "BassRealiserModel") (hR : 3 ≤ R.frames ∧ 68 ≤ R.locals ∧ 0 ≤ R.cells ∧ 0 ≤ R.slots) (hr : meth.sig.returnType = none) (hlk : meth.locks = false) {Post : MH → Prop} (l0 : Nat) (l1 : Int32) (h : MH) (hwp : wp_Rm_look Post l0 l1 h) : WG p l e R s m args below meth c 0 0 (MQ below (va_Qv Post (Wd G) (mA G)) args s 0 0 (mA G)) G 4 [(0, .ref (m_b G + l0)), (1, .int l1)] 0 [] h := by
  unfold wp_Rm_look at hwp
  refine x_aload_n C0 0 d_Rm_look_0 rfl rfl ?_
  obtain ⟨x1, e1, hwp⟩ := hwp
  refine x_getR C0 fk_Rm_54 e1 d_Rm_look_1 ?_
  refine x_iload_n C0 1 d_Rm_look_4 rfl rfl ?_
  refine x_iconst (v := 0) C0 d_Rm_look_5 (by decide) ?_
  obtain ⟨n6, f6, e6, i6, hwp⟩ := hwp
  refine x_iast C0 e6 i6 d_Rm_look_6 ?_
  refine x_nh (fun h6 eh6 => ?_)
  replace hwp := hwp h6 eh6
  refine x_aload_n C0 0 d_Rm_look_7 rfl rfl ?_
  obtain ⟨x8, e8, hwp⟩ := hwp
  refine x_getR C0 fk_Rm_57 e8 d_Rm_look_8 ?_
  refine x_iload_n C0 1 d_Rm_look_11 rfl rfl ?_
  refine x_iconst (v := 0) C0 d_Rm_look_12 (by decide) ?_
  obtain ⟨n13, f13, e13, i13, hwp⟩ := hwp
  refine x_iast C0 e13 i13 d_Rm_look_13 ?_
  refine x_nh (fun h13 eh13 => ?_)
  replace hwp := hwp h13 eh13
  refine x_aload_n C0 0 d_Rm_look_14 rfl rfl ?_
  obtain ⟨x15, e15, hwp⟩ := hwp
  refine x_getR C0 fk_Rm_60 e15 d_Rm_look_15 ?_
  refine x_iload_n C0 1 d_Rm_look_18 rfl rfl ?_
  refine x_iconst (v := 0) C0 d_Rm_look_19 (by decide) ?_
  obtain ⟨n20, f20, e20, i20, hwp⟩ := hwp
  refine x_iast C0 e20 i20 d_Rm_look_20 ?_
  refine x_nh (fun h20 eh20 => ?_)
  replace hwp := hwp h20 eh20
  refine x_iconst (v := 2) C0 d_Rm_look_21 (by decide) ?_
  refine x_istore_n C0 d_Rm_look_22 rfl (by decide) (lv' := [(2, .int (2 : Int32)), (0, .ref (m_b G + l0)), (1, .int l1)]) rfl ?_
  exact x_sub [1, 2, 0] rfl (t_Rm_look_23 G C0 hR hr hlk  _ _ _ _ hwp)
set_option maxRecDepth 100000 in
set_option maxHeartbeats 4000000 in
theorem c_Rm_look (l : Launch) (G : mG) {Post : MH → Prop} {l0 : Nat} {l1 : Int32} {h : MH} (hwp : wp_Rm_look Post l0 l1 h) : Met l y_Rm_look (Cond.code y_Rm_look prog_8_method_28_code 4 (Option.none : Option Jvm.ClassFile.FieldType) :: lw_good) ({ frames := 3, cells := 0, slots := 0, locals := 68 }) (va_Pc [.ref (m_b G + l0), .int l1] (Wd G h)) (va_Qv Post (Wd G) (mA G)) 0 0 (mA G) := by
  refine Met.ofW (cc := prog_8_method_28_code) (maxL := 4) (ret := (Option.none : Option Jvm.ClassFile.FieldType)) (by decide +kernel) rfl ?_
  intro p e s m args below meth c s₁ B hml hv
  obtain ⟨rfl, hP, hz, hK, hSt⟩ := hv
  have hts := atoms_spec (ws := Cond.code y_Rm_look prog_8_method_28_code 4 (Option.none : Option Jvm.ClassFile.FieldType) :: lw_good) B.pre
  have C0 : Cx G p s m ([.ref (m_b G + l0), .int l1] : List Value).toArray c prog_8_method_28_code 4 "BassRealiserModel" := ⟨⟨B.exec, B.bytes, hml, findClass_of_methodNamed B.named, fun w h => hts w (List.mem_cons_of_mem _ h)⟩, hK, hSt, by rw [hz]; exact Nat.le_add_right _ _⟩
  have hl := lv_entry ([.ref (m_b G + l0), .int l1]) (n := 4) (Nat.le_of_ble_eq_true rfl)
  rw [lg_entry_eq]
  exact t_Rm_look G C0 ⟨Nat.le_refl _, Nat.le_refl _, Nat.le_refl _, Nat.le_refl _⟩ B.returns B.notSynchronized _ _ _ hwp _ _ _ ⟨hP, hz, va_S.rf⟩ hl
def wp_Rm_has (Post : Int32 → MH → Prop) (l0 : Int32) (l1 : Int32) (h : MH) : Prop :=
  ((¬ ((l0 >>> (l1 &&& 31)) &&& (1 : Int32)) = (1 : Int32)) →
    (Post (0 : Int32) h)) ∧
  ((((l0 >>> (l1 &&& 31)) &&& (1 : Int32)) = (1 : Int32)) →
    (Post (1 : Int32) h))
set_option maxRecDepth 100000 in
set_option maxHeartbeats 4000000 in
theorem t_Rm_has {p : Program} {l : Launch} {e : Env} {R : Room} {s : State} {m : MethodId} {args : Array Value} {below : List Frame} {meth : Method} {c : Code} (G : mG) (C0 : Cx G p s m args c prog_8_method_29_code 2 "BassRealiserModel") (hR : 0 ≤ R.frames ∧ 0 ≤ R.locals ∧ 0 ≤ R.cells ∧ 0 ≤ R.slots) (hr : meth.sig.returnType = some .boolean) (hlk : meth.locks = false) {Post : Int32 → MH → Prop} (l0 : Int32) (l1 : Int32) (h : MH) (hwp : wp_Rm_has Post l0 l1 h) : WG p l e R s m args below meth c 0 0 (MQ below (va_Qi Post (Wd G) (mA G)) args s 0 0 (mA G)) G 2 [(0, .int l0), (1, .int l1)] 0 [] h := by
  unfold wp_Rm_has at hwp
  refine x_iload_n C0 0 d_Rm_has_0 rfl rfl ?_
  refine x_iload_n C0 1 d_Rm_has_1 rfl rfl ?_
  refine x_ishr C0 d_Rm_has_2 ?_
  refine x_iconst (v := 1) C0 d_Rm_has_3 (by decide) ?_
  refine x_iand C0 d_Rm_has_4 ?_
  refine x_iconst (v := 1) C0 d_Rm_has_5 (by decide) ?_
  refine x_icmp_ne (tgt := 13) C0 d_Rm_has_6 (by decide) (fun c6 => ?_) (fun c6 => ?_)
  · replace hwp := hwp.1 c6
    refine x_iconst (v := 0) C0 d_Rm_has_13 (by decide) ?_
    exact x_zret C0 hr rfl hlk hwp d_Rm_has_14
  · replace hwp := hwp.2 c6
    refine x_iconst (v := 1) C0 d_Rm_has_9 (by decide) ?_
    refine x_goto (tgt := 14) C0 d_Rm_has_10 (by decide) ?_
    exact x_zret C0 hr rfl hlk hwp d_Rm_has_14
set_option maxRecDepth 100000 in
set_option maxHeartbeats 4000000 in
theorem c_Rm_has (l : Launch) (G : mG) {Post : Int32 → MH → Prop} {l0 : Int32} {l1 : Int32} {h : MH} (hwp : wp_Rm_has Post l0 l1 h) : Met l y_Rm_has (Cond.code y_Rm_has prog_8_method_29_code 2 (Option.some Jvm.ClassFile.FieldType.boolean) :: lw_good) ({ frames := 0, cells := 0, slots := 0, locals := 0 }) (va_Pc [.int l0, .int l1] (Wd G h)) (va_Qi Post (Wd G) (mA G)) 0 0 (mA G) := by
  refine Met.ofW (cc := prog_8_method_29_code) (maxL := 2) (ret := (Option.some Jvm.ClassFile.FieldType.boolean)) (by decide +kernel) rfl ?_
  intro p e s m args below meth c s₁ B hml hv
  obtain ⟨rfl, hP, hz, hK, hSt⟩ := hv
  have hts := atoms_spec (ws := Cond.code y_Rm_has prog_8_method_29_code 2 (Option.some Jvm.ClassFile.FieldType.boolean) :: lw_good) B.pre
  have C0 : Cx G p s m ([.int l0, .int l1] : List Value).toArray c prog_8_method_29_code 2 "BassRealiserModel" := ⟨⟨B.exec, B.bytes, hml, findClass_of_methodNamed B.named, fun w h => hts w (List.mem_cons_of_mem _ h)⟩, hK, hSt, by rw [hz]; exact Nat.le_add_right _ _⟩
  have hl := lv_entry ([.int l0, .int l1]) (n := 2) (Nat.le_of_ble_eq_true rfl)
  rw [lg_entry_eq]
  exact t_Rm_has G C0 ⟨Nat.le_refl _, Nat.le_refl _, Nat.le_refl _, Nat.le_refl _⟩ B.returns B.notSynchronized _ _ _ hwp _ _ _ ⟨hP, hz, va_S.rf⟩ hl
def wb_Rm_classes_4 (K4 : Nat → Int32 → Int32 → MH → Prop) (Post : Int32 → MH → Prop) (l0 : Nat) (l1 : Int32) (l2 : Int32) (h : MH) : Prop :=
  (((4 : Int32) ≤ l2) →
    (Post l1 h)) ∧
  ((¬ (4 : Int32) ≤ l2) →
    (∃ x12 : Nat, gF h l0 6 14 = some (.inr (some x12)) ∧
      (∃ (n16 : Nat) (f16 : Nat → Int32), gA h x12 0 = some (n16, f16) ∧ vp_in l2 n16 ∧
        (∀ z22 : Int32, z22 = l1 ||| ((1 : Int32) <<< (((f16 (l2).toNatClampNeg) - (f16 (l2).toNatClampNeg) / (12 : Int32) * (12 : Int32)) &&& 31)) →
          (K4 l0 z22 (l2 + (1 : Int32)) h)))))
def wn_Rm_classes_4 (Post : Int32 → MH → Prop) : Nat → Nat → Int32 → Int32 → MH → Prop
  | 0 => fun _ _ _ _ => False
  | n + 1 => wb_Rm_classes_4 (wn_Rm_classes_4 Post n) Post
def wp_Rm_classes_4 (Post : Int32 → MH → Prop) (l0 : Nat) (l1 : Int32) (l2 : Int32) (h : MH) : Prop := ∃ n, wn_Rm_classes_4 Post n l0 l1 l2 h
def wp_Rm_classes (Post : Int32 → MH → Prop) (l0 : Nat) (h : MH) : Prop :=
  wp_Rm_classes_4 Post l0 (0 : Int32) (0 : Int32) h
set_option maxRecDepth 100000 in
set_option maxHeartbeats 4000000 in
theorem tb_Rm_classes_4 {p : Program} {l : Launch} {e : Env} {R : Room} {s : State} {m : MethodId} {args : Array Value} {below : List Frame} {meth : Method} {c : Code} (G : mG) (C0 : Cx G p s m args c prog_8_method_30_code 3 "BassRealiserModel") (hR : 0 ≤ R.frames ∧ 0 ≤ R.locals ∧ 0 ≤ R.cells ∧ 0 ≤ R.slots) (hr : meth.sig.returnType = some .int) (hlk : meth.locks = false) {Post : Int32 → MH → Prop} {K4 : Nat → Int32 → Int32 → MH → Prop} (hK4 : ∀ (l0 : Nat) (l1 : Int32) (l2 : Int32) (h : MH), K4 l0 l1 l2 h → WG p l e R s m args below meth c 0 0 (MQ below (va_Qi Post (Wd G) (mA G)) args s 0 0 (mA G)) G 3 [(0, .ref (m_b G + l0)), (1, .int l1), (2, .int l2)] 4 [] h) (l0 : Nat) (l1 : Int32) (l2 : Int32) (h : MH) (hwp : wb_Rm_classes_4 K4 Post l0 l1 l2 h) : WG p l e R s m args below meth c 0 0 (MQ below (va_Qi Post (Wd G) (mA G)) args s 0 0 (mA G)) G 3 [(0, .ref (m_b G + l0)), (1, .int l1), (2, .int l2)] 4 [] h := by
  unfold wb_Rm_classes_4 at hwp
  refine x_iload_n C0 2 d_Rm_classes_4 rfl rfl ?_
  refine x_iconst (v := 4) C0 d_Rm_classes_5 (by decide) ?_
  refine x_icmp_ge (tgt := 29) C0 d_Rm_classes_6 (by decide) (fun c6 => ?_) (fun c6 => ?_)
  · replace hwp := hwp.1 c6
    refine x_iload_n C0 1 d_Rm_classes_29 rfl rfl ?_
    exact x_iret C0 hr hlk hwp d_Rm_classes_30
  · replace hwp := hwp.2 c6
    refine x_iload_n C0 1 d_Rm_classes_9 rfl rfl ?_
    refine x_iconst (v := 1) C0 d_Rm_classes_10 (by decide) ?_
    refine x_aload_n C0 0 d_Rm_classes_11 rfl rfl ?_
    obtain ⟨x12, e12, hwp⟩ := hwp
    refine x_getR C0 fk_Rm_48 e12 d_Rm_classes_12 ?_
    refine x_iload_n C0 2 d_Rm_classes_15 rfl rfl ?_
    obtain ⟨n16, f16, e16, i16, hwp⟩ := hwp
    refine x_iald C0 e16 i16 d_Rm_classes_16 ?_
    refine x_bipush (v := 12) C0 d_Rm_classes_17 (by decide) ?_
    refine x_irem C0 d_Rm_classes_19 (by decide) ?_
    refine x_ishl C0 d_Rm_classes_20 ?_
    refine x_ior C0 d_Rm_classes_21 ?_
    refine x_topI (fun z22 e22 => ?_)
    replace hwp := hwp z22 e22
    refine x_istore_n C0 d_Rm_classes_22 rfl (by decide) (lv' := [(1, .int z22), (0, .ref (m_b G + l0)), (2, .int l2)]) rfl ?_
    refine x_iinc C0 2 d_Rm_classes_23 rfl rfl (by decide) (lv' := [(2, .int (l2 + (1 : Int32))), (1, .int z22), (0, .ref (m_b G + l0))]) rfl ?_
    refine x_goto (tgt := 4) C0 d_Rm_classes_26 (by decide) ?_
    exact x_sub [2, 1, 0] rfl (hK4 _ _ _ _ hwp)
theorem t_Rm_classes_4 {p : Program} {l : Launch} {e : Env} {R : Room} {s : State} {m : MethodId} {args : Array Value} {below : List Frame} {meth : Method} {c : Code} (G : mG) (C0 : Cx G p s m args c prog_8_method_30_code 3 "BassRealiserModel") (hR : 0 ≤ R.frames ∧ 0 ≤ R.locals ∧ 0 ≤ R.cells ∧ 0 ≤ R.slots) (hr : meth.sig.returnType = some .int) (hlk : meth.locks = false) {Post : Int32 → MH → Prop} (l0 : Nat) (l1 : Int32) (l2 : Int32) (h : MH) (hwp : wp_Rm_classes_4 Post l0 l1 l2 h) : WG p l e R s m args below meth c 0 0 (MQ below (va_Qi Post (Wd G) (mA G)) args s 0 0 (mA G)) G 3 [(0, .ref (m_b G + l0)), (1, .int l1), (2, .int l2)] 4 [] h := by
  obtain ⟨n, hwp⟩ := hwp
  induction n generalizing l0 l1 l2 h with
  | zero => exact False.elim hwp
  | succ n ih => exact tb_Rm_classes_4 G C0 hR hr hlk (fun l0 l1 l2 h hwp => ih l0 l1 l2 h hwp) l0 l1 l2 h hwp
set_option maxRecDepth 100000 in
set_option maxHeartbeats 4000000 in
theorem t_Rm_classes {p : Program} {l : Launch} {e : Env} {R : Room} {s : State} {m : MethodId} {args : Array Value} {below : List Frame} {meth : Method} {c : Code} (G : mG) (C0 : Cx G p s m args c prog_8_method_30_code 3 "BassRealiserModel") (hR : 0 ≤ R.frames ∧ 0 ≤ R.locals ∧ 0 ≤ R.cells ∧ 0 ≤ R.slots) (hr : meth.sig.returnType = some .int) (hlk : meth.locks = false) {Post : Int32 → MH → Prop} (l0 : Nat) (h : MH) (hwp : wp_Rm_classes Post l0 h) : WG p l e R s m args below meth c 0 0 (MQ below (va_Qi Post (Wd G) (mA G)) args s 0 0 (mA G)) G 3 [(0, .ref (m_b G + l0))] 0 [] h := by
  unfold wp_Rm_classes at hwp
  refine x_iconst (v := 0) C0 d_Rm_classes_0 (by decide) ?_
  refine x_istore_n C0 d_Rm_classes_1 rfl (by decide) (lv' := [(1, .int (0 : Int32)), (0, .ref (m_b G + l0))]) rfl ?_
  refine x_iconst (v := 0) C0 d_Rm_classes_2 (by decide) ?_
  refine x_istore_n C0 d_Rm_classes_3 rfl (by decide) (lv' := [(2, .int (0 : Int32)), (1, .int (0 : Int32)), (0, .ref (m_b G + l0))]) rfl ?_
  exact x_sub [2, 1, 0] rfl (t_Rm_classes_4 G C0 hR hr hlk  _ _ _ _ hwp)
set_option maxRecDepth 100000 in
set_option maxHeartbeats 4000000 in
theorem c_Rm_classes (l : Launch) (G : mG) {Post : Int32 → MH → Prop} {l0 : Nat} {h : MH} (hwp : wp_Rm_classes Post l0 h) : Met l y_Rm_classes (Cond.code y_Rm_classes prog_8_method_30_code 3 (Option.some Jvm.ClassFile.FieldType.int) :: lw_good) ({ frames := 0, cells := 0, slots := 0, locals := 0 }) (va_Pc [.ref (m_b G + l0)] (Wd G h)) (va_Qi Post (Wd G) (mA G)) 0 0 (mA G) := by
  refine Met.ofW (cc := prog_8_method_30_code) (maxL := 3) (ret := (Option.some Jvm.ClassFile.FieldType.int)) (by decide +kernel) rfl ?_
  intro p e s m args below meth c s₁ B hml hv
  obtain ⟨rfl, hP, hz, hK, hSt⟩ := hv
  have hts := atoms_spec (ws := Cond.code y_Rm_classes prog_8_method_30_code 3 (Option.some Jvm.ClassFile.FieldType.int) :: lw_good) B.pre
  have C0 : Cx G p s m ([.ref (m_b G + l0)] : List Value).toArray c prog_8_method_30_code 3 "BassRealiserModel" := ⟨⟨B.exec, B.bytes, hml, findClass_of_methodNamed B.named, fun w h => hts w (List.mem_cons_of_mem _ h)⟩, hK, hSt, by rw [hz]; exact Nat.le_add_right _ _⟩
  have hl := lv_entry ([.ref (m_b G + l0)]) (n := 3) (Nat.le_of_ble_eq_true rfl)
  rw [lg_entry_eq]
  exact t_Rm_classes G C0 ⟨Nat.le_refl _, Nat.le_refl _, Nat.le_refl _, Nat.le_refl _⟩ B.returns B.notSynchronized _ _ hwp _ _ _ ⟨hP, hz, va_S.rf⟩ hl
def wp_Rm_aloneRule_312 (K268 : Nat → Int32 → Int32 → MH → Prop) (Post : Int32 → MH → Prop) (l0 : Nat) (l1 : Int32) (l4 : Int32) (h : MH) : Prop :=
  K268 l0 l1 (l4 + (1 : Int32)) h
def wb_Rm_aloneRule_268 (K268 : Nat → Int32 → Int32 → MH → Prop) (Post : Int32 → MH → Prop) (l0 : Nat) (l1 : Int32) (l4 : Int32) (h : MH) : Prop :=
  (((3 : Int32) ≤ l4) →
    (Post (0 : Int32) h)) ∧
  ((¬ (3 : Int32) ≤ l4) →
    (∃ x275 : Nat, gF h l0 6 11 = some (.inr (some x275)) ∧
      (∃ (n284 : Nat) (f284 : Nat → Int32), gA h x275 0 = some (n284, f284) ∧ vp_in (((3 : Int32) * l1) + l4) n284 ∧
        ((((f284 (((3 : Int32) * l1) + l4).toNatClampNeg) < 0) →
            (wp_Rm_aloneRule_312 K268 Post l0 l1 l4 h)) ∧
          ((¬ (f284 (((3 : Int32) * l1) + l4).toNatClampNeg) < 0) →
            (∃ x289 : Nat, gF h l0 6 11 = some (.inr (some x289)) ∧
              (∃ (n298 : Nat) (f298 : Nat → Int32), gA h x289 0 = some (n298, f298) ∧ vp_in (((3 : Int32) * l1) + l4) n298 ∧
                (∃ x300 : Nat, gF h l0 6 14 = some (.inr (some x300)) ∧
                  (∃ (n305 : Nat) (f305 : Nat → Int32), gA h x300 0 = some (n305, f305) ∧ vp_in l4 n305 ∧
                    ((((f298 (((3 : Int32) * l1) + l4).toNatClampNeg) = (f305 (l4).toNatClampNeg)) →
                        (wp_Rm_aloneRule_312 K268 Post l0 l1 l4 h)) ∧
                      ((¬ (f298 (((3 : Int32) * l1) + l4).toNatClampNeg) = (f305 (l4).toNatClampNeg)) →
                        (Post (7 : Int32) h))))))))))))
def wn_Rm_aloneRule_268 (Post : Int32 → MH → Prop) : Nat → Nat → Int32 → Int32 → MH → Prop
  | 0 => fun _ _ _ _ => False
  | n + 1 => wb_Rm_aloneRule_268 (wn_Rm_aloneRule_268 Post n) Post
def wp_Rm_aloneRule_268 (Post : Int32 → MH → Prop) (l0 : Nat) (l1 : Int32) (l4 : Int32) (h : MH) : Prop := ∃ n, wn_Rm_aloneRule_268 Post n l0 l1 l4 h
def wp_Rm_aloneRule_250 (K223 : Nat → Int32 → Int32 → Int32 → Int32 → MH → Prop) (Post : Int32 → MH → Prop) (l0 : Nat) (l1 : Int32) (l2 : Int32) (l4 : Int32) (y0 : Int32) (h : MH) : Prop :=
  K223 l0 l1 l2 y0 (l4 + (1 : Int32)) h
def wb_Rm_aloneRule_223 (K223 : Nat → Int32 → Int32 → Int32 → Int32 → MH → Prop) (Post : Int32 → MH → Prop) (l0 : Nat) (l1 : Int32) (l2 : Int32) (l3 : Int32) (l4 : Int32) (h : MH) : Prop :=
  (((4 : Int32) ≤ l4) →
    (((l3 ≤ (1 : Int32)) →
        (wp_Rm_aloneRule_268 Post l0 l1 (0 : Int32) h)) ∧
      ((¬ l3 ≤ (1 : Int32)) →
        (Post (6 : Int32) h)))) ∧
  ((¬ (4 : Int32) ≤ l4) →
    (∃ x230 : Nat, gF h l0 6 14 = some (.inr (some x230)) ∧
      (∃ (n235 : Nat) (f235 : Nat → Int32), gA h x230 0 = some (n235, f235) ∧ vp_in l4 n235 ∧
        (((¬ ((f235 (l4).toNatClampNeg) - (f235 (l4).toNatClampNeg) / (12 : Int32) * (12 : Int32)) = l2) →
            (wp_Rm_aloneRule_250 K223 Post l0 l1 l2 l4 l3 h)) ∧
          ((((f235 (l4).toNatClampNeg) - (f235 (l4).toNatClampNeg) / (12 : Int32) * (12 : Int32)) = l2) →
            (wp_Rm_aloneRule_250 K223 Post l0 l1 l2 l4 (l3 + (1 : Int32)) h))))))
def wn_Rm_aloneRule_223 (Post : Int32 → MH → Prop) : Nat → Nat → Int32 → Int32 → Int32 → Int32 → MH → Prop
  | 0 => fun _ _ _ _ _ _ => False
  | n + 1 => wb_Rm_aloneRule_223 (wn_Rm_aloneRule_223 Post n) Post
def wp_Rm_aloneRule_223 (Post : Int32 → MH → Prop) (l0 : Nat) (l1 : Int32) (l2 : Int32) (l3 : Int32) (l4 : Int32) (h : MH) : Prop := ∃ n, wn_Rm_aloneRule_223 Post n l0 l1 l2 l3 l4 h
def wp_Rm_aloneRule_93 (K44 : Nat → Int32 → Int32 → MH → Prop) (Post : Int32 → MH → Prop) (l0 : Nat) (l1 : Int32) (l2 : Int32) (h : MH) : Prop :=
  K44 l0 l1 (l2 + (1 : Int32)) h
def wb_Rm_aloneRule_44 (K44 : Nat → Int32 → Int32 → MH → Prop) (Post : Int32 → MH → Prop) (l0 : Nat) (l1 : Int32) (l2 : Int32) (h : MH) : Prop :=
  (((3 : Int32) ≤ l2) →
    (∃ x100 : Nat, gF h l0 6 16 = some (.inr (some x100)) ∧
      (∃ (n104 : Nat) (f104 : Nat → Int32), gA h x100 0 = some (n104, f104) ∧ vp_in l1 n104 ∧
        (gC h l0 = some 6 ∧ wp_Rm_classes (fun (r106 : Int32) (h106 : MH) =>
            (((((f104 (l1).toNatClampNeg) &&& (r106 ^^^ (-1 : Int32))) = 0) →
                (∃ x118 : Nat, gF h106 l0 6 14 = some (.inr (some x118)) ∧
                  (∃ (n122 : Nat) (f122 : Nat → Int32), gA h106 x118 0 = some (n122, f122) ∧ vp_in (0 : Int32) n122 ∧
                    (∃ x124 : Nat, gF h106 l0 6 14 = some (.inr (some x124)) ∧
                      (∃ (n128 : Nat) (f128 : Nat → Int32), gA h106 x124 0 = some (n128, f128) ∧ vp_in (1 : Int32) n128 ∧
                        ((((f122 ((0 : Int32)).toNatClampNeg) < (f128 ((1 : Int32)).toNatClampNeg)) →
                        (Post (4 : Int32) h106)) ∧
                        ((¬ (f122 ((0 : Int32)).toNatClampNeg) < (f128 ((1 : Int32)).toNatClampNeg)) →
                        (∃ x133 : Nat, gF h106 l0 6 14 = some (.inr (some x133)) ∧
                        (∃ (n137 : Nat) (f137 : Nat → Int32), gA h106 x133 0 = some (n137, f137) ∧ vp_in (1 : Int32) n137 ∧
                        (∃ x139 : Nat, gF h106 l0 6 14 = some (.inr (some x139)) ∧
                        (∃ (n143 : Nat) (f143 : Nat → Int32), gA h106 x139 0 = some (n143, f143) ∧ vp_in (2 : Int32) n143 ∧
                        ((((f137 ((1 : Int32)).toNatClampNeg) < (f143 ((2 : Int32)).toNatClampNeg)) →
                        (Post (4 : Int32) h106)) ∧
                        ((¬ (f137 ((1 : Int32)).toNatClampNeg) < (f143 ((2 : Int32)).toNatClampNeg)) →
                        (∃ x148 : Nat, gF h106 l0 6 14 = some (.inr (some x148)) ∧
                        (∃ (n152 : Nat) (f152 : Nat → Int32), gA h106 x148 0 = some (n152, f152) ∧ vp_in (2 : Int32) n152 ∧
                        (∃ x154 : Nat, gF h106 l0 6 14 = some (.inr (some x154)) ∧
                        (∃ (n158 : Nat) (f158 : Nat → Int32), gA h106 x154 0 = some (n158, f158) ∧ vp_in (3 : Int32) n158 ∧
                        ((((f158 ((3 : Int32)).toNatClampNeg) ≤ (f152 ((2 : Int32)).toNatClampNeg)) →
                        (∃ x165 : Nat, gF h106 l0 6 14 = some (.inr (some x165)) ∧
                        (∃ (n169 : Nat) (f169 : Nat → Int32), gA h106 x165 0 = some (n169, f169) ∧ vp_in (0 : Int32) n169 ∧
                        (∃ x171 : Nat, gF h106 l0 6 14 = some (.inr (some x171)) ∧
                        (∃ (n175 : Nat) (f175 : Nat → Int32), gA h106 x171 0 = some (n175, f175) ∧ vp_in (1 : Int32) n175 ∧
                        ((((12 : Int32) < ((f169 ((0 : Int32)).toNatClampNeg) - (f175 ((1 : Int32)).toNatClampNeg))) →
                        (Post (5 : Int32) h106)) ∧
                        ((¬ (12 : Int32) < ((f169 ((0 : Int32)).toNatClampNeg) - (f175 ((1 : Int32)).toNatClampNeg))) →
                        (∃ x183 : Nat, gF h106 l0 6 14 = some (.inr (some x183)) ∧
                        (∃ (n187 : Nat) (f187 : Nat → Int32), gA h106 x183 0 = some (n187, f187) ∧ vp_in (1 : Int32) n187 ∧
                        (∃ x189 : Nat, gF h106 l0 6 14 = some (.inr (some x189)) ∧
                        (∃ (n193 : Nat) (f193 : Nat → Int32), gA h106 x189 0 = some (n193, f193) ∧ vp_in (2 : Int32) n193 ∧
                        (((((f187 ((1 : Int32)).toNatClampNeg) - (f193 ((2 : Int32)).toNatClampNeg)) ≤ (12 : Int32)) →
                        (∃ x205 : Int32, gF h106 l0 6 1 = some (.inl x205) ∧
                        (wp_Rm_mod (fun (r214 : Int32) (h214 : MH) =>
                        (wp_Rm_aloneRule_223 Post l0 l1 r214 (0 : Int32) (0 : Int32) h214)) (((7 : Int32) * x205) + (11 : Int32)) (12 : Int32) h106))) ∧
                        ((¬ ((f187 ((1 : Int32)).toNatClampNeg) - (f193 ((2 : Int32)).toNatClampNeg)) ≤ (12 : Int32)) →
                        (Post (5 : Int32) h106)))))))))))))) ∧
                        ((¬ (f158 ((3 : Int32)).toNatClampNeg) ≤ (f152 ((2 : Int32)).toNatClampNeg)) →
                        (Post (4 : Int32) h106)))))))))))))))))))) ∧
              ((¬ ((f104 (l1).toNatClampNeg) &&& (r106 ^^^ (-1 : Int32))) = 0) →
                (Post (3 : Int32) h106)))) l0 h)))) ∧
  ((¬ (3 : Int32) ≤ l2) →
    (∃ x50 : Nat, gF h l0 6 14 = some (.inr (some x50)) ∧
      (∃ (n54 : Nat) (f54 : Nat → Int32), gA h x50 0 = some (n54, f54) ∧ vp_in l2 n54 ∧
        (∃ x59 : Nat, gF h l0 6 14 = some (.inr (some x59)) ∧
          (∃ (n63 : Nat) (f63 : Nat → Int32), gA h x59 0 = some (n63, f63) ∧ vp_in (3 : Int32) n63 ∧
            (((((f54 (l2).toNatClampNeg) - (f54 (l2).toNatClampNeg) / (12 : Int32) * (12 : Int32)) = ((f63 ((3 : Int32)).toNatClampNeg) - (f63 ((3 : Int32)).toNatClampNeg) / (12 : Int32) * (12 : Int32))) →
                (wp_Rm_aloneRule_93 K44 Post l0 l1 l2 h)) ∧
              ((¬ ((f54 (l2).toNatClampNeg) - (f54 (l2).toNatClampNeg) / (12 : Int32) * (12 : Int32)) = ((f63 ((3 : Int32)).toNatClampNeg) - (f63 ((3 : Int32)).toNatClampNeg) / (12 : Int32) * (12 : Int32))) →
                (∃ x71 : Nat, gF h l0 6 16 = some (.inr (some x71)) ∧
                  (∃ (n75 : Nat) (f75 : Nat → Int32), gA h x71 0 = some (n75, f75) ∧ vp_in l1 n75 ∧
                    (∃ x77 : Nat, gF h l0 6 14 = some (.inr (some x77)) ∧
                      (∃ (n81 : Nat) (f81 : Nat → Int32), gA h x77 0 = some (n81, f81) ∧ vp_in l2 n81 ∧
                        (wp_Rm_has (fun (r85 : Int32) (h85 : MH) =>
                        (((¬ r85 = 0) →
                        (wp_Rm_aloneRule_93 K44 Post l0 l1 l2 h85)) ∧
                        ((r85 = 0) →
                        (Post (2 : Int32) h85)))) (f75 (l1).toNatClampNeg) ((f81 (l2).toNatClampNeg) - (f81 (l2).toNatClampNeg) / (12 : Int32) * (12 : Int32)) h))))))))))))
def wn_Rm_aloneRule_44 (Post : Int32 → MH → Prop) : Nat → Nat → Int32 → Int32 → MH → Prop
  | 0 => fun _ _ _ _ => False
  | n + 1 => wb_Rm_aloneRule_44 (wn_Rm_aloneRule_44 Post n) Post
def wp_Rm_aloneRule_44 (Post : Int32 → MH → Prop) (l0 : Nat) (l1 : Int32) (l2 : Int32) (h : MH) : Prop := ∃ n, wn_Rm_aloneRule_44 Post n l0 l1 l2 h
def wb_Rm_aloneRule_2 (K2 : Nat → Int32 → Int32 → MH → Prop) (Post : Int32 → MH → Prop) (l0 : Nat) (l1 : Int32) (l2 : Int32) (h : MH) : Prop :=
  (((3 : Int32) ≤ l2) →
    (wp_Rm_aloneRule_44 Post l0 l1 (0 : Int32) h)) ∧
  ((¬ (3 : Int32) ≤ l2) →
    (∃ x8 : Nat, gF h l0 6 14 = some (.inr (some x8)) ∧
      (∃ (n12 : Nat) (f12 : Nat → Int32), gA h x8 0 = some (n12, f12) ∧ vp_in l2 n12 ∧
        (∃ x15 : Nat, gF h l0 6 7 = some (.inr (some x15)) ∧
          (∃ (n19 : Nat) (f19 : Nat → Int32), gA h x15 0 = some (n19, f19) ∧ vp_in l2 n19 ∧
            (∃ x22 : Nat, gF h l0 6 8 = some (.inr (some x22)) ∧
              (∃ (n26 : Nat) (f26 : Nat → Int32), gA h x22 0 = some (n26, f26) ∧ vp_in l2 n26 ∧
                (wp_Rm_in (fun (r28 : Int32) (h28 : MH) =>
                    (((¬ r28 = 0) →
                        (K2 l0 l1 (l2 + (1 : Int32)) h28)) ∧
                      ((r28 = 0) →
                        (Post (1 : Int32) h28)))) ((f12 (l2).toNatClampNeg).toInt64) ((f19 (l2).toNatClampNeg).toInt64) ((f26 (l2).toNatClampNeg).toInt64) h))))))))
def wn_Rm_aloneRule_2 (Post : Int32 → MH → Prop) : Nat → Nat → Int32 → Int32 → MH → Prop
  | 0 => fun _ _ _ _ => False
  | n + 1 => wb_Rm_aloneRule_2 (wn_Rm_aloneRule_2 Post n) Post
def wp_Rm_aloneRule_2 (Post : Int32 → MH → Prop) (l0 : Nat) (l1 : Int32) (l2 : Int32) (h : MH) : Prop := ∃ n, wn_Rm_aloneRule_2 Post n l0 l1 l2 h
def wp_Rm_aloneRule (Post : Int32 → MH → Prop) (l0 : Nat) (l1 : Int32) (h : MH) : Prop :=
  wp_Rm_aloneRule_2 Post l0 l1 (0 : Int32) h
set_option maxRecDepth 100000 in
set_option maxHeartbeats 4000000 in
theorem t_Rm_aloneRule_312 {p : Program} {l : Launch} {e : Env} {R : Room} {s : State} {m : MethodId} {args : Array Value} {below : List Frame} {meth : Method} {c : Code} (G : mG) (C0 : Cx G p s m args c prog_8_method_31_code 5 "BassRealiserModel") (hR : 1 ≤ R.frames ∧ 25 ≤ R.locals ∧ 0 ≤ R.cells ∧ 0 ≤ R.slots) (hr : meth.sig.returnType = some .int) (hlk : meth.locks = false) {Post : Int32 → MH → Prop} {K268 : Nat → Int32 → Int32 → MH → Prop} (hK268 : ∀ (l0 : Nat) (l1 : Int32) (l4 : Int32) (h : MH), K268 l0 l1 l4 h → WG p l e R s m args below meth c 0 0 (MQ below (va_Qi Post (Wd G) (mA G)) args s 0 0 (mA G)) G 5 [(0, .ref (m_b G + l0)), (1, .int l1), (4, .int l4)] 268 [] h) (l0 : Nat) (l1 : Int32) (l4 : Int32) (h : MH) (hwp : wp_Rm_aloneRule_312 K268 Post l0 l1 l4 h) : WG p l e R s m args below meth c 0 0 (MQ below (va_Qi Post (Wd G) (mA G)) args s 0 0 (mA G)) G 5 [(0, .ref (m_b G + l0)), (1, .int l1), (4, .int l4)] 312 [] h := by
  unfold wp_Rm_aloneRule_312 at hwp
  refine x_iinc C0 2 d_Rm_aloneRule_312 rfl rfl (by decide) (lv' := [(4, .int (l4 + (1 : Int32))), (0, .ref (m_b G + l0)), (1, .int l1)]) rfl ?_
  refine x_goto (tgt := 268) C0 d_Rm_aloneRule_315 (by decide) ?_
  exact x_sub [1, 2, 0] rfl (hK268 _ _ _ _ hwp)
set_option maxRecDepth 100000 in
set_option maxHeartbeats 4000000 in
theorem tb_Rm_aloneRule_268 {p : Program} {l : Launch} {e : Env} {R : Room} {s : State} {m : MethodId} {args : Array Value} {below : List Frame} {meth : Method} {c : Code} (G : mG) (C0 : Cx G p s m args c prog_8_method_31_code 5 "BassRealiserModel") (hR : 1 ≤ R.frames ∧ 25 ≤ R.locals ∧ 0 ≤ R.cells ∧ 0 ≤ R.slots) (hr : meth.sig.returnType = some .int) (hlk : meth.locks = false) {Post : Int32 → MH → Prop} {K268 : Nat → Int32 → Int32 → MH → Prop} (hK268 : ∀ (l0 : Nat) (l1 : Int32) (l4 : Int32) (h : MH), K268 l0 l1 l4 h → WG p l e R s m args below meth c 0 0 (MQ below (va_Qi Post (Wd G) (mA G)) args s 0 0 (mA G)) G 5 [(0, .ref (m_b G + l0)), (1, .int l1), (4, .int l4)] 268 [] h) (l0 : Nat) (l1 : Int32) (l4 : Int32) (h : MH) (hwp : wb_Rm_aloneRule_268 K268 Post l0 l1 l4 h) : WG p l e R s m args below meth c 0 0 (MQ below (va_Qi Post (Wd G) (mA G)) args s 0 0 (mA G)) G 5 [(0, .ref (m_b G + l0)), (1, .int l1), (4, .int l4)] 268 [] h := by
  unfold wb_Rm_aloneRule_268 at hwp
  refine x_iload C0 2 d_Rm_aloneRule_268 rfl ?_
  refine x_iconst (v := 3) C0 d_Rm_aloneRule_270 (by decide) ?_
  refine x_icmp_ge (tgt := 318) C0 d_Rm_aloneRule_271 (by decide) (fun c271 => ?_) (fun c271 => ?_)
  · replace hwp := hwp.1 c271
    refine x_iconst (v := 0) C0 d_Rm_aloneRule_318 (by decide) ?_
    exact x_iret C0 hr hlk hwp d_Rm_aloneRule_319
  · replace hwp := hwp.2 c271
    refine x_aload_n C0 0 d_Rm_aloneRule_274 rfl rfl ?_
    obtain ⟨x275, e275, hwp⟩ := hwp
    refine x_getR C0 fk_Rm_38 e275 d_Rm_aloneRule_275 ?_
    refine x_iconst (v := 3) C0 d_Rm_aloneRule_278 (by decide) ?_
    refine x_iload_n C0 1 d_Rm_aloneRule_279 rfl rfl ?_
    refine x_imul C0 d_Rm_aloneRule_280 ?_
    refine x_iload C0 2 d_Rm_aloneRule_281 rfl ?_
    refine x_iadd C0 d_Rm_aloneRule_283 ?_
    obtain ⟨n284, f284, e284, i284, hwp⟩ := hwp
    refine x_iald C0 e284 i284 d_Rm_aloneRule_284 ?_
    refine x_if_lt (tgt := 312) C0 d_Rm_aloneRule_285 (by decide) (fun c285 => ?_) (fun c285 => ?_)
    · replace hwp := hwp.1 c285
      exact x_sub [0, 1, 2] rfl (t_Rm_aloneRule_312 G C0 hR hr hlk hK268 _ _ _ _ hwp)
    · replace hwp := hwp.2 c285
      refine x_aload_n C0 0 d_Rm_aloneRule_288 rfl rfl ?_
      obtain ⟨x289, e289, hwp⟩ := hwp
      refine x_getR C0 fk_Rm_38 e289 d_Rm_aloneRule_289 ?_
      refine x_iconst (v := 3) C0 d_Rm_aloneRule_292 (by decide) ?_
      refine x_iload_n C0 1 d_Rm_aloneRule_293 rfl rfl ?_
      refine x_imul C0 d_Rm_aloneRule_294 ?_
      refine x_iload C0 2 d_Rm_aloneRule_295 rfl ?_
      refine x_iadd C0 d_Rm_aloneRule_297 ?_
      obtain ⟨n298, f298, e298, i298, hwp⟩ := hwp
      refine x_iald C0 e298 i298 d_Rm_aloneRule_298 ?_
      refine x_aload_n C0 0 d_Rm_aloneRule_299 rfl rfl ?_
      obtain ⟨x300, e300, hwp⟩ := hwp
      refine x_getR C0 fk_Rm_48 e300 d_Rm_aloneRule_300 ?_
      refine x_iload C0 2 d_Rm_aloneRule_303 rfl ?_
      obtain ⟨n305, f305, e305, i305, hwp⟩ := hwp
      refine x_iald C0 e305 i305 d_Rm_aloneRule_305 ?_
      refine x_icmp_eq (tgt := 312) C0 d_Rm_aloneRule_306 (by decide) (fun c306 => ?_) (fun c306 => ?_)
      · replace hwp := hwp.1 c306
        exact x_sub [0, 1, 2] rfl (t_Rm_aloneRule_312 G C0 hR hr hlk hK268 _ _ _ _ hwp)
      · replace hwp := hwp.2 c306
        refine x_bipush (v := 7) C0 d_Rm_aloneRule_309 (by decide) ?_
        exact x_iret C0 hr hlk hwp d_Rm_aloneRule_311
theorem t_Rm_aloneRule_268 {p : Program} {l : Launch} {e : Env} {R : Room} {s : State} {m : MethodId} {args : Array Value} {below : List Frame} {meth : Method} {c : Code} (G : mG) (C0 : Cx G p s m args c prog_8_method_31_code 5 "BassRealiserModel") (hR : 1 ≤ R.frames ∧ 25 ≤ R.locals ∧ 0 ≤ R.cells ∧ 0 ≤ R.slots) (hr : meth.sig.returnType = some .int) (hlk : meth.locks = false) {Post : Int32 → MH → Prop} (l0 : Nat) (l1 : Int32) (l4 : Int32) (h : MH) (hwp : wp_Rm_aloneRule_268 Post l0 l1 l4 h) : WG p l e R s m args below meth c 0 0 (MQ below (va_Qi Post (Wd G) (mA G)) args s 0 0 (mA G)) G 5 [(0, .ref (m_b G + l0)), (1, .int l1), (4, .int l4)] 268 [] h := by
  obtain ⟨n, hwp⟩ := hwp
  induction n generalizing l0 l1 l4 h with
  | zero => exact False.elim hwp
  | succ n ih => exact tb_Rm_aloneRule_268 G C0 hR hr hlk (fun l0 l1 l4 h hwp => ih l0 l1 l4 h hwp) l0 l1 l4 h hwp
set_option maxRecDepth 100000 in
set_option maxHeartbeats 4000000 in
theorem t_Rm_aloneRule_250 {p : Program} {l : Launch} {e : Env} {R : Room} {s : State} {m : MethodId} {args : Array Value} {below : List Frame} {meth : Method} {c : Code} (G : mG) (C0 : Cx G p s m args c prog_8_method_31_code 5 "BassRealiserModel") (hR : 1 ≤ R.frames ∧ 25 ≤ R.locals ∧ 0 ≤ R.cells ∧ 0 ≤ R.slots) (hr : meth.sig.returnType = some .int) (hlk : meth.locks = false) {Post : Int32 → MH → Prop} {K223 : Nat → Int32 → Int32 → Int32 → Int32 → MH → Prop} (hK223 : ∀ (l0 : Nat) (l1 : Int32) (l2 : Int32) (l3 : Int32) (l4 : Int32) (h : MH), K223 l0 l1 l2 l3 l4 h → WG p l e R s m args below meth c 0 0 (MQ below (va_Qi Post (Wd G) (mA G)) args s 0 0 (mA G)) G 5 [(0, .ref (m_b G + l0)), (1, .int l1), (2, .int l2), (3, .int l3), (4, .int l4)] 223 [] h) (l0 : Nat) (l1 : Int32) (l2 : Int32) (l4 : Int32) (y0 : Int32) (h : MH) (hwp : wp_Rm_aloneRule_250 K223 Post l0 l1 l2 l4 y0 h) : WG p l e R s m args below meth c 0 0 (MQ below (va_Qi Post (Wd G) (mA G)) args s 0 0 (mA G)) G 5 [(0, .ref (m_b G + l0)), (1, .int l1), (2, .int l2), (4, .int l4)] 250 [.int y0] h := by
  unfold wp_Rm_aloneRule_250 at hwp
  refine x_istore_n C0 d_Rm_aloneRule_250 rfl (by decide) (lv' := [(3, .int y0), (0, .ref (m_b G + l0)), (1, .int l1), (2, .int l2), (4, .int l4)]) rfl ?_
  refine x_iinc C0 4 d_Rm_aloneRule_251 rfl rfl (by decide) (lv' := [(4, .int (l4 + (1 : Int32))), (3, .int y0), (0, .ref (m_b G + l0)), (1, .int l1), (2, .int l2)]) rfl ?_
  refine x_goto (tgt := 223) C0 d_Rm_aloneRule_254 (by decide) ?_
  exact x_sub [2, 3, 4, 1, 0] rfl (hK223 _ _ _ _ _ _ hwp)
set_option maxRecDepth 100000 in
set_option maxHeartbeats 4000000 in
theorem tb_Rm_aloneRule_223 {p : Program} {l : Launch} {e : Env} {R : Room} {s : State} {m : MethodId} {args : Array Value} {below : List Frame} {meth : Method} {c : Code} (G : mG) (C0 : Cx G p s m args c prog_8_method_31_code 5 "BassRealiserModel") (hR : 1 ≤ R.frames ∧ 25 ≤ R.locals ∧ 0 ≤ R.cells ∧ 0 ≤ R.slots) (hr : meth.sig.returnType = some .int) (hlk : meth.locks = false) {Post : Int32 → MH → Prop} {K223 : Nat → Int32 → Int32 → Int32 → Int32 → MH → Prop} (hK223 : ∀ (l0 : Nat) (l1 : Int32) (l2 : Int32) (l3 : Int32) (l4 : Int32) (h : MH), K223 l0 l1 l2 l3 l4 h → WG p l e R s m args below meth c 0 0 (MQ below (va_Qi Post (Wd G) (mA G)) args s 0 0 (mA G)) G 5 [(0, .ref (m_b G + l0)), (1, .int l1), (2, .int l2), (3, .int l3), (4, .int l4)] 223 [] h) (l0 : Nat) (l1 : Int32) (l2 : Int32) (l3 : Int32) (l4 : Int32) (h : MH) (hwp : wb_Rm_aloneRule_223 K223 Post l0 l1 l2 l3 l4 h) : WG p l e R s m args below meth c 0 0 (MQ below (va_Qi Post (Wd G) (mA G)) args s 0 0 (mA G)) G 5 [(0, .ref (m_b G + l0)), (1, .int l1), (2, .int l2), (3, .int l3), (4, .int l4)] 223 [] h := by
  unfold wb_Rm_aloneRule_223 at hwp
  refine x_iload C0 4 d_Rm_aloneRule_223 rfl ?_
  refine x_iconst (v := 4) C0 d_Rm_aloneRule_225 (by decide) ?_
  refine x_icmp_ge (tgt := 257) C0 d_Rm_aloneRule_226 (by decide) (fun c226 => ?_) (fun c226 => ?_)
  · replace hwp := hwp.1 c226
    refine x_iload_n C0 3 d_Rm_aloneRule_257 rfl rfl ?_
    refine x_iconst (v := 1) C0 d_Rm_aloneRule_258 (by decide) ?_
    refine x_icmp_le (tgt := 265) C0 d_Rm_aloneRule_259 (by decide) (fun c259 => ?_) (fun c259 => ?_)
    · replace hwp := hwp.1 c259
      refine x_iconst (v := 0) C0 d_Rm_aloneRule_265 (by decide) ?_
      refine x_istore C0 d_Rm_aloneRule_266 (by decide) (lv' := [(4, .int (0 : Int32)), (0, .ref (m_b G + l0)), (1, .int l1), (2, .int l2), (3, .int l3)]) rfl ?_
      exact x_sub [1, 2, 0] rfl (t_Rm_aloneRule_268 G C0 hR hr hlk  _ _ _ _ hwp)
    · replace hwp := hwp.2 c259
      refine x_bipush (v := 6) C0 d_Rm_aloneRule_262 (by decide) ?_
      exact x_iret C0 hr hlk hwp d_Rm_aloneRule_264
  · replace hwp := hwp.2 c226
    refine x_aload_n C0 0 d_Rm_aloneRule_229 rfl rfl ?_
    obtain ⟨x230, e230, hwp⟩ := hwp
    refine x_getR C0 fk_Rm_48 e230 d_Rm_aloneRule_230 ?_
    refine x_iload C0 4 d_Rm_aloneRule_233 rfl ?_
    obtain ⟨n235, f235, e235, i235, hwp⟩ := hwp
    refine x_iald C0 e235 i235 d_Rm_aloneRule_235 ?_
    refine x_bipush (v := 12) C0 d_Rm_aloneRule_236 (by decide) ?_
    refine x_irem C0 d_Rm_aloneRule_238 (by decide) ?_
    refine x_iload_n C0 2 d_Rm_aloneRule_239 rfl rfl ?_
    refine x_icmp_ne (tgt := 249) C0 d_Rm_aloneRule_240 (by decide) (fun c240 => ?_) (fun c240 => ?_)
    · replace hwp := hwp.1 c240
      refine x_iload_n C0 3 d_Rm_aloneRule_249 rfl rfl ?_
      exact x_sub [0, 1, 2, 4] rfl (t_Rm_aloneRule_250 G C0 hR hr hlk hK223 _ _ _ _ _ _ hwp)
    · replace hwp := hwp.2 c240
      refine x_iload_n C0 3 d_Rm_aloneRule_243 rfl rfl ?_
      refine x_iconst (v := 1) C0 d_Rm_aloneRule_244 (by decide) ?_
      refine x_iadd C0 d_Rm_aloneRule_245 ?_
      refine x_goto (tgt := 250) C0 d_Rm_aloneRule_246 (by decide) ?_
      exact x_sub [0, 1, 2, 4] rfl (t_Rm_aloneRule_250 G C0 hR hr hlk hK223 _ _ _ _ _ _ hwp)
theorem t_Rm_aloneRule_223 {p : Program} {l : Launch} {e : Env} {R : Room} {s : State} {m : MethodId} {args : Array Value} {below : List Frame} {meth : Method} {c : Code} (G : mG) (C0 : Cx G p s m args c prog_8_method_31_code 5 "BassRealiserModel") (hR : 1 ≤ R.frames ∧ 25 ≤ R.locals ∧ 0 ≤ R.cells ∧ 0 ≤ R.slots) (hr : meth.sig.returnType = some .int) (hlk : meth.locks = false) {Post : Int32 → MH → Prop} (l0 : Nat) (l1 : Int32) (l2 : Int32) (l3 : Int32) (l4 : Int32) (h : MH) (hwp : wp_Rm_aloneRule_223 Post l0 l1 l2 l3 l4 h) : WG p l e R s m args below meth c 0 0 (MQ below (va_Qi Post (Wd G) (mA G)) args s 0 0 (mA G)) G 5 [(0, .ref (m_b G + l0)), (1, .int l1), (2, .int l2), (3, .int l3), (4, .int l4)] 223 [] h := by
  obtain ⟨n, hwp⟩ := hwp
  induction n generalizing l0 l1 l2 l3 l4 h with
  | zero => exact False.elim hwp
  | succ n ih => exact tb_Rm_aloneRule_223 G C0 hR hr hlk (fun l0 l1 l2 l3 l4 h hwp => ih l0 l1 l2 l3 l4 h hwp) l0 l1 l2 l3 l4 h hwp
set_option maxRecDepth 100000 in
set_option maxHeartbeats 4000000 in
theorem t_Rm_aloneRule_93 {p : Program} {l : Launch} {e : Env} {R : Room} {s : State} {m : MethodId} {args : Array Value} {below : List Frame} {meth : Method} {c : Code} (G : mG) (C0 : Cx G p s m args c prog_8_method_31_code 5 "BassRealiserModel") (hR : 1 ≤ R.frames ∧ 25 ≤ R.locals ∧ 0 ≤ R.cells ∧ 0 ≤ R.slots) (hr : meth.sig.returnType = some .int) (hlk : meth.locks = false) {Post : Int32 → MH → Prop} {K44 : Nat → Int32 → Int32 → MH → Prop} (hK44 : ∀ (l0 : Nat) (l1 : Int32) (l2 : Int32) (h : MH), K44 l0 l1 l2 h → WG p l e R s m args below meth c 0 0 (MQ below (va_Qi Post (Wd G) (mA G)) args s 0 0 (mA G)) G 5 [(0, .ref (m_b G + l0)), (1, .int l1), (2, .int l2)] 44 [] h) (l0 : Nat) (l1 : Int32) (l2 : Int32) (h : MH) (hwp : wp_Rm_aloneRule_93 K44 Post l0 l1 l2 h) : WG p l e R s m args below meth c 0 0 (MQ below (va_Qi Post (Wd G) (mA G)) args s 0 0 (mA G)) G 5 [(0, .ref (m_b G + l0)), (1, .int l1), (2, .int l2)] 93 [] h := by
  unfold wp_Rm_aloneRule_93 at hwp
  refine x_iinc C0 2 d_Rm_aloneRule_93 rfl rfl (by decide) (lv' := [(2, .int (l2 + (1 : Int32))), (0, .ref (m_b G + l0)), (1, .int l1)]) rfl ?_
  refine x_goto (tgt := 44) C0 d_Rm_aloneRule_96 (by decide) ?_
  exact x_sub [1, 2, 0] rfl (hK44 _ _ _ _ hwp)
set_option maxRecDepth 100000 in
set_option maxHeartbeats 4000000 in
theorem tb_Rm_aloneRule_44 {p : Program} {l : Launch} {e : Env} {R : Room} {s : State} {m : MethodId} {args : Array Value} {below : List Frame} {meth : Method} {c : Code} (G : mG) (C0 : Cx G p s m args c prog_8_method_31_code 5 "BassRealiserModel") (hR : 1 ≤ R.frames ∧ 25 ≤ R.locals ∧ 0 ≤ R.cells ∧ 0 ≤ R.slots) (hr : meth.sig.returnType = some .int) (hlk : meth.locks = false) {Post : Int32 → MH → Prop} {K44 : Nat → Int32 → Int32 → MH → Prop} (hK44 : ∀ (l0 : Nat) (l1 : Int32) (l2 : Int32) (h : MH), K44 l0 l1 l2 h → WG p l e R s m args below meth c 0 0 (MQ below (va_Qi Post (Wd G) (mA G)) args s 0 0 (mA G)) G 5 [(0, .ref (m_b G + l0)), (1, .int l1), (2, .int l2)] 44 [] h) (l0 : Nat) (l1 : Int32) (l2 : Int32) (h : MH) (hwp : wb_Rm_aloneRule_44 K44 Post l0 l1 l2 h) : WG p l e R s m args below meth c 0 0 (MQ below (va_Qi Post (Wd G) (mA G)) args s 0 0 (mA G)) G 5 [(0, .ref (m_b G + l0)), (1, .int l1), (2, .int l2)] 44 [] h := by
  unfold wb_Rm_aloneRule_44 at hwp
  refine x_iload_n C0 2 d_Rm_aloneRule_44 rfl rfl ?_
  refine x_iconst (v := 3) C0 d_Rm_aloneRule_45 (by decide) ?_
  refine x_icmp_ge (tgt := 99) C0 d_Rm_aloneRule_46 (by decide) (fun c46 => ?_) (fun c46 => ?_)
  · replace hwp := hwp.1 c46
    refine x_aload_n C0 0 d_Rm_aloneRule_99 rfl rfl ?_
    obtain ⟨x100, e100, hwp⟩ := hwp
    refine x_getR C0 fk_Rm_54 e100 d_Rm_aloneRule_100 ?_
    refine x_iload_n C0 1 d_Rm_aloneRule_103 rfl rfl ?_
    obtain ⟨n104, f104, e104, i104, hwp⟩ := hwp
    refine x_iald C0 e104 i104 d_Rm_aloneRule_104 ?_
    refine x_aload_n C0 0 d_Rm_aloneRule_105 rfl rfl ?_
    obtain ⟨g106, hwp⟩ := hwp
    refine x_callVi0 (k := l0) (As := []) (st := [.int (f104 (l1).toNatClampNeg)]) C0 (c_Rm_classes l G hwp) kw_4_57 mk_Rm_classes vk_Rm_classes rfl g106 rfl (Nat.le_of_ble_eq_true rfl) rfl rfl ⟨Nat.le_trans (by decide) hR.1, Nat.le_trans (by decide) hR.2.1⟩ ⟨Nat.zero_le _, Nat.zero_le _⟩ rfl d_Rm_aloneRule_106 (fun r106 h106 hwp => ?_)
    refine x_iconst (v := -1) C0 d_Rm_aloneRule_109 (by decide) ?_
    refine x_ixor C0 d_Rm_aloneRule_110 ?_
    refine x_iand C0 d_Rm_aloneRule_111 ?_
    refine x_if_eq (tgt := 117) C0 d_Rm_aloneRule_112 (by decide) (fun c112 => ?_) (fun c112 => ?_)
    · replace hwp := hwp.1 c112
      refine x_aload_n C0 0 d_Rm_aloneRule_117 rfl rfl ?_
      obtain ⟨x118, e118, hwp⟩ := hwp
      refine x_getR C0 fk_Rm_48 e118 d_Rm_aloneRule_118 ?_
      refine x_iconst (v := 0) C0 d_Rm_aloneRule_121 (by decide) ?_
      obtain ⟨n122, f122, e122, i122, hwp⟩ := hwp
      refine x_iald C0 e122 i122 d_Rm_aloneRule_122 ?_
      refine x_aload_n C0 0 d_Rm_aloneRule_123 rfl rfl ?_
      obtain ⟨x124, e124, hwp⟩ := hwp
      refine x_getR C0 fk_Rm_48 e124 d_Rm_aloneRule_124 ?_
      refine x_iconst (v := 1) C0 d_Rm_aloneRule_127 (by decide) ?_
      obtain ⟨n128, f128, e128, i128, hwp⟩ := hwp
      refine x_iald C0 e128 i128 d_Rm_aloneRule_128 ?_
      refine x_icmp_lt (tgt := 162) C0 d_Rm_aloneRule_129 (by decide) (fun c129 => ?_) (fun c129 => ?_)
      · replace hwp := hwp.1 c129
        refine x_iconst (v := 4) C0 d_Rm_aloneRule_162 (by decide) ?_
        exact x_iret C0 hr hlk hwp d_Rm_aloneRule_163
      · replace hwp := hwp.2 c129
        refine x_aload_n C0 0 d_Rm_aloneRule_132 rfl rfl ?_
        obtain ⟨x133, e133, hwp⟩ := hwp
        refine x_getR C0 fk_Rm_48 e133 d_Rm_aloneRule_133 ?_
        refine x_iconst (v := 1) C0 d_Rm_aloneRule_136 (by decide) ?_
        obtain ⟨n137, f137, e137, i137, hwp⟩ := hwp
        refine x_iald C0 e137 i137 d_Rm_aloneRule_137 ?_
        refine x_aload_n C0 0 d_Rm_aloneRule_138 rfl rfl ?_
        obtain ⟨x139, e139, hwp⟩ := hwp
        refine x_getR C0 fk_Rm_48 e139 d_Rm_aloneRule_139 ?_
        refine x_iconst (v := 2) C0 d_Rm_aloneRule_142 (by decide) ?_
        obtain ⟨n143, f143, e143, i143, hwp⟩ := hwp
        refine x_iald C0 e143 i143 d_Rm_aloneRule_143 ?_
        refine x_icmp_lt (tgt := 162) C0 d_Rm_aloneRule_144 (by decide) (fun c144 => ?_) (fun c144 => ?_)
        · replace hwp := hwp.1 c144
          refine x_iconst (v := 4) C0 d_Rm_aloneRule_162 (by decide) ?_
          exact x_iret C0 hr hlk hwp d_Rm_aloneRule_163
        · replace hwp := hwp.2 c144
          refine x_aload_n C0 0 d_Rm_aloneRule_147 rfl rfl ?_
          obtain ⟨x148, e148, hwp⟩ := hwp
          refine x_getR C0 fk_Rm_48 e148 d_Rm_aloneRule_148 ?_
          refine x_iconst (v := 2) C0 d_Rm_aloneRule_151 (by decide) ?_
          obtain ⟨n152, f152, e152, i152, hwp⟩ := hwp
          refine x_iald C0 e152 i152 d_Rm_aloneRule_152 ?_
          refine x_aload_n C0 0 d_Rm_aloneRule_153 rfl rfl ?_
          obtain ⟨x154, e154, hwp⟩ := hwp
          refine x_getR C0 fk_Rm_48 e154 d_Rm_aloneRule_154 ?_
          refine x_iconst (v := 3) C0 d_Rm_aloneRule_157 (by decide) ?_
          obtain ⟨n158, f158, e158, i158, hwp⟩ := hwp
          refine x_iald C0 e158 i158 d_Rm_aloneRule_158 ?_
          refine x_icmp_ge (tgt := 164) C0 d_Rm_aloneRule_159 (by decide) (fun c159 => ?_) (fun c159 => ?_)
          · replace hwp := hwp.1 c159
            refine x_aload_n C0 0 d_Rm_aloneRule_164 rfl rfl ?_
            obtain ⟨x165, e165, hwp⟩ := hwp
            refine x_getR C0 fk_Rm_48 e165 d_Rm_aloneRule_165 ?_
            refine x_iconst (v := 0) C0 d_Rm_aloneRule_168 (by decide) ?_
            obtain ⟨n169, f169, e169, i169, hwp⟩ := hwp
            refine x_iald C0 e169 i169 d_Rm_aloneRule_169 ?_
            refine x_aload_n C0 0 d_Rm_aloneRule_170 rfl rfl ?_
            obtain ⟨x171, e171, hwp⟩ := hwp
            refine x_getR C0 fk_Rm_48 e171 d_Rm_aloneRule_171 ?_
            refine x_iconst (v := 1) C0 d_Rm_aloneRule_174 (by decide) ?_
            obtain ⟨n175, f175, e175, i175, hwp⟩ := hwp
            refine x_iald C0 e175 i175 d_Rm_aloneRule_175 ?_
            refine x_isub C0 d_Rm_aloneRule_176 ?_
            refine x_bipush (v := 12) C0 d_Rm_aloneRule_177 (by decide) ?_
            refine x_icmp_gt (tgt := 200) C0 d_Rm_aloneRule_179 (by decide) (fun c179 => ?_) (fun c179 => ?_)
            · replace hwp := hwp.1 c179
              refine x_iconst (v := 5) C0 d_Rm_aloneRule_200 (by decide) ?_
              exact x_iret C0 hr hlk hwp d_Rm_aloneRule_201
            · replace hwp := hwp.2 c179
              refine x_aload_n C0 0 d_Rm_aloneRule_182 rfl rfl ?_
              obtain ⟨x183, e183, hwp⟩ := hwp
              refine x_getR C0 fk_Rm_48 e183 d_Rm_aloneRule_183 ?_
              refine x_iconst (v := 1) C0 d_Rm_aloneRule_186 (by decide) ?_
              obtain ⟨n187, f187, e187, i187, hwp⟩ := hwp
              refine x_iald C0 e187 i187 d_Rm_aloneRule_187 ?_
              refine x_aload_n C0 0 d_Rm_aloneRule_188 rfl rfl ?_
              obtain ⟨x189, e189, hwp⟩ := hwp
              refine x_getR C0 fk_Rm_48 e189 d_Rm_aloneRule_189 ?_
              refine x_iconst (v := 2) C0 d_Rm_aloneRule_192 (by decide) ?_
              obtain ⟨n193, f193, e193, i193, hwp⟩ := hwp
              refine x_iald C0 e193 i193 d_Rm_aloneRule_193 ?_
              refine x_isub C0 d_Rm_aloneRule_194 ?_
              refine x_bipush (v := 12) C0 d_Rm_aloneRule_195 (by decide) ?_
              refine x_icmp_le (tgt := 202) C0 d_Rm_aloneRule_197 (by decide) (fun c197 => ?_) (fun c197 => ?_)
              · replace hwp := hwp.1 c197
                refine x_bipush (v := 7) C0 d_Rm_aloneRule_202 (by decide) ?_
                refine x_aload_n C0 0 d_Rm_aloneRule_204 rfl rfl ?_
                obtain ⟨x205, e205, hwp⟩ := hwp
                refine x_getI C0 fk_Rm_90 e205 d_Rm_aloneRule_205 ?_
                refine x_imul C0 d_Rm_aloneRule_208 ?_
                refine x_bipush (v := 11) C0 d_Rm_aloneRule_209 (by decide) ?_
                refine x_iadd C0 d_Rm_aloneRule_211 ?_
                refine x_bipush (v := 12) C0 d_Rm_aloneRule_212 (by decide) ?_
                refine x_callSi0 (As := [.int (((7 : Int32) * x205) + (11 : Int32)), .int (12 : Int32)]) (st := []) C0 (c_Rm_mod l G hwp) kw_4_27 mk_Rm_mod kw_4_28 rfl (Nat.le_of_ble_eq_true rfl) rfl rfl ⟨Nat.le_trans (by decide) hR.1, Nat.le_trans (by decide) hR.2.1⟩ ⟨Nat.zero_le _, Nat.zero_le _⟩ rfl d_Rm_aloneRule_214 (fun r214 h214 hwp => ?_)
                refine x_istore_n C0 d_Rm_aloneRule_217 rfl (by decide) (lv' := [(2, .int r214), (0, .ref (m_b G + l0)), (1, .int l1)]) rfl ?_
                refine x_iconst (v := 0) C0 d_Rm_aloneRule_218 (by decide) ?_
                refine x_istore_n C0 d_Rm_aloneRule_219 rfl (by decide) (lv' := [(3, .int (0 : Int32)), (2, .int r214), (0, .ref (m_b G + l0)), (1, .int l1)]) rfl ?_
                refine x_iconst (v := 0) C0 d_Rm_aloneRule_220 (by decide) ?_
                refine x_istore C0 d_Rm_aloneRule_221 (by decide) (lv' := [(4, .int (0 : Int32)), (3, .int (0 : Int32)), (2, .int r214), (0, .ref (m_b G + l0)), (1, .int l1)]) rfl ?_
                exact x_sub [3, 4, 2, 1, 0] rfl (t_Rm_aloneRule_223 G C0 hR hr hlk  _ _ _ _ _ _ hwp)
              · replace hwp := hwp.2 c197
                refine x_iconst (v := 5) C0 d_Rm_aloneRule_200 (by decide) ?_
                exact x_iret C0 hr hlk hwp d_Rm_aloneRule_201
          · replace hwp := hwp.2 c159
            refine x_iconst (v := 4) C0 d_Rm_aloneRule_162 (by decide) ?_
            exact x_iret C0 hr hlk hwp d_Rm_aloneRule_163
    · replace hwp := hwp.2 c112
      refine x_iconst (v := 3) C0 d_Rm_aloneRule_115 (by decide) ?_
      exact x_iret C0 hr hlk hwp d_Rm_aloneRule_116
  · replace hwp := hwp.2 c46
    refine x_aload_n C0 0 d_Rm_aloneRule_49 rfl rfl ?_
    obtain ⟨x50, e50, hwp⟩ := hwp
    refine x_getR C0 fk_Rm_48 e50 d_Rm_aloneRule_50 ?_
    refine x_iload_n C0 2 d_Rm_aloneRule_53 rfl rfl ?_
    obtain ⟨n54, f54, e54, i54, hwp⟩ := hwp
    refine x_iald C0 e54 i54 d_Rm_aloneRule_54 ?_
    refine x_bipush (v := 12) C0 d_Rm_aloneRule_55 (by decide) ?_
    refine x_irem C0 d_Rm_aloneRule_57 (by decide) ?_
    refine x_aload_n C0 0 d_Rm_aloneRule_58 rfl rfl ?_
    obtain ⟨x59, e59, hwp⟩ := hwp
    refine x_getR C0 fk_Rm_48 e59 d_Rm_aloneRule_59 ?_
    refine x_iconst (v := 3) C0 d_Rm_aloneRule_62 (by decide) ?_
    obtain ⟨n63, f63, e63, i63, hwp⟩ := hwp
    refine x_iald C0 e63 i63 d_Rm_aloneRule_63 ?_
    refine x_bipush (v := 12) C0 d_Rm_aloneRule_64 (by decide) ?_
    refine x_irem C0 d_Rm_aloneRule_66 (by decide) ?_
    refine x_icmp_eq (tgt := 93) C0 d_Rm_aloneRule_67 (by decide) (fun c67 => ?_) (fun c67 => ?_)
    · replace hwp := hwp.1 c67
      exact x_sub [0, 1, 2] rfl (t_Rm_aloneRule_93 G C0 hR hr hlk hK44 _ _ _ _ hwp)
    · replace hwp := hwp.2 c67
      refine x_aload_n C0 0 d_Rm_aloneRule_70 rfl rfl ?_
      obtain ⟨x71, e71, hwp⟩ := hwp
      refine x_getR C0 fk_Rm_54 e71 d_Rm_aloneRule_71 ?_
      refine x_iload_n C0 1 d_Rm_aloneRule_74 rfl rfl ?_
      obtain ⟨n75, f75, e75, i75, hwp⟩ := hwp
      refine x_iald C0 e75 i75 d_Rm_aloneRule_75 ?_
      refine x_aload_n C0 0 d_Rm_aloneRule_76 rfl rfl ?_
      obtain ⟨x77, e77, hwp⟩ := hwp
      refine x_getR C0 fk_Rm_48 e77 d_Rm_aloneRule_77 ?_
      refine x_iload_n C0 2 d_Rm_aloneRule_80 rfl rfl ?_
      obtain ⟨n81, f81, e81, i81, hwp⟩ := hwp
      refine x_iald C0 e81 i81 d_Rm_aloneRule_81 ?_
      refine x_bipush (v := 12) C0 d_Rm_aloneRule_82 (by decide) ?_
      refine x_irem C0 d_Rm_aloneRule_84 (by decide) ?_
      refine x_callSi0 (As := [.int (f75 (l1).toNatClampNeg), .int ((f81 (l2).toNatClampNeg) - (f81 (l2).toNatClampNeg) / (12 : Int32) * (12 : Int32))]) (st := []) C0 (c_Rm_has l G hwp) kw_4_54 mk_Rm_has kw_4_55 rfl (Nat.le_of_ble_eq_true rfl) rfl rfl ⟨Nat.le_trans (by decide) hR.1, Nat.le_trans (by decide) hR.2.1⟩ ⟨Nat.zero_le _, Nat.zero_le _⟩ rfl d_Rm_aloneRule_85 (fun r85 h85 hwp => ?_)
      refine x_if_ne (tgt := 93) C0 d_Rm_aloneRule_88 (by decide) (fun c88 => ?_) (fun c88 => ?_)
      · replace hwp := hwp.1 c88
        exact x_sub [0, 1, 2] rfl (t_Rm_aloneRule_93 G C0 hR hr hlk hK44 _ _ _ _ hwp)
      · replace hwp := hwp.2 c88
        refine x_iconst (v := 2) C0 d_Rm_aloneRule_91 (by decide) ?_
        exact x_iret C0 hr hlk hwp d_Rm_aloneRule_92
theorem t_Rm_aloneRule_44 {p : Program} {l : Launch} {e : Env} {R : Room} {s : State} {m : MethodId} {args : Array Value} {below : List Frame} {meth : Method} {c : Code} (G : mG) (C0 : Cx G p s m args c prog_8_method_31_code 5 "BassRealiserModel") (hR : 1 ≤ R.frames ∧ 25 ≤ R.locals ∧ 0 ≤ R.cells ∧ 0 ≤ R.slots) (hr : meth.sig.returnType = some .int) (hlk : meth.locks = false) {Post : Int32 → MH → Prop} (l0 : Nat) (l1 : Int32) (l2 : Int32) (h : MH) (hwp : wp_Rm_aloneRule_44 Post l0 l1 l2 h) : WG p l e R s m args below meth c 0 0 (MQ below (va_Qi Post (Wd G) (mA G)) args s 0 0 (mA G)) G 5 [(0, .ref (m_b G + l0)), (1, .int l1), (2, .int l2)] 44 [] h := by
  obtain ⟨n, hwp⟩ := hwp
  induction n generalizing l0 l1 l2 h with
  | zero => exact False.elim hwp
  | succ n ih => exact tb_Rm_aloneRule_44 G C0 hR hr hlk (fun l0 l1 l2 h hwp => ih l0 l1 l2 h hwp) l0 l1 l2 h hwp
set_option maxRecDepth 100000 in
set_option maxHeartbeats 4000000 in
theorem tb_Rm_aloneRule_2 {p : Program} {l : Launch} {e : Env} {R : Room} {s : State} {m : MethodId} {args : Array Value} {below : List Frame} {meth : Method} {c : Code} (G : mG) (C0 : Cx G p s m args c prog_8_method_31_code 5 "BassRealiserModel") (hR : 1 ≤ R.frames ∧ 25 ≤ R.locals ∧ 0 ≤ R.cells ∧ 0 ≤ R.slots) (hr : meth.sig.returnType = some .int) (hlk : meth.locks = false) {Post : Int32 → MH → Prop} {K2 : Nat → Int32 → Int32 → MH → Prop} (hK2 : ∀ (l0 : Nat) (l1 : Int32) (l2 : Int32) (h : MH), K2 l0 l1 l2 h → WG p l e R s m args below meth c 0 0 (MQ below (va_Qi Post (Wd G) (mA G)) args s 0 0 (mA G)) G 5 [(0, .ref (m_b G + l0)), (1, .int l1), (2, .int l2)] 2 [] h) (l0 : Nat) (l1 : Int32) (l2 : Int32) (h : MH) (hwp : wb_Rm_aloneRule_2 K2 Post l0 l1 l2 h) : WG p l e R s m args below meth c 0 0 (MQ below (va_Qi Post (Wd G) (mA G)) args s 0 0 (mA G)) G 5 [(0, .ref (m_b G + l0)), (1, .int l1), (2, .int l2)] 2 [] h := by
  unfold wb_Rm_aloneRule_2 at hwp
  refine x_iload_n C0 2 d_Rm_aloneRule_2 rfl rfl ?_
  refine x_iconst (v := 3) C0 d_Rm_aloneRule_3 (by decide) ?_
  refine x_icmp_ge (tgt := 42) C0 d_Rm_aloneRule_4 (by decide) (fun c4 => ?_) (fun c4 => ?_)
  · replace hwp := hwp.1 c4
    refine x_iconst (v := 0) C0 d_Rm_aloneRule_42 (by decide) ?_
    refine x_istore_n C0 d_Rm_aloneRule_43 rfl (by decide) (lv' := [(2, .int (0 : Int32)), (0, .ref (m_b G + l0)), (1, .int l1)]) rfl ?_
    exact x_sub [1, 2, 0] rfl (t_Rm_aloneRule_44 G C0 hR hr hlk  _ _ _ _ hwp)
  · replace hwp := hwp.2 c4
    refine x_aload_n C0 0 d_Rm_aloneRule_7 rfl rfl ?_
    obtain ⟨x8, e8, hwp⟩ := hwp
    refine x_getR C0 fk_Rm_48 e8 d_Rm_aloneRule_8 ?_
    refine x_iload_n C0 2 d_Rm_aloneRule_11 rfl rfl ?_
    obtain ⟨n12, f12, e12, i12, hwp⟩ := hwp
    refine x_iald C0 e12 i12 d_Rm_aloneRule_12 ?_
    refine x_i2l C0 d_Rm_aloneRule_13 ?_
    refine x_aload_n C0 0 d_Rm_aloneRule_14 rfl rfl ?_
    obtain ⟨x15, e15, hwp⟩ := hwp
    refine x_getR C0 fk_Rm_26 e15 d_Rm_aloneRule_15 ?_
    refine x_iload_n C0 2 d_Rm_aloneRule_18 rfl rfl ?_
    obtain ⟨n19, f19, e19, i19, hwp⟩ := hwp
    refine x_iald C0 e19 i19 d_Rm_aloneRule_19 ?_
    refine x_i2l C0 d_Rm_aloneRule_20 ?_
    refine x_aload_n C0 0 d_Rm_aloneRule_21 rfl rfl ?_
    obtain ⟨x22, e22, hwp⟩ := hwp
    refine x_getR C0 fk_Rm_29 e22 d_Rm_aloneRule_22 ?_
    refine x_iload_n C0 2 d_Rm_aloneRule_25 rfl rfl ?_
    obtain ⟨n26, f26, e26, i26, hwp⟩ := hwp
    refine x_iald C0 e26 i26 d_Rm_aloneRule_26 ?_
    refine x_i2l C0 d_Rm_aloneRule_27 ?_
    refine x_callSi0 (As := [.long ((f12 (l2).toNatClampNeg).toInt64), .long ((f19 (l2).toNatClampNeg).toInt64), .long ((f26 (l2).toNatClampNeg).toInt64)]) (st := []) C0 (c_Rm_in l G hwp) kw_3_173 mk_Rm_in kw_3_174 rfl (Nat.le_of_ble_eq_true rfl) rfl rfl ⟨Nat.le_trans (by decide) hR.1, Nat.le_trans (by decide) hR.2.1⟩ ⟨Nat.zero_le _, Nat.zero_le _⟩ rfl d_Rm_aloneRule_28 (fun r28 h28 hwp => ?_)
    refine x_if_ne (tgt := 36) C0 d_Rm_aloneRule_31 (by decide) (fun c31 => ?_) (fun c31 => ?_)
    · replace hwp := hwp.1 c31
      refine x_iinc C0 2 d_Rm_aloneRule_36 rfl rfl (by decide) (lv' := [(2, .int (l2 + (1 : Int32))), (0, .ref (m_b G + l0)), (1, .int l1)]) rfl ?_
      refine x_goto (tgt := 2) C0 d_Rm_aloneRule_39 (by decide) ?_
      exact x_sub [1, 2, 0] rfl (hK2 _ _ _ _ hwp)
    · replace hwp := hwp.2 c31
      refine x_iconst (v := 1) C0 d_Rm_aloneRule_34 (by decide) ?_
      exact x_iret C0 hr hlk hwp d_Rm_aloneRule_35
theorem t_Rm_aloneRule_2 {p : Program} {l : Launch} {e : Env} {R : Room} {s : State} {m : MethodId} {args : Array Value} {below : List Frame} {meth : Method} {c : Code} (G : mG) (C0 : Cx G p s m args c prog_8_method_31_code 5 "BassRealiserModel") (hR : 1 ≤ R.frames ∧ 25 ≤ R.locals ∧ 0 ≤ R.cells ∧ 0 ≤ R.slots) (hr : meth.sig.returnType = some .int) (hlk : meth.locks = false) {Post : Int32 → MH → Prop} (l0 : Nat) (l1 : Int32) (l2 : Int32) (h : MH) (hwp : wp_Rm_aloneRule_2 Post l0 l1 l2 h) : WG p l e R s m args below meth c 0 0 (MQ below (va_Qi Post (Wd G) (mA G)) args s 0 0 (mA G)) G 5 [(0, .ref (m_b G + l0)), (1, .int l1), (2, .int l2)] 2 [] h := by
  obtain ⟨n, hwp⟩ := hwp
  induction n generalizing l0 l1 l2 h with
  | zero => exact False.elim hwp
  | succ n ih => exact tb_Rm_aloneRule_2 G C0 hR hr hlk (fun l0 l1 l2 h hwp => ih l0 l1 l2 h hwp) l0 l1 l2 h hwp
set_option maxRecDepth 100000 in
set_option maxHeartbeats 4000000 in
theorem t_Rm_aloneRule {p : Program} {l : Launch} {e : Env} {R : Room} {s : State} {m : MethodId} {args : Array Value} {below : List Frame} {meth : Method} {c : Code} (G : mG) (C0 : Cx G p s m args c prog_8_method_31_code 5 "BassRealiserModel") (hR : 1 ≤ R.frames ∧ 25 ≤ R.locals ∧ 0 ≤ R.cells ∧ 0 ≤ R.slots) (hr : meth.sig.returnType = some .int) (hlk : meth.locks = false) {Post : Int32 → MH → Prop} (l0 : Nat) (l1 : Int32) (h : MH) (hwp : wp_Rm_aloneRule Post l0 l1 h) : WG p l e R s m args below meth c 0 0 (MQ below (va_Qi Post (Wd G) (mA G)) args s 0 0 (mA G)) G 5 [(0, .ref (m_b G + l0)), (1, .int l1)] 0 [] h := by
  unfold wp_Rm_aloneRule at hwp
  refine x_iconst (v := 0) C0 d_Rm_aloneRule_0 (by decide) ?_
  refine x_istore_n C0 d_Rm_aloneRule_1 rfl (by decide) (lv' := [(2, .int (0 : Int32)), (0, .ref (m_b G + l0)), (1, .int l1)]) rfl ?_
  exact x_sub [1, 2, 0] rfl (t_Rm_aloneRule_2 G C0 hR hr hlk  _ _ _ _ hwp)
set_option maxRecDepth 100000 in
set_option maxHeartbeats 4000000 in
theorem c_Rm_aloneRule (l : Launch) (G : mG) {Post : Int32 → MH → Prop} {l0 : Nat} {l1 : Int32} {h : MH} (hwp : wp_Rm_aloneRule Post l0 l1 h) : Met l y_Rm_aloneRule (Cond.code y_Rm_aloneRule prog_8_method_31_code 5 (Option.some Jvm.ClassFile.FieldType.int) :: lw_good) ({ frames := 1, cells := 0, slots := 0, locals := 25 }) (va_Pc [.ref (m_b G + l0), .int l1] (Wd G h)) (va_Qi Post (Wd G) (mA G)) 0 0 (mA G) := by
  refine Met.ofW (cc := prog_8_method_31_code) (maxL := 5) (ret := (Option.some Jvm.ClassFile.FieldType.int)) (by decide +kernel) rfl ?_
  intro p e s m args below meth c s₁ B hml hv
  obtain ⟨rfl, hP, hz, hK, hSt⟩ := hv
  have hts := atoms_spec (ws := Cond.code y_Rm_aloneRule prog_8_method_31_code 5 (Option.some Jvm.ClassFile.FieldType.int) :: lw_good) B.pre
  have C0 : Cx G p s m ([.ref (m_b G + l0), .int l1] : List Value).toArray c prog_8_method_31_code 5 "BassRealiserModel" := ⟨⟨B.exec, B.bytes, hml, findClass_of_methodNamed B.named, fun w h => hts w (List.mem_cons_of_mem _ h)⟩, hK, hSt, by rw [hz]; exact Nat.le_add_right _ _⟩
  have hl := lv_entry ([.ref (m_b G + l0), .int l1]) (n := 5) (Nat.le_of_ble_eq_true rfl)
  rw [lg_entry_eq]
  exact t_Rm_aloneRule G C0 ⟨Nat.le_refl _, Nat.le_refl _, Nat.le_refl _, Nat.le_refl _⟩ B.returns B.notSynchronized _ _ _ hwp _ _ _ ⟨hP, hz, va_S.rf⟩ hl
