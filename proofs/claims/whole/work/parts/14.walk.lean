theorem d_Rm_given_0 : decode prog_8_method_13_code 0 = .ok (.aload_n 0, 1) := by decide +kernel
theorem d_Rm_given_1 : decode prog_8_method_13_code 1 = .ok (.iconst 0, 1) := by decide +kernel
theorem d_Rm_given_2 : decode prog_8_method_13_code 2 = .ok (.putfield 1, 3) := by decide +kernel
theorem d_Rm_given_5 : decode prog_8_method_13_code 5 = .ok (.aload_n 0, 1) := by decide +kernel
theorem d_Rm_given_6 : decode prog_8_method_13_code 6 = .ok (.iload_n 1, 1) := by decide +kernel
theorem d_Rm_given_7 : decode prog_8_method_13_code 7 = .ok (.invokevirtual 103, 3) := by decide +kernel
theorem d_Rm_given_10 : decode prog_8_method_13_code 10 = .ok (.ifCond .ne 29, 3) := by decide +kernel
theorem d_Rm_given_13 : decode prog_8_method_13_code 13 = .ok (.iload_n 2, 1) := by decide +kernel
theorem d_Rm_given_14 : decode prog_8_method_13_code 14 = .ok (.i2l, 1) := by decide +kernel
theorem d_Rm_given_15 : decode prog_8_method_13_code 15 = .ok (.lconst 0, 1) := by decide +kernel
theorem d_Rm_given_16 : decode prog_8_method_13_code 16 = .ok (.ldc2_w 107, 3) := by decide +kernel
theorem d_Rm_given_19 : decode prog_8_method_13_code 19 = .ok (.invokestatic 82, 3) := by decide +kernel
theorem d_Rm_given_22 : decode prog_8_method_13_code 22 = .ok (.ifCond .eq 17, 3) := by decide +kernel
theorem d_Rm_given_25 : decode prog_8_method_13_code 25 = .ok (.iload_n 3, 1) := by decide +kernel
theorem d_Rm_given_26 : decode prog_8_method_13_code 26 = .ok (.i2l, 1) := by decide +kernel
theorem d_Rm_given_27 : decode prog_8_method_13_code 27 = .ok (.ldc2_w 101, 3) := by decide +kernel
theorem d_Rm_given_30 : decode prog_8_method_13_code 30 = .ok (.ldc2_w 117, 3) := by decide +kernel
theorem d_Rm_given_33 : decode prog_8_method_13_code 33 = .ok (.invokestatic 82, 3) := by decide +kernel
theorem d_Rm_given_36 : decode prog_8_method_13_code 36 = .ok (.ifCond .ne 5, 3) := by decide +kernel
theorem d_Rm_given_39 : decode prog_8_method_13_code 39 = .ok (.iconst (-1), 1) := by decide +kernel
theorem d_Rm_given_40 : decode prog_8_method_13_code 40 = .ok (.ireturn, 1) := by decide +kernel
theorem d_Rm_given_41 : decode prog_8_method_13_code 41 = .ok (.aload_n 0, 1) := by decide +kernel
theorem d_Rm_given_42 : decode prog_8_method_13_code 42 = .ok (.getfield 38, 3) := by decide +kernel
theorem d_Rm_given_45 : decode prog_8_method_13_code 45 = .ok (.iconst 3, 1) := by decide +kernel
theorem d_Rm_given_46 : decode prog_8_method_13_code 46 = .ok (.iload_n 1, 1) := by decide +kernel
theorem d_Rm_given_47 : decode prog_8_method_13_code 47 = .ok (.imul, 1) := by decide +kernel
theorem d_Rm_given_48 : decode prog_8_method_13_code 48 = .ok (.iload_n 2, 1) := by decide +kernel
theorem d_Rm_given_49 : decode prog_8_method_13_code 49 = .ok (.iadd, 1) := by decide +kernel
theorem d_Rm_given_50 : decode prog_8_method_13_code 50 = .ok (.iaload, 1) := by decide +kernel
theorem d_Rm_given_51 : decode prog_8_method_13_code 51 = .ok (.istore 4, 2) := by decide +kernel
theorem d_Rm_given_53 : decode prog_8_method_13_code 53 = .ok (.aload_n 0, 1) := by decide +kernel
theorem d_Rm_given_54 : decode prog_8_method_13_code 54 = .ok (.getfield 38, 3) := by decide +kernel
theorem d_Rm_given_57 : decode prog_8_method_13_code 57 = .ok (.iconst 3, 1) := by decide +kernel
theorem d_Rm_given_58 : decode prog_8_method_13_code 58 = .ok (.iload_n 1, 1) := by decide +kernel
theorem d_Rm_given_59 : decode prog_8_method_13_code 59 = .ok (.imul, 1) := by decide +kernel
theorem d_Rm_given_60 : decode prog_8_method_13_code 60 = .ok (.iload_n 2, 1) := by decide +kernel
theorem d_Rm_given_61 : decode prog_8_method_13_code 61 = .ok (.iadd, 1) := by decide +kernel
theorem d_Rm_given_62 : decode prog_8_method_13_code 62 = .ok (.iload_n 3, 1) := by decide +kernel
theorem d_Rm_given_63 : decode prog_8_method_13_code 63 = .ok (.iastore, 1) := by decide +kernel
theorem d_Rm_given_64 : decode prog_8_method_13_code 64 = .ok (.aload_n 0, 1) := by decide +kernel
theorem d_Rm_given_65 : decode prog_8_method_13_code 65 = .ok (.iconst 0, 1) := by decide +kernel
theorem d_Rm_given_66 : decode prog_8_method_13_code 66 = .ok (.putfield 93, 3) := by decide +kernel
theorem d_Rm_given_69 : decode prog_8_method_13_code 69 = .ok (.iload 4, 2) := by decide +kernel
theorem d_Rm_given_71 : decode prog_8_method_13_code 71 = .ok (.ifCond .ge 8, 3) := by decide +kernel
theorem d_Rm_given_74 : decode prog_8_method_13_code 74 = .ok (.bipush (-2), 2) := by decide +kernel
theorem d_Rm_given_76 : decode prog_8_method_13_code 76 = .ok (.goto 5, 3) := by decide +kernel
theorem d_Rm_given_79 : decode prog_8_method_13_code 79 = .ok (.iload 4, 2) := by decide +kernel
theorem d_Rm_given_81 : decode prog_8_method_13_code 81 = .ok (.ireturn, 1) := by decide +kernel
theorem d_Br_bass_0 : decode prog_1_method_11_code 0 = .ok (.aload_n 0, 1) := by decide +kernel
theorem d_Br_bass_1 : decode prog_1_method_11_code 1 = .ok (.iload_n 1, 1) := by decide +kernel
theorem d_Br_bass_2 : decode prog_1_method_11_code 2 = .ok (.invokevirtual 62, 3) := by decide +kernel
theorem d_Br_bass_5 : decode prog_1_method_11_code 5 = .ok (.ifCond .eq 15, 3) := by decide +kernel
theorem d_Br_bass_8 : decode prog_1_method_11_code 8 = .ok (.aload_n 0, 1) := by decide +kernel
theorem d_Br_bass_9 : decode prog_1_method_11_code 9 = .ok (.getfield 20, 3) := by decide +kernel
theorem d_Br_bass_12 : decode prog_1_method_11_code 12 = .ok (.iload_n 1, 1) := by decide +kernel
theorem d_Br_bass_13 : decode prog_1_method_11_code 13 = .ok (.aaload, 1) := by decide +kernel
theorem d_Br_bass_14 : decode prog_1_method_11_code 14 = .ok (.getfield 113, 3) := by decide +kernel
theorem d_Br_bass_17 : decode prog_1_method_11_code 17 = .ok (.goto 4, 3) := by decide +kernel
theorem d_Br_bass_20 : decode prog_1_method_11_code 20 = .ok (.iconst (-1), 1) := by decide +kernel
theorem d_Br_bass_21 : decode prog_1_method_11_code 21 = .ok (.ireturn, 1) := by decide +kernel
theorem d_Rm_semitones_0 : decode prog_8_method_15_code 0 = .ok (.iload_n 0, 1) := by decide +kernel
theorem d_Rm_semitones_1 : decode prog_8_method_15_code 1 = .ok (.iconst 3, 1) := by decide +kernel
theorem d_Rm_semitones_2 : decode prog_8_method_15_code 2 = .ok (.if_icmp .ge 9, 3) := by decide +kernel
theorem d_Rm_semitones_5 : decode prog_8_method_15_code 5 = .ok (.iconst 2, 1) := by decide +kernel
theorem d_Rm_semitones_6 : decode prog_8_method_15_code 6 = .ok (.iload_n 0, 1) := by decide +kernel
theorem d_Rm_semitones_7 : decode prog_8_method_15_code 7 = .ok (.imul, 1) := by decide +kernel
theorem d_Rm_semitones_8 : decode prog_8_method_15_code 8 = .ok (.goto 8, 3) := by decide +kernel
theorem d_Rm_semitones_11 : decode prog_8_method_15_code 11 = .ok (.iconst 2, 1) := by decide +kernel
theorem d_Rm_semitones_12 : decode prog_8_method_15_code 12 = .ok (.iload_n 0, 1) := by decide +kernel
theorem d_Rm_semitones_13 : decode prog_8_method_15_code 13 = .ok (.imul, 1) := by decide +kernel
theorem d_Rm_semitones_14 : decode prog_8_method_15_code 14 = .ok (.iconst 1, 1) := by decide +kernel
theorem d_Rm_semitones_15 : decode prog_8_method_15_code 15 = .ok (.isub, 1) := by decide +kernel
theorem d_Rm_semitones_16 : decode prog_8_method_15_code 16 = .ok (.ireturn, 1) := by decide +kernel
theorem d_Rm_bassOf_0 : decode prog_8_method_16_code 0 = .ok (.bipush 12, 2) := by decide +kernel
theorem d_Rm_bassOf_2 : decode prog_8_method_16_code 2 = .ok (.aload_n 0, 1) := by decide +kernel
theorem d_Rm_bassOf_3 : decode prog_8_method_16_code 3 = .ok (.getfield 17, 3) := by decide +kernel
theorem d_Rm_bassOf_6 : decode prog_8_method_16_code 6 = .ok (.iload_n 1, 1) := by decide +kernel
theorem d_Rm_bassOf_7 : decode prog_8_method_16_code 7 = .ok (.iaload, 1) := by decide +kernel
theorem d_Rm_bassOf_8 : decode prog_8_method_16_code 8 = .ok (.iconst 1, 1) := by decide +kernel
theorem d_Rm_bassOf_9 : decode prog_8_method_16_code 9 = .ok (.iadd, 1) := by decide +kernel
theorem d_Rm_bassOf_10 : decode prog_8_method_16_code 10 = .ok (.imul, 1) := by decide +kernel
theorem d_Rm_bassOf_11 : decode prog_8_method_16_code 11 = .ok (.aload_n 0, 1) := by decide +kernel
theorem d_Rm_bassOf_12 : decode prog_8_method_16_code 12 = .ok (.getfield 13, 3) := by decide +kernel
theorem d_Rm_bassOf_15 : decode prog_8_method_16_code 15 = .ok (.iload_n 1, 1) := by decide +kernel
theorem d_Rm_bassOf_16 : decode prog_8_method_16_code 16 = .ok (.iaload, 1) := by decide +kernel
theorem d_Rm_bassOf_17 : decode prog_8_method_16_code 17 = .ok (.invokestatic 121, 3) := by decide +kernel
theorem d_Rm_bassOf_20 : decode prog_8_method_16_code 20 = .ok (.iadd, 1) := by decide +kernel
theorem d_Rm_bassOf_21 : decode prog_8_method_16_code 21 = .ok (.aload_n 0, 1) := by decide +kernel
theorem d_Rm_bassOf_22 : decode prog_8_method_16_code 22 = .ok (.getfield 20, 3) := by decide +kernel
theorem d_Rm_bassOf_25 : decode prog_8_method_16_code 25 = .ok (.iload_n 1, 1) := by decide +kernel
theorem d_Rm_bassOf_26 : decode prog_8_method_16_code 26 = .ok (.iaload, 1) := by decide +kernel
theorem d_Rm_bassOf_27 : decode prog_8_method_16_code 27 = .ok (.iadd, 1) := by decide +kernel
theorem d_Rm_bassOf_28 : decode prog_8_method_16_code 28 = .ok (.ireturn, 1) := by decide +kernel
theorem d_Rm_bass_0 : decode prog_8_method_17_code 0 = .ok (.aload_n 0, 1) := by decide +kernel
theorem d_Rm_bass_1 : decode prog_8_method_17_code 1 = .ok (.iconst 0, 1) := by decide +kernel
theorem d_Rm_bass_2 : decode prog_8_method_17_code 2 = .ok (.putfield 1, 3) := by decide +kernel
theorem d_Rm_bass_5 : decode prog_8_method_17_code 5 = .ok (.aload_n 0, 1) := by decide +kernel
theorem d_Rm_bass_6 : decode prog_8_method_17_code 6 = .ok (.iload_n 1, 1) := by decide +kernel
theorem d_Rm_bass_7 : decode prog_8_method_17_code 7 = .ok (.invokevirtual 103, 3) := by decide +kernel
theorem d_Rm_bass_10 : decode prog_8_method_17_code 10 = .ok (.ifCond .eq 7, 3) := by decide +kernel
theorem d_Rm_bass_13 : decode prog_8_method_17_code 13 = .ok (.iconst (-1), 1) := by decide +kernel
theorem d_Rm_bass_14 : decode prog_8_method_17_code 14 = .ok (.goto 8, 3) := by decide +kernel
theorem d_Rm_bass_17 : decode prog_8_method_17_code 17 = .ok (.aload_n 0, 1) := by decide +kernel
theorem d_Rm_bass_18 : decode prog_8_method_17_code 18 = .ok (.iload_n 1, 1) := by decide +kernel
theorem d_Rm_bass_19 : decode prog_8_method_17_code 19 = .ok (.invokevirtual 124, 3) := by decide +kernel
theorem d_Rm_bass_22 : decode prog_8_method_17_code 22 = .ok (.ireturn, 1) := by decide +kernel
theorem d_Ch_nthWorked_0 : decode prog_2_method_8_code 0 = .ok (.iconst 0, 1) := by decide +kernel
theorem d_Ch_nthWorked_1 : decode prog_2_method_8_code 1 = .ok (.istore_n 2, 1) := by decide +kernel
theorem d_Ch_nthWorked_2 : decode prog_2_method_8_code 2 = .ok (.iconst 2, 1) := by decide +kernel
theorem d_Ch_nthWorked_3 : decode prog_2_method_8_code 3 = .ok (.istore_n 3, 1) := by decide +kernel
theorem d_Ch_nthWorked_4 : decode prog_2_method_8_code 4 = .ok (.iload_n 3, 1) := by decide +kernel
theorem d_Ch_nthWorked_5 : decode prog_2_method_8_code 5 = .ok (.bipush 9, 2) := by decide +kernel
theorem d_Ch_nthWorked_7 : decode prog_2_method_8_code 7 = .ok (.if_icmp .gt 30, 3) := by decide +kernel
theorem d_Ch_nthWorked_10 : decode prog_2_method_8_code 10 = .ok (.aload_n 0, 1) := by decide +kernel
theorem d_Ch_nthWorked_11 : decode prog_2_method_8_code 11 = .ok (.getfield 41, 3) := by decide +kernel
theorem d_Ch_nthWorked_14 : decode prog_2_method_8_code 14 = .ok (.iload_n 3, 1) := by decide +kernel
theorem d_Ch_nthWorked_15 : decode prog_2_method_8_code 15 = .ok (.invokestatic 53, 3) := by decide +kernel
theorem d_Ch_nthWorked_18 : decode prog_2_method_8_code 18 = .ok (.ifCond .eq 13, 3) := by decide +kernel
theorem d_Ch_nthWorked_21 : decode prog_2_method_8_code 21 = .ok (.iload_n 2, 1) := by decide +kernel
theorem d_Ch_nthWorked_22 : decode prog_2_method_8_code 22 = .ok (.iload_n 1, 1) := by decide +kernel
theorem d_Ch_nthWorked_23 : decode prog_2_method_8_code 23 = .ok (.if_icmp .ne 5, 3) := by decide +kernel
theorem d_Ch_nthWorked_26 : decode prog_2_method_8_code 26 = .ok (.iload_n 3, 1) := by decide +kernel
theorem d_Ch_nthWorked_27 : decode prog_2_method_8_code 27 = .ok (.ireturn, 1) := by decide +kernel
theorem d_Ch_nthWorked_28 : decode prog_2_method_8_code 28 = .ok (.iinc 2 1, 3) := by decide +kernel
theorem d_Ch_nthWorked_31 : decode prog_2_method_8_code 31 = .ok (.iinc 3 1, 3) := by decide +kernel
theorem d_Ch_nthWorked_34 : decode prog_2_method_8_code 34 = .ok (.goto (-30), 3) := by decide +kernel
theorem d_Ch_nthWorked_37 : decode prog_2_method_8_code 37 = .ok (.iconst 2, 1) := by decide +kernel
theorem d_Ch_nthWorked_38 : decode prog_2_method_8_code 38 = .ok (.ireturn, 1) := by decide +kernel
theorem d_Ch_about_0 : decode prog_2_method_9_code 0 = .ok (.iload_n 2, 1) := by decide +kernel
theorem d_Ch_about_1 : decode prog_2_method_9_code 1 = .ok (.tableswitch 85 0 5 #[39, 41, 48, 54, 61, 68], 39) := by decide +kernel
theorem d_Ch_about_40 : decode prog_2_method_9_code 40 = .ok (.iload_n 1, 1) := by decide +kernel
theorem d_Ch_about_41 : decode prog_2_method_9_code 41 = .ok (.ireturn, 1) := by decide +kernel
theorem d_Ch_about_42 : decode prog_2_method_9_code 42 = .ok (.aload_n 0, 1) := by decide +kernel
theorem d_Ch_about_43 : decode prog_2_method_9_code 43 = .ok (.getfield 9, 3) := by decide +kernel
theorem d_Ch_about_46 : decode prog_2_method_9_code 46 = .ok (.iload_n 1, 1) := by decide +kernel
theorem d_Ch_about_47 : decode prog_2_method_9_code 47 = .ok (.iaload, 1) := by decide +kernel
theorem d_Ch_about_48 : decode prog_2_method_9_code 48 = .ok (.ireturn, 1) := by decide +kernel
theorem d_Ch_about_49 : decode prog_2_method_9_code 49 = .ok (.aload_n 0, 1) := by decide +kernel
theorem d_Ch_about_50 : decode prog_2_method_9_code 50 = .ok (.iload_n 1, 1) := by decide +kernel
theorem d_Ch_about_51 : decode prog_2_method_9_code 51 = .ok (.invokevirtual 70, 3) := by decide +kernel
theorem d_Ch_about_54 : decode prog_2_method_9_code 54 = .ok (.ireturn, 1) := by decide +kernel
theorem d_Ch_about_55 : decode prog_2_method_9_code 55 = .ok (.aload_n 0, 1) := by decide +kernel
theorem d_Ch_about_56 : decode prog_2_method_9_code 56 = .ok (.iload_n 1, 1) := by decide +kernel
theorem d_Ch_about_57 : decode prog_2_method_9_code 57 = .ok (.iload_n 3, 1) := by decide +kernel
theorem d_Ch_about_58 : decode prog_2_method_9_code 58 = .ok (.invokevirtual 73, 3) := by decide +kernel
theorem d_Ch_about_61 : decode prog_2_method_9_code 61 = .ok (.ireturn, 1) := by decide +kernel
theorem d_Ch_about_62 : decode prog_2_method_9_code 62 = .ok (.aload_n 0, 1) := by decide +kernel
theorem d_Ch_about_63 : decode prog_2_method_9_code 63 = .ok (.iload_n 1, 1) := by decide +kernel
theorem d_Ch_about_64 : decode prog_2_method_9_code 64 = .ok (.iload_n 3, 1) := by decide +kernel
theorem d_Ch_about_65 : decode prog_2_method_9_code 65 = .ok (.invokevirtual 57, 3) := by decide +kernel
theorem d_Ch_about_68 : decode prog_2_method_9_code 68 = .ok (.ireturn, 1) := by decide +kernel
theorem d_Ch_about_69 : decode prog_2_method_9_code 69 = .ok (.aload_n 0, 1) := by decide +kernel
theorem d_Ch_about_70 : decode prog_2_method_9_code 70 = .ok (.getfield 34, 3) := by decide +kernel
theorem d_Ch_about_73 : decode prog_2_method_9_code 73 = .ok (.iload_n 1, 1) := by decide +kernel
theorem d_Ch_about_74 : decode prog_2_method_9_code 74 = .ok (.invokestatic 53, 3) := by decide +kernel
theorem d_Ch_about_77 : decode prog_2_method_9_code 77 = .ok (.ifCond .eq 7, 3) := by decide +kernel
theorem d_Ch_about_80 : decode prog_2_method_9_code 80 = .ok (.iconst 1, 1) := by decide +kernel
theorem d_Ch_about_81 : decode prog_2_method_9_code 81 = .ok (.goto 4, 3) := by decide +kernel
theorem d_Ch_about_84 : decode prog_2_method_9_code 84 = .ok (.iconst 0, 1) := by decide +kernel
theorem d_Ch_about_85 : decode prog_2_method_9_code 85 = .ok (.ireturn, 1) := by decide +kernel
theorem d_Ch_about_86 : decode prog_2_method_9_code 86 = .ok (.aload_n 0, 1) := by decide +kernel
theorem d_Ch_about_87 : decode prog_2_method_9_code 87 = .ok (.iload_n 1, 1) := by decide +kernel
theorem d_Ch_about_88 : decode prog_2_method_9_code 88 = .ok (.invokevirtual 61, 3) := by decide +kernel
theorem d_Ch_about_91 : decode prog_2_method_9_code 91 = .ok (.ireturn, 1) := by decide +kernel
theorem d_Br_worked_0 : decode prog_1_method_12_code 0 = .ok (.aload_n 0, 1) := by decide +kernel
theorem d_Br_worked_1 : decode prog_1_method_12_code 1 = .ok (.iload_n 1, 1) := by decide +kernel
theorem d_Br_worked_2 : decode prog_1_method_12_code 2 = .ok (.invokevirtual 62, 3) := by decide +kernel
theorem d_Br_worked_5 : decode prog_1_method_12_code 5 = .ok (.ifCond .eq 13, 3) := by decide +kernel
theorem d_Br_worked_8 : decode prog_1_method_12_code 8 = .ok (.iload_n 3, 1) := by decide +kernel
theorem d_Br_worked_9 : decode prog_1_method_12_code 9 = .ok (.iconst 0, 1) := by decide +kernel
theorem d_Br_worked_10 : decode prog_1_method_12_code 10 = .ok (.bipush 7, 2) := by decide +kernel
theorem d_Br_worked_12 : decode prog_1_method_12_code 12 = .ok (.invokestatic 37, 3) := by decide +kernel
theorem d_Br_worked_15 : decode prog_1_method_12_code 15 = .ok (.ifCond .ne 5, 3) := by decide +kernel
theorem d_Br_worked_18 : decode prog_1_method_12_code 18 = .ok (.iconst (-1), 1) := by decide +kernel
theorem d_Br_worked_19 : decode prog_1_method_12_code 19 = .ok (.ireturn, 1) := by decide +kernel
theorem d_Br_worked_20 : decode prog_1_method_12_code 20 = .ok (.aload_n 0, 1) := by decide +kernel
theorem d_Br_worked_21 : decode prog_1_method_12_code 21 = .ok (.getfield 20, 3) := by decide +kernel
theorem d_Br_worked_24 : decode prog_1_method_12_code 24 = .ok (.iload_n 1, 1) := by decide +kernel
theorem d_Br_worked_25 : decode prog_1_method_12_code 25 = .ok (.aaload, 1) := by decide +kernel
theorem d_Br_worked_26 : decode prog_1_method_12_code 26 = .ok (.astore 4, 2) := by decide +kernel
theorem d_Br_worked_28 : decode prog_1_method_12_code 28 = .ok (.aload 4, 2) := by decide +kernel
theorem d_Br_worked_30 : decode prog_1_method_12_code 30 = .ok (.getfield 82, 3) := by decide +kernel
theorem d_Br_worked_33 : decode prog_1_method_12_code 33 = .ok (.invokestatic 73, 3) := by decide +kernel
theorem d_Br_worked_36 : decode prog_1_method_12_code 36 = .ok (.istore 5, 2) := by decide +kernel
theorem d_Br_worked_38 : decode prog_1_method_12_code 38 = .ok (.iload_n 3, 1) := by decide +kernel
theorem d_Br_worked_39 : decode prog_1_method_12_code 39 = .ok (.bipush 7, 2) := by decide +kernel
theorem d_Br_worked_41 : decode prog_1_method_12_code 41 = .ok (.if_icmp .ne 6, 3) := by decide +kernel
theorem d_Br_worked_44 : decode prog_1_method_12_code 44 = .ok (.iload 5, 2) := by decide +kernel
theorem d_Br_worked_46 : decode prog_1_method_12_code 46 = .ok (.ireturn, 1) := by decide +kernel
theorem d_Br_worked_47 : decode prog_1_method_12_code 47 = .ok (.iload_n 2, 1) := by decide +kernel
theorem d_Br_worked_48 : decode prog_1_method_12_code 48 = .ok (.iconst 0, 1) := by decide +kernel
theorem d_Br_worked_49 : decode prog_1_method_12_code 49 = .ok (.iload 5, 2) := by decide +kernel
theorem d_Br_worked_51 : decode prog_1_method_12_code 51 = .ok (.iconst 1, 1) := by decide +kernel
theorem d_Br_worked_52 : decode prog_1_method_12_code 52 = .ok (.isub, 1) := by decide +kernel
theorem d_Br_worked_53 : decode prog_1_method_12_code 53 = .ok (.invokestatic 37, 3) := by decide +kernel
theorem d_Br_worked_56 : decode prog_1_method_12_code 56 = .ok (.ifCond .eq 25, 3) := by decide +kernel
theorem d_Br_worked_59 : decode prog_1_method_12_code 59 = .ok (.aload 4, 2) := by decide +kernel
theorem d_Br_worked_61 : decode prog_1_method_12_code 61 = .ok (.aload 4, 2) := by decide +kernel
theorem d_Br_worked_63 : decode prog_1_method_12_code 63 = .ok (.iload_n 2, 1) := by decide +kernel
theorem d_Br_worked_64 : decode prog_1_method_12_code 64 = .ok (.invokevirtual 116, 3) := by decide +kernel
theorem d_Br_worked_67 : decode prog_1_method_12_code 67 = .ok (.iload_n 3, 1) := by decide +kernel
theorem d_Br_worked_68 : decode prog_1_method_12_code 68 = .ok (.aload_n 0, 1) := by decide +kernel
theorem d_Br_worked_69 : decode prog_1_method_12_code 69 = .ok (.getfield 25, 3) := by decide +kernel
theorem d_Br_worked_72 : decode prog_1_method_12_code 72 = .ok (.getfield 41, 3) := by decide +kernel
theorem d_Br_worked_75 : decode prog_1_method_12_code 75 = .ok (.invokevirtual 119, 3) := by decide +kernel
theorem d_Br_worked_78 : decode prog_1_method_12_code 78 = .ok (.goto 4, 3) := by decide +kernel
theorem d_Br_worked_81 : decode prog_1_method_12_code 81 = .ok (.iconst (-1), 1) := by decide +kernel
theorem d_Br_worked_82 : decode prog_1_method_12_code 82 = .ok (.ireturn, 1) := by decide +kernel
theorem d_Rm_letterOf_0 : decode prog_8_method_21_code 0 = .ok (.aload_n 0, 1) := by decide +kernel
theorem d_Rm_letterOf_1 : decode prog_8_method_21_code 1 = .ok (.getfield 13, 3) := by decide +kernel
theorem d_Rm_letterOf_4 : decode prog_8_method_21_code 4 = .ok (.iload_n 1, 1) := by decide +kernel
theorem d_Rm_letterOf_5 : decode prog_8_method_21_code 5 = .ok (.iaload, 1) := by decide +kernel
theorem d_Rm_letterOf_6 : decode prog_8_method_21_code 6 = .ok (.iload_n 2, 1) := by decide +kernel
theorem d_Rm_letterOf_7 : decode prog_8_method_21_code 7 = .ok (.iadd, 1) := by decide +kernel
theorem d_Rm_letterOf_8 : decode prog_8_method_21_code 8 = .ok (.iconst 1, 1) := by decide +kernel
theorem d_Rm_letterOf_9 : decode prog_8_method_21_code 9 = .ok (.isub, 1) := by decide +kernel
theorem d_Rm_letterOf_10 : decode prog_8_method_21_code 10 = .ok (.bipush 7, 2) := by decide +kernel
theorem d_Rm_letterOf_12 : decode prog_8_method_21_code 12 = .ok (.irem, 1) := by decide +kernel
theorem d_Rm_letterOf_13 : decode prog_8_method_21_code 13 = .ok (.ireturn, 1) := by decide +kernel
theorem d_Rm_keyOf_0 : decode prog_8_method_22_code 0 = .ok (.iload_n 1, 1) := by decide +kernel
theorem d_Rm_keyOf_1 : decode prog_8_method_22_code 1 = .ok (.iconst 3, 1) := by decide +kernel
theorem d_Rm_keyOf_2 : decode prog_8_method_22_code 2 = .ok (.if_icmp .ne 7, 3) := by decide +kernel
theorem d_Rm_keyOf_5 : decode prog_8_method_22_code 5 = .ok (.iconst 0, 1) := by decide +kernel
theorem d_Rm_keyOf_6 : decode prog_8_method_22_code 6 = .ok (.goto 49, 3) := by decide +kernel
theorem d_Rm_keyOf_9 : decode prog_8_method_22_code 9 = .ok (.iload_n 1, 1) := by decide +kernel
theorem d_Rm_keyOf_10 : decode prog_8_method_22_code 10 = .ok (.ifCond .ne 7, 3) := by decide +kernel
theorem d_Rm_keyOf_13 : decode prog_8_method_22_code 13 = .ok (.iconst 1, 1) := by decide +kernel
theorem d_Rm_keyOf_14 : decode prog_8_method_22_code 14 = .ok (.goto 41, 3) := by decide +kernel
theorem d_Rm_keyOf_17 : decode prog_8_method_22_code 17 = .ok (.iload_n 1, 1) := by decide +kernel
theorem d_Rm_keyOf_18 : decode prog_8_method_22_code 18 = .ok (.iconst 4, 1) := by decide +kernel
theorem d_Rm_keyOf_19 : decode prog_8_method_22_code 19 = .ok (.if_icmp .ne 7, 3) := by decide +kernel
theorem d_Rm_keyOf_22 : decode prog_8_method_22_code 22 = .ok (.iconst 2, 1) := by decide +kernel
theorem d_Rm_keyOf_23 : decode prog_8_method_22_code 23 = .ok (.goto 32, 3) := by decide +kernel
theorem d_Rm_keyOf_26 : decode prog_8_method_22_code 26 = .ok (.iload_n 1, 1) := by decide +kernel
theorem d_Rm_keyOf_27 : decode prog_8_method_22_code 27 = .ok (.iconst 1, 1) := by decide +kernel
theorem d_Rm_keyOf_28 : decode prog_8_method_22_code 28 = .ok (.if_icmp .ne 7, 3) := by decide +kernel
theorem d_Rm_keyOf_31 : decode prog_8_method_22_code 31 = .ok (.iconst 3, 1) := by decide +kernel
theorem d_Rm_keyOf_32 : decode prog_8_method_22_code 32 = .ok (.goto 23, 3) := by decide +kernel
theorem d_Rm_keyOf_35 : decode prog_8_method_22_code 35 = .ok (.iload_n 1, 1) := by decide +kernel
theorem d_Rm_keyOf_36 : decode prog_8_method_22_code 36 = .ok (.iconst 5, 1) := by decide +kernel
theorem d_Rm_keyOf_37 : decode prog_8_method_22_code 37 = .ok (.if_icmp .ne 7, 3) := by decide +kernel
theorem d_Rm_keyOf_40 : decode prog_8_method_22_code 40 = .ok (.iconst 4, 1) := by decide +kernel
theorem d_Rm_keyOf_41 : decode prog_8_method_22_code 41 = .ok (.goto 14, 3) := by decide +kernel
theorem d_Rm_keyOf_44 : decode prog_8_method_22_code 44 = .ok (.iload_n 1, 1) := by decide +kernel
theorem d_Rm_keyOf_45 : decode prog_8_method_22_code 45 = .ok (.iconst 2, 1) := by decide +kernel
theorem d_Rm_keyOf_46 : decode prog_8_method_22_code 46 = .ok (.if_icmp .ne 7, 3) := by decide +kernel
theorem d_Rm_keyOf_49 : decode prog_8_method_22_code 49 = .ok (.iconst 5, 1) := by decide +kernel
theorem d_Rm_keyOf_50 : decode prog_8_method_22_code 50 = .ok (.goto 5, 3) := by decide +kernel
theorem d_Rm_keyOf_53 : decode prog_8_method_22_code 53 = .ok (.bipush 6, 2) := by decide +kernel
theorem d_Rm_keyOf_55 : decode prog_8_method_22_code 55 = .ok (.istore_n 2, 1) := by decide +kernel
theorem d_Rm_keyOf_56 : decode prog_8_method_22_code 56 = .ok (.iload_n 2, 1) := by decide +kernel
theorem d_Rm_keyOf_57 : decode prog_8_method_22_code 57 = .ok (.aload_n 0, 1) := by decide +kernel
theorem d_Rm_keyOf_58 : decode prog_8_method_22_code 58 = .ok (.getfield 90, 3) := by decide +kernel
theorem d_Rm_keyOf_61 : decode prog_8_method_22_code 61 = .ok (.if_icmp .ge 7, 3) := by decide +kernel
theorem d_Rm_keyOf_64 : decode prog_8_method_22_code 64 = .ok (.iconst 1, 1) := by decide +kernel
theorem d_Rm_keyOf_65 : decode prog_8_method_22_code 65 = .ok (.goto 20, 3) := by decide +kernel
theorem d_Rm_keyOf_68 : decode prog_8_method_22_code 68 = .ok (.bipush 6, 2) := by decide +kernel
theorem d_Rm_keyOf_70 : decode prog_8_method_22_code 70 = .ok (.iload_n 2, 1) := by decide +kernel
theorem d_Rm_keyOf_71 : decode prog_8_method_22_code 71 = .ok (.isub, 1) := by decide +kernel
theorem d_Rm_keyOf_72 : decode prog_8_method_22_code 72 = .ok (.aload_n 0, 1) := by decide +kernel
theorem d_Rm_keyOf_73 : decode prog_8_method_22_code 73 = .ok (.getfield 90, 3) := by decide +kernel
theorem d_Rm_keyOf_76 : decode prog_8_method_22_code 76 = .ok (.ineg, 1) := by decide +kernel
theorem d_Rm_keyOf_77 : decode prog_8_method_22_code 77 = .ok (.if_icmp .ge 7, 3) := by decide +kernel
theorem d_Rm_keyOf_80 : decode prog_8_method_22_code 80 = .ok (.iconst (-1), 1) := by decide +kernel
theorem d_Rm_keyOf_81 : decode prog_8_method_22_code 81 = .ok (.goto 4, 3) := by decide +kernel
theorem d_Rm_keyOf_84 : decode prog_8_method_22_code 84 = .ok (.iconst 0, 1) := by decide +kernel
theorem d_Rm_keyOf_85 : decode prog_8_method_22_code 85 = .ok (.ireturn, 1) := by decide +kernel
theorem d_Rm_alterOf_0 : decode prog_8_method_23_code 0 = .ok (.aload_n 0, 1) := by decide +kernel
theorem d_Rm_alterOf_1 : decode prog_8_method_23_code 1 = .ok (.getfield 23, 3) := by decide +kernel
theorem d_Rm_alterOf_4 : decode prog_8_method_23_code 4 = .ok (.bipush 10, 2) := by decide +kernel
theorem d_Rm_alterOf_6 : decode prog_8_method_23_code 6 = .ok (.iload_n 1, 1) := by decide +kernel
theorem d_Rm_alterOf_7 : decode prog_8_method_23_code 7 = .ok (.imul, 1) := by decide +kernel
theorem d_Rm_alterOf_8 : decode prog_8_method_23_code 8 = .ok (.iload_n 2, 1) := by decide +kernel
theorem d_Rm_alterOf_9 : decode prog_8_method_23_code 9 = .ok (.iadd, 1) := by decide +kernel
theorem d_Rm_alterOf_10 : decode prog_8_method_23_code 10 = .ok (.iaload, 1) := by decide +kernel
theorem d_Rm_alterOf_11 : decode prog_8_method_23_code 11 = .ok (.iconst 1, 1) := by decide +kernel
theorem d_Rm_alterOf_12 : decode prog_8_method_23_code 12 = .ok (.isub, 1) := by decide +kernel
theorem d_Rm_alterOf_13 : decode prog_8_method_23_code 13 = .ok (.istore_n 3, 1) := by decide +kernel
theorem d_Rm_alterOf_14 : decode prog_8_method_23_code 14 = .ok (.iload_n 3, 1) := by decide +kernel
theorem d_Rm_alterOf_15 : decode prog_8_method_23_code 15 = .ok (.iconst 1, 1) := by decide +kernel
theorem d_Rm_alterOf_16 : decode prog_8_method_23_code 16 = .ok (.if_icmp .ne 7, 3) := by decide +kernel
theorem d_Rm_alterOf_19 : decode prog_8_method_23_code 19 = .ok (.iconst 1, 1) := by decide +kernel
theorem d_Rm_alterOf_20 : decode prog_8_method_23_code 20 = .ok (.goto 31, 3) := by decide +kernel
theorem d_Rm_alterOf_23 : decode prog_8_method_23_code 23 = .ok (.iload_n 3, 1) := by decide +kernel
theorem d_Rm_alterOf_24 : decode prog_8_method_23_code 24 = .ok (.iconst 2, 1) := by decide +kernel
theorem d_Rm_alterOf_25 : decode prog_8_method_23_code 25 = .ok (.if_icmp .ne 7, 3) := by decide +kernel
theorem d_Rm_alterOf_28 : decode prog_8_method_23_code 28 = .ok (.iconst (-1), 1) := by decide +kernel
theorem d_Rm_alterOf_29 : decode prog_8_method_23_code 29 = .ok (.goto 22, 3) := by decide +kernel
theorem d_Rm_alterOf_32 : decode prog_8_method_23_code 32 = .ok (.iload_n 3, 1) := by decide +kernel
theorem d_Rm_alterOf_33 : decode prog_8_method_23_code 33 = .ok (.iconst 3, 1) := by decide +kernel
theorem d_Rm_alterOf_34 : decode prog_8_method_23_code 34 = .ok (.if_icmp .ne 7, 3) := by decide +kernel
theorem d_Rm_alterOf_37 : decode prog_8_method_23_code 37 = .ok (.iconst 0, 1) := by decide +kernel
theorem d_Rm_alterOf_38 : decode prog_8_method_23_code 38 = .ok (.goto 13, 3) := by decide +kernel
theorem d_Rm_alterOf_41 : decode prog_8_method_23_code 41 = .ok (.aload_n 0, 1) := by decide +kernel
theorem d_Rm_alterOf_42 : decode prog_8_method_23_code 42 = .ok (.aload_n 0, 1) := by decide +kernel
theorem d_Rm_alterOf_43 : decode prog_8_method_23_code 43 = .ok (.iload_n 1, 1) := by decide +kernel
theorem d_Rm_alterOf_44 : decode prog_8_method_23_code 44 = .ok (.iload_n 2, 1) := by decide +kernel
theorem d_Rm_alterOf_45 : decode prog_8_method_23_code 45 = .ok (.invokevirtual 134, 3) := by decide +kernel
theorem d_Rm_alterOf_48 : decode prog_8_method_23_code 48 = .ok (.invokevirtual 138, 3) := by decide +kernel
theorem d_Rm_alterOf_51 : decode prog_8_method_23_code 51 = .ok (.ireturn, 1) := by decide +kernel
theorem d_Rm_mod_0 : decode prog_8_method_14_code 0 = .ok (.iload_n 0, 1) := by decide +kernel
theorem d_Rm_mod_1 : decode prog_8_method_14_code 1 = .ok (.iload_n 1, 1) := by decide +kernel
theorem d_Rm_mod_2 : decode prog_8_method_14_code 2 = .ok (.irem, 1) := by decide +kernel
theorem d_Rm_mod_3 : decode prog_8_method_14_code 3 = .ok (.iload_n 1, 1) := by decide +kernel
theorem d_Rm_mod_4 : decode prog_8_method_14_code 4 = .ok (.iadd, 1) := by decide +kernel
theorem d_Rm_mod_5 : decode prog_8_method_14_code 5 = .ok (.iload_n 1, 1) := by decide +kernel
theorem d_Rm_mod_6 : decode prog_8_method_14_code 6 = .ok (.irem, 1) := by decide +kernel
theorem d_Rm_mod_7 : decode prog_8_method_14_code 7 = .ok (.ireturn, 1) := by decide +kernel
theorem d_Rm_classOf_0 : decode prog_8_method_24_code 0 = .ok (.aload_n 0, 1) := by decide +kernel
theorem d_Rm_classOf_1 : decode prog_8_method_24_code 1 = .ok (.iload_n 1, 1) := by decide +kernel
theorem d_Rm_classOf_2 : decode prog_8_method_24_code 2 = .ok (.iload_n 2, 1) := by decide +kernel
theorem d_Rm_classOf_3 : decode prog_8_method_24_code 3 = .ok (.invokevirtual 134, 3) := by decide +kernel
theorem d_Rm_classOf_6 : decode prog_8_method_24_code 6 = .ok (.invokestatic 121, 3) := by decide +kernel
theorem d_Rm_classOf_9 : decode prog_8_method_24_code 9 = .ok (.aload_n 0, 1) := by decide +kernel
theorem d_Rm_classOf_10 : decode prog_8_method_24_code 10 = .ok (.iload_n 1, 1) := by decide +kernel
theorem d_Rm_classOf_11 : decode prog_8_method_24_code 11 = .ok (.iload_n 2, 1) := by decide +kernel
theorem d_Rm_classOf_12 : decode prog_8_method_24_code 12 = .ok (.invokevirtual 141, 3) := by decide +kernel
theorem d_Rm_classOf_15 : decode prog_8_method_24_code 15 = .ok (.iadd, 1) := by decide +kernel
theorem d_Rm_classOf_16 : decode prog_8_method_24_code 16 = .ok (.bipush 12, 2) := by decide +kernel
theorem d_Rm_classOf_18 : decode prog_8_method_24_code 18 = .ok (.invokestatic 144, 3) := by decide +kernel
theorem d_Rm_classOf_21 : decode prog_8_method_24_code 21 = .ok (.ireturn, 1) := by decide +kernel
theorem d_Rm_isSuspended_0 : decode prog_8_method_25_code 0 = .ok (.iload_n 2, 1) := by decide +kernel
theorem d_Rm_isSuspended_1 : decode prog_8_method_25_code 1 = .ok (.bipush 9, 2) := by decide +kernel
theorem d_Rm_isSuspended_3 : decode prog_8_method_25_code 3 = .ok (.if_icmp .eq 36, 3) := by decide +kernel
theorem d_Rm_isSuspended_6 : decode prog_8_method_25_code 6 = .ok (.iload_n 2, 1) := by decide +kernel
theorem d_Rm_isSuspended_7 : decode prog_8_method_25_code 7 = .ok (.iconst 4, 1) := by decide +kernel
theorem d_Rm_isSuspended_8 : decode prog_8_method_25_code 8 = .ok (.if_icmp .ne 35, 3) := by decide +kernel
theorem d_Rm_isSuspended_11 : decode prog_8_method_25_code 11 = .ok (.aload_n 0, 1) := by decide +kernel
theorem d_Rm_isSuspended_12 : decode prog_8_method_25_code 12 = .ok (.iload_n 1, 1) := by decide +kernel
theorem d_Rm_isSuspended_13 : decode prog_8_method_25_code 13 = .ok (.iconst 2, 1) := by decide +kernel
theorem d_Rm_isSuspended_14 : decode prog_8_method_25_code 14 = .ok (.invokevirtual 131, 3) := by decide +kernel
theorem d_Rm_isSuspended_17 : decode prog_8_method_25_code 17 = .ok (.ifCond .ne 26, 3) := by decide +kernel
theorem d_Rm_isSuspended_20 : decode prog_8_method_25_code 20 = .ok (.aload_n 0, 1) := by decide +kernel
theorem d_Rm_isSuspended_21 : decode prog_8_method_25_code 21 = .ok (.iload_n 1, 1) := by decide +kernel
theorem d_Rm_isSuspended_22 : decode prog_8_method_25_code 22 = .ok (.iconst 3, 1) := by decide +kernel
theorem d_Rm_isSuspended_23 : decode prog_8_method_25_code 23 = .ok (.invokevirtual 131, 3) := by decide +kernel
theorem d_Rm_isSuspended_26 : decode prog_8_method_25_code 26 = .ok (.ifCond .ne 17, 3) := by decide +kernel
theorem d_Rm_isSuspended_29 : decode prog_8_method_25_code 29 = .ok (.aload_n 0, 1) := by decide +kernel
theorem d_Rm_isSuspended_30 : decode prog_8_method_25_code 30 = .ok (.iload_n 1, 1) := by decide +kernel
theorem d_Rm_isSuspended_31 : decode prog_8_method_25_code 31 = .ok (.bipush 6, 2) := by decide +kernel
theorem d_Rm_isSuspended_33 : decode prog_8_method_25_code 33 = .ok (.invokevirtual 131, 3) := by decide +kernel
theorem d_Rm_isSuspended_36 : decode prog_8_method_25_code 36 = .ok (.ifCond .ne 7, 3) := by decide +kernel
theorem d_Rm_isSuspended_39 : decode prog_8_method_25_code 39 = .ok (.iconst 1, 1) := by decide +kernel
theorem d_Rm_isSuspended_40 : decode prog_8_method_25_code 40 = .ok (.goto 4, 3) := by decide +kernel
theorem d_Rm_isSuspended_43 : decode prog_8_method_25_code 43 = .ok (.iconst 0, 1) := by decide +kernel
theorem d_Rm_isSuspended_44 : decode prog_8_method_25_code 44 = .ok (.ireturn, 1) := by decide +kernel
theorem d_Rm_workedAs_0 : decode prog_8_method_27_code 0 = .ok (.iload_n 3, 1) := by decide +kernel
theorem d_Rm_workedAs_1 : decode prog_8_method_27_code 1 = .ok (.tableswitch 104 0 5 #[39, 41, 68, 75, 82, 89], 39) := by decide +kernel
theorem d_Rm_workedAs_40 : decode prog_8_method_27_code 40 = .ok (.iload_n 2, 1) := by decide +kernel
theorem d_Rm_workedAs_41 : decode prog_8_method_27_code 41 = .ok (.ireturn, 1) := by decide +kernel
theorem d_Rm_workedAs_42 : decode prog_8_method_27_code 42 = .ok (.aload_n 0, 1) := by decide +kernel
theorem d_Rm_workedAs_43 : decode prog_8_method_27_code 43 = .ok (.iload_n 1, 1) := by decide +kernel
theorem d_Rm_workedAs_44 : decode prog_8_method_27_code 44 = .ok (.iload_n 2, 1) := by decide +kernel
theorem d_Rm_workedAs_45 : decode prog_8_method_27_code 45 = .ok (.invokevirtual 127, 3) := by decide +kernel
theorem d_Rm_workedAs_48 : decode prog_8_method_27_code 48 = .ok (.ifCond .eq 19, 3) := by decide +kernel
theorem d_Rm_workedAs_51 : decode prog_8_method_27_code 51 = .ok (.aload_n 0, 1) := by decide +kernel
theorem d_Rm_workedAs_52 : decode prog_8_method_27_code 52 = .ok (.getfield 23, 3) := by decide +kernel
theorem d_Rm_workedAs_55 : decode prog_8_method_27_code 55 = .ok (.bipush 10, 2) := by decide +kernel
theorem d_Rm_workedAs_57 : decode prog_8_method_27_code 57 = .ok (.iload_n 1, 1) := by decide +kernel
theorem d_Rm_workedAs_58 : decode prog_8_method_27_code 58 = .ok (.imul, 1) := by decide +kernel
theorem d_Rm_workedAs_59 : decode prog_8_method_27_code 59 = .ok (.iload_n 2, 1) := by decide +kernel
theorem d_Rm_workedAs_60 : decode prog_8_method_27_code 60 = .ok (.iadd, 1) := by decide +kernel
theorem d_Rm_workedAs_61 : decode prog_8_method_27_code 61 = .ok (.iaload, 1) := by decide +kernel
theorem d_Rm_workedAs_62 : decode prog_8_method_27_code 62 = .ok (.iconst 1, 1) := by decide +kernel
theorem d_Rm_workedAs_63 : decode prog_8_method_27_code 63 = .ok (.isub, 1) := by decide +kernel
theorem d_Rm_workedAs_64 : decode prog_8_method_27_code 64 = .ok (.goto 4, 3) := by decide +kernel
theorem d_Rm_workedAs_67 : decode prog_8_method_27_code 67 = .ok (.iconst 0, 1) := by decide +kernel
theorem d_Rm_workedAs_68 : decode prog_8_method_27_code 68 = .ok (.ireturn, 1) := by decide +kernel
theorem d_Rm_workedAs_69 : decode prog_8_method_27_code 69 = .ok (.aload_n 0, 1) := by decide +kernel
theorem d_Rm_workedAs_70 : decode prog_8_method_27_code 70 = .ok (.iload_n 1, 1) := by decide +kernel
theorem d_Rm_workedAs_71 : decode prog_8_method_27_code 71 = .ok (.iload_n 2, 1) := by decide +kernel
theorem d_Rm_workedAs_72 : decode prog_8_method_27_code 72 = .ok (.invokevirtual 134, 3) := by decide +kernel
theorem d_Rm_workedAs_75 : decode prog_8_method_27_code 75 = .ok (.ireturn, 1) := by decide +kernel
theorem d_Rm_workedAs_76 : decode prog_8_method_27_code 76 = .ok (.aload_n 0, 1) := by decide +kernel
theorem d_Rm_workedAs_77 : decode prog_8_method_27_code 77 = .ok (.iload_n 1, 1) := by decide +kernel
theorem d_Rm_workedAs_78 : decode prog_8_method_27_code 78 = .ok (.iload_n 2, 1) := by decide +kernel
theorem d_Rm_workedAs_79 : decode prog_8_method_27_code 79 = .ok (.invokevirtual 141, 3) := by decide +kernel
theorem d_Rm_workedAs_82 : decode prog_8_method_27_code 82 = .ok (.ireturn, 1) := by decide +kernel
theorem d_Rm_workedAs_83 : decode prog_8_method_27_code 83 = .ok (.aload_n 0, 1) := by decide +kernel
theorem d_Rm_workedAs_84 : decode prog_8_method_27_code 84 = .ok (.iload_n 1, 1) := by decide +kernel
theorem d_Rm_workedAs_85 : decode prog_8_method_27_code 85 = .ok (.iload_n 2, 1) := by decide +kernel
theorem d_Rm_workedAs_86 : decode prog_8_method_27_code 86 = .ok (.invokevirtual 151, 3) := by decide +kernel
theorem d_Rm_workedAs_89 : decode prog_8_method_27_code 89 = .ok (.ireturn, 1) := by decide +kernel
theorem d_Rm_workedAs_90 : decode prog_8_method_27_code 90 = .ok (.aload_n 0, 1) := by decide +kernel
theorem d_Rm_workedAs_91 : decode prog_8_method_27_code 91 = .ok (.iload_n 1, 1) := by decide +kernel
theorem d_Rm_workedAs_92 : decode prog_8_method_27_code 92 = .ok (.iload_n 2, 1) := by decide +kernel
theorem d_Rm_workedAs_93 : decode prog_8_method_27_code 93 = .ok (.invokevirtual 127, 3) := by decide +kernel
theorem d_Rm_workedAs_96 : decode prog_8_method_27_code 96 = .ok (.ifCond .eq 7, 3) := by decide +kernel
theorem d_Rm_workedAs_99 : decode prog_8_method_27_code 99 = .ok (.iconst 1, 1) := by decide +kernel
theorem d_Rm_workedAs_100 : decode prog_8_method_27_code 100 = .ok (.goto 4, 3) := by decide +kernel
theorem d_Rm_workedAs_103 : decode prog_8_method_27_code 103 = .ok (.iconst 0, 1) := by decide +kernel
theorem d_Rm_workedAs_104 : decode prog_8_method_27_code 104 = .ok (.ireturn, 1) := by decide +kernel
theorem d_Rm_workedAs_105 : decode prog_8_method_27_code 105 = .ok (.aload_n 0, 1) := by decide +kernel
theorem d_Rm_workedAs_106 : decode prog_8_method_27_code 106 = .ok (.iload_n 1, 1) := by decide +kernel
theorem d_Rm_workedAs_107 : decode prog_8_method_27_code 107 = .ok (.iload_n 2, 1) := by decide +kernel
theorem d_Rm_workedAs_108 : decode prog_8_method_27_code 108 = .ok (.invokevirtual 154, 3) := by decide +kernel
theorem d_Rm_workedAs_111 : decode prog_8_method_27_code 111 = .ok (.ifCond .eq 7, 3) := by decide +kernel
theorem d_Rm_workedAs_114 : decode prog_8_method_27_code 114 = .ok (.iconst 1, 1) := by decide +kernel
theorem d_Rm_workedAs_115 : decode prog_8_method_27_code 115 = .ok (.goto 14, 3) := by decide +kernel
theorem d_Rm_workedAs_118 : decode prog_8_method_27_code 118 = .ok (.iload_n 2, 1) := by decide +kernel
theorem d_Rm_workedAs_119 : decode prog_8_method_27_code 119 = .ok (.bipush 7, 2) := by decide +kernel
theorem d_Rm_workedAs_121 : decode prog_8_method_27_code 121 = .ok (.if_icmp .ne 7, 3) := by decide +kernel
theorem d_Rm_workedAs_124 : decode prog_8_method_27_code 124 = .ok (.iconst 2, 1) := by decide +kernel
theorem d_Rm_workedAs_125 : decode prog_8_method_27_code 125 = .ok (.goto 4, 3) := by decide +kernel
theorem d_Rm_workedAs_128 : decode prog_8_method_27_code 128 = .ok (.iconst 0, 1) := by decide +kernel
theorem d_Rm_workedAs_129 : decode prog_8_method_27_code 129 = .ok (.ireturn, 1) := by decide +kernel
def wp_Rm_given (Post : Int32 → MH → Prop) (l0 : Nat) (l1 : Int32) (l2 : Int32) (l3 : Int32) (h : MH) : Prop :=
  (∃ o : MV, gF h l0 6 0 = some o) ∧ ∀ h2 : MH, h2 = fset h l0 0 (.inl (0 : Int32) : MV) →
  (gC h2 l0 = some 6 ∧ wp_Rm_noChord (fun (r7 : Int32) (h7 : MH) =>
      (((¬ r7 = 0) →
          (Post (-1 : Int32) h7)) ∧
        ((r7 = 0) →
          (wp_Rm_in (fun (r19 : Int32) (h19 : MH) =>
              (((r19 = 0) →
                  (Post (-1 : Int32) h19)) ∧
                ((¬ r19 = 0) →
                  (wp_Rm_in (fun (r33 : Int32) (h33 : MH) =>
                      (((¬ r33 = 0) →
                        (∃ x42 : Nat, gF h33 l0 6 11 = some (.inr (some x42)) ∧
                        (∃ (n50 : Nat) (f50 : Nat → Int32), gA h33 x42 0 = some (n50, f50) ∧ vp_in (((3 : Int32) * l1) + l2) n50 ∧
                        (∀ z51 : Int32, z51 = f50 (((3 : Int32) * l1) + l2).toNatClampNeg →
                        (∃ x54 : Nat, gF h33 l0 6 11 = some (.inr (some x54)) ∧
                        (∃ (n63 : Nat) (f63 : Nat → Int32), gA h33 x54 0 = some (n63, f63) ∧ vp_in (((3 : Int32) * l1) + l2) n63 ∧ ∀ h63 : MH, h63 = mset h33 x54 (.inr (0, n63, .inl (upd f63 (((3 : Int32) * l1) + l2).toNatClampNeg l3))) →
                        ((∃ o : MV, gF h63 l0 6 19 = some o) ∧ ∀ h66 : MH, h66 = fset h63 l0 19 (.inl (0 : Int32) : MV) →
                        (((0 ≤ z51) →
                        (Post z51 h66)) ∧
                        ((¬ 0 ≤ z51) →
                        (Post (-2 : Int32) h66)))))))))) ∧
                        ((r33 = 0) →
                        (Post (-1 : Int32) h33)))) ((l3).toInt64) (-1 : Int64) (127 : Int64) h19)))) ((l2).toInt64) (0 : Int64) (2 : Int64) h7)))) l0 l1 h2)
set_option maxRecDepth 100000 in
set_option maxHeartbeats 4000000 in
theorem t_Rm_given {p : Program} {l : Launch} {e : Env} {R : Room} {s : State} {m : MethodId} {args : Array Value} {below : List Frame} {meth : Method} {c : Code} (G : mG) (C0 : Cx G p s m args c prog_8_method_13_code 5 "BassRealiserModel") (hR : 2 ≤ R.frames ∧ 46 ≤ R.locals ∧ 0 ≤ R.cells ∧ 0 ≤ R.slots) (hr : meth.sig.returnType = some .int) (hlk : meth.locks = false) {Post : Int32 → MH → Prop} (l0 : Nat) (l1 : Int32) (l2 : Int32) (l3 : Int32) (h : MH) (hwp : wp_Rm_given Post l0 l1 l2 l3 h) : WG p l e R s m args below meth c 0 0 (MQ below (va_Qi Post (Wd G) (mA G)) args s 0 0 (mA G)) G 5 [(0, .ref (m_b G + l0)), (1, .int l1), (2, .int l2), (3, .int l3)] 0 [] h := by
  unfold wp_Rm_given at hwp
  refine x_aload_n C0 0 d_Rm_given_0 rfl rfl ?_
  refine x_iconst (v := 0) C0 d_Rm_given_1 (by decide) ?_
  obtain ⟨⟨o2, e2⟩, hwp⟩ := hwp
  refine x_put (x := (.inl (0 : Int32) : MV)) C0 pk_Rm_1 e2 rfl rfl d_Rm_given_2 ?_
  refine x_nh (fun h2 eh2 => ?_)
  replace hwp := hwp h2 eh2
  refine x_aload_n C0 0 d_Rm_given_5 rfl rfl ?_
  refine x_iload_n C0 1 d_Rm_given_6 rfl rfl ?_
  obtain ⟨g7, hwp⟩ := hwp
  refine x_callVi0 (k := l0) (As := [.int l1]) (st := []) C0 (c_Rm_noChord l G hwp) kw_3_191 mk_Rm_noChord vk_Rm_noChord rfl g7 rfl (Nat.le_of_ble_eq_true rfl) rfl rfl ⟨Nat.le_trans (by decide) hR.1, Nat.le_trans (by decide) hR.2.1⟩ ⟨Nat.zero_le _, Nat.zero_le _⟩ rfl d_Rm_given_7 (fun r7 h7 hwp => ?_)
  refine x_if_ne (tgt := 39) C0 d_Rm_given_10 (by decide) (fun c10 => ?_) (fun c10 => ?_)
  · replace hwp := hwp.1 c10
    refine x_iconst (v := -1) C0 d_Rm_given_39 (by decide) ?_
    exact x_iret C0 hr hlk hwp d_Rm_given_40
  · replace hwp := hwp.2 c10
    refine x_iload_n C0 2 d_Rm_given_13 rfl rfl ?_
    refine x_i2l C0 d_Rm_given_14 ?_
    refine x_lconst (v := 0) C0 d_Rm_given_15 (by decide) ?_
    refine x_ldc2 (v := 2) C0 kw_3_195 d_Rm_given_16 ?_
    refine x_callSi0 (As := [.long ((l2).toInt64), .long (0 : Int64), .long (2 : Int64)]) (st := []) C0 (c_Rm_in l G hwp) kw_3_173 mk_Rm_in kw_3_174 rfl (Nat.le_of_ble_eq_true rfl) rfl rfl ⟨Nat.le_trans (by decide) hR.1, Nat.le_trans (by decide) hR.2.1⟩ ⟨Nat.zero_le _, Nat.zero_le _⟩ rfl d_Rm_given_19 (fun r19 h19 hwp => ?_)
    refine x_if_eq (tgt := 39) C0 d_Rm_given_22 (by decide) (fun c22 => ?_) (fun c22 => ?_)
    · replace hwp := hwp.1 c22
      refine x_iconst (v := -1) C0 d_Rm_given_39 (by decide) ?_
      exact x_iret C0 hr hlk hwp d_Rm_given_40
    · replace hwp := hwp.2 c22
      refine x_iload_n C0 3 d_Rm_given_25 rfl rfl ?_
      refine x_i2l C0 d_Rm_given_26 ?_
      refine x_ldc2 (v := -1) C0 kw_3_182 d_Rm_given_27 ?_
      refine x_ldc2 (v := 127) C0 kw_3_218 d_Rm_given_30 ?_
      refine x_callSi0 (As := [.long ((l3).toInt64), .long (-1 : Int64), .long (127 : Int64)]) (st := []) C0 (c_Rm_in l G hwp) kw_3_173 mk_Rm_in kw_3_174 rfl (Nat.le_of_ble_eq_true rfl) rfl rfl ⟨Nat.le_trans (by decide) hR.1, Nat.le_trans (by decide) hR.2.1⟩ ⟨Nat.zero_le _, Nat.zero_le _⟩ rfl d_Rm_given_33 (fun r33 h33 hwp => ?_)
      refine x_if_ne (tgt := 41) C0 d_Rm_given_36 (by decide) (fun c36 => ?_) (fun c36 => ?_)
      · replace hwp := hwp.1 c36
        refine x_aload_n C0 0 d_Rm_given_41 rfl rfl ?_
        obtain ⟨x42, e42, hwp⟩ := hwp
        refine x_getR C0 fk_Rm_38 e42 d_Rm_given_42 ?_
        refine x_iconst (v := 3) C0 d_Rm_given_45 (by decide) ?_
        refine x_iload_n C0 1 d_Rm_given_46 rfl rfl ?_
        refine x_imul C0 d_Rm_given_47 ?_
        refine x_iload_n C0 2 d_Rm_given_48 rfl rfl ?_
        refine x_iadd C0 d_Rm_given_49 ?_
        obtain ⟨n50, f50, e50, i50, hwp⟩ := hwp
        refine x_iald C0 e50 i50 d_Rm_given_50 ?_
        refine x_topI (fun z51 e51 => ?_)
        replace hwp := hwp z51 e51
        refine x_istore C0 d_Rm_given_51 (by decide) (lv' := [(4, .int z51), (0, .ref (m_b G + l0)), (1, .int l1), (2, .int l2), (3, .int l3)]) rfl ?_
        refine x_aload_n C0 1 d_Rm_given_53 rfl rfl ?_
        obtain ⟨x54, e54, hwp⟩ := hwp
        refine x_getR C0 fk_Rm_38 e54 d_Rm_given_54 ?_
        refine x_iconst (v := 3) C0 d_Rm_given_57 (by decide) ?_
        refine x_iload_n C0 2 d_Rm_given_58 rfl rfl ?_
        refine x_imul C0 d_Rm_given_59 ?_
        refine x_iload_n C0 3 d_Rm_given_60 rfl rfl ?_
        refine x_iadd C0 d_Rm_given_61 ?_
        refine x_iload_n C0 4 d_Rm_given_62 rfl rfl ?_
        obtain ⟨n63, f63, e63, i63, hwp⟩ := hwp
        refine x_iast C0 e63 i63 d_Rm_given_63 ?_
        refine x_nh (fun h63 eh63 => ?_)
        replace hwp := hwp h63 eh63
        refine x_aload_n C0 1 d_Rm_given_64 rfl rfl ?_
        refine x_iconst (v := 0) C0 d_Rm_given_65 (by decide) ?_
        obtain ⟨⟨o66, e66⟩, hwp⟩ := hwp
        refine x_put (x := (.inl (0 : Int32) : MV)) C0 pk_Rm_93 e66 rfl rfl d_Rm_given_66 ?_
        refine x_nh (fun h66 eh66 => ?_)
        replace hwp := hwp h66 eh66
        refine x_iload C0 0 d_Rm_given_69 rfl ?_
        refine x_if_ge (tgt := 79) C0 d_Rm_given_71 (by decide) (fun c71 => ?_) (fun c71 => ?_)
        · replace hwp := hwp.1 c71
          refine x_iload C0 0 d_Rm_given_79 rfl ?_
          exact x_iret C0 hr hlk hwp d_Rm_given_81
        · replace hwp := hwp.2 c71
          refine x_bipush (v := -2) C0 d_Rm_given_74 (by decide) ?_
          refine x_goto (tgt := 81) C0 d_Rm_given_76 (by decide) ?_
          exact x_iret C0 hr hlk hwp d_Rm_given_81
      · replace hwp := hwp.2 c36
        refine x_iconst (v := -1) C0 d_Rm_given_39 (by decide) ?_
        exact x_iret C0 hr hlk hwp d_Rm_given_40
set_option maxRecDepth 100000 in
set_option maxHeartbeats 4000000 in
theorem c_Rm_given (l : Launch) (G : mG) {Post : Int32 → MH → Prop} {l0 : Nat} {l1 : Int32} {l2 : Int32} {l3 : Int32} {h : MH} (hwp : wp_Rm_given Post l0 l1 l2 l3 h) : Met l y_Rm_given (Cond.code y_Rm_given prog_8_method_13_code 5 (Option.some Jvm.ClassFile.FieldType.int) :: lw_good) ({ frames := 2, cells := 0, slots := 0, locals := 46 }) (va_Pc [.ref (m_b G + l0), .int l1, .int l2, .int l3] (Wd G h)) (va_Qi Post (Wd G) (mA G)) 0 0 (mA G) := by
  refine Met.ofW (cc := prog_8_method_13_code) (maxL := 5) (ret := (Option.some Jvm.ClassFile.FieldType.int)) (by decide +kernel) rfl ?_
  intro p e s m args below meth c s₁ B hml hv
  obtain ⟨rfl, hP, hz, hK, hSt⟩ := hv
  have hts := atoms_spec (ws := Cond.code y_Rm_given prog_8_method_13_code 5 (Option.some Jvm.ClassFile.FieldType.int) :: lw_good) B.pre
  have C0 : Cx G p s m ([.ref (m_b G + l0), .int l1, .int l2, .int l3] : List Value).toArray c prog_8_method_13_code 5 "BassRealiserModel" := ⟨⟨B.exec, B.bytes, hml, findClass_of_methodNamed B.named, fun w h => hts w (List.mem_cons_of_mem _ h)⟩, hK, hSt, by rw [hz]; exact Nat.le_add_right _ _⟩
  have hl := lv_entry ([.ref (m_b G + l0), .int l1, .int l2, .int l3]) (n := 5) (Nat.le_of_ble_eq_true rfl)
  rw [lg_entry_eq]
  exact t_Rm_given G C0 ⟨Nat.le_refl _, Nat.le_refl _, Nat.le_refl _, Nat.le_refl _⟩ B.returns B.notSynchronized _ _ _ _ _ hwp _ _ _ ⟨hP, hz, va_S.rf⟩ hl
def wp_Br_bass (Post : Int32 → MH → Prop) (l0 : Nat) (l1 : Int32) (h : MH) : Prop :=
  gC h l0 = some 5 ∧ wp_Br_hasChord (fun (r2 : Int32) (h2 : MH) =>
    (((r2 = 0) →
        (Post (-1 : Int32) h2)) ∧
      ((¬ r2 = 0) →
        (∃ x9 : Nat, gF h2 l0 5 1 = some (.inr (some x9)) ∧
          (∃ (n13 : Nat) (f13 : Nat → Option Nat) (q13 : Nat), gR h2 x9 3 = some (n13, f13) ∧ vp_in l1 n13 ∧ f13 (l1).toNatClampNeg = some q13 ∧
            (∃ x14 : Int32, gF h2 q13 0 1 = some (.inl x14) ∧
              (Post x14 h2))))))) l0 l1 h
set_option maxRecDepth 100000 in
set_option maxHeartbeats 4000000 in
theorem t_Br_bass {p : Program} {l : Launch} {e : Env} {R : Room} {s : State} {m : MethodId} {args : Array Value} {below : List Frame} {meth : Method} {c : Code} (G : mG) (C0 : Cx G p s m args c prog_1_method_11_code 2 "BassRealiser") (hR : 1 ≤ R.frames ∧ 21 ≤ R.locals ∧ 0 ≤ R.cells ∧ 0 ≤ R.slots) (hr : meth.sig.returnType = some .int) (hlk : meth.locks = false) {Post : Int32 → MH → Prop} (l0 : Nat) (l1 : Int32) (h : MH) (hwp : wp_Br_bass Post l0 l1 h) : WG p l e R s m args below meth c 0 0 (MQ below (va_Qi Post (Wd G) (mA G)) args s 0 0 (mA G)) G 2 [(0, .ref (m_b G + l0)), (1, .int l1)] 0 [] h := by
  unfold wp_Br_bass at hwp
  refine x_aload_n C0 0 d_Br_bass_0 rfl rfl ?_
  refine x_iload_n C0 1 d_Br_bass_1 rfl rfl ?_
  obtain ⟨g2, hwp⟩ := hwp
  refine x_callVi0 (k := l0) (As := [.int l1]) (st := []) C0 (c_Br_hasChord l G hwp) kw_2_64 mk_Br_hasChord vk_Br_hasChord rfl g2 rfl (Nat.le_of_ble_eq_true rfl) rfl rfl ⟨Nat.le_trans (by decide) hR.1, Nat.le_trans (by decide) hR.2.1⟩ ⟨Nat.zero_le _, Nat.zero_le _⟩ rfl d_Br_bass_2 (fun r2 h2 hwp => ?_)
  refine x_if_eq (tgt := 20) C0 d_Br_bass_5 (by decide) (fun c5 => ?_) (fun c5 => ?_)
  · replace hwp := hwp.1 c5
    refine x_iconst (v := -1) C0 d_Br_bass_20 (by decide) ?_
    exact x_iret C0 hr hlk hwp d_Br_bass_21
  · replace hwp := hwp.2 c5
    refine x_aload_n C0 0 d_Br_bass_8 rfl rfl ?_
    obtain ⟨x9, e9, hwp⟩ := hwp
    refine x_getR C0 fk_Br_20 e9 d_Br_bass_9 ?_
    refine x_iload_n C0 1 d_Br_bass_12 rfl rfl ?_
    obtain ⟨n13, f13, q13, e13, i13, g13, hwp⟩ := hwp
    refine x_aald (t := 3) C0 e13 rfl i13 g13 d_Br_bass_13 ?_
    obtain ⟨x14, e14, hwp⟩ := hwp
    refine x_getI C0 fk_Br_113 e14 d_Br_bass_14 ?_
    refine x_goto (tgt := 21) C0 d_Br_bass_17 (by decide) ?_
    exact x_iret C0 hr hlk hwp d_Br_bass_21
set_option maxRecDepth 100000 in
set_option maxHeartbeats 4000000 in
theorem c_Br_bass (l : Launch) (G : mG) {Post : Int32 → MH → Prop} {l0 : Nat} {l1 : Int32} {h : MH} (hwp : wp_Br_bass Post l0 l1 h) : Met l y_Br_bass (Cond.code y_Br_bass prog_1_method_11_code 2 (Option.some Jvm.ClassFile.FieldType.int) :: lw_good) ({ frames := 1, cells := 0, slots := 0, locals := 21 }) (va_Pc [.ref (m_b G + l0), .int l1] (Wd G h)) (va_Qi Post (Wd G) (mA G)) 0 0 (mA G) := by
  refine Met.ofW (cc := prog_1_method_11_code) (maxL := 2) (ret := (Option.some Jvm.ClassFile.FieldType.int)) (by decide +kernel) rfl ?_
  intro p e s m args below meth c s₁ B hml hv
  obtain ⟨rfl, hP, hz, hK, hSt⟩ := hv
  have hts := atoms_spec (ws := Cond.code y_Br_bass prog_1_method_11_code 2 (Option.some Jvm.ClassFile.FieldType.int) :: lw_good) B.pre
  have C0 : Cx G p s m ([.ref (m_b G + l0), .int l1] : List Value).toArray c prog_1_method_11_code 2 "BassRealiser" := ⟨⟨B.exec, B.bytes, hml, findClass_of_methodNamed B.named, fun w h => hts w (List.mem_cons_of_mem _ h)⟩, hK, hSt, by rw [hz]; exact Nat.le_add_right _ _⟩
  have hl := lv_entry ([.ref (m_b G + l0), .int l1]) (n := 2) (Nat.le_of_ble_eq_true rfl)
  rw [lg_entry_eq]
  exact t_Br_bass G C0 ⟨Nat.le_refl _, Nat.le_refl _, Nat.le_refl _, Nat.le_refl _⟩ B.returns B.notSynchronized _ _ _ hwp _ _ _ ⟨hP, hz, va_S.rf⟩ hl
def wp_Rm_semitones (Post : Int32 → MH → Prop) (l0 : Int32) (h : MH) : Prop :=
  (((3 : Int32) ≤ l0) →
    (Post (((2 : Int32) * l0) - (1 : Int32)) h)) ∧
  ((¬ (3 : Int32) ≤ l0) →
    (Post ((2 : Int32) * l0) h))
set_option maxRecDepth 100000 in
set_option maxHeartbeats 4000000 in
theorem t_Rm_semitones {p : Program} {l : Launch} {e : Env} {R : Room} {s : State} {m : MethodId} {args : Array Value} {below : List Frame} {meth : Method} {c : Code} (G : mG) (C0 : Cx G p s m args c prog_8_method_15_code 1 "BassRealiserModel") (hR : 0 ≤ R.frames ∧ 0 ≤ R.locals ∧ 0 ≤ R.cells ∧ 0 ≤ R.slots) (hr : meth.sig.returnType = some .int) (hlk : meth.locks = false) {Post : Int32 → MH → Prop} (l0 : Int32) (h : MH) (hwp : wp_Rm_semitones Post l0 h) : WG p l e R s m args below meth c 0 0 (MQ below (va_Qi Post (Wd G) (mA G)) args s 0 0 (mA G)) G 1 [(0, .int l0)] 0 [] h := by
  unfold wp_Rm_semitones at hwp
  refine x_iload_n C0 0 d_Rm_semitones_0 rfl rfl ?_
  refine x_iconst (v := 3) C0 d_Rm_semitones_1 (by decide) ?_
  refine x_icmp_ge (tgt := 11) C0 d_Rm_semitones_2 (by decide) (fun c2 => ?_) (fun c2 => ?_)
  · replace hwp := hwp.1 c2
    refine x_iconst (v := 2) C0 d_Rm_semitones_11 (by decide) ?_
    refine x_iload_n C0 0 d_Rm_semitones_12 rfl rfl ?_
    refine x_imul C0 d_Rm_semitones_13 ?_
    refine x_iconst (v := 1) C0 d_Rm_semitones_14 (by decide) ?_
    refine x_isub C0 d_Rm_semitones_15 ?_
    exact x_iret C0 hr hlk hwp d_Rm_semitones_16
  · replace hwp := hwp.2 c2
    refine x_iconst (v := 2) C0 d_Rm_semitones_5 (by decide) ?_
    refine x_iload_n C0 0 d_Rm_semitones_6 rfl rfl ?_
    refine x_imul C0 d_Rm_semitones_7 ?_
    refine x_goto (tgt := 16) C0 d_Rm_semitones_8 (by decide) ?_
    exact x_iret C0 hr hlk hwp d_Rm_semitones_16
set_option maxRecDepth 100000 in
set_option maxHeartbeats 4000000 in
theorem c_Rm_semitones (l : Launch) (G : mG) {Post : Int32 → MH → Prop} {l0 : Int32} {h : MH} (hwp : wp_Rm_semitones Post l0 h) : Met l y_Rm_semitones (Cond.code y_Rm_semitones prog_8_method_15_code 1 (Option.some Jvm.ClassFile.FieldType.int) :: lw_good) ({ frames := 0, cells := 0, slots := 0, locals := 0 }) (va_Pc [.int l0] (Wd G h)) (va_Qi Post (Wd G) (mA G)) 0 0 (mA G) := by
  refine Met.ofW (cc := prog_8_method_15_code) (maxL := 1) (ret := (Option.some Jvm.ClassFile.FieldType.int)) (by decide +kernel) rfl ?_
  intro p e s m args below meth c s₁ B hml hv
  obtain ⟨rfl, hP, hz, hK, hSt⟩ := hv
  have hts := atoms_spec (ws := Cond.code y_Rm_semitones prog_8_method_15_code 1 (Option.some Jvm.ClassFile.FieldType.int) :: lw_good) B.pre
  have C0 : Cx G p s m ([.int l0] : List Value).toArray c prog_8_method_15_code 1 "BassRealiserModel" := ⟨⟨B.exec, B.bytes, hml, findClass_of_methodNamed B.named, fun w h => hts w (List.mem_cons_of_mem _ h)⟩, hK, hSt, by rw [hz]; exact Nat.le_add_right _ _⟩
  have hl := lv_entry ([.int l0]) (n := 1) (Nat.le_of_ble_eq_true rfl)
  rw [lg_entry_eq]
  exact t_Rm_semitones G C0 ⟨Nat.le_refl _, Nat.le_refl _, Nat.le_refl _, Nat.le_refl _⟩ B.returns B.notSynchronized _ _ hwp _ _ _ ⟨hP, hz, va_S.rf⟩ hl
def wp_Rm_bassOf (Post : Int32 → MH → Prop) (l0 : Nat) (l1 : Int32) (h : MH) : Prop :=
  ∃ x3 : Nat, gF h l0 6 4 = some (.inr (some x3)) ∧
  (∃ (n7 : Nat) (f7 : Nat → Int32), gA h x3 0 = some (n7, f7) ∧ vp_in l1 n7 ∧
    (∃ x12 : Nat, gF h l0 6 3 = some (.inr (some x12)) ∧
      (∃ (n16 : Nat) (f16 : Nat → Int32), gA h x12 0 = some (n16, f16) ∧ vp_in l1 n16 ∧
        (wp_Rm_semitones (fun (r17 : Int32) (h17 : MH) =>
            (∃ x22 : Nat, gF h17 l0 6 5 = some (.inr (some x22)) ∧
              (∃ (n26 : Nat) (f26 : Nat → Int32), gA h17 x22 0 = some (n26, f26) ∧ vp_in l1 n26 ∧
                (Post ((((12 : Int32) * ((f7 (l1).toNatClampNeg) + (1 : Int32))) + r17) + (f26 (l1).toNatClampNeg)) h17)))) (f16 (l1).toNatClampNeg) h))))
set_option maxRecDepth 100000 in
set_option maxHeartbeats 4000000 in
theorem t_Rm_bassOf {p : Program} {l : Launch} {e : Env} {R : Room} {s : State} {m : MethodId} {args : Array Value} {below : List Frame} {meth : Method} {c : Code} (G : mG) (C0 : Cx G p s m args c prog_8_method_16_code 2 "BassRealiserModel") (hR : 1 ≤ R.frames ∧ 20 ≤ R.locals ∧ 0 ≤ R.cells ∧ 0 ≤ R.slots) (hr : meth.sig.returnType = some .int) (hlk : meth.locks = false) {Post : Int32 → MH → Prop} (l0 : Nat) (l1 : Int32) (h : MH) (hwp : wp_Rm_bassOf Post l0 l1 h) : WG p l e R s m args below meth c 0 0 (MQ below (va_Qi Post (Wd G) (mA G)) args s 0 0 (mA G)) G 2 [(0, .ref (m_b G + l0)), (1, .int l1)] 0 [] h := by
  unfold wp_Rm_bassOf at hwp
  refine x_bipush (v := 12) C0 d_Rm_bassOf_0 (by decide) ?_
  refine x_aload_n C0 0 d_Rm_bassOf_2 rfl rfl ?_
  obtain ⟨x3, e3, hwp⟩ := hwp
  refine x_getR C0 fk_Rm_17 e3 d_Rm_bassOf_3 ?_
  refine x_iload_n C0 1 d_Rm_bassOf_6 rfl rfl ?_
  obtain ⟨n7, f7, e7, i7, hwp⟩ := hwp
  refine x_iald C0 e7 i7 d_Rm_bassOf_7 ?_
  refine x_iconst (v := 1) C0 d_Rm_bassOf_8 (by decide) ?_
  refine x_iadd C0 d_Rm_bassOf_9 ?_
  refine x_imul C0 d_Rm_bassOf_10 ?_
  refine x_aload_n C0 0 d_Rm_bassOf_11 rfl rfl ?_
  obtain ⟨x12, e12, hwp⟩ := hwp
  refine x_getR C0 fk_Rm_13 e12 d_Rm_bassOf_12 ?_
  refine x_iload_n C0 1 d_Rm_bassOf_15 rfl rfl ?_
  obtain ⟨n16, f16, e16, i16, hwp⟩ := hwp
  refine x_iald C0 e16 i16 d_Rm_bassOf_16 ?_
  refine x_callSi0 (As := [.int (f16 (l1).toNatClampNeg)]) (st := [.int ((12 : Int32) * ((f7 (l1).toNatClampNeg) + (1 : Int32)))]) C0 (c_Rm_semitones l G hwp) kw_4_0 mk_Rm_semitones kw_4_1 rfl (Nat.le_of_ble_eq_true rfl) rfl rfl ⟨Nat.le_trans (by decide) hR.1, Nat.le_trans (by decide) hR.2.1⟩ ⟨Nat.zero_le _, Nat.zero_le _⟩ rfl d_Rm_bassOf_17 (fun r17 h17 hwp => ?_)
  refine x_iadd C0 d_Rm_bassOf_20 ?_
  refine x_aload_n C0 0 d_Rm_bassOf_21 rfl rfl ?_
  obtain ⟨x22, e22, hwp⟩ := hwp
  refine x_getR C0 fk_Rm_20 e22 d_Rm_bassOf_22 ?_
  refine x_iload_n C0 1 d_Rm_bassOf_25 rfl rfl ?_
  obtain ⟨n26, f26, e26, i26, hwp⟩ := hwp
  refine x_iald C0 e26 i26 d_Rm_bassOf_26 ?_
  refine x_iadd C0 d_Rm_bassOf_27 ?_
  exact x_iret C0 hr hlk hwp d_Rm_bassOf_28
set_option maxRecDepth 100000 in
set_option maxHeartbeats 4000000 in
theorem c_Rm_bassOf (l : Launch) (G : mG) {Post : Int32 → MH → Prop} {l0 : Nat} {l1 : Int32} {h : MH} (hwp : wp_Rm_bassOf Post l0 l1 h) : Met l y_Rm_bassOf (Cond.code y_Rm_bassOf prog_8_method_16_code 2 (Option.some Jvm.ClassFile.FieldType.int) :: lw_good) ({ frames := 1, cells := 0, slots := 0, locals := 20 }) (va_Pc [.ref (m_b G + l0), .int l1] (Wd G h)) (va_Qi Post (Wd G) (mA G)) 0 0 (mA G) := by
  refine Met.ofW (cc := prog_8_method_16_code) (maxL := 2) (ret := (Option.some Jvm.ClassFile.FieldType.int)) (by decide +kernel) rfl ?_
  intro p e s m args below meth c s₁ B hml hv
  obtain ⟨rfl, hP, hz, hK, hSt⟩ := hv
  have hts := atoms_spec (ws := Cond.code y_Rm_bassOf prog_8_method_16_code 2 (Option.some Jvm.ClassFile.FieldType.int) :: lw_good) B.pre
  have C0 : Cx G p s m ([.ref (m_b G + l0), .int l1] : List Value).toArray c prog_8_method_16_code 2 "BassRealiserModel" := ⟨⟨B.exec, B.bytes, hml, findClass_of_methodNamed B.named, fun w h => hts w (List.mem_cons_of_mem _ h)⟩, hK, hSt, by rw [hz]; exact Nat.le_add_right _ _⟩
  have hl := lv_entry ([.ref (m_b G + l0), .int l1]) (n := 2) (Nat.le_of_ble_eq_true rfl)
  rw [lg_entry_eq]
  exact t_Rm_bassOf G C0 ⟨Nat.le_refl _, Nat.le_refl _, Nat.le_refl _, Nat.le_refl _⟩ B.returns B.notSynchronized _ _ _ hwp _ _ _ ⟨hP, hz, va_S.rf⟩ hl
def wp_Rm_bass (Post : Int32 → MH → Prop) (l0 : Nat) (l1 : Int32) (h : MH) : Prop :=
  (∃ o : MV, gF h l0 6 0 = some o) ∧ ∀ h2 : MH, h2 = fset h l0 0 (.inl (0 : Int32) : MV) →
  (gC h2 l0 = some 6 ∧ wp_Rm_noChord (fun (r7 : Int32) (h7 : MH) =>
      (((r7 = 0) →
          (gC h7 l0 = some 6 ∧ wp_Rm_bassOf (fun (r19 : Int32) (h19 : MH) =>
              (Post r19 h19)) l0 l1 h7)) ∧
        ((¬ r7 = 0) →
          (Post (-1 : Int32) h7)))) l0 l1 h2)
set_option maxRecDepth 100000 in
set_option maxHeartbeats 4000000 in
theorem t_Rm_bass {p : Program} {l : Launch} {e : Env} {R : Room} {s : State} {m : MethodId} {args : Array Value} {below : List Frame} {meth : Method} {c : Code} (G : mG) (C0 : Cx G p s m args c prog_8_method_17_code 2 "BassRealiserModel") (hR : 2 ≤ R.frames ∧ 46 ≤ R.locals ∧ 0 ≤ R.cells ∧ 0 ≤ R.slots) (hr : meth.sig.returnType = some .int) (hlk : meth.locks = false) {Post : Int32 → MH → Prop} (l0 : Nat) (l1 : Int32) (h : MH) (hwp : wp_Rm_bass Post l0 l1 h) : WG p l e R s m args below meth c 0 0 (MQ below (va_Qi Post (Wd G) (mA G)) args s 0 0 (mA G)) G 2 [(0, .ref (m_b G + l0)), (1, .int l1)] 0 [] h := by
  unfold wp_Rm_bass at hwp
  refine x_aload_n C0 0 d_Rm_bass_0 rfl rfl ?_
  refine x_iconst (v := 0) C0 d_Rm_bass_1 (by decide) ?_
  obtain ⟨⟨o2, e2⟩, hwp⟩ := hwp
  refine x_put (x := (.inl (0 : Int32) : MV)) C0 pk_Rm_1 e2 rfl rfl d_Rm_bass_2 ?_
  refine x_nh (fun h2 eh2 => ?_)
  replace hwp := hwp h2 eh2
  refine x_aload_n C0 0 d_Rm_bass_5 rfl rfl ?_
  refine x_iload_n C0 1 d_Rm_bass_6 rfl rfl ?_
  obtain ⟨g7, hwp⟩ := hwp
  refine x_callVi0 (k := l0) (As := [.int l1]) (st := []) C0 (c_Rm_noChord l G hwp) kw_3_191 mk_Rm_noChord vk_Rm_noChord rfl g7 rfl (Nat.le_of_ble_eq_true rfl) rfl rfl ⟨Nat.le_trans (by decide) hR.1, Nat.le_trans (by decide) hR.2.1⟩ ⟨Nat.zero_le _, Nat.zero_le _⟩ rfl d_Rm_bass_7 (fun r7 h7 hwp => ?_)
  refine x_if_eq (tgt := 17) C0 d_Rm_bass_10 (by decide) (fun c10 => ?_) (fun c10 => ?_)
  · replace hwp := hwp.1 c10
    refine x_aload_n C0 0 d_Rm_bass_17 rfl rfl ?_
    refine x_iload_n C0 1 d_Rm_bass_18 rfl rfl ?_
    obtain ⟨g19, hwp⟩ := hwp
    refine x_callVi0 (k := l0) (As := [.int l1]) (st := []) C0 (c_Rm_bassOf l G hwp) kw_3_236 mk_Rm_bassOf vk_Rm_bassOf rfl g19 rfl (Nat.le_of_ble_eq_true rfl) rfl rfl ⟨Nat.le_trans (by decide) hR.1, Nat.le_trans (by decide) hR.2.1⟩ ⟨Nat.zero_le _, Nat.zero_le _⟩ rfl d_Rm_bass_19 (fun r19 h19 hwp => ?_)
    exact x_iret C0 hr hlk hwp d_Rm_bass_22
  · replace hwp := hwp.2 c10
    refine x_iconst (v := -1) C0 d_Rm_bass_13 (by decide) ?_
    refine x_goto (tgt := 22) C0 d_Rm_bass_14 (by decide) ?_
    exact x_iret C0 hr hlk hwp d_Rm_bass_22
set_option maxRecDepth 100000 in
set_option maxHeartbeats 4000000 in
theorem c_Rm_bass (l : Launch) (G : mG) {Post : Int32 → MH → Prop} {l0 : Nat} {l1 : Int32} {h : MH} (hwp : wp_Rm_bass Post l0 l1 h) : Met l y_Rm_bass (Cond.code y_Rm_bass prog_8_method_17_code 2 (Option.some Jvm.ClassFile.FieldType.int) :: lw_good) ({ frames := 2, cells := 0, slots := 0, locals := 46 }) (va_Pc [.ref (m_b G + l0), .int l1] (Wd G h)) (va_Qi Post (Wd G) (mA G)) 0 0 (mA G) := by
  refine Met.ofW (cc := prog_8_method_17_code) (maxL := 2) (ret := (Option.some Jvm.ClassFile.FieldType.int)) (by decide +kernel) rfl ?_
  intro p e s m args below meth c s₁ B hml hv
  obtain ⟨rfl, hP, hz, hK, hSt⟩ := hv
  have hts := atoms_spec (ws := Cond.code y_Rm_bass prog_8_method_17_code 2 (Option.some Jvm.ClassFile.FieldType.int) :: lw_good) B.pre
  have C0 : Cx G p s m ([.ref (m_b G + l0), .int l1] : List Value).toArray c prog_8_method_17_code 2 "BassRealiserModel" := ⟨⟨B.exec, B.bytes, hml, findClass_of_methodNamed B.named, fun w h => hts w (List.mem_cons_of_mem _ h)⟩, hK, hSt, by rw [hz]; exact Nat.le_add_right _ _⟩
  have hl := lv_entry ([.ref (m_b G + l0), .int l1]) (n := 2) (Nat.le_of_ble_eq_true rfl)
  rw [lg_entry_eq]
  exact t_Rm_bass G C0 ⟨Nat.le_refl _, Nat.le_refl _, Nat.le_refl _, Nat.le_refl _⟩ B.returns B.notSynchronized _ _ _ hwp _ _ _ ⟨hP, hz, va_S.rf⟩ hl
def wp_Ch_nthWorked_31 (K4 : Nat → Int32 → Int32 → Int32 → MH → Prop) (Post : Int32 → MH → Prop) (l0 : Nat) (l1 : Int32) (l2 : Int32) (l3 : Int32) (h : MH) : Prop :=
  K4 l0 l1 l2 (l3 + (1 : Int32)) h
def wb_Ch_nthWorked_4 (K4 : Nat → Int32 → Int32 → Int32 → MH → Prop) (Post : Int32 → MH → Prop) (l0 : Nat) (l1 : Int32) (l2 : Int32) (l3 : Int32) (h : MH) : Prop :=
  (((9 : Int32) < l3) →
    (Post (2 : Int32) h)) ∧
  ((¬ (9 : Int32) < l3) →
    (∃ x11 : Int32, gF h l0 0 3 = some (.inl x11) ∧
      (wp_Ch_has (fun (r15 : Int32) (h15 : MH) =>
          (((r15 = 0) →
              (wp_Ch_nthWorked_31 K4 Post l0 l1 l2 l3 h15)) ∧
            ((¬ r15 = 0) →
              (((¬ l2 = l1) →
                  (wp_Ch_nthWorked_31 K4 Post l0 l1 (l2 + (1 : Int32)) l3 h15)) ∧
                ((l2 = l1) →
                  (Post l3 h15)))))) x11 l3 h)))
def wn_Ch_nthWorked_4 (Post : Int32 → MH → Prop) : Nat → Nat → Int32 → Int32 → Int32 → MH → Prop
  | 0 => fun _ _ _ _ _ => False
  | n + 1 => wb_Ch_nthWorked_4 (wn_Ch_nthWorked_4 Post n) Post
def wp_Ch_nthWorked_4 (Post : Int32 → MH → Prop) (l0 : Nat) (l1 : Int32) (l2 : Int32) (l3 : Int32) (h : MH) : Prop := ∃ n, wn_Ch_nthWorked_4 Post n l0 l1 l2 l3 h
def wp_Ch_nthWorked (Post : Int32 → MH → Prop) (l0 : Nat) (l1 : Int32) (h : MH) : Prop :=
  wp_Ch_nthWorked_4 Post l0 l1 (0 : Int32) (2 : Int32) h
set_option maxRecDepth 100000 in
set_option maxHeartbeats 4000000 in
theorem t_Ch_nthWorked_31 {p : Program} {l : Launch} {e : Env} {R : Room} {s : State} {m : MethodId} {args : Array Value} {below : List Frame} {meth : Method} {c : Code} (G : mG) (C0 : Cx G p s m args c prog_2_method_8_code 4 "BassRealiser$Chord") (hR : 1 ≤ R.frames ∧ 21 ≤ R.locals ∧ 0 ≤ R.cells ∧ 0 ≤ R.slots) (hr : meth.sig.returnType = some .int) (hlk : meth.locks = false) {Post : Int32 → MH → Prop} {K4 : Nat → Int32 → Int32 → Int32 → MH → Prop} (hK4 : ∀ (l0 : Nat) (l1 : Int32) (l2 : Int32) (l3 : Int32) (h : MH), K4 l0 l1 l2 l3 h → WG p l e R s m args below meth c 0 0 (MQ below (va_Qi Post (Wd G) (mA G)) args s 0 0 (mA G)) G 4 [(0, .ref (m_b G + l0)), (1, .int l1), (2, .int l2), (3, .int l3)] 4 [] h) (l0 : Nat) (l1 : Int32) (l2 : Int32) (l3 : Int32) (h : MH) (hwp : wp_Ch_nthWorked_31 K4 Post l0 l1 l2 l3 h) : WG p l e R s m args below meth c 0 0 (MQ below (va_Qi Post (Wd G) (mA G)) args s 0 0 (mA G)) G 4 [(0, .ref (m_b G + l0)), (1, .int l1), (2, .int l2), (3, .int l3)] 31 [] h := by
  unfold wp_Ch_nthWorked_31 at hwp
  refine x_iinc C0 3 d_Ch_nthWorked_31 rfl rfl (by decide) (lv' := [(3, .int (l3 + (1 : Int32))), (0, .ref (m_b G + l0)), (1, .int l1), (2, .int l2)]) rfl ?_
  refine x_goto (tgt := 4) C0 d_Ch_nthWorked_34 (by decide) ?_
  exact x_sub [1, 2, 3, 0] rfl (hK4 _ _ _ _ _ hwp)
set_option maxRecDepth 100000 in
set_option maxHeartbeats 4000000 in
theorem tb_Ch_nthWorked_4 {p : Program} {l : Launch} {e : Env} {R : Room} {s : State} {m : MethodId} {args : Array Value} {below : List Frame} {meth : Method} {c : Code} (G : mG) (C0 : Cx G p s m args c prog_2_method_8_code 4 "BassRealiser$Chord") (hR : 1 ≤ R.frames ∧ 21 ≤ R.locals ∧ 0 ≤ R.cells ∧ 0 ≤ R.slots) (hr : meth.sig.returnType = some .int) (hlk : meth.locks = false) {Post : Int32 → MH → Prop} {K4 : Nat → Int32 → Int32 → Int32 → MH → Prop} (hK4 : ∀ (l0 : Nat) (l1 : Int32) (l2 : Int32) (l3 : Int32) (h : MH), K4 l0 l1 l2 l3 h → WG p l e R s m args below meth c 0 0 (MQ below (va_Qi Post (Wd G) (mA G)) args s 0 0 (mA G)) G 4 [(0, .ref (m_b G + l0)), (1, .int l1), (2, .int l2), (3, .int l3)] 4 [] h) (l0 : Nat) (l1 : Int32) (l2 : Int32) (l3 : Int32) (h : MH) (hwp : wb_Ch_nthWorked_4 K4 Post l0 l1 l2 l3 h) : WG p l e R s m args below meth c 0 0 (MQ below (va_Qi Post (Wd G) (mA G)) args s 0 0 (mA G)) G 4 [(0, .ref (m_b G + l0)), (1, .int l1), (2, .int l2), (3, .int l3)] 4 [] h := by
  unfold wb_Ch_nthWorked_4 at hwp
  refine x_iload_n C0 3 d_Ch_nthWorked_4 rfl rfl ?_
  refine x_bipush (v := 9) C0 d_Ch_nthWorked_5 (by decide) ?_
  refine x_icmp_gt (tgt := 37) C0 d_Ch_nthWorked_7 (by decide) (fun c7 => ?_) (fun c7 => ?_)
  · replace hwp := hwp.1 c7
    refine x_iconst (v := 2) C0 d_Ch_nthWorked_37 (by decide) ?_
    exact x_iret C0 hr hlk hwp d_Ch_nthWorked_38
  · replace hwp := hwp.2 c7
    refine x_aload_n C0 0 d_Ch_nthWorked_10 rfl rfl ?_
    obtain ⟨x11, e11, hwp⟩ := hwp
    refine x_getI C0 fk_Ch_41 e11 d_Ch_nthWorked_11 ?_
    refine x_iload_n C0 3 d_Ch_nthWorked_14 rfl rfl ?_
    refine x_callSi0 (As := [.int x11, .int l3]) (st := []) C0 (c_Ch_has l G hwp) kw_1_236 mk_Ch_has kw_1_237 rfl (Nat.le_of_ble_eq_true rfl) rfl rfl ⟨Nat.le_trans (by decide) hR.1, Nat.le_trans (by decide) hR.2.1⟩ ⟨Nat.zero_le _, Nat.zero_le _⟩ rfl d_Ch_nthWorked_15 (fun r15 h15 hwp => ?_)
    refine x_if_eq (tgt := 31) C0 d_Ch_nthWorked_18 (by decide) (fun c18 => ?_) (fun c18 => ?_)
    · replace hwp := hwp.1 c18
      exact x_sub [0, 1, 2, 3] rfl (t_Ch_nthWorked_31 G C0 hR hr hlk hK4 _ _ _ _ _ hwp)
    · replace hwp := hwp.2 c18
      refine x_iload_n C0 2 d_Ch_nthWorked_21 rfl rfl ?_
      refine x_iload_n C0 1 d_Ch_nthWorked_22 rfl rfl ?_
      refine x_icmp_ne (tgt := 28) C0 d_Ch_nthWorked_23 (by decide) (fun c23 => ?_) (fun c23 => ?_)
      · replace hwp := hwp.1 c23
        refine x_iinc C0 2 d_Ch_nthWorked_28 rfl rfl (by decide) (lv' := [(2, .int (l2 + (1 : Int32))), (0, .ref (m_b G + l0)), (1, .int l1), (3, .int l3)]) rfl ?_
        exact x_sub [1, 2, 0, 3] rfl (t_Ch_nthWorked_31 G C0 hR hr hlk hK4 _ _ _ _ _ hwp)
      · replace hwp := hwp.2 c23
        refine x_iload_n C0 3 d_Ch_nthWorked_26 rfl rfl ?_
        exact x_iret C0 hr hlk hwp d_Ch_nthWorked_27
theorem t_Ch_nthWorked_4 {p : Program} {l : Launch} {e : Env} {R : Room} {s : State} {m : MethodId} {args : Array Value} {below : List Frame} {meth : Method} {c : Code} (G : mG) (C0 : Cx G p s m args c prog_2_method_8_code 4 "BassRealiser$Chord") (hR : 1 ≤ R.frames ∧ 21 ≤ R.locals ∧ 0 ≤ R.cells ∧ 0 ≤ R.slots) (hr : meth.sig.returnType = some .int) (hlk : meth.locks = false) {Post : Int32 → MH → Prop} (l0 : Nat) (l1 : Int32) (l2 : Int32) (l3 : Int32) (h : MH) (hwp : wp_Ch_nthWorked_4 Post l0 l1 l2 l3 h) : WG p l e R s m args below meth c 0 0 (MQ below (va_Qi Post (Wd G) (mA G)) args s 0 0 (mA G)) G 4 [(0, .ref (m_b G + l0)), (1, .int l1), (2, .int l2), (3, .int l3)] 4 [] h := by
  obtain ⟨n, hwp⟩ := hwp
  induction n generalizing l0 l1 l2 l3 h with
  | zero => exact False.elim hwp
  | succ n ih => exact tb_Ch_nthWorked_4 G C0 hR hr hlk (fun l0 l1 l2 l3 h hwp => ih l0 l1 l2 l3 h hwp) l0 l1 l2 l3 h hwp
set_option maxRecDepth 100000 in
set_option maxHeartbeats 4000000 in
theorem t_Ch_nthWorked {p : Program} {l : Launch} {e : Env} {R : Room} {s : State} {m : MethodId} {args : Array Value} {below : List Frame} {meth : Method} {c : Code} (G : mG) (C0 : Cx G p s m args c prog_2_method_8_code 4 "BassRealiser$Chord") (hR : 1 ≤ R.frames ∧ 21 ≤ R.locals ∧ 0 ≤ R.cells ∧ 0 ≤ R.slots) (hr : meth.sig.returnType = some .int) (hlk : meth.locks = false) {Post : Int32 → MH → Prop} (l0 : Nat) (l1 : Int32) (h : MH) (hwp : wp_Ch_nthWorked Post l0 l1 h) : WG p l e R s m args below meth c 0 0 (MQ below (va_Qi Post (Wd G) (mA G)) args s 0 0 (mA G)) G 4 [(0, .ref (m_b G + l0)), (1, .int l1)] 0 [] h := by
  unfold wp_Ch_nthWorked at hwp
  refine x_iconst (v := 0) C0 d_Ch_nthWorked_0 (by decide) ?_
  refine x_istore_n C0 d_Ch_nthWorked_1 rfl (by decide) (lv' := [(2, .int (0 : Int32)), (0, .ref (m_b G + l0)), (1, .int l1)]) rfl ?_
  refine x_iconst (v := 2) C0 d_Ch_nthWorked_2 (by decide) ?_
  refine x_istore_n C0 d_Ch_nthWorked_3 rfl (by decide) (lv' := [(3, .int (2 : Int32)), (2, .int (0 : Int32)), (0, .ref (m_b G + l0)), (1, .int l1)]) rfl ?_
  exact x_sub [2, 3, 1, 0] rfl (t_Ch_nthWorked_4 G C0 hR hr hlk  _ _ _ _ _ hwp)
set_option maxRecDepth 100000 in
set_option maxHeartbeats 4000000 in
theorem c_Ch_nthWorked (l : Launch) (G : mG) {Post : Int32 → MH → Prop} {l0 : Nat} {l1 : Int32} {h : MH} (hwp : wp_Ch_nthWorked Post l0 l1 h) : Met l y_Ch_nthWorked (Cond.code y_Ch_nthWorked prog_2_method_8_code 4 (Option.some Jvm.ClassFile.FieldType.int) :: lw_good) ({ frames := 1, cells := 0, slots := 0, locals := 21 }) (va_Pc [.ref (m_b G + l0), .int l1] (Wd G h)) (va_Qi Post (Wd G) (mA G)) 0 0 (mA G) := by
  refine Met.ofW (cc := prog_2_method_8_code) (maxL := 4) (ret := (Option.some Jvm.ClassFile.FieldType.int)) (by decide +kernel) rfl ?_
  intro p e s m args below meth c s₁ B hml hv
  obtain ⟨rfl, hP, hz, hK, hSt⟩ := hv
  have hts := atoms_spec (ws := Cond.code y_Ch_nthWorked prog_2_method_8_code 4 (Option.some Jvm.ClassFile.FieldType.int) :: lw_good) B.pre
  have C0 : Cx G p s m ([.ref (m_b G + l0), .int l1] : List Value).toArray c prog_2_method_8_code 4 "BassRealiser$Chord" := ⟨⟨B.exec, B.bytes, hml, findClass_of_methodNamed B.named, fun w h => hts w (List.mem_cons_of_mem _ h)⟩, hK, hSt, by rw [hz]; exact Nat.le_add_right _ _⟩
  have hl := lv_entry ([.ref (m_b G + l0), .int l1]) (n := 4) (Nat.le_of_ble_eq_true rfl)
  rw [lg_entry_eq]
  exact t_Ch_nthWorked G C0 ⟨Nat.le_refl _, Nat.le_refl _, Nat.le_refl _, Nat.le_refl _⟩ B.returns B.notSynchronized _ _ _ hwp _ _ _ ⟨hP, hz, va_S.rf⟩ hl
def wp_Ch_about (Post : Int32 → MH → Prop) (l0 : Nat) (l1 : Int32) (l2 : Int32) (l3 : Int32) (h : MH) : Prop :=
  (l2 = (0 : Int32) →
    (Post l1 h)) ∧
  (l2 = (1 : Int32) →
    (∃ x43 : Nat, gF h l0 0 4 = some (.inr (some x43)) ∧
      (∃ (n47 : Nat) (f47 : Nat → Int32), gA h x43 0 = some (n47, f47) ∧ vp_in l1 n47 ∧
        (Post (f47 (l1).toNatClampNeg) h)))) ∧
  (l2 = (2 : Int32) →
    (gC h l0 = some 0 ∧ wp_Ch_toneLetter (fun (r51 : Int32) (h51 : MH) =>
        (Post r51 h51)) l0 l1 h)) ∧
  (l2 = (3 : Int32) →
    (gC h l0 = some 0 ∧ wp_Ch_toneAlter (fun (r58 : Int32) (h58 : MH) =>
        (Post r58 h58)) l0 l1 l3 h)) ∧
  (l2 = (4 : Int32) →
    (gC h l0 = some 0 ∧ wp_Ch_toneClass (fun (r65 : Int32) (h65 : MH) =>
        (Post r65 h65)) l0 l1 l3 h)) ∧
  (l2 = (5 : Int32) →
    (∃ x70 : Int32, gF h l0 0 2 = some (.inl x70) ∧
      (wp_Ch_has (fun (r74 : Int32) (h74 : MH) =>
          (((r74 = 0) →
              (Post (0 : Int32) h74)) ∧
            ((¬ r74 = 0) →
              (Post (1 : Int32) h74)))) x70 l1 h))) ∧
  (¬ l2 = (0 : Int32) → ¬ l2 = (1 : Int32) → ¬ l2 = (2 : Int32) → ¬ l2 = (3 : Int32) → ¬ l2 = (4 : Int32) → ¬ l2 = (5 : Int32) →
    (gC h l0 = some 0 ∧ wp_Ch_kind (fun (r88 : Int32) (h88 : MH) =>
        (Post r88 h88)) l0 l1 h))
set_option maxRecDepth 100000 in
set_option maxHeartbeats 4000000 in
theorem t_Ch_about {p : Program} {l : Launch} {e : Env} {R : Room} {s : State} {m : MethodId} {args : Array Value} {below : List Frame} {meth : Method} {c : Code} (G : mG) (C0 : Cx G p s m args c prog_2_method_9_code 4 "BassRealiser$Chord") (hR : 4 ≤ R.frames ∧ 89 ≤ R.locals ∧ 0 ≤ R.cells ∧ 0 ≤ R.slots) (hr : meth.sig.returnType = some .int) (hlk : meth.locks = false) {Post : Int32 → MH → Prop} (l0 : Nat) (l1 : Int32) (l2 : Int32) (l3 : Int32) (h : MH) (hwp : wp_Ch_about Post l0 l1 l2 l3 h) : WG p l e R s m args below meth c 0 0 (MQ below (va_Qi Post (Wd G) (mA G)) args s 0 0 (mA G)) G 4 [(0, .ref (m_b G + l0)), (1, .int l1), (2, .int l2), (3, .int l3)] 0 [] h := by
  unfold wp_Ch_about at hwp
  refine x_iload_n C0 2 d_Ch_about_0 rfl rfl ?_
  by_cases c1_0 : l2 = (0 : Int32)
  · replace hwp := hwp.1 c1_0
    refine x_tableIn (tgt := 40) (off := 39) C0 d_Ch_about_1 (by rw [c1_0]; decide) (by rw [c1_0]; decide) (by rw [c1_0]; rfl) (by decide) ?_
    refine x_iload_n C0 1 d_Ch_about_40 rfl rfl ?_
    exact x_iret C0 hr hlk hwp d_Ch_about_41
  by_cases c1_1 : l2 = (1 : Int32)
  · replace hwp := hwp.2.1 c1_1
    refine x_tableIn (tgt := 42) (off := 41) C0 d_Ch_about_1 (by rw [c1_1]; decide) (by rw [c1_1]; decide) (by rw [c1_1]; rfl) (by decide) ?_
    refine x_aload_n C0 0 d_Ch_about_42 rfl rfl ?_
    obtain ⟨x43, e43, hwp⟩ := hwp
    refine x_getR C0 fk_Ch_9 e43 d_Ch_about_43 ?_
    refine x_iload_n C0 1 d_Ch_about_46 rfl rfl ?_
    obtain ⟨n47, f47, e47, i47, hwp⟩ := hwp
    refine x_iald C0 e47 i47 d_Ch_about_47 ?_
    exact x_iret C0 hr hlk hwp d_Ch_about_48
  by_cases c1_2 : l2 = (2 : Int32)
  · replace hwp := hwp.2.2.1 c1_2
    refine x_tableIn (tgt := 49) (off := 48) C0 d_Ch_about_1 (by rw [c1_2]; decide) (by rw [c1_2]; decide) (by rw [c1_2]; rfl) (by decide) ?_
    refine x_aload_n C0 0 d_Ch_about_49 rfl rfl ?_
    refine x_iload_n C0 1 d_Ch_about_50 rfl rfl ?_
    obtain ⟨g51, hwp⟩ := hwp
    refine x_callVi0 (k := l0) (As := [.int l1]) (st := []) C0 (c_Ch_toneLetter l G hwp) kw_2_5 mk_Ch_toneLetter vk_Ch_toneLetter rfl g51 rfl (Nat.le_of_ble_eq_true rfl) rfl rfl ⟨Nat.le_trans (by decide) hR.1, Nat.le_trans (by decide) hR.2.1⟩ ⟨Nat.zero_le _, Nat.zero_le _⟩ rfl d_Ch_about_51 (fun r51 h51 hwp => ?_)
    exact x_iret C0 hr hlk hwp d_Ch_about_54
  by_cases c1_3 : l2 = (3 : Int32)
  · replace hwp := hwp.2.2.2.1 c1_3
    refine x_tableIn (tgt := 55) (off := 54) C0 d_Ch_about_1 (by rw [c1_3]; decide) (by rw [c1_3]; decide) (by rw [c1_3]; rfl) (by decide) ?_
    refine x_aload_n C0 0 d_Ch_about_55 rfl rfl ?_
    refine x_iload_n C0 1 d_Ch_about_56 rfl rfl ?_
    refine x_iload_n C0 3 d_Ch_about_57 rfl rfl ?_
    obtain ⟨g58, hwp⟩ := hwp
    refine x_callVi0 (k := l0) (As := [.int l1, .int l3]) (st := []) C0 (c_Ch_toneAlter l G hwp) kw_2_9 mk_Ch_toneAlter vk_Ch_toneAlter rfl g58 rfl (Nat.le_of_ble_eq_true rfl) rfl rfl ⟨Nat.le_trans (by decide) hR.1, Nat.le_trans (by decide) hR.2.1⟩ ⟨Nat.zero_le _, Nat.zero_le _⟩ rfl d_Ch_about_58 (fun r58 h58 hwp => ?_)
    exact x_iret C0 hr hlk hwp d_Ch_about_61
  by_cases c1_4 : l2 = (4 : Int32)
  · replace hwp := hwp.2.2.2.2.1 c1_4
    refine x_tableIn (tgt := 62) (off := 61) C0 d_Ch_about_1 (by rw [c1_4]; decide) (by rw [c1_4]; decide) (by rw [c1_4]; rfl) (by decide) ?_
    refine x_aload_n C0 0 d_Ch_about_62 rfl rfl ?_
    refine x_iload_n C0 1 d_Ch_about_63 rfl rfl ?_
    refine x_iload_n C0 3 d_Ch_about_64 rfl rfl ?_
    obtain ⟨g65, hwp⟩ := hwp
    refine x_callVi0 (k := l0) (As := [.int l1, .int l3]) (st := []) C0 (c_Ch_toneClass l G hwp) kw_1_239 mk_Ch_toneClass vk_Ch_toneClass rfl g65 rfl (Nat.le_of_ble_eq_true rfl) rfl rfl ⟨Nat.le_trans (by decide) hR.1, Nat.le_trans (by decide) hR.2.1⟩ ⟨Nat.zero_le _, Nat.zero_le _⟩ rfl d_Ch_about_65 (fun r65 h65 hwp => ?_)
    exact x_iret C0 hr hlk hwp d_Ch_about_68
  by_cases c1_5 : l2 = (5 : Int32)
  · replace hwp := hwp.2.2.2.2.2.1 c1_5
    refine x_tableIn (tgt := 69) (off := 68) C0 d_Ch_about_1 (by rw [c1_5]; decide) (by rw [c1_5]; decide) (by rw [c1_5]; rfl) (by decide) ?_
    refine x_aload_n C0 0 d_Ch_about_69 rfl rfl ?_
    obtain ⟨x70, e70, hwp⟩ := hwp
    refine x_getI C0 fk_Ch_34 e70 d_Ch_about_70 ?_
    refine x_iload_n C0 1 d_Ch_about_73 rfl rfl ?_
    refine x_callSi0 (As := [.int x70, .int l1]) (st := []) C0 (c_Ch_has l G hwp) kw_1_236 mk_Ch_has kw_1_237 rfl (Nat.le_of_ble_eq_true rfl) rfl rfl ⟨Nat.le_trans (by decide) hR.1, Nat.le_trans (by decide) hR.2.1⟩ ⟨Nat.zero_le _, Nat.zero_le _⟩ rfl d_Ch_about_74 (fun r74 h74 hwp => ?_)
    refine x_if_eq (tgt := 84) C0 d_Ch_about_77 (by decide) (fun c77 => ?_) (fun c77 => ?_)
    · replace hwp := hwp.1 c77
      refine x_iconst (v := 0) C0 d_Ch_about_84 (by decide) ?_
      exact x_iret C0 hr hlk hwp d_Ch_about_85
    · replace hwp := hwp.2 c77
      refine x_iconst (v := 1) C0 d_Ch_about_80 (by decide) ?_
      refine x_goto (tgt := 85) C0 d_Ch_about_81 (by decide) ?_
      exact x_iret C0 hr hlk hwp d_Ch_about_85
  have so1 : (l2).toInt < 0 ∨ 5 < (l2).toInt := by
    refine sw_out (fun k h1 h2 => ?_)
    obtain rfl | rfl | rfl | rfl | rfl | rfl : k = 0 ∨ k = 1 ∨ k = 2 ∨ k = 3 ∨ k = 4 ∨ k = 5 := by omega
    · exact c1_0
    · exact c1_1
    · exact c1_2
    · exact c1_3
    · exact c1_4
    · exact c1_5
  replace hwp := hwp.2.2.2.2.2.2 c1_0 c1_1 c1_2 c1_3 c1_4 c1_5
  refine x_tableOut (tgt := 86) C0 d_Ch_about_1 so1 (by decide) ?_
  refine x_aload_n C0 0 d_Ch_about_86 rfl rfl ?_
  refine x_iload_n C0 1 d_Ch_about_87 rfl rfl ?_
  obtain ⟨g88, hwp⟩ := hwp
  refine x_callVi0 (k := l0) (As := [.int l1]) (st := []) C0 (c_Ch_kind l G hwp) kw_2_29 mk_Ch_kind vk_Ch_kind rfl g88 rfl (Nat.le_of_ble_eq_true rfl) rfl rfl ⟨Nat.le_trans (by decide) hR.1, Nat.le_trans (by decide) hR.2.1⟩ ⟨Nat.zero_le _, Nat.zero_le _⟩ rfl d_Ch_about_88 (fun r88 h88 hwp => ?_)
  exact x_iret C0 hr hlk hwp d_Ch_about_91
set_option maxRecDepth 100000 in
set_option maxHeartbeats 4000000 in
theorem c_Ch_about (l : Launch) (G : mG) {Post : Int32 → MH → Prop} {l0 : Nat} {l1 : Int32} {l2 : Int32} {l3 : Int32} {h : MH} (hwp : wp_Ch_about Post l0 l1 l2 l3 h) : Met l y_Ch_about (Cond.code y_Ch_about prog_2_method_9_code 4 (Option.some Jvm.ClassFile.FieldType.int) :: lw_good) ({ frames := 4, cells := 0, slots := 0, locals := 89 }) (va_Pc [.ref (m_b G + l0), .int l1, .int l2, .int l3] (Wd G h)) (va_Qi Post (Wd G) (mA G)) 0 0 (mA G) := by
  refine Met.ofW (cc := prog_2_method_9_code) (maxL := 4) (ret := (Option.some Jvm.ClassFile.FieldType.int)) (by decide +kernel) rfl ?_
  intro p e s m args below meth c s₁ B hml hv
  obtain ⟨rfl, hP, hz, hK, hSt⟩ := hv
  have hts := atoms_spec (ws := Cond.code y_Ch_about prog_2_method_9_code 4 (Option.some Jvm.ClassFile.FieldType.int) :: lw_good) B.pre
  have C0 : Cx G p s m ([.ref (m_b G + l0), .int l1, .int l2, .int l3] : List Value).toArray c prog_2_method_9_code 4 "BassRealiser$Chord" := ⟨⟨B.exec, B.bytes, hml, findClass_of_methodNamed B.named, fun w h => hts w (List.mem_cons_of_mem _ h)⟩, hK, hSt, by rw [hz]; exact Nat.le_add_right _ _⟩
  have hl := lv_entry ([.ref (m_b G + l0), .int l1, .int l2, .int l3]) (n := 4) (Nat.le_of_ble_eq_true rfl)
  rw [lg_entry_eq]
  exact t_Ch_about G C0 ⟨Nat.le_refl _, Nat.le_refl _, Nat.le_refl _, Nat.le_refl _⟩ B.returns B.notSynchronized _ _ _ _ _ hwp _ _ _ ⟨hP, hz, va_S.rf⟩ hl
def wp_Br_worked (Post : Int32 → MH → Prop) (l0 : Nat) (l1 : Int32) (l2 : Int32) (l3 : Int32) (h : MH) : Prop :=
  gC h l0 = some 5 ∧ wp_Br_hasChord (fun (r2 : Int32) (h2 : MH) =>
    (((r2 = 0) →
        (Post (-1 : Int32) h2)) ∧
      ((¬ r2 = 0) →
        (wp_Br_within (fun (r12 : Int32) (h12 : MH) =>
            (((¬ r12 = 0) →
                (∃ x21 : Nat, gF h12 l0 5 1 = some (.inr (some x21)) ∧
                  (∃ (n25 : Nat) (f25 : Nat → Option Nat) (q25 : Nat), gR h12 x21 3 = some (n25, f25) ∧ vp_in l1 n25 ∧ f25 (l1).toNatClampNeg = some q25 ∧
                    (∃ x30 : Int32, gF h12 q25 0 3 = some (.inl x30) ∧
                      (wp_In_bitCount (fun (r33 : Int32) (h33 : MH) =>
                        (((¬ l3 = (7 : Int32)) →
                        (wp_Br_within (fun (r53 : Int32) (h53 : MH) =>
                        (((r53 = 0) →
                        (Post (-1 : Int32) h53)) ∧
                        ((¬ r53 = 0) →
                        (gC h53 q25 = some 0 ∧ wp_Ch_nthWorked (fun (r64 : Int32) (h64 : MH) =>
                        (∃ x69 : Nat, gF h64 l0 5 2 = some (.inr (some x69)) ∧
                        (∃ x72 : Int32, gF h64 x69 3 4 = some (.inl x72) ∧
                        (gC h64 q25 = some 0 ∧ wp_Ch_about (fun (r75 : Int32) (h75 : MH) =>
                        (Post r75 h75)) q25 r64 l3 x72 h64)))) q25 l2 h53)))) l2 (0 : Int32) (r33 - (1 : Int32)) h33)) ∧
                        ((l3 = (7 : Int32)) →
                        (Post r33 h33)))) x30 h12))))) ∧
              ((r12 = 0) →
                (Post (-1 : Int32) h12)))) l3 (0 : Int32) (7 : Int32) h2)))) l0 l1 h
set_option maxRecDepth 100000 in
set_option maxHeartbeats 4000000 in
theorem t_Br_worked {p : Program} {l : Launch} {e : Env} {R : Room} {s : State} {m : MethodId} {args : Array Value} {below : List Frame} {meth : Method} {c : Code} (G : mG) (C0 : Cx G p s m args c prog_1_method_12_code 6 "BassRealiser") (hR : 5 ≤ R.frames ∧ 112 ≤ R.locals ∧ 0 ≤ R.cells ∧ 0 ≤ R.slots) (hr : meth.sig.returnType = some .int) (hlk : meth.locks = false) {Post : Int32 → MH → Prop} (l0 : Nat) (l1 : Int32) (l2 : Int32) (l3 : Int32) (h : MH) (hwp : wp_Br_worked Post l0 l1 l2 l3 h) : WG p l e R s m args below meth c 0 0 (MQ below (va_Qi Post (Wd G) (mA G)) args s 0 0 (mA G)) G 6 [(0, .ref (m_b G + l0)), (1, .int l1), (2, .int l2), (3, .int l3)] 0 [] h := by
  unfold wp_Br_worked at hwp
  refine x_aload_n C0 0 d_Br_worked_0 rfl rfl ?_
  refine x_iload_n C0 1 d_Br_worked_1 rfl rfl ?_
  obtain ⟨g2, hwp⟩ := hwp
  refine x_callVi0 (k := l0) (As := [.int l1]) (st := []) C0 (c_Br_hasChord l G hwp) kw_2_64 mk_Br_hasChord vk_Br_hasChord rfl g2 rfl (Nat.le_of_ble_eq_true rfl) rfl rfl ⟨Nat.le_trans (by decide) hR.1, Nat.le_trans (by decide) hR.2.1⟩ ⟨Nat.zero_le _, Nat.zero_le _⟩ rfl d_Br_worked_2 (fun r2 h2 hwp => ?_)
  refine x_if_eq (tgt := 18) C0 d_Br_worked_5 (by decide) (fun c5 => ?_) (fun c5 => ?_)
  · replace hwp := hwp.1 c5
    refine x_iconst (v := -1) C0 d_Br_worked_18 (by decide) ?_
    exact x_iret C0 hr hlk hwp d_Br_worked_19
  · replace hwp := hwp.2 c5
    refine x_iload_n C0 3 d_Br_worked_8 rfl rfl ?_
    refine x_iconst (v := 0) C0 d_Br_worked_9 (by decide) ?_
    refine x_bipush (v := 7) C0 d_Br_worked_10 (by decide) ?_
    refine x_callSi0 (As := [.int l3, .int (0 : Int32), .int (7 : Int32)]) (st := []) C0 (c_Br_within l G hwp) kw_1_226 mk_Br_within kw_1_227 rfl (Nat.le_of_ble_eq_true rfl) rfl rfl ⟨Nat.le_trans (by decide) hR.1, Nat.le_trans (by decide) hR.2.1⟩ ⟨Nat.zero_le _, Nat.zero_le _⟩ rfl d_Br_worked_12 (fun r12 h12 hwp => ?_)
    refine x_if_ne (tgt := 20) C0 d_Br_worked_15 (by decide) (fun c15 => ?_) (fun c15 => ?_)
    · replace hwp := hwp.1 c15
      refine x_aload_n C0 0 d_Br_worked_20 rfl rfl ?_
      obtain ⟨x21, e21, hwp⟩ := hwp
      refine x_getR C0 fk_Br_20 e21 d_Br_worked_21 ?_
      refine x_iload_n C0 1 d_Br_worked_24 rfl rfl ?_
      obtain ⟨n25, f25, q25, e25, i25, g25, hwp⟩ := hwp
      refine x_aald (t := 3) C0 e25 rfl i25 g25 d_Br_worked_25 ?_
      refine x_astore C0 d_Br_worked_26 (by decide) (lv' := [(4, .ref (m_b G + q25)), (0, .ref (m_b G + l0)), (1, .int l1), (2, .int l2), (3, .int l3)]) rfl ?_
      refine x_aload C0 0 d_Br_worked_28 rfl ?_
      obtain ⟨x30, e30, hwp⟩ := hwp
      refine x_getI C0 fk_Br_82 e30 d_Br_worked_30 ?_
      refine x_callSi0 (As := [.int x30]) (st := []) C0 (c_In_bitCount l G hwp) kw_2_69 mk_In_bitCount kw_2_70 rfl (Nat.le_of_ble_eq_true rfl) rfl rfl ⟨Nat.le_trans (by decide) hR.1, Nat.le_trans (by decide) hR.2.1⟩ ⟨Nat.zero_le _, Nat.zero_le _⟩ rfl d_Br_worked_33 (fun r33 h33 hwp => ?_)
      refine x_istore C0 d_Br_worked_36 (by decide) (lv' := [(5, .int r33), (4, .ref (m_b G + q25)), (0, .ref (m_b G + l0)), (1, .int l1), (2, .int l2), (3, .int l3)]) rfl ?_
      refine x_iload_n C0 5 d_Br_worked_38 rfl rfl ?_
      refine x_bipush (v := 7) C0 d_Br_worked_39 (by decide) ?_
      refine x_icmp_ne (tgt := 47) C0 d_Br_worked_41 (by decide) (fun c41 => ?_) (fun c41 => ?_)
      · replace hwp := hwp.1 c41
        refine x_iload_n C0 4 d_Br_worked_47 rfl rfl ?_
        refine x_iconst (v := 0) C0 d_Br_worked_48 (by decide) ?_
        refine x_iload C0 0 d_Br_worked_49 rfl ?_
        refine x_iconst (v := 1) C0 d_Br_worked_51 (by decide) ?_
        refine x_isub C0 d_Br_worked_52 ?_
        refine x_callSi0 (As := [.int l2, .int (0 : Int32), .int (r33 - (1 : Int32))]) (st := []) C0 (c_Br_within l G hwp) kw_1_226 mk_Br_within kw_1_227 rfl (Nat.le_of_ble_eq_true rfl) rfl rfl ⟨Nat.le_trans (by decide) hR.1, Nat.le_trans (by decide) hR.2.1⟩ ⟨Nat.zero_le _, Nat.zero_le _⟩ rfl d_Br_worked_53 (fun r53 h53 hwp => ?_)
        refine x_if_eq (tgt := 81) C0 d_Br_worked_56 (by decide) (fun c56 => ?_) (fun c56 => ?_)
        · replace hwp := hwp.1 c56
          refine x_iconst (v := -1) C0 d_Br_worked_81 (by decide) ?_
          exact x_iret C0 hr hlk hwp d_Br_worked_82
        · replace hwp := hwp.2 c56
          refine x_aload C0 1 d_Br_worked_59 rfl ?_
          refine x_aload C0 1 d_Br_worked_61 rfl ?_
          refine x_iload_n C0 4 d_Br_worked_63 rfl rfl ?_
          obtain ⟨g64, hwp⟩ := hwp
          refine x_callVi0 (k := q25) (As := [.int l2]) (st := [.ref (m_b G + q25)]) C0 (c_Ch_nthWorked l G hwp) kw_2_118 mk_Ch_nthWorked vk_Ch_nthWorked rfl g64 rfl (Nat.le_of_ble_eq_true rfl) rfl rfl ⟨Nat.le_trans (by decide) hR.1, Nat.le_trans (by decide) hR.2.1⟩ ⟨Nat.zero_le _, Nat.zero_le _⟩ rfl d_Br_worked_64 (fun r64 h64 hwp => ?_)
          refine x_iload_n C0 5 d_Br_worked_67 rfl rfl ?_
          refine x_aload_n C0 2 d_Br_worked_68 rfl rfl ?_
          obtain ⟨x69, e69, hwp⟩ := hwp
          refine x_getR C0 fk_Br_25 e69 d_Br_worked_69 ?_
          obtain ⟨x72, e72, hwp⟩ := hwp
          refine x_getI C0 fk_Br_41 e72 d_Br_worked_72 ?_
          obtain ⟨g75, hwp⟩ := hwp
          refine x_callVi0 (k := q25) (As := [.int r64, .int l3, .int x72]) (st := []) C0 (c_Ch_about l G hwp) kw_2_122 mk_Ch_about vk_Ch_about rfl g75 rfl (Nat.le_of_ble_eq_true rfl) rfl rfl ⟨Nat.le_trans (by decide) hR.1, Nat.le_trans (by decide) hR.2.1⟩ ⟨Nat.zero_le _, Nat.zero_le _⟩ rfl d_Br_worked_75 (fun r75 h75 hwp => ?_)
          refine x_goto (tgt := 82) C0 d_Br_worked_78 (by decide) ?_
          exact x_iret C0 hr hlk hwp d_Br_worked_82
      · replace hwp := hwp.2 c41
        refine x_iload C0 0 d_Br_worked_44 rfl ?_
        exact x_iret C0 hr hlk hwp d_Br_worked_46
    · replace hwp := hwp.2 c15
      refine x_iconst (v := -1) C0 d_Br_worked_18 (by decide) ?_
      exact x_iret C0 hr hlk hwp d_Br_worked_19
set_option maxRecDepth 100000 in
set_option maxHeartbeats 4000000 in
theorem c_Br_worked (l : Launch) (G : mG) {Post : Int32 → MH → Prop} {l0 : Nat} {l1 : Int32} {l2 : Int32} {l3 : Int32} {h : MH} (hwp : wp_Br_worked Post l0 l1 l2 l3 h) : Met l y_Br_worked (Cond.code y_Br_worked prog_1_method_12_code 6 (Option.some Jvm.ClassFile.FieldType.int) :: lw_good) ({ frames := 5, cells := 0, slots := 0, locals := 112 }) (va_Pc [.ref (m_b G + l0), .int l1, .int l2, .int l3] (Wd G h)) (va_Qi Post (Wd G) (mA G)) 0 0 (mA G) := by
  refine Met.ofW (cc := prog_1_method_12_code) (maxL := 6) (ret := (Option.some Jvm.ClassFile.FieldType.int)) (by decide +kernel) rfl ?_
  intro p e s m args below meth c s₁ B hml hv
  obtain ⟨rfl, hP, hz, hK, hSt⟩ := hv
  have hts := atoms_spec (ws := Cond.code y_Br_worked prog_1_method_12_code 6 (Option.some Jvm.ClassFile.FieldType.int) :: lw_good) B.pre
  have C0 : Cx G p s m ([.ref (m_b G + l0), .int l1, .int l2, .int l3] : List Value).toArray c prog_1_method_12_code 6 "BassRealiser" := ⟨⟨B.exec, B.bytes, hml, findClass_of_methodNamed B.named, fun w h => hts w (List.mem_cons_of_mem _ h)⟩, hK, hSt, by rw [hz]; exact Nat.le_add_right _ _⟩
  have hl := lv_entry ([.ref (m_b G + l0), .int l1, .int l2, .int l3]) (n := 6) (Nat.le_of_ble_eq_true rfl)
  rw [lg_entry_eq]
  exact t_Br_worked G C0 ⟨Nat.le_refl _, Nat.le_refl _, Nat.le_refl _, Nat.le_refl _⟩ B.returns B.notSynchronized _ _ _ _ _ hwp _ _ _ ⟨hP, hz, va_S.rf⟩ hl
def wp_Rm_letterOf (Post : Int32 → MH → Prop) (l0 : Nat) (l1 : Int32) (l2 : Int32) (h : MH) : Prop :=
  ∃ x1 : Nat, gF h l0 6 3 = some (.inr (some x1)) ∧
  (∃ (n5 : Nat) (f5 : Nat → Int32), gA h x1 0 = some (n5, f5) ∧ vp_in l1 n5 ∧
    (Post ((((f5 (l1).toNatClampNeg) + l2) - (1 : Int32)) - (((f5 (l1).toNatClampNeg) + l2) - (1 : Int32)) / (7 : Int32) * (7 : Int32)) h))
set_option maxRecDepth 100000 in
set_option maxHeartbeats 4000000 in
theorem t_Rm_letterOf {p : Program} {l : Launch} {e : Env} {R : Room} {s : State} {m : MethodId} {args : Array Value} {below : List Frame} {meth : Method} {c : Code} (G : mG) (C0 : Cx G p s m args c prog_8_method_21_code 3 "BassRealiserModel") (hR : 0 ≤ R.frames ∧ 0 ≤ R.locals ∧ 0 ≤ R.cells ∧ 0 ≤ R.slots) (hr : meth.sig.returnType = some .int) (hlk : meth.locks = false) {Post : Int32 → MH → Prop} (l0 : Nat) (l1 : Int32) (l2 : Int32) (h : MH) (hwp : wp_Rm_letterOf Post l0 l1 l2 h) : WG p l e R s m args below meth c 0 0 (MQ below (va_Qi Post (Wd G) (mA G)) args s 0 0 (mA G)) G 3 [(0, .ref (m_b G + l0)), (1, .int l1), (2, .int l2)] 0 [] h := by
  unfold wp_Rm_letterOf at hwp
  refine x_aload_n C0 0 d_Rm_letterOf_0 rfl rfl ?_
  obtain ⟨x1, e1, hwp⟩ := hwp
  refine x_getR C0 fk_Rm_13 e1 d_Rm_letterOf_1 ?_
  refine x_iload_n C0 1 d_Rm_letterOf_4 rfl rfl ?_
  obtain ⟨n5, f5, e5, i5, hwp⟩ := hwp
  refine x_iald C0 e5 i5 d_Rm_letterOf_5 ?_
  refine x_iload_n C0 2 d_Rm_letterOf_6 rfl rfl ?_
  refine x_iadd C0 d_Rm_letterOf_7 ?_
  refine x_iconst (v := 1) C0 d_Rm_letterOf_8 (by decide) ?_
  refine x_isub C0 d_Rm_letterOf_9 ?_
  refine x_bipush (v := 7) C0 d_Rm_letterOf_10 (by decide) ?_
  refine x_irem C0 d_Rm_letterOf_12 (by decide) ?_
  exact x_iret C0 hr hlk hwp d_Rm_letterOf_13
set_option maxRecDepth 100000 in
set_option maxHeartbeats 4000000 in
theorem c_Rm_letterOf (l : Launch) (G : mG) {Post : Int32 → MH → Prop} {l0 : Nat} {l1 : Int32} {l2 : Int32} {h : MH} (hwp : wp_Rm_letterOf Post l0 l1 l2 h) : Met l y_Rm_letterOf (Cond.code y_Rm_letterOf prog_8_method_21_code 3 (Option.some Jvm.ClassFile.FieldType.int) :: lw_good) ({ frames := 0, cells := 0, slots := 0, locals := 0 }) (va_Pc [.ref (m_b G + l0), .int l1, .int l2] (Wd G h)) (va_Qi Post (Wd G) (mA G)) 0 0 (mA G) := by
  refine Met.ofW (cc := prog_8_method_21_code) (maxL := 3) (ret := (Option.some Jvm.ClassFile.FieldType.int)) (by decide +kernel) rfl ?_
  intro p e s m args below meth c s₁ B hml hv
  obtain ⟨rfl, hP, hz, hK, hSt⟩ := hv
  have hts := atoms_spec (ws := Cond.code y_Rm_letterOf prog_8_method_21_code 3 (Option.some Jvm.ClassFile.FieldType.int) :: lw_good) B.pre
  have C0 : Cx G p s m ([.ref (m_b G + l0), .int l1, .int l2] : List Value).toArray c prog_8_method_21_code 3 "BassRealiserModel" := ⟨⟨B.exec, B.bytes, hml, findClass_of_methodNamed B.named, fun w h => hts w (List.mem_cons_of_mem _ h)⟩, hK, hSt, by rw [hz]; exact Nat.le_add_right _ _⟩
  have hl := lv_entry ([.ref (m_b G + l0), .int l1, .int l2]) (n := 3) (Nat.le_of_ble_eq_true rfl)
  rw [lg_entry_eq]
  exact t_Rm_letterOf G C0 ⟨Nat.le_refl _, Nat.le_refl _, Nat.le_refl _, Nat.le_refl _⟩ B.returns B.notSynchronized _ _ _ _ hwp _ _ _ ⟨hP, hz, va_S.rf⟩ hl
def wp_Rm_keyOf_55 (Post : Int32 → MH → Prop) (l0 : Nat) (y0 : Int32) (h : MH) : Prop :=
  ∃ x58 : Int32, gF h l0 6 1 = some (.inl x58) ∧
  (((x58 ≤ y0) →
      (∃ x73 : Int32, gF h l0 6 1 = some (.inl x73) ∧
        ((((-x73) ≤ ((6 : Int32) - y0)) →
            (Post (0 : Int32) h)) ∧
          ((¬ (-x73) ≤ ((6 : Int32) - y0)) →
            (Post (-1 : Int32) h))))) ∧
    ((¬ x58 ≤ y0) →
      (Post (1 : Int32) h)))
def wp_Rm_keyOf (Post : Int32 → MH → Prop) (l0 : Nat) (l1 : Int32) (h : MH) : Prop :=
  ((¬ l1 = (3 : Int32)) →
    (((¬ l1 = 0) →
        (((¬ l1 = (4 : Int32)) →
            (((¬ l1 = (1 : Int32)) →
                (((¬ l1 = (5 : Int32)) →
                    (((¬ l1 = (2 : Int32)) →
                        (wp_Rm_keyOf_55 Post l0 (6 : Int32) h)) ∧
                      ((l1 = (2 : Int32)) →
                        (wp_Rm_keyOf_55 Post l0 (5 : Int32) h)))) ∧
                  ((l1 = (5 : Int32)) →
                    (wp_Rm_keyOf_55 Post l0 (4 : Int32) h)))) ∧
              ((l1 = (1 : Int32)) →
                (wp_Rm_keyOf_55 Post l0 (3 : Int32) h)))) ∧
          ((l1 = (4 : Int32)) →
            (wp_Rm_keyOf_55 Post l0 (2 : Int32) h)))) ∧
      ((l1 = 0) →
        (wp_Rm_keyOf_55 Post l0 (1 : Int32) h)))) ∧
  ((l1 = (3 : Int32)) →
    (wp_Rm_keyOf_55 Post l0 (0 : Int32) h))
set_option maxRecDepth 100000 in
set_option maxHeartbeats 4000000 in
theorem t_Rm_keyOf_55 {p : Program} {l : Launch} {e : Env} {R : Room} {s : State} {m : MethodId} {args : Array Value} {below : List Frame} {meth : Method} {c : Code} (G : mG) (C0 : Cx G p s m args c prog_8_method_22_code 3 "BassRealiserModel") (hR : 0 ≤ R.frames ∧ 0 ≤ R.locals ∧ 0 ≤ R.cells ∧ 0 ≤ R.slots) (hr : meth.sig.returnType = some .int) (hlk : meth.locks = false) {Post : Int32 → MH → Prop} (l0 : Nat) (y0 : Int32) (h : MH) (hwp : wp_Rm_keyOf_55 Post l0 y0 h) : WG p l e R s m args below meth c 0 0 (MQ below (va_Qi Post (Wd G) (mA G)) args s 0 0 (mA G)) G 3 [(0, .ref (m_b G + l0))] 55 [.int y0] h := by
  unfold wp_Rm_keyOf_55 at hwp
  refine x_istore_n C0 d_Rm_keyOf_55 rfl (by decide) (lv' := [(2, .int y0), (0, .ref (m_b G + l0))]) rfl ?_
  refine x_iload_n C0 0 d_Rm_keyOf_56 rfl rfl ?_
  refine x_aload_n C0 1 d_Rm_keyOf_57 rfl rfl ?_
  obtain ⟨x58, e58, hwp⟩ := hwp
  refine x_getI C0 fk_Rm_90 e58 d_Rm_keyOf_58 ?_
  refine x_icmp_ge (tgt := 68) C0 d_Rm_keyOf_61 (by decide) (fun c61 => ?_) (fun c61 => ?_)
  · replace hwp := hwp.1 c61
    refine x_bipush (v := 6) C0 d_Rm_keyOf_68 (by decide) ?_
    refine x_iload_n C0 0 d_Rm_keyOf_70 rfl rfl ?_
    refine x_isub C0 d_Rm_keyOf_71 ?_
    refine x_aload_n C0 1 d_Rm_keyOf_72 rfl rfl ?_
    obtain ⟨x73, e73, hwp⟩ := hwp
    refine x_getI C0 fk_Rm_90 e73 d_Rm_keyOf_73 ?_
    refine x_ineg C0 d_Rm_keyOf_76 ?_
    refine x_icmp_ge (tgt := 84) C0 d_Rm_keyOf_77 (by decide) (fun c77 => ?_) (fun c77 => ?_)
    · replace hwp := hwp.1 c77
      refine x_iconst (v := 0) C0 d_Rm_keyOf_84 (by decide) ?_
      exact x_iret C0 hr hlk hwp d_Rm_keyOf_85
    · replace hwp := hwp.2 c77
      refine x_iconst (v := -1) C0 d_Rm_keyOf_80 (by decide) ?_
      refine x_goto (tgt := 85) C0 d_Rm_keyOf_81 (by decide) ?_
      exact x_iret C0 hr hlk hwp d_Rm_keyOf_85
  · replace hwp := hwp.2 c61
    refine x_iconst (v := 1) C0 d_Rm_keyOf_64 (by decide) ?_
    refine x_goto (tgt := 85) C0 d_Rm_keyOf_65 (by decide) ?_
    exact x_iret C0 hr hlk hwp d_Rm_keyOf_85
set_option maxRecDepth 100000 in
set_option maxHeartbeats 4000000 in
theorem t_Rm_keyOf {p : Program} {l : Launch} {e : Env} {R : Room} {s : State} {m : MethodId} {args : Array Value} {below : List Frame} {meth : Method} {c : Code} (G : mG) (C0 : Cx G p s m args c prog_8_method_22_code 3 "BassRealiserModel") (hR : 0 ≤ R.frames ∧ 0 ≤ R.locals ∧ 0 ≤ R.cells ∧ 0 ≤ R.slots) (hr : meth.sig.returnType = some .int) (hlk : meth.locks = false) {Post : Int32 → MH → Prop} (l0 : Nat) (l1 : Int32) (h : MH) (hwp : wp_Rm_keyOf Post l0 l1 h) : WG p l e R s m args below meth c 0 0 (MQ below (va_Qi Post (Wd G) (mA G)) args s 0 0 (mA G)) G 3 [(0, .ref (m_b G + l0)), (1, .int l1)] 0 [] h := by
  unfold wp_Rm_keyOf at hwp
  refine x_iload_n C0 1 d_Rm_keyOf_0 rfl rfl ?_
  refine x_iconst (v := 3) C0 d_Rm_keyOf_1 (by decide) ?_
  refine x_icmp_ne (tgt := 9) C0 d_Rm_keyOf_2 (by decide) (fun c2 => ?_) (fun c2 => ?_)
  · replace hwp := hwp.1 c2
    refine x_iload_n C0 1 d_Rm_keyOf_9 rfl rfl ?_
    refine x_if_ne (tgt := 17) C0 d_Rm_keyOf_10 (by decide) (fun c10 => ?_) (fun c10 => ?_)
    · replace hwp := hwp.1 c10
      refine x_iload_n C0 1 d_Rm_keyOf_17 rfl rfl ?_
      refine x_iconst (v := 4) C0 d_Rm_keyOf_18 (by decide) ?_
      refine x_icmp_ne (tgt := 26) C0 d_Rm_keyOf_19 (by decide) (fun c19 => ?_) (fun c19 => ?_)
      · replace hwp := hwp.1 c19
        refine x_iload_n C0 1 d_Rm_keyOf_26 rfl rfl ?_
        refine x_iconst (v := 1) C0 d_Rm_keyOf_27 (by decide) ?_
        refine x_icmp_ne (tgt := 35) C0 d_Rm_keyOf_28 (by decide) (fun c28 => ?_) (fun c28 => ?_)
        · replace hwp := hwp.1 c28
          refine x_iload_n C0 1 d_Rm_keyOf_35 rfl rfl ?_
          refine x_iconst (v := 5) C0 d_Rm_keyOf_36 (by decide) ?_
          refine x_icmp_ne (tgt := 44) C0 d_Rm_keyOf_37 (by decide) (fun c37 => ?_) (fun c37 => ?_)
          · replace hwp := hwp.1 c37
            refine x_iload_n C0 1 d_Rm_keyOf_44 rfl rfl ?_
            refine x_iconst (v := 2) C0 d_Rm_keyOf_45 (by decide) ?_
            refine x_icmp_ne (tgt := 53) C0 d_Rm_keyOf_46 (by decide) (fun c46 => ?_) (fun c46 => ?_)
            · replace hwp := hwp.1 c46
              refine x_bipush (v := 6) C0 d_Rm_keyOf_53 (by decide) ?_
              exact x_sub [0] rfl (t_Rm_keyOf_55 G C0 hR hr hlk  _ _ _ hwp)
            · replace hwp := hwp.2 c46
              refine x_iconst (v := 5) C0 d_Rm_keyOf_49 (by decide) ?_
              refine x_goto (tgt := 55) C0 d_Rm_keyOf_50 (by decide) ?_
              exact x_sub [0] rfl (t_Rm_keyOf_55 G C0 hR hr hlk  _ _ _ hwp)
          · replace hwp := hwp.2 c37
            refine x_iconst (v := 4) C0 d_Rm_keyOf_40 (by decide) ?_
            refine x_goto (tgt := 55) C0 d_Rm_keyOf_41 (by decide) ?_
            exact x_sub [0] rfl (t_Rm_keyOf_55 G C0 hR hr hlk  _ _ _ hwp)
        · replace hwp := hwp.2 c28
          refine x_iconst (v := 3) C0 d_Rm_keyOf_31 (by decide) ?_
          refine x_goto (tgt := 55) C0 d_Rm_keyOf_32 (by decide) ?_
          exact x_sub [0] rfl (t_Rm_keyOf_55 G C0 hR hr hlk  _ _ _ hwp)
      · replace hwp := hwp.2 c19
        refine x_iconst (v := 2) C0 d_Rm_keyOf_22 (by decide) ?_
        refine x_goto (tgt := 55) C0 d_Rm_keyOf_23 (by decide) ?_
        exact x_sub [0] rfl (t_Rm_keyOf_55 G C0 hR hr hlk  _ _ _ hwp)
    · replace hwp := hwp.2 c10
      refine x_iconst (v := 1) C0 d_Rm_keyOf_13 (by decide) ?_
      refine x_goto (tgt := 55) C0 d_Rm_keyOf_14 (by decide) ?_
      exact x_sub [0] rfl (t_Rm_keyOf_55 G C0 hR hr hlk  _ _ _ hwp)
  · replace hwp := hwp.2 c2
    refine x_iconst (v := 0) C0 d_Rm_keyOf_5 (by decide) ?_
    refine x_goto (tgt := 55) C0 d_Rm_keyOf_6 (by decide) ?_
    exact x_sub [0] rfl (t_Rm_keyOf_55 G C0 hR hr hlk  _ _ _ hwp)
set_option maxRecDepth 100000 in
set_option maxHeartbeats 4000000 in
theorem c_Rm_keyOf (l : Launch) (G : mG) {Post : Int32 → MH → Prop} {l0 : Nat} {l1 : Int32} {h : MH} (hwp : wp_Rm_keyOf Post l0 l1 h) : Met l y_Rm_keyOf (Cond.code y_Rm_keyOf prog_8_method_22_code 3 (Option.some Jvm.ClassFile.FieldType.int) :: lw_good) ({ frames := 0, cells := 0, slots := 0, locals := 0 }) (va_Pc [.ref (m_b G + l0), .int l1] (Wd G h)) (va_Qi Post (Wd G) (mA G)) 0 0 (mA G) := by
  refine Met.ofW (cc := prog_8_method_22_code) (maxL := 3) (ret := (Option.some Jvm.ClassFile.FieldType.int)) (by decide +kernel) rfl ?_
  intro p e s m args below meth c s₁ B hml hv
  obtain ⟨rfl, hP, hz, hK, hSt⟩ := hv
  have hts := atoms_spec (ws := Cond.code y_Rm_keyOf prog_8_method_22_code 3 (Option.some Jvm.ClassFile.FieldType.int) :: lw_good) B.pre
  have C0 : Cx G p s m ([.ref (m_b G + l0), .int l1] : List Value).toArray c prog_8_method_22_code 3 "BassRealiserModel" := ⟨⟨B.exec, B.bytes, hml, findClass_of_methodNamed B.named, fun w h => hts w (List.mem_cons_of_mem _ h)⟩, hK, hSt, by rw [hz]; exact Nat.le_add_right _ _⟩
  have hl := lv_entry ([.ref (m_b G + l0), .int l1]) (n := 3) (Nat.le_of_ble_eq_true rfl)
  rw [lg_entry_eq]
  exact t_Rm_keyOf G C0 ⟨Nat.le_refl _, Nat.le_refl _, Nat.le_refl _, Nat.le_refl _⟩ B.returns B.notSynchronized _ _ _ hwp _ _ _ ⟨hP, hz, va_S.rf⟩ hl
def wp_Rm_alterOf (Post : Int32 → MH → Prop) (l0 : Nat) (l1 : Int32) (l2 : Int32) (h : MH) : Prop :=
  ∃ x1 : Nat, gF h l0 6 6 = some (.inr (some x1)) ∧
  (∃ (n10 : Nat) (f10 : Nat → Int32), gA h x1 0 = some (n10, f10) ∧ vp_in (((10 : Int32) * l1) + l2) n10 ∧
    (∀ z13 : Int32, z13 = (f10 (((10 : Int32) * l1) + l2).toNatClampNeg) - (1 : Int32) →
      (((¬ z13 = (1 : Int32)) →
          (((¬ z13 = (2 : Int32)) →
              (((¬ z13 = (3 : Int32)) →
                  (gC h l0 = some 6 ∧ wp_Rm_letterOf (fun (r45 : Int32) (h45 : MH) =>
                      (gC h45 l0 = some 6 ∧ wp_Rm_keyOf (fun (r48 : Int32) (h48 : MH) =>
                        (Post r48 h48)) l0 r45 h45)) l0 l1 l2 h)) ∧
                ((z13 = (3 : Int32)) →
                  (Post (0 : Int32) h)))) ∧
            ((z13 = (2 : Int32)) →
              (Post (-1 : Int32) h)))) ∧
        ((z13 = (1 : Int32)) →
          (Post (1 : Int32) h)))))
set_option maxRecDepth 100000 in
set_option maxHeartbeats 4000000 in
theorem t_Rm_alterOf {p : Program} {l : Launch} {e : Env} {R : Room} {s : State} {m : MethodId} {args : Array Value} {below : List Frame} {meth : Method} {c : Code} (G : mG) (C0 : Cx G p s m args c prog_8_method_23_code 4 "BassRealiserModel") (hR : 1 ≤ R.frames ∧ 22 ≤ R.locals ∧ 0 ≤ R.cells ∧ 0 ≤ R.slots) (hr : meth.sig.returnType = some .int) (hlk : meth.locks = false) {Post : Int32 → MH → Prop} (l0 : Nat) (l1 : Int32) (l2 : Int32) (h : MH) (hwp : wp_Rm_alterOf Post l0 l1 l2 h) : WG p l e R s m args below meth c 0 0 (MQ below (va_Qi Post (Wd G) (mA G)) args s 0 0 (mA G)) G 4 [(0, .ref (m_b G + l0)), (1, .int l1), (2, .int l2)] 0 [] h := by
  unfold wp_Rm_alterOf at hwp
  refine x_aload_n C0 0 d_Rm_alterOf_0 rfl rfl ?_
  obtain ⟨x1, e1, hwp⟩ := hwp
  refine x_getR C0 fk_Rm_23 e1 d_Rm_alterOf_1 ?_
  refine x_bipush (v := 10) C0 d_Rm_alterOf_4 (by decide) ?_
  refine x_iload_n C0 1 d_Rm_alterOf_6 rfl rfl ?_
  refine x_imul C0 d_Rm_alterOf_7 ?_
  refine x_iload_n C0 2 d_Rm_alterOf_8 rfl rfl ?_
  refine x_iadd C0 d_Rm_alterOf_9 ?_
  obtain ⟨n10, f10, e10, i10, hwp⟩ := hwp
  refine x_iald C0 e10 i10 d_Rm_alterOf_10 ?_
  refine x_iconst (v := 1) C0 d_Rm_alterOf_11 (by decide) ?_
  refine x_isub C0 d_Rm_alterOf_12 ?_
  refine x_topI (fun z13 e13 => ?_)
  replace hwp := hwp z13 e13
  refine x_istore_n C0 d_Rm_alterOf_13 rfl (by decide) (lv' := [(3, .int z13), (0, .ref (m_b G + l0)), (1, .int l1), (2, .int l2)]) rfl ?_
  refine x_iload_n C0 0 d_Rm_alterOf_14 rfl rfl ?_
  refine x_iconst (v := 1) C0 d_Rm_alterOf_15 (by decide) ?_
  refine x_icmp_ne (tgt := 23) C0 d_Rm_alterOf_16 (by decide) (fun c16 => ?_) (fun c16 => ?_)
  · replace hwp := hwp.1 c16
    refine x_iload_n C0 0 d_Rm_alterOf_23 rfl rfl ?_
    refine x_iconst (v := 2) C0 d_Rm_alterOf_24 (by decide) ?_
    refine x_icmp_ne (tgt := 32) C0 d_Rm_alterOf_25 (by decide) (fun c25 => ?_) (fun c25 => ?_)
    · replace hwp := hwp.1 c25
      refine x_iload_n C0 0 d_Rm_alterOf_32 rfl rfl ?_
      refine x_iconst (v := 3) C0 d_Rm_alterOf_33 (by decide) ?_
      refine x_icmp_ne (tgt := 41) C0 d_Rm_alterOf_34 (by decide) (fun c34 => ?_) (fun c34 => ?_)
      · replace hwp := hwp.1 c34
        refine x_aload_n C0 1 d_Rm_alterOf_41 rfl rfl ?_
        refine x_aload_n C0 1 d_Rm_alterOf_42 rfl rfl ?_
        refine x_iload_n C0 2 d_Rm_alterOf_43 rfl rfl ?_
        refine x_iload_n C0 3 d_Rm_alterOf_44 rfl rfl ?_
        obtain ⟨g45, hwp⟩ := hwp
        refine x_callVi0 (k := l0) (As := [.int l1, .int l2]) (st := [.ref (m_b G + l0)]) C0 (c_Rm_letterOf l G hwp) kw_4_11 mk_Rm_letterOf vk_Rm_letterOf rfl g45 rfl (Nat.le_of_ble_eq_true rfl) rfl rfl ⟨Nat.le_trans (by decide) hR.1, Nat.le_trans (by decide) hR.2.1⟩ ⟨Nat.zero_le _, Nat.zero_le _⟩ rfl d_Rm_alterOf_45 (fun r45 h45 hwp => ?_)
        obtain ⟨g48, hwp⟩ := hwp
        refine x_callVi0 (k := l0) (As := [.int r45]) (st := []) C0 (c_Rm_keyOf l G hwp) kw_4_19 mk_Rm_keyOf vk_Rm_keyOf rfl g48 rfl (Nat.le_of_ble_eq_true rfl) rfl rfl ⟨Nat.le_trans (by decide) hR.1, Nat.le_trans (by decide) hR.2.1⟩ ⟨Nat.zero_le _, Nat.zero_le _⟩ rfl d_Rm_alterOf_48 (fun r48 h48 hwp => ?_)
        exact x_iret C0 hr hlk hwp d_Rm_alterOf_51
      · replace hwp := hwp.2 c34
        refine x_iconst (v := 0) C0 d_Rm_alterOf_37 (by decide) ?_
        refine x_goto (tgt := 51) C0 d_Rm_alterOf_38 (by decide) ?_
        exact x_iret C0 hr hlk hwp d_Rm_alterOf_51
    · replace hwp := hwp.2 c25
      refine x_iconst (v := -1) C0 d_Rm_alterOf_28 (by decide) ?_
      refine x_goto (tgt := 51) C0 d_Rm_alterOf_29 (by decide) ?_
      exact x_iret C0 hr hlk hwp d_Rm_alterOf_51
  · replace hwp := hwp.2 c16
    refine x_iconst (v := 1) C0 d_Rm_alterOf_19 (by decide) ?_
    refine x_goto (tgt := 51) C0 d_Rm_alterOf_20 (by decide) ?_
    exact x_iret C0 hr hlk hwp d_Rm_alterOf_51
set_option maxRecDepth 100000 in
set_option maxHeartbeats 4000000 in
theorem c_Rm_alterOf (l : Launch) (G : mG) {Post : Int32 → MH → Prop} {l0 : Nat} {l1 : Int32} {l2 : Int32} {h : MH} (hwp : wp_Rm_alterOf Post l0 l1 l2 h) : Met l y_Rm_alterOf (Cond.code y_Rm_alterOf prog_8_method_23_code 4 (Option.some Jvm.ClassFile.FieldType.int) :: lw_good) ({ frames := 1, cells := 0, slots := 0, locals := 22 }) (va_Pc [.ref (m_b G + l0), .int l1, .int l2] (Wd G h)) (va_Qi Post (Wd G) (mA G)) 0 0 (mA G) := by
  refine Met.ofW (cc := prog_8_method_23_code) (maxL := 4) (ret := (Option.some Jvm.ClassFile.FieldType.int)) (by decide +kernel) rfl ?_
  intro p e s m args below meth c s₁ B hml hv
  obtain ⟨rfl, hP, hz, hK, hSt⟩ := hv
  have hts := atoms_spec (ws := Cond.code y_Rm_alterOf prog_8_method_23_code 4 (Option.some Jvm.ClassFile.FieldType.int) :: lw_good) B.pre
  have C0 : Cx G p s m ([.ref (m_b G + l0), .int l1, .int l2] : List Value).toArray c prog_8_method_23_code 4 "BassRealiserModel" := ⟨⟨B.exec, B.bytes, hml, findClass_of_methodNamed B.named, fun w h => hts w (List.mem_cons_of_mem _ h)⟩, hK, hSt, by rw [hz]; exact Nat.le_add_right _ _⟩
  have hl := lv_entry ([.ref (m_b G + l0), .int l1, .int l2]) (n := 4) (Nat.le_of_ble_eq_true rfl)
  rw [lg_entry_eq]
  exact t_Rm_alterOf G C0 ⟨Nat.le_refl _, Nat.le_refl _, Nat.le_refl _, Nat.le_refl _⟩ B.returns B.notSynchronized _ _ _ _ hwp _ _ _ ⟨hP, hz, va_S.rf⟩ hl
def wp_Rm_mod (Post : Int32 → MH → Prop) (l0 : Int32) (l1 : Int32) (h : MH) : Prop :=
  ¬ l1 = 0 ∧
  (¬ l1 = 0 ∧
    (Post (((l0 - l0 / l1 * l1) + l1) - ((l0 - l0 / l1 * l1) + l1) / l1 * l1) h))
set_option maxRecDepth 100000 in
set_option maxHeartbeats 4000000 in
theorem t_Rm_mod {p : Program} {l : Launch} {e : Env} {R : Room} {s : State} {m : MethodId} {args : Array Value} {below : List Frame} {meth : Method} {c : Code} (G : mG) (C0 : Cx G p s m args c prog_8_method_14_code 2 "BassRealiserModel") (hR : 0 ≤ R.frames ∧ 0 ≤ R.locals ∧ 0 ≤ R.cells ∧ 0 ≤ R.slots) (hr : meth.sig.returnType = some .int) (hlk : meth.locks = false) {Post : Int32 → MH → Prop} (l0 : Int32) (l1 : Int32) (h : MH) (hwp : wp_Rm_mod Post l0 l1 h) : WG p l e R s m args below meth c 0 0 (MQ below (va_Qi Post (Wd G) (mA G)) args s 0 0 (mA G)) G 2 [(0, .int l0), (1, .int l1)] 0 [] h := by
  unfold wp_Rm_mod at hwp
  refine x_iload_n C0 0 d_Rm_mod_0 rfl rfl ?_
  refine x_iload_n C0 1 d_Rm_mod_1 rfl rfl ?_
  obtain ⟨e2, hwp⟩ := hwp
  refine x_irem C0 d_Rm_mod_2 e2 ?_
  refine x_iload_n C0 1 d_Rm_mod_3 rfl rfl ?_
  refine x_iadd C0 d_Rm_mod_4 ?_
  refine x_iload_n C0 1 d_Rm_mod_5 rfl rfl ?_
  obtain ⟨e6, hwp⟩ := hwp
  refine x_irem C0 d_Rm_mod_6 e6 ?_
  exact x_iret C0 hr hlk hwp d_Rm_mod_7
set_option maxRecDepth 100000 in
set_option maxHeartbeats 4000000 in
theorem c_Rm_mod (l : Launch) (G : mG) {Post : Int32 → MH → Prop} {l0 : Int32} {l1 : Int32} {h : MH} (hwp : wp_Rm_mod Post l0 l1 h) : Met l y_Rm_mod (Cond.code y_Rm_mod prog_8_method_14_code 2 (Option.some Jvm.ClassFile.FieldType.int) :: lw_good) ({ frames := 0, cells := 0, slots := 0, locals := 0 }) (va_Pc [.int l0, .int l1] (Wd G h)) (va_Qi Post (Wd G) (mA G)) 0 0 (mA G) := by
  refine Met.ofW (cc := prog_8_method_14_code) (maxL := 2) (ret := (Option.some Jvm.ClassFile.FieldType.int)) (by decide +kernel) rfl ?_
  intro p e s m args below meth c s₁ B hml hv
  obtain ⟨rfl, hP, hz, hK, hSt⟩ := hv
  have hts := atoms_spec (ws := Cond.code y_Rm_mod prog_8_method_14_code 2 (Option.some Jvm.ClassFile.FieldType.int) :: lw_good) B.pre
  have C0 : Cx G p s m ([.int l0, .int l1] : List Value).toArray c prog_8_method_14_code 2 "BassRealiserModel" := ⟨⟨B.exec, B.bytes, hml, findClass_of_methodNamed B.named, fun w h => hts w (List.mem_cons_of_mem _ h)⟩, hK, hSt, by rw [hz]; exact Nat.le_add_right _ _⟩
  have hl := lv_entry ([.int l0, .int l1]) (n := 2) (Nat.le_of_ble_eq_true rfl)
  rw [lg_entry_eq]
  exact t_Rm_mod G C0 ⟨Nat.le_refl _, Nat.le_refl _, Nat.le_refl _, Nat.le_refl _⟩ B.returns B.notSynchronized _ _ _ hwp _ _ _ ⟨hP, hz, va_S.rf⟩ hl
def wp_Rm_classOf (Post : Int32 → MH → Prop) (l0 : Nat) (l1 : Int32) (l2 : Int32) (h : MH) : Prop :=
  gC h l0 = some 6 ∧ wp_Rm_letterOf (fun (r3 : Int32) (h3 : MH) =>
    (wp_Rm_semitones (fun (r6 : Int32) (h6 : MH) =>
        (gC h6 l0 = some 6 ∧ wp_Rm_alterOf (fun (r12 : Int32) (h12 : MH) =>
            (wp_Rm_mod (fun (r18 : Int32) (h18 : MH) =>
                (Post r18 h18)) (r6 + r12) (12 : Int32) h12)) l0 l1 l2 h6)) r3 h3)) l0 l1 l2 h
set_option maxRecDepth 100000 in
set_option maxHeartbeats 4000000 in
theorem t_Rm_classOf {p : Program} {l : Launch} {e : Env} {R : Room} {s : State} {m : MethodId} {args : Array Value} {below : List Frame} {meth : Method} {c : Code} (G : mG) (C0 : Cx G p s m args c prog_8_method_24_code 3 "BassRealiserModel") (hR : 2 ≤ R.frames ∧ 45 ≤ R.locals ∧ 0 ≤ R.cells ∧ 0 ≤ R.slots) (hr : meth.sig.returnType = some .int) (hlk : meth.locks = false) {Post : Int32 → MH → Prop} (l0 : Nat) (l1 : Int32) (l2 : Int32) (h : MH) (hwp : wp_Rm_classOf Post l0 l1 l2 h) : WG p l e R s m args below meth c 0 0 (MQ below (va_Qi Post (Wd G) (mA G)) args s 0 0 (mA G)) G 3 [(0, .ref (m_b G + l0)), (1, .int l1), (2, .int l2)] 0 [] h := by
  unfold wp_Rm_classOf at hwp
  refine x_aload_n C0 0 d_Rm_classOf_0 rfl rfl ?_
  refine x_iload_n C0 1 d_Rm_classOf_1 rfl rfl ?_
  refine x_iload_n C0 2 d_Rm_classOf_2 rfl rfl ?_
  obtain ⟨g3, hwp⟩ := hwp
  refine x_callVi0 (k := l0) (As := [.int l1, .int l2]) (st := []) C0 (c_Rm_letterOf l G hwp) kw_4_11 mk_Rm_letterOf vk_Rm_letterOf rfl g3 rfl (Nat.le_of_ble_eq_true rfl) rfl rfl ⟨Nat.le_trans (by decide) hR.1, Nat.le_trans (by decide) hR.2.1⟩ ⟨Nat.zero_le _, Nat.zero_le _⟩ rfl d_Rm_classOf_3 (fun r3 h3 hwp => ?_)
  refine x_callSi0 (As := [.int r3]) (st := []) C0 (c_Rm_semitones l G hwp) kw_4_0 mk_Rm_semitones kw_4_1 rfl (Nat.le_of_ble_eq_true rfl) rfl rfl ⟨Nat.le_trans (by decide) hR.1, Nat.le_trans (by decide) hR.2.1⟩ ⟨Nat.zero_le _, Nat.zero_le _⟩ rfl d_Rm_classOf_6 (fun r6 h6 hwp => ?_)
  refine x_aload_n C0 0 d_Rm_classOf_9 rfl rfl ?_
  refine x_iload_n C0 1 d_Rm_classOf_10 rfl rfl ?_
  refine x_iload_n C0 2 d_Rm_classOf_11 rfl rfl ?_
  obtain ⟨g12, hwp⟩ := hwp
  refine x_callVi0 (k := l0) (As := [.int l1, .int l2]) (st := [.int r6]) C0 (c_Rm_alterOf l G hwp) kw_4_15 mk_Rm_alterOf vk_Rm_alterOf rfl g12 rfl (Nat.le_of_ble_eq_true rfl) rfl rfl ⟨Nat.le_trans (by decide) hR.1, Nat.le_trans (by decide) hR.2.1⟩ ⟨Nat.zero_le _, Nat.zero_le _⟩ rfl d_Rm_classOf_12 (fun r12 h12 hwp => ?_)
  refine x_iadd C0 d_Rm_classOf_15 ?_
  refine x_bipush (v := 12) C0 d_Rm_classOf_16 (by decide) ?_
  refine x_callSi0 (As := [.int (r6 + r12), .int (12 : Int32)]) (st := []) C0 (c_Rm_mod l G hwp) kw_4_27 mk_Rm_mod kw_4_28 rfl (Nat.le_of_ble_eq_true rfl) rfl rfl ⟨Nat.le_trans (by decide) hR.1, Nat.le_trans (by decide) hR.2.1⟩ ⟨Nat.zero_le _, Nat.zero_le _⟩ rfl d_Rm_classOf_18 (fun r18 h18 hwp => ?_)
  exact x_iret C0 hr hlk hwp d_Rm_classOf_21
set_option maxRecDepth 100000 in
set_option maxHeartbeats 4000000 in
theorem c_Rm_classOf (l : Launch) (G : mG) {Post : Int32 → MH → Prop} {l0 : Nat} {l1 : Int32} {l2 : Int32} {h : MH} (hwp : wp_Rm_classOf Post l0 l1 l2 h) : Met l y_Rm_classOf (Cond.code y_Rm_classOf prog_8_method_24_code 3 (Option.some Jvm.ClassFile.FieldType.int) :: lw_good) ({ frames := 2, cells := 0, slots := 0, locals := 45 }) (va_Pc [.ref (m_b G + l0), .int l1, .int l2] (Wd G h)) (va_Qi Post (Wd G) (mA G)) 0 0 (mA G) := by
  refine Met.ofW (cc := prog_8_method_24_code) (maxL := 3) (ret := (Option.some Jvm.ClassFile.FieldType.int)) (by decide +kernel) rfl ?_
  intro p e s m args below meth c s₁ B hml hv
  obtain ⟨rfl, hP, hz, hK, hSt⟩ := hv
  have hts := atoms_spec (ws := Cond.code y_Rm_classOf prog_8_method_24_code 3 (Option.some Jvm.ClassFile.FieldType.int) :: lw_good) B.pre
  have C0 : Cx G p s m ([.ref (m_b G + l0), .int l1, .int l2] : List Value).toArray c prog_8_method_24_code 3 "BassRealiserModel" := ⟨⟨B.exec, B.bytes, hml, findClass_of_methodNamed B.named, fun w h => hts w (List.mem_cons_of_mem _ h)⟩, hK, hSt, by rw [hz]; exact Nat.le_add_right _ _⟩
  have hl := lv_entry ([.ref (m_b G + l0), .int l1, .int l2]) (n := 3) (Nat.le_of_ble_eq_true rfl)
  rw [lg_entry_eq]
  exact t_Rm_classOf G C0 ⟨Nat.le_refl _, Nat.le_refl _, Nat.le_refl _, Nat.le_refl _⟩ B.returns B.notSynchronized _ _ _ _ hwp _ _ _ ⟨hP, hz, va_S.rf⟩ hl
def wp_Rm_isSuspended (Post : Int32 → MH → Prop) (l0 : Nat) (l1 : Int32) (l2 : Int32) (h : MH) : Prop :=
  ((l2 = (9 : Int32)) →
    (Post (1 : Int32) h)) ∧
  ((¬ l2 = (9 : Int32)) →
    (((¬ l2 = (4 : Int32)) →
        (Post (0 : Int32) h)) ∧
      ((l2 = (4 : Int32)) →
        (gC h l0 = some 6 ∧ wp_Rm_isWorked (fun (r14 : Int32) (h14 : MH) =>
            (((¬ r14 = 0) →
                (Post (0 : Int32) h14)) ∧
              ((r14 = 0) →
                (gC h14 l0 = some 6 ∧ wp_Rm_isWorked (fun (r23 : Int32) (h23 : MH) =>
                    (((¬ r23 = 0) →
                        (Post (0 : Int32) h23)) ∧
                      ((r23 = 0) →
                        (gC h23 l0 = some 6 ∧ wp_Rm_isWorked (fun (r33 : Int32) (h33 : MH) =>
                        (((¬ r33 = 0) →
                        (Post (0 : Int32) h33)) ∧
                        ((r33 = 0) →
                        (Post (1 : Int32) h33)))) l0 l1 (6 : Int32) h23)))) l0 l1 (3 : Int32) h14)))) l0 l1 (2 : Int32) h))))
set_option maxRecDepth 100000 in
set_option maxHeartbeats 4000000 in
theorem t_Rm_isSuspended {p : Program} {l : Launch} {e : Env} {R : Room} {s : State} {m : MethodId} {args : Array Value} {below : List Frame} {meth : Method} {c : Code} (G : mG) (C0 : Cx G p s m args c prog_8_method_25_code 3 "BassRealiserModel") (hR : 2 ≤ R.frames ∧ 46 ≤ R.locals ∧ 0 ≤ R.cells ∧ 0 ≤ R.slots) (hr : meth.sig.returnType = some .boolean) (hlk : meth.locks = false) {Post : Int32 → MH → Prop} (l0 : Nat) (l1 : Int32) (l2 : Int32) (h : MH) (hwp : wp_Rm_isSuspended Post l0 l1 l2 h) : WG p l e R s m args below meth c 0 0 (MQ below (va_Qi Post (Wd G) (mA G)) args s 0 0 (mA G)) G 3 [(0, .ref (m_b G + l0)), (1, .int l1), (2, .int l2)] 0 [] h := by
  unfold wp_Rm_isSuspended at hwp
  refine x_iload_n C0 2 d_Rm_isSuspended_0 rfl rfl ?_
  refine x_bipush (v := 9) C0 d_Rm_isSuspended_1 (by decide) ?_
  refine x_icmp_eq (tgt := 39) C0 d_Rm_isSuspended_3 (by decide) (fun c3 => ?_) (fun c3 => ?_)
  · replace hwp := hwp.1 c3
    refine x_iconst (v := 1) C0 d_Rm_isSuspended_39 (by decide) ?_
    refine x_goto (tgt := 44) C0 d_Rm_isSuspended_40 (by decide) ?_
    exact x_zret C0 hr rfl hlk hwp d_Rm_isSuspended_44
  · replace hwp := hwp.2 c3
    refine x_iload_n C0 2 d_Rm_isSuspended_6 rfl rfl ?_
    refine x_iconst (v := 4) C0 d_Rm_isSuspended_7 (by decide) ?_
    refine x_icmp_ne (tgt := 43) C0 d_Rm_isSuspended_8 (by decide) (fun c8 => ?_) (fun c8 => ?_)
    · replace hwp := hwp.1 c8
      refine x_iconst (v := 0) C0 d_Rm_isSuspended_43 (by decide) ?_
      exact x_zret C0 hr rfl hlk hwp d_Rm_isSuspended_44
    · replace hwp := hwp.2 c8
      refine x_aload_n C0 0 d_Rm_isSuspended_11 rfl rfl ?_
      refine x_iload_n C0 1 d_Rm_isSuspended_12 rfl rfl ?_
      refine x_iconst (v := 2) C0 d_Rm_isSuspended_13 (by decide) ?_
      obtain ⟨g14, hwp⟩ := hwp
      refine x_callVi0 (k := l0) (As := [.int l1, .int (2 : Int32)]) (st := []) C0 (c_Rm_isWorked l G hwp) kw_3_202 mk_Rm_isWorked vk_Rm_isWorked rfl g14 rfl (Nat.le_of_ble_eq_true rfl) rfl rfl ⟨Nat.le_trans (by decide) hR.1, Nat.le_trans (by decide) hR.2.1⟩ ⟨Nat.zero_le _, Nat.zero_le _⟩ rfl d_Rm_isSuspended_14 (fun r14 h14 hwp => ?_)
      refine x_if_ne (tgt := 43) C0 d_Rm_isSuspended_17 (by decide) (fun c17 => ?_) (fun c17 => ?_)
      · replace hwp := hwp.1 c17
        refine x_iconst (v := 0) C0 d_Rm_isSuspended_43 (by decide) ?_
        exact x_zret C0 hr rfl hlk hwp d_Rm_isSuspended_44
      · replace hwp := hwp.2 c17
        refine x_aload_n C0 0 d_Rm_isSuspended_20 rfl rfl ?_
        refine x_iload_n C0 1 d_Rm_isSuspended_21 rfl rfl ?_
        refine x_iconst (v := 3) C0 d_Rm_isSuspended_22 (by decide) ?_
        obtain ⟨g23, hwp⟩ := hwp
        refine x_callVi0 (k := l0) (As := [.int l1, .int (3 : Int32)]) (st := []) C0 (c_Rm_isWorked l G hwp) kw_3_202 mk_Rm_isWorked vk_Rm_isWorked rfl g23 rfl (Nat.le_of_ble_eq_true rfl) rfl rfl ⟨Nat.le_trans (by decide) hR.1, Nat.le_trans (by decide) hR.2.1⟩ ⟨Nat.zero_le _, Nat.zero_le _⟩ rfl d_Rm_isSuspended_23 (fun r23 h23 hwp => ?_)
        refine x_if_ne (tgt := 43) C0 d_Rm_isSuspended_26 (by decide) (fun c26 => ?_) (fun c26 => ?_)
        · replace hwp := hwp.1 c26
          refine x_iconst (v := 0) C0 d_Rm_isSuspended_43 (by decide) ?_
          exact x_zret C0 hr rfl hlk hwp d_Rm_isSuspended_44
        · replace hwp := hwp.2 c26
          refine x_aload_n C0 0 d_Rm_isSuspended_29 rfl rfl ?_
          refine x_iload_n C0 1 d_Rm_isSuspended_30 rfl rfl ?_
          refine x_bipush (v := 6) C0 d_Rm_isSuspended_31 (by decide) ?_
          obtain ⟨g33, hwp⟩ := hwp
          refine x_callVi0 (k := l0) (As := [.int l1, .int (6 : Int32)]) (st := []) C0 (c_Rm_isWorked l G hwp) kw_3_202 mk_Rm_isWorked vk_Rm_isWorked rfl g33 rfl (Nat.le_of_ble_eq_true rfl) rfl rfl ⟨Nat.le_trans (by decide) hR.1, Nat.le_trans (by decide) hR.2.1⟩ ⟨Nat.zero_le _, Nat.zero_le _⟩ rfl d_Rm_isSuspended_33 (fun r33 h33 hwp => ?_)
          refine x_if_ne (tgt := 43) C0 d_Rm_isSuspended_36 (by decide) (fun c36 => ?_) (fun c36 => ?_)
          · replace hwp := hwp.1 c36
            refine x_iconst (v := 0) C0 d_Rm_isSuspended_43 (by decide) ?_
            exact x_zret C0 hr rfl hlk hwp d_Rm_isSuspended_44
          · replace hwp := hwp.2 c36
            refine x_iconst (v := 1) C0 d_Rm_isSuspended_39 (by decide) ?_
            refine x_goto (tgt := 44) C0 d_Rm_isSuspended_40 (by decide) ?_
            exact x_zret C0 hr rfl hlk hwp d_Rm_isSuspended_44
set_option maxRecDepth 100000 in
set_option maxHeartbeats 4000000 in
theorem c_Rm_isSuspended (l : Launch) (G : mG) {Post : Int32 → MH → Prop} {l0 : Nat} {l1 : Int32} {l2 : Int32} {h : MH} (hwp : wp_Rm_isSuspended Post l0 l1 l2 h) : Met l y_Rm_isSuspended (Cond.code y_Rm_isSuspended prog_8_method_25_code 3 (Option.some Jvm.ClassFile.FieldType.boolean) :: lw_good) ({ frames := 2, cells := 0, slots := 0, locals := 46 }) (va_Pc [.ref (m_b G + l0), .int l1, .int l2] (Wd G h)) (va_Qi Post (Wd G) (mA G)) 0 0 (mA G) := by
  refine Met.ofW (cc := prog_8_method_25_code) (maxL := 3) (ret := (Option.some Jvm.ClassFile.FieldType.boolean)) (by decide +kernel) rfl ?_
  intro p e s m args below meth c s₁ B hml hv
  obtain ⟨rfl, hP, hz, hK, hSt⟩ := hv
  have hts := atoms_spec (ws := Cond.code y_Rm_isSuspended prog_8_method_25_code 3 (Option.some Jvm.ClassFile.FieldType.boolean) :: lw_good) B.pre
  have C0 : Cx G p s m ([.ref (m_b G + l0), .int l1, .int l2] : List Value).toArray c prog_8_method_25_code 3 "BassRealiserModel" := ⟨⟨B.exec, B.bytes, hml, findClass_of_methodNamed B.named, fun w h => hts w (List.mem_cons_of_mem _ h)⟩, hK, hSt, by rw [hz]; exact Nat.le_add_right _ _⟩
  have hl := lv_entry ([.ref (m_b G + l0), .int l1, .int l2]) (n := 3) (Nat.le_of_ble_eq_true rfl)
  rw [lg_entry_eq]
  exact t_Rm_isSuspended G C0 ⟨Nat.le_refl _, Nat.le_refl _, Nat.le_refl _, Nat.le_refl _⟩ B.returns B.notSynchronized _ _ _ _ hwp _ _ _ ⟨hP, hz, va_S.rf⟩ hl
def wp_Rm_workedAs (Post : Int32 → MH → Prop) (l0 : Nat) (l1 : Int32) (l2 : Int32) (l3 : Int32) (h : MH) : Prop :=
  (l3 = (0 : Int32) →
    (Post l2 h)) ∧
  (l3 = (1 : Int32) →
    (gC h l0 = some 6 ∧ wp_Rm_isTold (fun (r45 : Int32) (h45 : MH) =>
        (((r45 = 0) →
            (Post (0 : Int32) h45)) ∧
          ((¬ r45 = 0) →
            (∃ x52 : Nat, gF h45 l0 6 6 = some (.inr (some x52)) ∧
              (∃ (n61 : Nat) (f61 : Nat → Int32), gA h45 x52 0 = some (n61, f61) ∧ vp_in (((10 : Int32) * l1) + l2) n61 ∧
                (Post ((f61 (((10 : Int32) * l1) + l2).toNatClampNeg) - (1 : Int32)) h45)))))) l0 l1 l2 h)) ∧
  (l3 = (2 : Int32) →
    (gC h l0 = some 6 ∧ wp_Rm_letterOf (fun (r72 : Int32) (h72 : MH) =>
        (Post r72 h72)) l0 l1 l2 h)) ∧
  (l3 = (3 : Int32) →
    (gC h l0 = some 6 ∧ wp_Rm_alterOf (fun (r79 : Int32) (h79 : MH) =>
        (Post r79 h79)) l0 l1 l2 h)) ∧
  (l3 = (4 : Int32) →
    (gC h l0 = some 6 ∧ wp_Rm_classOf (fun (r86 : Int32) (h86 : MH) =>
        (Post r86 h86)) l0 l1 l2 h)) ∧
  (l3 = (5 : Int32) →
    (gC h l0 = some 6 ∧ wp_Rm_isTold (fun (r93 : Int32) (h93 : MH) =>
        (((r93 = 0) →
            (Post (0 : Int32) h93)) ∧
          ((¬ r93 = 0) →
            (Post (1 : Int32) h93)))) l0 l1 l2 h)) ∧
  (¬ l3 = (0 : Int32) → ¬ l3 = (1 : Int32) → ¬ l3 = (2 : Int32) → ¬ l3 = (3 : Int32) → ¬ l3 = (4 : Int32) → ¬ l3 = (5 : Int32) →
    (gC h l0 = some 6 ∧ wp_Rm_isSuspended (fun (r108 : Int32) (h108 : MH) =>
        (((r108 = 0) →
            (((¬ l2 = (7 : Int32)) →
                (Post (0 : Int32) h108)) ∧
              ((l2 = (7 : Int32)) →
                (Post (2 : Int32) h108)))) ∧
          ((¬ r108 = 0) →
            (Post (1 : Int32) h108)))) l0 l1 l2 h))
set_option maxRecDepth 100000 in
set_option maxHeartbeats 4000000 in
theorem t_Rm_workedAs {p : Program} {l : Launch} {e : Env} {R : Room} {s : State} {m : MethodId} {args : Array Value} {below : List Frame} {meth : Method} {c : Code} (G : mG) (C0 : Cx G p s m args c prog_8_method_27_code 4 "BassRealiserModel") (hR : 3 ≤ R.frames ∧ 68 ≤ R.locals ∧ 0 ≤ R.cells ∧ 0 ≤ R.slots) (hr : meth.sig.returnType = some .int) (hlk : meth.locks = false) {Post : Int32 → MH → Prop} (l0 : Nat) (l1 : Int32) (l2 : Int32) (l3 : Int32) (h : MH) (hwp : wp_Rm_workedAs Post l0 l1 l2 l3 h) : WG p l e R s m args below meth c 0 0 (MQ below (va_Qi Post (Wd G) (mA G)) args s 0 0 (mA G)) G 4 [(0, .ref (m_b G + l0)), (1, .int l1), (2, .int l2), (3, .int l3)] 0 [] h := by
  unfold wp_Rm_workedAs at hwp
  refine x_iload_n C0 3 d_Rm_workedAs_0 rfl rfl ?_
  by_cases c1_0 : l3 = (0 : Int32)
  · replace hwp := hwp.1 c1_0
    refine x_tableIn (tgt := 40) (off := 39) C0 d_Rm_workedAs_1 (by rw [c1_0]; decide) (by rw [c1_0]; decide) (by rw [c1_0]; rfl) (by decide) ?_
    refine x_iload_n C0 2 d_Rm_workedAs_40 rfl rfl ?_
    exact x_iret C0 hr hlk hwp d_Rm_workedAs_41
  by_cases c1_1 : l3 = (1 : Int32)
  · replace hwp := hwp.2.1 c1_1
    refine x_tableIn (tgt := 42) (off := 41) C0 d_Rm_workedAs_1 (by rw [c1_1]; decide) (by rw [c1_1]; decide) (by rw [c1_1]; rfl) (by decide) ?_
    refine x_aload_n C0 0 d_Rm_workedAs_42 rfl rfl ?_
    refine x_iload_n C0 1 d_Rm_workedAs_43 rfl rfl ?_
    refine x_iload_n C0 2 d_Rm_workedAs_44 rfl rfl ?_
    obtain ⟨g45, hwp⟩ := hwp
    refine x_callVi0 (k := l0) (As := [.int l1, .int l2]) (st := []) C0 (c_Rm_isTold l G hwp) kw_3_206 mk_Rm_isTold vk_Rm_isTold rfl g45 rfl (Nat.le_of_ble_eq_true rfl) rfl rfl ⟨Nat.le_trans (by decide) hR.1, Nat.le_trans (by decide) hR.2.1⟩ ⟨Nat.zero_le _, Nat.zero_le _⟩ rfl d_Rm_workedAs_45 (fun r45 h45 hwp => ?_)
    refine x_if_eq (tgt := 67) C0 d_Rm_workedAs_48 (by decide) (fun c48 => ?_) (fun c48 => ?_)
    · replace hwp := hwp.1 c48
      refine x_iconst (v := 0) C0 d_Rm_workedAs_67 (by decide) ?_
      exact x_iret C0 hr hlk hwp d_Rm_workedAs_68
    · replace hwp := hwp.2 c48
      refine x_aload_n C0 0 d_Rm_workedAs_51 rfl rfl ?_
      obtain ⟨x52, e52, hwp⟩ := hwp
      refine x_getR C0 fk_Rm_23 e52 d_Rm_workedAs_52 ?_
      refine x_bipush (v := 10) C0 d_Rm_workedAs_55 (by decide) ?_
      refine x_iload_n C0 1 d_Rm_workedAs_57 rfl rfl ?_
      refine x_imul C0 d_Rm_workedAs_58 ?_
      refine x_iload_n C0 2 d_Rm_workedAs_59 rfl rfl ?_
      refine x_iadd C0 d_Rm_workedAs_60 ?_
      obtain ⟨n61, f61, e61, i61, hwp⟩ := hwp
      refine x_iald C0 e61 i61 d_Rm_workedAs_61 ?_
      refine x_iconst (v := 1) C0 d_Rm_workedAs_62 (by decide) ?_
      refine x_isub C0 d_Rm_workedAs_63 ?_
      refine x_goto (tgt := 68) C0 d_Rm_workedAs_64 (by decide) ?_
      exact x_iret C0 hr hlk hwp d_Rm_workedAs_68
  by_cases c1_2 : l3 = (2 : Int32)
  · replace hwp := hwp.2.2.1 c1_2
    refine x_tableIn (tgt := 69) (off := 68) C0 d_Rm_workedAs_1 (by rw [c1_2]; decide) (by rw [c1_2]; decide) (by rw [c1_2]; rfl) (by decide) ?_
    refine x_aload_n C0 0 d_Rm_workedAs_69 rfl rfl ?_
    refine x_iload_n C0 1 d_Rm_workedAs_70 rfl rfl ?_
    refine x_iload_n C0 2 d_Rm_workedAs_71 rfl rfl ?_
    obtain ⟨g72, hwp⟩ := hwp
    refine x_callVi0 (k := l0) (As := [.int l1, .int l2]) (st := []) C0 (c_Rm_letterOf l G hwp) kw_4_11 mk_Rm_letterOf vk_Rm_letterOf rfl g72 rfl (Nat.le_of_ble_eq_true rfl) rfl rfl ⟨Nat.le_trans (by decide) hR.1, Nat.le_trans (by decide) hR.2.1⟩ ⟨Nat.zero_le _, Nat.zero_le _⟩ rfl d_Rm_workedAs_72 (fun r72 h72 hwp => ?_)
    exact x_iret C0 hr hlk hwp d_Rm_workedAs_75
  by_cases c1_3 : l3 = (3 : Int32)
  · replace hwp := hwp.2.2.2.1 c1_3
    refine x_tableIn (tgt := 76) (off := 75) C0 d_Rm_workedAs_1 (by rw [c1_3]; decide) (by rw [c1_3]; decide) (by rw [c1_3]; rfl) (by decide) ?_
    refine x_aload_n C0 0 d_Rm_workedAs_76 rfl rfl ?_
    refine x_iload_n C0 1 d_Rm_workedAs_77 rfl rfl ?_
    refine x_iload_n C0 2 d_Rm_workedAs_78 rfl rfl ?_
    obtain ⟨g79, hwp⟩ := hwp
    refine x_callVi0 (k := l0) (As := [.int l1, .int l2]) (st := []) C0 (c_Rm_alterOf l G hwp) kw_4_15 mk_Rm_alterOf vk_Rm_alterOf rfl g79 rfl (Nat.le_of_ble_eq_true rfl) rfl rfl ⟨Nat.le_trans (by decide) hR.1, Nat.le_trans (by decide) hR.2.1⟩ ⟨Nat.zero_le _, Nat.zero_le _⟩ rfl d_Rm_workedAs_79 (fun r79 h79 hwp => ?_)
    exact x_iret C0 hr hlk hwp d_Rm_workedAs_82
  by_cases c1_4 : l3 = (4 : Int32)
  · replace hwp := hwp.2.2.2.2.1 c1_4
    refine x_tableIn (tgt := 83) (off := 82) C0 d_Rm_workedAs_1 (by rw [c1_4]; decide) (by rw [c1_4]; decide) (by rw [c1_4]; rfl) (by decide) ?_
    refine x_aload_n C0 0 d_Rm_workedAs_83 rfl rfl ?_
    refine x_iload_n C0 1 d_Rm_workedAs_84 rfl rfl ?_
    refine x_iload_n C0 2 d_Rm_workedAs_85 rfl rfl ?_
    obtain ⟨g86, hwp⟩ := hwp
    refine x_callVi0 (k := l0) (As := [.int l1, .int l2]) (st := []) C0 (c_Rm_classOf l G hwp) kw_4_23 mk_Rm_classOf vk_Rm_classOf rfl g86 rfl (Nat.le_of_ble_eq_true rfl) rfl rfl ⟨Nat.le_trans (by decide) hR.1, Nat.le_trans (by decide) hR.2.1⟩ ⟨Nat.zero_le _, Nat.zero_le _⟩ rfl d_Rm_workedAs_86 (fun r86 h86 hwp => ?_)
    exact x_iret C0 hr hlk hwp d_Rm_workedAs_89
  by_cases c1_5 : l3 = (5 : Int32)
  · replace hwp := hwp.2.2.2.2.2.1 c1_5
    refine x_tableIn (tgt := 90) (off := 89) C0 d_Rm_workedAs_1 (by rw [c1_5]; decide) (by rw [c1_5]; decide) (by rw [c1_5]; rfl) (by decide) ?_
    refine x_aload_n C0 0 d_Rm_workedAs_90 rfl rfl ?_
    refine x_iload_n C0 1 d_Rm_workedAs_91 rfl rfl ?_
    refine x_iload_n C0 2 d_Rm_workedAs_92 rfl rfl ?_
    obtain ⟨g93, hwp⟩ := hwp
    refine x_callVi0 (k := l0) (As := [.int l1, .int l2]) (st := []) C0 (c_Rm_isTold l G hwp) kw_3_206 mk_Rm_isTold vk_Rm_isTold rfl g93 rfl (Nat.le_of_ble_eq_true rfl) rfl rfl ⟨Nat.le_trans (by decide) hR.1, Nat.le_trans (by decide) hR.2.1⟩ ⟨Nat.zero_le _, Nat.zero_le _⟩ rfl d_Rm_workedAs_93 (fun r93 h93 hwp => ?_)
    refine x_if_eq (tgt := 103) C0 d_Rm_workedAs_96 (by decide) (fun c96 => ?_) (fun c96 => ?_)
    · replace hwp := hwp.1 c96
      refine x_iconst (v := 0) C0 d_Rm_workedAs_103 (by decide) ?_
      exact x_iret C0 hr hlk hwp d_Rm_workedAs_104
    · replace hwp := hwp.2 c96
      refine x_iconst (v := 1) C0 d_Rm_workedAs_99 (by decide) ?_
      refine x_goto (tgt := 104) C0 d_Rm_workedAs_100 (by decide) ?_
      exact x_iret C0 hr hlk hwp d_Rm_workedAs_104
  have so1 : (l3).toInt < 0 ∨ 5 < (l3).toInt := by
    refine sw_out (fun k h1 h2 => ?_)
    obtain rfl | rfl | rfl | rfl | rfl | rfl : k = 0 ∨ k = 1 ∨ k = 2 ∨ k = 3 ∨ k = 4 ∨ k = 5 := by omega
    · exact c1_0
    · exact c1_1
    · exact c1_2
    · exact c1_3
    · exact c1_4
    · exact c1_5
  replace hwp := hwp.2.2.2.2.2.2 c1_0 c1_1 c1_2 c1_3 c1_4 c1_5
  refine x_tableOut (tgt := 105) C0 d_Rm_workedAs_1 so1 (by decide) ?_
  refine x_aload_n C0 0 d_Rm_workedAs_105 rfl rfl ?_
  refine x_iload_n C0 1 d_Rm_workedAs_106 rfl rfl ?_
  refine x_iload_n C0 2 d_Rm_workedAs_107 rfl rfl ?_
  obtain ⟨g108, hwp⟩ := hwp
  refine x_callVi0 (k := l0) (As := [.int l1, .int l2]) (st := []) C0 (c_Rm_isSuspended l G hwp) kw_4_30 mk_Rm_isSuspended vk_Rm_isSuspended rfl g108 rfl (Nat.le_of_ble_eq_true rfl) rfl rfl ⟨Nat.le_trans (by decide) hR.1, Nat.le_trans (by decide) hR.2.1⟩ ⟨Nat.zero_le _, Nat.zero_le _⟩ rfl d_Rm_workedAs_108 (fun r108 h108 hwp => ?_)
  refine x_if_eq (tgt := 118) C0 d_Rm_workedAs_111 (by decide) (fun c111 => ?_) (fun c111 => ?_)
  · replace hwp := hwp.1 c111
    refine x_iload_n C0 2 d_Rm_workedAs_118 rfl rfl ?_
    refine x_bipush (v := 7) C0 d_Rm_workedAs_119 (by decide) ?_
    refine x_icmp_ne (tgt := 128) C0 d_Rm_workedAs_121 (by decide) (fun c121 => ?_) (fun c121 => ?_)
    · replace hwp := hwp.1 c121
      refine x_iconst (v := 0) C0 d_Rm_workedAs_128 (by decide) ?_
      exact x_iret C0 hr hlk hwp d_Rm_workedAs_129
    · replace hwp := hwp.2 c121
      refine x_iconst (v := 2) C0 d_Rm_workedAs_124 (by decide) ?_
      refine x_goto (tgt := 129) C0 d_Rm_workedAs_125 (by decide) ?_
      exact x_iret C0 hr hlk hwp d_Rm_workedAs_129
  · replace hwp := hwp.2 c111
    refine x_iconst (v := 1) C0 d_Rm_workedAs_114 (by decide) ?_
    refine x_goto (tgt := 129) C0 d_Rm_workedAs_115 (by decide) ?_
    exact x_iret C0 hr hlk hwp d_Rm_workedAs_129
set_option maxRecDepth 100000 in
set_option maxHeartbeats 4000000 in
theorem c_Rm_workedAs (l : Launch) (G : mG) {Post : Int32 → MH → Prop} {l0 : Nat} {l1 : Int32} {l2 : Int32} {l3 : Int32} {h : MH} (hwp : wp_Rm_workedAs Post l0 l1 l2 l3 h) : Met l y_Rm_workedAs (Cond.code y_Rm_workedAs prog_8_method_27_code 4 (Option.some Jvm.ClassFile.FieldType.int) :: lw_good) ({ frames := 3, cells := 0, slots := 0, locals := 68 }) (va_Pc [.ref (m_b G + l0), .int l1, .int l2, .int l3] (Wd G h)) (va_Qi Post (Wd G) (mA G)) 0 0 (mA G) := by
  refine Met.ofW (cc := prog_8_method_27_code) (maxL := 4) (ret := (Option.some Jvm.ClassFile.FieldType.int)) (by decide +kernel) rfl ?_
  intro p e s m args below meth c s₁ B hml hv
  obtain ⟨rfl, hP, hz, hK, hSt⟩ := hv
  have hts := atoms_spec (ws := Cond.code y_Rm_workedAs prog_8_method_27_code 4 (Option.some Jvm.ClassFile.FieldType.int) :: lw_good) B.pre
  have C0 : Cx G p s m ([.ref (m_b G + l0), .int l1, .int l2, .int l3] : List Value).toArray c prog_8_method_27_code 4 "BassRealiserModel" := ⟨⟨B.exec, B.bytes, hml, findClass_of_methodNamed B.named, fun w h => hts w (List.mem_cons_of_mem _ h)⟩, hK, hSt, by rw [hz]; exact Nat.le_add_right _ _⟩
  have hl := lv_entry ([.ref (m_b G + l0), .int l1, .int l2, .int l3]) (n := 4) (Nat.le_of_ble_eq_true rfl)
  rw [lg_entry_eq]
  exact t_Rm_workedAs G C0 ⟨Nat.le_refl _, Nat.le_refl _, Nat.le_refl _, Nat.le_refl _⟩ B.returns B.notSynchronized _ _ _ _ _ hwp _ _ _ ⟨hP, hz, va_S.rf⟩ hl
