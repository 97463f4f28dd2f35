theorem d_Rm_worked_0 : decode prog_8_method_26_code 0 = .ok (.aload_n 0, 1) := by decide +kernel
theorem d_Rm_worked_1 : decode prog_8_method_26_code 1 = .ok (.iconst 0, 1) := by decide +kernel
theorem d_Rm_worked_2 : decode prog_8_method_26_code 2 = .ok (.putfield 1, 3) := by decide +kernel
theorem d_Rm_worked_5 : decode prog_8_method_26_code 5 = .ok (.aload_n 0, 1) := by decide +kernel
theorem d_Rm_worked_6 : decode prog_8_method_26_code 6 = .ok (.iload_n 1, 1) := by decide +kernel
theorem d_Rm_worked_7 : decode prog_8_method_26_code 7 = .ok (.invokevirtual 103, 3) := by decide +kernel
theorem d_Rm_worked_10 : decode prog_8_method_26_code 10 = .ok (.ifCond .ne 15, 3) := by decide +kernel
theorem d_Rm_worked_13 : decode prog_8_method_26_code 13 = .ok (.iload_n 3, 1) := by decide +kernel
theorem d_Rm_worked_14 : decode prog_8_method_26_code 14 = .ok (.i2l, 1) := by decide +kernel
theorem d_Rm_worked_15 : decode prog_8_method_26_code 15 = .ok (.lconst 0, 1) := by decide +kernel
theorem d_Rm_worked_16 : decode prog_8_method_26_code 16 = .ok (.ldc2_w 88, 3) := by decide +kernel
theorem d_Rm_worked_19 : decode prog_8_method_26_code 19 = .ok (.invokestatic 82, 3) := by decide +kernel
theorem d_Rm_worked_22 : decode prog_8_method_26_code 22 = .ok (.ifCond .ne 5, 3) := by decide +kernel
theorem d_Rm_worked_25 : decode prog_8_method_26_code 25 = .ok (.iconst (-1), 1) := by decide +kernel
theorem d_Rm_worked_26 : decode prog_8_method_26_code 26 = .ok (.ireturn, 1) := by decide +kernel
theorem d_Rm_worked_27 : decode prog_8_method_26_code 27 = .ok (.iconst 0, 1) := by decide +kernel
theorem d_Rm_worked_28 : decode prog_8_method_26_code 28 = .ok (.istore 4, 2) := by decide +kernel
theorem d_Rm_worked_30 : decode prog_8_method_26_code 30 = .ok (.iconst 2, 1) := by decide +kernel
theorem d_Rm_worked_31 : decode prog_8_method_26_code 31 = .ok (.istore 5, 2) := by decide +kernel
theorem d_Rm_worked_33 : decode prog_8_method_26_code 33 = .ok (.iload 5, 2) := by decide +kernel
theorem d_Rm_worked_35 : decode prog_8_method_26_code 35 = .ok (.bipush 10, 2) := by decide +kernel
theorem d_Rm_worked_37 : decode prog_8_method_26_code 37 = .ok (.if_icmp .ge 43, 3) := by decide +kernel
theorem d_Rm_worked_40 : decode prog_8_method_26_code 40 = .ok (.aload_n 0, 1) := by decide +kernel
theorem d_Rm_worked_41 : decode prog_8_method_26_code 41 = .ok (.iload_n 1, 1) := by decide +kernel
theorem d_Rm_worked_42 : decode prog_8_method_26_code 42 = .ok (.iload 5, 2) := by decide +kernel
theorem d_Rm_worked_44 : decode prog_8_method_26_code 44 = .ok (.invokevirtual 131, 3) := by decide +kernel
theorem d_Rm_worked_47 : decode prog_8_method_26_code 47 = .ok (.ifCond .eq 27, 3) := by decide +kernel
theorem d_Rm_worked_50 : decode prog_8_method_26_code 50 = .ok (.iload 4, 2) := by decide +kernel
theorem d_Rm_worked_52 : decode prog_8_method_26_code 52 = .ok (.iload_n 2, 1) := by decide +kernel
theorem d_Rm_worked_53 : decode prog_8_method_26_code 53 = .ok (.if_icmp .ne 18, 3) := by decide +kernel
theorem d_Rm_worked_56 : decode prog_8_method_26_code 56 = .ok (.iload_n 3, 1) := by decide +kernel
theorem d_Rm_worked_57 : decode prog_8_method_26_code 57 = .ok (.bipush 7, 2) := by decide +kernel
theorem d_Rm_worked_59 : decode prog_8_method_26_code 59 = .ok (.if_icmp .ge 12, 3) := by decide +kernel
theorem d_Rm_worked_62 : decode prog_8_method_26_code 62 = .ok (.aload_n 0, 1) := by decide +kernel
theorem d_Rm_worked_63 : decode prog_8_method_26_code 63 = .ok (.iload_n 1, 1) := by decide +kernel
theorem d_Rm_worked_64 : decode prog_8_method_26_code 64 = .ok (.iload 5, 2) := by decide +kernel
theorem d_Rm_worked_66 : decode prog_8_method_26_code 66 = .ok (.iload_n 3, 1) := by decide +kernel
theorem d_Rm_worked_67 : decode prog_8_method_26_code 67 = .ok (.invokevirtual 147, 3) := by decide +kernel
theorem d_Rm_worked_70 : decode prog_8_method_26_code 70 = .ok (.ireturn, 1) := by decide +kernel
theorem d_Rm_worked_71 : decode prog_8_method_26_code 71 = .ok (.iinc 4 1, 3) := by decide +kernel
theorem d_Rm_worked_74 : decode prog_8_method_26_code 74 = .ok (.iinc 5 1, 3) := by decide +kernel
theorem d_Rm_worked_77 : decode prog_8_method_26_code 77 = .ok (.goto (-44), 3) := by decide +kernel
theorem d_Rm_worked_80 : decode prog_8_method_26_code 80 = .ok (.iload_n 3, 1) := by decide +kernel
theorem d_Rm_worked_81 : decode prog_8_method_26_code 81 = .ok (.bipush 7, 2) := by decide +kernel
theorem d_Rm_worked_83 : decode prog_8_method_26_code 83 = .ok (.if_icmp .ne 8, 3) := by decide +kernel
theorem d_Rm_worked_86 : decode prog_8_method_26_code 86 = .ok (.iload 4, 2) := by decide +kernel
theorem d_Rm_worked_88 : decode prog_8_method_26_code 88 = .ok (.goto 4, 3) := by decide +kernel
theorem d_Rm_worked_91 : decode prog_8_method_26_code 91 = .ok (.iconst (-1), 1) := by decide +kernel
theorem d_Rm_worked_92 : decode prog_8_method_26_code 92 = .ok (.ireturn, 1) := by decide +kernel
theorem d_Ch_takes_0 : decode prog_2_method_14_code 0 = .ok (.iload_n 1, 1) := by decide +kernel
theorem d_Ch_takes_1 : decode prog_2_method_14_code 1 = .ok (.invokestatic 64, 3) := by decide +kernel
theorem d_Ch_takes_4 : decode prog_2_method_14_code 4 = .ok (.aload_n 0, 1) := by decide +kernel
theorem d_Ch_takes_5 : decode prog_2_method_14_code 5 = .ok (.getfield 67, 3) := by decide +kernel
theorem d_Ch_takes_8 : decode prog_2_method_14_code 8 = .ok (.iand, 1) := by decide +kernel
theorem d_Ch_takes_9 : decode prog_2_method_14_code 9 = .ok (.ifCond .eq 7, 3) := by decide +kernel
theorem d_Ch_takes_12 : decode prog_2_method_14_code 12 = .ok (.iconst 1, 1) := by decide +kernel
theorem d_Ch_takes_13 : decode prog_2_method_14_code 13 = .ok (.goto 4, 3) := by decide +kernel
theorem d_Ch_takes_16 : decode prog_2_method_14_code 16 = .ok (.iconst 0, 1) := by decide +kernel
theorem d_Ch_takes_17 : decode prog_2_method_14_code 17 = .ok (.ireturn, 1) := by decide +kernel
theorem d_Br_pack_0 : decode prog_1_method_31_code 0 = .ok (.iload_n 0, 1) := by decide +kernel
theorem d_Br_pack_1 : decode prog_1_method_31_code 1 = .ok (.bipush 14, 2) := by decide +kernel
theorem d_Br_pack_3 : decode prog_1_method_31_code 3 = .ok (.ishl, 1) := by decide +kernel
theorem d_Br_pack_4 : decode prog_1_method_31_code 4 = .ok (.iload_n 1, 1) := by decide +kernel
theorem d_Br_pack_5 : decode prog_1_method_31_code 5 = .ok (.bipush 7, 2) := by decide +kernel
theorem d_Br_pack_7 : decode prog_1_method_31_code 7 = .ok (.ishl, 1) := by decide +kernel
theorem d_Br_pack_8 : decode prog_1_method_31_code 8 = .ok (.ior, 1) := by decide +kernel
theorem d_Br_pack_9 : decode prog_1_method_31_code 9 = .ok (.iload_n 2, 1) := by decide +kernel
theorem d_Br_pack_10 : decode prog_1_method_31_code 10 = .ok (.ior, 1) := by decide +kernel
theorem d_Br_pack_11 : decode prog_1_method_31_code 11 = .ok (.ireturn, 1) := by decide +kernel
theorem d_Br_pitchOf_0 : decode prog_1_method_32_code 0 = .ok (.iload_n 0, 1) := by decide +kernel
theorem d_Br_pitchOf_1 : decode prog_1_method_32_code 1 = .ok (.bipush 7, 2) := by decide +kernel
theorem d_Br_pitchOf_3 : decode prog_1_method_32_code 3 = .ok (.iconst 2, 1) := by decide +kernel
theorem d_Br_pitchOf_4 : decode prog_1_method_32_code 4 = .ok (.iload_n 1, 1) := by decide +kernel
theorem d_Br_pitchOf_5 : decode prog_1_method_32_code 5 = .ok (.isub, 1) := by decide +kernel
theorem d_Br_pitchOf_6 : decode prog_1_method_32_code 6 = .ok (.imul, 1) := by decide +kernel
theorem d_Br_pitchOf_7 : decode prog_1_method_32_code 7 = .ok (.ishr, 1) := by decide +kernel
theorem d_Br_pitchOf_8 : decode prog_1_method_32_code 8 = .ok (.bipush 127, 2) := by decide +kernel
theorem d_Br_pitchOf_10 : decode prog_1_method_32_code 10 = .ok (.iand, 1) := by decide +kernel
theorem d_Br_pitchOf_11 : decode prog_1_method_32_code 11 = .ok (.ireturn, 1) := by decide +kernel
theorem d_Ru_outside_0 : decode prog_5_method_4_code 0 = .ok (.iload_n 2, 1) := by decide +kernel
theorem d_Ru_outside_1 : decode prog_5_method_4_code 1 = .ok (.aload_n 0, 1) := by decide +kernel
theorem d_Ru_outside_2 : decode prog_5_method_4_code 2 = .ok (.getfield 9, 3) := by decide +kernel
theorem d_Ru_outside_5 : decode prog_5_method_4_code 5 = .ok (.iload_n 1, 1) := by decide +kernel
theorem d_Ru_outside_6 : decode prog_5_method_4_code 6 = .ok (.iaload, 1) := by decide +kernel
theorem d_Ru_outside_7 : decode prog_5_method_4_code 7 = .ok (.if_icmp .lt 13, 3) := by decide +kernel
theorem d_Ru_outside_10 : decode prog_5_method_4_code 10 = .ok (.iload_n 2, 1) := by decide +kernel
theorem d_Ru_outside_11 : decode prog_5_method_4_code 11 = .ok (.aload_n 0, 1) := by decide +kernel
theorem d_Ru_outside_12 : decode prog_5_method_4_code 12 = .ok (.getfield 15, 3) := by decide +kernel
theorem d_Ru_outside_15 : decode prog_5_method_4_code 15 = .ok (.iload_n 1, 1) := by decide +kernel
theorem d_Ru_outside_16 : decode prog_5_method_4_code 16 = .ok (.iaload, 1) := by decide +kernel
theorem d_Ru_outside_17 : decode prog_5_method_4_code 17 = .ok (.if_icmp .le 7, 3) := by decide +kernel
theorem d_Ru_outside_20 : decode prog_5_method_4_code 20 = .ok (.iconst 1, 1) := by decide +kernel
theorem d_Ru_outside_21 : decode prog_5_method_4_code 21 = .ok (.goto 4, 3) := by decide +kernel
theorem d_Ru_outside_24 : decode prog_5_method_4_code 24 = .ok (.iconst 0, 1) := by decide +kernel
theorem d_Ru_outside_25 : decode prog_5_method_4_code 25 = .ok (.ireturn, 1) := by decide +kernel
theorem d_Ru_leadingOnes_0 : decode prog_5_method_5_code 0 = .ok (.bipush 7, 2) := by decide +kernel
theorem d_Ru_leadingOnes_2 : decode prog_5_method_5_code 2 = .ok (.aload_n 0, 1) := by decide +kernel
theorem d_Ru_leadingOnes_3 : decode prog_5_method_5_code 3 = .ok (.getfield 25, 3) := by decide +kernel
theorem d_Ru_leadingOnes_6 : decode prog_5_method_5_code 6 = .ok (.imul, 1) := by decide +kernel
theorem d_Ru_leadingOnes_7 : decode prog_5_method_5_code 7 = .ok (.bipush 11, 2) := by decide +kernel
theorem d_Ru_leadingOnes_9 : decode prog_5_method_5_code 9 = .ok (.iadd, 1) := by decide +kernel
theorem d_Ru_leadingOnes_10 : decode prog_5_method_5_code 10 = .ok (.bipush 12, 2) := by decide +kernel
theorem d_Ru_leadingOnes_12 : decode prog_5_method_5_code 12 = .ok (.invokestatic 64, 3) := by decide +kernel
theorem d_Ru_leadingOnes_15 : decode prog_5_method_5_code 15 = .ok (.istore 5, 2) := by decide +kernel
theorem d_Ru_leadingOnes_17 : decode prog_5_method_5_code 17 = .ok (.iload_n 1, 1) := by decide +kernel
theorem d_Ru_leadingOnes_18 : decode prog_5_method_5_code 18 = .ok (.bipush 12, 2) := by decide +kernel
theorem d_Ru_leadingOnes_20 : decode prog_5_method_5_code 20 = .ok (.irem, 1) := by decide +kernel
theorem d_Ru_leadingOnes_21 : decode prog_5_method_5_code 21 = .ok (.iload 5, 2) := by decide +kernel
theorem d_Ru_leadingOnes_23 : decode prog_5_method_5_code 23 = .ok (.if_icmp .ne 7, 3) := by decide +kernel
theorem d_Ru_leadingOnes_26 : decode prog_5_method_5_code 26 = .ok (.iconst 1, 1) := by decide +kernel
theorem d_Ru_leadingOnes_27 : decode prog_5_method_5_code 27 = .ok (.goto 4, 3) := by decide +kernel
theorem d_Ru_leadingOnes_30 : decode prog_5_method_5_code 30 = .ok (.iconst 0, 1) := by decide +kernel
theorem d_Ru_leadingOnes_31 : decode prog_5_method_5_code 31 = .ok (.istore 6, 2) := by decide +kernel
theorem d_Ru_leadingOnes_33 : decode prog_5_method_5_code 33 = .ok (.iload 6, 2) := by decide +kernel
theorem d_Ru_leadingOnes_35 : decode prog_5_method_5_code 35 = .ok (.iload_n 2, 1) := by decide +kernel
theorem d_Ru_leadingOnes_36 : decode prog_5_method_5_code 36 = .ok (.bipush 12, 2) := by decide +kernel
theorem d_Ru_leadingOnes_38 : decode prog_5_method_5_code 38 = .ok (.irem, 1) := by decide +kernel
theorem d_Ru_leadingOnes_39 : decode prog_5_method_5_code 39 = .ok (.iload 5, 2) := by decide +kernel
theorem d_Ru_leadingOnes_41 : decode prog_5_method_5_code 41 = .ok (.if_icmp .ne 7, 3) := by decide +kernel
theorem d_Ru_leadingOnes_44 : decode prog_5_method_5_code 44 = .ok (.iconst 1, 1) := by decide +kernel
theorem d_Ru_leadingOnes_45 : decode prog_5_method_5_code 45 = .ok (.goto 4, 3) := by decide +kernel
theorem d_Ru_leadingOnes_48 : decode prog_5_method_5_code 48 = .ok (.iconst 0, 1) := by decide +kernel
theorem d_Ru_leadingOnes_49 : decode prog_5_method_5_code 49 = .ok (.iadd, 1) := by decide +kernel
theorem d_Ru_leadingOnes_50 : decode prog_5_method_5_code 50 = .ok (.istore 6, 2) := by decide +kernel
theorem d_Ru_leadingOnes_52 : decode prog_5_method_5_code 52 = .ok (.iload 6, 2) := by decide +kernel
theorem d_Ru_leadingOnes_54 : decode prog_5_method_5_code 54 = .ok (.iload_n 3, 1) := by decide +kernel
theorem d_Ru_leadingOnes_55 : decode prog_5_method_5_code 55 = .ok (.bipush 12, 2) := by decide +kernel
theorem d_Ru_leadingOnes_57 : decode prog_5_method_5_code 57 = .ok (.irem, 1) := by decide +kernel
theorem d_Ru_leadingOnes_58 : decode prog_5_method_5_code 58 = .ok (.iload 5, 2) := by decide +kernel
theorem d_Ru_leadingOnes_60 : decode prog_5_method_5_code 60 = .ok (.if_icmp .ne 7, 3) := by decide +kernel
theorem d_Ru_leadingOnes_63 : decode prog_5_method_5_code 63 = .ok (.iconst 1, 1) := by decide +kernel
theorem d_Ru_leadingOnes_64 : decode prog_5_method_5_code 64 = .ok (.goto 4, 3) := by decide +kernel
theorem d_Ru_leadingOnes_67 : decode prog_5_method_5_code 67 = .ok (.iconst 0, 1) := by decide +kernel
theorem d_Ru_leadingOnes_68 : decode prog_5_method_5_code 68 = .ok (.iadd, 1) := by decide +kernel
theorem d_Ru_leadingOnes_69 : decode prog_5_method_5_code 69 = .ok (.istore 6, 2) := by decide +kernel
theorem d_Ru_leadingOnes_71 : decode prog_5_method_5_code 71 = .ok (.iload 6, 2) := by decide +kernel
theorem d_Ru_leadingOnes_73 : decode prog_5_method_5_code 73 = .ok (.iload 4, 2) := by decide +kernel
theorem d_Ru_leadingOnes_75 : decode prog_5_method_5_code 75 = .ok (.bipush 12, 2) := by decide +kernel
theorem d_Ru_leadingOnes_77 : decode prog_5_method_5_code 77 = .ok (.irem, 1) := by decide +kernel
theorem d_Ru_leadingOnes_78 : decode prog_5_method_5_code 78 = .ok (.iload 5, 2) := by decide +kernel
theorem d_Ru_leadingOnes_80 : decode prog_5_method_5_code 80 = .ok (.if_icmp .ne 7, 3) := by decide +kernel
theorem d_Ru_leadingOnes_83 : decode prog_5_method_5_code 83 = .ok (.iconst 1, 1) := by decide +kernel
theorem d_Ru_leadingOnes_84 : decode prog_5_method_5_code 84 = .ok (.goto 4, 3) := by decide +kernel
theorem d_Ru_leadingOnes_87 : decode prog_5_method_5_code 87 = .ok (.iconst 0, 1) := by decide +kernel
theorem d_Ru_leadingOnes_88 : decode prog_5_method_5_code 88 = .ok (.iadd, 1) := by decide +kernel
theorem d_Ru_leadingOnes_89 : decode prog_5_method_5_code 89 = .ok (.istore 6, 2) := by decide +kernel
theorem d_Ru_leadingOnes_91 : decode prog_5_method_5_code 91 = .ok (.iload 6, 2) := by decide +kernel
theorem d_Ru_leadingOnes_93 : decode prog_5_method_5_code 93 = .ok (.ireturn, 1) := by decide +kernel
theorem d_Ru_strays_0 : decode prog_5_method_6_code 0 = .ok (.iconst 0, 1) := by decide +kernel
theorem d_Ru_strays_1 : decode prog_5_method_6_code 1 = .ok (.istore_n 2, 1) := by decide +kernel
theorem d_Ru_strays_2 : decode prog_5_method_6_code 2 = .ok (.iload_n 2, 1) := by decide +kernel
theorem d_Ru_strays_3 : decode prog_5_method_6_code 3 = .ok (.iconst 3, 1) := by decide +kernel
theorem d_Ru_strays_4 : decode prog_5_method_6_code 4 = .ok (.if_icmp .ge 32, 3) := by decide +kernel
theorem d_Ru_strays_7 : decode prog_5_method_6_code 7 = .ok (.aload_n 0, 1) := by decide +kernel
theorem d_Ru_strays_8 : decode prog_5_method_6_code 8 = .ok (.getfield 67, 3) := by decide +kernel
theorem d_Ru_strays_11 : decode prog_5_method_6_code 11 = .ok (.iload_n 2, 1) := by decide +kernel
theorem d_Ru_strays_12 : decode prog_5_method_6_code 12 = .ok (.iaload, 1) := by decide +kernel
theorem d_Ru_strays_13 : decode prog_5_method_6_code 13 = .ok (.istore_n 3, 1) := by decide +kernel
theorem d_Ru_strays_14 : decode prog_5_method_6_code 14 = .ok (.iload_n 3, 1) := by decide +kernel
theorem d_Ru_strays_15 : decode prog_5_method_6_code 15 = .ok (.iconst (-1), 1) := by decide +kernel
theorem d_Ru_strays_16 : decode prog_5_method_6_code 16 = .ok (.if_icmp .eq 14, 3) := by decide +kernel
theorem d_Ru_strays_19 : decode prog_5_method_6_code 19 = .ok (.iload_n 3, 1) := by decide +kernel
theorem d_Ru_strays_20 : decode prog_5_method_6_code 20 = .ok (.iload_n 1, 1) := by decide +kernel
theorem d_Ru_strays_21 : decode prog_5_method_6_code 21 = .ok (.iload_n 2, 1) := by decide +kernel
theorem d_Ru_strays_22 : decode prog_5_method_6_code 22 = .ok (.invokestatic 28, 3) := by decide +kernel
theorem d_Ru_strays_25 : decode prog_5_method_6_code 25 = .ok (.if_icmp .eq 5, 3) := by decide +kernel
theorem d_Ru_strays_28 : decode prog_5_method_6_code 28 = .ok (.iconst 1, 1) := by decide +kernel
theorem d_Ru_strays_29 : decode prog_5_method_6_code 29 = .ok (.ireturn, 1) := by decide +kernel
theorem d_Ru_strays_30 : decode prog_5_method_6_code 30 = .ok (.iinc 2 1, 3) := by decide +kernel
theorem d_Ru_strays_33 : decode prog_5_method_6_code 33 = .ok (.goto (-31), 3) := by decide +kernel
theorem d_Ru_strays_36 : decode prog_5_method_6_code 36 = .ok (.iconst 0, 1) := by decide +kernel
theorem d_Ru_strays_37 : decode prog_5_method_6_code 37 = .ok (.ireturn, 1) := by decide +kernel
theorem d_Ru_ofVoicing_0 : decode prog_5_method_3_code 0 = .ok (.iload_n 2, 1) := by decide +kernel
theorem d_Ru_ofVoicing_1 : decode prog_5_method_3_code 1 = .ok (.iconst 0, 1) := by decide +kernel
theorem d_Ru_ofVoicing_2 : decode prog_5_method_3_code 2 = .ok (.invokestatic 28, 3) := by decide +kernel
theorem d_Ru_ofVoicing_5 : decode prog_5_method_3_code 5 = .ok (.istore_n 3, 1) := by decide +kernel
theorem d_Ru_ofVoicing_6 : decode prog_5_method_3_code 6 = .ok (.iload_n 2, 1) := by decide +kernel
theorem d_Ru_ofVoicing_7 : decode prog_5_method_3_code 7 = .ok (.iconst 1, 1) := by decide +kernel
theorem d_Ru_ofVoicing_8 : decode prog_5_method_3_code 8 = .ok (.invokestatic 28, 3) := by decide +kernel
theorem d_Ru_ofVoicing_11 : decode prog_5_method_3_code 11 = .ok (.istore 4, 2) := by decide +kernel
theorem d_Ru_ofVoicing_13 : decode prog_5_method_3_code 13 = .ok (.iload_n 2, 1) := by decide +kernel
theorem d_Ru_ofVoicing_14 : decode prog_5_method_3_code 14 = .ok (.iconst 2, 1) := by decide +kernel
theorem d_Ru_ofVoicing_15 : decode prog_5_method_3_code 15 = .ok (.invokestatic 28, 3) := by decide +kernel
theorem d_Ru_ofVoicing_18 : decode prog_5_method_3_code 18 = .ok (.istore 5, 2) := by decide +kernel
theorem d_Ru_ofVoicing_20 : decode prog_5_method_3_code 20 = .ok (.aload_n 0, 1) := by decide +kernel
theorem d_Ru_ofVoicing_21 : decode prog_5_method_3_code 21 = .ok (.iconst 0, 1) := by decide +kernel
theorem d_Ru_ofVoicing_22 : decode prog_5_method_3_code 22 = .ok (.iload_n 3, 1) := by decide +kernel
theorem d_Ru_ofVoicing_23 : decode prog_5_method_3_code 23 = .ok (.invokevirtual 38, 3) := by decide +kernel
theorem d_Ru_ofVoicing_26 : decode prog_5_method_3_code 26 = .ok (.ifCond .ne 23, 3) := by decide +kernel
theorem d_Ru_ofVoicing_29 : decode prog_5_method_3_code 29 = .ok (.aload_n 0, 1) := by decide +kernel
theorem d_Ru_ofVoicing_30 : decode prog_5_method_3_code 30 = .ok (.iconst 1, 1) := by decide +kernel
theorem d_Ru_ofVoicing_31 : decode prog_5_method_3_code 31 = .ok (.iload 4, 2) := by decide +kernel
theorem d_Ru_ofVoicing_33 : decode prog_5_method_3_code 33 = .ok (.invokevirtual 38, 3) := by decide +kernel
theorem d_Ru_ofVoicing_36 : decode prog_5_method_3_code 36 = .ok (.ifCond .ne 13, 3) := by decide +kernel
theorem d_Ru_ofVoicing_39 : decode prog_5_method_3_code 39 = .ok (.aload_n 0, 1) := by decide +kernel
theorem d_Ru_ofVoicing_40 : decode prog_5_method_3_code 40 = .ok (.iconst 2, 1) := by decide +kernel
theorem d_Ru_ofVoicing_41 : decode prog_5_method_3_code 41 = .ok (.iload 5, 2) := by decide +kernel
theorem d_Ru_ofVoicing_43 : decode prog_5_method_3_code 43 = .ok (.invokevirtual 38, 3) := by decide +kernel
theorem d_Ru_ofVoicing_46 : decode prog_5_method_3_code 46 = .ok (.ifCond .eq 5, 3) := by decide +kernel
theorem d_Ru_ofVoicing_49 : decode prog_5_method_3_code 49 = .ok (.iconst 1, 1) := by decide +kernel
theorem d_Ru_ofVoicing_50 : decode prog_5_method_3_code 50 = .ok (.ireturn, 1) := by decide +kernel
theorem d_Ru_ofVoicing_51 : decode prog_5_method_3_code 51 = .ok (.iload_n 3, 1) := by decide +kernel
theorem d_Ru_ofVoicing_52 : decode prog_5_method_3_code 52 = .ok (.invokestatic 42, 3) := by decide +kernel
theorem d_Ru_ofVoicing_55 : decode prog_5_method_3_code 55 = .ok (.iload 4, 2) := by decide +kernel
theorem d_Ru_ofVoicing_57 : decode prog_5_method_3_code 57 = .ok (.invokestatic 42, 3) := by decide +kernel
theorem d_Ru_ofVoicing_60 : decode prog_5_method_3_code 60 = .ok (.ior, 1) := by decide +kernel
theorem d_Ru_ofVoicing_61 : decode prog_5_method_3_code 61 = .ok (.iload 5, 2) := by decide +kernel
theorem d_Ru_ofVoicing_63 : decode prog_5_method_3_code 63 = .ok (.invokestatic 42, 3) := by decide +kernel
theorem d_Ru_ofVoicing_66 : decode prog_5_method_3_code 66 = .ok (.ior, 1) := by decide +kernel
theorem d_Ru_ofVoicing_67 : decode prog_5_method_3_code 67 = .ok (.istore 6, 2) := by decide +kernel
theorem d_Ru_ofVoicing_69 : decode prog_5_method_3_code 69 = .ok (.iload 6, 2) := by decide +kernel
theorem d_Ru_ofVoicing_71 : decode prog_5_method_3_code 71 = .ok (.aload_n 1, 1) := by decide +kernel
theorem d_Ru_ofVoicing_72 : decode prog_5_method_3_code 72 = .ok (.getfield 45, 3) := by decide +kernel
theorem d_Ru_ofVoicing_75 : decode prog_5_method_3_code 75 = .ok (.iconst (-1), 1) := by decide +kernel
theorem d_Ru_ofVoicing_76 : decode prog_5_method_3_code 76 = .ok (.ixor, 1) := by decide +kernel
theorem d_Ru_ofVoicing_77 : decode prog_5_method_3_code 77 = .ok (.iand, 1) := by decide +kernel
theorem d_Ru_ofVoicing_78 : decode prog_5_method_3_code 78 = .ok (.ifCond .eq 5, 3) := by decide +kernel
theorem d_Ru_ofVoicing_81 : decode prog_5_method_3_code 81 = .ok (.iconst 2, 1) := by decide +kernel
theorem d_Ru_ofVoicing_82 : decode prog_5_method_3_code 82 = .ok (.ireturn, 1) := by decide +kernel
theorem d_Ru_ofVoicing_83 : decode prog_5_method_3_code 83 = .ok (.aload_n 1, 1) := by decide +kernel
theorem d_Ru_ofVoicing_84 : decode prog_5_method_3_code 84 = .ok (.getfield 50, 3) := by decide +kernel
theorem d_Ru_ofVoicing_87 : decode prog_5_method_3_code 87 = .ok (.iload 6, 2) := by decide +kernel
theorem d_Ru_ofVoicing_89 : decode prog_5_method_3_code 89 = .ok (.aload_n 1, 1) := by decide +kernel
theorem d_Ru_ofVoicing_90 : decode prog_5_method_3_code 90 = .ok (.getfield 53, 3) := by decide +kernel
theorem d_Ru_ofVoicing_93 : decode prog_5_method_3_code 93 = .ok (.invokestatic 42, 3) := by decide +kernel
theorem d_Ru_ofVoicing_96 : decode prog_5_method_3_code 96 = .ok (.ior, 1) := by decide +kernel
theorem d_Ru_ofVoicing_97 : decode prog_5_method_3_code 97 = .ok (.iconst (-1), 1) := by decide +kernel
theorem d_Ru_ofVoicing_98 : decode prog_5_method_3_code 98 = .ok (.ixor, 1) := by decide +kernel
theorem d_Ru_ofVoicing_99 : decode prog_5_method_3_code 99 = .ok (.iand, 1) := by decide +kernel
theorem d_Ru_ofVoicing_100 : decode prog_5_method_3_code 100 = .ok (.ifCond .eq 5, 3) := by decide +kernel
theorem d_Ru_ofVoicing_103 : decode prog_5_method_3_code 103 = .ok (.iconst 3, 1) := by decide +kernel
theorem d_Ru_ofVoicing_104 : decode prog_5_method_3_code 104 = .ok (.ireturn, 1) := by decide +kernel
theorem d_Ru_ofVoicing_105 : decode prog_5_method_3_code 105 = .ok (.iload_n 3, 1) := by decide +kernel
theorem d_Ru_ofVoicing_106 : decode prog_5_method_3_code 106 = .ok (.iload 4, 2) := by decide +kernel
theorem d_Ru_ofVoicing_108 : decode prog_5_method_3_code 108 = .ok (.if_icmp .lt 19, 3) := by decide +kernel
theorem d_Ru_ofVoicing_111 : decode prog_5_method_3_code 111 = .ok (.iload 4, 2) := by decide +kernel
theorem d_Ru_ofVoicing_113 : decode prog_5_method_3_code 113 = .ok (.iload 5, 2) := by decide +kernel
theorem d_Ru_ofVoicing_115 : decode prog_5_method_3_code 115 = .ok (.if_icmp .lt 12, 3) := by decide +kernel
theorem d_Ru_ofVoicing_118 : decode prog_5_method_3_code 118 = .ok (.iload 5, 2) := by decide +kernel
theorem d_Ru_ofVoicing_120 : decode prog_5_method_3_code 120 = .ok (.aload_n 1, 1) := by decide +kernel
theorem d_Ru_ofVoicing_121 : decode prog_5_method_3_code 121 = .ok (.getfield 53, 3) := by decide +kernel
theorem d_Ru_ofVoicing_124 : decode prog_5_method_3_code 124 = .ok (.if_icmp .ge 5, 3) := by decide +kernel
theorem d_Ru_ofVoicing_127 : decode prog_5_method_3_code 127 = .ok (.iconst 4, 1) := by decide +kernel
theorem d_Ru_ofVoicing_128 : decode prog_5_method_3_code 128 = .ok (.ireturn, 1) := by decide +kernel
theorem d_Ru_ofVoicing_129 : decode prog_5_method_3_code 129 = .ok (.iload_n 3, 1) := by decide +kernel
theorem d_Ru_ofVoicing_130 : decode prog_5_method_3_code 130 = .ok (.iload 4, 2) := by decide +kernel
theorem d_Ru_ofVoicing_132 : decode prog_5_method_3_code 132 = .ok (.isub, 1) := by decide +kernel
theorem d_Ru_ofVoicing_133 : decode prog_5_method_3_code 133 = .ok (.invokestatic 32, 3) := by decide +kernel
theorem d_Ru_ofVoicing_136 : decode prog_5_method_3_code 136 = .ok (.bipush 12, 2) := by decide +kernel
theorem d_Ru_ofVoicing_138 : decode prog_5_method_3_code 138 = .ok (.if_icmp .gt 16, 3) := by decide +kernel
theorem d_Ru_ofVoicing_141 : decode prog_5_method_3_code 141 = .ok (.iload 4, 2) := by decide +kernel
theorem d_Ru_ofVoicing_143 : decode prog_5_method_3_code 143 = .ok (.iload 5, 2) := by decide +kernel
theorem d_Ru_ofVoicing_145 : decode prog_5_method_3_code 145 = .ok (.isub, 1) := by decide +kernel
theorem d_Ru_ofVoicing_146 : decode prog_5_method_3_code 146 = .ok (.invokestatic 32, 3) := by decide +kernel
theorem d_Ru_ofVoicing_149 : decode prog_5_method_3_code 149 = .ok (.bipush 12, 2) := by decide +kernel
theorem d_Ru_ofVoicing_151 : decode prog_5_method_3_code 151 = .ok (.if_icmp .le 5, 3) := by decide +kernel
theorem d_Ru_ofVoicing_154 : decode prog_5_method_3_code 154 = .ok (.iconst 5, 1) := by decide +kernel
theorem d_Ru_ofVoicing_155 : decode prog_5_method_3_code 155 = .ok (.ireturn, 1) := by decide +kernel
theorem d_Ru_ofVoicing_156 : decode prog_5_method_3_code 156 = .ok (.aload_n 0, 1) := by decide +kernel
theorem d_Ru_ofVoicing_157 : decode prog_5_method_3_code 157 = .ok (.aload_n 1, 1) := by decide +kernel
theorem d_Ru_ofVoicing_158 : decode prog_5_method_3_code 158 = .ok (.getfield 53, 3) := by decide +kernel
theorem d_Ru_ofVoicing_161 : decode prog_5_method_3_code 161 = .ok (.iload_n 3, 1) := by decide +kernel
theorem d_Ru_ofVoicing_162 : decode prog_5_method_3_code 162 = .ok (.iload 4, 2) := by decide +kernel
theorem d_Ru_ofVoicing_164 : decode prog_5_method_3_code 164 = .ok (.iload 5, 2) := by decide +kernel
theorem d_Ru_ofVoicing_166 : decode prog_5_method_3_code 166 = .ok (.invokevirtual 56, 3) := by decide +kernel
theorem d_Ru_ofVoicing_169 : decode prog_5_method_3_code 169 = .ok (.iconst 1, 1) := by decide +kernel
theorem d_Ru_ofVoicing_170 : decode prog_5_method_3_code 170 = .ok (.if_icmp .le 6, 3) := by decide +kernel
theorem d_Ru_ofVoicing_173 : decode prog_5_method_3_code 173 = .ok (.bipush 6, 2) := by decide +kernel
theorem d_Ru_ofVoicing_175 : decode prog_5_method_3_code 175 = .ok (.ireturn, 1) := by decide +kernel
theorem d_Ru_ofVoicing_176 : decode prog_5_method_3_code 176 = .ok (.aload_n 1, 1) := by decide +kernel
theorem d_Ru_ofVoicing_177 : decode prog_5_method_3_code 177 = .ok (.iload_n 2, 1) := by decide +kernel
theorem d_Ru_ofVoicing_178 : decode prog_5_method_3_code 178 = .ok (.invokestatic 60, 3) := by decide +kernel
theorem d_Ru_ofVoicing_181 : decode prog_5_method_3_code 181 = .ok (.ifCond .eq 8, 3) := by decide +kernel
theorem d_Ru_ofVoicing_184 : decode prog_5_method_3_code 184 = .ok (.bipush 7, 2) := by decide +kernel
theorem d_Ru_ofVoicing_186 : decode prog_5_method_3_code 186 = .ok (.goto 4, 3) := by decide +kernel
theorem d_Ru_ofVoicing_189 : decode prog_5_method_3_code 189 = .ok (.iconst 0, 1) := by decide +kernel
theorem d_Ru_ofVoicing_190 : decode prog_5_method_3_code 190 = .ok (.ireturn, 1) := by decide +kernel
theorem d_Co_listBelow_0 : decode prog_3_method_3_code 0 = .ok (.aload_n 1, 1) := by decide +kernel
theorem d_Co_listBelow_1 : decode prog_3_method_3_code 1 = .ok (.getfield 60, 3) := by decide +kernel
theorem d_Co_listBelow_4 : decode prog_3_method_3_code 4 = .ok (.iload 4, 2) := by decide +kernel
theorem d_Co_listBelow_6 : decode prog_3_method_3_code 6 = .ok (.bipush 12, 2) := by decide +kernel
theorem d_Co_listBelow_8 : decode prog_3_method_3_code 8 = .ok (.isub, 1) := by decide +kernel
theorem d_Co_listBelow_9 : decode prog_3_method_3_code 9 = .ok (.aload_n 2, 1) := by decide +kernel
theorem d_Co_listBelow_10 : decode prog_3_method_3_code 10 = .ok (.getfield 29, 3) := by decide +kernel
theorem d_Co_listBelow_13 : decode prog_3_method_3_code 13 = .ok (.iconst 2, 1) := by decide +kernel
theorem d_Co_listBelow_14 : decode prog_3_method_3_code 14 = .ok (.iaload, 1) := by decide +kernel
theorem d_Co_listBelow_15 : decode prog_3_method_3_code 15 = .ok (.invokestatic 49, 3) := by decide +kernel
theorem d_Co_listBelow_18 : decode prog_3_method_3_code 18 = .ok (.invokestatic 49, 3) := by decide +kernel
theorem d_Co_listBelow_21 : decode prog_3_method_3_code 21 = .ok (.istore 5, 2) := by decide +kernel
theorem d_Co_listBelow_23 : decode prog_3_method_3_code 23 = .ok (.iload 4, 2) := by decide +kernel
theorem d_Co_listBelow_25 : decode prog_3_method_3_code 25 = .ok (.aload_n 2, 1) := by decide +kernel
theorem d_Co_listBelow_26 : decode prog_3_method_3_code 26 = .ok (.getfield 34, 3) := by decide +kernel
theorem d_Co_listBelow_29 : decode prog_3_method_3_code 29 = .ok (.iconst 2, 1) := by decide +kernel
theorem d_Co_listBelow_30 : decode prog_3_method_3_code 30 = .ok (.iaload, 1) := by decide +kernel
theorem d_Co_listBelow_31 : decode prog_3_method_3_code 31 = .ok (.invokestatic 43, 3) := by decide +kernel
theorem d_Co_listBelow_34 : decode prog_3_method_3_code 34 = .ok (.istore 6, 2) := by decide +kernel
theorem d_Co_listBelow_36 : decode prog_3_method_3_code 36 = .ok (.iload 5, 2) := by decide +kernel
theorem d_Co_listBelow_38 : decode prog_3_method_3_code 38 = .ok (.istore 7, 2) := by decide +kernel
theorem d_Co_listBelow_40 : decode prog_3_method_3_code 40 = .ok (.iload 7, 2) := by decide +kernel
theorem d_Co_listBelow_42 : decode prog_3_method_3_code 42 = .ok (.iload 6, 2) := by decide +kernel
theorem d_Co_listBelow_44 : decode prog_3_method_3_code 44 = .ok (.if_icmp .gt 80, 3) := by decide +kernel
theorem d_Co_listBelow_47 : decode prog_3_method_3_code 47 = .ok (.iload_n 3, 1) := by decide +kernel
theorem d_Co_listBelow_48 : decode prog_3_method_3_code 48 = .ok (.iload 4, 2) := by decide +kernel
theorem d_Co_listBelow_50 : decode prog_3_method_3_code 50 = .ok (.iload 7, 2) := by decide +kernel
theorem d_Co_listBelow_52 : decode prog_3_method_3_code 52 = .ok (.invokestatic 63, 3) := by decide +kernel
theorem d_Co_listBelow_55 : decode prog_3_method_3_code 55 = .ok (.istore 8, 2) := by decide +kernel
theorem d_Co_listBelow_57 : decode prog_3_method_3_code 57 = .ok (.aload_n 1, 1) := by decide +kernel
theorem d_Co_listBelow_58 : decode prog_3_method_3_code 58 = .ok (.iload 7, 2) := by decide +kernel
theorem d_Co_listBelow_60 : decode prog_3_method_3_code 60 = .ok (.invokevirtual 37, 3) := by decide +kernel
theorem d_Co_listBelow_63 : decode prog_3_method_3_code 63 = .ok (.ifCond .eq 17, 3) := by decide +kernel
theorem d_Co_listBelow_66 : decode prog_3_method_3_code 66 = .ok (.aload_n 2, 1) := by decide +kernel
theorem d_Co_listBelow_67 : decode prog_3_method_3_code 67 = .ok (.aload_n 1, 1) := by decide +kernel
theorem d_Co_listBelow_68 : decode prog_3_method_3_code 68 = .ok (.iload 8, 2) := by decide +kernel
theorem d_Co_listBelow_70 : decode prog_3_method_3_code 70 = .ok (.invokevirtual 67, 3) := by decide +kernel
theorem d_Co_listBelow_73 : decode prog_3_method_3_code 73 = .ok (.ifCond .ne 7, 3) := by decide +kernel
theorem d_Co_listBelow_76 : decode prog_3_method_3_code 76 = .ok (.iconst 1, 1) := by decide +kernel
theorem d_Co_listBelow_77 : decode prog_3_method_3_code 77 = .ok (.goto 4, 3) := by decide +kernel
theorem d_Co_listBelow_80 : decode prog_3_method_3_code 80 = .ok (.iconst 0, 1) := by decide +kernel
theorem d_Co_listBelow_81 : decode prog_3_method_3_code 81 = .ok (.istore 9, 2) := by decide +kernel
theorem d_Co_listBelow_83 : decode prog_3_method_3_code 83 = .ok (.iload 9, 2) := by decide +kernel
theorem d_Co_listBelow_85 : decode prog_3_method_3_code 85 = .ok (.ifCond .eq 33, 3) := by decide +kernel
theorem d_Co_listBelow_88 : decode prog_3_method_3_code 88 = .ok (.aload_n 0, 1) := by decide +kernel
theorem d_Co_listBelow_89 : decode prog_3_method_3_code 89 = .ok (.getfield 25, 3) := by decide +kernel
theorem d_Co_listBelow_92 : decode prog_3_method_3_code 92 = .ok (.bipush 112, 2) := by decide +kernel
theorem d_Co_listBelow_94 : decode prog_3_method_3_code 94 = .ok (.if_icmp .ge 24, 3) := by decide +kernel
theorem d_Co_listBelow_97 : decode prog_3_method_3_code 97 = .ok (.aload_n 0, 1) := by decide +kernel
theorem d_Co_listBelow_98 : decode prog_3_method_3_code 98 = .ok (.getfield 11, 3) := by decide +kernel
theorem d_Co_listBelow_101 : decode prog_3_method_3_code 101 = .ok (.aload_n 0, 1) := by decide +kernel
theorem d_Co_listBelow_102 : decode prog_3_method_3_code 102 = .ok (.getfield 25, 3) := by decide +kernel
theorem d_Co_listBelow_105 : decode prog_3_method_3_code 105 = .ok (.iload 8, 2) := by decide +kernel
theorem d_Co_listBelow_107 : decode prog_3_method_3_code 107 = .ok (.iastore, 1) := by decide +kernel
theorem d_Co_listBelow_108 : decode prog_3_method_3_code 108 = .ok (.aload_n 0, 1) := by decide +kernel
theorem d_Co_listBelow_109 : decode prog_3_method_3_code 109 = .ok (.dup, 1) := by decide +kernel
theorem d_Co_listBelow_110 : decode prog_3_method_3_code 110 = .ok (.getfield 25, 3) := by decide +kernel
theorem d_Co_listBelow_113 : decode prog_3_method_3_code 113 = .ok (.iconst 1, 1) := by decide +kernel
theorem d_Co_listBelow_114 : decode prog_3_method_3_code 114 = .ok (.iadd, 1) := by decide +kernel
theorem d_Co_listBelow_115 : decode prog_3_method_3_code 115 = .ok (.putfield 25, 3) := by decide +kernel
theorem d_Co_listBelow_118 : decode prog_3_method_3_code 118 = .ok (.iinc 7 1, 3) := by decide +kernel
theorem d_Co_listBelow_121 : decode prog_3_method_3_code 121 = .ok (.goto (-81), 3) := by decide +kernel
theorem d_Co_listBelow_124 : decode prog_3_method_3_code 124 = .ok (.return_, 1) := by decide +kernel
theorem d_Co_list_0 : decode prog_3_method_2_code 0 = .ok (.aload_n 0, 1) := by decide +kernel
theorem d_Co_list_1 : decode prog_3_method_2_code 1 = .ok (.iconst 0, 1) := by decide +kernel
theorem d_Co_list_2 : decode prog_3_method_2_code 2 = .ok (.putfield 25, 3) := by decide +kernel
theorem d_Co_list_5 : decode prog_3_method_2_code 5 = .ok (.aload_n 2, 1) := by decide +kernel
theorem d_Co_list_6 : decode prog_3_method_2_code 6 = .ok (.getfield 29, 3) := by decide +kernel
theorem d_Co_list_9 : decode prog_3_method_2_code 9 = .ok (.iconst 0, 1) := by decide +kernel
theorem d_Co_list_10 : decode prog_3_method_2_code 10 = .ok (.iaload, 1) := by decide +kernel
theorem d_Co_list_11 : decode prog_3_method_2_code 11 = .ok (.istore_n 3, 1) := by decide +kernel
theorem d_Co_list_12 : decode prog_3_method_2_code 12 = .ok (.iload_n 3, 1) := by decide +kernel
theorem d_Co_list_13 : decode prog_3_method_2_code 13 = .ok (.aload_n 2, 1) := by decide +kernel
theorem d_Co_list_14 : decode prog_3_method_2_code 14 = .ok (.getfield 34, 3) := by decide +kernel
theorem d_Co_list_17 : decode prog_3_method_2_code 17 = .ok (.iconst 0, 1) := by decide +kernel
theorem d_Co_list_18 : decode prog_3_method_2_code 18 = .ok (.iaload, 1) := by decide +kernel
theorem d_Co_list_19 : decode prog_3_method_2_code 19 = .ok (.if_icmp .gt 78, 3) := by decide +kernel
theorem d_Co_list_22 : decode prog_3_method_2_code 22 = .ok (.aload_n 1, 1) := by decide +kernel
theorem d_Co_list_23 : decode prog_3_method_2_code 23 = .ok (.iload_n 3, 1) := by decide +kernel
theorem d_Co_list_24 : decode prog_3_method_2_code 24 = .ok (.invokevirtual 37, 3) := by decide +kernel
theorem d_Co_list_27 : decode prog_3_method_2_code 27 = .ok (.ifCond .ne 6, 3) := by decide +kernel
theorem d_Co_list_30 : decode prog_3_method_2_code 30 = .ok (.goto 61, 3) := by decide +kernel
theorem d_Co_list_33 : decode prog_3_method_2_code 33 = .ok (.iload_n 3, 1) := by decide +kernel
theorem d_Co_list_34 : decode prog_3_method_2_code 34 = .ok (.aload_n 2, 1) := by decide +kernel
theorem d_Co_list_35 : decode prog_3_method_2_code 35 = .ok (.getfield 34, 3) := by decide +kernel
theorem d_Co_list_38 : decode prog_3_method_2_code 38 = .ok (.iconst 1, 1) := by decide +kernel
theorem d_Co_list_39 : decode prog_3_method_2_code 39 = .ok (.iaload, 1) := by decide +kernel
theorem d_Co_list_40 : decode prog_3_method_2_code 40 = .ok (.invokestatic 43, 3) := by decide +kernel
theorem d_Co_list_43 : decode prog_3_method_2_code 43 = .ok (.istore 4, 2) := by decide +kernel
theorem d_Co_list_45 : decode prog_3_method_2_code 45 = .ok (.iload_n 3, 1) := by decide +kernel
theorem d_Co_list_46 : decode prog_3_method_2_code 46 = .ok (.bipush 12, 2) := by decide +kernel
theorem d_Co_list_48 : decode prog_3_method_2_code 48 = .ok (.isub, 1) := by decide +kernel
theorem d_Co_list_49 : decode prog_3_method_2_code 49 = .ok (.aload_n 2, 1) := by decide +kernel
theorem d_Co_list_50 : decode prog_3_method_2_code 50 = .ok (.getfield 29, 3) := by decide +kernel
theorem d_Co_list_53 : decode prog_3_method_2_code 53 = .ok (.iconst 1, 1) := by decide +kernel
theorem d_Co_list_54 : decode prog_3_method_2_code 54 = .ok (.iaload, 1) := by decide +kernel
theorem d_Co_list_55 : decode prog_3_method_2_code 55 = .ok (.invokestatic 49, 3) := by decide +kernel
theorem d_Co_list_58 : decode prog_3_method_2_code 58 = .ok (.istore 5, 2) := by decide +kernel
theorem d_Co_list_60 : decode prog_3_method_2_code 60 = .ok (.iload 5, 2) := by decide +kernel
theorem d_Co_list_62 : decode prog_3_method_2_code 62 = .ok (.iload 4, 2) := by decide +kernel
theorem d_Co_list_64 : decode prog_3_method_2_code 64 = .ok (.if_icmp .gt 27, 3) := by decide +kernel
theorem d_Co_list_67 : decode prog_3_method_2_code 67 = .ok (.aload_n 1, 1) := by decide +kernel
theorem d_Co_list_68 : decode prog_3_method_2_code 68 = .ok (.iload 5, 2) := by decide +kernel
theorem d_Co_list_70 : decode prog_3_method_2_code 70 = .ok (.invokevirtual 37, 3) := by decide +kernel
theorem d_Co_list_73 : decode prog_3_method_2_code 73 = .ok (.ifCond .eq 12, 3) := by decide +kernel
theorem d_Co_list_76 : decode prog_3_method_2_code 76 = .ok (.aload_n 0, 1) := by decide +kernel
theorem d_Co_list_77 : decode prog_3_method_2_code 77 = .ok (.aload_n 1, 1) := by decide +kernel
theorem d_Co_list_78 : decode prog_3_method_2_code 78 = .ok (.aload_n 2, 1) := by decide +kernel
theorem d_Co_list_79 : decode prog_3_method_2_code 79 = .ok (.iload_n 3, 1) := by decide +kernel
theorem d_Co_list_80 : decode prog_3_method_2_code 80 = .ok (.iload 5, 2) := by decide +kernel
theorem d_Co_list_82 : decode prog_3_method_2_code 82 = .ok (.invokevirtual 52, 3) := by decide +kernel
theorem d_Co_list_85 : decode prog_3_method_2_code 85 = .ok (.iinc 5 1, 3) := by decide +kernel
theorem d_Co_list_88 : decode prog_3_method_2_code 88 = .ok (.goto (-28), 3) := by decide +kernel
theorem d_Co_list_91 : decode prog_3_method_2_code 91 = .ok (.iinc 3 1, 3) := by decide +kernel
theorem d_Co_list_94 : decode prog_3_method_2_code 94 = .ok (.goto (-82), 3) := by decide +kernel
theorem d_Co_list_97 : decode prog_3_method_2_code 97 = .ok (.aload_n 0, 1) := by decide +kernel
theorem d_Co_list_98 : decode prog_3_method_2_code 98 = .ok (.iconst 1, 1) := by decide +kernel
theorem d_Co_list_99 : decode prog_3_method_2_code 99 = .ok (.putfield 56, 3) := by decide +kernel
theorem d_Co_list_102 : decode prog_3_method_2_code 102 = .ok (.return_, 1) := by decide +kernel
theorem d_Se_listed_0 : decode prog_6_method_5_code 0 = .ok (.aload_n 0, 1) := by decide +kernel
theorem d_Se_listed_1 : decode prog_6_method_5_code 1 = .ok (.getfield 26, 3) := by decide +kernel
theorem d_Se_listed_4 : decode prog_6_method_5_code 4 = .ok (.iload_n 1, 1) := by decide +kernel
theorem d_Se_listed_5 : decode prog_6_method_5_code 5 = .ok (.aaload, 1) := by decide +kernel
theorem d_Se_listed_6 : decode prog_6_method_5_code 6 = .ok (.getfield 47, 3) := by decide +kernel
theorem d_Se_listed_9 : decode prog_6_method_5_code 9 = .ok (.ifCond .ne 22, 3) := by decide +kernel
theorem d_Se_listed_12 : decode prog_6_method_5_code 12 = .ok (.aload_n 0, 1) := by decide +kernel
theorem d_Se_listed_13 : decode prog_6_method_5_code 13 = .ok (.getfield 26, 3) := by decide +kernel
theorem d_Se_listed_16 : decode prog_6_method_5_code 16 = .ok (.iload_n 1, 1) := by decide +kernel
theorem d_Se_listed_17 : decode prog_6_method_5_code 17 = .ok (.aaload, 1) := by decide +kernel
theorem d_Se_listed_18 : decode prog_6_method_5_code 18 = .ok (.aload_n 0, 1) := by decide +kernel
theorem d_Se_listed_19 : decode prog_6_method_5_code 19 = .ok (.getfield 11, 3) := by decide +kernel
theorem d_Se_listed_22 : decode prog_6_method_5_code 22 = .ok (.iload_n 1, 1) := by decide +kernel
theorem d_Se_listed_23 : decode prog_6_method_5_code 23 = .ok (.aaload, 1) := by decide +kernel
theorem d_Se_listed_24 : decode prog_6_method_5_code 24 = .ok (.aload_n 0, 1) := by decide +kernel
theorem d_Se_listed_25 : decode prog_6_method_5_code 25 = .ok (.getfield 20, 3) := by decide +kernel
theorem d_Se_listed_28 : decode prog_6_method_5_code 28 = .ok (.invokevirtual 54, 3) := by decide +kernel
theorem d_Se_listed_31 : decode prog_6_method_5_code 31 = .ok (.aload_n 0, 1) := by decide +kernel
theorem d_Se_listed_32 : decode prog_6_method_5_code 32 = .ok (.getfield 26, 3) := by decide +kernel
theorem d_Se_listed_35 : decode prog_6_method_5_code 35 = .ok (.iload_n 1, 1) := by decide +kernel
theorem d_Se_listed_36 : decode prog_6_method_5_code 36 = .ok (.aaload, 1) := by decide +kernel
theorem d_Se_listed_37 : decode prog_6_method_5_code 37 = .ok (.areturn, 1) := by decide +kernel
def wp_Rm_worked_74 (K33 : Nat → Int32 → Int32 → Int32 → Int32 → Int32 → MH → Prop) (Post : Int32 → MH → Prop) (l0 : Nat) (l1 : Int32) (l2 : Int32) (l3 : Int32) (l4 : Int32) (l5 : Int32) (h : MH) : Prop :=
  K33 l0 l1 l2 l3 l4 (l5 + (1 : Int32)) h
def wp_Rm_worked_71 (K33 : Nat → Int32 → Int32 → Int32 → Int32 → Int32 → MH → Prop) (Post : Int32 → MH → Prop) (l0 : Nat) (l1 : Int32) (l2 : Int32) (l3 : Int32) (l4 : Int32) (l5 : Int32) (h : MH) : Prop :=
  wp_Rm_worked_74 K33 Post l0 l1 l2 l3 (l4 + (1 : Int32)) l5 h
def wb_Rm_worked_33 (K33 : Nat → Int32 → Int32 → Int32 → Int32 → Int32 → MH → Prop) (Post : Int32 → MH → Prop) (l0 : Nat) (l1 : Int32) (l2 : Int32) (l3 : Int32) (l4 : Int32) (l5 : Int32) (h : MH) : Prop :=
  (((10 : Int32) ≤ l5) →
    (((¬ l3 = (7 : Int32)) →
        (Post (-1 : Int32) h)) ∧
      ((l3 = (7 : Int32)) →
        (Post l4 h)))) ∧
  ((¬ (10 : Int32) ≤ l5) →
    (gC h l0 = some 6 ∧ wp_Rm_isWorked (fun (r44 : Int32) (h44 : MH) =>
        (((r44 = 0) →
            (wp_Rm_worked_74 K33 Post l0 l1 l2 l3 l4 l5 h44)) ∧
          ((¬ r44 = 0) →
            (((¬ l4 = l2) →
                (wp_Rm_worked_71 K33 Post l0 l1 l2 l3 l4 l5 h44)) ∧
              ((l4 = l2) →
                ((((7 : Int32) ≤ l3) →
                    (wp_Rm_worked_71 K33 Post l0 l1 l2 l3 l4 l5 h44)) ∧
                  ((¬ (7 : Int32) ≤ l3) →
                    (gC h44 l0 = some 6 ∧ wp_Rm_workedAs (fun (r67 : Int32) (h67 : MH) =>
                        (Post r67 h67)) l0 l1 l5 l3 h44)))))))) l0 l1 l5 h))
def wn_Rm_worked_33 (Post : Int32 → MH → Prop) : Nat → Nat → Int32 → Int32 → Int32 → Int32 → Int32 → MH → Prop
  | 0 => fun _ _ _ _ _ _ _ => False
  | n + 1 => wb_Rm_worked_33 (wn_Rm_worked_33 Post n) Post
def wp_Rm_worked_33 (Post : Int32 → MH → Prop) (l0 : Nat) (l1 : Int32) (l2 : Int32) (l3 : Int32) (l4 : Int32) (l5 : Int32) (h : MH) : Prop := ∃ n, wn_Rm_worked_33 Post n l0 l1 l2 l3 l4 l5 h
def wp_Rm_worked (Post : Int32 → MH → Prop) (l0 : Nat) (l1 : Int32) (l2 : Int32) (l3 : Int32) (h : MH) : Prop :=
  (∃ o : MV, gF h l0 6 0 = some o) ∧ ∀ h2 : MH, h2 = fset h l0 0 (.inl (0 : Int32) : MV) →
  (gC h2 l0 = some 6 ∧ wp_Rm_noChord (fun (r7 : Int32) (h7 : MH) =>
      (((¬ r7 = 0) →
          (Post (-1 : Int32) h7)) ∧
        ((r7 = 0) →
          (wp_Rm_in (fun (r19 : Int32) (h19 : MH) =>
              (((¬ r19 = 0) →
                  (wp_Rm_worked_33 Post l0 l1 l2 l3 (0 : Int32) (2 : Int32) h19)) ∧
                ((r19 = 0) →
                  (Post (-1 : Int32) h19)))) ((l3).toInt64) (0 : Int64) (7 : Int64) h7)))) l0 l1 h2)
set_option maxRecDepth 100000 in
set_option maxHeartbeats 4000000 in
theorem t_Rm_worked_74 {p : Program} {l : Launch} {e : Env} {R : Room} {s : State} {m : MethodId} {args : Array Value} {below : List Frame} {meth : Method} {c : Code} (G : mG) (C0 : Cx G p s m args c prog_8_method_26_code 6 "BassRealiserModel") (hR : 4 ≤ R.frames ∧ 91 ≤ R.locals ∧ 0 ≤ R.cells ∧ 0 ≤ R.slots) (hr : meth.sig.returnType = some .int) (hlk : meth.locks = false) {Post : Int32 → MH → Prop} {K33 : Nat → Int32 → Int32 → Int32 → Int32 → Int32 → MH → Prop} (hK33 : ∀ (l0 : Nat) (l1 : Int32) (l2 : Int32) (l3 : Int32) (l4 : Int32) (l5 : Int32) (h : MH), K33 l0 l1 l2 l3 l4 l5 h → WG p l e R s m args below meth c 0 0 (MQ below (va_Qi Post (Wd G) (mA G)) args s 0 0 (mA G)) G 6 [(0, .ref (m_b G + l0)), (1, .int l1), (2, .int l2), (3, .int l3), (4, .int l4), (5, .int l5)] 33 [] h) (l0 : Nat) (l1 : Int32) (l2 : Int32) (l3 : Int32) (l4 : Int32) (l5 : Int32) (h : MH) (hwp : wp_Rm_worked_74 K33 Post l0 l1 l2 l3 l4 l5 h) : WG p l e R s m args below meth c 0 0 (MQ below (va_Qi Post (Wd G) (mA G)) args s 0 0 (mA G)) G 6 [(0, .ref (m_b G + l0)), (1, .int l1), (2, .int l2), (3, .int l3), (4, .int l4), (5, .int l5)] 74 [] h := by
  unfold wp_Rm_worked_74 at hwp
  refine x_iinc C0 5 d_Rm_worked_74 rfl rfl (by decide) (lv' := [(5, .int (l5 + (1 : Int32))), (0, .ref (m_b G + l0)), (1, .int l1), (2, .int l2), (3, .int l3), (4, .int l4)]) rfl ?_
  refine x_goto (tgt := 33) C0 d_Rm_worked_77 (by decide) ?_
  exact x_sub [1, 2, 3, 4, 5, 0] rfl (hK33 _ _ _ _ _ _ _ hwp)
set_option maxRecDepth 100000 in
set_option maxHeartbeats 4000000 in
theorem t_Rm_worked_71 {p : Program} {l : Launch} {e : Env} {R : Room} {s : State} {m : MethodId} {args : Array Value} {below : List Frame} {meth : Method} {c : Code} (G : mG) (C0 : Cx G p s m args c prog_8_method_26_code 6 "BassRealiserModel") (hR : 4 ≤ R.frames ∧ 91 ≤ R.locals ∧ 0 ≤ R.cells ∧ 0 ≤ R.slots) (hr : meth.sig.returnType = some .int) (hlk : meth.locks = false) {Post : Int32 → MH → Prop} {K33 : Nat → Int32 → Int32 → Int32 → Int32 → Int32 → MH → Prop} (hK33 : ∀ (l0 : Nat) (l1 : Int32) (l2 : Int32) (l3 : Int32) (l4 : Int32) (l5 : Int32) (h : MH), K33 l0 l1 l2 l3 l4 l5 h → WG p l e R s m args below meth c 0 0 (MQ below (va_Qi Post (Wd G) (mA G)) args s 0 0 (mA G)) G 6 [(0, .ref (m_b G + l0)), (1, .int l1), (2, .int l2), (3, .int l3), (4, .int l4), (5, .int l5)] 33 [] h) (l0 : Nat) (l1 : Int32) (l2 : Int32) (l3 : Int32) (l4 : Int32) (l5 : Int32) (h : MH) (hwp : wp_Rm_worked_71 K33 Post l0 l1 l2 l3 l4 l5 h) : WG p l e R s m args below meth c 0 0 (MQ below (va_Qi Post (Wd G) (mA G)) args s 0 0 (mA G)) G 6 [(0, .ref (m_b G + l0)), (1, .int l1), (2, .int l2), (3, .int l3), (4, .int l4), (5, .int l5)] 71 [] h := by
  unfold wp_Rm_worked_71 at hwp
  refine x_iinc C0 4 d_Rm_worked_71 rfl rfl (by decide) (lv' := [(4, .int (l4 + (1 : Int32))), (0, .ref (m_b G + l0)), (1, .int l1), (2, .int l2), (3, .int l3), (5, .int l5)]) rfl ?_
  exact x_sub [1, 2, 3, 4, 0, 5] rfl (t_Rm_worked_74 G C0 hR hr hlk hK33 _ _ _ _ _ _ _ hwp)
set_option maxRecDepth 100000 in
set_option maxHeartbeats 4000000 in
theorem tb_Rm_worked_33 {p : Program} {l : Launch} {e : Env} {R : Room} {s : State} {m : MethodId} {args : Array Value} {below : List Frame} {meth : Method} {c : Code} (G : mG) (C0 : Cx G p s m args c prog_8_method_26_code 6 "BassRealiserModel") (hR : 4 ≤ R.frames ∧ 91 ≤ R.locals ∧ 0 ≤ R.cells ∧ 0 ≤ R.slots) (hr : meth.sig.returnType = some .int) (hlk : meth.locks = false) {Post : Int32 → MH → Prop} {K33 : Nat → Int32 → Int32 → Int32 → Int32 → Int32 → MH → Prop} (hK33 : ∀ (l0 : Nat) (l1 : Int32) (l2 : Int32) (l3 : Int32) (l4 : Int32) (l5 : Int32) (h : MH), K33 l0 l1 l2 l3 l4 l5 h → WG p l e R s m args below meth c 0 0 (MQ below (va_Qi Post (Wd G) (mA G)) args s 0 0 (mA G)) G 6 [(0, .ref (m_b G + l0)), (1, .int l1), (2, .int l2), (3, .int l3), (4, .int l4), (5, .int l5)] 33 [] h) (l0 : Nat) (l1 : Int32) (l2 : Int32) (l3 : Int32) (l4 : Int32) (l5 : Int32) (h : MH) (hwp : wb_Rm_worked_33 K33 Post l0 l1 l2 l3 l4 l5 h) : WG p l e R s m args below meth c 0 0 (MQ below (va_Qi Post (Wd G) (mA G)) args s 0 0 (mA G)) G 6 [(0, .ref (m_b G + l0)), (1, .int l1), (2, .int l2), (3, .int l3), (4, .int l4), (5, .int l5)] 33 [] h := by
  unfold wb_Rm_worked_33 at hwp
  refine x_iload C0 5 d_Rm_worked_33 rfl ?_
  refine x_bipush (v := 10) C0 d_Rm_worked_35 (by decide) ?_
  refine x_icmp_ge (tgt := 80) C0 d_Rm_worked_37 (by decide) (fun c37 => ?_) (fun c37 => ?_)
  · replace hwp := hwp.1 c37
    refine x_iload_n C0 3 d_Rm_worked_80 rfl rfl ?_
    refine x_bipush (v := 7) C0 d_Rm_worked_81 (by decide) ?_
    refine x_icmp_ne (tgt := 91) C0 d_Rm_worked_83 (by decide) (fun c83 => ?_) (fun c83 => ?_)
    · replace hwp := hwp.1 c83
      refine x_iconst (v := -1) C0 d_Rm_worked_91 (by decide) ?_
      exact x_iret C0 hr hlk hwp d_Rm_worked_92
    · replace hwp := hwp.2 c83
      refine x_iload C0 4 d_Rm_worked_86 rfl ?_
      refine x_goto (tgt := 92) C0 d_Rm_worked_88 (by decide) ?_
      exact x_iret C0 hr hlk hwp d_Rm_worked_92
  · replace hwp := hwp.2 c37
    refine x_aload_n C0 0 d_Rm_worked_40 rfl rfl ?_
    refine x_iload_n C0 1 d_Rm_worked_41 rfl rfl ?_
    refine x_iload C0 5 d_Rm_worked_42 rfl ?_
    obtain ⟨g44, hwp⟩ := hwp
    refine x_callVi0 (k := l0) (As := [.int l1, .int l5]) (st := []) C0 (c_Rm_isWorked l G hwp) kw_3_202 mk_Rm_isWorked vk_Rm_isWorked rfl g44 rfl (Nat.le_of_ble_eq_true rfl) rfl rfl ⟨Nat.le_trans (by decide) hR.1, Nat.le_trans (by decide) hR.2.1⟩ ⟨Nat.zero_le _, Nat.zero_le _⟩ rfl d_Rm_worked_44 (fun r44 h44 hwp => ?_)
    refine x_if_eq (tgt := 74) C0 d_Rm_worked_47 (by decide) (fun c47 => ?_) (fun c47 => ?_)
    · replace hwp := hwp.1 c47
      exact x_sub [0, 1, 2, 3, 4, 5] rfl (t_Rm_worked_74 G C0 hR hr hlk hK33 _ _ _ _ _ _ _ hwp)
    · replace hwp := hwp.2 c47
      refine x_iload C0 4 d_Rm_worked_50 rfl ?_
      refine x_iload_n C0 2 d_Rm_worked_52 rfl rfl ?_
      refine x_icmp_ne (tgt := 71) C0 d_Rm_worked_53 (by decide) (fun c53 => ?_) (fun c53 => ?_)
      · replace hwp := hwp.1 c53
        exact x_sub [0, 1, 2, 3, 4, 5] rfl (t_Rm_worked_71 G C0 hR hr hlk hK33 _ _ _ _ _ _ _ hwp)
      · replace hwp := hwp.2 c53
        refine x_iload_n C0 3 d_Rm_worked_56 rfl rfl ?_
        refine x_bipush (v := 7) C0 d_Rm_worked_57 (by decide) ?_
        refine x_icmp_ge (tgt := 71) C0 d_Rm_worked_59 (by decide) (fun c59 => ?_) (fun c59 => ?_)
        · replace hwp := hwp.1 c59
          exact x_sub [0, 1, 2, 3, 4, 5] rfl (t_Rm_worked_71 G C0 hR hr hlk hK33 _ _ _ _ _ _ _ hwp)
        · replace hwp := hwp.2 c59
          refine x_aload_n C0 0 d_Rm_worked_62 rfl rfl ?_
          refine x_iload_n C0 1 d_Rm_worked_63 rfl rfl ?_
          refine x_iload C0 5 d_Rm_worked_64 rfl ?_
          refine x_iload_n C0 3 d_Rm_worked_66 rfl rfl ?_
          obtain ⟨g67, hwp⟩ := hwp
          refine x_callVi0 (k := l0) (As := [.int l1, .int l5, .int l3]) (st := []) C0 (c_Rm_workedAs l G hwp) kw_4_7 mk_Rm_workedAs vk_Rm_workedAs rfl g67 rfl (Nat.le_of_ble_eq_true rfl) rfl rfl ⟨Nat.le_trans (by decide) hR.1, Nat.le_trans (by decide) hR.2.1⟩ ⟨Nat.zero_le _, Nat.zero_le _⟩ rfl d_Rm_worked_67 (fun r67 h67 hwp => ?_)
          exact x_iret C0 hr hlk hwp d_Rm_worked_70
theorem t_Rm_worked_33 {p : Program} {l : Launch} {e : Env} {R : Room} {s : State} {m : MethodId} {args : Array Value} {below : List Frame} {meth : Method} {c : Code} (G : mG) (C0 : Cx G p s m args c prog_8_method_26_code 6 "BassRealiserModel") (hR : 4 ≤ R.frames ∧ 91 ≤ R.locals ∧ 0 ≤ R.cells ∧ 0 ≤ R.slots) (hr : meth.sig.returnType = some .int) (hlk : meth.locks = false) {Post : Int32 → MH → Prop} (l0 : Nat) (l1 : Int32) (l2 : Int32) (l3 : Int32) (l4 : Int32) (l5 : Int32) (h : MH) (hwp : wp_Rm_worked_33 Post l0 l1 l2 l3 l4 l5 h) : WG p l e R s m args below meth c 0 0 (MQ below (va_Qi Post (Wd G) (mA G)) args s 0 0 (mA G)) G 6 [(0, .ref (m_b G + l0)), (1, .int l1), (2, .int l2), (3, .int l3), (4, .int l4), (5, .int l5)] 33 [] h := by
  obtain ⟨n, hwp⟩ := hwp
  induction n generalizing l0 l1 l2 l3 l4 l5 h with
  | zero => exact False.elim hwp
  | succ n ih => exact tb_Rm_worked_33 G C0 hR hr hlk (fun l0 l1 l2 l3 l4 l5 h hwp => ih l0 l1 l2 l3 l4 l5 h hwp) l0 l1 l2 l3 l4 l5 h hwp
set_option maxRecDepth 100000 in
set_option maxHeartbeats 4000000 in
theorem t_Rm_worked {p : Program} {l : Launch} {e : Env} {R : Room} {s : State} {m : MethodId} {args : Array Value} {below : List Frame} {meth : Method} {c : Code} (G : mG) (C0 : Cx G p s m args c prog_8_method_26_code 6 "BassRealiserModel") (hR : 4 ≤ R.frames ∧ 91 ≤ R.locals ∧ 0 ≤ R.cells ∧ 0 ≤ R.slots) (hr : meth.sig.returnType = some .int) (hlk : meth.locks = false) {Post : Int32 → MH → Prop} (l0 : Nat) (l1 : Int32) (l2 : Int32) (l3 : Int32) (h : MH) (hwp : wp_Rm_worked Post l0 l1 l2 l3 h) : WG p l e R s m args below meth c 0 0 (MQ below (va_Qi Post (Wd G) (mA G)) args s 0 0 (mA G)) G 6 [(0, .ref (m_b G + l0)), (1, .int l1), (2, .int l2), (3, .int l3)] 0 [] h := by
  unfold wp_Rm_worked at hwp
  refine x_aload_n C0 0 d_Rm_worked_0 rfl rfl ?_
  refine x_iconst (v := 0) C0 d_Rm_worked_1 (by decide) ?_
  obtain ⟨⟨o2, e2⟩, hwp⟩ := hwp
  refine x_put (x := (.inl (0 : Int32) : MV)) C0 pk_Rm_1 e2 rfl rfl d_Rm_worked_2 ?_
  refine x_nh (fun h2 eh2 => ?_)
  replace hwp := hwp h2 eh2
  refine x_aload_n C0 0 d_Rm_worked_5 rfl rfl ?_
  refine x_iload_n C0 1 d_Rm_worked_6 rfl rfl ?_
  obtain ⟨g7, hwp⟩ := hwp
  refine x_callVi0 (k := l0) (As := [.int l1]) (st := []) C0 (c_Rm_noChord l G hwp) kw_3_191 mk_Rm_noChord vk_Rm_noChord rfl g7 rfl (Nat.le_of_ble_eq_true rfl) rfl rfl ⟨Nat.le_trans (by decide) hR.1, Nat.le_trans (by decide) hR.2.1⟩ ⟨Nat.zero_le _, Nat.zero_le _⟩ rfl d_Rm_worked_7 (fun r7 h7 hwp => ?_)
  refine x_if_ne (tgt := 25) C0 d_Rm_worked_10 (by decide) (fun c10 => ?_) (fun c10 => ?_)
  · replace hwp := hwp.1 c10
    refine x_iconst (v := -1) C0 d_Rm_worked_25 (by decide) ?_
    exact x_iret C0 hr hlk hwp d_Rm_worked_26
  · replace hwp := hwp.2 c10
    refine x_iload_n C0 3 d_Rm_worked_13 rfl rfl ?_
    refine x_i2l C0 d_Rm_worked_14 ?_
    refine x_lconst (v := 0) C0 d_Rm_worked_15 (by decide) ?_
    refine x_ldc2 (v := 7) C0 kw_3_172 d_Rm_worked_16 ?_
    refine x_callSi0 (As := [.long ((l3).toInt64), .long (0 : Int64), .long (7 : Int64)]) (st := []) C0 (c_Rm_in l G hwp) kw_3_173 mk_Rm_in kw_3_174 rfl (Nat.le_of_ble_eq_true rfl) rfl rfl ⟨Nat.le_trans (by decide) hR.1, Nat.le_trans (by decide) hR.2.1⟩ ⟨Nat.zero_le _, Nat.zero_le _⟩ rfl d_Rm_worked_19 (fun r19 h19 hwp => ?_)
    refine x_if_ne (tgt := 27) C0 d_Rm_worked_22 (by decide) (fun c22 => ?_) (fun c22 => ?_)
    · replace hwp := hwp.1 c22
      refine x_iconst (v := 0) C0 d_Rm_worked_27 (by decide) ?_
      refine x_istore C0 d_Rm_worked_28 (by decide) (lv' := [(4, .int (0 : Int32)), (0, .ref (m_b G + l0)), (1, .int l1), (2, .int l2), (3, .int l3)]) rfl ?_
      refine x_iconst (v := 2) C0 d_Rm_worked_30 (by decide) ?_
      refine x_istore C0 d_Rm_worked_31 (by decide) (lv' := [(5, .int (2 : Int32)), (4, .int (0 : Int32)), (0, .ref (m_b G + l0)), (1, .int l1), (2, .int l2), (3, .int l3)]) rfl ?_
      exact x_sub [2, 3, 4, 5, 1, 0] rfl (t_Rm_worked_33 G C0 hR hr hlk  _ _ _ _ _ _ _ hwp)
    · replace hwp := hwp.2 c22
      refine x_iconst (v := -1) C0 d_Rm_worked_25 (by decide) ?_
      exact x_iret C0 hr hlk hwp d_Rm_worked_26
set_option maxRecDepth 100000 in
set_option maxHeartbeats 4000000 in
theorem c_Rm_worked (l : Launch) (G : mG) {Post : Int32 → MH → Prop} {l0 : Nat} {l1 : Int32} {l2 : Int32} {l3 : Int32} {h : MH} (hwp : wp_Rm_worked Post l0 l1 l2 l3 h) : Met l y_Rm_worked (Cond.code y_Rm_worked prog_8_method_26_code 6 (Option.some Jvm.ClassFile.FieldType.int) :: lw_good) ({ frames := 4, cells := 0, slots := 0, locals := 91 }) (va_Pc [.ref (m_b G + l0), .int l1, .int l2, .int l3] (Wd G h)) (va_Qi Post (Wd G) (mA G)) 0 0 (mA G) := by
  refine Met.ofW (cc := prog_8_method_26_code) (maxL := 6) (ret := (Option.some Jvm.ClassFile.FieldType.int)) (by decide +kernel) rfl ?_
  intro p e s m args below meth c s₁ B hml hv
  obtain ⟨rfl, hP, hz, hK, hSt⟩ := hv
  have hts := atoms_spec (ws := Cond.code y_Rm_worked prog_8_method_26_code 6 (Option.some Jvm.ClassFile.FieldType.int) :: lw_good) B.pre
  have C0 : Cx G p s m ([.ref (m_b G + l0), .int l1, .int l2, .int l3] : List Value).toArray c prog_8_method_26_code 6 "BassRealiserModel" := ⟨⟨B.exec, B.bytes, hml, findClass_of_methodNamed B.named, fun w h => hts w (List.mem_cons_of_mem _ h)⟩, hK, hSt, by rw [hz]; exact Nat.le_add_right _ _⟩
  have hl := lv_entry ([.ref (m_b G + l0), .int l1, .int l2, .int l3]) (n := 6) (Nat.le_of_ble_eq_true rfl)
  rw [lg_entry_eq]
  exact t_Rm_worked G C0 ⟨Nat.le_refl _, Nat.le_refl _, Nat.le_refl _, Nat.le_refl _⟩ B.returns B.notSynchronized _ _ _ _ _ hwp _ _ _ ⟨hP, hz, va_S.rf⟩ hl
def wp_Ch_takes (Post : Int32 → MH → Prop) (l0 : Nat) (l1 : Int32) (h : MH) : Prop :=
  wp_Br_classBit (fun (r1 : Int32) (h1 : MH) =>
    (∃ x5 : Int32, gF h1 l0 0 8 = some (.inl x5) ∧
      ((((r1 &&& x5) = 0) →
          (Post (0 : Int32) h1)) ∧
        ((¬ (r1 &&& x5) = 0) →
          (Post (1 : Int32) h1))))) l1 h
set_option maxRecDepth 100000 in
set_option maxHeartbeats 4000000 in
theorem t_Ch_takes {p : Program} {l : Launch} {e : Env} {R : Room} {s : State} {m : MethodId} {args : Array Value} {below : List Frame} {meth : Method} {c : Code} (G : mG) (C0 : Cx G p s m args c prog_2_method_14_code 2 "BassRealiser$Chord") (hR : 1 ≤ R.frames ∧ 20 ≤ R.locals ∧ 0 ≤ R.cells ∧ 0 ≤ R.slots) (hr : meth.sig.returnType = some .boolean) (hlk : meth.locks = false) {Post : Int32 → MH → Prop} (l0 : Nat) (l1 : Int32) (h : MH) (hwp : wp_Ch_takes Post l0 l1 h) : WG p l e R s m args below meth c 0 0 (MQ below (va_Qi Post (Wd G) (mA G)) args s 0 0 (mA G)) G 2 [(0, .ref (m_b G + l0)), (1, .int l1)] 0 [] h := by
  unfold wp_Ch_takes at hwp
  refine x_iload_n C0 1 d_Ch_takes_0 rfl rfl ?_
  refine x_callSNi0 (As := [.int l1]) (st := []) C0 (c_Br_classBit l G hwp) (m_nwA C0 nw_2) mk_Br_classBit kw_2_34 rfl (Nat.le_of_ble_eq_true rfl) rfl rfl ⟨Nat.le_trans (by decide) hR.1, Nat.le_trans (by decide) hR.2.1⟩ ⟨Nat.zero_le _, Nat.zero_le _⟩ rfl d_Ch_takes_1 (fun r1 h1 hwp => ?_)
  refine x_aload_n C0 0 d_Ch_takes_4 rfl rfl ?_
  obtain ⟨x5, e5, hwp⟩ := hwp
  refine x_getI C0 fk_Ch_67 e5 d_Ch_takes_5 ?_
  refine x_iand C0 d_Ch_takes_8 ?_
  refine x_if_eq (tgt := 16) C0 d_Ch_takes_9 (by decide) (fun c9 => ?_) (fun c9 => ?_)
  · replace hwp := hwp.1 c9
    refine x_iconst (v := 0) C0 d_Ch_takes_16 (by decide) ?_
    exact x_zret C0 hr rfl hlk hwp d_Ch_takes_17
  · replace hwp := hwp.2 c9
    refine x_iconst (v := 1) C0 d_Ch_takes_12 (by decide) ?_
    refine x_goto (tgt := 17) C0 d_Ch_takes_13 (by decide) ?_
    exact x_zret C0 hr rfl hlk hwp d_Ch_takes_17
set_option maxRecDepth 100000 in
set_option maxHeartbeats 4000000 in
theorem c_Ch_takes (l : Launch) (G : mG) {Post : Int32 → MH → Prop} {l0 : Nat} {l1 : Int32} {h : MH} (hwp : wp_Ch_takes Post l0 l1 h) : Met l y_Ch_takes (Cond.code y_Ch_takes prog_2_method_14_code 2 (Option.some Jvm.ClassFile.FieldType.boolean) :: lw_good) ({ frames := 1, cells := 0, slots := 0, locals := 20 }) (va_Pc [.ref (m_b G + l0), .int l1] (Wd G h)) (va_Qi Post (Wd G) (mA G)) 0 0 (mA G) := by
  refine Met.ofW (cc := prog_2_method_14_code) (maxL := 2) (ret := (Option.some Jvm.ClassFile.FieldType.boolean)) (by decide +kernel) rfl ?_
  intro p e s m args below meth c s₁ B hml hv
  obtain ⟨rfl, hP, hz, hK, hSt⟩ := hv
  have hts := atoms_spec (ws := Cond.code y_Ch_takes prog_2_method_14_code 2 (Option.some Jvm.ClassFile.FieldType.boolean) :: lw_good) B.pre
  have C0 : Cx G p s m ([.ref (m_b G + l0), .int l1] : List Value).toArray c prog_2_method_14_code 2 "BassRealiser$Chord" := ⟨⟨B.exec, B.bytes, hml, findClass_of_methodNamed B.named, fun w h => hts w (List.mem_cons_of_mem _ h)⟩, hK, hSt, by rw [hz]; exact Nat.le_add_right _ _⟩
  have hl := lv_entry ([.ref (m_b G + l0), .int l1]) (n := 2) (Nat.le_of_ble_eq_true rfl)
  rw [lg_entry_eq]
  exact t_Ch_takes G C0 ⟨Nat.le_refl _, Nat.le_refl _, Nat.le_refl _, Nat.le_refl _⟩ B.returns B.notSynchronized _ _ _ hwp _ _ _ ⟨hP, hz, va_S.rf⟩ hl
def wp_Br_pack (Post : Int32 → MH → Prop) (l0 : Int32) (l1 : Int32) (l2 : Int32) (h : MH) : Prop :=
  Post (((l0 <<< ((14 : Int32) &&& 31)) ||| (l1 <<< ((7 : Int32) &&& 31))) ||| l2) h
set_option maxRecDepth 100000 in
set_option maxHeartbeats 4000000 in
theorem t_Br_pack {p : Program} {l : Launch} {e : Env} {R : Room} {s : State} {m : MethodId} {args : Array Value} {below : List Frame} {meth : Method} {c : Code} (G : mG) (C0 : Cx G p s m args c prog_1_method_31_code 3 "BassRealiser") (hR : 0 ≤ R.frames ∧ 0 ≤ R.locals ∧ 0 ≤ R.cells ∧ 0 ≤ R.slots) (hr : meth.sig.returnType = some .int) (hlk : meth.locks = false) {Post : Int32 → MH → Prop} (l0 : Int32) (l1 : Int32) (l2 : Int32) (h : MH) (hwp : wp_Br_pack Post l0 l1 l2 h) : WG p l e R s m args below meth c 0 0 (MQ below (va_Qi Post (Wd G) (mA G)) args s 0 0 (mA G)) G 3 [(0, .int l0), (1, .int l1), (2, .int l2)] 0 [] h := by
  unfold wp_Br_pack at hwp
  refine x_iload_n C0 0 d_Br_pack_0 rfl rfl ?_
  refine x_bipush (v := 14) C0 d_Br_pack_1 (by decide) ?_
  refine x_ishl C0 d_Br_pack_3 ?_
  refine x_iload_n C0 1 d_Br_pack_4 rfl rfl ?_
  refine x_bipush (v := 7) C0 d_Br_pack_5 (by decide) ?_
  refine x_ishl C0 d_Br_pack_7 ?_
  refine x_ior C0 d_Br_pack_8 ?_
  refine x_iload_n C0 2 d_Br_pack_9 rfl rfl ?_
  refine x_ior C0 d_Br_pack_10 ?_
  exact x_iret C0 hr hlk hwp d_Br_pack_11
set_option maxRecDepth 100000 in
set_option maxHeartbeats 4000000 in
theorem c_Br_pack (l : Launch) (G : mG) {Post : Int32 → MH → Prop} {l0 : Int32} {l1 : Int32} {l2 : Int32} {h : MH} (hwp : wp_Br_pack Post l0 l1 l2 h) : Met l y_Br_pack (Cond.code y_Br_pack prog_1_method_31_code 3 (Option.some Jvm.ClassFile.FieldType.int) :: lw_good) ({ frames := 0, cells := 0, slots := 0, locals := 0 }) (va_Pc [.int l0, .int l1, .int l2] (Wd G h)) (va_Qi Post (Wd G) (mA G)) 0 0 (mA G) := by
  refine Met.ofW (cc := prog_1_method_31_code) (maxL := 3) (ret := (Option.some Jvm.ClassFile.FieldType.int)) (by decide +kernel) rfl ?_
  intro p e s m args below meth c s₁ B hml hv
  obtain ⟨rfl, hP, hz, hK, hSt⟩ := hv
  have hts := atoms_spec (ws := Cond.code y_Br_pack prog_1_method_31_code 3 (Option.some Jvm.ClassFile.FieldType.int) :: lw_good) B.pre
  have C0 : Cx G p s m ([.int l0, .int l1, .int l2] : List Value).toArray c prog_1_method_31_code 3 "BassRealiser" := ⟨⟨B.exec, B.bytes, hml, findClass_of_methodNamed B.named, fun w h => hts w (List.mem_cons_of_mem _ h)⟩, hK, hSt, by rw [hz]; exact Nat.le_add_right _ _⟩
  have hl := lv_entry ([.int l0, .int l1, .int l2]) (n := 3) (Nat.le_of_ble_eq_true rfl)
  rw [lg_entry_eq]
  exact t_Br_pack G C0 ⟨Nat.le_refl _, Nat.le_refl _, Nat.le_refl _, Nat.le_refl _⟩ B.returns B.notSynchronized _ _ _ _ hwp _ _ _ ⟨hP, hz, va_S.rf⟩ hl
def wp_Br_pitchOf (Post : Int32 → MH → Prop) (l0 : Int32) (l1 : Int32) (h : MH) : Prop :=
  Post ((l0 >>> (((7 : Int32) * ((2 : Int32) - l1)) &&& 31)) &&& (127 : Int32)) h
set_option maxRecDepth 100000 in
set_option maxHeartbeats 4000000 in
theorem t_Br_pitchOf {p : Program} {l : Launch} {e : Env} {R : Room} {s : State} {m : MethodId} {args : Array Value} {below : List Frame} {meth : Method} {c : Code} (G : mG) (C0 : Cx G p s m args c prog_1_method_32_code 2 "BassRealiser") (hR : 0 ≤ R.frames ∧ 0 ≤ R.locals ∧ 0 ≤ R.cells ∧ 0 ≤ R.slots) (hr : meth.sig.returnType = some .int) (hlk : meth.locks = false) {Post : Int32 → MH → Prop} (l0 : Int32) (l1 : Int32) (h : MH) (hwp : wp_Br_pitchOf Post l0 l1 h) : WG p l e R s m args below meth c 0 0 (MQ below (va_Qi Post (Wd G) (mA G)) args s 0 0 (mA G)) G 2 [(0, .int l0), (1, .int l1)] 0 [] h := by
  unfold wp_Br_pitchOf at hwp
  refine x_iload_n C0 0 d_Br_pitchOf_0 rfl rfl ?_
  refine x_bipush (v := 7) C0 d_Br_pitchOf_1 (by decide) ?_
  refine x_iconst (v := 2) C0 d_Br_pitchOf_3 (by decide) ?_
  refine x_iload_n C0 1 d_Br_pitchOf_4 rfl rfl ?_
  refine x_isub C0 d_Br_pitchOf_5 ?_
  refine x_imul C0 d_Br_pitchOf_6 ?_
  refine x_ishr C0 d_Br_pitchOf_7 ?_
  refine x_bipush (v := 127) C0 d_Br_pitchOf_8 (by decide) ?_
  refine x_iand C0 d_Br_pitchOf_10 ?_
  exact x_iret C0 hr hlk hwp d_Br_pitchOf_11
set_option maxRecDepth 100000 in
set_option maxHeartbeats 4000000 in
theorem c_Br_pitchOf (l : Launch) (G : mG) {Post : Int32 → MH → Prop} {l0 : Int32} {l1 : Int32} {h : MH} (hwp : wp_Br_pitchOf Post l0 l1 h) : Met l y_Br_pitchOf (Cond.code y_Br_pitchOf prog_1_method_32_code 2 (Option.some Jvm.ClassFile.FieldType.int) :: lw_good) ({ frames := 0, cells := 0, slots := 0, locals := 0 }) (va_Pc [.int l0, .int l1] (Wd G h)) (va_Qi Post (Wd G) (mA G)) 0 0 (mA G) := by
  refine Met.ofW (cc := prog_1_method_32_code) (maxL := 2) (ret := (Option.some Jvm.ClassFile.FieldType.int)) (by decide +kernel) rfl ?_
  intro p e s m args below meth c s₁ B hml hv
  obtain ⟨rfl, hP, hz, hK, hSt⟩ := hv
  have hts := atoms_spec (ws := Cond.code y_Br_pitchOf prog_1_method_32_code 2 (Option.some Jvm.ClassFile.FieldType.int) :: lw_good) B.pre
  have C0 : Cx G p s m ([.int l0, .int l1] : List Value).toArray c prog_1_method_32_code 2 "BassRealiser" := ⟨⟨B.exec, B.bytes, hml, findClass_of_methodNamed B.named, fun w h => hts w (List.mem_cons_of_mem _ h)⟩, hK, hSt, by rw [hz]; exact Nat.le_add_right _ _⟩
  have hl := lv_entry ([.int l0, .int l1]) (n := 2) (Nat.le_of_ble_eq_true rfl)
  rw [lg_entry_eq]
  exact t_Br_pitchOf G C0 ⟨Nat.le_refl _, Nat.le_refl _, Nat.le_refl _, Nat.le_refl _⟩ B.returns B.notSynchronized _ _ _ hwp _ _ _ ⟨hP, hz, va_S.rf⟩ hl
def wp_Ru_outside (Post : Int32 → MH → Prop) (l0 : Nat) (l1 : Int32) (l2 : Int32) (h : MH) : Prop :=
  ∃ x2 : Nat, gF h l0 3 0 = some (.inr (some x2)) ∧
  (∃ (n6 : Nat) (f6 : Nat → Int32), gA h x2 0 = some (n6, f6) ∧ vp_in l1 n6 ∧
    (((l2 < (f6 (l1).toNatClampNeg)) →
        (Post (1 : Int32) h)) ∧
      ((¬ l2 < (f6 (l1).toNatClampNeg)) →
        (∃ x12 : Nat, gF h l0 3 1 = some (.inr (some x12)) ∧
          (∃ (n16 : Nat) (f16 : Nat → Int32), gA h x12 0 = some (n16, f16) ∧ vp_in l1 n16 ∧
            (((l2 ≤ (f16 (l1).toNatClampNeg)) →
                (Post (0 : Int32) h)) ∧
              ((¬ l2 ≤ (f16 (l1).toNatClampNeg)) →
                (Post (1 : Int32) h))))))))
set_option maxRecDepth 100000 in
set_option maxHeartbeats 4000000 in
theorem t_Ru_outside {p : Program} {l : Launch} {e : Env} {R : Room} {s : State} {m : MethodId} {args : Array Value} {below : List Frame} {meth : Method} {c : Code} (G : mG) (C0 : Cx G p s m args c prog_5_method_4_code 3 "BassRealiser$Rules") (hR : 0 ≤ R.frames ∧ 0 ≤ R.locals ∧ 0 ≤ R.cells ∧ 0 ≤ R.slots) (hr : meth.sig.returnType = some .boolean) (hlk : meth.locks = false) {Post : Int32 → MH → Prop} (l0 : Nat) (l1 : Int32) (l2 : Int32) (h : MH) (hwp : wp_Ru_outside Post l0 l1 l2 h) : WG p l e R s m args below meth c 0 0 (MQ below (va_Qi Post (Wd G) (mA G)) args s 0 0 (mA G)) G 3 [(0, .ref (m_b G + l0)), (1, .int l1), (2, .int l2)] 0 [] h := by
  unfold wp_Ru_outside at hwp
  refine x_iload_n C0 2 d_Ru_outside_0 rfl rfl ?_
  refine x_aload_n C0 0 d_Ru_outside_1 rfl rfl ?_
  obtain ⟨x2, e2, hwp⟩ := hwp
  refine x_getR C0 fk_Ru_9 e2 d_Ru_outside_2 ?_
  refine x_iload_n C0 1 d_Ru_outside_5 rfl rfl ?_
  obtain ⟨n6, f6, e6, i6, hwp⟩ := hwp
  refine x_iald C0 e6 i6 d_Ru_outside_6 ?_
  refine x_icmp_lt (tgt := 20) C0 d_Ru_outside_7 (by decide) (fun c7 => ?_) (fun c7 => ?_)
  · replace hwp := hwp.1 c7
    refine x_iconst (v := 1) C0 d_Ru_outside_20 (by decide) ?_
    refine x_goto (tgt := 25) C0 d_Ru_outside_21 (by decide) ?_
    exact x_zret C0 hr rfl hlk hwp d_Ru_outside_25
  · replace hwp := hwp.2 c7
    refine x_iload_n C0 2 d_Ru_outside_10 rfl rfl ?_
    refine x_aload_n C0 0 d_Ru_outside_11 rfl rfl ?_
    obtain ⟨x12, e12, hwp⟩ := hwp
    refine x_getR C0 fk_Ru_15 e12 d_Ru_outside_12 ?_
    refine x_iload_n C0 1 d_Ru_outside_15 rfl rfl ?_
    obtain ⟨n16, f16, e16, i16, hwp⟩ := hwp
    refine x_iald C0 e16 i16 d_Ru_outside_16 ?_
    refine x_icmp_le (tgt := 24) C0 d_Ru_outside_17 (by decide) (fun c17 => ?_) (fun c17 => ?_)
    · replace hwp := hwp.1 c17
      refine x_iconst (v := 0) C0 d_Ru_outside_24 (by decide) ?_
      exact x_zret C0 hr rfl hlk hwp d_Ru_outside_25
    · replace hwp := hwp.2 c17
      refine x_iconst (v := 1) C0 d_Ru_outside_20 (by decide) ?_
      refine x_goto (tgt := 25) C0 d_Ru_outside_21 (by decide) ?_
      exact x_zret C0 hr rfl hlk hwp d_Ru_outside_25
set_option maxRecDepth 100000 in
set_option maxHeartbeats 4000000 in
theorem c_Ru_outside (l : Launch) (G : mG) {Post : Int32 → MH → Prop} {l0 : Nat} {l1 : Int32} {l2 : Int32} {h : MH} (hwp : wp_Ru_outside Post l0 l1 l2 h) : Met l y_Ru_outside (Cond.code y_Ru_outside prog_5_method_4_code 3 (Option.some Jvm.ClassFile.FieldType.boolean) :: lw_good) ({ frames := 0, cells := 0, slots := 0, locals := 0 }) (va_Pc [.ref (m_b G + l0), .int l1, .int l2] (Wd G h)) (va_Qi Post (Wd G) (mA G)) 0 0 (mA G) := by
  refine Met.ofW (cc := prog_5_method_4_code) (maxL := 3) (ret := (Option.some Jvm.ClassFile.FieldType.boolean)) (by decide +kernel) rfl ?_
  intro p e s m args below meth c s₁ B hml hv
  obtain ⟨rfl, hP, hz, hK, hSt⟩ := hv
  have hts := atoms_spec (ws := Cond.code y_Ru_outside prog_5_method_4_code 3 (Option.some Jvm.ClassFile.FieldType.boolean) :: lw_good) B.pre
  have C0 : Cx G p s m ([.ref (m_b G + l0), .int l1, .int l2] : List Value).toArray c prog_5_method_4_code 3 "BassRealiser$Rules" := ⟨⟨B.exec, B.bytes, hml, findClass_of_methodNamed B.named, fun w h => hts w (List.mem_cons_of_mem _ h)⟩, hK, hSt, by rw [hz]; exact Nat.le_add_right _ _⟩
  have hl := lv_entry ([.ref (m_b G + l0), .int l1, .int l2]) (n := 3) (Nat.le_of_ble_eq_true rfl)
  rw [lg_entry_eq]
  exact t_Ru_outside G C0 ⟨Nat.le_refl _, Nat.le_refl _, Nat.le_refl _, Nat.le_refl _⟩ B.returns B.notSynchronized _ _ _ _ hwp _ _ _ ⟨hP, hz, va_S.rf⟩ hl
def wp_Ru_leadingOnes_68 (Post : Int32 → MH → Prop) (l4 : Int32) (l5 : Int32) (y0 : Int32) (y1 : Int32) (h : MH) : Prop :=
  ∀ z69 : Int32, z69 = y0 + y1 →
  (((¬ (l4 - l4 / (12 : Int32) * (12 : Int32)) = l5) →
      (∀ z89 : Int32, z89 = z69 + (0 : Int32) →
        (Post z89 h))) ∧
    (((l4 - l4 / (12 : Int32) * (12 : Int32)) = l5) →
      (∀ z89 : Int32, z89 = z69 + (1 : Int32) →
        (Post z89 h))))
def wp_Ru_leadingOnes_49 (Post : Int32 → MH → Prop) (l3 : Int32) (l4 : Int32) (l5 : Int32) (y0 : Int32) (y1 : Int32) (h : MH) : Prop :=
  ∀ z50 : Int32, z50 = y0 + y1 →
  (((¬ (l3 - l3 / (12 : Int32) * (12 : Int32)) = l5) →
      (wp_Ru_leadingOnes_68 Post l4 l5 z50 (0 : Int32) h)) ∧
    (((l3 - l3 / (12 : Int32) * (12 : Int32)) = l5) →
      (wp_Ru_leadingOnes_68 Post l4 l5 z50 (1 : Int32) h)))
def wp_Ru_leadingOnes_31 (Post : Int32 → MH → Prop) (l2 : Int32) (l3 : Int32) (l4 : Int32) (l5 : Int32) (y0 : Int32) (h : MH) : Prop :=
  ((¬ (l2 - l2 / (12 : Int32) * (12 : Int32)) = l5) →
    (wp_Ru_leadingOnes_49 Post l3 l4 l5 y0 (0 : Int32) h)) ∧
  (((l2 - l2 / (12 : Int32) * (12 : Int32)) = l5) →
    (wp_Ru_leadingOnes_49 Post l3 l4 l5 y0 (1 : Int32) h))
def wp_Ru_leadingOnes (Post : Int32 → MH → Prop) (l0 : Nat) (l1 : Int32) (l2 : Int32) (l3 : Int32) (l4 : Int32) (h : MH) : Prop :=
  ∃ x3 : Int32, gF h l0 3 4 = some (.inl x3) ∧
  (wp_Ma_floorMod (fun (r12 : Int32) (h12 : MH) =>
      (((¬ (l1 - l1 / (12 : Int32) * (12 : Int32)) = r12) →
          (wp_Ru_leadingOnes_31 Post l2 l3 l4 r12 (0 : Int32) h12)) ∧
        (((l1 - l1 / (12 : Int32) * (12 : Int32)) = r12) →
          (wp_Ru_leadingOnes_31 Post l2 l3 l4 r12 (1 : Int32) h12)))) (((7 : Int32) * x3) + (11 : Int32)) (12 : Int32) h)
set_option maxRecDepth 100000 in
set_option maxHeartbeats 4000000 in
theorem t_Ru_leadingOnes_68 {p : Program} {l : Launch} {e : Env} {R : Room} {s : State} {m : MethodId} {args : Array Value} {below : List Frame} {meth : Method} {c : Code} (G : mG) (C0 : Cx G p s m args c prog_5_method_5_code 7 "BassRealiser$Rules") (hR : 1 ≤ R.frames ∧ 22 ≤ R.locals ∧ 0 ≤ R.cells ∧ 0 ≤ R.slots) (hr : meth.sig.returnType = some .int) (hlk : meth.locks = false) {Post : Int32 → MH → Prop} (l4 : Int32) (l5 : Int32) (y0 : Int32) (y1 : Int32) (h : MH) (hwp : wp_Ru_leadingOnes_68 Post l4 l5 y0 y1 h) : WG p l e R s m args below meth c 0 0 (MQ below (va_Qi Post (Wd G) (mA G)) args s 0 0 (mA G)) G 7 [(4, .int l4), (5, .int l5)] 68 [.int y1, .int y0] h := by
  unfold wp_Ru_leadingOnes_68 at hwp
  refine x_iadd C0 d_Ru_leadingOnes_68 ?_
  refine x_topI (fun z69 e69 => ?_)
  replace hwp := hwp z69 e69
  refine x_istore C0 d_Ru_leadingOnes_69 (by decide) (lv' := [(6, .int z69), (4, .int l4), (5, .int l5)]) rfl ?_
  refine x_iload C0 0 d_Ru_leadingOnes_71 rfl ?_
  refine x_iload C0 1 d_Ru_leadingOnes_73 rfl ?_
  refine x_bipush (v := 12) C0 d_Ru_leadingOnes_75 (by decide) ?_
  refine x_irem C0 d_Ru_leadingOnes_77 (by decide) ?_
  refine x_iload C0 2 d_Ru_leadingOnes_78 rfl ?_
  refine x_icmp_ne (tgt := 87) C0 d_Ru_leadingOnes_80 (by decide) (fun c80 => ?_) (fun c80 => ?_)
  · replace hwp := hwp.1 c80
    refine x_iconst (v := 0) C0 d_Ru_leadingOnes_87 (by decide) ?_
    refine x_iadd C0 d_Ru_leadingOnes_88 ?_
    refine x_topI (fun z89 e89 => ?_)
    replace hwp := hwp z89 e89
    refine x_istore C0 d_Ru_leadingOnes_89 (by decide) (lv' := [(6, .int z89), (4, .int l4), (5, .int l5)]) rfl ?_
    refine x_iload C0 0 d_Ru_leadingOnes_91 rfl ?_
    exact x_iret C0 hr hlk hwp d_Ru_leadingOnes_93
  · replace hwp := hwp.2 c80
    refine x_iconst (v := 1) C0 d_Ru_leadingOnes_83 (by decide) ?_
    refine x_goto (tgt := 88) C0 d_Ru_leadingOnes_84 (by decide) ?_
    refine x_iadd C0 d_Ru_leadingOnes_88 ?_
    refine x_topI (fun z89 e89 => ?_)
    replace hwp := hwp z89 e89
    refine x_istore C0 d_Ru_leadingOnes_89 (by decide) (lv' := [(6, .int z89), (4, .int l4), (5, .int l5)]) rfl ?_
    refine x_iload C0 0 d_Ru_leadingOnes_91 rfl ?_
    exact x_iret C0 hr hlk hwp d_Ru_leadingOnes_93
set_option maxRecDepth 100000 in
set_option maxHeartbeats 4000000 in
theorem t_Ru_leadingOnes_49 {p : Program} {l : Launch} {e : Env} {R : Room} {s : State} {m : MethodId} {args : Array Value} {below : List Frame} {meth : Method} {c : Code} (G : mG) (C0 : Cx G p s m args c prog_5_method_5_code 7 "BassRealiser$Rules") (hR : 1 ≤ R.frames ∧ 22 ≤ R.locals ∧ 0 ≤ R.cells ∧ 0 ≤ R.slots) (hr : meth.sig.returnType = some .int) (hlk : meth.locks = false) {Post : Int32 → MH → Prop} (l3 : Int32) (l4 : Int32) (l5 : Int32) (y0 : Int32) (y1 : Int32) (h : MH) (hwp : wp_Ru_leadingOnes_49 Post l3 l4 l5 y0 y1 h) : WG p l e R s m args below meth c 0 0 (MQ below (va_Qi Post (Wd G) (mA G)) args s 0 0 (mA G)) G 7 [(3, .int l3), (4, .int l4), (5, .int l5)] 49 [.int y1, .int y0] h := by
  unfold wp_Ru_leadingOnes_49 at hwp
  refine x_iadd C0 d_Ru_leadingOnes_49 ?_
  refine x_topI (fun z50 e50 => ?_)
  replace hwp := hwp z50 e50
  refine x_istore C0 d_Ru_leadingOnes_50 (by decide) (lv' := [(6, .int z50), (3, .int l3), (4, .int l4), (5, .int l5)]) rfl ?_
  refine x_iload C0 0 d_Ru_leadingOnes_52 rfl ?_
  refine x_iload_n C0 1 d_Ru_leadingOnes_54 rfl rfl ?_
  refine x_bipush (v := 12) C0 d_Ru_leadingOnes_55 (by decide) ?_
  refine x_irem C0 d_Ru_leadingOnes_57 (by decide) ?_
  refine x_iload C0 3 d_Ru_leadingOnes_58 rfl ?_
  refine x_icmp_ne (tgt := 67) C0 d_Ru_leadingOnes_60 (by decide) (fun c60 => ?_) (fun c60 => ?_)
  · replace hwp := hwp.1 c60
    refine x_iconst (v := 0) C0 d_Ru_leadingOnes_67 (by decide) ?_
    exact x_sub [2, 3] rfl (t_Ru_leadingOnes_68 G C0 hR hr hlk  _ _ _ _ _ hwp)
  · replace hwp := hwp.2 c60
    refine x_iconst (v := 1) C0 d_Ru_leadingOnes_63 (by decide) ?_
    refine x_goto (tgt := 68) C0 d_Ru_leadingOnes_64 (by decide) ?_
    exact x_sub [2, 3] rfl (t_Ru_leadingOnes_68 G C0 hR hr hlk  _ _ _ _ _ hwp)
set_option maxRecDepth 100000 in
set_option maxHeartbeats 4000000 in
theorem t_Ru_leadingOnes_31 {p : Program} {l : Launch} {e : Env} {R : Room} {s : State} {m : MethodId} {args : Array Value} {below : List Frame} {meth : Method} {c : Code} (G : mG) (C0 : Cx G p s m args c prog_5_method_5_code 7 "BassRealiser$Rules") (hR : 1 ≤ R.frames ∧ 22 ≤ R.locals ∧ 0 ≤ R.cells ∧ 0 ≤ R.slots) (hr : meth.sig.returnType = some .int) (hlk : meth.locks = false) {Post : Int32 → MH → Prop} (l2 : Int32) (l3 : Int32) (l4 : Int32) (l5 : Int32) (y0 : Int32) (h : MH) (hwp : wp_Ru_leadingOnes_31 Post l2 l3 l4 l5 y0 h) : WG p l e R s m args below meth c 0 0 (MQ below (va_Qi Post (Wd G) (mA G)) args s 0 0 (mA G)) G 7 [(2, .int l2), (3, .int l3), (4, .int l4), (5, .int l5)] 31 [.int y0] h := by
  unfold wp_Ru_leadingOnes_31 at hwp
  refine x_istore C0 d_Ru_leadingOnes_31 (by decide) (lv' := [(6, .int y0), (2, .int l2), (3, .int l3), (4, .int l4), (5, .int l5)]) rfl ?_
  refine x_iload C0 0 d_Ru_leadingOnes_33 rfl ?_
  refine x_iload_n C0 1 d_Ru_leadingOnes_35 rfl rfl ?_
  refine x_bipush (v := 12) C0 d_Ru_leadingOnes_36 (by decide) ?_
  refine x_irem C0 d_Ru_leadingOnes_38 (by decide) ?_
  refine x_iload C0 4 d_Ru_leadingOnes_39 rfl ?_
  refine x_icmp_ne (tgt := 48) C0 d_Ru_leadingOnes_41 (by decide) (fun c41 => ?_) (fun c41 => ?_)
  · replace hwp := hwp.1 c41
    refine x_iconst (v := 0) C0 d_Ru_leadingOnes_48 (by decide) ?_
    exact x_sub [2, 3, 4] rfl (t_Ru_leadingOnes_49 G C0 hR hr hlk  _ _ _ _ _ _ hwp)
  · replace hwp := hwp.2 c41
    refine x_iconst (v := 1) C0 d_Ru_leadingOnes_44 (by decide) ?_
    refine x_goto (tgt := 49) C0 d_Ru_leadingOnes_45 (by decide) ?_
    exact x_sub [2, 3, 4] rfl (t_Ru_leadingOnes_49 G C0 hR hr hlk  _ _ _ _ _ _ hwp)
set_option maxRecDepth 100000 in
set_option maxHeartbeats 4000000 in
theorem t_Ru_leadingOnes {p : Program} {l : Launch} {e : Env} {R : Room} {s : State} {m : MethodId} {args : Array Value} {below : List Frame} {meth : Method} {c : Code} (G : mG) (C0 : Cx G p s m args c prog_5_method_5_code 7 "BassRealiser$Rules") (hR : 1 ≤ R.frames ∧ 22 ≤ R.locals ∧ 0 ≤ R.cells ∧ 0 ≤ R.slots) (hr : meth.sig.returnType = some .int) (hlk : meth.locks = false) {Post : Int32 → MH → Prop} (l0 : Nat) (l1 : Int32) (l2 : Int32) (l3 : Int32) (l4 : Int32) (h : MH) (hwp : wp_Ru_leadingOnes Post l0 l1 l2 l3 l4 h) : WG p l e R s m args below meth c 0 0 (MQ below (va_Qi Post (Wd G) (mA G)) args s 0 0 (mA G)) G 7 [(0, .ref (m_b G + l0)), (1, .int l1), (2, .int l2), (3, .int l3), (4, .int l4)] 0 [] h := by
  unfold wp_Ru_leadingOnes at hwp
  refine x_bipush (v := 7) C0 d_Ru_leadingOnes_0 (by decide) ?_
  refine x_aload_n C0 0 d_Ru_leadingOnes_2 rfl rfl ?_
  obtain ⟨x3, e3, hwp⟩ := hwp
  refine x_getI C0 fk_Ru_25 e3 d_Ru_leadingOnes_3 ?_
  refine x_imul C0 d_Ru_leadingOnes_6 ?_
  refine x_bipush (v := 11) C0 d_Ru_leadingOnes_7 (by decide) ?_
  refine x_iadd C0 d_Ru_leadingOnes_9 ?_
  refine x_bipush (v := 12) C0 d_Ru_leadingOnes_10 (by decide) ?_
  refine x_callSi0 (As := [.int (((7 : Int32) * x3) + (11 : Int32)), .int (12 : Int32)]) (st := []) C0 (c_Ma_floorMod l G hwp) kw_2_170 mk_Ma_floorMod kw_2_27 rfl (Nat.le_of_ble_eq_true rfl) rfl rfl ⟨Nat.le_trans (by decide) hR.1, Nat.le_trans (by decide) hR.2.1⟩ ⟨Nat.zero_le _, Nat.zero_le _⟩ rfl d_Ru_leadingOnes_12 (fun r12 h12 hwp => ?_)
  refine x_istore C0 d_Ru_leadingOnes_15 (by decide) (lv' := [(5, .int r12), (0, .ref (m_b G + l0)), (1, .int l1), (2, .int l2), (3, .int l3), (4, .int l4)]) rfl ?_
  refine x_iload_n C0 2 d_Ru_leadingOnes_17 rfl rfl ?_
  refine x_bipush (v := 12) C0 d_Ru_leadingOnes_18 (by decide) ?_
  refine x_irem C0 d_Ru_leadingOnes_20 (by decide) ?_
  refine x_iload C0 0 d_Ru_leadingOnes_21 rfl ?_
  refine x_icmp_ne (tgt := 30) C0 d_Ru_leadingOnes_23 (by decide) (fun c23 => ?_) (fun c23 => ?_)
  · replace hwp := hwp.1 c23
    refine x_iconst (v := 0) C0 d_Ru_leadingOnes_30 (by decide) ?_
    exact x_sub [3, 4, 5, 0] rfl (t_Ru_leadingOnes_31 G C0 hR hr hlk  _ _ _ _ _ _ hwp)
  · replace hwp := hwp.2 c23
    refine x_iconst (v := 1) C0 d_Ru_leadingOnes_26 (by decide) ?_
    refine x_goto (tgt := 31) C0 d_Ru_leadingOnes_27 (by decide) ?_
    exact x_sub [3, 4, 5, 0] rfl (t_Ru_leadingOnes_31 G C0 hR hr hlk  _ _ _ _ _ _ hwp)
set_option maxRecDepth 100000 in
set_option maxHeartbeats 4000000 in
theorem c_Ru_leadingOnes (l : Launch) (G : mG) {Post : Int32 → MH → Prop} {l0 : Nat} {l1 : Int32} {l2 : Int32} {l3 : Int32} {l4 : Int32} {h : MH} (hwp : wp_Ru_leadingOnes Post l0 l1 l2 l3 l4 h) : Met l y_Ru_leadingOnes (Cond.code y_Ru_leadingOnes prog_5_method_5_code 7 (Option.some Jvm.ClassFile.FieldType.int) :: lw_good) ({ frames := 1, cells := 0, slots := 0, locals := 22 }) (va_Pc [.ref (m_b G + l0), .int l1, .int l2, .int l3, .int l4] (Wd G h)) (va_Qi Post (Wd G) (mA G)) 0 0 (mA G) := by
  refine Met.ofW (cc := prog_5_method_5_code) (maxL := 7) (ret := (Option.some Jvm.ClassFile.FieldType.int)) (by decide +kernel) rfl ?_
  intro p e s m args below meth c s₁ B hml hv
  obtain ⟨rfl, hP, hz, hK, hSt⟩ := hv
  have hts := atoms_spec (ws := Cond.code y_Ru_leadingOnes prog_5_method_5_code 7 (Option.some Jvm.ClassFile.FieldType.int) :: lw_good) B.pre
  have C0 : Cx G p s m ([.ref (m_b G + l0), .int l1, .int l2, .int l3, .int l4] : List Value).toArray c prog_5_method_5_code 7 "BassRealiser$Rules" := ⟨⟨B.exec, B.bytes, hml, findClass_of_methodNamed B.named, fun w h => hts w (List.mem_cons_of_mem _ h)⟩, hK, hSt, by rw [hz]; exact Nat.le_add_right _ _⟩
  have hl := lv_entry ([.ref (m_b G + l0), .int l1, .int l2, .int l3, .int l4]) (n := 7) (Nat.le_of_ble_eq_true rfl)
  rw [lg_entry_eq]
  exact t_Ru_leadingOnes G C0 ⟨Nat.le_refl _, Nat.le_refl _, Nat.le_refl _, Nat.le_refl _⟩ B.returns B.notSynchronized _ _ _ _ _ _ hwp _ _ _ ⟨hP, hz, va_S.rf⟩ hl
def wp_Ru_strays_30 (K2 : Nat → Int32 → Int32 → MH → Prop) (Post : Int32 → MH → Prop) (l0 : Nat) (l1 : Int32) (l2 : Int32) (h : MH) : Prop :=
  K2 l0 l1 (l2 + (1 : Int32)) h
def wb_Ru_strays_2 (K2 : Nat → Int32 → Int32 → MH → Prop) (Post : Int32 → MH → Prop) (l0 : Nat) (l1 : Int32) (l2 : Int32) (h : MH) : Prop :=
  (((3 : Int32) ≤ l2) →
    (Post (0 : Int32) h)) ∧
  ((¬ (3 : Int32) ≤ l2) →
    (∃ x8 : Nat, gF h l0 0 5 = some (.inr (some x8)) ∧
      (∃ (n12 : Nat) (f12 : Nat → Int32), gA h x8 0 = some (n12, f12) ∧ vp_in l2 n12 ∧
        (∀ z13 : Int32, z13 = f12 (l2).toNatClampNeg →
          (((z13 = (-1 : Int32)) →
              (wp_Ru_strays_30 K2 Post l0 l1 l2 h)) ∧
            ((¬ z13 = (-1 : Int32)) →
              (wp_Br_pitchOf (fun (r22 : Int32) (h22 : MH) =>
                  (((z13 = r22) →
                      (wp_Ru_strays_30 K2 Post l0 l1 l2 h22)) ∧
                    ((¬ z13 = r22) →
                      (Post (1 : Int32) h22)))) l1 l2 h)))))))
def wn_Ru_strays_2 (Post : Int32 → MH → Prop) : Nat → Nat → Int32 → Int32 → MH → Prop
  | 0 => fun _ _ _ _ => False
  | n + 1 => wb_Ru_strays_2 (wn_Ru_strays_2 Post n) Post
def wp_Ru_strays_2 (Post : Int32 → MH → Prop) (l0 : Nat) (l1 : Int32) (l2 : Int32) (h : MH) : Prop := ∃ n, wn_Ru_strays_2 Post n l0 l1 l2 h
def wp_Ru_strays (Post : Int32 → MH → Prop) (l0 : Nat) (l1 : Int32) (h : MH) : Prop :=
  wp_Ru_strays_2 Post l0 l1 (0 : Int32) h
set_option maxRecDepth 100000 in
set_option maxHeartbeats 4000000 in
theorem t_Ru_strays_30 {p : Program} {l : Launch} {e : Env} {R : Room} {s : State} {m : MethodId} {args : Array Value} {below : List Frame} {meth : Method} {c : Code} (G : mG) (C0 : Cx G p s m args c prog_5_method_6_code 4 "BassRealiser$Rules") (hR : 1 ≤ R.frames ∧ 21 ≤ R.locals ∧ 0 ≤ R.cells ∧ 0 ≤ R.slots) (hr : meth.sig.returnType = some .boolean) (hlk : meth.locks = false) {Post : Int32 → MH → Prop} {K2 : Nat → Int32 → Int32 → MH → Prop} (hK2 : ∀ (l0 : Nat) (l1 : Int32) (l2 : Int32) (h : MH), K2 l0 l1 l2 h → WG p l e R s m args below meth c 0 0 (MQ below (va_Qi Post (Wd G) (mA G)) args s 0 0 (mA G)) G 4 [(0, .ref (m_b G + l0)), (1, .int l1), (2, .int l2)] 2 [] h) (l0 : Nat) (l1 : Int32) (l2 : Int32) (h : MH) (hwp : wp_Ru_strays_30 K2 Post l0 l1 l2 h) : WG p l e R s m args below meth c 0 0 (MQ below (va_Qi Post (Wd G) (mA G)) args s 0 0 (mA G)) G 4 [(0, .ref (m_b G + l0)), (1, .int l1), (2, .int l2)] 30 [] h := by
  unfold wp_Ru_strays_30 at hwp
  refine x_iinc C0 2 d_Ru_strays_30 rfl rfl (by decide) (lv' := [(2, .int (l2 + (1 : Int32))), (0, .ref (m_b G + l0)), (1, .int l1)]) rfl ?_
  refine x_goto (tgt := 2) C0 d_Ru_strays_33 (by decide) ?_
  exact x_sub [1, 2, 0] rfl (hK2 _ _ _ _ hwp)
set_option maxRecDepth 100000 in
set_option maxHeartbeats 4000000 in
theorem tb_Ru_strays_2 {p : Program} {l : Launch} {e : Env} {R : Room} {s : State} {m : MethodId} {args : Array Value} {below : List Frame} {meth : Method} {c : Code} (G : mG) (C0 : Cx G p s m args c prog_5_method_6_code 4 "BassRealiser$Rules") (hR : 1 ≤ R.frames ∧ 21 ≤ R.locals ∧ 0 ≤ R.cells ∧ 0 ≤ R.slots) (hr : meth.sig.returnType = some .boolean) (hlk : meth.locks = false) {Post : Int32 → MH → Prop} {K2 : Nat → Int32 → Int32 → MH → Prop} (hK2 : ∀ (l0 : Nat) (l1 : Int32) (l2 : Int32) (h : MH), K2 l0 l1 l2 h → WG p l e R s m args below meth c 0 0 (MQ below (va_Qi Post (Wd G) (mA G)) args s 0 0 (mA G)) G 4 [(0, .ref (m_b G + l0)), (1, .int l1), (2, .int l2)] 2 [] h) (l0 : Nat) (l1 : Int32) (l2 : Int32) (h : MH) (hwp : wb_Ru_strays_2 K2 Post l0 l1 l2 h) : WG p l e R s m args below meth c 0 0 (MQ below (va_Qi Post (Wd G) (mA G)) args s 0 0 (mA G)) G 4 [(0, .ref (m_b G + l0)), (1, .int l1), (2, .int l2)] 2 [] h := by
  unfold wb_Ru_strays_2 at hwp
  refine x_iload_n C0 2 d_Ru_strays_2 rfl rfl ?_
  refine x_iconst (v := 3) C0 d_Ru_strays_3 (by decide) ?_
  refine x_icmp_ge (tgt := 36) C0 d_Ru_strays_4 (by decide) (fun c4 => ?_) (fun c4 => ?_)
  · replace hwp := hwp.1 c4
    refine x_iconst (v := 0) C0 d_Ru_strays_36 (by decide) ?_
    exact x_zret C0 hr rfl hlk hwp d_Ru_strays_37
  · replace hwp := hwp.2 c4
    refine x_aload_n C0 0 d_Ru_strays_7 rfl rfl ?_
    obtain ⟨x8, e8, hwp⟩ := hwp
    refine x_getR C0 fk_Ru_67 e8 d_Ru_strays_8 ?_
    refine x_iload_n C0 2 d_Ru_strays_11 rfl rfl ?_
    obtain ⟨n12, f12, e12, i12, hwp⟩ := hwp
    refine x_iald C0 e12 i12 d_Ru_strays_12 ?_
    refine x_topI (fun z13 e13 => ?_)
    replace hwp := hwp z13 e13
    refine x_istore_n C0 d_Ru_strays_13 rfl (by decide) (lv' := [(3, .int z13), (0, .ref (m_b G + l0)), (1, .int l1), (2, .int l2)]) rfl ?_
    refine x_iload_n C0 0 d_Ru_strays_14 rfl rfl ?_
    refine x_iconst (v := -1) C0 d_Ru_strays_15 (by decide) ?_
    refine x_icmp_eq (tgt := 30) C0 d_Ru_strays_16 (by decide) (fun c16 => ?_) (fun c16 => ?_)
    · replace hwp := hwp.1 c16
      exact x_sub [1, 2, 3] rfl (t_Ru_strays_30 G C0 hR hr hlk hK2 _ _ _ _ hwp)
    · replace hwp := hwp.2 c16
      refine x_iload_n C0 0 d_Ru_strays_19 rfl rfl ?_
      refine x_iload_n C0 2 d_Ru_strays_20 rfl rfl ?_
      refine x_iload_n C0 3 d_Ru_strays_21 rfl rfl ?_
      refine x_callSNi0 (As := [.int l1, .int l2]) (st := [.int z13]) C0 (c_Br_pitchOf l G hwp) (m_nwA C0 nw_3) mk_Br_pitchOf kw_2_158 rfl (Nat.le_of_ble_eq_true rfl) rfl rfl ⟨Nat.le_trans (by decide) hR.1, Nat.le_trans (by decide) hR.2.1⟩ ⟨Nat.zero_le _, Nat.zero_le _⟩ rfl d_Ru_strays_22 (fun r22 h22 hwp => ?_)
      refine x_icmp_eq (tgt := 30) C0 d_Ru_strays_25 (by decide) (fun c25 => ?_) (fun c25 => ?_)
      · replace hwp := hwp.1 c25
        exact x_sub [1, 2, 3] rfl (t_Ru_strays_30 G C0 hR hr hlk hK2 _ _ _ _ hwp)
      · replace hwp := hwp.2 c25
        refine x_iconst (v := 1) C0 d_Ru_strays_28 (by decide) ?_
        exact x_zret C0 hr rfl hlk hwp d_Ru_strays_29
theorem t_Ru_strays_2 {p : Program} {l : Launch} {e : Env} {R : Room} {s : State} {m : MethodId} {args : Array Value} {below : List Frame} {meth : Method} {c : Code} (G : mG) (C0 : Cx G p s m args c prog_5_method_6_code 4 "BassRealiser$Rules") (hR : 1 ≤ R.frames ∧ 21 ≤ R.locals ∧ 0 ≤ R.cells ∧ 0 ≤ R.slots) (hr : meth.sig.returnType = some .boolean) (hlk : meth.locks = false) {Post : Int32 → MH → Prop} (l0 : Nat) (l1 : Int32) (l2 : Int32) (h : MH) (hwp : wp_Ru_strays_2 Post l0 l1 l2 h) : WG p l e R s m args below meth c 0 0 (MQ below (va_Qi Post (Wd G) (mA G)) args s 0 0 (mA G)) G 4 [(0, .ref (m_b G + l0)), (1, .int l1), (2, .int l2)] 2 [] h := by
  obtain ⟨n, hwp⟩ := hwp
  induction n generalizing l0 l1 l2 h with
  | zero => exact False.elim hwp
  | succ n ih => exact tb_Ru_strays_2 G C0 hR hr hlk (fun l0 l1 l2 h hwp => ih l0 l1 l2 h hwp) l0 l1 l2 h hwp
set_option maxRecDepth 100000 in
set_option maxHeartbeats 4000000 in
theorem t_Ru_strays {p : Program} {l : Launch} {e : Env} {R : Room} {s : State} {m : MethodId} {args : Array Value} {below : List Frame} {meth : Method} {c : Code} (G : mG) (C0 : Cx G p s m args c prog_5_method_6_code 4 "BassRealiser$Rules") (hR : 1 ≤ R.frames ∧ 21 ≤ R.locals ∧ 0 ≤ R.cells ∧ 0 ≤ R.slots) (hr : meth.sig.returnType = some .boolean) (hlk : meth.locks = false) {Post : Int32 → MH → Prop} (l0 : Nat) (l1 : Int32) (h : MH) (hwp : wp_Ru_strays Post l0 l1 h) : WG p l e R s m args below meth c 0 0 (MQ below (va_Qi Post (Wd G) (mA G)) args s 0 0 (mA G)) G 4 [(0, .ref (m_b G + l0)), (1, .int l1)] 0 [] h := by
  unfold wp_Ru_strays at hwp
  refine x_iconst (v := 0) C0 d_Ru_strays_0 (by decide) ?_
  refine x_istore_n C0 d_Ru_strays_1 rfl (by decide) (lv' := [(2, .int (0 : Int32)), (0, .ref (m_b G + l0)), (1, .int l1)]) rfl ?_
  exact x_sub [1, 2, 0] rfl (t_Ru_strays_2 G C0 hR hr hlk  _ _ _ _ hwp)
set_option maxRecDepth 100000 in
set_option maxHeartbeats 4000000 in
theorem c_Ru_strays (l : Launch) (G : mG) {Post : Int32 → MH → Prop} {l0 : Nat} {l1 : Int32} {h : MH} (hwp : wp_Ru_strays Post l0 l1 h) : Met l y_Ru_strays (Cond.code y_Ru_strays prog_5_method_6_code 4 (Option.some Jvm.ClassFile.FieldType.boolean) :: lw_good) ({ frames := 1, cells := 0, slots := 0, locals := 21 }) (va_Pc [.ref (m_b G + l0), .int l1] (Wd G h)) (va_Qi Post (Wd G) (mA G)) 0 0 (mA G) := by
  refine Met.ofW (cc := prog_5_method_6_code) (maxL := 4) (ret := (Option.some Jvm.ClassFile.FieldType.boolean)) (by decide +kernel) rfl ?_
  intro p e s m args below meth c s₁ B hml hv
  obtain ⟨rfl, hP, hz, hK, hSt⟩ := hv
  have hts := atoms_spec (ws := Cond.code y_Ru_strays prog_5_method_6_code 4 (Option.some Jvm.ClassFile.FieldType.boolean) :: lw_good) B.pre
  have C0 : Cx G p s m ([.ref (m_b G + l0), .int l1] : List Value).toArray c prog_5_method_6_code 4 "BassRealiser$Rules" := ⟨⟨B.exec, B.bytes, hml, findClass_of_methodNamed B.named, fun w h => hts w (List.mem_cons_of_mem _ h)⟩, hK, hSt, by rw [hz]; exact Nat.le_add_right _ _⟩
  have hl := lv_entry ([.ref (m_b G + l0), .int l1]) (n := 4) (Nat.le_of_ble_eq_true rfl)
  rw [lg_entry_eq]
  exact t_Ru_strays G C0 ⟨Nat.le_refl _, Nat.le_refl _, Nat.le_refl _, Nat.le_refl _⟩ B.returns B.notSynchronized _ _ _ hwp _ _ _ ⟨hP, hz, va_S.rf⟩ hl
def wp_Ru_ofVoicing (Post : Int32 → MH → Prop) (l0 : Nat) (l1 : Nat) (l2 : Int32) (h : MH) : Prop :=
  wp_Br_pitchOf (fun (r2 : Int32) (h2 : MH) =>
    (wp_Br_pitchOf (fun (r8 : Int32) (h8 : MH) =>
        (wp_Br_pitchOf (fun (r15 : Int32) (h15 : MH) =>
            (gC h15 l0 = some 3 ∧ wp_Ru_outside (fun (r23 : Int32) (h23 : MH) =>
                (((¬ r23 = 0) →
                    (Post (1 : Int32) h23)) ∧
                  ((r23 = 0) →
                    (gC h23 l0 = some 3 ∧ wp_Ru_outside (fun (r33 : Int32) (h33 : MH) =>
                        (((¬ r33 = 0) →
                        (Post (1 : Int32) h33)) ∧
                        ((r33 = 0) →
                        (gC h33 l0 = some 3 ∧ wp_Ru_outside (fun (r43 : Int32) (h43 : MH) =>
                        (((r43 = 0) →
                        (wp_Br_classBit (fun (r52 : Int32) (h52 : MH) =>
                        (wp_Br_classBit (fun (r57 : Int32) (h57 : MH) =>
                        (wp_Br_classBit (fun (r63 : Int32) (h63 : MH) =>
                        (∀ z67 : Int32, z67 = (r52 ||| r57) ||| r63 →
                        (∃ x72 : Int32, gF h63 l1 0 8 = some (.inl x72) ∧
                        ((((z67 &&& (x72 ^^^ (-1 : Int32))) = 0) →
                        (∃ x84 : Int32, gF h63 l1 0 7 = some (.inl x84) ∧
                        (∃ x90 : Int32, gF h63 l1 0 1 = some (.inl x90) ∧
                        (wp_Br_classBit (fun (r93 : Int32) (h93 : MH) =>
                        ((((x84 &&& ((z67 ||| r93) ^^^ (-1 : Int32))) = 0) →
                        (((r2 < r8) →
                        (Post (4 : Int32) h93)) ∧
                        ((¬ r2 < r8) →
                        (((r8 < r15) →
                        (Post (4 : Int32) h93)) ∧
                        ((¬ r8 < r15) →
                        (∃ x121 : Int32, gF h93 l1 0 1 = some (.inl x121) ∧
                        (((x121 ≤ r15) →
                        ((((12 : Int32) < (if 0 ≤ (r2 - r8) then (r2 - r8) else 0 - (r2 - r8))) →
                        (Post (5 : Int32) h93)) ∧
                        ((¬ (12 : Int32) < (if 0 ≤ (r2 - r8) then (r2 - r8) else 0 - (r2 - r8))) →
                        ((((if 0 ≤ (r8 - r15) then (r8 - r15) else 0 - (r8 - r15)) ≤ (12 : Int32)) →
                        (∃ x158 : Int32, gF h93 l1 0 1 = some (.inl x158) ∧
                        (gC h93 l0 = some 3 ∧ wp_Ru_leadingOnes (fun (r166 : Int32) (h166 : MH) =>
                        (((r166 ≤ (1 : Int32)) →
                        (wp_Ru_strays (fun (r178 : Int32) (h178 : MH) =>
                        (((r178 = 0) →
                        (Post (0 : Int32) h178)) ∧
                        ((¬ r178 = 0) →
                        (Post (7 : Int32) h178)))) l1 l2 h166)) ∧
                        ((¬ r166 ≤ (1 : Int32)) →
                        (Post (6 : Int32) h166)))) l0 x158 r2 r8 r15 h93))) ∧
                        ((¬ (if 0 ≤ (r8 - r15) then (r8 - r15) else 0 - (r8 - r15)) ≤ (12 : Int32)) →
                        (Post (5 : Int32) h93)))))) ∧
                        ((¬ x121 ≤ r15) →
                        (Post (4 : Int32) h93))))))))) ∧
                        ((¬ (x84 &&& ((z67 ||| r93) ^^^ (-1 : Int32))) = 0) →
                        (Post (3 : Int32) h93)))) x90 h63)))) ∧
                        ((¬ (z67 &&& (x72 ^^^ (-1 : Int32))) = 0) →
                        (Post (2 : Int32) h63)))))) r15 h57)) r8 h52)) r2 h43)) ∧
                        ((¬ r43 = 0) →
                        (Post (1 : Int32) h43)))) l0 (2 : Int32) r15 h33)))) l0 (1 : Int32) r8 h23)))) l0 (0 : Int32) r2 h15)) l2 (2 : Int32) h8)) l2 (1 : Int32) h2)) l2 (0 : Int32) h
set_option maxRecDepth 100000 in
set_option maxHeartbeats 4000000 in
theorem t_Ru_ofVoicing {p : Program} {l : Launch} {e : Env} {R : Room} {s : State} {m : MethodId} {args : Array Value} {below : List Frame} {meth : Method} {c : Code} (G : mG) (C0 : Cx G p s m args c prog_5_method_3_code 7 "BassRealiser$Rules") (hR : 2 ≤ R.frames ∧ 48 ≤ R.locals ∧ 0 ≤ R.cells ∧ 0 ≤ R.slots) (hr : meth.sig.returnType = some .int) (hlk : meth.locks = false) {Post : Int32 → MH → Prop} (l0 : Nat) (l1 : Nat) (l2 : Int32) (h : MH) (hwp : wp_Ru_ofVoicing Post l0 l1 l2 h) : WG p l e R s m args below meth c 0 0 (MQ below (va_Qi Post (Wd G) (mA G)) args s 0 0 (mA G)) G 7 [(0, .ref (m_b G + l0)), (1, .ref (m_b G + l1)), (2, .int l2)] 0 [] h := by
  unfold wp_Ru_ofVoicing at hwp
  refine x_iload_n C0 2 d_Ru_ofVoicing_0 rfl rfl ?_
  refine x_iconst (v := 0) C0 d_Ru_ofVoicing_1 (by decide) ?_
  refine x_callSNi0 (As := [.int l2, .int (0 : Int32)]) (st := []) C0 (c_Br_pitchOf l G hwp) (m_nwA C0 nw_3) mk_Br_pitchOf kw_2_158 rfl (Nat.le_of_ble_eq_true rfl) rfl rfl ⟨Nat.le_trans (by decide) hR.1, Nat.le_trans (by decide) hR.2.1⟩ ⟨Nat.zero_le _, Nat.zero_le _⟩ rfl d_Ru_ofVoicing_2 (fun r2 h2 hwp => ?_)
  refine x_istore_n C0 d_Ru_ofVoicing_5 rfl (by decide) (lv' := [(3, .int r2), (0, .ref (m_b G + l0)), (1, .ref (m_b G + l1)), (2, .int l2)]) rfl ?_
  refine x_iload_n C0 3 d_Ru_ofVoicing_6 rfl rfl ?_
  refine x_iconst (v := 1) C0 d_Ru_ofVoicing_7 (by decide) ?_
  refine x_callSNi0 (As := [.int l2, .int (1 : Int32)]) (st := []) C0 (c_Br_pitchOf l G hwp) (m_nwA C0 nw_3) mk_Br_pitchOf kw_2_158 rfl (Nat.le_of_ble_eq_true rfl) rfl rfl ⟨Nat.le_trans (by decide) hR.1, Nat.le_trans (by decide) hR.2.1⟩ ⟨Nat.zero_le _, Nat.zero_le _⟩ rfl d_Ru_ofVoicing_8 (fun r8 h8 hwp => ?_)
  refine x_istore C0 d_Ru_ofVoicing_11 (by decide) (lv' := [(4, .int r8), (3, .int r2), (0, .ref (m_b G + l0)), (1, .ref (m_b G + l1)), (2, .int l2)]) rfl ?_
  refine x_iload_n C0 4 d_Ru_ofVoicing_13 rfl rfl ?_
  refine x_iconst (v := 2) C0 d_Ru_ofVoicing_14 (by decide) ?_
  refine x_callSNi0 (As := [.int l2, .int (2 : Int32)]) (st := []) C0 (c_Br_pitchOf l G hwp) (m_nwA C0 nw_3) mk_Br_pitchOf kw_2_158 rfl (Nat.le_of_ble_eq_true rfl) rfl rfl ⟨Nat.le_trans (by decide) hR.1, Nat.le_trans (by decide) hR.2.1⟩ ⟨Nat.zero_le _, Nat.zero_le _⟩ rfl d_Ru_ofVoicing_15 (fun r15 h15 hwp => ?_)
  refine x_istore C0 d_Ru_ofVoicing_18 (by decide) (lv' := [(5, .int r15), (4, .int r8), (3, .int r2), (0, .ref (m_b G + l0)), (1, .ref (m_b G + l1)), (2, .int l2)]) rfl ?_
  refine x_aload_n C0 3 d_Ru_ofVoicing_20 rfl rfl ?_
  refine x_iconst (v := 0) C0 d_Ru_ofVoicing_21 (by decide) ?_
  refine x_iload_n C0 2 d_Ru_ofVoicing_22 rfl rfl ?_
  obtain ⟨g23, hwp⟩ := hwp
  refine x_callVi0 (k := l0) (As := [.int (0 : Int32), .int r2]) (st := []) C0 (c_Ru_outside l G hwp) kw_2_160 mk_Ru_outside vk_Ru_outside rfl g23 rfl (Nat.le_of_ble_eq_true rfl) rfl rfl ⟨Nat.le_trans (by decide) hR.1, Nat.le_trans (by decide) hR.2.1⟩ ⟨Nat.zero_le _, Nat.zero_le _⟩ rfl d_Ru_ofVoicing_23 (fun r23 h23 hwp => ?_)
  refine x_if_ne (tgt := 49) C0 d_Ru_ofVoicing_26 (by decide) (fun c26 => ?_) (fun c26 => ?_)
  · replace hwp := hwp.1 c26
    refine x_iconst (v := 1) C0 d_Ru_ofVoicing_49 (by decide) ?_
    exact x_iret C0 hr hlk hwp d_Ru_ofVoicing_50
  · replace hwp := hwp.2 c26
    refine x_aload_n C0 3 d_Ru_ofVoicing_29 rfl rfl ?_
    refine x_iconst (v := 1) C0 d_Ru_ofVoicing_30 (by decide) ?_
    refine x_iload C0 1 d_Ru_ofVoicing_31 rfl ?_
    obtain ⟨g33, hwp⟩ := hwp
    refine x_callVi0 (k := l0) (As := [.int (1 : Int32), .int r8]) (st := []) C0 (c_Ru_outside l G hwp) kw_2_160 mk_Ru_outside vk_Ru_outside rfl g33 rfl (Nat.le_of_ble_eq_true rfl) rfl rfl ⟨Nat.le_trans (by decide) hR.1, Nat.le_trans (by decide) hR.2.1⟩ ⟨Nat.zero_le _, Nat.zero_le _⟩ rfl d_Ru_ofVoicing_33 (fun r33 h33 hwp => ?_)
    refine x_if_ne (tgt := 49) C0 d_Ru_ofVoicing_36 (by decide) (fun c36 => ?_) (fun c36 => ?_)
    · replace hwp := hwp.1 c36
      refine x_iconst (v := 1) C0 d_Ru_ofVoicing_49 (by decide) ?_
      exact x_iret C0 hr hlk hwp d_Ru_ofVoicing_50
    · replace hwp := hwp.2 c36
      refine x_aload_n C0 3 d_Ru_ofVoicing_39 rfl rfl ?_
      refine x_iconst (v := 2) C0 d_Ru_ofVoicing_40 (by decide) ?_
      refine x_iload C0 0 d_Ru_ofVoicing_41 rfl ?_
      obtain ⟨g43, hwp⟩ := hwp
      refine x_callVi0 (k := l0) (As := [.int (2 : Int32), .int r15]) (st := []) C0 (c_Ru_outside l G hwp) kw_2_160 mk_Ru_outside vk_Ru_outside rfl g43 rfl (Nat.le_of_ble_eq_true rfl) rfl rfl ⟨Nat.le_trans (by decide) hR.1, Nat.le_trans (by decide) hR.2.1⟩ ⟨Nat.zero_le _, Nat.zero_le _⟩ rfl d_Ru_ofVoicing_43 (fun r43 h43 hwp => ?_)
      refine x_if_eq (tgt := 51) C0 d_Ru_ofVoicing_46 (by decide) (fun c46 => ?_) (fun c46 => ?_)
      · replace hwp := hwp.1 c46
        refine x_iload_n C0 2 d_Ru_ofVoicing_51 rfl rfl ?_
        refine x_callSNi0 (As := [.int r2]) (st := []) C0 (c_Br_classBit l G hwp) (m_nwA C0 nw_4) mk_Br_classBit kw_2_34 rfl (Nat.le_of_ble_eq_true rfl) rfl rfl ⟨Nat.le_trans (by decide) hR.1, Nat.le_trans (by decide) hR.2.1⟩ ⟨Nat.zero_le _, Nat.zero_le _⟩ rfl d_Ru_ofVoicing_52 (fun r52 h52 hwp => ?_)
        refine x_iload C0 1 d_Ru_ofVoicing_55 rfl ?_
        refine x_callSNi0 (As := [.int r8]) (st := [.int r52]) C0 (c_Br_classBit l G hwp) (m_nwA C0 nw_4) mk_Br_classBit kw_2_34 rfl (Nat.le_of_ble_eq_true rfl) rfl rfl ⟨Nat.le_trans (by decide) hR.1, Nat.le_trans (by decide) hR.2.1⟩ ⟨Nat.zero_le _, Nat.zero_le _⟩ rfl d_Ru_ofVoicing_57 (fun r57 h57 hwp => ?_)
        refine x_ior C0 d_Ru_ofVoicing_60 ?_
        refine x_iload C0 0 d_Ru_ofVoicing_61 rfl ?_
        refine x_callSNi0 (As := [.int r15]) (st := [.int (r52 ||| r57)]) C0 (c_Br_classBit l G hwp) (m_nwA C0 nw_4) mk_Br_classBit kw_2_34 rfl (Nat.le_of_ble_eq_true rfl) rfl rfl ⟨Nat.le_trans (by decide) hR.1, Nat.le_trans (by decide) hR.2.1⟩ ⟨Nat.zero_le _, Nat.zero_le _⟩ rfl d_Ru_ofVoicing_63 (fun r63 h63 hwp => ?_)
        refine x_ior C0 d_Ru_ofVoicing_66 ?_
        refine x_topI (fun z67 e67 => ?_)
        replace hwp := hwp z67 e67
        refine x_istore C0 d_Ru_ofVoicing_67 (by decide) (lv' := [(6, .int z67), (5, .int r15), (4, .int r8), (3, .int r2), (0, .ref (m_b G + l0)), (1, .ref (m_b G + l1)), (2, .int l2)]) rfl ?_
        refine x_iload C0 0 d_Ru_ofVoicing_69 rfl ?_
        refine x_aload_n C0 5 d_Ru_ofVoicing_71 rfl rfl ?_
        obtain ⟨x72, e72, hwp⟩ := hwp
        refine x_getI C0 fk_Ru_45 e72 d_Ru_ofVoicing_72 ?_
        refine x_iconst (v := -1) C0 d_Ru_ofVoicing_75 (by decide) ?_
        refine x_ixor C0 d_Ru_ofVoicing_76 ?_
        refine x_iand C0 d_Ru_ofVoicing_77 ?_
        refine x_if_eq (tgt := 83) C0 d_Ru_ofVoicing_78 (by decide) (fun c78 => ?_) (fun c78 => ?_)
        · replace hwp := hwp.1 c78
          refine x_aload_n C0 5 d_Ru_ofVoicing_83 rfl rfl ?_
          obtain ⟨x84, e84, hwp⟩ := hwp
          refine x_getI C0 fk_Ru_50 e84 d_Ru_ofVoicing_84 ?_
          refine x_iload C0 0 d_Ru_ofVoicing_87 rfl ?_
          refine x_aload_n C0 5 d_Ru_ofVoicing_89 rfl rfl ?_
          obtain ⟨x90, e90, hwp⟩ := hwp
          refine x_getI C0 fk_Ru_53 e90 d_Ru_ofVoicing_90 ?_
          refine x_callSNi0 (As := [.int x90]) (st := [.int z67, .int x84]) C0 (c_Br_classBit l G hwp) (m_nwA C0 nw_4) mk_Br_classBit kw_2_34 rfl (Nat.le_of_ble_eq_true rfl) rfl rfl ⟨Nat.le_trans (by decide) hR.1, Nat.le_trans (by decide) hR.2.1⟩ ⟨Nat.zero_le _, Nat.zero_le _⟩ rfl d_Ru_ofVoicing_93 (fun r93 h93 hwp => ?_)
          refine x_ior C0 d_Ru_ofVoicing_96 ?_
          refine x_iconst (v := -1) C0 d_Ru_ofVoicing_97 (by decide) ?_
          refine x_ixor C0 d_Ru_ofVoicing_98 ?_
          refine x_iand C0 d_Ru_ofVoicing_99 ?_
          refine x_if_eq (tgt := 105) C0 d_Ru_ofVoicing_100 (by decide) (fun c100 => ?_) (fun c100 => ?_)
          · replace hwp := hwp.1 c100
            refine x_iload_n C0 3 d_Ru_ofVoicing_105 rfl rfl ?_
            refine x_iload C0 2 d_Ru_ofVoicing_106 rfl ?_
            refine x_icmp_lt (tgt := 127) C0 d_Ru_ofVoicing_108 (by decide) (fun c108 => ?_) (fun c108 => ?_)
            · replace hwp := hwp.1 c108
              refine x_iconst (v := 4) C0 d_Ru_ofVoicing_127 (by decide) ?_
              exact x_iret C0 hr hlk hwp d_Ru_ofVoicing_128
            · replace hwp := hwp.2 c108
              refine x_iload C0 2 d_Ru_ofVoicing_111 rfl ?_
              refine x_iload C0 1 d_Ru_ofVoicing_113 rfl ?_
              refine x_icmp_lt (tgt := 127) C0 d_Ru_ofVoicing_115 (by decide) (fun c115 => ?_) (fun c115 => ?_)
              · replace hwp := hwp.1 c115
                refine x_iconst (v := 4) C0 d_Ru_ofVoicing_127 (by decide) ?_
                exact x_iret C0 hr hlk hwp d_Ru_ofVoicing_128
              · replace hwp := hwp.2 c115
                refine x_iload C0 1 d_Ru_ofVoicing_118 rfl ?_
                refine x_aload_n C0 5 d_Ru_ofVoicing_120 rfl rfl ?_
                obtain ⟨x121, e121, hwp⟩ := hwp
                refine x_getI C0 fk_Ru_53 e121 d_Ru_ofVoicing_121 ?_
                refine x_icmp_ge (tgt := 129) C0 d_Ru_ofVoicing_124 (by decide) (fun c124 => ?_) (fun c124 => ?_)
                · replace hwp := hwp.1 c124
                  refine x_iload_n C0 3 d_Ru_ofVoicing_129 rfl rfl ?_
                  refine x_iload C0 2 d_Ru_ofVoicing_130 rfl ?_
                  refine x_isub C0 d_Ru_ofVoicing_132 ?_
                  refine x_mabs C0 kw_2_165 kw_2_21 kw_1_8 kw_2_22 d_Ru_ofVoicing_133 ⟨Nat.le_trans (by decide) hR.1, Nat.le_trans (by decide) hR.2.1⟩ ⟨Nat.zero_le _, Nat.zero_le _⟩ (Nat.le_of_ble_eq_true rfl) ?_
                  refine x_bipush (v := 12) C0 d_Ru_ofVoicing_136 (by decide) ?_
                  refine x_icmp_gt (tgt := 154) C0 d_Ru_ofVoicing_138 (by decide) (fun c138 => ?_) (fun c138 => ?_)
                  · replace hwp := hwp.1 c138
                    refine x_iconst (v := 5) C0 d_Ru_ofVoicing_154 (by decide) ?_
                    exact x_iret C0 hr hlk hwp d_Ru_ofVoicing_155
                  · replace hwp := hwp.2 c138
                    refine x_iload C0 2 d_Ru_ofVoicing_141 rfl ?_
                    refine x_iload C0 1 d_Ru_ofVoicing_143 rfl ?_
                    refine x_isub C0 d_Ru_ofVoicing_145 ?_
                    refine x_mabs C0 kw_2_165 kw_2_21 kw_1_8 kw_2_22 d_Ru_ofVoicing_146 ⟨Nat.le_trans (by decide) hR.1, Nat.le_trans (by decide) hR.2.1⟩ ⟨Nat.zero_le _, Nat.zero_le _⟩ (Nat.le_of_ble_eq_true rfl) ?_
                    refine x_bipush (v := 12) C0 d_Ru_ofVoicing_149 (by decide) ?_
                    refine x_icmp_le (tgt := 156) C0 d_Ru_ofVoicing_151 (by decide) (fun c151 => ?_) (fun c151 => ?_)
                    · replace hwp := hwp.1 c151
                      refine x_aload_n C0 4 d_Ru_ofVoicing_156 rfl rfl ?_
                      refine x_aload_n C0 5 d_Ru_ofVoicing_157 rfl rfl ?_
                      obtain ⟨x158, e158, hwp⟩ := hwp
                      refine x_getI C0 fk_Ru_53 e158 d_Ru_ofVoicing_158 ?_
                      refine x_iload_n C0 3 d_Ru_ofVoicing_161 rfl rfl ?_
                      refine x_iload C0 2 d_Ru_ofVoicing_162 rfl ?_
                      refine x_iload C0 1 d_Ru_ofVoicing_164 rfl ?_
                      obtain ⟨g166, hwp⟩ := hwp
                      refine x_callVi0 (k := l0) (As := [.int x158, .int r2, .int r8, .int r15]) (st := []) C0 (c_Ru_leadingOnes l G hwp) kw_2_166 mk_Ru_leadingOnes vk_Ru_leadingOnes rfl g166 rfl (Nat.le_of_ble_eq_true rfl) rfl rfl ⟨Nat.le_trans (by decide) hR.1, Nat.le_trans (by decide) hR.2.1⟩ ⟨Nat.zero_le _, Nat.zero_le _⟩ rfl d_Ru_ofVoicing_166 (fun r166 h166 hwp => ?_)
                      refine x_iconst (v := 1) C0 d_Ru_ofVoicing_169 (by decide) ?_
                      refine x_icmp_le (tgt := 176) C0 d_Ru_ofVoicing_170 (by decide) (fun c170 => ?_) (fun c170 => ?_)
                      · replace hwp := hwp.1 c170
                        refine x_aload_n C0 5 d_Ru_ofVoicing_176 rfl rfl ?_
                        refine x_iload_n C0 6 d_Ru_ofVoicing_177 rfl rfl ?_
                        refine x_callSi0 (As := [.ref (m_b G + l1), .int l2]) (st := []) C0 (c_Ru_strays l G hwp) kw_2_171 mk_Ru_strays kw_2_172 rfl (Nat.le_of_ble_eq_true rfl) rfl rfl ⟨Nat.le_trans (by decide) hR.1, Nat.le_trans (by decide) hR.2.1⟩ ⟨Nat.zero_le _, Nat.zero_le _⟩ rfl d_Ru_ofVoicing_178 (fun r178 h178 hwp => ?_)
                        refine x_if_eq (tgt := 189) C0 d_Ru_ofVoicing_181 (by decide) (fun c181 => ?_) (fun c181 => ?_)
                        · replace hwp := hwp.1 c181
                          refine x_iconst (v := 0) C0 d_Ru_ofVoicing_189 (by decide) ?_
                          exact x_iret C0 hr hlk hwp d_Ru_ofVoicing_190
                        · replace hwp := hwp.2 c181
                          refine x_bipush (v := 7) C0 d_Ru_ofVoicing_184 (by decide) ?_
                          refine x_goto (tgt := 190) C0 d_Ru_ofVoicing_186 (by decide) ?_
                          exact x_iret C0 hr hlk hwp d_Ru_ofVoicing_190
                      · replace hwp := hwp.2 c170
                        refine x_bipush (v := 6) C0 d_Ru_ofVoicing_173 (by decide) ?_
                        exact x_iret C0 hr hlk hwp d_Ru_ofVoicing_175
                    · replace hwp := hwp.2 c151
                      refine x_iconst (v := 5) C0 d_Ru_ofVoicing_154 (by decide) ?_
                      exact x_iret C0 hr hlk hwp d_Ru_ofVoicing_155
                · replace hwp := hwp.2 c124
                  refine x_iconst (v := 4) C0 d_Ru_ofVoicing_127 (by decide) ?_
                  exact x_iret C0 hr hlk hwp d_Ru_ofVoicing_128
          · replace hwp := hwp.2 c100
            refine x_iconst (v := 3) C0 d_Ru_ofVoicing_103 (by decide) ?_
            exact x_iret C0 hr hlk hwp d_Ru_ofVoicing_104
        · replace hwp := hwp.2 c78
          refine x_iconst (v := 2) C0 d_Ru_ofVoicing_81 (by decide) ?_
          exact x_iret C0 hr hlk hwp d_Ru_ofVoicing_82
      · replace hwp := hwp.2 c46
        refine x_iconst (v := 1) C0 d_Ru_ofVoicing_49 (by decide) ?_
        exact x_iret C0 hr hlk hwp d_Ru_ofVoicing_50
set_option maxRecDepth 100000 in
set_option maxHeartbeats 4000000 in
theorem c_Ru_ofVoicing (l : Launch) (G : mG) {Post : Int32 → MH → Prop} {l0 : Nat} {l1 : Nat} {l2 : Int32} {h : MH} (hwp : wp_Ru_ofVoicing Post l0 l1 l2 h) : Met l y_Ru_ofVoicing (Cond.code y_Ru_ofVoicing prog_5_method_3_code 7 (Option.some Jvm.ClassFile.FieldType.int) :: lw_good) ({ frames := 2, cells := 0, slots := 0, locals := 48 }) (va_Pc [.ref (m_b G + l0), .ref (m_b G + l1), .int l2] (Wd G h)) (va_Qi Post (Wd G) (mA G)) 0 0 (mA G) := by
  refine Met.ofW (cc := prog_5_method_3_code) (maxL := 7) (ret := (Option.some Jvm.ClassFile.FieldType.int)) (by decide +kernel) rfl ?_
  intro p e s m args below meth c s₁ B hml hv
  obtain ⟨rfl, hP, hz, hK, hSt⟩ := hv
  have hts := atoms_spec (ws := Cond.code y_Ru_ofVoicing prog_5_method_3_code 7 (Option.some Jvm.ClassFile.FieldType.int) :: lw_good) B.pre
  have C0 : Cx G p s m ([.ref (m_b G + l0), .ref (m_b G + l1), .int l2] : List Value).toArray c prog_5_method_3_code 7 "BassRealiser$Rules" := ⟨⟨B.exec, B.bytes, hml, findClass_of_methodNamed B.named, fun w h => hts w (List.mem_cons_of_mem _ h)⟩, hK, hSt, by rw [hz]; exact Nat.le_add_right _ _⟩
  have hl := lv_entry ([.ref (m_b G + l0), .ref (m_b G + l1), .int l2]) (n := 7) (Nat.le_of_ble_eq_true rfl)
  rw [lg_entry_eq]
  exact t_Ru_ofVoicing G C0 ⟨Nat.le_refl _, Nat.le_refl _, Nat.le_refl _, Nat.le_refl _⟩ B.returns B.notSynchronized _ _ _ _ hwp _ _ _ ⟨hP, hz, va_S.rf⟩ hl
def wp_Co_listBelow_118 (K40 : Nat → Nat → Nat → Int32 → Int32 → Int32 → Int32 → MH → Prop) (Post : MH → Prop) (l0 : Nat) (l1 : Nat) (l2 : Nat) (l3 : Int32) (l4 : Int32) (l6 : Int32) (l7 : Int32) (h : MH) : Prop :=
  K40 l0 l1 l2 l3 l4 l6 (l7 + (1 : Int32)) h
def wp_Co_listBelow_81 (K40 : Nat → Nat → Nat → Int32 → Int32 → Int32 → Int32 → MH → Prop) (Post : MH → Prop) (l0 : Nat) (l1 : Nat) (l2 : Nat) (l3 : Int32) (l4 : Int32) (l6 : Int32) (l7 : Int32) (l8 : Int32) (y0 : Int32) (h : MH) : Prop :=
  ((y0 = 0) →
    (wp_Co_listBelow_118 K40 Post l0 l1 l2 l3 l4 l6 l7 h)) ∧
  ((¬ y0 = 0) →
    (∃ x89 : Int32, gF h l0 1 4 = some (.inl x89) ∧
      ((((112 : Int32) ≤ x89) →
          (wp_Co_listBelow_118 K40 Post l0 l1 l2 l3 l4 l6 l7 h)) ∧
        ((¬ (112 : Int32) ≤ x89) →
          (∃ x98 : Nat, gF h l0 1 0 = some (.inr (some x98)) ∧
            (∃ x102 : Int32, gF h l0 1 4 = some (.inl x102) ∧
              (∃ (n107 : Nat) (f107 : Nat → Int32), gA h x98 0 = some (n107, f107) ∧ vp_in x102 n107 ∧ ∀ h107 : MH, h107 = mset h x98 (.inr (0, n107, .inl (upd f107 (x102).toNatClampNeg l8))) →
                (∃ x110 : Int32, gF h107 l0 1 4 = some (.inl x110) ∧
                  ((∃ o : MV, gF h107 l0 1 4 = some o) ∧ ∀ h115 : MH, h115 = fset h107 l0 4 (.inl (x110 + (1 : Int32)) : MV) →
                    (wp_Co_listBelow_118 K40 Post l0 l1 l2 l3 l4 l6 l7 h115))))))))))
def wp_Co_listBelow_80 (K40 : Nat → Nat → Nat → Int32 → Int32 → Int32 → Int32 → MH → Prop) (Post : MH → Prop) (l0 : Nat) (l1 : Nat) (l2 : Nat) (l3 : Int32) (l4 : Int32) (l6 : Int32) (l7 : Int32) (l8 : Int32) (h : MH) : Prop :=
  wp_Co_listBelow_81 K40 Post l0 l1 l2 l3 l4 l6 l7 l8 (0 : Int32) h
def wb_Co_listBelow_40 (K40 : Nat → Nat → Nat → Int32 → Int32 → Int32 → Int32 → MH → Prop) (Post : MH → Prop) (l0 : Nat) (l1 : Nat) (l2 : Nat) (l3 : Int32) (l4 : Int32) (l6 : Int32) (l7 : Int32) (h : MH) : Prop :=
  ((l6 < l7) →
    (Post h)) ∧
  ((¬ l6 < l7) →
    (wp_Br_pack (fun (r52 : Int32) (h52 : MH) =>
        (gC h52 l1 = some 0 ∧ wp_Ch_takes (fun (r60 : Int32) (h60 : MH) =>
            (((r60 = 0) →
                (wp_Co_listBelow_80 K40 Post l0 l1 l2 l3 l4 l6 l7 r52 h60)) ∧
              ((¬ r60 = 0) →
                (gC h60 l2 = some 3 ∧ wp_Ru_ofVoicing (fun (r70 : Int32) (h70 : MH) =>
                    (((¬ r70 = 0) →
                        (wp_Co_listBelow_80 K40 Post l0 l1 l2 l3 l4 l6 l7 r52 h70)) ∧
                      ((r70 = 0) →
                        (wp_Co_listBelow_81 K40 Post l0 l1 l2 l3 l4 l6 l7 r52 (1 : Int32) h70)))) l2 l1 r52 h60)))) l1 l7 h52)) l3 l4 l7 h))
def wn_Co_listBelow_40 (Post : MH → Prop) : Nat → Nat → Nat → Nat → Int32 → Int32 → Int32 → Int32 → MH → Prop
  | 0 => fun _ _ _ _ _ _ _ _ => False
  | n + 1 => wb_Co_listBelow_40 (wn_Co_listBelow_40 Post n) Post
def wp_Co_listBelow_40 (Post : MH → Prop) (l0 : Nat) (l1 : Nat) (l2 : Nat) (l3 : Int32) (l4 : Int32) (l6 : Int32) (l7 : Int32) (h : MH) : Prop := ∃ n, wn_Co_listBelow_40 Post n l0 l1 l2 l3 l4 l6 l7 h
def wp_Co_listBelow (Post : MH → Prop) (l0 : Nat) (l1 : Nat) (l2 : Nat) (l3 : Int32) (l4 : Int32) (h : MH) : Prop :=
  ∃ x1 : Int32, gF h l1 0 1 = some (.inl x1) ∧
  (∃ x10 : Nat, gF h l2 3 0 = some (.inr (some x10)) ∧
    (∃ (n14 : Nat) (f14 : Nat → Int32), gA h x10 0 = some (n14, f14) ∧ vp_in (2 : Int32) n14 ∧
      (∀ z21 : Int32, z21 = (if x1 < (if (l4 - (12 : Int32)) < (f14 ((2 : Int32)).toNatClampNeg) then (f14 ((2 : Int32)).toNatClampNeg) else (l4 - (12 : Int32))) then (if (l4 - (12 : Int32)) < (f14 ((2 : Int32)).toNatClampNeg) then (f14 ((2 : Int32)).toNatClampNeg) else (l4 - (12 : Int32))) else x1) →
        (∃ x26 : Nat, gF h l2 3 1 = some (.inr (some x26)) ∧
          (∃ (n30 : Nat) (f30 : Nat → Int32), gA h x26 0 = some (n30, f30) ∧ vp_in (2 : Int32) n30 ∧
            (∀ z34 : Int32, z34 = (if (f30 ((2 : Int32)).toNatClampNeg) < l4 then (f30 ((2 : Int32)).toNatClampNeg) else l4) →
              (wp_Co_listBelow_40 Post l0 l1 l2 l3 l4 z34 z21 h)))))))
set_option maxRecDepth 100000 in
set_option maxHeartbeats 4000000 in
theorem t_Co_listBelow_118 {p : Program} {l : Launch} {e : Env} {R : Room} {s : State} {m : MethodId} {args : Array Value} {below : List Frame} {meth : Method} {c : Code} (G : mG) (C0 : Cx G p s m args c prog_3_method_3_code 10 "BassRealiser$Column") (hR : 3 ≤ R.frames ∧ 74 ≤ R.locals ∧ 0 ≤ R.cells ∧ 0 ≤ R.slots) (hr : meth.sig.returnType = none) (hlk : meth.locks = false) {Post : MH → Prop} {K40 : Nat → Nat → Nat → Int32 → Int32 → Int32 → Int32 → MH → Prop} (hK40 : ∀ (l0 : Nat) (l1 : Nat) (l2 : Nat) (l3 : Int32) (l4 : Int32) (l6 : Int32) (l7 : Int32) (h : MH), K40 l0 l1 l2 l3 l4 l6 l7 h → WG p l e R s m args below meth c 0 0 (MQ below (va_Qv Post (Wd G) (mA G)) args s 0 0 (mA G)) G 10 [(0, .ref (m_b G + l0)), (1, .ref (m_b G + l1)), (2, .ref (m_b G + l2)), (3, .int l3), (4, .int l4), (6, .int l6), (7, .int l7)] 40 [] h) (l0 : Nat) (l1 : Nat) (l2 : Nat) (l3 : Int32) (l4 : Int32) (l6 : Int32) (l7 : Int32) (h : MH) (hwp : wp_Co_listBelow_118 K40 Post l0 l1 l2 l3 l4 l6 l7 h) : WG p l e R s m args below meth c 0 0 (MQ below (va_Qv Post (Wd G) (mA G)) args s 0 0 (mA G)) G 10 [(0, .ref (m_b G + l0)), (1, .ref (m_b G + l1)), (2, .ref (m_b G + l2)), (3, .int l3), (4, .int l4), (6, .int l6), (7, .int l7)] 118 [] h := by
  unfold wp_Co_listBelow_118 at hwp
  refine x_iinc C0 6 d_Co_listBelow_118 rfl rfl (by decide) (lv' := [(7, .int (l7 + (1 : Int32))), (0, .ref (m_b G + l0)), (1, .ref (m_b G + l1)), (2, .ref (m_b G + l2)), (3, .int l3), (4, .int l4), (6, .int l6)]) rfl ?_
  refine x_goto (tgt := 40) C0 d_Co_listBelow_121 (by decide) ?_
  exact x_sub [1, 2, 3, 4, 5, 6, 0] rfl (hK40 _ _ _ _ _ _ _ _ hwp)
set_option maxRecDepth 100000 in
set_option maxHeartbeats 4000000 in
theorem t_Co_listBelow_81 {p : Program} {l : Launch} {e : Env} {R : Room} {s : State} {m : MethodId} {args : Array Value} {below : List Frame} {meth : Method} {c : Code} (G : mG) (C0 : Cx G p s m args c prog_3_method_3_code 10 "BassRealiser$Column") (hR : 3 ≤ R.frames ∧ 74 ≤ R.locals ∧ 0 ≤ R.cells ∧ 0 ≤ R.slots) (hr : meth.sig.returnType = none) (hlk : meth.locks = false) {Post : MH → Prop} {K40 : Nat → Nat → Nat → Int32 → Int32 → Int32 → Int32 → MH → Prop} (hK40 : ∀ (l0 : Nat) (l1 : Nat) (l2 : Nat) (l3 : Int32) (l4 : Int32) (l6 : Int32) (l7 : Int32) (h : MH), K40 l0 l1 l2 l3 l4 l6 l7 h → WG p l e R s m args below meth c 0 0 (MQ below (va_Qv Post (Wd G) (mA G)) args s 0 0 (mA G)) G 10 [(0, .ref (m_b G + l0)), (1, .ref (m_b G + l1)), (2, .ref (m_b G + l2)), (3, .int l3), (4, .int l4), (6, .int l6), (7, .int l7)] 40 [] h) (l0 : Nat) (l1 : Nat) (l2 : Nat) (l3 : Int32) (l4 : Int32) (l6 : Int32) (l7 : Int32) (l8 : Int32) (y0 : Int32) (h : MH) (hwp : wp_Co_listBelow_81 K40 Post l0 l1 l2 l3 l4 l6 l7 l8 y0 h) : WG p l e R s m args below meth c 0 0 (MQ below (va_Qv Post (Wd G) (mA G)) args s 0 0 (mA G)) G 10 [(0, .ref (m_b G + l0)), (1, .ref (m_b G + l1)), (2, .ref (m_b G + l2)), (3, .int l3), (4, .int l4), (6, .int l6), (7, .int l7), (8, .int l8)] 81 [.int y0] h := by
  unfold wp_Co_listBelow_81 at hwp
  refine x_istore C0 d_Co_listBelow_81 (by decide) (lv' := [(9, .int y0), (0, .ref (m_b G + l0)), (1, .ref (m_b G + l1)), (2, .ref (m_b G + l2)), (3, .int l3), (4, .int l4), (6, .int l6), (7, .int l7), (8, .int l8)]) rfl ?_
  refine x_iload C0 0 d_Co_listBelow_83 rfl ?_
  refine x_if_eq (tgt := 118) C0 d_Co_listBelow_85 (by decide) (fun c85 => ?_) (fun c85 => ?_)
  · replace hwp := hwp.1 c85
    exact x_sub [1, 2, 3, 4, 5, 6, 7] rfl (t_Co_listBelow_118 G C0 hR hr hlk hK40 _ _ _ _ _ _ _ _ hwp)
  · replace hwp := hwp.2 c85
    refine x_aload_n C0 1 d_Co_listBelow_88 rfl rfl ?_
    obtain ⟨x89, e89, hwp⟩ := hwp
    refine x_getI C0 fk_Co_25 e89 d_Co_listBelow_89 ?_
    refine x_bipush (v := 112) C0 d_Co_listBelow_92 (by decide) ?_
    refine x_icmp_ge (tgt := 118) C0 d_Co_listBelow_94 (by decide) (fun c94 => ?_) (fun c94 => ?_)
    · replace hwp := hwp.1 c94
      exact x_sub [1, 2, 3, 4, 5, 6, 7] rfl (t_Co_listBelow_118 G C0 hR hr hlk hK40 _ _ _ _ _ _ _ _ hwp)
    · replace hwp := hwp.2 c94
      refine x_aload_n C0 1 d_Co_listBelow_97 rfl rfl ?_
      obtain ⟨x98, e98, hwp⟩ := hwp
      refine x_getR C0 fk_Co_11 e98 d_Co_listBelow_98 ?_
      refine x_aload_n C0 1 d_Co_listBelow_101 rfl rfl ?_
      obtain ⟨x102, e102, hwp⟩ := hwp
      refine x_getI C0 fk_Co_25 e102 d_Co_listBelow_102 ?_
      refine x_iload C0 8 d_Co_listBelow_105 rfl ?_
      obtain ⟨n107, f107, e107, i107, hwp⟩ := hwp
      refine x_iast C0 e107 i107 d_Co_listBelow_107 ?_
      refine x_nh (fun h107 eh107 => ?_)
      replace hwp := hwp h107 eh107
      refine x_aload_n C0 1 d_Co_listBelow_108 rfl rfl ?_
      refine x_dup C0 d_Co_listBelow_109 rfl ?_
      obtain ⟨x110, e110, hwp⟩ := hwp
      refine x_getI C0 fk_Co_25 e110 d_Co_listBelow_110 ?_
      refine x_iconst (v := 1) C0 d_Co_listBelow_113 (by decide) ?_
      refine x_iadd C0 d_Co_listBelow_114 ?_
      obtain ⟨⟨o115, e115⟩, hwp⟩ := hwp
      refine x_put (x := (.inl (x110 + (1 : Int32)) : MV)) C0 pk_Co_25 e115 rfl rfl d_Co_listBelow_115 ?_
      refine x_nh (fun h115 eh115 => ?_)
      replace hwp := hwp h115 eh115
      exact x_sub [1, 2, 3, 4, 5, 6, 7] rfl (t_Co_listBelow_118 G C0 hR hr hlk hK40 _ _ _ _ _ _ _ _ hwp)
set_option maxRecDepth 100000 in
set_option maxHeartbeats 4000000 in
theorem t_Co_listBelow_80 {p : Program} {l : Launch} {e : Env} {R : Room} {s : State} {m : MethodId} {args : Array Value} {below : List Frame} {meth : Method} {c : Code} (G : mG) (C0 : Cx G p s m args c prog_3_method_3_code 10 "BassRealiser$Column") (hR : 3 ≤ R.frames ∧ 74 ≤ R.locals ∧ 0 ≤ R.cells ∧ 0 ≤ R.slots) (hr : meth.sig.returnType = none) (hlk : meth.locks = false) {Post : MH → Prop} {K40 : Nat → Nat → Nat → Int32 → Int32 → Int32 → Int32 → MH → Prop} (hK40 : ∀ (l0 : Nat) (l1 : Nat) (l2 : Nat) (l3 : Int32) (l4 : Int32) (l6 : Int32) (l7 : Int32) (h : MH), K40 l0 l1 l2 l3 l4 l6 l7 h → WG p l e R s m args below meth c 0 0 (MQ below (va_Qv Post (Wd G) (mA G)) args s 0 0 (mA G)) G 10 [(0, .ref (m_b G + l0)), (1, .ref (m_b G + l1)), (2, .ref (m_b G + l2)), (3, .int l3), (4, .int l4), (6, .int l6), (7, .int l7)] 40 [] h) (l0 : Nat) (l1 : Nat) (l2 : Nat) (l3 : Int32) (l4 : Int32) (l6 : Int32) (l7 : Int32) (l8 : Int32) (h : MH) (hwp : wp_Co_listBelow_80 K40 Post l0 l1 l2 l3 l4 l6 l7 l8 h) : WG p l e R s m args below meth c 0 0 (MQ below (va_Qv Post (Wd G) (mA G)) args s 0 0 (mA G)) G 10 [(0, .ref (m_b G + l0)), (1, .ref (m_b G + l1)), (2, .ref (m_b G + l2)), (3, .int l3), (4, .int l4), (6, .int l6), (7, .int l7), (8, .int l8)] 80 [] h := by
  unfold wp_Co_listBelow_80 at hwp
  refine x_iconst (v := 0) C0 d_Co_listBelow_80 (by decide) ?_
  exact x_sub [0, 1, 2, 3, 4, 5, 6, 7] rfl (t_Co_listBelow_81 G C0 hR hr hlk hK40 _ _ _ _ _ _ _ _ _ _ hwp)
set_option maxRecDepth 100000 in
set_option maxHeartbeats 4000000 in
theorem tb_Co_listBelow_40 {p : Program} {l : Launch} {e : Env} {R : Room} {s : State} {m : MethodId} {args : Array Value} {below : List Frame} {meth : Method} {c : Code} (G : mG) (C0 : Cx G p s m args c prog_3_method_3_code 10 "BassRealiser$Column") (hR : 3 ≤ R.frames ∧ 74 ≤ R.locals ∧ 0 ≤ R.cells ∧ 0 ≤ R.slots) (hr : meth.sig.returnType = none) (hlk : meth.locks = false) {Post : MH → Prop} {K40 : Nat → Nat → Nat → Int32 → Int32 → Int32 → Int32 → MH → Prop} (hK40 : ∀ (l0 : Nat) (l1 : Nat) (l2 : Nat) (l3 : Int32) (l4 : Int32) (l6 : Int32) (l7 : Int32) (h : MH), K40 l0 l1 l2 l3 l4 l6 l7 h → WG p l e R s m args below meth c 0 0 (MQ below (va_Qv Post (Wd G) (mA G)) args s 0 0 (mA G)) G 10 [(0, .ref (m_b G + l0)), (1, .ref (m_b G + l1)), (2, .ref (m_b G + l2)), (3, .int l3), (4, .int l4), (6, .int l6), (7, .int l7)] 40 [] h) (l0 : Nat) (l1 : Nat) (l2 : Nat) (l3 : Int32) (l4 : Int32) (l6 : Int32) (l7 : Int32) (h : MH) (hwp : wb_Co_listBelow_40 K40 Post l0 l1 l2 l3 l4 l6 l7 h) : WG p l e R s m args below meth c 0 0 (MQ below (va_Qv Post (Wd G) (mA G)) args s 0 0 (mA G)) G 10 [(0, .ref (m_b G + l0)), (1, .ref (m_b G + l1)), (2, .ref (m_b G + l2)), (3, .int l3), (4, .int l4), (6, .int l6), (7, .int l7)] 40 [] h := by
  unfold wb_Co_listBelow_40 at hwp
  refine x_iload C0 6 d_Co_listBelow_40 rfl ?_
  refine x_iload C0 5 d_Co_listBelow_42 rfl ?_
  refine x_icmp_gt (tgt := 124) C0 d_Co_listBelow_44 (by decide) (fun c44 => ?_) (fun c44 => ?_)
  · replace hwp := hwp.1 c44
    exact x_vret C0 hr hlk hwp d_Co_listBelow_124
  · replace hwp := hwp.2 c44
    refine x_iload_n C0 3 d_Co_listBelow_47 rfl rfl ?_
    refine x_iload C0 4 d_Co_listBelow_48 rfl ?_
    refine x_iload C0 6 d_Co_listBelow_50 rfl ?_
    refine x_callSNi0 (As := [.int l3, .int l4, .int l7]) (st := []) C0 (c_Br_pack l G hwp) (m_nwA C0 nw_5) mk_Br_pack kw_2_151 rfl (Nat.le_of_ble_eq_true rfl) rfl rfl ⟨Nat.le_trans (by decide) hR.1, Nat.le_trans (by decide) hR.2.1⟩ ⟨Nat.zero_le _, Nat.zero_le _⟩ rfl d_Co_listBelow_52 (fun r52 h52 hwp => ?_)
    refine x_istore C0 d_Co_listBelow_55 (by decide) (lv' := [(8, .int r52), (0, .ref (m_b G + l0)), (1, .ref (m_b G + l1)), (2, .ref (m_b G + l2)), (3, .int l3), (4, .int l4), (6, .int l6), (7, .int l7)]) rfl ?_
    refine x_aload_n C0 2 d_Co_listBelow_57 rfl rfl ?_
    refine x_iload C0 7 d_Co_listBelow_58 rfl ?_
    obtain ⟨g60, hwp⟩ := hwp
    refine x_callVi0 (k := l1) (As := [.int l7]) (st := []) C0 (c_Ch_takes l G hwp) kw_2_138 mk_Ch_takes vk_Ch_takes rfl g60 rfl (Nat.le_of_ble_eq_true rfl) rfl rfl ⟨Nat.le_trans (by decide) hR.1, Nat.le_trans (by decide) hR.2.1⟩ ⟨Nat.zero_le _, Nat.zero_le _⟩ rfl d_Co_listBelow_60 (fun r60 h60 hwp => ?_)
    refine x_if_eq (tgt := 80) C0 d_Co_listBelow_63 (by decide) (fun c63 => ?_) (fun c63 => ?_)
    · replace hwp := hwp.1 c63
      exact x_sub [1, 2, 3, 4, 5, 6, 7, 0] rfl (t_Co_listBelow_80 G C0 hR hr hlk hK40 _ _ _ _ _ _ _ _ _ hwp)
    · replace hwp := hwp.2 c63
      refine x_aload_n C0 3 d_Co_listBelow_66 rfl rfl ?_
      refine x_aload_n C0 2 d_Co_listBelow_67 rfl rfl ?_
      refine x_iload C0 0 d_Co_listBelow_68 rfl ?_
      obtain ⟨g70, hwp⟩ := hwp
      refine x_callVi0 (k := l2) (As := [.ref (m_b G + l1), .int r52]) (st := []) C0 (c_Ru_ofVoicing l G hwp) kw_2_153 mk_Ru_ofVoicing vk_Ru_ofVoicing rfl g70 rfl (Nat.le_of_ble_eq_true rfl) rfl rfl ⟨Nat.le_trans (by decide) hR.1, Nat.le_trans (by decide) hR.2.1⟩ ⟨Nat.zero_le _, Nat.zero_le _⟩ rfl d_Co_listBelow_70 (fun r70 h70 hwp => ?_)
      refine x_if_ne (tgt := 80) C0 d_Co_listBelow_73 (by decide) (fun c73 => ?_) (fun c73 => ?_)
      · replace hwp := hwp.1 c73
        exact x_sub [1, 2, 3, 4, 5, 6, 7, 0] rfl (t_Co_listBelow_80 G C0 hR hr hlk hK40 _ _ _ _ _ _ _ _ _ hwp)
      · replace hwp := hwp.2 c73
        refine x_iconst (v := 1) C0 d_Co_listBelow_76 (by decide) ?_
        refine x_goto (tgt := 81) C0 d_Co_listBelow_77 (by decide) ?_
        exact x_sub [1, 2, 3, 4, 5, 6, 7, 0] rfl (t_Co_listBelow_81 G C0 hR hr hlk hK40 _ _ _ _ _ _ _ _ _ _ hwp)
theorem t_Co_listBelow_40 {p : Program} {l : Launch} {e : Env} {R : Room} {s : State} {m : MethodId} {args : Array Value} {below : List Frame} {meth : Method} {c : Code} (G : mG) (C0 : Cx G p s m args c prog_3_method_3_code 10 "BassRealiser$Column") (hR : 3 ≤ R.frames ∧ 74 ≤ R.locals ∧ 0 ≤ R.cells ∧ 0 ≤ R.slots) (hr : meth.sig.returnType = none) (hlk : meth.locks = false) {Post : MH → Prop} (l0 : Nat) (l1 : Nat) (l2 : Nat) (l3 : Int32) (l4 : Int32) (l6 : Int32) (l7 : Int32) (h : MH) (hwp : wp_Co_listBelow_40 Post l0 l1 l2 l3 l4 l6 l7 h) : WG p l e R s m args below meth c 0 0 (MQ below (va_Qv Post (Wd G) (mA G)) args s 0 0 (mA G)) G 10 [(0, .ref (m_b G + l0)), (1, .ref (m_b G + l1)), (2, .ref (m_b G + l2)), (3, .int l3), (4, .int l4), (6, .int l6), (7, .int l7)] 40 [] h := by
  obtain ⟨n, hwp⟩ := hwp
  induction n generalizing l0 l1 l2 l3 l4 l6 l7 h with
  | zero => exact False.elim hwp
  | succ n ih => exact tb_Co_listBelow_40 G C0 hR hr hlk (fun l0 l1 l2 l3 l4 l6 l7 h hwp => ih l0 l1 l2 l3 l4 l6 l7 h hwp) l0 l1 l2 l3 l4 l6 l7 h hwp
set_option maxRecDepth 100000 in
set_option maxHeartbeats 4000000 in
theorem t_Co_listBelow {p : Program} {l : Launch} {e : Env} {R : Room} {s : State} {m : MethodId} {args : Array Value} {below : List Frame} {meth : Method} {c : Code} (G : mG) (C0 : Cx G p s m args c prog_3_method_3_code 10 "BassRealiser$Column") (hR : 3 ≤ R.frames ∧ 74 ≤ R.locals ∧ 0 ≤ R.cells ∧ 0 ≤ R.slots) (hr : meth.sig.returnType = none) (hlk : meth.locks = false) {Post : MH → Prop} (l0 : Nat) (l1 : Nat) (l2 : Nat) (l3 : Int32) (l4 : Int32) (h : MH) (hwp : wp_Co_listBelow Post l0 l1 l2 l3 l4 h) : WG p l e R s m args below meth c 0 0 (MQ below (va_Qv Post (Wd G) (mA G)) args s 0 0 (mA G)) G 10 [(0, .ref (m_b G + l0)), (1, .ref (m_b G + l1)), (2, .ref (m_b G + l2)), (3, .int l3), (4, .int l4)] 0 [] h := by
  unfold wp_Co_listBelow at hwp
  refine x_aload_n C0 1 d_Co_listBelow_0 rfl rfl ?_
  obtain ⟨x1, e1, hwp⟩ := hwp
  refine x_getI C0 fk_Co_60 e1 d_Co_listBelow_1 ?_
  refine x_iload C0 4 d_Co_listBelow_4 rfl ?_
  refine x_bipush (v := 12) C0 d_Co_listBelow_6 (by decide) ?_
  refine x_isub C0 d_Co_listBelow_8 ?_
  refine x_aload_n C0 2 d_Co_listBelow_9 rfl rfl ?_
  obtain ⟨x10, e10, hwp⟩ := hwp
  refine x_getR C0 fk_Co_29 e10 d_Co_listBelow_10 ?_
  refine x_iconst (v := 2) C0 d_Co_listBelow_13 (by decide) ?_
  obtain ⟨n14, f14, e14, i14, hwp⟩ := hwp
  refine x_iald C0 e14 i14 d_Co_listBelow_14 ?_
  refine x_mmax C0 kw_2_143 kw_2_144 kw_1_8 kw_2_145 d_Co_listBelow_15 ⟨Nat.le_trans (by decide) hR.1, Nat.le_trans (by decide) hR.2.1⟩ ⟨Nat.zero_le _, Nat.zero_le _⟩ (Nat.le_of_ble_eq_true rfl) ?_
  refine x_mmax C0 kw_2_143 kw_2_144 kw_1_8 kw_2_145 d_Co_listBelow_18 ⟨Nat.le_trans (by decide) hR.1, Nat.le_trans (by decide) hR.2.1⟩ ⟨Nat.zero_le _, Nat.zero_le _⟩ (Nat.le_of_ble_eq_true rfl) ?_
  refine x_topI (fun z21 e21 => ?_)
  replace hwp := hwp z21 e21
  refine x_istore C0 d_Co_listBelow_21 (by decide) (lv' := [(5, .int z21), (0, .ref (m_b G + l0)), (1, .ref (m_b G + l1)), (2, .ref (m_b G + l2)), (3, .int l3), (4, .int l4)]) rfl ?_
  refine x_iload C0 5 d_Co_listBelow_23 rfl ?_
  refine x_aload_n C0 3 d_Co_listBelow_25 rfl rfl ?_
  obtain ⟨x26, e26, hwp⟩ := hwp
  refine x_getR C0 fk_Co_34 e26 d_Co_listBelow_26 ?_
  refine x_iconst (v := 2) C0 d_Co_listBelow_29 (by decide) ?_
  obtain ⟨n30, f30, e30, i30, hwp⟩ := hwp
  refine x_iald C0 e30 i30 d_Co_listBelow_30 ?_
  refine x_mmin C0 kw_2_142 kw_2_24 kw_1_8 kw_2_25 d_Co_listBelow_31 ⟨Nat.le_trans (by decide) hR.1, Nat.le_trans (by decide) hR.2.1⟩ ⟨Nat.zero_le _, Nat.zero_le _⟩ (Nat.le_of_ble_eq_true rfl) ?_
  refine x_topI (fun z34 e34 => ?_)
  replace hwp := hwp z34 e34
  refine x_istore C0 d_Co_listBelow_34 (by decide) (lv' := [(6, .int z34), (5, .int z21), (0, .ref (m_b G + l0)), (1, .ref (m_b G + l1)), (2, .ref (m_b G + l2)), (3, .int l3), (4, .int l4)]) rfl ?_
  refine x_iload C0 1 d_Co_listBelow_36 rfl ?_
  refine x_istore C0 d_Co_listBelow_38 (by decide) (lv' := [(7, .int z21), (6, .int z34), (5, .int z21), (0, .ref (m_b G + l0)), (1, .ref (m_b G + l1)), (2, .ref (m_b G + l2)), (3, .int l3), (4, .int l4)]) rfl ?_
  exact x_sub [3, 4, 5, 6, 7, 1, 0] rfl (t_Co_listBelow_40 G C0 hR hr hlk  _ _ _ _ _ _ _ _ hwp)
set_option maxRecDepth 100000 in
set_option maxHeartbeats 4000000 in
theorem c_Co_listBelow (l : Launch) (G : mG) {Post : MH → Prop} {l0 : Nat} {l1 : Nat} {l2 : Nat} {l3 : Int32} {l4 : Int32} {h : MH} (hwp : wp_Co_listBelow Post l0 l1 l2 l3 l4 h) : Met l y_Co_listBelow (Cond.code y_Co_listBelow prog_3_method_3_code 10 (Option.none : Option Jvm.ClassFile.FieldType) :: lw_good) ({ frames := 3, cells := 0, slots := 0, locals := 74 }) (va_Pc [.ref (m_b G + l0), .ref (m_b G + l1), .ref (m_b G + l2), .int l3, .int l4] (Wd G h)) (va_Qv Post (Wd G) (mA G)) 0 0 (mA G) := by
  refine Met.ofW (cc := prog_3_method_3_code) (maxL := 10) (ret := (Option.none : Option Jvm.ClassFile.FieldType)) (by decide +kernel) rfl ?_
  intro p e s m args below meth c s₁ B hml hv
  obtain ⟨rfl, hP, hz, hK, hSt⟩ := hv
  have hts := atoms_spec (ws := Cond.code y_Co_listBelow prog_3_method_3_code 10 (Option.none : Option Jvm.ClassFile.FieldType) :: lw_good) B.pre
  have C0 : Cx G p s m ([.ref (m_b G + l0), .ref (m_b G + l1), .ref (m_b G + l2), .int l3, .int l4] : List Value).toArray c prog_3_method_3_code 10 "BassRealiser$Column" := ⟨⟨B.exec, B.bytes, hml, findClass_of_methodNamed B.named, fun w h => hts w (List.mem_cons_of_mem _ h)⟩, hK, hSt, by rw [hz]; exact Nat.le_add_right _ _⟩
  have hl := lv_entry ([.ref (m_b G + l0), .ref (m_b G + l1), .ref (m_b G + l2), .int l3, .int l4]) (n := 10) (Nat.le_of_ble_eq_true rfl)
  rw [lg_entry_eq]
  exact t_Co_listBelow G C0 ⟨Nat.le_refl _, Nat.le_refl _, Nat.le_refl _, Nat.le_refl _⟩ B.returns B.notSynchronized _ _ _ _ _ _ hwp _ _ _ ⟨hP, hz, va_S.rf⟩ hl
def wp_Co_list_91 (K12 : Nat → Nat → Nat → Int32 → MH → Prop) (Post : MH → Prop) (l0 : Nat) (l1 : Nat) (l2 : Nat) (l3 : Int32) (h : MH) : Prop :=
  K12 l0 l1 l2 (l3 + (1 : Int32)) h
def wp_Co_list_85 (K12 : Nat → Nat → Nat → Int32 → MH → Prop) (K60 : Nat → Nat → Nat → Int32 → Int32 → Int32 → MH → Prop) (Post : MH → Prop) (l0 : Nat) (l1 : Nat) (l2 : Nat) (l3 : Int32) (l4 : Int32) (l5 : Int32) (h : MH) : Prop :=
  K60 l0 l1 l2 l3 l4 (l5 + (1 : Int32)) h
def wb_Co_list_60 (K12 : Nat → Nat → Nat → Int32 → MH → Prop) (K60 : Nat → Nat → Nat → Int32 → Int32 → Int32 → MH → Prop) (Post : MH → Prop) (l0 : Nat) (l1 : Nat) (l2 : Nat) (l3 : Int32) (l4 : Int32) (l5 : Int32) (h : MH) : Prop :=
  ((l4 < l5) →
    (wp_Co_list_91 K12 Post l0 l1 l2 l3 h)) ∧
  ((¬ l4 < l5) →
    (gC h l1 = some 0 ∧ wp_Ch_takes (fun (r70 : Int32) (h70 : MH) =>
        (((r70 = 0) →
            (wp_Co_list_85 K12 K60 Post l0 l1 l2 l3 l4 l5 h70)) ∧
          ((¬ r70 = 0) →
            (gC h70 l0 = some 1 ∧ wp_Co_listBelow (fun (h82 : MH) =>
                (wp_Co_list_85 K12 K60 Post l0 l1 l2 l3 l4 l5 h82)) l0 l1 l2 l3 l5 h70)))) l1 l5 h))
def wn_Co_list_60 (K12 : Nat → Nat → Nat → Int32 → MH → Prop) (Post : MH → Prop) : Nat → Nat → Nat → Nat → Int32 → Int32 → Int32 → MH → Prop
  | 0 => fun _ _ _ _ _ _ _ => False
  | n + 1 => wb_Co_list_60 K12 (wn_Co_list_60 K12 Post n) Post
def wp_Co_list_60 (K12 : Nat → Nat → Nat → Int32 → MH → Prop) (Post : MH → Prop) (l0 : Nat) (l1 : Nat) (l2 : Nat) (l3 : Int32) (l4 : Int32) (l5 : Int32) (h : MH) : Prop := ∃ n, wn_Co_list_60 K12 Post n l0 l1 l2 l3 l4 l5 h
def wb_Co_list_12 (K12 : Nat → Nat → Nat → Int32 → MH → Prop) (Post : MH → Prop) (l0 : Nat) (l1 : Nat) (l2 : Nat) (l3 : Int32) (h : MH) : Prop :=
  ∃ x14 : Nat, gF h l2 3 1 = some (.inr (some x14)) ∧
  (∃ (n18 : Nat) (f18 : Nat → Int32), gA h x14 0 = some (n18, f18) ∧ vp_in (0 : Int32) n18 ∧
    ((((f18 ((0 : Int32)).toNatClampNeg) < l3) →
        ((∃ o : MV, gF h l0 1 5 = some o) ∧ ∀ h99 : MH, h99 = fset h l0 5 (.inl (1 : Int32) : MV) →
          (Post h99))) ∧
      ((¬ (f18 ((0 : Int32)).toNatClampNeg) < l3) →
        (gC h l1 = some 0 ∧ wp_Ch_takes (fun (r24 : Int32) (h24 : MH) =>
            (((¬ r24 = 0) →
                (∃ x35 : Nat, gF h24 l2 3 1 = some (.inr (some x35)) ∧
                  (∃ (n39 : Nat) (f39 : Nat → Int32), gA h24 x35 0 = some (n39, f39) ∧ vp_in (1 : Int32) n39 ∧
                    (∀ z43 : Int32, z43 = (if (f39 ((1 : Int32)).toNatClampNeg) < l3 then (f39 ((1 : Int32)).toNatClampNeg) else l3) →
                      (∃ x50 : Nat, gF h24 l2 3 0 = some (.inr (some x50)) ∧
                        (∃ (n54 : Nat) (f54 : Nat → Int32), gA h24 x50 0 = some (n54, f54) ∧ vp_in (1 : Int32) n54 ∧
                        (∀ z58 : Int32, z58 = (if (l3 - (12 : Int32)) < (f54 ((1 : Int32)).toNatClampNeg) then (f54 ((1 : Int32)).toNatClampNeg) else (l3 - (12 : Int32))) →
                        (wp_Co_list_60 K12 Post l0 l1 l2 l3 z43 z58 h24)))))))) ∧
              ((r24 = 0) →
                (wp_Co_list_91 K12 Post l0 l1 l2 l3 h24)))) l1 l3 h))))
def wn_Co_list_12 (Post : MH → Prop) : Nat → Nat → Nat → Nat → Int32 → MH → Prop
  | 0 => fun _ _ _ _ _ => False
  | n + 1 => wb_Co_list_12 (wn_Co_list_12 Post n) Post
def wp_Co_list_12 (Post : MH → Prop) (l0 : Nat) (l1 : Nat) (l2 : Nat) (l3 : Int32) (h : MH) : Prop := ∃ n, wn_Co_list_12 Post n l0 l1 l2 l3 h
def wp_Co_list (Post : MH → Prop) (l0 : Nat) (l1 : Nat) (l2 : Nat) (h : MH) : Prop :=
  (∃ o : MV, gF h l0 1 4 = some o) ∧ ∀ h2 : MH, h2 = fset h l0 4 (.inl (0 : Int32) : MV) →
  (∃ x6 : Nat, gF h2 l2 3 0 = some (.inr (some x6)) ∧
    (∃ (n10 : Nat) (f10 : Nat → Int32), gA h2 x6 0 = some (n10, f10) ∧ vp_in (0 : Int32) n10 ∧
      (∀ z11 : Int32, z11 = f10 ((0 : Int32)).toNatClampNeg →
        (wp_Co_list_12 Post l0 l1 l2 z11 h2))))
set_option maxRecDepth 100000 in
set_option maxHeartbeats 4000000 in
theorem t_Co_list_91 {p : Program} {l : Launch} {e : Env} {R : Room} {s : State} {m : MethodId} {args : Array Value} {below : List Frame} {meth : Method} {c : Code} (G : mG) (C0 : Cx G p s m args c prog_3_method_2_code 6 "BassRealiser$Column") (hR : 4 ≤ R.frames ∧ 103 ≤ R.locals ∧ 0 ≤ R.cells ∧ 0 ≤ R.slots) (hr : meth.sig.returnType = none) (hlk : meth.locks = false) {Post : MH → Prop} {K12 : Nat → Nat → Nat → Int32 → MH → Prop} (hK12 : ∀ (l0 : Nat) (l1 : Nat) (l2 : Nat) (l3 : Int32) (h : MH), K12 l0 l1 l2 l3 h → WG p l e R s m args below meth c 0 0 (MQ below (va_Qv Post (Wd G) (mA G)) args s 0 0 (mA G)) G 6 [(0, .ref (m_b G + l0)), (1, .ref (m_b G + l1)), (2, .ref (m_b G + l2)), (3, .int l3)] 12 [] h) (l0 : Nat) (l1 : Nat) (l2 : Nat) (l3 : Int32) (h : MH) (hwp : wp_Co_list_91 K12 Post l0 l1 l2 l3 h) : WG p l e R s m args below meth c 0 0 (MQ below (va_Qv Post (Wd G) (mA G)) args s 0 0 (mA G)) G 6 [(0, .ref (m_b G + l0)), (1, .ref (m_b G + l1)), (2, .ref (m_b G + l2)), (3, .int l3)] 91 [] h := by
  unfold wp_Co_list_91 at hwp
  refine x_iinc C0 3 d_Co_list_91 rfl rfl (by decide) (lv' := [(3, .int (l3 + (1 : Int32))), (0, .ref (m_b G + l0)), (1, .ref (m_b G + l1)), (2, .ref (m_b G + l2))]) rfl ?_
  refine x_goto (tgt := 12) C0 d_Co_list_94 (by decide) ?_
  exact x_sub [1, 2, 3, 0] rfl (hK12 _ _ _ _ _ hwp)
set_option maxRecDepth 100000 in
set_option maxHeartbeats 4000000 in
theorem t_Co_list_85 {p : Program} {l : Launch} {e : Env} {R : Room} {s : State} {m : MethodId} {args : Array Value} {below : List Frame} {meth : Method} {c : Code} (G : mG) (C0 : Cx G p s m args c prog_3_method_2_code 6 "BassRealiser$Column") (hR : 4 ≤ R.frames ∧ 103 ≤ R.locals ∧ 0 ≤ R.cells ∧ 0 ≤ R.slots) (hr : meth.sig.returnType = none) (hlk : meth.locks = false) {Post : MH → Prop} {K12 : Nat → Nat → Nat → Int32 → MH → Prop} {K60 : Nat → Nat → Nat → Int32 → Int32 → Int32 → MH → Prop} (hK12 : ∀ (l0 : Nat) (l1 : Nat) (l2 : Nat) (l3 : Int32) (h : MH), K12 l0 l1 l2 l3 h → WG p l e R s m args below meth c 0 0 (MQ below (va_Qv Post (Wd G) (mA G)) args s 0 0 (mA G)) G 6 [(0, .ref (m_b G + l0)), (1, .ref (m_b G + l1)), (2, .ref (m_b G + l2)), (3, .int l3)] 12 [] h) (hK60 : ∀ (l0 : Nat) (l1 : Nat) (l2 : Nat) (l3 : Int32) (l4 : Int32) (l5 : Int32) (h : MH), K60 l0 l1 l2 l3 l4 l5 h → WG p l e R s m args below meth c 0 0 (MQ below (va_Qv Post (Wd G) (mA G)) args s 0 0 (mA G)) G 6 [(0, .ref (m_b G + l0)), (1, .ref (m_b G + l1)), (2, .ref (m_b G + l2)), (3, .int l3), (4, .int l4), (5, .int l5)] 60 [] h) (l0 : Nat) (l1 : Nat) (l2 : Nat) (l3 : Int32) (l4 : Int32) (l5 : Int32) (h : MH) (hwp : wp_Co_list_85 K12 K60 Post l0 l1 l2 l3 l4 l5 h) : WG p l e R s m args below meth c 0 0 (MQ below (va_Qv Post (Wd G) (mA G)) args s 0 0 (mA G)) G 6 [(0, .ref (m_b G + l0)), (1, .ref (m_b G + l1)), (2, .ref (m_b G + l2)), (3, .int l3), (4, .int l4), (5, .int l5)] 85 [] h := by
  unfold wp_Co_list_85 at hwp
  refine x_iinc C0 5 d_Co_list_85 rfl rfl (by decide) (lv' := [(5, .int (l5 + (1 : Int32))), (0, .ref (m_b G + l0)), (1, .ref (m_b G + l1)), (2, .ref (m_b G + l2)), (3, .int l3), (4, .int l4)]) rfl ?_
  refine x_goto (tgt := 60) C0 d_Co_list_88 (by decide) ?_
  exact x_sub [1, 2, 3, 4, 5, 0] rfl (hK60 _ _ _ _ _ _ _ hwp)
set_option maxRecDepth 100000 in
set_option maxHeartbeats 4000000 in
theorem tb_Co_list_60 {p : Program} {l : Launch} {e : Env} {R : Room} {s : State} {m : MethodId} {args : Array Value} {below : List Frame} {meth : Method} {c : Code} (G : mG) (C0 : Cx G p s m args c prog_3_method_2_code 6 "BassRealiser$Column") (hR : 4 ≤ R.frames ∧ 103 ≤ R.locals ∧ 0 ≤ R.cells ∧ 0 ≤ R.slots) (hr : meth.sig.returnType = none) (hlk : meth.locks = false) {Post : MH → Prop} {K12 : Nat → Nat → Nat → Int32 → MH → Prop} {K60 : Nat → Nat → Nat → Int32 → Int32 → Int32 → MH → Prop} (hK12 : ∀ (l0 : Nat) (l1 : Nat) (l2 : Nat) (l3 : Int32) (h : MH), K12 l0 l1 l2 l3 h → WG p l e R s m args below meth c 0 0 (MQ below (va_Qv Post (Wd G) (mA G)) args s 0 0 (mA G)) G 6 [(0, .ref (m_b G + l0)), (1, .ref (m_b G + l1)), (2, .ref (m_b G + l2)), (3, .int l3)] 12 [] h) (hK60 : ∀ (l0 : Nat) (l1 : Nat) (l2 : Nat) (l3 : Int32) (l4 : Int32) (l5 : Int32) (h : MH), K60 l0 l1 l2 l3 l4 l5 h → WG p l e R s m args below meth c 0 0 (MQ below (va_Qv Post (Wd G) (mA G)) args s 0 0 (mA G)) G 6 [(0, .ref (m_b G + l0)), (1, .ref (m_b G + l1)), (2, .ref (m_b G + l2)), (3, .int l3), (4, .int l4), (5, .int l5)] 60 [] h) (l0 : Nat) (l1 : Nat) (l2 : Nat) (l3 : Int32) (l4 : Int32) (l5 : Int32) (h : MH) (hwp : wb_Co_list_60 K12 K60 Post l0 l1 l2 l3 l4 l5 h) : WG p l e R s m args below meth c 0 0 (MQ below (va_Qv Post (Wd G) (mA G)) args s 0 0 (mA G)) G 6 [(0, .ref (m_b G + l0)), (1, .ref (m_b G + l1)), (2, .ref (m_b G + l2)), (3, .int l3), (4, .int l4), (5, .int l5)] 60 [] h := by
  unfold wb_Co_list_60 at hwp
  refine x_iload C0 5 d_Co_list_60 rfl ?_
  refine x_iload C0 4 d_Co_list_62 rfl ?_
  refine x_icmp_gt (tgt := 91) C0 d_Co_list_64 (by decide) (fun c64 => ?_) (fun c64 => ?_)
  · replace hwp := hwp.1 c64
    exact x_sub [0, 1, 2, 3] rfl (t_Co_list_91 G C0 hR hr hlk hK12 _ _ _ _ _ hwp)
  · replace hwp := hwp.2 c64
    refine x_aload_n C0 1 d_Co_list_67 rfl rfl ?_
    refine x_iload C0 5 d_Co_list_68 rfl ?_
    obtain ⟨g70, hwp⟩ := hwp
    refine x_callVi0 (k := l1) (As := [.int l5]) (st := []) C0 (c_Ch_takes l G hwp) kw_2_138 mk_Ch_takes vk_Ch_takes rfl g70 rfl (Nat.le_of_ble_eq_true rfl) rfl rfl ⟨Nat.le_trans (by decide) hR.1, Nat.le_trans (by decide) hR.2.1⟩ ⟨Nat.zero_le _, Nat.zero_le _⟩ rfl d_Co_list_70 (fun r70 h70 hwp => ?_)
    refine x_if_eq (tgt := 85) C0 d_Co_list_73 (by decide) (fun c73 => ?_) (fun c73 => ?_)
    · replace hwp := hwp.1 c73
      exact x_sub [0, 1, 2, 3, 4, 5] rfl (t_Co_list_85 G C0 hR hr hlk hK12 hK60 _ _ _ _ _ _ _ hwp)
    · replace hwp := hwp.2 c73
      refine x_aload_n C0 0 d_Co_list_76 rfl rfl ?_
      refine x_aload_n C0 1 d_Co_list_77 rfl rfl ?_
      refine x_aload_n C0 2 d_Co_list_78 rfl rfl ?_
      refine x_iload_n C0 3 d_Co_list_79 rfl rfl ?_
      refine x_iload C0 5 d_Co_list_80 rfl ?_
      obtain ⟨g82, hwp⟩ := hwp
      refine x_callVv0 (k := l0) (As := [.ref (m_b G + l1), .ref (m_b G + l2), .int l3, .int l5]) (st := []) C0 (c_Co_listBelow l G hwp) kw_2_146 mk_Co_listBelow vk_Co_listBelow rfl g82 rfl (Nat.le_of_ble_eq_true rfl) rfl rfl ⟨Nat.le_trans (by decide) hR.1, Nat.le_trans (by decide) hR.2.1⟩ ⟨Nat.zero_le _, Nat.zero_le _⟩ rfl d_Co_list_82 (fun h82 hwp => ?_)
      exact x_sub [0, 1, 2, 3, 4, 5] rfl (t_Co_list_85 G C0 hR hr hlk hK12 hK60 _ _ _ _ _ _ _ hwp)
theorem t_Co_list_60 {p : Program} {l : Launch} {e : Env} {R : Room} {s : State} {m : MethodId} {args : Array Value} {below : List Frame} {meth : Method} {c : Code} (G : mG) (C0 : Cx G p s m args c prog_3_method_2_code 6 "BassRealiser$Column") (hR : 4 ≤ R.frames ∧ 103 ≤ R.locals ∧ 0 ≤ R.cells ∧ 0 ≤ R.slots) (hr : meth.sig.returnType = none) (hlk : meth.locks = false) {Post : MH → Prop} {K12 : Nat → Nat → Nat → Int32 → MH → Prop} (hK12 : ∀ (l0 : Nat) (l1 : Nat) (l2 : Nat) (l3 : Int32) (h : MH), K12 l0 l1 l2 l3 h → WG p l e R s m args below meth c 0 0 (MQ below (va_Qv Post (Wd G) (mA G)) args s 0 0 (mA G)) G 6 [(0, .ref (m_b G + l0)), (1, .ref (m_b G + l1)), (2, .ref (m_b G + l2)), (3, .int l3)] 12 [] h) (l0 : Nat) (l1 : Nat) (l2 : Nat) (l3 : Int32) (l4 : Int32) (l5 : Int32) (h : MH) (hwp : wp_Co_list_60 K12 Post l0 l1 l2 l3 l4 l5 h) : WG p l e R s m args below meth c 0 0 (MQ below (va_Qv Post (Wd G) (mA G)) args s 0 0 (mA G)) G 6 [(0, .ref (m_b G + l0)), (1, .ref (m_b G + l1)), (2, .ref (m_b G + l2)), (3, .int l3), (4, .int l4), (5, .int l5)] 60 [] h := by
  obtain ⟨n, hwp⟩ := hwp
  induction n generalizing l0 l1 l2 l3 l4 l5 h with
  | zero => exact False.elim hwp
  | succ n ih => exact tb_Co_list_60 G C0 hR hr hlk hK12 (fun l0 l1 l2 l3 l4 l5 h hwp => ih l0 l1 l2 l3 l4 l5 h hwp) l0 l1 l2 l3 l4 l5 h hwp
set_option maxRecDepth 100000 in
set_option maxHeartbeats 4000000 in
theorem tb_Co_list_12 {p : Program} {l : Launch} {e : Env} {R : Room} {s : State} {m : MethodId} {args : Array Value} {below : List Frame} {meth : Method} {c : Code} (G : mG) (C0 : Cx G p s m args c prog_3_method_2_code 6 "BassRealiser$Column") (hR : 4 ≤ R.frames ∧ 103 ≤ R.locals ∧ 0 ≤ R.cells ∧ 0 ≤ R.slots) (hr : meth.sig.returnType = none) (hlk : meth.locks = false) {Post : MH → Prop} {K12 : Nat → Nat → Nat → Int32 → MH → Prop} (hK12 : ∀ (l0 : Nat) (l1 : Nat) (l2 : Nat) (l3 : Int32) (h : MH), K12 l0 l1 l2 l3 h → WG p l e R s m args below meth c 0 0 (MQ below (va_Qv Post (Wd G) (mA G)) args s 0 0 (mA G)) G 6 [(0, .ref (m_b G + l0)), (1, .ref (m_b G + l1)), (2, .ref (m_b G + l2)), (3, .int l3)] 12 [] h) (l0 : Nat) (l1 : Nat) (l2 : Nat) (l3 : Int32) (h : MH) (hwp : wb_Co_list_12 K12 Post l0 l1 l2 l3 h) : WG p l e R s m args below meth c 0 0 (MQ below (va_Qv Post (Wd G) (mA G)) args s 0 0 (mA G)) G 6 [(0, .ref (m_b G + l0)), (1, .ref (m_b G + l1)), (2, .ref (m_b G + l2)), (3, .int l3)] 12 [] h := by
  unfold wb_Co_list_12 at hwp
  refine x_iload_n C0 3 d_Co_list_12 rfl rfl ?_
  refine x_aload_n C0 2 d_Co_list_13 rfl rfl ?_
  obtain ⟨x14, e14, hwp⟩ := hwp
  refine x_getR C0 fk_Co_34 e14 d_Co_list_14 ?_
  refine x_iconst (v := 0) C0 d_Co_list_17 (by decide) ?_
  obtain ⟨n18, f18, e18, i18, hwp⟩ := hwp
  refine x_iald C0 e18 i18 d_Co_list_18 ?_
  refine x_icmp_gt (tgt := 97) C0 d_Co_list_19 (by decide) (fun c19 => ?_) (fun c19 => ?_)
  · replace hwp := hwp.1 c19
    refine x_aload_n C0 0 d_Co_list_97 rfl rfl ?_
    refine x_iconst (v := 1) C0 d_Co_list_98 (by decide) ?_
    obtain ⟨⟨o99, e99⟩, hwp⟩ := hwp
    refine x_put (x := (.inl (1 : Int32) : MV)) C0 pk_Co_56 e99 rfl rfl d_Co_list_99 ?_
    refine x_nh (fun h99 eh99 => ?_)
    replace hwp := hwp h99 eh99
    exact x_vret C0 hr hlk hwp d_Co_list_102
  · replace hwp := hwp.2 c19
    refine x_aload_n C0 1 d_Co_list_22 rfl rfl ?_
    refine x_iload_n C0 3 d_Co_list_23 rfl rfl ?_
    obtain ⟨g24, hwp⟩ := hwp
    refine x_callVi0 (k := l1) (As := [.int l3]) (st := []) C0 (c_Ch_takes l G hwp) kw_2_138 mk_Ch_takes vk_Ch_takes rfl g24 rfl (Nat.le_of_ble_eq_true rfl) rfl rfl ⟨Nat.le_trans (by decide) hR.1, Nat.le_trans (by decide) hR.2.1⟩ ⟨Nat.zero_le _, Nat.zero_le _⟩ rfl d_Co_list_24 (fun r24 h24 hwp => ?_)
    refine x_if_ne (tgt := 33) C0 d_Co_list_27 (by decide) (fun c27 => ?_) (fun c27 => ?_)
    · replace hwp := hwp.1 c27
      refine x_iload_n C0 3 d_Co_list_33 rfl rfl ?_
      refine x_aload_n C0 2 d_Co_list_34 rfl rfl ?_
      obtain ⟨x35, e35, hwp⟩ := hwp
      refine x_getR C0 fk_Co_34 e35 d_Co_list_35 ?_
      refine x_iconst (v := 1) C0 d_Co_list_38 (by decide) ?_
      obtain ⟨n39, f39, e39, i39, hwp⟩ := hwp
      refine x_iald C0 e39 i39 d_Co_list_39 ?_
      refine x_mmin C0 kw_2_142 kw_2_24 kw_1_8 kw_2_25 d_Co_list_40 ⟨Nat.le_trans (by decide) hR.1, Nat.le_trans (by decide) hR.2.1⟩ ⟨Nat.zero_le _, Nat.zero_le _⟩ (Nat.le_of_ble_eq_true rfl) ?_
      refine x_topI (fun z43 e43 => ?_)
      replace hwp := hwp z43 e43
      refine x_istore C0 d_Co_list_43 (by decide) (lv' := [(4, .int z43), (0, .ref (m_b G + l0)), (1, .ref (m_b G + l1)), (2, .ref (m_b G + l2)), (3, .int l3)]) rfl ?_
      refine x_iload_n C0 4 d_Co_list_45 rfl rfl ?_
      refine x_bipush (v := 12) C0 d_Co_list_46 (by decide) ?_
      refine x_isub C0 d_Co_list_48 ?_
      refine x_aload_n C0 3 d_Co_list_49 rfl rfl ?_
      obtain ⟨x50, e50, hwp⟩ := hwp
      refine x_getR C0 fk_Co_29 e50 d_Co_list_50 ?_
      refine x_iconst (v := 1) C0 d_Co_list_53 (by decide) ?_
      obtain ⟨n54, f54, e54, i54, hwp⟩ := hwp
      refine x_iald C0 e54 i54 d_Co_list_54 ?_
      refine x_mmax C0 kw_2_143 kw_2_144 kw_1_8 kw_2_145 d_Co_list_55 ⟨Nat.le_trans (by decide) hR.1, Nat.le_trans (by decide) hR.2.1⟩ ⟨Nat.zero_le _, Nat.zero_le _⟩ (Nat.le_of_ble_eq_true rfl) ?_
      refine x_topI (fun z58 e58 => ?_)
      replace hwp := hwp z58 e58
      refine x_istore C0 d_Co_list_58 (by decide) (lv' := [(5, .int z58), (4, .int z43), (0, .ref (m_b G + l0)), (1, .ref (m_b G + l1)), (2, .ref (m_b G + l2)), (3, .int l3)]) rfl ?_
      exact x_sub [2, 3, 4, 5, 1, 0] rfl (t_Co_list_60 G C0 hR hr hlk hK12 _ _ _ _ _ _ _ hwp)
    · replace hwp := hwp.2 c27
      refine x_goto (tgt := 91) C0 d_Co_list_30 (by decide) ?_
      exact x_sub [0, 1, 2, 3] rfl (t_Co_list_91 G C0 hR hr hlk hK12 _ _ _ _ _ hwp)
theorem t_Co_list_12 {p : Program} {l : Launch} {e : Env} {R : Room} {s : State} {m : MethodId} {args : Array Value} {below : List Frame} {meth : Method} {c : Code} (G : mG) (C0 : Cx G p s m args c prog_3_method_2_code 6 "BassRealiser$Column") (hR : 4 ≤ R.frames ∧ 103 ≤ R.locals ∧ 0 ≤ R.cells ∧ 0 ≤ R.slots) (hr : meth.sig.returnType = none) (hlk : meth.locks = false) {Post : MH → Prop} (l0 : Nat) (l1 : Nat) (l2 : Nat) (l3 : Int32) (h : MH) (hwp : wp_Co_list_12 Post l0 l1 l2 l3 h) : WG p l e R s m args below meth c 0 0 (MQ below (va_Qv Post (Wd G) (mA G)) args s 0 0 (mA G)) G 6 [(0, .ref (m_b G + l0)), (1, .ref (m_b G + l1)), (2, .ref (m_b G + l2)), (3, .int l3)] 12 [] h := by
  obtain ⟨n, hwp⟩ := hwp
  induction n generalizing l0 l1 l2 l3 h with
  | zero => exact False.elim hwp
  | succ n ih => exact tb_Co_list_12 G C0 hR hr hlk (fun l0 l1 l2 l3 h hwp => ih l0 l1 l2 l3 h hwp) l0 l1 l2 l3 h hwp
set_option maxRecDepth 100000 in
set_option maxHeartbeats 4000000 in
theorem t_Co_list {p : Program} {l : Launch} {e : Env} {R : Room} {s : State} {m : MethodId} {args : Array Value} {below : List Frame} {meth : Method} {c : Code} (G : mG) (C0 : Cx G p s m args c prog_3_method_2_code 6 "BassRealiser$Column") (hR : 4 ≤ R.frames ∧ 103 ≤ R.locals ∧ 0 ≤ R.cells ∧ 0 ≤ R.slots) (hr : meth.sig.returnType = none) (hlk : meth.locks = false) {Post : MH → Prop} (l0 : Nat) (l1 : Nat) (l2 : Nat) (h : MH) (hwp : wp_Co_list Post l0 l1 l2 h) : WG p l e R s m args below meth c 0 0 (MQ below (va_Qv Post (Wd G) (mA G)) args s 0 0 (mA G)) G 6 [(0, .ref (m_b G + l0)), (1, .ref (m_b G + l1)), (2, .ref (m_b G + l2))] 0 [] h := by
  unfold wp_Co_list at hwp
  refine x_aload_n C0 0 d_Co_list_0 rfl rfl ?_
  refine x_iconst (v := 0) C0 d_Co_list_1 (by decide) ?_
  obtain ⟨⟨o2, e2⟩, hwp⟩ := hwp
  refine x_put (x := (.inl (0 : Int32) : MV)) C0 pk_Co_25 e2 rfl rfl d_Co_list_2 ?_
  refine x_nh (fun h2 eh2 => ?_)
  replace hwp := hwp h2 eh2
  refine x_aload_n C0 2 d_Co_list_5 rfl rfl ?_
  obtain ⟨x6, e6, hwp⟩ := hwp
  refine x_getR C0 fk_Co_29 e6 d_Co_list_6 ?_
  refine x_iconst (v := 0) C0 d_Co_list_9 (by decide) ?_
  obtain ⟨n10, f10, e10, i10, hwp⟩ := hwp
  refine x_iald C0 e10 i10 d_Co_list_10 ?_
  refine x_topI (fun z11 e11 => ?_)
  replace hwp := hwp z11 e11
  refine x_istore_n C0 d_Co_list_11 rfl (by decide) (lv' := [(3, .int z11), (0, .ref (m_b G + l0)), (1, .ref (m_b G + l1)), (2, .ref (m_b G + l2))]) rfl ?_
  exact x_sub [1, 2, 3, 0] rfl (t_Co_list_12 G C0 hR hr hlk  _ _ _ _ _ hwp)
set_option maxRecDepth 100000 in
set_option maxHeartbeats 4000000 in
theorem c_Co_list (l : Launch) (G : mG) {Post : MH → Prop} {l0 : Nat} {l1 : Nat} {l2 : Nat} {h : MH} (hwp : wp_Co_list Post l0 l1 l2 h) : Met l y_Co_list (Cond.code y_Co_list prog_3_method_2_code 6 (Option.none : Option Jvm.ClassFile.FieldType) :: lw_good) ({ frames := 4, cells := 0, slots := 0, locals := 103 }) (va_Pc [.ref (m_b G + l0), .ref (m_b G + l1), .ref (m_b G + l2)] (Wd G h)) (va_Qv Post (Wd G) (mA G)) 0 0 (mA G) := by
  refine Met.ofW (cc := prog_3_method_2_code) (maxL := 6) (ret := (Option.none : Option Jvm.ClassFile.FieldType)) (by decide +kernel) rfl ?_
  intro p e s m args below meth c s₁ B hml hv
  obtain ⟨rfl, hP, hz, hK, hSt⟩ := hv
  have hts := atoms_spec (ws := Cond.code y_Co_list prog_3_method_2_code 6 (Option.none : Option Jvm.ClassFile.FieldType) :: lw_good) B.pre
  have C0 : Cx G p s m ([.ref (m_b G + l0), .ref (m_b G + l1), .ref (m_b G + l2)] : List Value).toArray c prog_3_method_2_code 6 "BassRealiser$Column" := ⟨⟨B.exec, B.bytes, hml, findClass_of_methodNamed B.named, fun w h => hts w (List.mem_cons_of_mem _ h)⟩, hK, hSt, by rw [hz]; exact Nat.le_add_right _ _⟩
  have hl := lv_entry ([.ref (m_b G + l0), .ref (m_b G + l1), .ref (m_b G + l2)]) (n := 6) (Nat.le_of_ble_eq_true rfl)
  rw [lg_entry_eq]
  exact t_Co_list G C0 ⟨Nat.le_refl _, Nat.le_refl _, Nat.le_refl _, Nat.le_refl _⟩ B.returns B.notSynchronized _ _ _ _ hwp _ _ _ ⟨hP, hz, va_S.rf⟩ hl
def wp_Se_listed_31 (Post : Nat → MH → Prop) (l0 : Nat) (l1 : Int32) (h : MH) : Prop :=
  ∃ x32 : Nat, gF h l0 4 2 = some (.inr (some x32)) ∧
  (∃ (n36 : Nat) (f36 : Nat → Option Nat) (q36 : Nat), gR h x32 4 = some (n36, f36) ∧ vp_in l1 n36 ∧ f36 (l1).toNatClampNeg = some q36 ∧
    (Post q36 h))
def wp_Se_listed (Post : Nat → MH → Prop) (l0 : Nat) (l1 : Int32) (h : MH) : Prop :=
  ∃ x1 : Nat, gF h l0 4 2 = some (.inr (some x1)) ∧
  (∃ (n5 : Nat) (f5 : Nat → Option Nat) (q5 : Nat), gR h x1 4 = some (n5, f5) ∧ vp_in l1 n5 ∧ f5 (l1).toNatClampNeg = some q5 ∧
    (∃ x6 : Int32, gF h q5 1 5 = some (.inl x6) ∧
      (((¬ x6 = 0) →
          (wp_Se_listed_31 Post l0 l1 h)) ∧
        ((x6 = 0) →
          (∃ x13 : Nat, gF h l0 4 2 = some (.inr (some x13)) ∧
            (∃ (n17 : Nat) (f17 : Nat → Option Nat) (q17 : Nat), gR h x13 4 = some (n17, f17) ∧ vp_in l1 n17 ∧ f17 (l1).toNatClampNeg = some q17 ∧
              (∃ x19 : Nat, gF h l0 4 0 = some (.inr (some x19)) ∧
                (∃ (n23 : Nat) (f23 : Nat → Option Nat) (q23 : Nat), gR h x19 3 = some (n23, f23) ∧ vp_in l1 n23 ∧ f23 (l1).toNatClampNeg = some q23 ∧
                  (∃ x25 : Nat, gF h l0 4 1 = some (.inr (some x25)) ∧
                    (gC h q17 = some 1 ∧ wp_Co_list (fun (h28 : MH) =>
                        (wp_Se_listed_31 Post l0 l1 h28)) q17 q23 x25 h))))))))))
set_option maxRecDepth 100000 in
set_option maxHeartbeats 4000000 in
theorem t_Se_listed_31 {p : Program} {l : Launch} {e : Env} {R : Room} {s : State} {m : MethodId} {args : Array Value} {below : List Frame} {meth : Method} {c : Code} (G : mG) (C0 : Cx G p s m args c prog_6_method_5_code 2 "BassRealiser$Search") (hR : 5 ≤ R.frames ∧ 128 ≤ R.locals ∧ 0 ≤ R.cells ∧ 0 ≤ R.slots) (hr : meth.sig.returnType = some (.object "BassRealiser$Column")) (hlk : meth.locks = false) {Post : Nat → MH → Prop} (l0 : Nat) (l1 : Int32) (h : MH) (hwp : wp_Se_listed_31 Post l0 l1 h) : WG p l e R s m args below meth c 0 0 (MQ below (va_Qr (fun u : Nat × MH => Post u.1 u.2) (fun u a t => a = m_b G + u.1 ∧ Wd G u.2 t) (mA G)) args s 0 0 (mA G)) G 2 [(0, .ref (m_b G + l0)), (1, .int l1)] 31 [] h := by
  unfold wp_Se_listed_31 at hwp
  refine x_aload_n C0 0 d_Se_listed_31 rfl rfl ?_
  obtain ⟨x32, e32, hwp⟩ := hwp
  refine x_getR C0 fk_Se_26 e32 d_Se_listed_32 ?_
  refine x_iload_n C0 1 d_Se_listed_35 rfl rfl ?_
  obtain ⟨n36, f36, q36, e36, i36, g36, hwp⟩ := hwp
  refine x_aald (t := 4) C0 e36 rfl i36 g36 d_Se_listed_36 ?_
  exact x_aret C0 hr (by first | exact Or.inl ⟨_, rfl⟩ | exact Or.inr ⟨_, rfl⟩) hlk hwp d_Se_listed_37
set_option maxRecDepth 100000 in
set_option maxHeartbeats 4000000 in
theorem t_Se_listed {p : Program} {l : Launch} {e : Env} {R : Room} {s : State} {m : MethodId} {args : Array Value} {below : List Frame} {meth : Method} {c : Code} (G : mG) (C0 : Cx G p s m args c prog_6_method_5_code 2 "BassRealiser$Search") (hR : 5 ≤ R.frames ∧ 128 ≤ R.locals ∧ 0 ≤ R.cells ∧ 0 ≤ R.slots) (hr : meth.sig.returnType = some (.object "BassRealiser$Column")) (hlk : meth.locks = false) {Post : Nat → MH → Prop} (l0 : Nat) (l1 : Int32) (h : MH) (hwp : wp_Se_listed Post l0 l1 h) : WG p l e R s m args below meth c 0 0 (MQ below (va_Qr (fun u : Nat × MH => Post u.1 u.2) (fun u a t => a = m_b G + u.1 ∧ Wd G u.2 t) (mA G)) args s 0 0 (mA G)) G 2 [(0, .ref (m_b G + l0)), (1, .int l1)] 0 [] h := by
  unfold wp_Se_listed at hwp
  refine x_aload_n C0 0 d_Se_listed_0 rfl rfl ?_
  obtain ⟨x1, e1, hwp⟩ := hwp
  refine x_getR C0 fk_Se_26 e1 d_Se_listed_1 ?_
  refine x_iload_n C0 1 d_Se_listed_4 rfl rfl ?_
  obtain ⟨n5, f5, q5, e5, i5, g5, hwp⟩ := hwp
  refine x_aald (t := 4) C0 e5 rfl i5 g5 d_Se_listed_5 ?_
  obtain ⟨x6, e6, hwp⟩ := hwp
  refine x_getI C0 fk_Se_47 e6 d_Se_listed_6 ?_
  refine x_if_ne (tgt := 31) C0 d_Se_listed_9 (by decide) (fun c9 => ?_) (fun c9 => ?_)
  · replace hwp := hwp.1 c9
    exact x_sub [0, 1] rfl (t_Se_listed_31 G C0 hR hr hlk  _ _ _ hwp)
  · replace hwp := hwp.2 c9
    refine x_aload_n C0 0 d_Se_listed_12 rfl rfl ?_
    obtain ⟨x13, e13, hwp⟩ := hwp
    refine x_getR C0 fk_Se_26 e13 d_Se_listed_13 ?_
    refine x_iload_n C0 1 d_Se_listed_16 rfl rfl ?_
    obtain ⟨n17, f17, q17, e17, i17, g17, hwp⟩ := hwp
    refine x_aald (t := 4) C0 e17 rfl i17 g17 d_Se_listed_17 ?_
    refine x_aload_n C0 0 d_Se_listed_18 rfl rfl ?_
    obtain ⟨x19, e19, hwp⟩ := hwp
    refine x_getR C0 fk_Se_11 e19 d_Se_listed_19 ?_
    refine x_iload_n C0 1 d_Se_listed_22 rfl rfl ?_
    obtain ⟨n23, f23, q23, e23, i23, g23, hwp⟩ := hwp
    refine x_aald (t := 3) C0 e23 rfl i23 g23 d_Se_listed_23 ?_
    refine x_aload_n C0 0 d_Se_listed_24 rfl rfl ?_
    obtain ⟨x25, e25, hwp⟩ := hwp
    refine x_getR C0 fk_Se_20 e25 d_Se_listed_25 ?_
    obtain ⟨g28, hwp⟩ := hwp
    refine x_callVv0 (k := q17) (As := [.ref (m_b G + q23), .ref (m_b G + x25)]) (st := []) C0 (c_Co_list l G hwp) kw_2_134 mk_Co_list vk_Co_list rfl g28 rfl (Nat.le_of_ble_eq_true rfl) rfl rfl ⟨Nat.le_trans (by decide) hR.1, Nat.le_trans (by decide) hR.2.1⟩ ⟨Nat.zero_le _, Nat.zero_le _⟩ rfl d_Se_listed_28 (fun h28 hwp => ?_)
    exact x_sub [0, 1] rfl (t_Se_listed_31 G C0 hR hr hlk  _ _ _ hwp)
set_option maxRecDepth 100000 in
set_option maxHeartbeats 4000000 in
theorem c_Se_listed (l : Launch) (G : mG) {Post : Nat → MH → Prop} {l0 : Nat} {l1 : Int32} {h : MH} (hwp : wp_Se_listed Post l0 l1 h) : Met l y_Se_listed (Cond.code y_Se_listed prog_6_method_5_code 2 (Option.some (Jvm.ClassFile.FieldType.object "BassRealiser$Column")) :: lw_good) ({ frames := 5, cells := 0, slots := 0, locals := 128 }) (va_Pc [.ref (m_b G + l0), .int l1] (Wd G h)) (va_Qr (fun u : Nat × MH => Post u.1 u.2) (fun u a t => a = m_b G + u.1 ∧ Wd G u.2 t) (mA G)) 0 0 (mA G) := by
  refine Met.ofW (cc := prog_6_method_5_code) (maxL := 2) (ret := (Option.some (Jvm.ClassFile.FieldType.object "BassRealiser$Column"))) (by decide +kernel) rfl ?_
  intro p e s m args below meth c s₁ B hml hv
  obtain ⟨rfl, hP, hz, hK, hSt⟩ := hv
  have hts := atoms_spec (ws := Cond.code y_Se_listed prog_6_method_5_code 2 (Option.some (Jvm.ClassFile.FieldType.object "BassRealiser$Column")) :: lw_good) B.pre
  have C0 : Cx G p s m ([.ref (m_b G + l0), .int l1] : List Value).toArray c prog_6_method_5_code 2 "BassRealiser$Search" := ⟨⟨B.exec, B.bytes, hml, findClass_of_methodNamed B.named, fun w h => hts w (List.mem_cons_of_mem _ h)⟩, hK, hSt, by rw [hz]; exact Nat.le_add_right _ _⟩
  have hl := lv_entry ([.ref (m_b G + l0), .int l1]) (n := 2) (Nat.le_of_ble_eq_true rfl)
  rw [lg_entry_eq]
  exact t_Se_listed G C0 ⟨Nat.le_refl _, Nat.le_refl _, Nat.le_refl _, Nat.le_refl _⟩ B.returns B.notSynchronized _ _ _ hwp _ _ _ ⟨hP, hz, va_S.rf⟩ hl
