theorem d_Ch_toneLetter_0 : decode prog_2_method_10_code 0 = .ok (.aload_n 0, 1) := by decide +kernel
theorem d_Ch_toneLetter_1 : decode prog_2_method_10_code 1 = .ok (.getfield 22, 3) := by decide +kernel
theorem d_Ch_toneLetter_4 : decode prog_2_method_10_code 4 = .ok (.iload_n 1, 1) := by decide +kernel
theorem d_Ch_toneLetter_5 : decode prog_2_method_10_code 5 = .ok (.iadd, 1) := by decide +kernel
theorem d_Ch_toneLetter_6 : decode prog_2_method_10_code 6 = .ok (.iconst 1, 1) := by decide +kernel
theorem d_Ch_toneLetter_7 : decode prog_2_method_10_code 7 = .ok (.isub, 1) := by decide +kernel
theorem d_Ch_toneLetter_8 : decode prog_2_method_10_code 8 = .ok (.bipush 7, 2) := by decide +kernel
theorem d_Ch_toneLetter_10 : decode prog_2_method_10_code 10 = .ok (.irem, 1) := by decide +kernel
theorem d_Ch_toneLetter_11 : decode prog_2_method_10_code 11 = .ok (.ireturn, 1) := by decide +kernel
theorem d_Br_keyAlter_0 : decode prog_1_method_34_code 0 = .ok (.iload_n 1, 1) := by decide +kernel
theorem d_Br_keyAlter_1 : decode prog_1_method_34_code 1 = .ok (.ifCond .le 9, 3) := by decide +kernel
theorem d_Br_keyAlter_4 : decode prog_1_method_34_code 4 = .ok (.getstatic 198, 3) := by decide +kernel
theorem d_Br_keyAlter_7 : decode prog_1_method_34_code 7 = .ok (.goto 6, 3) := by decide +kernel
theorem d_Br_keyAlter_10 : decode prog_1_method_34_code 10 = .ok (.getstatic 201, 3) := by decide +kernel
theorem d_Br_keyAlter_13 : decode prog_1_method_34_code 13 = .ok (.astore_n 2, 1) := by decide +kernel
theorem d_Br_keyAlter_14 : decode prog_1_method_34_code 14 = .ok (.iload_n 1, 1) := by decide +kernel
theorem d_Br_keyAlter_15 : decode prog_1_method_34_code 15 = .ok (.invokestatic 204, 3) := by decide +kernel
theorem d_Br_keyAlter_18 : decode prog_1_method_34_code 18 = .ok (.aload_n 2, 1) := by decide +kernel
theorem d_Br_keyAlter_19 : decode prog_1_method_34_code 19 = .ok (.arraylength, 1) := by decide +kernel
theorem d_Br_keyAlter_20 : decode prog_1_method_34_code 20 = .ok (.invokestatic 209, 3) := by decide +kernel
theorem d_Br_keyAlter_23 : decode prog_1_method_34_code 23 = .ok (.istore_n 3, 1) := by decide +kernel
theorem d_Br_keyAlter_24 : decode prog_1_method_34_code 24 = .ok (.iconst 0, 1) := by decide +kernel
theorem d_Br_keyAlter_25 : decode prog_1_method_34_code 25 = .ok (.istore 4, 2) := by decide +kernel
theorem d_Br_keyAlter_27 : decode prog_1_method_34_code 27 = .ok (.iload 4, 2) := by decide +kernel
theorem d_Br_keyAlter_29 : decode prog_1_method_34_code 29 = .ok (.iload_n 3, 1) := by decide +kernel
theorem d_Br_keyAlter_30 : decode prog_1_method_34_code 30 = .ok (.if_icmp .ge 27, 3) := by decide +kernel
theorem d_Br_keyAlter_33 : decode prog_1_method_34_code 33 = .ok (.aload_n 2, 1) := by decide +kernel
theorem d_Br_keyAlter_34 : decode prog_1_method_34_code 34 = .ok (.iload 4, 2) := by decide +kernel
theorem d_Br_keyAlter_36 : decode prog_1_method_34_code 36 = .ok (.iaload, 1) := by decide +kernel
theorem d_Br_keyAlter_37 : decode prog_1_method_34_code 37 = .ok (.iload_n 0, 1) := by decide +kernel
theorem d_Br_keyAlter_38 : decode prog_1_method_34_code 38 = .ok (.if_icmp .ne 13, 3) := by decide +kernel
theorem d_Br_keyAlter_41 : decode prog_1_method_34_code 41 = .ok (.iload_n 1, 1) := by decide +kernel
theorem d_Br_keyAlter_42 : decode prog_1_method_34_code 42 = .ok (.ifCond .le 7, 3) := by decide +kernel
theorem d_Br_keyAlter_45 : decode prog_1_method_34_code 45 = .ok (.iconst 1, 1) := by decide +kernel
theorem d_Br_keyAlter_46 : decode prog_1_method_34_code 46 = .ok (.goto 4, 3) := by decide +kernel
theorem d_Br_keyAlter_49 : decode prog_1_method_34_code 49 = .ok (.iconst (-1), 1) := by decide +kernel
theorem d_Br_keyAlter_50 : decode prog_1_method_34_code 50 = .ok (.ireturn, 1) := by decide +kernel
theorem d_Br_keyAlter_51 : decode prog_1_method_34_code 51 = .ok (.iinc 4 1, 3) := by decide +kernel
theorem d_Br_keyAlter_54 : decode prog_1_method_34_code 54 = .ok (.goto (-27), 3) := by decide +kernel
theorem d_Br_keyAlter_57 : decode prog_1_method_34_code 57 = .ok (.iconst 0, 1) := by decide +kernel
theorem d_Br_keyAlter_58 : decode prog_1_method_34_code 58 = .ok (.ireturn, 1) := by decide +kernel
theorem d_Ch_toneAlter_0 : decode prog_2_method_11_code 0 = .ok (.aload_n 0, 1) := by decide +kernel
theorem d_Ch_toneAlter_1 : decode prog_2_method_11_code 1 = .ok (.getfield 9, 3) := by decide +kernel
theorem d_Ch_toneAlter_4 : decode prog_2_method_11_code 4 = .ok (.iload_n 1, 1) := by decide +kernel
theorem d_Ch_toneAlter_5 : decode prog_2_method_11_code 5 = .ok (.iaload, 1) := by decide +kernel
theorem d_Ch_toneAlter_6 : decode prog_2_method_11_code 6 = .ok (.tableswitch 32 1 3 #[26, 28, 30], 26) := by decide +kernel
theorem d_Ch_toneAlter_32 : decode prog_2_method_11_code 32 = .ok (.iconst 1, 1) := by decide +kernel
theorem d_Ch_toneAlter_33 : decode prog_2_method_11_code 33 = .ok (.ireturn, 1) := by decide +kernel
theorem d_Ch_toneAlter_34 : decode prog_2_method_11_code 34 = .ok (.iconst (-1), 1) := by decide +kernel
theorem d_Ch_toneAlter_35 : decode prog_2_method_11_code 35 = .ok (.ireturn, 1) := by decide +kernel
theorem d_Ch_toneAlter_36 : decode prog_2_method_11_code 36 = .ok (.iconst 0, 1) := by decide +kernel
theorem d_Ch_toneAlter_37 : decode prog_2_method_11_code 37 = .ok (.ireturn, 1) := by decide +kernel
theorem d_Ch_toneAlter_38 : decode prog_2_method_11_code 38 = .ok (.aload_n 0, 1) := by decide +kernel
theorem d_Ch_toneAlter_39 : decode prog_2_method_11_code 39 = .ok (.iload_n 1, 1) := by decide +kernel
theorem d_Ch_toneAlter_40 : decode prog_2_method_11_code 40 = .ok (.invokevirtual 70, 3) := by decide +kernel
theorem d_Ch_toneAlter_43 : decode prog_2_method_11_code 43 = .ok (.iload_n 2, 1) := by decide +kernel
theorem d_Ch_toneAlter_44 : decode prog_2_method_11_code 44 = .ok (.invokestatic 76, 3) := by decide +kernel
theorem d_Ch_toneAlter_47 : decode prog_2_method_11_code 47 = .ok (.ireturn, 1) := by decide +kernel
theorem d_Ma_floorMod_0 : decode prog_10_method_50_code 0 = .ok (.iload_n 0, 1) := by decide +kernel
theorem d_Ma_floorMod_1 : decode prog_10_method_50_code 1 = .ok (.iload_n 1, 1) := by decide +kernel
theorem d_Ma_floorMod_2 : decode prog_10_method_50_code 2 = .ok (.irem, 1) := by decide +kernel
theorem d_Ma_floorMod_3 : decode prog_10_method_50_code 3 = .ok (.istore_n 2, 1) := by decide +kernel
theorem d_Ma_floorMod_4 : decode prog_10_method_50_code 4 = .ok (.iload_n 0, 1) := by decide +kernel
theorem d_Ma_floorMod_5 : decode prog_10_method_50_code 5 = .ok (.iload_n 1, 1) := by decide +kernel
theorem d_Ma_floorMod_6 : decode prog_10_method_50_code 6 = .ok (.ixor, 1) := by decide +kernel
theorem d_Ma_floorMod_7 : decode prog_10_method_50_code 7 = .ok (.ifCond .ge 11, 3) := by decide +kernel
theorem d_Ma_floorMod_10 : decode prog_10_method_50_code 10 = .ok (.iload_n 2, 1) := by decide +kernel
theorem d_Ma_floorMod_11 : decode prog_10_method_50_code 11 = .ok (.ifCond .eq 7, 3) := by decide +kernel
theorem d_Ma_floorMod_14 : decode prog_10_method_50_code 14 = .ok (.iload_n 2, 1) := by decide +kernel
theorem d_Ma_floorMod_15 : decode prog_10_method_50_code 15 = .ok (.iload_n 1, 1) := by decide +kernel
theorem d_Ma_floorMod_16 : decode prog_10_method_50_code 16 = .ok (.iadd, 1) := by decide +kernel
theorem d_Ma_floorMod_17 : decode prog_10_method_50_code 17 = .ok (.ireturn, 1) := by decide +kernel
theorem d_Ma_floorMod_18 : decode prog_10_method_50_code 18 = .ok (.iload_n 2, 1) := by decide +kernel
theorem d_Ma_floorMod_19 : decode prog_10_method_50_code 19 = .ok (.ireturn, 1) := by decide +kernel
theorem d_Ch_toneClass_0 : decode prog_2_method_12_code 0 = .ok (.getstatic 25, 3) := by decide +kernel
theorem d_Ch_toneClass_3 : decode prog_2_method_12_code 3 = .ok (.aload_n 0, 1) := by decide +kernel
theorem d_Ch_toneClass_4 : decode prog_2_method_12_code 4 = .ok (.iload_n 1, 1) := by decide +kernel
theorem d_Ch_toneClass_5 : decode prog_2_method_12_code 5 = .ok (.invokevirtual 70, 3) := by decide +kernel
theorem d_Ch_toneClass_8 : decode prog_2_method_12_code 8 = .ok (.iaload, 1) := by decide +kernel
theorem d_Ch_toneClass_9 : decode prog_2_method_12_code 9 = .ok (.aload_n 0, 1) := by decide +kernel
theorem d_Ch_toneClass_10 : decode prog_2_method_12_code 10 = .ok (.iload_n 1, 1) := by decide +kernel
theorem d_Ch_toneClass_11 : decode prog_2_method_12_code 11 = .ok (.iload_n 2, 1) := by decide +kernel
theorem d_Ch_toneClass_12 : decode prog_2_method_12_code 12 = .ok (.invokevirtual 73, 3) := by decide +kernel
theorem d_Ch_toneClass_15 : decode prog_2_method_12_code 15 = .ok (.iadd, 1) := by decide +kernel
theorem d_Ch_toneClass_16 : decode prog_2_method_12_code 16 = .ok (.bipush 12, 2) := by decide +kernel
theorem d_Ch_toneClass_18 : decode prog_2_method_12_code 18 = .ok (.invokestatic 79, 3) := by decide +kernel
theorem d_Ch_toneClass_21 : decode prog_2_method_12_code 21 = .ok (.ireturn, 1) := by decide +kernel
theorem d_Ch_kind_0 : decode prog_2_method_13_code 0 = .ok (.iload_n 1, 1) := by decide +kernel
theorem d_Ch_kind_1 : decode prog_2_method_13_code 1 = .ok (.bipush 7, 2) := by decide +kernel
theorem d_Ch_kind_3 : decode prog_2_method_13_code 3 = .ok (.if_icmp .ne 5, 3) := by decide +kernel
theorem d_Ch_kind_6 : decode prog_2_method_13_code 6 = .ok (.iconst 2, 1) := by decide +kernel
theorem d_Ch_kind_7 : decode prog_2_method_13_code 7 = .ok (.ireturn, 1) := by decide +kernel
theorem d_Ch_kind_8 : decode prog_2_method_13_code 8 = .ok (.iload_n 1, 1) := by decide +kernel
theorem d_Ch_kind_9 : decode prog_2_method_13_code 9 = .ok (.iconst 4, 1) := by decide +kernel
theorem d_Ch_kind_10 : decode prog_2_method_13_code 10 = .ok (.if_icmp .ne 41, 3) := by decide +kernel
theorem d_Ch_kind_13 : decode prog_2_method_13_code 13 = .ok (.aload_n 0, 1) := by decide +kernel
theorem d_Ch_kind_14 : decode prog_2_method_13_code 14 = .ok (.getfield 41, 3) := by decide +kernel
theorem d_Ch_kind_17 : decode prog_2_method_13_code 17 = .ok (.iconst 2, 1) := by decide +kernel
theorem d_Ch_kind_18 : decode prog_2_method_13_code 18 = .ok (.invokestatic 53, 3) := by decide +kernel
theorem d_Ch_kind_21 : decode prog_2_method_13_code 21 = .ok (.ifCond .ne 30, 3) := by decide +kernel
theorem d_Ch_kind_24 : decode prog_2_method_13_code 24 = .ok (.aload_n 0, 1) := by decide +kernel
theorem d_Ch_kind_25 : decode prog_2_method_13_code 25 = .ok (.getfield 41, 3) := by decide +kernel
theorem d_Ch_kind_28 : decode prog_2_method_13_code 28 = .ok (.iconst 3, 1) := by decide +kernel
theorem d_Ch_kind_29 : decode prog_2_method_13_code 29 = .ok (.invokestatic 53, 3) := by decide +kernel
theorem d_Ch_kind_32 : decode prog_2_method_13_code 32 = .ok (.ifCond .ne 19, 3) := by decide +kernel
theorem d_Ch_kind_35 : decode prog_2_method_13_code 35 = .ok (.aload_n 0, 1) := by decide +kernel
theorem d_Ch_kind_36 : decode prog_2_method_13_code 36 = .ok (.getfield 41, 3) := by decide +kernel
theorem d_Ch_kind_39 : decode prog_2_method_13_code 39 = .ok (.bipush 6, 2) := by decide +kernel
theorem d_Ch_kind_41 : decode prog_2_method_13_code 41 = .ok (.invokestatic 53, 3) := by decide +kernel
theorem d_Ch_kind_44 : decode prog_2_method_13_code 44 = .ok (.ifCond .ne 7, 3) := by decide +kernel
theorem d_Ch_kind_47 : decode prog_2_method_13_code 47 = .ok (.iconst 1, 1) := by decide +kernel
theorem d_Ch_kind_48 : decode prog_2_method_13_code 48 = .ok (.goto 4, 3) := by decide +kernel
theorem d_Ch_kind_51 : decode prog_2_method_13_code 51 = .ok (.iconst 0, 1) := by decide +kernel
theorem d_Ch_kind_52 : decode prog_2_method_13_code 52 = .ok (.istore_n 2, 1) := by decide +kernel
theorem d_Ch_kind_53 : decode prog_2_method_13_code 53 = .ok (.iload_n 1, 1) := by decide +kernel
theorem d_Ch_kind_54 : decode prog_2_method_13_code 54 = .ok (.bipush 9, 2) := by decide +kernel
theorem d_Ch_kind_56 : decode prog_2_method_13_code 56 = .ok (.if_icmp .eq 7, 3) := by decide +kernel
theorem d_Ch_kind_59 : decode prog_2_method_13_code 59 = .ok (.iload_n 2, 1) := by decide +kernel
theorem d_Ch_kind_60 : decode prog_2_method_13_code 60 = .ok (.ifCond .eq 7, 3) := by decide +kernel
theorem d_Ch_kind_63 : decode prog_2_method_13_code 63 = .ok (.iconst 1, 1) := by decide +kernel
theorem d_Ch_kind_64 : decode prog_2_method_13_code 64 = .ok (.goto 4, 3) := by decide +kernel
theorem d_Ch_kind_67 : decode prog_2_method_13_code 67 = .ok (.iconst 0, 1) := by decide +kernel
theorem d_Ch_kind_68 : decode prog_2_method_13_code 68 = .ok (.ireturn, 1) := by decide +kernel
theorem d_Br_classBit_0 : decode prog_1_method_33_code 0 = .ok (.iconst 1, 1) := by decide +kernel
theorem d_Br_classBit_1 : decode prog_1_method_33_code 1 = .ok (.iload_n 0, 1) := by decide +kernel
theorem d_Br_classBit_2 : decode prog_1_method_33_code 2 = .ok (.bipush 12, 2) := by decide +kernel
theorem d_Br_classBit_4 : decode prog_1_method_33_code 4 = .ok (.irem, 1) := by decide +kernel
theorem d_Br_classBit_5 : decode prog_1_method_33_code 5 = .ok (.ishl, 1) := by decide +kernel
theorem d_Br_classBit_6 : decode prog_1_method_33_code 6 = .ok (.ireturn, 1) := by decide +kernel
theorem d_Ch_tune_0 : decode prog_2_method_5_code 0 = .ok (.aload_n 0, 1) := by decide +kernel
theorem d_Ch_tune_1 : decode prog_2_method_5_code 1 = .ok (.aload_n 0, 1) := by decide +kernel
theorem d_Ch_tune_2 : decode prog_2_method_5_code 2 = .ok (.getfield 34, 3) := by decide +kernel
theorem d_Ch_tune_5 : decode prog_2_method_5_code 5 = .ok (.invokestatic 37, 3) := by decide +kernel
theorem d_Ch_tune_8 : decode prog_2_method_5_code 8 = .ok (.putfield 41, 3) := by decide +kernel
theorem d_Ch_tune_11 : decode prog_2_method_5_code 11 = .ok (.aload_n 0, 1) := by decide +kernel
theorem d_Ch_tune_12 : decode prog_2_method_5_code 12 = .ok (.iconst 0, 1) := by decide +kernel
theorem d_Ch_tune_13 : decode prog_2_method_5_code 13 = .ok (.putfield 44, 3) := by decide +kernel
theorem d_Ch_tune_16 : decode prog_2_method_5_code 16 = .ok (.aload_n 0, 1) := by decide +kernel
theorem d_Ch_tune_17 : decode prog_2_method_5_code 17 = .ok (.iconst 0, 1) := by decide +kernel
theorem d_Ch_tune_18 : decode prog_2_method_5_code 18 = .ok (.putfield 47, 3) := by decide +kernel
theorem d_Ch_tune_21 : decode prog_2_method_5_code 21 = .ok (.aload_n 0, 1) := by decide +kernel
theorem d_Ch_tune_22 : decode prog_2_method_5_code 22 = .ok (.iconst 0, 1) := by decide +kernel
theorem d_Ch_tune_23 : decode prog_2_method_5_code 23 = .ok (.putfield 50, 3) := by decide +kernel
theorem d_Ch_tune_26 : decode prog_2_method_5_code 26 = .ok (.iconst 2, 1) := by decide +kernel
theorem d_Ch_tune_27 : decode prog_2_method_5_code 27 = .ok (.istore_n 2, 1) := by decide +kernel
theorem d_Ch_tune_28 : decode prog_2_method_5_code 28 = .ok (.iload_n 2, 1) := by decide +kernel
theorem d_Ch_tune_29 : decode prog_2_method_5_code 29 = .ok (.bipush 9, 2) := by decide +kernel
theorem d_Ch_tune_31 : decode prog_2_method_5_code 31 = .ok (.if_icmp .gt 88, 3) := by decide +kernel
theorem d_Ch_tune_34 : decode prog_2_method_5_code 34 = .ok (.aload_n 0, 1) := by decide +kernel
theorem d_Ch_tune_35 : decode prog_2_method_5_code 35 = .ok (.getfield 41, 3) := by decide +kernel
theorem d_Ch_tune_38 : decode prog_2_method_5_code 38 = .ok (.iload_n 2, 1) := by decide +kernel
theorem d_Ch_tune_39 : decode prog_2_method_5_code 39 = .ok (.invokestatic 53, 3) := by decide +kernel
theorem d_Ch_tune_42 : decode prog_2_method_5_code 42 = .ok (.ifCond .ne 6, 3) := by decide +kernel
theorem d_Ch_tune_45 : decode prog_2_method_5_code 45 = .ok (.goto 68, 3) := by decide +kernel
theorem d_Ch_tune_48 : decode prog_2_method_5_code 48 = .ok (.iconst 1, 1) := by decide +kernel
theorem d_Ch_tune_49 : decode prog_2_method_5_code 49 = .ok (.aload_n 0, 1) := by decide +kernel
theorem d_Ch_tune_50 : decode prog_2_method_5_code 50 = .ok (.iload_n 2, 1) := by decide +kernel
theorem d_Ch_tune_51 : decode prog_2_method_5_code 51 = .ok (.iload_n 1, 1) := by decide +kernel
theorem d_Ch_tune_52 : decode prog_2_method_5_code 52 = .ok (.invokevirtual 57, 3) := by decide +kernel
theorem d_Ch_tune_55 : decode prog_2_method_5_code 55 = .ok (.ishl, 1) := by decide +kernel
theorem d_Ch_tune_56 : decode prog_2_method_5_code 56 = .ok (.istore_n 3, 1) := by decide +kernel
theorem d_Ch_tune_57 : decode prog_2_method_5_code 57 = .ok (.aload_n 0, 1) := by decide +kernel
theorem d_Ch_tune_58 : decode prog_2_method_5_code 58 = .ok (.dup, 1) := by decide +kernel
theorem d_Ch_tune_59 : decode prog_2_method_5_code 59 = .ok (.getfield 44, 3) := by decide +kernel
theorem d_Ch_tune_62 : decode prog_2_method_5_code 62 = .ok (.iload_n 3, 1) := by decide +kernel
theorem d_Ch_tune_63 : decode prog_2_method_5_code 63 = .ok (.ior, 1) := by decide +kernel
theorem d_Ch_tune_64 : decode prog_2_method_5_code 64 = .ok (.putfield 44, 3) := by decide +kernel
theorem d_Ch_tune_67 : decode prog_2_method_5_code 67 = .ok (.aload_n 0, 1) := by decide +kernel
theorem d_Ch_tune_68 : decode prog_2_method_5_code 68 = .ok (.dup, 1) := by decide +kernel
theorem d_Ch_tune_69 : decode prog_2_method_5_code 69 = .ok (.getfield 47, 3) := by decide +kernel
theorem d_Ch_tune_72 : decode prog_2_method_5_code 72 = .ok (.aload_n 0, 1) := by decide +kernel
theorem d_Ch_tune_73 : decode prog_2_method_5_code 73 = .ok (.iload_n 2, 1) := by decide +kernel
theorem d_Ch_tune_74 : decode prog_2_method_5_code 74 = .ok (.invokevirtual 61, 3) := by decide +kernel
theorem d_Ch_tune_77 : decode prog_2_method_5_code 77 = .ok (.iconst 1, 1) := by decide +kernel
theorem d_Ch_tune_78 : decode prog_2_method_5_code 78 = .ok (.if_icmp .ne 7, 3) := by decide +kernel
theorem d_Ch_tune_81 : decode prog_2_method_5_code 81 = .ok (.iload_n 3, 1) := by decide +kernel
theorem d_Ch_tune_82 : decode prog_2_method_5_code 82 = .ok (.goto 4, 3) := by decide +kernel
theorem d_Ch_tune_85 : decode prog_2_method_5_code 85 = .ok (.iconst 0, 1) := by decide +kernel
theorem d_Ch_tune_86 : decode prog_2_method_5_code 86 = .ok (.ior, 1) := by decide +kernel
theorem d_Ch_tune_87 : decode prog_2_method_5_code 87 = .ok (.putfield 47, 3) := by decide +kernel
theorem d_Ch_tune_90 : decode prog_2_method_5_code 90 = .ok (.aload_n 0, 1) := by decide +kernel
theorem d_Ch_tune_91 : decode prog_2_method_5_code 91 = .ok (.dup, 1) := by decide +kernel
theorem d_Ch_tune_92 : decode prog_2_method_5_code 92 = .ok (.getfield 50, 3) := by decide +kernel
theorem d_Ch_tune_95 : decode prog_2_method_5_code 95 = .ok (.aload_n 0, 1) := by decide +kernel
theorem d_Ch_tune_96 : decode prog_2_method_5_code 96 = .ok (.iload_n 2, 1) := by decide +kernel
theorem d_Ch_tune_97 : decode prog_2_method_5_code 97 = .ok (.invokevirtual 61, 3) := by decide +kernel
theorem d_Ch_tune_100 : decode prog_2_method_5_code 100 = .ok (.iconst 2, 1) := by decide +kernel
theorem d_Ch_tune_101 : decode prog_2_method_5_code 101 = .ok (.if_icmp .ne 7, 3) := by decide +kernel
theorem d_Ch_tune_104 : decode prog_2_method_5_code 104 = .ok (.iload_n 3, 1) := by decide +kernel
theorem d_Ch_tune_105 : decode prog_2_method_5_code 105 = .ok (.goto 4, 3) := by decide +kernel
theorem d_Ch_tune_108 : decode prog_2_method_5_code 108 = .ok (.iconst 0, 1) := by decide +kernel
theorem d_Ch_tune_109 : decode prog_2_method_5_code 109 = .ok (.ior, 1) := by decide +kernel
theorem d_Ch_tune_110 : decode prog_2_method_5_code 110 = .ok (.putfield 50, 3) := by decide +kernel
theorem d_Ch_tune_113 : decode prog_2_method_5_code 113 = .ok (.iinc 2 1, 3) := by decide +kernel
theorem d_Ch_tune_116 : decode prog_2_method_5_code 116 = .ok (.goto (-88), 3) := by decide +kernel
theorem d_Ch_tune_119 : decode prog_2_method_5_code 119 = .ok (.aload_n 0, 1) := by decide +kernel
theorem d_Ch_tune_120 : decode prog_2_method_5_code 120 = .ok (.aload_n 0, 1) := by decide +kernel
theorem d_Ch_tune_121 : decode prog_2_method_5_code 121 = .ok (.getfield 44, 3) := by decide +kernel
theorem d_Ch_tune_124 : decode prog_2_method_5_code 124 = .ok (.aload_n 0, 1) := by decide +kernel
theorem d_Ch_tune_125 : decode prog_2_method_5_code 125 = .ok (.getfield 28, 3) := by decide +kernel
theorem d_Ch_tune_128 : decode prog_2_method_5_code 128 = .ok (.invokestatic 64, 3) := by decide +kernel
theorem d_Ch_tune_131 : decode prog_2_method_5_code 131 = .ok (.ior, 1) := by decide +kernel
theorem d_Ch_tune_132 : decode prog_2_method_5_code 132 = .ok (.putfield 67, 3) := by decide +kernel
theorem d_Ch_tune_135 : decode prog_2_method_5_code 135 = .ok (.return_, 1) := by decide +kernel
theorem d_Se_forgetAll_0 : decode prog_6_method_2_code 0 = .ok (.iconst 0, 1) := by decide +kernel
theorem d_Se_forgetAll_1 : decode prog_6_method_2_code 1 = .ok (.istore_n 1, 1) := by decide +kernel
theorem d_Se_forgetAll_2 : decode prog_6_method_2_code 2 = .ok (.iload_n 1, 1) := by decide +kernel
theorem d_Se_forgetAll_3 : decode prog_6_method_2_code 3 = .ok (.bipush 12, 2) := by decide +kernel
theorem d_Se_forgetAll_5 : decode prog_6_method_2_code 5 = .ok (.if_icmp .ge 19, 3) := by decide +kernel
theorem d_Se_forgetAll_8 : decode prog_6_method_2_code 8 = .ok (.aload_n 0, 1) := by decide +kernel
theorem d_Se_forgetAll_9 : decode prog_6_method_2_code 9 = .ok (.getfield 26, 3) := by decide +kernel
theorem d_Se_forgetAll_12 : decode prog_6_method_2_code 12 = .ok (.iload_n 1, 1) := by decide +kernel
theorem d_Se_forgetAll_13 : decode prog_6_method_2_code 13 = .ok (.aaload, 1) := by decide +kernel
theorem d_Se_forgetAll_14 : decode prog_6_method_2_code 14 = .ok (.iconst 0, 1) := by decide +kernel
theorem d_Se_forgetAll_15 : decode prog_6_method_2_code 15 = .ok (.putfield 47, 3) := by decide +kernel
theorem d_Se_forgetAll_18 : decode prog_6_method_2_code 18 = .ok (.iinc 1 1, 3) := by decide +kernel
theorem d_Se_forgetAll_21 : decode prog_6_method_2_code 21 = .ok (.goto (-19), 3) := by decide +kernel
theorem d_Se_forgetAll_24 : decode prog_6_method_2_code 24 = .ok (.aload_n 0, 1) := by decide +kernel
theorem d_Se_forgetAll_25 : decode prog_6_method_2_code 25 = .ok (.iconst 0, 1) := by decide +kernel
theorem d_Se_forgetAll_26 : decode prog_6_method_2_code 26 = .ok (.putfield 51, 3) := by decide +kernel
theorem d_Se_forgetAll_29 : decode prog_6_method_2_code 29 = .ok (.return_, 1) := by decide +kernel
theorem d_Br_key_0 : decode prog_1_method_2_code 0 = .ok (.iload_n 1, 1) := by decide +kernel
theorem d_Br_key_1 : decode prog_1_method_2_code 1 = .ok (.bipush (-7), 2) := by decide +kernel
theorem d_Br_key_3 : decode prog_1_method_2_code 3 = .ok (.bipush 7, 2) := by decide +kernel
theorem d_Br_key_5 : decode prog_1_method_2_code 5 = .ok (.invokestatic 37, 3) := by decide +kernel
theorem d_Br_key_8 : decode prog_1_method_2_code 8 = .ok (.ifCond .ne 5, 3) := by decide +kernel
theorem d_Br_key_11 : decode prog_1_method_2_code 11 = .ok (.iconst (-1), 1) := by decide +kernel
theorem d_Br_key_12 : decode prog_1_method_2_code 12 = .ok (.ireturn, 1) := by decide +kernel
theorem d_Br_key_13 : decode prog_1_method_2_code 13 = .ok (.aload_n 0, 1) := by decide +kernel
theorem d_Br_key_14 : decode prog_1_method_2_code 14 = .ok (.getfield 25, 3) := by decide +kernel
theorem d_Br_key_17 : decode prog_1_method_2_code 17 = .ok (.getfield 41, 3) := by decide +kernel
theorem d_Br_key_20 : decode prog_1_method_2_code 20 = .ok (.istore_n 2, 1) := by decide +kernel
theorem d_Br_key_21 : decode prog_1_method_2_code 21 = .ok (.aload_n 0, 1) := by decide +kernel
theorem d_Br_key_22 : decode prog_1_method_2_code 22 = .ok (.getfield 25, 3) := by decide +kernel
theorem d_Br_key_25 : decode prog_1_method_2_code 25 = .ok (.iload_n 1, 1) := by decide +kernel
theorem d_Br_key_26 : decode prog_1_method_2_code 26 = .ok (.putfield 41, 3) := by decide +kernel
theorem d_Br_key_29 : decode prog_1_method_2_code 29 = .ok (.iconst 0, 1) := by decide +kernel
theorem d_Br_key_30 : decode prog_1_method_2_code 30 = .ok (.istore_n 3, 1) := by decide +kernel
theorem d_Br_key_31 : decode prog_1_method_2_code 31 = .ok (.iload_n 3, 1) := by decide +kernel
theorem d_Br_key_32 : decode prog_1_method_2_code 32 = .ok (.aload_n 0, 1) := by decide +kernel
theorem d_Br_key_33 : decode prog_1_method_2_code 33 = .ok (.getfield 33, 3) := by decide +kernel
theorem d_Br_key_36 : decode prog_1_method_2_code 36 = .ok (.if_icmp .ge 19, 3) := by decide +kernel
theorem d_Br_key_39 : decode prog_1_method_2_code 39 = .ok (.aload_n 0, 1) := by decide +kernel
theorem d_Br_key_40 : decode prog_1_method_2_code 40 = .ok (.getfield 20, 3) := by decide +kernel
theorem d_Br_key_43 : decode prog_1_method_2_code 43 = .ok (.iload_n 3, 1) := by decide +kernel
theorem d_Br_key_44 : decode prog_1_method_2_code 44 = .ok (.aaload, 1) := by decide +kernel
theorem d_Br_key_45 : decode prog_1_method_2_code 45 = .ok (.iload_n 1, 1) := by decide +kernel
theorem d_Br_key_46 : decode prog_1_method_2_code 46 = .ok (.invokevirtual 46, 3) := by decide +kernel
theorem d_Br_key_49 : decode prog_1_method_2_code 49 = .ok (.iinc 3 1, 3) := by decide +kernel
theorem d_Br_key_52 : decode prog_1_method_2_code 52 = .ok (.goto (-21), 3) := by decide +kernel
theorem d_Br_key_55 : decode prog_1_method_2_code 55 = .ok (.aload_n 0, 1) := by decide +kernel
theorem d_Br_key_56 : decode prog_1_method_2_code 56 = .ok (.getfield 10, 3) := by decide +kernel
theorem d_Br_key_59 : decode prog_1_method_2_code 59 = .ok (.invokevirtual 52, 3) := by decide +kernel
theorem d_Br_key_62 : decode prog_1_method_2_code 62 = .ok (.iload_n 2, 1) := by decide +kernel
theorem d_Br_key_63 : decode prog_1_method_2_code 63 = .ok (.bipush 7, 2) := by decide +kernel
theorem d_Br_key_65 : decode prog_1_method_2_code 65 = .ok (.iadd, 1) := by decide +kernel
theorem d_Br_key_66 : decode prog_1_method_2_code 66 = .ok (.ireturn, 1) := by decide +kernel
theorem d_Rm_in_0 : decode prog_8_method_2_code 0 = .ok (.lload_n 0, 1) := by decide +kernel
theorem d_Rm_in_1 : decode prog_8_method_2_code 1 = .ok (.lload_n 2, 1) := by decide +kernel
theorem d_Rm_in_2 : decode prog_8_method_2_code 2 = .ok (.lcmp, 1) := by decide +kernel
theorem d_Rm_in_3 : decode prog_8_method_2_code 3 = .ok (.ifCond .lt 14, 3) := by decide +kernel
theorem d_Rm_in_6 : decode prog_8_method_2_code 6 = .ok (.lload_n 0, 1) := by decide +kernel
theorem d_Rm_in_7 : decode prog_8_method_2_code 7 = .ok (.lload 4, 2) := by decide +kernel
theorem d_Rm_in_9 : decode prog_8_method_2_code 9 = .ok (.lcmp, 1) := by decide +kernel
theorem d_Rm_in_10 : decode prog_8_method_2_code 10 = .ok (.ifCond .gt 7, 3) := by decide +kernel
theorem d_Rm_in_13 : decode prog_8_method_2_code 13 = .ok (.iconst 1, 1) := by decide +kernel
theorem d_Rm_in_14 : decode prog_8_method_2_code 14 = .ok (.goto 4, 3) := by decide +kernel
theorem d_Rm_in_17 : decode prog_8_method_2_code 17 = .ok (.iconst 0, 1) := by decide +kernel
theorem d_Rm_in_18 : decode prog_8_method_2_code 18 = .ok (.ireturn, 1) := by decide +kernel
theorem d_Rm_key_0 : decode prog_8_method_5_code 0 = .ok (.aload_n 0, 1) := by decide +kernel
theorem d_Rm_key_1 : decode prog_8_method_5_code 1 = .ok (.iconst 0, 1) := by decide +kernel
theorem d_Rm_key_2 : decode prog_8_method_5_code 2 = .ok (.putfield 1, 3) := by decide +kernel
theorem d_Rm_key_5 : decode prog_8_method_5_code 5 = .ok (.iload_n 1, 1) := by decide +kernel
theorem d_Rm_key_6 : decode prog_8_method_5_code 6 = .ok (.i2l, 1) := by decide +kernel
theorem d_Rm_key_7 : decode prog_8_method_5_code 7 = .ok (.ldc2_w 86, 3) := by decide +kernel
theorem d_Rm_key_10 : decode prog_8_method_5_code 10 = .ok (.ldc2_w 88, 3) := by decide +kernel
theorem d_Rm_key_13 : decode prog_8_method_5_code 13 = .ok (.invokestatic 82, 3) := by decide +kernel
theorem d_Rm_key_16 : decode prog_8_method_5_code 16 = .ok (.ifCond .ne 5, 3) := by decide +kernel
theorem d_Rm_key_19 : decode prog_8_method_5_code 19 = .ok (.iconst (-1), 1) := by decide +kernel
theorem d_Rm_key_20 : decode prog_8_method_5_code 20 = .ok (.ireturn, 1) := by decide +kernel
theorem d_Rm_key_21 : decode prog_8_method_5_code 21 = .ok (.aload_n 0, 1) := by decide +kernel
theorem d_Rm_key_22 : decode prog_8_method_5_code 22 = .ok (.getfield 90, 3) := by decide +kernel
theorem d_Rm_key_25 : decode prog_8_method_5_code 25 = .ok (.bipush 7, 2) := by decide +kernel
theorem d_Rm_key_27 : decode prog_8_method_5_code 27 = .ok (.iadd, 1) := by decide +kernel
theorem d_Rm_key_28 : decode prog_8_method_5_code 28 = .ok (.istore_n 2, 1) := by decide +kernel
theorem d_Rm_key_29 : decode prog_8_method_5_code 29 = .ok (.aload_n 0, 1) := by decide +kernel
theorem d_Rm_key_30 : decode prog_8_method_5_code 30 = .ok (.iload_n 1, 1) := by decide +kernel
theorem d_Rm_key_31 : decode prog_8_method_5_code 31 = .ok (.putfield 90, 3) := by decide +kernel
theorem d_Rm_key_34 : decode prog_8_method_5_code 34 = .ok (.aload_n 0, 1) := by decide +kernel
theorem d_Rm_key_35 : decode prog_8_method_5_code 35 = .ok (.iconst 0, 1) := by decide +kernel
theorem d_Rm_key_36 : decode prog_8_method_5_code 36 = .ok (.putfield 93, 3) := by decide +kernel
theorem d_Rm_key_39 : decode prog_8_method_5_code 39 = .ok (.iload_n 2, 1) := by decide +kernel
theorem d_Rm_key_40 : decode prog_8_method_5_code 40 = .ok (.ireturn, 1) := by decide +kernel
theorem d_Ch_untell_0 : decode prog_2_method_4_code 0 = .ok (.aload_n 0, 1) := by decide +kernel
theorem d_Ch_untell_1 : decode prog_2_method_4_code 1 = .ok (.iconst 0, 1) := by decide +kernel
theorem d_Ch_untell_2 : decode prog_2_method_4_code 2 = .ok (.putfield 34, 3) := by decide +kernel
theorem d_Ch_untell_5 : decode prog_2_method_4_code 5 = .ok (.iconst 0, 1) := by decide +kernel
theorem d_Ch_untell_6 : decode prog_2_method_4_code 6 = .ok (.istore_n 1, 1) := by decide +kernel
theorem d_Ch_untell_7 : decode prog_2_method_4_code 7 = .ok (.iload_n 1, 1) := by decide +kernel
theorem d_Ch_untell_8 : decode prog_2_method_4_code 8 = .ok (.bipush 9, 2) := by decide +kernel
theorem d_Ch_untell_10 : decode prog_2_method_4_code 10 = .ok (.if_icmp .gt 16, 3) := by decide +kernel
theorem d_Ch_untell_13 : decode prog_2_method_4_code 13 = .ok (.aload_n 0, 1) := by decide +kernel
theorem d_Ch_untell_14 : decode prog_2_method_4_code 14 = .ok (.getfield 9, 3) := by decide +kernel
theorem d_Ch_untell_17 : decode prog_2_method_4_code 17 = .ok (.iload_n 1, 1) := by decide +kernel
theorem d_Ch_untell_18 : decode prog_2_method_4_code 18 = .ok (.iconst 0, 1) := by decide +kernel
theorem d_Ch_untell_19 : decode prog_2_method_4_code 19 = .ok (.iastore, 1) := by decide +kernel
theorem d_Ch_untell_20 : decode prog_2_method_4_code 20 = .ok (.iinc 1 1, 3) := by decide +kernel
theorem d_Ch_untell_23 : decode prog_2_method_4_code 23 = .ok (.goto (-16), 3) := by decide +kernel
theorem d_Ch_untell_26 : decode prog_2_method_4_code 26 = .ok (.return_, 1) := by decide +kernel
theorem d_Ch_begin_0 : decode prog_2_method_2_code 0 = .ok (.aload_n 0, 1) := by decide +kernel
theorem d_Ch_begin_1 : decode prog_2_method_2_code 1 = .ok (.iload_n 1, 1) := by decide +kernel
theorem d_Ch_begin_2 : decode prog_2_method_2_code 2 = .ok (.putfield 22, 3) := by decide +kernel
theorem d_Ch_begin_5 : decode prog_2_method_2_code 5 = .ok (.aload_n 0, 1) := by decide +kernel
theorem d_Ch_begin_6 : decode prog_2_method_2_code 6 = .ok (.bipush 12, 2) := by decide +kernel
theorem d_Ch_begin_8 : decode prog_2_method_2_code 8 = .ok (.iload_n 2, 1) := by decide +kernel
theorem d_Ch_begin_9 : decode prog_2_method_2_code 9 = .ok (.iconst 1, 1) := by decide +kernel
theorem d_Ch_begin_10 : decode prog_2_method_2_code 10 = .ok (.iadd, 1) := by decide +kernel
theorem d_Ch_begin_11 : decode prog_2_method_2_code 11 = .ok (.imul, 1) := by decide +kernel
theorem d_Ch_begin_12 : decode prog_2_method_2_code 12 = .ok (.getstatic 25, 3) := by decide +kernel
theorem d_Ch_begin_15 : decode prog_2_method_2_code 15 = .ok (.iload_n 1, 1) := by decide +kernel
theorem d_Ch_begin_16 : decode prog_2_method_2_code 16 = .ok (.iaload, 1) := by decide +kernel
theorem d_Ch_begin_17 : decode prog_2_method_2_code 17 = .ok (.iadd, 1) := by decide +kernel
theorem d_Ch_begin_18 : decode prog_2_method_2_code 18 = .ok (.iload_n 3, 1) := by decide +kernel
theorem d_Ch_begin_19 : decode prog_2_method_2_code 19 = .ok (.iadd, 1) := by decide +kernel
theorem d_Ch_begin_20 : decode prog_2_method_2_code 20 = .ok (.putfield 28, 3) := by decide +kernel
theorem d_Ch_begin_23 : decode prog_2_method_2_code 23 = .ok (.aload_n 0, 1) := by decide +kernel
theorem d_Ch_begin_24 : decode prog_2_method_2_code 24 = .ok (.iconst (-1), 1) := by decide +kernel
theorem d_Ch_begin_25 : decode prog_2_method_2_code 25 = .ok (.putfield 18, 3) := by decide +kernel
theorem d_Ch_begin_28 : decode prog_2_method_2_code 28 = .ok (.iconst 0, 1) := by decide +kernel
theorem d_Ch_begin_29 : decode prog_2_method_2_code 29 = .ok (.istore 4, 2) := by decide +kernel
theorem d_Ch_begin_31 : decode prog_2_method_2_code 31 = .ok (.iload 4, 2) := by decide +kernel
theorem d_Ch_begin_33 : decode prog_2_method_2_code 33 = .ok (.iconst 3, 1) := by decide +kernel
theorem d_Ch_begin_34 : decode prog_2_method_2_code 34 = .ok (.if_icmp .ge 17, 3) := by decide +kernel
theorem d_Ch_begin_37 : decode prog_2_method_2_code 37 = .ok (.aload_n 0, 1) := by decide +kernel
theorem d_Ch_begin_38 : decode prog_2_method_2_code 38 = .ok (.getfield 15, 3) := by decide +kernel
theorem d_Ch_begin_41 : decode prog_2_method_2_code 41 = .ok (.iload 4, 2) := by decide +kernel
theorem d_Ch_begin_43 : decode prog_2_method_2_code 43 = .ok (.iconst (-1), 1) := by decide +kernel
theorem d_Ch_begin_44 : decode prog_2_method_2_code 44 = .ok (.iastore, 1) := by decide +kernel
theorem d_Ch_begin_45 : decode prog_2_method_2_code 45 = .ok (.iinc 4 1, 3) := by decide +kernel
theorem d_Ch_begin_48 : decode prog_2_method_2_code 48 = .ok (.goto (-17), 3) := by decide +kernel
theorem d_Ch_begin_51 : decode prog_2_method_2_code 51 = .ok (.aload_n 0, 1) := by decide +kernel
theorem d_Ch_begin_52 : decode prog_2_method_2_code 52 = .ok (.invokevirtual 31, 3) := by decide +kernel
theorem d_Ch_begin_55 : decode prog_2_method_2_code 55 = .ok (.return_, 1) := by decide +kernel
theorem d_Se_forgetChord_0 : decode prog_6_method_3_code 0 = .ok (.aload_n 0, 1) := by decide +kernel
theorem d_Se_forgetChord_1 : decode prog_6_method_3_code 1 = .ok (.getfield 26, 3) := by decide +kernel
theorem d_Se_forgetChord_4 : decode prog_6_method_3_code 4 = .ok (.iload_n 1, 1) := by decide +kernel
theorem d_Se_forgetChord_5 : decode prog_6_method_3_code 5 = .ok (.aaload, 1) := by decide +kernel
theorem d_Se_forgetChord_6 : decode prog_6_method_3_code 6 = .ok (.iconst 0, 1) := by decide +kernel
theorem d_Se_forgetChord_7 : decode prog_6_method_3_code 7 = .ok (.putfield 47, 3) := by decide +kernel
theorem d_Se_forgetChord_10 : decode prog_6_method_3_code 10 = .ok (.aload_n 0, 1) := by decide +kernel
theorem d_Se_forgetChord_11 : decode prog_6_method_3_code 11 = .ok (.iconst 0, 1) := by decide +kernel
theorem d_Se_forgetChord_12 : decode prog_6_method_3_code 12 = .ok (.putfield 51, 3) := by decide +kernel
theorem d_Se_forgetChord_15 : decode prog_6_method_3_code 15 = .ok (.return_, 1) := by decide +kernel
theorem d_Br_chord_0 : decode prog_1_method_3_code 0 = .ok (.iload_n 1, 1) := by decide +kernel
theorem d_Br_chord_1 : decode prog_1_method_3_code 1 = .ok (.iconst 0, 1) := by decide +kernel
theorem d_Br_chord_2 : decode prog_1_method_3_code 2 = .ok (.bipush 6, 2) := by decide +kernel
theorem d_Br_chord_4 : decode prog_1_method_3_code 4 = .ok (.invokestatic 37, 3) := by decide +kernel
theorem d_Br_chord_7 : decode prog_1_method_3_code 7 = .ok (.ifCond .eq 21, 3) := by decide +kernel
theorem d_Br_chord_10 : decode prog_1_method_3_code 10 = .ok (.iload_n 2, 1) := by decide +kernel
theorem d_Br_chord_11 : decode prog_1_method_3_code 11 = .ok (.iconst 1, 1) := by decide +kernel
theorem d_Br_chord_12 : decode prog_1_method_3_code 12 = .ok (.iconst 5, 1) := by decide +kernel
theorem d_Br_chord_13 : decode prog_1_method_3_code 13 = .ok (.invokestatic 37, 3) := by decide +kernel
theorem d_Br_chord_16 : decode prog_1_method_3_code 16 = .ok (.ifCond .eq 12, 3) := by decide +kernel
theorem d_Br_chord_19 : decode prog_1_method_3_code 19 = .ok (.iload_n 3, 1) := by decide +kernel
theorem d_Br_chord_20 : decode prog_1_method_3_code 20 = .ok (.iconst (-1), 1) := by decide +kernel
theorem d_Br_chord_21 : decode prog_1_method_3_code 21 = .ok (.iconst 1, 1) := by decide +kernel
theorem d_Br_chord_22 : decode prog_1_method_3_code 22 = .ok (.invokestatic 37, 3) := by decide +kernel
theorem d_Br_chord_25 : decode prog_1_method_3_code 25 = .ok (.ifCond .ne 5, 3) := by decide +kernel
theorem d_Br_chord_28 : decode prog_1_method_3_code 28 = .ok (.iconst (-1), 1) := by decide +kernel
theorem d_Br_chord_29 : decode prog_1_method_3_code 29 = .ok (.ireturn, 1) := by decide +kernel
theorem d_Br_chord_30 : decode prog_1_method_3_code 30 = .ok (.aload_n 0, 1) := by decide +kernel
theorem d_Br_chord_31 : decode prog_1_method_3_code 31 = .ok (.getfield 33, 3) := by decide +kernel
theorem d_Br_chord_34 : decode prog_1_method_3_code 34 = .ok (.bipush 12, 2) := by decide +kernel
theorem d_Br_chord_36 : decode prog_1_method_3_code 36 = .ok (.if_icmp .lt 6, 3) := by decide +kernel
theorem d_Br_chord_39 : decode prog_1_method_3_code 39 = .ok (.bipush (-3), 2) := by decide +kernel
theorem d_Br_chord_41 : decode prog_1_method_3_code 41 = .ok (.ireturn, 1) := by decide +kernel
theorem d_Br_chord_42 : decode prog_1_method_3_code 42 = .ok (.aload_n 0, 1) := by decide +kernel
theorem d_Br_chord_43 : decode prog_1_method_3_code 43 = .ok (.getfield 20, 3) := by decide +kernel
theorem d_Br_chord_46 : decode prog_1_method_3_code 46 = .ok (.aload_n 0, 1) := by decide +kernel
theorem d_Br_chord_47 : decode prog_1_method_3_code 47 = .ok (.getfield 33, 3) := by decide +kernel
theorem d_Br_chord_50 : decode prog_1_method_3_code 50 = .ok (.aaload, 1) := by decide +kernel
theorem d_Br_chord_51 : decode prog_1_method_3_code 51 = .ok (.iload_n 1, 1) := by decide +kernel
theorem d_Br_chord_52 : decode prog_1_method_3_code 52 = .ok (.iload_n 2, 1) := by decide +kernel
theorem d_Br_chord_53 : decode prog_1_method_3_code 53 = .ok (.iload_n 3, 1) := by decide +kernel
theorem d_Br_chord_54 : decode prog_1_method_3_code 54 = .ok (.invokevirtual 55, 3) := by decide +kernel
theorem d_Br_chord_57 : decode prog_1_method_3_code 57 = .ok (.aload_n 0, 1) := by decide +kernel
theorem d_Br_chord_58 : decode prog_1_method_3_code 58 = .ok (.getfield 20, 3) := by decide +kernel
theorem d_Br_chord_61 : decode prog_1_method_3_code 61 = .ok (.aload_n 0, 1) := by decide +kernel
theorem d_Br_chord_62 : decode prog_1_method_3_code 62 = .ok (.getfield 33, 3) := by decide +kernel
theorem d_Br_chord_65 : decode prog_1_method_3_code 65 = .ok (.aaload, 1) := by decide +kernel
theorem d_Br_chord_66 : decode prog_1_method_3_code 66 = .ok (.aload_n 0, 1) := by decide +kernel
theorem d_Br_chord_67 : decode prog_1_method_3_code 67 = .ok (.getfield 25, 3) := by decide +kernel
theorem d_Br_chord_70 : decode prog_1_method_3_code 70 = .ok (.getfield 41, 3) := by decide +kernel
theorem d_Br_chord_73 : decode prog_1_method_3_code 73 = .ok (.invokevirtual 46, 3) := by decide +kernel
theorem d_Br_chord_76 : decode prog_1_method_3_code 76 = .ok (.aload_n 0, 1) := by decide +kernel
theorem d_Br_chord_77 : decode prog_1_method_3_code 77 = .ok (.getfield 10, 3) := by decide +kernel
theorem d_Br_chord_80 : decode prog_1_method_3_code 80 = .ok (.aload_n 0, 1) := by decide +kernel
theorem d_Br_chord_81 : decode prog_1_method_3_code 81 = .ok (.getfield 33, 3) := by decide +kernel
theorem d_Br_chord_84 : decode prog_1_method_3_code 84 = .ok (.invokevirtual 59, 3) := by decide +kernel
theorem d_Br_chord_87 : decode prog_1_method_3_code 87 = .ok (.aload_n 0, 1) := by decide +kernel
theorem d_Br_chord_88 : decode prog_1_method_3_code 88 = .ok (.dup, 1) := by decide +kernel
theorem d_Br_chord_89 : decode prog_1_method_3_code 89 = .ok (.getfield 33, 3) := by decide +kernel
theorem d_Br_chord_92 : decode prog_1_method_3_code 92 = .ok (.iconst 1, 1) := by decide +kernel
theorem d_Br_chord_93 : decode prog_1_method_3_code 93 = .ok (.iadd, 1) := by decide +kernel
theorem d_Br_chord_94 : decode prog_1_method_3_code 94 = .ok (.putfield 33, 3) := by decide +kernel
theorem d_Br_chord_97 : decode prog_1_method_3_code 97 = .ok (.aload_n 0, 1) := by decide +kernel
theorem d_Br_chord_98 : decode prog_1_method_3_code 98 = .ok (.getfield 33, 3) := by decide +kernel
theorem d_Br_chord_101 : decode prog_1_method_3_code 101 = .ok (.iconst 1, 1) := by decide +kernel
theorem d_Br_chord_102 : decode prog_1_method_3_code 102 = .ok (.isub, 1) := by decide +kernel
theorem d_Br_chord_103 : decode prog_1_method_3_code 103 = .ok (.ireturn, 1) := by decide +kernel
def wp_Ch_toneLetter (Post : Int32 → MH → Prop) (l0 : Nat) (l1 : Int32) (h : MH) : Prop :=
  ∃ x1 : Int32, gF h l0 0 0 = some (.inl x1) ∧
  (Post (((x1 + l1) - (1 : Int32)) - ((x1 + l1) - (1 : Int32)) / (7 : Int32) * (7 : Int32)) h)
set_option maxRecDepth 100000 in
set_option maxHeartbeats 4000000 in
theorem t_Ch_toneLetter {p : Program} {l : Launch} {e : Env} {R : Room} {s : State} {m : MethodId} {args : Array Value} {below : List Frame} {meth : Method} {c : Code} (G : mG) (C0 : Cx G p s m args c prog_2_method_10_code 2 "BassRealiser$Chord") (hR : 0 ≤ R.frames ∧ 0 ≤ R.locals ∧ 0 ≤ R.cells ∧ 0 ≤ R.slots) (hr : meth.sig.returnType = some .int) (hlk : meth.locks = false) {Post : Int32 → MH → Prop} (l0 : Nat) (l1 : Int32) (h : MH) (hwp : wp_Ch_toneLetter Post l0 l1 h) : WG p l e R s m args below meth c 0 0 (MQ below (va_Qi Post (Wd G) (mA G)) args s 0 0 (mA G)) G 2 [(0, .ref (m_b G + l0)), (1, .int l1)] 0 [] h := by
  unfold wp_Ch_toneLetter at hwp
  refine x_aload_n C0 0 d_Ch_toneLetter_0 rfl rfl ?_
  obtain ⟨x1, e1, hwp⟩ := hwp
  refine x_getI C0 fk_Ch_22 e1 d_Ch_toneLetter_1 ?_
  refine x_iload_n C0 1 d_Ch_toneLetter_4 rfl rfl ?_
  refine x_iadd C0 d_Ch_toneLetter_5 ?_
  refine x_iconst (v := 1) C0 d_Ch_toneLetter_6 (by decide) ?_
  refine x_isub C0 d_Ch_toneLetter_7 ?_
  refine x_bipush (v := 7) C0 d_Ch_toneLetter_8 (by decide) ?_
  refine x_irem C0 d_Ch_toneLetter_10 (by decide) ?_
  exact x_iret C0 hr hlk hwp d_Ch_toneLetter_11
set_option maxRecDepth 100000 in
set_option maxHeartbeats 4000000 in
theorem c_Ch_toneLetter (l : Launch) (G : mG) {Post : Int32 → MH → Prop} {l0 : Nat} {l1 : Int32} {h : MH} (hwp : wp_Ch_toneLetter Post l0 l1 h) : Met l y_Ch_toneLetter (Cond.code y_Ch_toneLetter prog_2_method_10_code 2 (Option.some Jvm.ClassFile.FieldType.int) :: lw_good) ({ frames := 0, cells := 0, slots := 0, locals := 0 }) (va_Pc [.ref (m_b G + l0), .int l1] (Wd G h)) (va_Qi Post (Wd G) (mA G)) 0 0 (mA G) := by
  refine Met.ofW (cc := prog_2_method_10_code) (maxL := 2) (ret := (Option.some Jvm.ClassFile.FieldType.int)) (by decide +kernel) rfl ?_
  intro p e s m args below meth c s₁ B hml hv
  obtain ⟨rfl, hP, hz, hK, hSt⟩ := hv
  have hts := atoms_spec (ws := Cond.code y_Ch_toneLetter prog_2_method_10_code 2 (Option.some Jvm.ClassFile.FieldType.int) :: lw_good) B.pre
  have C0 : Cx G p s m ([.ref (m_b G + l0), .int l1] : List Value).toArray c prog_2_method_10_code 2 "BassRealiser$Chord" := ⟨⟨B.exec, B.bytes, hml, findClass_of_methodNamed B.named, fun w h => hts w (List.mem_cons_of_mem _ h)⟩, hK, hSt, by rw [hz]; exact Nat.le_add_right _ _⟩
  have hl := lv_entry ([.ref (m_b G + l0), .int l1]) (n := 2) (Nat.le_of_ble_eq_true rfl)
  rw [lg_entry_eq]
  exact t_Ch_toneLetter G C0 ⟨Nat.le_refl _, Nat.le_refl _, Nat.le_refl _, Nat.le_refl _⟩ B.returns B.notSynchronized _ _ _ hwp _ _ _ ⟨hP, hz, va_S.rf⟩ hl
def wb_Br_keyAlter_27 (K27 : Int32 → Int32 → Nat → Int32 → Int32 → MH → Prop) (Post : Int32 → MH → Prop) (l0 : Int32) (l1 : Int32) (l2 : Nat) (l3 : Int32) (l4 : Int32) (h : MH) : Prop :=
  ((l3 ≤ l4) →
    (Post (0 : Int32) h)) ∧
  ((¬ l3 ≤ l4) →
    (l2 < m_nS ∧ vp_in l4 (m_sN l2) ∧
      (((¬ (m_sV l2 (l4).toNatClampNeg) = l0) →
          (K27 l0 l1 l2 l3 (l4 + (1 : Int32)) h)) ∧
        (((m_sV l2 (l4).toNatClampNeg) = l0) →
          (((l1 ≤ 0) →
              (Post (-1 : Int32) h)) ∧
            ((¬ l1 ≤ 0) →
              (Post (1 : Int32) h)))))))
def wn_Br_keyAlter_27 (Post : Int32 → MH → Prop) : Nat → Int32 → Int32 → Nat → Int32 → Int32 → MH → Prop
  | 0 => fun _ _ _ _ _ _ => False
  | n + 1 => wb_Br_keyAlter_27 (wn_Br_keyAlter_27 Post n) Post
def wp_Br_keyAlter_27 (Post : Int32 → MH → Prop) (l0 : Int32) (l1 : Int32) (l2 : Nat) (l3 : Int32) (l4 : Int32) (h : MH) : Prop := ∃ n, wn_Br_keyAlter_27 Post n l0 l1 l2 l3 l4 h
def wp_Br_keyAlter_13 (Post : Int32 → MH → Prop) (l0 : Int32) (l1 : Int32) (y0 : Nat) (h : MH) : Prop :=
  y0 < m_nS ∧
  (∀ z23 : Int32, z23 = (if (nI (m_sN y0)) < (if 0 ≤ l1 then l1 else 0 - l1) then (nI (m_sN y0)) else (if 0 ≤ l1 then l1 else 0 - l1)) →
    (wp_Br_keyAlter_27 Post l0 l1 y0 z23 (0 : Int32) h))
def wp_Br_keyAlter (Post : Int32 → MH → Prop) (l0 : Int32) (l1 : Int32) (h : MH) : Prop :=
  ((l1 ≤ 0) →
    (wp_Br_keyAlter_13 Post l0 l1 2 h)) ∧
  ((¬ l1 ≤ 0) →
    (wp_Br_keyAlter_13 Post l0 l1 1 h))
set_option maxRecDepth 100000 in
set_option maxHeartbeats 4000000 in
theorem tb_Br_keyAlter_27 {p : Program} {l : Launch} {e : Env} {R : Room} {s : State} {m : MethodId} {args : Array Value} {below : List Frame} {meth : Method} {c : Code} (G : mG) (C0 : Cx G p s m args c prog_1_method_34_code 5 "BassRealiser") (hR : 1 ≤ R.frames ∧ 21 ≤ R.locals ∧ 0 ≤ R.cells ∧ 0 ≤ R.slots) (hr : meth.sig.returnType = some .int) (hlk : meth.locks = false) {Post : Int32 → MH → Prop} {K27 : Int32 → Int32 → Nat → Int32 → Int32 → MH → Prop} (hK27 : ∀ (l0 : Int32) (l1 : Int32) (l2 : Nat) (l3 : Int32) (l4 : Int32) (h : MH), K27 l0 l1 l2 l3 l4 h → WG p l e R s m args below meth c 0 0 (MQ below (va_Qi Post (Wd G) (mA G)) args s 0 0 (mA G)) G 5 [(0, .int l0), (1, .int l1), (2, .ref (m_s G l2)), (3, .int l3), (4, .int l4)] 27 [] h) (l0 : Int32) (l1 : Int32) (l2 : Nat) (l3 : Int32) (l4 : Int32) (h : MH) (hwp : wb_Br_keyAlter_27 K27 Post l0 l1 l2 l3 l4 h) : WG p l e R s m args below meth c 0 0 (MQ below (va_Qi Post (Wd G) (mA G)) args s 0 0 (mA G)) G 5 [(0, .int l0), (1, .int l1), (2, .ref (m_s G l2)), (3, .int l3), (4, .int l4)] 27 [] h := by
  unfold wb_Br_keyAlter_27 at hwp
  refine x_iload C0 4 d_Br_keyAlter_27 rfl ?_
  refine x_iload_n C0 3 d_Br_keyAlter_29 rfl rfl ?_
  refine x_icmp_ge (tgt := 57) C0 d_Br_keyAlter_30 (by decide) (fun c30 => ?_) (fun c30 => ?_)
  · replace hwp := hwp.1 c30
    refine x_iconst (v := 0) C0 d_Br_keyAlter_57 (by decide) ?_
    exact x_iret C0 hr hlk hwp d_Br_keyAlter_58
  · replace hwp := hwp.2 c30
    refine x_aload_n C0 2 d_Br_keyAlter_33 rfl rfl ?_
    refine x_iload C0 4 d_Br_keyAlter_34 rfl ?_
    obtain ⟨e36, i36, hwp⟩ := hwp
    refine x_sald C0 e36 i36 d_Br_keyAlter_36 ?_
    refine x_iload_n C0 0 d_Br_keyAlter_37 rfl rfl ?_
    refine x_icmp_ne (tgt := 51) C0 d_Br_keyAlter_38 (by decide) (fun c38 => ?_) (fun c38 => ?_)
    · replace hwp := hwp.1 c38
      refine x_iinc C0 4 d_Br_keyAlter_51 rfl rfl (by decide) (lv' := [(4, .int (l4 + (1 : Int32))), (0, .int l0), (1, .int l1), (2, .ref (m_s G l2)), (3, .int l3)]) rfl ?_
      refine x_goto (tgt := 27) C0 d_Br_keyAlter_54 (by decide) ?_
      exact x_sub [1, 2, 3, 4, 0] rfl (hK27 _ _ _ _ _ _ hwp)
    · replace hwp := hwp.2 c38
      refine x_iload_n C0 1 d_Br_keyAlter_41 rfl rfl ?_
      refine x_if_le (tgt := 49) C0 d_Br_keyAlter_42 (by decide) (fun c42 => ?_) (fun c42 => ?_)
      · replace hwp := hwp.1 c42
        refine x_iconst (v := -1) C0 d_Br_keyAlter_49 (by decide) ?_
        exact x_iret C0 hr hlk hwp d_Br_keyAlter_50
      · replace hwp := hwp.2 c42
        refine x_iconst (v := 1) C0 d_Br_keyAlter_45 (by decide) ?_
        refine x_goto (tgt := 50) C0 d_Br_keyAlter_46 (by decide) ?_
        exact x_iret C0 hr hlk hwp d_Br_keyAlter_50
theorem t_Br_keyAlter_27 {p : Program} {l : Launch} {e : Env} {R : Room} {s : State} {m : MethodId} {args : Array Value} {below : List Frame} {meth : Method} {c : Code} (G : mG) (C0 : Cx G p s m args c prog_1_method_34_code 5 "BassRealiser") (hR : 1 ≤ R.frames ∧ 21 ≤ R.locals ∧ 0 ≤ R.cells ∧ 0 ≤ R.slots) (hr : meth.sig.returnType = some .int) (hlk : meth.locks = false) {Post : Int32 → MH → Prop} (l0 : Int32) (l1 : Int32) (l2 : Nat) (l3 : Int32) (l4 : Int32) (h : MH) (hwp : wp_Br_keyAlter_27 Post l0 l1 l2 l3 l4 h) : WG p l e R s m args below meth c 0 0 (MQ below (va_Qi Post (Wd G) (mA G)) args s 0 0 (mA G)) G 5 [(0, .int l0), (1, .int l1), (2, .ref (m_s G l2)), (3, .int l3), (4, .int l4)] 27 [] h := by
  obtain ⟨n, hwp⟩ := hwp
  induction n generalizing l0 l1 l2 l3 l4 h with
  | zero => exact False.elim hwp
  | succ n ih => exact tb_Br_keyAlter_27 G C0 hR hr hlk (fun l0 l1 l2 l3 l4 h hwp => ih l0 l1 l2 l3 l4 h hwp) l0 l1 l2 l3 l4 h hwp
set_option maxRecDepth 100000 in
set_option maxHeartbeats 4000000 in
theorem t_Br_keyAlter_13 {p : Program} {l : Launch} {e : Env} {R : Room} {s : State} {m : MethodId} {args : Array Value} {below : List Frame} {meth : Method} {c : Code} (G : mG) (C0 : Cx G p s m args c prog_1_method_34_code 5 "BassRealiser") (hR : 1 ≤ R.frames ∧ 21 ≤ R.locals ∧ 0 ≤ R.cells ∧ 0 ≤ R.slots) (hr : meth.sig.returnType = some .int) (hlk : meth.locks = false) {Post : Int32 → MH → Prop} (l0 : Int32) (l1 : Int32) (y0 : Nat) (h : MH) (hwp : wp_Br_keyAlter_13 Post l0 l1 y0 h) : WG p l e R s m args below meth c 0 0 (MQ below (va_Qi Post (Wd G) (mA G)) args s 0 0 (mA G)) G 5 [(0, .int l0), (1, .int l1)] 13 [.ref (m_s G y0)] h := by
  unfold wp_Br_keyAlter_13 at hwp
  refine x_astore_n C0 d_Br_keyAlter_13 rfl (by decide) (lv' := [(2, .ref (m_s G y0)), (0, .int l0), (1, .int l1)]) rfl ?_
  refine x_iload_n C0 2 d_Br_keyAlter_14 rfl rfl ?_
  refine x_mabs C0 kw_2_20 kw_2_21 kw_1_8 kw_2_22 d_Br_keyAlter_15 ⟨Nat.le_trans (by decide) hR.1, Nat.le_trans (by decide) hR.2.1⟩ ⟨Nat.zero_le _, Nat.zero_le _⟩ (Nat.le_of_ble_eq_true rfl) ?_
  refine x_aload_n C0 0 d_Br_keyAlter_18 rfl rfl ?_
  obtain ⟨e19, hwp⟩ := hwp
  refine x_slen C0 e19 d_Br_keyAlter_19 ?_
  refine x_mmin C0 kw_2_23 kw_2_24 kw_1_8 kw_2_25 d_Br_keyAlter_20 ⟨Nat.le_trans (by decide) hR.1, Nat.le_trans (by decide) hR.2.1⟩ ⟨Nat.zero_le _, Nat.zero_le _⟩ (Nat.le_of_ble_eq_true rfl) ?_
  refine x_topI (fun z23 e23 => ?_)
  replace hwp := hwp z23 e23
  refine x_istore_n C0 d_Br_keyAlter_23 rfl (by decide) (lv' := [(3, .int z23), (2, .ref (m_s G y0)), (0, .int l0), (1, .int l1)]) rfl ?_
  refine x_iconst (v := 0) C0 d_Br_keyAlter_24 (by decide) ?_
  refine x_istore C0 d_Br_keyAlter_25 (by decide) (lv' := [(4, .int (0 : Int32)), (3, .int z23), (2, .ref (m_s G y0)), (0, .int l0), (1, .int l1)]) rfl ?_
  exact x_sub [3, 4, 2, 1, 0] rfl (t_Br_keyAlter_27 G C0 hR hr hlk  _ _ _ _ _ _ hwp)
set_option maxRecDepth 100000 in
set_option maxHeartbeats 4000000 in
theorem t_Br_keyAlter {p : Program} {l : Launch} {e : Env} {R : Room} {s : State} {m : MethodId} {args : Array Value} {below : List Frame} {meth : Method} {c : Code} (G : mG) (C0 : Cx G p s m args c prog_1_method_34_code 5 "BassRealiser") (hR : 1 ≤ R.frames ∧ 21 ≤ R.locals ∧ 0 ≤ R.cells ∧ 0 ≤ R.slots) (hr : meth.sig.returnType = some .int) (hlk : meth.locks = false) {Post : Int32 → MH → Prop} (l0 : Int32) (l1 : Int32) (h : MH) (hwp : wp_Br_keyAlter Post l0 l1 h) : WG p l e R s m args below meth c 0 0 (MQ below (va_Qi Post (Wd G) (mA G)) args s 0 0 (mA G)) G 5 [(0, .int l0), (1, .int l1)] 0 [] h := by
  unfold wp_Br_keyAlter at hwp
  refine x_iload_n C0 1 d_Br_keyAlter_0 rfl rfl ?_
  refine x_if_le (tgt := 10) C0 d_Br_keyAlter_1 (by decide) (fun c1 => ?_) (fun c1 => ?_)
  · replace hwp := hwp.1 c1
    refine x_gets C0 2 (by decide) kw_2_18 d_Br_keyAlter_10 ?_
    exact x_sub [0, 1] rfl (t_Br_keyAlter_13 G C0 hR hr hlk  _ _ _ _ hwp)
  · replace hwp := hwp.2 c1
    refine x_gets C0 1 (by decide) kw_2_16 d_Br_keyAlter_4 ?_
    refine x_goto (tgt := 13) C0 d_Br_keyAlter_7 (by decide) ?_
    exact x_sub [0, 1] rfl (t_Br_keyAlter_13 G C0 hR hr hlk  _ _ _ _ hwp)
set_option maxRecDepth 100000 in
set_option maxHeartbeats 4000000 in
theorem c_Br_keyAlter (l : Launch) (G : mG) {Post : Int32 → MH → Prop} {l0 : Int32} {l1 : Int32} {h : MH} (hwp : wp_Br_keyAlter Post l0 l1 h) : Met l y_Br_keyAlter (Cond.code y_Br_keyAlter prog_1_method_34_code 5 (Option.some Jvm.ClassFile.FieldType.int) :: lw_good) ({ frames := 1, cells := 0, slots := 0, locals := 21 }) (va_Pc [.int l0, .int l1] (Wd G h)) (va_Qi Post (Wd G) (mA G)) 0 0 (mA G) := by
  refine Met.ofW (cc := prog_1_method_34_code) (maxL := 5) (ret := (Option.some Jvm.ClassFile.FieldType.int)) (by decide +kernel) rfl ?_
  intro p e s m args below meth c s₁ B hml hv
  obtain ⟨rfl, hP, hz, hK, hSt⟩ := hv
  have hts := atoms_spec (ws := Cond.code y_Br_keyAlter prog_1_method_34_code 5 (Option.some Jvm.ClassFile.FieldType.int) :: lw_good) B.pre
  have C0 : Cx G p s m ([.int l0, .int l1] : List Value).toArray c prog_1_method_34_code 5 "BassRealiser" := ⟨⟨B.exec, B.bytes, hml, findClass_of_methodNamed B.named, fun w h => hts w (List.mem_cons_of_mem _ h)⟩, hK, hSt, by rw [hz]; exact Nat.le_add_right _ _⟩
  have hl := lv_entry ([.int l0, .int l1]) (n := 5) (Nat.le_of_ble_eq_true rfl)
  rw [lg_entry_eq]
  exact t_Br_keyAlter G C0 ⟨Nat.le_refl _, Nat.le_refl _, Nat.le_refl _, Nat.le_refl _⟩ B.returns B.notSynchronized _ _ _ hwp _ _ _ ⟨hP, hz, va_S.rf⟩ hl
def wp_Ch_toneAlter (Post : Int32 → MH → Prop) (l0 : Nat) (l1 : Int32) (l2 : Int32) (h : MH) : Prop :=
  ∃ x1 : Nat, gF h l0 0 4 = some (.inr (some x1)) ∧
  (∃ (n5 : Nat) (f5 : Nat → Int32), gA h x1 0 = some (n5, f5) ∧ vp_in l1 n5 ∧
    (((f5 (l1).toNatClampNeg) = (1 : Int32) →
        (Post (1 : Int32) h)) ∧
      ((f5 (l1).toNatClampNeg) = (2 : Int32) →
        (Post (-1 : Int32) h)) ∧
      ((f5 (l1).toNatClampNeg) = (3 : Int32) →
        (Post (0 : Int32) h)) ∧
      (¬ (f5 (l1).toNatClampNeg) = (1 : Int32) → ¬ (f5 (l1).toNatClampNeg) = (2 : Int32) → ¬ (f5 (l1).toNatClampNeg) = (3 : Int32) →
        (gC h l0 = some 0 ∧ wp_Ch_toneLetter (fun (r40 : Int32) (h40 : MH) =>
            (wp_Br_keyAlter (fun (r44 : Int32) (h44 : MH) =>
                (Post r44 h44)) r40 l2 h40)) l0 l1 h))))
set_option maxRecDepth 100000 in
set_option maxHeartbeats 4000000 in
theorem t_Ch_toneAlter {p : Program} {l : Launch} {e : Env} {R : Room} {s : State} {m : MethodId} {args : Array Value} {below : List Frame} {meth : Method} {c : Code} (G : mG) (C0 : Cx G p s m args c prog_2_method_11_code 3 "BassRealiser$Chord") (hR : 2 ≤ R.frames ∧ 45 ≤ R.locals ∧ 0 ≤ R.cells ∧ 0 ≤ R.slots) (hr : meth.sig.returnType = some .int) (hlk : meth.locks = false) {Post : Int32 → MH → Prop} (l0 : Nat) (l1 : Int32) (l2 : Int32) (h : MH) (hwp : wp_Ch_toneAlter Post l0 l1 l2 h) : WG p l e R s m args below meth c 0 0 (MQ below (va_Qi Post (Wd G) (mA G)) args s 0 0 (mA G)) G 3 [(0, .ref (m_b G + l0)), (1, .int l1), (2, .int l2)] 0 [] h := by
  unfold wp_Ch_toneAlter at hwp
  refine x_aload_n C0 0 d_Ch_toneAlter_0 rfl rfl ?_
  obtain ⟨x1, e1, hwp⟩ := hwp
  refine x_getR C0 fk_Ch_9 e1 d_Ch_toneAlter_1 ?_
  refine x_iload_n C0 1 d_Ch_toneAlter_4 rfl rfl ?_
  obtain ⟨n5, f5, e5, i5, hwp⟩ := hwp
  refine x_iald C0 e5 i5 d_Ch_toneAlter_5 ?_
  by_cases c6_1 : (f5 (l1).toNatClampNeg) = (1 : Int32)
  · replace hwp := hwp.1 c6_1
    refine x_tableIn (tgt := 32) (off := 26) C0 d_Ch_toneAlter_6 (by rw [c6_1]; decide) (by rw [c6_1]; decide) (by rw [c6_1]; rfl) (by decide) ?_
    refine x_iconst (v := 1) C0 d_Ch_toneAlter_32 (by decide) ?_
    exact x_iret C0 hr hlk hwp d_Ch_toneAlter_33
  by_cases c6_2 : (f5 (l1).toNatClampNeg) = (2 : Int32)
  · replace hwp := hwp.2.1 c6_2
    refine x_tableIn (tgt := 34) (off := 28) C0 d_Ch_toneAlter_6 (by rw [c6_2]; decide) (by rw [c6_2]; decide) (by rw [c6_2]; rfl) (by decide) ?_
    refine x_iconst (v := -1) C0 d_Ch_toneAlter_34 (by decide) ?_
    exact x_iret C0 hr hlk hwp d_Ch_toneAlter_35
  by_cases c6_3 : (f5 (l1).toNatClampNeg) = (3 : Int32)
  · replace hwp := hwp.2.2.1 c6_3
    refine x_tableIn (tgt := 36) (off := 30) C0 d_Ch_toneAlter_6 (by rw [c6_3]; decide) (by rw [c6_3]; decide) (by rw [c6_3]; rfl) (by decide) ?_
    refine x_iconst (v := 0) C0 d_Ch_toneAlter_36 (by decide) ?_
    exact x_iret C0 hr hlk hwp d_Ch_toneAlter_37
  have so6 : ((f5 (l1).toNatClampNeg)).toInt < 1 ∨ 3 < ((f5 (l1).toNatClampNeg)).toInt := by
    refine sw_out (fun k h1 h2 => ?_)
    obtain rfl | rfl | rfl : k = 1 ∨ k = 2 ∨ k = 3 := by omega
    · exact c6_1
    · exact c6_2
    · exact c6_3
  replace hwp := hwp.2.2.2 c6_1 c6_2 c6_3
  refine x_tableOut (tgt := 38) C0 d_Ch_toneAlter_6 so6 (by decide) ?_
  refine x_aload_n C0 0 d_Ch_toneAlter_38 rfl rfl ?_
  refine x_iload_n C0 1 d_Ch_toneAlter_39 rfl rfl ?_
  obtain ⟨g40, hwp⟩ := hwp
  refine x_callVi0 (k := l0) (As := [.int l1]) (st := []) C0 (c_Ch_toneLetter l G hwp) kw_2_5 mk_Ch_toneLetter vk_Ch_toneLetter rfl g40 rfl (Nat.le_of_ble_eq_true rfl) rfl rfl ⟨Nat.le_trans (by decide) hR.1, Nat.le_trans (by decide) hR.2.1⟩ ⟨Nat.zero_le _, Nat.zero_le _⟩ rfl d_Ch_toneAlter_40 (fun r40 h40 hwp => ?_)
  refine x_iload_n C0 2 d_Ch_toneAlter_43 rfl rfl ?_
  refine x_callSNi0 (As := [.int r40, .int l2]) (st := []) C0 (c_Br_keyAlter l G hwp) (m_nwA C0 nw_0) mk_Br_keyAlter kw_2_14 rfl (Nat.le_of_ble_eq_true rfl) rfl rfl ⟨Nat.le_trans (by decide) hR.1, Nat.le_trans (by decide) hR.2.1⟩ ⟨Nat.zero_le _, Nat.zero_le _⟩ rfl d_Ch_toneAlter_44 (fun r44 h44 hwp => ?_)
  exact x_iret C0 hr hlk hwp d_Ch_toneAlter_47
set_option maxRecDepth 100000 in
set_option maxHeartbeats 4000000 in
theorem c_Ch_toneAlter (l : Launch) (G : mG) {Post : Int32 → MH → Prop} {l0 : Nat} {l1 : Int32} {l2 : Int32} {h : MH} (hwp : wp_Ch_toneAlter Post l0 l1 l2 h) : Met l y_Ch_toneAlter (Cond.code y_Ch_toneAlter prog_2_method_11_code 3 (Option.some Jvm.ClassFile.FieldType.int) :: lw_good) ({ frames := 2, cells := 0, slots := 0, locals := 45 }) (va_Pc [.ref (m_b G + l0), .int l1, .int l2] (Wd G h)) (va_Qi Post (Wd G) (mA G)) 0 0 (mA G) := by
  refine Met.ofW (cc := prog_2_method_11_code) (maxL := 3) (ret := (Option.some Jvm.ClassFile.FieldType.int)) (by decide +kernel) rfl ?_
  intro p e s m args below meth c s₁ B hml hv
  obtain ⟨rfl, hP, hz, hK, hSt⟩ := hv
  have hts := atoms_spec (ws := Cond.code y_Ch_toneAlter prog_2_method_11_code 3 (Option.some Jvm.ClassFile.FieldType.int) :: lw_good) B.pre
  have C0 : Cx G p s m ([.ref (m_b G + l0), .int l1, .int l2] : List Value).toArray c prog_2_method_11_code 3 "BassRealiser$Chord" := ⟨⟨B.exec, B.bytes, hml, findClass_of_methodNamed B.named, fun w h => hts w (List.mem_cons_of_mem _ h)⟩, hK, hSt, by rw [hz]; exact Nat.le_add_right _ _⟩
  have hl := lv_entry ([.ref (m_b G + l0), .int l1, .int l2]) (n := 3) (Nat.le_of_ble_eq_true rfl)
  rw [lg_entry_eq]
  exact t_Ch_toneAlter G C0 ⟨Nat.le_refl _, Nat.le_refl _, Nat.le_refl _, Nat.le_refl _⟩ B.returns B.notSynchronized _ _ _ _ hwp _ _ _ ⟨hP, hz, va_S.rf⟩ hl
def wp_Ma_floorMod (Post : Int32 → MH → Prop) (l0 : Int32) (l1 : Int32) (h : MH) : Prop :=
  ¬ l1 = 0 ∧
  (∀ z3 : Int32, z3 = l0 - l0 / l1 * l1 →
    (((0 ≤ (l0 ^^^ l1)) →
        (Post z3 h)) ∧
      ((¬ 0 ≤ (l0 ^^^ l1)) →
        (((z3 = 0) →
            (Post z3 h)) ∧
          ((¬ z3 = 0) →
            (Post (z3 + l1) h))))))
set_option maxRecDepth 100000 in
set_option maxHeartbeats 4000000 in
theorem t_Ma_floorMod {p : Program} {l : Launch} {e : Env} {R : Room} {s : State} {m : MethodId} {args : Array Value} {below : List Frame} {meth : Method} {c : Code} (G : mG) (C0 : Cx G p s m args c prog_10_method_50_code 3 "java/lang/Math") (hR : 0 ≤ R.frames ∧ 0 ≤ R.locals ∧ 0 ≤ R.cells ∧ 0 ≤ R.slots) (hr : meth.sig.returnType = some .int) (hlk : meth.locks = false) {Post : Int32 → MH → Prop} (l0 : Int32) (l1 : Int32) (h : MH) (hwp : wp_Ma_floorMod Post l0 l1 h) : WG p l e R s m args below meth c 0 0 (MQ below (va_Qi Post (Wd G) (mA G)) args s 0 0 (mA G)) G 3 [(0, .int l0), (1, .int l1)] 0 [] h := by
  unfold wp_Ma_floorMod at hwp
  refine x_iload_n C0 0 d_Ma_floorMod_0 rfl rfl ?_
  refine x_iload_n C0 1 d_Ma_floorMod_1 rfl rfl ?_
  obtain ⟨e2, hwp⟩ := hwp
  refine x_irem C0 d_Ma_floorMod_2 e2 ?_
  refine x_topI (fun z3 e3 => ?_)
  replace hwp := hwp z3 e3
  refine x_istore_n C0 d_Ma_floorMod_3 rfl (by decide) (lv' := [(2, .int z3), (0, .int l0), (1, .int l1)]) rfl ?_
  refine x_iload_n C0 1 d_Ma_floorMod_4 rfl rfl ?_
  refine x_iload_n C0 2 d_Ma_floorMod_5 rfl rfl ?_
  refine x_ixor C0 d_Ma_floorMod_6 ?_
  refine x_if_ge (tgt := 18) C0 d_Ma_floorMod_7 (by decide) (fun c7 => ?_) (fun c7 => ?_)
  · replace hwp := hwp.1 c7
    refine x_iload_n C0 0 d_Ma_floorMod_18 rfl rfl ?_
    exact x_iret C0 hr hlk hwp d_Ma_floorMod_19
  · replace hwp := hwp.2 c7
    refine x_iload_n C0 0 d_Ma_floorMod_10 rfl rfl ?_
    refine x_if_eq (tgt := 18) C0 d_Ma_floorMod_11 (by decide) (fun c11 => ?_) (fun c11 => ?_)
    · replace hwp := hwp.1 c11
      refine x_iload_n C0 0 d_Ma_floorMod_18 rfl rfl ?_
      exact x_iret C0 hr hlk hwp d_Ma_floorMod_19
    · replace hwp := hwp.2 c11
      refine x_iload_n C0 0 d_Ma_floorMod_14 rfl rfl ?_
      refine x_iload_n C0 2 d_Ma_floorMod_15 rfl rfl ?_
      refine x_iadd C0 d_Ma_floorMod_16 ?_
      exact x_iret C0 hr hlk hwp d_Ma_floorMod_17
set_option maxRecDepth 100000 in
set_option maxHeartbeats 4000000 in
theorem c_Ma_floorMod (l : Launch) (G : mG) {Post : Int32 → MH → Prop} {l0 : Int32} {l1 : Int32} {h : MH} (hwp : wp_Ma_floorMod Post l0 l1 h) : Met l y_Ma_floorMod (Cond.code y_Ma_floorMod prog_10_method_50_code 3 (Option.some Jvm.ClassFile.FieldType.int) :: lw_good) ({ frames := 0, cells := 0, slots := 0, locals := 0 }) (va_Pc [.int l0, .int l1] (Wd G h)) (va_Qi Post (Wd G) (mA G)) 0 0 (mA G) := by
  refine va_MetF (cc := prog_10_method_50_code) (maxL := 3) (ret := (Option.some Jvm.ClassFile.FieldType.int)) (by decide +kernel) rfl ?_
  intro p e s m args below meth c s₁ B hml hv
  obtain ⟨rfl, hP, hz, hK, hSt⟩ := hv
  have hts := atoms_spec (ws := Cond.code y_Ma_floorMod prog_10_method_50_code 3 (Option.some Jvm.ClassFile.FieldType.int) :: lw_good) B.pre
  have C0 : Cx G p s m ([.int l0, .int l1] : List Value).toArray c prog_10_method_50_code 3 "java/lang/Math" := ⟨⟨B.exec, B.bytes, hml, findClass_of_methodNamed B.named, fun w h => hts w (List.mem_cons_of_mem _ h)⟩, hK, hSt, by rw [hz]; exact Nat.le_add_right _ _⟩
  have hl := lv_entry ([.int l0, .int l1]) (n := 3) (Nat.le_of_ble_eq_true rfl)
  rw [lg_entry_eq]
  exact t_Ma_floorMod G C0 ⟨Nat.le_refl _, Nat.le_refl _, Nat.le_refl _, Nat.le_refl _⟩ B.returns B.notSynchronized _ _ _ hwp _ _ _ ⟨hP, hz, va_S.rf⟩ hl
def wp_Ch_toneClass (Post : Int32 → MH → Prop) (l0 : Nat) (l1 : Int32) (l2 : Int32) (h : MH) : Prop :=
  gC h l0 = some 0 ∧ wp_Ch_toneLetter (fun (r5 : Int32) (h5 : MH) =>
    (0 < m_nS ∧ vp_in r5 (m_sN 0) ∧
      (gC h5 l0 = some 0 ∧ wp_Ch_toneAlter (fun (r12 : Int32) (h12 : MH) =>
          (wp_Ma_floorMod (fun (r18 : Int32) (h18 : MH) =>
              (Post r18 h18)) ((m_sV 0 (r5).toNatClampNeg) + r12) (12 : Int32) h12)) l0 l1 l2 h5))) l0 l1 h
set_option maxRecDepth 100000 in
set_option maxHeartbeats 4000000 in
theorem t_Ch_toneClass {p : Program} {l : Launch} {e : Env} {R : Room} {s : State} {m : MethodId} {args : Array Value} {below : List Frame} {meth : Method} {c : Code} (G : mG) (C0 : Cx G p s m args c prog_2_method_12_code 3 "BassRealiser$Chord") (hR : 3 ≤ R.frames ∧ 67 ≤ R.locals ∧ 0 ≤ R.cells ∧ 0 ≤ R.slots) (hr : meth.sig.returnType = some .int) (hlk : meth.locks = false) {Post : Int32 → MH → Prop} (l0 : Nat) (l1 : Int32) (l2 : Int32) (h : MH) (hwp : wp_Ch_toneClass Post l0 l1 l2 h) : WG p l e R s m args below meth c 0 0 (MQ below (va_Qi Post (Wd G) (mA G)) args s 0 0 (mA G)) G 3 [(0, .ref (m_b G + l0)), (1, .int l1), (2, .int l2)] 0 [] h := by
  unfold wp_Ch_toneClass at hwp
  refine x_getsN C0 0 (by decide) (m_nwA C0 nw_1) d_Ch_toneClass_0 ?_
  refine x_aload_n C0 0 d_Ch_toneClass_3 rfl rfl ?_
  refine x_iload_n C0 1 d_Ch_toneClass_4 rfl rfl ?_
  obtain ⟨g5, hwp⟩ := hwp
  refine x_callVi0 (k := l0) (As := [.int l1]) (st := [.ref (m_s G 0)]) C0 (c_Ch_toneLetter l G hwp) kw_2_5 mk_Ch_toneLetter vk_Ch_toneLetter rfl g5 rfl (Nat.le_of_ble_eq_true rfl) rfl rfl ⟨Nat.le_trans (by decide) hR.1, Nat.le_trans (by decide) hR.2.1⟩ ⟨Nat.zero_le _, Nat.zero_le _⟩ rfl d_Ch_toneClass_5 (fun r5 h5 hwp => ?_)
  obtain ⟨e8, i8, hwp⟩ := hwp
  refine x_sald C0 e8 i8 d_Ch_toneClass_8 ?_
  refine x_aload_n C0 0 d_Ch_toneClass_9 rfl rfl ?_
  refine x_iload_n C0 1 d_Ch_toneClass_10 rfl rfl ?_
  refine x_iload_n C0 2 d_Ch_toneClass_11 rfl rfl ?_
  obtain ⟨g12, hwp⟩ := hwp
  refine x_callVi0 (k := l0) (As := [.int l1, .int l2]) (st := [.int (m_sV 0 (r5).toNatClampNeg)]) C0 (c_Ch_toneAlter l G hwp) kw_2_9 mk_Ch_toneAlter vk_Ch_toneAlter rfl g12 rfl (Nat.le_of_ble_eq_true rfl) rfl rfl ⟨Nat.le_trans (by decide) hR.1, Nat.le_trans (by decide) hR.2.1⟩ ⟨Nat.zero_le _, Nat.zero_le _⟩ rfl d_Ch_toneClass_12 (fun r12 h12 hwp => ?_)
  refine x_iadd C0 d_Ch_toneClass_15 ?_
  refine x_bipush (v := 12) C0 d_Ch_toneClass_16 (by decide) ?_
  refine x_callSi0 (As := [.int ((m_sV 0 (r5).toNatClampNeg) + r12), .int (12 : Int32)]) (st := []) C0 (c_Ma_floorMod l G hwp) kw_2_26 mk_Ma_floorMod kw_2_27 rfl (Nat.le_of_ble_eq_true rfl) rfl rfl ⟨Nat.le_trans (by decide) hR.1, Nat.le_trans (by decide) hR.2.1⟩ ⟨Nat.zero_le _, Nat.zero_le _⟩ rfl d_Ch_toneClass_18 (fun r18 h18 hwp => ?_)
  exact x_iret C0 hr hlk hwp d_Ch_toneClass_21
set_option maxRecDepth 100000 in
set_option maxHeartbeats 4000000 in
theorem c_Ch_toneClass (l : Launch) (G : mG) {Post : Int32 → MH → Prop} {l0 : Nat} {l1 : Int32} {l2 : Int32} {h : MH} (hwp : wp_Ch_toneClass Post l0 l1 l2 h) : Met l y_Ch_toneClass (Cond.code y_Ch_toneClass prog_2_method_12_code 3 (Option.some Jvm.ClassFile.FieldType.int) :: lw_good) ({ frames := 3, cells := 0, slots := 0, locals := 67 }) (va_Pc [.ref (m_b G + l0), .int l1, .int l2] (Wd G h)) (va_Qi Post (Wd G) (mA G)) 0 0 (mA G) := by
  refine Met.ofW (cc := prog_2_method_12_code) (maxL := 3) (ret := (Option.some Jvm.ClassFile.FieldType.int)) (by decide +kernel) rfl ?_
  intro p e s m args below meth c s₁ B hml hv
  obtain ⟨rfl, hP, hz, hK, hSt⟩ := hv
  have hts := atoms_spec (ws := Cond.code y_Ch_toneClass prog_2_method_12_code 3 (Option.some Jvm.ClassFile.FieldType.int) :: lw_good) B.pre
  have C0 : Cx G p s m ([.ref (m_b G + l0), .int l1, .int l2] : List Value).toArray c prog_2_method_12_code 3 "BassRealiser$Chord" := ⟨⟨B.exec, B.bytes, hml, findClass_of_methodNamed B.named, fun w h => hts w (List.mem_cons_of_mem _ h)⟩, hK, hSt, by rw [hz]; exact Nat.le_add_right _ _⟩
  have hl := lv_entry ([.ref (m_b G + l0), .int l1, .int l2]) (n := 3) (Nat.le_of_ble_eq_true rfl)
  rw [lg_entry_eq]
  exact t_Ch_toneClass G C0 ⟨Nat.le_refl _, Nat.le_refl _, Nat.le_refl _, Nat.le_refl _⟩ B.returns B.notSynchronized _ _ _ _ hwp _ _ _ ⟨hP, hz, va_S.rf⟩ hl
def wp_Ch_kind_52 (Post : Int32 → MH → Prop) (l1 : Int32) (y0 : Int32) (h : MH) : Prop :=
  ((l1 = (9 : Int32)) →
    (Post (1 : Int32) h)) ∧
  ((¬ l1 = (9 : Int32)) →
    (((y0 = 0) →
        (Post (0 : Int32) h)) ∧
      ((¬ y0 = 0) →
        (Post (1 : Int32) h))))
def wp_Ch_kind_51 (Post : Int32 → MH → Prop) (l1 : Int32) (h : MH) : Prop :=
  wp_Ch_kind_52 Post l1 (0 : Int32) h
def wp_Ch_kind (Post : Int32 → MH → Prop) (l0 : Nat) (l1 : Int32) (h : MH) : Prop :=
  ((¬ l1 = (7 : Int32)) →
    (((¬ l1 = (4 : Int32)) →
        (wp_Ch_kind_51 Post l1 h)) ∧
      ((l1 = (4 : Int32)) →
        (∃ x14 : Int32, gF h l0 0 3 = some (.inl x14) ∧
          (wp_Ch_has (fun (r18 : Int32) (h18 : MH) =>
              (((¬ r18 = 0) →
                  (wp_Ch_kind_51 Post l1 h18)) ∧
                ((r18 = 0) →
                  (∃ x25 : Int32, gF h18 l0 0 3 = some (.inl x25) ∧
                    (wp_Ch_has (fun (r29 : Int32) (h29 : MH) =>
                        (((¬ r29 = 0) →
                        (wp_Ch_kind_51 Post l1 h29)) ∧
                        ((r29 = 0) →
                        (∃ x36 : Int32, gF h29 l0 0 3 = some (.inl x36) ∧
                        (wp_Ch_has (fun (r41 : Int32) (h41 : MH) =>
                        (((¬ r41 = 0) →
                        (wp_Ch_kind_51 Post l1 h41)) ∧
                        ((r41 = 0) →
                        (wp_Ch_kind_52 Post l1 (1 : Int32) h41)))) x36 (6 : Int32) h29))))) x25 (3 : Int32) h18))))) x14 (2 : Int32) h))))) ∧
  ((l1 = (7 : Int32)) →
    (Post (2 : Int32) h))
set_option maxRecDepth 100000 in
set_option maxHeartbeats 4000000 in
theorem t_Ch_kind_52 {p : Program} {l : Launch} {e : Env} {R : Room} {s : State} {m : MethodId} {args : Array Value} {below : List Frame} {meth : Method} {c : Code} (G : mG) (C0 : Cx G p s m args c prog_2_method_13_code 3 "BassRealiser$Chord") (hR : 1 ≤ R.frames ∧ 21 ≤ R.locals ∧ 0 ≤ R.cells ∧ 0 ≤ R.slots) (hr : meth.sig.returnType = some .int) (hlk : meth.locks = false) {Post : Int32 → MH → Prop} (l1 : Int32) (y0 : Int32) (h : MH) (hwp : wp_Ch_kind_52 Post l1 y0 h) : WG p l e R s m args below meth c 0 0 (MQ below (va_Qi Post (Wd G) (mA G)) args s 0 0 (mA G)) G 3 [(1, .int l1)] 52 [.int y0] h := by
  unfold wp_Ch_kind_52 at hwp
  refine x_istore_n C0 d_Ch_kind_52 rfl (by decide) (lv' := [(2, .int y0), (1, .int l1)]) rfl ?_
  refine x_iload_n C0 1 d_Ch_kind_53 rfl rfl ?_
  refine x_bipush (v := 9) C0 d_Ch_kind_54 (by decide) ?_
  refine x_icmp_eq (tgt := 63) C0 d_Ch_kind_56 (by decide) (fun c56 => ?_) (fun c56 => ?_)
  · replace hwp := hwp.1 c56
    refine x_iconst (v := 1) C0 d_Ch_kind_63 (by decide) ?_
    refine x_goto (tgt := 68) C0 d_Ch_kind_64 (by decide) ?_
    exact x_iret C0 hr hlk hwp d_Ch_kind_68
  · replace hwp := hwp.2 c56
    refine x_iload_n C0 0 d_Ch_kind_59 rfl rfl ?_
    refine x_if_eq (tgt := 67) C0 d_Ch_kind_60 (by decide) (fun c60 => ?_) (fun c60 => ?_)
    · replace hwp := hwp.1 c60
      refine x_iconst (v := 0) C0 d_Ch_kind_67 (by decide) ?_
      exact x_iret C0 hr hlk hwp d_Ch_kind_68
    · replace hwp := hwp.2 c60
      refine x_iconst (v := 1) C0 d_Ch_kind_63 (by decide) ?_
      refine x_goto (tgt := 68) C0 d_Ch_kind_64 (by decide) ?_
      exact x_iret C0 hr hlk hwp d_Ch_kind_68
set_option maxRecDepth 100000 in
set_option maxHeartbeats 4000000 in
theorem t_Ch_kind_51 {p : Program} {l : Launch} {e : Env} {R : Room} {s : State} {m : MethodId} {args : Array Value} {below : List Frame} {meth : Method} {c : Code} (G : mG) (C0 : Cx G p s m args c prog_2_method_13_code 3 "BassRealiser$Chord") (hR : 1 ≤ R.frames ∧ 21 ≤ R.locals ∧ 0 ≤ R.cells ∧ 0 ≤ R.slots) (hr : meth.sig.returnType = some .int) (hlk : meth.locks = false) {Post : Int32 → MH → Prop} (l1 : Int32) (h : MH) (hwp : wp_Ch_kind_51 Post l1 h) : WG p l e R s m args below meth c 0 0 (MQ below (va_Qi Post (Wd G) (mA G)) args s 0 0 (mA G)) G 3 [(1, .int l1)] 51 [] h := by
  unfold wp_Ch_kind_51 at hwp
  refine x_iconst (v := 0) C0 d_Ch_kind_51 (by decide) ?_
  exact x_sub [0] rfl (t_Ch_kind_52 G C0 hR hr hlk  _ _ _ hwp)
set_option maxRecDepth 100000 in
set_option maxHeartbeats 4000000 in
theorem t_Ch_kind {p : Program} {l : Launch} {e : Env} {R : Room} {s : State} {m : MethodId} {args : Array Value} {below : List Frame} {meth : Method} {c : Code} (G : mG) (C0 : Cx G p s m args c prog_2_method_13_code 3 "BassRealiser$Chord") (hR : 1 ≤ R.frames ∧ 21 ≤ R.locals ∧ 0 ≤ R.cells ∧ 0 ≤ R.slots) (hr : meth.sig.returnType = some .int) (hlk : meth.locks = false) {Post : Int32 → MH → Prop} (l0 : Nat) (l1 : Int32) (h : MH) (hwp : wp_Ch_kind Post l0 l1 h) : WG p l e R s m args below meth c 0 0 (MQ below (va_Qi Post (Wd G) (mA G)) args s 0 0 (mA G)) G 3 [(0, .ref (m_b G + l0)), (1, .int l1)] 0 [] h := by
  unfold wp_Ch_kind at hwp
  refine x_iload_n C0 1 d_Ch_kind_0 rfl rfl ?_
  refine x_bipush (v := 7) C0 d_Ch_kind_1 (by decide) ?_
  refine x_icmp_ne (tgt := 8) C0 d_Ch_kind_3 (by decide) (fun c3 => ?_) (fun c3 => ?_)
  · replace hwp := hwp.1 c3
    refine x_iload_n C0 1 d_Ch_kind_8 rfl rfl ?_
    refine x_iconst (v := 4) C0 d_Ch_kind_9 (by decide) ?_
    refine x_icmp_ne (tgt := 51) C0 d_Ch_kind_10 (by decide) (fun c10 => ?_) (fun c10 => ?_)
    · replace hwp := hwp.1 c10
      exact x_sub [1] rfl (t_Ch_kind_51 G C0 hR hr hlk  _ _ hwp)
    · replace hwp := hwp.2 c10
      refine x_aload_n C0 0 d_Ch_kind_13 rfl rfl ?_
      obtain ⟨x14, e14, hwp⟩ := hwp
      refine x_getI C0 fk_Ch_41 e14 d_Ch_kind_14 ?_
      refine x_iconst (v := 2) C0 d_Ch_kind_17 (by decide) ?_
      refine x_callSi0 (As := [.int x14, .int (2 : Int32)]) (st := []) C0 (c_Ch_has l G hwp) kw_1_236 mk_Ch_has kw_1_237 rfl (Nat.le_of_ble_eq_true rfl) rfl rfl ⟨Nat.le_trans (by decide) hR.1, Nat.le_trans (by decide) hR.2.1⟩ ⟨Nat.zero_le _, Nat.zero_le _⟩ rfl d_Ch_kind_18 (fun r18 h18 hwp => ?_)
      refine x_if_ne (tgt := 51) C0 d_Ch_kind_21 (by decide) (fun c21 => ?_) (fun c21 => ?_)
      · replace hwp := hwp.1 c21
        exact x_sub [1] rfl (t_Ch_kind_51 G C0 hR hr hlk  _ _ hwp)
      · replace hwp := hwp.2 c21
        refine x_aload_n C0 0 d_Ch_kind_24 rfl rfl ?_
        obtain ⟨x25, e25, hwp⟩ := hwp
        refine x_getI C0 fk_Ch_41 e25 d_Ch_kind_25 ?_
        refine x_iconst (v := 3) C0 d_Ch_kind_28 (by decide) ?_
        refine x_callSi0 (As := [.int x25, .int (3 : Int32)]) (st := []) C0 (c_Ch_has l G hwp) kw_1_236 mk_Ch_has kw_1_237 rfl (Nat.le_of_ble_eq_true rfl) rfl rfl ⟨Nat.le_trans (by decide) hR.1, Nat.le_trans (by decide) hR.2.1⟩ ⟨Nat.zero_le _, Nat.zero_le _⟩ rfl d_Ch_kind_29 (fun r29 h29 hwp => ?_)
        refine x_if_ne (tgt := 51) C0 d_Ch_kind_32 (by decide) (fun c32 => ?_) (fun c32 => ?_)
        · replace hwp := hwp.1 c32
          exact x_sub [1] rfl (t_Ch_kind_51 G C0 hR hr hlk  _ _ hwp)
        · replace hwp := hwp.2 c32
          refine x_aload_n C0 0 d_Ch_kind_35 rfl rfl ?_
          obtain ⟨x36, e36, hwp⟩ := hwp
          refine x_getI C0 fk_Ch_41 e36 d_Ch_kind_36 ?_
          refine x_bipush (v := 6) C0 d_Ch_kind_39 (by decide) ?_
          refine x_callSi0 (As := [.int x36, .int (6 : Int32)]) (st := []) C0 (c_Ch_has l G hwp) kw_1_236 mk_Ch_has kw_1_237 rfl (Nat.le_of_ble_eq_true rfl) rfl rfl ⟨Nat.le_trans (by decide) hR.1, Nat.le_trans (by decide) hR.2.1⟩ ⟨Nat.zero_le _, Nat.zero_le _⟩ rfl d_Ch_kind_41 (fun r41 h41 hwp => ?_)
          refine x_if_ne (tgt := 51) C0 d_Ch_kind_44 (by decide) (fun c44 => ?_) (fun c44 => ?_)
          · replace hwp := hwp.1 c44
            exact x_sub [1] rfl (t_Ch_kind_51 G C0 hR hr hlk  _ _ hwp)
          · replace hwp := hwp.2 c44
            refine x_iconst (v := 1) C0 d_Ch_kind_47 (by decide) ?_
            refine x_goto (tgt := 52) C0 d_Ch_kind_48 (by decide) ?_
            exact x_sub [1] rfl (t_Ch_kind_52 G C0 hR hr hlk  _ _ _ hwp)
  · replace hwp := hwp.2 c3
    refine x_iconst (v := 2) C0 d_Ch_kind_6 (by decide) ?_
    exact x_iret C0 hr hlk hwp d_Ch_kind_7
set_option maxRecDepth 100000 in
set_option maxHeartbeats 4000000 in
theorem c_Ch_kind (l : Launch) (G : mG) {Post : Int32 → MH → Prop} {l0 : Nat} {l1 : Int32} {h : MH} (hwp : wp_Ch_kind Post l0 l1 h) : Met l y_Ch_kind (Cond.code y_Ch_kind prog_2_method_13_code 3 (Option.some Jvm.ClassFile.FieldType.int) :: lw_good) ({ frames := 1, cells := 0, slots := 0, locals := 21 }) (va_Pc [.ref (m_b G + l0), .int l1] (Wd G h)) (va_Qi Post (Wd G) (mA G)) 0 0 (mA G) := by
  refine Met.ofW (cc := prog_2_method_13_code) (maxL := 3) (ret := (Option.some Jvm.ClassFile.FieldType.int)) (by decide +kernel) rfl ?_
  intro p e s m args below meth c s₁ B hml hv
  obtain ⟨rfl, hP, hz, hK, hSt⟩ := hv
  have hts := atoms_spec (ws := Cond.code y_Ch_kind prog_2_method_13_code 3 (Option.some Jvm.ClassFile.FieldType.int) :: lw_good) B.pre
  have C0 : Cx G p s m ([.ref (m_b G + l0), .int l1] : List Value).toArray c prog_2_method_13_code 3 "BassRealiser$Chord" := ⟨⟨B.exec, B.bytes, hml, findClass_of_methodNamed B.named, fun w h => hts w (List.mem_cons_of_mem _ h)⟩, hK, hSt, by rw [hz]; exact Nat.le_add_right _ _⟩
  have hl := lv_entry ([.ref (m_b G + l0), .int l1]) (n := 3) (Nat.le_of_ble_eq_true rfl)
  rw [lg_entry_eq]
  exact t_Ch_kind G C0 ⟨Nat.le_refl _, Nat.le_refl _, Nat.le_refl _, Nat.le_refl _⟩ B.returns B.notSynchronized _ _ _ hwp _ _ _ ⟨hP, hz, va_S.rf⟩ hl
def wp_Br_classBit (Post : Int32 → MH → Prop) (l0 : Int32) (h : MH) : Prop :=
  Post ((1 : Int32) <<< ((l0 - l0 / (12 : Int32) * (12 : Int32)) &&& 31)) h
set_option maxRecDepth 100000 in
set_option maxHeartbeats 4000000 in
theorem t_Br_classBit {p : Program} {l : Launch} {e : Env} {R : Room} {s : State} {m : MethodId} {args : Array Value} {below : List Frame} {meth : Method} {c : Code} (G : mG) (C0 : Cx G p s m args c prog_1_method_33_code 1 "BassRealiser") (hR : 0 ≤ R.frames ∧ 0 ≤ R.locals ∧ 0 ≤ R.cells ∧ 0 ≤ R.slots) (hr : meth.sig.returnType = some .int) (hlk : meth.locks = false) {Post : Int32 → MH → Prop} (l0 : Int32) (h : MH) (hwp : wp_Br_classBit Post l0 h) : WG p l e R s m args below meth c 0 0 (MQ below (va_Qi Post (Wd G) (mA G)) args s 0 0 (mA G)) G 1 [(0, .int l0)] 0 [] h := by
  unfold wp_Br_classBit at hwp
  refine x_iconst (v := 1) C0 d_Br_classBit_0 (by decide) ?_
  refine x_iload_n C0 0 d_Br_classBit_1 rfl rfl ?_
  refine x_bipush (v := 12) C0 d_Br_classBit_2 (by decide) ?_
  refine x_irem C0 d_Br_classBit_4 (by decide) ?_
  refine x_ishl C0 d_Br_classBit_5 ?_
  exact x_iret C0 hr hlk hwp d_Br_classBit_6
set_option maxRecDepth 100000 in
set_option maxHeartbeats 4000000 in
theorem c_Br_classBit (l : Launch) (G : mG) {Post : Int32 → MH → Prop} {l0 : Int32} {h : MH} (hwp : wp_Br_classBit Post l0 h) : Met l y_Br_classBit (Cond.code y_Br_classBit prog_1_method_33_code 1 (Option.some Jvm.ClassFile.FieldType.int) :: lw_good) ({ frames := 0, cells := 0, slots := 0, locals := 0 }) (va_Pc [.int l0] (Wd G h)) (va_Qi Post (Wd G) (mA G)) 0 0 (mA G) := by
  refine Met.ofW (cc := prog_1_method_33_code) (maxL := 1) (ret := (Option.some Jvm.ClassFile.FieldType.int)) (by decide +kernel) rfl ?_
  intro p e s m args below meth c s₁ B hml hv
  obtain ⟨rfl, hP, hz, hK, hSt⟩ := hv
  have hts := atoms_spec (ws := Cond.code y_Br_classBit prog_1_method_33_code 1 (Option.some Jvm.ClassFile.FieldType.int) :: lw_good) B.pre
  have C0 : Cx G p s m ([.int l0] : List Value).toArray c prog_1_method_33_code 1 "BassRealiser" := ⟨⟨B.exec, B.bytes, hml, findClass_of_methodNamed B.named, fun w h => hts w (List.mem_cons_of_mem _ h)⟩, hK, hSt, by rw [hz]; exact Nat.le_add_right _ _⟩
  have hl := lv_entry ([.int l0]) (n := 1) (Nat.le_of_ble_eq_true rfl)
  rw [lg_entry_eq]
  exact t_Br_classBit G C0 ⟨Nat.le_refl _, Nat.le_refl _, Nat.le_refl _, Nat.le_refl _⟩ B.returns B.notSynchronized _ _ hwp _ _ _ ⟨hP, hz, va_S.rf⟩ hl
def wp_Ch_tune_113 (K28 : Nat → Int32 → Int32 → MH → Prop) (Post : MH → Prop) (l0 : Nat) (l1 : Int32) (l2 : Int32) (h : MH) : Prop :=
  K28 l0 l1 (l2 + (1 : Int32)) h
def wp_Ch_tune_109 (K28 : Nat → Int32 → Int32 → MH → Prop) (Post : MH → Prop) (l0 : Nat) (l1 : Int32) (l2 : Int32) (y0 : Nat) (y1 : Int32) (y2 : Int32) (h : MH) : Prop :=
  (∃ o : MV, gF h y0 0 10 = some o) ∧ ∀ h110 : MH, h110 = fset h y0 10 (.inl (y1 ||| y2) : MV) →
  (wp_Ch_tune_113 K28 Post l0 l1 l2 h110)
def wp_Ch_tune_86 (K28 : Nat → Int32 → Int32 → MH → Prop) (Post : MH → Prop) (l0 : Nat) (l1 : Int32) (l2 : Int32) (l3 : Int32) (y0 : Nat) (y1 : Int32) (y2 : Int32) (h : MH) : Prop :=
  (∃ o : MV, gF h y0 0 9 = some o) ∧ ∀ h87 : MH, h87 = fset h y0 9 (.inl (y1 ||| y2) : MV) →
  (∃ x92 : Int32, gF h87 l0 0 10 = some (.inl x92) ∧
    (gC h87 l0 = some 0 ∧ wp_Ch_kind (fun (r97 : Int32) (h97 : MH) =>
        (((¬ r97 = (2 : Int32)) →
            (wp_Ch_tune_109 K28 Post l0 l1 l2 l0 x92 (0 : Int32) h97)) ∧
          ((r97 = (2 : Int32)) →
            (wp_Ch_tune_109 K28 Post l0 l1 l2 l0 x92 l3 h97)))) l0 l2 h87))
def wb_Ch_tune_28 (K28 : Nat → Int32 → Int32 → MH → Prop) (Post : MH → Prop) (l0 : Nat) (l1 : Int32) (l2 : Int32) (h : MH) : Prop :=
  (((9 : Int32) < l2) →
    (∃ x121 : Int32, gF h l0 0 7 = some (.inl x121) ∧
      (∃ x125 : Int32, gF h l0 0 1 = some (.inl x125) ∧
        (wp_Br_classBit (fun (r128 : Int32) (h128 : MH) =>
            ((∃ o : MV, gF h128 l0 0 8 = some o) ∧ ∀ h132 : MH, h132 = fset h128 l0 8 (.inl (x121 ||| r128) : MV) →
              (Post h132))) x125 h)))) ∧
  ((¬ (9 : Int32) < l2) →
    (∃ x35 : Int32, gF h l0 0 3 = some (.inl x35) ∧
      (wp_Ch_has (fun (r39 : Int32) (h39 : MH) =>
          (((¬ r39 = 0) →
              (gC h39 l0 = some 0 ∧ wp_Ch_toneClass (fun (r52 : Int32) (h52 : MH) =>
                  (∀ z56 : Int32, z56 = (1 : Int32) <<< (r52 &&& 31) →
                    (∃ x59 : Int32, gF h52 l0 0 7 = some (.inl x59) ∧
                      ((∃ o : MV, gF h52 l0 0 7 = some o) ∧ ∀ h64 : MH, h64 = fset h52 l0 7 (.inl (x59 ||| z56) : MV) →
                        (∃ x69 : Int32, gF h64 l0 0 9 = some (.inl x69) ∧
                        (gC h64 l0 = some 0 ∧ wp_Ch_kind (fun (r74 : Int32) (h74 : MH) =>
                        (((¬ r74 = (1 : Int32)) →
                        (wp_Ch_tune_86 K28 Post l0 l1 l2 z56 l0 x69 (0 : Int32) h74)) ∧
                        ((r74 = (1 : Int32)) →
                        (wp_Ch_tune_86 K28 Post l0 l1 l2 z56 l0 x69 z56 h74)))) l0 l2 h64)))))) l0 l2 l1 h39)) ∧
            ((r39 = 0) →
              (wp_Ch_tune_113 K28 Post l0 l1 l2 h39)))) x35 l2 h)))
def wn_Ch_tune_28 (Post : MH → Prop) : Nat → Nat → Int32 → Int32 → MH → Prop
  | 0 => fun _ _ _ _ => False
  | n + 1 => wb_Ch_tune_28 (wn_Ch_tune_28 Post n) Post
def wp_Ch_tune_28 (Post : MH → Prop) (l0 : Nat) (l1 : Int32) (l2 : Int32) (h : MH) : Prop := ∃ n, wn_Ch_tune_28 Post n l0 l1 l2 h
def wp_Ch_tune (Post : MH → Prop) (l0 : Nat) (l1 : Int32) (h : MH) : Prop :=
  ∃ x2 : Int32, gF h l0 0 2 = some (.inl x2) ∧
  (wp_Ch_complete (fun (r5 : Int32) (h5 : MH) =>
      ((∃ o : MV, gF h5 l0 0 3 = some o) ∧ ∀ h8 : MH, h8 = fset h5 l0 3 (.inl r5 : MV) →
        ((∃ o : MV, gF h8 l0 0 7 = some o) ∧ ∀ h13 : MH, h13 = fset h8 l0 7 (.inl (0 : Int32) : MV) →
          ((∃ o : MV, gF h13 l0 0 9 = some o) ∧ ∀ h18 : MH, h18 = fset h13 l0 9 (.inl (0 : Int32) : MV) →
            ((∃ o : MV, gF h18 l0 0 10 = some o) ∧ ∀ h23 : MH, h23 = fset h18 l0 10 (.inl (0 : Int32) : MV) →
              (wp_Ch_tune_28 Post l0 l1 (2 : Int32) h23)))))) x2 h)
set_option maxRecDepth 100000 in
set_option maxHeartbeats 4000000 in
theorem t_Ch_tune_113 {p : Program} {l : Launch} {e : Env} {R : Room} {s : State} {m : MethodId} {args : Array Value} {below : List Frame} {meth : Method} {c : Code} (G : mG) (C0 : Cx G p s m args c prog_2_method_5_code 4 "BassRealiser$Chord") (hR : 4 ≤ R.frames ∧ 89 ≤ R.locals ∧ 0 ≤ R.cells ∧ 0 ≤ R.slots) (hr : meth.sig.returnType = none) (hlk : meth.locks = false) {Post : MH → Prop} {K28 : Nat → Int32 → Int32 → MH → Prop} (hK28 : ∀ (l0 : Nat) (l1 : Int32) (l2 : Int32) (h : MH), K28 l0 l1 l2 h → WG p l e R s m args below meth c 0 0 (MQ below (va_Qv Post (Wd G) (mA G)) args s 0 0 (mA G)) G 4 [(0, .ref (m_b G + l0)), (1, .int l1), (2, .int l2)] 28 [] h) (l0 : Nat) (l1 : Int32) (l2 : Int32) (h : MH) (hwp : wp_Ch_tune_113 K28 Post l0 l1 l2 h) : WG p l e R s m args below meth c 0 0 (MQ below (va_Qv Post (Wd G) (mA G)) args s 0 0 (mA G)) G 4 [(0, .ref (m_b G + l0)), (1, .int l1), (2, .int l2)] 113 [] h := by
  unfold wp_Ch_tune_113 at hwp
  refine x_iinc C0 2 d_Ch_tune_113 rfl rfl (by decide) (lv' := [(2, .int (l2 + (1 : Int32))), (0, .ref (m_b G + l0)), (1, .int l1)]) rfl ?_
  refine x_goto (tgt := 28) C0 d_Ch_tune_116 (by decide) ?_
  exact x_sub [1, 2, 0] rfl (hK28 _ _ _ _ hwp)
set_option maxRecDepth 100000 in
set_option maxHeartbeats 4000000 in
theorem t_Ch_tune_109 {p : Program} {l : Launch} {e : Env} {R : Room} {s : State} {m : MethodId} {args : Array Value} {below : List Frame} {meth : Method} {c : Code} (G : mG) (C0 : Cx G p s m args c prog_2_method_5_code 4 "BassRealiser$Chord") (hR : 4 ≤ R.frames ∧ 89 ≤ R.locals ∧ 0 ≤ R.cells ∧ 0 ≤ R.slots) (hr : meth.sig.returnType = none) (hlk : meth.locks = false) {Post : MH → Prop} {K28 : Nat → Int32 → Int32 → MH → Prop} (hK28 : ∀ (l0 : Nat) (l1 : Int32) (l2 : Int32) (h : MH), K28 l0 l1 l2 h → WG p l e R s m args below meth c 0 0 (MQ below (va_Qv Post (Wd G) (mA G)) args s 0 0 (mA G)) G 4 [(0, .ref (m_b G + l0)), (1, .int l1), (2, .int l2)] 28 [] h) (l0 : Nat) (l1 : Int32) (l2 : Int32) (y0 : Nat) (y1 : Int32) (y2 : Int32) (h : MH) (hwp : wp_Ch_tune_109 K28 Post l0 l1 l2 y0 y1 y2 h) : WG p l e R s m args below meth c 0 0 (MQ below (va_Qv Post (Wd G) (mA G)) args s 0 0 (mA G)) G 4 [(0, .ref (m_b G + l0)), (1, .int l1), (2, .int l2)] 109 [.int y2, .int y1, .ref (m_b G + y0)] h := by
  unfold wp_Ch_tune_109 at hwp
  refine x_ior C0 d_Ch_tune_109 ?_
  obtain ⟨⟨o110, e110⟩, hwp⟩ := hwp
  refine x_put (x := (.inl (y1 ||| y2) : MV)) C0 pk_Ch_50 e110 rfl rfl d_Ch_tune_110 ?_
  refine x_nh (fun h110 eh110 => ?_)
  replace hwp := hwp h110 eh110
  exact x_sub [0, 1, 2] rfl (t_Ch_tune_113 G C0 hR hr hlk hK28 _ _ _ _ hwp)
set_option maxRecDepth 100000 in
set_option maxHeartbeats 4000000 in
theorem t_Ch_tune_86 {p : Program} {l : Launch} {e : Env} {R : Room} {s : State} {m : MethodId} {args : Array Value} {below : List Frame} {meth : Method} {c : Code} (G : mG) (C0 : Cx G p s m args c prog_2_method_5_code 4 "BassRealiser$Chord") (hR : 4 ≤ R.frames ∧ 89 ≤ R.locals ∧ 0 ≤ R.cells ∧ 0 ≤ R.slots) (hr : meth.sig.returnType = none) (hlk : meth.locks = false) {Post : MH → Prop} {K28 : Nat → Int32 → Int32 → MH → Prop} (hK28 : ∀ (l0 : Nat) (l1 : Int32) (l2 : Int32) (h : MH), K28 l0 l1 l2 h → WG p l e R s m args below meth c 0 0 (MQ below (va_Qv Post (Wd G) (mA G)) args s 0 0 (mA G)) G 4 [(0, .ref (m_b G + l0)), (1, .int l1), (2, .int l2)] 28 [] h) (l0 : Nat) (l1 : Int32) (l2 : Int32) (l3 : Int32) (y0 : Nat) (y1 : Int32) (y2 : Int32) (h : MH) (hwp : wp_Ch_tune_86 K28 Post l0 l1 l2 l3 y0 y1 y2 h) : WG p l e R s m args below meth c 0 0 (MQ below (va_Qv Post (Wd G) (mA G)) args s 0 0 (mA G)) G 4 [(0, .ref (m_b G + l0)), (1, .int l1), (2, .int l2), (3, .int l3)] 86 [.int y2, .int y1, .ref (m_b G + y0)] h := by
  unfold wp_Ch_tune_86 at hwp
  refine x_ior C0 d_Ch_tune_86 ?_
  obtain ⟨⟨o87, e87⟩, hwp⟩ := hwp
  refine x_put (x := (.inl (y1 ||| y2) : MV)) C0 pk_Ch_47 e87 rfl rfl d_Ch_tune_87 ?_
  refine x_nh (fun h87 eh87 => ?_)
  replace hwp := hwp h87 eh87
  refine x_aload_n C0 0 d_Ch_tune_90 rfl rfl ?_
  refine x_dup C0 d_Ch_tune_91 rfl ?_
  obtain ⟨x92, e92, hwp⟩ := hwp
  refine x_getI C0 fk_Ch_50 e92 d_Ch_tune_92 ?_
  refine x_aload_n C0 0 d_Ch_tune_95 rfl rfl ?_
  refine x_iload_n C0 2 d_Ch_tune_96 rfl rfl ?_
  obtain ⟨g97, hwp⟩ := hwp
  refine x_callVi0 (k := l0) (As := [.int l2]) (st := [.int x92, .ref (m_b G + l0)]) C0 (c_Ch_kind l G hwp) kw_2_29 mk_Ch_kind vk_Ch_kind rfl g97 rfl (Nat.le_of_ble_eq_true rfl) rfl rfl ⟨Nat.le_trans (by decide) hR.1, Nat.le_trans (by decide) hR.2.1⟩ ⟨Nat.zero_le _, Nat.zero_le _⟩ rfl d_Ch_tune_97 (fun r97 h97 hwp => ?_)
  refine x_iconst (v := 2) C0 d_Ch_tune_100 (by decide) ?_
  refine x_icmp_ne (tgt := 108) C0 d_Ch_tune_101 (by decide) (fun c101 => ?_) (fun c101 => ?_)
  · replace hwp := hwp.1 c101
    refine x_iconst (v := 0) C0 d_Ch_tune_108 (by decide) ?_
    exact x_sub [0, 1, 2] rfl (t_Ch_tune_109 G C0 hR hr hlk hK28 _ _ _ _ _ _ _ hwp)
  · replace hwp := hwp.2 c101
    refine x_iload_n C0 3 d_Ch_tune_104 rfl rfl ?_
    refine x_goto (tgt := 109) C0 d_Ch_tune_105 (by decide) ?_
    exact x_sub [0, 1, 2] rfl (t_Ch_tune_109 G C0 hR hr hlk hK28 _ _ _ _ _ _ _ hwp)
set_option maxRecDepth 100000 in
set_option maxHeartbeats 4000000 in
theorem tb_Ch_tune_28 {p : Program} {l : Launch} {e : Env} {R : Room} {s : State} {m : MethodId} {args : Array Value} {below : List Frame} {meth : Method} {c : Code} (G : mG) (C0 : Cx G p s m args c prog_2_method_5_code 4 "BassRealiser$Chord") (hR : 4 ≤ R.frames ∧ 89 ≤ R.locals ∧ 0 ≤ R.cells ∧ 0 ≤ R.slots) (hr : meth.sig.returnType = none) (hlk : meth.locks = false) {Post : MH → Prop} {K28 : Nat → Int32 → Int32 → MH → Prop} (hK28 : ∀ (l0 : Nat) (l1 : Int32) (l2 : Int32) (h : MH), K28 l0 l1 l2 h → WG p l e R s m args below meth c 0 0 (MQ below (va_Qv Post (Wd G) (mA G)) args s 0 0 (mA G)) G 4 [(0, .ref (m_b G + l0)), (1, .int l1), (2, .int l2)] 28 [] h) (l0 : Nat) (l1 : Int32) (l2 : Int32) (h : MH) (hwp : wb_Ch_tune_28 K28 Post l0 l1 l2 h) : WG p l e R s m args below meth c 0 0 (MQ below (va_Qv Post (Wd G) (mA G)) args s 0 0 (mA G)) G 4 [(0, .ref (m_b G + l0)), (1, .int l1), (2, .int l2)] 28 [] h := by
  unfold wb_Ch_tune_28 at hwp
  refine x_iload_n C0 2 d_Ch_tune_28 rfl rfl ?_
  refine x_bipush (v := 9) C0 d_Ch_tune_29 (by decide) ?_
  refine x_icmp_gt (tgt := 119) C0 d_Ch_tune_31 (by decide) (fun c31 => ?_) (fun c31 => ?_)
  · replace hwp := hwp.1 c31
    refine x_aload_n C0 0 d_Ch_tune_119 rfl rfl ?_
    refine x_aload_n C0 0 d_Ch_tune_120 rfl rfl ?_
    obtain ⟨x121, e121, hwp⟩ := hwp
    refine x_getI C0 fk_Ch_44 e121 d_Ch_tune_121 ?_
    refine x_aload_n C0 0 d_Ch_tune_124 rfl rfl ?_
    obtain ⟨x125, e125, hwp⟩ := hwp
    refine x_getI C0 fk_Ch_28 e125 d_Ch_tune_125 ?_
    refine x_callSNi0 (As := [.int x125]) (st := [.int x121, .ref (m_b G + l0)]) C0 (c_Br_classBit l G hwp) (m_nwA C0 nw_2) mk_Br_classBit kw_2_34 rfl (Nat.le_of_ble_eq_true rfl) rfl rfl ⟨Nat.le_trans (by decide) hR.1, Nat.le_trans (by decide) hR.2.1⟩ ⟨Nat.zero_le _, Nat.zero_le _⟩ rfl d_Ch_tune_128 (fun r128 h128 hwp => ?_)
    refine x_ior C0 d_Ch_tune_131 ?_
    obtain ⟨⟨o132, e132⟩, hwp⟩ := hwp
    refine x_put (x := (.inl (x121 ||| r128) : MV)) C0 pk_Ch_67 e132 rfl rfl d_Ch_tune_132 ?_
    refine x_nh (fun h132 eh132 => ?_)
    replace hwp := hwp h132 eh132
    exact x_vret C0 hr hlk hwp d_Ch_tune_135
  · replace hwp := hwp.2 c31
    refine x_aload_n C0 0 d_Ch_tune_34 rfl rfl ?_
    obtain ⟨x35, e35, hwp⟩ := hwp
    refine x_getI C0 fk_Ch_41 e35 d_Ch_tune_35 ?_
    refine x_iload_n C0 2 d_Ch_tune_38 rfl rfl ?_
    refine x_callSi0 (As := [.int x35, .int l2]) (st := []) C0 (c_Ch_has l G hwp) kw_1_236 mk_Ch_has kw_1_237 rfl (Nat.le_of_ble_eq_true rfl) rfl rfl ⟨Nat.le_trans (by decide) hR.1, Nat.le_trans (by decide) hR.2.1⟩ ⟨Nat.zero_le _, Nat.zero_le _⟩ rfl d_Ch_tune_39 (fun r39 h39 hwp => ?_)
    refine x_if_ne (tgt := 48) C0 d_Ch_tune_42 (by decide) (fun c42 => ?_) (fun c42 => ?_)
    · replace hwp := hwp.1 c42
      refine x_iconst (v := 1) C0 d_Ch_tune_48 (by decide) ?_
      refine x_aload_n C0 0 d_Ch_tune_49 rfl rfl ?_
      refine x_iload_n C0 2 d_Ch_tune_50 rfl rfl ?_
      refine x_iload_n C0 1 d_Ch_tune_51 rfl rfl ?_
      obtain ⟨g52, hwp⟩ := hwp
      refine x_callVi0 (k := l0) (As := [.int l2, .int l1]) (st := [.int (1 : Int32)]) C0 (c_Ch_toneClass l G hwp) kw_1_239 mk_Ch_toneClass vk_Ch_toneClass rfl g52 rfl (Nat.le_of_ble_eq_true rfl) rfl rfl ⟨Nat.le_trans (by decide) hR.1, Nat.le_trans (by decide) hR.2.1⟩ ⟨Nat.zero_le _, Nat.zero_le _⟩ rfl d_Ch_tune_52 (fun r52 h52 hwp => ?_)
      refine x_ishl C0 d_Ch_tune_55 ?_
      refine x_topI (fun z56 e56 => ?_)
      replace hwp := hwp z56 e56
      refine x_istore_n C0 d_Ch_tune_56 rfl (by decide) (lv' := [(3, .int z56), (0, .ref (m_b G + l0)), (1, .int l1), (2, .int l2)]) rfl ?_
      refine x_aload_n C0 1 d_Ch_tune_57 rfl rfl ?_
      refine x_dup C0 d_Ch_tune_58 rfl ?_
      obtain ⟨x59, e59, hwp⟩ := hwp
      refine x_getI C0 fk_Ch_44 e59 d_Ch_tune_59 ?_
      refine x_iload_n C0 0 d_Ch_tune_62 rfl rfl ?_
      refine x_ior C0 d_Ch_tune_63 ?_
      obtain ⟨⟨o64, e64⟩, hwp⟩ := hwp
      refine x_put (x := (.inl (x59 ||| z56) : MV)) C0 pk_Ch_44 e64 rfl rfl d_Ch_tune_64 ?_
      refine x_nh (fun h64 eh64 => ?_)
      replace hwp := hwp h64 eh64
      refine x_aload_n C0 1 d_Ch_tune_67 rfl rfl ?_
      refine x_dup C0 d_Ch_tune_68 rfl ?_
      obtain ⟨x69, e69, hwp⟩ := hwp
      refine x_getI C0 fk_Ch_47 e69 d_Ch_tune_69 ?_
      refine x_aload_n C0 1 d_Ch_tune_72 rfl rfl ?_
      refine x_iload_n C0 3 d_Ch_tune_73 rfl rfl ?_
      obtain ⟨g74, hwp⟩ := hwp
      refine x_callVi0 (k := l0) (As := [.int l2]) (st := [.int x69, .ref (m_b G + l0)]) C0 (c_Ch_kind l G hwp) kw_2_29 mk_Ch_kind vk_Ch_kind rfl g74 rfl (Nat.le_of_ble_eq_true rfl) rfl rfl ⟨Nat.le_trans (by decide) hR.1, Nat.le_trans (by decide) hR.2.1⟩ ⟨Nat.zero_le _, Nat.zero_le _⟩ rfl d_Ch_tune_74 (fun r74 h74 hwp => ?_)
      refine x_iconst (v := 1) C0 d_Ch_tune_77 (by decide) ?_
      refine x_icmp_ne (tgt := 85) C0 d_Ch_tune_78 (by decide) (fun c78 => ?_) (fun c78 => ?_)
      · replace hwp := hwp.1 c78
        refine x_iconst (v := 0) C0 d_Ch_tune_85 (by decide) ?_
        exact x_sub [1, 2, 3, 0] rfl (t_Ch_tune_86 G C0 hR hr hlk hK28 _ _ _ _ _ _ _ _ hwp)
      · replace hwp := hwp.2 c78
        refine x_iload_n C0 0 d_Ch_tune_81 rfl rfl ?_
        refine x_goto (tgt := 86) C0 d_Ch_tune_82 (by decide) ?_
        exact x_sub [1, 2, 3, 0] rfl (t_Ch_tune_86 G C0 hR hr hlk hK28 _ _ _ _ _ _ _ _ hwp)
    · replace hwp := hwp.2 c42
      refine x_goto (tgt := 113) C0 d_Ch_tune_45 (by decide) ?_
      exact x_sub [0, 1, 2] rfl (t_Ch_tune_113 G C0 hR hr hlk hK28 _ _ _ _ hwp)
theorem t_Ch_tune_28 {p : Program} {l : Launch} {e : Env} {R : Room} {s : State} {m : MethodId} {args : Array Value} {below : List Frame} {meth : Method} {c : Code} (G : mG) (C0 : Cx G p s m args c prog_2_method_5_code 4 "BassRealiser$Chord") (hR : 4 ≤ R.frames ∧ 89 ≤ R.locals ∧ 0 ≤ R.cells ∧ 0 ≤ R.slots) (hr : meth.sig.returnType = none) (hlk : meth.locks = false) {Post : MH → Prop} (l0 : Nat) (l1 : Int32) (l2 : Int32) (h : MH) (hwp : wp_Ch_tune_28 Post l0 l1 l2 h) : WG p l e R s m args below meth c 0 0 (MQ below (va_Qv Post (Wd G) (mA G)) args s 0 0 (mA G)) G 4 [(0, .ref (m_b G + l0)), (1, .int l1), (2, .int l2)] 28 [] h := by
  obtain ⟨n, hwp⟩ := hwp
  induction n generalizing l0 l1 l2 h with
  | zero => exact False.elim hwp
  | succ n ih => exact tb_Ch_tune_28 G C0 hR hr hlk (fun l0 l1 l2 h hwp => ih l0 l1 l2 h hwp) l0 l1 l2 h hwp
set_option maxRecDepth 100000 in
set_option maxHeartbeats 4000000 in
theorem t_Ch_tune {p : Program} {l : Launch} {e : Env} {R : Room} {s : State} {m : MethodId} {args : Array Value} {below : List Frame} {meth : Method} {c : Code} (G : mG) (C0 : Cx G p s m args c prog_2_method_5_code 4 "BassRealiser$Chord") (hR : 4 ≤ R.frames ∧ 89 ≤ R.locals ∧ 0 ≤ R.cells ∧ 0 ≤ R.slots) (hr : meth.sig.returnType = none) (hlk : meth.locks = false) {Post : MH → Prop} (l0 : Nat) (l1 : Int32) (h : MH) (hwp : wp_Ch_tune Post l0 l1 h) : WG p l e R s m args below meth c 0 0 (MQ below (va_Qv Post (Wd G) (mA G)) args s 0 0 (mA G)) G 4 [(0, .ref (m_b G + l0)), (1, .int l1)] 0 [] h := by
  unfold wp_Ch_tune at hwp
  refine x_aload_n C0 0 d_Ch_tune_0 rfl rfl ?_
  refine x_aload_n C0 0 d_Ch_tune_1 rfl rfl ?_
  obtain ⟨x2, e2, hwp⟩ := hwp
  refine x_getI C0 fk_Ch_34 e2 d_Ch_tune_2 ?_
  refine x_callSi0 (As := [.int x2]) (st := [.ref (m_b G + l0)]) C0 (c_Ch_complete l G hwp) kw_1_233 mk_Ch_complete kw_1_234 rfl (Nat.le_of_ble_eq_true rfl) rfl rfl ⟨Nat.le_trans (by decide) hR.1, Nat.le_trans (by decide) hR.2.1⟩ ⟨Nat.zero_le _, Nat.zero_le _⟩ rfl d_Ch_tune_5 (fun r5 h5 hwp => ?_)
  obtain ⟨⟨o8, e8⟩, hwp⟩ := hwp
  refine x_put (x := (.inl r5 : MV)) C0 pk_Ch_41 e8 rfl rfl d_Ch_tune_8 ?_
  refine x_nh (fun h8 eh8 => ?_)
  replace hwp := hwp h8 eh8
  refine x_aload_n C0 0 d_Ch_tune_11 rfl rfl ?_
  refine x_iconst (v := 0) C0 d_Ch_tune_12 (by decide) ?_
  obtain ⟨⟨o13, e13⟩, hwp⟩ := hwp
  refine x_put (x := (.inl (0 : Int32) : MV)) C0 pk_Ch_44 e13 rfl rfl d_Ch_tune_13 ?_
  refine x_nh (fun h13 eh13 => ?_)
  replace hwp := hwp h13 eh13
  refine x_aload_n C0 0 d_Ch_tune_16 rfl rfl ?_
  refine x_iconst (v := 0) C0 d_Ch_tune_17 (by decide) ?_
  obtain ⟨⟨o18, e18⟩, hwp⟩ := hwp
  refine x_put (x := (.inl (0 : Int32) : MV)) C0 pk_Ch_47 e18 rfl rfl d_Ch_tune_18 ?_
  refine x_nh (fun h18 eh18 => ?_)
  replace hwp := hwp h18 eh18
  refine x_aload_n C0 0 d_Ch_tune_21 rfl rfl ?_
  refine x_iconst (v := 0) C0 d_Ch_tune_22 (by decide) ?_
  obtain ⟨⟨o23, e23⟩, hwp⟩ := hwp
  refine x_put (x := (.inl (0 : Int32) : MV)) C0 pk_Ch_50 e23 rfl rfl d_Ch_tune_23 ?_
  refine x_nh (fun h23 eh23 => ?_)
  replace hwp := hwp h23 eh23
  refine x_iconst (v := 2) C0 d_Ch_tune_26 (by decide) ?_
  refine x_istore_n C0 d_Ch_tune_27 rfl (by decide) (lv' := [(2, .int (2 : Int32)), (0, .ref (m_b G + l0)), (1, .int l1)]) rfl ?_
  exact x_sub [1, 2, 0] rfl (t_Ch_tune_28 G C0 hR hr hlk  _ _ _ _ hwp)
set_option maxRecDepth 100000 in
set_option maxHeartbeats 4000000 in
theorem c_Ch_tune (l : Launch) (G : mG) {Post : MH → Prop} {l0 : Nat} {l1 : Int32} {h : MH} (hwp : wp_Ch_tune Post l0 l1 h) : Met l y_Ch_tune (Cond.code y_Ch_tune prog_2_method_5_code 4 (Option.none : Option Jvm.ClassFile.FieldType) :: lw_good) ({ frames := 4, cells := 0, slots := 0, locals := 89 }) (va_Pc [.ref (m_b G + l0), .int l1] (Wd G h)) (va_Qv Post (Wd G) (mA G)) 0 0 (mA G) := by
  refine Met.ofW (cc := prog_2_method_5_code) (maxL := 4) (ret := (Option.none : Option Jvm.ClassFile.FieldType)) (by decide +kernel) rfl ?_
  intro p e s m args below meth c s₁ B hml hv
  obtain ⟨rfl, hP, hz, hK, hSt⟩ := hv
  have hts := atoms_spec (ws := Cond.code y_Ch_tune prog_2_method_5_code 4 (Option.none : Option Jvm.ClassFile.FieldType) :: lw_good) B.pre
  have C0 : Cx G p s m ([.ref (m_b G + l0), .int l1] : List Value).toArray c prog_2_method_5_code 4 "BassRealiser$Chord" := ⟨⟨B.exec, B.bytes, hml, findClass_of_methodNamed B.named, fun w h => hts w (List.mem_cons_of_mem _ h)⟩, hK, hSt, by rw [hz]; exact Nat.le_add_right _ _⟩
  have hl := lv_entry ([.ref (m_b G + l0), .int l1]) (n := 4) (Nat.le_of_ble_eq_true rfl)
  rw [lg_entry_eq]
  exact t_Ch_tune G C0 ⟨Nat.le_refl _, Nat.le_refl _, Nat.le_refl _, Nat.le_refl _⟩ B.returns B.notSynchronized _ _ _ hwp _ _ _ ⟨hP, hz, va_S.rf⟩ hl
def wb_Se_forgetAll_2 (K2 : Nat → Int32 → MH → Prop) (Post : MH → Prop) (l0 : Nat) (l1 : Int32) (h : MH) : Prop :=
  (((12 : Int32) ≤ l1) →
    ((∃ o : MV, gF h l0 4 8 = some o) ∧ ∀ h26 : MH, h26 = fset h l0 8 (.inl (0 : Int32) : MV) →
      (Post h26))) ∧
  ((¬ (12 : Int32) ≤ l1) →
    (∃ x9 : Nat, gF h l0 4 2 = some (.inr (some x9)) ∧
      (∃ (n13 : Nat) (f13 : Nat → Option Nat) (q13 : Nat), gR h x9 4 = some (n13, f13) ∧ vp_in l1 n13 ∧ f13 (l1).toNatClampNeg = some q13 ∧
        ((∃ o : MV, gF h q13 1 5 = some o) ∧ ∀ h15 : MH, h15 = fset h q13 5 (.inl (0 : Int32) : MV) →
          (K2 l0 (l1 + (1 : Int32)) h15)))))
def wn_Se_forgetAll_2 (Post : MH → Prop) : Nat → Nat → Int32 → MH → Prop
  | 0 => fun _ _ _ => False
  | n + 1 => wb_Se_forgetAll_2 (wn_Se_forgetAll_2 Post n) Post
def wp_Se_forgetAll_2 (Post : MH → Prop) (l0 : Nat) (l1 : Int32) (h : MH) : Prop := ∃ n, wn_Se_forgetAll_2 Post n l0 l1 h
def wp_Se_forgetAll (Post : MH → Prop) (l0 : Nat) (h : MH) : Prop :=
  wp_Se_forgetAll_2 Post l0 (0 : Int32) h
set_option maxRecDepth 100000 in
set_option maxHeartbeats 4000000 in
theorem tb_Se_forgetAll_2 {p : Program} {l : Launch} {e : Env} {R : Room} {s : State} {m : MethodId} {args : Array Value} {below : List Frame} {meth : Method} {c : Code} (G : mG) (C0 : Cx G p s m args c prog_6_method_2_code 2 "BassRealiser$Search") (hR : 0 ≤ R.frames ∧ 0 ≤ R.locals ∧ 0 ≤ R.cells ∧ 0 ≤ R.slots) (hr : meth.sig.returnType = none) (hlk : meth.locks = false) {Post : MH → Prop} {K2 : Nat → Int32 → MH → Prop} (hK2 : ∀ (l0 : Nat) (l1 : Int32) (h : MH), K2 l0 l1 h → WG p l e R s m args below meth c 0 0 (MQ below (va_Qv Post (Wd G) (mA G)) args s 0 0 (mA G)) G 2 [(0, .ref (m_b G + l0)), (1, .int l1)] 2 [] h) (l0 : Nat) (l1 : Int32) (h : MH) (hwp : wb_Se_forgetAll_2 K2 Post l0 l1 h) : WG p l e R s m args below meth c 0 0 (MQ below (va_Qv Post (Wd G) (mA G)) args s 0 0 (mA G)) G 2 [(0, .ref (m_b G + l0)), (1, .int l1)] 2 [] h := by
  unfold wb_Se_forgetAll_2 at hwp
  refine x_iload_n C0 1 d_Se_forgetAll_2 rfl rfl ?_
  refine x_bipush (v := 12) C0 d_Se_forgetAll_3 (by decide) ?_
  refine x_icmp_ge (tgt := 24) C0 d_Se_forgetAll_5 (by decide) (fun c5 => ?_) (fun c5 => ?_)
  · replace hwp := hwp.1 c5
    refine x_aload_n C0 0 d_Se_forgetAll_24 rfl rfl ?_
    refine x_iconst (v := 0) C0 d_Se_forgetAll_25 (by decide) ?_
    obtain ⟨⟨o26, e26⟩, hwp⟩ := hwp
    refine x_put (x := (.inl (0 : Int32) : MV)) C0 pk_Se_51 e26 rfl rfl d_Se_forgetAll_26 ?_
    refine x_nh (fun h26 eh26 => ?_)
    replace hwp := hwp h26 eh26
    exact x_vret C0 hr hlk hwp d_Se_forgetAll_29
  · replace hwp := hwp.2 c5
    refine x_aload_n C0 0 d_Se_forgetAll_8 rfl rfl ?_
    obtain ⟨x9, e9, hwp⟩ := hwp
    refine x_getR C0 fk_Se_26 e9 d_Se_forgetAll_9 ?_
    refine x_iload_n C0 1 d_Se_forgetAll_12 rfl rfl ?_
    obtain ⟨n13, f13, q13, e13, i13, g13, hwp⟩ := hwp
    refine x_aald (t := 4) C0 e13 rfl i13 g13 d_Se_forgetAll_13 ?_
    refine x_iconst (v := 0) C0 d_Se_forgetAll_14 (by decide) ?_
    obtain ⟨⟨o15, e15⟩, hwp⟩ := hwp
    refine x_put (x := (.inl (0 : Int32) : MV)) C0 pk_Se_47 e15 rfl rfl d_Se_forgetAll_15 ?_
    refine x_nh (fun h15 eh15 => ?_)
    replace hwp := hwp h15 eh15
    refine x_iinc C0 1 d_Se_forgetAll_18 rfl rfl (by decide) (lv' := [(1, .int (l1 + (1 : Int32))), (0, .ref (m_b G + l0))]) rfl ?_
    refine x_goto (tgt := 2) C0 d_Se_forgetAll_21 (by decide) ?_
    exact x_sub [1, 0] rfl (hK2 _ _ _ hwp)
theorem t_Se_forgetAll_2 {p : Program} {l : Launch} {e : Env} {R : Room} {s : State} {m : MethodId} {args : Array Value} {below : List Frame} {meth : Method} {c : Code} (G : mG) (C0 : Cx G p s m args c prog_6_method_2_code 2 "BassRealiser$Search") (hR : 0 ≤ R.frames ∧ 0 ≤ R.locals ∧ 0 ≤ R.cells ∧ 0 ≤ R.slots) (hr : meth.sig.returnType = none) (hlk : meth.locks = false) {Post : MH → Prop} (l0 : Nat) (l1 : Int32) (h : MH) (hwp : wp_Se_forgetAll_2 Post l0 l1 h) : WG p l e R s m args below meth c 0 0 (MQ below (va_Qv Post (Wd G) (mA G)) args s 0 0 (mA G)) G 2 [(0, .ref (m_b G + l0)), (1, .int l1)] 2 [] h := by
  obtain ⟨n, hwp⟩ := hwp
  induction n generalizing l0 l1 h with
  | zero => exact False.elim hwp
  | succ n ih => exact tb_Se_forgetAll_2 G C0 hR hr hlk (fun l0 l1 h hwp => ih l0 l1 h hwp) l0 l1 h hwp
set_option maxRecDepth 100000 in
set_option maxHeartbeats 4000000 in
theorem t_Se_forgetAll {p : Program} {l : Launch} {e : Env} {R : Room} {s : State} {m : MethodId} {args : Array Value} {below : List Frame} {meth : Method} {c : Code} (G : mG) (C0 : Cx G p s m args c prog_6_method_2_code 2 "BassRealiser$Search") (hR : 0 ≤ R.frames ∧ 0 ≤ R.locals ∧ 0 ≤ R.cells ∧ 0 ≤ R.slots) (hr : meth.sig.returnType = none) (hlk : meth.locks = false) {Post : MH → Prop} (l0 : Nat) (h : MH) (hwp : wp_Se_forgetAll Post l0 h) : WG p l e R s m args below meth c 0 0 (MQ below (va_Qv Post (Wd G) (mA G)) args s 0 0 (mA G)) G 2 [(0, .ref (m_b G + l0))] 0 [] h := by
  unfold wp_Se_forgetAll at hwp
  refine x_iconst (v := 0) C0 d_Se_forgetAll_0 (by decide) ?_
  refine x_istore_n C0 d_Se_forgetAll_1 rfl (by decide) (lv' := [(1, .int (0 : Int32)), (0, .ref (m_b G + l0))]) rfl ?_
  exact x_sub [1, 0] rfl (t_Se_forgetAll_2 G C0 hR hr hlk  _ _ _ hwp)
set_option maxRecDepth 100000 in
set_option maxHeartbeats 4000000 in
theorem c_Se_forgetAll (l : Launch) (G : mG) {Post : MH → Prop} {l0 : Nat} {h : MH} (hwp : wp_Se_forgetAll Post l0 h) : Met l y_Se_forgetAll (Cond.code y_Se_forgetAll prog_6_method_2_code 2 (Option.none : Option Jvm.ClassFile.FieldType) :: lw_good) ({ frames := 0, cells := 0, slots := 0, locals := 0 }) (va_Pc [.ref (m_b G + l0)] (Wd G h)) (va_Qv Post (Wd G) (mA G)) 0 0 (mA G) := by
  refine Met.ofW (cc := prog_6_method_2_code) (maxL := 2) (ret := (Option.none : Option Jvm.ClassFile.FieldType)) (by decide +kernel) rfl ?_
  intro p e s m args below meth c s₁ B hml hv
  obtain ⟨rfl, hP, hz, hK, hSt⟩ := hv
  have hts := atoms_spec (ws := Cond.code y_Se_forgetAll prog_6_method_2_code 2 (Option.none : Option Jvm.ClassFile.FieldType) :: lw_good) B.pre
  have C0 : Cx G p s m ([.ref (m_b G + l0)] : List Value).toArray c prog_6_method_2_code 2 "BassRealiser$Search" := ⟨⟨B.exec, B.bytes, hml, findClass_of_methodNamed B.named, fun w h => hts w (List.mem_cons_of_mem _ h)⟩, hK, hSt, by rw [hz]; exact Nat.le_add_right _ _⟩
  have hl := lv_entry ([.ref (m_b G + l0)]) (n := 2) (Nat.le_of_ble_eq_true rfl)
  rw [lg_entry_eq]
  exact t_Se_forgetAll G C0 ⟨Nat.le_refl _, Nat.le_refl _, Nat.le_refl _, Nat.le_refl _⟩ B.returns B.notSynchronized _ _ hwp _ _ _ ⟨hP, hz, va_S.rf⟩ hl
def wb_Br_key_31 (K31 : Nat → Int32 → Int32 → Int32 → MH → Prop) (Post : Int32 → MH → Prop) (l0 : Nat) (l1 : Int32) (l2 : Int32) (l3 : Int32) (h : MH) : Prop :=
  ∃ x33 : Int32, gF h l0 5 4 = some (.inl x33) ∧
  (((x33 ≤ l3) →
      (∃ x56 : Nat, gF h l0 5 0 = some (.inr (some x56)) ∧
        (gC h x56 = some 4 ∧ wp_Se_forgetAll (fun (h59 : MH) =>
            (Post (l2 + (7 : Int32)) h59)) x56 h))) ∧
    ((¬ x33 ≤ l3) →
      (∃ x40 : Nat, gF h l0 5 1 = some (.inr (some x40)) ∧
        (∃ (n44 : Nat) (f44 : Nat → Option Nat) (q44 : Nat), gR h x40 3 = some (n44, f44) ∧ vp_in l3 n44 ∧ f44 (l3).toNatClampNeg = some q44 ∧
          (gC h q44 = some 0 ∧ wp_Ch_tune (fun (h46 : MH) =>
              (K31 l0 l1 l2 (l3 + (1 : Int32)) h46)) q44 l1 h)))))
def wn_Br_key_31 (Post : Int32 → MH → Prop) : Nat → Nat → Int32 → Int32 → Int32 → MH → Prop
  | 0 => fun _ _ _ _ _ => False
  | n + 1 => wb_Br_key_31 (wn_Br_key_31 Post n) Post
def wp_Br_key_31 (Post : Int32 → MH → Prop) (l0 : Nat) (l1 : Int32) (l2 : Int32) (l3 : Int32) (h : MH) : Prop := ∃ n, wn_Br_key_31 Post n l0 l1 l2 l3 h
def wp_Br_key (Post : Int32 → MH → Prop) (l0 : Nat) (l1 : Int32) (h : MH) : Prop :=
  wp_Br_within (fun (r5 : Int32) (h5 : MH) =>
    (((¬ r5 = 0) →
        (∃ x14 : Nat, gF h5 l0 5 2 = some (.inr (some x14)) ∧
          (∃ x17 : Int32, gF h5 x14 3 4 = some (.inl x17) ∧
            (∃ x22 : Nat, gF h5 l0 5 2 = some (.inr (some x22)) ∧
              ((∃ o : MV, gF h5 x22 3 4 = some o) ∧ ∀ h26 : MH, h26 = fset h5 x22 4 (.inl l1 : MV) →
                (wp_Br_key_31 Post l0 l1 x17 (0 : Int32) h26)))))) ∧
      ((r5 = 0) →
        (Post (-1 : Int32) h5)))) l1 (-7 : Int32) (7 : Int32) h
set_option maxRecDepth 100000 in
set_option maxHeartbeats 4000000 in
theorem tb_Br_key_31 {p : Program} {l : Launch} {e : Env} {R : Room} {s : State} {m : MethodId} {args : Array Value} {below : List Frame} {meth : Method} {c : Code} (G : mG) (C0 : Cx G p s m args c prog_1_method_2_code 4 "BassRealiser") (hR : 5 ≤ R.frames ∧ 112 ≤ R.locals ∧ 0 ≤ R.cells ∧ 0 ≤ R.slots) (hr : meth.sig.returnType = some .int) (hlk : meth.locks = false) {Post : Int32 → MH → Prop} {K31 : Nat → Int32 → Int32 → Int32 → MH → Prop} (hK31 : ∀ (l0 : Nat) (l1 : Int32) (l2 : Int32) (l3 : Int32) (h : MH), K31 l0 l1 l2 l3 h → WG p l e R s m args below meth c 0 0 (MQ below (va_Qi Post (Wd G) (mA G)) args s 0 0 (mA G)) G 4 [(0, .ref (m_b G + l0)), (1, .int l1), (2, .int l2), (3, .int l3)] 31 [] h) (l0 : Nat) (l1 : Int32) (l2 : Int32) (l3 : Int32) (h : MH) (hwp : wb_Br_key_31 K31 Post l0 l1 l2 l3 h) : WG p l e R s m args below meth c 0 0 (MQ below (va_Qi Post (Wd G) (mA G)) args s 0 0 (mA G)) G 4 [(0, .ref (m_b G + l0)), (1, .int l1), (2, .int l2), (3, .int l3)] 31 [] h := by
  unfold wb_Br_key_31 at hwp
  refine x_iload_n C0 3 d_Br_key_31 rfl rfl ?_
  refine x_aload_n C0 0 d_Br_key_32 rfl rfl ?_
  obtain ⟨x33, e33, hwp⟩ := hwp
  refine x_getI C0 fk_Br_33 e33 d_Br_key_33 ?_
  refine x_icmp_ge (tgt := 55) C0 d_Br_key_36 (by decide) (fun c36 => ?_) (fun c36 => ?_)
  · replace hwp := hwp.1 c36
    refine x_aload_n C0 0 d_Br_key_55 rfl rfl ?_
    obtain ⟨x56, e56, hwp⟩ := hwp
    refine x_getR C0 fk_Br_10 e56 d_Br_key_56 ?_
    obtain ⟨g59, hwp⟩ := hwp
    refine x_callVv0 (k := x56) (As := []) (st := []) C0 (c_Se_forgetAll l G hwp) kw_2_36 mk_Se_forgetAll vk_Se_forgetAll rfl g59 rfl (Nat.le_of_ble_eq_true rfl) rfl rfl ⟨Nat.le_trans (by decide) hR.1, Nat.le_trans (by decide) hR.2.1⟩ ⟨Nat.zero_le _, Nat.zero_le _⟩ rfl d_Br_key_59 (fun h59 hwp => ?_)
    refine x_iload_n C0 2 d_Br_key_62 rfl rfl ?_
    refine x_bipush (v := 7) C0 d_Br_key_63 (by decide) ?_
    refine x_iadd C0 d_Br_key_65 ?_
    exact x_iret C0 hr hlk hwp d_Br_key_66
  · replace hwp := hwp.2 c36
    refine x_aload_n C0 0 d_Br_key_39 rfl rfl ?_
    obtain ⟨x40, e40, hwp⟩ := hwp
    refine x_getR C0 fk_Br_20 e40 d_Br_key_40 ?_
    refine x_iload_n C0 3 d_Br_key_43 rfl rfl ?_
    obtain ⟨n44, f44, q44, e44, i44, g44, hwp⟩ := hwp
    refine x_aald (t := 3) C0 e44 rfl i44 g44 d_Br_key_44 ?_
    refine x_iload_n C0 1 d_Br_key_45 rfl rfl ?_
    obtain ⟨g46, hwp⟩ := hwp
    refine x_callVv0 (k := q44) (As := [.int l1]) (st := []) C0 (c_Ch_tune l G hwp) kw_1_229 mk_Ch_tune vk_Ch_tune rfl g46 rfl (Nat.le_of_ble_eq_true rfl) rfl rfl ⟨Nat.le_trans (by decide) hR.1, Nat.le_trans (by decide) hR.2.1⟩ ⟨Nat.zero_le _, Nat.zero_le _⟩ rfl d_Br_key_46 (fun h46 hwp => ?_)
    refine x_iinc C0 3 d_Br_key_49 rfl rfl (by decide) (lv' := [(3, .int (l3 + (1 : Int32))), (0, .ref (m_b G + l0)), (1, .int l1), (2, .int l2)]) rfl ?_
    refine x_goto (tgt := 31) C0 d_Br_key_52 (by decide) ?_
    exact x_sub [1, 2, 3, 0] rfl (hK31 _ _ _ _ _ hwp)
theorem t_Br_key_31 {p : Program} {l : Launch} {e : Env} {R : Room} {s : State} {m : MethodId} {args : Array Value} {below : List Frame} {meth : Method} {c : Code} (G : mG) (C0 : Cx G p s m args c prog_1_method_2_code 4 "BassRealiser") (hR : 5 ≤ R.frames ∧ 112 ≤ R.locals ∧ 0 ≤ R.cells ∧ 0 ≤ R.slots) (hr : meth.sig.returnType = some .int) (hlk : meth.locks = false) {Post : Int32 → MH → Prop} (l0 : Nat) (l1 : Int32) (l2 : Int32) (l3 : Int32) (h : MH) (hwp : wp_Br_key_31 Post l0 l1 l2 l3 h) : WG p l e R s m args below meth c 0 0 (MQ below (va_Qi Post (Wd G) (mA G)) args s 0 0 (mA G)) G 4 [(0, .ref (m_b G + l0)), (1, .int l1), (2, .int l2), (3, .int l3)] 31 [] h := by
  obtain ⟨n, hwp⟩ := hwp
  induction n generalizing l0 l1 l2 l3 h with
  | zero => exact False.elim hwp
  | succ n ih => exact tb_Br_key_31 G C0 hR hr hlk (fun l0 l1 l2 l3 h hwp => ih l0 l1 l2 l3 h hwp) l0 l1 l2 l3 h hwp
set_option maxRecDepth 100000 in
set_option maxHeartbeats 4000000 in
theorem t_Br_key {p : Program} {l : Launch} {e : Env} {R : Room} {s : State} {m : MethodId} {args : Array Value} {below : List Frame} {meth : Method} {c : Code} (G : mG) (C0 : Cx G p s m args c prog_1_method_2_code 4 "BassRealiser") (hR : 5 ≤ R.frames ∧ 112 ≤ R.locals ∧ 0 ≤ R.cells ∧ 0 ≤ R.slots) (hr : meth.sig.returnType = some .int) (hlk : meth.locks = false) {Post : Int32 → MH → Prop} (l0 : Nat) (l1 : Int32) (h : MH) (hwp : wp_Br_key Post l0 l1 h) : WG p l e R s m args below meth c 0 0 (MQ below (va_Qi Post (Wd G) (mA G)) args s 0 0 (mA G)) G 4 [(0, .ref (m_b G + l0)), (1, .int l1)] 0 [] h := by
  unfold wp_Br_key at hwp
  refine x_iload_n C0 1 d_Br_key_0 rfl rfl ?_
  refine x_bipush (v := -7) C0 d_Br_key_1 (by decide) ?_
  refine x_bipush (v := 7) C0 d_Br_key_3 (by decide) ?_
  refine x_callSi0 (As := [.int l1, .int (-7 : Int32), .int (7 : Int32)]) (st := []) C0 (c_Br_within l G hwp) kw_1_226 mk_Br_within kw_1_227 rfl (Nat.le_of_ble_eq_true rfl) rfl rfl ⟨Nat.le_trans (by decide) hR.1, Nat.le_trans (by decide) hR.2.1⟩ ⟨Nat.zero_le _, Nat.zero_le _⟩ rfl d_Br_key_5 (fun r5 h5 hwp => ?_)
  refine x_if_ne (tgt := 13) C0 d_Br_key_8 (by decide) (fun c8 => ?_) (fun c8 => ?_)
  · replace hwp := hwp.1 c8
    refine x_aload_n C0 0 d_Br_key_13 rfl rfl ?_
    obtain ⟨x14, e14, hwp⟩ := hwp
    refine x_getR C0 fk_Br_25 e14 d_Br_key_14 ?_
    obtain ⟨x17, e17, hwp⟩ := hwp
    refine x_getI C0 fk_Br_41 e17 d_Br_key_17 ?_
    refine x_istore_n C0 d_Br_key_20 rfl (by decide) (lv' := [(2, .int x17), (0, .ref (m_b G + l0)), (1, .int l1)]) rfl ?_
    refine x_aload_n C0 1 d_Br_key_21 rfl rfl ?_
    obtain ⟨x22, e22, hwp⟩ := hwp
    refine x_getR C0 fk_Br_25 e22 d_Br_key_22 ?_
    refine x_iload_n C0 2 d_Br_key_25 rfl rfl ?_
    obtain ⟨⟨o26, e26⟩, hwp⟩ := hwp
    refine x_put (x := (.inl l1 : MV)) C0 pk_Br_41 e26 rfl rfl d_Br_key_26 ?_
    refine x_nh (fun h26 eh26 => ?_)
    replace hwp := hwp h26 eh26
    refine x_iconst (v := 0) C0 d_Br_key_29 (by decide) ?_
    refine x_istore_n C0 d_Br_key_30 rfl (by decide) (lv' := [(3, .int (0 : Int32)), (2, .int x17), (0, .ref (m_b G + l0)), (1, .int l1)]) rfl ?_
    exact x_sub [2, 3, 1, 0] rfl (t_Br_key_31 G C0 hR hr hlk  _ _ _ _ _ hwp)
  · replace hwp := hwp.2 c8
    refine x_iconst (v := -1) C0 d_Br_key_11 (by decide) ?_
    exact x_iret C0 hr hlk hwp d_Br_key_12
set_option maxRecDepth 100000 in
set_option maxHeartbeats 4000000 in
theorem c_Br_key (l : Launch) (G : mG) {Post : Int32 → MH → Prop} {l0 : Nat} {l1 : Int32} {h : MH} (hwp : wp_Br_key Post l0 l1 h) : Met l y_Br_key (Cond.code y_Br_key prog_1_method_2_code 4 (Option.some Jvm.ClassFile.FieldType.int) :: lw_good) ({ frames := 5, cells := 0, slots := 0, locals := 112 }) (va_Pc [.ref (m_b G + l0), .int l1] (Wd G h)) (va_Qi Post (Wd G) (mA G)) 0 0 (mA G) := by
  refine Met.ofW (cc := prog_1_method_2_code) (maxL := 4) (ret := (Option.some Jvm.ClassFile.FieldType.int)) (by decide +kernel) rfl ?_
  intro p e s m args below meth c s₁ B hml hv
  obtain ⟨rfl, hP, hz, hK, hSt⟩ := hv
  have hts := atoms_spec (ws := Cond.code y_Br_key prog_1_method_2_code 4 (Option.some Jvm.ClassFile.FieldType.int) :: lw_good) B.pre
  have C0 : Cx G p s m ([.ref (m_b G + l0), .int l1] : List Value).toArray c prog_1_method_2_code 4 "BassRealiser" := ⟨⟨B.exec, B.bytes, hml, findClass_of_methodNamed B.named, fun w h => hts w (List.mem_cons_of_mem _ h)⟩, hK, hSt, by rw [hz]; exact Nat.le_add_right _ _⟩
  have hl := lv_entry ([.ref (m_b G + l0), .int l1]) (n := 4) (Nat.le_of_ble_eq_true rfl)
  rw [lg_entry_eq]
  exact t_Br_key G C0 ⟨Nat.le_refl _, Nat.le_refl _, Nat.le_refl _, Nat.le_refl _⟩ B.returns B.notSynchronized _ _ _ hwp _ _ _ ⟨hP, hz, va_S.rf⟩ hl
def wp_Rm_in (Post : Int32 → MH → Prop) (l0 : Int64) (l2 : Int64) (l4 : Int64) (h : MH) : Prop :=
  (((lg_cmp l0 l2) < 0) →
    (Post (0 : Int32) h)) ∧
  ((¬ (lg_cmp l0 l2) < 0) →
    (((0 < (lg_cmp l0 l4)) →
        (Post (0 : Int32) h)) ∧
      ((¬ 0 < (lg_cmp l0 l4)) →
        (Post (1 : Int32) h))))
set_option maxRecDepth 100000 in
set_option maxHeartbeats 4000000 in
theorem t_Rm_in {p : Program} {l : Launch} {e : Env} {R : Room} {s : State} {m : MethodId} {args : Array Value} {below : List Frame} {meth : Method} {c : Code} (G : mG) (C0 : Cx G p s m args c prog_8_method_2_code 6 "BassRealiserModel") (hR : 0 ≤ R.frames ∧ 0 ≤ R.locals ∧ 0 ≤ R.cells ∧ 0 ≤ R.slots) (hr : meth.sig.returnType = some .boolean) (hlk : meth.locks = false) {Post : Int32 → MH → Prop} (l0 : Int64) (l2 : Int64) (l4 : Int64) (h : MH) (hwp : wp_Rm_in Post l0 l2 l4 h) : WG p l e R s m args below meth c 0 0 (MQ below (va_Qi Post (Wd G) (mA G)) args s 0 0 (mA G)) G 6 [(0, .long l0), (2, .long l2), (4, .long l4)] 0 [] h := by
  unfold wp_Rm_in at hwp
  refine x_lload_n C0 0 d_Rm_in_0 rfl rfl ?_
  refine x_lload_n C0 1 d_Rm_in_1 rfl rfl ?_
  refine x_lcmp C0 d_Rm_in_2 ?_
  refine x_if_lt (tgt := 17) C0 d_Rm_in_3 (by decide) (fun c3 => ?_) (fun c3 => ?_)
  · replace hwp := hwp.1 c3
    refine x_iconst (v := 0) C0 d_Rm_in_17 (by decide) ?_
    exact x_zret C0 hr rfl hlk hwp d_Rm_in_18
  · replace hwp := hwp.2 c3
    refine x_lload_n C0 0 d_Rm_in_6 rfl rfl ?_
    refine x_lload C0 2 d_Rm_in_7 rfl ?_
    refine x_lcmp C0 d_Rm_in_9 ?_
    refine x_if_gt (tgt := 17) C0 d_Rm_in_10 (by decide) (fun c10 => ?_) (fun c10 => ?_)
    · replace hwp := hwp.1 c10
      refine x_iconst (v := 0) C0 d_Rm_in_17 (by decide) ?_
      exact x_zret C0 hr rfl hlk hwp d_Rm_in_18
    · replace hwp := hwp.2 c10
      refine x_iconst (v := 1) C0 d_Rm_in_13 (by decide) ?_
      refine x_goto (tgt := 18) C0 d_Rm_in_14 (by decide) ?_
      exact x_zret C0 hr rfl hlk hwp d_Rm_in_18
set_option maxRecDepth 100000 in
set_option maxHeartbeats 4000000 in
theorem c_Rm_in (l : Launch) (G : mG) {Post : Int32 → MH → Prop} {l0 : Int64} {l2 : Int64} {l4 : Int64} {h : MH} (hwp : wp_Rm_in Post l0 l2 l4 h) : Met l y_Rm_in (Cond.code y_Rm_in prog_8_method_2_code 6 (Option.some Jvm.ClassFile.FieldType.boolean) :: lw_good) ({ frames := 0, cells := 0, slots := 0, locals := 0 }) (va_Pc [.long l0, .long l2, .long l4] (Wd G h)) (va_Qi Post (Wd G) (mA G)) 0 0 (mA G) := by
  refine Met.ofW (cc := prog_8_method_2_code) (maxL := 6) (ret := (Option.some Jvm.ClassFile.FieldType.boolean)) (by decide +kernel) rfl ?_
  intro p e s m args below meth c s₁ B hml hv
  obtain ⟨rfl, hP, hz, hK, hSt⟩ := hv
  have hts := atoms_spec (ws := Cond.code y_Rm_in prog_8_method_2_code 6 (Option.some Jvm.ClassFile.FieldType.boolean) :: lw_good) B.pre
  have C0 : Cx G p s m ([.long l0, .long l2, .long l4] : List Value).toArray c prog_8_method_2_code 6 "BassRealiserModel" := ⟨⟨B.exec, B.bytes, hml, findClass_of_methodNamed B.named, fun w h => hts w (List.mem_cons_of_mem _ h)⟩, hK, hSt, by rw [hz]; exact Nat.le_add_right _ _⟩
  have hl := lv_entry ([.long l0, .long l2, .long l4]) (n := 6) (Nat.le_of_ble_eq_true rfl)
  rw [lg_entry_eq]
  exact t_Rm_in G C0 ⟨Nat.le_refl _, Nat.le_refl _, Nat.le_refl _, Nat.le_refl _⟩ B.returns B.notSynchronized _ _ _ _ hwp _ _ _ ⟨hP, hz, va_S.rf⟩ hl
def wp_Rm_key (Post : Int32 → MH → Prop) (l0 : Nat) (l1 : Int32) (h : MH) : Prop :=
  (∃ o : MV, gF h l0 6 0 = some o) ∧ ∀ h2 : MH, h2 = fset h l0 0 (.inl (0 : Int32) : MV) →
  (wp_Rm_in (fun (r13 : Int32) (h13 : MH) =>
      (((¬ r13 = 0) →
          (∃ x22 : Int32, gF h13 l0 6 1 = some (.inl x22) ∧
            (∀ z28 : Int32, z28 = x22 + (7 : Int32) →
              ((∃ o : MV, gF h13 l0 6 1 = some o) ∧ ∀ h31 : MH, h31 = fset h13 l0 1 (.inl l1 : MV) →
                ((∃ o : MV, gF h31 l0 6 19 = some o) ∧ ∀ h36 : MH, h36 = fset h31 l0 19 (.inl (0 : Int32) : MV) →
                  (Post z28 h36)))))) ∧
        ((r13 = 0) →
          (Post (-1 : Int32) h13)))) ((l1).toInt64) (-7 : Int64) (7 : Int64) h2)
set_option maxRecDepth 100000 in
set_option maxHeartbeats 4000000 in
theorem t_Rm_key {p : Program} {l : Launch} {e : Env} {R : Room} {s : State} {m : MethodId} {args : Array Value} {below : List Frame} {meth : Method} {c : Code} (G : mG) (C0 : Cx G p s m args c prog_8_method_5_code 3 "BassRealiserModel") (hR : 1 ≤ R.frames ∧ 25 ≤ R.locals ∧ 0 ≤ R.cells ∧ 0 ≤ R.slots) (hr : meth.sig.returnType = some .int) (hlk : meth.locks = false) {Post : Int32 → MH → Prop} (l0 : Nat) (l1 : Int32) (h : MH) (hwp : wp_Rm_key Post l0 l1 h) : WG p l e R s m args below meth c 0 0 (MQ below (va_Qi Post (Wd G) (mA G)) args s 0 0 (mA G)) G 3 [(0, .ref (m_b G + l0)), (1, .int l1)] 0 [] h := by
  unfold wp_Rm_key at hwp
  refine x_aload_n C0 0 d_Rm_key_0 rfl rfl ?_
  refine x_iconst (v := 0) C0 d_Rm_key_1 (by decide) ?_
  obtain ⟨⟨o2, e2⟩, hwp⟩ := hwp
  refine x_put (x := (.inl (0 : Int32) : MV)) C0 pk_Rm_1 e2 rfl rfl d_Rm_key_2 ?_
  refine x_nh (fun h2 eh2 => ?_)
  replace hwp := hwp h2 eh2
  refine x_iload_n C0 1 d_Rm_key_5 rfl rfl ?_
  refine x_i2l C0 d_Rm_key_6 ?_
  refine x_ldc2 (v := -7) C0 kw_3_171 d_Rm_key_7 ?_
  refine x_ldc2 (v := 7) C0 kw_3_172 d_Rm_key_10 ?_
  refine x_callSi0 (As := [.long ((l1).toInt64), .long (-7 : Int64), .long (7 : Int64)]) (st := []) C0 (c_Rm_in l G hwp) kw_3_173 mk_Rm_in kw_3_174 rfl (Nat.le_of_ble_eq_true rfl) rfl rfl ⟨Nat.le_trans (by decide) hR.1, Nat.le_trans (by decide) hR.2.1⟩ ⟨Nat.zero_le _, Nat.zero_le _⟩ rfl d_Rm_key_13 (fun r13 h13 hwp => ?_)
  refine x_if_ne (tgt := 21) C0 d_Rm_key_16 (by decide) (fun c16 => ?_) (fun c16 => ?_)
  · replace hwp := hwp.1 c16
    refine x_aload_n C0 0 d_Rm_key_21 rfl rfl ?_
    obtain ⟨x22, e22, hwp⟩ := hwp
    refine x_getI C0 fk_Rm_90 e22 d_Rm_key_22 ?_
    refine x_bipush (v := 7) C0 d_Rm_key_25 (by decide) ?_
    refine x_iadd C0 d_Rm_key_27 ?_
    refine x_topI (fun z28 e28 => ?_)
    replace hwp := hwp z28 e28
    refine x_istore_n C0 d_Rm_key_28 rfl (by decide) (lv' := [(2, .int z28), (0, .ref (m_b G + l0)), (1, .int l1)]) rfl ?_
    refine x_aload_n C0 1 d_Rm_key_29 rfl rfl ?_
    refine x_iload_n C0 2 d_Rm_key_30 rfl rfl ?_
    obtain ⟨⟨o31, e31⟩, hwp⟩ := hwp
    refine x_put (x := (.inl l1 : MV)) C0 pk_Rm_90 e31 rfl rfl d_Rm_key_31 ?_
    refine x_nh (fun h31 eh31 => ?_)
    replace hwp := hwp h31 eh31
    refine x_aload_n C0 1 d_Rm_key_34 rfl rfl ?_
    refine x_iconst (v := 0) C0 d_Rm_key_35 (by decide) ?_
    obtain ⟨⟨o36, e36⟩, hwp⟩ := hwp
    refine x_put (x := (.inl (0 : Int32) : MV)) C0 pk_Rm_93 e36 rfl rfl d_Rm_key_36 ?_
    refine x_nh (fun h36 eh36 => ?_)
    replace hwp := hwp h36 eh36
    refine x_iload_n C0 0 d_Rm_key_39 rfl rfl ?_
    exact x_iret C0 hr hlk hwp d_Rm_key_40
  · replace hwp := hwp.2 c16
    refine x_iconst (v := -1) C0 d_Rm_key_19 (by decide) ?_
    exact x_iret C0 hr hlk hwp d_Rm_key_20
set_option maxRecDepth 100000 in
set_option maxHeartbeats 4000000 in
theorem c_Rm_key (l : Launch) (G : mG) {Post : Int32 → MH → Prop} {l0 : Nat} {l1 : Int32} {h : MH} (hwp : wp_Rm_key Post l0 l1 h) : Met l y_Rm_key (Cond.code y_Rm_key prog_8_method_5_code 3 (Option.some Jvm.ClassFile.FieldType.int) :: lw_good) ({ frames := 1, cells := 0, slots := 0, locals := 25 }) (va_Pc [.ref (m_b G + l0), .int l1] (Wd G h)) (va_Qi Post (Wd G) (mA G)) 0 0 (mA G) := by
  refine Met.ofW (cc := prog_8_method_5_code) (maxL := 3) (ret := (Option.some Jvm.ClassFile.FieldType.int)) (by decide +kernel) rfl ?_
  intro p e s m args below meth c s₁ B hml hv
  obtain ⟨rfl, hP, hz, hK, hSt⟩ := hv
  have hts := atoms_spec (ws := Cond.code y_Rm_key prog_8_method_5_code 3 (Option.some Jvm.ClassFile.FieldType.int) :: lw_good) B.pre
  have C0 : Cx G p s m ([.ref (m_b G + l0), .int l1] : List Value).toArray c prog_8_method_5_code 3 "BassRealiserModel" := ⟨⟨B.exec, B.bytes, hml, findClass_of_methodNamed B.named, fun w h => hts w (List.mem_cons_of_mem _ h)⟩, hK, hSt, by rw [hz]; exact Nat.le_add_right _ _⟩
  have hl := lv_entry ([.ref (m_b G + l0), .int l1]) (n := 3) (Nat.le_of_ble_eq_true rfl)
  rw [lg_entry_eq]
  exact t_Rm_key G C0 ⟨Nat.le_refl _, Nat.le_refl _, Nat.le_refl _, Nat.le_refl _⟩ B.returns B.notSynchronized _ _ _ hwp _ _ _ ⟨hP, hz, va_S.rf⟩ hl
def wb_Ch_untell_7 (K7 : Nat → Int32 → MH → Prop) (Post : MH → Prop) (l0 : Nat) (l1 : Int32) (h : MH) : Prop :=
  (((9 : Int32) < l1) →
    (Post h)) ∧
  ((¬ (9 : Int32) < l1) →
    (∃ x14 : Nat, gF h l0 0 4 = some (.inr (some x14)) ∧
      (∃ (n19 : Nat) (f19 : Nat → Int32), gA h x14 0 = some (n19, f19) ∧ vp_in l1 n19 ∧ ∀ h19 : MH, h19 = mset h x14 (.inr (0, n19, .inl (upd f19 (l1).toNatClampNeg (0 : Int32)))) →
        (K7 l0 (l1 + (1 : Int32)) h19))))
def wn_Ch_untell_7 (Post : MH → Prop) : Nat → Nat → Int32 → MH → Prop
  | 0 => fun _ _ _ => False
  | n + 1 => wb_Ch_untell_7 (wn_Ch_untell_7 Post n) Post
def wp_Ch_untell_7 (Post : MH → Prop) (l0 : Nat) (l1 : Int32) (h : MH) : Prop := ∃ n, wn_Ch_untell_7 Post n l0 l1 h
def wp_Ch_untell (Post : MH → Prop) (l0 : Nat) (h : MH) : Prop :=
  (∃ o : MV, gF h l0 0 2 = some o) ∧ ∀ h2 : MH, h2 = fset h l0 2 (.inl (0 : Int32) : MV) →
  (wp_Ch_untell_7 Post l0 (0 : Int32) h2)
set_option maxRecDepth 100000 in
set_option maxHeartbeats 4000000 in
theorem tb_Ch_untell_7 {p : Program} {l : Launch} {e : Env} {R : Room} {s : State} {m : MethodId} {args : Array Value} {below : List Frame} {meth : Method} {c : Code} (G : mG) (C0 : Cx G p s m args c prog_2_method_4_code 2 "BassRealiser$Chord") (hR : 0 ≤ R.frames ∧ 0 ≤ R.locals ∧ 0 ≤ R.cells ∧ 0 ≤ R.slots) (hr : meth.sig.returnType = none) (hlk : meth.locks = false) {Post : MH → Prop} {K7 : Nat → Int32 → MH → Prop} (hK7 : ∀ (l0 : Nat) (l1 : Int32) (h : MH), K7 l0 l1 h → WG p l e R s m args below meth c 0 0 (MQ below (va_Qv Post (Wd G) (mA G)) args s 0 0 (mA G)) G 2 [(0, .ref (m_b G + l0)), (1, .int l1)] 7 [] h) (l0 : Nat) (l1 : Int32) (h : MH) (hwp : wb_Ch_untell_7 K7 Post l0 l1 h) : WG p l e R s m args below meth c 0 0 (MQ below (va_Qv Post (Wd G) (mA G)) args s 0 0 (mA G)) G 2 [(0, .ref (m_b G + l0)), (1, .int l1)] 7 [] h := by
  unfold wb_Ch_untell_7 at hwp
  refine x_iload_n C0 1 d_Ch_untell_7 rfl rfl ?_
  refine x_bipush (v := 9) C0 d_Ch_untell_8 (by decide) ?_
  refine x_icmp_gt (tgt := 26) C0 d_Ch_untell_10 (by decide) (fun c10 => ?_) (fun c10 => ?_)
  · replace hwp := hwp.1 c10
    exact x_vret C0 hr hlk hwp d_Ch_untell_26
  · replace hwp := hwp.2 c10
    refine x_aload_n C0 0 d_Ch_untell_13 rfl rfl ?_
    obtain ⟨x14, e14, hwp⟩ := hwp
    refine x_getR C0 fk_Ch_9 e14 d_Ch_untell_14 ?_
    refine x_iload_n C0 1 d_Ch_untell_17 rfl rfl ?_
    refine x_iconst (v := 0) C0 d_Ch_untell_18 (by decide) ?_
    obtain ⟨n19, f19, e19, i19, hwp⟩ := hwp
    refine x_iast C0 e19 i19 d_Ch_untell_19 ?_
    refine x_nh (fun h19 eh19 => ?_)
    replace hwp := hwp h19 eh19
    refine x_iinc C0 1 d_Ch_untell_20 rfl rfl (by decide) (lv' := [(1, .int (l1 + (1 : Int32))), (0, .ref (m_b G + l0))]) rfl ?_
    refine x_goto (tgt := 7) C0 d_Ch_untell_23 (by decide) ?_
    exact x_sub [1, 0] rfl (hK7 _ _ _ hwp)
theorem t_Ch_untell_7 {p : Program} {l : Launch} {e : Env} {R : Room} {s : State} {m : MethodId} {args : Array Value} {below : List Frame} {meth : Method} {c : Code} (G : mG) (C0 : Cx G p s m args c prog_2_method_4_code 2 "BassRealiser$Chord") (hR : 0 ≤ R.frames ∧ 0 ≤ R.locals ∧ 0 ≤ R.cells ∧ 0 ≤ R.slots) (hr : meth.sig.returnType = none) (hlk : meth.locks = false) {Post : MH → Prop} (l0 : Nat) (l1 : Int32) (h : MH) (hwp : wp_Ch_untell_7 Post l0 l1 h) : WG p l e R s m args below meth c 0 0 (MQ below (va_Qv Post (Wd G) (mA G)) args s 0 0 (mA G)) G 2 [(0, .ref (m_b G + l0)), (1, .int l1)] 7 [] h := by
  obtain ⟨n, hwp⟩ := hwp
  induction n generalizing l0 l1 h with
  | zero => exact False.elim hwp
  | succ n ih => exact tb_Ch_untell_7 G C0 hR hr hlk (fun l0 l1 h hwp => ih l0 l1 h hwp) l0 l1 h hwp
set_option maxRecDepth 100000 in
set_option maxHeartbeats 4000000 in
theorem t_Ch_untell {p : Program} {l : Launch} {e : Env} {R : Room} {s : State} {m : MethodId} {args : Array Value} {below : List Frame} {meth : Method} {c : Code} (G : mG) (C0 : Cx G p s m args c prog_2_method_4_code 2 "BassRealiser$Chord") (hR : 0 ≤ R.frames ∧ 0 ≤ R.locals ∧ 0 ≤ R.cells ∧ 0 ≤ R.slots) (hr : meth.sig.returnType = none) (hlk : meth.locks = false) {Post : MH → Prop} (l0 : Nat) (h : MH) (hwp : wp_Ch_untell Post l0 h) : WG p l e R s m args below meth c 0 0 (MQ below (va_Qv Post (Wd G) (mA G)) args s 0 0 (mA G)) G 2 [(0, .ref (m_b G + l0))] 0 [] h := by
  unfold wp_Ch_untell at hwp
  refine x_aload_n C0 0 d_Ch_untell_0 rfl rfl ?_
  refine x_iconst (v := 0) C0 d_Ch_untell_1 (by decide) ?_
  obtain ⟨⟨o2, e2⟩, hwp⟩ := hwp
  refine x_put (x := (.inl (0 : Int32) : MV)) C0 pk_Ch_34 e2 rfl rfl d_Ch_untell_2 ?_
  refine x_nh (fun h2 eh2 => ?_)
  replace hwp := hwp h2 eh2
  refine x_iconst (v := 0) C0 d_Ch_untell_5 (by decide) ?_
  refine x_istore_n C0 d_Ch_untell_6 rfl (by decide) (lv' := [(1, .int (0 : Int32)), (0, .ref (m_b G + l0))]) rfl ?_
  exact x_sub [1, 0] rfl (t_Ch_untell_7 G C0 hR hr hlk  _ _ _ hwp)
set_option maxRecDepth 100000 in
set_option maxHeartbeats 4000000 in
theorem c_Ch_untell (l : Launch) (G : mG) {Post : MH → Prop} {l0 : Nat} {h : MH} (hwp : wp_Ch_untell Post l0 h) : Met l y_Ch_untell (Cond.code y_Ch_untell prog_2_method_4_code 2 (Option.none : Option Jvm.ClassFile.FieldType) :: lw_good) ({ frames := 0, cells := 0, slots := 0, locals := 0 }) (va_Pc [.ref (m_b G + l0)] (Wd G h)) (va_Qv Post (Wd G) (mA G)) 0 0 (mA G) := by
  refine Met.ofW (cc := prog_2_method_4_code) (maxL := 2) (ret := (Option.none : Option Jvm.ClassFile.FieldType)) (by decide +kernel) rfl ?_
  intro p e s m args below meth c s₁ B hml hv
  obtain ⟨rfl, hP, hz, hK, hSt⟩ := hv
  have hts := atoms_spec (ws := Cond.code y_Ch_untell prog_2_method_4_code 2 (Option.none : Option Jvm.ClassFile.FieldType) :: lw_good) B.pre
  have C0 : Cx G p s m ([.ref (m_b G + l0)] : List Value).toArray c prog_2_method_4_code 2 "BassRealiser$Chord" := ⟨⟨B.exec, B.bytes, hml, findClass_of_methodNamed B.named, fun w h => hts w (List.mem_cons_of_mem _ h)⟩, hK, hSt, by rw [hz]; exact Nat.le_add_right _ _⟩
  have hl := lv_entry ([.ref (m_b G + l0)]) (n := 2) (Nat.le_of_ble_eq_true rfl)
  rw [lg_entry_eq]
  exact t_Ch_untell G C0 ⟨Nat.le_refl _, Nat.le_refl _, Nat.le_refl _, Nat.le_refl _⟩ B.returns B.notSynchronized _ _ hwp _ _ _ ⟨hP, hz, va_S.rf⟩ hl
def wb_Ch_begin_31 (K31 : Nat → Int32 → MH → Prop) (Post : MH → Prop) (l0 : Nat) (l4 : Int32) (h : MH) : Prop :=
  (((3 : Int32) ≤ l4) →
    (gC h l0 = some 0 ∧ wp_Ch_untell (fun (h52 : MH) =>
        (Post h52)) l0 h)) ∧
  ((¬ (3 : Int32) ≤ l4) →
    (∃ x38 : Nat, gF h l0 0 5 = some (.inr (some x38)) ∧
      (∃ (n44 : Nat) (f44 : Nat → Int32), gA h x38 0 = some (n44, f44) ∧ vp_in l4 n44 ∧ ∀ h44 : MH, h44 = mset h x38 (.inr (0, n44, .inl (upd f44 (l4).toNatClampNeg (-1 : Int32)))) →
        (K31 l0 (l4 + (1 : Int32)) h44))))
def wn_Ch_begin_31 (Post : MH → Prop) : Nat → Nat → Int32 → MH → Prop
  | 0 => fun _ _ _ => False
  | n + 1 => wb_Ch_begin_31 (wn_Ch_begin_31 Post n) Post
def wp_Ch_begin_31 (Post : MH → Prop) (l0 : Nat) (l4 : Int32) (h : MH) : Prop := ∃ n, wn_Ch_begin_31 Post n l0 l4 h
def wp_Ch_begin (Post : MH → Prop) (l0 : Nat) (l1 : Int32) (l2 : Int32) (l3 : Int32) (h : MH) : Prop :=
  (∃ o : MV, gF h l0 0 0 = some o) ∧ ∀ h2 : MH, h2 = fset h l0 0 (.inl l1 : MV) →
  (0 < m_nS ∧ vp_in l1 (m_sN 0) ∧
    ((∃ o : MV, gF h2 l0 0 1 = some o) ∧ ∀ h20 : MH, h20 = fset h2 l0 1 (.inl ((((12 : Int32) * (l2 + (1 : Int32))) + (m_sV 0 (l1).toNatClampNeg)) + l3) : MV) →
      ((∃ o : MV, gF h20 l0 0 6 = some o) ∧ ∀ h25 : MH, h25 = fset h20 l0 6 (.inl (-1 : Int32) : MV) →
        (wp_Ch_begin_31 Post l0 (0 : Int32) h25))))
set_option maxRecDepth 100000 in
set_option maxHeartbeats 4000000 in
theorem tb_Ch_begin_31 {p : Program} {l : Launch} {e : Env} {R : Room} {s : State} {m : MethodId} {args : Array Value} {below : List Frame} {meth : Method} {c : Code} (G : mG) (C0 : Cx G p s m args c prog_2_method_2_code 5 "BassRealiser$Chord") (hR : 1 ≤ R.frames ∧ 21 ≤ R.locals ∧ 0 ≤ R.cells ∧ 0 ≤ R.slots) (hr : meth.sig.returnType = none) (hlk : meth.locks = false) {Post : MH → Prop} {K31 : Nat → Int32 → MH → Prop} (hK31 : ∀ (l0 : Nat) (l4 : Int32) (h : MH), K31 l0 l4 h → WG p l e R s m args below meth c 0 0 (MQ below (va_Qv Post (Wd G) (mA G)) args s 0 0 (mA G)) G 5 [(0, .ref (m_b G + l0)), (4, .int l4)] 31 [] h) (l0 : Nat) (l4 : Int32) (h : MH) (hwp : wb_Ch_begin_31 K31 Post l0 l4 h) : WG p l e R s m args below meth c 0 0 (MQ below (va_Qv Post (Wd G) (mA G)) args s 0 0 (mA G)) G 5 [(0, .ref (m_b G + l0)), (4, .int l4)] 31 [] h := by
  unfold wb_Ch_begin_31 at hwp
  refine x_iload C0 1 d_Ch_begin_31 rfl ?_
  refine x_iconst (v := 3) C0 d_Ch_begin_33 (by decide) ?_
  refine x_icmp_ge (tgt := 51) C0 d_Ch_begin_34 (by decide) (fun c34 => ?_) (fun c34 => ?_)
  · replace hwp := hwp.1 c34
    refine x_aload_n C0 0 d_Ch_begin_51 rfl rfl ?_
    obtain ⟨g52, hwp⟩ := hwp
    refine x_callVv0 (k := l0) (As := []) (st := []) C0 (c_Ch_untell l G hwp) kw_2_48 mk_Ch_untell vk_Ch_untell rfl g52 rfl (Nat.le_of_ble_eq_true rfl) rfl rfl ⟨Nat.le_trans (by decide) hR.1, Nat.le_trans (by decide) hR.2.1⟩ ⟨Nat.zero_le _, Nat.zero_le _⟩ rfl d_Ch_begin_52 (fun h52 hwp => ?_)
    exact x_vret C0 hr hlk hwp d_Ch_begin_55
  · replace hwp := hwp.2 c34
    refine x_aload_n C0 0 d_Ch_begin_37 rfl rfl ?_
    obtain ⟨x38, e38, hwp⟩ := hwp
    refine x_getR C0 fk_Ch_15 e38 d_Ch_begin_38 ?_
    refine x_iload C0 1 d_Ch_begin_41 rfl ?_
    refine x_iconst (v := -1) C0 d_Ch_begin_43 (by decide) ?_
    obtain ⟨n44, f44, e44, i44, hwp⟩ := hwp
    refine x_iast C0 e44 i44 d_Ch_begin_44 ?_
    refine x_nh (fun h44 eh44 => ?_)
    replace hwp := hwp h44 eh44
    refine x_iinc C0 1 d_Ch_begin_45 rfl rfl (by decide) (lv' := [(4, .int (l4 + (1 : Int32))), (0, .ref (m_b G + l0))]) rfl ?_
    refine x_goto (tgt := 31) C0 d_Ch_begin_48 (by decide) ?_
    exact x_sub [1, 0] rfl (hK31 _ _ _ hwp)
theorem t_Ch_begin_31 {p : Program} {l : Launch} {e : Env} {R : Room} {s : State} {m : MethodId} {args : Array Value} {below : List Frame} {meth : Method} {c : Code} (G : mG) (C0 : Cx G p s m args c prog_2_method_2_code 5 "BassRealiser$Chord") (hR : 1 ≤ R.frames ∧ 21 ≤ R.locals ∧ 0 ≤ R.cells ∧ 0 ≤ R.slots) (hr : meth.sig.returnType = none) (hlk : meth.locks = false) {Post : MH → Prop} (l0 : Nat) (l4 : Int32) (h : MH) (hwp : wp_Ch_begin_31 Post l0 l4 h) : WG p l e R s m args below meth c 0 0 (MQ below (va_Qv Post (Wd G) (mA G)) args s 0 0 (mA G)) G 5 [(0, .ref (m_b G + l0)), (4, .int l4)] 31 [] h := by
  obtain ⟨n, hwp⟩ := hwp
  induction n generalizing l0 l4 h with
  | zero => exact False.elim hwp
  | succ n ih => exact tb_Ch_begin_31 G C0 hR hr hlk (fun l0 l4 h hwp => ih l0 l4 h hwp) l0 l4 h hwp
set_option maxRecDepth 100000 in
set_option maxHeartbeats 4000000 in
theorem t_Ch_begin {p : Program} {l : Launch} {e : Env} {R : Room} {s : State} {m : MethodId} {args : Array Value} {below : List Frame} {meth : Method} {c : Code} (G : mG) (C0 : Cx G p s m args c prog_2_method_2_code 5 "BassRealiser$Chord") (hR : 1 ≤ R.frames ∧ 21 ≤ R.locals ∧ 0 ≤ R.cells ∧ 0 ≤ R.slots) (hr : meth.sig.returnType = none) (hlk : meth.locks = false) {Post : MH → Prop} (l0 : Nat) (l1 : Int32) (l2 : Int32) (l3 : Int32) (h : MH) (hwp : wp_Ch_begin Post l0 l1 l2 l3 h) : WG p l e R s m args below meth c 0 0 (MQ below (va_Qv Post (Wd G) (mA G)) args s 0 0 (mA G)) G 5 [(0, .ref (m_b G + l0)), (1, .int l1), (2, .int l2), (3, .int l3)] 0 [] h := by
  unfold wp_Ch_begin at hwp
  refine x_aload_n C0 0 d_Ch_begin_0 rfl rfl ?_
  refine x_iload_n C0 1 d_Ch_begin_1 rfl rfl ?_
  obtain ⟨⟨o2, e2⟩, hwp⟩ := hwp
  refine x_put (x := (.inl l1 : MV)) C0 pk_Ch_22 e2 rfl rfl d_Ch_begin_2 ?_
  refine x_nh (fun h2 eh2 => ?_)
  replace hwp := hwp h2 eh2
  refine x_aload_n C0 0 d_Ch_begin_5 rfl rfl ?_
  refine x_bipush (v := 12) C0 d_Ch_begin_6 (by decide) ?_
  refine x_iload_n C0 2 d_Ch_begin_8 rfl rfl ?_
  refine x_iconst (v := 1) C0 d_Ch_begin_9 (by decide) ?_
  refine x_iadd C0 d_Ch_begin_10 ?_
  refine x_imul C0 d_Ch_begin_11 ?_
  refine x_getsN C0 0 (by decide) (m_nwA C0 nw_1) d_Ch_begin_12 ?_
  refine x_iload_n C0 1 d_Ch_begin_15 rfl rfl ?_
  obtain ⟨e16, i16, hwp⟩ := hwp
  refine x_sald C0 e16 i16 d_Ch_begin_16 ?_
  refine x_iadd C0 d_Ch_begin_17 ?_
  refine x_iload_n C0 3 d_Ch_begin_18 rfl rfl ?_
  refine x_iadd C0 d_Ch_begin_19 ?_
  obtain ⟨⟨o20, e20⟩, hwp⟩ := hwp
  refine x_put (x := (.inl ((((12 : Int32) * (l2 + (1 : Int32))) + (m_sV 0 (l1).toNatClampNeg)) + l3) : MV)) C0 pk_Ch_28 e20 rfl rfl d_Ch_begin_20 ?_
  refine x_nh (fun h20 eh20 => ?_)
  replace hwp := hwp h20 eh20
  refine x_aload_n C0 0 d_Ch_begin_23 rfl rfl ?_
  refine x_iconst (v := -1) C0 d_Ch_begin_24 (by decide) ?_
  obtain ⟨⟨o25, e25⟩, hwp⟩ := hwp
  refine x_put (x := (.inl (-1 : Int32) : MV)) C0 pk_Ch_18 e25 rfl rfl d_Ch_begin_25 ?_
  refine x_nh (fun h25 eh25 => ?_)
  replace hwp := hwp h25 eh25
  refine x_iconst (v := 0) C0 d_Ch_begin_28 (by decide) ?_
  refine x_istore C0 d_Ch_begin_29 (by decide) (lv' := [(4, .int (0 : Int32)), (0, .ref (m_b G + l0)), (1, .int l1), (2, .int l2), (3, .int l3)]) rfl ?_
  exact x_sub [1, 0] rfl (t_Ch_begin_31 G C0 hR hr hlk  _ _ _ hwp)
set_option maxRecDepth 100000 in
set_option maxHeartbeats 4000000 in
theorem c_Ch_begin (l : Launch) (G : mG) {Post : MH → Prop} {l0 : Nat} {l1 : Int32} {l2 : Int32} {l3 : Int32} {h : MH} (hwp : wp_Ch_begin Post l0 l1 l2 l3 h) : Met l y_Ch_begin (Cond.code y_Ch_begin prog_2_method_2_code 5 (Option.none : Option Jvm.ClassFile.FieldType) :: lw_good) ({ frames := 1, cells := 0, slots := 0, locals := 21 }) (va_Pc [.ref (m_b G + l0), .int l1, .int l2, .int l3] (Wd G h)) (va_Qv Post (Wd G) (mA G)) 0 0 (mA G) := by
  refine Met.ofW (cc := prog_2_method_2_code) (maxL := 5) (ret := (Option.none : Option Jvm.ClassFile.FieldType)) (by decide +kernel) rfl ?_
  intro p e s m args below meth c s₁ B hml hv
  obtain ⟨rfl, hP, hz, hK, hSt⟩ := hv
  have hts := atoms_spec (ws := Cond.code y_Ch_begin prog_2_method_2_code 5 (Option.none : Option Jvm.ClassFile.FieldType) :: lw_good) B.pre
  have C0 : Cx G p s m ([.ref (m_b G + l0), .int l1, .int l2, .int l3] : List Value).toArray c prog_2_method_2_code 5 "BassRealiser$Chord" := ⟨⟨B.exec, B.bytes, hml, findClass_of_methodNamed B.named, fun w h => hts w (List.mem_cons_of_mem _ h)⟩, hK, hSt, by rw [hz]; exact Nat.le_add_right _ _⟩
  have hl := lv_entry ([.ref (m_b G + l0), .int l1, .int l2, .int l3]) (n := 5) (Nat.le_of_ble_eq_true rfl)
  rw [lg_entry_eq]
  exact t_Ch_begin G C0 ⟨Nat.le_refl _, Nat.le_refl _, Nat.le_refl _, Nat.le_refl _⟩ B.returns B.notSynchronized _ _ _ _ _ hwp _ _ _ ⟨hP, hz, va_S.rf⟩ hl
def wp_Se_forgetChord (Post : MH → Prop) (l0 : Nat) (l1 : Int32) (h : MH) : Prop :=
  ∃ x1 : Nat, gF h l0 4 2 = some (.inr (some x1)) ∧
  (∃ (n5 : Nat) (f5 : Nat → Option Nat) (q5 : Nat), gR h x1 4 = some (n5, f5) ∧ vp_in l1 n5 ∧ f5 (l1).toNatClampNeg = some q5 ∧
    ((∃ o : MV, gF h q5 1 5 = some o) ∧ ∀ h7 : MH, h7 = fset h q5 5 (.inl (0 : Int32) : MV) →
      ((∃ o : MV, gF h7 l0 4 8 = some o) ∧ ∀ h12 : MH, h12 = fset h7 l0 8 (.inl (0 : Int32) : MV) →
        (Post h12))))
set_option maxRecDepth 100000 in
set_option maxHeartbeats 4000000 in
theorem t_Se_forgetChord {p : Program} {l : Launch} {e : Env} {R : Room} {s : State} {m : MethodId} {args : Array Value} {below : List Frame} {meth : Method} {c : Code} (G : mG) (C0 : Cx G p s m args c prog_6_method_3_code 2 "BassRealiser$Search") (hR : 0 ≤ R.frames ∧ 0 ≤ R.locals ∧ 0 ≤ R.cells ∧ 0 ≤ R.slots) (hr : meth.sig.returnType = none) (hlk : meth.locks = false) {Post : MH → Prop} (l0 : Nat) (l1 : Int32) (h : MH) (hwp : wp_Se_forgetChord Post l0 l1 h) : WG p l e R s m args below meth c 0 0 (MQ below (va_Qv Post (Wd G) (mA G)) args s 0 0 (mA G)) G 2 [(0, .ref (m_b G + l0)), (1, .int l1)] 0 [] h := by
  unfold wp_Se_forgetChord at hwp
  refine x_aload_n C0 0 d_Se_forgetChord_0 rfl rfl ?_
  obtain ⟨x1, e1, hwp⟩ := hwp
  refine x_getR C0 fk_Se_26 e1 d_Se_forgetChord_1 ?_
  refine x_iload_n C0 1 d_Se_forgetChord_4 rfl rfl ?_
  obtain ⟨n5, f5, q5, e5, i5, g5, hwp⟩ := hwp
  refine x_aald (t := 4) C0 e5 rfl i5 g5 d_Se_forgetChord_5 ?_
  refine x_iconst (v := 0) C0 d_Se_forgetChord_6 (by decide) ?_
  obtain ⟨⟨o7, e7⟩, hwp⟩ := hwp
  refine x_put (x := (.inl (0 : Int32) : MV)) C0 pk_Se_47 e7 rfl rfl d_Se_forgetChord_7 ?_
  refine x_nh (fun h7 eh7 => ?_)
  replace hwp := hwp h7 eh7
  refine x_aload_n C0 0 d_Se_forgetChord_10 rfl rfl ?_
  refine x_iconst (v := 0) C0 d_Se_forgetChord_11 (by decide) ?_
  obtain ⟨⟨o12, e12⟩, hwp⟩ := hwp
  refine x_put (x := (.inl (0 : Int32) : MV)) C0 pk_Se_51 e12 rfl rfl d_Se_forgetChord_12 ?_
  refine x_nh (fun h12 eh12 => ?_)
  replace hwp := hwp h12 eh12
  exact x_vret C0 hr hlk hwp d_Se_forgetChord_15
set_option maxRecDepth 100000 in
set_option maxHeartbeats 4000000 in
theorem c_Se_forgetChord (l : Launch) (G : mG) {Post : MH → Prop} {l0 : Nat} {l1 : Int32} {h : MH} (hwp : wp_Se_forgetChord Post l0 l1 h) : Met l y_Se_forgetChord (Cond.code y_Se_forgetChord prog_6_method_3_code 2 (Option.none : Option Jvm.ClassFile.FieldType) :: lw_good) ({ frames := 0, cells := 0, slots := 0, locals := 0 }) (va_Pc [.ref (m_b G + l0), .int l1] (Wd G h)) (va_Qv Post (Wd G) (mA G)) 0 0 (mA G) := by
  refine Met.ofW (cc := prog_6_method_3_code) (maxL := 2) (ret := (Option.none : Option Jvm.ClassFile.FieldType)) (by decide +kernel) rfl ?_
  intro p e s m args below meth c s₁ B hml hv
  obtain ⟨rfl, hP, hz, hK, hSt⟩ := hv
  have hts := atoms_spec (ws := Cond.code y_Se_forgetChord prog_6_method_3_code 2 (Option.none : Option Jvm.ClassFile.FieldType) :: lw_good) B.pre
  have C0 : Cx G p s m ([.ref (m_b G + l0), .int l1] : List Value).toArray c prog_6_method_3_code 2 "BassRealiser$Search" := ⟨⟨B.exec, B.bytes, hml, findClass_of_methodNamed B.named, fun w h => hts w (List.mem_cons_of_mem _ h)⟩, hK, hSt, by rw [hz]; exact Nat.le_add_right _ _⟩
  have hl := lv_entry ([.ref (m_b G + l0), .int l1]) (n := 2) (Nat.le_of_ble_eq_true rfl)
  rw [lg_entry_eq]
  exact t_Se_forgetChord G C0 ⟨Nat.le_refl _, Nat.le_refl _, Nat.le_refl _, Nat.le_refl _⟩ B.returns B.notSynchronized _ _ _ hwp _ _ _ ⟨hP, hz, va_S.rf⟩ hl
def wp_Br_chord (Post : Int32 → MH → Prop) (l0 : Nat) (l1 : Int32) (l2 : Int32) (l3 : Int32) (h : MH) : Prop :=
  wp_Br_within (fun (r4 : Int32) (h4 : MH) =>
    (((r4 = 0) →
        (Post (-1 : Int32) h4)) ∧
      ((¬ r4 = 0) →
        (wp_Br_within (fun (r13 : Int32) (h13 : MH) =>
            (((r13 = 0) →
                (Post (-1 : Int32) h13)) ∧
              ((¬ r13 = 0) →
                (wp_Br_within (fun (r22 : Int32) (h22 : MH) =>
                    (((¬ r22 = 0) →
                        (∃ x31 : Int32, gF h22 l0 5 4 = some (.inl x31) ∧
                        (((x31 < (12 : Int32)) →
                        (∃ x43 : Nat, gF h22 l0 5 1 = some (.inr (some x43)) ∧
                        (∃ x47 : Int32, gF h22 l0 5 4 = some (.inl x47) ∧
                        (∃ (n50 : Nat) (f50 : Nat → Option Nat) (q50 : Nat), gR h22 x43 3 = some (n50, f50) ∧ vp_in x47 n50 ∧ f50 (x47).toNatClampNeg = some q50 ∧
                        (gC h22 q50 = some 0 ∧ wp_Ch_begin (fun (h54 : MH) =>
                        (∃ x58 : Nat, gF h54 l0 5 1 = some (.inr (some x58)) ∧
                        (∃ x62 : Int32, gF h54 l0 5 4 = some (.inl x62) ∧
                        (∃ (n65 : Nat) (f65 : Nat → Option Nat) (q65 : Nat), gR h54 x58 3 = some (n65, f65) ∧ vp_in x62 n65 ∧ f65 (x62).toNatClampNeg = some q65 ∧
                        (∃ x67 : Nat, gF h54 l0 5 2 = some (.inr (some x67)) ∧
                        (∃ x70 : Int32, gF h54 x67 3 4 = some (.inl x70) ∧
                        (gC h54 q65 = some 0 ∧ wp_Ch_tune (fun (h73 : MH) =>
                        (∃ x77 : Nat, gF h73 l0 5 0 = some (.inr (some x77)) ∧
                        (∃ x81 : Int32, gF h73 l0 5 4 = some (.inl x81) ∧
                        (gC h73 x77 = some 4 ∧ wp_Se_forgetChord (fun (h84 : MH) =>
                        (∃ x89 : Int32, gF h84 l0 5 4 = some (.inl x89) ∧
                        ((∃ o : MV, gF h84 l0 5 4 = some o) ∧ ∀ h94 : MH, h94 = fset h84 l0 4 (.inl (x89 + (1 : Int32)) : MV) →
                        (∃ x98 : Int32, gF h94 l0 5 4 = some (.inl x98) ∧
                        (Post (x98 - (1 : Int32)) h94))))) x77 x81 h73)))) q65 x70 h54))))))) q50 l1 l2 l3 h22))))) ∧
                        ((¬ x31 < (12 : Int32)) →
                        (Post (-3 : Int32) h22))))) ∧
                      ((r22 = 0) →
                        (Post (-1 : Int32) h22)))) l3 (-1 : Int32) (1 : Int32) h13)))) l2 (1 : Int32) (5 : Int32) h4)))) l1 (0 : Int32) (6 : Int32) h
set_option maxRecDepth 100000 in
set_option maxHeartbeats 4000000 in
theorem t_Br_chord {p : Program} {l : Launch} {e : Env} {R : Room} {s : State} {m : MethodId} {args : Array Value} {below : List Frame} {meth : Method} {c : Code} (G : mG) (C0 : Cx G p s m args c prog_1_method_3_code 4 "BassRealiser") (hR : 5 ≤ R.frames ∧ 112 ≤ R.locals ∧ 0 ≤ R.cells ∧ 0 ≤ R.slots) (hr : meth.sig.returnType = some .int) (hlk : meth.locks = false) {Post : Int32 → MH → Prop} (l0 : Nat) (l1 : Int32) (l2 : Int32) (l3 : Int32) (h : MH) (hwp : wp_Br_chord Post l0 l1 l2 l3 h) : WG p l e R s m args below meth c 0 0 (MQ below (va_Qi Post (Wd G) (mA G)) args s 0 0 (mA G)) G 4 [(0, .ref (m_b G + l0)), (1, .int l1), (2, .int l2), (3, .int l3)] 0 [] h := by
  unfold wp_Br_chord at hwp
  refine x_iload_n C0 1 d_Br_chord_0 rfl rfl ?_
  refine x_iconst (v := 0) C0 d_Br_chord_1 (by decide) ?_
  refine x_bipush (v := 6) C0 d_Br_chord_2 (by decide) ?_
  refine x_callSi0 (As := [.int l1, .int (0 : Int32), .int (6 : Int32)]) (st := []) C0 (c_Br_within l G hwp) kw_1_226 mk_Br_within kw_1_227 rfl (Nat.le_of_ble_eq_true rfl) rfl rfl ⟨Nat.le_trans (by decide) hR.1, Nat.le_trans (by decide) hR.2.1⟩ ⟨Nat.zero_le _, Nat.zero_le _⟩ rfl d_Br_chord_4 (fun r4 h4 hwp => ?_)
  refine x_if_eq (tgt := 28) C0 d_Br_chord_7 (by decide) (fun c7 => ?_) (fun c7 => ?_)
  · replace hwp := hwp.1 c7
    refine x_iconst (v := -1) C0 d_Br_chord_28 (by decide) ?_
    exact x_iret C0 hr hlk hwp d_Br_chord_29
  · replace hwp := hwp.2 c7
    refine x_iload_n C0 2 d_Br_chord_10 rfl rfl ?_
    refine x_iconst (v := 1) C0 d_Br_chord_11 (by decide) ?_
    refine x_iconst (v := 5) C0 d_Br_chord_12 (by decide) ?_
    refine x_callSi0 (As := [.int l2, .int (1 : Int32), .int (5 : Int32)]) (st := []) C0 (c_Br_within l G hwp) kw_1_226 mk_Br_within kw_1_227 rfl (Nat.le_of_ble_eq_true rfl) rfl rfl ⟨Nat.le_trans (by decide) hR.1, Nat.le_trans (by decide) hR.2.1⟩ ⟨Nat.zero_le _, Nat.zero_le _⟩ rfl d_Br_chord_13 (fun r13 h13 hwp => ?_)
    refine x_if_eq (tgt := 28) C0 d_Br_chord_16 (by decide) (fun c16 => ?_) (fun c16 => ?_)
    · replace hwp := hwp.1 c16
      refine x_iconst (v := -1) C0 d_Br_chord_28 (by decide) ?_
      exact x_iret C0 hr hlk hwp d_Br_chord_29
    · replace hwp := hwp.2 c16
      refine x_iload_n C0 3 d_Br_chord_19 rfl rfl ?_
      refine x_iconst (v := -1) C0 d_Br_chord_20 (by decide) ?_
      refine x_iconst (v := 1) C0 d_Br_chord_21 (by decide) ?_
      refine x_callSi0 (As := [.int l3, .int (-1 : Int32), .int (1 : Int32)]) (st := []) C0 (c_Br_within l G hwp) kw_1_226 mk_Br_within kw_1_227 rfl (Nat.le_of_ble_eq_true rfl) rfl rfl ⟨Nat.le_trans (by decide) hR.1, Nat.le_trans (by decide) hR.2.1⟩ ⟨Nat.zero_le _, Nat.zero_le _⟩ rfl d_Br_chord_22 (fun r22 h22 hwp => ?_)
      refine x_if_ne (tgt := 30) C0 d_Br_chord_25 (by decide) (fun c25 => ?_) (fun c25 => ?_)
      · replace hwp := hwp.1 c25
        refine x_aload_n C0 0 d_Br_chord_30 rfl rfl ?_
        obtain ⟨x31, e31, hwp⟩ := hwp
        refine x_getI C0 fk_Br_33 e31 d_Br_chord_31 ?_
        refine x_bipush (v := 12) C0 d_Br_chord_34 (by decide) ?_
        refine x_icmp_lt (tgt := 42) C0 d_Br_chord_36 (by decide) (fun c36 => ?_) (fun c36 => ?_)
        · replace hwp := hwp.1 c36
          refine x_aload_n C0 0 d_Br_chord_42 rfl rfl ?_
          obtain ⟨x43, e43, hwp⟩ := hwp
          refine x_getR C0 fk_Br_20 e43 d_Br_chord_43 ?_
          refine x_aload_n C0 0 d_Br_chord_46 rfl rfl ?_
          obtain ⟨x47, e47, hwp⟩ := hwp
          refine x_getI C0 fk_Br_33 e47 d_Br_chord_47 ?_
          obtain ⟨n50, f50, q50, e50, i50, g50, hwp⟩ := hwp
          refine x_aald (t := 3) C0 e50 rfl i50 g50 d_Br_chord_50 ?_
          refine x_iload_n C0 1 d_Br_chord_51 rfl rfl ?_
          refine x_iload_n C0 2 d_Br_chord_52 rfl rfl ?_
          refine x_iload_n C0 3 d_Br_chord_53 rfl rfl ?_
          obtain ⟨g54, hwp⟩ := hwp
          refine x_callVv0 (k := q50) (As := [.int l1, .int l2, .int l3]) (st := []) C0 (c_Ch_begin l G hwp) kw_2_44 mk_Ch_begin vk_Ch_begin rfl g54 rfl (Nat.le_of_ble_eq_true rfl) rfl rfl ⟨Nat.le_trans (by decide) hR.1, Nat.le_trans (by decide) hR.2.1⟩ ⟨Nat.zero_le _, Nat.zero_le _⟩ rfl d_Br_chord_54 (fun h54 hwp => ?_)
          refine x_aload_n C0 0 d_Br_chord_57 rfl rfl ?_
          obtain ⟨x58, e58, hwp⟩ := hwp
          refine x_getR C0 fk_Br_20 e58 d_Br_chord_58 ?_
          refine x_aload_n C0 0 d_Br_chord_61 rfl rfl ?_
          obtain ⟨x62, e62, hwp⟩ := hwp
          refine x_getI C0 fk_Br_33 e62 d_Br_chord_62 ?_
          obtain ⟨n65, f65, q65, e65, i65, g65, hwp⟩ := hwp
          refine x_aald (t := 3) C0 e65 rfl i65 g65 d_Br_chord_65 ?_
          refine x_aload_n C0 0 d_Br_chord_66 rfl rfl ?_
          obtain ⟨x67, e67, hwp⟩ := hwp
          refine x_getR C0 fk_Br_25 e67 d_Br_chord_67 ?_
          obtain ⟨x70, e70, hwp⟩ := hwp
          refine x_getI C0 fk_Br_41 e70 d_Br_chord_70 ?_
          obtain ⟨g73, hwp⟩ := hwp
          refine x_callVv0 (k := q65) (As := [.int x70]) (st := []) C0 (c_Ch_tune l G hwp) kw_1_229 mk_Ch_tune vk_Ch_tune rfl g73 rfl (Nat.le_of_ble_eq_true rfl) rfl rfl ⟨Nat.le_trans (by decide) hR.1, Nat.le_trans (by decide) hR.2.1⟩ ⟨Nat.zero_le _, Nat.zero_le _⟩ rfl d_Br_chord_73 (fun h73 hwp => ?_)
          refine x_aload_n C0 0 d_Br_chord_76 rfl rfl ?_
          obtain ⟨x77, e77, hwp⟩ := hwp
          refine x_getR C0 fk_Br_10 e77 d_Br_chord_77 ?_
          refine x_aload_n C0 0 d_Br_chord_80 rfl rfl ?_
          obtain ⟨x81, e81, hwp⟩ := hwp
          refine x_getI C0 fk_Br_33 e81 d_Br_chord_81 ?_
          obtain ⟨g84, hwp⟩ := hwp
          refine x_callVv0 (k := x77) (As := [.int x81]) (st := []) C0 (c_Se_forgetChord l G hwp) kw_2_52 mk_Se_forgetChord vk_Se_forgetChord rfl g84 rfl (Nat.le_of_ble_eq_true rfl) rfl rfl ⟨Nat.le_trans (by decide) hR.1, Nat.le_trans (by decide) hR.2.1⟩ ⟨Nat.zero_le _, Nat.zero_le _⟩ rfl d_Br_chord_84 (fun h84 hwp => ?_)
          refine x_aload_n C0 0 d_Br_chord_87 rfl rfl ?_
          refine x_dup C0 d_Br_chord_88 rfl ?_
          obtain ⟨x89, e89, hwp⟩ := hwp
          refine x_getI C0 fk_Br_33 e89 d_Br_chord_89 ?_
          refine x_iconst (v := 1) C0 d_Br_chord_92 (by decide) ?_
          refine x_iadd C0 d_Br_chord_93 ?_
          obtain ⟨⟨o94, e94⟩, hwp⟩ := hwp
          refine x_put (x := (.inl (x89 + (1 : Int32)) : MV)) C0 pk_Br_33 e94 rfl rfl d_Br_chord_94 ?_
          refine x_nh (fun h94 eh94 => ?_)
          replace hwp := hwp h94 eh94
          refine x_aload_n C0 0 d_Br_chord_97 rfl rfl ?_
          obtain ⟨x98, e98, hwp⟩ := hwp
          refine x_getI C0 fk_Br_33 e98 d_Br_chord_98 ?_
          refine x_iconst (v := 1) C0 d_Br_chord_101 (by decide) ?_
          refine x_isub C0 d_Br_chord_102 ?_
          exact x_iret C0 hr hlk hwp d_Br_chord_103
        · replace hwp := hwp.2 c36
          refine x_bipush (v := -3) C0 d_Br_chord_39 (by decide) ?_
          exact x_iret C0 hr hlk hwp d_Br_chord_41
      · replace hwp := hwp.2 c25
        refine x_iconst (v := -1) C0 d_Br_chord_28 (by decide) ?_
        exact x_iret C0 hr hlk hwp d_Br_chord_29
set_option maxRecDepth 100000 in
set_option maxHeartbeats 4000000 in
theorem c_Br_chord (l : Launch) (G : mG) {Post : Int32 → MH → Prop} {l0 : Nat} {l1 : Int32} {l2 : Int32} {l3 : Int32} {h : MH} (hwp : wp_Br_chord Post l0 l1 l2 l3 h) : Met l y_Br_chord (Cond.code y_Br_chord prog_1_method_3_code 4 (Option.some Jvm.ClassFile.FieldType.int) :: lw_good) ({ frames := 5, cells := 0, slots := 0, locals := 112 }) (va_Pc [.ref (m_b G + l0), .int l1, .int l2, .int l3] (Wd G h)) (va_Qi Post (Wd G) (mA G)) 0 0 (mA G) := by
  refine Met.ofW (cc := prog_1_method_3_code) (maxL := 4) (ret := (Option.some Jvm.ClassFile.FieldType.int)) (by decide +kernel) rfl ?_
  intro p e s m args below meth c s₁ B hml hv
  obtain ⟨rfl, hP, hz, hK, hSt⟩ := hv
  have hts := atoms_spec (ws := Cond.code y_Br_chord prog_1_method_3_code 4 (Option.some Jvm.ClassFile.FieldType.int) :: lw_good) B.pre
  have C0 : Cx G p s m ([.ref (m_b G + l0), .int l1, .int l2, .int l3] : List Value).toArray c prog_1_method_3_code 4 "BassRealiser" := ⟨⟨B.exec, B.bytes, hml, findClass_of_methodNamed B.named, fun w h => hts w (List.mem_cons_of_mem _ h)⟩, hK, hSt, by rw [hz]; exact Nat.le_add_right _ _⟩
  have hl := lv_entry ([.ref (m_b G + l0), .int l1, .int l2, .int l3]) (n := 4) (Nat.le_of_ble_eq_true rfl)
  rw [lg_entry_eq]
  exact t_Br_chord G C0 ⟨Nat.le_refl _, Nat.le_refl _, Nat.le_refl _, Nat.le_refl _⟩ B.returns B.notSynchronized _ _ _ _ _ hwp _ _ _ ⟨hP, hz, va_S.rf⟩ hl
