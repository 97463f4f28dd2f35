theorem d_Ru_init_0 : decode prog_5_method_1_code 0 = .ok (.aload_n 0, 1) := by decide +kernel
theorem d_Ru_init_1 : decode prog_5_method_1_code 1 = .ok (.invokespecial 3, 3) := by decide +kernel
theorem d_Ru_init_4 : decode prog_5_method_1_code 4 = .ok (.aload_n 0, 1) := by decide +kernel
theorem d_Ru_init_5 : decode prog_5_method_1_code 5 = .ok (.iconst 3, 1) := by decide +kernel
theorem d_Ru_init_6 : decode prog_5_method_1_code 6 = .ok (.newarray .int, 2) := by decide +kernel
theorem d_Ru_init_8 : decode prog_5_method_1_code 8 = .ok (.dup, 1) := by decide +kernel
theorem d_Ru_init_9 : decode prog_5_method_1_code 9 = .ok (.iconst 0, 1) := by decide +kernel
theorem d_Ru_init_10 : decode prog_5_method_1_code 10 = .ok (.bipush 60, 2) := by decide +kernel
theorem d_Ru_init_12 : decode prog_5_method_1_code 12 = .ok (.iastore, 1) := by decide +kernel
theorem d_Ru_init_13 : decode prog_5_method_1_code 13 = .ok (.dup, 1) := by decide +kernel
theorem d_Ru_init_14 : decode prog_5_method_1_code 14 = .ok (.iconst 1, 1) := by decide +kernel
theorem d_Ru_init_15 : decode prog_5_method_1_code 15 = .ok (.bipush 55, 2) := by decide +kernel
theorem d_Ru_init_17 : decode prog_5_method_1_code 17 = .ok (.iastore, 1) := by decide +kernel
theorem d_Ru_init_18 : decode prog_5_method_1_code 18 = .ok (.dup, 1) := by decide +kernel
theorem d_Ru_init_19 : decode prog_5_method_1_code 19 = .ok (.iconst 2, 1) := by decide +kernel
theorem d_Ru_init_20 : decode prog_5_method_1_code 20 = .ok (.bipush 48, 2) := by decide +kernel
theorem d_Ru_init_22 : decode prog_5_method_1_code 22 = .ok (.iastore, 1) := by decide +kernel
theorem d_Ru_init_23 : decode prog_5_method_1_code 23 = .ok (.putfield 9, 3) := by decide +kernel
theorem d_Ru_init_26 : decode prog_5_method_1_code 26 = .ok (.aload_n 0, 1) := by decide +kernel
theorem d_Ru_init_27 : decode prog_5_method_1_code 27 = .ok (.iconst 3, 1) := by decide +kernel
theorem d_Ru_init_28 : decode prog_5_method_1_code 28 = .ok (.newarray .int, 2) := by decide +kernel
theorem d_Ru_init_30 : decode prog_5_method_1_code 30 = .ok (.dup, 1) := by decide +kernel
theorem d_Ru_init_31 : decode prog_5_method_1_code 31 = .ok (.iconst 0, 1) := by decide +kernel
theorem d_Ru_init_32 : decode prog_5_method_1_code 32 = .ok (.bipush 81, 2) := by decide +kernel
theorem d_Ru_init_34 : decode prog_5_method_1_code 34 = .ok (.iastore, 1) := by decide +kernel
theorem d_Ru_init_35 : decode prog_5_method_1_code 35 = .ok (.dup, 1) := by decide +kernel
theorem d_Ru_init_36 : decode prog_5_method_1_code 36 = .ok (.iconst 1, 1) := by decide +kernel
theorem d_Ru_init_37 : decode prog_5_method_1_code 37 = .ok (.bipush 74, 2) := by decide +kernel
theorem d_Ru_init_39 : decode prog_5_method_1_code 39 = .ok (.iastore, 1) := by decide +kernel
theorem d_Ru_init_40 : decode prog_5_method_1_code 40 = .ok (.dup, 1) := by decide +kernel
theorem d_Ru_init_41 : decode prog_5_method_1_code 41 = .ok (.iconst 2, 1) := by decide +kernel
theorem d_Ru_init_42 : decode prog_5_method_1_code 42 = .ok (.bipush 69, 2) := by decide +kernel
theorem d_Ru_init_44 : decode prog_5_method_1_code 44 = .ok (.iastore, 1) := by decide +kernel
theorem d_Ru_init_45 : decode prog_5_method_1_code 45 = .ok (.putfield 15, 3) := by decide +kernel
theorem d_Ru_init_48 : decode prog_5_method_1_code 48 = .ok (.aload_n 0, 1) := by decide +kernel
theorem d_Ru_init_49 : decode prog_5_method_1_code 49 = .ok (.iconst 3, 1) := by decide +kernel
theorem d_Ru_init_50 : decode prog_5_method_1_code 50 = .ok (.newarray .int, 2) := by decide +kernel
theorem d_Ru_init_52 : decode prog_5_method_1_code 52 = .ok (.dup, 1) := by decide +kernel
theorem d_Ru_init_53 : decode prog_5_method_1_code 53 = .ok (.iconst 0, 1) := by decide +kernel
theorem d_Ru_init_54 : decode prog_5_method_1_code 54 = .ok (.bipush 72, 2) := by decide +kernel
theorem d_Ru_init_56 : decode prog_5_method_1_code 56 = .ok (.iastore, 1) := by decide +kernel
theorem d_Ru_init_57 : decode prog_5_method_1_code 57 = .ok (.dup, 1) := by decide +kernel
theorem d_Ru_init_58 : decode prog_5_method_1_code 58 = .ok (.iconst 1, 1) := by decide +kernel
theorem d_Ru_init_59 : decode prog_5_method_1_code 59 = .ok (.bipush 67, 2) := by decide +kernel
theorem d_Ru_init_61 : decode prog_5_method_1_code 61 = .ok (.iastore, 1) := by decide +kernel
theorem d_Ru_init_62 : decode prog_5_method_1_code 62 = .ok (.dup, 1) := by decide +kernel
theorem d_Ru_init_63 : decode prog_5_method_1_code 63 = .ok (.iconst 2, 1) := by decide +kernel
theorem d_Ru_init_64 : decode prog_5_method_1_code 64 = .ok (.bipush 60, 2) := by decide +kernel
theorem d_Ru_init_66 : decode prog_5_method_1_code 66 = .ok (.iastore, 1) := by decide +kernel
theorem d_Ru_init_67 : decode prog_5_method_1_code 67 = .ok (.putfield 18, 3) := by decide +kernel
theorem d_Ru_init_70 : decode prog_5_method_1_code 70 = .ok (.aload_n 0, 1) := by decide +kernel
theorem d_Ru_init_71 : decode prog_5_method_1_code 71 = .ok (.bipush 12, 2) := by decide +kernel
theorem d_Ru_init_73 : decode prog_5_method_1_code 73 = .ok (.putfield 21, 3) := by decide +kernel
theorem d_Ru_init_76 : decode prog_5_method_1_code 76 = .ok (.aload_n 0, 1) := by decide +kernel
theorem d_Ru_init_77 : decode prog_5_method_1_code 77 = .ok (.iconst 0, 1) := by decide +kernel
theorem d_Ru_init_78 : decode prog_5_method_1_code 78 = .ok (.putfield 25, 3) := by decide +kernel
theorem d_Ru_init_81 : decode prog_5_method_1_code 81 = .ok (.return_, 1) := by decide +kernel
theorem d_Ch_init_0 : decode prog_2_method_1_code 0 = .ok (.aload_n 0, 1) := by decide +kernel
theorem d_Ch_init_1 : decode prog_2_method_1_code 1 = .ok (.invokespecial 3, 3) := by decide +kernel
theorem d_Ch_init_4 : decode prog_2_method_1_code 4 = .ok (.aload_n 0, 1) := by decide +kernel
theorem d_Ch_init_5 : decode prog_2_method_1_code 5 = .ok (.bipush 10, 2) := by decide +kernel
theorem d_Ch_init_7 : decode prog_2_method_1_code 7 = .ok (.newarray .int, 2) := by decide +kernel
theorem d_Ch_init_9 : decode prog_2_method_1_code 9 = .ok (.putfield 9, 3) := by decide +kernel
theorem d_Ch_init_12 : decode prog_2_method_1_code 12 = .ok (.aload_n 0, 1) := by decide +kernel
theorem d_Ch_init_13 : decode prog_2_method_1_code 13 = .ok (.iconst 3, 1) := by decide +kernel
theorem d_Ch_init_14 : decode prog_2_method_1_code 14 = .ok (.newarray .int, 2) := by decide +kernel
theorem d_Ch_init_16 : decode prog_2_method_1_code 16 = .ok (.putfield 15, 3) := by decide +kernel
theorem d_Ch_init_19 : decode prog_2_method_1_code 19 = .ok (.aload_n 0, 1) := by decide +kernel
theorem d_Ch_init_20 : decode prog_2_method_1_code 20 = .ok (.iconst (-1), 1) := by decide +kernel
theorem d_Ch_init_21 : decode prog_2_method_1_code 21 = .ok (.putfield 18, 3) := by decide +kernel
theorem d_Ch_init_24 : decode prog_2_method_1_code 24 = .ok (.return_, 1) := by decide +kernel
theorem d_Co_init_0 : decode prog_3_method_1_code 0 = .ok (.aload_n 0, 1) := by decide +kernel
theorem d_Co_init_1 : decode prog_3_method_1_code 1 = .ok (.invokespecial 3, 3) := by decide +kernel
theorem d_Co_init_4 : decode prog_3_method_1_code 4 = .ok (.aload_n 0, 1) := by decide +kernel
theorem d_Co_init_5 : decode prog_3_method_1_code 5 = .ok (.bipush 112, 2) := by decide +kernel
theorem d_Co_init_7 : decode prog_3_method_1_code 7 = .ok (.newarray .int, 2) := by decide +kernel
theorem d_Co_init_9 : decode prog_3_method_1_code 9 = .ok (.putfield 11, 3) := by decide +kernel
theorem d_Co_init_12 : decode prog_3_method_1_code 12 = .ok (.aload_n 0, 1) := by decide +kernel
theorem d_Co_init_13 : decode prog_3_method_1_code 13 = .ok (.bipush 112, 2) := by decide +kernel
theorem d_Co_init_15 : decode prog_3_method_1_code 15 = .ok (.newarray .boolean, 2) := by decide +kernel
theorem d_Co_init_17 : decode prog_3_method_1_code 17 = .ok (.putfield 15, 3) := by decide +kernel
theorem d_Co_init_20 : decode prog_3_method_1_code 20 = .ok (.aload_n 0, 1) := by decide +kernel
theorem d_Co_init_21 : decode prog_3_method_1_code 21 = .ok (.bipush 112, 2) := by decide +kernel
theorem d_Co_init_23 : decode prog_3_method_1_code 23 = .ok (.newarray .int, 2) := by decide +kernel
theorem d_Co_init_25 : decode prog_3_method_1_code 25 = .ok (.putfield 19, 3) := by decide +kernel
theorem d_Co_init_28 : decode prog_3_method_1_code 28 = .ok (.aload_n 0, 1) := by decide +kernel
theorem d_Co_init_29 : decode prog_3_method_1_code 29 = .ok (.bipush 112, 2) := by decide +kernel
theorem d_Co_init_31 : decode prog_3_method_1_code 31 = .ok (.newarray .int, 2) := by decide +kernel
theorem d_Co_init_33 : decode prog_3_method_1_code 33 = .ok (.putfield 22, 3) := by decide +kernel
theorem d_Co_init_36 : decode prog_3_method_1_code 36 = .ok (.return_, 1) := by decide +kernel
theorem d_Mv_init_0 : decode prog_4_method_1_code 0 = .ok (.aload_n 0, 1) := by decide +kernel
theorem d_Mv_init_1 : decode prog_4_method_1_code 1 = .ok (.invokespecial 3, 3) := by decide +kernel
theorem d_Mv_init_4 : decode prog_4_method_1_code 4 = .ok (.aload_n 0, 1) := by decide +kernel
theorem d_Mv_init_5 : decode prog_4_method_1_code 5 = .ok (.iconst 4, 1) := by decide +kernel
theorem d_Mv_init_6 : decode prog_4_method_1_code 6 = .ok (.newarray .int, 2) := by decide +kernel
theorem d_Mv_init_8 : decode prog_4_method_1_code 8 = .ok (.putfield 11, 3) := by decide +kernel
theorem d_Mv_init_11 : decode prog_4_method_1_code 11 = .ok (.aload_n 0, 1) := by decide +kernel
theorem d_Mv_init_12 : decode prog_4_method_1_code 12 = .ok (.iconst 4, 1) := by decide +kernel
theorem d_Mv_init_13 : decode prog_4_method_1_code 13 = .ok (.newarray .int, 2) := by decide +kernel
theorem d_Mv_init_15 : decode prog_4_method_1_code 15 = .ok (.putfield 15, 3) := by decide +kernel
theorem d_Mv_init_18 : decode prog_4_method_1_code 18 = .ok (.aload_n 0, 1) := by decide +kernel
theorem d_Mv_init_19 : decode prog_4_method_1_code 19 = .ok (.iconst 4, 1) := by decide +kernel
theorem d_Mv_init_20 : decode prog_4_method_1_code 20 = .ok (.newarray .int, 2) := by decide +kernel
theorem d_Mv_init_22 : decode prog_4_method_1_code 22 = .ok (.putfield 18, 3) := by decide +kernel
theorem d_Mv_init_25 : decode prog_4_method_1_code 25 = .ok (.return_, 1) := by decide +kernel
theorem d_Se_init_0 : decode prog_6_method_1_code 0 = .ok (.aload_n 0, 1) := by decide +kernel
theorem d_Se_init_1 : decode prog_6_method_1_code 1 = .ok (.invokespecial 3, 3) := by decide +kernel
theorem d_Se_init_4 : decode prog_6_method_1_code 4 = .ok (.aload_n 0, 1) := by decide +kernel
theorem d_Se_init_5 : decode prog_6_method_1_code 5 = .ok (.bipush 12, 2) := by decide +kernel
theorem d_Se_init_7 : decode prog_6_method_1_code 7 = .ok (.anewarray 9, 3) := by decide +kernel
theorem d_Se_init_10 : decode prog_6_method_1_code 10 = .ok (.putfield 11, 3) := by decide +kernel
theorem d_Se_init_13 : decode prog_6_method_1_code 13 = .ok (.aload_n 0, 1) := by decide +kernel
theorem d_Se_init_14 : decode prog_6_method_1_code 14 = .ok (.new 17, 3) := by decide +kernel
theorem d_Se_init_17 : decode prog_6_method_1_code 17 = .ok (.dup, 1) := by decide +kernel
theorem d_Se_init_18 : decode prog_6_method_1_code 18 = .ok (.invokespecial 19, 3) := by decide +kernel
theorem d_Se_init_21 : decode prog_6_method_1_code 21 = .ok (.putfield 20, 3) := by decide +kernel
theorem d_Se_init_24 : decode prog_6_method_1_code 24 = .ok (.aload_n 0, 1) := by decide +kernel
theorem d_Se_init_25 : decode prog_6_method_1_code 25 = .ok (.bipush 12, 2) := by decide +kernel
theorem d_Se_init_27 : decode prog_6_method_1_code 27 = .ok (.anewarray 24, 3) := by decide +kernel
theorem d_Se_init_30 : decode prog_6_method_1_code 30 = .ok (.putfield 26, 3) := by decide +kernel
theorem d_Se_init_33 : decode prog_6_method_1_code 33 = .ok (.iconst 0, 1) := by decide +kernel
theorem d_Se_init_34 : decode prog_6_method_1_code 34 = .ok (.istore_n 1, 1) := by decide +kernel
theorem d_Se_init_35 : decode prog_6_method_1_code 35 = .ok (.iload_n 1, 1) := by decide +kernel
theorem d_Se_init_36 : decode prog_6_method_1_code 36 = .ok (.bipush 12, 2) := by decide +kernel
theorem d_Se_init_38 : decode prog_6_method_1_code 38 = .ok (.if_icmp .ge 35, 3) := by decide +kernel
theorem d_Se_init_41 : decode prog_6_method_1_code 41 = .ok (.aload_n 0, 1) := by decide +kernel
theorem d_Se_init_42 : decode prog_6_method_1_code 42 = .ok (.getfield 11, 3) := by decide +kernel
theorem d_Se_init_45 : decode prog_6_method_1_code 45 = .ok (.iload_n 1, 1) := by decide +kernel
theorem d_Se_init_46 : decode prog_6_method_1_code 46 = .ok (.new 9, 3) := by decide +kernel
theorem d_Se_init_49 : decode prog_6_method_1_code 49 = .ok (.dup, 1) := by decide +kernel
theorem d_Se_init_50 : decode prog_6_method_1_code 50 = .ok (.invokespecial 30, 3) := by decide +kernel
theorem d_Se_init_53 : decode prog_6_method_1_code 53 = .ok (.aastore, 1) := by decide +kernel
theorem d_Se_init_54 : decode prog_6_method_1_code 54 = .ok (.aload_n 0, 1) := by decide +kernel
theorem d_Se_init_55 : decode prog_6_method_1_code 55 = .ok (.getfield 26, 3) := by decide +kernel
theorem d_Se_init_58 : decode prog_6_method_1_code 58 = .ok (.iload_n 1, 1) := by decide +kernel
theorem d_Se_init_59 : decode prog_6_method_1_code 59 = .ok (.new 24, 3) := by decide +kernel
theorem d_Se_init_62 : decode prog_6_method_1_code 62 = .ok (.dup, 1) := by decide +kernel
theorem d_Se_init_63 : decode prog_6_method_1_code 63 = .ok (.invokespecial 31, 3) := by decide +kernel
theorem d_Se_init_66 : decode prog_6_method_1_code 66 = .ok (.aastore, 1) := by decide +kernel
theorem d_Se_init_67 : decode prog_6_method_1_code 67 = .ok (.iinc 1 1, 3) := by decide +kernel
theorem d_Se_init_70 : decode prog_6_method_1_code 70 = .ok (.goto (-35), 3) := by decide +kernel
theorem d_Se_init_73 : decode prog_6_method_1_code 73 = .ok (.aload_n 0, 1) := by decide +kernel
theorem d_Se_init_74 : decode prog_6_method_1_code 74 = .ok (.new 32, 3) := by decide +kernel
theorem d_Se_init_77 : decode prog_6_method_1_code 77 = .ok (.dup, 1) := by decide +kernel
theorem d_Se_init_78 : decode prog_6_method_1_code 78 = .ok (.invokespecial 34, 3) := by decide +kernel
theorem d_Se_init_81 : decode prog_6_method_1_code 81 = .ok (.putfield 35, 3) := by decide +kernel
theorem d_Se_init_84 : decode prog_6_method_1_code 84 = .ok (.aload_n 0, 1) := by decide +kernel
theorem d_Se_init_85 : decode prog_6_method_1_code 85 = .ok (.bipush 12, 2) := by decide +kernel
theorem d_Se_init_87 : decode prog_6_method_1_code 87 = .ok (.newarray .int, 2) := by decide +kernel
theorem d_Se_init_89 : decode prog_6_method_1_code 89 = .ok (.putfield 39, 3) := by decide +kernel
theorem d_Se_init_92 : decode prog_6_method_1_code 92 = .ok (.aload_n 0, 1) := by decide +kernel
theorem d_Se_init_93 : decode prog_6_method_1_code 93 = .ok (.iconst (-1), 1) := by decide +kernel
theorem d_Se_init_94 : decode prog_6_method_1_code 94 = .ok (.putfield 43, 3) := by decide +kernel
theorem d_Se_init_97 : decode prog_6_method_1_code 97 = .ok (.return_, 1) := by decide +kernel
theorem d_Br_init_0 : decode prog_1_method_1_code 0 = .ok (.aload_n 0, 1) := by decide +kernel
theorem d_Br_init_1 : decode prog_1_method_1_code 1 = .ok (.invokespecial 1, 3) := by decide +kernel
theorem d_Br_init_4 : decode prog_1_method_1_code 4 = .ok (.aload_n 0, 1) := by decide +kernel
theorem d_Br_init_5 : decode prog_1_method_1_code 5 = .ok (.new 7, 3) := by decide +kernel
theorem d_Br_init_8 : decode prog_1_method_1_code 8 = .ok (.dup, 1) := by decide +kernel
theorem d_Br_init_9 : decode prog_1_method_1_code 9 = .ok (.invokespecial 9, 3) := by decide +kernel
theorem d_Br_init_12 : decode prog_1_method_1_code 12 = .ok (.putfield 10, 3) := by decide +kernel
theorem d_Br_init_15 : decode prog_1_method_1_code 15 = .ok (.aload_n 0, 1) := by decide +kernel
theorem d_Br_init_16 : decode prog_1_method_1_code 16 = .ok (.aload_n 0, 1) := by decide +kernel
theorem d_Br_init_17 : decode prog_1_method_1_code 17 = .ok (.getfield 10, 3) := by decide +kernel
theorem d_Br_init_20 : decode prog_1_method_1_code 20 = .ok (.getfield 16, 3) := by decide +kernel
theorem d_Br_init_23 : decode prog_1_method_1_code 23 = .ok (.putfield 20, 3) := by decide +kernel
theorem d_Br_init_26 : decode prog_1_method_1_code 26 = .ok (.aload_n 0, 1) := by decide +kernel
theorem d_Br_init_27 : decode prog_1_method_1_code 27 = .ok (.aload_n 0, 1) := by decide +kernel
theorem d_Br_init_28 : decode prog_1_method_1_code 28 = .ok (.getfield 10, 3) := by decide +kernel
theorem d_Br_init_31 : decode prog_1_method_1_code 31 = .ok (.getfield 21, 3) := by decide +kernel
theorem d_Br_init_34 : decode prog_1_method_1_code 34 = .ok (.putfield 25, 3) := by decide +kernel
theorem d_Br_init_37 : decode prog_1_method_1_code 37 = .ok (.aload_n 0, 1) := by decide +kernel
theorem d_Br_init_38 : decode prog_1_method_1_code 38 = .ok (.new 26, 3) := by decide +kernel
theorem d_Br_init_41 : decode prog_1_method_1_code 41 = .ok (.dup, 1) := by decide +kernel
theorem d_Br_init_42 : decode prog_1_method_1_code 42 = .ok (.invokespecial 28, 3) := by decide +kernel
theorem d_Br_init_45 : decode prog_1_method_1_code 45 = .ok (.putfield 29, 3) := by decide +kernel
theorem d_Br_init_48 : decode prog_1_method_1_code 48 = .ok (.aload_n 0, 1) := by decide +kernel
theorem d_Br_init_49 : decode prog_1_method_1_code 49 = .ok (.iconst 0, 1) := by decide +kernel
theorem d_Br_init_50 : decode prog_1_method_1_code 50 = .ok (.putfield 33, 3) := by decide +kernel
theorem d_Br_init_53 : decode prog_1_method_1_code 53 = .ok (.return_, 1) := by decide +kernel
theorem d_Rm_init_0 : decode prog_8_method_3_code 0 = .ok (.aload_n 0, 1) := by decide +kernel
theorem d_Rm_init_1 : decode prog_8_method_3_code 1 = .ok (.invokespecial 7, 3) := by decide +kernel
theorem d_Rm_init_4 : decode prog_8_method_3_code 4 = .ok (.aload_n 0, 1) := by decide +kernel
theorem d_Rm_init_5 : decode prog_8_method_3_code 5 = .ok (.bipush 12, 2) := by decide +kernel
theorem d_Rm_init_7 : decode prog_8_method_3_code 7 = .ok (.newarray .int, 2) := by decide +kernel
theorem d_Rm_init_9 : decode prog_8_method_3_code 9 = .ok (.putfield 13, 3) := by decide +kernel
theorem d_Rm_init_12 : decode prog_8_method_3_code 12 = .ok (.aload_n 0, 1) := by decide +kernel
theorem d_Rm_init_13 : decode prog_8_method_3_code 13 = .ok (.bipush 12, 2) := by decide +kernel
theorem d_Rm_init_15 : decode prog_8_method_3_code 15 = .ok (.newarray .int, 2) := by decide +kernel
theorem d_Rm_init_17 : decode prog_8_method_3_code 17 = .ok (.putfield 17, 3) := by decide +kernel
theorem d_Rm_init_20 : decode prog_8_method_3_code 20 = .ok (.aload_n 0, 1) := by decide +kernel
theorem d_Rm_init_21 : decode prog_8_method_3_code 21 = .ok (.bipush 12, 2) := by decide +kernel
theorem d_Rm_init_23 : decode prog_8_method_3_code 23 = .ok (.newarray .int, 2) := by decide +kernel
theorem d_Rm_init_25 : decode prog_8_method_3_code 25 = .ok (.putfield 20, 3) := by decide +kernel
theorem d_Rm_init_28 : decode prog_8_method_3_code 28 = .ok (.aload_n 0, 1) := by decide +kernel
theorem d_Rm_init_29 : decode prog_8_method_3_code 29 = .ok (.bipush 120, 2) := by decide +kernel
theorem d_Rm_init_31 : decode prog_8_method_3_code 31 = .ok (.newarray .int, 2) := by decide +kernel
theorem d_Rm_init_33 : decode prog_8_method_3_code 33 = .ok (.putfield 23, 3) := by decide +kernel
theorem d_Rm_init_36 : decode prog_8_method_3_code 36 = .ok (.aload_n 0, 1) := by decide +kernel
theorem d_Rm_init_37 : decode prog_8_method_3_code 37 = .ok (.iconst 3, 1) := by decide +kernel
theorem d_Rm_init_38 : decode prog_8_method_3_code 38 = .ok (.newarray .int, 2) := by decide +kernel
theorem d_Rm_init_40 : decode prog_8_method_3_code 40 = .ok (.putfield 26, 3) := by decide +kernel
theorem d_Rm_init_43 : decode prog_8_method_3_code 43 = .ok (.aload_n 0, 1) := by decide +kernel
theorem d_Rm_init_44 : decode prog_8_method_3_code 44 = .ok (.iconst 3, 1) := by decide +kernel
theorem d_Rm_init_45 : decode prog_8_method_3_code 45 = .ok (.newarray .int, 2) := by decide +kernel
theorem d_Rm_init_47 : decode prog_8_method_3_code 47 = .ok (.putfield 29, 3) := by decide +kernel
theorem d_Rm_init_50 : decode prog_8_method_3_code 50 = .ok (.aload_n 0, 1) := by decide +kernel
theorem d_Rm_init_51 : decode prog_8_method_3_code 51 = .ok (.iconst 3, 1) := by decide +kernel
theorem d_Rm_init_52 : decode prog_8_method_3_code 52 = .ok (.newarray .int, 2) := by decide +kernel
theorem d_Rm_init_54 : decode prog_8_method_3_code 54 = .ok (.putfield 32, 3) := by decide +kernel
theorem d_Rm_init_57 : decode prog_8_method_3_code 57 = .ok (.aload_n 0, 1) := by decide +kernel
theorem d_Rm_init_58 : decode prog_8_method_3_code 58 = .ok (.bipush 12, 2) := by decide +kernel
theorem d_Rm_init_60 : decode prog_8_method_3_code 60 = .ok (.putfield 35, 3) := by decide +kernel
theorem d_Rm_init_63 : decode prog_8_method_3_code 63 = .ok (.aload_n 0, 1) := by decide +kernel
theorem d_Rm_init_64 : decode prog_8_method_3_code 64 = .ok (.bipush 36, 2) := by decide +kernel
theorem d_Rm_init_66 : decode prog_8_method_3_code 66 = .ok (.newarray .int, 2) := by decide +kernel
theorem d_Rm_init_68 : decode prog_8_method_3_code 68 = .ok (.putfield 38, 3) := by decide +kernel
theorem d_Rm_init_71 : decode prog_8_method_3_code 71 = .ok (.aload_n 0, 1) := by decide +kernel
theorem d_Rm_init_72 : decode prog_8_method_3_code 72 = .ok (.bipush 36, 2) := by decide +kernel
theorem d_Rm_init_74 : decode prog_8_method_3_code 74 = .ok (.newarray .int, 2) := by decide +kernel
theorem d_Rm_init_76 : decode prog_8_method_3_code 76 = .ok (.putfield 41, 3) := by decide +kernel
theorem d_Rm_init_79 : decode prog_8_method_3_code 79 = .ok (.aload_n 0, 1) := by decide +kernel
theorem d_Rm_init_80 : decode prog_8_method_3_code 80 = .ok (.bipush 12, 2) := by decide +kernel
theorem d_Rm_init_82 : decode prog_8_method_3_code 82 = .ok (.newarray .boolean, 2) := by decide +kernel
theorem d_Rm_init_84 : decode prog_8_method_3_code 84 = .ok (.putfield 44, 3) := by decide +kernel
theorem d_Rm_init_87 : decode prog_8_method_3_code 87 = .ok (.aload_n 0, 1) := by decide +kernel
theorem d_Rm_init_88 : decode prog_8_method_3_code 88 = .ok (.iconst 4, 1) := by decide +kernel
theorem d_Rm_init_89 : decode prog_8_method_3_code 89 = .ok (.newarray .int, 2) := by decide +kernel
theorem d_Rm_init_91 : decode prog_8_method_3_code 91 = .ok (.putfield 48, 3) := by decide +kernel
theorem d_Rm_init_94 : decode prog_8_method_3_code 94 = .ok (.aload_n 0, 1) := by decide +kernel
theorem d_Rm_init_95 : decode prog_8_method_3_code 95 = .ok (.iconst 4, 1) := by decide +kernel
theorem d_Rm_init_96 : decode prog_8_method_3_code 96 = .ok (.newarray .int, 2) := by decide +kernel
theorem d_Rm_init_98 : decode prog_8_method_3_code 98 = .ok (.putfield 51, 3) := by decide +kernel
theorem d_Rm_init_101 : decode prog_8_method_3_code 101 = .ok (.aload_n 0, 1) := by decide +kernel
theorem d_Rm_init_102 : decode prog_8_method_3_code 102 = .ok (.bipush 12, 2) := by decide +kernel
theorem d_Rm_init_104 : decode prog_8_method_3_code 104 = .ok (.newarray .int, 2) := by decide +kernel
theorem d_Rm_init_106 : decode prog_8_method_3_code 106 = .ok (.putfield 54, 3) := by decide +kernel
theorem d_Rm_init_109 : decode prog_8_method_3_code 109 = .ok (.aload_n 0, 1) := by decide +kernel
theorem d_Rm_init_110 : decode prog_8_method_3_code 110 = .ok (.bipush 12, 2) := by decide +kernel
theorem d_Rm_init_112 : decode prog_8_method_3_code 112 = .ok (.newarray .int, 2) := by decide +kernel
theorem d_Rm_init_114 : decode prog_8_method_3_code 114 = .ok (.putfield 57, 3) := by decide +kernel
theorem d_Rm_init_117 : decode prog_8_method_3_code 117 = .ok (.aload_n 0, 1) := by decide +kernel
theorem d_Rm_init_118 : decode prog_8_method_3_code 118 = .ok (.bipush 12, 2) := by decide +kernel
theorem d_Rm_init_120 : decode prog_8_method_3_code 120 = .ok (.newarray .int, 2) := by decide +kernel
theorem d_Rm_init_122 : decode prog_8_method_3_code 122 = .ok (.putfield 60, 3) := by decide +kernel
theorem d_Rm_init_125 : decode prog_8_method_3_code 125 = .ok (.aload_n 0, 1) := by decide +kernel
theorem d_Rm_init_126 : decode prog_8_method_3_code 126 = .ok (.sipush 28800, 3) := by decide +kernel
theorem d_Rm_init_129 : decode prog_8_method_3_code 129 = .ok (.newarray .int, 2) := by decide +kernel
theorem d_Rm_init_131 : decode prog_8_method_3_code 131 = .ok (.putfield 63, 3) := by decide +kernel
theorem d_Rm_init_134 : decode prog_8_method_3_code 134 = .ok (.aload_n 0, 1) := by decide +kernel
theorem d_Rm_init_135 : decode prog_8_method_3_code 135 = .ok (.bipush 12, 2) := by decide +kernel
theorem d_Rm_init_137 : decode prog_8_method_3_code 137 = .ok (.newarray .int, 2) := by decide +kernel
theorem d_Rm_init_139 : decode prog_8_method_3_code 139 = .ok (.putfield 66, 3) := by decide +kernel
theorem d_Rm_init_142 : decode prog_8_method_3_code 142 = .ok (.aload_n 0, 1) := by decide +kernel
theorem d_Rm_init_143 : decode prog_8_method_3_code 143 = .ok (.sipush 9600, 3) := by decide +kernel
theorem d_Rm_init_146 : decode prog_8_method_3_code 146 = .ok (.newarray .int, 2) := by decide +kernel
theorem d_Rm_init_148 : decode prog_8_method_3_code 148 = .ok (.putfield 69, 3) := by decide +kernel
theorem d_Rm_init_151 : decode prog_8_method_3_code 151 = .ok (.aload_n 0, 1) := by decide +kernel
theorem d_Rm_init_152 : decode prog_8_method_3_code 152 = .ok (.sipush 9600, 3) := by decide +kernel
theorem d_Rm_init_155 : decode prog_8_method_3_code 155 = .ok (.newarray .long, 2) := by decide +kernel
theorem d_Rm_init_157 : decode prog_8_method_3_code 157 = .ok (.putfield 72, 3) := by decide +kernel
theorem d_Rm_init_160 : decode prog_8_method_3_code 160 = .ok (.aload_n 0, 1) := by decide +kernel
theorem d_Rm_init_161 : decode prog_8_method_3_code 161 = .ok (.iconst 4, 1) := by decide +kernel
theorem d_Rm_init_162 : decode prog_8_method_3_code 162 = .ok (.newarray .int, 2) := by decide +kernel
theorem d_Rm_init_164 : decode prog_8_method_3_code 164 = .ok (.putfield 76, 3) := by decide +kernel
theorem d_Rm_init_167 : decode prog_8_method_3_code 167 = .ok (.aload_n 0, 1) := by decide +kernel
theorem d_Rm_init_168 : decode prog_8_method_3_code 168 = .ok (.iconst 0, 1) := by decide +kernel
theorem d_Rm_init_169 : decode prog_8_method_3_code 169 = .ok (.putfield 1, 3) := by decide +kernel
theorem d_Rm_init_172 : decode prog_8_method_3_code 172 = .ok (.iconst 0, 1) := by decide +kernel
theorem d_Rm_init_173 : decode prog_8_method_3_code 173 = .ok (.istore_n 1, 1) := by decide +kernel
theorem d_Rm_init_174 : decode prog_8_method_3_code 174 = .ok (.iload_n 1, 1) := by decide +kernel
theorem d_Rm_init_175 : decode prog_8_method_3_code 175 = .ok (.iconst 3, 1) := by decide +kernel
theorem d_Rm_init_176 : decode prog_8_method_3_code 176 = .ok (.if_icmp .ge 90, 3) := by decide +kernel
theorem d_Rm_init_179 : decode prog_8_method_3_code 179 = .ok (.aload_n 0, 1) := by decide +kernel
theorem d_Rm_init_180 : decode prog_8_method_3_code 180 = .ok (.getfield 26, 3) := by decide +kernel
theorem d_Rm_init_183 : decode prog_8_method_3_code 183 = .ok (.iload_n 1, 1) := by decide +kernel
theorem d_Rm_init_184 : decode prog_8_method_3_code 184 = .ok (.iload_n 1, 1) := by decide +kernel
theorem d_Rm_init_185 : decode prog_8_method_3_code 185 = .ok (.ifCond .ne 8, 3) := by decide +kernel
theorem d_Rm_init_188 : decode prog_8_method_3_code 188 = .ok (.bipush 60, 2) := by decide +kernel
theorem d_Rm_init_190 : decode prog_8_method_3_code 190 = .ok (.goto 15, 3) := by decide +kernel
theorem d_Rm_init_193 : decode prog_8_method_3_code 193 = .ok (.iload_n 1, 1) := by decide +kernel
theorem d_Rm_init_194 : decode prog_8_method_3_code 194 = .ok (.iconst 1, 1) := by decide +kernel
theorem d_Rm_init_195 : decode prog_8_method_3_code 195 = .ok (.if_icmp .ne 8, 3) := by decide +kernel
theorem d_Rm_init_198 : decode prog_8_method_3_code 198 = .ok (.bipush 55, 2) := by decide +kernel
theorem d_Rm_init_200 : decode prog_8_method_3_code 200 = .ok (.goto 5, 3) := by decide +kernel
theorem d_Rm_init_203 : decode prog_8_method_3_code 203 = .ok (.bipush 48, 2) := by decide +kernel
theorem d_Rm_init_205 : decode prog_8_method_3_code 205 = .ok (.iastore, 1) := by decide +kernel
theorem d_Rm_init_206 : decode prog_8_method_3_code 206 = .ok (.aload_n 0, 1) := by decide +kernel
theorem d_Rm_init_207 : decode prog_8_method_3_code 207 = .ok (.getfield 29, 3) := by decide +kernel
theorem d_Rm_init_210 : decode prog_8_method_3_code 210 = .ok (.iload_n 1, 1) := by decide +kernel
theorem d_Rm_init_211 : decode prog_8_method_3_code 211 = .ok (.iload_n 1, 1) := by decide +kernel
theorem d_Rm_init_212 : decode prog_8_method_3_code 212 = .ok (.ifCond .ne 8, 3) := by decide +kernel
theorem d_Rm_init_215 : decode prog_8_method_3_code 215 = .ok (.bipush 81, 2) := by decide +kernel
theorem d_Rm_init_217 : decode prog_8_method_3_code 217 = .ok (.goto 15, 3) := by decide +kernel
theorem d_Rm_init_220 : decode prog_8_method_3_code 220 = .ok (.iload_n 1, 1) := by decide +kernel
theorem d_Rm_init_221 : decode prog_8_method_3_code 221 = .ok (.iconst 1, 1) := by decide +kernel
theorem d_Rm_init_222 : decode prog_8_method_3_code 222 = .ok (.if_icmp .ne 8, 3) := by decide +kernel
theorem d_Rm_init_225 : decode prog_8_method_3_code 225 = .ok (.bipush 74, 2) := by decide +kernel
theorem d_Rm_init_227 : decode prog_8_method_3_code 227 = .ok (.goto 5, 3) := by decide +kernel
theorem d_Rm_init_230 : decode prog_8_method_3_code 230 = .ok (.bipush 69, 2) := by decide +kernel
theorem d_Rm_init_232 : decode prog_8_method_3_code 232 = .ok (.iastore, 1) := by decide +kernel
theorem d_Rm_init_233 : decode prog_8_method_3_code 233 = .ok (.aload_n 0, 1) := by decide +kernel
theorem d_Rm_init_234 : decode prog_8_method_3_code 234 = .ok (.getfield 32, 3) := by decide +kernel
theorem d_Rm_init_237 : decode prog_8_method_3_code 237 = .ok (.iload_n 1, 1) := by decide +kernel
theorem d_Rm_init_238 : decode prog_8_method_3_code 238 = .ok (.iload_n 1, 1) := by decide +kernel
theorem d_Rm_init_239 : decode prog_8_method_3_code 239 = .ok (.ifCond .ne 8, 3) := by decide +kernel
theorem d_Rm_init_242 : decode prog_8_method_3_code 242 = .ok (.bipush 72, 2) := by decide +kernel
theorem d_Rm_init_244 : decode prog_8_method_3_code 244 = .ok (.goto 15, 3) := by decide +kernel
theorem d_Rm_init_247 : decode prog_8_method_3_code 247 = .ok (.iload_n 1, 1) := by decide +kernel
theorem d_Rm_init_248 : decode prog_8_method_3_code 248 = .ok (.iconst 1, 1) := by decide +kernel
theorem d_Rm_init_249 : decode prog_8_method_3_code 249 = .ok (.if_icmp .ne 8, 3) := by decide +kernel
theorem d_Rm_init_252 : decode prog_8_method_3_code 252 = .ok (.bipush 67, 2) := by decide +kernel
theorem d_Rm_init_254 : decode prog_8_method_3_code 254 = .ok (.goto 5, 3) := by decide +kernel
theorem d_Rm_init_257 : decode prog_8_method_3_code 257 = .ok (.bipush 60, 2) := by decide +kernel
theorem d_Rm_init_259 : decode prog_8_method_3_code 259 = .ok (.iastore, 1) := by decide +kernel
theorem d_Rm_init_260 : decode prog_8_method_3_code 260 = .ok (.iinc 1 1, 3) := by decide +kernel
theorem d_Rm_init_263 : decode prog_8_method_3_code 263 = .ok (.goto (-89), 3) := by decide +kernel
theorem d_Rm_init_266 : decode prog_8_method_3_code 266 = .ok (.return_, 1) := by decide +kernel
theorem d_Br_within_0 : decode prog_1_method_30_code 0 = .ok (.iload_n 0, 1) := by decide +kernel
theorem d_Br_within_1 : decode prog_1_method_30_code 1 = .ok (.iload_n 1, 1) := by decide +kernel
theorem d_Br_within_2 : decode prog_1_method_30_code 2 = .ok (.if_icmp .lt 12, 3) := by decide +kernel
theorem d_Br_within_5 : decode prog_1_method_30_code 5 = .ok (.iload_n 0, 1) := by decide +kernel
theorem d_Br_within_6 : decode prog_1_method_30_code 6 = .ok (.iload_n 2, 1) := by decide +kernel
theorem d_Br_within_7 : decode prog_1_method_30_code 7 = .ok (.if_icmp .gt 7, 3) := by decide +kernel
theorem d_Br_within_10 : decode prog_1_method_30_code 10 = .ok (.iconst 1, 1) := by decide +kernel
theorem d_Br_within_11 : decode prog_1_method_30_code 11 = .ok (.goto 4, 3) := by decide +kernel
theorem d_Br_within_14 : decode prog_1_method_30_code 14 = .ok (.iconst 0, 1) := by decide +kernel
theorem d_Br_within_15 : decode prog_1_method_30_code 15 = .ok (.ireturn, 1) := by decide +kernel
theorem d_Ch_has_0 : decode prog_2_method_7_code 0 = .ok (.iload_n 0, 1) := by decide +kernel
theorem d_Ch_has_1 : decode prog_2_method_7_code 1 = .ok (.iconst 1, 1) := by decide +kernel
theorem d_Ch_has_2 : decode prog_2_method_7_code 2 = .ok (.iload_n 1, 1) := by decide +kernel
theorem d_Ch_has_3 : decode prog_2_method_7_code 3 = .ok (.ishl, 1) := by decide +kernel
theorem d_Ch_has_4 : decode prog_2_method_7_code 4 = .ok (.iand, 1) := by decide +kernel
theorem d_Ch_has_5 : decode prog_2_method_7_code 5 = .ok (.ifCond .eq 7, 3) := by decide +kernel
theorem d_Ch_has_8 : decode prog_2_method_7_code 8 = .ok (.iconst 1, 1) := by decide +kernel
theorem d_Ch_has_9 : decode prog_2_method_7_code 9 = .ok (.goto 4, 3) := by decide +kernel
theorem d_Ch_has_12 : decode prog_2_method_7_code 12 = .ok (.iconst 0, 1) := by decide +kernel
theorem d_Ch_has_13 : decode prog_2_method_7_code 13 = .ok (.ireturn, 1) := by decide +kernel
theorem d_Ch_complete_0 : decode prog_2_method_6_code 0 = .ok (.iload_n 0, 1) := by decide +kernel
theorem d_Ch_complete_1 : decode prog_2_method_6_code 1 = .ok (.iconst 2, 1) := by decide +kernel
theorem d_Ch_complete_2 : decode prog_2_method_6_code 2 = .ok (.invokestatic 53, 3) := by decide +kernel
theorem d_Ch_complete_5 : decode prog_2_method_6_code 5 = .ok (.ifCond .eq 15, 3) := by decide +kernel
theorem d_Ch_complete_8 : decode prog_2_method_6_code 8 = .ok (.iload_n 0, 1) := by decide +kernel
theorem d_Ch_complete_9 : decode prog_2_method_6_code 9 = .ok (.iconst 5, 1) := by decide +kernel
theorem d_Ch_complete_10 : decode prog_2_method_6_code 10 = .ok (.invokestatic 53, 3) := by decide +kernel
theorem d_Ch_complete_13 : decode prog_2_method_6_code 13 = .ok (.ifCond .ne 7, 3) := by decide +kernel
theorem d_Ch_complete_16 : decode prog_2_method_6_code 16 = .ok (.iconst 1, 1) := by decide +kernel
theorem d_Ch_complete_17 : decode prog_2_method_6_code 17 = .ok (.goto 4, 3) := by decide +kernel
theorem d_Ch_complete_20 : decode prog_2_method_6_code 20 = .ok (.iconst 0, 1) := by decide +kernel
theorem d_Ch_complete_21 : decode prog_2_method_6_code 21 = .ok (.istore_n 1, 1) := by decide +kernel
theorem d_Ch_complete_22 : decode prog_2_method_6_code 22 = .ok (.iload_n 0, 1) := by decide +kernel
theorem d_Ch_complete_23 : decode prog_2_method_6_code 23 = .ok (.iconst 3, 1) := by decide +kernel
theorem d_Ch_complete_24 : decode prog_2_method_6_code 24 = .ok (.invokestatic 53, 3) := by decide +kernel
theorem d_Ch_complete_27 : decode prog_2_method_6_code 27 = .ok (.ifCond .eq 15, 3) := by decide +kernel
theorem d_Ch_complete_30 : decode prog_2_method_6_code 30 = .ok (.iload_n 0, 1) := by decide +kernel
theorem d_Ch_complete_31 : decode prog_2_method_6_code 31 = .ok (.iconst 4, 1) := by decide +kernel
theorem d_Ch_complete_32 : decode prog_2_method_6_code 32 = .ok (.invokestatic 53, 3) := by decide +kernel
theorem d_Ch_complete_35 : decode prog_2_method_6_code 35 = .ok (.ifCond .eq 7, 3) := by decide +kernel
theorem d_Ch_complete_38 : decode prog_2_method_6_code 38 = .ok (.iconst 1, 1) := by decide +kernel
theorem d_Ch_complete_39 : decode prog_2_method_6_code 39 = .ok (.goto 4, 3) := by decide +kernel
theorem d_Ch_complete_42 : decode prog_2_method_6_code 42 = .ok (.iconst 0, 1) := by decide +kernel
theorem d_Ch_complete_43 : decode prog_2_method_6_code 43 = .ok (.istore_n 2, 1) := by decide +kernel
theorem d_Ch_complete_44 : decode prog_2_method_6_code 44 = .ok (.iload_n 0, 1) := by decide +kernel
theorem d_Ch_complete_45 : decode prog_2_method_6_code 45 = .ok (.bipush 7, 2) := by decide +kernel
theorem d_Ch_complete_47 : decode prog_2_method_6_code 47 = .ok (.invokestatic 53, 3) := by decide +kernel
theorem d_Ch_complete_50 : decode prog_2_method_6_code 50 = .ok (.ifCond .eq 16, 3) := by decide +kernel
theorem d_Ch_complete_53 : decode prog_2_method_6_code 53 = .ok (.iload_n 0, 1) := by decide +kernel
theorem d_Ch_complete_54 : decode prog_2_method_6_code 54 = .ok (.bipush 9, 2) := by decide +kernel
theorem d_Ch_complete_56 : decode prog_2_method_6_code 56 = .ok (.invokestatic 53, 3) := by decide +kernel
theorem d_Ch_complete_59 : decode prog_2_method_6_code 59 = .ok (.ifCond .eq 7, 3) := by decide +kernel
theorem d_Ch_complete_62 : decode prog_2_method_6_code 62 = .ok (.iconst 1, 1) := by decide +kernel
theorem d_Ch_complete_63 : decode prog_2_method_6_code 63 = .ok (.goto 4, 3) := by decide +kernel
theorem d_Ch_complete_66 : decode prog_2_method_6_code 66 = .ok (.iconst 0, 1) := by decide +kernel
theorem d_Ch_complete_67 : decode prog_2_method_6_code 67 = .ok (.istore_n 3, 1) := by decide +kernel
theorem d_Ch_complete_68 : decode prog_2_method_6_code 68 = .ok (.iload_n 0, 1) := by decide +kernel
theorem d_Ch_complete_69 : decode prog_2_method_6_code 69 = .ok (.istore 4, 2) := by decide +kernel
theorem d_Ch_complete_71 : decode prog_2_method_6_code 71 = .ok (.iload_n 0, 1) := by decide +kernel
theorem d_Ch_complete_72 : decode prog_2_method_6_code 72 = .ok (.iconst 2, 1) := by decide +kernel
theorem d_Ch_complete_73 : decode prog_2_method_6_code 73 = .ok (.invokestatic 53, 3) := by decide +kernel
theorem d_Ch_complete_76 : decode prog_2_method_6_code 76 = .ok (.ifCond .ne 18, 3) := by decide +kernel
theorem d_Ch_complete_79 : decode prog_2_method_6_code 79 = .ok (.iload_n 0, 1) := by decide +kernel
theorem d_Ch_complete_80 : decode prog_2_method_6_code 80 = .ok (.iconst 4, 1) := by decide +kernel
theorem d_Ch_complete_81 : decode prog_2_method_6_code 81 = .ok (.invokestatic 53, 3) := by decide +kernel
theorem d_Ch_complete_84 : decode prog_2_method_6_code 84 = .ok (.ifCond .ne 10, 3) := by decide +kernel
theorem d_Ch_complete_87 : decode prog_2_method_6_code 87 = .ok (.iload 4, 2) := by decide +kernel
theorem d_Ch_complete_89 : decode prog_2_method_6_code 89 = .ok (.bipush 8, 2) := by decide +kernel
theorem d_Ch_complete_91 : decode prog_2_method_6_code 91 = .ok (.ior, 1) := by decide +kernel
theorem d_Ch_complete_92 : decode prog_2_method_6_code 92 = .ok (.istore 4, 2) := by decide +kernel
theorem d_Ch_complete_94 : decode prog_2_method_6_code 94 = .ok (.iload_n 1, 1) := by decide +kernel
theorem d_Ch_complete_95 : decode prog_2_method_6_code 95 = .ok (.ifCond .eq 10, 3) := by decide +kernel
theorem d_Ch_complete_98 : decode prog_2_method_6_code 98 = .ok (.iload 4, 2) := by decide +kernel
theorem d_Ch_complete_100 : decode prog_2_method_6_code 100 = .ok (.bipush 16, 2) := by decide +kernel
theorem d_Ch_complete_102 : decode prog_2_method_6_code 102 = .ok (.ior, 1) := by decide +kernel
theorem d_Ch_complete_103 : decode prog_2_method_6_code 103 = .ok (.istore 4, 2) := by decide +kernel
theorem d_Ch_complete_105 : decode prog_2_method_6_code 105 = .ok (.iload_n 0, 1) := by decide +kernel
theorem d_Ch_complete_106 : decode prog_2_method_6_code 106 = .ok (.iconst 2, 1) := by decide +kernel
theorem d_Ch_complete_107 : decode prog_2_method_6_code 107 = .ok (.invokestatic 53, 3) := by decide +kernel
theorem d_Ch_complete_110 : decode prog_2_method_6_code 110 = .ok (.ifCond .ne 27, 3) := by decide +kernel
theorem d_Ch_complete_113 : decode prog_2_method_6_code 113 = .ok (.iload_n 0, 1) := by decide +kernel
theorem d_Ch_complete_114 : decode prog_2_method_6_code 114 = .ok (.bipush 6, 2) := by decide +kernel
theorem d_Ch_complete_116 : decode prog_2_method_6_code 116 = .ok (.invokestatic 53, 3) := by decide +kernel
theorem d_Ch_complete_119 : decode prog_2_method_6_code 119 = .ok (.ifCond .ne 18, 3) := by decide +kernel
theorem d_Ch_complete_122 : decode prog_2_method_6_code 122 = .ok (.iload_n 2, 1) := by decide +kernel
theorem d_Ch_complete_123 : decode prog_2_method_6_code 123 = .ok (.ifCond .ne 14, 3) := by decide +kernel
theorem d_Ch_complete_126 : decode prog_2_method_6_code 126 = .ok (.iload_n 3, 1) := by decide +kernel
theorem d_Ch_complete_127 : decode prog_2_method_6_code 127 = .ok (.ifCond .ne 10, 3) := by decide +kernel
theorem d_Ch_complete_130 : decode prog_2_method_6_code 130 = .ok (.iload 4, 2) := by decide +kernel
theorem d_Ch_complete_132 : decode prog_2_method_6_code 132 = .ok (.bipush 32, 2) := by decide +kernel
theorem d_Ch_complete_134 : decode prog_2_method_6_code 134 = .ok (.ior, 1) := by decide +kernel
theorem d_Ch_complete_135 : decode prog_2_method_6_code 135 = .ok (.istore 4, 2) := by decide +kernel
theorem d_Ch_complete_137 : decode prog_2_method_6_code 137 = .ok (.iload_n 1, 1) := by decide +kernel
theorem d_Ch_complete_138 : decode prog_2_method_6_code 138 = .ok (.ifCond .ne 7, 3) := by decide +kernel
theorem d_Ch_complete_141 : decode prog_2_method_6_code 141 = .ok (.iload_n 2, 1) := by decide +kernel
theorem d_Ch_complete_142 : decode prog_2_method_6_code 142 = .ok (.ifCond .eq 10, 3) := by decide +kernel
theorem d_Ch_complete_145 : decode prog_2_method_6_code 145 = .ok (.iload 4, 2) := by decide +kernel
theorem d_Ch_complete_147 : decode prog_2_method_6_code 147 = .ok (.bipush 64, 2) := by decide +kernel
theorem d_Ch_complete_149 : decode prog_2_method_6_code 149 = .ok (.ior, 1) := by decide +kernel
theorem d_Ch_complete_150 : decode prog_2_method_6_code 150 = .ok (.istore 4, 2) := by decide +kernel
theorem d_Ch_complete_152 : decode prog_2_method_6_code 152 = .ok (.iload 4, 2) := by decide +kernel
theorem d_Ch_complete_154 : decode prog_2_method_6_code 154 = .ok (.ireturn, 1) := by decide +kernel
def wp_Ru_init (Post : MH → Prop) (cn : Nat) (sn : Nat) (l0 : Nat) (h : MH) : Prop :=
  (cn + 1 ≤ 3 ∧ sn + 3 ≤ 9) ∧ ∀ (k6 : Nat) (h6 : MH), k6 = h.1 → h6 = mnew h (.inr (0, 3, .inl (fun _ => 0))) →
  (∃ (n12 : Nat) (f12 : Nat → Int32), gA h6 k6 0 = some (n12, f12) ∧ vp_in (0 : Int32) n12 ∧ ∀ h12 : MH, h12 = mset h6 k6 (.inr (0, n12, .inl (upd f12 ((0 : Int32)).toNatClampNeg (60 : Int32)))) →
    (∃ (n17 : Nat) (f17 : Nat → Int32), gA h12 k6 0 = some (n17, f17) ∧ vp_in (1 : Int32) n17 ∧ ∀ h17 : MH, h17 = mset h12 k6 (.inr (0, n17, .inl (upd f17 ((1 : Int32)).toNatClampNeg (55 : Int32)))) →
      (∃ (n22 : Nat) (f22 : Nat → Int32), gA h17 k6 0 = some (n22, f22) ∧ vp_in (2 : Int32) n22 ∧ ∀ h22 : MH, h22 = mset h17 k6 (.inr (0, n22, .inl (upd f22 ((2 : Int32)).toNatClampNeg (48 : Int32)))) →
        ((∃ o : MV, gF h22 l0 3 0 = some o) ∧ ∀ h23 : MH, h23 = fset h22 l0 0 (.inr (some k6) : MV) →
          (((cn + 1) + 1 ≤ 3 ∧ (sn + 3) + 3 ≤ 9) ∧ ∀ (k28 : Nat) (h28 : MH), k28 = h23.1 → h28 = mnew h23 (.inr (0, 3, .inl (fun _ => 0))) →
            (∃ (n34 : Nat) (f34 : Nat → Int32), gA h28 k28 0 = some (n34, f34) ∧ vp_in (0 : Int32) n34 ∧ ∀ h34 : MH, h34 = mset h28 k28 (.inr (0, n34, .inl (upd f34 ((0 : Int32)).toNatClampNeg (81 : Int32)))) →
              (∃ (n39 : Nat) (f39 : Nat → Int32), gA h34 k28 0 = some (n39, f39) ∧ vp_in (1 : Int32) n39 ∧ ∀ h39 : MH, h39 = mset h34 k28 (.inr (0, n39, .inl (upd f39 ((1 : Int32)).toNatClampNeg (74 : Int32)))) →
                (∃ (n44 : Nat) (f44 : Nat → Int32), gA h39 k28 0 = some (n44, f44) ∧ vp_in (2 : Int32) n44 ∧ ∀ h44 : MH, h44 = mset h39 k28 (.inr (0, n44, .inl (upd f44 ((2 : Int32)).toNatClampNeg (69 : Int32)))) →
                  ((∃ o : MV, gF h44 l0 3 1 = some o) ∧ ∀ h45 : MH, h45 = fset h44 l0 1 (.inr (some k28) : MV) →
                    ((((cn + 1) + 1) + 1 ≤ 3 ∧ ((sn + 3) + 3) + 3 ≤ 9) ∧ ∀ (k50 : Nat) (h50 : MH), k50 = h45.1 → h50 = mnew h45 (.inr (0, 3, .inl (fun _ => 0))) →
                      (∃ (n56 : Nat) (f56 : Nat → Int32), gA h50 k50 0 = some (n56, f56) ∧ vp_in (0 : Int32) n56 ∧ ∀ h56 : MH, h56 = mset h50 k50 (.inr (0, n56, .inl (upd f56 ((0 : Int32)).toNatClampNeg (72 : Int32)))) →
                        (∃ (n61 : Nat) (f61 : Nat → Int32), gA h56 k50 0 = some (n61, f61) ∧ vp_in (1 : Int32) n61 ∧ ∀ h61 : MH, h61 = mset h56 k50 (.inr (0, n61, .inl (upd f61 ((1 : Int32)).toNatClampNeg (67 : Int32)))) →
                        (∃ (n66 : Nat) (f66 : Nat → Int32), gA h61 k50 0 = some (n66, f66) ∧ vp_in (2 : Int32) n66 ∧ ∀ h66 : MH, h66 = mset h61 k50 (.inr (0, n66, .inl (upd f66 ((2 : Int32)).toNatClampNeg (60 : Int32)))) →
                        ((∃ o : MV, gF h66 l0 3 2 = some o) ∧ ∀ h67 : MH, h67 = fset h66 l0 2 (.inr (some k50) : MV) →
                        ((∃ o : MV, gF h67 l0 3 3 = some o) ∧ ∀ h73 : MH, h73 = fset h67 l0 3 (.inl (12 : Int32) : MV) →
                        ((∃ o : MV, gF h73 l0 3 4 = some o) ∧ ∀ h78 : MH, h78 = fset h73 l0 4 (.inl (0 : Int32) : MV) →
                        (((((cn + 1) + 1) + 1) ≤ 3 ∧ (((sn + 3) + 3) + 3) ≤ 9) ∧ Post h78)))))))))))))))))
set_option maxRecDepth 100000 in
set_option maxHeartbeats 4000000 in
theorem t_Ru_init {p : Program} {l : Launch} {e : Env} {R : Room} {s : State} {m : MethodId} {args : Array Value} {below : List Frame} {meth : Method} {c : Code} (G : mG) (C0 : Cx G p s m args c prog_5_method_1_code 1 "BassRealiser$Rules") (hR : 1 ≤ R.frames ∧ 20 ≤ R.locals ∧ 3 ≤ R.cells ∧ 9 ≤ R.slots) (hr : meth.sig.returnType = none) (hlk : meth.locks = false) (hin : meth.name = "<init>") {Post : MH → Prop} (cn : Nat) (sn : Nat) (l0 : Nat) (h : MH) (hwp : wp_Ru_init Post cn sn l0 h) : WG p l e R s m args below meth c cn sn (MQ below (va_Qv Post (Wd G) (mA G)) args s 3 9 (mA G)) G 1 [(0, .ref (m_b G + l0))] 0 [] h := by
  unfold wp_Ru_init at hwp
  refine x_aload_n C0 0 d_Ru_init_0 rfl rfl ?_
  refine x_objInit C0 kw_1_31 kw_1_16 kw_1_17 d_Ru_init_1 ⟨Nat.le_trans (by decide) hR.1, Nat.le_trans (by decide) hR.2.1⟩ (Nat.le_of_ble_eq_true rfl) ?_
  refine x_aload_n C0 0 d_Ru_init_4 rfl rfl ?_
  refine x_iconst (v := 3) C0 d_Ru_init_5 (by decide) ?_
  obtain ⟨b6, hwp⟩ := hwp
  refine x_newai C0 3 kw_1_56 (by decide) (by decide) (by decide) ⟨Nat.le_trans b6.1 hR.2.2.1, Nat.le_trans b6.2 hR.2.2.2⟩ d_Ru_init_6 ?_
  refine x_nk (fun k6 ek6 => ?_)
  refine x_nh (fun h6 eh6 => ?_)
  replace hwp := hwp k6 h6 ek6 eh6
  refine x_dup C0 d_Ru_init_8 rfl ?_
  refine x_iconst (v := 0) C0 d_Ru_init_9 (by decide) ?_
  refine x_bipush (v := 60) C0 d_Ru_init_10 (by decide) ?_
  obtain ⟨n12, f12, e12, i12, hwp⟩ := hwp
  refine x_iast C0 e12 i12 d_Ru_init_12 ?_
  refine x_nh (fun h12 eh12 => ?_)
  replace hwp := hwp h12 eh12
  refine x_dup C0 d_Ru_init_13 rfl ?_
  refine x_iconst (v := 1) C0 d_Ru_init_14 (by decide) ?_
  refine x_bipush (v := 55) C0 d_Ru_init_15 (by decide) ?_
  obtain ⟨n17, f17, e17, i17, hwp⟩ := hwp
  refine x_iast C0 e17 i17 d_Ru_init_17 ?_
  refine x_nh (fun h17 eh17 => ?_)
  replace hwp := hwp h17 eh17
  refine x_dup C0 d_Ru_init_18 rfl ?_
  refine x_iconst (v := 2) C0 d_Ru_init_19 (by decide) ?_
  refine x_bipush (v := 48) C0 d_Ru_init_20 (by decide) ?_
  obtain ⟨n22, f22, e22, i22, hwp⟩ := hwp
  refine x_iast C0 e22 i22 d_Ru_init_22 ?_
  refine x_nh (fun h22 eh22 => ?_)
  replace hwp := hwp h22 eh22
  obtain ⟨⟨o23, e23⟩, hwp⟩ := hwp
  refine x_putF (x := (.inr (some k6) : MV)) C0 pk_Ru_9 hin e23 rfl rfl d_Ru_init_23 ?_
  refine x_nh (fun h23 eh23 => ?_)
  replace hwp := hwp h23 eh23
  refine x_aload_n C0 0 d_Ru_init_26 rfl rfl ?_
  refine x_iconst (v := 3) C0 d_Ru_init_27 (by decide) ?_
  obtain ⟨b28, hwp⟩ := hwp
  refine x_newai C0 3 kw_1_56 (by decide) (by decide) (by decide) ⟨Nat.le_trans b28.1 hR.2.2.1, Nat.le_trans b28.2 hR.2.2.2⟩ d_Ru_init_28 ?_
  refine x_nk (fun k28 ek28 => ?_)
  refine x_nh (fun h28 eh28 => ?_)
  replace hwp := hwp k28 h28 ek28 eh28
  refine x_dup C0 d_Ru_init_30 rfl ?_
  refine x_iconst (v := 0) C0 d_Ru_init_31 (by decide) ?_
  refine x_bipush (v := 81) C0 d_Ru_init_32 (by decide) ?_
  obtain ⟨n34, f34, e34, i34, hwp⟩ := hwp
  refine x_iast C0 e34 i34 d_Ru_init_34 ?_
  refine x_nh (fun h34 eh34 => ?_)
  replace hwp := hwp h34 eh34
  refine x_dup C0 d_Ru_init_35 rfl ?_
  refine x_iconst (v := 1) C0 d_Ru_init_36 (by decide) ?_
  refine x_bipush (v := 74) C0 d_Ru_init_37 (by decide) ?_
  obtain ⟨n39, f39, e39, i39, hwp⟩ := hwp
  refine x_iast C0 e39 i39 d_Ru_init_39 ?_
  refine x_nh (fun h39 eh39 => ?_)
  replace hwp := hwp h39 eh39
  refine x_dup C0 d_Ru_init_40 rfl ?_
  refine x_iconst (v := 2) C0 d_Ru_init_41 (by decide) ?_
  refine x_bipush (v := 69) C0 d_Ru_init_42 (by decide) ?_
  obtain ⟨n44, f44, e44, i44, hwp⟩ := hwp
  refine x_iast C0 e44 i44 d_Ru_init_44 ?_
  refine x_nh (fun h44 eh44 => ?_)
  replace hwp := hwp h44 eh44
  obtain ⟨⟨o45, e45⟩, hwp⟩ := hwp
  refine x_putF (x := (.inr (some k28) : MV)) C0 pk_Ru_15 hin e45 rfl rfl d_Ru_init_45 ?_
  refine x_nh (fun h45 eh45 => ?_)
  replace hwp := hwp h45 eh45
  refine x_aload_n C0 0 d_Ru_init_48 rfl rfl ?_
  refine x_iconst (v := 3) C0 d_Ru_init_49 (by decide) ?_
  obtain ⟨b50, hwp⟩ := hwp
  refine x_newai C0 3 kw_1_56 (by decide) (by decide) (by decide) ⟨Nat.le_trans b50.1 hR.2.2.1, Nat.le_trans b50.2 hR.2.2.2⟩ d_Ru_init_50 ?_
  refine x_nk (fun k50 ek50 => ?_)
  refine x_nh (fun h50 eh50 => ?_)
  replace hwp := hwp k50 h50 ek50 eh50
  refine x_dup C0 d_Ru_init_52 rfl ?_
  refine x_iconst (v := 0) C0 d_Ru_init_53 (by decide) ?_
  refine x_bipush (v := 72) C0 d_Ru_init_54 (by decide) ?_
  obtain ⟨n56, f56, e56, i56, hwp⟩ := hwp
  refine x_iast C0 e56 i56 d_Ru_init_56 ?_
  refine x_nh (fun h56 eh56 => ?_)
  replace hwp := hwp h56 eh56
  refine x_dup C0 d_Ru_init_57 rfl ?_
  refine x_iconst (v := 1) C0 d_Ru_init_58 (by decide) ?_
  refine x_bipush (v := 67) C0 d_Ru_init_59 (by decide) ?_
  obtain ⟨n61, f61, e61, i61, hwp⟩ := hwp
  refine x_iast C0 e61 i61 d_Ru_init_61 ?_
  refine x_nh (fun h61 eh61 => ?_)
  replace hwp := hwp h61 eh61
  refine x_dup C0 d_Ru_init_62 rfl ?_
  refine x_iconst (v := 2) C0 d_Ru_init_63 (by decide) ?_
  refine x_bipush (v := 60) C0 d_Ru_init_64 (by decide) ?_
  obtain ⟨n66, f66, e66, i66, hwp⟩ := hwp
  refine x_iast C0 e66 i66 d_Ru_init_66 ?_
  refine x_nh (fun h66 eh66 => ?_)
  replace hwp := hwp h66 eh66
  obtain ⟨⟨o67, e67⟩, hwp⟩ := hwp
  refine x_putF (x := (.inr (some k50) : MV)) C0 pk_Ru_18 hin e67 rfl rfl d_Ru_init_67 ?_
  refine x_nh (fun h67 eh67 => ?_)
  replace hwp := hwp h67 eh67
  refine x_aload_n C0 0 d_Ru_init_70 rfl rfl ?_
  refine x_bipush (v := 12) C0 d_Ru_init_71 (by decide) ?_
  obtain ⟨⟨o73, e73⟩, hwp⟩ := hwp
  refine x_put (x := (.inl (12 : Int32) : MV)) C0 pk_Ru_21 e73 rfl rfl d_Ru_init_73 ?_
  refine x_nh (fun h73 eh73 => ?_)
  replace hwp := hwp h73 eh73
  refine x_aload_n C0 0 d_Ru_init_76 rfl rfl ?_
  refine x_iconst (v := 0) C0 d_Ru_init_77 (by decide) ?_
  obtain ⟨⟨o78, e78⟩, hwp⟩ := hwp
  refine x_put (x := (.inl (0 : Int32) : MV)) C0 pk_Ru_25 e78 rfl rfl d_Ru_init_78 ?_
  refine x_nh (fun h78 eh78 => ?_)
  replace hwp := hwp h78 eh78
  obtain ⟨bR, hwp⟩ := hwp
  refine x_cs bR.1 bR.2 ?_
  exact x_vret C0 hr hlk hwp d_Ru_init_81
set_option maxRecDepth 100000 in
set_option maxHeartbeats 4000000 in
theorem c_Ru_init (l : Launch) (G : mG) {Post : MH → Prop} {l0 : Nat} {h : MH} (hwp : wp_Ru_init Post 0 0 l0 h) : Met l y_Ru_init (Cond.code y_Ru_init prog_5_method_1_code 1 (Option.none : Option Jvm.ClassFile.FieldType) :: lw_good) ({ frames := 1, cells := 3, slots := 9, locals := 20 }) (va_Pc [.ref (m_b G + l0)] (Wd G h)) (va_Qv Post (Wd G) (mA G)) 3 9 (mA G) := by
  refine Met.ofW (cc := prog_5_method_1_code) (maxL := 1) (ret := (Option.none : Option Jvm.ClassFile.FieldType)) (by decide +kernel) rfl ?_
  intro p e s m args below meth c s₁ B hml hv
  obtain ⟨rfl, hP, hz, hK, hSt⟩ := hv
  have hts := atoms_spec (ws := Cond.code y_Ru_init prog_5_method_1_code 1 (Option.none : Option Jvm.ClassFile.FieldType) :: lw_good) B.pre
  have C0 : Cx G p s m ([.ref (m_b G + l0)] : List Value).toArray c prog_5_method_1_code 1 "BassRealiser$Rules" := ⟨⟨B.exec, B.bytes, hml, findClass_of_methodNamed B.named, fun w h => hts w (List.mem_cons_of_mem _ h)⟩, hK, hSt, by rw [hz]; exact Nat.le_add_right _ _⟩
  have hl := lv_entry ([.ref (m_b G + l0)]) (n := 1) (Nat.le_of_ble_eq_true rfl)
  rw [lg_entry_eq]
  exact t_Ru_init G C0 ⟨Nat.le_refl _, Nat.le_refl _, Nat.le_refl _, Nat.le_refl _⟩ B.returns B.notSynchronized (name_of_methodNamed B.named B.method).1 _ _ _ _ hwp _ _ _ ⟨hP, hz, va_S.rf⟩ hl
def wp_Ch_init (Post : MH → Prop) (cn : Nat) (sn : Nat) (l0 : Nat) (h : MH) : Prop :=
  (cn + 1 ≤ 2 ∧ sn + 10 ≤ 13) ∧ ∀ (k7 : Nat) (h7 : MH), k7 = h.1 → h7 = mnew h (.inr (0, 10, .inl (fun _ => 0))) →
  ((∃ o : MV, gF h7 l0 0 4 = some o) ∧ ∀ h9 : MH, h9 = fset h7 l0 4 (.inr (some k7) : MV) →
    (((cn + 1) + 1 ≤ 2 ∧ (sn + 10) + 3 ≤ 13) ∧ ∀ (k14 : Nat) (h14 : MH), k14 = h9.1 → h14 = mnew h9 (.inr (0, 3, .inl (fun _ => 0))) →
      ((∃ o : MV, gF h14 l0 0 5 = some o) ∧ ∀ h16 : MH, h16 = fset h14 l0 5 (.inr (some k14) : MV) →
        ((∃ o : MV, gF h16 l0 0 6 = some o) ∧ ∀ h21 : MH, h21 = fset h16 l0 6 (.inl (-1 : Int32) : MV) →
          ((((cn + 1) + 1) ≤ 2 ∧ ((sn + 10) + 3) ≤ 13) ∧ Post h21)))))
set_option maxRecDepth 100000 in
set_option maxHeartbeats 4000000 in
theorem t_Ch_init {p : Program} {l : Launch} {e : Env} {R : Room} {s : State} {m : MethodId} {args : Array Value} {below : List Frame} {meth : Method} {c : Code} (G : mG) (C0 : Cx G p s m args c prog_2_method_1_code 1 "BassRealiser$Chord") (hR : 1 ≤ R.frames ∧ 20 ≤ R.locals ∧ 2 ≤ R.cells ∧ 13 ≤ R.slots) (hr : meth.sig.returnType = none) (hlk : meth.locks = false) (hin : meth.name = "<init>") {Post : MH → Prop} (cn : Nat) (sn : Nat) (l0 : Nat) (h : MH) (hwp : wp_Ch_init Post cn sn l0 h) : WG p l e R s m args below meth c cn sn (MQ below (va_Qv Post (Wd G) (mA G)) args s 2 13 (mA G)) G 1 [(0, .ref (m_b G + l0))] 0 [] h := by
  unfold wp_Ch_init at hwp
  refine x_aload_n C0 0 d_Ch_init_0 rfl rfl ?_
  refine x_objInit C0 kw_1_63 kw_1_16 kw_1_17 d_Ch_init_1 ⟨Nat.le_trans (by decide) hR.1, Nat.le_trans (by decide) hR.2.1⟩ (Nat.le_of_ble_eq_true rfl) ?_
  refine x_aload_n C0 0 d_Ch_init_4 rfl rfl ?_
  refine x_bipush (v := 10) C0 d_Ch_init_5 (by decide) ?_
  obtain ⟨b7, hwp⟩ := hwp
  refine x_newai C0 10 kw_1_56 (by decide) (by decide) (by decide) ⟨Nat.le_trans b7.1 hR.2.2.1, Nat.le_trans b7.2 hR.2.2.2⟩ d_Ch_init_7 ?_
  refine x_nk (fun k7 ek7 => ?_)
  refine x_nh (fun h7 eh7 => ?_)
  replace hwp := hwp k7 h7 ek7 eh7
  obtain ⟨⟨o9, e9⟩, hwp⟩ := hwp
  refine x_putF (x := (.inr (some k7) : MV)) C0 pk_Ch_9 hin e9 rfl rfl d_Ch_init_9 ?_
  refine x_nh (fun h9 eh9 => ?_)
  replace hwp := hwp h9 eh9
  refine x_aload_n C0 0 d_Ch_init_12 rfl rfl ?_
  refine x_iconst (v := 3) C0 d_Ch_init_13 (by decide) ?_
  obtain ⟨b14, hwp⟩ := hwp
  refine x_newai C0 3 kw_1_56 (by decide) (by decide) (by decide) ⟨Nat.le_trans b14.1 hR.2.2.1, Nat.le_trans b14.2 hR.2.2.2⟩ d_Ch_init_14 ?_
  refine x_nk (fun k14 ek14 => ?_)
  refine x_nh (fun h14 eh14 => ?_)
  replace hwp := hwp k14 h14 ek14 eh14
  obtain ⟨⟨o16, e16⟩, hwp⟩ := hwp
  refine x_putF (x := (.inr (some k14) : MV)) C0 pk_Ch_15 hin e16 rfl rfl d_Ch_init_16 ?_
  refine x_nh (fun h16 eh16 => ?_)
  replace hwp := hwp h16 eh16
  refine x_aload_n C0 0 d_Ch_init_19 rfl rfl ?_
  refine x_iconst (v := -1) C0 d_Ch_init_20 (by decide) ?_
  obtain ⟨⟨o21, e21⟩, hwp⟩ := hwp
  refine x_put (x := (.inl (-1 : Int32) : MV)) C0 pk_Ch_18 e21 rfl rfl d_Ch_init_21 ?_
  refine x_nh (fun h21 eh21 => ?_)
  replace hwp := hwp h21 eh21
  obtain ⟨bR, hwp⟩ := hwp
  refine x_cs bR.1 bR.2 ?_
  exact x_vret C0 hr hlk hwp d_Ch_init_24
set_option maxRecDepth 100000 in
set_option maxHeartbeats 4000000 in
theorem c_Ch_init (l : Launch) (G : mG) {Post : MH → Prop} {l0 : Nat} {h : MH} (hwp : wp_Ch_init Post 0 0 l0 h) : Met l y_Ch_init (Cond.code y_Ch_init prog_2_method_1_code 1 (Option.none : Option Jvm.ClassFile.FieldType) :: lw_good) ({ frames := 1, cells := 2, slots := 13, locals := 20 }) (va_Pc [.ref (m_b G + l0)] (Wd G h)) (va_Qv Post (Wd G) (mA G)) 2 13 (mA G) := by
  refine Met.ofW (cc := prog_2_method_1_code) (maxL := 1) (ret := (Option.none : Option Jvm.ClassFile.FieldType)) (by decide +kernel) rfl ?_
  intro p e s m args below meth c s₁ B hml hv
  obtain ⟨rfl, hP, hz, hK, hSt⟩ := hv
  have hts := atoms_spec (ws := Cond.code y_Ch_init prog_2_method_1_code 1 (Option.none : Option Jvm.ClassFile.FieldType) :: lw_good) B.pre
  have C0 : Cx G p s m ([.ref (m_b G + l0)] : List Value).toArray c prog_2_method_1_code 1 "BassRealiser$Chord" := ⟨⟨B.exec, B.bytes, hml, findClass_of_methodNamed B.named, fun w h => hts w (List.mem_cons_of_mem _ h)⟩, hK, hSt, by rw [hz]; exact Nat.le_add_right _ _⟩
  have hl := lv_entry ([.ref (m_b G + l0)]) (n := 1) (Nat.le_of_ble_eq_true rfl)
  rw [lg_entry_eq]
  exact t_Ch_init G C0 ⟨Nat.le_refl _, Nat.le_refl _, Nat.le_refl _, Nat.le_refl _⟩ B.returns B.notSynchronized (name_of_methodNamed B.named B.method).1 _ _ _ _ hwp _ _ _ ⟨hP, hz, va_S.rf⟩ hl
def wp_Co_init (Post : MH → Prop) (cn : Nat) (sn : Nat) (l0 : Nat) (h : MH) : Prop :=
  (cn + 1 ≤ 4 ∧ sn + 112 ≤ 448) ∧ ∀ (k7 : Nat) (h7 : MH), k7 = h.1 → h7 = mnew h (.inr (0, 112, .inl (fun _ => 0))) →
  ((∃ o : MV, gF h7 l0 1 0 = some o) ∧ ∀ h9 : MH, h9 = fset h7 l0 0 (.inr (some k7) : MV) →
    (((cn + 1) + 1 ≤ 4 ∧ (sn + 112) + 112 ≤ 448) ∧ ∀ (k15 : Nat) (h15 : MH), k15 = h9.1 → h15 = mnew h9 (.inr (1, 112, .inl (fun _ => 0))) →
      ((∃ o : MV, gF h15 l0 1 1 = some o) ∧ ∀ h17 : MH, h17 = fset h15 l0 1 (.inr (some k15) : MV) →
        ((((cn + 1) + 1) + 1 ≤ 4 ∧ ((sn + 112) + 112) + 112 ≤ 448) ∧ ∀ (k23 : Nat) (h23 : MH), k23 = h17.1 → h23 = mnew h17 (.inr (0, 112, .inl (fun _ => 0))) →
          ((∃ o : MV, gF h23 l0 1 2 = some o) ∧ ∀ h25 : MH, h25 = fset h23 l0 2 (.inr (some k23) : MV) →
            (((((cn + 1) + 1) + 1) + 1 ≤ 4 ∧ (((sn + 112) + 112) + 112) + 112 ≤ 448) ∧ ∀ (k31 : Nat) (h31 : MH), k31 = h25.1 → h31 = mnew h25 (.inr (0, 112, .inl (fun _ => 0))) →
              ((∃ o : MV, gF h31 l0 1 3 = some o) ∧ ∀ h33 : MH, h33 = fset h31 l0 3 (.inr (some k31) : MV) →
                ((((((cn + 1) + 1) + 1) + 1) ≤ 4 ∧ ((((sn + 112) + 112) + 112) + 112) ≤ 448) ∧ Post h33))))))))
set_option maxRecDepth 100000 in
set_option maxHeartbeats 4000000 in
theorem t_Co_init {p : Program} {l : Launch} {e : Env} {R : Room} {s : State} {m : MethodId} {args : Array Value} {below : List Frame} {meth : Method} {c : Code} (G : mG) (C0 : Cx G p s m args c prog_3_method_1_code 1 "BassRealiser$Column") (hR : 1 ≤ R.frames ∧ 20 ≤ R.locals ∧ 4 ≤ R.cells ∧ 448 ≤ R.slots) (hr : meth.sig.returnType = none) (hlk : meth.locks = false) (hin : meth.name = "<init>") {Post : MH → Prop} (cn : Nat) (sn : Nat) (l0 : Nat) (h : MH) (hwp : wp_Co_init Post cn sn l0 h) : WG p l e R s m args below meth c cn sn (MQ below (va_Qv Post (Wd G) (mA G)) args s 4 448 (mA G)) G 1 [(0, .ref (m_b G + l0))] 0 [] h := by
  unfold wp_Co_init at hwp
  refine x_aload_n C0 0 d_Co_init_0 rfl rfl ?_
  refine x_objInit C0 kw_1_116 kw_1_16 kw_1_17 d_Co_init_1 ⟨Nat.le_trans (by decide) hR.1, Nat.le_trans (by decide) hR.2.1⟩ (Nat.le_of_ble_eq_true rfl) ?_
  refine x_aload_n C0 0 d_Co_init_4 rfl rfl ?_
  refine x_bipush (v := 112) C0 d_Co_init_5 (by decide) ?_
  obtain ⟨b7, hwp⟩ := hwp
  refine x_newai C0 112 kw_1_56 (by decide) (by decide) (by decide) ⟨Nat.le_trans b7.1 hR.2.2.1, Nat.le_trans b7.2 hR.2.2.2⟩ d_Co_init_7 ?_
  refine x_nk (fun k7 ek7 => ?_)
  refine x_nh (fun h7 eh7 => ?_)
  replace hwp := hwp k7 h7 ek7 eh7
  obtain ⟨⟨o9, e9⟩, hwp⟩ := hwp
  refine x_putF (x := (.inr (some k7) : MV)) C0 pk_Co_11 hin e9 rfl rfl d_Co_init_9 ?_
  refine x_nh (fun h9 eh9 => ?_)
  replace hwp := hwp h9 eh9
  refine x_aload_n C0 0 d_Co_init_12 rfl rfl ?_
  refine x_bipush (v := 112) C0 d_Co_init_13 (by decide) ?_
  obtain ⟨b15, hwp⟩ := hwp
  refine x_newaz C0 112 kw_1_144 (by decide) (by decide) (by decide) ⟨Nat.le_trans b15.1 hR.2.2.1, Nat.le_trans b15.2 hR.2.2.2⟩ d_Co_init_15 ?_
  refine x_nk (fun k15 ek15 => ?_)
  refine x_nh (fun h15 eh15 => ?_)
  replace hwp := hwp k15 h15 ek15 eh15
  obtain ⟨⟨o17, e17⟩, hwp⟩ := hwp
  refine x_putF (x := (.inr (some k15) : MV)) C0 pk_Co_15 hin e17 rfl rfl d_Co_init_17 ?_
  refine x_nh (fun h17 eh17 => ?_)
  replace hwp := hwp h17 eh17
  refine x_aload_n C0 0 d_Co_init_20 rfl rfl ?_
  refine x_bipush (v := 112) C0 d_Co_init_21 (by decide) ?_
  obtain ⟨b23, hwp⟩ := hwp
  refine x_newai C0 112 kw_1_56 (by decide) (by decide) (by decide) ⟨Nat.le_trans b23.1 hR.2.2.1, Nat.le_trans b23.2 hR.2.2.2⟩ d_Co_init_23 ?_
  refine x_nk (fun k23 ek23 => ?_)
  refine x_nh (fun h23 eh23 => ?_)
  replace hwp := hwp k23 h23 ek23 eh23
  obtain ⟨⟨o25, e25⟩, hwp⟩ := hwp
  refine x_putF (x := (.inr (some k23) : MV)) C0 pk_Co_19 hin e25 rfl rfl d_Co_init_25 ?_
  refine x_nh (fun h25 eh25 => ?_)
  replace hwp := hwp h25 eh25
  refine x_aload_n C0 0 d_Co_init_28 rfl rfl ?_
  refine x_bipush (v := 112) C0 d_Co_init_29 (by decide) ?_
  obtain ⟨b31, hwp⟩ := hwp
  refine x_newai C0 112 kw_1_56 (by decide) (by decide) (by decide) ⟨Nat.le_trans b31.1 hR.2.2.1, Nat.le_trans b31.2 hR.2.2.2⟩ d_Co_init_31 ?_
  refine x_nk (fun k31 ek31 => ?_)
  refine x_nh (fun h31 eh31 => ?_)
  replace hwp := hwp k31 h31 ek31 eh31
  obtain ⟨⟨o33, e33⟩, hwp⟩ := hwp
  refine x_putF (x := (.inr (some k31) : MV)) C0 pk_Co_22 hin e33 rfl rfl d_Co_init_33 ?_
  refine x_nh (fun h33 eh33 => ?_)
  replace hwp := hwp h33 eh33
  obtain ⟨bR, hwp⟩ := hwp
  refine x_cs bR.1 bR.2 ?_
  exact x_vret C0 hr hlk hwp d_Co_init_36
set_option maxRecDepth 100000 in
set_option maxHeartbeats 4000000 in
theorem c_Co_init (l : Launch) (G : mG) {Post : MH → Prop} {l0 : Nat} {h : MH} (hwp : wp_Co_init Post 0 0 l0 h) : Met l y_Co_init (Cond.code y_Co_init prog_3_method_1_code 1 (Option.none : Option Jvm.ClassFile.FieldType) :: lw_good) ({ frames := 1, cells := 4, slots := 448, locals := 20 }) (va_Pc [.ref (m_b G + l0)] (Wd G h)) (va_Qv Post (Wd G) (mA G)) 4 448 (mA G) := by
  refine Met.ofW (cc := prog_3_method_1_code) (maxL := 1) (ret := (Option.none : Option Jvm.ClassFile.FieldType)) (by decide +kernel) rfl ?_
  intro p e s m args below meth c s₁ B hml hv
  obtain ⟨rfl, hP, hz, hK, hSt⟩ := hv
  have hts := atoms_spec (ws := Cond.code y_Co_init prog_3_method_1_code 1 (Option.none : Option Jvm.ClassFile.FieldType) :: lw_good) B.pre
  have C0 : Cx G p s m ([.ref (m_b G + l0)] : List Value).toArray c prog_3_method_1_code 1 "BassRealiser$Column" := ⟨⟨B.exec, B.bytes, hml, findClass_of_methodNamed B.named, fun w h => hts w (List.mem_cons_of_mem _ h)⟩, hK, hSt, by rw [hz]; exact Nat.le_add_right _ _⟩
  have hl := lv_entry ([.ref (m_b G + l0)]) (n := 1) (Nat.le_of_ble_eq_true rfl)
  rw [lg_entry_eq]
  exact t_Co_init G C0 ⟨Nat.le_refl _, Nat.le_refl _, Nat.le_refl _, Nat.le_refl _⟩ B.returns B.notSynchronized (name_of_methodNamed B.named B.method).1 _ _ _ _ hwp _ _ _ ⟨hP, hz, va_S.rf⟩ hl
def wp_Mv_init (Post : MH → Prop) (cn : Nat) (sn : Nat) (l0 : Nat) (h : MH) : Prop :=
  (cn + 1 ≤ 3 ∧ sn + 4 ≤ 12) ∧ ∀ (k6 : Nat) (h6 : MH), k6 = h.1 → h6 = mnew h (.inr (0, 4, .inl (fun _ => 0))) →
  ((∃ o : MV, gF h6 l0 2 0 = some o) ∧ ∀ h8 : MH, h8 = fset h6 l0 0 (.inr (some k6) : MV) →
    (((cn + 1) + 1 ≤ 3 ∧ (sn + 4) + 4 ≤ 12) ∧ ∀ (k13 : Nat) (h13 : MH), k13 = h8.1 → h13 = mnew h8 (.inr (0, 4, .inl (fun _ => 0))) →
      ((∃ o : MV, gF h13 l0 2 1 = some o) ∧ ∀ h15 : MH, h15 = fset h13 l0 1 (.inr (some k13) : MV) →
        ((((cn + 1) + 1) + 1 ≤ 3 ∧ ((sn + 4) + 4) + 4 ≤ 12) ∧ ∀ (k20 : Nat) (h20 : MH), k20 = h15.1 → h20 = mnew h15 (.inr (0, 4, .inl (fun _ => 0))) →
          ((∃ o : MV, gF h20 l0 2 2 = some o) ∧ ∀ h22 : MH, h22 = fset h20 l0 2 (.inr (some k20) : MV) →
            (((((cn + 1) + 1) + 1) ≤ 3 ∧ (((sn + 4) + 4) + 4) ≤ 12) ∧ Post h22))))))
set_option maxRecDepth 100000 in
set_option maxHeartbeats 4000000 in
theorem t_Mv_init {p : Program} {l : Launch} {e : Env} {R : Room} {s : State} {m : MethodId} {args : Array Value} {below : List Frame} {meth : Method} {c : Code} (G : mG) (C0 : Cx G p s m args c prog_4_method_1_code 1 "BassRealiser$Move") (hR : 1 ≤ R.frames ∧ 20 ≤ R.locals ∧ 3 ≤ R.cells ∧ 12 ≤ R.slots) (hr : meth.sig.returnType = none) (hlk : meth.locks = false) (hin : meth.name = "<init>") {Post : MH → Prop} (cn : Nat) (sn : Nat) (l0 : Nat) (h : MH) (hwp : wp_Mv_init Post cn sn l0 h) : WG p l e R s m args below meth c cn sn (MQ below (va_Qv Post (Wd G) (mA G)) args s 3 12 (mA G)) G 1 [(0, .ref (m_b G + l0))] 0 [] h := by
  unfold wp_Mv_init at hwp
  refine x_aload_n C0 0 d_Mv_init_0 rfl rfl ?_
  refine x_objInit C0 kw_1_150 kw_1_16 kw_1_17 d_Mv_init_1 ⟨Nat.le_trans (by decide) hR.1, Nat.le_trans (by decide) hR.2.1⟩ (Nat.le_of_ble_eq_true rfl) ?_
  refine x_aload_n C0 0 d_Mv_init_4 rfl rfl ?_
  refine x_iconst (v := 4) C0 d_Mv_init_5 (by decide) ?_
  obtain ⟨b6, hwp⟩ := hwp
  refine x_newai C0 4 kw_1_56 (by decide) (by decide) (by decide) ⟨Nat.le_trans b6.1 hR.2.2.1, Nat.le_trans b6.2 hR.2.2.2⟩ d_Mv_init_6 ?_
  refine x_nk (fun k6 ek6 => ?_)
  refine x_nh (fun h6 eh6 => ?_)
  replace hwp := hwp k6 h6 ek6 eh6
  obtain ⟨⟨o8, e8⟩, hwp⟩ := hwp
  refine x_putF (x := (.inr (some k6) : MV)) C0 pk_Mv_11 hin e8 rfl rfl d_Mv_init_8 ?_
  refine x_nh (fun h8 eh8 => ?_)
  replace hwp := hwp h8 eh8
  refine x_aload_n C0 0 d_Mv_init_11 rfl rfl ?_
  refine x_iconst (v := 4) C0 d_Mv_init_12 (by decide) ?_
  obtain ⟨b13, hwp⟩ := hwp
  refine x_newai C0 4 kw_1_56 (by decide) (by decide) (by decide) ⟨Nat.le_trans b13.1 hR.2.2.1, Nat.le_trans b13.2 hR.2.2.2⟩ d_Mv_init_13 ?_
  refine x_nk (fun k13 ek13 => ?_)
  refine x_nh (fun h13 eh13 => ?_)
  replace hwp := hwp k13 h13 ek13 eh13
  obtain ⟨⟨o15, e15⟩, hwp⟩ := hwp
  refine x_putF (x := (.inr (some k13) : MV)) C0 pk_Mv_15 hin e15 rfl rfl d_Mv_init_15 ?_
  refine x_nh (fun h15 eh15 => ?_)
  replace hwp := hwp h15 eh15
  refine x_aload_n C0 0 d_Mv_init_18 rfl rfl ?_
  refine x_iconst (v := 4) C0 d_Mv_init_19 (by decide) ?_
  obtain ⟨b20, hwp⟩ := hwp
  refine x_newai C0 4 kw_1_56 (by decide) (by decide) (by decide) ⟨Nat.le_trans b20.1 hR.2.2.1, Nat.le_trans b20.2 hR.2.2.2⟩ d_Mv_init_20 ?_
  refine x_nk (fun k20 ek20 => ?_)
  refine x_nh (fun h20 eh20 => ?_)
  replace hwp := hwp k20 h20 ek20 eh20
  obtain ⟨⟨o22, e22⟩, hwp⟩ := hwp
  refine x_putF (x := (.inr (some k20) : MV)) C0 pk_Mv_18 hin e22 rfl rfl d_Mv_init_22 ?_
  refine x_nh (fun h22 eh22 => ?_)
  replace hwp := hwp h22 eh22
  obtain ⟨bR, hwp⟩ := hwp
  refine x_cs bR.1 bR.2 ?_
  exact x_vret C0 hr hlk hwp d_Mv_init_25
set_option maxRecDepth 100000 in
set_option maxHeartbeats 4000000 in
theorem c_Mv_init (l : Launch) (G : mG) {Post : MH → Prop} {l0 : Nat} {h : MH} (hwp : wp_Mv_init Post 0 0 l0 h) : Met l y_Mv_init (Cond.code y_Mv_init prog_4_method_1_code 1 (Option.none : Option Jvm.ClassFile.FieldType) :: lw_good) ({ frames := 1, cells := 3, slots := 12, locals := 20 }) (va_Pc [.ref (m_b G + l0)] (Wd G h)) (va_Qv Post (Wd G) (mA G)) 3 12 (mA G) := by
  refine Met.ofW (cc := prog_4_method_1_code) (maxL := 1) (ret := (Option.none : Option Jvm.ClassFile.FieldType)) (by decide +kernel) rfl ?_
  intro p e s m args below meth c s₁ B hml hv
  obtain ⟨rfl, hP, hz, hK, hSt⟩ := hv
  have hts := atoms_spec (ws := Cond.code y_Mv_init prog_4_method_1_code 1 (Option.none : Option Jvm.ClassFile.FieldType) :: lw_good) B.pre
  have C0 : Cx G p s m ([.ref (m_b G + l0)] : List Value).toArray c prog_4_method_1_code 1 "BassRealiser$Move" := ⟨⟨B.exec, B.bytes, hml, findClass_of_methodNamed B.named, fun w h => hts w (List.mem_cons_of_mem _ h)⟩, hK, hSt, by rw [hz]; exact Nat.le_add_right _ _⟩
  have hl := lv_entry ([.ref (m_b G + l0)]) (n := 1) (Nat.le_of_ble_eq_true rfl)
  rw [lg_entry_eq]
  exact t_Mv_init G C0 ⟨Nat.le_refl _, Nat.le_refl _, Nat.le_refl _, Nat.le_refl _⟩ B.returns B.notSynchronized (name_of_methodNamed B.named B.method).1 _ _ _ _ hwp _ _ _ ⟨hP, hz, va_S.rf⟩ hl
def wb_Se_init_35 (K35 : Nat → Nat → Nat → Int32 → MH → Prop) (Post : MH → Prop) (cn : Nat) (sn : Nat) (l0 : Nat) (l1 : Int32) (h : MH) : Prop :=
  (((12 : Int32) ≤ l1) →
    ((cn + 1 ≤ 107 ∧ sn + 6 ≤ 5804) ∧ ∀ (k74 : Nat) (h74 : MH), k74 = h.1 → h74 = mnew h (.inl (2, [.inr none, .inr none, .inr none, .inl 0, .inl 0, .inl 0])) →
      (((cn + 1) + 3 ≤ 107 ∧ (sn + 6) + 12 ≤ 5804) ∧ wp_Mv_init (fun (h78 : MH) =>
          ((∃ o : MV, gF h78 l0 4 3 = some o) ∧ ∀ h81 : MH, h81 = fset h78 l0 3 (.inr (some k74) : MV) →
            ((((cn + 1) + 3) + 1 ≤ 107 ∧ ((sn + 6) + 12) + 12 ≤ 5804) ∧ ∀ (k87 : Nat) (h87 : MH), k87 = h81.1 → h87 = mnew h81 (.inr (0, 12, .inl (fun _ => 0))) →
              ((∃ o : MV, gF h87 l0 4 4 = some o) ∧ ∀ h89 : MH, h89 = fset h87 l0 4 (.inr (some k87) : MV) →
                ((∃ o : MV, gF h89 l0 4 5 = some o) ∧ ∀ h94 : MH, h94 = fset h89 l0 5 (.inl (-1 : Int32) : MV) →
                  (((((cn + 1) + 3) + 1) ≤ 107 ∧ (((sn + 6) + 12) + 12) ≤ 5804) ∧ Post h94)))))) 0 0 k74 h74))) ∧
  ((¬ (12 : Int32) ≤ l1) →
    (∃ x42 : Nat, gF h l0 4 0 = some (.inr (some x42)) ∧
      ((cn + 1 ≤ 107 ∧ sn + 11 ≤ 5804) ∧ ∀ (k46 : Nat) (h46 : MH), k46 = h.1 → h46 = mnew h (.inl (0, [.inl 0, .inl 0, .inl 0, .inl 0, .inr none, .inr none, .inl 0, .inl 0, .inl 0, .inl 0, .inl 0])) →
        (((cn + 1) + 2 ≤ 107 ∧ (sn + 11) + 13 ≤ 5804) ∧ wp_Ch_init (fun (h50 : MH) =>
            (∃ (n53 : Nat) (f53 : Nat → Option Nat), gR h50 x42 3 = some (n53, f53) ∧ vp_in l1 n53 ∧ gC h50 k46 = some 0 ∧ ∀ h53 : MH, h53 = mset h50 x42 (.inr (3, n53, .inr (.inr (va_up f53 (l1).toNatClampNeg (some k46))))) →
              (∃ x55 : Nat, gF h53 l0 4 2 = some (.inr (some x55)) ∧
                ((((cn + 1) + 2) + 1 ≤ 107 ∧ ((sn + 11) + 13) + 6 ≤ 5804) ∧ ∀ (k59 : Nat) (h59 : MH), k59 = h53.1 → h59 = mnew h53 (.inl (1, [.inr none, .inr none, .inr none, .inr none, .inl 0, .inl 0])) →
                  (((((cn + 1) + 2) + 1) + 4 ≤ 107 ∧ (((sn + 11) + 13) + 6) + 448 ≤ 5804) ∧ wp_Co_init (fun (h63 : MH) =>
                      (∃ (n66 : Nat) (f66 : Nat → Option Nat), gR h63 x55 4 = some (n66, f66) ∧ vp_in l1 n66 ∧ gC h63 k59 = some 1 ∧ ∀ h66 : MH, h66 = mset h63 x55 (.inr (4, n66, .inr (.inr (va_up f66 (l1).toNatClampNeg (some k59))))) →
                        (K35 ((((cn + 1) + 2) + 1) + 4) ((((sn + 11) + 13) + 6) + 448) l0 (l1 + (1 : Int32)) h66))) 0 0 k59 h59))))) 0 0 k46 h46))))
def wn_Se_init_35 (Post : MH → Prop) : Nat → Nat → Nat → Nat → Int32 → MH → Prop
  | 0 => fun _ _ _ _ _ => False
  | n + 1 => wb_Se_init_35 (wn_Se_init_35 Post n) Post
def wp_Se_init_35 (Post : MH → Prop) (cn : Nat) (sn : Nat) (l0 : Nat) (l1 : Int32) (h : MH) : Prop := ∃ n, wn_Se_init_35 Post n cn sn l0 l1 h
def wp_Se_init (Post : MH → Prop) (cn : Nat) (sn : Nat) (l0 : Nat) (h : MH) : Prop :=
  (cn + 1 ≤ 107 ∧ sn + 12 ≤ 5804) ∧ ∀ (k7 : Nat) (h7 : MH), k7 = h.1 → h7 = mnew h (.inr (3, 12, .inr (.inr (fun _ => none)))) →
  ((∃ o : MV, gF h7 l0 4 0 = some o) ∧ ∀ h10 : MH, h10 = fset h7 l0 0 (.inr (some k7) : MV) →
    (((cn + 1) + 1 ≤ 107 ∧ (sn + 12) + 5 ≤ 5804) ∧ ∀ (k14 : Nat) (h14 : MH), k14 = h10.1 → h14 = mnew h10 (.inl (3, [.inr none, .inr none, .inr none, .inl 0, .inl 0])) →
      ((((cn + 1) + 1) + 3 ≤ 107 ∧ ((sn + 12) + 5) + 9 ≤ 5804) ∧ wp_Ru_init (fun (h18 : MH) =>
          ((∃ o : MV, gF h18 l0 4 1 = some o) ∧ ∀ h21 : MH, h21 = fset h18 l0 1 (.inr (some k14) : MV) →
            (((((cn + 1) + 1) + 3) + 1 ≤ 107 ∧ (((sn + 12) + 5) + 9) + 12 ≤ 5804) ∧ ∀ (k27 : Nat) (h27 : MH), k27 = h21.1 → h27 = mnew h21 (.inr (4, 12, .inr (.inr (fun _ => none)))) →
              ((∃ o : MV, gF h27 l0 4 2 = some o) ∧ ∀ h30 : MH, h30 = fset h27 l0 2 (.inr (some k27) : MV) →
                (wp_Se_init_35 Post ((((cn + 1) + 1) + 3) + 1) ((((sn + 12) + 5) + 9) + 12) l0 (0 : Int32) h30))))) 0 0 k14 h14)))
set_option maxRecDepth 100000 in
set_option maxHeartbeats 4000000 in
theorem tb_Se_init_35 {p : Program} {l : Launch} {e : Env} {R : Room} {s : State} {m : MethodId} {args : Array Value} {below : List Frame} {meth : Method} {c : Code} (G : mG) (C0 : Cx G p s m args c prog_6_method_1_code 2 "BassRealiser$Search") (hR : 2 ≤ R.frames ∧ 40 ≤ R.locals ∧ 107 ≤ R.cells ∧ 5804 ≤ R.slots) (hr : meth.sig.returnType = none) (hlk : meth.locks = false) (hin : meth.name = "<init>") {Post : MH → Prop} {K35 : Nat → Nat → Nat → Int32 → MH → Prop} (hK35 : ∀ (cn : Nat) (sn : Nat) (l0 : Nat) (l1 : Int32) (h : MH), K35 cn sn l0 l1 h → WG p l e R s m args below meth c cn sn (MQ below (va_Qv Post (Wd G) (mA G)) args s 107 5804 (mA G)) G 2 [(0, .ref (m_b G + l0)), (1, .int l1)] 35 [] h) (cn : Nat) (sn : Nat) (l0 : Nat) (l1 : Int32) (h : MH) (hwp : wb_Se_init_35 K35 Post cn sn l0 l1 h) : WG p l e R s m args below meth c cn sn (MQ below (va_Qv Post (Wd G) (mA G)) args s 107 5804 (mA G)) G 2 [(0, .ref (m_b G + l0)), (1, .int l1)] 35 [] h := by
  unfold wb_Se_init_35 at hwp
  refine x_iload_n C0 1 d_Se_init_35 rfl rfl ?_
  refine x_bipush (v := 12) C0 d_Se_init_36 (by decide) ?_
  refine x_icmp_ge (tgt := 73) C0 d_Se_init_38 (by decide) (fun c38 => ?_) (fun c38 => ?_)
  · replace hwp := hwp.1 c38
    refine x_aload_n C0 0 d_Se_init_73 rfl rfl ?_
    obtain ⟨b74, hwp⟩ := hwp
    refine x_new C0 [.inr none, .inr none, .inr none, .inl 0, .inl 0, .inl 0] (ci := 2) rfl iw_2 tf_2 tf_2_ok kw_1_145 kw_1_146 kw_1_6 (by intro j hj; exact df_2 _ j hj) ⟨Nat.le_trans b74.1 hR.2.2.1, Nat.le_trans b74.2 hR.2.2.2⟩ d_Se_init_74 ?_
    refine x_nk (fun k74 ek74 => ?_)
    refine x_nh (fun h74 eh74 => ?_)
    replace hwp := hwp k74 h74 ek74 eh74
    refine x_dup C0 d_Se_init_77 rfl ?_
    obtain ⟨b78, hwp⟩ := hwp
    refine x_callI (k := k74) (As := []) (st := [.ref (m_b G + k74), .ref (m_b G + l0)]) C0 (c_Mv_init l G hwp) kw_1_147 mk_Mv_init ⟨rfl, kw_1_148⟩ rfl (Nat.le_of_ble_eq_true rfl) rfl rfl ⟨Nat.le_trans (by decide) hR.1, Nat.le_trans (by decide) hR.2.1⟩ ⟨Nat.le_trans b78.1 hR.2.2.1, Nat.le_trans b78.2 hR.2.2.2⟩ rfl d_Se_init_78 (fun h78 hwp => ?_)
    obtain ⟨⟨o81, e81⟩, hwp⟩ := hwp
    refine x_putF (x := (.inr (some k74) : MV)) C0 pk_Se_35 hin e81 rfl rfl d_Se_init_81 ?_
    refine x_nh (fun h81 eh81 => ?_)
    replace hwp := hwp h81 eh81
    refine x_aload_n C0 0 d_Se_init_84 rfl rfl ?_
    refine x_bipush (v := 12) C0 d_Se_init_85 (by decide) ?_
    obtain ⟨b87, hwp⟩ := hwp
    refine x_newai C0 12 kw_1_56 (by decide) (by decide) (by decide) ⟨Nat.le_trans b87.1 hR.2.2.1, Nat.le_trans b87.2 hR.2.2.2⟩ d_Se_init_87 ?_
    refine x_nk (fun k87 ek87 => ?_)
    refine x_nh (fun h87 eh87 => ?_)
    replace hwp := hwp k87 h87 ek87 eh87
    obtain ⟨⟨o89, e89⟩, hwp⟩ := hwp
    refine x_putF (x := (.inr (some k87) : MV)) C0 pk_Se_39 hin e89 rfl rfl d_Se_init_89 ?_
    refine x_nh (fun h89 eh89 => ?_)
    replace hwp := hwp h89 eh89
    refine x_aload_n C0 0 d_Se_init_92 rfl rfl ?_
    refine x_iconst (v := -1) C0 d_Se_init_93 (by decide) ?_
    obtain ⟨⟨o94, e94⟩, hwp⟩ := hwp
    refine x_put (x := (.inl (-1 : Int32) : MV)) C0 pk_Se_43 e94 rfl rfl d_Se_init_94 ?_
    refine x_nh (fun h94 eh94 => ?_)
    replace hwp := hwp h94 eh94
    obtain ⟨bR, hwp⟩ := hwp
    refine x_cs bR.1 bR.2 ?_
    exact x_vret C0 hr hlk hwp d_Se_init_97
  · replace hwp := hwp.2 c38
    refine x_aload_n C0 0 d_Se_init_41 rfl rfl ?_
    obtain ⟨x42, e42, hwp⟩ := hwp
    refine x_getR C0 fk_Se_11 e42 d_Se_init_42 ?_
    refine x_iload_n C0 1 d_Se_init_45 rfl rfl ?_
    obtain ⟨b46, hwp⟩ := hwp
    refine x_new C0 [.inl 0, .inl 0, .inl 0, .inl 0, .inr none, .inr none, .inl 0, .inl 0, .inl 0, .inl 0, .inl 0] (ci := 0) rfl iw_0 tf_0 tf_0_ok kw_1_24 kw_1_59 kw_1_4 (by intro j hj; exact df_0 _ j hj) ⟨Nat.le_trans b46.1 hR.2.2.1, Nat.le_trans b46.2 hR.2.2.2⟩ d_Se_init_46 ?_
    refine x_nk (fun k46 ek46 => ?_)
    refine x_nh (fun h46 eh46 => ?_)
    replace hwp := hwp k46 h46 ek46 eh46
    refine x_dup C0 d_Se_init_49 rfl ?_
    obtain ⟨b50, hwp⟩ := hwp
    refine x_callI (k := k46) (As := []) (st := [.ref (m_b G + k46), .int l1, .ref (m_b G + x42)]) C0 (c_Ch_init l G hwp) kw_1_60 mk_Ch_init ⟨rfl, kw_1_61⟩ rfl (Nat.le_of_ble_eq_true rfl) rfl rfl ⟨Nat.le_trans (by decide) hR.1, Nat.le_trans (by decide) hR.2.1⟩ ⟨Nat.le_trans b50.1 hR.2.2.1, Nat.le_trans b50.2 hR.2.2.2⟩ rfl d_Se_init_50 (fun h50 hwp => ?_)
    obtain ⟨n53, f53, e53, i53, g53, hwp⟩ := hwp
    refine x_aast (t := 3) (ci := 0) C0 e53 rfl rfl i53 g53 d_Se_init_53 ?_
    refine x_nh (fun h53 eh53 => ?_)
    replace hwp := hwp h53 eh53
    refine x_aload_n C0 0 d_Se_init_54 rfl rfl ?_
    obtain ⟨x55, e55, hwp⟩ := hwp
    refine x_getR C0 fk_Se_26 e55 d_Se_init_55 ?_
    refine x_iload_n C0 1 d_Se_init_58 rfl rfl ?_
    obtain ⟨b59, hwp⟩ := hwp
    refine x_new C0 [.inr none, .inr none, .inr none, .inr none, .inl 0, .inl 0] (ci := 1) rfl iw_1 tf_1 tf_1_ok kw_1_57 kw_1_112 kw_1_5 (by intro j hj; exact df_1 _ j hj) ⟨Nat.le_trans b59.1 hR.2.2.1, Nat.le_trans b59.2 hR.2.2.2⟩ d_Se_init_59 ?_
    refine x_nk (fun k59 ek59 => ?_)
    refine x_nh (fun h59 eh59 => ?_)
    replace hwp := hwp k59 h59 ek59 eh59
    refine x_dup C0 d_Se_init_62 rfl ?_
    obtain ⟨b63, hwp⟩ := hwp
    refine x_callI (k := k59) (As := []) (st := [.ref (m_b G + k59), .int l1, .ref (m_b G + x55)]) C0 (c_Co_init l G hwp) kw_1_113 mk_Co_init ⟨rfl, kw_1_114⟩ rfl (Nat.le_of_ble_eq_true rfl) rfl rfl ⟨Nat.le_trans (by decide) hR.1, Nat.le_trans (by decide) hR.2.1⟩ ⟨Nat.le_trans b63.1 hR.2.2.1, Nat.le_trans b63.2 hR.2.2.2⟩ rfl d_Se_init_63 (fun h63 hwp => ?_)
    obtain ⟨n66, f66, e66, i66, g66, hwp⟩ := hwp
    refine x_aast (t := 4) (ci := 1) C0 e66 rfl rfl i66 g66 d_Se_init_66 ?_
    refine x_nh (fun h66 eh66 => ?_)
    replace hwp := hwp h66 eh66
    refine x_iinc C0 1 d_Se_init_67 rfl rfl (by decide) (lv' := [(1, .int (l1 + (1 : Int32))), (0, .ref (m_b G + l0))]) rfl ?_
    refine x_goto (tgt := 35) C0 d_Se_init_70 (by decide) ?_
    exact x_sub [1, 0] rfl (hK35 _ _ _ _ _ hwp)
theorem t_Se_init_35 {p : Program} {l : Launch} {e : Env} {R : Room} {s : State} {m : MethodId} {args : Array Value} {below : List Frame} {meth : Method} {c : Code} (G : mG) (C0 : Cx G p s m args c prog_6_method_1_code 2 "BassRealiser$Search") (hR : 2 ≤ R.frames ∧ 40 ≤ R.locals ∧ 107 ≤ R.cells ∧ 5804 ≤ R.slots) (hr : meth.sig.returnType = none) (hlk : meth.locks = false) (hin : meth.name = "<init>") {Post : MH → Prop} (cn : Nat) (sn : Nat) (l0 : Nat) (l1 : Int32) (h : MH) (hwp : wp_Se_init_35 Post cn sn l0 l1 h) : WG p l e R s m args below meth c cn sn (MQ below (va_Qv Post (Wd G) (mA G)) args s 107 5804 (mA G)) G 2 [(0, .ref (m_b G + l0)), (1, .int l1)] 35 [] h := by
  obtain ⟨n, hwp⟩ := hwp
  induction n generalizing cn sn l0 l1 h with
  | zero => exact False.elim hwp
  | succ n ih => exact tb_Se_init_35 G C0 hR hr hlk hin (fun cn sn l0 l1 h hwp => ih cn sn l0 l1 h hwp) cn sn l0 l1 h hwp
set_option maxRecDepth 100000 in
set_option maxHeartbeats 4000000 in
theorem t_Se_init {p : Program} {l : Launch} {e : Env} {R : Room} {s : State} {m : MethodId} {args : Array Value} {below : List Frame} {meth : Method} {c : Code} (G : mG) (C0 : Cx G p s m args c prog_6_method_1_code 2 "BassRealiser$Search") (hR : 2 ≤ R.frames ∧ 40 ≤ R.locals ∧ 107 ≤ R.cells ∧ 5804 ≤ R.slots) (hr : meth.sig.returnType = none) (hlk : meth.locks = false) (hin : meth.name = "<init>") {Post : MH → Prop} (cn : Nat) (sn : Nat) (l0 : Nat) (h : MH) (hwp : wp_Se_init Post cn sn l0 h) : WG p l e R s m args below meth c cn sn (MQ below (va_Qv Post (Wd G) (mA G)) args s 107 5804 (mA G)) G 2 [(0, .ref (m_b G + l0))] 0 [] h := by
  unfold wp_Se_init at hwp
  refine x_aload_n C0 0 d_Se_init_0 rfl rfl ?_
  refine x_objInit C0 kw_1_23 kw_1_16 kw_1_17 d_Se_init_1 ⟨Nat.le_trans (by decide) hR.1, Nat.le_trans (by decide) hR.2.1⟩ (Nat.le_of_ble_eq_true rfl) ?_
  refine x_aload_n C0 0 d_Se_init_4 rfl rfl ?_
  refine x_bipush (v := 12) C0 d_Se_init_5 (by decide) ?_
  obtain ⟨b7, hwp⟩ := hwp
  refine x_newq (t := 3) C0 12 rfl kw_1_24 (m_ao0 C0) (by decide) (by decide) (by decide) ⟨Nat.le_trans b7.1 hR.2.2.1, Nat.le_trans b7.2 hR.2.2.2⟩ d_Se_init_7 ?_
  refine x_nk (fun k7 ek7 => ?_)
  refine x_nh (fun h7 eh7 => ?_)
  replace hwp := hwp k7 h7 ek7 eh7
  obtain ⟨⟨o10, e10⟩, hwp⟩ := hwp
  refine x_putF (x := (.inr (some k7) : MV)) C0 pk_Se_11 hin e10 rfl rfl d_Se_init_10 ?_
  refine x_nh (fun h10 eh10 => ?_)
  replace hwp := hwp h10 eh10
  refine x_aload_n C0 0 d_Se_init_13 rfl rfl ?_
  obtain ⟨b14, hwp⟩ := hwp
  refine x_new C0 [.inr none, .inr none, .inr none, .inl 0, .inl 0] (ci := 3) rfl iw_3 tf_3 tf_3_ok kw_1_26 kw_1_27 kw_1_3 (by intro j hj; exact df_3 _ j hj) ⟨Nat.le_trans b14.1 hR.2.2.1, Nat.le_trans b14.2 hR.2.2.2⟩ d_Se_init_14 ?_
  refine x_nk (fun k14 ek14 => ?_)
  refine x_nh (fun h14 eh14 => ?_)
  replace hwp := hwp k14 h14 ek14 eh14
  refine x_dup C0 d_Se_init_17 rfl ?_
  obtain ⟨b18, hwp⟩ := hwp
  refine x_callI (k := k14) (As := []) (st := [.ref (m_b G + k14), .ref (m_b G + l0)]) C0 (c_Ru_init l G hwp) kw_1_28 mk_Ru_init ⟨rfl, kw_1_29⟩ rfl (Nat.le_of_ble_eq_true rfl) rfl rfl ⟨Nat.le_trans (by decide) hR.1, Nat.le_trans (by decide) hR.2.1⟩ ⟨Nat.le_trans b18.1 hR.2.2.1, Nat.le_trans b18.2 hR.2.2.2⟩ rfl d_Se_init_18 (fun h18 hwp => ?_)
  obtain ⟨⟨o21, e21⟩, hwp⟩ := hwp
  refine x_putF (x := (.inr (some k14) : MV)) C0 pk_Se_20 hin e21 rfl rfl d_Se_init_21 ?_
  refine x_nh (fun h21 eh21 => ?_)
  replace hwp := hwp h21 eh21
  refine x_aload_n C0 0 d_Se_init_24 rfl rfl ?_
  refine x_bipush (v := 12) C0 d_Se_init_25 (by decide) ?_
  obtain ⟨b27, hwp⟩ := hwp
  refine x_newq (t := 4) C0 12 rfl kw_1_57 (m_ao1 C0) (by decide) (by decide) (by decide) ⟨Nat.le_trans b27.1 hR.2.2.1, Nat.le_trans b27.2 hR.2.2.2⟩ d_Se_init_27 ?_
  refine x_nk (fun k27 ek27 => ?_)
  refine x_nh (fun h27 eh27 => ?_)
  replace hwp := hwp k27 h27 ek27 eh27
  obtain ⟨⟨o30, e30⟩, hwp⟩ := hwp
  refine x_putF (x := (.inr (some k27) : MV)) C0 pk_Se_26 hin e30 rfl rfl d_Se_init_30 ?_
  refine x_nh (fun h30 eh30 => ?_)
  replace hwp := hwp h30 eh30
  refine x_iconst (v := 0) C0 d_Se_init_33 (by decide) ?_
  refine x_istore_n C0 d_Se_init_34 rfl (by decide) (lv' := [(1, .int (0 : Int32)), (0, .ref (m_b G + l0))]) rfl ?_
  exact x_sub [1, 0] rfl (t_Se_init_35 G C0 hR hr hlk hin  _ _ _ _ _ hwp)
set_option maxRecDepth 100000 in
set_option maxHeartbeats 4000000 in
theorem c_Se_init (l : Launch) (G : mG) {Post : MH → Prop} {l0 : Nat} {h : MH} (hwp : wp_Se_init Post 0 0 l0 h) : Met l y_Se_init (Cond.code y_Se_init prog_6_method_1_code 2 (Option.none : Option Jvm.ClassFile.FieldType) :: lw_good) ({ frames := 2, cells := 107, slots := 5804, locals := 40 }) (va_Pc [.ref (m_b G + l0)] (Wd G h)) (va_Qv Post (Wd G) (mA G)) 107 5804 (mA G) := by
  refine Met.ofW (cc := prog_6_method_1_code) (maxL := 2) (ret := (Option.none : Option Jvm.ClassFile.FieldType)) (by decide +kernel) rfl ?_
  intro p e s m args below meth c s₁ B hml hv
  obtain ⟨rfl, hP, hz, hK, hSt⟩ := hv
  have hts := atoms_spec (ws := Cond.code y_Se_init prog_6_method_1_code 2 (Option.none : Option Jvm.ClassFile.FieldType) :: lw_good) B.pre
  have C0 : Cx G p s m ([.ref (m_b G + l0)] : List Value).toArray c prog_6_method_1_code 2 "BassRealiser$Search" := ⟨⟨B.exec, B.bytes, hml, findClass_of_methodNamed B.named, fun w h => hts w (List.mem_cons_of_mem _ h)⟩, hK, hSt, by rw [hz]; exact Nat.le_add_right _ _⟩
  have hl := lv_entry ([.ref (m_b G + l0)]) (n := 2) (Nat.le_of_ble_eq_true rfl)
  rw [lg_entry_eq]
  exact t_Se_init G C0 ⟨Nat.le_refl _, Nat.le_refl _, Nat.le_refl _, Nat.le_refl _⟩ B.returns B.notSynchronized (name_of_methodNamed B.named B.method).1 _ _ _ _ hwp _ _ _ ⟨hP, hz, va_S.rf⟩ hl
def wp_Br_init (Post : MH → Prop) (cn : Nat) (sn : Nat) (l0 : Nat) (h : MH) : Prop :=
  (cn + 1 ≤ 112 ∧ sn + 9 ≤ 5831) ∧ ∀ (k5 : Nat) (h5 : MH), k5 = h.1 → h5 = mnew h (.inl (4, [.inr none, .inr none, .inr none, .inr none, .inr none, .inl 0, .inl 0, .inl 0, .inl 0])) →
  (((cn + 1) + 107 ≤ 112 ∧ (sn + 9) + 5804 ≤ 5831) ∧ wp_Se_init (fun (h9 : MH) =>
      ((∃ o : MV, gF h9 l0 5 0 = some o) ∧ ∀ h12 : MH, h12 = fset h9 l0 0 (.inr (some k5) : MV) →
        (∃ x17 : Nat, gF h12 l0 5 0 = some (.inr (some x17)) ∧
          (∃ x20 : Nat, gF h12 x17 4 0 = some (.inr (some x20)) ∧
            ((∃ o : MV, gF h12 l0 5 1 = some o) ∧ ∀ h23 : MH, h23 = fset h12 l0 1 (.inr (some x20) : MV) →
              (∃ x28 : Nat, gF h23 l0 5 0 = some (.inr (some x28)) ∧
                (∃ x31 : Nat, gF h23 x28 4 1 = some (.inr (some x31)) ∧
                  ((∃ o : MV, gF h23 l0 5 2 = some o) ∧ ∀ h34 : MH, h34 = fset h23 l0 2 (.inr (some x31) : MV) →
                    ((((cn + 1) + 107) + 1 ≤ 112 ∧ ((sn + 9) + 5804) + 6 ≤ 5831) ∧ ∀ (k38 : Nat) (h38 : MH), k38 = h34.1 → h38 = mnew h34 (.inl (2, [.inr none, .inr none, .inr none, .inl 0, .inl 0, .inl 0])) →
                      (((((cn + 1) + 107) + 1) + 3 ≤ 112 ∧ (((sn + 9) + 5804) + 6) + 12 ≤ 5831) ∧ wp_Mv_init (fun (h42 : MH) =>
                        ((∃ o : MV, gF h42 l0 5 3 = some o) ∧ ∀ h45 : MH, h45 = fset h42 l0 3 (.inr (some k38) : MV) →
                        ((∃ o : MV, gF h45 l0 5 4 = some o) ∧ ∀ h50 : MH, h50 = fset h45 l0 4 (.inl (0 : Int32) : MV) →
                        ((((((cn + 1) + 107) + 1) + 3) ≤ 112 ∧ ((((sn + 9) + 5804) + 6) + 12) ≤ 5831) ∧ Post h50)))) 0 0 k38 h38)))))))))) 0 0 k5 h5)
set_option maxRecDepth 100000 in
set_option maxHeartbeats 4000000 in
theorem t_Br_init {p : Program} {l : Launch} {e : Env} {R : Room} {s : State} {m : MethodId} {args : Array Value} {below : List Frame} {meth : Method} {c : Code} (G : mG) (C0 : Cx G p s m args c prog_1_method_1_code 1 "BassRealiser") (hR : 3 ≤ R.frames ∧ 61 ≤ R.locals ∧ 112 ≤ R.cells ∧ 5831 ≤ R.slots) (hr : meth.sig.returnType = none) (hlk : meth.locks = false) (hin : meth.name = "<init>") {Post : MH → Prop} (cn : Nat) (sn : Nat) (l0 : Nat) (h : MH) (hwp : wp_Br_init Post cn sn l0 h) : WG p l e R s m args below meth c cn sn (MQ below (va_Qv Post (Wd G) (mA G)) args s 112 5831 (mA G)) G 1 [(0, .ref (m_b G + l0))] 0 [] h := by
  unfold wp_Br_init at hwp
  refine x_aload_n C0 0 d_Br_init_0 rfl rfl ?_
  refine x_objInit C0 kw_1_15 kw_1_16 kw_1_17 d_Br_init_1 ⟨Nat.le_trans (by decide) hR.1, Nat.le_trans (by decide) hR.2.1⟩ (Nat.le_of_ble_eq_true rfl) ?_
  refine x_aload_n C0 0 d_Br_init_4 rfl rfl ?_
  obtain ⟨b5, hwp⟩ := hwp
  refine x_new C0 [.inr none, .inr none, .inr none, .inr none, .inr none, .inl 0, .inl 0, .inl 0, .inl 0] (ci := 4) rfl iw_4 tf_4 tf_4_ok kw_1_18 kw_1_19 kw_1_2 (by intro j hj; exact df_4 _ j hj) ⟨Nat.le_trans b5.1 hR.2.2.1, Nat.le_trans b5.2 hR.2.2.2⟩ d_Br_init_5 ?_
  refine x_nk (fun k5 ek5 => ?_)
  refine x_nh (fun h5 eh5 => ?_)
  replace hwp := hwp k5 h5 ek5 eh5
  refine x_dup C0 d_Br_init_8 rfl ?_
  obtain ⟨b9, hwp⟩ := hwp
  refine x_callI (k := k5) (As := []) (st := [.ref (m_b G + k5), .ref (m_b G + l0)]) C0 (c_Se_init l G hwp) kw_1_20 mk_Se_init ⟨rfl, kw_1_21⟩ rfl (Nat.le_of_ble_eq_true rfl) rfl rfl ⟨Nat.le_trans (by decide) hR.1, Nat.le_trans (by decide) hR.2.1⟩ ⟨Nat.le_trans b9.1 hR.2.2.1, Nat.le_trans b9.2 hR.2.2.2⟩ rfl d_Br_init_9 (fun h9 hwp => ?_)
  obtain ⟨⟨o12, e12⟩, hwp⟩ := hwp
  refine x_putF (x := (.inr (some k5) : MV)) C0 pk_Br_10 hin e12 rfl rfl d_Br_init_12 ?_
  refine x_nh (fun h12 eh12 => ?_)
  replace hwp := hwp h12 eh12
  refine x_aload_n C0 0 d_Br_init_15 rfl rfl ?_
  refine x_aload_n C0 0 d_Br_init_16 rfl rfl ?_
  obtain ⟨x17, e17, hwp⟩ := hwp
  refine x_getR C0 fk_Br_10 e17 d_Br_init_17 ?_
  obtain ⟨x20, e20, hwp⟩ := hwp
  refine x_getR C0 fk_Br_16 e20 d_Br_init_20 ?_
  obtain ⟨⟨o23, e23⟩, hwp⟩ := hwp
  refine x_putF (x := (.inr (some x20) : MV)) C0 pk_Br_20 hin e23 rfl rfl d_Br_init_23 ?_
  refine x_nh (fun h23 eh23 => ?_)
  replace hwp := hwp h23 eh23
  refine x_aload_n C0 0 d_Br_init_26 rfl rfl ?_
  refine x_aload_n C0 0 d_Br_init_27 rfl rfl ?_
  obtain ⟨x28, e28, hwp⟩ := hwp
  refine x_getR C0 fk_Br_10 e28 d_Br_init_28 ?_
  obtain ⟨x31, e31, hwp⟩ := hwp
  refine x_getR C0 fk_Br_21 e31 d_Br_init_31 ?_
  obtain ⟨⟨o34, e34⟩, hwp⟩ := hwp
  refine x_putF (x := (.inr (some x31) : MV)) C0 pk_Br_25 hin e34 rfl rfl d_Br_init_34 ?_
  refine x_nh (fun h34 eh34 => ?_)
  replace hwp := hwp h34 eh34
  refine x_aload_n C0 0 d_Br_init_37 rfl rfl ?_
  obtain ⟨b38, hwp⟩ := hwp
  refine x_new C0 [.inr none, .inr none, .inr none, .inl 0, .inl 0, .inl 0] (ci := 2) rfl iw_2 tf_2 tf_2_ok kw_1_204 kw_1_146 kw_1_6 (by intro j hj; exact df_2 _ j hj) ⟨Nat.le_trans b38.1 hR.2.2.1, Nat.le_trans b38.2 hR.2.2.2⟩ d_Br_init_38 ?_
  refine x_nk (fun k38 ek38 => ?_)
  refine x_nh (fun h38 eh38 => ?_)
  replace hwp := hwp k38 h38 ek38 eh38
  refine x_dup C0 d_Br_init_41 rfl ?_
  obtain ⟨b42, hwp⟩ := hwp
  refine x_callI (k := k38) (As := []) (st := [.ref (m_b G + k38), .ref (m_b G + l0)]) C0 (c_Mv_init l G hwp) kw_1_205 mk_Mv_init ⟨rfl, kw_1_148⟩ rfl (Nat.le_of_ble_eq_true rfl) rfl rfl ⟨Nat.le_trans (by decide) hR.1, Nat.le_trans (by decide) hR.2.1⟩ ⟨Nat.le_trans b42.1 hR.2.2.1, Nat.le_trans b42.2 hR.2.2.2⟩ rfl d_Br_init_42 (fun h42 hwp => ?_)
  obtain ⟨⟨o45, e45⟩, hwp⟩ := hwp
  refine x_putF (x := (.inr (some k38) : MV)) C0 pk_Br_29 hin e45 rfl rfl d_Br_init_45 ?_
  refine x_nh (fun h45 eh45 => ?_)
  replace hwp := hwp h45 eh45
  refine x_aload_n C0 0 d_Br_init_48 rfl rfl ?_
  refine x_iconst (v := 0) C0 d_Br_init_49 (by decide) ?_
  obtain ⟨⟨o50, e50⟩, hwp⟩ := hwp
  refine x_put (x := (.inl (0 : Int32) : MV)) C0 pk_Br_33 e50 rfl rfl d_Br_init_50 ?_
  refine x_nh (fun h50 eh50 => ?_)
  replace hwp := hwp h50 eh50
  obtain ⟨bR, hwp⟩ := hwp
  refine x_cs bR.1 bR.2 ?_
  exact x_vret C0 hr hlk hwp d_Br_init_53
set_option maxRecDepth 100000 in
set_option maxHeartbeats 4000000 in
theorem c_Br_init (l : Launch) (G : mG) {Post : MH → Prop} {l0 : Nat} {h : MH} (hwp : wp_Br_init Post 0 0 l0 h) : Met l y_Br_init (Cond.code y_Br_init prog_1_method_1_code 1 (Option.none : Option Jvm.ClassFile.FieldType) :: lw_good) ({ frames := 3, cells := 112, slots := 5831, locals := 61 }) (va_Pc [.ref (m_b G + l0)] (Wd G h)) (va_Qv Post (Wd G) (mA G)) 112 5831 (mA G) := by
  refine Met.ofW (cc := prog_1_method_1_code) (maxL := 1) (ret := (Option.none : Option Jvm.ClassFile.FieldType)) (by decide +kernel) rfl ?_
  intro p e s m args below meth c s₁ B hml hv
  obtain ⟨rfl, hP, hz, hK, hSt⟩ := hv
  have hts := atoms_spec (ws := Cond.code y_Br_init prog_1_method_1_code 1 (Option.none : Option Jvm.ClassFile.FieldType) :: lw_good) B.pre
  have C0 : Cx G p s m ([.ref (m_b G + l0)] : List Value).toArray c prog_1_method_1_code 1 "BassRealiser" := ⟨⟨B.exec, B.bytes, hml, findClass_of_methodNamed B.named, fun w h => hts w (List.mem_cons_of_mem _ h)⟩, hK, hSt, by rw [hz]; exact Nat.le_add_right _ _⟩
  have hl := lv_entry ([.ref (m_b G + l0)]) (n := 1) (Nat.le_of_ble_eq_true rfl)
  rw [lg_entry_eq]
  exact t_Br_init G C0 ⟨Nat.le_refl _, Nat.le_refl _, Nat.le_refl _, Nat.le_refl _⟩ B.returns B.notSynchronized (name_of_methodNamed B.named B.method).1 _ _ _ _ hwp _ _ _ ⟨hP, hz, va_S.rf⟩ hl
def wp_Rm_init_259 (K174 : Nat → Nat → Nat → Int32 → MH → Prop) (Post : MH → Prop) (cn : Nat) (sn : Nat) (l0 : Nat) (l1 : Int32) (y0 : Nat) (y1 : Int32) (y2 : Int32) (h : MH) : Prop :=
  ∃ (n259 : Nat) (f259 : Nat → Int32), gA h y0 0 = some (n259, f259) ∧ vp_in y1 n259 ∧ ∀ h259 : MH, h259 = mset h y0 (.inr (0, n259, .inl (upd f259 (y1).toNatClampNeg y2))) →
  (K174 cn sn l0 (l1 + (1 : Int32)) h259)
def wp_Rm_init_232 (K174 : Nat → Nat → Nat → Int32 → MH → Prop) (Post : MH → Prop) (cn : Nat) (sn : Nat) (l0 : Nat) (l1 : Int32) (y0 : Nat) (y1 : Int32) (y2 : Int32) (h : MH) : Prop :=
  ∃ (n232 : Nat) (f232 : Nat → Int32), gA h y0 0 = some (n232, f232) ∧ vp_in y1 n232 ∧ ∀ h232 : MH, h232 = mset h y0 (.inr (0, n232, .inl (upd f232 (y1).toNatClampNeg y2))) →
  (∃ x234 : Nat, gF h232 l0 6 9 = some (.inr (some x234)) ∧
    (((¬ l1 = 0) →
        (((¬ l1 = (1 : Int32)) →
            (wp_Rm_init_259 K174 Post cn sn l0 l1 x234 l1 (60 : Int32) h232)) ∧
          ((l1 = (1 : Int32)) →
            (wp_Rm_init_259 K174 Post cn sn l0 l1 x234 l1 (67 : Int32) h232)))) ∧
      ((l1 = 0) →
        (wp_Rm_init_259 K174 Post cn sn l0 l1 x234 l1 (72 : Int32) h232))))
def wp_Rm_init_205 (K174 : Nat → Nat → Nat → Int32 → MH → Prop) (Post : MH → Prop) (cn : Nat) (sn : Nat) (l0 : Nat) (l1 : Int32) (y0 : Nat) (y1 : Int32) (y2 : Int32) (h : MH) : Prop :=
  ∃ (n205 : Nat) (f205 : Nat → Int32), gA h y0 0 = some (n205, f205) ∧ vp_in y1 n205 ∧ ∀ h205 : MH, h205 = mset h y0 (.inr (0, n205, .inl (upd f205 (y1).toNatClampNeg y2))) →
  (∃ x207 : Nat, gF h205 l0 6 8 = some (.inr (some x207)) ∧
    (((¬ l1 = 0) →
        (((¬ l1 = (1 : Int32)) →
            (wp_Rm_init_232 K174 Post cn sn l0 l1 x207 l1 (69 : Int32) h205)) ∧
          ((l1 = (1 : Int32)) →
            (wp_Rm_init_232 K174 Post cn sn l0 l1 x207 l1 (74 : Int32) h205)))) ∧
      ((l1 = 0) →
        (wp_Rm_init_232 K174 Post cn sn l0 l1 x207 l1 (81 : Int32) h205))))
def wb_Rm_init_174 (K174 : Nat → Nat → Nat → Int32 → MH → Prop) (Post : MH → Prop) (cn : Nat) (sn : Nat) (l0 : Nat) (l1 : Int32) (h : MH) : Prop :=
  (((3 : Int32) ≤ l1) →
    ((cn ≤ 20 ∧ sn ≤ 48309) ∧ Post h)) ∧
  ((¬ (3 : Int32) ≤ l1) →
    (∃ x180 : Nat, gF h l0 6 7 = some (.inr (some x180)) ∧
      (((¬ l1 = 0) →
          (((¬ l1 = (1 : Int32)) →
              (wp_Rm_init_205 K174 Post cn sn l0 l1 x180 l1 (48 : Int32) h)) ∧
            ((l1 = (1 : Int32)) →
              (wp_Rm_init_205 K174 Post cn sn l0 l1 x180 l1 (55 : Int32) h)))) ∧
        ((l1 = 0) →
          (wp_Rm_init_205 K174 Post cn sn l0 l1 x180 l1 (60 : Int32) h)))))
def wn_Rm_init_174 (Post : MH → Prop) : Nat → Nat → Nat → Nat → Int32 → MH → Prop
  | 0 => fun _ _ _ _ _ => False
  | n + 1 => wb_Rm_init_174 (wn_Rm_init_174 Post n) Post
def wp_Rm_init_174 (Post : MH → Prop) (cn : Nat) (sn : Nat) (l0 : Nat) (l1 : Int32) (h : MH) : Prop := ∃ n, wn_Rm_init_174 Post n cn sn l0 l1 h
def wp_Rm_init (Post : MH → Prop) (cn : Nat) (sn : Nat) (l0 : Nat) (h : MH) : Prop :=
  (cn + 1 ≤ 20 ∧ sn + 12 ≤ 48309) ∧ ∀ (k7 : Nat) (h7 : MH), k7 = h.1 → h7 = mnew h (.inr (0, 12, .inl (fun _ => 0))) →
  ((∃ o : MV, gF h7 l0 6 3 = some o) ∧ ∀ h9 : MH, h9 = fset h7 l0 3 (.inr (some k7) : MV) →
    (((cn + 1) + 1 ≤ 20 ∧ (sn + 12) + 12 ≤ 48309) ∧ ∀ (k15 : Nat) (h15 : MH), k15 = h9.1 → h15 = mnew h9 (.inr (0, 12, .inl (fun _ => 0))) →
      ((∃ o : MV, gF h15 l0 6 4 = some o) ∧ ∀ h17 : MH, h17 = fset h15 l0 4 (.inr (some k15) : MV) →
        ((((cn + 1) + 1) + 1 ≤ 20 ∧ ((sn + 12) + 12) + 12 ≤ 48309) ∧ ∀ (k23 : Nat) (h23 : MH), k23 = h17.1 → h23 = mnew h17 (.inr (0, 12, .inl (fun _ => 0))) →
          ((∃ o : MV, gF h23 l0 6 5 = some o) ∧ ∀ h25 : MH, h25 = fset h23 l0 5 (.inr (some k23) : MV) →
            (((((cn + 1) + 1) + 1) + 1 ≤ 20 ∧ (((sn + 12) + 12) + 12) + 120 ≤ 48309) ∧ ∀ (k31 : Nat) (h31 : MH), k31 = h25.1 → h31 = mnew h25 (.inr (0, 120, .inl (fun _ => 0))) →
              ((∃ o : MV, gF h31 l0 6 6 = some o) ∧ ∀ h33 : MH, h33 = fset h31 l0 6 (.inr (some k31) : MV) →
                ((((((cn + 1) + 1) + 1) + 1) + 1 ≤ 20 ∧ ((((sn + 12) + 12) + 12) + 120) + 3 ≤ 48309) ∧ ∀ (k38 : Nat) (h38 : MH), k38 = h33.1 → h38 = mnew h33 (.inr (0, 3, .inl (fun _ => 0))) →
                  ((∃ o : MV, gF h38 l0 6 7 = some o) ∧ ∀ h40 : MH, h40 = fset h38 l0 7 (.inr (some k38) : MV) →
                    (((((((cn + 1) + 1) + 1) + 1) + 1) + 1 ≤ 20 ∧ (((((sn + 12) + 12) + 12) + 120) + 3) + 3 ≤ 48309) ∧ ∀ (k45 : Nat) (h45 : MH), k45 = h40.1 → h45 = mnew h40 (.inr (0, 3, .inl (fun _ => 0))) →
                      ((∃ o : MV, gF h45 l0 6 8 = some o) ∧ ∀ h47 : MH, h47 = fset h45 l0 8 (.inr (some k45) : MV) →
                        ((((((((cn + 1) + 1) + 1) + 1) + 1) + 1) + 1 ≤ 20 ∧ ((((((sn + 12) + 12) + 12) + 120) + 3) + 3) + 3 ≤ 48309) ∧ ∀ (k52 : Nat) (h52 : MH), k52 = h47.1 → h52 = mnew h47 (.inr (0, 3, .inl (fun _ => 0))) →
                        ((∃ o : MV, gF h52 l0 6 9 = some o) ∧ ∀ h54 : MH, h54 = fset h52 l0 9 (.inr (some k52) : MV) →
                        ((∃ o : MV, gF h54 l0 6 10 = some o) ∧ ∀ h60 : MH, h60 = fset h54 l0 10 (.inl (12 : Int32) : MV) →
                        (((((((((cn + 1) + 1) + 1) + 1) + 1) + 1) + 1) + 1 ≤ 20 ∧ (((((((sn + 12) + 12) + 12) + 120) + 3) + 3) + 3) + 36 ≤ 48309) ∧ ∀ (k66 : Nat) (h66 : MH), k66 = h60.1 → h66 = mnew h60 (.inr (0, 36, .inl (fun _ => 0))) →
                        ((∃ o : MV, gF h66 l0 6 11 = some o) ∧ ∀ h68 : MH, h68 = fset h66 l0 11 (.inr (some k66) : MV) →
                        ((((((((((cn + 1) + 1) + 1) + 1) + 1) + 1) + 1) + 1) + 1 ≤ 20 ∧ ((((((((sn + 12) + 12) + 12) + 120) + 3) + 3) + 3) + 36) + 36 ≤ 48309) ∧ ∀ (k74 : Nat) (h74 : MH), k74 = h68.1 → h74 = mnew h68 (.inr (0, 36, .inl (fun _ => 0))) →
                        ((∃ o : MV, gF h74 l0 6 12 = some o) ∧ ∀ h76 : MH, h76 = fset h74 l0 12 (.inr (some k74) : MV) →
                        (((((((((((cn + 1) + 1) + 1) + 1) + 1) + 1) + 1) + 1) + 1) + 1 ≤ 20 ∧ (((((((((sn + 12) + 12) + 12) + 120) + 3) + 3) + 3) + 36) + 36) + 12 ≤ 48309) ∧ ∀ (k82 : Nat) (h82 : MH), k82 = h76.1 → h82 = mnew h76 (.inr (1, 12, .inl (fun _ => 0))) →
                        ((∃ o : MV, gF h82 l0 6 13 = some o) ∧ ∀ h84 : MH, h84 = fset h82 l0 13 (.inr (some k82) : MV) →
                        ((((((((((((cn + 1) + 1) + 1) + 1) + 1) + 1) + 1) + 1) + 1) + 1) + 1 ≤ 20 ∧ ((((((((((sn + 12) + 12) + 12) + 120) + 3) + 3) + 3) + 36) + 36) + 12) + 4 ≤ 48309) ∧ ∀ (k89 : Nat) (h89 : MH), k89 = h84.1 → h89 = mnew h84 (.inr (0, 4, .inl (fun _ => 0))) →
                        ((∃ o : MV, gF h89 l0 6 14 = some o) ∧ ∀ h91 : MH, h91 = fset h89 l0 14 (.inr (some k89) : MV) →
                        (((((((((((((cn + 1) + 1) + 1) + 1) + 1) + 1) + 1) + 1) + 1) + 1) + 1) + 1 ≤ 20 ∧ (((((((((((sn + 12) + 12) + 12) + 120) + 3) + 3) + 3) + 36) + 36) + 12) + 4) + 4 ≤ 48309) ∧ ∀ (k96 : Nat) (h96 : MH), k96 = h91.1 → h96 = mnew h91 (.inr (0, 4, .inl (fun _ => 0))) →
                        ((∃ o : MV, gF h96 l0 6 15 = some o) ∧ ∀ h98 : MH, h98 = fset h96 l0 15 (.inr (some k96) : MV) →
                        ((((((((((((((cn + 1) + 1) + 1) + 1) + 1) + 1) + 1) + 1) + 1) + 1) + 1) + 1) + 1 ≤ 20 ∧ ((((((((((((sn + 12) + 12) + 12) + 120) + 3) + 3) + 3) + 36) + 36) + 12) + 4) + 4) + 12 ≤ 48309) ∧ ∀ (k104 : Nat) (h104 : MH), k104 = h98.1 → h104 = mnew h98 (.inr (0, 12, .inl (fun _ => 0))) →
                        ((∃ o : MV, gF h104 l0 6 16 = some o) ∧ ∀ h106 : MH, h106 = fset h104 l0 16 (.inr (some k104) : MV) →
                        (((((((((((((((cn + 1) + 1) + 1) + 1) + 1) + 1) + 1) + 1) + 1) + 1) + 1) + 1) + 1) + 1 ≤ 20 ∧ (((((((((((((sn + 12) + 12) + 12) + 120) + 3) + 3) + 3) + 36) + 36) + 12) + 4) + 4) + 12) + 12 ≤ 48309) ∧ ∀ (k112 : Nat) (h112 : MH), k112 = h106.1 → h112 = mnew h106 (.inr (0, 12, .inl (fun _ => 0))) →
                        ((∃ o : MV, gF h112 l0 6 17 = some o) ∧ ∀ h114 : MH, h114 = fset h112 l0 17 (.inr (some k112) : MV) →
                        ((((((((((((((((cn + 1) + 1) + 1) + 1) + 1) + 1) + 1) + 1) + 1) + 1) + 1) + 1) + 1) + 1) + 1 ≤ 20 ∧ ((((((((((((((sn + 12) + 12) + 12) + 120) + 3) + 3) + 3) + 36) + 36) + 12) + 4) + 4) + 12) + 12) + 12 ≤ 48309) ∧ ∀ (k120 : Nat) (h120 : MH), k120 = h114.1 → h120 = mnew h114 (.inr (0, 12, .inl (fun _ => 0))) →
                        ((∃ o : MV, gF h120 l0 6 18 = some o) ∧ ∀ h122 : MH, h122 = fset h120 l0 18 (.inr (some k120) : MV) →
                        (((((((((((((((((cn + 1) + 1) + 1) + 1) + 1) + 1) + 1) + 1) + 1) + 1) + 1) + 1) + 1) + 1) + 1) + 1 ≤ 20 ∧ (((((((((((((((sn + 12) + 12) + 12) + 120) + 3) + 3) + 3) + 36) + 36) + 12) + 4) + 4) + 12) + 12) + 12) + 28800 ≤ 48309) ∧ ∀ (k129 : Nat) (h129 : MH), k129 = h122.1 → h129 = mnew h122 (.inr (0, 28800, .inl (fun _ => 0))) →
                        ((∃ o : MV, gF h129 l0 6 20 = some o) ∧ ∀ h131 : MH, h131 = fset h129 l0 20 (.inr (some k129) : MV) →
                        ((((((((((((((((((cn + 1) + 1) + 1) + 1) + 1) + 1) + 1) + 1) + 1) + 1) + 1) + 1) + 1) + 1) + 1) + 1) + 1 ≤ 20 ∧ ((((((((((((((((sn + 12) + 12) + 12) + 120) + 3) + 3) + 3) + 36) + 36) + 12) + 4) + 4) + 12) + 12) + 12) + 28800) + 12 ≤ 48309) ∧ ∀ (k137 : Nat) (h137 : MH), k137 = h131.1 → h137 = mnew h131 (.inr (0, 12, .inl (fun _ => 0))) →
                        ((∃ o : MV, gF h137 l0 6 21 = some o) ∧ ∀ h139 : MH, h139 = fset h137 l0 21 (.inr (some k137) : MV) →
                        (((((((((((((((((((cn + 1) + 1) + 1) + 1) + 1) + 1) + 1) + 1) + 1) + 1) + 1) + 1) + 1) + 1) + 1) + 1) + 1) + 1 ≤ 20 ∧ (((((((((((((((((sn + 12) + 12) + 12) + 120) + 3) + 3) + 3) + 36) + 36) + 12) + 4) + 4) + 12) + 12) + 12) + 28800) + 12) + 9600 ≤ 48309) ∧ ∀ (k146 : Nat) (h146 : MH), k146 = h139.1 → h146 = mnew h139 (.inr (0, 9600, .inl (fun _ => 0))) →
                        ((∃ o : MV, gF h146 l0 6 22 = some o) ∧ ∀ h148 : MH, h148 = fset h146 l0 22 (.inr (some k146) : MV) →
                        ((((((((((((((((((((cn + 1) + 1) + 1) + 1) + 1) + 1) + 1) + 1) + 1) + 1) + 1) + 1) + 1) + 1) + 1) + 1) + 1) + 1) + 1 ≤ 20 ∧ ((((((((((((((((((sn + 12) + 12) + 12) + 120) + 3) + 3) + 3) + 36) + 36) + 12) + 4) + 4) + 12) + 12) + 12) + 28800) + 12) + 9600) + 9600 ≤ 48309) ∧ ∀ (k155 : Nat) (h155 : MH), k155 = h148.1 → h155 = mnew h148 (.inr (2, 9600, .inr (.inl (fun _ => 0)))) →
                        ((∃ o : MV, gF h155 l0 6 23 = some o) ∧ ∀ h157 : MH, h157 = fset h155 l0 23 (.inr (some k155) : MV) →
                        (((((((((((((((((((((cn + 1) + 1) + 1) + 1) + 1) + 1) + 1) + 1) + 1) + 1) + 1) + 1) + 1) + 1) + 1) + 1) + 1) + 1) + 1) + 1 ≤ 20 ∧ (((((((((((((((((((sn + 12) + 12) + 12) + 120) + 3) + 3) + 3) + 36) + 36) + 12) + 4) + 4) + 12) + 12) + 12) + 28800) + 12) + 9600) + 9600) + 4 ≤ 48309) ∧ ∀ (k162 : Nat) (h162 : MH), k162 = h157.1 → h162 = mnew h157 (.inr (0, 4, .inl (fun _ => 0))) →
                        ((∃ o : MV, gF h162 l0 6 25 = some o) ∧ ∀ h164 : MH, h164 = fset h162 l0 25 (.inr (some k162) : MV) →
                        ((∃ o : MV, gF h164 l0 6 0 = some o) ∧ ∀ h169 : MH, h169 = fset h164 l0 0 (.inl (0 : Int32) : MV) →
                        (wp_Rm_init_174 Post ((((((((((((((((((((cn + 1) + 1) + 1) + 1) + 1) + 1) + 1) + 1) + 1) + 1) + 1) + 1) + 1) + 1) + 1) + 1) + 1) + 1) + 1) + 1) ((((((((((((((((((((sn + 12) + 12) + 12) + 120) + 3) + 3) + 3) + 36) + 36) + 12) + 4) + 4) + 12) + 12) + 12) + 28800) + 12) + 9600) + 9600) + 4) l0 (0 : Int32) h169))))))))))))))))))))))))))))))))))))))))))
set_option maxRecDepth 100000 in
set_option maxHeartbeats 4000000 in
theorem t_Rm_init_259 {p : Program} {l : Launch} {e : Env} {R : Room} {s : State} {m : MethodId} {args : Array Value} {below : List Frame} {meth : Method} {c : Code} (G : mG) (C0 : Cx G p s m args c prog_8_method_3_code 2 "BassRealiserModel") (hR : 1 ≤ R.frames ∧ 20 ≤ R.locals ∧ 20 ≤ R.cells ∧ 48309 ≤ R.slots) (hr : meth.sig.returnType = none) (hlk : meth.locks = false) (hin : meth.name = "<init>") {Post : MH → Prop} {K174 : Nat → Nat → Nat → Int32 → MH → Prop} (hK174 : ∀ (cn : Nat) (sn : Nat) (l0 : Nat) (l1 : Int32) (h : MH), K174 cn sn l0 l1 h → WG p l e R s m args below meth c cn sn (MQ below (va_Qv Post (Wd G) (mA G)) args s 20 48309 (mA G)) G 2 [(0, .ref (m_b G + l0)), (1, .int l1)] 174 [] h) (cn : Nat) (sn : Nat) (l0 : Nat) (l1 : Int32) (y0 : Nat) (y1 : Int32) (y2 : Int32) (h : MH) (hwp : wp_Rm_init_259 K174 Post cn sn l0 l1 y0 y1 y2 h) : WG p l e R s m args below meth c cn sn (MQ below (va_Qv Post (Wd G) (mA G)) args s 20 48309 (mA G)) G 2 [(0, .ref (m_b G + l0)), (1, .int l1)] 259 [.int y2, .int y1, .ref (m_b G + y0)] h := by
  unfold wp_Rm_init_259 at hwp
  obtain ⟨n259, f259, e259, i259, hwp⟩ := hwp
  refine x_iast C0 e259 i259 d_Rm_init_259 ?_
  refine x_nh (fun h259 eh259 => ?_)
  replace hwp := hwp h259 eh259
  refine x_iinc C0 1 d_Rm_init_260 rfl rfl (by decide) (lv' := [(1, .int (l1 + (1 : Int32))), (0, .ref (m_b G + l0))]) rfl ?_
  refine x_goto (tgt := 174) C0 d_Rm_init_263 (by decide) ?_
  exact x_sub [1, 0] rfl (hK174 _ _ _ _ _ hwp)
set_option maxRecDepth 100000 in
set_option maxHeartbeats 4000000 in
theorem t_Rm_init_232 {p : Program} {l : Launch} {e : Env} {R : Room} {s : State} {m : MethodId} {args : Array Value} {below : List Frame} {meth : Method} {c : Code} (G : mG) (C0 : Cx G p s m args c prog_8_method_3_code 2 "BassRealiserModel") (hR : 1 ≤ R.frames ∧ 20 ≤ R.locals ∧ 20 ≤ R.cells ∧ 48309 ≤ R.slots) (hr : meth.sig.returnType = none) (hlk : meth.locks = false) (hin : meth.name = "<init>") {Post : MH → Prop} {K174 : Nat → Nat → Nat → Int32 → MH → Prop} (hK174 : ∀ (cn : Nat) (sn : Nat) (l0 : Nat) (l1 : Int32) (h : MH), K174 cn sn l0 l1 h → WG p l e R s m args below meth c cn sn (MQ below (va_Qv Post (Wd G) (mA G)) args s 20 48309 (mA G)) G 2 [(0, .ref (m_b G + l0)), (1, .int l1)] 174 [] h) (cn : Nat) (sn : Nat) (l0 : Nat) (l1 : Int32) (y0 : Nat) (y1 : Int32) (y2 : Int32) (h : MH) (hwp : wp_Rm_init_232 K174 Post cn sn l0 l1 y0 y1 y2 h) : WG p l e R s m args below meth c cn sn (MQ below (va_Qv Post (Wd G) (mA G)) args s 20 48309 (mA G)) G 2 [(0, .ref (m_b G + l0)), (1, .int l1)] 232 [.int y2, .int y1, .ref (m_b G + y0)] h := by
  unfold wp_Rm_init_232 at hwp
  obtain ⟨n232, f232, e232, i232, hwp⟩ := hwp
  refine x_iast C0 e232 i232 d_Rm_init_232 ?_
  refine x_nh (fun h232 eh232 => ?_)
  replace hwp := hwp h232 eh232
  refine x_aload_n C0 0 d_Rm_init_233 rfl rfl ?_
  obtain ⟨x234, e234, hwp⟩ := hwp
  refine x_getR C0 fk_Rm_32 e234 d_Rm_init_234 ?_
  refine x_iload_n C0 1 d_Rm_init_237 rfl rfl ?_
  refine x_iload_n C0 1 d_Rm_init_238 rfl rfl ?_
  refine x_if_ne (tgt := 247) C0 d_Rm_init_239 (by decide) (fun c239 => ?_) (fun c239 => ?_)
  · replace hwp := hwp.1 c239
    refine x_iload_n C0 1 d_Rm_init_247 rfl rfl ?_
    refine x_iconst (v := 1) C0 d_Rm_init_248 (by decide) ?_
    refine x_icmp_ne (tgt := 257) C0 d_Rm_init_249 (by decide) (fun c249 => ?_) (fun c249 => ?_)
    · replace hwp := hwp.1 c249
      refine x_bipush (v := 60) C0 d_Rm_init_257 (by decide) ?_
      exact x_sub [0, 1] rfl (t_Rm_init_259 G C0 hR hr hlk hin hK174 _ _ _ _ _ _ _ _ hwp)
    · replace hwp := hwp.2 c249
      refine x_bipush (v := 67) C0 d_Rm_init_252 (by decide) ?_
      refine x_goto (tgt := 259) C0 d_Rm_init_254 (by decide) ?_
      exact x_sub [0, 1] rfl (t_Rm_init_259 G C0 hR hr hlk hin hK174 _ _ _ _ _ _ _ _ hwp)
  · replace hwp := hwp.2 c239
    refine x_bipush (v := 72) C0 d_Rm_init_242 (by decide) ?_
    refine x_goto (tgt := 259) C0 d_Rm_init_244 (by decide) ?_
    exact x_sub [0, 1] rfl (t_Rm_init_259 G C0 hR hr hlk hin hK174 _ _ _ _ _ _ _ _ hwp)
set_option maxRecDepth 100000 in
set_option maxHeartbeats 4000000 in
theorem t_Rm_init_205 {p : Program} {l : Launch} {e : Env} {R : Room} {s : State} {m : MethodId} {args : Array Value} {below : List Frame} {meth : Method} {c : Code} (G : mG) (C0 : Cx G p s m args c prog_8_method_3_code 2 "BassRealiserModel") (hR : 1 ≤ R.frames ∧ 20 ≤ R.locals ∧ 20 ≤ R.cells ∧ 48309 ≤ R.slots) (hr : meth.sig.returnType = none) (hlk : meth.locks = false) (hin : meth.name = "<init>") {Post : MH → Prop} {K174 : Nat → Nat → Nat → Int32 → MH → Prop} (hK174 : ∀ (cn : Nat) (sn : Nat) (l0 : Nat) (l1 : Int32) (h : MH), K174 cn sn l0 l1 h → WG p l e R s m args below meth c cn sn (MQ below (va_Qv Post (Wd G) (mA G)) args s 20 48309 (mA G)) G 2 [(0, .ref (m_b G + l0)), (1, .int l1)] 174 [] h) (cn : Nat) (sn : Nat) (l0 : Nat) (l1 : Int32) (y0 : Nat) (y1 : Int32) (y2 : Int32) (h : MH) (hwp : wp_Rm_init_205 K174 Post cn sn l0 l1 y0 y1 y2 h) : WG p l e R s m args below meth c cn sn (MQ below (va_Qv Post (Wd G) (mA G)) args s 20 48309 (mA G)) G 2 [(0, .ref (m_b G + l0)), (1, .int l1)] 205 [.int y2, .int y1, .ref (m_b G + y0)] h := by
  unfold wp_Rm_init_205 at hwp
  obtain ⟨n205, f205, e205, i205, hwp⟩ := hwp
  refine x_iast C0 e205 i205 d_Rm_init_205 ?_
  refine x_nh (fun h205 eh205 => ?_)
  replace hwp := hwp h205 eh205
  refine x_aload_n C0 0 d_Rm_init_206 rfl rfl ?_
  obtain ⟨x207, e207, hwp⟩ := hwp
  refine x_getR C0 fk_Rm_29 e207 d_Rm_init_207 ?_
  refine x_iload_n C0 1 d_Rm_init_210 rfl rfl ?_
  refine x_iload_n C0 1 d_Rm_init_211 rfl rfl ?_
  refine x_if_ne (tgt := 220) C0 d_Rm_init_212 (by decide) (fun c212 => ?_) (fun c212 => ?_)
  · replace hwp := hwp.1 c212
    refine x_iload_n C0 1 d_Rm_init_220 rfl rfl ?_
    refine x_iconst (v := 1) C0 d_Rm_init_221 (by decide) ?_
    refine x_icmp_ne (tgt := 230) C0 d_Rm_init_222 (by decide) (fun c222 => ?_) (fun c222 => ?_)
    · replace hwp := hwp.1 c222
      refine x_bipush (v := 69) C0 d_Rm_init_230 (by decide) ?_
      exact x_sub [0, 1] rfl (t_Rm_init_232 G C0 hR hr hlk hin hK174 _ _ _ _ _ _ _ _ hwp)
    · replace hwp := hwp.2 c222
      refine x_bipush (v := 74) C0 d_Rm_init_225 (by decide) ?_
      refine x_goto (tgt := 232) C0 d_Rm_init_227 (by decide) ?_
      exact x_sub [0, 1] rfl (t_Rm_init_232 G C0 hR hr hlk hin hK174 _ _ _ _ _ _ _ _ hwp)
  · replace hwp := hwp.2 c212
    refine x_bipush (v := 81) C0 d_Rm_init_215 (by decide) ?_
    refine x_goto (tgt := 232) C0 d_Rm_init_217 (by decide) ?_
    exact x_sub [0, 1] rfl (t_Rm_init_232 G C0 hR hr hlk hin hK174 _ _ _ _ _ _ _ _ hwp)
set_option maxRecDepth 100000 in
set_option maxHeartbeats 4000000 in
theorem tb_Rm_init_174 {p : Program} {l : Launch} {e : Env} {R : Room} {s : State} {m : MethodId} {args : Array Value} {below : List Frame} {meth : Method} {c : Code} (G : mG) (C0 : Cx G p s m args c prog_8_method_3_code 2 "BassRealiserModel") (hR : 1 ≤ R.frames ∧ 20 ≤ R.locals ∧ 20 ≤ R.cells ∧ 48309 ≤ R.slots) (hr : meth.sig.returnType = none) (hlk : meth.locks = false) (hin : meth.name = "<init>") {Post : MH → Prop} {K174 : Nat → Nat → Nat → Int32 → MH → Prop} (hK174 : ∀ (cn : Nat) (sn : Nat) (l0 : Nat) (l1 : Int32) (h : MH), K174 cn sn l0 l1 h → WG p l e R s m args below meth c cn sn (MQ below (va_Qv Post (Wd G) (mA G)) args s 20 48309 (mA G)) G 2 [(0, .ref (m_b G + l0)), (1, .int l1)] 174 [] h) (cn : Nat) (sn : Nat) (l0 : Nat) (l1 : Int32) (h : MH) (hwp : wb_Rm_init_174 K174 Post cn sn l0 l1 h) : WG p l e R s m args below meth c cn sn (MQ below (va_Qv Post (Wd G) (mA G)) args s 20 48309 (mA G)) G 2 [(0, .ref (m_b G + l0)), (1, .int l1)] 174 [] h := by
  unfold wb_Rm_init_174 at hwp
  refine x_iload_n C0 1 d_Rm_init_174 rfl rfl ?_
  refine x_iconst (v := 3) C0 d_Rm_init_175 (by decide) ?_
  refine x_icmp_ge (tgt := 266) C0 d_Rm_init_176 (by decide) (fun c176 => ?_) (fun c176 => ?_)
  · replace hwp := hwp.1 c176
    obtain ⟨bR, hwp⟩ := hwp
    refine x_cs bR.1 bR.2 ?_
    exact x_vret C0 hr hlk hwp d_Rm_init_266
  · replace hwp := hwp.2 c176
    refine x_aload_n C0 0 d_Rm_init_179 rfl rfl ?_
    obtain ⟨x180, e180, hwp⟩ := hwp
    refine x_getR C0 fk_Rm_26 e180 d_Rm_init_180 ?_
    refine x_iload_n C0 1 d_Rm_init_183 rfl rfl ?_
    refine x_iload_n C0 1 d_Rm_init_184 rfl rfl ?_
    refine x_if_ne (tgt := 193) C0 d_Rm_init_185 (by decide) (fun c185 => ?_) (fun c185 => ?_)
    · replace hwp := hwp.1 c185
      refine x_iload_n C0 1 d_Rm_init_193 rfl rfl ?_
      refine x_iconst (v := 1) C0 d_Rm_init_194 (by decide) ?_
      refine x_icmp_ne (tgt := 203) C0 d_Rm_init_195 (by decide) (fun c195 => ?_) (fun c195 => ?_)
      · replace hwp := hwp.1 c195
        refine x_bipush (v := 48) C0 d_Rm_init_203 (by decide) ?_
        exact x_sub [0, 1] rfl (t_Rm_init_205 G C0 hR hr hlk hin hK174 _ _ _ _ _ _ _ _ hwp)
      · replace hwp := hwp.2 c195
        refine x_bipush (v := 55) C0 d_Rm_init_198 (by decide) ?_
        refine x_goto (tgt := 205) C0 d_Rm_init_200 (by decide) ?_
        exact x_sub [0, 1] rfl (t_Rm_init_205 G C0 hR hr hlk hin hK174 _ _ _ _ _ _ _ _ hwp)
    · replace hwp := hwp.2 c185
      refine x_bipush (v := 60) C0 d_Rm_init_188 (by decide) ?_
      refine x_goto (tgt := 205) C0 d_Rm_init_190 (by decide) ?_
      exact x_sub [0, 1] rfl (t_Rm_init_205 G C0 hR hr hlk hin hK174 _ _ _ _ _ _ _ _ hwp)
theorem t_Rm_init_174 {p : Program} {l : Launch} {e : Env} {R : Room} {s : State} {m : MethodId} {args : Array Value} {below : List Frame} {meth : Method} {c : Code} (G : mG) (C0 : Cx G p s m args c prog_8_method_3_code 2 "BassRealiserModel") (hR : 1 ≤ R.frames ∧ 20 ≤ R.locals ∧ 20 ≤ R.cells ∧ 48309 ≤ R.slots) (hr : meth.sig.returnType = none) (hlk : meth.locks = false) (hin : meth.name = "<init>") {Post : MH → Prop} (cn : Nat) (sn : Nat) (l0 : Nat) (l1 : Int32) (h : MH) (hwp : wp_Rm_init_174 Post cn sn l0 l1 h) : WG p l e R s m args below meth c cn sn (MQ below (va_Qv Post (Wd G) (mA G)) args s 20 48309 (mA G)) G 2 [(0, .ref (m_b G + l0)), (1, .int l1)] 174 [] h := by
  obtain ⟨n, hwp⟩ := hwp
  induction n generalizing cn sn l0 l1 h with
  | zero => exact False.elim hwp
  | succ n ih => exact tb_Rm_init_174 G C0 hR hr hlk hin (fun cn sn l0 l1 h hwp => ih cn sn l0 l1 h hwp) cn sn l0 l1 h hwp
set_option maxRecDepth 100000 in
set_option maxHeartbeats 4000000 in
theorem t_Rm_init {p : Program} {l : Launch} {e : Env} {R : Room} {s : State} {m : MethodId} {args : Array Value} {below : List Frame} {meth : Method} {c : Code} (G : mG) (C0 : Cx G p s m args c prog_8_method_3_code 2 "BassRealiserModel") (hR : 1 ≤ R.frames ∧ 20 ≤ R.locals ∧ 20 ≤ R.cells ∧ 48309 ≤ R.slots) (hr : meth.sig.returnType = none) (hlk : meth.locks = false) (hin : meth.name = "<init>") {Post : MH → Prop} (cn : Nat) (sn : Nat) (l0 : Nat) (h : MH) (hwp : wp_Rm_init Post cn sn l0 h) : WG p l e R s m args below meth c cn sn (MQ below (va_Qv Post (Wd G) (mA G)) args s 20 48309 (mA G)) G 2 [(0, .ref (m_b G + l0))] 0 [] h := by
  unfold wp_Rm_init at hwp
  refine x_aload_n C0 0 d_Rm_init_0 rfl rfl ?_
  refine x_objInit C0 kw_3_86 kw_1_16 kw_1_17 d_Rm_init_1 ⟨Nat.le_trans (by decide) hR.1, Nat.le_trans (by decide) hR.2.1⟩ (Nat.le_of_ble_eq_true rfl) ?_
  refine x_aload_n C0 0 d_Rm_init_4 rfl rfl ?_
  refine x_bipush (v := 12) C0 d_Rm_init_5 (by decide) ?_
  obtain ⟨b7, hwp⟩ := hwp
  refine x_newai C0 12 kw_1_56 (by decide) (by decide) (by decide) ⟨Nat.le_trans b7.1 hR.2.2.1, Nat.le_trans b7.2 hR.2.2.2⟩ d_Rm_init_7 ?_
  refine x_nk (fun k7 ek7 => ?_)
  refine x_nh (fun h7 eh7 => ?_)
  replace hwp := hwp k7 h7 ek7 eh7
  obtain ⟨⟨o9, e9⟩, hwp⟩ := hwp
  refine x_putF (x := (.inr (some k7) : MV)) C0 pk_Rm_13 hin e9 rfl rfl d_Rm_init_9 ?_
  refine x_nh (fun h9 eh9 => ?_)
  replace hwp := hwp h9 eh9
  refine x_aload_n C0 0 d_Rm_init_12 rfl rfl ?_
  refine x_bipush (v := 12) C0 d_Rm_init_13 (by decide) ?_
  obtain ⟨b15, hwp⟩ := hwp
  refine x_newai C0 12 kw_1_56 (by decide) (by decide) (by decide) ⟨Nat.le_trans b15.1 hR.2.2.1, Nat.le_trans b15.2 hR.2.2.2⟩ d_Rm_init_15 ?_
  refine x_nk (fun k15 ek15 => ?_)
  refine x_nh (fun h15 eh15 => ?_)
  replace hwp := hwp k15 h15 ek15 eh15
  obtain ⟨⟨o17, e17⟩, hwp⟩ := hwp
  refine x_putF (x := (.inr (some k15) : MV)) C0 pk_Rm_17 hin e17 rfl rfl d_Rm_init_17 ?_
  refine x_nh (fun h17 eh17 => ?_)
  replace hwp := hwp h17 eh17
  refine x_aload_n C0 0 d_Rm_init_20 rfl rfl ?_
  refine x_bipush (v := 12) C0 d_Rm_init_21 (by decide) ?_
  obtain ⟨b23, hwp⟩ := hwp
  refine x_newai C0 12 kw_1_56 (by decide) (by decide) (by decide) ⟨Nat.le_trans b23.1 hR.2.2.1, Nat.le_trans b23.2 hR.2.2.2⟩ d_Rm_init_23 ?_
  refine x_nk (fun k23 ek23 => ?_)
  refine x_nh (fun h23 eh23 => ?_)
  replace hwp := hwp k23 h23 ek23 eh23
  obtain ⟨⟨o25, e25⟩, hwp⟩ := hwp
  refine x_putF (x := (.inr (some k23) : MV)) C0 pk_Rm_20 hin e25 rfl rfl d_Rm_init_25 ?_
  refine x_nh (fun h25 eh25 => ?_)
  replace hwp := hwp h25 eh25
  refine x_aload_n C0 0 d_Rm_init_28 rfl rfl ?_
  refine x_bipush (v := 120) C0 d_Rm_init_29 (by decide) ?_
  obtain ⟨b31, hwp⟩ := hwp
  refine x_newai C0 120 kw_1_56 (by decide) (by decide) (by decide) ⟨Nat.le_trans b31.1 hR.2.2.1, Nat.le_trans b31.2 hR.2.2.2⟩ d_Rm_init_31 ?_
  refine x_nk (fun k31 ek31 => ?_)
  refine x_nh (fun h31 eh31 => ?_)
  replace hwp := hwp k31 h31 ek31 eh31
  obtain ⟨⟨o33, e33⟩, hwp⟩ := hwp
  refine x_putF (x := (.inr (some k31) : MV)) C0 pk_Rm_23 hin e33 rfl rfl d_Rm_init_33 ?_
  refine x_nh (fun h33 eh33 => ?_)
  replace hwp := hwp h33 eh33
  refine x_aload_n C0 0 d_Rm_init_36 rfl rfl ?_
  refine x_iconst (v := 3) C0 d_Rm_init_37 (by decide) ?_
  obtain ⟨b38, hwp⟩ := hwp
  refine x_newai C0 3 kw_1_56 (by decide) (by decide) (by decide) ⟨Nat.le_trans b38.1 hR.2.2.1, Nat.le_trans b38.2 hR.2.2.2⟩ d_Rm_init_38 ?_
  refine x_nk (fun k38 ek38 => ?_)
  refine x_nh (fun h38 eh38 => ?_)
  replace hwp := hwp k38 h38 ek38 eh38
  obtain ⟨⟨o40, e40⟩, hwp⟩ := hwp
  refine x_putF (x := (.inr (some k38) : MV)) C0 pk_Rm_26 hin e40 rfl rfl d_Rm_init_40 ?_
  refine x_nh (fun h40 eh40 => ?_)
  replace hwp := hwp h40 eh40
  refine x_aload_n C0 0 d_Rm_init_43 rfl rfl ?_
  refine x_iconst (v := 3) C0 d_Rm_init_44 (by decide) ?_
  obtain ⟨b45, hwp⟩ := hwp
  refine x_newai C0 3 kw_1_56 (by decide) (by decide) (by decide) ⟨Nat.le_trans b45.1 hR.2.2.1, Nat.le_trans b45.2 hR.2.2.2⟩ d_Rm_init_45 ?_
  refine x_nk (fun k45 ek45 => ?_)
  refine x_nh (fun h45 eh45 => ?_)
  replace hwp := hwp k45 h45 ek45 eh45
  obtain ⟨⟨o47, e47⟩, hwp⟩ := hwp
  refine x_putF (x := (.inr (some k45) : MV)) C0 pk_Rm_29 hin e47 rfl rfl d_Rm_init_47 ?_
  refine x_nh (fun h47 eh47 => ?_)
  replace hwp := hwp h47 eh47
  refine x_aload_n C0 0 d_Rm_init_50 rfl rfl ?_
  refine x_iconst (v := 3) C0 d_Rm_init_51 (by decide) ?_
  obtain ⟨b52, hwp⟩ := hwp
  refine x_newai C0 3 kw_1_56 (by decide) (by decide) (by decide) ⟨Nat.le_trans b52.1 hR.2.2.1, Nat.le_trans b52.2 hR.2.2.2⟩ d_Rm_init_52 ?_
  refine x_nk (fun k52 ek52 => ?_)
  refine x_nh (fun h52 eh52 => ?_)
  replace hwp := hwp k52 h52 ek52 eh52
  obtain ⟨⟨o54, e54⟩, hwp⟩ := hwp
  refine x_putF (x := (.inr (some k52) : MV)) C0 pk_Rm_32 hin e54 rfl rfl d_Rm_init_54 ?_
  refine x_nh (fun h54 eh54 => ?_)
  replace hwp := hwp h54 eh54
  refine x_aload_n C0 0 d_Rm_init_57 rfl rfl ?_
  refine x_bipush (v := 12) C0 d_Rm_init_58 (by decide) ?_
  obtain ⟨⟨o60, e60⟩, hwp⟩ := hwp
  refine x_put (x := (.inl (12 : Int32) : MV)) C0 pk_Rm_35 e60 rfl rfl d_Rm_init_60 ?_
  refine x_nh (fun h60 eh60 => ?_)
  replace hwp := hwp h60 eh60
  refine x_aload_n C0 0 d_Rm_init_63 rfl rfl ?_
  refine x_bipush (v := 36) C0 d_Rm_init_64 (by decide) ?_
  obtain ⟨b66, hwp⟩ := hwp
  refine x_newai C0 36 kw_1_56 (by decide) (by decide) (by decide) ⟨Nat.le_trans b66.1 hR.2.2.1, Nat.le_trans b66.2 hR.2.2.2⟩ d_Rm_init_66 ?_
  refine x_nk (fun k66 ek66 => ?_)
  refine x_nh (fun h66 eh66 => ?_)
  replace hwp := hwp k66 h66 ek66 eh66
  obtain ⟨⟨o68, e68⟩, hwp⟩ := hwp
  refine x_putF (x := (.inr (some k66) : MV)) C0 pk_Rm_38 hin e68 rfl rfl d_Rm_init_68 ?_
  refine x_nh (fun h68 eh68 => ?_)
  replace hwp := hwp h68 eh68
  refine x_aload_n C0 0 d_Rm_init_71 rfl rfl ?_
  refine x_bipush (v := 36) C0 d_Rm_init_72 (by decide) ?_
  obtain ⟨b74, hwp⟩ := hwp
  refine x_newai C0 36 kw_1_56 (by decide) (by decide) (by decide) ⟨Nat.le_trans b74.1 hR.2.2.1, Nat.le_trans b74.2 hR.2.2.2⟩ d_Rm_init_74 ?_
  refine x_nk (fun k74 ek74 => ?_)
  refine x_nh (fun h74 eh74 => ?_)
  replace hwp := hwp k74 h74 ek74 eh74
  obtain ⟨⟨o76, e76⟩, hwp⟩ := hwp
  refine x_putF (x := (.inr (some k74) : MV)) C0 pk_Rm_41 hin e76 rfl rfl d_Rm_init_76 ?_
  refine x_nh (fun h76 eh76 => ?_)
  replace hwp := hwp h76 eh76
  refine x_aload_n C0 0 d_Rm_init_79 rfl rfl ?_
  refine x_bipush (v := 12) C0 d_Rm_init_80 (by decide) ?_
  obtain ⟨b82, hwp⟩ := hwp
  refine x_newaz C0 12 kw_1_144 (by decide) (by decide) (by decide) ⟨Nat.le_trans b82.1 hR.2.2.1, Nat.le_trans b82.2 hR.2.2.2⟩ d_Rm_init_82 ?_
  refine x_nk (fun k82 ek82 => ?_)
  refine x_nh (fun h82 eh82 => ?_)
  replace hwp := hwp k82 h82 ek82 eh82
  obtain ⟨⟨o84, e84⟩, hwp⟩ := hwp
  refine x_putF (x := (.inr (some k82) : MV)) C0 pk_Rm_44 hin e84 rfl rfl d_Rm_init_84 ?_
  refine x_nh (fun h84 eh84 => ?_)
  replace hwp := hwp h84 eh84
  refine x_aload_n C0 0 d_Rm_init_87 rfl rfl ?_
  refine x_iconst (v := 4) C0 d_Rm_init_88 (by decide) ?_
  obtain ⟨b89, hwp⟩ := hwp
  refine x_newai C0 4 kw_1_56 (by decide) (by decide) (by decide) ⟨Nat.le_trans b89.1 hR.2.2.1, Nat.le_trans b89.2 hR.2.2.2⟩ d_Rm_init_89 ?_
  refine x_nk (fun k89 ek89 => ?_)
  refine x_nh (fun h89 eh89 => ?_)
  replace hwp := hwp k89 h89 ek89 eh89
  obtain ⟨⟨o91, e91⟩, hwp⟩ := hwp
  refine x_putF (x := (.inr (some k89) : MV)) C0 pk_Rm_48 hin e91 rfl rfl d_Rm_init_91 ?_
  refine x_nh (fun h91 eh91 => ?_)
  replace hwp := hwp h91 eh91
  refine x_aload_n C0 0 d_Rm_init_94 rfl rfl ?_
  refine x_iconst (v := 4) C0 d_Rm_init_95 (by decide) ?_
  obtain ⟨b96, hwp⟩ := hwp
  refine x_newai C0 4 kw_1_56 (by decide) (by decide) (by decide) ⟨Nat.le_trans b96.1 hR.2.2.1, Nat.le_trans b96.2 hR.2.2.2⟩ d_Rm_init_96 ?_
  refine x_nk (fun k96 ek96 => ?_)
  refine x_nh (fun h96 eh96 => ?_)
  replace hwp := hwp k96 h96 ek96 eh96
  obtain ⟨⟨o98, e98⟩, hwp⟩ := hwp
  refine x_putF (x := (.inr (some k96) : MV)) C0 pk_Rm_51 hin e98 rfl rfl d_Rm_init_98 ?_
  refine x_nh (fun h98 eh98 => ?_)
  replace hwp := hwp h98 eh98
  refine x_aload_n C0 0 d_Rm_init_101 rfl rfl ?_
  refine x_bipush (v := 12) C0 d_Rm_init_102 (by decide) ?_
  obtain ⟨b104, hwp⟩ := hwp
  refine x_newai C0 12 kw_1_56 (by decide) (by decide) (by decide) ⟨Nat.le_trans b104.1 hR.2.2.1, Nat.le_trans b104.2 hR.2.2.2⟩ d_Rm_init_104 ?_
  refine x_nk (fun k104 ek104 => ?_)
  refine x_nh (fun h104 eh104 => ?_)
  replace hwp := hwp k104 h104 ek104 eh104
  obtain ⟨⟨o106, e106⟩, hwp⟩ := hwp
  refine x_putF (x := (.inr (some k104) : MV)) C0 pk_Rm_54 hin e106 rfl rfl d_Rm_init_106 ?_
  refine x_nh (fun h106 eh106 => ?_)
  replace hwp := hwp h106 eh106
  refine x_aload_n C0 0 d_Rm_init_109 rfl rfl ?_
  refine x_bipush (v := 12) C0 d_Rm_init_110 (by decide) ?_
  obtain ⟨b112, hwp⟩ := hwp
  refine x_newai C0 12 kw_1_56 (by decide) (by decide) (by decide) ⟨Nat.le_trans b112.1 hR.2.2.1, Nat.le_trans b112.2 hR.2.2.2⟩ d_Rm_init_112 ?_
  refine x_nk (fun k112 ek112 => ?_)
  refine x_nh (fun h112 eh112 => ?_)
  replace hwp := hwp k112 h112 ek112 eh112
  obtain ⟨⟨o114, e114⟩, hwp⟩ := hwp
  refine x_putF (x := (.inr (some k112) : MV)) C0 pk_Rm_57 hin e114 rfl rfl d_Rm_init_114 ?_
  refine x_nh (fun h114 eh114 => ?_)
  replace hwp := hwp h114 eh114
  refine x_aload_n C0 0 d_Rm_init_117 rfl rfl ?_
  refine x_bipush (v := 12) C0 d_Rm_init_118 (by decide) ?_
  obtain ⟨b120, hwp⟩ := hwp
  refine x_newai C0 12 kw_1_56 (by decide) (by decide) (by decide) ⟨Nat.le_trans b120.1 hR.2.2.1, Nat.le_trans b120.2 hR.2.2.2⟩ d_Rm_init_120 ?_
  refine x_nk (fun k120 ek120 => ?_)
  refine x_nh (fun h120 eh120 => ?_)
  replace hwp := hwp k120 h120 ek120 eh120
  obtain ⟨⟨o122, e122⟩, hwp⟩ := hwp
  refine x_putF (x := (.inr (some k120) : MV)) C0 pk_Rm_60 hin e122 rfl rfl d_Rm_init_122 ?_
  refine x_nh (fun h122 eh122 => ?_)
  replace hwp := hwp h122 eh122
  refine x_aload_n C0 0 d_Rm_init_125 rfl rfl ?_
  refine x_sipush (v := 28800) C0 d_Rm_init_126 (by decide) ?_
  obtain ⟨b129, hwp⟩ := hwp
  refine x_newai C0 28800 kw_1_56 (by decide) (by decide) (by decide) ⟨Nat.le_trans b129.1 hR.2.2.1, Nat.le_trans b129.2 hR.2.2.2⟩ d_Rm_init_129 ?_
  refine x_nk (fun k129 ek129 => ?_)
  refine x_nh (fun h129 eh129 => ?_)
  replace hwp := hwp k129 h129 ek129 eh129
  obtain ⟨⟨o131, e131⟩, hwp⟩ := hwp
  refine x_putF (x := (.inr (some k129) : MV)) C0 pk_Rm_63 hin e131 rfl rfl d_Rm_init_131 ?_
  refine x_nh (fun h131 eh131 => ?_)
  replace hwp := hwp h131 eh131
  refine x_aload_n C0 0 d_Rm_init_134 rfl rfl ?_
  refine x_bipush (v := 12) C0 d_Rm_init_135 (by decide) ?_
  obtain ⟨b137, hwp⟩ := hwp
  refine x_newai C0 12 kw_1_56 (by decide) (by decide) (by decide) ⟨Nat.le_trans b137.1 hR.2.2.1, Nat.le_trans b137.2 hR.2.2.2⟩ d_Rm_init_137 ?_
  refine x_nk (fun k137 ek137 => ?_)
  refine x_nh (fun h137 eh137 => ?_)
  replace hwp := hwp k137 h137 ek137 eh137
  obtain ⟨⟨o139, e139⟩, hwp⟩ := hwp
  refine x_putF (x := (.inr (some k137) : MV)) C0 pk_Rm_66 hin e139 rfl rfl d_Rm_init_139 ?_
  refine x_nh (fun h139 eh139 => ?_)
  replace hwp := hwp h139 eh139
  refine x_aload_n C0 0 d_Rm_init_142 rfl rfl ?_
  refine x_sipush (v := 9600) C0 d_Rm_init_143 (by decide) ?_
  obtain ⟨b146, hwp⟩ := hwp
  refine x_newai C0 9600 kw_1_56 (by decide) (by decide) (by decide) ⟨Nat.le_trans b146.1 hR.2.2.1, Nat.le_trans b146.2 hR.2.2.2⟩ d_Rm_init_146 ?_
  refine x_nk (fun k146 ek146 => ?_)
  refine x_nh (fun h146 eh146 => ?_)
  replace hwp := hwp k146 h146 ek146 eh146
  obtain ⟨⟨o148, e148⟩, hwp⟩ := hwp
  refine x_putF (x := (.inr (some k146) : MV)) C0 pk_Rm_69 hin e148 rfl rfl d_Rm_init_148 ?_
  refine x_nh (fun h148 eh148 => ?_)
  replace hwp := hwp h148 eh148
  refine x_aload_n C0 0 d_Rm_init_151 rfl rfl ?_
  refine x_sipush (v := 9600) C0 d_Rm_init_152 (by decide) ?_
  obtain ⟨b155, hwp⟩ := hwp
  refine x_newal C0 9600 kw_3_166 (by decide) (by decide) (by decide) ⟨Nat.le_trans b155.1 hR.2.2.1, Nat.le_trans b155.2 hR.2.2.2⟩ d_Rm_init_155 ?_
  refine x_nk (fun k155 ek155 => ?_)
  refine x_nh (fun h155 eh155 => ?_)
  replace hwp := hwp k155 h155 ek155 eh155
  obtain ⟨⟨o157, e157⟩, hwp⟩ := hwp
  refine x_putF (x := (.inr (some k155) : MV)) C0 pk_Rm_72 hin e157 rfl rfl d_Rm_init_157 ?_
  refine x_nh (fun h157 eh157 => ?_)
  replace hwp := hwp h157 eh157
  refine x_aload_n C0 0 d_Rm_init_160 rfl rfl ?_
  refine x_iconst (v := 4) C0 d_Rm_init_161 (by decide) ?_
  obtain ⟨b162, hwp⟩ := hwp
  refine x_newai C0 4 kw_1_56 (by decide) (by decide) (by decide) ⟨Nat.le_trans b162.1 hR.2.2.1, Nat.le_trans b162.2 hR.2.2.2⟩ d_Rm_init_162 ?_
  refine x_nk (fun k162 ek162 => ?_)
  refine x_nh (fun h162 eh162 => ?_)
  replace hwp := hwp k162 h162 ek162 eh162
  obtain ⟨⟨o164, e164⟩, hwp⟩ := hwp
  refine x_putF (x := (.inr (some k162) : MV)) C0 pk_Rm_76 hin e164 rfl rfl d_Rm_init_164 ?_
  refine x_nh (fun h164 eh164 => ?_)
  replace hwp := hwp h164 eh164
  refine x_aload_n C0 0 d_Rm_init_167 rfl rfl ?_
  refine x_iconst (v := 0) C0 d_Rm_init_168 (by decide) ?_
  obtain ⟨⟨o169, e169⟩, hwp⟩ := hwp
  refine x_put (x := (.inl (0 : Int32) : MV)) C0 pk_Rm_1 e169 rfl rfl d_Rm_init_169 ?_
  refine x_nh (fun h169 eh169 => ?_)
  replace hwp := hwp h169 eh169
  refine x_iconst (v := 0) C0 d_Rm_init_172 (by decide) ?_
  refine x_istore_n C0 d_Rm_init_173 rfl (by decide) (lv' := [(1, .int (0 : Int32)), (0, .ref (m_b G + l0))]) rfl ?_
  exact x_sub [1, 0] rfl (t_Rm_init_174 G C0 hR hr hlk hin  _ _ _ _ _ hwp)
set_option maxRecDepth 100000 in
set_option maxHeartbeats 4000000 in
theorem c_Rm_init (l : Launch) (G : mG) {Post : MH → Prop} {l0 : Nat} {h : MH} (hwp : wp_Rm_init Post 0 0 l0 h) : Met l y_Rm_init (Cond.code y_Rm_init prog_8_method_3_code 2 (Option.none : Option Jvm.ClassFile.FieldType) :: lw_good) ({ frames := 1, cells := 20, slots := 48309, locals := 20 }) (va_Pc [.ref (m_b G + l0)] (Wd G h)) (va_Qv Post (Wd G) (mA G)) 20 48309 (mA G) := by
  refine Met.ofW (cc := prog_8_method_3_code) (maxL := 2) (ret := (Option.none : Option Jvm.ClassFile.FieldType)) (by decide +kernel) rfl ?_
  intro p e s m args below meth c s₁ B hml hv
  obtain ⟨rfl, hP, hz, hK, hSt⟩ := hv
  have hts := atoms_spec (ws := Cond.code y_Rm_init prog_8_method_3_code 2 (Option.none : Option Jvm.ClassFile.FieldType) :: lw_good) B.pre
  have C0 : Cx G p s m ([.ref (m_b G + l0)] : List Value).toArray c prog_8_method_3_code 2 "BassRealiserModel" := ⟨⟨B.exec, B.bytes, hml, findClass_of_methodNamed B.named, fun w h => hts w (List.mem_cons_of_mem _ h)⟩, hK, hSt, by rw [hz]; exact Nat.le_add_right _ _⟩
  have hl := lv_entry ([.ref (m_b G + l0)]) (n := 2) (Nat.le_of_ble_eq_true rfl)
  rw [lg_entry_eq]
  exact t_Rm_init G C0 ⟨Nat.le_refl _, Nat.le_refl _, Nat.le_refl _, Nat.le_refl _⟩ B.returns B.notSynchronized (name_of_methodNamed B.named B.method).1 _ _ _ _ hwp _ _ _ ⟨hP, hz, va_S.rf⟩ hl
def wp_Br_within (Post : Int32 → MH → Prop) (l0 : Int32) (l1 : Int32) (l2 : Int32) (h : MH) : Prop :=
  ((l0 < l1) →
    (Post (0 : Int32) h)) ∧
  ((¬ l0 < l1) →
    (((l2 < l0) →
        (Post (0 : Int32) h)) ∧
      ((¬ l2 < l0) →
        (Post (1 : Int32) h))))
set_option maxRecDepth 100000 in
set_option maxHeartbeats 4000000 in
theorem t_Br_within {p : Program} {l : Launch} {e : Env} {R : Room} {s : State} {m : MethodId} {args : Array Value} {below : List Frame} {meth : Method} {c : Code} (G : mG) (C0 : Cx G p s m args c prog_1_method_30_code 3 "BassRealiser") (hR : 0 ≤ R.frames ∧ 0 ≤ R.locals ∧ 0 ≤ R.cells ∧ 0 ≤ R.slots) (hr : meth.sig.returnType = some .boolean) (hlk : meth.locks = false) {Post : Int32 → MH → Prop} (l0 : Int32) (l1 : Int32) (l2 : Int32) (h : MH) (hwp : wp_Br_within Post l0 l1 l2 h) : WG p l e R s m args below meth c 0 0 (MQ below (va_Qi Post (Wd G) (mA G)) args s 0 0 (mA G)) G 3 [(0, .int l0), (1, .int l1), (2, .int l2)] 0 [] h := by
  unfold wp_Br_within at hwp
  refine x_iload_n C0 0 d_Br_within_0 rfl rfl ?_
  refine x_iload_n C0 1 d_Br_within_1 rfl rfl ?_
  refine x_icmp_lt (tgt := 14) C0 d_Br_within_2 (by decide) (fun c2 => ?_) (fun c2 => ?_)
  · replace hwp := hwp.1 c2
    refine x_iconst (v := 0) C0 d_Br_within_14 (by decide) ?_
    exact x_zret C0 hr rfl hlk hwp d_Br_within_15
  · replace hwp := hwp.2 c2
    refine x_iload_n C0 0 d_Br_within_5 rfl rfl ?_
    refine x_iload_n C0 2 d_Br_within_6 rfl rfl ?_
    refine x_icmp_gt (tgt := 14) C0 d_Br_within_7 (by decide) (fun c7 => ?_) (fun c7 => ?_)
    · replace hwp := hwp.1 c7
      refine x_iconst (v := 0) C0 d_Br_within_14 (by decide) ?_
      exact x_zret C0 hr rfl hlk hwp d_Br_within_15
    · replace hwp := hwp.2 c7
      refine x_iconst (v := 1) C0 d_Br_within_10 (by decide) ?_
      refine x_goto (tgt := 15) C0 d_Br_within_11 (by decide) ?_
      exact x_zret C0 hr rfl hlk hwp d_Br_within_15
set_option maxRecDepth 100000 in
set_option maxHeartbeats 4000000 in
theorem c_Br_within (l : Launch) (G : mG) {Post : Int32 → MH → Prop} {l0 : Int32} {l1 : Int32} {l2 : Int32} {h : MH} (hwp : wp_Br_within Post l0 l1 l2 h) : Met l y_Br_within (Cond.code y_Br_within prog_1_method_30_code 3 (Option.some Jvm.ClassFile.FieldType.boolean) :: lw_good) ({ frames := 0, cells := 0, slots := 0, locals := 0 }) (va_Pc [.int l0, .int l1, .int l2] (Wd G h)) (va_Qi Post (Wd G) (mA G)) 0 0 (mA G) := by
  refine Met.ofW (cc := prog_1_method_30_code) (maxL := 3) (ret := (Option.some Jvm.ClassFile.FieldType.boolean)) (by decide +kernel) rfl ?_
  intro p e s m args below meth c s₁ B hml hv
  obtain ⟨rfl, hP, hz, hK, hSt⟩ := hv
  have hts := atoms_spec (ws := Cond.code y_Br_within prog_1_method_30_code 3 (Option.some Jvm.ClassFile.FieldType.boolean) :: lw_good) B.pre
  have C0 : Cx G p s m ([.int l0, .int l1, .int l2] : List Value).toArray c prog_1_method_30_code 3 "BassRealiser" := ⟨⟨B.exec, B.bytes, hml, findClass_of_methodNamed B.named, fun w h => hts w (List.mem_cons_of_mem _ h)⟩, hK, hSt, by rw [hz]; exact Nat.le_add_right _ _⟩
  have hl := lv_entry ([.int l0, .int l1, .int l2]) (n := 3) (Nat.le_of_ble_eq_true rfl)
  rw [lg_entry_eq]
  exact t_Br_within G C0 ⟨Nat.le_refl _, Nat.le_refl _, Nat.le_refl _, Nat.le_refl _⟩ B.returns B.notSynchronized _ _ _ _ hwp _ _ _ ⟨hP, hz, va_S.rf⟩ hl
def wp_Ch_has (Post : Int32 → MH → Prop) (l0 : Int32) (l1 : Int32) (h : MH) : Prop :=
  (((l0 &&& ((1 : Int32) <<< (l1 &&& 31))) = 0) →
    (Post (0 : Int32) h)) ∧
  ((¬ (l0 &&& ((1 : Int32) <<< (l1 &&& 31))) = 0) →
    (Post (1 : Int32) h))
set_option maxRecDepth 100000 in
set_option maxHeartbeats 4000000 in
theorem t_Ch_has {p : Program} {l : Launch} {e : Env} {R : Room} {s : State} {m : MethodId} {args : Array Value} {below : List Frame} {meth : Method} {c : Code} (G : mG) (C0 : Cx G p s m args c prog_2_method_7_code 2 "BassRealiser$Chord") (hR : 0 ≤ R.frames ∧ 0 ≤ R.locals ∧ 0 ≤ R.cells ∧ 0 ≤ R.slots) (hr : meth.sig.returnType = some .boolean) (hlk : meth.locks = false) {Post : Int32 → MH → Prop} (l0 : Int32) (l1 : Int32) (h : MH) (hwp : wp_Ch_has Post l0 l1 h) : WG p l e R s m args below meth c 0 0 (MQ below (va_Qi Post (Wd G) (mA G)) args s 0 0 (mA G)) G 2 [(0, .int l0), (1, .int l1)] 0 [] h := by
  unfold wp_Ch_has at hwp
  refine x_iload_n C0 0 d_Ch_has_0 rfl rfl ?_
  refine x_iconst (v := 1) C0 d_Ch_has_1 (by decide) ?_
  refine x_iload_n C0 1 d_Ch_has_2 rfl rfl ?_
  refine x_ishl C0 d_Ch_has_3 ?_
  refine x_iand C0 d_Ch_has_4 ?_
  refine x_if_eq (tgt := 12) C0 d_Ch_has_5 (by decide) (fun c5 => ?_) (fun c5 => ?_)
  · replace hwp := hwp.1 c5
    refine x_iconst (v := 0) C0 d_Ch_has_12 (by decide) ?_
    exact x_zret C0 hr rfl hlk hwp d_Ch_has_13
  · replace hwp := hwp.2 c5
    refine x_iconst (v := 1) C0 d_Ch_has_8 (by decide) ?_
    refine x_goto (tgt := 13) C0 d_Ch_has_9 (by decide) ?_
    exact x_zret C0 hr rfl hlk hwp d_Ch_has_13
set_option maxRecDepth 100000 in
set_option maxHeartbeats 4000000 in
theorem c_Ch_has (l : Launch) (G : mG) {Post : Int32 → MH → Prop} {l0 : Int32} {l1 : Int32} {h : MH} (hwp : wp_Ch_has Post l0 l1 h) : Met l y_Ch_has (Cond.code y_Ch_has prog_2_method_7_code 2 (Option.some Jvm.ClassFile.FieldType.boolean) :: lw_good) ({ frames := 0, cells := 0, slots := 0, locals := 0 }) (va_Pc [.int l0, .int l1] (Wd G h)) (va_Qi Post (Wd G) (mA G)) 0 0 (mA G) := by
  refine Met.ofW (cc := prog_2_method_7_code) (maxL := 2) (ret := (Option.some Jvm.ClassFile.FieldType.boolean)) (by decide +kernel) rfl ?_
  intro p e s m args below meth c s₁ B hml hv
  obtain ⟨rfl, hP, hz, hK, hSt⟩ := hv
  have hts := atoms_spec (ws := Cond.code y_Ch_has prog_2_method_7_code 2 (Option.some Jvm.ClassFile.FieldType.boolean) :: lw_good) B.pre
  have C0 : Cx G p s m ([.int l0, .int l1] : List Value).toArray c prog_2_method_7_code 2 "BassRealiser$Chord" := ⟨⟨B.exec, B.bytes, hml, findClass_of_methodNamed B.named, fun w h => hts w (List.mem_cons_of_mem _ h)⟩, hK, hSt, by rw [hz]; exact Nat.le_add_right _ _⟩
  have hl := lv_entry ([.int l0, .int l1]) (n := 2) (Nat.le_of_ble_eq_true rfl)
  rw [lg_entry_eq]
  exact t_Ch_has G C0 ⟨Nat.le_refl _, Nat.le_refl _, Nat.le_refl _, Nat.le_refl _⟩ B.returns B.notSynchronized _ _ _ hwp _ _ _ ⟨hP, hz, va_S.rf⟩ hl
def wp_Ch_complete_145 (Post : Int32 → MH → Prop) (l4 : Int32) (h : MH) : Prop :=
  ∀ z150 : Int32, z150 = l4 ||| (64 : Int32) →
  (Post z150 h)
def wp_Ch_complete_137 (Post : Int32 → MH → Prop) (l1 : Int32) (l2 : Int32) (l4 : Int32) (h : MH) : Prop :=
  ((¬ l1 = 0) →
    (wp_Ch_complete_145 Post l4 h)) ∧
  ((l1 = 0) →
    (((l2 = 0) →
        (Post l4 h)) ∧
      ((¬ l2 = 0) →
        (wp_Ch_complete_145 Post l4 h))))
def wp_Ch_complete_105 (Post : Int32 → MH → Prop) (l0 : Int32) (l1 : Int32) (l2 : Int32) (l3 : Int32) (l4 : Int32) (h : MH) : Prop :=
  wp_Ch_has (fun (r107 : Int32) (h107 : MH) =>
    (((¬ r107 = 0) →
        (wp_Ch_complete_137 Post l1 l2 l4 h107)) ∧
      ((r107 = 0) →
        (wp_Ch_has (fun (r116 : Int32) (h116 : MH) =>
            (((¬ r116 = 0) →
                (wp_Ch_complete_137 Post l1 l2 l4 h116)) ∧
              ((r116 = 0) →
                (((¬ l2 = 0) →
                    (wp_Ch_complete_137 Post l1 l2 l4 h116)) ∧
                  ((l2 = 0) →
                    (((¬ l3 = 0) →
                        (wp_Ch_complete_137 Post l1 l2 l4 h116)) ∧
                      ((l3 = 0) →
                        (∀ z135 : Int32, z135 = l4 ||| (32 : Int32) →
                        (wp_Ch_complete_137 Post l1 l2 z135 h116))))))))) l0 (6 : Int32) h107)))) l0 (2 : Int32) h
def wp_Ch_complete_94 (Post : Int32 → MH → Prop) (l0 : Int32) (l1 : Int32) (l2 : Int32) (l3 : Int32) (l4 : Int32) (h : MH) : Prop :=
  ((l1 = 0) →
    (wp_Ch_complete_105 Post l0 l1 l2 l3 l4 h)) ∧
  ((¬ l1 = 0) →
    (∀ z103 : Int32, z103 = l4 ||| (16 : Int32) →
      (wp_Ch_complete_105 Post l0 l1 l2 l3 z103 h)))
def wp_Ch_complete_67 (Post : Int32 → MH → Prop) (l0 : Int32) (l1 : Int32) (l2 : Int32) (y0 : Int32) (h : MH) : Prop :=
  wp_Ch_has (fun (r73 : Int32) (h73 : MH) =>
    (((¬ r73 = 0) →
        (wp_Ch_complete_94 Post l0 l1 l2 y0 l0 h73)) ∧
      ((r73 = 0) →
        (wp_Ch_has (fun (r81 : Int32) (h81 : MH) =>
            (((¬ r81 = 0) →
                (wp_Ch_complete_94 Post l0 l1 l2 y0 l0 h81)) ∧
              ((r81 = 0) →
                (∀ z92 : Int32, z92 = l0 ||| (8 : Int32) →
                  (wp_Ch_complete_94 Post l0 l1 l2 y0 z92 h81))))) l0 (4 : Int32) h73)))) l0 (2 : Int32) h
def wp_Ch_complete_66 (Post : Int32 → MH → Prop) (l0 : Int32) (l1 : Int32) (l2 : Int32) (h : MH) : Prop :=
  wp_Ch_complete_67 Post l0 l1 l2 (0 : Int32) h
def wp_Ch_complete_43 (Post : Int32 → MH → Prop) (l0 : Int32) (l1 : Int32) (y0 : Int32) (h : MH) : Prop :=
  wp_Ch_has (fun (r47 : Int32) (h47 : MH) =>
    (((r47 = 0) →
        (wp_Ch_complete_66 Post l0 l1 y0 h47)) ∧
      ((¬ r47 = 0) →
        (wp_Ch_has (fun (r56 : Int32) (h56 : MH) =>
            (((r56 = 0) →
                (wp_Ch_complete_66 Post l0 l1 y0 h56)) ∧
              ((¬ r56 = 0) →
                (wp_Ch_complete_67 Post l0 l1 y0 (1 : Int32) h56)))) l0 (9 : Int32) h47)))) l0 (7 : Int32) h
def wp_Ch_complete_42 (Post : Int32 → MH → Prop) (l0 : Int32) (l1 : Int32) (h : MH) : Prop :=
  wp_Ch_complete_43 Post l0 l1 (0 : Int32) h
def wp_Ch_complete_21 (Post : Int32 → MH → Prop) (l0 : Int32) (y0 : Int32) (h : MH) : Prop :=
  wp_Ch_has (fun (r24 : Int32) (h24 : MH) =>
    (((r24 = 0) →
        (wp_Ch_complete_42 Post l0 y0 h24)) ∧
      ((¬ r24 = 0) →
        (wp_Ch_has (fun (r32 : Int32) (h32 : MH) =>
            (((r32 = 0) →
                (wp_Ch_complete_42 Post l0 y0 h32)) ∧
              ((¬ r32 = 0) →
                (wp_Ch_complete_43 Post l0 y0 (1 : Int32) h32)))) l0 (4 : Int32) h24)))) l0 (3 : Int32) h
def wp_Ch_complete_20 (Post : Int32 → MH → Prop) (l0 : Int32) (h : MH) : Prop :=
  wp_Ch_complete_21 Post l0 (0 : Int32) h
def wp_Ch_complete (Post : Int32 → MH → Prop) (l0 : Int32) (h : MH) : Prop :=
  wp_Ch_has (fun (r2 : Int32) (h2 : MH) =>
    (((r2 = 0) →
        (wp_Ch_complete_20 Post l0 h2)) ∧
      ((¬ r2 = 0) →
        (wp_Ch_has (fun (r10 : Int32) (h10 : MH) =>
            (((¬ r10 = 0) →
                (wp_Ch_complete_20 Post l0 h10)) ∧
              ((r10 = 0) →
                (wp_Ch_complete_21 Post l0 (1 : Int32) h10)))) l0 (5 : Int32) h2)))) l0 (2 : Int32) h
set_option maxRecDepth 100000 in
set_option maxHeartbeats 4000000 in
theorem t_Ch_complete_145 {p : Program} {l : Launch} {e : Env} {R : Room} {s : State} {m : MethodId} {args : Array Value} {below : List Frame} {meth : Method} {c : Code} (G : mG) (C0 : Cx G p s m args c prog_2_method_6_code 5 "BassRealiser$Chord") (hR : 1 ≤ R.frames ∧ 21 ≤ R.locals ∧ 0 ≤ R.cells ∧ 0 ≤ R.slots) (hr : meth.sig.returnType = some .int) (hlk : meth.locks = false) {Post : Int32 → MH → Prop} (l4 : Int32) (h : MH) (hwp : wp_Ch_complete_145 Post l4 h) : WG p l e R s m args below meth c 0 0 (MQ below (va_Qi Post (Wd G) (mA G)) args s 0 0 (mA G)) G 5 [(4, .int l4)] 145 [] h := by
  unfold wp_Ch_complete_145 at hwp
  refine x_iload C0 0 d_Ch_complete_145 rfl ?_
  refine x_bipush (v := 64) C0 d_Ch_complete_147 (by decide) ?_
  refine x_ior C0 d_Ch_complete_149 ?_
  refine x_topI (fun z150 e150 => ?_)
  replace hwp := hwp z150 e150
  refine x_istore C0 d_Ch_complete_150 (by decide) (lv' := [(4, .int z150)]) rfl ?_
  refine x_iload C0 0 d_Ch_complete_152 rfl ?_
  exact x_iret C0 hr hlk hwp d_Ch_complete_154
set_option maxRecDepth 100000 in
set_option maxHeartbeats 4000000 in
theorem t_Ch_complete_137 {p : Program} {l : Launch} {e : Env} {R : Room} {s : State} {m : MethodId} {args : Array Value} {below : List Frame} {meth : Method} {c : Code} (G : mG) (C0 : Cx G p s m args c prog_2_method_6_code 5 "BassRealiser$Chord") (hR : 1 ≤ R.frames ∧ 21 ≤ R.locals ∧ 0 ≤ R.cells ∧ 0 ≤ R.slots) (hr : meth.sig.returnType = some .int) (hlk : meth.locks = false) {Post : Int32 → MH → Prop} (l1 : Int32) (l2 : Int32) (l4 : Int32) (h : MH) (hwp : wp_Ch_complete_137 Post l1 l2 l4 h) : WG p l e R s m args below meth c 0 0 (MQ below (va_Qi Post (Wd G) (mA G)) args s 0 0 (mA G)) G 5 [(1, .int l1), (2, .int l2), (4, .int l4)] 137 [] h := by
  unfold wp_Ch_complete_137 at hwp
  refine x_iload_n C0 0 d_Ch_complete_137 rfl rfl ?_
  refine x_if_ne (tgt := 145) C0 d_Ch_complete_138 (by decide) (fun c138 => ?_) (fun c138 => ?_)
  · replace hwp := hwp.1 c138
    exact x_sub [2] rfl (t_Ch_complete_145 G C0 hR hr hlk  _ _ hwp)
  · replace hwp := hwp.2 c138
    refine x_iload_n C0 1 d_Ch_complete_141 rfl rfl ?_
    refine x_if_eq (tgt := 152) C0 d_Ch_complete_142 (by decide) (fun c142 => ?_) (fun c142 => ?_)
    · replace hwp := hwp.1 c142
      refine x_iload C0 2 d_Ch_complete_152 rfl ?_
      exact x_iret C0 hr hlk hwp d_Ch_complete_154
    · replace hwp := hwp.2 c142
      exact x_sub [2] rfl (t_Ch_complete_145 G C0 hR hr hlk  _ _ hwp)
set_option maxRecDepth 100000 in
set_option maxHeartbeats 4000000 in
theorem t_Ch_complete_105 {p : Program} {l : Launch} {e : Env} {R : Room} {s : State} {m : MethodId} {args : Array Value} {below : List Frame} {meth : Method} {c : Code} (G : mG) (C0 : Cx G p s m args c prog_2_method_6_code 5 "BassRealiser$Chord") (hR : 1 ≤ R.frames ∧ 21 ≤ R.locals ∧ 0 ≤ R.cells ∧ 0 ≤ R.slots) (hr : meth.sig.returnType = some .int) (hlk : meth.locks = false) {Post : Int32 → MH → Prop} (l0 : Int32) (l1 : Int32) (l2 : Int32) (l3 : Int32) (l4 : Int32) (h : MH) (hwp : wp_Ch_complete_105 Post l0 l1 l2 l3 l4 h) : WG p l e R s m args below meth c 0 0 (MQ below (va_Qi Post (Wd G) (mA G)) args s 0 0 (mA G)) G 5 [(0, .int l0), (1, .int l1), (2, .int l2), (3, .int l3), (4, .int l4)] 105 [] h := by
  unfold wp_Ch_complete_105 at hwp
  refine x_iload_n C0 0 d_Ch_complete_105 rfl rfl ?_
  refine x_iconst (v := 2) C0 d_Ch_complete_106 (by decide) ?_
  refine x_callSi0 (As := [.int l0, .int (2 : Int32)]) (st := []) C0 (c_Ch_has l G hwp) kw_1_236 mk_Ch_has kw_1_237 rfl (Nat.le_of_ble_eq_true rfl) rfl rfl ⟨Nat.le_trans (by decide) hR.1, Nat.le_trans (by decide) hR.2.1⟩ ⟨Nat.zero_le _, Nat.zero_le _⟩ rfl d_Ch_complete_107 (fun r107 h107 hwp => ?_)
  refine x_if_ne (tgt := 137) C0 d_Ch_complete_110 (by decide) (fun c110 => ?_) (fun c110 => ?_)
  · replace hwp := hwp.1 c110
    exact x_sub [1, 2, 4] rfl (t_Ch_complete_137 G C0 hR hr hlk  _ _ _ _ hwp)
  · replace hwp := hwp.2 c110
    refine x_iload_n C0 0 d_Ch_complete_113 rfl rfl ?_
    refine x_bipush (v := 6) C0 d_Ch_complete_114 (by decide) ?_
    refine x_callSi0 (As := [.int l0, .int (6 : Int32)]) (st := []) C0 (c_Ch_has l G hwp) kw_1_236 mk_Ch_has kw_1_237 rfl (Nat.le_of_ble_eq_true rfl) rfl rfl ⟨Nat.le_trans (by decide) hR.1, Nat.le_trans (by decide) hR.2.1⟩ ⟨Nat.zero_le _, Nat.zero_le _⟩ rfl d_Ch_complete_116 (fun r116 h116 hwp => ?_)
    refine x_if_ne (tgt := 137) C0 d_Ch_complete_119 (by decide) (fun c119 => ?_) (fun c119 => ?_)
    · replace hwp := hwp.1 c119
      exact x_sub [1, 2, 4] rfl (t_Ch_complete_137 G C0 hR hr hlk  _ _ _ _ hwp)
    · replace hwp := hwp.2 c119
      refine x_iload_n C0 2 d_Ch_complete_122 rfl rfl ?_
      refine x_if_ne (tgt := 137) C0 d_Ch_complete_123 (by decide) (fun c123 => ?_) (fun c123 => ?_)
      · replace hwp := hwp.1 c123
        exact x_sub [1, 2, 4] rfl (t_Ch_complete_137 G C0 hR hr hlk  _ _ _ _ hwp)
      · replace hwp := hwp.2 c123
        refine x_iload_n C0 3 d_Ch_complete_126 rfl rfl ?_
        refine x_if_ne (tgt := 137) C0 d_Ch_complete_127 (by decide) (fun c127 => ?_) (fun c127 => ?_)
        · replace hwp := hwp.1 c127
          exact x_sub [1, 2, 4] rfl (t_Ch_complete_137 G C0 hR hr hlk  _ _ _ _ hwp)
        · replace hwp := hwp.2 c127
          refine x_iload C0 4 d_Ch_complete_130 rfl ?_
          refine x_bipush (v := 32) C0 d_Ch_complete_132 (by decide) ?_
          refine x_ior C0 d_Ch_complete_134 ?_
          refine x_topI (fun z135 e135 => ?_)
          replace hwp := hwp z135 e135
          refine x_istore C0 d_Ch_complete_135 (by decide) (lv' := [(4, .int z135), (0, .int l0), (1, .int l1), (2, .int l2), (3, .int l3)]) rfl ?_
          exact x_sub [2, 3, 0] rfl (t_Ch_complete_137 G C0 hR hr hlk  _ _ _ _ hwp)
set_option maxRecDepth 100000 in
set_option maxHeartbeats 4000000 in
theorem t_Ch_complete_94 {p : Program} {l : Launch} {e : Env} {R : Room} {s : State} {m : MethodId} {args : Array Value} {below : List Frame} {meth : Method} {c : Code} (G : mG) (C0 : Cx G p s m args c prog_2_method_6_code 5 "BassRealiser$Chord") (hR : 1 ≤ R.frames ∧ 21 ≤ R.locals ∧ 0 ≤ R.cells ∧ 0 ≤ R.slots) (hr : meth.sig.returnType = some .int) (hlk : meth.locks = false) {Post : Int32 → MH → Prop} (l0 : Int32) (l1 : Int32) (l2 : Int32) (l3 : Int32) (l4 : Int32) (h : MH) (hwp : wp_Ch_complete_94 Post l0 l1 l2 l3 l4 h) : WG p l e R s m args below meth c 0 0 (MQ below (va_Qi Post (Wd G) (mA G)) args s 0 0 (mA G)) G 5 [(0, .int l0), (1, .int l1), (2, .int l2), (3, .int l3), (4, .int l4)] 94 [] h := by
  unfold wp_Ch_complete_94 at hwp
  refine x_iload_n C0 1 d_Ch_complete_94 rfl rfl ?_
  refine x_if_eq (tgt := 105) C0 d_Ch_complete_95 (by decide) (fun c95 => ?_) (fun c95 => ?_)
  · replace hwp := hwp.1 c95
    exact x_sub [0, 1, 2, 3, 4] rfl (t_Ch_complete_105 G C0 hR hr hlk  _ _ _ _ _ _ hwp)
  · replace hwp := hwp.2 c95
    refine x_iload C0 4 d_Ch_complete_98 rfl ?_
    refine x_bipush (v := 16) C0 d_Ch_complete_100 (by decide) ?_
    refine x_ior C0 d_Ch_complete_102 ?_
    refine x_topI (fun z103 e103 => ?_)
    replace hwp := hwp z103 e103
    refine x_istore C0 d_Ch_complete_103 (by decide) (lv' := [(4, .int z103), (0, .int l0), (1, .int l1), (2, .int l2), (3, .int l3)]) rfl ?_
    exact x_sub [1, 2, 3, 4, 0] rfl (t_Ch_complete_105 G C0 hR hr hlk  _ _ _ _ _ _ hwp)
set_option maxRecDepth 100000 in
set_option maxHeartbeats 4000000 in
theorem t_Ch_complete_67 {p : Program} {l : Launch} {e : Env} {R : Room} {s : State} {m : MethodId} {args : Array Value} {below : List Frame} {meth : Method} {c : Code} (G : mG) (C0 : Cx G p s m args c prog_2_method_6_code 5 "BassRealiser$Chord") (hR : 1 ≤ R.frames ∧ 21 ≤ R.locals ∧ 0 ≤ R.cells ∧ 0 ≤ R.slots) (hr : meth.sig.returnType = some .int) (hlk : meth.locks = false) {Post : Int32 → MH → Prop} (l0 : Int32) (l1 : Int32) (l2 : Int32) (y0 : Int32) (h : MH) (hwp : wp_Ch_complete_67 Post l0 l1 l2 y0 h) : WG p l e R s m args below meth c 0 0 (MQ below (va_Qi Post (Wd G) (mA G)) args s 0 0 (mA G)) G 5 [(0, .int l0), (1, .int l1), (2, .int l2)] 67 [.int y0] h := by
  unfold wp_Ch_complete_67 at hwp
  refine x_istore_n C0 d_Ch_complete_67 rfl (by decide) (lv' := [(3, .int y0), (0, .int l0), (1, .int l1), (2, .int l2)]) rfl ?_
  refine x_iload_n C0 1 d_Ch_complete_68 rfl rfl ?_
  refine x_istore C0 d_Ch_complete_69 (by decide) (lv' := [(4, .int l0), (3, .int y0), (0, .int l0), (1, .int l1), (2, .int l2)]) rfl ?_
  refine x_iload_n C0 2 d_Ch_complete_71 rfl rfl ?_
  refine x_iconst (v := 2) C0 d_Ch_complete_72 (by decide) ?_
  refine x_callSi0 (As := [.int l0, .int (2 : Int32)]) (st := []) C0 (c_Ch_has l G hwp) kw_1_236 mk_Ch_has kw_1_237 rfl (Nat.le_of_ble_eq_true rfl) rfl rfl ⟨Nat.le_trans (by decide) hR.1, Nat.le_trans (by decide) hR.2.1⟩ ⟨Nat.zero_le _, Nat.zero_le _⟩ rfl d_Ch_complete_73 (fun r73 h73 hwp => ?_)
  refine x_if_ne (tgt := 94) C0 d_Ch_complete_76 (by decide) (fun c76 => ?_) (fun c76 => ?_)
  · replace hwp := hwp.1 c76
    exact x_sub [2, 3, 4, 1, 0] rfl (t_Ch_complete_94 G C0 hR hr hlk  _ _ _ _ _ _ hwp)
  · replace hwp := hwp.2 c76
    refine x_iload_n C0 2 d_Ch_complete_79 rfl rfl ?_
    refine x_iconst (v := 4) C0 d_Ch_complete_80 (by decide) ?_
    refine x_callSi0 (As := [.int l0, .int (4 : Int32)]) (st := []) C0 (c_Ch_has l G hwp) kw_1_236 mk_Ch_has kw_1_237 rfl (Nat.le_of_ble_eq_true rfl) rfl rfl ⟨Nat.le_trans (by decide) hR.1, Nat.le_trans (by decide) hR.2.1⟩ ⟨Nat.zero_le _, Nat.zero_le _⟩ rfl d_Ch_complete_81 (fun r81 h81 hwp => ?_)
    refine x_if_ne (tgt := 94) C0 d_Ch_complete_84 (by decide) (fun c84 => ?_) (fun c84 => ?_)
    · replace hwp := hwp.1 c84
      exact x_sub [2, 3, 4, 1, 0] rfl (t_Ch_complete_94 G C0 hR hr hlk  _ _ _ _ _ _ hwp)
    · replace hwp := hwp.2 c84
      refine x_iload C0 0 d_Ch_complete_87 rfl ?_
      refine x_bipush (v := 8) C0 d_Ch_complete_89 (by decide) ?_
      refine x_ior C0 d_Ch_complete_91 ?_
      refine x_topI (fun z92 e92 => ?_)
      replace hwp := hwp z92 e92
      refine x_istore C0 d_Ch_complete_92 (by decide) (lv' := [(4, .int z92), (3, .int y0), (0, .int l0), (1, .int l1), (2, .int l2)]) rfl ?_
      exact x_sub [2, 3, 4, 1, 0] rfl (t_Ch_complete_94 G C0 hR hr hlk  _ _ _ _ _ _ hwp)
set_option maxRecDepth 100000 in
set_option maxHeartbeats 4000000 in
theorem t_Ch_complete_66 {p : Program} {l : Launch} {e : Env} {R : Room} {s : State} {m : MethodId} {args : Array Value} {below : List Frame} {meth : Method} {c : Code} (G : mG) (C0 : Cx G p s m args c prog_2_method_6_code 5 "BassRealiser$Chord") (hR : 1 ≤ R.frames ∧ 21 ≤ R.locals ∧ 0 ≤ R.cells ∧ 0 ≤ R.slots) (hr : meth.sig.returnType = some .int) (hlk : meth.locks = false) {Post : Int32 → MH → Prop} (l0 : Int32) (l1 : Int32) (l2 : Int32) (h : MH) (hwp : wp_Ch_complete_66 Post l0 l1 l2 h) : WG p l e R s m args below meth c 0 0 (MQ below (va_Qi Post (Wd G) (mA G)) args s 0 0 (mA G)) G 5 [(0, .int l0), (1, .int l1), (2, .int l2)] 66 [] h := by
  unfold wp_Ch_complete_66 at hwp
  refine x_iconst (v := 0) C0 d_Ch_complete_66 (by decide) ?_
  exact x_sub [0, 1, 2] rfl (t_Ch_complete_67 G C0 hR hr hlk  _ _ _ _ _ hwp)
set_option maxRecDepth 100000 in
set_option maxHeartbeats 4000000 in
theorem t_Ch_complete_43 {p : Program} {l : Launch} {e : Env} {R : Room} {s : State} {m : MethodId} {args : Array Value} {below : List Frame} {meth : Method} {c : Code} (G : mG) (C0 : Cx G p s m args c prog_2_method_6_code 5 "BassRealiser$Chord") (hR : 1 ≤ R.frames ∧ 21 ≤ R.locals ∧ 0 ≤ R.cells ∧ 0 ≤ R.slots) (hr : meth.sig.returnType = some .int) (hlk : meth.locks = false) {Post : Int32 → MH → Prop} (l0 : Int32) (l1 : Int32) (y0 : Int32) (h : MH) (hwp : wp_Ch_complete_43 Post l0 l1 y0 h) : WG p l e R s m args below meth c 0 0 (MQ below (va_Qi Post (Wd G) (mA G)) args s 0 0 (mA G)) G 5 [(0, .int l0), (1, .int l1)] 43 [.int y0] h := by
  unfold wp_Ch_complete_43 at hwp
  refine x_istore_n C0 d_Ch_complete_43 rfl (by decide) (lv' := [(2, .int y0), (0, .int l0), (1, .int l1)]) rfl ?_
  refine x_iload_n C0 1 d_Ch_complete_44 rfl rfl ?_
  refine x_bipush (v := 7) C0 d_Ch_complete_45 (by decide) ?_
  refine x_callSi0 (As := [.int l0, .int (7 : Int32)]) (st := []) C0 (c_Ch_has l G hwp) kw_1_236 mk_Ch_has kw_1_237 rfl (Nat.le_of_ble_eq_true rfl) rfl rfl ⟨Nat.le_trans (by decide) hR.1, Nat.le_trans (by decide) hR.2.1⟩ ⟨Nat.zero_le _, Nat.zero_le _⟩ rfl d_Ch_complete_47 (fun r47 h47 hwp => ?_)
  refine x_if_eq (tgt := 66) C0 d_Ch_complete_50 (by decide) (fun c50 => ?_) (fun c50 => ?_)
  · replace hwp := hwp.1 c50
    exact x_sub [1, 2, 0] rfl (t_Ch_complete_66 G C0 hR hr hlk  _ _ _ _ hwp)
  · replace hwp := hwp.2 c50
    refine x_iload_n C0 1 d_Ch_complete_53 rfl rfl ?_
    refine x_bipush (v := 9) C0 d_Ch_complete_54 (by decide) ?_
    refine x_callSi0 (As := [.int l0, .int (9 : Int32)]) (st := []) C0 (c_Ch_has l G hwp) kw_1_236 mk_Ch_has kw_1_237 rfl (Nat.le_of_ble_eq_true rfl) rfl rfl ⟨Nat.le_trans (by decide) hR.1, Nat.le_trans (by decide) hR.2.1⟩ ⟨Nat.zero_le _, Nat.zero_le _⟩ rfl d_Ch_complete_56 (fun r56 h56 hwp => ?_)
    refine x_if_eq (tgt := 66) C0 d_Ch_complete_59 (by decide) (fun c59 => ?_) (fun c59 => ?_)
    · replace hwp := hwp.1 c59
      exact x_sub [1, 2, 0] rfl (t_Ch_complete_66 G C0 hR hr hlk  _ _ _ _ hwp)
    · replace hwp := hwp.2 c59
      refine x_iconst (v := 1) C0 d_Ch_complete_62 (by decide) ?_
      refine x_goto (tgt := 67) C0 d_Ch_complete_63 (by decide) ?_
      exact x_sub [1, 2, 0] rfl (t_Ch_complete_67 G C0 hR hr hlk  _ _ _ _ _ hwp)
set_option maxRecDepth 100000 in
set_option maxHeartbeats 4000000 in
theorem t_Ch_complete_42 {p : Program} {l : Launch} {e : Env} {R : Room} {s : State} {m : MethodId} {args : Array Value} {below : List Frame} {meth : Method} {c : Code} (G : mG) (C0 : Cx G p s m args c prog_2_method_6_code 5 "BassRealiser$Chord") (hR : 1 ≤ R.frames ∧ 21 ≤ R.locals ∧ 0 ≤ R.cells ∧ 0 ≤ R.slots) (hr : meth.sig.returnType = some .int) (hlk : meth.locks = false) {Post : Int32 → MH → Prop} (l0 : Int32) (l1 : Int32) (h : MH) (hwp : wp_Ch_complete_42 Post l0 l1 h) : WG p l e R s m args below meth c 0 0 (MQ below (va_Qi Post (Wd G) (mA G)) args s 0 0 (mA G)) G 5 [(0, .int l0), (1, .int l1)] 42 [] h := by
  unfold wp_Ch_complete_42 at hwp
  refine x_iconst (v := 0) C0 d_Ch_complete_42 (by decide) ?_
  exact x_sub [0, 1] rfl (t_Ch_complete_43 G C0 hR hr hlk  _ _ _ _ hwp)
set_option maxRecDepth 100000 in
set_option maxHeartbeats 4000000 in
theorem t_Ch_complete_21 {p : Program} {l : Launch} {e : Env} {R : Room} {s : State} {m : MethodId} {args : Array Value} {below : List Frame} {meth : Method} {c : Code} (G : mG) (C0 : Cx G p s m args c prog_2_method_6_code 5 "BassRealiser$Chord") (hR : 1 ≤ R.frames ∧ 21 ≤ R.locals ∧ 0 ≤ R.cells ∧ 0 ≤ R.slots) (hr : meth.sig.returnType = some .int) (hlk : meth.locks = false) {Post : Int32 → MH → Prop} (l0 : Int32) (y0 : Int32) (h : MH) (hwp : wp_Ch_complete_21 Post l0 y0 h) : WG p l e R s m args below meth c 0 0 (MQ below (va_Qi Post (Wd G) (mA G)) args s 0 0 (mA G)) G 5 [(0, .int l0)] 21 [.int y0] h := by
  unfold wp_Ch_complete_21 at hwp
  refine x_istore_n C0 d_Ch_complete_21 rfl (by decide) (lv' := [(1, .int y0), (0, .int l0)]) rfl ?_
  refine x_iload_n C0 1 d_Ch_complete_22 rfl rfl ?_
  refine x_iconst (v := 3) C0 d_Ch_complete_23 (by decide) ?_
  refine x_callSi0 (As := [.int l0, .int (3 : Int32)]) (st := []) C0 (c_Ch_has l G hwp) kw_1_236 mk_Ch_has kw_1_237 rfl (Nat.le_of_ble_eq_true rfl) rfl rfl ⟨Nat.le_trans (by decide) hR.1, Nat.le_trans (by decide) hR.2.1⟩ ⟨Nat.zero_le _, Nat.zero_le _⟩ rfl d_Ch_complete_24 (fun r24 h24 hwp => ?_)
  refine x_if_eq (tgt := 42) C0 d_Ch_complete_27 (by decide) (fun c27 => ?_) (fun c27 => ?_)
  · replace hwp := hwp.1 c27
    exact x_sub [1, 0] rfl (t_Ch_complete_42 G C0 hR hr hlk  _ _ _ hwp)
  · replace hwp := hwp.2 c27
    refine x_iload_n C0 1 d_Ch_complete_30 rfl rfl ?_
    refine x_iconst (v := 4) C0 d_Ch_complete_31 (by decide) ?_
    refine x_callSi0 (As := [.int l0, .int (4 : Int32)]) (st := []) C0 (c_Ch_has l G hwp) kw_1_236 mk_Ch_has kw_1_237 rfl (Nat.le_of_ble_eq_true rfl) rfl rfl ⟨Nat.le_trans (by decide) hR.1, Nat.le_trans (by decide) hR.2.1⟩ ⟨Nat.zero_le _, Nat.zero_le _⟩ rfl d_Ch_complete_32 (fun r32 h32 hwp => ?_)
    refine x_if_eq (tgt := 42) C0 d_Ch_complete_35 (by decide) (fun c35 => ?_) (fun c35 => ?_)
    · replace hwp := hwp.1 c35
      exact x_sub [1, 0] rfl (t_Ch_complete_42 G C0 hR hr hlk  _ _ _ hwp)
    · replace hwp := hwp.2 c35
      refine x_iconst (v := 1) C0 d_Ch_complete_38 (by decide) ?_
      refine x_goto (tgt := 43) C0 d_Ch_complete_39 (by decide) ?_
      exact x_sub [1, 0] rfl (t_Ch_complete_43 G C0 hR hr hlk  _ _ _ _ hwp)
set_option maxRecDepth 100000 in
set_option maxHeartbeats 4000000 in
theorem t_Ch_complete_20 {p : Program} {l : Launch} {e : Env} {R : Room} {s : State} {m : MethodId} {args : Array Value} {below : List Frame} {meth : Method} {c : Code} (G : mG) (C0 : Cx G p s m args c prog_2_method_6_code 5 "BassRealiser$Chord") (hR : 1 ≤ R.frames ∧ 21 ≤ R.locals ∧ 0 ≤ R.cells ∧ 0 ≤ R.slots) (hr : meth.sig.returnType = some .int) (hlk : meth.locks = false) {Post : Int32 → MH → Prop} (l0 : Int32) (h : MH) (hwp : wp_Ch_complete_20 Post l0 h) : WG p l e R s m args below meth c 0 0 (MQ below (va_Qi Post (Wd G) (mA G)) args s 0 0 (mA G)) G 5 [(0, .int l0)] 20 [] h := by
  unfold wp_Ch_complete_20 at hwp
  refine x_iconst (v := 0) C0 d_Ch_complete_20 (by decide) ?_
  exact x_sub [0] rfl (t_Ch_complete_21 G C0 hR hr hlk  _ _ _ hwp)
set_option maxRecDepth 100000 in
set_option maxHeartbeats 4000000 in
theorem t_Ch_complete {p : Program} {l : Launch} {e : Env} {R : Room} {s : State} {m : MethodId} {args : Array Value} {below : List Frame} {meth : Method} {c : Code} (G : mG) (C0 : Cx G p s m args c prog_2_method_6_code 5 "BassRealiser$Chord") (hR : 1 ≤ R.frames ∧ 21 ≤ R.locals ∧ 0 ≤ R.cells ∧ 0 ≤ R.slots) (hr : meth.sig.returnType = some .int) (hlk : meth.locks = false) {Post : Int32 → MH → Prop} (l0 : Int32) (h : MH) (hwp : wp_Ch_complete Post l0 h) : WG p l e R s m args below meth c 0 0 (MQ below (va_Qi Post (Wd G) (mA G)) args s 0 0 (mA G)) G 5 [(0, .int l0)] 0 [] h := by
  unfold wp_Ch_complete at hwp
  refine x_iload_n C0 0 d_Ch_complete_0 rfl rfl ?_
  refine x_iconst (v := 2) C0 d_Ch_complete_1 (by decide) ?_
  refine x_callSi0 (As := [.int l0, .int (2 : Int32)]) (st := []) C0 (c_Ch_has l G hwp) kw_1_236 mk_Ch_has kw_1_237 rfl (Nat.le_of_ble_eq_true rfl) rfl rfl ⟨Nat.le_trans (by decide) hR.1, Nat.le_trans (by decide) hR.2.1⟩ ⟨Nat.zero_le _, Nat.zero_le _⟩ rfl d_Ch_complete_2 (fun r2 h2 hwp => ?_)
  refine x_if_eq (tgt := 20) C0 d_Ch_complete_5 (by decide) (fun c5 => ?_) (fun c5 => ?_)
  · replace hwp := hwp.1 c5
    exact x_sub [0] rfl (t_Ch_complete_20 G C0 hR hr hlk  _ _ hwp)
  · replace hwp := hwp.2 c5
    refine x_iload_n C0 0 d_Ch_complete_8 rfl rfl ?_
    refine x_iconst (v := 5) C0 d_Ch_complete_9 (by decide) ?_
    refine x_callSi0 (As := [.int l0, .int (5 : Int32)]) (st := []) C0 (c_Ch_has l G hwp) kw_1_236 mk_Ch_has kw_1_237 rfl (Nat.le_of_ble_eq_true rfl) rfl rfl ⟨Nat.le_trans (by decide) hR.1, Nat.le_trans (by decide) hR.2.1⟩ ⟨Nat.zero_le _, Nat.zero_le _⟩ rfl d_Ch_complete_10 (fun r10 h10 hwp => ?_)
    refine x_if_ne (tgt := 20) C0 d_Ch_complete_13 (by decide) (fun c13 => ?_) (fun c13 => ?_)
    · replace hwp := hwp.1 c13
      exact x_sub [0] rfl (t_Ch_complete_20 G C0 hR hr hlk  _ _ hwp)
    · replace hwp := hwp.2 c13
      refine x_iconst (v := 1) C0 d_Ch_complete_16 (by decide) ?_
      refine x_goto (tgt := 21) C0 d_Ch_complete_17 (by decide) ?_
      exact x_sub [0] rfl (t_Ch_complete_21 G C0 hR hr hlk  _ _ _ hwp)
set_option maxRecDepth 100000 in
set_option maxHeartbeats 4000000 in
theorem c_Ch_complete (l : Launch) (G : mG) {Post : Int32 → MH → Prop} {l0 : Int32} {h : MH} (hwp : wp_Ch_complete Post l0 h) : Met l y_Ch_complete (Cond.code y_Ch_complete prog_2_method_6_code 5 (Option.some Jvm.ClassFile.FieldType.int) :: lw_good) ({ frames := 1, cells := 0, slots := 0, locals := 21 }) (va_Pc [.int l0] (Wd G h)) (va_Qi Post (Wd G) (mA G)) 0 0 (mA G) := by
  refine Met.ofW (cc := prog_2_method_6_code) (maxL := 5) (ret := (Option.some Jvm.ClassFile.FieldType.int)) (by decide +kernel) rfl ?_
  intro p e s m args below meth c s₁ B hml hv
  obtain ⟨rfl, hP, hz, hK, hSt⟩ := hv
  have hts := atoms_spec (ws := Cond.code y_Ch_complete prog_2_method_6_code 5 (Option.some Jvm.ClassFile.FieldType.int) :: lw_good) B.pre
  have C0 : Cx G p s m ([.int l0] : List Value).toArray c prog_2_method_6_code 5 "BassRealiser$Chord" := ⟨⟨B.exec, B.bytes, hml, findClass_of_methodNamed B.named, fun w h => hts w (List.mem_cons_of_mem _ h)⟩, hK, hSt, by rw [hz]; exact Nat.le_add_right _ _⟩
  have hl := lv_entry ([.int l0]) (n := 5) (Nat.le_of_ble_eq_true rfl)
  rw [lg_entry_eq]
  exact t_Ch_complete G C0 ⟨Nat.le_refl _, Nat.le_refl _, Nat.le_refl _, Nat.le_refl _⟩ B.returns B.notSynchronized _ _ hwp _ _ _ ⟨hP, hz, va_S.rf⟩ hl
