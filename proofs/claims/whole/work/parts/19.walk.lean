theorem d_Mv_arrive_0 : decode prog_4_method_3_code 0 = .ok (.iconst 0, 1) := by decide +kernel
theorem d_Mv_arrive_1 : decode prog_4_method_3_code 1 = .ok (.istore_n 3, 1) := by decide +kernel
theorem d_Mv_arrive_2 : decode prog_4_method_3_code 2 = .ok (.iload_n 3, 1) := by decide +kernel
theorem d_Mv_arrive_3 : decode prog_4_method_3_code 3 = .ok (.iconst 3, 1) := by decide +kernel
theorem d_Mv_arrive_4 : decode prog_4_method_3_code 4 = .ok (.if_icmp .ge 39, 3) := by decide +kernel
theorem d_Mv_arrive_7 : decode prog_4_method_3_code 7 = .ok (.aload_n 0, 1) := by decide +kernel
theorem d_Mv_arrive_8 : decode prog_4_method_3_code 8 = .ok (.getfield 15, 3) := by decide +kernel
theorem d_Mv_arrive_11 : decode prog_4_method_3_code 11 = .ok (.iload_n 3, 1) := by decide +kernel
theorem d_Mv_arrive_12 : decode prog_4_method_3_code 12 = .ok (.iload_n 2, 1) := by decide +kernel
theorem d_Mv_arrive_13 : decode prog_4_method_3_code 13 = .ok (.iload_n 3, 1) := by decide +kernel
theorem d_Mv_arrive_14 : decode prog_4_method_3_code 14 = .ok (.invokestatic 21, 3) := by decide +kernel
theorem d_Mv_arrive_17 : decode prog_4_method_3_code 17 = .ok (.iastore, 1) := by decide +kernel
theorem d_Mv_arrive_18 : decode prog_4_method_3_code 18 = .ok (.aload_n 0, 1) := by decide +kernel
theorem d_Mv_arrive_19 : decode prog_4_method_3_code 19 = .ok (.getfield 18, 3) := by decide +kernel
theorem d_Mv_arrive_22 : decode prog_4_method_3_code 22 = .ok (.iload_n 3, 1) := by decide +kernel
theorem d_Mv_arrive_23 : decode prog_4_method_3_code 23 = .ok (.aload_n 0, 1) := by decide +kernel
theorem d_Mv_arrive_24 : decode prog_4_method_3_code 24 = .ok (.getfield 15, 3) := by decide +kernel
theorem d_Mv_arrive_27 : decode prog_4_method_3_code 27 = .ok (.iload_n 3, 1) := by decide +kernel
theorem d_Mv_arrive_28 : decode prog_4_method_3_code 28 = .ok (.iaload, 1) := by decide +kernel
theorem d_Mv_arrive_29 : decode prog_4_method_3_code 29 = .ok (.aload_n 0, 1) := by decide +kernel
theorem d_Mv_arrive_30 : decode prog_4_method_3_code 30 = .ok (.getfield 11, 3) := by decide +kernel
theorem d_Mv_arrive_33 : decode prog_4_method_3_code 33 = .ok (.iload_n 3, 1) := by decide +kernel
theorem d_Mv_arrive_34 : decode prog_4_method_3_code 34 = .ok (.iaload, 1) := by decide +kernel
theorem d_Mv_arrive_35 : decode prog_4_method_3_code 35 = .ok (.isub, 1) := by decide +kernel
theorem d_Mv_arrive_36 : decode prog_4_method_3_code 36 = .ok (.iastore, 1) := by decide +kernel
theorem d_Mv_arrive_37 : decode prog_4_method_3_code 37 = .ok (.iinc 3 1, 3) := by decide +kernel
theorem d_Mv_arrive_40 : decode prog_4_method_3_code 40 = .ok (.goto (-38), 3) := by decide +kernel
theorem d_Mv_arrive_43 : decode prog_4_method_3_code 43 = .ok (.aload_n 0, 1) := by decide +kernel
theorem d_Mv_arrive_44 : decode prog_4_method_3_code 44 = .ok (.getfield 15, 3) := by decide +kernel
theorem d_Mv_arrive_47 : decode prog_4_method_3_code 47 = .ok (.iconst 3, 1) := by decide +kernel
theorem d_Mv_arrive_48 : decode prog_4_method_3_code 48 = .ok (.aload_n 1, 1) := by decide +kernel
theorem d_Mv_arrive_49 : decode prog_4_method_3_code 49 = .ok (.getfield 25, 3) := by decide +kernel
theorem d_Mv_arrive_52 : decode prog_4_method_3_code 52 = .ok (.iastore, 1) := by decide +kernel
theorem d_Mv_arrive_53 : decode prog_4_method_3_code 53 = .ok (.aload_n 0, 1) := by decide +kernel
theorem d_Mv_arrive_54 : decode prog_4_method_3_code 54 = .ok (.getfield 18, 3) := by decide +kernel
theorem d_Mv_arrive_57 : decode prog_4_method_3_code 57 = .ok (.iconst 3, 1) := by decide +kernel
theorem d_Mv_arrive_58 : decode prog_4_method_3_code 58 = .ok (.aload_n 0, 1) := by decide +kernel
theorem d_Mv_arrive_59 : decode prog_4_method_3_code 59 = .ok (.getfield 15, 3) := by decide +kernel
theorem d_Mv_arrive_62 : decode prog_4_method_3_code 62 = .ok (.iconst 3, 1) := by decide +kernel
theorem d_Mv_arrive_63 : decode prog_4_method_3_code 63 = .ok (.iaload, 1) := by decide +kernel
theorem d_Mv_arrive_64 : decode prog_4_method_3_code 64 = .ok (.aload_n 0, 1) := by decide +kernel
theorem d_Mv_arrive_65 : decode prog_4_method_3_code 65 = .ok (.getfield 11, 3) := by decide +kernel
theorem d_Mv_arrive_68 : decode prog_4_method_3_code 68 = .ok (.iconst 3, 1) := by decide +kernel
theorem d_Mv_arrive_69 : decode prog_4_method_3_code 69 = .ok (.iaload, 1) := by decide +kernel
theorem d_Mv_arrive_70 : decode prog_4_method_3_code 70 = .ok (.isub, 1) := by decide +kernel
theorem d_Mv_arrive_71 : decode prog_4_method_3_code 71 = .ok (.iastore, 1) := by decide +kernel
theorem d_Mv_arrive_72 : decode prog_4_method_3_code 72 = .ok (.aload_n 0, 1) := by decide +kernel
theorem d_Mv_arrive_73 : decode prog_4_method_3_code 73 = .ok (.aload_n 1, 1) := by decide +kernel
theorem d_Mv_arrive_74 : decode prog_4_method_3_code 74 = .ok (.getfield 31, 3) := by decide +kernel
theorem d_Mv_arrive_77 : decode prog_4_method_3_code 77 = .ok (.putfield 43, 3) := by decide +kernel
theorem d_Mv_arrive_80 : decode prog_4_method_3_code 80 = .ok (.return_, 1) := by decide +kernel
theorem d_Mv_leaps_0 : decode prog_4_method_6_code 0 = .ok (.iconst 0, 1) := by decide +kernel
theorem d_Mv_leaps_1 : decode prog_4_method_6_code 1 = .ok (.istore_n 2, 1) := by decide +kernel
theorem d_Mv_leaps_2 : decode prog_4_method_6_code 2 = .ok (.iload_n 2, 1) := by decide +kernel
theorem d_Mv_leaps_3 : decode prog_4_method_6_code 3 = .ok (.iconst 3, 1) := by decide +kernel
theorem d_Mv_leaps_4 : decode prog_4_method_6_code 4 = .ok (.if_icmp .ge 24, 3) := by decide +kernel
theorem d_Mv_leaps_7 : decode prog_4_method_6_code 7 = .ok (.aload_n 0, 1) := by decide +kernel
theorem d_Mv_leaps_8 : decode prog_4_method_6_code 8 = .ok (.getfield 18, 3) := by decide +kernel
theorem d_Mv_leaps_11 : decode prog_4_method_6_code 11 = .ok (.iload_n 2, 1) := by decide +kernel
theorem d_Mv_leaps_12 : decode prog_4_method_6_code 12 = .ok (.iaload, 1) := by decide +kernel
theorem d_Mv_leaps_13 : decode prog_4_method_6_code 13 = .ok (.invokestatic 46, 3) := by decide +kernel
theorem d_Mv_leaps_16 : decode prog_4_method_6_code 16 = .ok (.iload_n 1, 1) := by decide +kernel
theorem d_Mv_leaps_17 : decode prog_4_method_6_code 17 = .ok (.if_icmp .le 5, 3) := by decide +kernel
theorem d_Mv_leaps_20 : decode prog_4_method_6_code 20 = .ok (.iconst 1, 1) := by decide +kernel
theorem d_Mv_leaps_21 : decode prog_4_method_6_code 21 = .ok (.ireturn, 1) := by decide +kernel
theorem d_Mv_leaps_22 : decode prog_4_method_6_code 22 = .ok (.iinc 2 1, 3) := by decide +kernel
theorem d_Mv_leaps_25 : decode prog_4_method_6_code 25 = .ok (.goto (-23), 3) := by decide +kernel
theorem d_Mv_leaps_28 : decode prog_4_method_6_code 28 = .ok (.iconst 0, 1) := by decide +kernel
theorem d_Mv_leaps_29 : decode prog_4_method_6_code 29 = .ok (.ireturn, 1) := by decide +kernel
theorem d_Mv_parallel_0 : decode prog_4_method_8_code 0 = .ok (.aload_n 0, 1) := by decide +kernel
theorem d_Mv_parallel_1 : decode prog_4_method_8_code 1 = .ok (.getfield 18, 3) := by decide +kernel
theorem d_Mv_parallel_4 : decode prog_4_method_8_code 4 = .ok (.iload_n 1, 1) := by decide +kernel
theorem d_Mv_parallel_5 : decode prog_4_method_8_code 5 = .ok (.iaload, 1) := by decide +kernel
theorem d_Mv_parallel_6 : decode prog_4_method_8_code 6 = .ok (.aload_n 0, 1) := by decide +kernel
theorem d_Mv_parallel_7 : decode prog_4_method_8_code 7 = .ok (.getfield 18, 3) := by decide +kernel
theorem d_Mv_parallel_10 : decode prog_4_method_8_code 10 = .ok (.iload_n 2, 1) := by decide +kernel
theorem d_Mv_parallel_11 : decode prog_4_method_8_code 11 = .ok (.iaload, 1) := by decide +kernel
theorem d_Mv_parallel_12 : decode prog_4_method_8_code 12 = .ok (.isub, 1) := by decide +kernel
theorem d_Mv_parallel_13 : decode prog_4_method_8_code 13 = .ok (.bipush 12, 2) := by decide +kernel
theorem d_Mv_parallel_15 : decode prog_4_method_8_code 15 = .ok (.irem, 1) := by decide +kernel
theorem d_Mv_parallel_16 : decode prog_4_method_8_code 16 = .ok (.ifCond .eq 5, 3) := by decide +kernel
theorem d_Mv_parallel_19 : decode prog_4_method_8_code 19 = .ok (.iconst 0, 1) := by decide +kernel
theorem d_Mv_parallel_20 : decode prog_4_method_8_code 20 = .ok (.ireturn, 1) := by decide +kernel
theorem d_Mv_parallel_21 : decode prog_4_method_8_code 21 = .ok (.aload_n 0, 1) := by decide +kernel
theorem d_Mv_parallel_22 : decode prog_4_method_8_code 22 = .ok (.getfield 15, 3) := by decide +kernel
theorem d_Mv_parallel_25 : decode prog_4_method_8_code 25 = .ok (.iload_n 1, 1) := by decide +kernel
theorem d_Mv_parallel_26 : decode prog_4_method_8_code 26 = .ok (.iaload, 1) := by decide +kernel
theorem d_Mv_parallel_27 : decode prog_4_method_8_code 27 = .ok (.aload_n 0, 1) := by decide +kernel
theorem d_Mv_parallel_28 : decode prog_4_method_8_code 28 = .ok (.getfield 15, 3) := by decide +kernel
theorem d_Mv_parallel_31 : decode prog_4_method_8_code 31 = .ok (.iload_n 2, 1) := by decide +kernel
theorem d_Mv_parallel_32 : decode prog_4_method_8_code 32 = .ok (.iaload, 1) := by decide +kernel
theorem d_Mv_parallel_33 : decode prog_4_method_8_code 33 = .ok (.isub, 1) := by decide +kernel
theorem d_Mv_parallel_34 : decode prog_4_method_8_code 34 = .ok (.istore_n 3, 1) := by decide +kernel
theorem d_Mv_parallel_35 : decode prog_4_method_8_code 35 = .ok (.iload_n 3, 1) := by decide +kernel
theorem d_Mv_parallel_36 : decode prog_4_method_8_code 36 = .ok (.bipush 12, 2) := by decide +kernel
theorem d_Mv_parallel_38 : decode prog_4_method_8_code 38 = .ok (.irem, 1) := by decide +kernel
theorem d_Mv_parallel_39 : decode prog_4_method_8_code 39 = .ok (.ifCond .eq 13, 3) := by decide +kernel
theorem d_Mv_parallel_42 : decode prog_4_method_8_code 42 = .ok (.iload_n 3, 1) := by decide +kernel
theorem d_Mv_parallel_43 : decode prog_4_method_8_code 43 = .ok (.bipush 7, 2) := by decide +kernel
theorem d_Mv_parallel_45 : decode prog_4_method_8_code 45 = .ok (.isub, 1) := by decide +kernel
theorem d_Mv_parallel_46 : decode prog_4_method_8_code 46 = .ok (.bipush 12, 2) := by decide +kernel
theorem d_Mv_parallel_48 : decode prog_4_method_8_code 48 = .ok (.irem, 1) := by decide +kernel
theorem d_Mv_parallel_49 : decode prog_4_method_8_code 49 = .ok (.ifCond .ne 7, 3) := by decide +kernel
theorem d_Mv_parallel_52 : decode prog_4_method_8_code 52 = .ok (.iconst 1, 1) := by decide +kernel
theorem d_Mv_parallel_53 : decode prog_4_method_8_code 53 = .ok (.goto 4, 3) := by decide +kernel
theorem d_Mv_parallel_56 : decode prog_4_method_8_code 56 = .ok (.iconst 0, 1) := by decide +kernel
theorem d_Mv_parallel_57 : decode prog_4_method_8_code 57 = .ok (.ireturn, 1) := by decide +kernel
theorem d_Mv_hasParallels_0 : decode prog_4_method_7_code 0 = .ok (.iconst 0, 1) := by decide +kernel
theorem d_Mv_hasParallels_1 : decode prog_4_method_7_code 1 = .ok (.istore_n 1, 1) := by decide +kernel
theorem d_Mv_hasParallels_2 : decode prog_4_method_7_code 2 = .ok (.iload_n 1, 1) := by decide +kernel
theorem d_Mv_hasParallels_3 : decode prog_4_method_7_code 3 = .ok (.iconst 3, 1) := by decide +kernel
theorem d_Mv_hasParallels_4 : decode prog_4_method_7_code 4 = .ok (.if_icmp .ge 56, 3) := by decide +kernel
theorem d_Mv_hasParallels_7 : decode prog_4_method_7_code 7 = .ok (.aload_n 0, 1) := by decide +kernel
theorem d_Mv_hasParallels_8 : decode prog_4_method_7_code 8 = .ok (.getfield 18, 3) := by decide +kernel
theorem d_Mv_hasParallels_11 : decode prog_4_method_7_code 11 = .ok (.iload_n 1, 1) := by decide +kernel
theorem d_Mv_hasParallels_12 : decode prog_4_method_7_code 12 = .ok (.iaload, 1) := by decide +kernel
theorem d_Mv_hasParallels_13 : decode prog_4_method_7_code 13 = .ok (.ifCond .ne 6, 3) := by decide +kernel
theorem d_Mv_hasParallels_16 : decode prog_4_method_7_code 16 = .ok (.goto 38, 3) := by decide +kernel
theorem d_Mv_hasParallels_19 : decode prog_4_method_7_code 19 = .ok (.iload_n 1, 1) := by decide +kernel
theorem d_Mv_hasParallels_20 : decode prog_4_method_7_code 20 = .ok (.iconst 1, 1) := by decide +kernel
theorem d_Mv_hasParallels_21 : decode prog_4_method_7_code 21 = .ok (.iadd, 1) := by decide +kernel
theorem d_Mv_hasParallels_22 : decode prog_4_method_7_code 22 = .ok (.istore_n 2, 1) := by decide +kernel
theorem d_Mv_hasParallels_23 : decode prog_4_method_7_code 23 = .ok (.iload_n 2, 1) := by decide +kernel
theorem d_Mv_hasParallels_24 : decode prog_4_method_7_code 24 = .ok (.iconst 4, 1) := by decide +kernel
theorem d_Mv_hasParallels_25 : decode prog_4_method_7_code 25 = .ok (.if_icmp .ge 29, 3) := by decide +kernel
theorem d_Mv_hasParallels_28 : decode prog_4_method_7_code 28 = .ok (.aload_n 0, 1) := by decide +kernel
theorem d_Mv_hasParallels_29 : decode prog_4_method_7_code 29 = .ok (.getfield 18, 3) := by decide +kernel
theorem d_Mv_hasParallels_32 : decode prog_4_method_7_code 32 = .ok (.iload_n 2, 1) := by decide +kernel
theorem d_Mv_hasParallels_33 : decode prog_4_method_7_code 33 = .ok (.iaload, 1) := by decide +kernel
theorem d_Mv_hasParallels_34 : decode prog_4_method_7_code 34 = .ok (.ifCond .eq 14, 3) := by decide +kernel
theorem d_Mv_hasParallels_37 : decode prog_4_method_7_code 37 = .ok (.aload_n 0, 1) := by decide +kernel
theorem d_Mv_hasParallels_38 : decode prog_4_method_7_code 38 = .ok (.iload_n 1, 1) := by decide +kernel
theorem d_Mv_hasParallels_39 : decode prog_4_method_7_code 39 = .ok (.iload_n 2, 1) := by decide +kernel
theorem d_Mv_hasParallels_40 : decode prog_4_method_7_code 40 = .ok (.invokevirtual 66, 3) := by decide +kernel
theorem d_Mv_hasParallels_43 : decode prog_4_method_7_code 43 = .ok (.ifCond .eq 5, 3) := by decide +kernel
theorem d_Mv_hasParallels_46 : decode prog_4_method_7_code 46 = .ok (.iconst 1, 1) := by decide +kernel
theorem d_Mv_hasParallels_47 : decode prog_4_method_7_code 47 = .ok (.ireturn, 1) := by decide +kernel
theorem d_Mv_hasParallels_48 : decode prog_4_method_7_code 48 = .ok (.iinc 2 1, 3) := by decide +kernel
theorem d_Mv_hasParallels_51 : decode prog_4_method_7_code 51 = .ok (.goto (-28), 3) := by decide +kernel
theorem d_Mv_hasParallels_54 : decode prog_4_method_7_code 54 = .ok (.iinc 1 1, 3) := by decide +kernel
theorem d_Mv_hasParallels_57 : decode prog_4_method_7_code 57 = .ok (.goto (-55), 3) := by decide +kernel
theorem d_Mv_hasParallels_60 : decode prog_4_method_7_code 60 = .ok (.iconst 0, 1) := by decide +kernel
theorem d_Mv_hasParallels_61 : decode prog_4_method_7_code 61 = .ok (.ireturn, 1) := by decide +kernel
theorem d_Mv_unprepared_0 : decode prog_4_method_9_code 0 = .ok (.iconst 0, 1) := by decide +kernel
theorem d_Mv_unprepared_1 : decode prog_4_method_9_code 1 = .ok (.istore_n 1, 1) := by decide +kernel
theorem d_Mv_unprepared_2 : decode prog_4_method_9_code 2 = .ok (.iload_n 1, 1) := by decide +kernel
theorem d_Mv_unprepared_3 : decode prog_4_method_9_code 3 = .ok (.iconst 3, 1) := by decide +kernel
theorem d_Mv_unprepared_4 : decode prog_4_method_9_code 4 = .ok (.if_icmp .ge 37, 3) := by decide +kernel
theorem d_Mv_unprepared_7 : decode prog_4_method_9_code 7 = .ok (.aload_n 0, 1) := by decide +kernel
theorem d_Mv_unprepared_8 : decode prog_4_method_9_code 8 = .ok (.getfield 18, 3) := by decide +kernel
theorem d_Mv_unprepared_11 : decode prog_4_method_9_code 11 = .ok (.iload_n 1, 1) := by decide +kernel
theorem d_Mv_unprepared_12 : decode prog_4_method_9_code 12 = .ok (.iaload, 1) := by decide +kernel
theorem d_Mv_unprepared_13 : decode prog_4_method_9_code 13 = .ok (.ifCond .eq 22, 3) := by decide +kernel
theorem d_Mv_unprepared_16 : decode prog_4_method_9_code 16 = .ok (.aload_n 0, 1) := by decide +kernel
theorem d_Mv_unprepared_17 : decode prog_4_method_9_code 17 = .ok (.getfield 15, 3) := by decide +kernel
theorem d_Mv_unprepared_20 : decode prog_4_method_9_code 20 = .ok (.iload_n 1, 1) := by decide +kernel
theorem d_Mv_unprepared_21 : decode prog_4_method_9_code 21 = .ok (.iaload, 1) := by decide +kernel
theorem d_Mv_unprepared_22 : decode prog_4_method_9_code 22 = .ok (.invokestatic 70, 3) := by decide +kernel
theorem d_Mv_unprepared_25 : decode prog_4_method_9_code 25 = .ok (.aload_n 0, 1) := by decide +kernel
theorem d_Mv_unprepared_26 : decode prog_4_method_9_code 26 = .ok (.getfield 43, 3) := by decide +kernel
theorem d_Mv_unprepared_29 : decode prog_4_method_9_code 29 = .ok (.iand, 1) := by decide +kernel
theorem d_Mv_unprepared_30 : decode prog_4_method_9_code 30 = .ok (.ifCond .eq 5, 3) := by decide +kernel
theorem d_Mv_unprepared_33 : decode prog_4_method_9_code 33 = .ok (.iconst 1, 1) := by decide +kernel
theorem d_Mv_unprepared_34 : decode prog_4_method_9_code 34 = .ok (.ireturn, 1) := by decide +kernel
theorem d_Mv_unprepared_35 : decode prog_4_method_9_code 35 = .ok (.iinc 1 1, 3) := by decide +kernel
theorem d_Mv_unprepared_38 : decode prog_4_method_9_code 38 = .ok (.goto (-36), 3) := by decide +kernel
theorem d_Mv_unprepared_41 : decode prog_4_method_9_code 41 = .ok (.iconst 0, 1) := by decide +kernel
theorem d_Mv_unprepared_42 : decode prog_4_method_9_code 42 = .ok (.ireturn, 1) := by decide +kernel
theorem d_Mv_unresolved_0 : decode prog_4_method_10_code 0 = .ok (.iconst 0, 1) := by decide +kernel
theorem d_Mv_unresolved_1 : decode prog_4_method_10_code 1 = .ok (.istore_n 1, 1) := by decide +kernel
theorem d_Mv_unresolved_2 : decode prog_4_method_10_code 2 = .ok (.iload_n 1, 1) := by decide +kernel
theorem d_Mv_unresolved_3 : decode prog_4_method_10_code 3 = .ok (.iconst 3, 1) := by decide +kernel
theorem d_Mv_unresolved_4 : decode prog_4_method_10_code 4 = .ok (.if_icmp .ge 71, 3) := by decide +kernel
theorem d_Mv_unresolved_7 : decode prog_4_method_10_code 7 = .ok (.aload_n 0, 1) := by decide +kernel
theorem d_Mv_unresolved_8 : decode prog_4_method_10_code 8 = .ok (.getfield 11, 3) := by decide +kernel
theorem d_Mv_unresolved_11 : decode prog_4_method_10_code 11 = .ok (.iload_n 1, 1) := by decide +kernel
theorem d_Mv_unresolved_12 : decode prog_4_method_10_code 12 = .ok (.iaload, 1) := by decide +kernel
theorem d_Mv_unresolved_13 : decode prog_4_method_10_code 13 = .ok (.invokestatic 70, 3) := by decide +kernel
theorem d_Mv_unresolved_16 : decode prog_4_method_10_code 16 = .ok (.istore_n 2, 1) := by decide +kernel
theorem d_Mv_unresolved_17 : decode prog_4_method_10_code 17 = .ok (.iload_n 2, 1) := by decide +kernel
theorem d_Mv_unresolved_18 : decode prog_4_method_10_code 18 = .ok (.aload_n 0, 1) := by decide +kernel
theorem d_Mv_unresolved_19 : decode prog_4_method_10_code 19 = .ok (.getfield 34, 3) := by decide +kernel
theorem d_Mv_unresolved_22 : decode prog_4_method_10_code 22 = .ok (.iand, 1) := by decide +kernel
theorem d_Mv_unresolved_23 : decode prog_4_method_10_code 23 = .ok (.ifCond .eq 20, 3) := by decide +kernel
theorem d_Mv_unresolved_26 : decode prog_4_method_10_code 26 = .ok (.aload_n 0, 1) := by decide +kernel
theorem d_Mv_unresolved_27 : decode prog_4_method_10_code 27 = .ok (.getfield 18, 3) := by decide +kernel
theorem d_Mv_unresolved_30 : decode prog_4_method_10_code 30 = .ok (.iload_n 1, 1) := by decide +kernel
theorem d_Mv_unresolved_31 : decode prog_4_method_10_code 31 = .ok (.iaload, 1) := by decide +kernel
theorem d_Mv_unresolved_32 : decode prog_4_method_10_code 32 = .ok (.bipush (-2), 2) := by decide +kernel
theorem d_Mv_unresolved_34 : decode prog_4_method_10_code 34 = .ok (.iconst (-1), 1) := by decide +kernel
theorem d_Mv_unresolved_35 : decode prog_4_method_10_code 35 = .ok (.invokestatic 73, 3) := by decide +kernel
theorem d_Mv_unresolved_38 : decode prog_4_method_10_code 38 = .ok (.ifCond .ne 5, 3) := by decide +kernel
theorem d_Mv_unresolved_41 : decode prog_4_method_10_code 41 = .ok (.iconst 1, 1) := by decide +kernel
theorem d_Mv_unresolved_42 : decode prog_4_method_10_code 42 = .ok (.ireturn, 1) := by decide +kernel
theorem d_Mv_unresolved_43 : decode prog_4_method_10_code 43 = .ok (.iload_n 2, 1) := by decide +kernel
theorem d_Mv_unresolved_44 : decode prog_4_method_10_code 44 = .ok (.aload_n 0, 1) := by decide +kernel
theorem d_Mv_unresolved_45 : decode prog_4_method_10_code 45 = .ok (.getfield 40, 3) := by decide +kernel
theorem d_Mv_unresolved_48 : decode prog_4_method_10_code 48 = .ok (.iand, 1) := by decide +kernel
theorem d_Mv_unresolved_49 : decode prog_4_method_10_code 49 = .ok (.ifCond .eq 20, 3) := by decide +kernel
theorem d_Mv_unresolved_52 : decode prog_4_method_10_code 52 = .ok (.aload_n 0, 1) := by decide +kernel
theorem d_Mv_unresolved_53 : decode prog_4_method_10_code 53 = .ok (.getfield 18, 3) := by decide +kernel
theorem d_Mv_unresolved_56 : decode prog_4_method_10_code 56 = .ok (.iload_n 1, 1) := by decide +kernel
theorem d_Mv_unresolved_57 : decode prog_4_method_10_code 57 = .ok (.iaload, 1) := by decide +kernel
theorem d_Mv_unresolved_58 : decode prog_4_method_10_code 58 = .ok (.bipush (-2), 2) := by decide +kernel
theorem d_Mv_unresolved_60 : decode prog_4_method_10_code 60 = .ok (.iconst 0, 1) := by decide +kernel
theorem d_Mv_unresolved_61 : decode prog_4_method_10_code 61 = .ok (.invokestatic 73, 3) := by decide +kernel
theorem d_Mv_unresolved_64 : decode prog_4_method_10_code 64 = .ok (.ifCond .ne 5, 3) := by decide +kernel
theorem d_Mv_unresolved_67 : decode prog_4_method_10_code 67 = .ok (.iconst 1, 1) := by decide +kernel
theorem d_Mv_unresolved_68 : decode prog_4_method_10_code 68 = .ok (.ireturn, 1) := by decide +kernel
theorem d_Mv_unresolved_69 : decode prog_4_method_10_code 69 = .ok (.iinc 1 1, 3) := by decide +kernel
theorem d_Mv_unresolved_72 : decode prog_4_method_10_code 72 = .ok (.goto (-70), 3) := by decide +kernel
theorem d_Mv_unresolved_75 : decode prog_4_method_10_code 75 = .ok (.iconst 0, 1) := by decide +kernel
theorem d_Mv_unresolved_76 : decode prog_4_method_10_code 76 = .ok (.ireturn, 1) := by decide +kernel
theorem d_Mv_rule_0 : decode prog_4_method_5_code 0 = .ok (.aload_n 0, 1) := by decide +kernel
theorem d_Mv_rule_1 : decode prog_4_method_5_code 1 = .ok (.iload_n 1, 1) := by decide +kernel
theorem d_Mv_rule_2 : decode prog_4_method_5_code 2 = .ok (.invokevirtual 52, 3) := by decide +kernel
theorem d_Mv_rule_5 : decode prog_4_method_5_code 5 = .ok (.ifCond .eq 6, 3) := by decide +kernel
theorem d_Mv_rule_8 : decode prog_4_method_5_code 8 = .ok (.bipush 8, 2) := by decide +kernel
theorem d_Mv_rule_10 : decode prog_4_method_5_code 10 = .ok (.ireturn, 1) := by decide +kernel
theorem d_Mv_rule_11 : decode prog_4_method_5_code 11 = .ok (.aload_n 0, 1) := by decide +kernel
theorem d_Mv_rule_12 : decode prog_4_method_5_code 12 = .ok (.invokevirtual 56, 3) := by decide +kernel
theorem d_Mv_rule_15 : decode prog_4_method_5_code 15 = .ok (.ifCond .eq 6, 3) := by decide +kernel
theorem d_Mv_rule_18 : decode prog_4_method_5_code 18 = .ok (.bipush 9, 2) := by decide +kernel
theorem d_Mv_rule_20 : decode prog_4_method_5_code 20 = .ok (.ireturn, 1) := by decide +kernel
theorem d_Mv_rule_21 : decode prog_4_method_5_code 21 = .ok (.aload_n 0, 1) := by decide +kernel
theorem d_Mv_rule_22 : decode prog_4_method_5_code 22 = .ok (.getfield 43, 3) := by decide +kernel
theorem d_Mv_rule_25 : decode prog_4_method_5_code 25 = .ok (.ifCond .eq 13, 3) := by decide +kernel
theorem d_Mv_rule_28 : decode prog_4_method_5_code 28 = .ok (.aload_n 0, 1) := by decide +kernel
theorem d_Mv_rule_29 : decode prog_4_method_5_code 29 = .ok (.invokevirtual 60, 3) := by decide +kernel
theorem d_Mv_rule_32 : decode prog_4_method_5_code 32 = .ok (.ifCond .eq 6, 3) := by decide +kernel
theorem d_Mv_rule_35 : decode prog_4_method_5_code 35 = .ok (.bipush 10, 2) := by decide +kernel
theorem d_Mv_rule_37 : decode prog_4_method_5_code 37 = .ok (.ireturn, 1) := by decide +kernel
theorem d_Mv_rule_38 : decode prog_4_method_5_code 38 = .ok (.aload_n 0, 1) := by decide +kernel
theorem d_Mv_rule_39 : decode prog_4_method_5_code 39 = .ok (.getfield 34, 3) := by decide +kernel
theorem d_Mv_rule_42 : decode prog_4_method_5_code 42 = .ok (.aload_n 0, 1) := by decide +kernel
theorem d_Mv_rule_43 : decode prog_4_method_5_code 43 = .ok (.getfield 40, 3) := by decide +kernel
theorem d_Mv_rule_46 : decode prog_4_method_5_code 46 = .ok (.ior, 1) := by decide +kernel
theorem d_Mv_rule_47 : decode prog_4_method_5_code 47 = .ok (.ifCond .eq 15, 3) := by decide +kernel
theorem d_Mv_rule_50 : decode prog_4_method_5_code 50 = .ok (.aload_n 0, 1) := by decide +kernel
theorem d_Mv_rule_51 : decode prog_4_method_5_code 51 = .ok (.invokevirtual 63, 3) := by decide +kernel
theorem d_Mv_rule_54 : decode prog_4_method_5_code 54 = .ok (.ifCond .eq 8, 3) := by decide +kernel
theorem d_Mv_rule_57 : decode prog_4_method_5_code 57 = .ok (.bipush 11, 2) := by decide +kernel
theorem d_Mv_rule_59 : decode prog_4_method_5_code 59 = .ok (.goto 4, 3) := by decide +kernel
theorem d_Mv_rule_62 : decode prog_4_method_5_code 62 = .ok (.iconst 0, 1) := by decide +kernel
theorem d_Mv_rule_63 : decode prog_4_method_5_code 63 = .ok (.ireturn, 1) := by decide +kernel
theorem d_Se_reachable_0 : decode prog_6_method_8_code 0 = .ok (.aload_n 0, 1) := by decide +kernel
theorem d_Se_reachable_1 : decode prog_6_method_8_code 1 = .ok (.getfield 26, 3) := by decide +kernel
theorem d_Se_reachable_4 : decode prog_6_method_8_code 4 = .ok (.iload_n 1, 1) := by decide +kernel
theorem d_Se_reachable_5 : decode prog_6_method_8_code 5 = .ok (.iconst 1, 1) := by decide +kernel
theorem d_Se_reachable_6 : decode prog_6_method_8_code 6 = .ok (.isub, 1) := by decide +kernel
theorem d_Se_reachable_7 : decode prog_6_method_8_code 7 = .ok (.aaload, 1) := by decide +kernel
theorem d_Se_reachable_8 : decode prog_6_method_8_code 8 = .ok (.astore_n 3, 1) := by decide +kernel
theorem d_Se_reachable_9 : decode prog_6_method_8_code 9 = .ok (.iconst 0, 1) := by decide +kernel
theorem d_Se_reachable_10 : decode prog_6_method_8_code 10 = .ok (.istore 4, 2) := by decide +kernel
theorem d_Se_reachable_12 : decode prog_6_method_8_code 12 = .ok (.iload 4, 2) := by decide +kernel
theorem d_Se_reachable_14 : decode prog_6_method_8_code 14 = .ok (.aload_n 3, 1) := by decide +kernel
theorem d_Se_reachable_15 : decode prog_6_method_8_code 15 = .ok (.getfield 87, 3) := by decide +kernel
theorem d_Se_reachable_18 : decode prog_6_method_8_code 18 = .ok (.if_icmp .ge 77, 3) := by decide +kernel
theorem d_Se_reachable_21 : decode prog_6_method_8_code 21 = .ok (.aload_n 3, 1) := by decide +kernel
theorem d_Se_reachable_22 : decode prog_6_method_8_code 22 = .ok (.getfield 93, 3) := by decide +kernel
theorem d_Se_reachable_25 : decode prog_6_method_8_code 25 = .ok (.iload 4, 2) := by decide +kernel
theorem d_Se_reachable_27 : decode prog_6_method_8_code 27 = .ok (.baload, 1) := by decide +kernel
theorem d_Se_reachable_28 : decode prog_6_method_8_code 28 = .ok (.ifCond .ne 6, 3) := by decide +kernel
theorem d_Se_reachable_31 : decode prog_6_method_8_code 31 = .ok (.goto 58, 3) := by decide +kernel
theorem d_Se_reachable_34 : decode prog_6_method_8_code 34 = .ok (.aload_n 0, 1) := by decide +kernel
theorem d_Se_reachable_35 : decode prog_6_method_8_code 35 = .ok (.getfield 35, 3) := by decide +kernel
theorem d_Se_reachable_38 : decode prog_6_method_8_code 38 = .ok (.aload_n 0, 1) := by decide +kernel
theorem d_Se_reachable_39 : decode prog_6_method_8_code 39 = .ok (.getfield 11, 3) := by decide +kernel
theorem d_Se_reachable_42 : decode prog_6_method_8_code 42 = .ok (.iload_n 1, 1) := by decide +kernel
theorem d_Se_reachable_43 : decode prog_6_method_8_code 43 = .ok (.iconst 1, 1) := by decide +kernel
theorem d_Se_reachable_44 : decode prog_6_method_8_code 44 = .ok (.isub, 1) := by decide +kernel
theorem d_Se_reachable_45 : decode prog_6_method_8_code 45 = .ok (.aaload, 1) := by decide +kernel
theorem d_Se_reachable_46 : decode prog_6_method_8_code 46 = .ok (.aload_n 3, 1) := by decide +kernel
theorem d_Se_reachable_47 : decode prog_6_method_8_code 47 = .ok (.getfield 90, 3) := by decide +kernel
theorem d_Se_reachable_50 : decode prog_6_method_8_code 50 = .ok (.iload 4, 2) := by decide +kernel
theorem d_Se_reachable_52 : decode prog_6_method_8_code 52 = .ok (.iaload, 1) := by decide +kernel
theorem d_Se_reachable_53 : decode prog_6_method_8_code 53 = .ok (.invokevirtual 105, 3) := by decide +kernel
theorem d_Se_reachable_56 : decode prog_6_method_8_code 56 = .ok (.aload_n 0, 1) := by decide +kernel
theorem d_Se_reachable_57 : decode prog_6_method_8_code 57 = .ok (.getfield 35, 3) := by decide +kernel
theorem d_Se_reachable_60 : decode prog_6_method_8_code 60 = .ok (.aload_n 0, 1) := by decide +kernel
theorem d_Se_reachable_61 : decode prog_6_method_8_code 61 = .ok (.getfield 11, 3) := by decide +kernel
theorem d_Se_reachable_64 : decode prog_6_method_8_code 64 = .ok (.iload_n 1, 1) := by decide +kernel
theorem d_Se_reachable_65 : decode prog_6_method_8_code 65 = .ok (.aaload, 1) := by decide +kernel
theorem d_Se_reachable_66 : decode prog_6_method_8_code 66 = .ok (.iload_n 2, 1) := by decide +kernel
theorem d_Se_reachable_67 : decode prog_6_method_8_code 67 = .ok (.invokevirtual 109, 3) := by decide +kernel
theorem d_Se_reachable_70 : decode prog_6_method_8_code 70 = .ok (.aload_n 0, 1) := by decide +kernel
theorem d_Se_reachable_71 : decode prog_6_method_8_code 71 = .ok (.getfield 35, 3) := by decide +kernel
theorem d_Se_reachable_74 : decode prog_6_method_8_code 74 = .ok (.aload_n 0, 1) := by decide +kernel
theorem d_Se_reachable_75 : decode prog_6_method_8_code 75 = .ok (.getfield 20, 3) := by decide +kernel
theorem d_Se_reachable_78 : decode prog_6_method_8_code 78 = .ok (.getfield 112, 3) := by decide +kernel
theorem d_Se_reachable_81 : decode prog_6_method_8_code 81 = .ok (.invokevirtual 115, 3) := by decide +kernel
theorem d_Se_reachable_84 : decode prog_6_method_8_code 84 = .ok (.ifCond .ne 5, 3) := by decide +kernel
theorem d_Se_reachable_87 : decode prog_6_method_8_code 87 = .ok (.iconst 1, 1) := by decide +kernel
theorem d_Se_reachable_88 : decode prog_6_method_8_code 88 = .ok (.ireturn, 1) := by decide +kernel
theorem d_Se_reachable_89 : decode prog_6_method_8_code 89 = .ok (.iinc 4 1, 3) := by decide +kernel
theorem d_Se_reachable_92 : decode prog_6_method_8_code 92 = .ok (.goto (-80), 3) := by decide +kernel
theorem d_Se_reachable_95 : decode prog_6_method_8_code 95 = .ok (.iconst 0, 1) := by decide +kernel
theorem d_Se_reachable_96 : decode prog_6_method_8_code 96 = .ok (.ireturn, 1) := by decide +kernel
theorem d_Se_reach_0 : decode prog_6_method_7_code 0 = .ok (.iconst 0, 1) := by decide +kernel
theorem d_Se_reach_1 : decode prog_6_method_7_code 1 = .ok (.istore_n 3, 1) := by decide +kernel
theorem d_Se_reach_2 : decode prog_6_method_7_code 2 = .ok (.iload_n 3, 1) := by decide +kernel
theorem d_Se_reach_3 : decode prog_6_method_7_code 3 = .ok (.aload_n 2, 1) := by decide +kernel
theorem d_Se_reach_4 : decode prog_6_method_7_code 4 = .ok (.getfield 87, 3) := by decide +kernel
theorem d_Se_reach_7 : decode prog_6_method_7_code 7 = .ok (.if_icmp .ge 60, 3) := by decide +kernel
theorem d_Se_reach_10 : decode prog_6_method_7_code 10 = .ok (.aload_n 2, 1) := by decide +kernel
theorem d_Se_reach_11 : decode prog_6_method_7_code 11 = .ok (.getfield 90, 3) := by decide +kernel
theorem d_Se_reach_14 : decode prog_6_method_7_code 14 = .ok (.iload_n 3, 1) := by decide +kernel
theorem d_Se_reach_15 : decode prog_6_method_7_code 15 = .ok (.iaload, 1) := by decide +kernel
theorem d_Se_reach_16 : decode prog_6_method_7_code 16 = .ok (.istore 4, 2) := by decide +kernel
theorem d_Se_reach_18 : decode prog_6_method_7_code 18 = .ok (.aload_n 2, 1) := by decide +kernel
theorem d_Se_reach_19 : decode prog_6_method_7_code 19 = .ok (.getfield 93, 3) := by decide +kernel
theorem d_Se_reach_22 : decode prog_6_method_7_code 22 = .ok (.iload_n 3, 1) := by decide +kernel
theorem d_Se_reach_23 : decode prog_6_method_7_code 23 = .ok (.iload_n 1, 1) := by decide +kernel
theorem d_Se_reach_24 : decode prog_6_method_7_code 24 = .ok (.ifCond .ne 29, 3) := by decide +kernel
theorem d_Se_reach_27 : decode prog_6_method_7_code 27 = .ok (.aload_n 0, 1) := by decide +kernel
theorem d_Se_reach_28 : decode prog_6_method_7_code 28 = .ok (.getfield 20, 3) := by decide +kernel
theorem d_Se_reach_31 : decode prog_6_method_7_code 31 = .ok (.aload_n 0, 1) := by decide +kernel
theorem d_Se_reach_32 : decode prog_6_method_7_code 32 = .ok (.getfield 11, 3) := by decide +kernel
theorem d_Se_reach_35 : decode prog_6_method_7_code 35 = .ok (.iconst 0, 1) := by decide +kernel
theorem d_Se_reach_36 : decode prog_6_method_7_code 36 = .ok (.aaload, 1) := by decide +kernel
theorem d_Se_reach_37 : decode prog_6_method_7_code 37 = .ok (.iload 4, 2) := by decide +kernel
theorem d_Se_reach_39 : decode prog_6_method_7_code 39 = .ok (.invokevirtual 97, 3) := by decide +kernel
theorem d_Se_reach_42 : decode prog_6_method_7_code 42 = .ok (.ifCond .ne 7, 3) := by decide +kernel
theorem d_Se_reach_45 : decode prog_6_method_7_code 45 = .ok (.iconst 1, 1) := by decide +kernel
theorem d_Se_reach_46 : decode prog_6_method_7_code 46 = .ok (.goto 14, 3) := by decide +kernel
theorem d_Se_reach_49 : decode prog_6_method_7_code 49 = .ok (.iconst 0, 1) := by decide +kernel
theorem d_Se_reach_50 : decode prog_6_method_7_code 50 = .ok (.goto 10, 3) := by decide +kernel
theorem d_Se_reach_53 : decode prog_6_method_7_code 53 = .ok (.aload_n 0, 1) := by decide +kernel
theorem d_Se_reach_54 : decode prog_6_method_7_code 54 = .ok (.iload_n 1, 1) := by decide +kernel
theorem d_Se_reach_55 : decode prog_6_method_7_code 55 = .ok (.iload 4, 2) := by decide +kernel
theorem d_Se_reach_57 : decode prog_6_method_7_code 57 = .ok (.invokevirtual 101, 3) := by decide +kernel
theorem d_Se_reach_60 : decode prog_6_method_7_code 60 = .ok (.bastore, 1) := by decide +kernel
theorem d_Se_reach_61 : decode prog_6_method_7_code 61 = .ok (.iinc 3 1, 3) := by decide +kernel
theorem d_Se_reach_64 : decode prog_6_method_7_code 64 = .ok (.goto (-62), 3) := by decide +kernel
theorem d_Se_reach_67 : decode prog_6_method_7_code 67 = .ok (.return_, 1) := by decide +kernel
theorem d_Co_reachedAtAll_0 : decode prog_3_method_4_code 0 = .ok (.iconst 0, 1) := by decide +kernel
theorem d_Co_reachedAtAll_1 : decode prog_3_method_4_code 1 = .ok (.istore_n 1, 1) := by decide +kernel
theorem d_Co_reachedAtAll_2 : decode prog_3_method_4_code 2 = .ok (.iload_n 1, 1) := by decide +kernel
theorem d_Co_reachedAtAll_3 : decode prog_3_method_4_code 3 = .ok (.aload_n 0, 1) := by decide +kernel
theorem d_Co_reachedAtAll_4 : decode prog_3_method_4_code 4 = .ok (.getfield 25, 3) := by decide +kernel
theorem d_Co_reachedAtAll_7 : decode prog_3_method_4_code 7 = .ok (.if_icmp .ge 20, 3) := by decide +kernel
theorem d_Co_reachedAtAll_10 : decode prog_3_method_4_code 10 = .ok (.aload_n 0, 1) := by decide +kernel
theorem d_Co_reachedAtAll_11 : decode prog_3_method_4_code 11 = .ok (.getfield 15, 3) := by decide +kernel
theorem d_Co_reachedAtAll_14 : decode prog_3_method_4_code 14 = .ok (.iload_n 1, 1) := by decide +kernel
theorem d_Co_reachedAtAll_15 : decode prog_3_method_4_code 15 = .ok (.baload, 1) := by decide +kernel
theorem d_Co_reachedAtAll_16 : decode prog_3_method_4_code 16 = .ok (.ifCond .eq 5, 3) := by decide +kernel
theorem d_Co_reachedAtAll_19 : decode prog_3_method_4_code 19 = .ok (.iconst 1, 1) := by decide +kernel
theorem d_Co_reachedAtAll_20 : decode prog_3_method_4_code 20 = .ok (.ireturn, 1) := by decide +kernel
theorem d_Co_reachedAtAll_21 : decode prog_3_method_4_code 21 = .ok (.iinc 1 1, 3) := by decide +kernel
theorem d_Co_reachedAtAll_24 : decode prog_3_method_4_code 24 = .ok (.goto (-22), 3) := by decide +kernel
theorem d_Co_reachedAtAll_27 : decode prog_3_method_4_code 27 = .ok (.iconst 0, 1) := by decide +kernel
theorem d_Co_reachedAtAll_28 : decode prog_3_method_4_code 28 = .ok (.ireturn, 1) := by decide +kernel
theorem d_Mv_length_0 : decode prog_4_method_4_code 0 = .ok (.aload_n 0, 1) := by decide +kernel
theorem d_Mv_length_1 : decode prog_4_method_4_code 1 = .ok (.getfield 18, 3) := by decide +kernel
theorem d_Mv_length_4 : decode prog_4_method_4_code 4 = .ok (.iconst 0, 1) := by decide +kernel
theorem d_Mv_length_5 : decode prog_4_method_4_code 5 = .ok (.iaload, 1) := by decide +kernel
theorem d_Mv_length_6 : decode prog_4_method_4_code 6 = .ok (.invokestatic 46, 3) := by decide +kernel
theorem d_Mv_length_9 : decode prog_4_method_4_code 9 = .ok (.aload_n 0, 1) := by decide +kernel
theorem d_Mv_length_10 : decode prog_4_method_4_code 10 = .ok (.getfield 18, 3) := by decide +kernel
theorem d_Mv_length_13 : decode prog_4_method_4_code 13 = .ok (.iconst 1, 1) := by decide +kernel
theorem d_Mv_length_14 : decode prog_4_method_4_code 14 = .ok (.iaload, 1) := by decide +kernel
theorem d_Mv_length_15 : decode prog_4_method_4_code 15 = .ok (.invokestatic 46, 3) := by decide +kernel
theorem d_Mv_length_18 : decode prog_4_method_4_code 18 = .ok (.iadd, 1) := by decide +kernel
theorem d_Mv_length_19 : decode prog_4_method_4_code 19 = .ok (.aload_n 0, 1) := by decide +kernel
theorem d_Mv_length_20 : decode prog_4_method_4_code 20 = .ok (.getfield 18, 3) := by decide +kernel
theorem d_Mv_length_23 : decode prog_4_method_4_code 23 = .ok (.iconst 2, 1) := by decide +kernel
theorem d_Mv_length_24 : decode prog_4_method_4_code 24 = .ok (.iaload, 1) := by decide +kernel
theorem d_Mv_length_25 : decode prog_4_method_4_code 25 = .ok (.invokestatic 46, 3) := by decide +kernel
theorem d_Mv_length_28 : decode prog_4_method_4_code 28 = .ok (.iadd, 1) := by decide +kernel
theorem d_Mv_length_29 : decode prog_4_method_4_code 29 = .ok (.ireturn, 1) := by decide +kernel
theorem d_Se_joined_0 : decode prog_6_method_11_code 0 = .ok (.iload_n 0, 1) := by decide +kernel
theorem d_Se_joined_1 : decode prog_6_method_11_code 1 = .ok (.iload_n 1, 1) := by decide +kernel
theorem d_Se_joined_2 : decode prog_6_method_11_code 2 = .ok (.iadd, 1) := by decide +kernel
theorem d_Se_joined_3 : decode prog_6_method_11_code 3 = .ok (.ldc 141, 2) := by decide +kernel
theorem d_Se_joined_5 : decode prog_6_method_11_code 5 = .ok (.invokestatic 132, 3) := by decide +kernel
theorem d_Se_joined_8 : decode prog_6_method_11_code 8 = .ok (.ireturn, 1) := by decide +kernel
def wb_Mv_arrive_2 (K2 : Nat → Nat → Int32 → Int32 → MH → Prop) (Post : MH → Prop) (l0 : Nat) (l1 : Nat) (l2 : Int32) (l3 : Int32) (h : MH) : Prop :=
  (((3 : Int32) ≤ l3) →
    (∃ x44 : Nat, gF h l0 2 1 = some (.inr (some x44)) ∧
      (∃ x49 : Int32, gF h l1 0 1 = some (.inl x49) ∧
        (∃ (n52 : Nat) (f52 : Nat → Int32), gA h x44 0 = some (n52, f52) ∧ vp_in (3 : Int32) n52 ∧ ∀ h52 : MH, h52 = mset h x44 (.inr (0, n52, .inl (upd f52 ((3 : Int32)).toNatClampNeg x49))) →
          (∃ x54 : Nat, gF h52 l0 2 2 = some (.inr (some x54)) ∧
            (∃ x59 : Nat, gF h52 l0 2 1 = some (.inr (some x59)) ∧
              (∃ (n63 : Nat) (f63 : Nat → Int32), gA h52 x59 0 = some (n63, f63) ∧ vp_in (3 : Int32) n63 ∧
                (∃ x65 : Nat, gF h52 l0 2 0 = some (.inr (some x65)) ∧
                  (∃ (n69 : Nat) (f69 : Nat → Int32), gA h52 x65 0 = some (n69, f69) ∧ vp_in (3 : Int32) n69 ∧
                    (∃ (n71 : Nat) (f71 : Nat → Int32), gA h52 x54 0 = some (n71, f71) ∧ vp_in (3 : Int32) n71 ∧ ∀ h71 : MH, h71 = mset h52 x54 (.inr (0, n71, .inl (upd f71 ((3 : Int32)).toNatClampNeg ((f63 ((3 : Int32)).toNatClampNeg) - (f69 ((3 : Int32)).toNatClampNeg))))) →
                      (∃ x74 : Int32, gF h71 l1 0 9 = some (.inl x74) ∧
                        ((∃ o : MV, gF h71 l0 2 5 = some o) ∧ ∀ h77 : MH, h77 = fset h71 l0 5 (.inl x74 : MV) →
                        (Post h77))))))))))))) ∧
  ((¬ (3 : Int32) ≤ l3) →
    (∃ x8 : Nat, gF h l0 2 1 = some (.inr (some x8)) ∧
      (wp_Br_pitchOf (fun (r14 : Int32) (h14 : MH) =>
          (∃ (n17 : Nat) (f17 : Nat → Int32), gA h14 x8 0 = some (n17, f17) ∧ vp_in l3 n17 ∧ ∀ h17 : MH, h17 = mset h14 x8 (.inr (0, n17, .inl (upd f17 (l3).toNatClampNeg r14))) →
            (∃ x19 : Nat, gF h17 l0 2 2 = some (.inr (some x19)) ∧
              (∃ x24 : Nat, gF h17 l0 2 1 = some (.inr (some x24)) ∧
                (∃ (n28 : Nat) (f28 : Nat → Int32), gA h17 x24 0 = some (n28, f28) ∧ vp_in l3 n28 ∧
                  (∃ x30 : Nat, gF h17 l0 2 0 = some (.inr (some x30)) ∧
                    (∃ (n34 : Nat) (f34 : Nat → Int32), gA h17 x30 0 = some (n34, f34) ∧ vp_in l3 n34 ∧
                      (∃ (n36 : Nat) (f36 : Nat → Int32), gA h17 x19 0 = some (n36, f36) ∧ vp_in l3 n36 ∧ ∀ h36 : MH, h36 = mset h17 x19 (.inr (0, n36, .inl (upd f36 (l3).toNatClampNeg ((f28 (l3).toNatClampNeg) - (f34 (l3).toNatClampNeg))))) →
                        (K2 l0 l1 l2 (l3 + (1 : Int32)) h36))))))))) l2 l3 h)))
def wn_Mv_arrive_2 (Post : MH → Prop) : Nat → Nat → Nat → Int32 → Int32 → MH → Prop
  | 0 => fun _ _ _ _ _ => False
  | n + 1 => wb_Mv_arrive_2 (wn_Mv_arrive_2 Post n) Post
def wp_Mv_arrive_2 (Post : MH → Prop) (l0 : Nat) (l1 : Nat) (l2 : Int32) (l3 : Int32) (h : MH) : Prop := ∃ n, wn_Mv_arrive_2 Post n l0 l1 l2 l3 h
def wp_Mv_arrive (Post : MH → Prop) (l0 : Nat) (l1 : Nat) (l2 : Int32) (h : MH) : Prop :=
  wp_Mv_arrive_2 Post l0 l1 l2 (0 : Int32) h
set_option maxRecDepth 100000 in
set_option maxHeartbeats 4000000 in
theorem tb_Mv_arrive_2 {p : Program} {l : Launch} {e : Env} {R : Room} {s : State} {m : MethodId} {args : Array Value} {below : List Frame} {meth : Method} {c : Code} (G : mG) (C0 : Cx G p s m args c prog_4_method_3_code 4 "BassRealiser$Move") (hR : 1 ≤ R.frames ∧ 21 ≤ R.locals ∧ 0 ≤ R.cells ∧ 0 ≤ R.slots) (hr : meth.sig.returnType = none) (hlk : meth.locks = false) {Post : MH → Prop} {K2 : Nat → Nat → Int32 → Int32 → MH → Prop} (hK2 : ∀ (l0 : Nat) (l1 : Nat) (l2 : Int32) (l3 : Int32) (h : MH), K2 l0 l1 l2 l3 h → WG p l e R s m args below meth c 0 0 (MQ below (va_Qv Post (Wd G) (mA G)) args s 0 0 (mA G)) G 4 [(0, .ref (m_b G + l0)), (1, .ref (m_b G + l1)), (2, .int l2), (3, .int l3)] 2 [] h) (l0 : Nat) (l1 : Nat) (l2 : Int32) (l3 : Int32) (h : MH) (hwp : wb_Mv_arrive_2 K2 Post l0 l1 l2 l3 h) : WG p l e R s m args below meth c 0 0 (MQ below (va_Qv Post (Wd G) (mA G)) args s 0 0 (mA G)) G 4 [(0, .ref (m_b G + l0)), (1, .ref (m_b G + l1)), (2, .int l2), (3, .int l3)] 2 [] h := by
  unfold wb_Mv_arrive_2 at hwp
  refine x_iload_n C0 3 d_Mv_arrive_2 rfl rfl ?_
  refine x_iconst (v := 3) C0 d_Mv_arrive_3 (by decide) ?_
  refine x_icmp_ge (tgt := 43) C0 d_Mv_arrive_4 (by decide) (fun c4 => ?_) (fun c4 => ?_)
  · replace hwp := hwp.1 c4
    refine x_aload_n C0 0 d_Mv_arrive_43 rfl rfl ?_
    obtain ⟨x44, e44, hwp⟩ := hwp
    refine x_getR C0 fk_Mv_15 e44 d_Mv_arrive_44 ?_
    refine x_iconst (v := 3) C0 d_Mv_arrive_47 (by decide) ?_
    refine x_aload_n C0 1 d_Mv_arrive_48 rfl rfl ?_
    obtain ⟨x49, e49, hwp⟩ := hwp
    refine x_getI C0 fk_Mv_25 e49 d_Mv_arrive_49 ?_
    obtain ⟨n52, f52, e52, i52, hwp⟩ := hwp
    refine x_iast C0 e52 i52 d_Mv_arrive_52 ?_
    refine x_nh (fun h52 eh52 => ?_)
    replace hwp := hwp h52 eh52
    refine x_aload_n C0 0 d_Mv_arrive_53 rfl rfl ?_
    obtain ⟨x54, e54, hwp⟩ := hwp
    refine x_getR C0 fk_Mv_18 e54 d_Mv_arrive_54 ?_
    refine x_iconst (v := 3) C0 d_Mv_arrive_57 (by decide) ?_
    refine x_aload_n C0 0 d_Mv_arrive_58 rfl rfl ?_
    obtain ⟨x59, e59, hwp⟩ := hwp
    refine x_getR C0 fk_Mv_15 e59 d_Mv_arrive_59 ?_
    refine x_iconst (v := 3) C0 d_Mv_arrive_62 (by decide) ?_
    obtain ⟨n63, f63, e63, i63, hwp⟩ := hwp
    refine x_iald C0 e63 i63 d_Mv_arrive_63 ?_
    refine x_aload_n C0 0 d_Mv_arrive_64 rfl rfl ?_
    obtain ⟨x65, e65, hwp⟩ := hwp
    refine x_getR C0 fk_Mv_11 e65 d_Mv_arrive_65 ?_
    refine x_iconst (v := 3) C0 d_Mv_arrive_68 (by decide) ?_
    obtain ⟨n69, f69, e69, i69, hwp⟩ := hwp
    refine x_iald C0 e69 i69 d_Mv_arrive_69 ?_
    refine x_isub C0 d_Mv_arrive_70 ?_
    obtain ⟨n71, f71, e71, i71, hwp⟩ := hwp
    refine x_iast C0 e71 i71 d_Mv_arrive_71 ?_
    refine x_nh (fun h71 eh71 => ?_)
    replace hwp := hwp h71 eh71
    refine x_aload_n C0 0 d_Mv_arrive_72 rfl rfl ?_
    refine x_aload_n C0 1 d_Mv_arrive_73 rfl rfl ?_
    obtain ⟨x74, e74, hwp⟩ := hwp
    refine x_getI C0 fk_Mv_31 e74 d_Mv_arrive_74 ?_
    obtain ⟨⟨o77, e77⟩, hwp⟩ := hwp
    refine x_put (x := (.inl x74 : MV)) C0 pk_Mv_43 e77 rfl rfl d_Mv_arrive_77 ?_
    refine x_nh (fun h77 eh77 => ?_)
    replace hwp := hwp h77 eh77
    exact x_vret C0 hr hlk hwp d_Mv_arrive_80
  · replace hwp := hwp.2 c4
    refine x_aload_n C0 0 d_Mv_arrive_7 rfl rfl ?_
    obtain ⟨x8, e8, hwp⟩ := hwp
    refine x_getR C0 fk_Mv_15 e8 d_Mv_arrive_8 ?_
    refine x_iload_n C0 3 d_Mv_arrive_11 rfl rfl ?_
    refine x_iload_n C0 2 d_Mv_arrive_12 rfl rfl ?_
    refine x_iload_n C0 3 d_Mv_arrive_13 rfl rfl ?_
    refine x_callSNi0 (As := [.int l2, .int l3]) (st := [.int l3, .ref (m_b G + x8)]) C0 (c_Br_pitchOf l G hwp) (m_nwA C0 nw_6) mk_Br_pitchOf kw_2_158 rfl (Nat.le_of_ble_eq_true rfl) rfl rfl ⟨Nat.le_trans (by decide) hR.1, Nat.le_trans (by decide) hR.2.1⟩ ⟨Nat.zero_le _, Nat.zero_le _⟩ rfl d_Mv_arrive_14 (fun r14 h14 hwp => ?_)
    obtain ⟨n17, f17, e17, i17, hwp⟩ := hwp
    refine x_iast C0 e17 i17 d_Mv_arrive_17 ?_
    refine x_nh (fun h17 eh17 => ?_)
    replace hwp := hwp h17 eh17
    refine x_aload_n C0 0 d_Mv_arrive_18 rfl rfl ?_
    obtain ⟨x19, e19, hwp⟩ := hwp
    refine x_getR C0 fk_Mv_18 e19 d_Mv_arrive_19 ?_
    refine x_iload_n C0 3 d_Mv_arrive_22 rfl rfl ?_
    refine x_aload_n C0 0 d_Mv_arrive_23 rfl rfl ?_
    obtain ⟨x24, e24, hwp⟩ := hwp
    refine x_getR C0 fk_Mv_15 e24 d_Mv_arrive_24 ?_
    refine x_iload_n C0 3 d_Mv_arrive_27 rfl rfl ?_
    obtain ⟨n28, f28, e28, i28, hwp⟩ := hwp
    refine x_iald C0 e28 i28 d_Mv_arrive_28 ?_
    refine x_aload_n C0 0 d_Mv_arrive_29 rfl rfl ?_
    obtain ⟨x30, e30, hwp⟩ := hwp
    refine x_getR C0 fk_Mv_11 e30 d_Mv_arrive_30 ?_
    refine x_iload_n C0 3 d_Mv_arrive_33 rfl rfl ?_
    obtain ⟨n34, f34, e34, i34, hwp⟩ := hwp
    refine x_iald C0 e34 i34 d_Mv_arrive_34 ?_
    refine x_isub C0 d_Mv_arrive_35 ?_
    obtain ⟨n36, f36, e36, i36, hwp⟩ := hwp
    refine x_iast C0 e36 i36 d_Mv_arrive_36 ?_
    refine x_nh (fun h36 eh36 => ?_)
    replace hwp := hwp h36 eh36
    refine x_iinc C0 3 d_Mv_arrive_37 rfl rfl (by decide) (lv' := [(3, .int (l3 + (1 : Int32))), (0, .ref (m_b G + l0)), (1, .ref (m_b G + l1)), (2, .int l2)]) rfl ?_
    refine x_goto (tgt := 2) C0 d_Mv_arrive_40 (by decide) ?_
    exact x_sub [1, 2, 3, 0] rfl (hK2 _ _ _ _ _ hwp)
theorem t_Mv_arrive_2 {p : Program} {l : Launch} {e : Env} {R : Room} {s : State} {m : MethodId} {args : Array Value} {below : List Frame} {meth : Method} {c : Code} (G : mG) (C0 : Cx G p s m args c prog_4_method_3_code 4 "BassRealiser$Move") (hR : 1 ≤ R.frames ∧ 21 ≤ R.locals ∧ 0 ≤ R.cells ∧ 0 ≤ R.slots) (hr : meth.sig.returnType = none) (hlk : meth.locks = false) {Post : MH → Prop} (l0 : Nat) (l1 : Nat) (l2 : Int32) (l3 : Int32) (h : MH) (hwp : wp_Mv_arrive_2 Post l0 l1 l2 l3 h) : WG p l e R s m args below meth c 0 0 (MQ below (va_Qv Post (Wd G) (mA G)) args s 0 0 (mA G)) G 4 [(0, .ref (m_b G + l0)), (1, .ref (m_b G + l1)), (2, .int l2), (3, .int l3)] 2 [] h := by
  obtain ⟨n, hwp⟩ := hwp
  induction n generalizing l0 l1 l2 l3 h with
  | zero => exact False.elim hwp
  | succ n ih => exact tb_Mv_arrive_2 G C0 hR hr hlk (fun l0 l1 l2 l3 h hwp => ih l0 l1 l2 l3 h hwp) l0 l1 l2 l3 h hwp
set_option maxRecDepth 100000 in
set_option maxHeartbeats 4000000 in
theorem t_Mv_arrive {p : Program} {l : Launch} {e : Env} {R : Room} {s : State} {m : MethodId} {args : Array Value} {below : List Frame} {meth : Method} {c : Code} (G : mG) (C0 : Cx G p s m args c prog_4_method_3_code 4 "BassRealiser$Move") (hR : 1 ≤ R.frames ∧ 21 ≤ R.locals ∧ 0 ≤ R.cells ∧ 0 ≤ R.slots) (hr : meth.sig.returnType = none) (hlk : meth.locks = false) {Post : MH → Prop} (l0 : Nat) (l1 : Nat) (l2 : Int32) (h : MH) (hwp : wp_Mv_arrive Post l0 l1 l2 h) : WG p l e R s m args below meth c 0 0 (MQ below (va_Qv Post (Wd G) (mA G)) args s 0 0 (mA G)) G 4 [(0, .ref (m_b G + l0)), (1, .ref (m_b G + l1)), (2, .int l2)] 0 [] h := by
  unfold wp_Mv_arrive at hwp
  refine x_iconst (v := 0) C0 d_Mv_arrive_0 (by decide) ?_
  refine x_istore_n C0 d_Mv_arrive_1 rfl (by decide) (lv' := [(3, .int (0 : Int32)), (0, .ref (m_b G + l0)), (1, .ref (m_b G + l1)), (2, .int l2)]) rfl ?_
  exact x_sub [1, 2, 3, 0] rfl (t_Mv_arrive_2 G C0 hR hr hlk  _ _ _ _ _ hwp)
set_option maxRecDepth 100000 in
set_option maxHeartbeats 4000000 in
theorem c_Mv_arrive (l : Launch) (G : mG) {Post : MH → Prop} {l0 : Nat} {l1 : Nat} {l2 : Int32} {h : MH} (hwp : wp_Mv_arrive Post l0 l1 l2 h) : Met l y_Mv_arrive (Cond.code y_Mv_arrive prog_4_method_3_code 4 (Option.none : Option Jvm.ClassFile.FieldType) :: lw_good) ({ frames := 1, cells := 0, slots := 0, locals := 21 }) (va_Pc [.ref (m_b G + l0), .ref (m_b G + l1), .int l2] (Wd G h)) (va_Qv Post (Wd G) (mA G)) 0 0 (mA G) := by
  refine Met.ofW (cc := prog_4_method_3_code) (maxL := 4) (ret := (Option.none : Option Jvm.ClassFile.FieldType)) (by decide +kernel) rfl ?_
  intro p e s m args below meth c s₁ B hml hv
  obtain ⟨rfl, hP, hz, hK, hSt⟩ := hv
  have hts := atoms_spec (ws := Cond.code y_Mv_arrive prog_4_method_3_code 4 (Option.none : Option Jvm.ClassFile.FieldType) :: lw_good) B.pre
  have C0 : Cx G p s m ([.ref (m_b G + l0), .ref (m_b G + l1), .int l2] : List Value).toArray c prog_4_method_3_code 4 "BassRealiser$Move" := ⟨⟨B.exec, B.bytes, hml, findClass_of_methodNamed B.named, fun w h => hts w (List.mem_cons_of_mem _ h)⟩, hK, hSt, by rw [hz]; exact Nat.le_add_right _ _⟩
  have hl := lv_entry ([.ref (m_b G + l0), .ref (m_b G + l1), .int l2]) (n := 4) (Nat.le_of_ble_eq_true rfl)
  rw [lg_entry_eq]
  exact t_Mv_arrive G C0 ⟨Nat.le_refl _, Nat.le_refl _, Nat.le_refl _, Nat.le_refl _⟩ B.returns B.notSynchronized _ _ _ _ hwp _ _ _ ⟨hP, hz, va_S.rf⟩ hl
def wb_Mv_leaps_2 (K2 : Nat → Int32 → Int32 → MH → Prop) (Post : Int32 → MH → Prop) (l0 : Nat) (l1 : Int32) (l2 : Int32) (h : MH) : Prop :=
  (((3 : Int32) ≤ l2) →
    (Post (0 : Int32) h)) ∧
  ((¬ (3 : Int32) ≤ l2) →
    (∃ x8 : Nat, gF h l0 2 2 = some (.inr (some x8)) ∧
      (∃ (n12 : Nat) (f12 : Nat → Int32), gA h x8 0 = some (n12, f12) ∧ vp_in l2 n12 ∧
        ((((if 0 ≤ (f12 (l2).toNatClampNeg) then (f12 (l2).toNatClampNeg) else 0 - (f12 (l2).toNatClampNeg)) ≤ l1) →
            (K2 l0 l1 (l2 + (1 : Int32)) h)) ∧
          ((¬ (if 0 ≤ (f12 (l2).toNatClampNeg) then (f12 (l2).toNatClampNeg) else 0 - (f12 (l2).toNatClampNeg)) ≤ l1) →
            (Post (1 : Int32) h))))))
def wn_Mv_leaps_2 (Post : Int32 → MH → Prop) : Nat → Nat → Int32 → Int32 → MH → Prop
  | 0 => fun _ _ _ _ => False
  | n + 1 => wb_Mv_leaps_2 (wn_Mv_leaps_2 Post n) Post
def wp_Mv_leaps_2 (Post : Int32 → MH → Prop) (l0 : Nat) (l1 : Int32) (l2 : Int32) (h : MH) : Prop := ∃ n, wn_Mv_leaps_2 Post n l0 l1 l2 h
def wp_Mv_leaps (Post : Int32 → MH → Prop) (l0 : Nat) (l1 : Int32) (h : MH) : Prop :=
  wp_Mv_leaps_2 Post l0 l1 (0 : Int32) h
set_option maxRecDepth 100000 in
set_option maxHeartbeats 4000000 in
theorem tb_Mv_leaps_2 {p : Program} {l : Launch} {e : Env} {R : Room} {s : State} {m : MethodId} {args : Array Value} {below : List Frame} {meth : Method} {c : Code} (G : mG) (C0 : Cx G p s m args c prog_4_method_6_code 3 "BassRealiser$Move") (hR : 1 ≤ R.frames ∧ 21 ≤ R.locals ∧ 0 ≤ R.cells ∧ 0 ≤ R.slots) (hr : meth.sig.returnType = some .boolean) (hlk : meth.locks = false) {Post : Int32 → MH → Prop} {K2 : Nat → Int32 → Int32 → MH → Prop} (hK2 : ∀ (l0 : Nat) (l1 : Int32) (l2 : Int32) (h : MH), K2 l0 l1 l2 h → WG p l e R s m args below meth c 0 0 (MQ below (va_Qi Post (Wd G) (mA G)) args s 0 0 (mA G)) G 3 [(0, .ref (m_b G + l0)), (1, .int l1), (2, .int l2)] 2 [] h) (l0 : Nat) (l1 : Int32) (l2 : Int32) (h : MH) (hwp : wb_Mv_leaps_2 K2 Post l0 l1 l2 h) : WG p l e R s m args below meth c 0 0 (MQ below (va_Qi Post (Wd G) (mA G)) args s 0 0 (mA G)) G 3 [(0, .ref (m_b G + l0)), (1, .int l1), (2, .int l2)] 2 [] h := by
  unfold wb_Mv_leaps_2 at hwp
  refine x_iload_n C0 2 d_Mv_leaps_2 rfl rfl ?_
  refine x_iconst (v := 3) C0 d_Mv_leaps_3 (by decide) ?_
  refine x_icmp_ge (tgt := 28) C0 d_Mv_leaps_4 (by decide) (fun c4 => ?_) (fun c4 => ?_)
  · replace hwp := hwp.1 c4
    refine x_iconst (v := 0) C0 d_Mv_leaps_28 (by decide) ?_
    exact x_zret C0 hr rfl hlk hwp d_Mv_leaps_29
  · replace hwp := hwp.2 c4
    refine x_aload_n C0 0 d_Mv_leaps_7 rfl rfl ?_
    obtain ⟨x8, e8, hwp⟩ := hwp
    refine x_getR C0 fk_Mv_18 e8 d_Mv_leaps_8 ?_
    refine x_iload_n C0 2 d_Mv_leaps_11 rfl rfl ?_
    obtain ⟨n12, f12, e12, i12, hwp⟩ := hwp
    refine x_iald C0 e12 i12 d_Mv_leaps_12 ?_
    refine x_mabs C0 kw_2_217 kw_2_21 kw_1_8 kw_2_22 d_Mv_leaps_13 ⟨Nat.le_trans (by decide) hR.1, Nat.le_trans (by decide) hR.2.1⟩ ⟨Nat.zero_le _, Nat.zero_le _⟩ (Nat.le_of_ble_eq_true rfl) ?_
    refine x_iload_n C0 1 d_Mv_leaps_16 rfl rfl ?_
    refine x_icmp_le (tgt := 22) C0 d_Mv_leaps_17 (by decide) (fun c17 => ?_) (fun c17 => ?_)
    · replace hwp := hwp.1 c17
      refine x_iinc C0 2 d_Mv_leaps_22 rfl rfl (by decide) (lv' := [(2, .int (l2 + (1 : Int32))), (0, .ref (m_b G + l0)), (1, .int l1)]) rfl ?_
      refine x_goto (tgt := 2) C0 d_Mv_leaps_25 (by decide) ?_
      exact x_sub [1, 2, 0] rfl (hK2 _ _ _ _ hwp)
    · replace hwp := hwp.2 c17
      refine x_iconst (v := 1) C0 d_Mv_leaps_20 (by decide) ?_
      exact x_zret C0 hr rfl hlk hwp d_Mv_leaps_21
theorem t_Mv_leaps_2 {p : Program} {l : Launch} {e : Env} {R : Room} {s : State} {m : MethodId} {args : Array Value} {below : List Frame} {meth : Method} {c : Code} (G : mG) (C0 : Cx G p s m args c prog_4_method_6_code 3 "BassRealiser$Move") (hR : 1 ≤ R.frames ∧ 21 ≤ R.locals ∧ 0 ≤ R.cells ∧ 0 ≤ R.slots) (hr : meth.sig.returnType = some .boolean) (hlk : meth.locks = false) {Post : Int32 → MH → Prop} (l0 : Nat) (l1 : Int32) (l2 : Int32) (h : MH) (hwp : wp_Mv_leaps_2 Post l0 l1 l2 h) : WG p l e R s m args below meth c 0 0 (MQ below (va_Qi Post (Wd G) (mA G)) args s 0 0 (mA G)) G 3 [(0, .ref (m_b G + l0)), (1, .int l1), (2, .int l2)] 2 [] h := by
  obtain ⟨n, hwp⟩ := hwp
  induction n generalizing l0 l1 l2 h with
  | zero => exact False.elim hwp
  | succ n ih => exact tb_Mv_leaps_2 G C0 hR hr hlk (fun l0 l1 l2 h hwp => ih l0 l1 l2 h hwp) l0 l1 l2 h hwp
set_option maxRecDepth 100000 in
set_option maxHeartbeats 4000000 in
theorem t_Mv_leaps {p : Program} {l : Launch} {e : Env} {R : Room} {s : State} {m : MethodId} {args : Array Value} {below : List Frame} {meth : Method} {c : Code} (G : mG) (C0 : Cx G p s m args c prog_4_method_6_code 3 "BassRealiser$Move") (hR : 1 ≤ R.frames ∧ 21 ≤ R.locals ∧ 0 ≤ R.cells ∧ 0 ≤ R.slots) (hr : meth.sig.returnType = some .boolean) (hlk : meth.locks = false) {Post : Int32 → MH → Prop} (l0 : Nat) (l1 : Int32) (h : MH) (hwp : wp_Mv_leaps Post l0 l1 h) : WG p l e R s m args below meth c 0 0 (MQ below (va_Qi Post (Wd G) (mA G)) args s 0 0 (mA G)) G 3 [(0, .ref (m_b G + l0)), (1, .int l1)] 0 [] h := by
  unfold wp_Mv_leaps at hwp
  refine x_iconst (v := 0) C0 d_Mv_leaps_0 (by decide) ?_
  refine x_istore_n C0 d_Mv_leaps_1 rfl (by decide) (lv' := [(2, .int (0 : Int32)), (0, .ref (m_b G + l0)), (1, .int l1)]) rfl ?_
  exact x_sub [1, 2, 0] rfl (t_Mv_leaps_2 G C0 hR hr hlk  _ _ _ _ hwp)
set_option maxRecDepth 100000 in
set_option maxHeartbeats 4000000 in
theorem c_Mv_leaps (l : Launch) (G : mG) {Post : Int32 → MH → Prop} {l0 : Nat} {l1 : Int32} {h : MH} (hwp : wp_Mv_leaps Post l0 l1 h) : Met l y_Mv_leaps (Cond.code y_Mv_leaps prog_4_method_6_code 3 (Option.some Jvm.ClassFile.FieldType.boolean) :: lw_good) ({ frames := 1, cells := 0, slots := 0, locals := 21 }) (va_Pc [.ref (m_b G + l0), .int l1] (Wd G h)) (va_Qi Post (Wd G) (mA G)) 0 0 (mA G) := by
  refine Met.ofW (cc := prog_4_method_6_code) (maxL := 3) (ret := (Option.some Jvm.ClassFile.FieldType.boolean)) (by decide +kernel) rfl ?_
  intro p e s m args below meth c s₁ B hml hv
  obtain ⟨rfl, hP, hz, hK, hSt⟩ := hv
  have hts := atoms_spec (ws := Cond.code y_Mv_leaps prog_4_method_6_code 3 (Option.some Jvm.ClassFile.FieldType.boolean) :: lw_good) B.pre
  have C0 : Cx G p s m ([.ref (m_b G + l0), .int l1] : List Value).toArray c prog_4_method_6_code 3 "BassRealiser$Move" := ⟨⟨B.exec, B.bytes, hml, findClass_of_methodNamed B.named, fun w h => hts w (List.mem_cons_of_mem _ h)⟩, hK, hSt, by rw [hz]; exact Nat.le_add_right _ _⟩
  have hl := lv_entry ([.ref (m_b G + l0), .int l1]) (n := 3) (Nat.le_of_ble_eq_true rfl)
  rw [lg_entry_eq]
  exact t_Mv_leaps G C0 ⟨Nat.le_refl _, Nat.le_refl _, Nat.le_refl _, Nat.le_refl _⟩ B.returns B.notSynchronized _ _ _ hwp _ _ _ ⟨hP, hz, va_S.rf⟩ hl
def wp_Mv_parallel (Post : Int32 → MH → Prop) (l0 : Nat) (l1 : Int32) (l2 : Int32) (h : MH) : Prop :=
  ∃ x1 : Nat, gF h l0 2 2 = some (.inr (some x1)) ∧
  (∃ (n5 : Nat) (f5 : Nat → Int32), gA h x1 0 = some (n5, f5) ∧ vp_in l1 n5 ∧
    (∃ x7 : Nat, gF h l0 2 2 = some (.inr (some x7)) ∧
      (∃ (n11 : Nat) (f11 : Nat → Int32), gA h x7 0 = some (n11, f11) ∧ vp_in l2 n11 ∧
        ((((((f5 (l1).toNatClampNeg) - (f11 (l2).toNatClampNeg)) - ((f5 (l1).toNatClampNeg) - (f11 (l2).toNatClampNeg)) / (12 : Int32) * (12 : Int32)) = 0) →
            (∃ x22 : Nat, gF h l0 2 1 = some (.inr (some x22)) ∧
              (∃ (n26 : Nat) (f26 : Nat → Int32), gA h x22 0 = some (n26, f26) ∧ vp_in l1 n26 ∧
                (∃ x28 : Nat, gF h l0 2 1 = some (.inr (some x28)) ∧
                  (∃ (n32 : Nat) (f32 : Nat → Int32), gA h x28 0 = some (n32, f32) ∧ vp_in l2 n32 ∧
                    (∀ z34 : Int32, z34 = (f26 (l1).toNatClampNeg) - (f32 (l2).toNatClampNeg) →
                      ((((z34 - z34 / (12 : Int32) * (12 : Int32)) = 0) →
                        (Post (1 : Int32) h)) ∧
                        ((¬ (z34 - z34 / (12 : Int32) * (12 : Int32)) = 0) →
                        (((¬ ((z34 - (7 : Int32)) - (z34 - (7 : Int32)) / (12 : Int32) * (12 : Int32)) = 0) →
                        (Post (0 : Int32) h)) ∧
                        ((((z34 - (7 : Int32)) - (z34 - (7 : Int32)) / (12 : Int32) * (12 : Int32)) = 0) →
                        (Post (1 : Int32) h))))))))))) ∧
          ((¬ (((f5 (l1).toNatClampNeg) - (f11 (l2).toNatClampNeg)) - ((f5 (l1).toNatClampNeg) - (f11 (l2).toNatClampNeg)) / (12 : Int32) * (12 : Int32)) = 0) →
            (Post (0 : Int32) h))))))
set_option maxRecDepth 100000 in
set_option maxHeartbeats 4000000 in
theorem t_Mv_parallel {p : Program} {l : Launch} {e : Env} {R : Room} {s : State} {m : MethodId} {args : Array Value} {below : List Frame} {meth : Method} {c : Code} (G : mG) (C0 : Cx G p s m args c prog_4_method_8_code 4 "BassRealiser$Move") (hR : 0 ≤ R.frames ∧ 0 ≤ R.locals ∧ 0 ≤ R.cells ∧ 0 ≤ R.slots) (hr : meth.sig.returnType = some .boolean) (hlk : meth.locks = false) {Post : Int32 → MH → Prop} (l0 : Nat) (l1 : Int32) (l2 : Int32) (h : MH) (hwp : wp_Mv_parallel Post l0 l1 l2 h) : WG p l e R s m args below meth c 0 0 (MQ below (va_Qi Post (Wd G) (mA G)) args s 0 0 (mA G)) G 4 [(0, .ref (m_b G + l0)), (1, .int l1), (2, .int l2)] 0 [] h := by
  unfold wp_Mv_parallel at hwp
  refine x_aload_n C0 0 d_Mv_parallel_0 rfl rfl ?_
  obtain ⟨x1, e1, hwp⟩ := hwp
  refine x_getR C0 fk_Mv_18 e1 d_Mv_parallel_1 ?_
  refine x_iload_n C0 1 d_Mv_parallel_4 rfl rfl ?_
  obtain ⟨n5, f5, e5, i5, hwp⟩ := hwp
  refine x_iald C0 e5 i5 d_Mv_parallel_5 ?_
  refine x_aload_n C0 0 d_Mv_parallel_6 rfl rfl ?_
  obtain ⟨x7, e7, hwp⟩ := hwp
  refine x_getR C0 fk_Mv_18 e7 d_Mv_parallel_7 ?_
  refine x_iload_n C0 2 d_Mv_parallel_10 rfl rfl ?_
  obtain ⟨n11, f11, e11, i11, hwp⟩ := hwp
  refine x_iald C0 e11 i11 d_Mv_parallel_11 ?_
  refine x_isub C0 d_Mv_parallel_12 ?_
  refine x_bipush (v := 12) C0 d_Mv_parallel_13 (by decide) ?_
  refine x_irem C0 d_Mv_parallel_15 (by decide) ?_
  refine x_if_eq (tgt := 21) C0 d_Mv_parallel_16 (by decide) (fun c16 => ?_) (fun c16 => ?_)
  · replace hwp := hwp.1 c16
    refine x_aload_n C0 0 d_Mv_parallel_21 rfl rfl ?_
    obtain ⟨x22, e22, hwp⟩ := hwp
    refine x_getR C0 fk_Mv_15 e22 d_Mv_parallel_22 ?_
    refine x_iload_n C0 1 d_Mv_parallel_25 rfl rfl ?_
    obtain ⟨n26, f26, e26, i26, hwp⟩ := hwp
    refine x_iald C0 e26 i26 d_Mv_parallel_26 ?_
    refine x_aload_n C0 0 d_Mv_parallel_27 rfl rfl ?_
    obtain ⟨x28, e28, hwp⟩ := hwp
    refine x_getR C0 fk_Mv_15 e28 d_Mv_parallel_28 ?_
    refine x_iload_n C0 2 d_Mv_parallel_31 rfl rfl ?_
    obtain ⟨n32, f32, e32, i32, hwp⟩ := hwp
    refine x_iald C0 e32 i32 d_Mv_parallel_32 ?_
    refine x_isub C0 d_Mv_parallel_33 ?_
    refine x_topI (fun z34 e34 => ?_)
    replace hwp := hwp z34 e34
    refine x_istore_n C0 d_Mv_parallel_34 rfl (by decide) (lv' := [(3, .int z34), (0, .ref (m_b G + l0)), (1, .int l1), (2, .int l2)]) rfl ?_
    refine x_iload_n C0 0 d_Mv_parallel_35 rfl rfl ?_
    refine x_bipush (v := 12) C0 d_Mv_parallel_36 (by decide) ?_
    refine x_irem C0 d_Mv_parallel_38 (by decide) ?_
    refine x_if_eq (tgt := 52) C0 d_Mv_parallel_39 (by decide) (fun c39 => ?_) (fun c39 => ?_)
    · replace hwp := hwp.1 c39
      refine x_iconst (v := 1) C0 d_Mv_parallel_52 (by decide) ?_
      refine x_goto (tgt := 57) C0 d_Mv_parallel_53 (by decide) ?_
      exact x_zret C0 hr rfl hlk hwp d_Mv_parallel_57
    · replace hwp := hwp.2 c39
      refine x_iload_n C0 0 d_Mv_parallel_42 rfl rfl ?_
      refine x_bipush (v := 7) C0 d_Mv_parallel_43 (by decide) ?_
      refine x_isub C0 d_Mv_parallel_45 ?_
      refine x_bipush (v := 12) C0 d_Mv_parallel_46 (by decide) ?_
      refine x_irem C0 d_Mv_parallel_48 (by decide) ?_
      refine x_if_ne (tgt := 56) C0 d_Mv_parallel_49 (by decide) (fun c49 => ?_) (fun c49 => ?_)
      · replace hwp := hwp.1 c49
        refine x_iconst (v := 0) C0 d_Mv_parallel_56 (by decide) ?_
        exact x_zret C0 hr rfl hlk hwp d_Mv_parallel_57
      · replace hwp := hwp.2 c49
        refine x_iconst (v := 1) C0 d_Mv_parallel_52 (by decide) ?_
        refine x_goto (tgt := 57) C0 d_Mv_parallel_53 (by decide) ?_
        exact x_zret C0 hr rfl hlk hwp d_Mv_parallel_57
  · replace hwp := hwp.2 c16
    refine x_iconst (v := 0) C0 d_Mv_parallel_19 (by decide) ?_
    exact x_zret C0 hr rfl hlk hwp d_Mv_parallel_20
set_option maxRecDepth 100000 in
set_option maxHeartbeats 4000000 in
theorem c_Mv_parallel (l : Launch) (G : mG) {Post : Int32 → MH → Prop} {l0 : Nat} {l1 : Int32} {l2 : Int32} {h : MH} (hwp : wp_Mv_parallel Post l0 l1 l2 h) : Met l y_Mv_parallel (Cond.code y_Mv_parallel prog_4_method_8_code 4 (Option.some Jvm.ClassFile.FieldType.boolean) :: lw_good) ({ frames := 0, cells := 0, slots := 0, locals := 0 }) (va_Pc [.ref (m_b G + l0), .int l1, .int l2] (Wd G h)) (va_Qi Post (Wd G) (mA G)) 0 0 (mA G) := by
  refine Met.ofW (cc := prog_4_method_8_code) (maxL := 4) (ret := (Option.some Jvm.ClassFile.FieldType.boolean)) (by decide +kernel) rfl ?_
  intro p e s m args below meth c s₁ B hml hv
  obtain ⟨rfl, hP, hz, hK, hSt⟩ := hv
  have hts := atoms_spec (ws := Cond.code y_Mv_parallel prog_4_method_8_code 4 (Option.some Jvm.ClassFile.FieldType.boolean) :: lw_good) B.pre
  have C0 : Cx G p s m ([.ref (m_b G + l0), .int l1, .int l2] : List Value).toArray c prog_4_method_8_code 4 "BassRealiser$Move" := ⟨⟨B.exec, B.bytes, hml, findClass_of_methodNamed B.named, fun w h => hts w (List.mem_cons_of_mem _ h)⟩, hK, hSt, by rw [hz]; exact Nat.le_add_right _ _⟩
  have hl := lv_entry ([.ref (m_b G + l0), .int l1, .int l2]) (n := 4) (Nat.le_of_ble_eq_true rfl)
  rw [lg_entry_eq]
  exact t_Mv_parallel G C0 ⟨Nat.le_refl _, Nat.le_refl _, Nat.le_refl _, Nat.le_refl _⟩ B.returns B.notSynchronized _ _ _ _ hwp _ _ _ ⟨hP, hz, va_S.rf⟩ hl
def wp_Mv_hasParallels_54 (K2 : Nat → Int32 → MH → Prop) (Post : Int32 → MH → Prop) (l0 : Nat) (l1 : Int32) (h : MH) : Prop :=
  K2 l0 (l1 + (1 : Int32)) h
def wp_Mv_hasParallels_48 (K2 : Nat → Int32 → MH → Prop) (K23 : Nat → Int32 → Int32 → MH → Prop) (Post : Int32 → MH → Prop) (l0 : Nat) (l1 : Int32) (l2 : Int32) (h : MH) : Prop :=
  K23 l0 l1 (l2 + (1 : Int32)) h
def wb_Mv_hasParallels_23 (K2 : Nat → Int32 → MH → Prop) (K23 : Nat → Int32 → Int32 → MH → Prop) (Post : Int32 → MH → Prop) (l0 : Nat) (l1 : Int32) (l2 : Int32) (h : MH) : Prop :=
  (((4 : Int32) ≤ l2) →
    (wp_Mv_hasParallels_54 K2 Post l0 l1 h)) ∧
  ((¬ (4 : Int32) ≤ l2) →
    (∃ x29 : Nat, gF h l0 2 2 = some (.inr (some x29)) ∧
      (∃ (n33 : Nat) (f33 : Nat → Int32), gA h x29 0 = some (n33, f33) ∧ vp_in l2 n33 ∧
        ((((f33 (l2).toNatClampNeg) = 0) →
            (wp_Mv_hasParallels_48 K2 K23 Post l0 l1 l2 h)) ∧
          ((¬ (f33 (l2).toNatClampNeg) = 0) →
            (gC h l0 = some 2 ∧ wp_Mv_parallel (fun (r40 : Int32) (h40 : MH) =>
                (((r40 = 0) →
                    (wp_Mv_hasParallels_48 K2 K23 Post l0 l1 l2 h40)) ∧
                  ((¬ r40 = 0) →
                    (Post (1 : Int32) h40)))) l0 l1 l2 h))))))
def wn_Mv_hasParallels_23 (K2 : Nat → Int32 → MH → Prop) (Post : Int32 → MH → Prop) : Nat → Nat → Int32 → Int32 → MH → Prop
  | 0 => fun _ _ _ _ => False
  | n + 1 => wb_Mv_hasParallels_23 K2 (wn_Mv_hasParallels_23 K2 Post n) Post
def wp_Mv_hasParallels_23 (K2 : Nat → Int32 → MH → Prop) (Post : Int32 → MH → Prop) (l0 : Nat) (l1 : Int32) (l2 : Int32) (h : MH) : Prop := ∃ n, wn_Mv_hasParallels_23 K2 Post n l0 l1 l2 h
def wb_Mv_hasParallels_2 (K2 : Nat → Int32 → MH → Prop) (Post : Int32 → MH → Prop) (l0 : Nat) (l1 : Int32) (h : MH) : Prop :=
  (((3 : Int32) ≤ l1) →
    (Post (0 : Int32) h)) ∧
  ((¬ (3 : Int32) ≤ l1) →
    (∃ x8 : Nat, gF h l0 2 2 = some (.inr (some x8)) ∧
      (∃ (n12 : Nat) (f12 : Nat → Int32), gA h x8 0 = some (n12, f12) ∧ vp_in l1 n12 ∧
        (((¬ (f12 (l1).toNatClampNeg) = 0) →
            (∀ z22 : Int32, z22 = l1 + (1 : Int32) →
              (wp_Mv_hasParallels_23 K2 Post l0 l1 z22 h))) ∧
          (((f12 (l1).toNatClampNeg) = 0) →
            (wp_Mv_hasParallels_54 K2 Post l0 l1 h))))))
def wn_Mv_hasParallels_2 (Post : Int32 → MH → Prop) : Nat → Nat → Int32 → MH → Prop
  | 0 => fun _ _ _ => False
  | n + 1 => wb_Mv_hasParallels_2 (wn_Mv_hasParallels_2 Post n) Post
def wp_Mv_hasParallels_2 (Post : Int32 → MH → Prop) (l0 : Nat) (l1 : Int32) (h : MH) : Prop := ∃ n, wn_Mv_hasParallels_2 Post n l0 l1 h
def wp_Mv_hasParallels (Post : Int32 → MH → Prop) (l0 : Nat) (h : MH) : Prop :=
  wp_Mv_hasParallels_2 Post l0 (0 : Int32) h
set_option maxRecDepth 100000 in
set_option maxHeartbeats 4000000 in
theorem t_Mv_hasParallels_54 {p : Program} {l : Launch} {e : Env} {R : Room} {s : State} {m : MethodId} {args : Array Value} {below : List Frame} {meth : Method} {c : Code} (G : mG) (C0 : Cx G p s m args c prog_4_method_7_code 3 "BassRealiser$Move") (hR : 1 ≤ R.frames ∧ 23 ≤ R.locals ∧ 0 ≤ R.cells ∧ 0 ≤ R.slots) (hr : meth.sig.returnType = some .boolean) (hlk : meth.locks = false) {Post : Int32 → MH → Prop} {K2 : Nat → Int32 → MH → Prop} (hK2 : ∀ (l0 : Nat) (l1 : Int32) (h : MH), K2 l0 l1 h → WG p l e R s m args below meth c 0 0 (MQ below (va_Qi Post (Wd G) (mA G)) args s 0 0 (mA G)) G 3 [(0, .ref (m_b G + l0)), (1, .int l1)] 2 [] h) (l0 : Nat) (l1 : Int32) (h : MH) (hwp : wp_Mv_hasParallels_54 K2 Post l0 l1 h) : WG p l e R s m args below meth c 0 0 (MQ below (va_Qi Post (Wd G) (mA G)) args s 0 0 (mA G)) G 3 [(0, .ref (m_b G + l0)), (1, .int l1)] 54 [] h := by
  unfold wp_Mv_hasParallels_54 at hwp
  refine x_iinc C0 1 d_Mv_hasParallels_54 rfl rfl (by decide) (lv' := [(1, .int (l1 + (1 : Int32))), (0, .ref (m_b G + l0))]) rfl ?_
  refine x_goto (tgt := 2) C0 d_Mv_hasParallels_57 (by decide) ?_
  exact x_sub [1, 0] rfl (hK2 _ _ _ hwp)
set_option maxRecDepth 100000 in
set_option maxHeartbeats 4000000 in
theorem t_Mv_hasParallels_48 {p : Program} {l : Launch} {e : Env} {R : Room} {s : State} {m : MethodId} {args : Array Value} {below : List Frame} {meth : Method} {c : Code} (G : mG) (C0 : Cx G p s m args c prog_4_method_7_code 3 "BassRealiser$Move") (hR : 1 ≤ R.frames ∧ 23 ≤ R.locals ∧ 0 ≤ R.cells ∧ 0 ≤ R.slots) (hr : meth.sig.returnType = some .boolean) (hlk : meth.locks = false) {Post : Int32 → MH → Prop} {K2 : Nat → Int32 → MH → Prop} {K23 : Nat → Int32 → Int32 → MH → Prop} (hK2 : ∀ (l0 : Nat) (l1 : Int32) (h : MH), K2 l0 l1 h → WG p l e R s m args below meth c 0 0 (MQ below (va_Qi Post (Wd G) (mA G)) args s 0 0 (mA G)) G 3 [(0, .ref (m_b G + l0)), (1, .int l1)] 2 [] h) (hK23 : ∀ (l0 : Nat) (l1 : Int32) (l2 : Int32) (h : MH), K23 l0 l1 l2 h → WG p l e R s m args below meth c 0 0 (MQ below (va_Qi Post (Wd G) (mA G)) args s 0 0 (mA G)) G 3 [(0, .ref (m_b G + l0)), (1, .int l1), (2, .int l2)] 23 [] h) (l0 : Nat) (l1 : Int32) (l2 : Int32) (h : MH) (hwp : wp_Mv_hasParallels_48 K2 K23 Post l0 l1 l2 h) : WG p l e R s m args below meth c 0 0 (MQ below (va_Qi Post (Wd G) (mA G)) args s 0 0 (mA G)) G 3 [(0, .ref (m_b G + l0)), (1, .int l1), (2, .int l2)] 48 [] h := by
  unfold wp_Mv_hasParallels_48 at hwp
  refine x_iinc C0 2 d_Mv_hasParallels_48 rfl rfl (by decide) (lv' := [(2, .int (l2 + (1 : Int32))), (0, .ref (m_b G + l0)), (1, .int l1)]) rfl ?_
  refine x_goto (tgt := 23) C0 d_Mv_hasParallels_51 (by decide) ?_
  exact x_sub [1, 2, 0] rfl (hK23 _ _ _ _ hwp)
set_option maxRecDepth 100000 in
set_option maxHeartbeats 4000000 in
theorem tb_Mv_hasParallels_23 {p : Program} {l : Launch} {e : Env} {R : Room} {s : State} {m : MethodId} {args : Array Value} {below : List Frame} {meth : Method} {c : Code} (G : mG) (C0 : Cx G p s m args c prog_4_method_7_code 3 "BassRealiser$Move") (hR : 1 ≤ R.frames ∧ 23 ≤ R.locals ∧ 0 ≤ R.cells ∧ 0 ≤ R.slots) (hr : meth.sig.returnType = some .boolean) (hlk : meth.locks = false) {Post : Int32 → MH → Prop} {K2 : Nat → Int32 → MH → Prop} {K23 : Nat → Int32 → Int32 → MH → Prop} (hK2 : ∀ (l0 : Nat) (l1 : Int32) (h : MH), K2 l0 l1 h → WG p l e R s m args below meth c 0 0 (MQ below (va_Qi Post (Wd G) (mA G)) args s 0 0 (mA G)) G 3 [(0, .ref (m_b G + l0)), (1, .int l1)] 2 [] h) (hK23 : ∀ (l0 : Nat) (l1 : Int32) (l2 : Int32) (h : MH), K23 l0 l1 l2 h → WG p l e R s m args below meth c 0 0 (MQ below (va_Qi Post (Wd G) (mA G)) args s 0 0 (mA G)) G 3 [(0, .ref (m_b G + l0)), (1, .int l1), (2, .int l2)] 23 [] h) (l0 : Nat) (l1 : Int32) (l2 : Int32) (h : MH) (hwp : wb_Mv_hasParallels_23 K2 K23 Post l0 l1 l2 h) : WG p l e R s m args below meth c 0 0 (MQ below (va_Qi Post (Wd G) (mA G)) args s 0 0 (mA G)) G 3 [(0, .ref (m_b G + l0)), (1, .int l1), (2, .int l2)] 23 [] h := by
  unfold wb_Mv_hasParallels_23 at hwp
  refine x_iload_n C0 2 d_Mv_hasParallels_23 rfl rfl ?_
  refine x_iconst (v := 4) C0 d_Mv_hasParallels_24 (by decide) ?_
  refine x_icmp_ge (tgt := 54) C0 d_Mv_hasParallels_25 (by decide) (fun c25 => ?_) (fun c25 => ?_)
  · replace hwp := hwp.1 c25
    exact x_sub [0, 1] rfl (t_Mv_hasParallels_54 G C0 hR hr hlk hK2 _ _ _ hwp)
  · replace hwp := hwp.2 c25
    refine x_aload_n C0 0 d_Mv_hasParallels_28 rfl rfl ?_
    obtain ⟨x29, e29, hwp⟩ := hwp
    refine x_getR C0 fk_Mv_18 e29 d_Mv_hasParallels_29 ?_
    refine x_iload_n C0 2 d_Mv_hasParallels_32 rfl rfl ?_
    obtain ⟨n33, f33, e33, i33, hwp⟩ := hwp
    refine x_iald C0 e33 i33 d_Mv_hasParallels_33 ?_
    refine x_if_eq (tgt := 48) C0 d_Mv_hasParallels_34 (by decide) (fun c34 => ?_) (fun c34 => ?_)
    · replace hwp := hwp.1 c34
      exact x_sub [0, 1, 2] rfl (t_Mv_hasParallels_48 G C0 hR hr hlk hK2 hK23 _ _ _ _ hwp)
    · replace hwp := hwp.2 c34
      refine x_aload_n C0 0 d_Mv_hasParallels_37 rfl rfl ?_
      refine x_iload_n C0 1 d_Mv_hasParallels_38 rfl rfl ?_
      refine x_iload_n C0 2 d_Mv_hasParallels_39 rfl rfl ?_
      obtain ⟨g40, hwp⟩ := hwp
      refine x_callVi0 (k := l0) (As := [.int l1, .int l2]) (st := []) C0 (c_Mv_parallel l G hwp) kw_2_222 mk_Mv_parallel vk_Mv_parallel rfl g40 rfl (Nat.le_of_ble_eq_true rfl) rfl rfl ⟨Nat.le_trans (by decide) hR.1, Nat.le_trans (by decide) hR.2.1⟩ ⟨Nat.zero_le _, Nat.zero_le _⟩ rfl d_Mv_hasParallels_40 (fun r40 h40 hwp => ?_)
      refine x_if_eq (tgt := 48) C0 d_Mv_hasParallels_43 (by decide) (fun c43 => ?_) (fun c43 => ?_)
      · replace hwp := hwp.1 c43
        exact x_sub [0, 1, 2] rfl (t_Mv_hasParallels_48 G C0 hR hr hlk hK2 hK23 _ _ _ _ hwp)
      · replace hwp := hwp.2 c43
        refine x_iconst (v := 1) C0 d_Mv_hasParallels_46 (by decide) ?_
        exact x_zret C0 hr rfl hlk hwp d_Mv_hasParallels_47
theorem t_Mv_hasParallels_23 {p : Program} {l : Launch} {e : Env} {R : Room} {s : State} {m : MethodId} {args : Array Value} {below : List Frame} {meth : Method} {c : Code} (G : mG) (C0 : Cx G p s m args c prog_4_method_7_code 3 "BassRealiser$Move") (hR : 1 ≤ R.frames ∧ 23 ≤ R.locals ∧ 0 ≤ R.cells ∧ 0 ≤ R.slots) (hr : meth.sig.returnType = some .boolean) (hlk : meth.locks = false) {Post : Int32 → MH → Prop} {K2 : Nat → Int32 → MH → Prop} (hK2 : ∀ (l0 : Nat) (l1 : Int32) (h : MH), K2 l0 l1 h → WG p l e R s m args below meth c 0 0 (MQ below (va_Qi Post (Wd G) (mA G)) args s 0 0 (mA G)) G 3 [(0, .ref (m_b G + l0)), (1, .int l1)] 2 [] h) (l0 : Nat) (l1 : Int32) (l2 : Int32) (h : MH) (hwp : wp_Mv_hasParallels_23 K2 Post l0 l1 l2 h) : WG p l e R s m args below meth c 0 0 (MQ below (va_Qi Post (Wd G) (mA G)) args s 0 0 (mA G)) G 3 [(0, .ref (m_b G + l0)), (1, .int l1), (2, .int l2)] 23 [] h := by
  obtain ⟨n, hwp⟩ := hwp
  induction n generalizing l0 l1 l2 h with
  | zero => exact False.elim hwp
  | succ n ih => exact tb_Mv_hasParallels_23 G C0 hR hr hlk hK2 (fun l0 l1 l2 h hwp => ih l0 l1 l2 h hwp) l0 l1 l2 h hwp
set_option maxRecDepth 100000 in
set_option maxHeartbeats 4000000 in
theorem tb_Mv_hasParallels_2 {p : Program} {l : Launch} {e : Env} {R : Room} {s : State} {m : MethodId} {args : Array Value} {below : List Frame} {meth : Method} {c : Code} (G : mG) (C0 : Cx G p s m args c prog_4_method_7_code 3 "BassRealiser$Move") (hR : 1 ≤ R.frames ∧ 23 ≤ R.locals ∧ 0 ≤ R.cells ∧ 0 ≤ R.slots) (hr : meth.sig.returnType = some .boolean) (hlk : meth.locks = false) {Post : Int32 → MH → Prop} {K2 : Nat → Int32 → MH → Prop} (hK2 : ∀ (l0 : Nat) (l1 : Int32) (h : MH), K2 l0 l1 h → WG p l e R s m args below meth c 0 0 (MQ below (va_Qi Post (Wd G) (mA G)) args s 0 0 (mA G)) G 3 [(0, .ref (m_b G + l0)), (1, .int l1)] 2 [] h) (l0 : Nat) (l1 : Int32) (h : MH) (hwp : wb_Mv_hasParallels_2 K2 Post l0 l1 h) : WG p l e R s m args below meth c 0 0 (MQ below (va_Qi Post (Wd G) (mA G)) args s 0 0 (mA G)) G 3 [(0, .ref (m_b G + l0)), (1, .int l1)] 2 [] h := by
  unfold wb_Mv_hasParallels_2 at hwp
  refine x_iload_n C0 1 d_Mv_hasParallels_2 rfl rfl ?_
  refine x_iconst (v := 3) C0 d_Mv_hasParallels_3 (by decide) ?_
  refine x_icmp_ge (tgt := 60) C0 d_Mv_hasParallels_4 (by decide) (fun c4 => ?_) (fun c4 => ?_)
  · replace hwp := hwp.1 c4
    refine x_iconst (v := 0) C0 d_Mv_hasParallels_60 (by decide) ?_
    exact x_zret C0 hr rfl hlk hwp d_Mv_hasParallels_61
  · replace hwp := hwp.2 c4
    refine x_aload_n C0 0 d_Mv_hasParallels_7 rfl rfl ?_
    obtain ⟨x8, e8, hwp⟩ := hwp
    refine x_getR C0 fk_Mv_18 e8 d_Mv_hasParallels_8 ?_
    refine x_iload_n C0 1 d_Mv_hasParallels_11 rfl rfl ?_
    obtain ⟨n12, f12, e12, i12, hwp⟩ := hwp
    refine x_iald C0 e12 i12 d_Mv_hasParallels_12 ?_
    refine x_if_ne (tgt := 19) C0 d_Mv_hasParallels_13 (by decide) (fun c13 => ?_) (fun c13 => ?_)
    · replace hwp := hwp.1 c13
      refine x_iload_n C0 1 d_Mv_hasParallels_19 rfl rfl ?_
      refine x_iconst (v := 1) C0 d_Mv_hasParallels_20 (by decide) ?_
      refine x_iadd C0 d_Mv_hasParallels_21 ?_
      refine x_topI (fun z22 e22 => ?_)
      replace hwp := hwp z22 e22
      refine x_istore_n C0 d_Mv_hasParallels_22 rfl (by decide) (lv' := [(2, .int z22), (0, .ref (m_b G + l0)), (1, .int l1)]) rfl ?_
      exact x_sub [1, 2, 0] rfl (t_Mv_hasParallels_23 G C0 hR hr hlk hK2 _ _ _ _ hwp)
    · replace hwp := hwp.2 c13
      refine x_goto (tgt := 54) C0 d_Mv_hasParallels_16 (by decide) ?_
      exact x_sub [0, 1] rfl (t_Mv_hasParallels_54 G C0 hR hr hlk hK2 _ _ _ hwp)
theorem t_Mv_hasParallels_2 {p : Program} {l : Launch} {e : Env} {R : Room} {s : State} {m : MethodId} {args : Array Value} {below : List Frame} {meth : Method} {c : Code} (G : mG) (C0 : Cx G p s m args c prog_4_method_7_code 3 "BassRealiser$Move") (hR : 1 ≤ R.frames ∧ 23 ≤ R.locals ∧ 0 ≤ R.cells ∧ 0 ≤ R.slots) (hr : meth.sig.returnType = some .boolean) (hlk : meth.locks = false) {Post : Int32 → MH → Prop} (l0 : Nat) (l1 : Int32) (h : MH) (hwp : wp_Mv_hasParallels_2 Post l0 l1 h) : WG p l e R s m args below meth c 0 0 (MQ below (va_Qi Post (Wd G) (mA G)) args s 0 0 (mA G)) G 3 [(0, .ref (m_b G + l0)), (1, .int l1)] 2 [] h := by
  obtain ⟨n, hwp⟩ := hwp
  induction n generalizing l0 l1 h with
  | zero => exact False.elim hwp
  | succ n ih => exact tb_Mv_hasParallels_2 G C0 hR hr hlk (fun l0 l1 h hwp => ih l0 l1 h hwp) l0 l1 h hwp
set_option maxRecDepth 100000 in
set_option maxHeartbeats 4000000 in
theorem t_Mv_hasParallels {p : Program} {l : Launch} {e : Env} {R : Room} {s : State} {m : MethodId} {args : Array Value} {below : List Frame} {meth : Method} {c : Code} (G : mG) (C0 : Cx G p s m args c prog_4_method_7_code 3 "BassRealiser$Move") (hR : 1 ≤ R.frames ∧ 23 ≤ R.locals ∧ 0 ≤ R.cells ∧ 0 ≤ R.slots) (hr : meth.sig.returnType = some .boolean) (hlk : meth.locks = false) {Post : Int32 → MH → Prop} (l0 : Nat) (h : MH) (hwp : wp_Mv_hasParallels Post l0 h) : WG p l e R s m args below meth c 0 0 (MQ below (va_Qi Post (Wd G) (mA G)) args s 0 0 (mA G)) G 3 [(0, .ref (m_b G + l0))] 0 [] h := by
  unfold wp_Mv_hasParallels at hwp
  refine x_iconst (v := 0) C0 d_Mv_hasParallels_0 (by decide) ?_
  refine x_istore_n C0 d_Mv_hasParallels_1 rfl (by decide) (lv' := [(1, .int (0 : Int32)), (0, .ref (m_b G + l0))]) rfl ?_
  exact x_sub [1, 0] rfl (t_Mv_hasParallels_2 G C0 hR hr hlk  _ _ _ hwp)
set_option maxRecDepth 100000 in
set_option maxHeartbeats 4000000 in
theorem c_Mv_hasParallels (l : Launch) (G : mG) {Post : Int32 → MH → Prop} {l0 : Nat} {h : MH} (hwp : wp_Mv_hasParallels Post l0 h) : Met l y_Mv_hasParallels (Cond.code y_Mv_hasParallels prog_4_method_7_code 3 (Option.some Jvm.ClassFile.FieldType.boolean) :: lw_good) ({ frames := 1, cells := 0, slots := 0, locals := 23 }) (va_Pc [.ref (m_b G + l0)] (Wd G h)) (va_Qi Post (Wd G) (mA G)) 0 0 (mA G) := by
  refine Met.ofW (cc := prog_4_method_7_code) (maxL := 3) (ret := (Option.some Jvm.ClassFile.FieldType.boolean)) (by decide +kernel) rfl ?_
  intro p e s m args below meth c s₁ B hml hv
  obtain ⟨rfl, hP, hz, hK, hSt⟩ := hv
  have hts := atoms_spec (ws := Cond.code y_Mv_hasParallels prog_4_method_7_code 3 (Option.some Jvm.ClassFile.FieldType.boolean) :: lw_good) B.pre
  have C0 : Cx G p s m ([.ref (m_b G + l0)] : List Value).toArray c prog_4_method_7_code 3 "BassRealiser$Move" := ⟨⟨B.exec, B.bytes, hml, findClass_of_methodNamed B.named, fun w h => hts w (List.mem_cons_of_mem _ h)⟩, hK, hSt, by rw [hz]; exact Nat.le_add_right _ _⟩
  have hl := lv_entry ([.ref (m_b G + l0)]) (n := 3) (Nat.le_of_ble_eq_true rfl)
  rw [lg_entry_eq]
  exact t_Mv_hasParallels G C0 ⟨Nat.le_refl _, Nat.le_refl _, Nat.le_refl _, Nat.le_refl _⟩ B.returns B.notSynchronized _ _ hwp _ _ _ ⟨hP, hz, va_S.rf⟩ hl
def wp_Mv_unprepared_35 (K2 : Nat → Int32 → MH → Prop) (Post : Int32 → MH → Prop) (l0 : Nat) (l1 : Int32) (h : MH) : Prop :=
  K2 l0 (l1 + (1 : Int32)) h
def wb_Mv_unprepared_2 (K2 : Nat → Int32 → MH → Prop) (Post : Int32 → MH → Prop) (l0 : Nat) (l1 : Int32) (h : MH) : Prop :=
  (((3 : Int32) ≤ l1) →
    (Post (0 : Int32) h)) ∧
  ((¬ (3 : Int32) ≤ l1) →
    (∃ x8 : Nat, gF h l0 2 2 = some (.inr (some x8)) ∧
      (∃ (n12 : Nat) (f12 : Nat → Int32), gA h x8 0 = some (n12, f12) ∧ vp_in l1 n12 ∧
        ((((f12 (l1).toNatClampNeg) = 0) →
            (wp_Mv_unprepared_35 K2 Post l0 l1 h)) ∧
          ((¬ (f12 (l1).toNatClampNeg) = 0) →
            (∃ x17 : Nat, gF h l0 2 1 = some (.inr (some x17)) ∧
              (∃ (n21 : Nat) (f21 : Nat → Int32), gA h x17 0 = some (n21, f21) ∧ vp_in l1 n21 ∧
                (wp_Br_classBit (fun (r22 : Int32) (h22 : MH) =>
                    (∃ x26 : Int32, gF h22 l0 2 5 = some (.inl x26) ∧
                      ((((r22 &&& x26) = 0) →
                        (wp_Mv_unprepared_35 K2 Post l0 l1 h22)) ∧
                        ((¬ (r22 &&& x26) = 0) →
                        (Post (1 : Int32) h22))))) (f21 (l1).toNatClampNeg) h))))))))
def wn_Mv_unprepared_2 (Post : Int32 → MH → Prop) : Nat → Nat → Int32 → MH → Prop
  | 0 => fun _ _ _ => False
  | n + 1 => wb_Mv_unprepared_2 (wn_Mv_unprepared_2 Post n) Post
def wp_Mv_unprepared_2 (Post : Int32 → MH → Prop) (l0 : Nat) (l1 : Int32) (h : MH) : Prop := ∃ n, wn_Mv_unprepared_2 Post n l0 l1 h
def wp_Mv_unprepared (Post : Int32 → MH → Prop) (l0 : Nat) (h : MH) : Prop :=
  wp_Mv_unprepared_2 Post l0 (0 : Int32) h
set_option maxRecDepth 100000 in
set_option maxHeartbeats 4000000 in
theorem t_Mv_unprepared_35 {p : Program} {l : Launch} {e : Env} {R : Room} {s : State} {m : MethodId} {args : Array Value} {below : List Frame} {meth : Method} {c : Code} (G : mG) (C0 : Cx G p s m args c prog_4_method_9_code 2 "BassRealiser$Move") (hR : 1 ≤ R.frames ∧ 20 ≤ R.locals ∧ 0 ≤ R.cells ∧ 0 ≤ R.slots) (hr : meth.sig.returnType = some .boolean) (hlk : meth.locks = false) {Post : Int32 → MH → Prop} {K2 : Nat → Int32 → MH → Prop} (hK2 : ∀ (l0 : Nat) (l1 : Int32) (h : MH), K2 l0 l1 h → WG p l e R s m args below meth c 0 0 (MQ below (va_Qi Post (Wd G) (mA G)) args s 0 0 (mA G)) G 2 [(0, .ref (m_b G + l0)), (1, .int l1)] 2 [] h) (l0 : Nat) (l1 : Int32) (h : MH) (hwp : wp_Mv_unprepared_35 K2 Post l0 l1 h) : WG p l e R s m args below meth c 0 0 (MQ below (va_Qi Post (Wd G) (mA G)) args s 0 0 (mA G)) G 2 [(0, .ref (m_b G + l0)), (1, .int l1)] 35 [] h := by
  unfold wp_Mv_unprepared_35 at hwp
  refine x_iinc C0 1 d_Mv_unprepared_35 rfl rfl (by decide) (lv' := [(1, .int (l1 + (1 : Int32))), (0, .ref (m_b G + l0))]) rfl ?_
  refine x_goto (tgt := 2) C0 d_Mv_unprepared_38 (by decide) ?_
  exact x_sub [1, 0] rfl (hK2 _ _ _ hwp)
set_option maxRecDepth 100000 in
set_option maxHeartbeats 4000000 in
theorem tb_Mv_unprepared_2 {p : Program} {l : Launch} {e : Env} {R : Room} {s : State} {m : MethodId} {args : Array Value} {below : List Frame} {meth : Method} {c : Code} (G : mG) (C0 : Cx G p s m args c prog_4_method_9_code 2 "BassRealiser$Move") (hR : 1 ≤ R.frames ∧ 20 ≤ R.locals ∧ 0 ≤ R.cells ∧ 0 ≤ R.slots) (hr : meth.sig.returnType = some .boolean) (hlk : meth.locks = false) {Post : Int32 → MH → Prop} {K2 : Nat → Int32 → MH → Prop} (hK2 : ∀ (l0 : Nat) (l1 : Int32) (h : MH), K2 l0 l1 h → WG p l e R s m args below meth c 0 0 (MQ below (va_Qi Post (Wd G) (mA G)) args s 0 0 (mA G)) G 2 [(0, .ref (m_b G + l0)), (1, .int l1)] 2 [] h) (l0 : Nat) (l1 : Int32) (h : MH) (hwp : wb_Mv_unprepared_2 K2 Post l0 l1 h) : WG p l e R s m args below meth c 0 0 (MQ below (va_Qi Post (Wd G) (mA G)) args s 0 0 (mA G)) G 2 [(0, .ref (m_b G + l0)), (1, .int l1)] 2 [] h := by
  unfold wb_Mv_unprepared_2 at hwp
  refine x_iload_n C0 1 d_Mv_unprepared_2 rfl rfl ?_
  refine x_iconst (v := 3) C0 d_Mv_unprepared_3 (by decide) ?_
  refine x_icmp_ge (tgt := 41) C0 d_Mv_unprepared_4 (by decide) (fun c4 => ?_) (fun c4 => ?_)
  · replace hwp := hwp.1 c4
    refine x_iconst (v := 0) C0 d_Mv_unprepared_41 (by decide) ?_
    exact x_zret C0 hr rfl hlk hwp d_Mv_unprepared_42
  · replace hwp := hwp.2 c4
    refine x_aload_n C0 0 d_Mv_unprepared_7 rfl rfl ?_
    obtain ⟨x8, e8, hwp⟩ := hwp
    refine x_getR C0 fk_Mv_18 e8 d_Mv_unprepared_8 ?_
    refine x_iload_n C0 1 d_Mv_unprepared_11 rfl rfl ?_
    obtain ⟨n12, f12, e12, i12, hwp⟩ := hwp
    refine x_iald C0 e12 i12 d_Mv_unprepared_12 ?_
    refine x_if_eq (tgt := 35) C0 d_Mv_unprepared_13 (by decide) (fun c13 => ?_) (fun c13 => ?_)
    · replace hwp := hwp.1 c13
      exact x_sub [0, 1] rfl (t_Mv_unprepared_35 G C0 hR hr hlk hK2 _ _ _ hwp)
    · replace hwp := hwp.2 c13
      refine x_aload_n C0 0 d_Mv_unprepared_16 rfl rfl ?_
      obtain ⟨x17, e17, hwp⟩ := hwp
      refine x_getR C0 fk_Mv_15 e17 d_Mv_unprepared_17 ?_
      refine x_iload_n C0 1 d_Mv_unprepared_20 rfl rfl ?_
      obtain ⟨n21, f21, e21, i21, hwp⟩ := hwp
      refine x_iald C0 e21 i21 d_Mv_unprepared_21 ?_
      refine x_callSNi0 (As := [.int (f21 (l1).toNatClampNeg)]) (st := []) C0 (c_Br_classBit l G hwp) (m_nwA C0 nw_7) mk_Br_classBit kw_2_34 rfl (Nat.le_of_ble_eq_true rfl) rfl rfl ⟨Nat.le_trans (by decide) hR.1, Nat.le_trans (by decide) hR.2.1⟩ ⟨Nat.zero_le _, Nat.zero_le _⟩ rfl d_Mv_unprepared_22 (fun r22 h22 hwp => ?_)
      refine x_aload_n C0 0 d_Mv_unprepared_25 rfl rfl ?_
      obtain ⟨x26, e26, hwp⟩ := hwp
      refine x_getI C0 fk_Mv_43 e26 d_Mv_unprepared_26 ?_
      refine x_iand C0 d_Mv_unprepared_29 ?_
      refine x_if_eq (tgt := 35) C0 d_Mv_unprepared_30 (by decide) (fun c30 => ?_) (fun c30 => ?_)
      · replace hwp := hwp.1 c30
        exact x_sub [0, 1] rfl (t_Mv_unprepared_35 G C0 hR hr hlk hK2 _ _ _ hwp)
      · replace hwp := hwp.2 c30
        refine x_iconst (v := 1) C0 d_Mv_unprepared_33 (by decide) ?_
        exact x_zret C0 hr rfl hlk hwp d_Mv_unprepared_34
theorem t_Mv_unprepared_2 {p : Program} {l : Launch} {e : Env} {R : Room} {s : State} {m : MethodId} {args : Array Value} {below : List Frame} {meth : Method} {c : Code} (G : mG) (C0 : Cx G p s m args c prog_4_method_9_code 2 "BassRealiser$Move") (hR : 1 ≤ R.frames ∧ 20 ≤ R.locals ∧ 0 ≤ R.cells ∧ 0 ≤ R.slots) (hr : meth.sig.returnType = some .boolean) (hlk : meth.locks = false) {Post : Int32 → MH → Prop} (l0 : Nat) (l1 : Int32) (h : MH) (hwp : wp_Mv_unprepared_2 Post l0 l1 h) : WG p l e R s m args below meth c 0 0 (MQ below (va_Qi Post (Wd G) (mA G)) args s 0 0 (mA G)) G 2 [(0, .ref (m_b G + l0)), (1, .int l1)] 2 [] h := by
  obtain ⟨n, hwp⟩ := hwp
  induction n generalizing l0 l1 h with
  | zero => exact False.elim hwp
  | succ n ih => exact tb_Mv_unprepared_2 G C0 hR hr hlk (fun l0 l1 h hwp => ih l0 l1 h hwp) l0 l1 h hwp
set_option maxRecDepth 100000 in
set_option maxHeartbeats 4000000 in
theorem t_Mv_unprepared {p : Program} {l : Launch} {e : Env} {R : Room} {s : State} {m : MethodId} {args : Array Value} {below : List Frame} {meth : Method} {c : Code} (G : mG) (C0 : Cx G p s m args c prog_4_method_9_code 2 "BassRealiser$Move") (hR : 1 ≤ R.frames ∧ 20 ≤ R.locals ∧ 0 ≤ R.cells ∧ 0 ≤ R.slots) (hr : meth.sig.returnType = some .boolean) (hlk : meth.locks = false) {Post : Int32 → MH → Prop} (l0 : Nat) (h : MH) (hwp : wp_Mv_unprepared Post l0 h) : WG p l e R s m args below meth c 0 0 (MQ below (va_Qi Post (Wd G) (mA G)) args s 0 0 (mA G)) G 2 [(0, .ref (m_b G + l0))] 0 [] h := by
  unfold wp_Mv_unprepared at hwp
  refine x_iconst (v := 0) C0 d_Mv_unprepared_0 (by decide) ?_
  refine x_istore_n C0 d_Mv_unprepared_1 rfl (by decide) (lv' := [(1, .int (0 : Int32)), (0, .ref (m_b G + l0))]) rfl ?_
  exact x_sub [1, 0] rfl (t_Mv_unprepared_2 G C0 hR hr hlk  _ _ _ hwp)
set_option maxRecDepth 100000 in
set_option maxHeartbeats 4000000 in
theorem c_Mv_unprepared (l : Launch) (G : mG) {Post : Int32 → MH → Prop} {l0 : Nat} {h : MH} (hwp : wp_Mv_unprepared Post l0 h) : Met l y_Mv_unprepared (Cond.code y_Mv_unprepared prog_4_method_9_code 2 (Option.some Jvm.ClassFile.FieldType.boolean) :: lw_good) ({ frames := 1, cells := 0, slots := 0, locals := 20 }) (va_Pc [.ref (m_b G + l0)] (Wd G h)) (va_Qi Post (Wd G) (mA G)) 0 0 (mA G) := by
  refine Met.ofW (cc := prog_4_method_9_code) (maxL := 2) (ret := (Option.some Jvm.ClassFile.FieldType.boolean)) (by decide +kernel) rfl ?_
  intro p e s m args below meth c s₁ B hml hv
  obtain ⟨rfl, hP, hz, hK, hSt⟩ := hv
  have hts := atoms_spec (ws := Cond.code y_Mv_unprepared prog_4_method_9_code 2 (Option.some Jvm.ClassFile.FieldType.boolean) :: lw_good) B.pre
  have C0 : Cx G p s m ([.ref (m_b G + l0)] : List Value).toArray c prog_4_method_9_code 2 "BassRealiser$Move" := ⟨⟨B.exec, B.bytes, hml, findClass_of_methodNamed B.named, fun w h => hts w (List.mem_cons_of_mem _ h)⟩, hK, hSt, by rw [hz]; exact Nat.le_add_right _ _⟩
  have hl := lv_entry ([.ref (m_b G + l0)]) (n := 2) (Nat.le_of_ble_eq_true rfl)
  rw [lg_entry_eq]
  exact t_Mv_unprepared G C0 ⟨Nat.le_refl _, Nat.le_refl _, Nat.le_refl _, Nat.le_refl _⟩ B.returns B.notSynchronized _ _ hwp _ _ _ ⟨hP, hz, va_S.rf⟩ hl
def wp_Mv_unresolved_69 (K2 : Nat → Int32 → MH → Prop) (Post : Int32 → MH → Prop) (l0 : Nat) (l1 : Int32) (h : MH) : Prop :=
  K2 l0 (l1 + (1 : Int32)) h
def wp_Mv_unresolved_43 (K2 : Nat → Int32 → MH → Prop) (Post : Int32 → MH → Prop) (l0 : Nat) (l1 : Int32) (l2 : Int32) (h : MH) : Prop :=
  ∃ x45 : Int32, gF h l0 2 4 = some (.inl x45) ∧
  ((((l2 &&& x45) = 0) →
      (wp_Mv_unresolved_69 K2 Post l0 l1 h)) ∧
    ((¬ (l2 &&& x45) = 0) →
      (∃ x53 : Nat, gF h l0 2 2 = some (.inr (some x53)) ∧
        (∃ (n57 : Nat) (f57 : Nat → Int32), gA h x53 0 = some (n57, f57) ∧ vp_in l1 n57 ∧
          (wp_Br_within (fun (r61 : Int32) (h61 : MH) =>
              (((¬ r61 = 0) →
                  (wp_Mv_unresolved_69 K2 Post l0 l1 h61)) ∧
                ((r61 = 0) →
                  (Post (1 : Int32) h61)))) (f57 (l1).toNatClampNeg) (-2 : Int32) (0 : Int32) h)))))
def wb_Mv_unresolved_2 (K2 : Nat → Int32 → MH → Prop) (Post : Int32 → MH → Prop) (l0 : Nat) (l1 : Int32) (h : MH) : Prop :=
  (((3 : Int32) ≤ l1) →
    (Post (0 : Int32) h)) ∧
  ((¬ (3 : Int32) ≤ l1) →
    (∃ x8 : Nat, gF h l0 2 0 = some (.inr (some x8)) ∧
      (∃ (n12 : Nat) (f12 : Nat → Int32), gA h x8 0 = some (n12, f12) ∧ vp_in l1 n12 ∧
        (wp_Br_classBit (fun (r13 : Int32) (h13 : MH) =>
            (∃ x19 : Int32, gF h13 l0 2 3 = some (.inl x19) ∧
              ((((r13 &&& x19) = 0) →
                  (wp_Mv_unresolved_43 K2 Post l0 l1 r13 h13)) ∧
                ((¬ (r13 &&& x19) = 0) →
                  (∃ x27 : Nat, gF h13 l0 2 2 = some (.inr (some x27)) ∧
                    (∃ (n31 : Nat) (f31 : Nat → Int32), gA h13 x27 0 = some (n31, f31) ∧ vp_in l1 n31 ∧
                      (wp_Br_within (fun (r35 : Int32) (h35 : MH) =>
                        (((¬ r35 = 0) →
                        (wp_Mv_unresolved_43 K2 Post l0 l1 r13 h35)) ∧
                        ((r35 = 0) →
                        (Post (1 : Int32) h35)))) (f31 (l1).toNatClampNeg) (-2 : Int32) (-1 : Int32) h13))))))) (f12 (l1).toNatClampNeg) h))))
def wn_Mv_unresolved_2 (Post : Int32 → MH → Prop) : Nat → Nat → Int32 → MH → Prop
  | 0 => fun _ _ _ => False
  | n + 1 => wb_Mv_unresolved_2 (wn_Mv_unresolved_2 Post n) Post
def wp_Mv_unresolved_2 (Post : Int32 → MH → Prop) (l0 : Nat) (l1 : Int32) (h : MH) : Prop := ∃ n, wn_Mv_unresolved_2 Post n l0 l1 h
def wp_Mv_unresolved (Post : Int32 → MH → Prop) (l0 : Nat) (h : MH) : Prop :=
  wp_Mv_unresolved_2 Post l0 (0 : Int32) h
set_option maxRecDepth 100000 in
set_option maxHeartbeats 4000000 in
theorem t_Mv_unresolved_69 {p : Program} {l : Launch} {e : Env} {R : Room} {s : State} {m : MethodId} {args : Array Value} {below : List Frame} {meth : Method} {c : Code} (G : mG) (C0 : Cx G p s m args c prog_4_method_10_code 3 "BassRealiser$Move") (hR : 1 ≤ R.frames ∧ 22 ≤ R.locals ∧ 0 ≤ R.cells ∧ 0 ≤ R.slots) (hr : meth.sig.returnType = some .boolean) (hlk : meth.locks = false) {Post : Int32 → MH → Prop} {K2 : Nat → Int32 → MH → Prop} (hK2 : ∀ (l0 : Nat) (l1 : Int32) (h : MH), K2 l0 l1 h → WG p l e R s m args below meth c 0 0 (MQ below (va_Qi Post (Wd G) (mA G)) args s 0 0 (mA G)) G 3 [(0, .ref (m_b G + l0)), (1, .int l1)] 2 [] h) (l0 : Nat) (l1 : Int32) (h : MH) (hwp : wp_Mv_unresolved_69 K2 Post l0 l1 h) : WG p l e R s m args below meth c 0 0 (MQ below (va_Qi Post (Wd G) (mA G)) args s 0 0 (mA G)) G 3 [(0, .ref (m_b G + l0)), (1, .int l1)] 69 [] h := by
  unfold wp_Mv_unresolved_69 at hwp
  refine x_iinc C0 1 d_Mv_unresolved_69 rfl rfl (by decide) (lv' := [(1, .int (l1 + (1 : Int32))), (0, .ref (m_b G + l0))]) rfl ?_
  refine x_goto (tgt := 2) C0 d_Mv_unresolved_72 (by decide) ?_
  exact x_sub [1, 0] rfl (hK2 _ _ _ hwp)
set_option maxRecDepth 100000 in
set_option maxHeartbeats 4000000 in
theorem t_Mv_unresolved_43 {p : Program} {l : Launch} {e : Env} {R : Room} {s : State} {m : MethodId} {args : Array Value} {below : List Frame} {meth : Method} {c : Code} (G : mG) (C0 : Cx G p s m args c prog_4_method_10_code 3 "BassRealiser$Move") (hR : 1 ≤ R.frames ∧ 22 ≤ R.locals ∧ 0 ≤ R.cells ∧ 0 ≤ R.slots) (hr : meth.sig.returnType = some .boolean) (hlk : meth.locks = false) {Post : Int32 → MH → Prop} {K2 : Nat → Int32 → MH → Prop} (hK2 : ∀ (l0 : Nat) (l1 : Int32) (h : MH), K2 l0 l1 h → WG p l e R s m args below meth c 0 0 (MQ below (va_Qi Post (Wd G) (mA G)) args s 0 0 (mA G)) G 3 [(0, .ref (m_b G + l0)), (1, .int l1)] 2 [] h) (l0 : Nat) (l1 : Int32) (l2 : Int32) (h : MH) (hwp : wp_Mv_unresolved_43 K2 Post l0 l1 l2 h) : WG p l e R s m args below meth c 0 0 (MQ below (va_Qi Post (Wd G) (mA G)) args s 0 0 (mA G)) G 3 [(0, .ref (m_b G + l0)), (1, .int l1), (2, .int l2)] 43 [] h := by
  unfold wp_Mv_unresolved_43 at hwp
  refine x_iload_n C0 2 d_Mv_unresolved_43 rfl rfl ?_
  refine x_aload_n C0 0 d_Mv_unresolved_44 rfl rfl ?_
  obtain ⟨x45, e45, hwp⟩ := hwp
  refine x_getI C0 fk_Mv_40 e45 d_Mv_unresolved_45 ?_
  refine x_iand C0 d_Mv_unresolved_48 ?_
  refine x_if_eq (tgt := 69) C0 d_Mv_unresolved_49 (by decide) (fun c49 => ?_) (fun c49 => ?_)
  · replace hwp := hwp.1 c49
    exact x_sub [0, 1] rfl (t_Mv_unresolved_69 G C0 hR hr hlk hK2 _ _ _ hwp)
  · replace hwp := hwp.2 c49
    refine x_aload_n C0 0 d_Mv_unresolved_52 rfl rfl ?_
    obtain ⟨x53, e53, hwp⟩ := hwp
    refine x_getR C0 fk_Mv_18 e53 d_Mv_unresolved_53 ?_
    refine x_iload_n C0 1 d_Mv_unresolved_56 rfl rfl ?_
    obtain ⟨n57, f57, e57, i57, hwp⟩ := hwp
    refine x_iald C0 e57 i57 d_Mv_unresolved_57 ?_
    refine x_bipush (v := -2) C0 d_Mv_unresolved_58 (by decide) ?_
    refine x_iconst (v := 0) C0 d_Mv_unresolved_60 (by decide) ?_
    refine x_callSNi0 (As := [.int (f57 (l1).toNatClampNeg), .int (-2 : Int32), .int (0 : Int32)]) (st := []) C0 (c_Br_within l G hwp) (m_nwA C0 nw_8) mk_Br_within kw_1_227 rfl (Nat.le_of_ble_eq_true rfl) rfl rfl ⟨Nat.le_trans (by decide) hR.1, Nat.le_trans (by decide) hR.2.1⟩ ⟨Nat.zero_le _, Nat.zero_le _⟩ rfl d_Mv_unresolved_61 (fun r61 h61 hwp => ?_)
    refine x_if_ne (tgt := 69) C0 d_Mv_unresolved_64 (by decide) (fun c64 => ?_) (fun c64 => ?_)
    · replace hwp := hwp.1 c64
      exact x_sub [0, 1] rfl (t_Mv_unresolved_69 G C0 hR hr hlk hK2 _ _ _ hwp)
    · replace hwp := hwp.2 c64
      refine x_iconst (v := 1) C0 d_Mv_unresolved_67 (by decide) ?_
      exact x_zret C0 hr rfl hlk hwp d_Mv_unresolved_68
set_option maxRecDepth 100000 in
set_option maxHeartbeats 4000000 in
theorem tb_Mv_unresolved_2 {p : Program} {l : Launch} {e : Env} {R : Room} {s : State} {m : MethodId} {args : Array Value} {below : List Frame} {meth : Method} {c : Code} (G : mG) (C0 : Cx G p s m args c prog_4_method_10_code 3 "BassRealiser$Move") (hR : 1 ≤ R.frames ∧ 22 ≤ R.locals ∧ 0 ≤ R.cells ∧ 0 ≤ R.slots) (hr : meth.sig.returnType = some .boolean) (hlk : meth.locks = false) {Post : Int32 → MH → Prop} {K2 : Nat → Int32 → MH → Prop} (hK2 : ∀ (l0 : Nat) (l1 : Int32) (h : MH), K2 l0 l1 h → WG p l e R s m args below meth c 0 0 (MQ below (va_Qi Post (Wd G) (mA G)) args s 0 0 (mA G)) G 3 [(0, .ref (m_b G + l0)), (1, .int l1)] 2 [] h) (l0 : Nat) (l1 : Int32) (h : MH) (hwp : wb_Mv_unresolved_2 K2 Post l0 l1 h) : WG p l e R s m args below meth c 0 0 (MQ below (va_Qi Post (Wd G) (mA G)) args s 0 0 (mA G)) G 3 [(0, .ref (m_b G + l0)), (1, .int l1)] 2 [] h := by
  unfold wb_Mv_unresolved_2 at hwp
  refine x_iload_n C0 1 d_Mv_unresolved_2 rfl rfl ?_
  refine x_iconst (v := 3) C0 d_Mv_unresolved_3 (by decide) ?_
  refine x_icmp_ge (tgt := 75) C0 d_Mv_unresolved_4 (by decide) (fun c4 => ?_) (fun c4 => ?_)
  · replace hwp := hwp.1 c4
    refine x_iconst (v := 0) C0 d_Mv_unresolved_75 (by decide) ?_
    exact x_zret C0 hr rfl hlk hwp d_Mv_unresolved_76
  · replace hwp := hwp.2 c4
    refine x_aload_n C0 0 d_Mv_unresolved_7 rfl rfl ?_
    obtain ⟨x8, e8, hwp⟩ := hwp
    refine x_getR C0 fk_Mv_11 e8 d_Mv_unresolved_8 ?_
    refine x_iload_n C0 1 d_Mv_unresolved_11 rfl rfl ?_
    obtain ⟨n12, f12, e12, i12, hwp⟩ := hwp
    refine x_iald C0 e12 i12 d_Mv_unresolved_12 ?_
    refine x_callSNi0 (As := [.int (f12 (l1).toNatClampNeg)]) (st := []) C0 (c_Br_classBit l G hwp) (m_nwA C0 nw_7) mk_Br_classBit kw_2_34 rfl (Nat.le_of_ble_eq_true rfl) rfl rfl ⟨Nat.le_trans (by decide) hR.1, Nat.le_trans (by decide) hR.2.1⟩ ⟨Nat.zero_le _, Nat.zero_le _⟩ rfl d_Mv_unresolved_13 (fun r13 h13 hwp => ?_)
    refine x_istore_n C0 d_Mv_unresolved_16 rfl (by decide) (lv' := [(2, .int r13), (0, .ref (m_b G + l0)), (1, .int l1)]) rfl ?_
    refine x_iload_n C0 0 d_Mv_unresolved_17 rfl rfl ?_
    refine x_aload_n C0 1 d_Mv_unresolved_18 rfl rfl ?_
    obtain ⟨x19, e19, hwp⟩ := hwp
    refine x_getI C0 fk_Mv_34 e19 d_Mv_unresolved_19 ?_
    refine x_iand C0 d_Mv_unresolved_22 ?_
    refine x_if_eq (tgt := 43) C0 d_Mv_unresolved_23 (by decide) (fun c23 => ?_) (fun c23 => ?_)
    · replace hwp := hwp.1 c23
      exact x_sub [1, 2, 0] rfl (t_Mv_unresolved_43 G C0 hR hr hlk hK2 _ _ _ _ hwp)
    · replace hwp := hwp.2 c23
      refine x_aload_n C0 1 d_Mv_unresolved_26 rfl rfl ?_
      obtain ⟨x27, e27, hwp⟩ := hwp
      refine x_getR C0 fk_Mv_18 e27 d_Mv_unresolved_27 ?_
      refine x_iload_n C0 2 d_Mv_unresolved_30 rfl rfl ?_
      obtain ⟨n31, f31, e31, i31, hwp⟩ := hwp
      refine x_iald C0 e31 i31 d_Mv_unresolved_31 ?_
      refine x_bipush (v := -2) C0 d_Mv_unresolved_32 (by decide) ?_
      refine x_iconst (v := -1) C0 d_Mv_unresolved_34 (by decide) ?_
      refine x_callSNi0 (As := [.int (f31 (l1).toNatClampNeg), .int (-2 : Int32), .int (-1 : Int32)]) (st := []) C0 (c_Br_within l G hwp) (m_nwA C0 nw_8) mk_Br_within kw_1_227 rfl (Nat.le_of_ble_eq_true rfl) rfl rfl ⟨Nat.le_trans (by decide) hR.1, Nat.le_trans (by decide) hR.2.1⟩ ⟨Nat.zero_le _, Nat.zero_le _⟩ rfl d_Mv_unresolved_35 (fun r35 h35 hwp => ?_)
      refine x_if_ne (tgt := 43) C0 d_Mv_unresolved_38 (by decide) (fun c38 => ?_) (fun c38 => ?_)
      · replace hwp := hwp.1 c38
        exact x_sub [1, 2, 0] rfl (t_Mv_unresolved_43 G C0 hR hr hlk hK2 _ _ _ _ hwp)
      · replace hwp := hwp.2 c38
        refine x_iconst (v := 1) C0 d_Mv_unresolved_41 (by decide) ?_
        exact x_zret C0 hr rfl hlk hwp d_Mv_unresolved_42
theorem t_Mv_unresolved_2 {p : Program} {l : Launch} {e : Env} {R : Room} {s : State} {m : MethodId} {args : Array Value} {below : List Frame} {meth : Method} {c : Code} (G : mG) (C0 : Cx G p s m args c prog_4_method_10_code 3 "BassRealiser$Move") (hR : 1 ≤ R.frames ∧ 22 ≤ R.locals ∧ 0 ≤ R.cells ∧ 0 ≤ R.slots) (hr : meth.sig.returnType = some .boolean) (hlk : meth.locks = false) {Post : Int32 → MH → Prop} (l0 : Nat) (l1 : Int32) (h : MH) (hwp : wp_Mv_unresolved_2 Post l0 l1 h) : WG p l e R s m args below meth c 0 0 (MQ below (va_Qi Post (Wd G) (mA G)) args s 0 0 (mA G)) G 3 [(0, .ref (m_b G + l0)), (1, .int l1)] 2 [] h := by
  obtain ⟨n, hwp⟩ := hwp
  induction n generalizing l0 l1 h with
  | zero => exact False.elim hwp
  | succ n ih => exact tb_Mv_unresolved_2 G C0 hR hr hlk (fun l0 l1 h hwp => ih l0 l1 h hwp) l0 l1 h hwp
set_option maxRecDepth 100000 in
set_option maxHeartbeats 4000000 in
theorem t_Mv_unresolved {p : Program} {l : Launch} {e : Env} {R : Room} {s : State} {m : MethodId} {args : Array Value} {below : List Frame} {meth : Method} {c : Code} (G : mG) (C0 : Cx G p s m args c prog_4_method_10_code 3 "BassRealiser$Move") (hR : 1 ≤ R.frames ∧ 22 ≤ R.locals ∧ 0 ≤ R.cells ∧ 0 ≤ R.slots) (hr : meth.sig.returnType = some .boolean) (hlk : meth.locks = false) {Post : Int32 → MH → Prop} (l0 : Nat) (h : MH) (hwp : wp_Mv_unresolved Post l0 h) : WG p l e R s m args below meth c 0 0 (MQ below (va_Qi Post (Wd G) (mA G)) args s 0 0 (mA G)) G 3 [(0, .ref (m_b G + l0))] 0 [] h := by
  unfold wp_Mv_unresolved at hwp
  refine x_iconst (v := 0) C0 d_Mv_unresolved_0 (by decide) ?_
  refine x_istore_n C0 d_Mv_unresolved_1 rfl (by decide) (lv' := [(1, .int (0 : Int32)), (0, .ref (m_b G + l0))]) rfl ?_
  exact x_sub [1, 0] rfl (t_Mv_unresolved_2 G C0 hR hr hlk  _ _ _ hwp)
set_option maxRecDepth 100000 in
set_option maxHeartbeats 4000000 in
theorem c_Mv_unresolved (l : Launch) (G : mG) {Post : Int32 → MH → Prop} {l0 : Nat} {h : MH} (hwp : wp_Mv_unresolved Post l0 h) : Met l y_Mv_unresolved (Cond.code y_Mv_unresolved prog_4_method_10_code 3 (Option.some Jvm.ClassFile.FieldType.boolean) :: lw_good) ({ frames := 1, cells := 0, slots := 0, locals := 22 }) (va_Pc [.ref (m_b G + l0)] (Wd G h)) (va_Qi Post (Wd G) (mA G)) 0 0 (mA G) := by
  refine Met.ofW (cc := prog_4_method_10_code) (maxL := 3) (ret := (Option.some Jvm.ClassFile.FieldType.boolean)) (by decide +kernel) rfl ?_
  intro p e s m args below meth c s₁ B hml hv
  obtain ⟨rfl, hP, hz, hK, hSt⟩ := hv
  have hts := atoms_spec (ws := Cond.code y_Mv_unresolved prog_4_method_10_code 3 (Option.some Jvm.ClassFile.FieldType.boolean) :: lw_good) B.pre
  have C0 : Cx G p s m ([.ref (m_b G + l0)] : List Value).toArray c prog_4_method_10_code 3 "BassRealiser$Move" := ⟨⟨B.exec, B.bytes, hml, findClass_of_methodNamed B.named, fun w h => hts w (List.mem_cons_of_mem _ h)⟩, hK, hSt, by rw [hz]; exact Nat.le_add_right _ _⟩
  have hl := lv_entry ([.ref (m_b G + l0)]) (n := 3) (Nat.le_of_ble_eq_true rfl)
  rw [lg_entry_eq]
  exact t_Mv_unresolved G C0 ⟨Nat.le_refl _, Nat.le_refl _, Nat.le_refl _, Nat.le_refl _⟩ B.returns B.notSynchronized _ _ hwp _ _ _ ⟨hP, hz, va_S.rf⟩ hl
def wp_Mv_rule_38 (Post : Int32 → MH → Prop) (l0 : Nat) (h : MH) : Prop :=
  ∃ x39 : Int32, gF h l0 2 3 = some (.inl x39) ∧
  (∃ x43 : Int32, gF h l0 2 4 = some (.inl x43) ∧
    ((((x39 ||| x43) = 0) →
        (Post (0 : Int32) h)) ∧
      ((¬ (x39 ||| x43) = 0) →
        (gC h l0 = some 2 ∧ wp_Mv_unresolved (fun (r51 : Int32) (h51 : MH) =>
            (((r51 = 0) →
                (Post (0 : Int32) h51)) ∧
              ((¬ r51 = 0) →
                (Post (11 : Int32) h51)))) l0 h))))
def wp_Mv_rule (Post : Int32 → MH → Prop) (l0 : Nat) (l1 : Int32) (h : MH) : Prop :=
  gC h l0 = some 2 ∧ wp_Mv_leaps (fun (r2 : Int32) (h2 : MH) =>
    (((r2 = 0) →
        (gC h2 l0 = some 2 ∧ wp_Mv_hasParallels (fun (r12 : Int32) (h12 : MH) =>
            (((r12 = 0) →
                (∃ x22 : Int32, gF h12 l0 2 5 = some (.inl x22) ∧
                  (((x22 = 0) →
                      (wp_Mv_rule_38 Post l0 h12)) ∧
                    ((¬ x22 = 0) →
                      (gC h12 l0 = some 2 ∧ wp_Mv_unprepared (fun (r29 : Int32) (h29 : MH) =>
                        (((r29 = 0) →
                        (wp_Mv_rule_38 Post l0 h29)) ∧
                        ((¬ r29 = 0) →
                        (Post (10 : Int32) h29)))) l0 h12))))) ∧
              ((¬ r12 = 0) →
                (Post (9 : Int32) h12)))) l0 h2)) ∧
      ((¬ r2 = 0) →
        (Post (8 : Int32) h2)))) l0 l1 h
set_option maxRecDepth 100000 in
set_option maxHeartbeats 4000000 in
theorem t_Mv_rule_38 {p : Program} {l : Launch} {e : Env} {R : Room} {s : State} {m : MethodId} {args : Array Value} {below : List Frame} {meth : Method} {c : Code} (G : mG) (C0 : Cx G p s m args c prog_4_method_5_code 2 "BassRealiser$Move") (hR : 2 ≤ R.frames ∧ 45 ≤ R.locals ∧ 0 ≤ R.cells ∧ 0 ≤ R.slots) (hr : meth.sig.returnType = some .int) (hlk : meth.locks = false) {Post : Int32 → MH → Prop} (l0 : Nat) (h : MH) (hwp : wp_Mv_rule_38 Post l0 h) : WG p l e R s m args below meth c 0 0 (MQ below (va_Qi Post (Wd G) (mA G)) args s 0 0 (mA G)) G 2 [(0, .ref (m_b G + l0))] 38 [] h := by
  unfold wp_Mv_rule_38 at hwp
  refine x_aload_n C0 0 d_Mv_rule_38 rfl rfl ?_
  obtain ⟨x39, e39, hwp⟩ := hwp
  refine x_getI C0 fk_Mv_34 e39 d_Mv_rule_39 ?_
  refine x_aload_n C0 0 d_Mv_rule_42 rfl rfl ?_
  obtain ⟨x43, e43, hwp⟩ := hwp
  refine x_getI C0 fk_Mv_40 e43 d_Mv_rule_43 ?_
  refine x_ior C0 d_Mv_rule_46 ?_
  refine x_if_eq (tgt := 62) C0 d_Mv_rule_47 (by decide) (fun c47 => ?_) (fun c47 => ?_)
  · replace hwp := hwp.1 c47
    refine x_iconst (v := 0) C0 d_Mv_rule_62 (by decide) ?_
    exact x_iret C0 hr hlk hwp d_Mv_rule_63
  · replace hwp := hwp.2 c47
    refine x_aload_n C0 0 d_Mv_rule_50 rfl rfl ?_
    obtain ⟨g51, hwp⟩ := hwp
    refine x_callVi0 (k := l0) (As := []) (st := []) C0 (c_Mv_unresolved l G hwp) kw_2_231 mk_Mv_unresolved vk_Mv_unresolved rfl g51 rfl (Nat.le_of_ble_eq_true rfl) rfl rfl ⟨Nat.le_trans (by decide) hR.1, Nat.le_trans (by decide) hR.2.1⟩ ⟨Nat.zero_le _, Nat.zero_le _⟩ rfl d_Mv_rule_51 (fun r51 h51 hwp => ?_)
    refine x_if_eq (tgt := 62) C0 d_Mv_rule_54 (by decide) (fun c54 => ?_) (fun c54 => ?_)
    · replace hwp := hwp.1 c54
      refine x_iconst (v := 0) C0 d_Mv_rule_62 (by decide) ?_
      exact x_iret C0 hr hlk hwp d_Mv_rule_63
    · replace hwp := hwp.2 c54
      refine x_bipush (v := 11) C0 d_Mv_rule_57 (by decide) ?_
      refine x_goto (tgt := 63) C0 d_Mv_rule_59 (by decide) ?_
      exact x_iret C0 hr hlk hwp d_Mv_rule_63
set_option maxRecDepth 100000 in
set_option maxHeartbeats 4000000 in
theorem t_Mv_rule {p : Program} {l : Launch} {e : Env} {R : Room} {s : State} {m : MethodId} {args : Array Value} {below : List Frame} {meth : Method} {c : Code} (G : mG) (C0 : Cx G p s m args c prog_4_method_5_code 2 "BassRealiser$Move") (hR : 2 ≤ R.frames ∧ 45 ≤ R.locals ∧ 0 ≤ R.cells ∧ 0 ≤ R.slots) (hr : meth.sig.returnType = some .int) (hlk : meth.locks = false) {Post : Int32 → MH → Prop} (l0 : Nat) (l1 : Int32) (h : MH) (hwp : wp_Mv_rule Post l0 l1 h) : WG p l e R s m args below meth c 0 0 (MQ below (va_Qi Post (Wd G) (mA G)) args s 0 0 (mA G)) G 2 [(0, .ref (m_b G + l0)), (1, .int l1)] 0 [] h := by
  unfold wp_Mv_rule at hwp
  refine x_aload_n C0 0 d_Mv_rule_0 rfl rfl ?_
  refine x_iload_n C0 1 d_Mv_rule_1 rfl rfl ?_
  obtain ⟨g2, hwp⟩ := hwp
  refine x_callVi0 (k := l0) (As := [.int l1]) (st := []) C0 (c_Mv_leaps l G hwp) kw_2_213 mk_Mv_leaps vk_Mv_leaps rfl g2 rfl (Nat.le_of_ble_eq_true rfl) rfl rfl ⟨Nat.le_trans (by decide) hR.1, Nat.le_trans (by decide) hR.2.1⟩ ⟨Nat.zero_le _, Nat.zero_le _⟩ rfl d_Mv_rule_2 (fun r2 h2 hwp => ?_)
  refine x_if_eq (tgt := 11) C0 d_Mv_rule_5 (by decide) (fun c5 => ?_) (fun c5 => ?_)
  · replace hwp := hwp.1 c5
    refine x_aload_n C0 0 d_Mv_rule_11 rfl rfl ?_
    obtain ⟨g12, hwp⟩ := hwp
    refine x_callVi0 (k := l0) (As := []) (st := []) C0 (c_Mv_hasParallels l G hwp) kw_2_218 mk_Mv_hasParallels vk_Mv_hasParallels rfl g12 rfl (Nat.le_of_ble_eq_true rfl) rfl rfl ⟨Nat.le_trans (by decide) hR.1, Nat.le_trans (by decide) hR.2.1⟩ ⟨Nat.zero_le _, Nat.zero_le _⟩ rfl d_Mv_rule_12 (fun r12 h12 hwp => ?_)
    refine x_if_eq (tgt := 21) C0 d_Mv_rule_15 (by decide) (fun c15 => ?_) (fun c15 => ?_)
    · replace hwp := hwp.1 c15
      refine x_aload_n C0 0 d_Mv_rule_21 rfl rfl ?_
      obtain ⟨x22, e22, hwp⟩ := hwp
      refine x_getI C0 fk_Mv_43 e22 d_Mv_rule_22 ?_
      refine x_if_eq (tgt := 38) C0 d_Mv_rule_25 (by decide) (fun c25 => ?_) (fun c25 => ?_)
      · replace hwp := hwp.1 c25
        exact x_sub [0] rfl (t_Mv_rule_38 G C0 hR hr hlk  _ _ hwp)
      · replace hwp := hwp.2 c25
        refine x_aload_n C0 0 d_Mv_rule_28 rfl rfl ?_
        obtain ⟨g29, hwp⟩ := hwp
        refine x_callVi0 (k := l0) (As := []) (st := []) C0 (c_Mv_unprepared l G hwp) kw_2_226 mk_Mv_unprepared vk_Mv_unprepared rfl g29 rfl (Nat.le_of_ble_eq_true rfl) rfl rfl ⟨Nat.le_trans (by decide) hR.1, Nat.le_trans (by decide) hR.2.1⟩ ⟨Nat.zero_le _, Nat.zero_le _⟩ rfl d_Mv_rule_29 (fun r29 h29 hwp => ?_)
        refine x_if_eq (tgt := 38) C0 d_Mv_rule_32 (by decide) (fun c32 => ?_) (fun c32 => ?_)
        · replace hwp := hwp.1 c32
          exact x_sub [0] rfl (t_Mv_rule_38 G C0 hR hr hlk  _ _ hwp)
        · replace hwp := hwp.2 c32
          refine x_bipush (v := 10) C0 d_Mv_rule_35 (by decide) ?_
          exact x_iret C0 hr hlk hwp d_Mv_rule_37
    · replace hwp := hwp.2 c15
      refine x_bipush (v := 9) C0 d_Mv_rule_18 (by decide) ?_
      exact x_iret C0 hr hlk hwp d_Mv_rule_20
  · replace hwp := hwp.2 c5
    refine x_bipush (v := 8) C0 d_Mv_rule_8 (by decide) ?_
    exact x_iret C0 hr hlk hwp d_Mv_rule_10
set_option maxRecDepth 100000 in
set_option maxHeartbeats 4000000 in
theorem c_Mv_rule (l : Launch) (G : mG) {Post : Int32 → MH → Prop} {l0 : Nat} {l1 : Int32} {h : MH} (hwp : wp_Mv_rule Post l0 l1 h) : Met l y_Mv_rule (Cond.code y_Mv_rule prog_4_method_5_code 2 (Option.some Jvm.ClassFile.FieldType.int) :: lw_good) ({ frames := 2, cells := 0, slots := 0, locals := 45 }) (va_Pc [.ref (m_b G + l0), .int l1] (Wd G h)) (va_Qi Post (Wd G) (mA G)) 0 0 (mA G) := by
  refine Met.ofW (cc := prog_4_method_5_code) (maxL := 2) (ret := (Option.some Jvm.ClassFile.FieldType.int)) (by decide +kernel) rfl ?_
  intro p e s m args below meth c s₁ B hml hv
  obtain ⟨rfl, hP, hz, hK, hSt⟩ := hv
  have hts := atoms_spec (ws := Cond.code y_Mv_rule prog_4_method_5_code 2 (Option.some Jvm.ClassFile.FieldType.int) :: lw_good) B.pre
  have C0 : Cx G p s m ([.ref (m_b G + l0), .int l1] : List Value).toArray c prog_4_method_5_code 2 "BassRealiser$Move" := ⟨⟨B.exec, B.bytes, hml, findClass_of_methodNamed B.named, fun w h => hts w (List.mem_cons_of_mem _ h)⟩, hK, hSt, by rw [hz]; exact Nat.le_add_right _ _⟩
  have hl := lv_entry ([.ref (m_b G + l0), .int l1]) (n := 2) (Nat.le_of_ble_eq_true rfl)
  rw [lg_entry_eq]
  exact t_Mv_rule G C0 ⟨Nat.le_refl _, Nat.le_refl _, Nat.le_refl _, Nat.le_refl _⟩ B.returns B.notSynchronized _ _ _ hwp _ _ _ ⟨hP, hz, va_S.rf⟩ hl
def wp_Se_reachable_89 (K12 : Nat → Int32 → Int32 → Nat → Int32 → MH → Prop) (Post : Int32 → MH → Prop) (l0 : Nat) (l1 : Int32) (l2 : Int32) (l3 : Nat) (l4 : Int32) (h : MH) : Prop :=
  K12 l0 l1 l2 l3 (l4 + (1 : Int32)) h
def wb_Se_reachable_12 (K12 : Nat → Int32 → Int32 → Nat → Int32 → MH → Prop) (Post : Int32 → MH → Prop) (l0 : Nat) (l1 : Int32) (l2 : Int32) (l3 : Nat) (l4 : Int32) (h : MH) : Prop :=
  ∃ x15 : Int32, gF h l3 1 4 = some (.inl x15) ∧
  (((x15 ≤ l4) →
      (Post (0 : Int32) h)) ∧
    ((¬ x15 ≤ l4) →
      (∃ x22 : Nat, gF h l3 1 1 = some (.inr (some x22)) ∧
        (∃ (n27 : Nat) (f27 : Nat → Int32), gA h x22 1 = some (n27, f27) ∧ vp_in l4 n27 ∧
          (((¬ (f27 (l4).toNatClampNeg) = 0) →
              (∃ x35 : Nat, gF h l0 4 3 = some (.inr (some x35)) ∧
                (∃ x39 : Nat, gF h l0 4 0 = some (.inr (some x39)) ∧
                  (∃ (n45 : Nat) (f45 : Nat → Option Nat) (q45 : Nat), gR h x39 3 = some (n45, f45) ∧ vp_in (l1 - (1 : Int32)) n45 ∧ f45 (l1 - (1 : Int32)).toNatClampNeg = some q45 ∧
                    (∃ x47 : Nat, gF h l3 1 0 = some (.inr (some x47)) ∧
                      (∃ (n52 : Nat) (f52 : Nat → Int32), gA h x47 0 = some (n52, f52) ∧ vp_in l4 n52 ∧
                        (gC h x35 = some 2 ∧ wp_Mv_leave (fun (h53 : MH) =>
                        (∃ x57 : Nat, gF h53 l0 4 3 = some (.inr (some x57)) ∧
                        (∃ x61 : Nat, gF h53 l0 4 0 = some (.inr (some x61)) ∧
                        (∃ (n65 : Nat) (f65 : Nat → Option Nat) (q65 : Nat), gR h53 x61 3 = some (n65, f65) ∧ vp_in l1 n65 ∧ f65 (l1).toNatClampNeg = some q65 ∧
                        (gC h53 x57 = some 2 ∧ wp_Mv_arrive (fun (h67 : MH) =>
                        (∃ x71 : Nat, gF h67 l0 4 3 = some (.inr (some x71)) ∧
                        (∃ x75 : Nat, gF h67 l0 4 1 = some (.inr (some x75)) ∧
                        (∃ x78 : Int32, gF h67 x75 3 3 = some (.inl x78) ∧
                        (gC h67 x71 = some 2 ∧ wp_Mv_rule (fun (r81 : Int32) (h81 : MH) =>
                        (((¬ r81 = 0) →
                        (wp_Se_reachable_89 K12 Post l0 l1 l2 l3 l4 h81)) ∧
                        ((r81 = 0) →
                        (Post (1 : Int32) h81)))) x71 x78 h67))))) x57 q65 l2 h53))))) x35 q45 (f52 (l4).toNatClampNeg) h))))))) ∧
            (((f27 (l4).toNatClampNeg) = 0) →
              (wp_Se_reachable_89 K12 Post l0 l1 l2 l3 l4 h)))))))
def wn_Se_reachable_12 (Post : Int32 → MH → Prop) : Nat → Nat → Int32 → Int32 → Nat → Int32 → MH → Prop
  | 0 => fun _ _ _ _ _ _ => False
  | n + 1 => wb_Se_reachable_12 (wn_Se_reachable_12 Post n) Post
def wp_Se_reachable_12 (Post : Int32 → MH → Prop) (l0 : Nat) (l1 : Int32) (l2 : Int32) (l3 : Nat) (l4 : Int32) (h : MH) : Prop := ∃ n, wn_Se_reachable_12 Post n l0 l1 l2 l3 l4 h
def wp_Se_reachable (Post : Int32 → MH → Prop) (l0 : Nat) (l1 : Int32) (l2 : Int32) (h : MH) : Prop :=
  ∃ x1 : Nat, gF h l0 4 2 = some (.inr (some x1)) ∧
  (∃ (n7 : Nat) (f7 : Nat → Option Nat) (q7 : Nat), gR h x1 4 = some (n7, f7) ∧ vp_in (l1 - (1 : Int32)) n7 ∧ f7 (l1 - (1 : Int32)).toNatClampNeg = some q7 ∧
    (wp_Se_reachable_12 Post l0 l1 l2 q7 (0 : Int32) h))
set_option maxRecDepth 100000 in
set_option maxHeartbeats 4000000 in
theorem t_Se_reachable_89 {p : Program} {l : Launch} {e : Env} {R : Room} {s : State} {m : MethodId} {args : Array Value} {below : List Frame} {meth : Method} {c : Code} (G : mG) (C0 : Cx G p s m args c prog_6_method_8_code 5 "BassRealiser$Search") (hR : 3 ≤ R.frames ∧ 66 ≤ R.locals ∧ 0 ≤ R.cells ∧ 0 ≤ R.slots) (hr : meth.sig.returnType = some .boolean) (hlk : meth.locks = false) {Post : Int32 → MH → Prop} {K12 : Nat → Int32 → Int32 → Nat → Int32 → MH → Prop} (hK12 : ∀ (l0 : Nat) (l1 : Int32) (l2 : Int32) (l3 : Nat) (l4 : Int32) (h : MH), K12 l0 l1 l2 l3 l4 h → WG p l e R s m args below meth c 0 0 (MQ below (va_Qi Post (Wd G) (mA G)) args s 0 0 (mA G)) G 5 [(0, .ref (m_b G + l0)), (1, .int l1), (2, .int l2), (3, .ref (m_b G + l3)), (4, .int l4)] 12 [] h) (l0 : Nat) (l1 : Int32) (l2 : Int32) (l3 : Nat) (l4 : Int32) (h : MH) (hwp : wp_Se_reachable_89 K12 Post l0 l1 l2 l3 l4 h) : WG p l e R s m args below meth c 0 0 (MQ below (va_Qi Post (Wd G) (mA G)) args s 0 0 (mA G)) G 5 [(0, .ref (m_b G + l0)), (1, .int l1), (2, .int l2), (3, .ref (m_b G + l3)), (4, .int l4)] 89 [] h := by
  unfold wp_Se_reachable_89 at hwp
  refine x_iinc C0 4 d_Se_reachable_89 rfl rfl (by decide) (lv' := [(4, .int (l4 + (1 : Int32))), (0, .ref (m_b G + l0)), (1, .int l1), (2, .int l2), (3, .ref (m_b G + l3))]) rfl ?_
  refine x_goto (tgt := 12) C0 d_Se_reachable_92 (by decide) ?_
  exact x_sub [1, 2, 3, 4, 0] rfl (hK12 _ _ _ _ _ _ hwp)
set_option maxRecDepth 100000 in
set_option maxHeartbeats 4000000 in
theorem tb_Se_reachable_12 {p : Program} {l : Launch} {e : Env} {R : Room} {s : State} {m : MethodId} {args : Array Value} {below : List Frame} {meth : Method} {c : Code} (G : mG) (C0 : Cx G p s m args c prog_6_method_8_code 5 "BassRealiser$Search") (hR : 3 ≤ R.frames ∧ 66 ≤ R.locals ∧ 0 ≤ R.cells ∧ 0 ≤ R.slots) (hr : meth.sig.returnType = some .boolean) (hlk : meth.locks = false) {Post : Int32 → MH → Prop} {K12 : Nat → Int32 → Int32 → Nat → Int32 → MH → Prop} (hK12 : ∀ (l0 : Nat) (l1 : Int32) (l2 : Int32) (l3 : Nat) (l4 : Int32) (h : MH), K12 l0 l1 l2 l3 l4 h → WG p l e R s m args below meth c 0 0 (MQ below (va_Qi Post (Wd G) (mA G)) args s 0 0 (mA G)) G 5 [(0, .ref (m_b G + l0)), (1, .int l1), (2, .int l2), (3, .ref (m_b G + l3)), (4, .int l4)] 12 [] h) (l0 : Nat) (l1 : Int32) (l2 : Int32) (l3 : Nat) (l4 : Int32) (h : MH) (hwp : wb_Se_reachable_12 K12 Post l0 l1 l2 l3 l4 h) : WG p l e R s m args below meth c 0 0 (MQ below (va_Qi Post (Wd G) (mA G)) args s 0 0 (mA G)) G 5 [(0, .ref (m_b G + l0)), (1, .int l1), (2, .int l2), (3, .ref (m_b G + l3)), (4, .int l4)] 12 [] h := by
  unfold wb_Se_reachable_12 at hwp
  refine x_iload C0 4 d_Se_reachable_12 rfl ?_
  refine x_aload_n C0 3 d_Se_reachable_14 rfl rfl ?_
  obtain ⟨x15, e15, hwp⟩ := hwp
  refine x_getI C0 fk_Se_87 e15 d_Se_reachable_15 ?_
  refine x_icmp_ge (tgt := 95) C0 d_Se_reachable_18 (by decide) (fun c18 => ?_) (fun c18 => ?_)
  · replace hwp := hwp.1 c18
    refine x_iconst (v := 0) C0 d_Se_reachable_95 (by decide) ?_
    exact x_zret C0 hr rfl hlk hwp d_Se_reachable_96
  · replace hwp := hwp.2 c18
    refine x_aload_n C0 3 d_Se_reachable_21 rfl rfl ?_
    obtain ⟨x22, e22, hwp⟩ := hwp
    refine x_getR C0 fk_Se_93 e22 d_Se_reachable_22 ?_
    refine x_iload C0 4 d_Se_reachable_25 rfl ?_
    obtain ⟨n27, f27, e27, i27, hwp⟩ := hwp
    refine x_zald C0 e27 i27 d_Se_reachable_27 ?_
    refine x_if_ne (tgt := 34) C0 d_Se_reachable_28 (by decide) (fun c28 => ?_) (fun c28 => ?_)
    · replace hwp := hwp.1 c28
      refine x_aload_n C0 0 d_Se_reachable_34 rfl rfl ?_
      obtain ⟨x35, e35, hwp⟩ := hwp
      refine x_getR C0 fk_Se_35 e35 d_Se_reachable_35 ?_
      refine x_aload_n C0 0 d_Se_reachable_38 rfl rfl ?_
      obtain ⟨x39, e39, hwp⟩ := hwp
      refine x_getR C0 fk_Se_11 e39 d_Se_reachable_39 ?_
      refine x_iload_n C0 1 d_Se_reachable_42 rfl rfl ?_
      refine x_iconst (v := 1) C0 d_Se_reachable_43 (by decide) ?_
      refine x_isub C0 d_Se_reachable_44 ?_
      obtain ⟨n45, f45, q45, e45, i45, g45, hwp⟩ := hwp
      refine x_aald (t := 3) C0 e45 rfl i45 g45 d_Se_reachable_45 ?_
      refine x_aload_n C0 3 d_Se_reachable_46 rfl rfl ?_
      obtain ⟨x47, e47, hwp⟩ := hwp
      refine x_getR C0 fk_Se_90 e47 d_Se_reachable_47 ?_
      refine x_iload C0 4 d_Se_reachable_50 rfl ?_
      obtain ⟨n52, f52, e52, i52, hwp⟩ := hwp
      refine x_iald C0 e52 i52 d_Se_reachable_52 ?_
      obtain ⟨g53, hwp⟩ := hwp
      refine x_callVv0 (k := x35) (As := [.ref (m_b G + q45), .int (f52 (l4).toNatClampNeg)]) (st := []) C0 (c_Mv_leave l G hwp) kw_2_200 mk_Mv_leave vk_Mv_leave rfl g53 rfl (Nat.le_of_ble_eq_true rfl) rfl rfl ⟨Nat.le_trans (by decide) hR.1, Nat.le_trans (by decide) hR.2.1⟩ ⟨Nat.zero_le _, Nat.zero_le _⟩ rfl d_Se_reachable_53 (fun h53 hwp => ?_)
      refine x_aload_n C0 0 d_Se_reachable_56 rfl rfl ?_
      obtain ⟨x57, e57, hwp⟩ := hwp
      refine x_getR C0 fk_Se_35 e57 d_Se_reachable_57 ?_
      refine x_aload_n C0 0 d_Se_reachable_60 rfl rfl ?_
      obtain ⟨x61, e61, hwp⟩ := hwp
      refine x_getR C0 fk_Se_11 e61 d_Se_reachable_61 ?_
      refine x_iload_n C0 1 d_Se_reachable_64 rfl rfl ?_
      obtain ⟨n65, f65, q65, e65, i65, g65, hwp⟩ := hwp
      refine x_aald (t := 3) C0 e65 rfl i65 g65 d_Se_reachable_65 ?_
      refine x_iload_n C0 2 d_Se_reachable_66 rfl rfl ?_
      obtain ⟨g67, hwp⟩ := hwp
      refine x_callVv0 (k := x57) (As := [.ref (m_b G + q65), .int l2]) (st := []) C0 (c_Mv_arrive l G hwp) kw_2_205 mk_Mv_arrive vk_Mv_arrive rfl g67 rfl (Nat.le_of_ble_eq_true rfl) rfl rfl ⟨Nat.le_trans (by decide) hR.1, Nat.le_trans (by decide) hR.2.1⟩ ⟨Nat.zero_le _, Nat.zero_le _⟩ rfl d_Se_reachable_67 (fun h67 hwp => ?_)
      refine x_aload_n C0 0 d_Se_reachable_70 rfl rfl ?_
      obtain ⟨x71, e71, hwp⟩ := hwp
      refine x_getR C0 fk_Se_35 e71 d_Se_reachable_71 ?_
      refine x_aload_n C0 0 d_Se_reachable_74 rfl rfl ?_
      obtain ⟨x75, e75, hwp⟩ := hwp
      refine x_getR C0 fk_Se_20 e75 d_Se_reachable_75 ?_
      obtain ⟨x78, e78, hwp⟩ := hwp
      refine x_getI C0 fk_Se_112 e78 d_Se_reachable_78 ?_
      obtain ⟨g81, hwp⟩ := hwp
      refine x_callVi0 (k := x71) (As := [.int x78]) (st := []) C0 (c_Mv_rule l G hwp) kw_2_209 mk_Mv_rule vk_Mv_rule rfl g81 rfl (Nat.le_of_ble_eq_true rfl) rfl rfl ⟨Nat.le_trans (by decide) hR.1, Nat.le_trans (by decide) hR.2.1⟩ ⟨Nat.zero_le _, Nat.zero_le _⟩ rfl d_Se_reachable_81 (fun r81 h81 hwp => ?_)
      refine x_if_ne (tgt := 89) C0 d_Se_reachable_84 (by decide) (fun c84 => ?_) (fun c84 => ?_)
      · replace hwp := hwp.1 c84
        exact x_sub [0, 1, 2, 3, 4] rfl (t_Se_reachable_89 G C0 hR hr hlk hK12 _ _ _ _ _ _ hwp)
      · replace hwp := hwp.2 c84
        refine x_iconst (v := 1) C0 d_Se_reachable_87 (by decide) ?_
        exact x_zret C0 hr rfl hlk hwp d_Se_reachable_88
    · replace hwp := hwp.2 c28
      refine x_goto (tgt := 89) C0 d_Se_reachable_31 (by decide) ?_
      exact x_sub [0, 1, 2, 3, 4] rfl (t_Se_reachable_89 G C0 hR hr hlk hK12 _ _ _ _ _ _ hwp)
theorem t_Se_reachable_12 {p : Program} {l : Launch} {e : Env} {R : Room} {s : State} {m : MethodId} {args : Array Value} {below : List Frame} {meth : Method} {c : Code} (G : mG) (C0 : Cx G p s m args c prog_6_method_8_code 5 "BassRealiser$Search") (hR : 3 ≤ R.frames ∧ 66 ≤ R.locals ∧ 0 ≤ R.cells ∧ 0 ≤ R.slots) (hr : meth.sig.returnType = some .boolean) (hlk : meth.locks = false) {Post : Int32 → MH → Prop} (l0 : Nat) (l1 : Int32) (l2 : Int32) (l3 : Nat) (l4 : Int32) (h : MH) (hwp : wp_Se_reachable_12 Post l0 l1 l2 l3 l4 h) : WG p l e R s m args below meth c 0 0 (MQ below (va_Qi Post (Wd G) (mA G)) args s 0 0 (mA G)) G 5 [(0, .ref (m_b G + l0)), (1, .int l1), (2, .int l2), (3, .ref (m_b G + l3)), (4, .int l4)] 12 [] h := by
  obtain ⟨n, hwp⟩ := hwp
  induction n generalizing l0 l1 l2 l3 l4 h with
  | zero => exact False.elim hwp
  | succ n ih => exact tb_Se_reachable_12 G C0 hR hr hlk (fun l0 l1 l2 l3 l4 h hwp => ih l0 l1 l2 l3 l4 h hwp) l0 l1 l2 l3 l4 h hwp
set_option maxRecDepth 100000 in
set_option maxHeartbeats 4000000 in
theorem t_Se_reachable {p : Program} {l : Launch} {e : Env} {R : Room} {s : State} {m : MethodId} {args : Array Value} {below : List Frame} {meth : Method} {c : Code} (G : mG) (C0 : Cx G p s m args c prog_6_method_8_code 5 "BassRealiser$Search") (hR : 3 ≤ R.frames ∧ 66 ≤ R.locals ∧ 0 ≤ R.cells ∧ 0 ≤ R.slots) (hr : meth.sig.returnType = some .boolean) (hlk : meth.locks = false) {Post : Int32 → MH → Prop} (l0 : Nat) (l1 : Int32) (l2 : Int32) (h : MH) (hwp : wp_Se_reachable Post l0 l1 l2 h) : WG p l e R s m args below meth c 0 0 (MQ below (va_Qi Post (Wd G) (mA G)) args s 0 0 (mA G)) G 5 [(0, .ref (m_b G + l0)), (1, .int l1), (2, .int l2)] 0 [] h := by
  unfold wp_Se_reachable at hwp
  refine x_aload_n C0 0 d_Se_reachable_0 rfl rfl ?_
  obtain ⟨x1, e1, hwp⟩ := hwp
  refine x_getR C0 fk_Se_26 e1 d_Se_reachable_1 ?_
  refine x_iload_n C0 1 d_Se_reachable_4 rfl rfl ?_
  refine x_iconst (v := 1) C0 d_Se_reachable_5 (by decide) ?_
  refine x_isub C0 d_Se_reachable_6 ?_
  obtain ⟨n7, f7, q7, e7, i7, g7, hwp⟩ := hwp
  refine x_aald (t := 4) C0 e7 rfl i7 g7 d_Se_reachable_7 ?_
  refine x_astore_n C0 d_Se_reachable_8 rfl (by decide) (lv' := [(3, .ref (m_b G + q7)), (0, .ref (m_b G + l0)), (1, .int l1), (2, .int l2)]) rfl ?_
  refine x_iconst (v := 0) C0 d_Se_reachable_9 (by decide) ?_
  refine x_istore C0 d_Se_reachable_10 (by decide) (lv' := [(4, .int (0 : Int32)), (3, .ref (m_b G + q7)), (0, .ref (m_b G + l0)), (1, .int l1), (2, .int l2)]) rfl ?_
  exact x_sub [2, 3, 4, 1, 0] rfl (t_Se_reachable_12 G C0 hR hr hlk  _ _ _ _ _ _ hwp)
set_option maxRecDepth 100000 in
set_option maxHeartbeats 4000000 in
theorem c_Se_reachable (l : Launch) (G : mG) {Post : Int32 → MH → Prop} {l0 : Nat} {l1 : Int32} {l2 : Int32} {h : MH} (hwp : wp_Se_reachable Post l0 l1 l2 h) : Met l y_Se_reachable (Cond.code y_Se_reachable prog_6_method_8_code 5 (Option.some Jvm.ClassFile.FieldType.boolean) :: lw_good) ({ frames := 3, cells := 0, slots := 0, locals := 66 }) (va_Pc [.ref (m_b G + l0), .int l1, .int l2] (Wd G h)) (va_Qi Post (Wd G) (mA G)) 0 0 (mA G) := by
  refine Met.ofW (cc := prog_6_method_8_code) (maxL := 5) (ret := (Option.some Jvm.ClassFile.FieldType.boolean)) (by decide +kernel) rfl ?_
  intro p e s m args below meth c s₁ B hml hv
  obtain ⟨rfl, hP, hz, hK, hSt⟩ := hv
  have hts := atoms_spec (ws := Cond.code y_Se_reachable prog_6_method_8_code 5 (Option.some Jvm.ClassFile.FieldType.boolean) :: lw_good) B.pre
  have C0 : Cx G p s m ([.ref (m_b G + l0), .int l1, .int l2] : List Value).toArray c prog_6_method_8_code 5 "BassRealiser$Search" := ⟨⟨B.exec, B.bytes, hml, findClass_of_methodNamed B.named, fun w h => hts w (List.mem_cons_of_mem _ h)⟩, hK, hSt, by rw [hz]; exact Nat.le_add_right _ _⟩
  have hl := lv_entry ([.ref (m_b G + l0), .int l1, .int l2]) (n := 5) (Nat.le_of_ble_eq_true rfl)
  rw [lg_entry_eq]
  exact t_Se_reachable G C0 ⟨Nat.le_refl _, Nat.le_refl _, Nat.le_refl _, Nat.le_refl _⟩ B.returns B.notSynchronized _ _ _ _ hwp _ _ _ ⟨hP, hz, va_S.rf⟩ hl
def wp_Se_reach_60 (K2 : Nat → Int32 → Nat → Int32 → MH → Prop) (Post : MH → Prop) (l0 : Nat) (l1 : Int32) (l2 : Nat) (l3 : Int32) (y0 : Nat) (y1 : Int32) (y2 : Int32) (h : MH) : Prop :=
  ∃ (n60 : Nat) (f60 : Nat → Int32), gA h y0 1 = some (n60, f60) ∧ vp_in y1 n60 ∧ ∀ h60 : MH, h60 = mset h y0 (.inr (1, n60, .inl (upd f60 (y1).toNatClampNeg (vp_nar .boolean y2)))) →
  (K2 l0 l1 l2 (l3 + (1 : Int32)) h60)
def wb_Se_reach_2 (K2 : Nat → Int32 → Nat → Int32 → MH → Prop) (Post : MH → Prop) (l0 : Nat) (l1 : Int32) (l2 : Nat) (l3 : Int32) (h : MH) : Prop :=
  ∃ x4 : Int32, gF h l2 1 4 = some (.inl x4) ∧
  (((x4 ≤ l3) →
      (Post h)) ∧
    ((¬ x4 ≤ l3) →
      (∃ x11 : Nat, gF h l2 1 0 = some (.inr (some x11)) ∧
        (∃ (n15 : Nat) (f15 : Nat → Int32), gA h x11 0 = some (n15, f15) ∧ vp_in l3 n15 ∧
          (∀ z16 : Int32, z16 = f15 (l3).toNatClampNeg →
            (∃ x19 : Nat, gF h l2 1 1 = some (.inr (some x19)) ∧
              (((¬ l1 = 0) →
                  (gC h l0 = some 4 ∧ wp_Se_reachable (fun (r57 : Int32) (h57 : MH) =>
                      (wp_Se_reach_60 K2 Post l0 l1 l2 l3 x19 l3 r57 h57)) l0 l1 z16 h)) ∧
                ((l1 = 0) →
                  (∃ x28 : Nat, gF h l0 4 1 = some (.inr (some x28)) ∧
                    (∃ x32 : Nat, gF h l0 4 0 = some (.inr (some x32)) ∧
                      (∃ (n36 : Nat) (f36 : Nat → Option Nat) (q36 : Nat), gR h x32 3 = some (n36, f36) ∧ vp_in (0 : Int32) n36 ∧ f36 ((0 : Int32)).toNatClampNeg = some q36 ∧
                        (gC h x28 = some 3 ∧ wp_Ru_ofStart (fun (r39 : Int32) (h39 : MH) =>
                        (((¬ r39 = 0) →
                        (wp_Se_reach_60 K2 Post l0 l1 l2 l3 x19 l3 (0 : Int32) h39)) ∧
                        ((r39 = 0) →
                        (wp_Se_reach_60 K2 Post l0 l1 l2 l3 x19 l3 (1 : Int32) h39)))) x28 q36 z16 h))))))))))))
def wn_Se_reach_2 (Post : MH → Prop) : Nat → Nat → Int32 → Nat → Int32 → MH → Prop
  | 0 => fun _ _ _ _ _ => False
  | n + 1 => wb_Se_reach_2 (wn_Se_reach_2 Post n) Post
def wp_Se_reach_2 (Post : MH → Prop) (l0 : Nat) (l1 : Int32) (l2 : Nat) (l3 : Int32) (h : MH) : Prop := ∃ n, wn_Se_reach_2 Post n l0 l1 l2 l3 h
def wp_Se_reach (Post : MH → Prop) (l0 : Nat) (l1 : Int32) (l2 : Nat) (h : MH) : Prop :=
  wp_Se_reach_2 Post l0 l1 l2 (0 : Int32) h
set_option maxRecDepth 100000 in
set_option maxHeartbeats 4000000 in
theorem t_Se_reach_60 {p : Program} {l : Launch} {e : Env} {R : Room} {s : State} {m : MethodId} {args : Array Value} {below : List Frame} {meth : Method} {c : Code} (G : mG) (C0 : Cx G p s m args c prog_6_method_7_code 5 "BassRealiser$Search") (hR : 4 ≤ R.frames ∧ 90 ≤ R.locals ∧ 0 ≤ R.cells ∧ 0 ≤ R.slots) (hr : meth.sig.returnType = none) (hlk : meth.locks = false) {Post : MH → Prop} {K2 : Nat → Int32 → Nat → Int32 → MH → Prop} (hK2 : ∀ (l0 : Nat) (l1 : Int32) (l2 : Nat) (l3 : Int32) (h : MH), K2 l0 l1 l2 l3 h → WG p l e R s m args below meth c 0 0 (MQ below (va_Qv Post (Wd G) (mA G)) args s 0 0 (mA G)) G 5 [(0, .ref (m_b G + l0)), (1, .int l1), (2, .ref (m_b G + l2)), (3, .int l3)] 2 [] h) (l0 : Nat) (l1 : Int32) (l2 : Nat) (l3 : Int32) (y0 : Nat) (y1 : Int32) (y2 : Int32) (h : MH) (hwp : wp_Se_reach_60 K2 Post l0 l1 l2 l3 y0 y1 y2 h) : WG p l e R s m args below meth c 0 0 (MQ below (va_Qv Post (Wd G) (mA G)) args s 0 0 (mA G)) G 5 [(0, .ref (m_b G + l0)), (1, .int l1), (2, .ref (m_b G + l2)), (3, .int l3)] 60 [.int y2, .int y1, .ref (m_b G + y0)] h := by
  unfold wp_Se_reach_60 at hwp
  obtain ⟨n60, f60, e60, i60, hwp⟩ := hwp
  refine x_zast C0 e60 i60 d_Se_reach_60 ?_
  refine x_nh (fun h60 eh60 => ?_)
  replace hwp := hwp h60 eh60
  refine x_iinc C0 3 d_Se_reach_61 rfl rfl (by decide) (lv' := [(3, .int (l3 + (1 : Int32))), (0, .ref (m_b G + l0)), (1, .int l1), (2, .ref (m_b G + l2))]) rfl ?_
  refine x_goto (tgt := 2) C0 d_Se_reach_64 (by decide) ?_
  exact x_sub [1, 2, 3, 0] rfl (hK2 _ _ _ _ _ hwp)
set_option maxRecDepth 100000 in
set_option maxHeartbeats 4000000 in
theorem tb_Se_reach_2 {p : Program} {l : Launch} {e : Env} {R : Room} {s : State} {m : MethodId} {args : Array Value} {below : List Frame} {meth : Method} {c : Code} (G : mG) (C0 : Cx G p s m args c prog_6_method_7_code 5 "BassRealiser$Search") (hR : 4 ≤ R.frames ∧ 90 ≤ R.locals ∧ 0 ≤ R.cells ∧ 0 ≤ R.slots) (hr : meth.sig.returnType = none) (hlk : meth.locks = false) {Post : MH → Prop} {K2 : Nat → Int32 → Nat → Int32 → MH → Prop} (hK2 : ∀ (l0 : Nat) (l1 : Int32) (l2 : Nat) (l3 : Int32) (h : MH), K2 l0 l1 l2 l3 h → WG p l e R s m args below meth c 0 0 (MQ below (va_Qv Post (Wd G) (mA G)) args s 0 0 (mA G)) G 5 [(0, .ref (m_b G + l0)), (1, .int l1), (2, .ref (m_b G + l2)), (3, .int l3)] 2 [] h) (l0 : Nat) (l1 : Int32) (l2 : Nat) (l3 : Int32) (h : MH) (hwp : wb_Se_reach_2 K2 Post l0 l1 l2 l3 h) : WG p l e R s m args below meth c 0 0 (MQ below (va_Qv Post (Wd G) (mA G)) args s 0 0 (mA G)) G 5 [(0, .ref (m_b G + l0)), (1, .int l1), (2, .ref (m_b G + l2)), (3, .int l3)] 2 [] h := by
  unfold wb_Se_reach_2 at hwp
  refine x_iload_n C0 3 d_Se_reach_2 rfl rfl ?_
  refine x_aload_n C0 2 d_Se_reach_3 rfl rfl ?_
  obtain ⟨x4, e4, hwp⟩ := hwp
  refine x_getI C0 fk_Se_87 e4 d_Se_reach_4 ?_
  refine x_icmp_ge (tgt := 67) C0 d_Se_reach_7 (by decide) (fun c7 => ?_) (fun c7 => ?_)
  · replace hwp := hwp.1 c7
    exact x_vret C0 hr hlk hwp d_Se_reach_67
  · replace hwp := hwp.2 c7
    refine x_aload_n C0 2 d_Se_reach_10 rfl rfl ?_
    obtain ⟨x11, e11, hwp⟩ := hwp
    refine x_getR C0 fk_Se_90 e11 d_Se_reach_11 ?_
    refine x_iload_n C0 3 d_Se_reach_14 rfl rfl ?_
    obtain ⟨n15, f15, e15, i15, hwp⟩ := hwp
    refine x_iald C0 e15 i15 d_Se_reach_15 ?_
    refine x_topI (fun z16 e16 => ?_)
    replace hwp := hwp z16 e16
    refine x_istore C0 d_Se_reach_16 (by decide) (lv' := [(4, .int z16), (0, .ref (m_b G + l0)), (1, .int l1), (2, .ref (m_b G + l2)), (3, .int l3)]) rfl ?_
    refine x_aload_n C0 3 d_Se_reach_18 rfl rfl ?_
    obtain ⟨x19, e19, hwp⟩ := hwp
    refine x_getR C0 fk_Se_93 e19 d_Se_reach_19 ?_
    refine x_iload_n C0 4 d_Se_reach_22 rfl rfl ?_
    refine x_iload_n C0 2 d_Se_reach_23 rfl rfl ?_
    refine x_if_ne (tgt := 53) C0 d_Se_reach_24 (by decide) (fun c24 => ?_) (fun c24 => ?_)
    · replace hwp := hwp.1 c24
      refine x_aload_n C0 1 d_Se_reach_53 rfl rfl ?_
      refine x_iload_n C0 2 d_Se_reach_54 rfl rfl ?_
      refine x_iload C0 0 d_Se_reach_55 rfl ?_
      obtain ⟨g57, hwp⟩ := hwp
      refine x_callVi0 (k := l0) (As := [.int l1, .int z16]) (st := [.int l3, .ref (m_b G + x19)]) C0 (c_Se_reachable l G hwp) kw_2_196 mk_Se_reachable vk_Se_reachable rfl g57 rfl (Nat.le_of_ble_eq_true rfl) rfl rfl ⟨Nat.le_trans (by decide) hR.1, Nat.le_trans (by decide) hR.2.1⟩ ⟨Nat.zero_le _, Nat.zero_le _⟩ rfl d_Se_reach_57 (fun r57 h57 hwp => ?_)
      exact x_sub [1, 2, 3, 4] rfl (t_Se_reach_60 G C0 hR hr hlk hK2 _ _ _ _ _ _ _ _ hwp)
    · replace hwp := hwp.2 c24
      refine x_aload_n C0 1 d_Se_reach_27 rfl rfl ?_
      obtain ⟨x28, e28, hwp⟩ := hwp
      refine x_getR C0 fk_Se_20 e28 d_Se_reach_28 ?_
      refine x_aload_n C0 1 d_Se_reach_31 rfl rfl ?_
      obtain ⟨x32, e32, hwp⟩ := hwp
      refine x_getR C0 fk_Se_11 e32 d_Se_reach_32 ?_
      refine x_iconst (v := 0) C0 d_Se_reach_35 (by decide) ?_
      obtain ⟨n36, f36, q36, e36, i36, g36, hwp⟩ := hwp
      refine x_aald (t := 3) C0 e36 rfl i36 g36 d_Se_reach_36 ?_
      refine x_iload C0 0 d_Se_reach_37 rfl ?_
      obtain ⟨g39, hwp⟩ := hwp
      refine x_callVi0 (k := x28) (As := [.ref (m_b G + q36), .int z16]) (st := [.int l3, .ref (m_b G + x19)]) C0 (c_Ru_ofStart l G hwp) kw_2_192 mk_Ru_ofStart vk_Ru_ofStart rfl g39 rfl (Nat.le_of_ble_eq_true rfl) rfl rfl ⟨Nat.le_trans (by decide) hR.1, Nat.le_trans (by decide) hR.2.1⟩ ⟨Nat.zero_le _, Nat.zero_le _⟩ rfl d_Se_reach_39 (fun r39 h39 hwp => ?_)
      refine x_if_ne (tgt := 49) C0 d_Se_reach_42 (by decide) (fun c42 => ?_) (fun c42 => ?_)
      · replace hwp := hwp.1 c42
        refine x_iconst (v := 0) C0 d_Se_reach_49 (by decide) ?_
        refine x_goto (tgt := 60) C0 d_Se_reach_50 (by decide) ?_
        exact x_sub [1, 2, 3, 4] rfl (t_Se_reach_60 G C0 hR hr hlk hK2 _ _ _ _ _ _ _ _ hwp)
      · replace hwp := hwp.2 c42
        refine x_iconst (v := 1) C0 d_Se_reach_45 (by decide) ?_
        refine x_goto (tgt := 60) C0 d_Se_reach_46 (by decide) ?_
        exact x_sub [1, 2, 3, 4] rfl (t_Se_reach_60 G C0 hR hr hlk hK2 _ _ _ _ _ _ _ _ hwp)
theorem t_Se_reach_2 {p : Program} {l : Launch} {e : Env} {R : Room} {s : State} {m : MethodId} {args : Array Value} {below : List Frame} {meth : Method} {c : Code} (G : mG) (C0 : Cx G p s m args c prog_6_method_7_code 5 "BassRealiser$Search") (hR : 4 ≤ R.frames ∧ 90 ≤ R.locals ∧ 0 ≤ R.cells ∧ 0 ≤ R.slots) (hr : meth.sig.returnType = none) (hlk : meth.locks = false) {Post : MH → Prop} (l0 : Nat) (l1 : Int32) (l2 : Nat) (l3 : Int32) (h : MH) (hwp : wp_Se_reach_2 Post l0 l1 l2 l3 h) : WG p l e R s m args below meth c 0 0 (MQ below (va_Qv Post (Wd G) (mA G)) args s 0 0 (mA G)) G 5 [(0, .ref (m_b G + l0)), (1, .int l1), (2, .ref (m_b G + l2)), (3, .int l3)] 2 [] h := by
  obtain ⟨n, hwp⟩ := hwp
  induction n generalizing l0 l1 l2 l3 h with
  | zero => exact False.elim hwp
  | succ n ih => exact tb_Se_reach_2 G C0 hR hr hlk (fun l0 l1 l2 l3 h hwp => ih l0 l1 l2 l3 h hwp) l0 l1 l2 l3 h hwp
set_option maxRecDepth 100000 in
set_option maxHeartbeats 4000000 in
theorem t_Se_reach {p : Program} {l : Launch} {e : Env} {R : Room} {s : State} {m : MethodId} {args : Array Value} {below : List Frame} {meth : Method} {c : Code} (G : mG) (C0 : Cx G p s m args c prog_6_method_7_code 5 "BassRealiser$Search") (hR : 4 ≤ R.frames ∧ 90 ≤ R.locals ∧ 0 ≤ R.cells ∧ 0 ≤ R.slots) (hr : meth.sig.returnType = none) (hlk : meth.locks = false) {Post : MH → Prop} (l0 : Nat) (l1 : Int32) (l2 : Nat) (h : MH) (hwp : wp_Se_reach Post l0 l1 l2 h) : WG p l e R s m args below meth c 0 0 (MQ below (va_Qv Post (Wd G) (mA G)) args s 0 0 (mA G)) G 5 [(0, .ref (m_b G + l0)), (1, .int l1), (2, .ref (m_b G + l2))] 0 [] h := by
  unfold wp_Se_reach at hwp
  refine x_iconst (v := 0) C0 d_Se_reach_0 (by decide) ?_
  refine x_istore_n C0 d_Se_reach_1 rfl (by decide) (lv' := [(3, .int (0 : Int32)), (0, .ref (m_b G + l0)), (1, .int l1), (2, .ref (m_b G + l2))]) rfl ?_
  exact x_sub [1, 2, 3, 0] rfl (t_Se_reach_2 G C0 hR hr hlk  _ _ _ _ _ hwp)
set_option maxRecDepth 100000 in
set_option maxHeartbeats 4000000 in
theorem c_Se_reach (l : Launch) (G : mG) {Post : MH → Prop} {l0 : Nat} {l1 : Int32} {l2 : Nat} {h : MH} (hwp : wp_Se_reach Post l0 l1 l2 h) : Met l y_Se_reach (Cond.code y_Se_reach prog_6_method_7_code 5 (Option.none : Option Jvm.ClassFile.FieldType) :: lw_good) ({ frames := 4, cells := 0, slots := 0, locals := 90 }) (va_Pc [.ref (m_b G + l0), .int l1, .ref (m_b G + l2)] (Wd G h)) (va_Qv Post (Wd G) (mA G)) 0 0 (mA G) := by
  refine Met.ofW (cc := prog_6_method_7_code) (maxL := 5) (ret := (Option.none : Option Jvm.ClassFile.FieldType)) (by decide +kernel) rfl ?_
  intro p e s m args below meth c s₁ B hml hv
  obtain ⟨rfl, hP, hz, hK, hSt⟩ := hv
  have hts := atoms_spec (ws := Cond.code y_Se_reach prog_6_method_7_code 5 (Option.none : Option Jvm.ClassFile.FieldType) :: lw_good) B.pre
  have C0 : Cx G p s m ([.ref (m_b G + l0), .int l1, .ref (m_b G + l2)] : List Value).toArray c prog_6_method_7_code 5 "BassRealiser$Search" := ⟨⟨B.exec, B.bytes, hml, findClass_of_methodNamed B.named, fun w h => hts w (List.mem_cons_of_mem _ h)⟩, hK, hSt, by rw [hz]; exact Nat.le_add_right _ _⟩
  have hl := lv_entry ([.ref (m_b G + l0), .int l1, .ref (m_b G + l2)]) (n := 5) (Nat.le_of_ble_eq_true rfl)
  rw [lg_entry_eq]
  exact t_Se_reach G C0 ⟨Nat.le_refl _, Nat.le_refl _, Nat.le_refl _, Nat.le_refl _⟩ B.returns B.notSynchronized _ _ _ _ hwp _ _ _ ⟨hP, hz, va_S.rf⟩ hl
def wb_Co_reachedAtAll_2 (K2 : Nat → Int32 → MH → Prop) (Post : Int32 → MH → Prop) (l0 : Nat) (l1 : Int32) (h : MH) : Prop :=
  ∃ x4 : Int32, gF h l0 1 4 = some (.inl x4) ∧
  (((x4 ≤ l1) →
      (Post (0 : Int32) h)) ∧
    ((¬ x4 ≤ l1) →
      (∃ x11 : Nat, gF h l0 1 1 = some (.inr (some x11)) ∧
        (∃ (n15 : Nat) (f15 : Nat → Int32), gA h x11 1 = some (n15, f15) ∧ vp_in l1 n15 ∧
          ((((f15 (l1).toNatClampNeg) = 0) →
              (K2 l0 (l1 + (1 : Int32)) h)) ∧
            ((¬ (f15 (l1).toNatClampNeg) = 0) →
              (Post (1 : Int32) h)))))))
def wn_Co_reachedAtAll_2 (Post : Int32 → MH → Prop) : Nat → Nat → Int32 → MH → Prop
  | 0 => fun _ _ _ => False
  | n + 1 => wb_Co_reachedAtAll_2 (wn_Co_reachedAtAll_2 Post n) Post
def wp_Co_reachedAtAll_2 (Post : Int32 → MH → Prop) (l0 : Nat) (l1 : Int32) (h : MH) : Prop := ∃ n, wn_Co_reachedAtAll_2 Post n l0 l1 h
def wp_Co_reachedAtAll (Post : Int32 → MH → Prop) (l0 : Nat) (h : MH) : Prop :=
  wp_Co_reachedAtAll_2 Post l0 (0 : Int32) h
set_option maxRecDepth 100000 in
set_option maxHeartbeats 4000000 in
theorem tb_Co_reachedAtAll_2 {p : Program} {l : Launch} {e : Env} {R : Room} {s : State} {m : MethodId} {args : Array Value} {below : List Frame} {meth : Method} {c : Code} (G : mG) (C0 : Cx G p s m args c prog_3_method_4_code 2 "BassRealiser$Column") (hR : 0 ≤ R.frames ∧ 0 ≤ R.locals ∧ 0 ≤ R.cells ∧ 0 ≤ R.slots) (hr : meth.sig.returnType = some .boolean) (hlk : meth.locks = false) {Post : Int32 → MH → Prop} {K2 : Nat → Int32 → MH → Prop} (hK2 : ∀ (l0 : Nat) (l1 : Int32) (h : MH), K2 l0 l1 h → WG p l e R s m args below meth c 0 0 (MQ below (va_Qi Post (Wd G) (mA G)) args s 0 0 (mA G)) G 2 [(0, .ref (m_b G + l0)), (1, .int l1)] 2 [] h) (l0 : Nat) (l1 : Int32) (h : MH) (hwp : wb_Co_reachedAtAll_2 K2 Post l0 l1 h) : WG p l e R s m args below meth c 0 0 (MQ below (va_Qi Post (Wd G) (mA G)) args s 0 0 (mA G)) G 2 [(0, .ref (m_b G + l0)), (1, .int l1)] 2 [] h := by
  unfold wb_Co_reachedAtAll_2 at hwp
  refine x_iload_n C0 1 d_Co_reachedAtAll_2 rfl rfl ?_
  refine x_aload_n C0 0 d_Co_reachedAtAll_3 rfl rfl ?_
  obtain ⟨x4, e4, hwp⟩ := hwp
  refine x_getI C0 fk_Co_25 e4 d_Co_reachedAtAll_4 ?_
  refine x_icmp_ge (tgt := 27) C0 d_Co_reachedAtAll_7 (by decide) (fun c7 => ?_) (fun c7 => ?_)
  · replace hwp := hwp.1 c7
    refine x_iconst (v := 0) C0 d_Co_reachedAtAll_27 (by decide) ?_
    exact x_zret C0 hr rfl hlk hwp d_Co_reachedAtAll_28
  · replace hwp := hwp.2 c7
    refine x_aload_n C0 0 d_Co_reachedAtAll_10 rfl rfl ?_
    obtain ⟨x11, e11, hwp⟩ := hwp
    refine x_getR C0 fk_Co_15 e11 d_Co_reachedAtAll_11 ?_
    refine x_iload_n C0 1 d_Co_reachedAtAll_14 rfl rfl ?_
    obtain ⟨n15, f15, e15, i15, hwp⟩ := hwp
    refine x_zald C0 e15 i15 d_Co_reachedAtAll_15 ?_
    refine x_if_eq (tgt := 21) C0 d_Co_reachedAtAll_16 (by decide) (fun c16 => ?_) (fun c16 => ?_)
    · replace hwp := hwp.1 c16
      refine x_iinc C0 1 d_Co_reachedAtAll_21 rfl rfl (by decide) (lv' := [(1, .int (l1 + (1 : Int32))), (0, .ref (m_b G + l0))]) rfl ?_
      refine x_goto (tgt := 2) C0 d_Co_reachedAtAll_24 (by decide) ?_
      exact x_sub [1, 0] rfl (hK2 _ _ _ hwp)
    · replace hwp := hwp.2 c16
      refine x_iconst (v := 1) C0 d_Co_reachedAtAll_19 (by decide) ?_
      exact x_zret C0 hr rfl hlk hwp d_Co_reachedAtAll_20
theorem t_Co_reachedAtAll_2 {p : Program} {l : Launch} {e : Env} {R : Room} {s : State} {m : MethodId} {args : Array Value} {below : List Frame} {meth : Method} {c : Code} (G : mG) (C0 : Cx G p s m args c prog_3_method_4_code 2 "BassRealiser$Column") (hR : 0 ≤ R.frames ∧ 0 ≤ R.locals ∧ 0 ≤ R.cells ∧ 0 ≤ R.slots) (hr : meth.sig.returnType = some .boolean) (hlk : meth.locks = false) {Post : Int32 → MH → Prop} (l0 : Nat) (l1 : Int32) (h : MH) (hwp : wp_Co_reachedAtAll_2 Post l0 l1 h) : WG p l e R s m args below meth c 0 0 (MQ below (va_Qi Post (Wd G) (mA G)) args s 0 0 (mA G)) G 2 [(0, .ref (m_b G + l0)), (1, .int l1)] 2 [] h := by
  obtain ⟨n, hwp⟩ := hwp
  induction n generalizing l0 l1 h with
  | zero => exact False.elim hwp
  | succ n ih => exact tb_Co_reachedAtAll_2 G C0 hR hr hlk (fun l0 l1 h hwp => ih l0 l1 h hwp) l0 l1 h hwp
set_option maxRecDepth 100000 in
set_option maxHeartbeats 4000000 in
theorem t_Co_reachedAtAll {p : Program} {l : Launch} {e : Env} {R : Room} {s : State} {m : MethodId} {args : Array Value} {below : List Frame} {meth : Method} {c : Code} (G : mG) (C0 : Cx G p s m args c prog_3_method_4_code 2 "BassRealiser$Column") (hR : 0 ≤ R.frames ∧ 0 ≤ R.locals ∧ 0 ≤ R.cells ∧ 0 ≤ R.slots) (hr : meth.sig.returnType = some .boolean) (hlk : meth.locks = false) {Post : Int32 → MH → Prop} (l0 : Nat) (h : MH) (hwp : wp_Co_reachedAtAll Post l0 h) : WG p l e R s m args below meth c 0 0 (MQ below (va_Qi Post (Wd G) (mA G)) args s 0 0 (mA G)) G 2 [(0, .ref (m_b G + l0))] 0 [] h := by
  unfold wp_Co_reachedAtAll at hwp
  refine x_iconst (v := 0) C0 d_Co_reachedAtAll_0 (by decide) ?_
  refine x_istore_n C0 d_Co_reachedAtAll_1 rfl (by decide) (lv' := [(1, .int (0 : Int32)), (0, .ref (m_b G + l0))]) rfl ?_
  exact x_sub [1, 0] rfl (t_Co_reachedAtAll_2 G C0 hR hr hlk  _ _ _ hwp)
set_option maxRecDepth 100000 in
set_option maxHeartbeats 4000000 in
theorem c_Co_reachedAtAll (l : Launch) (G : mG) {Post : Int32 → MH → Prop} {l0 : Nat} {h : MH} (hwp : wp_Co_reachedAtAll Post l0 h) : Met l y_Co_reachedAtAll (Cond.code y_Co_reachedAtAll prog_3_method_4_code 2 (Option.some Jvm.ClassFile.FieldType.boolean) :: lw_good) ({ frames := 0, cells := 0, slots := 0, locals := 0 }) (va_Pc [.ref (m_b G + l0)] (Wd G h)) (va_Qi Post (Wd G) (mA G)) 0 0 (mA G) := by
  refine Met.ofW (cc := prog_3_method_4_code) (maxL := 2) (ret := (Option.some Jvm.ClassFile.FieldType.boolean)) (by decide +kernel) rfl ?_
  intro p e s m args below meth c s₁ B hml hv
  obtain ⟨rfl, hP, hz, hK, hSt⟩ := hv
  have hts := atoms_spec (ws := Cond.code y_Co_reachedAtAll prog_3_method_4_code 2 (Option.some Jvm.ClassFile.FieldType.boolean) :: lw_good) B.pre
  have C0 : Cx G p s m ([.ref (m_b G + l0)] : List Value).toArray c prog_3_method_4_code 2 "BassRealiser$Column" := ⟨⟨B.exec, B.bytes, hml, findClass_of_methodNamed B.named, fun w h => hts w (List.mem_cons_of_mem _ h)⟩, hK, hSt, by rw [hz]; exact Nat.le_add_right _ _⟩
  have hl := lv_entry ([.ref (m_b G + l0)]) (n := 2) (Nat.le_of_ble_eq_true rfl)
  rw [lg_entry_eq]
  exact t_Co_reachedAtAll G C0 ⟨Nat.le_refl _, Nat.le_refl _, Nat.le_refl _, Nat.le_refl _⟩ B.returns B.notSynchronized _ _ hwp _ _ _ ⟨hP, hz, va_S.rf⟩ hl
def wp_Mv_length (Post : Int32 → MH → Prop) (l0 : Nat) (h : MH) : Prop :=
  ∃ x1 : Nat, gF h l0 2 2 = some (.inr (some x1)) ∧
  (∃ (n5 : Nat) (f5 : Nat → Int32), gA h x1 0 = some (n5, f5) ∧ vp_in (0 : Int32) n5 ∧
    (∃ x10 : Nat, gF h l0 2 2 = some (.inr (some x10)) ∧
      (∃ (n14 : Nat) (f14 : Nat → Int32), gA h x10 0 = some (n14, f14) ∧ vp_in (1 : Int32) n14 ∧
        (∃ x20 : Nat, gF h l0 2 2 = some (.inr (some x20)) ∧
          (∃ (n24 : Nat) (f24 : Nat → Int32), gA h x20 0 = some (n24, f24) ∧ vp_in (2 : Int32) n24 ∧
            (Post (((if 0 ≤ (f5 ((0 : Int32)).toNatClampNeg) then (f5 ((0 : Int32)).toNatClampNeg) else 0 - (f5 ((0 : Int32)).toNatClampNeg)) + (if 0 ≤ (f14 ((1 : Int32)).toNatClampNeg) then (f14 ((1 : Int32)).toNatClampNeg) else 0 - (f14 ((1 : Int32)).toNatClampNeg))) + (if 0 ≤ (f24 ((2 : Int32)).toNatClampNeg) then (f24 ((2 : Int32)).toNatClampNeg) else 0 - (f24 ((2 : Int32)).toNatClampNeg))) h))))))
set_option maxRecDepth 100000 in
set_option maxHeartbeats 4000000 in
theorem t_Mv_length {p : Program} {l : Launch} {e : Env} {R : Room} {s : State} {m : MethodId} {args : Array Value} {below : List Frame} {meth : Method} {c : Code} (G : mG) (C0 : Cx G p s m args c prog_4_method_4_code 1 "BassRealiser$Move") (hR : 1 ≤ R.frames ∧ 21 ≤ R.locals ∧ 0 ≤ R.cells ∧ 0 ≤ R.slots) (hr : meth.sig.returnType = some .int) (hlk : meth.locks = false) {Post : Int32 → MH → Prop} (l0 : Nat) (h : MH) (hwp : wp_Mv_length Post l0 h) : WG p l e R s m args below meth c 0 0 (MQ below (va_Qi Post (Wd G) (mA G)) args s 0 0 (mA G)) G 1 [(0, .ref (m_b G + l0))] 0 [] h := by
  unfold wp_Mv_length at hwp
  refine x_aload_n C0 0 d_Mv_length_0 rfl rfl ?_
  obtain ⟨x1, e1, hwp⟩ := hwp
  refine x_getR C0 fk_Mv_18 e1 d_Mv_length_1 ?_
  refine x_iconst (v := 0) C0 d_Mv_length_4 (by decide) ?_
  obtain ⟨n5, f5, e5, i5, hwp⟩ := hwp
  refine x_iald C0 e5 i5 d_Mv_length_5 ?_
  refine x_mabs C0 kw_2_217 kw_2_21 kw_1_8 kw_2_22 d_Mv_length_6 ⟨Nat.le_trans (by decide) hR.1, Nat.le_trans (by decide) hR.2.1⟩ ⟨Nat.zero_le _, Nat.zero_le _⟩ (Nat.le_of_ble_eq_true rfl) ?_
  refine x_aload_n C0 0 d_Mv_length_9 rfl rfl ?_
  obtain ⟨x10, e10, hwp⟩ := hwp
  refine x_getR C0 fk_Mv_18 e10 d_Mv_length_10 ?_
  refine x_iconst (v := 1) C0 d_Mv_length_13 (by decide) ?_
  obtain ⟨n14, f14, e14, i14, hwp⟩ := hwp
  refine x_iald C0 e14 i14 d_Mv_length_14 ?_
  refine x_mabs C0 kw_2_217 kw_2_21 kw_1_8 kw_2_22 d_Mv_length_15 ⟨Nat.le_trans (by decide) hR.1, Nat.le_trans (by decide) hR.2.1⟩ ⟨Nat.zero_le _, Nat.zero_le _⟩ (Nat.le_of_ble_eq_true rfl) ?_
  refine x_iadd C0 d_Mv_length_18 ?_
  refine x_aload_n C0 0 d_Mv_length_19 rfl rfl ?_
  obtain ⟨x20, e20, hwp⟩ := hwp
  refine x_getR C0 fk_Mv_18 e20 d_Mv_length_20 ?_
  refine x_iconst (v := 2) C0 d_Mv_length_23 (by decide) ?_
  obtain ⟨n24, f24, e24, i24, hwp⟩ := hwp
  refine x_iald C0 e24 i24 d_Mv_length_24 ?_
  refine x_mabs C0 kw_2_217 kw_2_21 kw_1_8 kw_2_22 d_Mv_length_25 ⟨Nat.le_trans (by decide) hR.1, Nat.le_trans (by decide) hR.2.1⟩ ⟨Nat.zero_le _, Nat.zero_le _⟩ (Nat.le_of_ble_eq_true rfl) ?_
  refine x_iadd C0 d_Mv_length_28 ?_
  exact x_iret C0 hr hlk hwp d_Mv_length_29
set_option maxRecDepth 100000 in
set_option maxHeartbeats 4000000 in
theorem c_Mv_length (l : Launch) (G : mG) {Post : Int32 → MH → Prop} {l0 : Nat} {h : MH} (hwp : wp_Mv_length Post l0 h) : Met l y_Mv_length (Cond.code y_Mv_length prog_4_method_4_code 1 (Option.some Jvm.ClassFile.FieldType.int) :: lw_good) ({ frames := 1, cells := 0, slots := 0, locals := 21 }) (va_Pc [.ref (m_b G + l0)] (Wd G h)) (va_Qi Post (Wd G) (mA G)) 0 0 (mA G) := by
  refine Met.ofW (cc := prog_4_method_4_code) (maxL := 1) (ret := (Option.some Jvm.ClassFile.FieldType.int)) (by decide +kernel) rfl ?_
  intro p e s m args below meth c s₁ B hml hv
  obtain ⟨rfl, hP, hz, hK, hSt⟩ := hv
  have hts := atoms_spec (ws := Cond.code y_Mv_length prog_4_method_4_code 1 (Option.some Jvm.ClassFile.FieldType.int) :: lw_good) B.pre
  have C0 : Cx G p s m ([.ref (m_b G + l0)] : List Value).toArray c prog_4_method_4_code 1 "BassRealiser$Move" := ⟨⟨B.exec, B.bytes, hml, findClass_of_methodNamed B.named, fun w h => hts w (List.mem_cons_of_mem _ h)⟩, hK, hSt, by rw [hz]; exact Nat.le_add_right _ _⟩
  have hl := lv_entry ([.ref (m_b G + l0)]) (n := 1) (Nat.le_of_ble_eq_true rfl)
  rw [lg_entry_eq]
  exact t_Mv_length G C0 ⟨Nat.le_refl _, Nat.le_refl _, Nat.le_refl _, Nat.le_refl _⟩ B.returns B.notSynchronized _ _ hwp _ _ _ ⟨hP, hz, va_S.rf⟩ hl
def wp_Se_joined (Post : Int32 → MH → Prop) (l0 : Int32) (l1 : Int32) (h : MH) : Prop :=
  Post (if (1000000000 : Int32) < (l0 + l1) then (1000000000 : Int32) else (l0 + l1)) h
set_option maxRecDepth 100000 in
set_option maxHeartbeats 4000000 in
theorem t_Se_joined {p : Program} {l : Launch} {e : Env} {R : Room} {s : State} {m : MethodId} {args : Array Value} {below : List Frame} {meth : Method} {c : Code} (G : mG) (C0 : Cx G p s m args c prog_6_method_11_code 2 "BassRealiser$Search") (hR : 1 ≤ R.frames ∧ 21 ≤ R.locals ∧ 0 ≤ R.cells ∧ 0 ≤ R.slots) (hr : meth.sig.returnType = some .int) (hlk : meth.locks = false) {Post : Int32 → MH → Prop} (l0 : Int32) (l1 : Int32) (h : MH) (hwp : wp_Se_joined Post l0 l1 h) : WG p l e R s m args below meth c 0 0 (MQ below (va_Qi Post (Wd G) (mA G)) args s 0 0 (mA G)) G 2 [(0, .int l0), (1, .int l1)] 0 [] h := by
  unfold wp_Se_joined at hwp
  refine x_iload_n C0 0 d_Se_joined_0 rfl rfl ?_
  refine x_iload_n C0 1 d_Se_joined_1 rfl rfl ?_
  refine x_iadd C0 d_Se_joined_2 ?_
  refine x_ldc (v := 1000000000) C0 kw_3_16 d_Se_joined_3 ?_
  refine x_mmin C0 kw_3_12 kw_2_24 kw_1_8 kw_2_25 d_Se_joined_5 ⟨Nat.le_trans (by decide) hR.1, Nat.le_trans (by decide) hR.2.1⟩ ⟨Nat.zero_le _, Nat.zero_le _⟩ (Nat.le_of_ble_eq_true rfl) ?_
  exact x_iret C0 hr hlk hwp d_Se_joined_8
set_option maxRecDepth 100000 in
set_option maxHeartbeats 4000000 in
theorem c_Se_joined (l : Launch) (G : mG) {Post : Int32 → MH → Prop} {l0 : Int32} {l1 : Int32} {h : MH} (hwp : wp_Se_joined Post l0 l1 h) : Met l y_Se_joined (Cond.code y_Se_joined prog_6_method_11_code 2 (Option.some Jvm.ClassFile.FieldType.int) :: lw_good) ({ frames := 1, cells := 0, slots := 0, locals := 21 }) (va_Pc [.int l0, .int l1] (Wd G h)) (va_Qi Post (Wd G) (mA G)) 0 0 (mA G) := by
  refine Met.ofW (cc := prog_6_method_11_code) (maxL := 2) (ret := (Option.some Jvm.ClassFile.FieldType.int)) (by decide +kernel) rfl ?_
  intro p e s m args below meth c s₁ B hml hv
  obtain ⟨rfl, hP, hz, hK, hSt⟩ := hv
  have hts := atoms_spec (ws := Cond.code y_Se_joined prog_6_method_11_code 2 (Option.some Jvm.ClassFile.FieldType.int) :: lw_good) B.pre
  have C0 : Cx G p s m ([.int l0, .int l1] : List Value).toArray c prog_6_method_11_code 2 "BassRealiser$Search" := ⟨⟨B.exec, B.bytes, hml, findClass_of_methodNamed B.named, fun w h => hts w (List.mem_cons_of_mem _ h)⟩, hK, hSt, by rw [hz]; exact Nat.le_add_right _ _⟩
  have hl := lv_entry ([.int l0, .int l1]) (n := 2) (Nat.le_of_ble_eq_true rfl)
  rw [lg_entry_eq]
  exact t_Se_joined G C0 ⟨Nat.le_refl _, Nat.le_refl _, Nat.le_refl _, Nat.le_refl _⟩ B.returns B.notSynchronized _ _ _ hwp _ _ _ ⟨hP, hz, va_S.rf⟩ hl
