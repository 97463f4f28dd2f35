theorem d_Rm_takeSung_0 : decode prog_8_method_47_code 0 = .ok (.iconst 0, 1) := by decide +kernel
theorem d_Rm_takeSung_1 : decode prog_8_method_47_code 1 = .ok (.istore_n 3, 1) := by decide +kernel
theorem d_Rm_takeSung_2 : decode prog_8_method_47_code 2 = .ok (.iload_n 3, 1) := by decide +kernel
theorem d_Rm_takeSung_3 : decode prog_8_method_47_code 3 = .ok (.iconst 3, 1) := by decide +kernel
theorem d_Rm_takeSung_4 : decode prog_8_method_47_code 4 = .ok (.if_icmp .ge 22, 3) := by decide +kernel
theorem d_Rm_takeSung_7 : decode prog_8_method_47_code 7 = .ok (.aload_n 2, 1) := by decide +kernel
theorem d_Rm_takeSung_8 : decode prog_8_method_47_code 8 = .ok (.iload_n 3, 1) := by decide +kernel
theorem d_Rm_takeSung_9 : decode prog_8_method_47_code 9 = .ok (.aload_n 0, 1) := by decide +kernel
theorem d_Rm_takeSung_10 : decode prog_8_method_47_code 10 = .ok (.getfield 41, 3) := by decide +kernel
theorem d_Rm_takeSung_13 : decode prog_8_method_47_code 13 = .ok (.iconst 3, 1) := by decide +kernel
theorem d_Rm_takeSung_14 : decode prog_8_method_47_code 14 = .ok (.iload_n 1, 1) := by decide +kernel
theorem d_Rm_takeSung_15 : decode prog_8_method_47_code 15 = .ok (.imul, 1) := by decide +kernel
theorem d_Rm_takeSung_16 : decode prog_8_method_47_code 16 = .ok (.iload_n 3, 1) := by decide +kernel
theorem d_Rm_takeSung_17 : decode prog_8_method_47_code 17 = .ok (.iadd, 1) := by decide +kernel
theorem d_Rm_takeSung_18 : decode prog_8_method_47_code 18 = .ok (.iaload, 1) := by decide +kernel
theorem d_Rm_takeSung_19 : decode prog_8_method_47_code 19 = .ok (.iastore, 1) := by decide +kernel
theorem d_Rm_takeSung_20 : decode prog_8_method_47_code 20 = .ok (.iinc 3 1, 3) := by decide +kernel
theorem d_Rm_takeSung_23 : decode prog_8_method_47_code 23 = .ok (.goto (-21), 3) := by decide +kernel
theorem d_Rm_takeSung_26 : decode prog_8_method_47_code 26 = .ok (.aload_n 2, 1) := by decide +kernel
theorem d_Rm_takeSung_27 : decode prog_8_method_47_code 27 = .ok (.iconst 3, 1) := by decide +kernel
theorem d_Rm_takeSung_28 : decode prog_8_method_47_code 28 = .ok (.aload_n 0, 1) := by decide +kernel
theorem d_Rm_takeSung_29 : decode prog_8_method_47_code 29 = .ok (.iload_n 1, 1) := by decide +kernel
theorem d_Rm_takeSung_30 : decode prog_8_method_47_code 30 = .ok (.invokevirtual 124, 3) := by decide +kernel
theorem d_Rm_takeSung_33 : decode prog_8_method_47_code 33 = .ok (.iastore, 1) := by decide +kernel
theorem d_Rm_takeSung_34 : decode prog_8_method_47_code 34 = .ok (.return_, 1) := by decide +kernel
theorem d_Rm_faultOf_0 : decode prog_8_method_48_code 0 = .ok (.aload_n 0, 1) := by decide +kernel
theorem d_Rm_faultOf_1 : decode prog_8_method_48_code 1 = .ok (.iload_n 1, 1) := by decide +kernel
theorem d_Rm_faultOf_2 : decode prog_8_method_48_code 2 = .ok (.aload_n 0, 1) := by decide +kernel
theorem d_Rm_faultOf_3 : decode prog_8_method_48_code 3 = .ok (.getfield 48, 3) := by decide +kernel
theorem d_Rm_faultOf_6 : decode prog_8_method_48_code 6 = .ok (.invokevirtual 207, 3) := by decide +kernel
theorem d_Rm_faultOf_9 : decode prog_8_method_48_code 9 = .ok (.aload_n 0, 1) := by decide +kernel
theorem d_Rm_faultOf_10 : decode prog_8_method_48_code 10 = .ok (.iload_n 1, 1) := by decide +kernel
theorem d_Rm_faultOf_11 : decode prog_8_method_48_code 11 = .ok (.invokevirtual 170, 3) := by decide +kernel
theorem d_Rm_faultOf_14 : decode prog_8_method_48_code 14 = .ok (.aload_n 0, 1) := by decide +kernel
theorem d_Rm_faultOf_15 : decode prog_8_method_48_code 15 = .ok (.iload_n 1, 1) := by decide +kernel
theorem d_Rm_faultOf_16 : decode prog_8_method_48_code 16 = .ok (.invokevirtual 174, 3) := by decide +kernel
theorem d_Rm_faultOf_19 : decode prog_8_method_48_code 19 = .ok (.istore_n 2, 1) := by decide +kernel
theorem d_Rm_faultOf_20 : decode prog_8_method_48_code 20 = .ok (.iload_n 2, 1) := by decide +kernel
theorem d_Rm_faultOf_21 : decode prog_8_method_48_code 21 = .ok (.ifCond .le 5, 3) := by decide +kernel
theorem d_Rm_faultOf_24 : decode prog_8_method_48_code 24 = .ok (.iload_n 2, 1) := by decide +kernel
theorem d_Rm_faultOf_25 : decode prog_8_method_48_code 25 = .ok (.ireturn, 1) := by decide +kernel
theorem d_Rm_faultOf_26 : decode prog_8_method_48_code 26 = .ok (.iload_n 1, 1) := by decide +kernel
theorem d_Rm_faultOf_27 : decode prog_8_method_48_code 27 = .ok (.ifCond .le 16, 3) := by decide +kernel
theorem d_Rm_faultOf_30 : decode prog_8_method_48_code 30 = .ok (.aload_n 0, 1) := by decide +kernel
theorem d_Rm_faultOf_31 : decode prog_8_method_48_code 31 = .ok (.getfield 44, 3) := by decide +kernel
theorem d_Rm_faultOf_34 : decode prog_8_method_48_code 34 = .ok (.iload_n 1, 1) := by decide +kernel
theorem d_Rm_faultOf_35 : decode prog_8_method_48_code 35 = .ok (.iconst 1, 1) := by decide +kernel
theorem d_Rm_faultOf_36 : decode prog_8_method_48_code 36 = .ok (.isub, 1) := by decide +kernel
theorem d_Rm_faultOf_37 : decode prog_8_method_48_code 37 = .ok (.baload, 1) := by decide +kernel
theorem d_Rm_faultOf_38 : decode prog_8_method_48_code 38 = .ok (.ifCond .ne 5, 3) := by decide +kernel
theorem d_Rm_faultOf_41 : decode prog_8_method_48_code 41 = .ok (.iconst 0, 1) := by decide +kernel
theorem d_Rm_faultOf_42 : decode prog_8_method_48_code 42 = .ok (.ireturn, 1) := by decide +kernel
theorem d_Rm_faultOf_43 : decode prog_8_method_48_code 43 = .ok (.iload_n 1, 1) := by decide +kernel
theorem d_Rm_faultOf_44 : decode prog_8_method_48_code 44 = .ok (.ifCond .le 21, 3) := by decide +kernel
theorem d_Rm_faultOf_47 : decode prog_8_method_48_code 47 = .ok (.aload_n 0, 1) := by decide +kernel
theorem d_Rm_faultOf_48 : decode prog_8_method_48_code 48 = .ok (.iload_n 1, 1) := by decide +kernel
theorem d_Rm_faultOf_49 : decode prog_8_method_48_code 49 = .ok (.iconst 1, 1) := by decide +kernel
theorem d_Rm_faultOf_50 : decode prog_8_method_48_code 50 = .ok (.isub, 1) := by decide +kernel
theorem d_Rm_faultOf_51 : decode prog_8_method_48_code 51 = .ok (.aload_n 0, 1) := by decide +kernel
theorem d_Rm_faultOf_52 : decode prog_8_method_48_code 52 = .ok (.getfield 51, 3) := by decide +kernel
theorem d_Rm_faultOf_55 : decode prog_8_method_48_code 55 = .ok (.invokevirtual 207, 3) := by decide +kernel
theorem d_Rm_faultOf_58 : decode prog_8_method_48_code 58 = .ok (.aload_n 0, 1) := by decide +kernel
theorem d_Rm_faultOf_59 : decode prog_8_method_48_code 59 = .ok (.iload_n 1, 1) := by decide +kernel
theorem d_Rm_faultOf_60 : decode prog_8_method_48_code 60 = .ok (.iconst 1, 1) := by decide +kernel
theorem d_Rm_faultOf_61 : decode prog_8_method_48_code 61 = .ok (.isub, 1) := by decide +kernel
theorem d_Rm_faultOf_62 : decode prog_8_method_48_code 62 = .ok (.invokevirtual 170, 3) := by decide +kernel
theorem d_Rm_faultOf_65 : decode prog_8_method_48_code 65 = .ok (.aload_n 0, 1) := by decide +kernel
theorem d_Rm_faultOf_66 : decode prog_8_method_48_code 66 = .ok (.iload_n 1, 1) := by decide +kernel
theorem d_Rm_faultOf_67 : decode prog_8_method_48_code 67 = .ok (.invokevirtual 187, 3) := by decide +kernel
theorem d_Rm_faultOf_70 : decode prog_8_method_48_code 70 = .ok (.ireturn, 1) := by decide +kernel
theorem d_Rm_fault_0 : decode prog_8_method_49_code 0 = .ok (.aload_n 0, 1) := by decide +kernel
theorem d_Rm_fault_1 : decode prog_8_method_49_code 1 = .ok (.iconst 0, 1) := by decide +kernel
theorem d_Rm_fault_2 : decode prog_8_method_49_code 2 = .ok (.putfield 1, 3) := by decide +kernel
theorem d_Rm_fault_5 : decode prog_8_method_49_code 5 = .ok (.aload_n 0, 1) := by decide +kernel
theorem d_Rm_fault_6 : decode prog_8_method_49_code 6 = .ok (.iload_n 1, 1) := by decide +kernel
theorem d_Rm_fault_7 : decode prog_8_method_49_code 7 = .ok (.invokevirtual 103, 3) := by decide +kernel
theorem d_Rm_fault_10 : decode prog_8_method_49_code 10 = .ok (.ifCond .eq 7, 3) := by decide +kernel
theorem d_Rm_fault_13 : decode prog_8_method_49_code 13 = .ok (.iconst (-1), 1) := by decide +kernel
theorem d_Rm_fault_14 : decode prog_8_method_49_code 14 = .ok (.goto 22, 3) := by decide +kernel
theorem d_Rm_fault_17 : decode prog_8_method_49_code 17 = .ok (.aload_n 0, 1) := by decide +kernel
theorem d_Rm_fault_18 : decode prog_8_method_49_code 18 = .ok (.getfield 44, 3) := by decide +kernel
theorem d_Rm_fault_21 : decode prog_8_method_49_code 21 = .ok (.iload_n 1, 1) := by decide +kernel
theorem d_Rm_fault_22 : decode prog_8_method_49_code 22 = .ok (.baload, 1) := by decide +kernel
theorem d_Rm_fault_23 : decode prog_8_method_49_code 23 = .ok (.ifCond .eq 11, 3) := by decide +kernel
theorem d_Rm_fault_26 : decode prog_8_method_49_code 26 = .ok (.aload_n 0, 1) := by decide +kernel
theorem d_Rm_fault_27 : decode prog_8_method_49_code 27 = .ok (.iload_n 1, 1) := by decide +kernel
theorem d_Rm_fault_28 : decode prog_8_method_49_code 28 = .ok (.invokevirtual 211, 3) := by decide +kernel
theorem d_Rm_fault_31 : decode prog_8_method_49_code 31 = .ok (.goto 5, 3) := by decide +kernel
theorem d_Rm_fault_34 : decode prog_8_method_49_code 34 = .ok (.bipush (-2), 2) := by decide +kernel
theorem d_Rm_fault_36 : decode prog_8_method_49_code 36 = .ok (.ireturn, 1) := by decide +kernel
theorem d_Br_sung_0 : decode prog_1_method_20_code 0 = .ok (.aload_n 0, 1) := by decide +kernel
theorem d_Br_sung_1 : decode prog_1_method_20_code 1 = .ok (.getfield 33, 3) := by decide +kernel
theorem d_Br_sung_4 : decode prog_1_method_20_code 4 = .ok (.ifCond .ne 6, 3) := by decide +kernel
theorem d_Br_sung_7 : decode prog_1_method_20_code 7 = .ok (.bipush (-2), 2) := by decide +kernel
theorem d_Br_sung_9 : decode prog_1_method_20_code 9 = .ok (.ireturn, 1) := by decide +kernel
theorem d_Br_sung_10 : decode prog_1_method_20_code 10 = .ok (.iconst 0, 1) := by decide +kernel
theorem d_Br_sung_11 : decode prog_1_method_20_code 11 = .ok (.istore_n 1, 1) := by decide +kernel
theorem d_Br_sung_12 : decode prog_1_method_20_code 12 = .ok (.iconst 0, 1) := by decide +kernel
theorem d_Br_sung_13 : decode prog_1_method_20_code 13 = .ok (.istore_n 2, 1) := by decide +kernel
theorem d_Br_sung_14 : decode prog_1_method_20_code 14 = .ok (.iload_n 2, 1) := by decide +kernel
theorem d_Br_sung_15 : decode prog_1_method_20_code 15 = .ok (.aload_n 0, 1) := by decide +kernel
theorem d_Br_sung_16 : decode prog_1_method_20_code 16 = .ok (.getfield 33, 3) := by decide +kernel
theorem d_Br_sung_19 : decode prog_1_method_20_code 19 = .ok (.if_icmp .ge 61, 3) := by decide +kernel
theorem d_Br_sung_22 : decode prog_1_method_20_code 22 = .ok (.aload_n 0, 1) := by decide +kernel
theorem d_Br_sung_23 : decode prog_1_method_20_code 23 = .ok (.getfield 20, 3) := by decide +kernel
theorem d_Br_sung_26 : decode prog_1_method_20_code 26 = .ok (.iload_n 2, 1) := by decide +kernel
theorem d_Br_sung_27 : decode prog_1_method_20_code 27 = .ok (.aaload, 1) := by decide +kernel
theorem d_Br_sung_28 : decode prog_1_method_20_code 28 = .ok (.getfield 155, 3) := by decide +kernel
theorem d_Br_sung_31 : decode prog_1_method_20_code 31 = .ok (.istore_n 3, 1) := by decide +kernel
theorem d_Br_sung_32 : decode prog_1_method_20_code 32 = .ok (.iload_n 3, 1) := by decide +kernel
theorem d_Br_sung_33 : decode prog_1_method_20_code 33 = .ok (.iconst (-1), 1) := by decide +kernel
theorem d_Br_sung_34 : decode prog_1_method_20_code 34 = .ok (.if_icmp .eq 11, 3) := by decide +kernel
theorem d_Br_sung_37 : decode prog_1_method_20_code 37 = .ok (.aload_n 0, 1) := by decide +kernel
theorem d_Br_sung_38 : decode prog_1_method_20_code 38 = .ok (.iload_n 2, 1) := by decide +kernel
theorem d_Br_sung_39 : decode prog_1_method_20_code 39 = .ok (.invokevirtual 158, 3) := by decide +kernel
theorem d_Br_sung_42 : decode prog_1_method_20_code 42 = .ok (.ifCond .eq 6, 3) := by decide +kernel
theorem d_Br_sung_45 : decode prog_1_method_20_code 45 = .ok (.bipush (-2), 2) := by decide +kernel
theorem d_Br_sung_47 : decode prog_1_method_20_code 47 = .ok (.ireturn, 1) := by decide +kernel
theorem d_Br_sung_48 : decode prog_1_method_20_code 48 = .ok (.iload_n 1, 1) := by decide +kernel
theorem d_Br_sung_49 : decode prog_1_method_20_code 49 = .ok (.iload_n 2, 1) := by decide +kernel
theorem d_Br_sung_50 : decode prog_1_method_20_code 50 = .ok (.ifCond .ne 14, 3) := by decide +kernel
theorem d_Br_sung_53 : decode prog_1_method_20_code 53 = .ok (.aload_n 0, 1) := by decide +kernel
theorem d_Br_sung_54 : decode prog_1_method_20_code 54 = .ok (.getfield 25, 3) := by decide +kernel
theorem d_Br_sung_57 : decode prog_1_method_20_code 57 = .ok (.iload_n 3, 1) := by decide +kernel
theorem d_Br_sung_58 : decode prog_1_method_20_code 58 = .ok (.invokevirtual 161, 3) := by decide +kernel
theorem d_Br_sung_61 : decode prog_1_method_20_code 61 = .ok (.goto 11, 3) := by decide +kernel
theorem d_Br_sung_64 : decode prog_1_method_20_code 64 = .ok (.aload_n 0, 1) := by decide +kernel
theorem d_Br_sung_65 : decode prog_1_method_20_code 65 = .ok (.iload_n 2, 1) := by decide +kernel
theorem d_Br_sung_66 : decode prog_1_method_20_code 66 = .ok (.invokevirtual 164, 3) := by decide +kernel
theorem d_Br_sung_69 : decode prog_1_method_20_code 69 = .ok (.invokevirtual 168, 3) := by decide +kernel
theorem d_Br_sung_72 : decode prog_1_method_20_code 72 = .ok (.iadd, 1) := by decide +kernel
theorem d_Br_sung_73 : decode prog_1_method_20_code 73 = .ok (.istore_n 1, 1) := by decide +kernel
theorem d_Br_sung_74 : decode prog_1_method_20_code 74 = .ok (.iinc 2 1, 3) := by decide +kernel
theorem d_Br_sung_77 : decode prog_1_method_20_code 77 = .ok (.goto (-63), 3) := by decide +kernel
theorem d_Br_sung_80 : decode prog_1_method_20_code 80 = .ok (.iload_n 1, 1) := by decide +kernel
theorem d_Br_sung_81 : decode prog_1_method_20_code 81 = .ok (.ireturn, 1) := by decide +kernel
theorem d_Rm_sung_0 : decode prog_8_method_50_code 0 = .ok (.aload_n 0, 1) := by decide +kernel
theorem d_Rm_sung_1 : decode prog_8_method_50_code 1 = .ok (.iconst 0, 1) := by decide +kernel
theorem d_Rm_sung_2 : decode prog_8_method_50_code 2 = .ok (.putfield 1, 3) := by decide +kernel
theorem d_Rm_sung_5 : decode prog_8_method_50_code 5 = .ok (.iconst 0, 1) := by decide +kernel
theorem d_Rm_sung_6 : decode prog_8_method_50_code 6 = .ok (.istore_n 1, 1) := by decide +kernel
theorem d_Rm_sung_7 : decode prog_8_method_50_code 7 = .ok (.iconst 0, 1) := by decide +kernel
theorem d_Rm_sung_8 : decode prog_8_method_50_code 8 = .ok (.istore_n 2, 1) := by decide +kernel
theorem d_Rm_sung_9 : decode prog_8_method_50_code 9 = .ok (.iload_n 2, 1) := by decide +kernel
theorem d_Rm_sung_10 : decode prog_8_method_50_code 10 = .ok (.aload_n 0, 1) := by decide +kernel
theorem d_Rm_sung_11 : decode prog_8_method_50_code 11 = .ok (.getfield 79, 3) := by decide +kernel
theorem d_Rm_sung_14 : decode prog_8_method_50_code 14 = .ok (.if_icmp .ge 37, 3) := by decide +kernel
theorem d_Rm_sung_17 : decode prog_8_method_50_code 17 = .ok (.aload_n 0, 1) := by decide +kernel
theorem d_Rm_sung_18 : decode prog_8_method_50_code 18 = .ok (.getfield 44, 3) := by decide +kernel
theorem d_Rm_sung_21 : decode prog_8_method_50_code 21 = .ok (.iload_n 2, 1) := by decide +kernel
theorem d_Rm_sung_22 : decode prog_8_method_50_code 22 = .ok (.baload, 1) := by decide +kernel
theorem d_Rm_sung_23 : decode prog_8_method_50_code 23 = .ok (.ifCond .eq 11, 3) := by decide +kernel
theorem d_Rm_sung_26 : decode prog_8_method_50_code 26 = .ok (.aload_n 0, 1) := by decide +kernel
theorem d_Rm_sung_27 : decode prog_8_method_50_code 27 = .ok (.iload_n 2, 1) := by decide +kernel
theorem d_Rm_sung_28 : decode prog_8_method_50_code 28 = .ok (.invokevirtual 211, 3) := by decide +kernel
theorem d_Rm_sung_31 : decode prog_8_method_50_code 31 = .ok (.ifCond .le 6, 3) := by decide +kernel
theorem d_Rm_sung_34 : decode prog_8_method_50_code 34 = .ok (.bipush (-2), 2) := by decide +kernel
theorem d_Rm_sung_36 : decode prog_8_method_50_code 36 = .ok (.ireturn, 1) := by decide +kernel
theorem d_Rm_sung_37 : decode prog_8_method_50_code 37 = .ok (.iload_n 1, 1) := by decide +kernel
theorem d_Rm_sung_38 : decode prog_8_method_50_code 38 = .ok (.aload_n 0, 1) := by decide +kernel
theorem d_Rm_sung_39 : decode prog_8_method_50_code 39 = .ok (.iload_n 2, 1) := by decide +kernel
theorem d_Rm_sung_40 : decode prog_8_method_50_code 40 = .ok (.invokevirtual 196, 3) := by decide +kernel
theorem d_Rm_sung_43 : decode prog_8_method_50_code 43 = .ok (.iadd, 1) := by decide +kernel
theorem d_Rm_sung_44 : decode prog_8_method_50_code 44 = .ok (.istore_n 1, 1) := by decide +kernel
theorem d_Rm_sung_45 : decode prog_8_method_50_code 45 = .ok (.iinc 2 1, 3) := by decide +kernel
theorem d_Rm_sung_48 : decode prog_8_method_50_code 48 = .ok (.goto (-39), 3) := by decide +kernel
theorem d_Rm_sung_51 : decode prog_8_method_50_code 51 = .ok (.aload_n 0, 1) := by decide +kernel
theorem d_Rm_sung_52 : decode prog_8_method_50_code 52 = .ok (.getfield 79, 3) := by decide +kernel
theorem d_Rm_sung_55 : decode prog_8_method_50_code 55 = .ok (.ifCond .ne 8, 3) := by decide +kernel
theorem d_Rm_sung_58 : decode prog_8_method_50_code 58 = .ok (.bipush (-2), 2) := by decide +kernel
theorem d_Rm_sung_60 : decode prog_8_method_50_code 60 = .ok (.goto 4, 3) := by decide +kernel
theorem d_Rm_sung_63 : decode prog_8_method_50_code 63 = .ok (.iload_n 1, 1) := by decide +kernel
theorem d_Rm_sung_64 : decode prog_8_method_50_code 64 = .ok (.ireturn, 1) := by decide +kernel
theorem d_Br_figuresTold_0 : decode prog_1_method_24_code 0 = .ok (.iconst 0, 1) := by decide +kernel
theorem d_Br_figuresTold_1 : decode prog_1_method_24_code 1 = .ok (.istore_n 1, 1) := by decide +kernel
theorem d_Br_figuresTold_2 : decode prog_1_method_24_code 2 = .ok (.iconst 0, 1) := by decide +kernel
theorem d_Br_figuresTold_3 : decode prog_1_method_24_code 3 = .ok (.istore_n 2, 1) := by decide +kernel
theorem d_Br_figuresTold_4 : decode prog_1_method_24_code 4 = .ok (.iload_n 2, 1) := by decide +kernel
theorem d_Br_figuresTold_5 : decode prog_1_method_24_code 5 = .ok (.aload_n 0, 1) := by decide +kernel
theorem d_Br_figuresTold_6 : decode prog_1_method_24_code 6 = .ok (.getfield 33, 3) := by decide +kernel
theorem d_Br_figuresTold_9 : decode prog_1_method_24_code 9 = .ok (.if_icmp .ge 24, 3) := by decide +kernel
theorem d_Br_figuresTold_12 : decode prog_1_method_24_code 12 = .ok (.iload_n 1, 1) := by decide +kernel
theorem d_Br_figuresTold_13 : decode prog_1_method_24_code 13 = .ok (.aload_n 0, 1) := by decide +kernel
theorem d_Br_figuresTold_14 : decode prog_1_method_24_code 14 = .ok (.getfield 20, 3) := by decide +kernel
theorem d_Br_figuresTold_17 : decode prog_1_method_24_code 17 = .ok (.iload_n 2, 1) := by decide +kernel
theorem d_Br_figuresTold_18 : decode prog_1_method_24_code 18 = .ok (.aaload, 1) := by decide +kernel
theorem d_Br_figuresTold_19 : decode prog_1_method_24_code 19 = .ok (.getfield 66, 3) := by decide +kernel
theorem d_Br_figuresTold_22 : decode prog_1_method_24_code 22 = .ok (.invokestatic 73, 3) := by decide +kernel
theorem d_Br_figuresTold_25 : decode prog_1_method_24_code 25 = .ok (.iadd, 1) := by decide +kernel
theorem d_Br_figuresTold_26 : decode prog_1_method_24_code 26 = .ok (.istore_n 1, 1) := by decide +kernel
theorem d_Br_figuresTold_27 : decode prog_1_method_24_code 27 = .ok (.iinc 2 1, 3) := by decide +kernel
theorem d_Br_figuresTold_30 : decode prog_1_method_24_code 30 = .ok (.goto (-26), 3) := by decide +kernel
theorem d_Br_figuresTold_33 : decode prog_1_method_24_code 33 = .ok (.iload_n 1, 1) := by decide +kernel
theorem d_Br_figuresTold_34 : decode prog_1_method_24_code 34 = .ok (.ireturn, 1) := by decide +kernel
theorem d_Br_chordsSung_0 : decode prog_1_method_25_code 0 = .ok (.iconst 0, 1) := by decide +kernel
theorem d_Br_chordsSung_1 : decode prog_1_method_25_code 1 = .ok (.istore_n 1, 1) := by decide +kernel
theorem d_Br_chordsSung_2 : decode prog_1_method_25_code 2 = .ok (.iconst 0, 1) := by decide +kernel
theorem d_Br_chordsSung_3 : decode prog_1_method_25_code 3 = .ok (.istore_n 2, 1) := by decide +kernel
theorem d_Br_chordsSung_4 : decode prog_1_method_25_code 4 = .ok (.iload_n 2, 1) := by decide +kernel
theorem d_Br_chordsSung_5 : decode prog_1_method_25_code 5 = .ok (.aload_n 0, 1) := by decide +kernel
theorem d_Br_chordsSung_6 : decode prog_1_method_25_code 6 = .ok (.getfield 33, 3) := by decide +kernel
theorem d_Br_chordsSung_9 : decode prog_1_method_25_code 9 = .ok (.if_icmp .ge 25, 3) := by decide +kernel
theorem d_Br_chordsSung_12 : decode prog_1_method_25_code 12 = .ok (.aload_n 0, 1) := by decide +kernel
theorem d_Br_chordsSung_13 : decode prog_1_method_25_code 13 = .ok (.getfield 20, 3) := by decide +kernel
theorem d_Br_chordsSung_16 : decode prog_1_method_25_code 16 = .ok (.iload_n 2, 1) := by decide +kernel
theorem d_Br_chordsSung_17 : decode prog_1_method_25_code 17 = .ok (.aaload, 1) := by decide +kernel
theorem d_Br_chordsSung_18 : decode prog_1_method_25_code 18 = .ok (.getfield 155, 3) := by decide +kernel
theorem d_Br_chordsSung_21 : decode prog_1_method_25_code 21 = .ok (.iconst (-1), 1) := by decide +kernel
theorem d_Br_chordsSung_22 : decode prog_1_method_25_code 22 = .ok (.if_icmp .eq 6, 3) := by decide +kernel
theorem d_Br_chordsSung_25 : decode prog_1_method_25_code 25 = .ok (.iinc 1 1, 3) := by decide +kernel
theorem d_Br_chordsSung_28 : decode prog_1_method_25_code 28 = .ok (.iinc 2 1, 3) := by decide +kernel
theorem d_Br_chordsSung_31 : decode prog_1_method_25_code 31 = .ok (.goto (-27), 3) := by decide +kernel
theorem d_Br_chordsSung_34 : decode prog_1_method_25_code 34 = .ok (.iload_n 1, 1) := by decide +kernel
theorem d_Br_chordsSung_35 : decode prog_1_method_25_code 35 = .ok (.ireturn, 1) := by decide +kernel
theorem d_Br_pitchesGiven_0 : decode prog_1_method_26_code 0 = .ok (.iconst 0, 1) := by decide +kernel
theorem d_Br_pitchesGiven_1 : decode prog_1_method_26_code 1 = .ok (.istore_n 1, 1) := by decide +kernel
theorem d_Br_pitchesGiven_2 : decode prog_1_method_26_code 2 = .ok (.iconst 0, 1) := by decide +kernel
theorem d_Br_pitchesGiven_3 : decode prog_1_method_26_code 3 = .ok (.istore_n 2, 1) := by decide +kernel
theorem d_Br_pitchesGiven_4 : decode prog_1_method_26_code 4 = .ok (.iload_n 2, 1) := by decide +kernel
theorem d_Br_pitchesGiven_5 : decode prog_1_method_26_code 5 = .ok (.aload_n 0, 1) := by decide +kernel
theorem d_Br_pitchesGiven_6 : decode prog_1_method_26_code 6 = .ok (.getfield 33, 3) := by decide +kernel
theorem d_Br_pitchesGiven_9 : decode prog_1_method_26_code 9 = .ok (.if_icmp .ge 40, 3) := by decide +kernel
theorem d_Br_pitchesGiven_12 : decode prog_1_method_26_code 12 = .ok (.iconst 0, 1) := by decide +kernel
theorem d_Br_pitchesGiven_13 : decode prog_1_method_26_code 13 = .ok (.istore_n 3, 1) := by decide +kernel
theorem d_Br_pitchesGiven_14 : decode prog_1_method_26_code 14 = .ok (.iload_n 3, 1) := by decide +kernel
theorem d_Br_pitchesGiven_15 : decode prog_1_method_26_code 15 = .ok (.iconst 3, 1) := by decide +kernel
theorem d_Br_pitchesGiven_16 : decode prog_1_method_26_code 16 = .ok (.if_icmp .ge 27, 3) := by decide +kernel
theorem d_Br_pitchesGiven_19 : decode prog_1_method_26_code 19 = .ok (.aload_n 0, 1) := by decide +kernel
theorem d_Br_pitchesGiven_20 : decode prog_1_method_26_code 20 = .ok (.getfield 20, 3) := by decide +kernel
theorem d_Br_pitchesGiven_23 : decode prog_1_method_26_code 23 = .ok (.iload_n 2, 1) := by decide +kernel
theorem d_Br_pitchesGiven_24 : decode prog_1_method_26_code 24 = .ok (.aaload, 1) := by decide +kernel
theorem d_Br_pitchesGiven_25 : decode prog_1_method_26_code 25 = .ok (.getfield 110, 3) := by decide +kernel
theorem d_Br_pitchesGiven_28 : decode prog_1_method_26_code 28 = .ok (.iload_n 3, 1) := by decide +kernel
theorem d_Br_pitchesGiven_29 : decode prog_1_method_26_code 29 = .ok (.iaload, 1) := by decide +kernel
theorem d_Br_pitchesGiven_30 : decode prog_1_method_26_code 30 = .ok (.iconst (-1), 1) := by decide +kernel
theorem d_Br_pitchesGiven_31 : decode prog_1_method_26_code 31 = .ok (.if_icmp .eq 6, 3) := by decide +kernel
theorem d_Br_pitchesGiven_34 : decode prog_1_method_26_code 34 = .ok (.iinc 1 1, 3) := by decide +kernel
theorem d_Br_pitchesGiven_37 : decode prog_1_method_26_code 37 = .ok (.iinc 3 1, 3) := by decide +kernel
theorem d_Br_pitchesGiven_40 : decode prog_1_method_26_code 40 = .ok (.goto (-26), 3) := by decide +kernel
theorem d_Br_pitchesGiven_43 : decode prog_1_method_26_code 43 = .ok (.iinc 2 1, 3) := by decide +kernel
theorem d_Br_pitchesGiven_46 : decode prog_1_method_26_code 46 = .ok (.goto (-42), 3) := by decide +kernel
theorem d_Br_pitchesGiven_49 : decode prog_1_method_26_code 49 = .ok (.iload_n 1, 1) := by decide +kernel
theorem d_Br_pitchesGiven_50 : decode prog_1_method_26_code 50 = .ok (.ireturn, 1) := by decide +kernel
theorem d_Br_count_0 : decode prog_1_method_21_code 0 = .ok (.iload_n 1, 1) := by decide +kernel
theorem d_Br_count_1 : decode prog_1_method_21_code 1 = .ok (.bipush 6, 2) := by decide +kernel
theorem d_Br_count_3 : decode prog_1_method_21_code 3 = .ok (.bipush 8, 2) := by decide +kernel
theorem d_Br_count_5 : decode prog_1_method_21_code 5 = .ok (.invokestatic 37, 3) := by decide +kernel
theorem d_Br_count_8 : decode prog_1_method_21_code 8 = .ok (.ifCond .eq 16, 3) := by decide +kernel
theorem d_Br_count_11 : decode prog_1_method_21_code 11 = .ok (.aload_n 0, 1) := by decide +kernel
theorem d_Br_count_12 : decode prog_1_method_21_code 12 = .ok (.getfield 25, 3) := by decide +kernel
theorem d_Br_count_15 : decode prog_1_method_21_code 15 = .ok (.getfield 94, 3) := by decide +kernel
theorem d_Br_count_18 : decode prog_1_method_21_code 18 = .ok (.iload_n 1, 1) := by decide +kernel
theorem d_Br_count_19 : decode prog_1_method_21_code 19 = .ok (.bipush 6, 2) := by decide +kernel
theorem d_Br_count_21 : decode prog_1_method_21_code 21 = .ok (.isub, 1) := by decide +kernel
theorem d_Br_count_22 : decode prog_1_method_21_code 22 = .ok (.iaload, 1) := by decide +kernel
theorem d_Br_count_23 : decode prog_1_method_21_code 23 = .ok (.ireturn, 1) := by decide +kernel
theorem d_Br_count_24 : decode prog_1_method_21_code 24 = .ok (.iload_n 1, 1) := by decide +kernel
theorem d_Br_count_25 : decode prog_1_method_21_code 25 = .ok (.bipush 9, 2) := by decide +kernel
theorem d_Br_count_27 : decode prog_1_method_21_code 27 = .ok (.bipush 11, 2) := by decide +kernel
theorem d_Br_count_29 : decode prog_1_method_21_code 29 = .ok (.invokestatic 37, 3) := by decide +kernel
theorem d_Br_count_32 : decode prog_1_method_21_code 32 = .ok (.ifCond .eq 16, 3) := by decide +kernel
theorem d_Br_count_35 : decode prog_1_method_21_code 35 = .ok (.aload_n 0, 1) := by decide +kernel
theorem d_Br_count_36 : decode prog_1_method_21_code 36 = .ok (.getfield 25, 3) := by decide +kernel
theorem d_Br_count_39 : decode prog_1_method_21_code 39 = .ok (.getfield 98, 3) := by decide +kernel
theorem d_Br_count_42 : decode prog_1_method_21_code 42 = .ok (.iload_n 1, 1) := by decide +kernel
theorem d_Br_count_43 : decode prog_1_method_21_code 43 = .ok (.bipush 9, 2) := by decide +kernel
theorem d_Br_count_45 : decode prog_1_method_21_code 45 = .ok (.isub, 1) := by decide +kernel
theorem d_Br_count_46 : decode prog_1_method_21_code 46 = .ok (.iaload, 1) := by decide +kernel
theorem d_Br_count_47 : decode prog_1_method_21_code 47 = .ok (.ireturn, 1) := by decide +kernel
theorem d_Br_count_48 : decode prog_1_method_21_code 48 = .ok (.iload_n 1, 1) := by decide +kernel
theorem d_Br_count_49 : decode prog_1_method_21_code 49 = .ok (.bipush 12, 2) := by decide +kernel
theorem d_Br_count_51 : decode prog_1_method_21_code 51 = .ok (.bipush 14, 2) := by decide +kernel
theorem d_Br_count_53 : decode prog_1_method_21_code 53 = .ok (.invokestatic 37, 3) := by decide +kernel
theorem d_Br_count_56 : decode prog_1_method_21_code 56 = .ok (.ifCond .eq 16, 3) := by decide +kernel
theorem d_Br_count_59 : decode prog_1_method_21_code 59 = .ok (.aload_n 0, 1) := by decide +kernel
theorem d_Br_count_60 : decode prog_1_method_21_code 60 = .ok (.getfield 25, 3) := by decide +kernel
theorem d_Br_count_63 : decode prog_1_method_21_code 63 = .ok (.getfield 101, 3) := by decide +kernel
theorem d_Br_count_66 : decode prog_1_method_21_code 66 = .ok (.iload_n 1, 1) := by decide +kernel
theorem d_Br_count_67 : decode prog_1_method_21_code 67 = .ok (.bipush 12, 2) := by decide +kernel
theorem d_Br_count_69 : decode prog_1_method_21_code 69 = .ok (.isub, 1) := by decide +kernel
theorem d_Br_count_70 : decode prog_1_method_21_code 70 = .ok (.iaload, 1) := by decide +kernel
theorem d_Br_count_71 : decode prog_1_method_21_code 71 = .ok (.ireturn, 1) := by decide +kernel
theorem d_Br_count_72 : decode prog_1_method_21_code 72 = .ok (.iload_n 1, 1) := by decide +kernel
theorem d_Br_count_73 : decode prog_1_method_21_code 73 = .ok (.tableswitch 78 0 5 #[39, 44, 49, 60, 68, 73], 39) := by decide +kernel
theorem d_Br_count_112 : decode prog_1_method_21_code 112 = .ok (.aload_n 0, 1) := by decide +kernel
theorem d_Br_count_113 : decode prog_1_method_21_code 113 = .ok (.getfield 33, 3) := by decide +kernel
theorem d_Br_count_116 : decode prog_1_method_21_code 116 = .ok (.ireturn, 1) := by decide +kernel
theorem d_Br_count_117 : decode prog_1_method_21_code 117 = .ok (.aload_n 0, 1) := by decide +kernel
theorem d_Br_count_118 : decode prog_1_method_21_code 118 = .ok (.invokevirtual 172, 3) := by decide +kernel
theorem d_Br_count_121 : decode prog_1_method_21_code 121 = .ok (.ireturn, 1) := by decide +kernel
theorem d_Br_count_122 : decode prog_1_method_21_code 122 = .ok (.aload_n 0, 1) := by decide +kernel
theorem d_Br_count_123 : decode prog_1_method_21_code 123 = .ok (.getfield 25, 3) := by decide +kernel
theorem d_Br_count_126 : decode prog_1_method_21_code 126 = .ok (.getfield 41, 3) := by decide +kernel
theorem d_Br_count_129 : decode prog_1_method_21_code 129 = .ok (.bipush 7, 2) := by decide +kernel
theorem d_Br_count_131 : decode prog_1_method_21_code 131 = .ok (.iadd, 1) := by decide +kernel
theorem d_Br_count_132 : decode prog_1_method_21_code 132 = .ok (.ireturn, 1) := by decide +kernel
theorem d_Br_count_133 : decode prog_1_method_21_code 133 = .ok (.aload_n 0, 1) := by decide +kernel
theorem d_Br_count_134 : decode prog_1_method_21_code 134 = .ok (.getfield 25, 3) := by decide +kernel
theorem d_Br_count_137 : decode prog_1_method_21_code 137 = .ok (.getfield 107, 3) := by decide +kernel
theorem d_Br_count_140 : decode prog_1_method_21_code 140 = .ok (.ireturn, 1) := by decide +kernel
theorem d_Br_count_141 : decode prog_1_method_21_code 141 = .ok (.aload_n 0, 1) := by decide +kernel
theorem d_Br_count_142 : decode prog_1_method_21_code 142 = .ok (.invokevirtual 175, 3) := by decide +kernel
theorem d_Br_count_145 : decode prog_1_method_21_code 145 = .ok (.ireturn, 1) := by decide +kernel
theorem d_Br_count_146 : decode prog_1_method_21_code 146 = .ok (.aload_n 0, 1) := by decide +kernel
theorem d_Br_count_147 : decode prog_1_method_21_code 147 = .ok (.invokevirtual 178, 3) := by decide +kernel
theorem d_Br_count_150 : decode prog_1_method_21_code 150 = .ok (.ireturn, 1) := by decide +kernel
theorem d_Br_count_151 : decode prog_1_method_21_code 151 = .ok (.iconst (-1), 1) := by decide +kernel
theorem d_Br_count_152 : decode prog_1_method_21_code 152 = .ok (.ireturn, 1) := by decide +kernel
def wb_Rm_takeSung_2 (K2 : Nat → Int32 → Nat → Int32 → MH → Prop) (Post : MH → Prop) (l0 : Nat) (l1 : Int32) (l2 : Nat) (l3 : Int32) (h : MH) : Prop :=
  (((3 : Int32) ≤ l3) →
    (gC h l0 = some 6 ∧ wp_Rm_bassOf (fun (r30 : Int32) (h30 : MH) =>
        (∃ (n33 : Nat) (f33 : Nat → Int32), gA h30 l2 0 = some (n33, f33) ∧ vp_in (3 : Int32) n33 ∧ ∀ h33 : MH, h33 = mset h30 l2 (.inr (0, n33, .inl (upd f33 ((3 : Int32)).toNatClampNeg r30))) →
          (Post h33))) l0 l1 h)) ∧
  ((¬ (3 : Int32) ≤ l3) →
    (∃ x10 : Nat, gF h l0 6 12 = some (.inr (some x10)) ∧
      (∃ (n18 : Nat) (f18 : Nat → Int32), gA h x10 0 = some (n18, f18) ∧ vp_in (((3 : Int32) * l1) + l3) n18 ∧
        (∃ (n19 : Nat) (f19 : Nat → Int32), gA h l2 0 = some (n19, f19) ∧ vp_in l3 n19 ∧ ∀ h19 : MH, h19 = mset h l2 (.inr (0, n19, .inl (upd f19 (l3).toNatClampNeg (f18 (((3 : Int32) * l1) + l3).toNatClampNeg)))) →
          (K2 l0 l1 l2 (l3 + (1 : Int32)) h19)))))
def wn_Rm_takeSung_2 (Post : MH → Prop) : Nat → Nat → Int32 → Nat → Int32 → MH → Prop
  | 0 => fun _ _ _ _ _ => False
  | n + 1 => wb_Rm_takeSung_2 (wn_Rm_takeSung_2 Post n) Post
def wp_Rm_takeSung_2 (Post : MH → Prop) (l0 : Nat) (l1 : Int32) (l2 : Nat) (l3 : Int32) (h : MH) : Prop := ∃ n, wn_Rm_takeSung_2 Post n l0 l1 l2 l3 h
def wp_Rm_takeSung (Post : MH → Prop) (l0 : Nat) (l1 : Int32) (l2 : Nat) (h : MH) : Prop :=
  wp_Rm_takeSung_2 Post l0 l1 l2 (0 : Int32) h
set_option maxRecDepth 100000 in
set_option maxHeartbeats 4000000 in
theorem tb_Rm_takeSung_2 {p : Program} {l : Launch} {e : Env} {R : Room} {s : State} {m : MethodId} {args : Array Value} {below : List Frame} {meth : Method} {c : Code} (G : mG) (C0 : Cx G p s m args c prog_8_method_47_code 4 "BassRealiserModel") (hR : 2 ≤ R.frames ∧ 41 ≤ R.locals ∧ 0 ≤ R.cells ∧ 0 ≤ R.slots) (hr : meth.sig.returnType = none) (hlk : meth.locks = false) {Post : MH → Prop} {K2 : Nat → Int32 → Nat → Int32 → MH → Prop} (hK2 : ∀ (l0 : Nat) (l1 : Int32) (l2 : Nat) (l3 : Int32) (h : MH), K2 l0 l1 l2 l3 h → WG p l e R s m args below meth c 0 0 (MQ below (va_Qv Post (Wd G) (mA G)) args s 0 0 (mA G)) G 4 [(0, .ref (m_b G + l0)), (1, .int l1), (2, .ref (m_b G + l2)), (3, .int l3)] 2 [] h) (l0 : Nat) (l1 : Int32) (l2 : Nat) (l3 : Int32) (h : MH) (hwp : wb_Rm_takeSung_2 K2 Post l0 l1 l2 l3 h) : WG p l e R s m args below meth c 0 0 (MQ below (va_Qv Post (Wd G) (mA G)) args s 0 0 (mA G)) G 4 [(0, .ref (m_b G + l0)), (1, .int l1), (2, .ref (m_b G + l2)), (3, .int l3)] 2 [] h := by
  unfold wb_Rm_takeSung_2 at hwp
  refine x_iload_n C0 3 d_Rm_takeSung_2 rfl rfl ?_
  refine x_iconst (v := 3) C0 d_Rm_takeSung_3 (by decide) ?_
  refine x_icmp_ge (tgt := 26) C0 d_Rm_takeSung_4 (by decide) (fun c4 => ?_) (fun c4 => ?_)
  · replace hwp := hwp.1 c4
    refine x_aload_n C0 2 d_Rm_takeSung_26 rfl rfl ?_
    refine x_iconst (v := 3) C0 d_Rm_takeSung_27 (by decide) ?_
    refine x_aload_n C0 0 d_Rm_takeSung_28 rfl rfl ?_
    refine x_iload_n C0 1 d_Rm_takeSung_29 rfl rfl ?_
    obtain ⟨g30, hwp⟩ := hwp
    refine x_callVi0 (k := l0) (As := [.int l1]) (st := [.int (3 : Int32), .ref (m_b G + l2)]) C0 (c_Rm_bassOf l G hwp) kw_3_236 mk_Rm_bassOf vk_Rm_bassOf rfl g30 rfl (Nat.le_of_ble_eq_true rfl) rfl rfl ⟨Nat.le_trans (by decide) hR.1, Nat.le_trans (by decide) hR.2.1⟩ ⟨Nat.zero_le _, Nat.zero_le _⟩ rfl d_Rm_takeSung_30 (fun r30 h30 hwp => ?_)
    obtain ⟨n33, f33, e33, i33, hwp⟩ := hwp
    refine x_iast C0 e33 i33 d_Rm_takeSung_33 ?_
    refine x_nh (fun h33 eh33 => ?_)
    replace hwp := hwp h33 eh33
    exact x_vret C0 hr hlk hwp d_Rm_takeSung_34
  · replace hwp := hwp.2 c4
    refine x_aload_n C0 2 d_Rm_takeSung_7 rfl rfl ?_
    refine x_iload_n C0 3 d_Rm_takeSung_8 rfl rfl ?_
    refine x_aload_n C0 0 d_Rm_takeSung_9 rfl rfl ?_
    obtain ⟨x10, e10, hwp⟩ := hwp
    refine x_getR C0 fk_Rm_41 e10 d_Rm_takeSung_10 ?_
    refine x_iconst (v := 3) C0 d_Rm_takeSung_13 (by decide) ?_
    refine x_iload_n C0 1 d_Rm_takeSung_14 rfl rfl ?_
    refine x_imul C0 d_Rm_takeSung_15 ?_
    refine x_iload_n C0 3 d_Rm_takeSung_16 rfl rfl ?_
    refine x_iadd C0 d_Rm_takeSung_17 ?_
    obtain ⟨n18, f18, e18, i18, hwp⟩ := hwp
    refine x_iald C0 e18 i18 d_Rm_takeSung_18 ?_
    obtain ⟨n19, f19, e19, i19, hwp⟩ := hwp
    refine x_iast C0 e19 i19 d_Rm_takeSung_19 ?_
    refine x_nh (fun h19 eh19 => ?_)
    replace hwp := hwp h19 eh19
    refine x_iinc C0 3 d_Rm_takeSung_20 rfl rfl (by decide) (lv' := [(3, .int (l3 + (1 : Int32))), (0, .ref (m_b G + l0)), (1, .int l1), (2, .ref (m_b G + l2))]) rfl ?_
    refine x_goto (tgt := 2) C0 d_Rm_takeSung_23 (by decide) ?_
    exact x_sub [1, 2, 3, 0] rfl (hK2 _ _ _ _ _ hwp)
theorem t_Rm_takeSung_2 {p : Program} {l : Launch} {e : Env} {R : Room} {s : State} {m : MethodId} {args : Array Value} {below : List Frame} {meth : Method} {c : Code} (G : mG) (C0 : Cx G p s m args c prog_8_method_47_code 4 "BassRealiserModel") (hR : 2 ≤ R.frames ∧ 41 ≤ R.locals ∧ 0 ≤ R.cells ∧ 0 ≤ R.slots) (hr : meth.sig.returnType = none) (hlk : meth.locks = false) {Post : MH → Prop} (l0 : Nat) (l1 : Int32) (l2 : Nat) (l3 : Int32) (h : MH) (hwp : wp_Rm_takeSung_2 Post l0 l1 l2 l3 h) : WG p l e R s m args below meth c 0 0 (MQ below (va_Qv Post (Wd G) (mA G)) args s 0 0 (mA G)) G 4 [(0, .ref (m_b G + l0)), (1, .int l1), (2, .ref (m_b G + l2)), (3, .int l3)] 2 [] h := by
  obtain ⟨n, hwp⟩ := hwp
  induction n generalizing l0 l1 l2 l3 h with
  | zero => exact False.elim hwp
  | succ n ih => exact tb_Rm_takeSung_2 G C0 hR hr hlk (fun l0 l1 l2 l3 h hwp => ih l0 l1 l2 l3 h hwp) l0 l1 l2 l3 h hwp
set_option maxRecDepth 100000 in
set_option maxHeartbeats 4000000 in
theorem t_Rm_takeSung {p : Program} {l : Launch} {e : Env} {R : Room} {s : State} {m : MethodId} {args : Array Value} {below : List Frame} {meth : Method} {c : Code} (G : mG) (C0 : Cx G p s m args c prog_8_method_47_code 4 "BassRealiserModel") (hR : 2 ≤ R.frames ∧ 41 ≤ R.locals ∧ 0 ≤ R.cells ∧ 0 ≤ R.slots) (hr : meth.sig.returnType = none) (hlk : meth.locks = false) {Post : MH → Prop} (l0 : Nat) (l1 : Int32) (l2 : Nat) (h : MH) (hwp : wp_Rm_takeSung Post l0 l1 l2 h) : WG p l e R s m args below meth c 0 0 (MQ below (va_Qv Post (Wd G) (mA G)) args s 0 0 (mA G)) G 4 [(0, .ref (m_b G + l0)), (1, .int l1), (2, .ref (m_b G + l2))] 0 [] h := by
  unfold wp_Rm_takeSung at hwp
  refine x_iconst (v := 0) C0 d_Rm_takeSung_0 (by decide) ?_
  refine x_istore_n C0 d_Rm_takeSung_1 rfl (by decide) (lv' := [(3, .int (0 : Int32)), (0, .ref (m_b G + l0)), (1, .int l1), (2, .ref (m_b G + l2))]) rfl ?_
  exact x_sub [1, 2, 3, 0] rfl (t_Rm_takeSung_2 G C0 hR hr hlk  _ _ _ _ _ hwp)
set_option maxRecDepth 100000 in
set_option maxHeartbeats 4000000 in
theorem c_Rm_takeSung (l : Launch) (G : mG) {Post : MH → Prop} {l0 : Nat} {l1 : Int32} {l2 : Nat} {h : MH} (hwp : wp_Rm_takeSung Post l0 l1 l2 h) : Met l y_Rm_takeSung (Cond.code y_Rm_takeSung prog_8_method_47_code 4 (Option.none : Option Jvm.ClassFile.FieldType) :: lw_good) ({ frames := 2, cells := 0, slots := 0, locals := 41 }) (va_Pc [.ref (m_b G + l0), .int l1, .ref (m_b G + l2)] (Wd G h)) (va_Qv Post (Wd G) (mA G)) 0 0 (mA G) := by
  refine Met.ofW (cc := prog_8_method_47_code) (maxL := 4) (ret := (Option.none : Option Jvm.ClassFile.FieldType)) (by decide +kernel) rfl ?_
  intro p e s m args below meth c s₁ B hml hv
  obtain ⟨rfl, hP, hz, hK, hSt⟩ := hv
  have hts := atoms_spec (ws := Cond.code y_Rm_takeSung prog_8_method_47_code 4 (Option.none : Option Jvm.ClassFile.FieldType) :: lw_good) B.pre
  have C0 : Cx G p s m ([.ref (m_b G + l0), .int l1, .ref (m_b G + l2)] : List Value).toArray c prog_8_method_47_code 4 "BassRealiserModel" := ⟨⟨B.exec, B.bytes, hml, findClass_of_methodNamed B.named, fun w h => hts w (List.mem_cons_of_mem _ h)⟩, hK, hSt, by rw [hz]; exact Nat.le_add_right _ _⟩
  have hl := lv_entry ([.ref (m_b G + l0), .int l1, .ref (m_b G + l2)]) (n := 4) (Nat.le_of_ble_eq_true rfl)
  rw [lg_entry_eq]
  exact t_Rm_takeSung G C0 ⟨Nat.le_refl _, Nat.le_refl _, Nat.le_refl _, Nat.le_refl _⟩ B.returns B.notSynchronized _ _ _ _ hwp _ _ _ ⟨hP, hz, va_S.rf⟩ hl
def wp_Rm_faultOf_65 (Post : Int32 → MH → Prop) (l0 : Nat) (l1 : Int32) (h : MH) : Prop :=
  gC h l0 = some 6 ∧ wp_Rm_pairRule (fun (r67 : Int32) (h67 : MH) =>
    (Post r67 h67)) l0 l1 h
def wp_Rm_faultOf_43 (Post : Int32 → MH → Prop) (l0 : Nat) (l1 : Int32) (h : MH) : Prop :=
  ((l1 ≤ 0) →
    (wp_Rm_faultOf_65 Post l0 l1 h)) ∧
  ((¬ l1 ≤ 0) →
    (∃ x52 : Nat, gF h l0 6 15 = some (.inr (some x52)) ∧
      (gC h l0 = some 6 ∧ wp_Rm_takeSung (fun (h55 : MH) =>
          (gC h55 l0 = some 6 ∧ wp_Rm_look (fun (h62 : MH) =>
              (wp_Rm_faultOf_65 Post l0 l1 h62)) l0 (l1 - (1 : Int32)) h55)) l0 (l1 - (1 : Int32)) x52 h)))
def wp_Rm_faultOf (Post : Int32 → MH → Prop) (l0 : Nat) (l1 : Int32) (h : MH) : Prop :=
  ∃ x3 : Nat, gF h l0 6 14 = some (.inr (some x3)) ∧
  (gC h l0 = some 6 ∧ wp_Rm_takeSung (fun (h6 : MH) =>
      (gC h6 l0 = some 6 ∧ wp_Rm_look (fun (h11 : MH) =>
          (gC h11 l0 = some 6 ∧ wp_Rm_aloneRule (fun (r16 : Int32) (h16 : MH) =>
              (((r16 ≤ 0) →
                  (((l1 ≤ 0) →
                      (wp_Rm_faultOf_43 Post l0 l1 h16)) ∧
                    ((¬ l1 ≤ 0) →
                      (∃ x31 : Nat, gF h16 l0 6 13 = some (.inr (some x31)) ∧
                        (∃ (n37 : Nat) (f37 : Nat → Int32), gA h16 x31 1 = some (n37, f37) ∧ vp_in (l1 - (1 : Int32)) n37 ∧
                        (((¬ (f37 (l1 - (1 : Int32)).toNatClampNeg) = 0) →
                        (wp_Rm_faultOf_43 Post l0 l1 h16)) ∧
                        (((f37 (l1 - (1 : Int32)).toNatClampNeg) = 0) →
                        (Post (0 : Int32) h16)))))))) ∧
                ((¬ r16 ≤ 0) →
                  (Post r16 h16)))) l0 l1 h11)) l0 l1 h6)) l0 l1 x3 h)
set_option maxRecDepth 100000 in
set_option maxHeartbeats 4000000 in
theorem t_Rm_faultOf_65 {p : Program} {l : Launch} {e : Env} {R : Room} {s : State} {m : MethodId} {args : Array Value} {below : List Frame} {meth : Method} {c : Code} (G : mG) (C0 : Cx G p s m args c prog_8_method_48_code 3 "BassRealiserModel") (hR : 4 ≤ R.frames ∧ 91 ≤ R.locals ∧ 0 ≤ R.cells ∧ 0 ≤ R.slots) (hr : meth.sig.returnType = some .int) (hlk : meth.locks = false) {Post : Int32 → MH → Prop} (l0 : Nat) (l1 : Int32) (h : MH) (hwp : wp_Rm_faultOf_65 Post l0 l1 h) : WG p l e R s m args below meth c 0 0 (MQ below (va_Qi Post (Wd G) (mA G)) args s 0 0 (mA G)) G 3 [(0, .ref (m_b G + l0)), (1, .int l1)] 65 [] h := by
  unfold wp_Rm_faultOf_65 at hwp
  refine x_aload_n C0 0 d_Rm_faultOf_65 rfl rfl ?_
  refine x_iload_n C0 1 d_Rm_faultOf_66 rfl rfl ?_
  obtain ⟨g67, hwp⟩ := hwp
  refine x_callVi0 (k := l0) (As := [.int l1]) (st := []) C0 (c_Rm_pairRule l G hwp) kw_4_65 mk_Rm_pairRule vk_Rm_pairRule rfl g67 rfl (Nat.le_of_ble_eq_true rfl) rfl rfl ⟨Nat.le_trans (by decide) hR.1, Nat.le_trans (by decide) hR.2.1⟩ ⟨Nat.zero_le _, Nat.zero_le _⟩ rfl d_Rm_faultOf_67 (fun r67 h67 hwp => ?_)
  exact x_iret C0 hr hlk hwp d_Rm_faultOf_70
set_option maxRecDepth 100000 in
set_option maxHeartbeats 4000000 in
theorem t_Rm_faultOf_43 {p : Program} {l : Launch} {e : Env} {R : Room} {s : State} {m : MethodId} {args : Array Value} {below : List Frame} {meth : Method} {c : Code} (G : mG) (C0 : Cx G p s m args c prog_8_method_48_code 3 "BassRealiserModel") (hR : 4 ≤ R.frames ∧ 91 ≤ R.locals ∧ 0 ≤ R.cells ∧ 0 ≤ R.slots) (hr : meth.sig.returnType = some .int) (hlk : meth.locks = false) {Post : Int32 → MH → Prop} (l0 : Nat) (l1 : Int32) (h : MH) (hwp : wp_Rm_faultOf_43 Post l0 l1 h) : WG p l e R s m args below meth c 0 0 (MQ below (va_Qi Post (Wd G) (mA G)) args s 0 0 (mA G)) G 3 [(0, .ref (m_b G + l0)), (1, .int l1)] 43 [] h := by
  unfold wp_Rm_faultOf_43 at hwp
  refine x_iload_n C0 1 d_Rm_faultOf_43 rfl rfl ?_
  refine x_if_le (tgt := 65) C0 d_Rm_faultOf_44 (by decide) (fun c44 => ?_) (fun c44 => ?_)
  · replace hwp := hwp.1 c44
    exact x_sub [0, 1] rfl (t_Rm_faultOf_65 G C0 hR hr hlk  _ _ _ hwp)
  · replace hwp := hwp.2 c44
    refine x_aload_n C0 0 d_Rm_faultOf_47 rfl rfl ?_
    refine x_iload_n C0 1 d_Rm_faultOf_48 rfl rfl ?_
    refine x_iconst (v := 1) C0 d_Rm_faultOf_49 (by decide) ?_
    refine x_isub C0 d_Rm_faultOf_50 ?_
    refine x_aload_n C0 0 d_Rm_faultOf_51 rfl rfl ?_
    obtain ⟨x52, e52, hwp⟩ := hwp
    refine x_getR C0 fk_Rm_51 e52 d_Rm_faultOf_52 ?_
    obtain ⟨g55, hwp⟩ := hwp
    refine x_callVv0 (k := l0) (As := [.int (l1 - (1 : Int32)), .ref (m_b G + x52)]) (st := []) C0 (c_Rm_takeSung l G hwp) kw_4_119 mk_Rm_takeSung vk_Rm_takeSung rfl g55 rfl (Nat.le_of_ble_eq_true rfl) rfl rfl ⟨Nat.le_trans (by decide) hR.1, Nat.le_trans (by decide) hR.2.1⟩ ⟨Nat.zero_le _, Nat.zero_le _⟩ rfl d_Rm_faultOf_55 (fun h55 hwp => ?_)
    refine x_aload_n C0 0 d_Rm_faultOf_58 rfl rfl ?_
    refine x_iload_n C0 1 d_Rm_faultOf_59 rfl rfl ?_
    refine x_iconst (v := 1) C0 d_Rm_faultOf_60 (by decide) ?_
    refine x_isub C0 d_Rm_faultOf_61 ?_
    obtain ⟨g62, hwp⟩ := hwp
    refine x_callVv0 (k := l0) (As := [.int (l1 - (1 : Int32))]) (st := []) C0 (c_Rm_look l G hwp) kw_4_46 mk_Rm_look vk_Rm_look rfl g62 rfl (Nat.le_of_ble_eq_true rfl) rfl rfl ⟨Nat.le_trans (by decide) hR.1, Nat.le_trans (by decide) hR.2.1⟩ ⟨Nat.zero_le _, Nat.zero_le _⟩ rfl d_Rm_faultOf_62 (fun h62 hwp => ?_)
    exact x_sub [0, 1] rfl (t_Rm_faultOf_65 G C0 hR hr hlk  _ _ _ hwp)
set_option maxRecDepth 100000 in
set_option maxHeartbeats 4000000 in
theorem t_Rm_faultOf {p : Program} {l : Launch} {e : Env} {R : Room} {s : State} {m : MethodId} {args : Array Value} {below : List Frame} {meth : Method} {c : Code} (G : mG) (C0 : Cx G p s m args c prog_8_method_48_code 3 "BassRealiserModel") (hR : 4 ≤ R.frames ∧ 91 ≤ R.locals ∧ 0 ≤ R.cells ∧ 0 ≤ R.slots) (hr : meth.sig.returnType = some .int) (hlk : meth.locks = false) {Post : Int32 → MH → Prop} (l0 : Nat) (l1 : Int32) (h : MH) (hwp : wp_Rm_faultOf Post l0 l1 h) : WG p l e R s m args below meth c 0 0 (MQ below (va_Qi Post (Wd G) (mA G)) args s 0 0 (mA G)) G 3 [(0, .ref (m_b G + l0)), (1, .int l1)] 0 [] h := by
  unfold wp_Rm_faultOf at hwp
  refine x_aload_n C0 0 d_Rm_faultOf_0 rfl rfl ?_
  refine x_iload_n C0 1 d_Rm_faultOf_1 rfl rfl ?_
  refine x_aload_n C0 0 d_Rm_faultOf_2 rfl rfl ?_
  obtain ⟨x3, e3, hwp⟩ := hwp
  refine x_getR C0 fk_Rm_48 e3 d_Rm_faultOf_3 ?_
  obtain ⟨g6, hwp⟩ := hwp
  refine x_callVv0 (k := l0) (As := [.int l1, .ref (m_b G + x3)]) (st := []) C0 (c_Rm_takeSung l G hwp) kw_4_119 mk_Rm_takeSung vk_Rm_takeSung rfl g6 rfl (Nat.le_of_ble_eq_true rfl) rfl rfl ⟨Nat.le_trans (by decide) hR.1, Nat.le_trans (by decide) hR.2.1⟩ ⟨Nat.zero_le _, Nat.zero_le _⟩ rfl d_Rm_faultOf_6 (fun h6 hwp => ?_)
  refine x_aload_n C0 0 d_Rm_faultOf_9 rfl rfl ?_
  refine x_iload_n C0 1 d_Rm_faultOf_10 rfl rfl ?_
  obtain ⟨g11, hwp⟩ := hwp
  refine x_callVv0 (k := l0) (As := [.int l1]) (st := []) C0 (c_Rm_look l G hwp) kw_4_46 mk_Rm_look vk_Rm_look rfl g11 rfl (Nat.le_of_ble_eq_true rfl) rfl rfl ⟨Nat.le_trans (by decide) hR.1, Nat.le_trans (by decide) hR.2.1⟩ ⟨Nat.zero_le _, Nat.zero_le _⟩ rfl d_Rm_faultOf_11 (fun h11 hwp => ?_)
  refine x_aload_n C0 0 d_Rm_faultOf_14 rfl rfl ?_
  refine x_iload_n C0 1 d_Rm_faultOf_15 rfl rfl ?_
  obtain ⟨g16, hwp⟩ := hwp
  refine x_callVi0 (k := l0) (As := [.int l1]) (st := []) C0 (c_Rm_aloneRule l G hwp) kw_4_50 mk_Rm_aloneRule vk_Rm_aloneRule rfl g16 rfl (Nat.le_of_ble_eq_true rfl) rfl rfl ⟨Nat.le_trans (by decide) hR.1, Nat.le_trans (by decide) hR.2.1⟩ ⟨Nat.zero_le _, Nat.zero_le _⟩ rfl d_Rm_faultOf_16 (fun r16 h16 hwp => ?_)
  refine x_istore_n C0 d_Rm_faultOf_19 rfl (by decide) (lv' := [(2, .int r16), (0, .ref (m_b G + l0)), (1, .int l1)]) rfl ?_
  refine x_iload_n C0 0 d_Rm_faultOf_20 rfl rfl ?_
  refine x_if_le (tgt := 26) C0 d_Rm_faultOf_21 (by decide) (fun c21 => ?_) (fun c21 => ?_)
  · replace hwp := hwp.1 c21
    refine x_iload_n C0 2 d_Rm_faultOf_26 rfl rfl ?_
    refine x_if_le (tgt := 43) C0 d_Rm_faultOf_27 (by decide) (fun c27 => ?_) (fun c27 => ?_)
    · replace hwp := hwp.1 c27
      exact x_sub [1, 2] rfl (t_Rm_faultOf_43 G C0 hR hr hlk  _ _ _ hwp)
    · replace hwp := hwp.2 c27
      refine x_aload_n C0 1 d_Rm_faultOf_30 rfl rfl ?_
      obtain ⟨x31, e31, hwp⟩ := hwp
      refine x_getR C0 fk_Rm_44 e31 d_Rm_faultOf_31 ?_
      refine x_iload_n C0 2 d_Rm_faultOf_34 rfl rfl ?_
      refine x_iconst (v := 1) C0 d_Rm_faultOf_35 (by decide) ?_
      refine x_isub C0 d_Rm_faultOf_36 ?_
      obtain ⟨n37, f37, e37, i37, hwp⟩ := hwp
      refine x_zald C0 e37 i37 d_Rm_faultOf_37 ?_
      refine x_if_ne (tgt := 43) C0 d_Rm_faultOf_38 (by decide) (fun c38 => ?_) (fun c38 => ?_)
      · replace hwp := hwp.1 c38
        exact x_sub [1, 2] rfl (t_Rm_faultOf_43 G C0 hR hr hlk  _ _ _ hwp)
      · replace hwp := hwp.2 c38
        refine x_iconst (v := 0) C0 d_Rm_faultOf_41 (by decide) ?_
        exact x_iret C0 hr hlk hwp d_Rm_faultOf_42
  · replace hwp := hwp.2 c21
    refine x_iload_n C0 0 d_Rm_faultOf_24 rfl rfl ?_
    exact x_iret C0 hr hlk hwp d_Rm_faultOf_25
set_option maxRecDepth 100000 in
set_option maxHeartbeats 4000000 in
theorem c_Rm_faultOf (l : Launch) (G : mG) {Post : Int32 → MH → Prop} {l0 : Nat} {l1 : Int32} {h : MH} (hwp : wp_Rm_faultOf Post l0 l1 h) : Met l y_Rm_faultOf (Cond.code y_Rm_faultOf prog_8_method_48_code 3 (Option.some Jvm.ClassFile.FieldType.int) :: lw_good) ({ frames := 4, cells := 0, slots := 0, locals := 91 }) (va_Pc [.ref (m_b G + l0), .int l1] (Wd G h)) (va_Qi Post (Wd G) (mA G)) 0 0 (mA G) := by
  refine Met.ofW (cc := prog_8_method_48_code) (maxL := 3) (ret := (Option.some Jvm.ClassFile.FieldType.int)) (by decide +kernel) rfl ?_
  intro p e s m args below meth c s₁ B hml hv
  obtain ⟨rfl, hP, hz, hK, hSt⟩ := hv
  have hts := atoms_spec (ws := Cond.code y_Rm_faultOf prog_8_method_48_code 3 (Option.some Jvm.ClassFile.FieldType.int) :: lw_good) B.pre
  have C0 : Cx G p s m ([.ref (m_b G + l0), .int l1] : List Value).toArray c prog_8_method_48_code 3 "BassRealiserModel" := ⟨⟨B.exec, B.bytes, hml, findClass_of_methodNamed B.named, fun w h => hts w (List.mem_cons_of_mem _ h)⟩, hK, hSt, by rw [hz]; exact Nat.le_add_right _ _⟩
  have hl := lv_entry ([.ref (m_b G + l0), .int l1]) (n := 3) (Nat.le_of_ble_eq_true rfl)
  rw [lg_entry_eq]
  exact t_Rm_faultOf G C0 ⟨Nat.le_refl _, Nat.le_refl _, Nat.le_refl _, Nat.le_refl _⟩ B.returns B.notSynchronized _ _ _ hwp _ _ _ ⟨hP, hz, va_S.rf⟩ hl
def wp_Rm_fault (Post : Int32 → MH → Prop) (l0 : Nat) (l1 : Int32) (h : MH) : Prop :=
  (∃ o : MV, gF h l0 6 0 = some o) ∧ ∀ h2 : MH, h2 = fset h l0 0 (.inl (0 : Int32) : MV) →
  (gC h2 l0 = some 6 ∧ wp_Rm_noChord (fun (r7 : Int32) (h7 : MH) =>
      (((r7 = 0) →
          (∃ x18 : Nat, gF h7 l0 6 13 = some (.inr (some x18)) ∧
            (∃ (n22 : Nat) (f22 : Nat → Int32), gA h7 x18 1 = some (n22, f22) ∧ vp_in l1 n22 ∧
              ((((f22 (l1).toNatClampNeg) = 0) →
                  (Post (-2 : Int32) h7)) ∧
                ((¬ (f22 (l1).toNatClampNeg) = 0) →
                  (gC h7 l0 = some 6 ∧ wp_Rm_faultOf (fun (r28 : Int32) (h28 : MH) =>
                      (Post r28 h28)) l0 l1 h7)))))) ∧
        ((¬ r7 = 0) →
          (Post (-1 : Int32) h7)))) l0 l1 h2)
set_option maxRecDepth 100000 in
set_option maxHeartbeats 4000000 in
theorem t_Rm_fault {p : Program} {l : Launch} {e : Env} {R : Room} {s : State} {m : MethodId} {args : Array Value} {below : List Frame} {meth : Method} {c : Code} (G : mG) (C0 : Cx G p s m args c prog_8_method_49_code 2 "BassRealiserModel") (hR : 5 ≤ R.frames ∧ 113 ≤ R.locals ∧ 0 ≤ R.cells ∧ 0 ≤ R.slots) (hr : meth.sig.returnType = some .int) (hlk : meth.locks = false) {Post : Int32 → MH → Prop} (l0 : Nat) (l1 : Int32) (h : MH) (hwp : wp_Rm_fault Post l0 l1 h) : WG p l e R s m args below meth c 0 0 (MQ below (va_Qi Post (Wd G) (mA G)) args s 0 0 (mA G)) G 2 [(0, .ref (m_b G + l0)), (1, .int l1)] 0 [] h := by
  unfold wp_Rm_fault at hwp
  refine x_aload_n C0 0 d_Rm_fault_0 rfl rfl ?_
  refine x_iconst (v := 0) C0 d_Rm_fault_1 (by decide) ?_
  obtain ⟨⟨o2, e2⟩, hwp⟩ := hwp
  refine x_put (x := (.inl (0 : Int32) : MV)) C0 pk_Rm_1 e2 rfl rfl d_Rm_fault_2 ?_
  refine x_nh (fun h2 eh2 => ?_)
  replace hwp := hwp h2 eh2
  refine x_aload_n C0 0 d_Rm_fault_5 rfl rfl ?_
  refine x_iload_n C0 1 d_Rm_fault_6 rfl rfl ?_
  obtain ⟨g7, hwp⟩ := hwp
  refine x_callVi0 (k := l0) (As := [.int l1]) (st := []) C0 (c_Rm_noChord l G hwp) kw_3_191 mk_Rm_noChord vk_Rm_noChord rfl g7 rfl (Nat.le_of_ble_eq_true rfl) rfl rfl ⟨Nat.le_trans (by decide) hR.1, Nat.le_trans (by decide) hR.2.1⟩ ⟨Nat.zero_le _, Nat.zero_le _⟩ rfl d_Rm_fault_7 (fun r7 h7 hwp => ?_)
  refine x_if_eq (tgt := 17) C0 d_Rm_fault_10 (by decide) (fun c10 => ?_) (fun c10 => ?_)
  · replace hwp := hwp.1 c10
    refine x_aload_n C0 0 d_Rm_fault_17 rfl rfl ?_
    obtain ⟨x18, e18, hwp⟩ := hwp
    refine x_getR C0 fk_Rm_44 e18 d_Rm_fault_18 ?_
    refine x_iload_n C0 1 d_Rm_fault_21 rfl rfl ?_
    obtain ⟨n22, f22, e22, i22, hwp⟩ := hwp
    refine x_zald C0 e22 i22 d_Rm_fault_22 ?_
    refine x_if_eq (tgt := 34) C0 d_Rm_fault_23 (by decide) (fun c23 => ?_) (fun c23 => ?_)
    · replace hwp := hwp.1 c23
      refine x_bipush (v := -2) C0 d_Rm_fault_34 (by decide) ?_
      exact x_iret C0 hr hlk hwp d_Rm_fault_36
    · replace hwp := hwp.2 c23
      refine x_aload_n C0 0 d_Rm_fault_26 rfl rfl ?_
      refine x_iload_n C0 1 d_Rm_fault_27 rfl rfl ?_
      obtain ⟨g28, hwp⟩ := hwp
      refine x_callVi0 (k := l0) (As := [.int l1]) (st := []) C0 (c_Rm_faultOf l G hwp) kw_4_115 mk_Rm_faultOf vk_Rm_faultOf rfl g28 rfl (Nat.le_of_ble_eq_true rfl) rfl rfl ⟨Nat.le_trans (by decide) hR.1, Nat.le_trans (by decide) hR.2.1⟩ ⟨Nat.zero_le _, Nat.zero_le _⟩ rfl d_Rm_fault_28 (fun r28 h28 hwp => ?_)
      refine x_goto (tgt := 36) C0 d_Rm_fault_31 (by decide) ?_
      exact x_iret C0 hr hlk hwp d_Rm_fault_36
  · replace hwp := hwp.2 c10
    refine x_iconst (v := -1) C0 d_Rm_fault_13 (by decide) ?_
    refine x_goto (tgt := 36) C0 d_Rm_fault_14 (by decide) ?_
    exact x_iret C0 hr hlk hwp d_Rm_fault_36
set_option maxRecDepth 100000 in
set_option maxHeartbeats 4000000 in
theorem c_Rm_fault (l : Launch) (G : mG) {Post : Int32 → MH → Prop} {l0 : Nat} {l1 : Int32} {h : MH} (hwp : wp_Rm_fault Post l0 l1 h) : Met l y_Rm_fault (Cond.code y_Rm_fault prog_8_method_49_code 2 (Option.some Jvm.ClassFile.FieldType.int) :: lw_good) ({ frames := 5, cells := 0, slots := 0, locals := 113 }) (va_Pc [.ref (m_b G + l0), .int l1] (Wd G h)) (va_Qi Post (Wd G) (mA G)) 0 0 (mA G) := by
  refine Met.ofW (cc := prog_8_method_49_code) (maxL := 2) (ret := (Option.some Jvm.ClassFile.FieldType.int)) (by decide +kernel) rfl ?_
  intro p e s m args below meth c s₁ B hml hv
  obtain ⟨rfl, hP, hz, hK, hSt⟩ := hv
  have hts := atoms_spec (ws := Cond.code y_Rm_fault prog_8_method_49_code 2 (Option.some Jvm.ClassFile.FieldType.int) :: lw_good) B.pre
  have C0 : Cx G p s m ([.ref (m_b G + l0), .int l1] : List Value).toArray c prog_8_method_49_code 2 "BassRealiserModel" := ⟨⟨B.exec, B.bytes, hml, findClass_of_methodNamed B.named, fun w h => hts w (List.mem_cons_of_mem _ h)⟩, hK, hSt, by rw [hz]; exact Nat.le_add_right _ _⟩
  have hl := lv_entry ([.ref (m_b G + l0), .int l1]) (n := 2) (Nat.le_of_ble_eq_true rfl)
  rw [lg_entry_eq]
  exact t_Rm_fault G C0 ⟨Nat.le_refl _, Nat.le_refl _, Nat.le_refl _, Nat.le_refl _⟩ B.returns B.notSynchronized _ _ _ hwp _ _ _ ⟨hP, hz, va_S.rf⟩ hl
def wp_Br_sung_72 (K14 : Nat → Int32 → Int32 → MH → Prop) (Post : Int32 → MH → Prop) (l0 : Nat) (l2 : Int32) (y0 : Int32) (y1 : Int32) (h : MH) : Prop :=
  ∀ z73 : Int32, z73 = y0 + y1 →
  (K14 l0 z73 (l2 + (1 : Int32)) h)
def wb_Br_sung_14 (K14 : Nat → Int32 → Int32 → MH → Prop) (Post : Int32 → MH → Prop) (l0 : Nat) (l1 : Int32) (l2 : Int32) (h : MH) : Prop :=
  ∃ x16 : Int32, gF h l0 5 4 = some (.inl x16) ∧
  (((x16 ≤ l2) →
      (Post l1 h)) ∧
    ((¬ x16 ≤ l2) →
      (∃ x23 : Nat, gF h l0 5 1 = some (.inr (some x23)) ∧
        (∃ (n27 : Nat) (f27 : Nat → Option Nat) (q27 : Nat), gR h x23 3 = some (n27, f27) ∧ vp_in l2 n27 ∧ f27 (l2).toNatClampNeg = some q27 ∧
          (∃ x28 : Int32, gF h q27 0 6 = some (.inl x28) ∧
            (((x28 = (-1 : Int32)) →
                (Post (-2 : Int32) h)) ∧
              ((¬ x28 = (-1 : Int32)) →
                (gC h l0 = some 5 ∧ wp_Br_faultAt (fun (r39 : Int32) (h39 : MH) =>
                    (((r39 = 0) →
                        (((¬ l2 = 0) →
                        (gC h39 l0 = some 5 ∧ wp_Br_moveTo (fun (r66 : Nat) (h66 : MH) =>
                        (gC h66 r66 = some 2 ∧ wp_Mv_length (fun (r69 : Int32) (h69 : MH) =>
                        (wp_Br_sung_72 K14 Post l0 l2 l1 r69 h69)) r66 h66)) l0 l2 h39)) ∧
                        ((l2 = 0) →
                        (∃ x54 : Nat, gF h39 l0 5 2 = some (.inr (some x54)) ∧
                        (gC h39 x54 = some 3 ∧ wp_Ru_farFromHome (fun (r58 : Int32) (h58 : MH) =>
                        (wp_Br_sung_72 K14 Post l0 l2 l1 r58 h58)) x54 x28 h39))))) ∧
                      ((¬ r39 = 0) →
                        (Post (-2 : Int32) h39)))) l0 l2 h))))))))
def wn_Br_sung_14 (Post : Int32 → MH → Prop) : Nat → Nat → Int32 → Int32 → MH → Prop
  | 0 => fun _ _ _ _ => False
  | n + 1 => wb_Br_sung_14 (wn_Br_sung_14 Post n) Post
def wp_Br_sung_14 (Post : Int32 → MH → Prop) (l0 : Nat) (l1 : Int32) (l2 : Int32) (h : MH) : Prop := ∃ n, wn_Br_sung_14 Post n l0 l1 l2 h
def wp_Br_sung (Post : Int32 → MH → Prop) (l0 : Nat) (h : MH) : Prop :=
  ∃ x1 : Int32, gF h l0 5 4 = some (.inl x1) ∧
  (((¬ x1 = 0) →
      (wp_Br_sung_14 Post l0 (0 : Int32) (0 : Int32) h)) ∧
    ((x1 = 0) →
      (Post (-2 : Int32) h)))
set_option maxRecDepth 100000 in
set_option maxHeartbeats 4000000 in
theorem t_Br_sung_72 {p : Program} {l : Launch} {e : Env} {R : Room} {s : State} {m : MethodId} {args : Array Value} {below : List Frame} {meth : Method} {c : Code} (G : mG) (C0 : Cx G p s m args c prog_1_method_20_code 4 "BassRealiser") (hR : 4 ≤ R.frames ∧ 97 ≤ R.locals ∧ 0 ≤ R.cells ∧ 0 ≤ R.slots) (hr : meth.sig.returnType = some .int) (hlk : meth.locks = false) {Post : Int32 → MH → Prop} {K14 : Nat → Int32 → Int32 → MH → Prop} (hK14 : ∀ (l0 : Nat) (l1 : Int32) (l2 : Int32) (h : MH), K14 l0 l1 l2 h → WG p l e R s m args below meth c 0 0 (MQ below (va_Qi Post (Wd G) (mA G)) args s 0 0 (mA G)) G 4 [(0, .ref (m_b G + l0)), (1, .int l1), (2, .int l2)] 14 [] h) (l0 : Nat) (l2 : Int32) (y0 : Int32) (y1 : Int32) (h : MH) (hwp : wp_Br_sung_72 K14 Post l0 l2 y0 y1 h) : WG p l e R s m args below meth c 0 0 (MQ below (va_Qi Post (Wd G) (mA G)) args s 0 0 (mA G)) G 4 [(0, .ref (m_b G + l0)), (2, .int l2)] 72 [.int y1, .int y0] h := by
  unfold wp_Br_sung_72 at hwp
  refine x_iadd C0 d_Br_sung_72 ?_
  refine x_topI (fun z73 e73 => ?_)
  replace hwp := hwp z73 e73
  refine x_istore_n C0 d_Br_sung_73 rfl (by decide) (lv' := [(1, .int z73), (0, .ref (m_b G + l0)), (2, .int l2)]) rfl ?_
  refine x_iinc C0 2 d_Br_sung_74 rfl rfl (by decide) (lv' := [(2, .int (l2 + (1 : Int32))), (1, .int z73), (0, .ref (m_b G + l0))]) rfl ?_
  refine x_goto (tgt := 14) C0 d_Br_sung_77 (by decide) ?_
  exact x_sub [2, 1, 0] rfl (hK14 _ _ _ _ hwp)
set_option maxRecDepth 100000 in
set_option maxHeartbeats 4000000 in
theorem tb_Br_sung_14 {p : Program} {l : Launch} {e : Env} {R : Room} {s : State} {m : MethodId} {args : Array Value} {below : List Frame} {meth : Method} {c : Code} (G : mG) (C0 : Cx G p s m args c prog_1_method_20_code 4 "BassRealiser") (hR : 4 ≤ R.frames ∧ 97 ≤ R.locals ∧ 0 ≤ R.cells ∧ 0 ≤ R.slots) (hr : meth.sig.returnType = some .int) (hlk : meth.locks = false) {Post : Int32 → MH → Prop} {K14 : Nat → Int32 → Int32 → MH → Prop} (hK14 : ∀ (l0 : Nat) (l1 : Int32) (l2 : Int32) (h : MH), K14 l0 l1 l2 h → WG p l e R s m args below meth c 0 0 (MQ below (va_Qi Post (Wd G) (mA G)) args s 0 0 (mA G)) G 4 [(0, .ref (m_b G + l0)), (1, .int l1), (2, .int l2)] 14 [] h) (l0 : Nat) (l1 : Int32) (l2 : Int32) (h : MH) (hwp : wb_Br_sung_14 K14 Post l0 l1 l2 h) : WG p l e R s m args below meth c 0 0 (MQ below (va_Qi Post (Wd G) (mA G)) args s 0 0 (mA G)) G 4 [(0, .ref (m_b G + l0)), (1, .int l1), (2, .int l2)] 14 [] h := by
  unfold wb_Br_sung_14 at hwp
  refine x_iload_n C0 2 d_Br_sung_14 rfl rfl ?_
  refine x_aload_n C0 0 d_Br_sung_15 rfl rfl ?_
  obtain ⟨x16, e16, hwp⟩ := hwp
  refine x_getI C0 fk_Br_33 e16 d_Br_sung_16 ?_
  refine x_icmp_ge (tgt := 80) C0 d_Br_sung_19 (by decide) (fun c19 => ?_) (fun c19 => ?_)
  · replace hwp := hwp.1 c19
    refine x_iload_n C0 1 d_Br_sung_80 rfl rfl ?_
    exact x_iret C0 hr hlk hwp d_Br_sung_81
  · replace hwp := hwp.2 c19
    refine x_aload_n C0 0 d_Br_sung_22 rfl rfl ?_
    obtain ⟨x23, e23, hwp⟩ := hwp
    refine x_getR C0 fk_Br_20 e23 d_Br_sung_23 ?_
    refine x_iload_n C0 2 d_Br_sung_26 rfl rfl ?_
    obtain ⟨n27, f27, q27, e27, i27, g27, hwp⟩ := hwp
    refine x_aald (t := 3) C0 e27 rfl i27 g27 d_Br_sung_27 ?_
    obtain ⟨x28, e28, hwp⟩ := hwp
    refine x_getI C0 fk_Br_155 e28 d_Br_sung_28 ?_
    refine x_istore_n C0 d_Br_sung_31 rfl (by decide) (lv' := [(3, .int x28), (0, .ref (m_b G + l0)), (1, .int l1), (2, .int l2)]) rfl ?_
    refine x_iload_n C0 0 d_Br_sung_32 rfl rfl ?_
    refine x_iconst (v := -1) C0 d_Br_sung_33 (by decide) ?_
    refine x_icmp_eq (tgt := 45) C0 d_Br_sung_34 (by decide) (fun c34 => ?_) (fun c34 => ?_)
    · replace hwp := hwp.1 c34
      refine x_bipush (v := -2) C0 d_Br_sung_45 (by decide) ?_
      exact x_iret C0 hr hlk hwp d_Br_sung_47
    · replace hwp := hwp.2 c34
      refine x_aload_n C0 1 d_Br_sung_37 rfl rfl ?_
      refine x_iload_n C0 3 d_Br_sung_38 rfl rfl ?_
      obtain ⟨g39, hwp⟩ := hwp
      refine x_callVi0 (k := l0) (As := [.int l2]) (st := []) C0 (c_Br_faultAt l G hwp) kw_3_46 mk_Br_faultAt vk_Br_faultAt rfl g39 rfl (Nat.le_of_ble_eq_true rfl) rfl rfl ⟨Nat.le_trans (by decide) hR.1, Nat.le_trans (by decide) hR.2.1⟩ ⟨Nat.zero_le _, Nat.zero_le _⟩ rfl d_Br_sung_39 (fun r39 h39 hwp => ?_)
      refine x_if_eq (tgt := 48) C0 d_Br_sung_42 (by decide) (fun c42 => ?_) (fun c42 => ?_)
      · replace hwp := hwp.1 c42
        refine x_iload_n C0 2 d_Br_sung_48 rfl rfl ?_
        refine x_iload_n C0 3 d_Br_sung_49 rfl rfl ?_
        refine x_if_ne (tgt := 64) C0 d_Br_sung_50 (by decide) (fun c50 => ?_) (fun c50 => ?_)
        · replace hwp := hwp.1 c50
          refine x_aload_n C0 1 d_Br_sung_64 rfl rfl ?_
          refine x_iload_n C0 3 d_Br_sung_65 rfl rfl ?_
          obtain ⟨g66, hwp⟩ := hwp
          refine x_callVr0 (k := l0) (As := [.int l2]) (st := [.int l1]) C0 (c_Br_moveTo l G hwp) kw_3_52 mk_Br_moveTo vk_Br_moveTo rfl g66 rfl (Nat.le_of_ble_eq_true rfl) rfl rfl ⟨Nat.le_trans (by decide) hR.1, Nat.le_trans (by decide) hR.2.1⟩ ⟨Nat.zero_le _, Nat.zero_le _⟩ rfl d_Br_sung_66 (fun r66 h66 hwp => ?_)
          obtain ⟨g69, hwp⟩ := hwp
          refine x_callVi0 (k := r66) (As := []) (st := [.int l1]) C0 (c_Mv_length l G hwp) kw_3_64 mk_Mv_length vk_Mv_length rfl g69 rfl (Nat.le_of_ble_eq_true rfl) rfl rfl ⟨Nat.le_trans (by decide) hR.1, Nat.le_trans (by decide) hR.2.1⟩ ⟨Nat.zero_le _, Nat.zero_le _⟩ rfl d_Br_sung_69 (fun r69 h69 hwp => ?_)
          exact x_sub [1, 3] rfl (t_Br_sung_72 G C0 hR hr hlk hK14 _ _ _ _ _ hwp)
        · replace hwp := hwp.2 c50
          refine x_aload_n C0 1 d_Br_sung_53 rfl rfl ?_
          obtain ⟨x54, e54, hwp⟩ := hwp
          refine x_getR C0 fk_Br_25 e54 d_Br_sung_54 ?_
          refine x_iload_n C0 0 d_Br_sung_57 rfl rfl ?_
          obtain ⟨g58, hwp⟩ := hwp
          refine x_callVi0 (k := x54) (As := [.int x28]) (st := [.int l1]) C0 (c_Ru_farFromHome l G hwp) kw_3_63 mk_Ru_farFromHome vk_Ru_farFromHome rfl g58 rfl (Nat.le_of_ble_eq_true rfl) rfl rfl ⟨Nat.le_trans (by decide) hR.1, Nat.le_trans (by decide) hR.2.1⟩ ⟨Nat.zero_le _, Nat.zero_le _⟩ rfl d_Br_sung_58 (fun r58 h58 hwp => ?_)
          refine x_goto (tgt := 72) C0 d_Br_sung_61 (by decide) ?_
          exact x_sub [1, 3] rfl (t_Br_sung_72 G C0 hR hr hlk hK14 _ _ _ _ _ hwp)
      · replace hwp := hwp.2 c42
        refine x_bipush (v := -2) C0 d_Br_sung_45 (by decide) ?_
        exact x_iret C0 hr hlk hwp d_Br_sung_47
theorem t_Br_sung_14 {p : Program} {l : Launch} {e : Env} {R : Room} {s : State} {m : MethodId} {args : Array Value} {below : List Frame} {meth : Method} {c : Code} (G : mG) (C0 : Cx G p s m args c prog_1_method_20_code 4 "BassRealiser") (hR : 4 ≤ R.frames ∧ 97 ≤ R.locals ∧ 0 ≤ R.cells ∧ 0 ≤ R.slots) (hr : meth.sig.returnType = some .int) (hlk : meth.locks = false) {Post : Int32 → MH → Prop} (l0 : Nat) (l1 : Int32) (l2 : Int32) (h : MH) (hwp : wp_Br_sung_14 Post l0 l1 l2 h) : WG p l e R s m args below meth c 0 0 (MQ below (va_Qi Post (Wd G) (mA G)) args s 0 0 (mA G)) G 4 [(0, .ref (m_b G + l0)), (1, .int l1), (2, .int l2)] 14 [] h := by
  obtain ⟨n, hwp⟩ := hwp
  induction n generalizing l0 l1 l2 h with
  | zero => exact False.elim hwp
  | succ n ih => exact tb_Br_sung_14 G C0 hR hr hlk (fun l0 l1 l2 h hwp => ih l0 l1 l2 h hwp) l0 l1 l2 h hwp
set_option maxRecDepth 100000 in
set_option maxHeartbeats 4000000 in
theorem t_Br_sung {p : Program} {l : Launch} {e : Env} {R : Room} {s : State} {m : MethodId} {args : Array Value} {below : List Frame} {meth : Method} {c : Code} (G : mG) (C0 : Cx G p s m args c prog_1_method_20_code 4 "BassRealiser") (hR : 4 ≤ R.frames ∧ 97 ≤ R.locals ∧ 0 ≤ R.cells ∧ 0 ≤ R.slots) (hr : meth.sig.returnType = some .int) (hlk : meth.locks = false) {Post : Int32 → MH → Prop} (l0 : Nat) (h : MH) (hwp : wp_Br_sung Post l0 h) : WG p l e R s m args below meth c 0 0 (MQ below (va_Qi Post (Wd G) (mA G)) args s 0 0 (mA G)) G 4 [(0, .ref (m_b G + l0))] 0 [] h := by
  unfold wp_Br_sung at hwp
  refine x_aload_n C0 0 d_Br_sung_0 rfl rfl ?_
  obtain ⟨x1, e1, hwp⟩ := hwp
  refine x_getI C0 fk_Br_33 e1 d_Br_sung_1 ?_
  refine x_if_ne (tgt := 10) C0 d_Br_sung_4 (by decide) (fun c4 => ?_) (fun c4 => ?_)
  · replace hwp := hwp.1 c4
    refine x_iconst (v := 0) C0 d_Br_sung_10 (by decide) ?_
    refine x_istore_n C0 d_Br_sung_11 rfl (by decide) (lv' := [(1, .int (0 : Int32)), (0, .ref (m_b G + l0))]) rfl ?_
    refine x_iconst (v := 0) C0 d_Br_sung_12 (by decide) ?_
    refine x_istore_n C0 d_Br_sung_13 rfl (by decide) (lv' := [(2, .int (0 : Int32)), (1, .int (0 : Int32)), (0, .ref (m_b G + l0))]) rfl ?_
    exact x_sub [2, 1, 0] rfl (t_Br_sung_14 G C0 hR hr hlk  _ _ _ _ hwp)
  · replace hwp := hwp.2 c4
    refine x_bipush (v := -2) C0 d_Br_sung_7 (by decide) ?_
    exact x_iret C0 hr hlk hwp d_Br_sung_9
set_option maxRecDepth 100000 in
set_option maxHeartbeats 4000000 in
theorem c_Br_sung (l : Launch) (G : mG) {Post : Int32 → MH → Prop} {l0 : Nat} {h : MH} (hwp : wp_Br_sung Post l0 h) : Met l y_Br_sung (Cond.code y_Br_sung prog_1_method_20_code 4 (Option.some Jvm.ClassFile.FieldType.int) :: lw_good) ({ frames := 4, cells := 0, slots := 0, locals := 97 }) (va_Pc [.ref (m_b G + l0)] (Wd G h)) (va_Qi Post (Wd G) (mA G)) 0 0 (mA G) := by
  refine Met.ofW (cc := prog_1_method_20_code) (maxL := 4) (ret := (Option.some Jvm.ClassFile.FieldType.int)) (by decide +kernel) rfl ?_
  intro p e s m args below meth c s₁ B hml hv
  obtain ⟨rfl, hP, hz, hK, hSt⟩ := hv
  have hts := atoms_spec (ws := Cond.code y_Br_sung prog_1_method_20_code 4 (Option.some Jvm.ClassFile.FieldType.int) :: lw_good) B.pre
  have C0 : Cx G p s m ([.ref (m_b G + l0)] : List Value).toArray c prog_1_method_20_code 4 "BassRealiser" := ⟨⟨B.exec, B.bytes, hml, findClass_of_methodNamed B.named, fun w h => hts w (List.mem_cons_of_mem _ h)⟩, hK, hSt, by rw [hz]; exact Nat.le_add_right _ _⟩
  have hl := lv_entry ([.ref (m_b G + l0)]) (n := 4) (Nat.le_of_ble_eq_true rfl)
  rw [lg_entry_eq]
  exact t_Br_sung G C0 ⟨Nat.le_refl _, Nat.le_refl _, Nat.le_refl _, Nat.le_refl _⟩ B.returns B.notSynchronized _ _ hwp _ _ _ ⟨hP, hz, va_S.rf⟩ hl
def wb_Rm_sung_9 (K9 : Nat → Int32 → Int32 → MH → Prop) (Post : Int32 → MH → Prop) (l0 : Nat) (l1 : Int32) (l2 : Int32) (h : MH) : Prop :=
  ∃ x11 : Int32, gF h l0 6 2 = some (.inl x11) ∧
  (((x11 ≤ l2) →
      (∃ x52 : Int32, gF h l0 6 2 = some (.inl x52) ∧
        (((¬ x52 = 0) →
            (Post l1 h)) ∧
          ((x52 = 0) →
            (Post (-2 : Int32) h))))) ∧
    ((¬ x11 ≤ l2) →
      (∃ x18 : Nat, gF h l0 6 13 = some (.inr (some x18)) ∧
        (∃ (n22 : Nat) (f22 : Nat → Int32), gA h x18 1 = some (n22, f22) ∧ vp_in l2 n22 ∧
          ((((f22 (l2).toNatClampNeg) = 0) →
              (Post (-2 : Int32) h)) ∧
            ((¬ (f22 (l2).toNatClampNeg) = 0) →
              (gC h l0 = some 6 ∧ wp_Rm_faultOf (fun (r28 : Int32) (h28 : MH) =>
                  (((r28 ≤ 0) →
                      (gC h28 l0 = some 6 ∧ wp_Rm_cost (fun (r40 : Int32) (h40 : MH) =>
                        (∀ z44 : Int32, z44 = l1 + r40 →
                        (K9 l0 z44 (l2 + (1 : Int32)) h40))) l0 l2 h28)) ∧
                    ((¬ r28 ≤ 0) →
                      (Post (-2 : Int32) h28)))) l0 l2 h)))))))
def wn_Rm_sung_9 (Post : Int32 → MH → Prop) : Nat → Nat → Int32 → Int32 → MH → Prop
  | 0 => fun _ _ _ _ => False
  | n + 1 => wb_Rm_sung_9 (wn_Rm_sung_9 Post n) Post
def wp_Rm_sung_9 (Post : Int32 → MH → Prop) (l0 : Nat) (l1 : Int32) (l2 : Int32) (h : MH) : Prop := ∃ n, wn_Rm_sung_9 Post n l0 l1 l2 h
def wp_Rm_sung (Post : Int32 → MH → Prop) (l0 : Nat) (h : MH) : Prop :=
  (∃ o : MV, gF h l0 6 0 = some o) ∧ ∀ h2 : MH, h2 = fset h l0 0 (.inl (0 : Int32) : MV) →
  (wp_Rm_sung_9 Post l0 (0 : Int32) (0 : Int32) h2)
set_option maxRecDepth 100000 in
set_option maxHeartbeats 4000000 in
theorem tb_Rm_sung_9 {p : Program} {l : Launch} {e : Env} {R : Room} {s : State} {m : MethodId} {args : Array Value} {below : List Frame} {meth : Method} {c : Code} (G : mG) (C0 : Cx G p s m args c prog_8_method_50_code 3 "BassRealiserModel") (hR : 5 ≤ R.frames ∧ 113 ≤ R.locals ∧ 0 ≤ R.cells ∧ 0 ≤ R.slots) (hr : meth.sig.returnType = some .int) (hlk : meth.locks = false) {Post : Int32 → MH → Prop} {K9 : Nat → Int32 → Int32 → MH → Prop} (hK9 : ∀ (l0 : Nat) (l1 : Int32) (l2 : Int32) (h : MH), K9 l0 l1 l2 h → WG p l e R s m args below meth c 0 0 (MQ below (va_Qi Post (Wd G) (mA G)) args s 0 0 (mA G)) G 3 [(0, .ref (m_b G + l0)), (1, .int l1), (2, .int l2)] 9 [] h) (l0 : Nat) (l1 : Int32) (l2 : Int32) (h : MH) (hwp : wb_Rm_sung_9 K9 Post l0 l1 l2 h) : WG p l e R s m args below meth c 0 0 (MQ below (va_Qi Post (Wd G) (mA G)) args s 0 0 (mA G)) G 3 [(0, .ref (m_b G + l0)), (1, .int l1), (2, .int l2)] 9 [] h := by
  unfold wb_Rm_sung_9 at hwp
  refine x_iload_n C0 2 d_Rm_sung_9 rfl rfl ?_
  refine x_aload_n C0 0 d_Rm_sung_10 rfl rfl ?_
  obtain ⟨x11, e11, hwp⟩ := hwp
  refine x_getI C0 fk_Rm_79 e11 d_Rm_sung_11 ?_
  refine x_icmp_ge (tgt := 51) C0 d_Rm_sung_14 (by decide) (fun c14 => ?_) (fun c14 => ?_)
  · replace hwp := hwp.1 c14
    refine x_aload_n C0 0 d_Rm_sung_51 rfl rfl ?_
    obtain ⟨x52, e52, hwp⟩ := hwp
    refine x_getI C0 fk_Rm_79 e52 d_Rm_sung_52 ?_
    refine x_if_ne (tgt := 63) C0 d_Rm_sung_55 (by decide) (fun c55 => ?_) (fun c55 => ?_)
    · replace hwp := hwp.1 c55
      refine x_iload_n C0 1 d_Rm_sung_63 rfl rfl ?_
      exact x_iret C0 hr hlk hwp d_Rm_sung_64
    · replace hwp := hwp.2 c55
      refine x_bipush (v := -2) C0 d_Rm_sung_58 (by decide) ?_
      refine x_goto (tgt := 64) C0 d_Rm_sung_60 (by decide) ?_
      exact x_iret C0 hr hlk hwp d_Rm_sung_64
  · replace hwp := hwp.2 c14
    refine x_aload_n C0 0 d_Rm_sung_17 rfl rfl ?_
    obtain ⟨x18, e18, hwp⟩ := hwp
    refine x_getR C0 fk_Rm_44 e18 d_Rm_sung_18 ?_
    refine x_iload_n C0 2 d_Rm_sung_21 rfl rfl ?_
    obtain ⟨n22, f22, e22, i22, hwp⟩ := hwp
    refine x_zald C0 e22 i22 d_Rm_sung_22 ?_
    refine x_if_eq (tgt := 34) C0 d_Rm_sung_23 (by decide) (fun c23 => ?_) (fun c23 => ?_)
    · replace hwp := hwp.1 c23
      refine x_bipush (v := -2) C0 d_Rm_sung_34 (by decide) ?_
      exact x_iret C0 hr hlk hwp d_Rm_sung_36
    · replace hwp := hwp.2 c23
      refine x_aload_n C0 0 d_Rm_sung_26 rfl rfl ?_
      refine x_iload_n C0 2 d_Rm_sung_27 rfl rfl ?_
      obtain ⟨g28, hwp⟩ := hwp
      refine x_callVi0 (k := l0) (As := [.int l2]) (st := []) C0 (c_Rm_faultOf l G hwp) kw_4_115 mk_Rm_faultOf vk_Rm_faultOf rfl g28 rfl (Nat.le_of_ble_eq_true rfl) rfl rfl ⟨Nat.le_trans (by decide) hR.1, Nat.le_trans (by decide) hR.2.1⟩ ⟨Nat.zero_le _, Nat.zero_le _⟩ rfl d_Rm_sung_28 (fun r28 h28 hwp => ?_)
      refine x_if_le (tgt := 37) C0 d_Rm_sung_31 (by decide) (fun c31 => ?_) (fun c31 => ?_)
      · replace hwp := hwp.1 c31
        refine x_iload_n C0 1 d_Rm_sung_37 rfl rfl ?_
        refine x_aload_n C0 0 d_Rm_sung_38 rfl rfl ?_
        refine x_iload_n C0 2 d_Rm_sung_39 rfl rfl ?_
        obtain ⟨g40, hwp⟩ := hwp
        refine x_callVi0 (k := l0) (As := [.int l2]) (st := [.int l1]) C0 (c_Rm_cost l G hwp) kw_4_82 mk_Rm_cost vk_Rm_cost rfl g40 rfl (Nat.le_of_ble_eq_true rfl) rfl rfl ⟨Nat.le_trans (by decide) hR.1, Nat.le_trans (by decide) hR.2.1⟩ ⟨Nat.zero_le _, Nat.zero_le _⟩ rfl d_Rm_sung_40 (fun r40 h40 hwp => ?_)
        refine x_iadd C0 d_Rm_sung_43 ?_
        refine x_topI (fun z44 e44 => ?_)
        replace hwp := hwp z44 e44
        refine x_istore_n C0 d_Rm_sung_44 rfl (by decide) (lv' := [(1, .int z44), (0, .ref (m_b G + l0)), (2, .int l2)]) rfl ?_
        refine x_iinc C0 2 d_Rm_sung_45 rfl rfl (by decide) (lv' := [(2, .int (l2 + (1 : Int32))), (1, .int z44), (0, .ref (m_b G + l0))]) rfl ?_
        refine x_goto (tgt := 9) C0 d_Rm_sung_48 (by decide) ?_
        exact x_sub [2, 1, 0] rfl (hK9 _ _ _ _ hwp)
      · replace hwp := hwp.2 c31
        refine x_bipush (v := -2) C0 d_Rm_sung_34 (by decide) ?_
        exact x_iret C0 hr hlk hwp d_Rm_sung_36
theorem t_Rm_sung_9 {p : Program} {l : Launch} {e : Env} {R : Room} {s : State} {m : MethodId} {args : Array Value} {below : List Frame} {meth : Method} {c : Code} (G : mG) (C0 : Cx G p s m args c prog_8_method_50_code 3 "BassRealiserModel") (hR : 5 ≤ R.frames ∧ 113 ≤ R.locals ∧ 0 ≤ R.cells ∧ 0 ≤ R.slots) (hr : meth.sig.returnType = some .int) (hlk : meth.locks = false) {Post : Int32 → MH → Prop} (l0 : Nat) (l1 : Int32) (l2 : Int32) (h : MH) (hwp : wp_Rm_sung_9 Post l0 l1 l2 h) : WG p l e R s m args below meth c 0 0 (MQ below (va_Qi Post (Wd G) (mA G)) args s 0 0 (mA G)) G 3 [(0, .ref (m_b G + l0)), (1, .int l1), (2, .int l2)] 9 [] h := by
  obtain ⟨n, hwp⟩ := hwp
  induction n generalizing l0 l1 l2 h with
  | zero => exact False.elim hwp
  | succ n ih => exact tb_Rm_sung_9 G C0 hR hr hlk (fun l0 l1 l2 h hwp => ih l0 l1 l2 h hwp) l0 l1 l2 h hwp
set_option maxRecDepth 100000 in
set_option maxHeartbeats 4000000 in
theorem t_Rm_sung {p : Program} {l : Launch} {e : Env} {R : Room} {s : State} {m : MethodId} {args : Array Value} {below : List Frame} {meth : Method} {c : Code} (G : mG) (C0 : Cx G p s m args c prog_8_method_50_code 3 "BassRealiserModel") (hR : 5 ≤ R.frames ∧ 113 ≤ R.locals ∧ 0 ≤ R.cells ∧ 0 ≤ R.slots) (hr : meth.sig.returnType = some .int) (hlk : meth.locks = false) {Post : Int32 → MH → Prop} (l0 : Nat) (h : MH) (hwp : wp_Rm_sung Post l0 h) : WG p l e R s m args below meth c 0 0 (MQ below (va_Qi Post (Wd G) (mA G)) args s 0 0 (mA G)) G 3 [(0, .ref (m_b G + l0))] 0 [] h := by
  unfold wp_Rm_sung at hwp
  refine x_aload_n C0 0 d_Rm_sung_0 rfl rfl ?_
  refine x_iconst (v := 0) C0 d_Rm_sung_1 (by decide) ?_
  obtain ⟨⟨o2, e2⟩, hwp⟩ := hwp
  refine x_put (x := (.inl (0 : Int32) : MV)) C0 pk_Rm_1 e2 rfl rfl d_Rm_sung_2 ?_
  refine x_nh (fun h2 eh2 => ?_)
  replace hwp := hwp h2 eh2
  refine x_iconst (v := 0) C0 d_Rm_sung_5 (by decide) ?_
  refine x_istore_n C0 d_Rm_sung_6 rfl (by decide) (lv' := [(1, .int (0 : Int32)), (0, .ref (m_b G + l0))]) rfl ?_
  refine x_iconst (v := 0) C0 d_Rm_sung_7 (by decide) ?_
  refine x_istore_n C0 d_Rm_sung_8 rfl (by decide) (lv' := [(2, .int (0 : Int32)), (1, .int (0 : Int32)), (0, .ref (m_b G + l0))]) rfl ?_
  exact x_sub [2, 1, 0] rfl (t_Rm_sung_9 G C0 hR hr hlk  _ _ _ _ hwp)
set_option maxRecDepth 100000 in
set_option maxHeartbeats 4000000 in
theorem c_Rm_sung (l : Launch) (G : mG) {Post : Int32 → MH → Prop} {l0 : Nat} {h : MH} (hwp : wp_Rm_sung Post l0 h) : Met l y_Rm_sung (Cond.code y_Rm_sung prog_8_method_50_code 3 (Option.some Jvm.ClassFile.FieldType.int) :: lw_good) ({ frames := 5, cells := 0, slots := 0, locals := 113 }) (va_Pc [.ref (m_b G + l0)] (Wd G h)) (va_Qi Post (Wd G) (mA G)) 0 0 (mA G) := by
  refine Met.ofW (cc := prog_8_method_50_code) (maxL := 3) (ret := (Option.some Jvm.ClassFile.FieldType.int)) (by decide +kernel) rfl ?_
  intro p e s m args below meth c s₁ B hml hv
  obtain ⟨rfl, hP, hz, hK, hSt⟩ := hv
  have hts := atoms_spec (ws := Cond.code y_Rm_sung prog_8_method_50_code 3 (Option.some Jvm.ClassFile.FieldType.int) :: lw_good) B.pre
  have C0 : Cx G p s m ([.ref (m_b G + l0)] : List Value).toArray c prog_8_method_50_code 3 "BassRealiserModel" := ⟨⟨B.exec, B.bytes, hml, findClass_of_methodNamed B.named, fun w h => hts w (List.mem_cons_of_mem _ h)⟩, hK, hSt, by rw [hz]; exact Nat.le_add_right _ _⟩
  have hl := lv_entry ([.ref (m_b G + l0)]) (n := 3) (Nat.le_of_ble_eq_true rfl)
  rw [lg_entry_eq]
  exact t_Rm_sung G C0 ⟨Nat.le_refl _, Nat.le_refl _, Nat.le_refl _, Nat.le_refl _⟩ B.returns B.notSynchronized _ _ hwp _ _ _ ⟨hP, hz, va_S.rf⟩ hl
def wb_Br_figuresTold_4 (K4 : Nat → Int32 → Int32 → MH → Prop) (Post : Int32 → MH → Prop) (l0 : Nat) (l1 : Int32) (l2 : Int32) (h : MH) : Prop :=
  ∃ x6 : Int32, gF h l0 5 4 = some (.inl x6) ∧
  (((x6 ≤ l2) →
      (Post l1 h)) ∧
    ((¬ x6 ≤ l2) →
      (∃ x14 : Nat, gF h l0 5 1 = some (.inr (some x14)) ∧
        (∃ (n18 : Nat) (f18 : Nat → Option Nat) (q18 : Nat), gR h x14 3 = some (n18, f18) ∧ vp_in l2 n18 ∧ f18 (l2).toNatClampNeg = some q18 ∧
          (∃ x19 : Int32, gF h q18 0 2 = some (.inl x19) ∧
            (wp_In_bitCount (fun (r22 : Int32) (h22 : MH) =>
                (∀ z26 : Int32, z26 = l1 + r22 →
                  (K4 l0 z26 (l2 + (1 : Int32)) h22))) x19 h))))))
def wn_Br_figuresTold_4 (Post : Int32 → MH → Prop) : Nat → Nat → Int32 → Int32 → MH → Prop
  | 0 => fun _ _ _ _ => False
  | n + 1 => wb_Br_figuresTold_4 (wn_Br_figuresTold_4 Post n) Post
def wp_Br_figuresTold_4 (Post : Int32 → MH → Prop) (l0 : Nat) (l1 : Int32) (l2 : Int32) (h : MH) : Prop := ∃ n, wn_Br_figuresTold_4 Post n l0 l1 l2 h
def wp_Br_figuresTold (Post : Int32 → MH → Prop) (l0 : Nat) (h : MH) : Prop :=
  wp_Br_figuresTold_4 Post l0 (0 : Int32) (0 : Int32) h
set_option maxRecDepth 100000 in
set_option maxHeartbeats 4000000 in
theorem tb_Br_figuresTold_4 {p : Program} {l : Launch} {e : Env} {R : Room} {s : State} {m : MethodId} {args : Array Value} {below : List Frame} {meth : Method} {c : Code} (G : mG) (C0 : Cx G p s m args c prog_1_method_24_code 3 "BassRealiser") (hR : 1 ≤ R.frames ∧ 20 ≤ R.locals ∧ 0 ≤ R.cells ∧ 0 ≤ R.slots) (hr : meth.sig.returnType = some .int) (hlk : meth.locks = false) {Post : Int32 → MH → Prop} {K4 : Nat → Int32 → Int32 → MH → Prop} (hK4 : ∀ (l0 : Nat) (l1 : Int32) (l2 : Int32) (h : MH), K4 l0 l1 l2 h → WG p l e R s m args below meth c 0 0 (MQ below (va_Qi Post (Wd G) (mA G)) args s 0 0 (mA G)) G 3 [(0, .ref (m_b G + l0)), (1, .int l1), (2, .int l2)] 4 [] h) (l0 : Nat) (l1 : Int32) (l2 : Int32) (h : MH) (hwp : wb_Br_figuresTold_4 K4 Post l0 l1 l2 h) : WG p l e R s m args below meth c 0 0 (MQ below (va_Qi Post (Wd G) (mA G)) args s 0 0 (mA G)) G 3 [(0, .ref (m_b G + l0)), (1, .int l1), (2, .int l2)] 4 [] h := by
  unfold wb_Br_figuresTold_4 at hwp
  refine x_iload_n C0 2 d_Br_figuresTold_4 rfl rfl ?_
  refine x_aload_n C0 0 d_Br_figuresTold_5 rfl rfl ?_
  obtain ⟨x6, e6, hwp⟩ := hwp
  refine x_getI C0 fk_Br_33 e6 d_Br_figuresTold_6 ?_
  refine x_icmp_ge (tgt := 33) C0 d_Br_figuresTold_9 (by decide) (fun c9 => ?_) (fun c9 => ?_)
  · replace hwp := hwp.1 c9
    refine x_iload_n C0 1 d_Br_figuresTold_33 rfl rfl ?_
    exact x_iret C0 hr hlk hwp d_Br_figuresTold_34
  · replace hwp := hwp.2 c9
    refine x_iload_n C0 1 d_Br_figuresTold_12 rfl rfl ?_
    refine x_aload_n C0 0 d_Br_figuresTold_13 rfl rfl ?_
    obtain ⟨x14, e14, hwp⟩ := hwp
    refine x_getR C0 fk_Br_20 e14 d_Br_figuresTold_14 ?_
    refine x_iload_n C0 2 d_Br_figuresTold_17 rfl rfl ?_
    obtain ⟨n18, f18, q18, e18, i18, g18, hwp⟩ := hwp
    refine x_aald (t := 3) C0 e18 rfl i18 g18 d_Br_figuresTold_18 ?_
    obtain ⟨x19, e19, hwp⟩ := hwp
    refine x_getI C0 fk_Br_66 e19 d_Br_figuresTold_19 ?_
    refine x_callSi0 (As := [.int x19]) (st := [.int l1]) C0 (c_In_bitCount l G hwp) kw_2_69 mk_In_bitCount kw_2_70 rfl (Nat.le_of_ble_eq_true rfl) rfl rfl ⟨Nat.le_trans (by decide) hR.1, Nat.le_trans (by decide) hR.2.1⟩ ⟨Nat.zero_le _, Nat.zero_le _⟩ rfl d_Br_figuresTold_22 (fun r22 h22 hwp => ?_)
    refine x_iadd C0 d_Br_figuresTold_25 ?_
    refine x_topI (fun z26 e26 => ?_)
    replace hwp := hwp z26 e26
    refine x_istore_n C0 d_Br_figuresTold_26 rfl (by decide) (lv' := [(1, .int z26), (0, .ref (m_b G + l0)), (2, .int l2)]) rfl ?_
    refine x_iinc C0 2 d_Br_figuresTold_27 rfl rfl (by decide) (lv' := [(2, .int (l2 + (1 : Int32))), (1, .int z26), (0, .ref (m_b G + l0))]) rfl ?_
    refine x_goto (tgt := 4) C0 d_Br_figuresTold_30 (by decide) ?_
    exact x_sub [2, 1, 0] rfl (hK4 _ _ _ _ hwp)
theorem t_Br_figuresTold_4 {p : Program} {l : Launch} {e : Env} {R : Room} {s : State} {m : MethodId} {args : Array Value} {below : List Frame} {meth : Method} {c : Code} (G : mG) (C0 : Cx G p s m args c prog_1_method_24_code 3 "BassRealiser") (hR : 1 ≤ R.frames ∧ 20 ≤ R.locals ∧ 0 ≤ R.cells ∧ 0 ≤ R.slots) (hr : meth.sig.returnType = some .int) (hlk : meth.locks = false) {Post : Int32 → MH → Prop} (l0 : Nat) (l1 : Int32) (l2 : Int32) (h : MH) (hwp : wp_Br_figuresTold_4 Post l0 l1 l2 h) : WG p l e R s m args below meth c 0 0 (MQ below (va_Qi Post (Wd G) (mA G)) args s 0 0 (mA G)) G 3 [(0, .ref (m_b G + l0)), (1, .int l1), (2, .int l2)] 4 [] h := by
  obtain ⟨n, hwp⟩ := hwp
  induction n generalizing l0 l1 l2 h with
  | zero => exact False.elim hwp
  | succ n ih => exact tb_Br_figuresTold_4 G C0 hR hr hlk (fun l0 l1 l2 h hwp => ih l0 l1 l2 h hwp) l0 l1 l2 h hwp
set_option maxRecDepth 100000 in
set_option maxHeartbeats 4000000 in
theorem t_Br_figuresTold {p : Program} {l : Launch} {e : Env} {R : Room} {s : State} {m : MethodId} {args : Array Value} {below : List Frame} {meth : Method} {c : Code} (G : mG) (C0 : Cx G p s m args c prog_1_method_24_code 3 "BassRealiser") (hR : 1 ≤ R.frames ∧ 20 ≤ R.locals ∧ 0 ≤ R.cells ∧ 0 ≤ R.slots) (hr : meth.sig.returnType = some .int) (hlk : meth.locks = false) {Post : Int32 → MH → Prop} (l0 : Nat) (h : MH) (hwp : wp_Br_figuresTold Post l0 h) : WG p l e R s m args below meth c 0 0 (MQ below (va_Qi Post (Wd G) (mA G)) args s 0 0 (mA G)) G 3 [(0, .ref (m_b G + l0))] 0 [] h := by
  unfold wp_Br_figuresTold at hwp
  refine x_iconst (v := 0) C0 d_Br_figuresTold_0 (by decide) ?_
  refine x_istore_n C0 d_Br_figuresTold_1 rfl (by decide) (lv' := [(1, .int (0 : Int32)), (0, .ref (m_b G + l0))]) rfl ?_
  refine x_iconst (v := 0) C0 d_Br_figuresTold_2 (by decide) ?_
  refine x_istore_n C0 d_Br_figuresTold_3 rfl (by decide) (lv' := [(2, .int (0 : Int32)), (1, .int (0 : Int32)), (0, .ref (m_b G + l0))]) rfl ?_
  exact x_sub [2, 1, 0] rfl (t_Br_figuresTold_4 G C0 hR hr hlk  _ _ _ _ hwp)
set_option maxRecDepth 100000 in
set_option maxHeartbeats 4000000 in
theorem c_Br_figuresTold (l : Launch) (G : mG) {Post : Int32 → MH → Prop} {l0 : Nat} {h : MH} (hwp : wp_Br_figuresTold Post l0 h) : Met l y_Br_figuresTold (Cond.code y_Br_figuresTold prog_1_method_24_code 3 (Option.some Jvm.ClassFile.FieldType.int) :: lw_good) ({ frames := 1, cells := 0, slots := 0, locals := 20 }) (va_Pc [.ref (m_b G + l0)] (Wd G h)) (va_Qi Post (Wd G) (mA G)) 0 0 (mA G) := by
  refine Met.ofW (cc := prog_1_method_24_code) (maxL := 3) (ret := (Option.some Jvm.ClassFile.FieldType.int)) (by decide +kernel) rfl ?_
  intro p e s m args below meth c s₁ B hml hv
  obtain ⟨rfl, hP, hz, hK, hSt⟩ := hv
  have hts := atoms_spec (ws := Cond.code y_Br_figuresTold prog_1_method_24_code 3 (Option.some Jvm.ClassFile.FieldType.int) :: lw_good) B.pre
  have C0 : Cx G p s m ([.ref (m_b G + l0)] : List Value).toArray c prog_1_method_24_code 3 "BassRealiser" := ⟨⟨B.exec, B.bytes, hml, findClass_of_methodNamed B.named, fun w h => hts w (List.mem_cons_of_mem _ h)⟩, hK, hSt, by rw [hz]; exact Nat.le_add_right _ _⟩
  have hl := lv_entry ([.ref (m_b G + l0)]) (n := 3) (Nat.le_of_ble_eq_true rfl)
  rw [lg_entry_eq]
  exact t_Br_figuresTold G C0 ⟨Nat.le_refl _, Nat.le_refl _, Nat.le_refl _, Nat.le_refl _⟩ B.returns B.notSynchronized _ _ hwp _ _ _ ⟨hP, hz, va_S.rf⟩ hl
def wp_Br_chordsSung_28 (K4 : Nat → Int32 → Int32 → MH → Prop) (Post : Int32 → MH → Prop) (l0 : Nat) (l1 : Int32) (l2 : Int32) (h : MH) : Prop :=
  K4 l0 l1 (l2 + (1 : Int32)) h
def wb_Br_chordsSung_4 (K4 : Nat → Int32 → Int32 → MH → Prop) (Post : Int32 → MH → Prop) (l0 : Nat) (l1 : Int32) (l2 : Int32) (h : MH) : Prop :=
  ∃ x6 : Int32, gF h l0 5 4 = some (.inl x6) ∧
  (((x6 ≤ l2) →
      (Post l1 h)) ∧
    ((¬ x6 ≤ l2) →
      (∃ x13 : Nat, gF h l0 5 1 = some (.inr (some x13)) ∧
        (∃ (n17 : Nat) (f17 : Nat → Option Nat) (q17 : Nat), gR h x13 3 = some (n17, f17) ∧ vp_in l2 n17 ∧ f17 (l2).toNatClampNeg = some q17 ∧
          (∃ x18 : Int32, gF h q17 0 6 = some (.inl x18) ∧
            (((x18 = (-1 : Int32)) →
                (wp_Br_chordsSung_28 K4 Post l0 l1 l2 h)) ∧
              ((¬ x18 = (-1 : Int32)) →
                (wp_Br_chordsSung_28 K4 Post l0 (l1 + (1 : Int32)) l2 h))))))))
def wn_Br_chordsSung_4 (Post : Int32 → MH → Prop) : Nat → Nat → Int32 → Int32 → MH → Prop
  | 0 => fun _ _ _ _ => False
  | n + 1 => wb_Br_chordsSung_4 (wn_Br_chordsSung_4 Post n) Post
def wp_Br_chordsSung_4 (Post : Int32 → MH → Prop) (l0 : Nat) (l1 : Int32) (l2 : Int32) (h : MH) : Prop := ∃ n, wn_Br_chordsSung_4 Post n l0 l1 l2 h
def wp_Br_chordsSung (Post : Int32 → MH → Prop) (l0 : Nat) (h : MH) : Prop :=
  wp_Br_chordsSung_4 Post l0 (0 : Int32) (0 : Int32) h
set_option maxRecDepth 100000 in
set_option maxHeartbeats 4000000 in
theorem t_Br_chordsSung_28 {p : Program} {l : Launch} {e : Env} {R : Room} {s : State} {m : MethodId} {args : Array Value} {below : List Frame} {meth : Method} {c : Code} (G : mG) (C0 : Cx G p s m args c prog_1_method_25_code 3 "BassRealiser") (hR : 0 ≤ R.frames ∧ 0 ≤ R.locals ∧ 0 ≤ R.cells ∧ 0 ≤ R.slots) (hr : meth.sig.returnType = some .int) (hlk : meth.locks = false) {Post : Int32 → MH → Prop} {K4 : Nat → Int32 → Int32 → MH → Prop} (hK4 : ∀ (l0 : Nat) (l1 : Int32) (l2 : Int32) (h : MH), K4 l0 l1 l2 h → WG p l e R s m args below meth c 0 0 (MQ below (va_Qi Post (Wd G) (mA G)) args s 0 0 (mA G)) G 3 [(0, .ref (m_b G + l0)), (1, .int l1), (2, .int l2)] 4 [] h) (l0 : Nat) (l1 : Int32) (l2 : Int32) (h : MH) (hwp : wp_Br_chordsSung_28 K4 Post l0 l1 l2 h) : WG p l e R s m args below meth c 0 0 (MQ below (va_Qi Post (Wd G) (mA G)) args s 0 0 (mA G)) G 3 [(0, .ref (m_b G + l0)), (1, .int l1), (2, .int l2)] 28 [] h := by
  unfold wp_Br_chordsSung_28 at hwp
  refine x_iinc C0 2 d_Br_chordsSung_28 rfl rfl (by decide) (lv' := [(2, .int (l2 + (1 : Int32))), (0, .ref (m_b G + l0)), (1, .int l1)]) rfl ?_
  refine x_goto (tgt := 4) C0 d_Br_chordsSung_31 (by decide) ?_
  exact x_sub [1, 2, 0] rfl (hK4 _ _ _ _ hwp)
set_option maxRecDepth 100000 in
set_option maxHeartbeats 4000000 in
theorem tb_Br_chordsSung_4 {p : Program} {l : Launch} {e : Env} {R : Room} {s : State} {m : MethodId} {args : Array Value} {below : List Frame} {meth : Method} {c : Code} (G : mG) (C0 : Cx G p s m args c prog_1_method_25_code 3 "BassRealiser") (hR : 0 ≤ R.frames ∧ 0 ≤ R.locals ∧ 0 ≤ R.cells ∧ 0 ≤ R.slots) (hr : meth.sig.returnType = some .int) (hlk : meth.locks = false) {Post : Int32 → MH → Prop} {K4 : Nat → Int32 → Int32 → MH → Prop} (hK4 : ∀ (l0 : Nat) (l1 : Int32) (l2 : Int32) (h : MH), K4 l0 l1 l2 h → WG p l e R s m args below meth c 0 0 (MQ below (va_Qi Post (Wd G) (mA G)) args s 0 0 (mA G)) G 3 [(0, .ref (m_b G + l0)), (1, .int l1), (2, .int l2)] 4 [] h) (l0 : Nat) (l1 : Int32) (l2 : Int32) (h : MH) (hwp : wb_Br_chordsSung_4 K4 Post l0 l1 l2 h) : WG p l e R s m args below meth c 0 0 (MQ below (va_Qi Post (Wd G) (mA G)) args s 0 0 (mA G)) G 3 [(0, .ref (m_b G + l0)), (1, .int l1), (2, .int l2)] 4 [] h := by
  unfold wb_Br_chordsSung_4 at hwp
  refine x_iload_n C0 2 d_Br_chordsSung_4 rfl rfl ?_
  refine x_aload_n C0 0 d_Br_chordsSung_5 rfl rfl ?_
  obtain ⟨x6, e6, hwp⟩ := hwp
  refine x_getI C0 fk_Br_33 e6 d_Br_chordsSung_6 ?_
  refine x_icmp_ge (tgt := 34) C0 d_Br_chordsSung_9 (by decide) (fun c9 => ?_) (fun c9 => ?_)
  · replace hwp := hwp.1 c9
    refine x_iload_n C0 1 d_Br_chordsSung_34 rfl rfl ?_
    exact x_iret C0 hr hlk hwp d_Br_chordsSung_35
  · replace hwp := hwp.2 c9
    refine x_aload_n C0 0 d_Br_chordsSung_12 rfl rfl ?_
    obtain ⟨x13, e13, hwp⟩ := hwp
    refine x_getR C0 fk_Br_20 e13 d_Br_chordsSung_13 ?_
    refine x_iload_n C0 2 d_Br_chordsSung_16 rfl rfl ?_
    obtain ⟨n17, f17, q17, e17, i17, g17, hwp⟩ := hwp
    refine x_aald (t := 3) C0 e17 rfl i17 g17 d_Br_chordsSung_17 ?_
    obtain ⟨x18, e18, hwp⟩ := hwp
    refine x_getI C0 fk_Br_155 e18 d_Br_chordsSung_18 ?_
    refine x_iconst (v := -1) C0 d_Br_chordsSung_21 (by decide) ?_
    refine x_icmp_eq (tgt := 28) C0 d_Br_chordsSung_22 (by decide) (fun c22 => ?_) (fun c22 => ?_)
    · replace hwp := hwp.1 c22
      exact x_sub [0, 1, 2] rfl (t_Br_chordsSung_28 G C0 hR hr hlk hK4 _ _ _ _ hwp)
    · replace hwp := hwp.2 c22
      refine x_iinc C0 1 d_Br_chordsSung_25 rfl rfl (by decide) (lv' := [(1, .int (l1 + (1 : Int32))), (0, .ref (m_b G + l0)), (2, .int l2)]) rfl ?_
      exact x_sub [1, 0, 2] rfl (t_Br_chordsSung_28 G C0 hR hr hlk hK4 _ _ _ _ hwp)
theorem t_Br_chordsSung_4 {p : Program} {l : Launch} {e : Env} {R : Room} {s : State} {m : MethodId} {args : Array Value} {below : List Frame} {meth : Method} {c : Code} (G : mG) (C0 : Cx G p s m args c prog_1_method_25_code 3 "BassRealiser") (hR : 0 ≤ R.frames ∧ 0 ≤ R.locals ∧ 0 ≤ R.cells ∧ 0 ≤ R.slots) (hr : meth.sig.returnType = some .int) (hlk : meth.locks = false) {Post : Int32 → MH → Prop} (l0 : Nat) (l1 : Int32) (l2 : Int32) (h : MH) (hwp : wp_Br_chordsSung_4 Post l0 l1 l2 h) : WG p l e R s m args below meth c 0 0 (MQ below (va_Qi Post (Wd G) (mA G)) args s 0 0 (mA G)) G 3 [(0, .ref (m_b G + l0)), (1, .int l1), (2, .int l2)] 4 [] h := by
  obtain ⟨n, hwp⟩ := hwp
  induction n generalizing l0 l1 l2 h with
  | zero => exact False.elim hwp
  | succ n ih => exact tb_Br_chordsSung_4 G C0 hR hr hlk (fun l0 l1 l2 h hwp => ih l0 l1 l2 h hwp) l0 l1 l2 h hwp
set_option maxRecDepth 100000 in
set_option maxHeartbeats 4000000 in
theorem t_Br_chordsSung {p : Program} {l : Launch} {e : Env} {R : Room} {s : State} {m : MethodId} {args : Array Value} {below : List Frame} {meth : Method} {c : Code} (G : mG) (C0 : Cx G p s m args c prog_1_method_25_code 3 "BassRealiser") (hR : 0 ≤ R.frames ∧ 0 ≤ R.locals ∧ 0 ≤ R.cells ∧ 0 ≤ R.slots) (hr : meth.sig.returnType = some .int) (hlk : meth.locks = false) {Post : Int32 → MH → Prop} (l0 : Nat) (h : MH) (hwp : wp_Br_chordsSung Post l0 h) : WG p l e R s m args below meth c 0 0 (MQ below (va_Qi Post (Wd G) (mA G)) args s 0 0 (mA G)) G 3 [(0, .ref (m_b G + l0))] 0 [] h := by
  unfold wp_Br_chordsSung at hwp
  refine x_iconst (v := 0) C0 d_Br_chordsSung_0 (by decide) ?_
  refine x_istore_n C0 d_Br_chordsSung_1 rfl (by decide) (lv' := [(1, .int (0 : Int32)), (0, .ref (m_b G + l0))]) rfl ?_
  refine x_iconst (v := 0) C0 d_Br_chordsSung_2 (by decide) ?_
  refine x_istore_n C0 d_Br_chordsSung_3 rfl (by decide) (lv' := [(2, .int (0 : Int32)), (1, .int (0 : Int32)), (0, .ref (m_b G + l0))]) rfl ?_
  exact x_sub [2, 1, 0] rfl (t_Br_chordsSung_4 G C0 hR hr hlk  _ _ _ _ hwp)
set_option maxRecDepth 100000 in
set_option maxHeartbeats 4000000 in
theorem c_Br_chordsSung (l : Launch) (G : mG) {Post : Int32 → MH → Prop} {l0 : Nat} {h : MH} (hwp : wp_Br_chordsSung Post l0 h) : Met l y_Br_chordsSung (Cond.code y_Br_chordsSung prog_1_method_25_code 3 (Option.some Jvm.ClassFile.FieldType.int) :: lw_good) ({ frames := 0, cells := 0, slots := 0, locals := 0 }) (va_Pc [.ref (m_b G + l0)] (Wd G h)) (va_Qi Post (Wd G) (mA G)) 0 0 (mA G) := by
  refine Met.ofW (cc := prog_1_method_25_code) (maxL := 3) (ret := (Option.some Jvm.ClassFile.FieldType.int)) (by decide +kernel) rfl ?_
  intro p e s m args below meth c s₁ B hml hv
  obtain ⟨rfl, hP, hz, hK, hSt⟩ := hv
  have hts := atoms_spec (ws := Cond.code y_Br_chordsSung prog_1_method_25_code 3 (Option.some Jvm.ClassFile.FieldType.int) :: lw_good) B.pre
  have C0 : Cx G p s m ([.ref (m_b G + l0)] : List Value).toArray c prog_1_method_25_code 3 "BassRealiser" := ⟨⟨B.exec, B.bytes, hml, findClass_of_methodNamed B.named, fun w h => hts w (List.mem_cons_of_mem _ h)⟩, hK, hSt, by rw [hz]; exact Nat.le_add_right _ _⟩
  have hl := lv_entry ([.ref (m_b G + l0)]) (n := 3) (Nat.le_of_ble_eq_true rfl)
  rw [lg_entry_eq]
  exact t_Br_chordsSung G C0 ⟨Nat.le_refl _, Nat.le_refl _, Nat.le_refl _, Nat.le_refl _⟩ B.returns B.notSynchronized _ _ hwp _ _ _ ⟨hP, hz, va_S.rf⟩ hl
def wp_Br_pitchesGiven_37 (K4 : Nat → Int32 → Int32 → MH → Prop) (K14 : Nat → Int32 → Int32 → Int32 → MH → Prop) (Post : Int32 → MH → Prop) (l0 : Nat) (l1 : Int32) (l2 : Int32) (l3 : Int32) (h : MH) : Prop :=
  K14 l0 l1 l2 (l3 + (1 : Int32)) h
def wb_Br_pitchesGiven_14 (K4 : Nat → Int32 → Int32 → MH → Prop) (K14 : Nat → Int32 → Int32 → Int32 → MH → Prop) (Post : Int32 → MH → Prop) (l0 : Nat) (l1 : Int32) (l2 : Int32) (l3 : Int32) (h : MH) : Prop :=
  (((3 : Int32) ≤ l3) →
    (K4 l0 l1 (l2 + (1 : Int32)) h)) ∧
  ((¬ (3 : Int32) ≤ l3) →
    (∃ x20 : Nat, gF h l0 5 1 = some (.inr (some x20)) ∧
      (∃ (n24 : Nat) (f24 : Nat → Option Nat) (q24 : Nat), gR h x20 3 = some (n24, f24) ∧ vp_in l2 n24 ∧ f24 (l2).toNatClampNeg = some q24 ∧
        (∃ x25 : Nat, gF h q24 0 5 = some (.inr (some x25)) ∧
          (∃ (n29 : Nat) (f29 : Nat → Int32), gA h x25 0 = some (n29, f29) ∧ vp_in l3 n29 ∧
            ((((f29 (l3).toNatClampNeg) = (-1 : Int32)) →
                (wp_Br_pitchesGiven_37 K4 K14 Post l0 l1 l2 l3 h)) ∧
              ((¬ (f29 (l3).toNatClampNeg) = (-1 : Int32)) →
                (wp_Br_pitchesGiven_37 K4 K14 Post l0 (l1 + (1 : Int32)) l2 l3 h))))))))
def wn_Br_pitchesGiven_14 (K4 : Nat → Int32 → Int32 → MH → Prop) (Post : Int32 → MH → Prop) : Nat → Nat → Int32 → Int32 → Int32 → MH → Prop
  | 0 => fun _ _ _ _ _ => False
  | n + 1 => wb_Br_pitchesGiven_14 K4 (wn_Br_pitchesGiven_14 K4 Post n) Post
def wp_Br_pitchesGiven_14 (K4 : Nat → Int32 → Int32 → MH → Prop) (Post : Int32 → MH → Prop) (l0 : Nat) (l1 : Int32) (l2 : Int32) (l3 : Int32) (h : MH) : Prop := ∃ n, wn_Br_pitchesGiven_14 K4 Post n l0 l1 l2 l3 h
def wb_Br_pitchesGiven_4 (K4 : Nat → Int32 → Int32 → MH → Prop) (Post : Int32 → MH → Prop) (l0 : Nat) (l1 : Int32) (l2 : Int32) (h : MH) : Prop :=
  ∃ x6 : Int32, gF h l0 5 4 = some (.inl x6) ∧
  (((x6 ≤ l2) →
      (Post l1 h)) ∧
    ((¬ x6 ≤ l2) →
      (wp_Br_pitchesGiven_14 K4 Post l0 l1 l2 (0 : Int32) h)))
def wn_Br_pitchesGiven_4 (Post : Int32 → MH → Prop) : Nat → Nat → Int32 → Int32 → MH → Prop
  | 0 => fun _ _ _ _ => False
  | n + 1 => wb_Br_pitchesGiven_4 (wn_Br_pitchesGiven_4 Post n) Post
def wp_Br_pitchesGiven_4 (Post : Int32 → MH → Prop) (l0 : Nat) (l1 : Int32) (l2 : Int32) (h : MH) : Prop := ∃ n, wn_Br_pitchesGiven_4 Post n l0 l1 l2 h
def wp_Br_pitchesGiven (Post : Int32 → MH → Prop) (l0 : Nat) (h : MH) : Prop :=
  wp_Br_pitchesGiven_4 Post l0 (0 : Int32) (0 : Int32) h
set_option maxRecDepth 100000 in
set_option maxHeartbeats 4000000 in
theorem t_Br_pitchesGiven_37 {p : Program} {l : Launch} {e : Env} {R : Room} {s : State} {m : MethodId} {args : Array Value} {below : List Frame} {meth : Method} {c : Code} (G : mG) (C0 : Cx G p s m args c prog_1_method_26_code 4 "BassRealiser") (hR : 0 ≤ R.frames ∧ 0 ≤ R.locals ∧ 0 ≤ R.cells ∧ 0 ≤ R.slots) (hr : meth.sig.returnType = some .int) (hlk : meth.locks = false) {Post : Int32 → MH → Prop} {K4 : Nat → Int32 → Int32 → MH → Prop} {K14 : Nat → Int32 → Int32 → Int32 → MH → Prop} (hK4 : ∀ (l0 : Nat) (l1 : Int32) (l2 : Int32) (h : MH), K4 l0 l1 l2 h → WG p l e R s m args below meth c 0 0 (MQ below (va_Qi Post (Wd G) (mA G)) args s 0 0 (mA G)) G 4 [(0, .ref (m_b G + l0)), (1, .int l1), (2, .int l2)] 4 [] h) (hK14 : ∀ (l0 : Nat) (l1 : Int32) (l2 : Int32) (l3 : Int32) (h : MH), K14 l0 l1 l2 l3 h → WG p l e R s m args below meth c 0 0 (MQ below (va_Qi Post (Wd G) (mA G)) args s 0 0 (mA G)) G 4 [(0, .ref (m_b G + l0)), (1, .int l1), (2, .int l2), (3, .int l3)] 14 [] h) (l0 : Nat) (l1 : Int32) (l2 : Int32) (l3 : Int32) (h : MH) (hwp : wp_Br_pitchesGiven_37 K4 K14 Post l0 l1 l2 l3 h) : WG p l e R s m args below meth c 0 0 (MQ below (va_Qi Post (Wd G) (mA G)) args s 0 0 (mA G)) G 4 [(0, .ref (m_b G + l0)), (1, .int l1), (2, .int l2), (3, .int l3)] 37 [] h := by
  unfold wp_Br_pitchesGiven_37 at hwp
  refine x_iinc C0 3 d_Br_pitchesGiven_37 rfl rfl (by decide) (lv' := [(3, .int (l3 + (1 : Int32))), (0, .ref (m_b G + l0)), (1, .int l1), (2, .int l2)]) rfl ?_
  refine x_goto (tgt := 14) C0 d_Br_pitchesGiven_40 (by decide) ?_
  exact x_sub [1, 2, 3, 0] rfl (hK14 _ _ _ _ _ hwp)
set_option maxRecDepth 100000 in
set_option maxHeartbeats 4000000 in
theorem tb_Br_pitchesGiven_14 {p : Program} {l : Launch} {e : Env} {R : Room} {s : State} {m : MethodId} {args : Array Value} {below : List Frame} {meth : Method} {c : Code} (G : mG) (C0 : Cx G p s m args c prog_1_method_26_code 4 "BassRealiser") (hR : 0 ≤ R.frames ∧ 0 ≤ R.locals ∧ 0 ≤ R.cells ∧ 0 ≤ R.slots) (hr : meth.sig.returnType = some .int) (hlk : meth.locks = false) {Post : Int32 → MH → Prop} {K4 : Nat → Int32 → Int32 → MH → Prop} {K14 : Nat → Int32 → Int32 → Int32 → MH → Prop} (hK4 : ∀ (l0 : Nat) (l1 : Int32) (l2 : Int32) (h : MH), K4 l0 l1 l2 h → WG p l e R s m args below meth c 0 0 (MQ below (va_Qi Post (Wd G) (mA G)) args s 0 0 (mA G)) G 4 [(0, .ref (m_b G + l0)), (1, .int l1), (2, .int l2)] 4 [] h) (hK14 : ∀ (l0 : Nat) (l1 : Int32) (l2 : Int32) (l3 : Int32) (h : MH), K14 l0 l1 l2 l3 h → WG p l e R s m args below meth c 0 0 (MQ below (va_Qi Post (Wd G) (mA G)) args s 0 0 (mA G)) G 4 [(0, .ref (m_b G + l0)), (1, .int l1), (2, .int l2), (3, .int l3)] 14 [] h) (l0 : Nat) (l1 : Int32) (l2 : Int32) (l3 : Int32) (h : MH) (hwp : wb_Br_pitchesGiven_14 K4 K14 Post l0 l1 l2 l3 h) : WG p l e R s m args below meth c 0 0 (MQ below (va_Qi Post (Wd G) (mA G)) args s 0 0 (mA G)) G 4 [(0, .ref (m_b G + l0)), (1, .int l1), (2, .int l2), (3, .int l3)] 14 [] h := by
  unfold wb_Br_pitchesGiven_14 at hwp
  refine x_iload_n C0 3 d_Br_pitchesGiven_14 rfl rfl ?_
  refine x_iconst (v := 3) C0 d_Br_pitchesGiven_15 (by decide) ?_
  refine x_icmp_ge (tgt := 43) C0 d_Br_pitchesGiven_16 (by decide) (fun c16 => ?_) (fun c16 => ?_)
  · replace hwp := hwp.1 c16
    refine x_iinc C0 2 d_Br_pitchesGiven_43 rfl rfl (by decide) (lv' := [(2, .int (l2 + (1 : Int32))), (0, .ref (m_b G + l0)), (1, .int l1), (3, .int l3)]) rfl ?_
    refine x_goto (tgt := 4) C0 d_Br_pitchesGiven_46 (by decide) ?_
    exact x_sub [1, 2, 0] rfl (hK4 _ _ _ _ hwp)
  · replace hwp := hwp.2 c16
    refine x_aload_n C0 0 d_Br_pitchesGiven_19 rfl rfl ?_
    obtain ⟨x20, e20, hwp⟩ := hwp
    refine x_getR C0 fk_Br_20 e20 d_Br_pitchesGiven_20 ?_
    refine x_iload_n C0 2 d_Br_pitchesGiven_23 rfl rfl ?_
    obtain ⟨n24, f24, q24, e24, i24, g24, hwp⟩ := hwp
    refine x_aald (t := 3) C0 e24 rfl i24 g24 d_Br_pitchesGiven_24 ?_
    obtain ⟨x25, e25, hwp⟩ := hwp
    refine x_getR C0 fk_Br_110 e25 d_Br_pitchesGiven_25 ?_
    refine x_iload_n C0 3 d_Br_pitchesGiven_28 rfl rfl ?_
    obtain ⟨n29, f29, e29, i29, hwp⟩ := hwp
    refine x_iald C0 e29 i29 d_Br_pitchesGiven_29 ?_
    refine x_iconst (v := -1) C0 d_Br_pitchesGiven_30 (by decide) ?_
    refine x_icmp_eq (tgt := 37) C0 d_Br_pitchesGiven_31 (by decide) (fun c31 => ?_) (fun c31 => ?_)
    · replace hwp := hwp.1 c31
      exact x_sub [0, 1, 2, 3] rfl (t_Br_pitchesGiven_37 G C0 hR hr hlk hK4 hK14 _ _ _ _ _ hwp)
    · replace hwp := hwp.2 c31
      refine x_iinc C0 1 d_Br_pitchesGiven_34 rfl rfl (by decide) (lv' := [(1, .int (l1 + (1 : Int32))), (0, .ref (m_b G + l0)), (2, .int l2), (3, .int l3)]) rfl ?_
      exact x_sub [1, 0, 2, 3] rfl (t_Br_pitchesGiven_37 G C0 hR hr hlk hK4 hK14 _ _ _ _ _ hwp)
theorem t_Br_pitchesGiven_14 {p : Program} {l : Launch} {e : Env} {R : Room} {s : State} {m : MethodId} {args : Array Value} {below : List Frame} {meth : Method} {c : Code} (G : mG) (C0 : Cx G p s m args c prog_1_method_26_code 4 "BassRealiser") (hR : 0 ≤ R.frames ∧ 0 ≤ R.locals ∧ 0 ≤ R.cells ∧ 0 ≤ R.slots) (hr : meth.sig.returnType = some .int) (hlk : meth.locks = false) {Post : Int32 → MH → Prop} {K4 : Nat → Int32 → Int32 → MH → Prop} (hK4 : ∀ (l0 : Nat) (l1 : Int32) (l2 : Int32) (h : MH), K4 l0 l1 l2 h → WG p l e R s m args below meth c 0 0 (MQ below (va_Qi Post (Wd G) (mA G)) args s 0 0 (mA G)) G 4 [(0, .ref (m_b G + l0)), (1, .int l1), (2, .int l2)] 4 [] h) (l0 : Nat) (l1 : Int32) (l2 : Int32) (l3 : Int32) (h : MH) (hwp : wp_Br_pitchesGiven_14 K4 Post l0 l1 l2 l3 h) : WG p l e R s m args below meth c 0 0 (MQ below (va_Qi Post (Wd G) (mA G)) args s 0 0 (mA G)) G 4 [(0, .ref (m_b G + l0)), (1, .int l1), (2, .int l2), (3, .int l3)] 14 [] h := by
  obtain ⟨n, hwp⟩ := hwp
  induction n generalizing l0 l1 l2 l3 h with
  | zero => exact False.elim hwp
  | succ n ih => exact tb_Br_pitchesGiven_14 G C0 hR hr hlk hK4 (fun l0 l1 l2 l3 h hwp => ih l0 l1 l2 l3 h hwp) l0 l1 l2 l3 h hwp
set_option maxRecDepth 100000 in
set_option maxHeartbeats 4000000 in
theorem tb_Br_pitchesGiven_4 {p : Program} {l : Launch} {e : Env} {R : Room} {s : State} {m : MethodId} {args : Array Value} {below : List Frame} {meth : Method} {c : Code} (G : mG) (C0 : Cx G p s m args c prog_1_method_26_code 4 "BassRealiser") (hR : 0 ≤ R.frames ∧ 0 ≤ R.locals ∧ 0 ≤ R.cells ∧ 0 ≤ R.slots) (hr : meth.sig.returnType = some .int) (hlk : meth.locks = false) {Post : Int32 → MH → Prop} {K4 : Nat → Int32 → Int32 → MH → Prop} (hK4 : ∀ (l0 : Nat) (l1 : Int32) (l2 : Int32) (h : MH), K4 l0 l1 l2 h → WG p l e R s m args below meth c 0 0 (MQ below (va_Qi Post (Wd G) (mA G)) args s 0 0 (mA G)) G 4 [(0, .ref (m_b G + l0)), (1, .int l1), (2, .int l2)] 4 [] h) (l0 : Nat) (l1 : Int32) (l2 : Int32) (h : MH) (hwp : wb_Br_pitchesGiven_4 K4 Post l0 l1 l2 h) : WG p l e R s m args below meth c 0 0 (MQ below (va_Qi Post (Wd G) (mA G)) args s 0 0 (mA G)) G 4 [(0, .ref (m_b G + l0)), (1, .int l1), (2, .int l2)] 4 [] h := by
  unfold wb_Br_pitchesGiven_4 at hwp
  refine x_iload_n C0 2 d_Br_pitchesGiven_4 rfl rfl ?_
  refine x_aload_n C0 0 d_Br_pitchesGiven_5 rfl rfl ?_
  obtain ⟨x6, e6, hwp⟩ := hwp
  refine x_getI C0 fk_Br_33 e6 d_Br_pitchesGiven_6 ?_
  refine x_icmp_ge (tgt := 49) C0 d_Br_pitchesGiven_9 (by decide) (fun c9 => ?_) (fun c9 => ?_)
  · replace hwp := hwp.1 c9
    refine x_iload_n C0 1 d_Br_pitchesGiven_49 rfl rfl ?_
    exact x_iret C0 hr hlk hwp d_Br_pitchesGiven_50
  · replace hwp := hwp.2 c9
    refine x_iconst (v := 0) C0 d_Br_pitchesGiven_12 (by decide) ?_
    refine x_istore_n C0 d_Br_pitchesGiven_13 rfl (by decide) (lv' := [(3, .int (0 : Int32)), (0, .ref (m_b G + l0)), (1, .int l1), (2, .int l2)]) rfl ?_
    exact x_sub [1, 2, 3, 0] rfl (t_Br_pitchesGiven_14 G C0 hR hr hlk hK4 _ _ _ _ _ hwp)
theorem t_Br_pitchesGiven_4 {p : Program} {l : Launch} {e : Env} {R : Room} {s : State} {m : MethodId} {args : Array Value} {below : List Frame} {meth : Method} {c : Code} (G : mG) (C0 : Cx G p s m args c prog_1_method_26_code 4 "BassRealiser") (hR : 0 ≤ R.frames ∧ 0 ≤ R.locals ∧ 0 ≤ R.cells ∧ 0 ≤ R.slots) (hr : meth.sig.returnType = some .int) (hlk : meth.locks = false) {Post : Int32 → MH → Prop} (l0 : Nat) (l1 : Int32) (l2 : Int32) (h : MH) (hwp : wp_Br_pitchesGiven_4 Post l0 l1 l2 h) : WG p l e R s m args below meth c 0 0 (MQ below (va_Qi Post (Wd G) (mA G)) args s 0 0 (mA G)) G 4 [(0, .ref (m_b G + l0)), (1, .int l1), (2, .int l2)] 4 [] h := by
  obtain ⟨n, hwp⟩ := hwp
  induction n generalizing l0 l1 l2 h with
  | zero => exact False.elim hwp
  | succ n ih => exact tb_Br_pitchesGiven_4 G C0 hR hr hlk (fun l0 l1 l2 h hwp => ih l0 l1 l2 h hwp) l0 l1 l2 h hwp
set_option maxRecDepth 100000 in
set_option maxHeartbeats 4000000 in
theorem t_Br_pitchesGiven {p : Program} {l : Launch} {e : Env} {R : Room} {s : State} {m : MethodId} {args : Array Value} {below : List Frame} {meth : Method} {c : Code} (G : mG) (C0 : Cx G p s m args c prog_1_method_26_code 4 "BassRealiser") (hR : 0 ≤ R.frames ∧ 0 ≤ R.locals ∧ 0 ≤ R.cells ∧ 0 ≤ R.slots) (hr : meth.sig.returnType = some .int) (hlk : meth.locks = false) {Post : Int32 → MH → Prop} (l0 : Nat) (h : MH) (hwp : wp_Br_pitchesGiven Post l0 h) : WG p l e R s m args below meth c 0 0 (MQ below (va_Qi Post (Wd G) (mA G)) args s 0 0 (mA G)) G 4 [(0, .ref (m_b G + l0))] 0 [] h := by
  unfold wp_Br_pitchesGiven at hwp
  refine x_iconst (v := 0) C0 d_Br_pitchesGiven_0 (by decide) ?_
  refine x_istore_n C0 d_Br_pitchesGiven_1 rfl (by decide) (lv' := [(1, .int (0 : Int32)), (0, .ref (m_b G + l0))]) rfl ?_
  refine x_iconst (v := 0) C0 d_Br_pitchesGiven_2 (by decide) ?_
  refine x_istore_n C0 d_Br_pitchesGiven_3 rfl (by decide) (lv' := [(2, .int (0 : Int32)), (1, .int (0 : Int32)), (0, .ref (m_b G + l0))]) rfl ?_
  exact x_sub [2, 1, 0] rfl (t_Br_pitchesGiven_4 G C0 hR hr hlk  _ _ _ _ hwp)
set_option maxRecDepth 100000 in
set_option maxHeartbeats 4000000 in
theorem c_Br_pitchesGiven (l : Launch) (G : mG) {Post : Int32 → MH → Prop} {l0 : Nat} {h : MH} (hwp : wp_Br_pitchesGiven Post l0 h) : Met l y_Br_pitchesGiven (Cond.code y_Br_pitchesGiven prog_1_method_26_code 4 (Option.some Jvm.ClassFile.FieldType.int) :: lw_good) ({ frames := 0, cells := 0, slots := 0, locals := 0 }) (va_Pc [.ref (m_b G + l0)] (Wd G h)) (va_Qi Post (Wd G) (mA G)) 0 0 (mA G) := by
  refine Met.ofW (cc := prog_1_method_26_code) (maxL := 4) (ret := (Option.some Jvm.ClassFile.FieldType.int)) (by decide +kernel) rfl ?_
  intro p e s m args below meth c s₁ B hml hv
  obtain ⟨rfl, hP, hz, hK, hSt⟩ := hv
  have hts := atoms_spec (ws := Cond.code y_Br_pitchesGiven prog_1_method_26_code 4 (Option.some Jvm.ClassFile.FieldType.int) :: lw_good) B.pre
  have C0 : Cx G p s m ([.ref (m_b G + l0)] : List Value).toArray c prog_1_method_26_code 4 "BassRealiser" := ⟨⟨B.exec, B.bytes, hml, findClass_of_methodNamed B.named, fun w h => hts w (List.mem_cons_of_mem _ h)⟩, hK, hSt, by rw [hz]; exact Nat.le_add_right _ _⟩
  have hl := lv_entry ([.ref (m_b G + l0)]) (n := 4) (Nat.le_of_ble_eq_true rfl)
  rw [lg_entry_eq]
  exact t_Br_pitchesGiven G C0 ⟨Nat.le_refl _, Nat.le_refl _, Nat.le_refl _, Nat.le_refl _⟩ B.returns B.notSynchronized _ _ hwp _ _ _ ⟨hP, hz, va_S.rf⟩ hl
def wp_Br_count (Post : Int32 → MH → Prop) (l0 : Nat) (l1 : Int32) (h : MH) : Prop :=
  wp_Br_within (fun (r5 : Int32) (h5 : MH) =>
    (((r5 = 0) →
        (wp_Br_within (fun (r29 : Int32) (h29 : MH) =>
            (((r29 = 0) →
                (wp_Br_within (fun (r53 : Int32) (h53 : MH) =>
                    (((r53 = 0) →
                        ((l1 = (0 : Int32) →
                        (∃ x113 : Int32, gF h53 l0 5 4 = some (.inl x113) ∧
                        (Post x113 h53))) ∧
                        (l1 = (1 : Int32) →
                        (gC h53 l0 = some 5 ∧ wp_Br_figuresTold (fun (r118 : Int32) (h118 : MH) =>
                        (Post r118 h118)) l0 h53)) ∧
                        (l1 = (2 : Int32) →
                        (∃ x123 : Nat, gF h53 l0 5 2 = some (.inr (some x123)) ∧
                        (∃ x126 : Int32, gF h53 x123 3 4 = some (.inl x126) ∧
                        (Post (x126 + (7 : Int32)) h53)))) ∧
                        (l1 = (3 : Int32) →
                        (∃ x134 : Nat, gF h53 l0 5 2 = some (.inr (some x134)) ∧
                        (∃ x137 : Int32, gF h53 x134 3 3 = some (.inl x137) ∧
                        (Post x137 h53)))) ∧
                        (l1 = (4 : Int32) →
                        (gC h53 l0 = some 5 ∧ wp_Br_chordsSung (fun (r142 : Int32) (h142 : MH) =>
                        (Post r142 h142)) l0 h53)) ∧
                        (l1 = (5 : Int32) →
                        (gC h53 l0 = some 5 ∧ wp_Br_pitchesGiven (fun (r147 : Int32) (h147 : MH) =>
                        (Post r147 h147)) l0 h53)) ∧
                        (¬ l1 = (0 : Int32) → ¬ l1 = (1 : Int32) → ¬ l1 = (2 : Int32) → ¬ l1 = (3 : Int32) → ¬ l1 = (4 : Int32) → ¬ l1 = (5 : Int32) →
                        (Post (-1 : Int32) h53)))) ∧
                      ((¬ r53 = 0) →
                        (∃ x60 : Nat, gF h53 l0 5 2 = some (.inr (some x60)) ∧
                        (∃ x63 : Nat, gF h53 x60 3 2 = some (.inr (some x63)) ∧
                        (∃ (n70 : Nat) (f70 : Nat → Int32), gA h53 x63 0 = some (n70, f70) ∧ vp_in (l1 - (12 : Int32)) n70 ∧
                        (Post (f70 (l1 - (12 : Int32)).toNatClampNeg) h53))))))) l1 (12 : Int32) (14 : Int32) h29)) ∧
              ((¬ r29 = 0) →
                (∃ x36 : Nat, gF h29 l0 5 2 = some (.inr (some x36)) ∧
                  (∃ x39 : Nat, gF h29 x36 3 1 = some (.inr (some x39)) ∧
                    (∃ (n46 : Nat) (f46 : Nat → Int32), gA h29 x39 0 = some (n46, f46) ∧ vp_in (l1 - (9 : Int32)) n46 ∧
                      (Post (f46 (l1 - (9 : Int32)).toNatClampNeg) h29))))))) l1 (9 : Int32) (11 : Int32) h5)) ∧
      ((¬ r5 = 0) →
        (∃ x12 : Nat, gF h5 l0 5 2 = some (.inr (some x12)) ∧
          (∃ x15 : Nat, gF h5 x12 3 0 = some (.inr (some x15)) ∧
            (∃ (n22 : Nat) (f22 : Nat → Int32), gA h5 x15 0 = some (n22, f22) ∧ vp_in (l1 - (6 : Int32)) n22 ∧
              (Post (f22 (l1 - (6 : Int32)).toNatClampNeg) h5))))))) l1 (6 : Int32) (8 : Int32) h
set_option maxRecDepth 100000 in
set_option maxHeartbeats 4000000 in
theorem t_Br_count {p : Program} {l : Launch} {e : Env} {R : Room} {s : State} {m : MethodId} {args : Array Value} {below : List Frame} {meth : Method} {c : Code} (G : mG) (C0 : Cx G p s m args c prog_1_method_21_code 2 "BassRealiser") (hR : 2 ≤ R.frames ∧ 42 ≤ R.locals ∧ 0 ≤ R.cells ∧ 0 ≤ R.slots) (hr : meth.sig.returnType = some .int) (hlk : meth.locks = false) {Post : Int32 → MH → Prop} (l0 : Nat) (l1 : Int32) (h : MH) (hwp : wp_Br_count Post l0 l1 h) : WG p l e R s m args below meth c 0 0 (MQ below (va_Qi Post (Wd G) (mA G)) args s 0 0 (mA G)) G 2 [(0, .ref (m_b G + l0)), (1, .int l1)] 0 [] h := by
  unfold wp_Br_count at hwp
  refine x_iload_n C0 1 d_Br_count_0 rfl rfl ?_
  refine x_bipush (v := 6) C0 d_Br_count_1 (by decide) ?_
  refine x_bipush (v := 8) C0 d_Br_count_3 (by decide) ?_
  refine x_callSi0 (As := [.int l1, .int (6 : Int32), .int (8 : Int32)]) (st := []) C0 (c_Br_within l G hwp) kw_1_226 mk_Br_within kw_1_227 rfl (Nat.le_of_ble_eq_true rfl) rfl rfl ⟨Nat.le_trans (by decide) hR.1, Nat.le_trans (by decide) hR.2.1⟩ ⟨Nat.zero_le _, Nat.zero_le _⟩ rfl d_Br_count_5 (fun r5 h5 hwp => ?_)
  refine x_if_eq (tgt := 24) C0 d_Br_count_8 (by decide) (fun c8 => ?_) (fun c8 => ?_)
  · replace hwp := hwp.1 c8
    refine x_iload_n C0 1 d_Br_count_24 rfl rfl ?_
    refine x_bipush (v := 9) C0 d_Br_count_25 (by decide) ?_
    refine x_bipush (v := 11) C0 d_Br_count_27 (by decide) ?_
    refine x_callSi0 (As := [.int l1, .int (9 : Int32), .int (11 : Int32)]) (st := []) C0 (c_Br_within l G hwp) kw_1_226 mk_Br_within kw_1_227 rfl (Nat.le_of_ble_eq_true rfl) rfl rfl ⟨Nat.le_trans (by decide) hR.1, Nat.le_trans (by decide) hR.2.1⟩ ⟨Nat.zero_le _, Nat.zero_le _⟩ rfl d_Br_count_29 (fun r29 h29 hwp => ?_)
    refine x_if_eq (tgt := 48) C0 d_Br_count_32 (by decide) (fun c32 => ?_) (fun c32 => ?_)
    · replace hwp := hwp.1 c32
      refine x_iload_n C0 1 d_Br_count_48 rfl rfl ?_
      refine x_bipush (v := 12) C0 d_Br_count_49 (by decide) ?_
      refine x_bipush (v := 14) C0 d_Br_count_51 (by decide) ?_
      refine x_callSi0 (As := [.int l1, .int (12 : Int32), .int (14 : Int32)]) (st := []) C0 (c_Br_within l G hwp) kw_1_226 mk_Br_within kw_1_227 rfl (Nat.le_of_ble_eq_true rfl) rfl rfl ⟨Nat.le_trans (by decide) hR.1, Nat.le_trans (by decide) hR.2.1⟩ ⟨Nat.zero_le _, Nat.zero_le _⟩ rfl d_Br_count_53 (fun r53 h53 hwp => ?_)
      refine x_if_eq (tgt := 72) C0 d_Br_count_56 (by decide) (fun c56 => ?_) (fun c56 => ?_)
      · replace hwp := hwp.1 c56
        refine x_iload_n C0 1 d_Br_count_72 rfl rfl ?_
        by_cases c73_0 : l1 = (0 : Int32)
        · replace hwp := hwp.1 c73_0
          refine x_tableIn (tgt := 112) (off := 39) C0 d_Br_count_73 (by rw [c73_0]; decide) (by rw [c73_0]; decide) (by rw [c73_0]; rfl) (by decide) ?_
          refine x_aload_n C0 0 d_Br_count_112 rfl rfl ?_
          obtain ⟨x113, e113, hwp⟩ := hwp
          refine x_getI C0 fk_Br_33 e113 d_Br_count_113 ?_
          exact x_iret C0 hr hlk hwp d_Br_count_116
        by_cases c73_1 : l1 = (1 : Int32)
        · replace hwp := hwp.2.1 c73_1
          refine x_tableIn (tgt := 117) (off := 44) C0 d_Br_count_73 (by rw [c73_1]; decide) (by rw [c73_1]; decide) (by rw [c73_1]; rfl) (by decide) ?_
          refine x_aload_n C0 0 d_Br_count_117 rfl rfl ?_
          obtain ⟨g118, hwp⟩ := hwp
          refine x_callVi0 (k := l0) (As := []) (st := []) C0 (c_Br_figuresTold l G hwp) kw_3_69 mk_Br_figuresTold vk_Br_figuresTold rfl g118 rfl (Nat.le_of_ble_eq_true rfl) rfl rfl ⟨Nat.le_trans (by decide) hR.1, Nat.le_trans (by decide) hR.2.1⟩ ⟨Nat.zero_le _, Nat.zero_le _⟩ rfl d_Br_count_118 (fun r118 h118 hwp => ?_)
          exact x_iret C0 hr hlk hwp d_Br_count_121
        by_cases c73_2 : l1 = (2 : Int32)
        · replace hwp := hwp.2.2.1 c73_2
          refine x_tableIn (tgt := 122) (off := 49) C0 d_Br_count_73 (by rw [c73_2]; decide) (by rw [c73_2]; decide) (by rw [c73_2]; rfl) (by decide) ?_
          refine x_aload_n C0 0 d_Br_count_122 rfl rfl ?_
          obtain ⟨x123, e123, hwp⟩ := hwp
          refine x_getR C0 fk_Br_25 e123 d_Br_count_123 ?_
          obtain ⟨x126, e126, hwp⟩ := hwp
          refine x_getI C0 fk_Br_41 e126 d_Br_count_126 ?_
          refine x_bipush (v := 7) C0 d_Br_count_129 (by decide) ?_
          refine x_iadd C0 d_Br_count_131 ?_
          exact x_iret C0 hr hlk hwp d_Br_count_132
        by_cases c73_3 : l1 = (3 : Int32)
        · replace hwp := hwp.2.2.2.1 c73_3
          refine x_tableIn (tgt := 133) (off := 60) C0 d_Br_count_73 (by rw [c73_3]; decide) (by rw [c73_3]; decide) (by rw [c73_3]; rfl) (by decide) ?_
          refine x_aload_n C0 0 d_Br_count_133 rfl rfl ?_
          obtain ⟨x134, e134, hwp⟩ := hwp
          refine x_getR C0 fk_Br_25 e134 d_Br_count_134 ?_
          obtain ⟨x137, e137, hwp⟩ := hwp
          refine x_getI C0 fk_Br_107 e137 d_Br_count_137 ?_
          exact x_iret C0 hr hlk hwp d_Br_count_140
        by_cases c73_4 : l1 = (4 : Int32)
        · replace hwp := hwp.2.2.2.2.1 c73_4
          refine x_tableIn (tgt := 141) (off := 68) C0 d_Br_count_73 (by rw [c73_4]; decide) (by rw [c73_4]; decide) (by rw [c73_4]; rfl) (by decide) ?_
          refine x_aload_n C0 0 d_Br_count_141 rfl rfl ?_
          obtain ⟨g142, hwp⟩ := hwp
          refine x_callVi0 (k := l0) (As := []) (st := []) C0 (c_Br_chordsSung l G hwp) kw_3_73 mk_Br_chordsSung vk_Br_chordsSung rfl g142 rfl (Nat.le_of_ble_eq_true rfl) rfl rfl ⟨Nat.le_trans (by decide) hR.1, Nat.le_trans (by decide) hR.2.1⟩ ⟨Nat.zero_le _, Nat.zero_le _⟩ rfl d_Br_count_142 (fun r142 h142 hwp => ?_)
          exact x_iret C0 hr hlk hwp d_Br_count_145
        by_cases c73_5 : l1 = (5 : Int32)
        · replace hwp := hwp.2.2.2.2.2.1 c73_5
          refine x_tableIn (tgt := 146) (off := 73) C0 d_Br_count_73 (by rw [c73_5]; decide) (by rw [c73_5]; decide) (by rw [c73_5]; rfl) (by decide) ?_
          refine x_aload_n C0 0 d_Br_count_146 rfl rfl ?_
          obtain ⟨g147, hwp⟩ := hwp
          refine x_callVi0 (k := l0) (As := []) (st := []) C0 (c_Br_pitchesGiven l G hwp) kw_3_77 mk_Br_pitchesGiven vk_Br_pitchesGiven rfl g147 rfl (Nat.le_of_ble_eq_true rfl) rfl rfl ⟨Nat.le_trans (by decide) hR.1, Nat.le_trans (by decide) hR.2.1⟩ ⟨Nat.zero_le _, Nat.zero_le _⟩ rfl d_Br_count_147 (fun r147 h147 hwp => ?_)
          exact x_iret C0 hr hlk hwp d_Br_count_150
        have so73 : (l1).toInt < 0 ∨ 5 < (l1).toInt := by
          refine sw_out (fun k h1 h2 => ?_)
          obtain rfl | rfl | rfl | rfl | rfl | rfl : k = 0 ∨ k = 1 ∨ k = 2 ∨ k = 3 ∨ k = 4 ∨ k = 5 := by omega
          · exact c73_0
          · exact c73_1
          · exact c73_2
          · exact c73_3
          · exact c73_4
          · exact c73_5
        replace hwp := hwp.2.2.2.2.2.2 c73_0 c73_1 c73_2 c73_3 c73_4 c73_5
        refine x_tableOut (tgt := 151) C0 d_Br_count_73 so73 (by decide) ?_
        refine x_iconst (v := -1) C0 d_Br_count_151 (by decide) ?_
        exact x_iret C0 hr hlk hwp d_Br_count_152
      · replace hwp := hwp.2 c56
        refine x_aload_n C0 0 d_Br_count_59 rfl rfl ?_
        obtain ⟨x60, e60, hwp⟩ := hwp
        refine x_getR C0 fk_Br_25 e60 d_Br_count_60 ?_
        obtain ⟨x63, e63, hwp⟩ := hwp
        refine x_getR C0 fk_Br_101 e63 d_Br_count_63 ?_
        refine x_iload_n C0 1 d_Br_count_66 rfl rfl ?_
        refine x_bipush (v := 12) C0 d_Br_count_67 (by decide) ?_
        refine x_isub C0 d_Br_count_69 ?_
        obtain ⟨n70, f70, e70, i70, hwp⟩ := hwp
        refine x_iald C0 e70 i70 d_Br_count_70 ?_
        exact x_iret C0 hr hlk hwp d_Br_count_71
    · replace hwp := hwp.2 c32
      refine x_aload_n C0 0 d_Br_count_35 rfl rfl ?_
      obtain ⟨x36, e36, hwp⟩ := hwp
      refine x_getR C0 fk_Br_25 e36 d_Br_count_36 ?_
      obtain ⟨x39, e39, hwp⟩ := hwp
      refine x_getR C0 fk_Br_98 e39 d_Br_count_39 ?_
      refine x_iload_n C0 1 d_Br_count_42 rfl rfl ?_
      refine x_bipush (v := 9) C0 d_Br_count_43 (by decide) ?_
      refine x_isub C0 d_Br_count_45 ?_
      obtain ⟨n46, f46, e46, i46, hwp⟩ := hwp
      refine x_iald C0 e46 i46 d_Br_count_46 ?_
      exact x_iret C0 hr hlk hwp d_Br_count_47
  · replace hwp := hwp.2 c8
    refine x_aload_n C0 0 d_Br_count_11 rfl rfl ?_
    obtain ⟨x12, e12, hwp⟩ := hwp
    refine x_getR C0 fk_Br_25 e12 d_Br_count_12 ?_
    obtain ⟨x15, e15, hwp⟩ := hwp
    refine x_getR C0 fk_Br_94 e15 d_Br_count_15 ?_
    refine x_iload_n C0 1 d_Br_count_18 rfl rfl ?_
    refine x_bipush (v := 6) C0 d_Br_count_19 (by decide) ?_
    refine x_isub C0 d_Br_count_21 ?_
    obtain ⟨n22, f22, e22, i22, hwp⟩ := hwp
    refine x_iald C0 e22 i22 d_Br_count_22 ?_
    exact x_iret C0 hr hlk hwp d_Br_count_23
set_option maxRecDepth 100000 in
set_option maxHeartbeats 4000000 in
theorem c_Br_count (l : Launch) (G : mG) {Post : Int32 → MH → Prop} {l0 : Nat} {l1 : Int32} {h : MH} (hwp : wp_Br_count Post l0 l1 h) : Met l y_Br_count (Cond.code y_Br_count prog_1_method_21_code 2 (Option.some Jvm.ClassFile.FieldType.int) :: lw_good) ({ frames := 2, cells := 0, slots := 0, locals := 42 }) (va_Pc [.ref (m_b G + l0), .int l1] (Wd G h)) (va_Qi Post (Wd G) (mA G)) 0 0 (mA G) := by
  refine Met.ofW (cc := prog_1_method_21_code) (maxL := 2) (ret := (Option.some Jvm.ClassFile.FieldType.int)) (by decide +kernel) rfl ?_
  intro p e s m args below meth c s₁ B hml hv
  obtain ⟨rfl, hP, hz, hK, hSt⟩ := hv
  have hts := atoms_spec (ws := Cond.code y_Br_count prog_1_method_21_code 2 (Option.some Jvm.ClassFile.FieldType.int) :: lw_good) B.pre
  have C0 : Cx G p s m ([.ref (m_b G + l0), .int l1] : List Value).toArray c prog_1_method_21_code 2 "BassRealiser" := ⟨⟨B.exec, B.bytes, hml, findClass_of_methodNamed B.named, fun w h => hts w (List.mem_cons_of_mem _ h)⟩, hK, hSt, by rw [hz]; exact Nat.le_add_right _ _⟩
  have hl := lv_entry ([.ref (m_b G + l0), .int l1]) (n := 2) (Nat.le_of_ble_eq_true rfl)
  rw [lg_entry_eq]
  exact t_Br_count G C0 ⟨Nat.le_refl _, Nat.le_refl _, Nat.le_refl _, Nat.le_refl _⟩ B.returns B.notSynchronized _ _ _ hwp _ _ _ ⟨hP, hz, va_S.rf⟩ hl
