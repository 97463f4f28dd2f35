theorem d_Se_weighOne_0 : decode prog_6_method_10_code 0 = .ok (.aload_n 0, 1) := by decide +kernel
theorem d_Se_weighOne_1 : decode prog_6_method_10_code 1 = .ok (.getfield 26, 3) := by decide +kernel
theorem d_Se_weighOne_4 : decode prog_6_method_10_code 4 = .ok (.iload_n 1, 1) := by decide +kernel
theorem d_Se_weighOne_5 : decode prog_6_method_10_code 5 = .ok (.iconst 1, 1) := by decide +kernel
theorem d_Se_weighOne_6 : decode prog_6_method_10_code 6 = .ok (.iadd, 1) := by decide +kernel
theorem d_Se_weighOne_7 : decode prog_6_method_10_code 7 = .ok (.aaload, 1) := by decide +kernel
theorem d_Se_weighOne_8 : decode prog_6_method_10_code 8 = .ok (.astore_n 3, 1) := by decide +kernel
theorem d_Se_weighOne_9 : decode prog_6_method_10_code 9 = .ok (.aload_n 0, 1) := by decide +kernel
theorem d_Se_weighOne_10 : decode prog_6_method_10_code 10 = .ok (.getfield 35, 3) := by decide +kernel
theorem d_Se_weighOne_13 : decode prog_6_method_10_code 13 = .ok (.aload_n 0, 1) := by decide +kernel
theorem d_Se_weighOne_14 : decode prog_6_method_10_code 14 = .ok (.getfield 11, 3) := by decide +kernel
theorem d_Se_weighOne_17 : decode prog_6_method_10_code 17 = .ok (.iload_n 1, 1) := by decide +kernel
theorem d_Se_weighOne_18 : decode prog_6_method_10_code 18 = .ok (.aaload, 1) := by decide +kernel
theorem d_Se_weighOne_19 : decode prog_6_method_10_code 19 = .ok (.aload_n 0, 1) := by decide +kernel
theorem d_Se_weighOne_20 : decode prog_6_method_10_code 20 = .ok (.getfield 26, 3) := by decide +kernel
theorem d_Se_weighOne_23 : decode prog_6_method_10_code 23 = .ok (.iload_n 1, 1) := by decide +kernel
theorem d_Se_weighOne_24 : decode prog_6_method_10_code 24 = .ok (.aaload, 1) := by decide +kernel
theorem d_Se_weighOne_25 : decode prog_6_method_10_code 25 = .ok (.getfield 90, 3) := by decide +kernel
theorem d_Se_weighOne_28 : decode prog_6_method_10_code 28 = .ok (.iload_n 2, 1) := by decide +kernel
theorem d_Se_weighOne_29 : decode prog_6_method_10_code 29 = .ok (.iaload, 1) := by decide +kernel
theorem d_Se_weighOne_30 : decode prog_6_method_10_code 30 = .ok (.invokevirtual 105, 3) := by decide +kernel
theorem d_Se_weighOne_33 : decode prog_6_method_10_code 33 = .ok (.iconst 0, 1) := by decide +kernel
theorem d_Se_weighOne_34 : decode prog_6_method_10_code 34 = .ok (.istore 4, 2) := by decide +kernel
theorem d_Se_weighOne_36 : decode prog_6_method_10_code 36 = .ok (.iconst 0, 1) := by decide +kernel
theorem d_Se_weighOne_37 : decode prog_6_method_10_code 37 = .ok (.istore 5, 2) := by decide +kernel
theorem d_Se_weighOne_39 : decode prog_6_method_10_code 39 = .ok (.iconst 0, 1) := by decide +kernel
theorem d_Se_weighOne_40 : decode prog_6_method_10_code 40 = .ok (.istore 6, 2) := by decide +kernel
theorem d_Se_weighOne_42 : decode prog_6_method_10_code 42 = .ok (.iload 6, 2) := by decide +kernel
theorem d_Se_weighOne_44 : decode prog_6_method_10_code 44 = .ok (.aload_n 3, 1) := by decide +kernel
theorem d_Se_weighOne_45 : decode prog_6_method_10_code 45 = .ok (.getfield 87, 3) := by decide +kernel
theorem d_Se_weighOne_48 : decode prog_6_method_10_code 48 = .ok (.if_icmp .ge 111, 3) := by decide +kernel
theorem d_Se_weighOne_51 : decode prog_6_method_10_code 51 = .ok (.aload_n 0, 1) := by decide +kernel
theorem d_Se_weighOne_52 : decode prog_6_method_10_code 52 = .ok (.getfield 35, 3) := by decide +kernel
theorem d_Se_weighOne_55 : decode prog_6_method_10_code 55 = .ok (.aload_n 0, 1) := by decide +kernel
theorem d_Se_weighOne_56 : decode prog_6_method_10_code 56 = .ok (.getfield 11, 3) := by decide +kernel
theorem d_Se_weighOne_59 : decode prog_6_method_10_code 59 = .ok (.iload_n 1, 1) := by decide +kernel
theorem d_Se_weighOne_60 : decode prog_6_method_10_code 60 = .ok (.iconst 1, 1) := by decide +kernel
theorem d_Se_weighOne_61 : decode prog_6_method_10_code 61 = .ok (.iadd, 1) := by decide +kernel
theorem d_Se_weighOne_62 : decode prog_6_method_10_code 62 = .ok (.aaload, 1) := by decide +kernel
theorem d_Se_weighOne_63 : decode prog_6_method_10_code 63 = .ok (.aload_n 3, 1) := by decide +kernel
theorem d_Se_weighOne_64 : decode prog_6_method_10_code 64 = .ok (.getfield 90, 3) := by decide +kernel
theorem d_Se_weighOne_67 : decode prog_6_method_10_code 67 = .ok (.iload 6, 2) := by decide +kernel
theorem d_Se_weighOne_69 : decode prog_6_method_10_code 69 = .ok (.iaload, 1) := by decide +kernel
theorem d_Se_weighOne_70 : decode prog_6_method_10_code 70 = .ok (.invokevirtual 109, 3) := by decide +kernel
theorem d_Se_weighOne_73 : decode prog_6_method_10_code 73 = .ok (.aload_n 3, 1) := by decide +kernel
theorem d_Se_weighOne_74 : decode prog_6_method_10_code 74 = .ok (.getfield 122, 3) := by decide +kernel
theorem d_Se_weighOne_77 : decode prog_6_method_10_code 77 = .ok (.iload 6, 2) := by decide +kernel
theorem d_Se_weighOne_79 : decode prog_6_method_10_code 79 = .ok (.iaload, 1) := by decide +kernel
theorem d_Se_weighOne_80 : decode prog_6_method_10_code 80 = .ok (.ifCond .eq 73, 3) := by decide +kernel
theorem d_Se_weighOne_83 : decode prog_6_method_10_code 83 = .ok (.aload_n 0, 1) := by decide +kernel
theorem d_Se_weighOne_84 : decode prog_6_method_10_code 84 = .ok (.getfield 35, 3) := by decide +kernel
theorem d_Se_weighOne_87 : decode prog_6_method_10_code 87 = .ok (.aload_n 0, 1) := by decide +kernel
theorem d_Se_weighOne_88 : decode prog_6_method_10_code 88 = .ok (.getfield 20, 3) := by decide +kernel
theorem d_Se_weighOne_91 : decode prog_6_method_10_code 91 = .ok (.getfield 112, 3) := by decide +kernel
theorem d_Se_weighOne_94 : decode prog_6_method_10_code 94 = .ok (.invokevirtual 115, 3) := by decide +kernel
theorem d_Se_weighOne_97 : decode prog_6_method_10_code 97 = .ok (.ifCond .eq 6, 3) := by decide +kernel
theorem d_Se_weighOne_100 : decode prog_6_method_10_code 100 = .ok (.goto 53, 3) := by decide +kernel
theorem d_Se_weighOne_103 : decode prog_6_method_10_code 103 = .ok (.aload_n 0, 1) := by decide +kernel
theorem d_Se_weighOne_104 : decode prog_6_method_10_code 104 = .ok (.getfield 35, 3) := by decide +kernel
theorem d_Se_weighOne_107 : decode prog_6_method_10_code 107 = .ok (.invokevirtual 128, 3) := by decide +kernel
theorem d_Se_weighOne_110 : decode prog_6_method_10_code 110 = .ok (.aload_n 3, 1) := by decide +kernel
theorem d_Se_weighOne_111 : decode prog_6_method_10_code 111 = .ok (.getfield 119, 3) := by decide +kernel
theorem d_Se_weighOne_114 : decode prog_6_method_10_code 114 = .ok (.iload 6, 2) := by decide +kernel
theorem d_Se_weighOne_116 : decode prog_6_method_10_code 116 = .ok (.iaload, 1) := by decide +kernel
theorem d_Se_weighOne_117 : decode prog_6_method_10_code 117 = .ok (.iadd, 1) := by decide +kernel
theorem d_Se_weighOne_118 : decode prog_6_method_10_code 118 = .ok (.istore 7, 2) := by decide +kernel
theorem d_Se_weighOne_120 : decode prog_6_method_10_code 120 = .ok (.iload 4, 2) := by decide +kernel
theorem d_Se_weighOne_122 : decode prog_6_method_10_code 122 = .ok (.ifCond .ne 8, 3) := by decide +kernel
theorem d_Se_weighOne_125 : decode prog_6_method_10_code 125 = .ok (.iload 7, 2) := by decide +kernel
theorem d_Se_weighOne_127 : decode prog_6_method_10_code 127 = .ok (.goto 10, 3) := by decide +kernel
theorem d_Se_weighOne_130 : decode prog_6_method_10_code 130 = .ok (.iload 5, 2) := by decide +kernel
theorem d_Se_weighOne_132 : decode prog_6_method_10_code 132 = .ok (.iload 7, 2) := by decide +kernel
theorem d_Se_weighOne_134 : decode prog_6_method_10_code 134 = .ok (.invokestatic 132, 3) := by decide +kernel
theorem d_Se_weighOne_137 : decode prog_6_method_10_code 137 = .ok (.istore 5, 2) := by decide +kernel
theorem d_Se_weighOne_139 : decode prog_6_method_10_code 139 = .ok (.iload 4, 2) := by decide +kernel
theorem d_Se_weighOne_141 : decode prog_6_method_10_code 141 = .ok (.aload_n 3, 1) := by decide +kernel
theorem d_Se_weighOne_142 : decode prog_6_method_10_code 142 = .ok (.getfield 122, 3) := by decide +kernel
theorem d_Se_weighOne_145 : decode prog_6_method_10_code 145 = .ok (.iload 6, 2) := by decide +kernel
theorem d_Se_weighOne_147 : decode prog_6_method_10_code 147 = .ok (.iaload, 1) := by decide +kernel
theorem d_Se_weighOne_148 : decode prog_6_method_10_code 148 = .ok (.invokestatic 138, 3) := by decide +kernel
theorem d_Se_weighOne_151 : decode prog_6_method_10_code 151 = .ok (.istore 4, 2) := by decide +kernel
theorem d_Se_weighOne_153 : decode prog_6_method_10_code 153 = .ok (.iinc 6 1, 3) := by decide +kernel
theorem d_Se_weighOne_156 : decode prog_6_method_10_code 156 = .ok (.goto (-114), 3) := by decide +kernel
theorem d_Se_weighOne_159 : decode prog_6_method_10_code 159 = .ok (.aload_n 0, 1) := by decide +kernel
theorem d_Se_weighOne_160 : decode prog_6_method_10_code 160 = .ok (.getfield 26, 3) := by decide +kernel
theorem d_Se_weighOne_163 : decode prog_6_method_10_code 163 = .ok (.iload_n 1, 1) := by decide +kernel
theorem d_Se_weighOne_164 : decode prog_6_method_10_code 164 = .ok (.aaload, 1) := by decide +kernel
theorem d_Se_weighOne_165 : decode prog_6_method_10_code 165 = .ok (.getfield 122, 3) := by decide +kernel
theorem d_Se_weighOne_168 : decode prog_6_method_10_code 168 = .ok (.iload_n 2, 1) := by decide +kernel
theorem d_Se_weighOne_169 : decode prog_6_method_10_code 169 = .ok (.iload 4, 2) := by decide +kernel
theorem d_Se_weighOne_171 : decode prog_6_method_10_code 171 = .ok (.iastore, 1) := by decide +kernel
theorem d_Se_weighOne_172 : decode prog_6_method_10_code 172 = .ok (.aload_n 0, 1) := by decide +kernel
theorem d_Se_weighOne_173 : decode prog_6_method_10_code 173 = .ok (.getfield 26, 3) := by decide +kernel
theorem d_Se_weighOne_176 : decode prog_6_method_10_code 176 = .ok (.iload_n 1, 1) := by decide +kernel
theorem d_Se_weighOne_177 : decode prog_6_method_10_code 177 = .ok (.aaload, 1) := by decide +kernel
theorem d_Se_weighOne_178 : decode prog_6_method_10_code 178 = .ok (.getfield 119, 3) := by decide +kernel
theorem d_Se_weighOne_181 : decode prog_6_method_10_code 181 = .ok (.iload_n 2, 1) := by decide +kernel
theorem d_Se_weighOne_182 : decode prog_6_method_10_code 182 = .ok (.iload 5, 2) := by decide +kernel
theorem d_Se_weighOne_184 : decode prog_6_method_10_code 184 = .ok (.iastore, 1) := by decide +kernel
theorem d_Se_weighOne_185 : decode prog_6_method_10_code 185 = .ok (.return_, 1) := by decide +kernel
theorem d_Se_weigh_0 : decode prog_6_method_9_code 0 = .ok (.aload_n 0, 1) := by decide +kernel
theorem d_Se_weigh_1 : decode prog_6_method_9_code 1 = .ok (.getfield 26, 3) := by decide +kernel
theorem d_Se_weigh_4 : decode prog_6_method_9_code 4 = .ok (.iload_n 1, 1) := by decide +kernel
theorem d_Se_weigh_5 : decode prog_6_method_9_code 5 = .ok (.aaload, 1) := by decide +kernel
theorem d_Se_weigh_6 : decode prog_6_method_9_code 6 = .ok (.astore_n 3, 1) := by decide +kernel
theorem d_Se_weigh_7 : decode prog_6_method_9_code 7 = .ok (.iconst 0, 1) := by decide +kernel
theorem d_Se_weigh_8 : decode prog_6_method_9_code 8 = .ok (.istore 4, 2) := by decide +kernel
theorem d_Se_weigh_10 : decode prog_6_method_9_code 10 = .ok (.iload 4, 2) := by decide +kernel
theorem d_Se_weigh_12 : decode prog_6_method_9_code 12 = .ok (.aload_n 3, 1) := by decide +kernel
theorem d_Se_weigh_13 : decode prog_6_method_9_code 13 = .ok (.getfield 87, 3) := by decide +kernel
theorem d_Se_weigh_16 : decode prog_6_method_9_code 16 = .ok (.if_icmp .ge 64, 3) := by decide +kernel
theorem d_Se_weigh_19 : decode prog_6_method_9_code 19 = .ok (.aload_n 3, 1) := by decide +kernel
theorem d_Se_weigh_20 : decode prog_6_method_9_code 20 = .ok (.getfield 119, 3) := by decide +kernel
theorem d_Se_weigh_23 : decode prog_6_method_9_code 23 = .ok (.iload 4, 2) := by decide +kernel
theorem d_Se_weigh_25 : decode prog_6_method_9_code 25 = .ok (.iconst 0, 1) := by decide +kernel
theorem d_Se_weigh_26 : decode prog_6_method_9_code 26 = .ok (.iastore, 1) := by decide +kernel
theorem d_Se_weigh_27 : decode prog_6_method_9_code 27 = .ok (.aload_n 3, 1) := by decide +kernel
theorem d_Se_weigh_28 : decode prog_6_method_9_code 28 = .ok (.getfield 122, 3) := by decide +kernel
theorem d_Se_weigh_31 : decode prog_6_method_9_code 31 = .ok (.iload 4, 2) := by decide +kernel
theorem d_Se_weigh_33 : decode prog_6_method_9_code 33 = .ok (.iload_n 2, 1) := by decide +kernel
theorem d_Se_weigh_34 : decode prog_6_method_9_code 34 = .ok (.ifCond .eq 17, 3) := by decide +kernel
theorem d_Se_weigh_37 : decode prog_6_method_9_code 37 = .ok (.aload_n 3, 1) := by decide +kernel
theorem d_Se_weigh_38 : decode prog_6_method_9_code 38 = .ok (.getfield 93, 3) := by decide +kernel
theorem d_Se_weigh_41 : decode prog_6_method_9_code 41 = .ok (.iload 4, 2) := by decide +kernel
theorem d_Se_weigh_43 : decode prog_6_method_9_code 43 = .ok (.baload, 1) := by decide +kernel
theorem d_Se_weigh_44 : decode prog_6_method_9_code 44 = .ok (.ifCond .eq 7, 3) := by decide +kernel
theorem d_Se_weigh_47 : decode prog_6_method_9_code 47 = .ok (.iconst 1, 1) := by decide +kernel
theorem d_Se_weigh_48 : decode prog_6_method_9_code 48 = .ok (.goto 4, 3) := by decide +kernel
theorem d_Se_weigh_51 : decode prog_6_method_9_code 51 = .ok (.iconst 0, 1) := by decide +kernel
theorem d_Se_weigh_52 : decode prog_6_method_9_code 52 = .ok (.iastore, 1) := by decide +kernel
theorem d_Se_weigh_53 : decode prog_6_method_9_code 53 = .ok (.iload_n 2, 1) := by decide +kernel
theorem d_Se_weigh_54 : decode prog_6_method_9_code 54 = .ok (.ifCond .ne 20, 3) := by decide +kernel
theorem d_Se_weigh_57 : decode prog_6_method_9_code 57 = .ok (.aload_n 3, 1) := by decide +kernel
theorem d_Se_weigh_58 : decode prog_6_method_9_code 58 = .ok (.getfield 93, 3) := by decide +kernel
theorem d_Se_weigh_61 : decode prog_6_method_9_code 61 = .ok (.iload 4, 2) := by decide +kernel
theorem d_Se_weigh_63 : decode prog_6_method_9_code 63 = .ok (.baload, 1) := by decide +kernel
theorem d_Se_weigh_64 : decode prog_6_method_9_code 64 = .ok (.ifCond .eq 10, 3) := by decide +kernel
theorem d_Se_weigh_67 : decode prog_6_method_9_code 67 = .ok (.aload_n 0, 1) := by decide +kernel
theorem d_Se_weigh_68 : decode prog_6_method_9_code 68 = .ok (.iload_n 1, 1) := by decide +kernel
theorem d_Se_weigh_69 : decode prog_6_method_9_code 69 = .ok (.iload 4, 2) := by decide +kernel
theorem d_Se_weigh_71 : decode prog_6_method_9_code 71 = .ok (.invokevirtual 124, 3) := by decide +kernel
theorem d_Se_weigh_74 : decode prog_6_method_9_code 74 = .ok (.iinc 4 1, 3) := by decide +kernel
theorem d_Se_weigh_77 : decode prog_6_method_9_code 77 = .ok (.goto (-67), 3) := by decide +kernel
theorem d_Se_weigh_80 : decode prog_6_method_9_code 80 = .ok (.return_, 1) := by decide +kernel
theorem d_Ru_farFromHome_0 : decode prog_5_method_2_code 0 = .ok (.iconst 0, 1) := by decide +kernel
theorem d_Ru_farFromHome_1 : decode prog_5_method_2_code 1 = .ok (.istore_n 2, 1) := by decide +kernel
theorem d_Ru_farFromHome_2 : decode prog_5_method_2_code 2 = .ok (.iconst 0, 1) := by decide +kernel
theorem d_Ru_farFromHome_3 : decode prog_5_method_2_code 3 = .ok (.istore_n 3, 1) := by decide +kernel
theorem d_Ru_farFromHome_4 : decode prog_5_method_2_code 4 = .ok (.iload_n 3, 1) := by decide +kernel
theorem d_Ru_farFromHome_5 : decode prog_5_method_2_code 5 = .ok (.iconst 3, 1) := by decide +kernel
theorem d_Ru_farFromHome_6 : decode prog_5_method_2_code 6 = .ok (.if_icmp .ge 27, 3) := by decide +kernel
theorem d_Ru_farFromHome_9 : decode prog_5_method_2_code 9 = .ok (.iload_n 2, 1) := by decide +kernel
theorem d_Ru_farFromHome_10 : decode prog_5_method_2_code 10 = .ok (.iload_n 1, 1) := by decide +kernel
theorem d_Ru_farFromHome_11 : decode prog_5_method_2_code 11 = .ok (.iload_n 3, 1) := by decide +kernel
theorem d_Ru_farFromHome_12 : decode prog_5_method_2_code 12 = .ok (.invokestatic 28, 3) := by decide +kernel
theorem d_Ru_farFromHome_15 : decode prog_5_method_2_code 15 = .ok (.aload_n 0, 1) := by decide +kernel
theorem d_Ru_farFromHome_16 : decode prog_5_method_2_code 16 = .ok (.getfield 18, 3) := by decide +kernel
theorem d_Ru_farFromHome_19 : decode prog_5_method_2_code 19 = .ok (.iload_n 3, 1) := by decide +kernel
theorem d_Ru_farFromHome_20 : decode prog_5_method_2_code 20 = .ok (.iaload, 1) := by decide +kernel
theorem d_Ru_farFromHome_21 : decode prog_5_method_2_code 21 = .ok (.isub, 1) := by decide +kernel
theorem d_Ru_farFromHome_22 : decode prog_5_method_2_code 22 = .ok (.invokestatic 32, 3) := by decide +kernel
theorem d_Ru_farFromHome_25 : decode prog_5_method_2_code 25 = .ok (.iadd, 1) := by decide +kernel
theorem d_Ru_farFromHome_26 : decode prog_5_method_2_code 26 = .ok (.istore_n 2, 1) := by decide +kernel
theorem d_Ru_farFromHome_27 : decode prog_5_method_2_code 27 = .ok (.iinc 3 1, 3) := by decide +kernel
theorem d_Ru_farFromHome_30 : decode prog_5_method_2_code 30 = .ok (.goto (-26), 3) := by decide +kernel
theorem d_Ru_farFromHome_33 : decode prog_5_method_2_code 33 = .ok (.iload_n 2, 1) := by decide +kernel
theorem d_Ru_farFromHome_34 : decode prog_5_method_2_code 34 = .ok (.ireturn, 1) := by decide +kernel
theorem d_Se_pickFirst_0 : decode prog_6_method_12_code 0 = .ok (.aload_n 0, 1) := by decide +kernel
theorem d_Se_pickFirst_1 : decode prog_6_method_12_code 1 = .ok (.getfield 26, 3) := by decide +kernel
theorem d_Se_pickFirst_4 : decode prog_6_method_12_code 4 = .ok (.iconst 0, 1) := by decide +kernel
theorem d_Se_pickFirst_5 : decode prog_6_method_12_code 5 = .ok (.aaload, 1) := by decide +kernel
theorem d_Se_pickFirst_6 : decode prog_6_method_12_code 6 = .ok (.astore_n 1, 1) := by decide +kernel
theorem d_Se_pickFirst_7 : decode prog_6_method_12_code 7 = .ok (.iconst 0, 1) := by decide +kernel
theorem d_Se_pickFirst_8 : decode prog_6_method_12_code 8 = .ok (.istore_n 2, 1) := by decide +kernel
theorem d_Se_pickFirst_9 : decode prog_6_method_12_code 9 = .ok (.iload_n 2, 1) := by decide +kernel
theorem d_Se_pickFirst_10 : decode prog_6_method_12_code 10 = .ok (.aload_n 1, 1) := by decide +kernel
theorem d_Se_pickFirst_11 : decode prog_6_method_12_code 11 = .ok (.getfield 87, 3) := by decide +kernel
theorem d_Se_pickFirst_14 : decode prog_6_method_12_code 14 = .ok (.if_icmp .ge 91, 3) := by decide +kernel
theorem d_Se_pickFirst_17 : decode prog_6_method_12_code 17 = .ok (.aload_n 1, 1) := by decide +kernel
theorem d_Se_pickFirst_18 : decode prog_6_method_12_code 18 = .ok (.getfield 122, 3) := by decide +kernel
theorem d_Se_pickFirst_21 : decode prog_6_method_12_code 21 = .ok (.iload_n 2, 1) := by decide +kernel
theorem d_Se_pickFirst_22 : decode prog_6_method_12_code 22 = .ok (.iaload, 1) := by decide +kernel
theorem d_Se_pickFirst_23 : decode prog_6_method_12_code 23 = .ok (.ifCond .ne 6, 3) := by decide +kernel
theorem d_Se_pickFirst_26 : decode prog_6_method_12_code 26 = .ok (.goto 73, 3) := by decide +kernel
theorem d_Se_pickFirst_29 : decode prog_6_method_12_code 29 = .ok (.aload_n 0, 1) := by decide +kernel
theorem d_Se_pickFirst_30 : decode prog_6_method_12_code 30 = .ok (.getfield 20, 3) := by decide +kernel
theorem d_Se_pickFirst_33 : decode prog_6_method_12_code 33 = .ok (.aload_n 1, 1) := by decide +kernel
theorem d_Se_pickFirst_34 : decode prog_6_method_12_code 34 = .ok (.getfield 90, 3) := by decide +kernel
theorem d_Se_pickFirst_37 : decode prog_6_method_12_code 37 = .ok (.iload_n 2, 1) := by decide +kernel
theorem d_Se_pickFirst_38 : decode prog_6_method_12_code 38 = .ok (.iaload, 1) := by decide +kernel
theorem d_Se_pickFirst_39 : decode prog_6_method_12_code 39 = .ok (.invokevirtual 142, 3) := by decide +kernel
theorem d_Se_pickFirst_42 : decode prog_6_method_12_code 42 = .ok (.aload_n 1, 1) := by decide +kernel
theorem d_Se_pickFirst_43 : decode prog_6_method_12_code 43 = .ok (.getfield 119, 3) := by decide +kernel
theorem d_Se_pickFirst_46 : decode prog_6_method_12_code 46 = .ok (.iload_n 2, 1) := by decide +kernel
theorem d_Se_pickFirst_47 : decode prog_6_method_12_code 47 = .ok (.iaload, 1) := by decide +kernel
theorem d_Se_pickFirst_48 : decode prog_6_method_12_code 48 = .ok (.iadd, 1) := by decide +kernel
theorem d_Se_pickFirst_49 : decode prog_6_method_12_code 49 = .ok (.istore_n 3, 1) := by decide +kernel
theorem d_Se_pickFirst_50 : decode prog_6_method_12_code 50 = .ok (.aload_n 0, 1) := by decide +kernel
theorem d_Se_pickFirst_51 : decode prog_6_method_12_code 51 = .ok (.getfield 58, 3) := by decide +kernel
theorem d_Se_pickFirst_54 : decode prog_6_method_12_code 54 = .ok (.ifCond .eq 11, 3) := by decide +kernel
theorem d_Se_pickFirst_57 : decode prog_6_method_12_code 57 = .ok (.iload_n 3, 1) := by decide +kernel
theorem d_Se_pickFirst_58 : decode prog_6_method_12_code 58 = .ok (.aload_n 0, 1) := by decide +kernel
theorem d_Se_pickFirst_59 : decode prog_6_method_12_code 59 = .ok (.getfield 61, 3) := by decide +kernel
theorem d_Se_pickFirst_62 : decode prog_6_method_12_code 62 = .ok (.if_icmp .ge 20, 3) := by decide +kernel
theorem d_Se_pickFirst_65 : decode prog_6_method_12_code 65 = .ok (.aload_n 0, 1) := by decide +kernel
theorem d_Se_pickFirst_66 : decode prog_6_method_12_code 66 = .ok (.iload_n 3, 1) := by decide +kernel
theorem d_Se_pickFirst_67 : decode prog_6_method_12_code 67 = .ok (.putfield 61, 3) := by decide +kernel
theorem d_Se_pickFirst_70 : decode prog_6_method_12_code 70 = .ok (.aload_n 0, 1) := by decide +kernel
theorem d_Se_pickFirst_71 : decode prog_6_method_12_code 71 = .ok (.getfield 39, 3) := by decide +kernel
theorem d_Se_pickFirst_74 : decode prog_6_method_12_code 74 = .ok (.iconst 0, 1) := by decide +kernel
theorem d_Se_pickFirst_75 : decode prog_6_method_12_code 75 = .ok (.aload_n 1, 1) := by decide +kernel
theorem d_Se_pickFirst_76 : decode prog_6_method_12_code 76 = .ok (.getfield 90, 3) := by decide +kernel
theorem d_Se_pickFirst_79 : decode prog_6_method_12_code 79 = .ok (.iload_n 2, 1) := by decide +kernel
theorem d_Se_pickFirst_80 : decode prog_6_method_12_code 80 = .ok (.iaload, 1) := by decide +kernel
theorem d_Se_pickFirst_81 : decode prog_6_method_12_code 81 = .ok (.iastore, 1) := by decide +kernel
theorem d_Se_pickFirst_82 : decode prog_6_method_12_code 82 = .ok (.aload_n 0, 1) := by decide +kernel
theorem d_Se_pickFirst_83 : decode prog_6_method_12_code 83 = .ok (.aload_n 0, 1) := by decide +kernel
theorem d_Se_pickFirst_84 : decode prog_6_method_12_code 84 = .ok (.getfield 58, 3) := by decide +kernel
theorem d_Se_pickFirst_87 : decode prog_6_method_12_code 87 = .ok (.aload_n 1, 1) := by decide +kernel
theorem d_Se_pickFirst_88 : decode prog_6_method_12_code 88 = .ok (.getfield 122, 3) := by decide +kernel
theorem d_Se_pickFirst_91 : decode prog_6_method_12_code 91 = .ok (.iload_n 2, 1) := by decide +kernel
theorem d_Se_pickFirst_92 : decode prog_6_method_12_code 92 = .ok (.iaload, 1) := by decide +kernel
theorem d_Se_pickFirst_93 : decode prog_6_method_12_code 93 = .ok (.invokestatic 138, 3) := by decide +kernel
theorem d_Se_pickFirst_96 : decode prog_6_method_12_code 96 = .ok (.putfield 58, 3) := by decide +kernel
theorem d_Se_pickFirst_99 : decode prog_6_method_12_code 99 = .ok (.iinc 2 1, 3) := by decide +kernel
theorem d_Se_pickFirst_102 : decode prog_6_method_12_code 102 = .ok (.goto (-93), 3) := by decide +kernel
theorem d_Se_pickFirst_105 : decode prog_6_method_12_code 105 = .ok (.return_, 1) := by decide +kernel
theorem d_Se_pickNext_0 : decode prog_6_method_13_code 0 = .ok (.aload_n 0, 1) := by decide +kernel
theorem d_Se_pickNext_1 : decode prog_6_method_13_code 1 = .ok (.getfield 26, 3) := by decide +kernel
theorem d_Se_pickNext_4 : decode prog_6_method_13_code 4 = .ok (.iload_n 1, 1) := by decide +kernel
theorem d_Se_pickNext_5 : decode prog_6_method_13_code 5 = .ok (.aaload, 1) := by decide +kernel
theorem d_Se_pickNext_6 : decode prog_6_method_13_code 6 = .ok (.astore_n 2, 1) := by decide +kernel
theorem d_Se_pickNext_7 : decode prog_6_method_13_code 7 = .ok (.aload_n 0, 1) := by decide +kernel
theorem d_Se_pickNext_8 : decode prog_6_method_13_code 8 = .ok (.getfield 35, 3) := by decide +kernel
theorem d_Se_pickNext_11 : decode prog_6_method_13_code 11 = .ok (.aload_n 0, 1) := by decide +kernel
theorem d_Se_pickNext_12 : decode prog_6_method_13_code 12 = .ok (.getfield 11, 3) := by decide +kernel
theorem d_Se_pickNext_15 : decode prog_6_method_13_code 15 = .ok (.iload_n 1, 1) := by decide +kernel
theorem d_Se_pickNext_16 : decode prog_6_method_13_code 16 = .ok (.iconst 1, 1) := by decide +kernel
theorem d_Se_pickNext_17 : decode prog_6_method_13_code 17 = .ok (.isub, 1) := by decide +kernel
theorem d_Se_pickNext_18 : decode prog_6_method_13_code 18 = .ok (.aaload, 1) := by decide +kernel
theorem d_Se_pickNext_19 : decode prog_6_method_13_code 19 = .ok (.aload_n 0, 1) := by decide +kernel
theorem d_Se_pickNext_20 : decode prog_6_method_13_code 20 = .ok (.getfield 39, 3) := by decide +kernel
theorem d_Se_pickNext_23 : decode prog_6_method_13_code 23 = .ok (.iload_n 1, 1) := by decide +kernel
theorem d_Se_pickNext_24 : decode prog_6_method_13_code 24 = .ok (.iconst 1, 1) := by decide +kernel
theorem d_Se_pickNext_25 : decode prog_6_method_13_code 25 = .ok (.isub, 1) := by decide +kernel
theorem d_Se_pickNext_26 : decode prog_6_method_13_code 26 = .ok (.iaload, 1) := by decide +kernel
theorem d_Se_pickNext_27 : decode prog_6_method_13_code 27 = .ok (.invokevirtual 105, 3) := by decide +kernel
theorem d_Se_pickNext_30 : decode prog_6_method_13_code 30 = .ok (.iconst (-1), 1) := by decide +kernel
theorem d_Se_pickNext_31 : decode prog_6_method_13_code 31 = .ok (.istore_n 3, 1) := by decide +kernel
theorem d_Se_pickNext_32 : decode prog_6_method_13_code 32 = .ok (.iconst 0, 1) := by decide +kernel
theorem d_Se_pickNext_33 : decode prog_6_method_13_code 33 = .ok (.istore 4, 2) := by decide +kernel
theorem d_Se_pickNext_35 : decode prog_6_method_13_code 35 = .ok (.iload 4, 2) := by decide +kernel
theorem d_Se_pickNext_37 : decode prog_6_method_13_code 37 = .ok (.aload_n 2, 1) := by decide +kernel
theorem d_Se_pickNext_38 : decode prog_6_method_13_code 38 = .ok (.getfield 87, 3) := by decide +kernel
theorem d_Se_pickNext_41 : decode prog_6_method_13_code 41 = .ok (.if_icmp .ge 103, 3) := by decide +kernel
theorem d_Se_pickNext_44 : decode prog_6_method_13_code 44 = .ok (.aload_n 0, 1) := by decide +kernel
theorem d_Se_pickNext_45 : decode prog_6_method_13_code 45 = .ok (.getfield 35, 3) := by decide +kernel
theorem d_Se_pickNext_48 : decode prog_6_method_13_code 48 = .ok (.aload_n 0, 1) := by decide +kernel
theorem d_Se_pickNext_49 : decode prog_6_method_13_code 49 = .ok (.getfield 11, 3) := by decide +kernel
theorem d_Se_pickNext_52 : decode prog_6_method_13_code 52 = .ok (.iload_n 1, 1) := by decide +kernel
theorem d_Se_pickNext_53 : decode prog_6_method_13_code 53 = .ok (.aaload, 1) := by decide +kernel
theorem d_Se_pickNext_54 : decode prog_6_method_13_code 54 = .ok (.aload_n 2, 1) := by decide +kernel
theorem d_Se_pickNext_55 : decode prog_6_method_13_code 55 = .ok (.getfield 90, 3) := by decide +kernel
theorem d_Se_pickNext_58 : decode prog_6_method_13_code 58 = .ok (.iload 4, 2) := by decide +kernel
theorem d_Se_pickNext_60 : decode prog_6_method_13_code 60 = .ok (.iaload, 1) := by decide +kernel
theorem d_Se_pickNext_61 : decode prog_6_method_13_code 61 = .ok (.invokevirtual 109, 3) := by decide +kernel
theorem d_Se_pickNext_64 : decode prog_6_method_13_code 64 = .ok (.aload_n 2, 1) := by decide +kernel
theorem d_Se_pickNext_65 : decode prog_6_method_13_code 65 = .ok (.getfield 122, 3) := by decide +kernel
theorem d_Se_pickNext_68 : decode prog_6_method_13_code 68 = .ok (.iload 4, 2) := by decide +kernel
theorem d_Se_pickNext_70 : decode prog_6_method_13_code 70 = .ok (.iaload, 1) := by decide +kernel
theorem d_Se_pickNext_71 : decode prog_6_method_13_code 71 = .ok (.ifCond .eq 67, 3) := by decide +kernel
theorem d_Se_pickNext_74 : decode prog_6_method_13_code 74 = .ok (.aload_n 0, 1) := by decide +kernel
theorem d_Se_pickNext_75 : decode prog_6_method_13_code 75 = .ok (.getfield 35, 3) := by decide +kernel
theorem d_Se_pickNext_78 : decode prog_6_method_13_code 78 = .ok (.aload_n 0, 1) := by decide +kernel
theorem d_Se_pickNext_79 : decode prog_6_method_13_code 79 = .ok (.getfield 20, 3) := by decide +kernel
theorem d_Se_pickNext_82 : decode prog_6_method_13_code 82 = .ok (.getfield 112, 3) := by decide +kernel
theorem d_Se_pickNext_85 : decode prog_6_method_13_code 85 = .ok (.invokevirtual 115, 3) := by decide +kernel
theorem d_Se_pickNext_88 : decode prog_6_method_13_code 88 = .ok (.ifCond .eq 6, 3) := by decide +kernel
theorem d_Se_pickNext_91 : decode prog_6_method_13_code 91 = .ok (.goto 47, 3) := by decide +kernel
theorem d_Se_pickNext_94 : decode prog_6_method_13_code 94 = .ok (.aload_n 0, 1) := by decide +kernel
theorem d_Se_pickNext_95 : decode prog_6_method_13_code 95 = .ok (.getfield 35, 3) := by decide +kernel
theorem d_Se_pickNext_98 : decode prog_6_method_13_code 98 = .ok (.invokevirtual 128, 3) := by decide +kernel
theorem d_Se_pickNext_101 : decode prog_6_method_13_code 101 = .ok (.aload_n 2, 1) := by decide +kernel
theorem d_Se_pickNext_102 : decode prog_6_method_13_code 102 = .ok (.getfield 119, 3) := by decide +kernel
theorem d_Se_pickNext_105 : decode prog_6_method_13_code 105 = .ok (.iload 4, 2) := by decide +kernel
theorem d_Se_pickNext_107 : decode prog_6_method_13_code 107 = .ok (.iaload, 1) := by decide +kernel
theorem d_Se_pickNext_108 : decode prog_6_method_13_code 108 = .ok (.iadd, 1) := by decide +kernel
theorem d_Se_pickNext_109 : decode prog_6_method_13_code 109 = .ok (.istore 5, 2) := by decide +kernel
theorem d_Se_pickNext_111 : decode prog_6_method_13_code 111 = .ok (.iload_n 3, 1) := by decide +kernel
theorem d_Se_pickNext_112 : decode prog_6_method_13_code 112 = .ok (.iconst (-1), 1) := by decide +kernel
theorem d_Se_pickNext_113 : decode prog_6_method_13_code 113 = .ok (.if_icmp .eq 9, 3) := by decide +kernel
theorem d_Se_pickNext_116 : decode prog_6_method_13_code 116 = .ok (.iload 5, 2) := by decide +kernel
theorem d_Se_pickNext_118 : decode prog_6_method_13_code 118 = .ok (.iload_n 3, 1) := by decide +kernel
theorem d_Se_pickNext_119 : decode prog_6_method_13_code 119 = .ok (.if_icmp .ge 19, 3) := by decide +kernel
theorem d_Se_pickNext_122 : decode prog_6_method_13_code 122 = .ok (.iload 5, 2) := by decide +kernel
theorem d_Se_pickNext_124 : decode prog_6_method_13_code 124 = .ok (.istore_n 3, 1) := by decide +kernel
theorem d_Se_pickNext_125 : decode prog_6_method_13_code 125 = .ok (.aload_n 0, 1) := by decide +kernel
theorem d_Se_pickNext_126 : decode prog_6_method_13_code 126 = .ok (.getfield 39, 3) := by decide +kernel
theorem d_Se_pickNext_129 : decode prog_6_method_13_code 129 = .ok (.iload_n 1, 1) := by decide +kernel
theorem d_Se_pickNext_130 : decode prog_6_method_13_code 130 = .ok (.aload_n 2, 1) := by decide +kernel
theorem d_Se_pickNext_131 : decode prog_6_method_13_code 131 = .ok (.getfield 90, 3) := by decide +kernel
theorem d_Se_pickNext_134 : decode prog_6_method_13_code 134 = .ok (.iload 4, 2) := by decide +kernel
theorem d_Se_pickNext_136 : decode prog_6_method_13_code 136 = .ok (.iaload, 1) := by decide +kernel
theorem d_Se_pickNext_137 : decode prog_6_method_13_code 137 = .ok (.iastore, 1) := by decide +kernel
theorem d_Se_pickNext_138 : decode prog_6_method_13_code 138 = .ok (.iinc 4 1, 3) := by decide +kernel
theorem d_Se_pickNext_141 : decode prog_6_method_13_code 141 = .ok (.goto (-106), 3) := by decide +kernel
theorem d_Se_pickNext_144 : decode prog_6_method_13_code 144 = .ok (.return_, 1) := by decide +kernel
theorem d_Se_settle_0 : decode prog_6_method_6_code 0 = .ok (.aload_n 0, 1) := by decide +kernel
theorem d_Se_settle_1 : decode prog_6_method_6_code 1 = .ok (.getfield 51, 3) := by decide +kernel
theorem d_Se_settle_4 : decode prog_6_method_6_code 4 = .ok (.ifCond .eq 4, 3) := by decide +kernel
theorem d_Se_settle_7 : decode prog_6_method_6_code 7 = .ok (.return_, 1) := by decide +kernel
theorem d_Se_settle_8 : decode prog_6_method_6_code 8 = .ok (.aload_n 0, 1) := by decide +kernel
theorem d_Se_settle_9 : decode prog_6_method_6_code 9 = .ok (.iconst 1, 1) := by decide +kernel
theorem d_Se_settle_10 : decode prog_6_method_6_code 10 = .ok (.putfield 51, 3) := by decide +kernel
theorem d_Se_settle_13 : decode prog_6_method_6_code 13 = .ok (.aload_n 0, 1) := by decide +kernel
theorem d_Se_settle_14 : decode prog_6_method_6_code 14 = .ok (.iconst 0, 1) := by decide +kernel
theorem d_Se_settle_15 : decode prog_6_method_6_code 15 = .ok (.putfield 58, 3) := by decide +kernel
theorem d_Se_settle_18 : decode prog_6_method_6_code 18 = .ok (.aload_n 0, 1) := by decide +kernel
theorem d_Se_settle_19 : decode prog_6_method_6_code 19 = .ok (.iconst 0, 1) := by decide +kernel
theorem d_Se_settle_20 : decode prog_6_method_6_code 20 = .ok (.putfield 61, 3) := by decide +kernel
theorem d_Se_settle_23 : decode prog_6_method_6_code 23 = .ok (.aload_n 0, 1) := by decide +kernel
theorem d_Se_settle_24 : decode prog_6_method_6_code 24 = .ok (.iconst (-1), 1) := by decide +kernel
theorem d_Se_settle_25 : decode prog_6_method_6_code 25 = .ok (.putfield 43, 3) := by decide +kernel
theorem d_Se_settle_28 : decode prog_6_method_6_code 28 = .ok (.iconst 0, 1) := by decide +kernel
theorem d_Se_settle_29 : decode prog_6_method_6_code 29 = .ok (.istore_n 2, 1) := by decide +kernel
theorem d_Se_settle_30 : decode prog_6_method_6_code 30 = .ok (.iload_n 2, 1) := by decide +kernel
theorem d_Se_settle_31 : decode prog_6_method_6_code 31 = .ok (.iload_n 1, 1) := by decide +kernel
theorem d_Se_settle_32 : decode prog_6_method_6_code 32 = .ok (.if_icmp .ge 37, 3) := by decide +kernel
theorem d_Se_settle_35 : decode prog_6_method_6_code 35 = .ok (.aload_n 0, 1) := by decide +kernel
theorem d_Se_settle_36 : decode prog_6_method_6_code 36 = .ok (.iload_n 2, 1) := by decide +kernel
theorem d_Se_settle_37 : decode prog_6_method_6_code 37 = .ok (.aload_n 0, 1) := by decide +kernel
theorem d_Se_settle_38 : decode prog_6_method_6_code 38 = .ok (.iload_n 2, 1) := by decide +kernel
theorem d_Se_settle_39 : decode prog_6_method_6_code 39 = .ok (.invokevirtual 64, 3) := by decide +kernel
theorem d_Se_settle_42 : decode prog_6_method_6_code 42 = .ok (.invokevirtual 68, 3) := by decide +kernel
theorem d_Se_settle_45 : decode prog_6_method_6_code 45 = .ok (.aload_n 0, 1) := by decide +kernel
theorem d_Se_settle_46 : decode prog_6_method_6_code 46 = .ok (.getfield 26, 3) := by decide +kernel
theorem d_Se_settle_49 : decode prog_6_method_6_code 49 = .ok (.iload_n 2, 1) := by decide +kernel
theorem d_Se_settle_50 : decode prog_6_method_6_code 50 = .ok (.aaload, 1) := by decide +kernel
theorem d_Se_settle_51 : decode prog_6_method_6_code 51 = .ok (.invokevirtual 72, 3) := by decide +kernel
theorem d_Se_settle_54 : decode prog_6_method_6_code 54 = .ok (.ifCond .ne 9, 3) := by decide +kernel
theorem d_Se_settle_57 : decode prog_6_method_6_code 57 = .ok (.aload_n 0, 1) := by decide +kernel
theorem d_Se_settle_58 : decode prog_6_method_6_code 58 = .ok (.iload_n 2, 1) := by decide +kernel
theorem d_Se_settle_59 : decode prog_6_method_6_code 59 = .ok (.putfield 43, 3) := by decide +kernel
theorem d_Se_settle_62 : decode prog_6_method_6_code 62 = .ok (.return_, 1) := by decide +kernel
theorem d_Se_settle_63 : decode prog_6_method_6_code 63 = .ok (.iinc 2 1, 3) := by decide +kernel
theorem d_Se_settle_66 : decode prog_6_method_6_code 66 = .ok (.goto (-36), 3) := by decide +kernel
theorem d_Se_settle_69 : decode prog_6_method_6_code 69 = .ok (.iload_n 1, 1) := by decide +kernel
theorem d_Se_settle_70 : decode prog_6_method_6_code 70 = .ok (.iconst 1, 1) := by decide +kernel
theorem d_Se_settle_71 : decode prog_6_method_6_code 71 = .ok (.isub, 1) := by decide +kernel
theorem d_Se_settle_72 : decode prog_6_method_6_code 72 = .ok (.istore_n 2, 1) := by decide +kernel
theorem d_Se_settle_73 : decode prog_6_method_6_code 73 = .ok (.iload_n 2, 1) := by decide +kernel
theorem d_Se_settle_74 : decode prog_6_method_6_code 74 = .ok (.ifCond .lt 26, 3) := by decide +kernel
theorem d_Se_settle_77 : decode prog_6_method_6_code 77 = .ok (.aload_n 0, 1) := by decide +kernel
theorem d_Se_settle_78 : decode prog_6_method_6_code 78 = .ok (.iload_n 2, 1) := by decide +kernel
theorem d_Se_settle_79 : decode prog_6_method_6_code 79 = .ok (.iload_n 2, 1) := by decide +kernel
theorem d_Se_settle_80 : decode prog_6_method_6_code 80 = .ok (.iload_n 1, 1) := by decide +kernel
theorem d_Se_settle_81 : decode prog_6_method_6_code 81 = .ok (.iconst 1, 1) := by decide +kernel
theorem d_Se_settle_82 : decode prog_6_method_6_code 82 = .ok (.isub, 1) := by decide +kernel
theorem d_Se_settle_83 : decode prog_6_method_6_code 83 = .ok (.if_icmp .ne 7, 3) := by decide +kernel
theorem d_Se_settle_86 : decode prog_6_method_6_code 86 = .ok (.iconst 1, 1) := by decide +kernel
theorem d_Se_settle_87 : decode prog_6_method_6_code 87 = .ok (.goto 4, 3) := by decide +kernel
theorem d_Se_settle_90 : decode prog_6_method_6_code 90 = .ok (.iconst 0, 1) := by decide +kernel
theorem d_Se_settle_91 : decode prog_6_method_6_code 91 = .ok (.invokevirtual 76, 3) := by decide +kernel
theorem d_Se_settle_94 : decode prog_6_method_6_code 94 = .ok (.iinc 2 (-1), 3) := by decide +kernel
theorem d_Se_settle_97 : decode prog_6_method_6_code 97 = .ok (.goto (-24), 3) := by decide +kernel
theorem d_Se_settle_100 : decode prog_6_method_6_code 100 = .ok (.aload_n 0, 1) := by decide +kernel
theorem d_Se_settle_101 : decode prog_6_method_6_code 101 = .ok (.invokevirtual 80, 3) := by decide +kernel
theorem d_Se_settle_104 : decode prog_6_method_6_code 104 = .ok (.iconst 1, 1) := by decide +kernel
theorem d_Se_settle_105 : decode prog_6_method_6_code 105 = .ok (.istore_n 2, 1) := by decide +kernel
theorem d_Se_settle_106 : decode prog_6_method_6_code 106 = .ok (.iload_n 2, 1) := by decide +kernel
theorem d_Se_settle_107 : decode prog_6_method_6_code 107 = .ok (.iload_n 1, 1) := by decide +kernel
theorem d_Se_settle_108 : decode prog_6_method_6_code 108 = .ok (.if_icmp .ge 14, 3) := by decide +kernel
theorem d_Se_settle_111 : decode prog_6_method_6_code 111 = .ok (.aload_n 0, 1) := by decide +kernel
theorem d_Se_settle_112 : decode prog_6_method_6_code 112 = .ok (.iload_n 2, 1) := by decide +kernel
theorem d_Se_settle_113 : decode prog_6_method_6_code 113 = .ok (.invokevirtual 83, 3) := by decide +kernel
theorem d_Se_settle_116 : decode prog_6_method_6_code 116 = .ok (.iinc 2 1, 3) := by decide +kernel
theorem d_Se_settle_119 : decode prog_6_method_6_code 119 = .ok (.goto (-13), 3) := by decide +kernel
theorem d_Se_settle_122 : decode prog_6_method_6_code 122 = .ok (.return_, 1) := by decide +kernel
theorem d_Br_solve_0 : decode prog_1_method_15_code 0 = .ok (.aload_n 0, 1) := by decide +kernel
theorem d_Br_solve_1 : decode prog_1_method_15_code 1 = .ok (.getfield 33, 3) := by decide +kernel
theorem d_Br_solve_4 : decode prog_1_method_15_code 4 = .ok (.ifCond .ne 6, 3) := by decide +kernel
theorem d_Br_solve_7 : decode prog_1_method_15_code 7 = .ok (.bipush (-2), 2) := by decide +kernel
theorem d_Br_solve_9 : decode prog_1_method_15_code 9 = .ok (.ireturn, 1) := by decide +kernel
theorem d_Br_solve_10 : decode prog_1_method_15_code 10 = .ok (.aload_n 0, 1) := by decide +kernel
theorem d_Br_solve_11 : decode prog_1_method_15_code 11 = .ok (.getfield 10, 3) := by decide +kernel
theorem d_Br_solve_14 : decode prog_1_method_15_code 14 = .ok (.aload_n 0, 1) := by decide +kernel
theorem d_Br_solve_15 : decode prog_1_method_15_code 15 = .ok (.getfield 33, 3) := by decide +kernel
theorem d_Br_solve_18 : decode prog_1_method_15_code 18 = .ok (.invokevirtual 137, 3) := by decide +kernel
theorem d_Br_solve_21 : decode prog_1_method_15_code 21 = .ok (.aload_n 0, 1) := by decide +kernel
theorem d_Br_solve_22 : decode prog_1_method_15_code 22 = .ok (.getfield 10, 3) := by decide +kernel
theorem d_Br_solve_25 : decode prog_1_method_15_code 25 = .ok (.getfield 140, 3) := by decide +kernel
theorem d_Br_solve_28 : decode prog_1_method_15_code 28 = .ok (.iconst (-1), 1) := by decide +kernel
theorem d_Br_solve_29 : decode prog_1_method_15_code 29 = .ok (.if_icmp .ne 13, 3) := by decide +kernel
theorem d_Br_solve_32 : decode prog_1_method_15_code 32 = .ok (.aload_n 0, 1) := by decide +kernel
theorem d_Br_solve_33 : decode prog_1_method_15_code 33 = .ok (.getfield 10, 3) := by decide +kernel
theorem d_Br_solve_36 : decode prog_1_method_15_code 36 = .ok (.getfield 143, 3) := by decide +kernel
theorem d_Br_solve_39 : decode prog_1_method_15_code 39 = .ok (.goto 13, 3) := by decide +kernel
theorem d_Br_solve_42 : decode prog_1_method_15_code 42 = .ok (.bipush (-10), 2) := by decide +kernel
theorem d_Br_solve_44 : decode prog_1_method_15_code 44 = .ok (.aload_n 0, 1) := by decide +kernel
theorem d_Br_solve_45 : decode prog_1_method_15_code 45 = .ok (.getfield 10, 3) := by decide +kernel
theorem d_Br_solve_48 : decode prog_1_method_15_code 48 = .ok (.getfield 140, 3) := by decide +kernel
theorem d_Br_solve_51 : decode prog_1_method_15_code 51 = .ok (.isub, 1) := by decide +kernel
theorem d_Br_solve_52 : decode prog_1_method_15_code 52 = .ok (.ireturn, 1) := by decide +kernel
def wp_Se_weighOne_153 (K42 : Nat → Int32 → Int32 → Nat → Int32 → Int32 → Int32 → MH → Prop) (Post : MH → Prop) (l0 : Nat) (l1 : Int32) (l2 : Int32) (l3 : Nat) (l4 : Int32) (l5 : Int32) (l6 : Int32) (h : MH) : Prop :=
  K42 l0 l1 l2 l3 l4 l5 (l6 + (1 : Int32)) h
def wp_Se_weighOne_137 (K42 : Nat → Int32 → Int32 → Nat → Int32 → Int32 → Int32 → MH → Prop) (Post : MH → Prop) (l0 : Nat) (l1 : Int32) (l2 : Int32) (l3 : Nat) (l4 : Int32) (l6 : Int32) (y0 : Int32) (h : MH) : Prop :=
  ∃ x142 : Nat, gF h l3 1 2 = some (.inr (some x142)) ∧
  (∃ (n147 : Nat) (f147 : Nat → Int32), gA h x142 0 = some (n147, f147) ∧ vp_in l6 n147 ∧
    (wp_Se_joined (fun (r148 : Int32) (h148 : MH) =>
        (wp_Se_weighOne_153 K42 Post l0 l1 l2 l3 r148 y0 l6 h148)) l4 (f147 (l6).toNatClampNeg) h))
def wb_Se_weighOne_42 (K42 : Nat → Int32 → Int32 → Nat → Int32 → Int32 → Int32 → MH → Prop) (Post : MH → Prop) (l0 : Nat) (l1 : Int32) (l2 : Int32) (l3 : Nat) (l4 : Int32) (l5 : Int32) (l6 : Int32) (h : MH) : Prop :=
  ∃ x45 : Int32, gF h l3 1 4 = some (.inl x45) ∧
  (((x45 ≤ l6) →
      (∃ x160 : Nat, gF h l0 4 2 = some (.inr (some x160)) ∧
        (∃ (n164 : Nat) (f164 : Nat → Option Nat) (q164 : Nat), gR h x160 4 = some (n164, f164) ∧ vp_in l1 n164 ∧ f164 (l1).toNatClampNeg = some q164 ∧
          (∃ x165 : Nat, gF h q164 1 2 = some (.inr (some x165)) ∧
            (∃ (n171 : Nat) (f171 : Nat → Int32), gA h x165 0 = some (n171, f171) ∧ vp_in l2 n171 ∧ ∀ h171 : MH, h171 = mset h x165 (.inr (0, n171, .inl (upd f171 (l2).toNatClampNeg l4))) →
              (∃ x173 : Nat, gF h171 l0 4 2 = some (.inr (some x173)) ∧
                (∃ (n177 : Nat) (f177 : Nat → Option Nat) (q177 : Nat), gR h171 x173 4 = some (n177, f177) ∧ vp_in l1 n177 ∧ f177 (l1).toNatClampNeg = some q177 ∧
                  (∃ x178 : Nat, gF h171 q177 1 3 = some (.inr (some x178)) ∧
                    (∃ (n184 : Nat) (f184 : Nat → Int32), gA h171 x178 0 = some (n184, f184) ∧ vp_in l2 n184 ∧ ∀ h184 : MH, h184 = mset h171 x178 (.inr (0, n184, .inl (upd f184 (l2).toNatClampNeg l5))) →
                      (Post h184)))))))))) ∧
    ((¬ x45 ≤ l6) →
      (∃ x52 : Nat, gF h l0 4 3 = some (.inr (some x52)) ∧
        (∃ x56 : Nat, gF h l0 4 0 = some (.inr (some x56)) ∧
          (∃ (n62 : Nat) (f62 : Nat → Option Nat) (q62 : Nat), gR h x56 3 = some (n62, f62) ∧ vp_in (l1 + (1 : Int32)) n62 ∧ f62 (l1 + (1 : Int32)).toNatClampNeg = some q62 ∧
            (∃ x64 : Nat, gF h l3 1 0 = some (.inr (some x64)) ∧
              (∃ (n69 : Nat) (f69 : Nat → Int32), gA h x64 0 = some (n69, f69) ∧ vp_in l6 n69 ∧
                (gC h x52 = some 2 ∧ wp_Mv_arrive (fun (h70 : MH) =>
                    (∃ x74 : Nat, gF h70 l3 1 2 = some (.inr (some x74)) ∧
                      (∃ (n79 : Nat) (f79 : Nat → Int32), gA h70 x74 0 = some (n79, f79) ∧ vp_in l6 n79 ∧
                        ((((f79 (l6).toNatClampNeg) = 0) →
                        (wp_Se_weighOne_153 K42 Post l0 l1 l2 l3 l4 l5 l6 h70)) ∧
                        ((¬ (f79 (l6).toNatClampNeg) = 0) →
                        (∃ x84 : Nat, gF h70 l0 4 3 = some (.inr (some x84)) ∧
                        (∃ x88 : Nat, gF h70 l0 4 1 = some (.inr (some x88)) ∧
                        (∃ x91 : Int32, gF h70 x88 3 3 = some (.inl x91) ∧
                        (gC h70 x84 = some 2 ∧ wp_Mv_rule (fun (r94 : Int32) (h94 : MH) =>
                        (((r94 = 0) →
                        (∃ x104 : Nat, gF h94 l0 4 3 = some (.inr (some x104)) ∧
                        (gC h94 x104 = some 2 ∧ wp_Mv_length (fun (r107 : Int32) (h107 : MH) =>
                        (∃ x111 : Nat, gF h107 l3 1 3 = some (.inr (some x111)) ∧
                        (∃ (n116 : Nat) (f116 : Nat → Int32), gA h107 x111 0 = some (n116, f116) ∧ vp_in l6 n116 ∧
                        (∀ z118 : Int32, z118 = r107 + (f116 (l6).toNatClampNeg) →
                        (((¬ l4 = 0) →
                        (wp_Se_weighOne_137 K42 Post l0 l1 l2 l3 l4 l6 (if z118 < l5 then z118 else l5) h107)) ∧
                        ((l4 = 0) →
                        (wp_Se_weighOne_137 K42 Post l0 l1 l2 l3 l4 l6 z118 h107))))))) x104 h94))) ∧
                        ((¬ r94 = 0) →
                        (wp_Se_weighOne_153 K42 Post l0 l1 l2 l3 l4 l5 l6 h94)))) x84 x91 h70))))))))) x52 q62 (f69 (l6).toNatClampNeg) h))))))))
def wn_Se_weighOne_42 (Post : MH → Prop) : Nat → Nat → Int32 → Int32 → Nat → Int32 → Int32 → Int32 → MH → Prop
  | 0 => fun _ _ _ _ _ _ _ _ => False
  | n + 1 => wb_Se_weighOne_42 (wn_Se_weighOne_42 Post n) Post
def wp_Se_weighOne_42 (Post : MH → Prop) (l0 : Nat) (l1 : Int32) (l2 : Int32) (l3 : Nat) (l4 : Int32) (l5 : Int32) (l6 : Int32) (h : MH) : Prop := ∃ n, wn_Se_weighOne_42 Post n l0 l1 l2 l3 l4 l5 l6 h
def wp_Se_weighOne (Post : MH → Prop) (l0 : Nat) (l1 : Int32) (l2 : Int32) (h : MH) : Prop :=
  ∃ x1 : Nat, gF h l0 4 2 = some (.inr (some x1)) ∧
  (∃ (n7 : Nat) (f7 : Nat → Option Nat) (q7 : Nat), gR h x1 4 = some (n7, f7) ∧ vp_in (l1 + (1 : Int32)) n7 ∧ f7 (l1 + (1 : Int32)).toNatClampNeg = some q7 ∧
    (∃ x10 : Nat, gF h l0 4 3 = some (.inr (some x10)) ∧
      (∃ x14 : Nat, gF h l0 4 0 = some (.inr (some x14)) ∧
        (∃ (n18 : Nat) (f18 : Nat → Option Nat) (q18 : Nat), gR h x14 3 = some (n18, f18) ∧ vp_in l1 n18 ∧ f18 (l1).toNatClampNeg = some q18 ∧
          (∃ x20 : Nat, gF h l0 4 2 = some (.inr (some x20)) ∧
            (∃ (n24 : Nat) (f24 : Nat → Option Nat) (q24 : Nat), gR h x20 4 = some (n24, f24) ∧ vp_in l1 n24 ∧ f24 (l1).toNatClampNeg = some q24 ∧
              (∃ x25 : Nat, gF h q24 1 0 = some (.inr (some x25)) ∧
                (∃ (n29 : Nat) (f29 : Nat → Int32), gA h x25 0 = some (n29, f29) ∧ vp_in l2 n29 ∧
                  (gC h x10 = some 2 ∧ wp_Mv_leave (fun (h30 : MH) =>
                      (wp_Se_weighOne_42 Post l0 l1 l2 q7 (0 : Int32) (0 : Int32) (0 : Int32) h30)) x10 q18 (f29 (l2).toNatClampNeg) h)))))))))
set_option maxRecDepth 100000 in
set_option maxHeartbeats 4000000 in
theorem t_Se_weighOne_153 {p : Program} {l : Launch} {e : Env} {R : Room} {s : State} {m : MethodId} {args : Array Value} {below : List Frame} {meth : Method} {c : Code} (G : mG) (C0 : Cx G p s m args c prog_6_method_10_code 8 "BassRealiser$Search") (hR : 3 ≤ R.frames ∧ 66 ≤ R.locals ∧ 0 ≤ R.cells ∧ 0 ≤ R.slots) (hr : meth.sig.returnType = none) (hlk : meth.locks = false) {Post : MH → Prop} {K42 : Nat → Int32 → Int32 → Nat → Int32 → Int32 → Int32 → MH → Prop} (hK42 : ∀ (l0 : Nat) (l1 : Int32) (l2 : Int32) (l3 : Nat) (l4 : Int32) (l5 : Int32) (l6 : Int32) (h : MH), K42 l0 l1 l2 l3 l4 l5 l6 h → WG p l e R s m args below meth c 0 0 (MQ below (va_Qv Post (Wd G) (mA G)) args s 0 0 (mA G)) G 8 [(0, .ref (m_b G + l0)), (1, .int l1), (2, .int l2), (3, .ref (m_b G + l3)), (4, .int l4), (5, .int l5), (6, .int l6)] 42 [] h) (l0 : Nat) (l1 : Int32) (l2 : Int32) (l3 : Nat) (l4 : Int32) (l5 : Int32) (l6 : Int32) (h : MH) (hwp : wp_Se_weighOne_153 K42 Post l0 l1 l2 l3 l4 l5 l6 h) : WG p l e R s m args below meth c 0 0 (MQ below (va_Qv Post (Wd G) (mA G)) args s 0 0 (mA G)) G 8 [(0, .ref (m_b G + l0)), (1, .int l1), (2, .int l2), (3, .ref (m_b G + l3)), (4, .int l4), (5, .int l5), (6, .int l6)] 153 [] h := by
  unfold wp_Se_weighOne_153 at hwp
  refine x_iinc C0 6 d_Se_weighOne_153 rfl rfl (by decide) (lv' := [(6, .int (l6 + (1 : Int32))), (0, .ref (m_b G + l0)), (1, .int l1), (2, .int l2), (3, .ref (m_b G + l3)), (4, .int l4), (5, .int l5)]) rfl ?_
  refine x_goto (tgt := 42) C0 d_Se_weighOne_156 (by decide) ?_
  exact x_sub [1, 2, 3, 4, 5, 6, 0] rfl (hK42 _ _ _ _ _ _ _ _ hwp)
set_option maxRecDepth 100000 in
set_option maxHeartbeats 4000000 in
theorem t_Se_weighOne_137 {p : Program} {l : Launch} {e : Env} {R : Room} {s : State} {m : MethodId} {args : Array Value} {below : List Frame} {meth : Method} {c : Code} (G : mG) (C0 : Cx G p s m args c prog_6_method_10_code 8 "BassRealiser$Search") (hR : 3 ≤ R.frames ∧ 66 ≤ R.locals ∧ 0 ≤ R.cells ∧ 0 ≤ R.slots) (hr : meth.sig.returnType = none) (hlk : meth.locks = false) {Post : MH → Prop} {K42 : Nat → Int32 → Int32 → Nat → Int32 → Int32 → Int32 → MH → Prop} (hK42 : ∀ (l0 : Nat) (l1 : Int32) (l2 : Int32) (l3 : Nat) (l4 : Int32) (l5 : Int32) (l6 : Int32) (h : MH), K42 l0 l1 l2 l3 l4 l5 l6 h → WG p l e R s m args below meth c 0 0 (MQ below (va_Qv Post (Wd G) (mA G)) args s 0 0 (mA G)) G 8 [(0, .ref (m_b G + l0)), (1, .int l1), (2, .int l2), (3, .ref (m_b G + l3)), (4, .int l4), (5, .int l5), (6, .int l6)] 42 [] h) (l0 : Nat) (l1 : Int32) (l2 : Int32) (l3 : Nat) (l4 : Int32) (l6 : Int32) (y0 : Int32) (h : MH) (hwp : wp_Se_weighOne_137 K42 Post l0 l1 l2 l3 l4 l6 y0 h) : WG p l e R s m args below meth c 0 0 (MQ below (va_Qv Post (Wd G) (mA G)) args s 0 0 (mA G)) G 8 [(0, .ref (m_b G + l0)), (1, .int l1), (2, .int l2), (3, .ref (m_b G + l3)), (4, .int l4), (6, .int l6)] 137 [.int y0] h := by
  unfold wp_Se_weighOne_137 at hwp
  refine x_istore C0 d_Se_weighOne_137 (by decide) (lv' := [(5, .int y0), (0, .ref (m_b G + l0)), (1, .int l1), (2, .int l2), (3, .ref (m_b G + l3)), (4, .int l4), (6, .int l6)]) rfl ?_
  refine x_iload C0 5 d_Se_weighOne_139 rfl ?_
  refine x_aload_n C0 4 d_Se_weighOne_141 rfl rfl ?_
  obtain ⟨x142, e142, hwp⟩ := hwp
  refine x_getR C0 fk_Se_122 e142 d_Se_weighOne_142 ?_
  refine x_iload C0 6 d_Se_weighOne_145 rfl ?_
  obtain ⟨n147, f147, e147, i147, hwp⟩ := hwp
  refine x_iald C0 e147 i147 d_Se_weighOne_147 ?_
  refine x_callSi0 (As := [.int l4, .int (f147 (l6).toNatClampNeg)]) (st := []) C0 (c_Se_joined l G hwp) kw_3_13 mk_Se_joined kw_3_14 rfl (Nat.le_of_ble_eq_true rfl) rfl rfl ⟨Nat.le_trans (by decide) hR.1, Nat.le_trans (by decide) hR.2.1⟩ ⟨Nat.zero_le _, Nat.zero_le _⟩ rfl d_Se_weighOne_148 (fun r148 h148 hwp => ?_)
  refine x_istore C0 d_Se_weighOne_151 (by decide) (lv' := [(4, .int r148), (5, .int y0), (0, .ref (m_b G + l0)), (1, .int l1), (2, .int l2), (3, .ref (m_b G + l3)), (6, .int l6)]) rfl ?_
  exact x_sub [2, 3, 4, 5, 0, 1, 6] rfl (t_Se_weighOne_153 G C0 hR hr hlk hK42 _ _ _ _ _ _ _ _ hwp)
set_option maxRecDepth 100000 in
set_option maxHeartbeats 4000000 in
theorem tb_Se_weighOne_42 {p : Program} {l : Launch} {e : Env} {R : Room} {s : State} {m : MethodId} {args : Array Value} {below : List Frame} {meth : Method} {c : Code} (G : mG) (C0 : Cx G p s m args c prog_6_method_10_code 8 "BassRealiser$Search") (hR : 3 ≤ R.frames ∧ 66 ≤ R.locals ∧ 0 ≤ R.cells ∧ 0 ≤ R.slots) (hr : meth.sig.returnType = none) (hlk : meth.locks = false) {Post : MH → Prop} {K42 : Nat → Int32 → Int32 → Nat → Int32 → Int32 → Int32 → MH → Prop} (hK42 : ∀ (l0 : Nat) (l1 : Int32) (l2 : Int32) (l3 : Nat) (l4 : Int32) (l5 : Int32) (l6 : Int32) (h : MH), K42 l0 l1 l2 l3 l4 l5 l6 h → WG p l e R s m args below meth c 0 0 (MQ below (va_Qv Post (Wd G) (mA G)) args s 0 0 (mA G)) G 8 [(0, .ref (m_b G + l0)), (1, .int l1), (2, .int l2), (3, .ref (m_b G + l3)), (4, .int l4), (5, .int l5), (6, .int l6)] 42 [] h) (l0 : Nat) (l1 : Int32) (l2 : Int32) (l3 : Nat) (l4 : Int32) (l5 : Int32) (l6 : Int32) (h : MH) (hwp : wb_Se_weighOne_42 K42 Post l0 l1 l2 l3 l4 l5 l6 h) : WG p l e R s m args below meth c 0 0 (MQ below (va_Qv Post (Wd G) (mA G)) args s 0 0 (mA G)) G 8 [(0, .ref (m_b G + l0)), (1, .int l1), (2, .int l2), (3, .ref (m_b G + l3)), (4, .int l4), (5, .int l5), (6, .int l6)] 42 [] h := by
  unfold wb_Se_weighOne_42 at hwp
  refine x_iload C0 6 d_Se_weighOne_42 rfl ?_
  refine x_aload_n C0 3 d_Se_weighOne_44 rfl rfl ?_
  obtain ⟨x45, e45, hwp⟩ := hwp
  refine x_getI C0 fk_Se_87 e45 d_Se_weighOne_45 ?_
  refine x_icmp_ge (tgt := 159) C0 d_Se_weighOne_48 (by decide) (fun c48 => ?_) (fun c48 => ?_)
  · replace hwp := hwp.1 c48
    refine x_aload_n C0 0 d_Se_weighOne_159 rfl rfl ?_
    obtain ⟨x160, e160, hwp⟩ := hwp
    refine x_getR C0 fk_Se_26 e160 d_Se_weighOne_160 ?_
    refine x_iload_n C0 1 d_Se_weighOne_163 rfl rfl ?_
    obtain ⟨n164, f164, q164, e164, i164, g164, hwp⟩ := hwp
    refine x_aald (t := 4) C0 e164 rfl i164 g164 d_Se_weighOne_164 ?_
    obtain ⟨x165, e165, hwp⟩ := hwp
    refine x_getR C0 fk_Se_122 e165 d_Se_weighOne_165 ?_
    refine x_iload_n C0 2 d_Se_weighOne_168 rfl rfl ?_
    refine x_iload C0 4 d_Se_weighOne_169 rfl ?_
    obtain ⟨n171, f171, e171, i171, hwp⟩ := hwp
    refine x_iast C0 e171 i171 d_Se_weighOne_171 ?_
    refine x_nh (fun h171 eh171 => ?_)
    replace hwp := hwp h171 eh171
    refine x_aload_n C0 0 d_Se_weighOne_172 rfl rfl ?_
    obtain ⟨x173, e173, hwp⟩ := hwp
    refine x_getR C0 fk_Se_26 e173 d_Se_weighOne_173 ?_
    refine x_iload_n C0 1 d_Se_weighOne_176 rfl rfl ?_
    obtain ⟨n177, f177, q177, e177, i177, g177, hwp⟩ := hwp
    refine x_aald (t := 4) C0 e177 rfl i177 g177 d_Se_weighOne_177 ?_
    obtain ⟨x178, e178, hwp⟩ := hwp
    refine x_getR C0 fk_Se_119 e178 d_Se_weighOne_178 ?_
    refine x_iload_n C0 2 d_Se_weighOne_181 rfl rfl ?_
    refine x_iload C0 5 d_Se_weighOne_182 rfl ?_
    obtain ⟨n184, f184, e184, i184, hwp⟩ := hwp
    refine x_iast C0 e184 i184 d_Se_weighOne_184 ?_
    refine x_nh (fun h184 eh184 => ?_)
    replace hwp := hwp h184 eh184
    exact x_vret C0 hr hlk hwp d_Se_weighOne_185
  · replace hwp := hwp.2 c48
    refine x_aload_n C0 0 d_Se_weighOne_51 rfl rfl ?_
    obtain ⟨x52, e52, hwp⟩ := hwp
    refine x_getR C0 fk_Se_35 e52 d_Se_weighOne_52 ?_
    refine x_aload_n C0 0 d_Se_weighOne_55 rfl rfl ?_
    obtain ⟨x56, e56, hwp⟩ := hwp
    refine x_getR C0 fk_Se_11 e56 d_Se_weighOne_56 ?_
    refine x_iload_n C0 1 d_Se_weighOne_59 rfl rfl ?_
    refine x_iconst (v := 1) C0 d_Se_weighOne_60 (by decide) ?_
    refine x_iadd C0 d_Se_weighOne_61 ?_
    obtain ⟨n62, f62, q62, e62, i62, g62, hwp⟩ := hwp
    refine x_aald (t := 3) C0 e62 rfl i62 g62 d_Se_weighOne_62 ?_
    refine x_aload_n C0 3 d_Se_weighOne_63 rfl rfl ?_
    obtain ⟨x64, e64, hwp⟩ := hwp
    refine x_getR C0 fk_Se_90 e64 d_Se_weighOne_64 ?_
    refine x_iload C0 6 d_Se_weighOne_67 rfl ?_
    obtain ⟨n69, f69, e69, i69, hwp⟩ := hwp
    refine x_iald C0 e69 i69 d_Se_weighOne_69 ?_
    obtain ⟨g70, hwp⟩ := hwp
    refine x_callVv0 (k := x52) (As := [.ref (m_b G + q62), .int (f69 (l6).toNatClampNeg)]) (st := []) C0 (c_Mv_arrive l G hwp) kw_2_205 mk_Mv_arrive vk_Mv_arrive rfl g70 rfl (Nat.le_of_ble_eq_true rfl) rfl rfl ⟨Nat.le_trans (by decide) hR.1, Nat.le_trans (by decide) hR.2.1⟩ ⟨Nat.zero_le _, Nat.zero_le _⟩ rfl d_Se_weighOne_70 (fun h70 hwp => ?_)
    refine x_aload_n C0 3 d_Se_weighOne_73 rfl rfl ?_
    obtain ⟨x74, e74, hwp⟩ := hwp
    refine x_getR C0 fk_Se_122 e74 d_Se_weighOne_74 ?_
    refine x_iload C0 6 d_Se_weighOne_77 rfl ?_
    obtain ⟨n79, f79, e79, i79, hwp⟩ := hwp
    refine x_iald C0 e79 i79 d_Se_weighOne_79 ?_
    refine x_if_eq (tgt := 153) C0 d_Se_weighOne_80 (by decide) (fun c80 => ?_) (fun c80 => ?_)
    · replace hwp := hwp.1 c80
      exact x_sub [0, 1, 2, 3, 4, 5, 6] rfl (t_Se_weighOne_153 G C0 hR hr hlk hK42 _ _ _ _ _ _ _ _ hwp)
    · replace hwp := hwp.2 c80
      refine x_aload_n C0 0 d_Se_weighOne_83 rfl rfl ?_
      obtain ⟨x84, e84, hwp⟩ := hwp
      refine x_getR C0 fk_Se_35 e84 d_Se_weighOne_84 ?_
      refine x_aload_n C0 0 d_Se_weighOne_87 rfl rfl ?_
      obtain ⟨x88, e88, hwp⟩ := hwp
      refine x_getR C0 fk_Se_20 e88 d_Se_weighOne_88 ?_
      obtain ⟨x91, e91, hwp⟩ := hwp
      refine x_getI C0 fk_Se_112 e91 d_Se_weighOne_91 ?_
      obtain ⟨g94, hwp⟩ := hwp
      refine x_callVi0 (k := x84) (As := [.int x91]) (st := []) C0 (c_Mv_rule l G hwp) kw_2_209 mk_Mv_rule vk_Mv_rule rfl g94 rfl (Nat.le_of_ble_eq_true rfl) rfl rfl ⟨Nat.le_trans (by decide) hR.1, Nat.le_trans (by decide) hR.2.1⟩ ⟨Nat.zero_le _, Nat.zero_le _⟩ rfl d_Se_weighOne_94 (fun r94 h94 hwp => ?_)
      refine x_if_eq (tgt := 103) C0 d_Se_weighOne_97 (by decide) (fun c97 => ?_) (fun c97 => ?_)
      · replace hwp := hwp.1 c97
        refine x_aload_n C0 0 d_Se_weighOne_103 rfl rfl ?_
        obtain ⟨x104, e104, hwp⟩ := hwp
        refine x_getR C0 fk_Se_35 e104 d_Se_weighOne_104 ?_
        obtain ⟨g107, hwp⟩ := hwp
        refine x_callVi0 (k := x104) (As := []) (st := []) C0 (c_Mv_length l G hwp) kw_3_8 mk_Mv_length vk_Mv_length rfl g107 rfl (Nat.le_of_ble_eq_true rfl) rfl rfl ⟨Nat.le_trans (by decide) hR.1, Nat.le_trans (by decide) hR.2.1⟩ ⟨Nat.zero_le _, Nat.zero_le _⟩ rfl d_Se_weighOne_107 (fun r107 h107 hwp => ?_)
        refine x_aload_n C0 3 d_Se_weighOne_110 rfl rfl ?_
        obtain ⟨x111, e111, hwp⟩ := hwp
        refine x_getR C0 fk_Se_119 e111 d_Se_weighOne_111 ?_
        refine x_iload C0 6 d_Se_weighOne_114 rfl ?_
        obtain ⟨n116, f116, e116, i116, hwp⟩ := hwp
        refine x_iald C0 e116 i116 d_Se_weighOne_116 ?_
        refine x_iadd C0 d_Se_weighOne_117 ?_
        refine x_topI (fun z118 e118 => ?_)
        replace hwp := hwp z118 e118
        refine x_istore C0 d_Se_weighOne_118 (by decide) (lv' := [(7, .int z118), (0, .ref (m_b G + l0)), (1, .int l1), (2, .int l2), (3, .ref (m_b G + l3)), (4, .int l4), (5, .int l5), (6, .int l6)]) rfl ?_
        refine x_iload C0 5 d_Se_weighOne_120 rfl ?_
        refine x_if_ne (tgt := 130) C0 d_Se_weighOne_122 (by decide) (fun c122 => ?_) (fun c122 => ?_)
        · replace hwp := hwp.1 c122
          refine x_iload C0 6 d_Se_weighOne_130 rfl ?_
          refine x_iload C0 0 d_Se_weighOne_132 rfl ?_
          refine x_mmin C0 kw_3_12 kw_2_24 kw_1_8 kw_2_25 d_Se_weighOne_134 ⟨Nat.le_trans (by decide) hR.1, Nat.le_trans (by decide) hR.2.1⟩ ⟨Nat.zero_le _, Nat.zero_le _⟩ (Nat.le_of_ble_eq_true rfl) ?_
          exact x_sub [1, 2, 3, 4, 5, 7] rfl (t_Se_weighOne_137 G C0 hR hr hlk hK42 _ _ _ _ _ _ _ _ hwp)
        · replace hwp := hwp.2 c122
          refine x_iload C0 0 d_Se_weighOne_125 rfl ?_
          refine x_goto (tgt := 137) C0 d_Se_weighOne_127 (by decide) ?_
          exact x_sub [1, 2, 3, 4, 5, 7] rfl (t_Se_weighOne_137 G C0 hR hr hlk hK42 _ _ _ _ _ _ _ _ hwp)
      · replace hwp := hwp.2 c97
        refine x_goto (tgt := 153) C0 d_Se_weighOne_100 (by decide) ?_
        exact x_sub [0, 1, 2, 3, 4, 5, 6] rfl (t_Se_weighOne_153 G C0 hR hr hlk hK42 _ _ _ _ _ _ _ _ hwp)
theorem t_Se_weighOne_42 {p : Program} {l : Launch} {e : Env} {R : Room} {s : State} {m : MethodId} {args : Array Value} {below : List Frame} {meth : Method} {c : Code} (G : mG) (C0 : Cx G p s m args c prog_6_method_10_code 8 "BassRealiser$Search") (hR : 3 ≤ R.frames ∧ 66 ≤ R.locals ∧ 0 ≤ R.cells ∧ 0 ≤ R.slots) (hr : meth.sig.returnType = none) (hlk : meth.locks = false) {Post : MH → Prop} (l0 : Nat) (l1 : Int32) (l2 : Int32) (l3 : Nat) (l4 : Int32) (l5 : Int32) (l6 : Int32) (h : MH) (hwp : wp_Se_weighOne_42 Post l0 l1 l2 l3 l4 l5 l6 h) : WG p l e R s m args below meth c 0 0 (MQ below (va_Qv Post (Wd G) (mA G)) args s 0 0 (mA G)) G 8 [(0, .ref (m_b G + l0)), (1, .int l1), (2, .int l2), (3, .ref (m_b G + l3)), (4, .int l4), (5, .int l5), (6, .int l6)] 42 [] h := by
  obtain ⟨n, hwp⟩ := hwp
  induction n generalizing l0 l1 l2 l3 l4 l5 l6 h with
  | zero => exact False.elim hwp
  | succ n ih => exact tb_Se_weighOne_42 G C0 hR hr hlk (fun l0 l1 l2 l3 l4 l5 l6 h hwp => ih l0 l1 l2 l3 l4 l5 l6 h hwp) l0 l1 l2 l3 l4 l5 l6 h hwp
set_option maxRecDepth 100000 in
set_option maxHeartbeats 4000000 in
theorem t_Se_weighOne {p : Program} {l : Launch} {e : Env} {R : Room} {s : State} {m : MethodId} {args : Array Value} {below : List Frame} {meth : Method} {c : Code} (G : mG) (C0 : Cx G p s m args c prog_6_method_10_code 8 "BassRealiser$Search") (hR : 3 ≤ R.frames ∧ 66 ≤ R.locals ∧ 0 ≤ R.cells ∧ 0 ≤ R.slots) (hr : meth.sig.returnType = none) (hlk : meth.locks = false) {Post : MH → Prop} (l0 : Nat) (l1 : Int32) (l2 : Int32) (h : MH) (hwp : wp_Se_weighOne Post l0 l1 l2 h) : WG p l e R s m args below meth c 0 0 (MQ below (va_Qv Post (Wd G) (mA G)) args s 0 0 (mA G)) G 8 [(0, .ref (m_b G + l0)), (1, .int l1), (2, .int l2)] 0 [] h := by
  unfold wp_Se_weighOne at hwp
  refine x_aload_n C0 0 d_Se_weighOne_0 rfl rfl ?_
  obtain ⟨x1, e1, hwp⟩ := hwp
  refine x_getR C0 fk_Se_26 e1 d_Se_weighOne_1 ?_
  refine x_iload_n C0 1 d_Se_weighOne_4 rfl rfl ?_
  refine x_iconst (v := 1) C0 d_Se_weighOne_5 (by decide) ?_
  refine x_iadd C0 d_Se_weighOne_6 ?_
  obtain ⟨n7, f7, q7, e7, i7, g7, hwp⟩ := hwp
  refine x_aald (t := 4) C0 e7 rfl i7 g7 d_Se_weighOne_7 ?_
  refine x_astore_n C0 d_Se_weighOne_8 rfl (by decide) (lv' := [(3, .ref (m_b G + q7)), (0, .ref (m_b G + l0)), (1, .int l1), (2, .int l2)]) rfl ?_
  refine x_aload_n C0 1 d_Se_weighOne_9 rfl rfl ?_
  obtain ⟨x10, e10, hwp⟩ := hwp
  refine x_getR C0 fk_Se_35 e10 d_Se_weighOne_10 ?_
  refine x_aload_n C0 1 d_Se_weighOne_13 rfl rfl ?_
  obtain ⟨x14, e14, hwp⟩ := hwp
  refine x_getR C0 fk_Se_11 e14 d_Se_weighOne_14 ?_
  refine x_iload_n C0 2 d_Se_weighOne_17 rfl rfl ?_
  obtain ⟨n18, f18, q18, e18, i18, g18, hwp⟩ := hwp
  refine x_aald (t := 3) C0 e18 rfl i18 g18 d_Se_weighOne_18 ?_
  refine x_aload_n C0 1 d_Se_weighOne_19 rfl rfl ?_
  obtain ⟨x20, e20, hwp⟩ := hwp
  refine x_getR C0 fk_Se_26 e20 d_Se_weighOne_20 ?_
  refine x_iload_n C0 2 d_Se_weighOne_23 rfl rfl ?_
  obtain ⟨n24, f24, q24, e24, i24, g24, hwp⟩ := hwp
  refine x_aald (t := 4) C0 e24 rfl i24 g24 d_Se_weighOne_24 ?_
  obtain ⟨x25, e25, hwp⟩ := hwp
  refine x_getR C0 fk_Se_90 e25 d_Se_weighOne_25 ?_
  refine x_iload_n C0 3 d_Se_weighOne_28 rfl rfl ?_
  obtain ⟨n29, f29, e29, i29, hwp⟩ := hwp
  refine x_iald C0 e29 i29 d_Se_weighOne_29 ?_
  obtain ⟨g30, hwp⟩ := hwp
  refine x_callVv0 (k := x10) (As := [.ref (m_b G + q18), .int (f29 (l2).toNatClampNeg)]) (st := []) C0 (c_Mv_leave l G hwp) kw_2_200 mk_Mv_leave vk_Mv_leave rfl g30 rfl (Nat.le_of_ble_eq_true rfl) rfl rfl ⟨Nat.le_trans (by decide) hR.1, Nat.le_trans (by decide) hR.2.1⟩ ⟨Nat.zero_le _, Nat.zero_le _⟩ rfl d_Se_weighOne_30 (fun h30 hwp => ?_)
  refine x_iconst (v := 0) C0 d_Se_weighOne_33 (by decide) ?_
  refine x_istore C0 d_Se_weighOne_34 (by decide) (lv' := [(4, .int (0 : Int32)), (3, .ref (m_b G + q7)), (0, .ref (m_b G + l0)), (1, .int l1), (2, .int l2)]) rfl ?_
  refine x_iconst (v := 0) C0 d_Se_weighOne_36 (by decide) ?_
  refine x_istore C0 d_Se_weighOne_37 (by decide) (lv' := [(5, .int (0 : Int32)), (4, .int (0 : Int32)), (3, .ref (m_b G + q7)), (0, .ref (m_b G + l0)), (1, .int l1), (2, .int l2)]) rfl ?_
  refine x_iconst (v := 0) C0 d_Se_weighOne_39 (by decide) ?_
  refine x_istore C0 d_Se_weighOne_40 (by decide) (lv' := [(6, .int (0 : Int32)), (5, .int (0 : Int32)), (4, .int (0 : Int32)), (3, .ref (m_b G + q7)), (0, .ref (m_b G + l0)), (1, .int l1), (2, .int l2)]) rfl ?_
  exact x_sub [4, 5, 6, 3, 2, 1, 0] rfl (t_Se_weighOne_42 G C0 hR hr hlk  _ _ _ _ _ _ _ _ hwp)
set_option maxRecDepth 100000 in
set_option maxHeartbeats 4000000 in
theorem c_Se_weighOne (l : Launch) (G : mG) {Post : MH → Prop} {l0 : Nat} {l1 : Int32} {l2 : Int32} {h : MH} (hwp : wp_Se_weighOne Post l0 l1 l2 h) : Met l y_Se_weighOne (Cond.code y_Se_weighOne prog_6_method_10_code 8 (Option.none : Option Jvm.ClassFile.FieldType) :: lw_good) ({ frames := 3, cells := 0, slots := 0, locals := 66 }) (va_Pc [.ref (m_b G + l0), .int l1, .int l2] (Wd G h)) (va_Qv Post (Wd G) (mA G)) 0 0 (mA G) := by
  refine Met.ofW (cc := prog_6_method_10_code) (maxL := 8) (ret := (Option.none : Option Jvm.ClassFile.FieldType)) (by decide +kernel) rfl ?_
  intro p e s m args below meth c s₁ B hml hv
  obtain ⟨rfl, hP, hz, hK, hSt⟩ := hv
  have hts := atoms_spec (ws := Cond.code y_Se_weighOne prog_6_method_10_code 8 (Option.none : Option Jvm.ClassFile.FieldType) :: lw_good) B.pre
  have C0 : Cx G p s m ([.ref (m_b G + l0), .int l1, .int l2] : List Value).toArray c prog_6_method_10_code 8 "BassRealiser$Search" := ⟨⟨B.exec, B.bytes, hml, findClass_of_methodNamed B.named, fun w h => hts w (List.mem_cons_of_mem _ h)⟩, hK, hSt, by rw [hz]; exact Nat.le_add_right _ _⟩
  have hl := lv_entry ([.ref (m_b G + l0), .int l1, .int l2]) (n := 8) (Nat.le_of_ble_eq_true rfl)
  rw [lg_entry_eq]
  exact t_Se_weighOne G C0 ⟨Nat.le_refl _, Nat.le_refl _, Nat.le_refl _, Nat.le_refl _⟩ B.returns B.notSynchronized _ _ _ _ hwp _ _ _ ⟨hP, hz, va_S.rf⟩ hl
def wp_Se_weigh_74 (K10 : Nat → Int32 → Int32 → Nat → Int32 → MH → Prop) (Post : MH → Prop) (l0 : Nat) (l1 : Int32) (l2 : Int32) (l3 : Nat) (l4 : Int32) (h : MH) : Prop :=
  K10 l0 l1 l2 l3 (l4 + (1 : Int32)) h
def wp_Se_weigh_52 (K10 : Nat → Int32 → Int32 → Nat → Int32 → MH → Prop) (Post : MH → Prop) (l0 : Nat) (l1 : Int32) (l2 : Int32) (l3 : Nat) (l4 : Int32) (y0 : Nat) (y1 : Int32) (y2 : Int32) (h : MH) : Prop :=
  ∃ (n52 : Nat) (f52 : Nat → Int32), gA h y0 0 = some (n52, f52) ∧ vp_in y1 n52 ∧ ∀ h52 : MH, h52 = mset h y0 (.inr (0, n52, .inl (upd f52 (y1).toNatClampNeg y2))) →
  (((¬ l2 = 0) →
      (wp_Se_weigh_74 K10 Post l0 l1 l2 l3 l4 h52)) ∧
    ((l2 = 0) →
      (∃ x58 : Nat, gF h52 l3 1 1 = some (.inr (some x58)) ∧
        (∃ (n63 : Nat) (f63 : Nat → Int32), gA h52 x58 1 = some (n63, f63) ∧ vp_in l4 n63 ∧
          ((((f63 (l4).toNatClampNeg) = 0) →
              (wp_Se_weigh_74 K10 Post l0 l1 l2 l3 l4 h52)) ∧
            ((¬ (f63 (l4).toNatClampNeg) = 0) →
              (gC h52 l0 = some 4 ∧ wp_Se_weighOne (fun (h71 : MH) =>
                  (wp_Se_weigh_74 K10 Post l0 l1 l2 l3 l4 h71)) l0 l1 l4 h52)))))))
def wp_Se_weigh_51 (K10 : Nat → Int32 → Int32 → Nat → Int32 → MH → Prop) (Post : MH → Prop) (l0 : Nat) (l1 : Int32) (l2 : Int32) (l3 : Nat) (l4 : Int32) (y0 : Nat) (y1 : Int32) (h : MH) : Prop :=
  wp_Se_weigh_52 K10 Post l0 l1 l2 l3 l4 y0 y1 (0 : Int32) h
def wb_Se_weigh_10 (K10 : Nat → Int32 → Int32 → Nat → Int32 → MH → Prop) (Post : MH → Prop) (l0 : Nat) (l1 : Int32) (l2 : Int32) (l3 : Nat) (l4 : Int32) (h : MH) : Prop :=
  ∃ x13 : Int32, gF h l3 1 4 = some (.inl x13) ∧
  (((x13 ≤ l4) →
      (Post h)) ∧
    ((¬ x13 ≤ l4) →
      (∃ x20 : Nat, gF h l3 1 3 = some (.inr (some x20)) ∧
        (∃ (n26 : Nat) (f26 : Nat → Int32), gA h x20 0 = some (n26, f26) ∧ vp_in l4 n26 ∧ ∀ h26 : MH, h26 = mset h x20 (.inr (0, n26, .inl (upd f26 (l4).toNatClampNeg (0 : Int32)))) →
          (∃ x28 : Nat, gF h26 l3 1 2 = some (.inr (some x28)) ∧
            (((l2 = 0) →
                (wp_Se_weigh_51 K10 Post l0 l1 l2 l3 l4 x28 l4 h26)) ∧
              ((¬ l2 = 0) →
                (∃ x38 : Nat, gF h26 l3 1 1 = some (.inr (some x38)) ∧
                  (∃ (n43 : Nat) (f43 : Nat → Int32), gA h26 x38 1 = some (n43, f43) ∧ vp_in l4 n43 ∧
                    ((((f43 (l4).toNatClampNeg) = 0) →
                        (wp_Se_weigh_51 K10 Post l0 l1 l2 l3 l4 x28 l4 h26)) ∧
                      ((¬ (f43 (l4).toNatClampNeg) = 0) →
                        (wp_Se_weigh_52 K10 Post l0 l1 l2 l3 l4 x28 l4 (1 : Int32) h26))))))))))))
def wn_Se_weigh_10 (Post : MH → Prop) : Nat → Nat → Int32 → Int32 → Nat → Int32 → MH → Prop
  | 0 => fun _ _ _ _ _ _ => False
  | n + 1 => wb_Se_weigh_10 (wn_Se_weigh_10 Post n) Post
def wp_Se_weigh_10 (Post : MH → Prop) (l0 : Nat) (l1 : Int32) (l2 : Int32) (l3 : Nat) (l4 : Int32) (h : MH) : Prop := ∃ n, wn_Se_weigh_10 Post n l0 l1 l2 l3 l4 h
def wp_Se_weigh (Post : MH → Prop) (l0 : Nat) (l1 : Int32) (l2 : Int32) (h : MH) : Prop :=
  ∃ x1 : Nat, gF h l0 4 2 = some (.inr (some x1)) ∧
  (∃ (n5 : Nat) (f5 : Nat → Option Nat) (q5 : Nat), gR h x1 4 = some (n5, f5) ∧ vp_in l1 n5 ∧ f5 (l1).toNatClampNeg = some q5 ∧
    (wp_Se_weigh_10 Post l0 l1 l2 q5 (0 : Int32) h))
set_option maxRecDepth 100000 in
set_option maxHeartbeats 4000000 in
theorem t_Se_weigh_74 {p : Program} {l : Launch} {e : Env} {R : Room} {s : State} {m : MethodId} {args : Array Value} {below : List Frame} {meth : Method} {c : Code} (G : mG) (C0 : Cx G p s m args c prog_6_method_9_code 5 "BassRealiser$Search") (hR : 4 ≤ R.frames ∧ 93 ≤ R.locals ∧ 0 ≤ R.cells ∧ 0 ≤ R.slots) (hr : meth.sig.returnType = none) (hlk : meth.locks = false) {Post : MH → Prop} {K10 : Nat → Int32 → Int32 → Nat → Int32 → MH → Prop} (hK10 : ∀ (l0 : Nat) (l1 : Int32) (l2 : Int32) (l3 : Nat) (l4 : Int32) (h : MH), K10 l0 l1 l2 l3 l4 h → WG p l e R s m args below meth c 0 0 (MQ below (va_Qv Post (Wd G) (mA G)) args s 0 0 (mA G)) G 5 [(0, .ref (m_b G + l0)), (1, .int l1), (2, .int l2), (3, .ref (m_b G + l3)), (4, .int l4)] 10 [] h) (l0 : Nat) (l1 : Int32) (l2 : Int32) (l3 : Nat) (l4 : Int32) (h : MH) (hwp : wp_Se_weigh_74 K10 Post l0 l1 l2 l3 l4 h) : WG p l e R s m args below meth c 0 0 (MQ below (va_Qv Post (Wd G) (mA G)) args s 0 0 (mA G)) G 5 [(0, .ref (m_b G + l0)), (1, .int l1), (2, .int l2), (3, .ref (m_b G + l3)), (4, .int l4)] 74 [] h := by
  unfold wp_Se_weigh_74 at hwp
  refine x_iinc C0 4 d_Se_weigh_74 rfl rfl (by decide) (lv' := [(4, .int (l4 + (1 : Int32))), (0, .ref (m_b G + l0)), (1, .int l1), (2, .int l2), (3, .ref (m_b G + l3))]) rfl ?_
  refine x_goto (tgt := 10) C0 d_Se_weigh_77 (by decide) ?_
  exact x_sub [1, 2, 3, 4, 0] rfl (hK10 _ _ _ _ _ _ hwp)
set_option maxRecDepth 100000 in
set_option maxHeartbeats 4000000 in
theorem t_Se_weigh_52 {p : Program} {l : Launch} {e : Env} {R : Room} {s : State} {m : MethodId} {args : Array Value} {below : List Frame} {meth : Method} {c : Code} (G : mG) (C0 : Cx G p s m args c prog_6_method_9_code 5 "BassRealiser$Search") (hR : 4 ≤ R.frames ∧ 93 ≤ R.locals ∧ 0 ≤ R.cells ∧ 0 ≤ R.slots) (hr : meth.sig.returnType = none) (hlk : meth.locks = false) {Post : MH → Prop} {K10 : Nat → Int32 → Int32 → Nat → Int32 → MH → Prop} (hK10 : ∀ (l0 : Nat) (l1 : Int32) (l2 : Int32) (l3 : Nat) (l4 : Int32) (h : MH), K10 l0 l1 l2 l3 l4 h → WG p l e R s m args below meth c 0 0 (MQ below (va_Qv Post (Wd G) (mA G)) args s 0 0 (mA G)) G 5 [(0, .ref (m_b G + l0)), (1, .int l1), (2, .int l2), (3, .ref (m_b G + l3)), (4, .int l4)] 10 [] h) (l0 : Nat) (l1 : Int32) (l2 : Int32) (l3 : Nat) (l4 : Int32) (y0 : Nat) (y1 : Int32) (y2 : Int32) (h : MH) (hwp : wp_Se_weigh_52 K10 Post l0 l1 l2 l3 l4 y0 y1 y2 h) : WG p l e R s m args below meth c 0 0 (MQ below (va_Qv Post (Wd G) (mA G)) args s 0 0 (mA G)) G 5 [(0, .ref (m_b G + l0)), (1, .int l1), (2, .int l2), (3, .ref (m_b G + l3)), (4, .int l4)] 52 [.int y2, .int y1, .ref (m_b G + y0)] h := by
  unfold wp_Se_weigh_52 at hwp
  obtain ⟨n52, f52, e52, i52, hwp⟩ := hwp
  refine x_iast C0 e52 i52 d_Se_weigh_52 ?_
  refine x_nh (fun h52 eh52 => ?_)
  replace hwp := hwp h52 eh52
  refine x_iload_n C0 2 d_Se_weigh_53 rfl rfl ?_
  refine x_if_ne (tgt := 74) C0 d_Se_weigh_54 (by decide) (fun c54 => ?_) (fun c54 => ?_)
  · replace hwp := hwp.1 c54
    exact x_sub [0, 1, 2, 3, 4] rfl (t_Se_weigh_74 G C0 hR hr hlk hK10 _ _ _ _ _ _ hwp)
  · replace hwp := hwp.2 c54
    refine x_aload_n C0 3 d_Se_weigh_57 rfl rfl ?_
    obtain ⟨x58, e58, hwp⟩ := hwp
    refine x_getR C0 fk_Se_93 e58 d_Se_weigh_58 ?_
    refine x_iload C0 4 d_Se_weigh_61 rfl ?_
    obtain ⟨n63, f63, e63, i63, hwp⟩ := hwp
    refine x_zald C0 e63 i63 d_Se_weigh_63 ?_
    refine x_if_eq (tgt := 74) C0 d_Se_weigh_64 (by decide) (fun c64 => ?_) (fun c64 => ?_)
    · replace hwp := hwp.1 c64
      exact x_sub [0, 1, 2, 3, 4] rfl (t_Se_weigh_74 G C0 hR hr hlk hK10 _ _ _ _ _ _ hwp)
    · replace hwp := hwp.2 c64
      refine x_aload_n C0 0 d_Se_weigh_67 rfl rfl ?_
      refine x_iload_n C0 1 d_Se_weigh_68 rfl rfl ?_
      refine x_iload C0 4 d_Se_weigh_69 rfl ?_
      obtain ⟨g71, hwp⟩ := hwp
      refine x_callVv0 (k := l0) (As := [.int l1, .int l4]) (st := []) C0 (c_Se_weighOne l G hwp) kw_3_4 mk_Se_weighOne vk_Se_weighOne rfl g71 rfl (Nat.le_of_ble_eq_true rfl) rfl rfl ⟨Nat.le_trans (by decide) hR.1, Nat.le_trans (by decide) hR.2.1⟩ ⟨Nat.zero_le _, Nat.zero_le _⟩ rfl d_Se_weigh_71 (fun h71 hwp => ?_)
      exact x_sub [0, 1, 2, 3, 4] rfl (t_Se_weigh_74 G C0 hR hr hlk hK10 _ _ _ _ _ _ hwp)
set_option maxRecDepth 100000 in
set_option maxHeartbeats 4000000 in
theorem t_Se_weigh_51 {p : Program} {l : Launch} {e : Env} {R : Room} {s : State} {m : MethodId} {args : Array Value} {below : List Frame} {meth : Method} {c : Code} (G : mG) (C0 : Cx G p s m args c prog_6_method_9_code 5 "BassRealiser$Search") (hR : 4 ≤ R.frames ∧ 93 ≤ R.locals ∧ 0 ≤ R.cells ∧ 0 ≤ R.slots) (hr : meth.sig.returnType = none) (hlk : meth.locks = false) {Post : MH → Prop} {K10 : Nat → Int32 → Int32 → Nat → Int32 → MH → Prop} (hK10 : ∀ (l0 : Nat) (l1 : Int32) (l2 : Int32) (l3 : Nat) (l4 : Int32) (h : MH), K10 l0 l1 l2 l3 l4 h → WG p l e R s m args below meth c 0 0 (MQ below (va_Qv Post (Wd G) (mA G)) args s 0 0 (mA G)) G 5 [(0, .ref (m_b G + l0)), (1, .int l1), (2, .int l2), (3, .ref (m_b G + l3)), (4, .int l4)] 10 [] h) (l0 : Nat) (l1 : Int32) (l2 : Int32) (l3 : Nat) (l4 : Int32) (y0 : Nat) (y1 : Int32) (h : MH) (hwp : wp_Se_weigh_51 K10 Post l0 l1 l2 l3 l4 y0 y1 h) : WG p l e R s m args below meth c 0 0 (MQ below (va_Qv Post (Wd G) (mA G)) args s 0 0 (mA G)) G 5 [(0, .ref (m_b G + l0)), (1, .int l1), (2, .int l2), (3, .ref (m_b G + l3)), (4, .int l4)] 51 [.int y1, .ref (m_b G + y0)] h := by
  unfold wp_Se_weigh_51 at hwp
  refine x_iconst (v := 0) C0 d_Se_weigh_51 (by decide) ?_
  exact x_sub [0, 1, 2, 3, 4] rfl (t_Se_weigh_52 G C0 hR hr hlk hK10 _ _ _ _ _ _ _ _ _ hwp)
set_option maxRecDepth 100000 in
set_option maxHeartbeats 4000000 in
theorem tb_Se_weigh_10 {p : Program} {l : Launch} {e : Env} {R : Room} {s : State} {m : MethodId} {args : Array Value} {below : List Frame} {meth : Method} {c : Code} (G : mG) (C0 : Cx G p s m args c prog_6_method_9_code 5 "BassRealiser$Search") (hR : 4 ≤ R.frames ∧ 93 ≤ R.locals ∧ 0 ≤ R.cells ∧ 0 ≤ R.slots) (hr : meth.sig.returnType = none) (hlk : meth.locks = false) {Post : MH → Prop} {K10 : Nat → Int32 → Int32 → Nat → Int32 → MH → Prop} (hK10 : ∀ (l0 : Nat) (l1 : Int32) (l2 : Int32) (l3 : Nat) (l4 : Int32) (h : MH), K10 l0 l1 l2 l3 l4 h → WG p l e R s m args below meth c 0 0 (MQ below (va_Qv Post (Wd G) (mA G)) args s 0 0 (mA G)) G 5 [(0, .ref (m_b G + l0)), (1, .int l1), (2, .int l2), (3, .ref (m_b G + l3)), (4, .int l4)] 10 [] h) (l0 : Nat) (l1 : Int32) (l2 : Int32) (l3 : Nat) (l4 : Int32) (h : MH) (hwp : wb_Se_weigh_10 K10 Post l0 l1 l2 l3 l4 h) : WG p l e R s m args below meth c 0 0 (MQ below (va_Qv Post (Wd G) (mA G)) args s 0 0 (mA G)) G 5 [(0, .ref (m_b G + l0)), (1, .int l1), (2, .int l2), (3, .ref (m_b G + l3)), (4, .int l4)] 10 [] h := by
  unfold wb_Se_weigh_10 at hwp
  refine x_iload C0 4 d_Se_weigh_10 rfl ?_
  refine x_aload_n C0 3 d_Se_weigh_12 rfl rfl ?_
  obtain ⟨x13, e13, hwp⟩ := hwp
  refine x_getI C0 fk_Se_87 e13 d_Se_weigh_13 ?_
  refine x_icmp_ge (tgt := 80) C0 d_Se_weigh_16 (by decide) (fun c16 => ?_) (fun c16 => ?_)
  · replace hwp := hwp.1 c16
    exact x_vret C0 hr hlk hwp d_Se_weigh_80
  · replace hwp := hwp.2 c16
    refine x_aload_n C0 3 d_Se_weigh_19 rfl rfl ?_
    obtain ⟨x20, e20, hwp⟩ := hwp
    refine x_getR C0 fk_Se_119 e20 d_Se_weigh_20 ?_
    refine x_iload C0 4 d_Se_weigh_23 rfl ?_
    refine x_iconst (v := 0) C0 d_Se_weigh_25 (by decide) ?_
    obtain ⟨n26, f26, e26, i26, hwp⟩ := hwp
    refine x_iast C0 e26 i26 d_Se_weigh_26 ?_
    refine x_nh (fun h26 eh26 => ?_)
    replace hwp := hwp h26 eh26
    refine x_aload_n C0 3 d_Se_weigh_27 rfl rfl ?_
    obtain ⟨x28, e28, hwp⟩ := hwp
    refine x_getR C0 fk_Se_122 e28 d_Se_weigh_28 ?_
    refine x_iload C0 4 d_Se_weigh_31 rfl ?_
    refine x_iload_n C0 2 d_Se_weigh_33 rfl rfl ?_
    refine x_if_eq (tgt := 51) C0 d_Se_weigh_34 (by decide) (fun c34 => ?_) (fun c34 => ?_)
    · replace hwp := hwp.1 c34
      exact x_sub [0, 1, 2, 3, 4] rfl (t_Se_weigh_51 G C0 hR hr hlk hK10 _ _ _ _ _ _ _ _ hwp)
    · replace hwp := hwp.2 c34
      refine x_aload_n C0 3 d_Se_weigh_37 rfl rfl ?_
      obtain ⟨x38, e38, hwp⟩ := hwp
      refine x_getR C0 fk_Se_93 e38 d_Se_weigh_38 ?_
      refine x_iload C0 4 d_Se_weigh_41 rfl ?_
      obtain ⟨n43, f43, e43, i43, hwp⟩ := hwp
      refine x_zald C0 e43 i43 d_Se_weigh_43 ?_
      refine x_if_eq (tgt := 51) C0 d_Se_weigh_44 (by decide) (fun c44 => ?_) (fun c44 => ?_)
      · replace hwp := hwp.1 c44
        exact x_sub [0, 1, 2, 3, 4] rfl (t_Se_weigh_51 G C0 hR hr hlk hK10 _ _ _ _ _ _ _ _ hwp)
      · replace hwp := hwp.2 c44
        refine x_iconst (v := 1) C0 d_Se_weigh_47 (by decide) ?_
        refine x_goto (tgt := 52) C0 d_Se_weigh_48 (by decide) ?_
        exact x_sub [0, 1, 2, 3, 4] rfl (t_Se_weigh_52 G C0 hR hr hlk hK10 _ _ _ _ _ _ _ _ _ hwp)
theorem t_Se_weigh_10 {p : Program} {l : Launch} {e : Env} {R : Room} {s : State} {m : MethodId} {args : Array Value} {below : List Frame} {meth : Method} {c : Code} (G : mG) (C0 : Cx G p s m args c prog_6_method_9_code 5 "BassRealiser$Search") (hR : 4 ≤ R.frames ∧ 93 ≤ R.locals ∧ 0 ≤ R.cells ∧ 0 ≤ R.slots) (hr : meth.sig.returnType = none) (hlk : meth.locks = false) {Post : MH → Prop} (l0 : Nat) (l1 : Int32) (l2 : Int32) (l3 : Nat) (l4 : Int32) (h : MH) (hwp : wp_Se_weigh_10 Post l0 l1 l2 l3 l4 h) : WG p l e R s m args below meth c 0 0 (MQ below (va_Qv Post (Wd G) (mA G)) args s 0 0 (mA G)) G 5 [(0, .ref (m_b G + l0)), (1, .int l1), (2, .int l2), (3, .ref (m_b G + l3)), (4, .int l4)] 10 [] h := by
  obtain ⟨n, hwp⟩ := hwp
  induction n generalizing l0 l1 l2 l3 l4 h with
  | zero => exact False.elim hwp
  | succ n ih => exact tb_Se_weigh_10 G C0 hR hr hlk (fun l0 l1 l2 l3 l4 h hwp => ih l0 l1 l2 l3 l4 h hwp) l0 l1 l2 l3 l4 h hwp
set_option maxRecDepth 100000 in
set_option maxHeartbeats 4000000 in
theorem t_Se_weigh {p : Program} {l : Launch} {e : Env} {R : Room} {s : State} {m : MethodId} {args : Array Value} {below : List Frame} {meth : Method} {c : Code} (G : mG) (C0 : Cx G p s m args c prog_6_method_9_code 5 "BassRealiser$Search") (hR : 4 ≤ R.frames ∧ 93 ≤ R.locals ∧ 0 ≤ R.cells ∧ 0 ≤ R.slots) (hr : meth.sig.returnType = none) (hlk : meth.locks = false) {Post : MH → Prop} (l0 : Nat) (l1 : Int32) (l2 : Int32) (h : MH) (hwp : wp_Se_weigh Post l0 l1 l2 h) : WG p l e R s m args below meth c 0 0 (MQ below (va_Qv Post (Wd G) (mA G)) args s 0 0 (mA G)) G 5 [(0, .ref (m_b G + l0)), (1, .int l1), (2, .int l2)] 0 [] h := by
  unfold wp_Se_weigh at hwp
  refine x_aload_n C0 0 d_Se_weigh_0 rfl rfl ?_
  obtain ⟨x1, e1, hwp⟩ := hwp
  refine x_getR C0 fk_Se_26 e1 d_Se_weigh_1 ?_
  refine x_iload_n C0 1 d_Se_weigh_4 rfl rfl ?_
  obtain ⟨n5, f5, q5, e5, i5, g5, hwp⟩ := hwp
  refine x_aald (t := 4) C0 e5 rfl i5 g5 d_Se_weigh_5 ?_
  refine x_astore_n C0 d_Se_weigh_6 rfl (by decide) (lv' := [(3, .ref (m_b G + q5)), (0, .ref (m_b G + l0)), (1, .int l1), (2, .int l2)]) rfl ?_
  refine x_iconst (v := 0) C0 d_Se_weigh_7 (by decide) ?_
  refine x_istore C0 d_Se_weigh_8 (by decide) (lv' := [(4, .int (0 : Int32)), (3, .ref (m_b G + q5)), (0, .ref (m_b G + l0)), (1, .int l1), (2, .int l2)]) rfl ?_
  exact x_sub [2, 3, 4, 1, 0] rfl (t_Se_weigh_10 G C0 hR hr hlk  _ _ _ _ _ _ hwp)
set_option maxRecDepth 100000 in
set_option maxHeartbeats 4000000 in
theorem c_Se_weigh (l : Launch) (G : mG) {Post : MH → Prop} {l0 : Nat} {l1 : Int32} {l2 : Int32} {h : MH} (hwp : wp_Se_weigh Post l0 l1 l2 h) : Met l y_Se_weigh (Cond.code y_Se_weigh prog_6_method_9_code 5 (Option.none : Option Jvm.ClassFile.FieldType) :: lw_good) ({ frames := 4, cells := 0, slots := 0, locals := 93 }) (va_Pc [.ref (m_b G + l0), .int l1, .int l2] (Wd G h)) (va_Qv Post (Wd G) (mA G)) 0 0 (mA G) := by
  refine Met.ofW (cc := prog_6_method_9_code) (maxL := 5) (ret := (Option.none : Option Jvm.ClassFile.FieldType)) (by decide +kernel) rfl ?_
  intro p e s m args below meth c s₁ B hml hv
  obtain ⟨rfl, hP, hz, hK, hSt⟩ := hv
  have hts := atoms_spec (ws := Cond.code y_Se_weigh prog_6_method_9_code 5 (Option.none : Option Jvm.ClassFile.FieldType) :: lw_good) B.pre
  have C0 : Cx G p s m ([.ref (m_b G + l0), .int l1, .int l2] : List Value).toArray c prog_6_method_9_code 5 "BassRealiser$Search" := ⟨⟨B.exec, B.bytes, hml, findClass_of_methodNamed B.named, fun w h => hts w (List.mem_cons_of_mem _ h)⟩, hK, hSt, by rw [hz]; exact Nat.le_add_right _ _⟩
  have hl := lv_entry ([.ref (m_b G + l0), .int l1, .int l2]) (n := 5) (Nat.le_of_ble_eq_true rfl)
  rw [lg_entry_eq]
  exact t_Se_weigh G C0 ⟨Nat.le_refl _, Nat.le_refl _, Nat.le_refl _, Nat.le_refl _⟩ B.returns B.notSynchronized _ _ _ _ hwp _ _ _ ⟨hP, hz, va_S.rf⟩ hl
def wb_Ru_farFromHome_4 (K4 : Nat → Int32 → Int32 → Int32 → MH → Prop) (Post : Int32 → MH → Prop) (l0 : Nat) (l1 : Int32) (l2 : Int32) (l3 : Int32) (h : MH) : Prop :=
  (((3 : Int32) ≤ l3) →
    (Post l2 h)) ∧
  ((¬ (3 : Int32) ≤ l3) →
    (wp_Br_pitchOf (fun (r12 : Int32) (h12 : MH) =>
        (∃ x16 : Nat, gF h12 l0 3 2 = some (.inr (some x16)) ∧
          (∃ (n20 : Nat) (f20 : Nat → Int32), gA h12 x16 0 = some (n20, f20) ∧ vp_in l3 n20 ∧
            (∀ z26 : Int32, z26 = l2 + (if 0 ≤ (r12 - (f20 (l3).toNatClampNeg)) then (r12 - (f20 (l3).toNatClampNeg)) else 0 - (r12 - (f20 (l3).toNatClampNeg))) →
              (K4 l0 l1 z26 (l3 + (1 : Int32)) h12))))) l1 l3 h))
def wn_Ru_farFromHome_4 (Post : Int32 → MH → Prop) : Nat → Nat → Int32 → Int32 → Int32 → MH → Prop
  | 0 => fun _ _ _ _ _ => False
  | n + 1 => wb_Ru_farFromHome_4 (wn_Ru_farFromHome_4 Post n) Post
def wp_Ru_farFromHome_4 (Post : Int32 → MH → Prop) (l0 : Nat) (l1 : Int32) (l2 : Int32) (l3 : Int32) (h : MH) : Prop := ∃ n, wn_Ru_farFromHome_4 Post n l0 l1 l2 l3 h
def wp_Ru_farFromHome (Post : Int32 → MH → Prop) (l0 : Nat) (l1 : Int32) (h : MH) : Prop :=
  wp_Ru_farFromHome_4 Post l0 l1 (0 : Int32) (0 : Int32) h
set_option maxRecDepth 100000 in
set_option maxHeartbeats 4000000 in
theorem tb_Ru_farFromHome_4 {p : Program} {l : Launch} {e : Env} {R : Room} {s : State} {m : MethodId} {args : Array Value} {below : List Frame} {meth : Method} {c : Code} (G : mG) (C0 : Cx G p s m args c prog_5_method_2_code 4 "BassRealiser$Rules") (hR : 1 ≤ R.frames ∧ 21 ≤ R.locals ∧ 0 ≤ R.cells ∧ 0 ≤ R.slots) (hr : meth.sig.returnType = some .int) (hlk : meth.locks = false) {Post : Int32 → MH → Prop} {K4 : Nat → Int32 → Int32 → Int32 → MH → Prop} (hK4 : ∀ (l0 : Nat) (l1 : Int32) (l2 : Int32) (l3 : Int32) (h : MH), K4 l0 l1 l2 l3 h → WG p l e R s m args below meth c 0 0 (MQ below (va_Qi Post (Wd G) (mA G)) args s 0 0 (mA G)) G 4 [(0, .ref (m_b G + l0)), (1, .int l1), (2, .int l2), (3, .int l3)] 4 [] h) (l0 : Nat) (l1 : Int32) (l2 : Int32) (l3 : Int32) (h : MH) (hwp : wb_Ru_farFromHome_4 K4 Post l0 l1 l2 l3 h) : WG p l e R s m args below meth c 0 0 (MQ below (va_Qi Post (Wd G) (mA G)) args s 0 0 (mA G)) G 4 [(0, .ref (m_b G + l0)), (1, .int l1), (2, .int l2), (3, .int l3)] 4 [] h := by
  unfold wb_Ru_farFromHome_4 at hwp
  refine x_iload_n C0 3 d_Ru_farFromHome_4 rfl rfl ?_
  refine x_iconst (v := 3) C0 d_Ru_farFromHome_5 (by decide) ?_
  refine x_icmp_ge (tgt := 33) C0 d_Ru_farFromHome_6 (by decide) (fun c6 => ?_) (fun c6 => ?_)
  · replace hwp := hwp.1 c6
    refine x_iload_n C0 2 d_Ru_farFromHome_33 rfl rfl ?_
    exact x_iret C0 hr hlk hwp d_Ru_farFromHome_34
  · replace hwp := hwp.2 c6
    refine x_iload_n C0 2 d_Ru_farFromHome_9 rfl rfl ?_
    refine x_iload_n C0 1 d_Ru_farFromHome_10 rfl rfl ?_
    refine x_iload_n C0 3 d_Ru_farFromHome_11 rfl rfl ?_
    refine x_callSNi0 (As := [.int l1, .int l3]) (st := [.int l2]) C0 (c_Br_pitchOf l G hwp) (m_nwA C0 nw_3) mk_Br_pitchOf kw_2_158 rfl (Nat.le_of_ble_eq_true rfl) rfl rfl ⟨Nat.le_trans (by decide) hR.1, Nat.le_trans (by decide) hR.2.1⟩ ⟨Nat.zero_le _, Nat.zero_le _⟩ rfl d_Ru_farFromHome_12 (fun r12 h12 hwp => ?_)
    refine x_aload_n C0 0 d_Ru_farFromHome_15 rfl rfl ?_
    obtain ⟨x16, e16, hwp⟩ := hwp
    refine x_getR C0 fk_Ru_18 e16 d_Ru_farFromHome_16 ?_
    refine x_iload_n C0 3 d_Ru_farFromHome_19 rfl rfl ?_
    obtain ⟨n20, f20, e20, i20, hwp⟩ := hwp
    refine x_iald C0 e20 i20 d_Ru_farFromHome_20 ?_
    refine x_isub C0 d_Ru_farFromHome_21 ?_
    refine x_mabs C0 kw_2_165 kw_2_21 kw_1_8 kw_2_22 d_Ru_farFromHome_22 ⟨Nat.le_trans (by decide) hR.1, Nat.le_trans (by decide) hR.2.1⟩ ⟨Nat.zero_le _, Nat.zero_le _⟩ (Nat.le_of_ble_eq_true rfl) ?_
    refine x_iadd C0 d_Ru_farFromHome_25 ?_
    refine x_topI (fun z26 e26 => ?_)
    replace hwp := hwp z26 e26
    refine x_istore_n C0 d_Ru_farFromHome_26 rfl (by decide) (lv' := [(2, .int z26), (0, .ref (m_b G + l0)), (1, .int l1), (3, .int l3)]) rfl ?_
    refine x_iinc C0 3 d_Ru_farFromHome_27 rfl rfl (by decide) (lv' := [(3, .int (l3 + (1 : Int32))), (2, .int z26), (0, .ref (m_b G + l0)), (1, .int l1)]) rfl ?_
    refine x_goto (tgt := 4) C0 d_Ru_farFromHome_30 (by decide) ?_
    exact x_sub [2, 3, 1, 0] rfl (hK4 _ _ _ _ _ hwp)
theorem t_Ru_farFromHome_4 {p : Program} {l : Launch} {e : Env} {R : Room} {s : State} {m : MethodId} {args : Array Value} {below : List Frame} {meth : Method} {c : Code} (G : mG) (C0 : Cx G p s m args c prog_5_method_2_code 4 "BassRealiser$Rules") (hR : 1 ≤ R.frames ∧ 21 ≤ R.locals ∧ 0 ≤ R.cells ∧ 0 ≤ R.slots) (hr : meth.sig.returnType = some .int) (hlk : meth.locks = false) {Post : Int32 → MH → Prop} (l0 : Nat) (l1 : Int32) (l2 : Int32) (l3 : Int32) (h : MH) (hwp : wp_Ru_farFromHome_4 Post l0 l1 l2 l3 h) : WG p l e R s m args below meth c 0 0 (MQ below (va_Qi Post (Wd G) (mA G)) args s 0 0 (mA G)) G 4 [(0, .ref (m_b G + l0)), (1, .int l1), (2, .int l2), (3, .int l3)] 4 [] h := by
  obtain ⟨n, hwp⟩ := hwp
  induction n generalizing l0 l1 l2 l3 h with
  | zero => exact False.elim hwp
  | succ n ih => exact tb_Ru_farFromHome_4 G C0 hR hr hlk (fun l0 l1 l2 l3 h hwp => ih l0 l1 l2 l3 h hwp) l0 l1 l2 l3 h hwp
set_option maxRecDepth 100000 in
set_option maxHeartbeats 4000000 in
theorem t_Ru_farFromHome {p : Program} {l : Launch} {e : Env} {R : Room} {s : State} {m : MethodId} {args : Array Value} {below : List Frame} {meth : Method} {c : Code} (G : mG) (C0 : Cx G p s m args c prog_5_method_2_code 4 "BassRealiser$Rules") (hR : 1 ≤ R.frames ∧ 21 ≤ R.locals ∧ 0 ≤ R.cells ∧ 0 ≤ R.slots) (hr : meth.sig.returnType = some .int) (hlk : meth.locks = false) {Post : Int32 → MH → Prop} (l0 : Nat) (l1 : Int32) (h : MH) (hwp : wp_Ru_farFromHome Post l0 l1 h) : WG p l e R s m args below meth c 0 0 (MQ below (va_Qi Post (Wd G) (mA G)) args s 0 0 (mA G)) G 4 [(0, .ref (m_b G + l0)), (1, .int l1)] 0 [] h := by
  unfold wp_Ru_farFromHome at hwp
  refine x_iconst (v := 0) C0 d_Ru_farFromHome_0 (by decide) ?_
  refine x_istore_n C0 d_Ru_farFromHome_1 rfl (by decide) (lv' := [(2, .int (0 : Int32)), (0, .ref (m_b G + l0)), (1, .int l1)]) rfl ?_
  refine x_iconst (v := 0) C0 d_Ru_farFromHome_2 (by decide) ?_
  refine x_istore_n C0 d_Ru_farFromHome_3 rfl (by decide) (lv' := [(3, .int (0 : Int32)), (2, .int (0 : Int32)), (0, .ref (m_b G + l0)), (1, .int l1)]) rfl ?_
  exact x_sub [2, 3, 1, 0] rfl (t_Ru_farFromHome_4 G C0 hR hr hlk  _ _ _ _ _ hwp)
set_option maxRecDepth 100000 in
set_option maxHeartbeats 4000000 in
theorem c_Ru_farFromHome (l : Launch) (G : mG) {Post : Int32 → MH → Prop} {l0 : Nat} {l1 : Int32} {h : MH} (hwp : wp_Ru_farFromHome Post l0 l1 h) : Met l y_Ru_farFromHome (Cond.code y_Ru_farFromHome prog_5_method_2_code 4 (Option.some Jvm.ClassFile.FieldType.int) :: lw_good) ({ frames := 1, cells := 0, slots := 0, locals := 21 }) (va_Pc [.ref (m_b G + l0), .int l1] (Wd G h)) (va_Qi Post (Wd G) (mA G)) 0 0 (mA G) := by
  refine Met.ofW (cc := prog_5_method_2_code) (maxL := 4) (ret := (Option.some Jvm.ClassFile.FieldType.int)) (by decide +kernel) rfl ?_
  intro p e s m args below meth c s₁ B hml hv
  obtain ⟨rfl, hP, hz, hK, hSt⟩ := hv
  have hts := atoms_spec (ws := Cond.code y_Ru_farFromHome prog_5_method_2_code 4 (Option.some Jvm.ClassFile.FieldType.int) :: lw_good) B.pre
  have C0 : Cx G p s m ([.ref (m_b G + l0), .int l1] : List Value).toArray c prog_5_method_2_code 4 "BassRealiser$Rules" := ⟨⟨B.exec, B.bytes, hml, findClass_of_methodNamed B.named, fun w h => hts w (List.mem_cons_of_mem _ h)⟩, hK, hSt, by rw [hz]; exact Nat.le_add_right _ _⟩
  have hl := lv_entry ([.ref (m_b G + l0), .int l1]) (n := 4) (Nat.le_of_ble_eq_true rfl)
  rw [lg_entry_eq]
  exact t_Ru_farFromHome G C0 ⟨Nat.le_refl _, Nat.le_refl _, Nat.le_refl _, Nat.le_refl _⟩ B.returns B.notSynchronized _ _ _ hwp _ _ _ ⟨hP, hz, va_S.rf⟩ hl
def wp_Se_pickFirst_99 (K9 : Nat → Nat → Int32 → MH → Prop) (Post : MH → Prop) (l0 : Nat) (l1 : Nat) (l2 : Int32) (h : MH) : Prop :=
  K9 l0 l1 (l2 + (1 : Int32)) h
def wp_Se_pickFirst_82 (K9 : Nat → Nat → Int32 → MH → Prop) (Post : MH → Prop) (l0 : Nat) (l1 : Nat) (l2 : Int32) (h : MH) : Prop :=
  ∃ x84 : Int32, gF h l0 4 7 = some (.inl x84) ∧
  (∃ x88 : Nat, gF h l1 1 2 = some (.inr (some x88)) ∧
    (∃ (n92 : Nat) (f92 : Nat → Int32), gA h x88 0 = some (n92, f92) ∧ vp_in l2 n92 ∧
      (wp_Se_joined (fun (r93 : Int32) (h93 : MH) =>
          ((∃ o : MV, gF h93 l0 4 7 = some o) ∧ ∀ h96 : MH, h96 = fset h93 l0 7 (.inl r93 : MV) →
            (wp_Se_pickFirst_99 K9 Post l0 l1 l2 h96))) x84 (f92 (l2).toNatClampNeg) h)))
def wp_Se_pickFirst_65 (K9 : Nat → Nat → Int32 → MH → Prop) (Post : MH → Prop) (l0 : Nat) (l1 : Nat) (l2 : Int32) (l3 : Int32) (h : MH) : Prop :=
  (∃ o : MV, gF h l0 4 6 = some o) ∧ ∀ h67 : MH, h67 = fset h l0 6 (.inl l3 : MV) →
  (∃ x71 : Nat, gF h67 l0 4 4 = some (.inr (some x71)) ∧
    (∃ x76 : Nat, gF h67 l1 1 0 = some (.inr (some x76)) ∧
      (∃ (n80 : Nat) (f80 : Nat → Int32), gA h67 x76 0 = some (n80, f80) ∧ vp_in l2 n80 ∧
        (∃ (n81 : Nat) (f81 : Nat → Int32), gA h67 x71 0 = some (n81, f81) ∧ vp_in (0 : Int32) n81 ∧ ∀ h81 : MH, h81 = mset h67 x71 (.inr (0, n81, .inl (upd f81 ((0 : Int32)).toNatClampNeg (f80 (l2).toNatClampNeg)))) →
          (wp_Se_pickFirst_82 K9 Post l0 l1 l2 h81)))))
def wb_Se_pickFirst_9 (K9 : Nat → Nat → Int32 → MH → Prop) (Post : MH → Prop) (l0 : Nat) (l1 : Nat) (l2 : Int32) (h : MH) : Prop :=
  ∃ x11 : Int32, gF h l1 1 4 = some (.inl x11) ∧
  (((x11 ≤ l2) →
      (Post h)) ∧
    ((¬ x11 ≤ l2) →
      (∃ x18 : Nat, gF h l1 1 2 = some (.inr (some x18)) ∧
        (∃ (n22 : Nat) (f22 : Nat → Int32), gA h x18 0 = some (n22, f22) ∧ vp_in l2 n22 ∧
          (((¬ (f22 (l2).toNatClampNeg) = 0) →
              (∃ x30 : Nat, gF h l0 4 1 = some (.inr (some x30)) ∧
                (∃ x34 : Nat, gF h l1 1 0 = some (.inr (some x34)) ∧
                  (∃ (n38 : Nat) (f38 : Nat → Int32), gA h x34 0 = some (n38, f38) ∧ vp_in l2 n38 ∧
                    (gC h x30 = some 3 ∧ wp_Ru_farFromHome (fun (r39 : Int32) (h39 : MH) =>
                        (∃ x43 : Nat, gF h39 l1 1 3 = some (.inr (some x43)) ∧
                        (∃ (n47 : Nat) (f47 : Nat → Int32), gA h39 x43 0 = some (n47, f47) ∧ vp_in l2 n47 ∧
                        (∀ z49 : Int32, z49 = r39 + (f47 (l2).toNatClampNeg) →
                        (∃ x51 : Int32, gF h39 l0 4 7 = some (.inl x51) ∧
                        (((x51 = 0) →
                        (wp_Se_pickFirst_65 K9 Post l0 l1 l2 z49 h39)) ∧
                        ((¬ x51 = 0) →
                        (∃ x59 : Int32, gF h39 l0 4 6 = some (.inl x59) ∧
                        (((x59 ≤ z49) →
                        (wp_Se_pickFirst_82 K9 Post l0 l1 l2 h39)) ∧
                        ((¬ x59 ≤ z49) →
                        (wp_Se_pickFirst_65 K9 Post l0 l1 l2 z49 h39))))))))))) x30 (f38 (l2).toNatClampNeg) h))))) ∧
            (((f22 (l2).toNatClampNeg) = 0) →
              (wp_Se_pickFirst_99 K9 Post l0 l1 l2 h)))))))
def wn_Se_pickFirst_9 (Post : MH → Prop) : Nat → Nat → Nat → Int32 → MH → Prop
  | 0 => fun _ _ _ _ => False
  | n + 1 => wb_Se_pickFirst_9 (wn_Se_pickFirst_9 Post n) Post
def wp_Se_pickFirst_9 (Post : MH → Prop) (l0 : Nat) (l1 : Nat) (l2 : Int32) (h : MH) : Prop := ∃ n, wn_Se_pickFirst_9 Post n l0 l1 l2 h
def wp_Se_pickFirst (Post : MH → Prop) (l0 : Nat) (h : MH) : Prop :=
  ∃ x1 : Nat, gF h l0 4 2 = some (.inr (some x1)) ∧
  (∃ (n5 : Nat) (f5 : Nat → Option Nat) (q5 : Nat), gR h x1 4 = some (n5, f5) ∧ vp_in (0 : Int32) n5 ∧ f5 ((0 : Int32)).toNatClampNeg = some q5 ∧
    (wp_Se_pickFirst_9 Post l0 q5 (0 : Int32) h))
set_option maxRecDepth 100000 in
set_option maxHeartbeats 4000000 in
theorem t_Se_pickFirst_99 {p : Program} {l : Launch} {e : Env} {R : Room} {s : State} {m : MethodId} {args : Array Value} {below : List Frame} {meth : Method} {c : Code} (G : mG) (C0 : Cx G p s m args c prog_6_method_12_code 4 "BassRealiser$Search") (hR : 2 ≤ R.frames ∧ 44 ≤ R.locals ∧ 0 ≤ R.cells ∧ 0 ≤ R.slots) (hr : meth.sig.returnType = none) (hlk : meth.locks = false) {Post : MH → Prop} {K9 : Nat → Nat → Int32 → MH → Prop} (hK9 : ∀ (l0 : Nat) (l1 : Nat) (l2 : Int32) (h : MH), K9 l0 l1 l2 h → WG p l e R s m args below meth c 0 0 (MQ below (va_Qv Post (Wd G) (mA G)) args s 0 0 (mA G)) G 4 [(0, .ref (m_b G + l0)), (1, .ref (m_b G + l1)), (2, .int l2)] 9 [] h) (l0 : Nat) (l1 : Nat) (l2 : Int32) (h : MH) (hwp : wp_Se_pickFirst_99 K9 Post l0 l1 l2 h) : WG p l e R s m args below meth c 0 0 (MQ below (va_Qv Post (Wd G) (mA G)) args s 0 0 (mA G)) G 4 [(0, .ref (m_b G + l0)), (1, .ref (m_b G + l1)), (2, .int l2)] 99 [] h := by
  unfold wp_Se_pickFirst_99 at hwp
  refine x_iinc C0 2 d_Se_pickFirst_99 rfl rfl (by decide) (lv' := [(2, .int (l2 + (1 : Int32))), (0, .ref (m_b G + l0)), (1, .ref (m_b G + l1))]) rfl ?_
  refine x_goto (tgt := 9) C0 d_Se_pickFirst_102 (by decide) ?_
  exact x_sub [1, 2, 0] rfl (hK9 _ _ _ _ hwp)
set_option maxRecDepth 100000 in
set_option maxHeartbeats 4000000 in
theorem t_Se_pickFirst_82 {p : Program} {l : Launch} {e : Env} {R : Room} {s : State} {m : MethodId} {args : Array Value} {below : List Frame} {meth : Method} {c : Code} (G : mG) (C0 : Cx G p s m args c prog_6_method_12_code 4 "BassRealiser$Search") (hR : 2 ≤ R.frames ∧ 44 ≤ R.locals ∧ 0 ≤ R.cells ∧ 0 ≤ R.slots) (hr : meth.sig.returnType = none) (hlk : meth.locks = false) {Post : MH → Prop} {K9 : Nat → Nat → Int32 → MH → Prop} (hK9 : ∀ (l0 : Nat) (l1 : Nat) (l2 : Int32) (h : MH), K9 l0 l1 l2 h → WG p l e R s m args below meth c 0 0 (MQ below (va_Qv Post (Wd G) (mA G)) args s 0 0 (mA G)) G 4 [(0, .ref (m_b G + l0)), (1, .ref (m_b G + l1)), (2, .int l2)] 9 [] h) (l0 : Nat) (l1 : Nat) (l2 : Int32) (h : MH) (hwp : wp_Se_pickFirst_82 K9 Post l0 l1 l2 h) : WG p l e R s m args below meth c 0 0 (MQ below (va_Qv Post (Wd G) (mA G)) args s 0 0 (mA G)) G 4 [(0, .ref (m_b G + l0)), (1, .ref (m_b G + l1)), (2, .int l2)] 82 [] h := by
  unfold wp_Se_pickFirst_82 at hwp
  refine x_aload_n C0 0 d_Se_pickFirst_82 rfl rfl ?_
  refine x_aload_n C0 0 d_Se_pickFirst_83 rfl rfl ?_
  obtain ⟨x84, e84, hwp⟩ := hwp
  refine x_getI C0 fk_Se_58 e84 d_Se_pickFirst_84 ?_
  refine x_aload_n C0 1 d_Se_pickFirst_87 rfl rfl ?_
  obtain ⟨x88, e88, hwp⟩ := hwp
  refine x_getR C0 fk_Se_122 e88 d_Se_pickFirst_88 ?_
  refine x_iload_n C0 2 d_Se_pickFirst_91 rfl rfl ?_
  obtain ⟨n92, f92, e92, i92, hwp⟩ := hwp
  refine x_iald C0 e92 i92 d_Se_pickFirst_92 ?_
  refine x_callSi0 (As := [.int x84, .int (f92 (l2).toNatClampNeg)]) (st := [.ref (m_b G + l0)]) C0 (c_Se_joined l G hwp) kw_3_13 mk_Se_joined kw_3_14 rfl (Nat.le_of_ble_eq_true rfl) rfl rfl ⟨Nat.le_trans (by decide) hR.1, Nat.le_trans (by decide) hR.2.1⟩ ⟨Nat.zero_le _, Nat.zero_le _⟩ rfl d_Se_pickFirst_93 (fun r93 h93 hwp => ?_)
  obtain ⟨⟨o96, e96⟩, hwp⟩ := hwp
  refine x_put (x := (.inl r93 : MV)) C0 pk_Se_58 e96 rfl rfl d_Se_pickFirst_96 ?_
  refine x_nh (fun h96 eh96 => ?_)
  replace hwp := hwp h96 eh96
  exact x_sub [0, 1, 2] rfl (t_Se_pickFirst_99 G C0 hR hr hlk hK9 _ _ _ _ hwp)
set_option maxRecDepth 100000 in
set_option maxHeartbeats 4000000 in
theorem t_Se_pickFirst_65 {p : Program} {l : Launch} {e : Env} {R : Room} {s : State} {m : MethodId} {args : Array Value} {below : List Frame} {meth : Method} {c : Code} (G : mG) (C0 : Cx G p s m args c prog_6_method_12_code 4 "BassRealiser$Search") (hR : 2 ≤ R.frames ∧ 44 ≤ R.locals ∧ 0 ≤ R.cells ∧ 0 ≤ R.slots) (hr : meth.sig.returnType = none) (hlk : meth.locks = false) {Post : MH → Prop} {K9 : Nat → Nat → Int32 → MH → Prop} (hK9 : ∀ (l0 : Nat) (l1 : Nat) (l2 : Int32) (h : MH), K9 l0 l1 l2 h → WG p l e R s m args below meth c 0 0 (MQ below (va_Qv Post (Wd G) (mA G)) args s 0 0 (mA G)) G 4 [(0, .ref (m_b G + l0)), (1, .ref (m_b G + l1)), (2, .int l2)] 9 [] h) (l0 : Nat) (l1 : Nat) (l2 : Int32) (l3 : Int32) (h : MH) (hwp : wp_Se_pickFirst_65 K9 Post l0 l1 l2 l3 h) : WG p l e R s m args below meth c 0 0 (MQ below (va_Qv Post (Wd G) (mA G)) args s 0 0 (mA G)) G 4 [(0, .ref (m_b G + l0)), (1, .ref (m_b G + l1)), (2, .int l2), (3, .int l3)] 65 [] h := by
  unfold wp_Se_pickFirst_65 at hwp
  refine x_aload_n C0 0 d_Se_pickFirst_65 rfl rfl ?_
  refine x_iload_n C0 3 d_Se_pickFirst_66 rfl rfl ?_
  obtain ⟨⟨o67, e67⟩, hwp⟩ := hwp
  refine x_put (x := (.inl l3 : MV)) C0 pk_Se_61 e67 rfl rfl d_Se_pickFirst_67 ?_
  refine x_nh (fun h67 eh67 => ?_)
  replace hwp := hwp h67 eh67
  refine x_aload_n C0 0 d_Se_pickFirst_70 rfl rfl ?_
  obtain ⟨x71, e71, hwp⟩ := hwp
  refine x_getR C0 fk_Se_39 e71 d_Se_pickFirst_71 ?_
  refine x_iconst (v := 0) C0 d_Se_pickFirst_74 (by decide) ?_
  refine x_aload_n C0 1 d_Se_pickFirst_75 rfl rfl ?_
  obtain ⟨x76, e76, hwp⟩ := hwp
  refine x_getR C0 fk_Se_90 e76 d_Se_pickFirst_76 ?_
  refine x_iload_n C0 2 d_Se_pickFirst_79 rfl rfl ?_
  obtain ⟨n80, f80, e80, i80, hwp⟩ := hwp
  refine x_iald C0 e80 i80 d_Se_pickFirst_80 ?_
  obtain ⟨n81, f81, e81, i81, hwp⟩ := hwp
  refine x_iast C0 e81 i81 d_Se_pickFirst_81 ?_
  refine x_nh (fun h81 eh81 => ?_)
  replace hwp := hwp h81 eh81
  exact x_sub [0, 1, 2] rfl (t_Se_pickFirst_82 G C0 hR hr hlk hK9 _ _ _ _ hwp)
set_option maxRecDepth 100000 in
set_option maxHeartbeats 4000000 in
theorem tb_Se_pickFirst_9 {p : Program} {l : Launch} {e : Env} {R : Room} {s : State} {m : MethodId} {args : Array Value} {below : List Frame} {meth : Method} {c : Code} (G : mG) (C0 : Cx G p s m args c prog_6_method_12_code 4 "BassRealiser$Search") (hR : 2 ≤ R.frames ∧ 44 ≤ R.locals ∧ 0 ≤ R.cells ∧ 0 ≤ R.slots) (hr : meth.sig.returnType = none) (hlk : meth.locks = false) {Post : MH → Prop} {K9 : Nat → Nat → Int32 → MH → Prop} (hK9 : ∀ (l0 : Nat) (l1 : Nat) (l2 : Int32) (h : MH), K9 l0 l1 l2 h → WG p l e R s m args below meth c 0 0 (MQ below (va_Qv Post (Wd G) (mA G)) args s 0 0 (mA G)) G 4 [(0, .ref (m_b G + l0)), (1, .ref (m_b G + l1)), (2, .int l2)] 9 [] h) (l0 : Nat) (l1 : Nat) (l2 : Int32) (h : MH) (hwp : wb_Se_pickFirst_9 K9 Post l0 l1 l2 h) : WG p l e R s m args below meth c 0 0 (MQ below (va_Qv Post (Wd G) (mA G)) args s 0 0 (mA G)) G 4 [(0, .ref (m_b G + l0)), (1, .ref (m_b G + l1)), (2, .int l2)] 9 [] h := by
  unfold wb_Se_pickFirst_9 at hwp
  refine x_iload_n C0 2 d_Se_pickFirst_9 rfl rfl ?_
  refine x_aload_n C0 1 d_Se_pickFirst_10 rfl rfl ?_
  obtain ⟨x11, e11, hwp⟩ := hwp
  refine x_getI C0 fk_Se_87 e11 d_Se_pickFirst_11 ?_
  refine x_icmp_ge (tgt := 105) C0 d_Se_pickFirst_14 (by decide) (fun c14 => ?_) (fun c14 => ?_)
  · replace hwp := hwp.1 c14
    exact x_vret C0 hr hlk hwp d_Se_pickFirst_105
  · replace hwp := hwp.2 c14
    refine x_aload_n C0 1 d_Se_pickFirst_17 rfl rfl ?_
    obtain ⟨x18, e18, hwp⟩ := hwp
    refine x_getR C0 fk_Se_122 e18 d_Se_pickFirst_18 ?_
    refine x_iload_n C0 2 d_Se_pickFirst_21 rfl rfl ?_
    obtain ⟨n22, f22, e22, i22, hwp⟩ := hwp
    refine x_iald C0 e22 i22 d_Se_pickFirst_22 ?_
    refine x_if_ne (tgt := 29) C0 d_Se_pickFirst_23 (by decide) (fun c23 => ?_) (fun c23 => ?_)
    · replace hwp := hwp.1 c23
      refine x_aload_n C0 0 d_Se_pickFirst_29 rfl rfl ?_
      obtain ⟨x30, e30, hwp⟩ := hwp
      refine x_getR C0 fk_Se_20 e30 d_Se_pickFirst_30 ?_
      refine x_aload_n C0 1 d_Se_pickFirst_33 rfl rfl ?_
      obtain ⟨x34, e34, hwp⟩ := hwp
      refine x_getR C0 fk_Se_90 e34 d_Se_pickFirst_34 ?_
      refine x_iload_n C0 2 d_Se_pickFirst_37 rfl rfl ?_
      obtain ⟨n38, f38, e38, i38, hwp⟩ := hwp
      refine x_iald C0 e38 i38 d_Se_pickFirst_38 ?_
      obtain ⟨g39, hwp⟩ := hwp
      refine x_callVi0 (k := x30) (As := [.int (f38 (l2).toNatClampNeg)]) (st := []) C0 (c_Ru_farFromHome l G hwp) kw_3_21 mk_Ru_farFromHome vk_Ru_farFromHome rfl g39 rfl (Nat.le_of_ble_eq_true rfl) rfl rfl ⟨Nat.le_trans (by decide) hR.1, Nat.le_trans (by decide) hR.2.1⟩ ⟨Nat.zero_le _, Nat.zero_le _⟩ rfl d_Se_pickFirst_39 (fun r39 h39 hwp => ?_)
      refine x_aload_n C0 1 d_Se_pickFirst_42 rfl rfl ?_
      obtain ⟨x43, e43, hwp⟩ := hwp
      refine x_getR C0 fk_Se_119 e43 d_Se_pickFirst_43 ?_
      refine x_iload_n C0 2 d_Se_pickFirst_46 rfl rfl ?_
      obtain ⟨n47, f47, e47, i47, hwp⟩ := hwp
      refine x_iald C0 e47 i47 d_Se_pickFirst_47 ?_
      refine x_iadd C0 d_Se_pickFirst_48 ?_
      refine x_topI (fun z49 e49 => ?_)
      replace hwp := hwp z49 e49
      refine x_istore_n C0 d_Se_pickFirst_49 rfl (by decide) (lv' := [(3, .int z49), (0, .ref (m_b G + l0)), (1, .ref (m_b G + l1)), (2, .int l2)]) rfl ?_
      refine x_aload_n C0 1 d_Se_pickFirst_50 rfl rfl ?_
      obtain ⟨x51, e51, hwp⟩ := hwp
      refine x_getI C0 fk_Se_58 e51 d_Se_pickFirst_51 ?_
      refine x_if_eq (tgt := 65) C0 d_Se_pickFirst_54 (by decide) (fun c54 => ?_) (fun c54 => ?_)
      · replace hwp := hwp.1 c54
        exact x_sub [1, 2, 3, 0] rfl (t_Se_pickFirst_65 G C0 hR hr hlk hK9 _ _ _ _ _ hwp)
      · replace hwp := hwp.2 c54
        refine x_iload_n C0 0 d_Se_pickFirst_57 rfl rfl ?_
        refine x_aload_n C0 1 d_Se_pickFirst_58 rfl rfl ?_
        obtain ⟨x59, e59, hwp⟩ := hwp
        refine x_getI C0 fk_Se_61 e59 d_Se_pickFirst_59 ?_
        refine x_icmp_ge (tgt := 82) C0 d_Se_pickFirst_62 (by decide) (fun c62 => ?_) (fun c62 => ?_)
        · replace hwp := hwp.1 c62
          exact x_sub [1, 2, 3] rfl (t_Se_pickFirst_82 G C0 hR hr hlk hK9 _ _ _ _ hwp)
        · replace hwp := hwp.2 c62
          exact x_sub [1, 2, 3, 0] rfl (t_Se_pickFirst_65 G C0 hR hr hlk hK9 _ _ _ _ _ hwp)
    · replace hwp := hwp.2 c23
      refine x_goto (tgt := 99) C0 d_Se_pickFirst_26 (by decide) ?_
      exact x_sub [0, 1, 2] rfl (t_Se_pickFirst_99 G C0 hR hr hlk hK9 _ _ _ _ hwp)
theorem t_Se_pickFirst_9 {p : Program} {l : Launch} {e : Env} {R : Room} {s : State} {m : MethodId} {args : Array Value} {below : List Frame} {meth : Method} {c : Code} (G : mG) (C0 : Cx G p s m args c prog_6_method_12_code 4 "BassRealiser$Search") (hR : 2 ≤ R.frames ∧ 44 ≤ R.locals ∧ 0 ≤ R.cells ∧ 0 ≤ R.slots) (hr : meth.sig.returnType = none) (hlk : meth.locks = false) {Post : MH → Prop} (l0 : Nat) (l1 : Nat) (l2 : Int32) (h : MH) (hwp : wp_Se_pickFirst_9 Post l0 l1 l2 h) : WG p l e R s m args below meth c 0 0 (MQ below (va_Qv Post (Wd G) (mA G)) args s 0 0 (mA G)) G 4 [(0, .ref (m_b G + l0)), (1, .ref (m_b G + l1)), (2, .int l2)] 9 [] h := by
  obtain ⟨n, hwp⟩ := hwp
  induction n generalizing l0 l1 l2 h with
  | zero => exact False.elim hwp
  | succ n ih => exact tb_Se_pickFirst_9 G C0 hR hr hlk (fun l0 l1 l2 h hwp => ih l0 l1 l2 h hwp) l0 l1 l2 h hwp
set_option maxRecDepth 100000 in
set_option maxHeartbeats 4000000 in
theorem t_Se_pickFirst {p : Program} {l : Launch} {e : Env} {R : Room} {s : State} {m : MethodId} {args : Array Value} {below : List Frame} {meth : Method} {c : Code} (G : mG) (C0 : Cx G p s m args c prog_6_method_12_code 4 "BassRealiser$Search") (hR : 2 ≤ R.frames ∧ 44 ≤ R.locals ∧ 0 ≤ R.cells ∧ 0 ≤ R.slots) (hr : meth.sig.returnType = none) (hlk : meth.locks = false) {Post : MH → Prop} (l0 : Nat) (h : MH) (hwp : wp_Se_pickFirst Post l0 h) : WG p l e R s m args below meth c 0 0 (MQ below (va_Qv Post (Wd G) (mA G)) args s 0 0 (mA G)) G 4 [(0, .ref (m_b G + l0))] 0 [] h := by
  unfold wp_Se_pickFirst at hwp
  refine x_aload_n C0 0 d_Se_pickFirst_0 rfl rfl ?_
  obtain ⟨x1, e1, hwp⟩ := hwp
  refine x_getR C0 fk_Se_26 e1 d_Se_pickFirst_1 ?_
  refine x_iconst (v := 0) C0 d_Se_pickFirst_4 (by decide) ?_
  obtain ⟨n5, f5, q5, e5, i5, g5, hwp⟩ := hwp
  refine x_aald (t := 4) C0 e5 rfl i5 g5 d_Se_pickFirst_5 ?_
  refine x_astore_n C0 d_Se_pickFirst_6 rfl (by decide) (lv' := [(1, .ref (m_b G + q5)), (0, .ref (m_b G + l0))]) rfl ?_
  refine x_iconst (v := 0) C0 d_Se_pickFirst_7 (by decide) ?_
  refine x_istore_n C0 d_Se_pickFirst_8 rfl (by decide) (lv' := [(2, .int (0 : Int32)), (1, .ref (m_b G + q5)), (0, .ref (m_b G + l0))]) rfl ?_
  exact x_sub [2, 1, 0] rfl (t_Se_pickFirst_9 G C0 hR hr hlk  _ _ _ _ hwp)
set_option maxRecDepth 100000 in
set_option maxHeartbeats 4000000 in
theorem c_Se_pickFirst (l : Launch) (G : mG) {Post : MH → Prop} {l0 : Nat} {h : MH} (hwp : wp_Se_pickFirst Post l0 h) : Met l y_Se_pickFirst (Cond.code y_Se_pickFirst prog_6_method_12_code 4 (Option.none : Option Jvm.ClassFile.FieldType) :: lw_good) ({ frames := 2, cells := 0, slots := 0, locals := 44 }) (va_Pc [.ref (m_b G + l0)] (Wd G h)) (va_Qv Post (Wd G) (mA G)) 0 0 (mA G) := by
  refine Met.ofW (cc := prog_6_method_12_code) (maxL := 4) (ret := (Option.none : Option Jvm.ClassFile.FieldType)) (by decide +kernel) rfl ?_
  intro p e s m args below meth c s₁ B hml hv
  obtain ⟨rfl, hP, hz, hK, hSt⟩ := hv
  have hts := atoms_spec (ws := Cond.code y_Se_pickFirst prog_6_method_12_code 4 (Option.none : Option Jvm.ClassFile.FieldType) :: lw_good) B.pre
  have C0 : Cx G p s m ([.ref (m_b G + l0)] : List Value).toArray c prog_6_method_12_code 4 "BassRealiser$Search" := ⟨⟨B.exec, B.bytes, hml, findClass_of_methodNamed B.named, fun w h => hts w (List.mem_cons_of_mem _ h)⟩, hK, hSt, by rw [hz]; exact Nat.le_add_right _ _⟩
  have hl := lv_entry ([.ref (m_b G + l0)]) (n := 4) (Nat.le_of_ble_eq_true rfl)
  rw [lg_entry_eq]
  exact t_Se_pickFirst G C0 ⟨Nat.le_refl _, Nat.le_refl _, Nat.le_refl _, Nat.le_refl _⟩ B.returns B.notSynchronized _ _ hwp _ _ _ ⟨hP, hz, va_S.rf⟩ hl
def wp_Se_pickNext_138 (K35 : Nat → Int32 → Nat → Int32 → Int32 → MH → Prop) (Post : MH → Prop) (l0 : Nat) (l1 : Int32) (l2 : Nat) (l3 : Int32) (l4 : Int32) (h : MH) : Prop :=
  K35 l0 l1 l2 l3 (l4 + (1 : Int32)) h
def wp_Se_pickNext_122 (K35 : Nat → Int32 → Nat → Int32 → Int32 → MH → Prop) (Post : MH → Prop) (l0 : Nat) (l1 : Int32) (l2 : Nat) (l4 : Int32) (l5 : Int32) (h : MH) : Prop :=
  ∃ x126 : Nat, gF h l0 4 4 = some (.inr (some x126)) ∧
  (∃ x131 : Nat, gF h l2 1 0 = some (.inr (some x131)) ∧
    (∃ (n136 : Nat) (f136 : Nat → Int32), gA h x131 0 = some (n136, f136) ∧ vp_in l4 n136 ∧
      (∃ (n137 : Nat) (f137 : Nat → Int32), gA h x126 0 = some (n137, f137) ∧ vp_in l1 n137 ∧ ∀ h137 : MH, h137 = mset h x126 (.inr (0, n137, .inl (upd f137 (l1).toNatClampNeg (f136 (l4).toNatClampNeg)))) →
        (wp_Se_pickNext_138 K35 Post l0 l1 l2 l5 l4 h137))))
def wb_Se_pickNext_35 (K35 : Nat → Int32 → Nat → Int32 → Int32 → MH → Prop) (Post : MH → Prop) (l0 : Nat) (l1 : Int32) (l2 : Nat) (l3 : Int32) (l4 : Int32) (h : MH) : Prop :=
  ∃ x38 : Int32, gF h l2 1 4 = some (.inl x38) ∧
  (((x38 ≤ l4) →
      (Post h)) ∧
    ((¬ x38 ≤ l4) →
      (∃ x45 : Nat, gF h l0 4 3 = some (.inr (some x45)) ∧
        (∃ x49 : Nat, gF h l0 4 0 = some (.inr (some x49)) ∧
          (∃ (n53 : Nat) (f53 : Nat → Option Nat) (q53 : Nat), gR h x49 3 = some (n53, f53) ∧ vp_in l1 n53 ∧ f53 (l1).toNatClampNeg = some q53 ∧
            (∃ x55 : Nat, gF h l2 1 0 = some (.inr (some x55)) ∧
              (∃ (n60 : Nat) (f60 : Nat → Int32), gA h x55 0 = some (n60, f60) ∧ vp_in l4 n60 ∧
                (gC h x45 = some 2 ∧ wp_Mv_arrive (fun (h61 : MH) =>
                    (∃ x65 : Nat, gF h61 l2 1 2 = some (.inr (some x65)) ∧
                      (∃ (n70 : Nat) (f70 : Nat → Int32), gA h61 x65 0 = some (n70, f70) ∧ vp_in l4 n70 ∧
                        ((((f70 (l4).toNatClampNeg) = 0) →
                        (wp_Se_pickNext_138 K35 Post l0 l1 l2 l3 l4 h61)) ∧
                        ((¬ (f70 (l4).toNatClampNeg) = 0) →
                        (∃ x75 : Nat, gF h61 l0 4 3 = some (.inr (some x75)) ∧
                        (∃ x79 : Nat, gF h61 l0 4 1 = some (.inr (some x79)) ∧
                        (∃ x82 : Int32, gF h61 x79 3 3 = some (.inl x82) ∧
                        (gC h61 x75 = some 2 ∧ wp_Mv_rule (fun (r85 : Int32) (h85 : MH) =>
                        (((r85 = 0) →
                        (∃ x95 : Nat, gF h85 l0 4 3 = some (.inr (some x95)) ∧
                        (gC h85 x95 = some 2 ∧ wp_Mv_length (fun (r98 : Int32) (h98 : MH) =>
                        (∃ x102 : Nat, gF h98 l2 1 3 = some (.inr (some x102)) ∧
                        (∃ (n107 : Nat) (f107 : Nat → Int32), gA h98 x102 0 = some (n107, f107) ∧ vp_in l4 n107 ∧
                        (∀ z109 : Int32, z109 = r98 + (f107 (l4).toNatClampNeg) →
                        (((l3 = (-1 : Int32)) →
                        (wp_Se_pickNext_122 K35 Post l0 l1 l2 l4 z109 h98)) ∧
                        ((¬ l3 = (-1 : Int32)) →
                        (((l3 ≤ z109) →
                        (wp_Se_pickNext_138 K35 Post l0 l1 l2 l3 l4 h98)) ∧
                        ((¬ l3 ≤ z109) →
                        (wp_Se_pickNext_122 K35 Post l0 l1 l2 l4 z109 h98))))))))) x95 h85))) ∧
                        ((¬ r85 = 0) →
                        (wp_Se_pickNext_138 K35 Post l0 l1 l2 l3 l4 h85)))) x75 x82 h61))))))))) x45 q53 (f60 (l4).toNatClampNeg) h))))))))
def wn_Se_pickNext_35 (Post : MH → Prop) : Nat → Nat → Int32 → Nat → Int32 → Int32 → MH → Prop
  | 0 => fun _ _ _ _ _ _ => False
  | n + 1 => wb_Se_pickNext_35 (wn_Se_pickNext_35 Post n) Post
def wp_Se_pickNext_35 (Post : MH → Prop) (l0 : Nat) (l1 : Int32) (l2 : Nat) (l3 : Int32) (l4 : Int32) (h : MH) : Prop := ∃ n, wn_Se_pickNext_35 Post n l0 l1 l2 l3 l4 h
def wp_Se_pickNext (Post : MH → Prop) (l0 : Nat) (l1 : Int32) (h : MH) : Prop :=
  ∃ x1 : Nat, gF h l0 4 2 = some (.inr (some x1)) ∧
  (∃ (n5 : Nat) (f5 : Nat → Option Nat) (q5 : Nat), gR h x1 4 = some (n5, f5) ∧ vp_in l1 n5 ∧ f5 (l1).toNatClampNeg = some q5 ∧
    (∃ x8 : Nat, gF h l0 4 3 = some (.inr (some x8)) ∧
      (∃ x12 : Nat, gF h l0 4 0 = some (.inr (some x12)) ∧
        (∃ (n18 : Nat) (f18 : Nat → Option Nat) (q18 : Nat), gR h x12 3 = some (n18, f18) ∧ vp_in (l1 - (1 : Int32)) n18 ∧ f18 (l1 - (1 : Int32)).toNatClampNeg = some q18 ∧
          (∃ x20 : Nat, gF h l0 4 4 = some (.inr (some x20)) ∧
            (∃ (n26 : Nat) (f26 : Nat → Int32), gA h x20 0 = some (n26, f26) ∧ vp_in (l1 - (1 : Int32)) n26 ∧
              (gC h x8 = some 2 ∧ wp_Mv_leave (fun (h27 : MH) =>
                  (wp_Se_pickNext_35 Post l0 l1 q5 (-1 : Int32) (0 : Int32) h27)) x8 q18 (f26 (l1 - (1 : Int32)).toNatClampNeg) h)))))))
set_option maxRecDepth 100000 in
set_option maxHeartbeats 4000000 in
theorem t_Se_pickNext_138 {p : Program} {l : Launch} {e : Env} {R : Room} {s : State} {m : MethodId} {args : Array Value} {below : List Frame} {meth : Method} {c : Code} (G : mG) (C0 : Cx G p s m args c prog_6_method_13_code 6 "BassRealiser$Search") (hR : 3 ≤ R.frames ∧ 66 ≤ R.locals ∧ 0 ≤ R.cells ∧ 0 ≤ R.slots) (hr : meth.sig.returnType = none) (hlk : meth.locks = false) {Post : MH → Prop} {K35 : Nat → Int32 → Nat → Int32 → Int32 → MH → Prop} (hK35 : ∀ (l0 : Nat) (l1 : Int32) (l2 : Nat) (l3 : Int32) (l4 : Int32) (h : MH), K35 l0 l1 l2 l3 l4 h → WG p l e R s m args below meth c 0 0 (MQ below (va_Qv Post (Wd G) (mA G)) args s 0 0 (mA G)) G 6 [(0, .ref (m_b G + l0)), (1, .int l1), (2, .ref (m_b G + l2)), (3, .int l3), (4, .int l4)] 35 [] h) (l0 : Nat) (l1 : Int32) (l2 : Nat) (l3 : Int32) (l4 : Int32) (h : MH) (hwp : wp_Se_pickNext_138 K35 Post l0 l1 l2 l3 l4 h) : WG p l e R s m args below meth c 0 0 (MQ below (va_Qv Post (Wd G) (mA G)) args s 0 0 (mA G)) G 6 [(0, .ref (m_b G + l0)), (1, .int l1), (2, .ref (m_b G + l2)), (3, .int l3), (4, .int l4)] 138 [] h := by
  unfold wp_Se_pickNext_138 at hwp
  refine x_iinc C0 4 d_Se_pickNext_138 rfl rfl (by decide) (lv' := [(4, .int (l4 + (1 : Int32))), (0, .ref (m_b G + l0)), (1, .int l1), (2, .ref (m_b G + l2)), (3, .int l3)]) rfl ?_
  refine x_goto (tgt := 35) C0 d_Se_pickNext_141 (by decide) ?_
  exact x_sub [1, 2, 3, 4, 0] rfl (hK35 _ _ _ _ _ _ hwp)
set_option maxRecDepth 100000 in
set_option maxHeartbeats 4000000 in
theorem t_Se_pickNext_122 {p : Program} {l : Launch} {e : Env} {R : Room} {s : State} {m : MethodId} {args : Array Value} {below : List Frame} {meth : Method} {c : Code} (G : mG) (C0 : Cx G p s m args c prog_6_method_13_code 6 "BassRealiser$Search") (hR : 3 ≤ R.frames ∧ 66 ≤ R.locals ∧ 0 ≤ R.cells ∧ 0 ≤ R.slots) (hr : meth.sig.returnType = none) (hlk : meth.locks = false) {Post : MH → Prop} {K35 : Nat → Int32 → Nat → Int32 → Int32 → MH → Prop} (hK35 : ∀ (l0 : Nat) (l1 : Int32) (l2 : Nat) (l3 : Int32) (l4 : Int32) (h : MH), K35 l0 l1 l2 l3 l4 h → WG p l e R s m args below meth c 0 0 (MQ below (va_Qv Post (Wd G) (mA G)) args s 0 0 (mA G)) G 6 [(0, .ref (m_b G + l0)), (1, .int l1), (2, .ref (m_b G + l2)), (3, .int l3), (4, .int l4)] 35 [] h) (l0 : Nat) (l1 : Int32) (l2 : Nat) (l4 : Int32) (l5 : Int32) (h : MH) (hwp : wp_Se_pickNext_122 K35 Post l0 l1 l2 l4 l5 h) : WG p l e R s m args below meth c 0 0 (MQ below (va_Qv Post (Wd G) (mA G)) args s 0 0 (mA G)) G 6 [(0, .ref (m_b G + l0)), (1, .int l1), (2, .ref (m_b G + l2)), (4, .int l4), (5, .int l5)] 122 [] h := by
  unfold wp_Se_pickNext_122 at hwp
  refine x_iload C0 4 d_Se_pickNext_122 rfl ?_
  refine x_istore_n C0 d_Se_pickNext_124 rfl (by decide) (lv' := [(3, .int l5), (0, .ref (m_b G + l0)), (1, .int l1), (2, .ref (m_b G + l2)), (4, .int l4), (5, .int l5)]) rfl ?_
  refine x_aload_n C0 1 d_Se_pickNext_125 rfl rfl ?_
  obtain ⟨x126, e126, hwp⟩ := hwp
  refine x_getR C0 fk_Se_39 e126 d_Se_pickNext_126 ?_
  refine x_iload_n C0 2 d_Se_pickNext_129 rfl rfl ?_
  refine x_aload_n C0 3 d_Se_pickNext_130 rfl rfl ?_
  obtain ⟨x131, e131, hwp⟩ := hwp
  refine x_getR C0 fk_Se_90 e131 d_Se_pickNext_131 ?_
  refine x_iload C0 4 d_Se_pickNext_134 rfl ?_
  obtain ⟨n136, f136, e136, i136, hwp⟩ := hwp
  refine x_iald C0 e136 i136 d_Se_pickNext_136 ?_
  obtain ⟨n137, f137, e137, i137, hwp⟩ := hwp
  refine x_iast C0 e137 i137 d_Se_pickNext_137 ?_
  refine x_nh (fun h137 eh137 => ?_)
  replace hwp := hwp h137 eh137
  exact x_sub [1, 2, 3, 0, 4] rfl (t_Se_pickNext_138 G C0 hR hr hlk hK35 _ _ _ _ _ _ hwp)
set_option maxRecDepth 100000 in
set_option maxHeartbeats 4000000 in
theorem tb_Se_pickNext_35 {p : Program} {l : Launch} {e : Env} {R : Room} {s : State} {m : MethodId} {args : Array Value} {below : List Frame} {meth : Method} {c : Code} (G : mG) (C0 : Cx G p s m args c prog_6_method_13_code 6 "BassRealiser$Search") (hR : 3 ≤ R.frames ∧ 66 ≤ R.locals ∧ 0 ≤ R.cells ∧ 0 ≤ R.slots) (hr : meth.sig.returnType = none) (hlk : meth.locks = false) {Post : MH → Prop} {K35 : Nat → Int32 → Nat → Int32 → Int32 → MH → Prop} (hK35 : ∀ (l0 : Nat) (l1 : Int32) (l2 : Nat) (l3 : Int32) (l4 : Int32) (h : MH), K35 l0 l1 l2 l3 l4 h → WG p l e R s m args below meth c 0 0 (MQ below (va_Qv Post (Wd G) (mA G)) args s 0 0 (mA G)) G 6 [(0, .ref (m_b G + l0)), (1, .int l1), (2, .ref (m_b G + l2)), (3, .int l3), (4, .int l4)] 35 [] h) (l0 : Nat) (l1 : Int32) (l2 : Nat) (l3 : Int32) (l4 : Int32) (h : MH) (hwp : wb_Se_pickNext_35 K35 Post l0 l1 l2 l3 l4 h) : WG p l e R s m args below meth c 0 0 (MQ below (va_Qv Post (Wd G) (mA G)) args s 0 0 (mA G)) G 6 [(0, .ref (m_b G + l0)), (1, .int l1), (2, .ref (m_b G + l2)), (3, .int l3), (4, .int l4)] 35 [] h := by
  unfold wb_Se_pickNext_35 at hwp
  refine x_iload C0 4 d_Se_pickNext_35 rfl ?_
  refine x_aload_n C0 2 d_Se_pickNext_37 rfl rfl ?_
  obtain ⟨x38, e38, hwp⟩ := hwp
  refine x_getI C0 fk_Se_87 e38 d_Se_pickNext_38 ?_
  refine x_icmp_ge (tgt := 144) C0 d_Se_pickNext_41 (by decide) (fun c41 => ?_) (fun c41 => ?_)
  · replace hwp := hwp.1 c41
    exact x_vret C0 hr hlk hwp d_Se_pickNext_144
  · replace hwp := hwp.2 c41
    refine x_aload_n C0 0 d_Se_pickNext_44 rfl rfl ?_
    obtain ⟨x45, e45, hwp⟩ := hwp
    refine x_getR C0 fk_Se_35 e45 d_Se_pickNext_45 ?_
    refine x_aload_n C0 0 d_Se_pickNext_48 rfl rfl ?_
    obtain ⟨x49, e49, hwp⟩ := hwp
    refine x_getR C0 fk_Se_11 e49 d_Se_pickNext_49 ?_
    refine x_iload_n C0 1 d_Se_pickNext_52 rfl rfl ?_
    obtain ⟨n53, f53, q53, e53, i53, g53, hwp⟩ := hwp
    refine x_aald (t := 3) C0 e53 rfl i53 g53 d_Se_pickNext_53 ?_
    refine x_aload_n C0 2 d_Se_pickNext_54 rfl rfl ?_
    obtain ⟨x55, e55, hwp⟩ := hwp
    refine x_getR C0 fk_Se_90 e55 d_Se_pickNext_55 ?_
    refine x_iload C0 4 d_Se_pickNext_58 rfl ?_
    obtain ⟨n60, f60, e60, i60, hwp⟩ := hwp
    refine x_iald C0 e60 i60 d_Se_pickNext_60 ?_
    obtain ⟨g61, hwp⟩ := hwp
    refine x_callVv0 (k := x45) (As := [.ref (m_b G + q53), .int (f60 (l4).toNatClampNeg)]) (st := []) C0 (c_Mv_arrive l G hwp) kw_2_205 mk_Mv_arrive vk_Mv_arrive rfl g61 rfl (Nat.le_of_ble_eq_true rfl) rfl rfl ⟨Nat.le_trans (by decide) hR.1, Nat.le_trans (by decide) hR.2.1⟩ ⟨Nat.zero_le _, Nat.zero_le _⟩ rfl d_Se_pickNext_61 (fun h61 hwp => ?_)
    refine x_aload_n C0 2 d_Se_pickNext_64 rfl rfl ?_
    obtain ⟨x65, e65, hwp⟩ := hwp
    refine x_getR C0 fk_Se_122 e65 d_Se_pickNext_65 ?_
    refine x_iload C0 4 d_Se_pickNext_68 rfl ?_
    obtain ⟨n70, f70, e70, i70, hwp⟩ := hwp
    refine x_iald C0 e70 i70 d_Se_pickNext_70 ?_
    refine x_if_eq (tgt := 138) C0 d_Se_pickNext_71 (by decide) (fun c71 => ?_) (fun c71 => ?_)
    · replace hwp := hwp.1 c71
      exact x_sub [0, 1, 2, 3, 4] rfl (t_Se_pickNext_138 G C0 hR hr hlk hK35 _ _ _ _ _ _ hwp)
    · replace hwp := hwp.2 c71
      refine x_aload_n C0 0 d_Se_pickNext_74 rfl rfl ?_
      obtain ⟨x75, e75, hwp⟩ := hwp
      refine x_getR C0 fk_Se_35 e75 d_Se_pickNext_75 ?_
      refine x_aload_n C0 0 d_Se_pickNext_78 rfl rfl ?_
      obtain ⟨x79, e79, hwp⟩ := hwp
      refine x_getR C0 fk_Se_20 e79 d_Se_pickNext_79 ?_
      obtain ⟨x82, e82, hwp⟩ := hwp
      refine x_getI C0 fk_Se_112 e82 d_Se_pickNext_82 ?_
      obtain ⟨g85, hwp⟩ := hwp
      refine x_callVi0 (k := x75) (As := [.int x82]) (st := []) C0 (c_Mv_rule l G hwp) kw_2_209 mk_Mv_rule vk_Mv_rule rfl g85 rfl (Nat.le_of_ble_eq_true rfl) rfl rfl ⟨Nat.le_trans (by decide) hR.1, Nat.le_trans (by decide) hR.2.1⟩ ⟨Nat.zero_le _, Nat.zero_le _⟩ rfl d_Se_pickNext_85 (fun r85 h85 hwp => ?_)
      refine x_if_eq (tgt := 94) C0 d_Se_pickNext_88 (by decide) (fun c88 => ?_) (fun c88 => ?_)
      · replace hwp := hwp.1 c88
        refine x_aload_n C0 0 d_Se_pickNext_94 rfl rfl ?_
        obtain ⟨x95, e95, hwp⟩ := hwp
        refine x_getR C0 fk_Se_35 e95 d_Se_pickNext_95 ?_
        obtain ⟨g98, hwp⟩ := hwp
        refine x_callVi0 (k := x95) (As := []) (st := []) C0 (c_Mv_length l G hwp) kw_3_8 mk_Mv_length vk_Mv_length rfl g98 rfl (Nat.le_of_ble_eq_true rfl) rfl rfl ⟨Nat.le_trans (by decide) hR.1, Nat.le_trans (by decide) hR.2.1⟩ ⟨Nat.zero_le _, Nat.zero_le _⟩ rfl d_Se_pickNext_98 (fun r98 h98 hwp => ?_)
        refine x_aload_n C0 2 d_Se_pickNext_101 rfl rfl ?_
        obtain ⟨x102, e102, hwp⟩ := hwp
        refine x_getR C0 fk_Se_119 e102 d_Se_pickNext_102 ?_
        refine x_iload C0 4 d_Se_pickNext_105 rfl ?_
        obtain ⟨n107, f107, e107, i107, hwp⟩ := hwp
        refine x_iald C0 e107 i107 d_Se_pickNext_107 ?_
        refine x_iadd C0 d_Se_pickNext_108 ?_
        refine x_topI (fun z109 e109 => ?_)
        replace hwp := hwp z109 e109
        refine x_istore C0 d_Se_pickNext_109 (by decide) (lv' := [(5, .int z109), (0, .ref (m_b G + l0)), (1, .int l1), (2, .ref (m_b G + l2)), (3, .int l3), (4, .int l4)]) rfl ?_
        refine x_iload_n C0 4 d_Se_pickNext_111 rfl rfl ?_
        refine x_iconst (v := -1) C0 d_Se_pickNext_112 (by decide) ?_
        refine x_icmp_eq (tgt := 122) C0 d_Se_pickNext_113 (by decide) (fun c113 => ?_) (fun c113 => ?_)
        · replace hwp := hwp.1 c113
          exact x_sub [1, 2, 3, 5, 0] rfl (t_Se_pickNext_122 G C0 hR hr hlk hK35 _ _ _ _ _ _ hwp)
        · replace hwp := hwp.2 c113
          refine x_iload C0 0 d_Se_pickNext_116 rfl ?_
          refine x_iload_n C0 4 d_Se_pickNext_118 rfl rfl ?_
          refine x_icmp_ge (tgt := 138) C0 d_Se_pickNext_119 (by decide) (fun c119 => ?_) (fun c119 => ?_)
          · replace hwp := hwp.1 c119
            exact x_sub [1, 2, 3, 4, 5] rfl (t_Se_pickNext_138 G C0 hR hr hlk hK35 _ _ _ _ _ _ hwp)
          · replace hwp := hwp.2 c119
            exact x_sub [1, 2, 3, 5, 0] rfl (t_Se_pickNext_122 G C0 hR hr hlk hK35 _ _ _ _ _ _ hwp)
      · replace hwp := hwp.2 c88
        refine x_goto (tgt := 138) C0 d_Se_pickNext_91 (by decide) ?_
        exact x_sub [0, 1, 2, 3, 4] rfl (t_Se_pickNext_138 G C0 hR hr hlk hK35 _ _ _ _ _ _ hwp)
theorem t_Se_pickNext_35 {p : Program} {l : Launch} {e : Env} {R : Room} {s : State} {m : MethodId} {args : Array Value} {below : List Frame} {meth : Method} {c : Code} (G : mG) (C0 : Cx G p s m args c prog_6_method_13_code 6 "BassRealiser$Search") (hR : 3 ≤ R.frames ∧ 66 ≤ R.locals ∧ 0 ≤ R.cells ∧ 0 ≤ R.slots) (hr : meth.sig.returnType = none) (hlk : meth.locks = false) {Post : MH → Prop} (l0 : Nat) (l1 : Int32) (l2 : Nat) (l3 : Int32) (l4 : Int32) (h : MH) (hwp : wp_Se_pickNext_35 Post l0 l1 l2 l3 l4 h) : WG p l e R s m args below meth c 0 0 (MQ below (va_Qv Post (Wd G) (mA G)) args s 0 0 (mA G)) G 6 [(0, .ref (m_b G + l0)), (1, .int l1), (2, .ref (m_b G + l2)), (3, .int l3), (4, .int l4)] 35 [] h := by
  obtain ⟨n, hwp⟩ := hwp
  induction n generalizing l0 l1 l2 l3 l4 h with
  | zero => exact False.elim hwp
  | succ n ih => exact tb_Se_pickNext_35 G C0 hR hr hlk (fun l0 l1 l2 l3 l4 h hwp => ih l0 l1 l2 l3 l4 h hwp) l0 l1 l2 l3 l4 h hwp
set_option maxRecDepth 100000 in
set_option maxHeartbeats 4000000 in
theorem t_Se_pickNext {p : Program} {l : Launch} {e : Env} {R : Room} {s : State} {m : MethodId} {args : Array Value} {below : List Frame} {meth : Method} {c : Code} (G : mG) (C0 : Cx G p s m args c prog_6_method_13_code 6 "BassRealiser$Search") (hR : 3 ≤ R.frames ∧ 66 ≤ R.locals ∧ 0 ≤ R.cells ∧ 0 ≤ R.slots) (hr : meth.sig.returnType = none) (hlk : meth.locks = false) {Post : MH → Prop} (l0 : Nat) (l1 : Int32) (h : MH) (hwp : wp_Se_pickNext Post l0 l1 h) : WG p l e R s m args below meth c 0 0 (MQ below (va_Qv Post (Wd G) (mA G)) args s 0 0 (mA G)) G 6 [(0, .ref (m_b G + l0)), (1, .int l1)] 0 [] h := by
  unfold wp_Se_pickNext at hwp
  refine x_aload_n C0 0 d_Se_pickNext_0 rfl rfl ?_
  obtain ⟨x1, e1, hwp⟩ := hwp
  refine x_getR C0 fk_Se_26 e1 d_Se_pickNext_1 ?_
  refine x_iload_n C0 1 d_Se_pickNext_4 rfl rfl ?_
  obtain ⟨n5, f5, q5, e5, i5, g5, hwp⟩ := hwp
  refine x_aald (t := 4) C0 e5 rfl i5 g5 d_Se_pickNext_5 ?_
  refine x_astore_n C0 d_Se_pickNext_6 rfl (by decide) (lv' := [(2, .ref (m_b G + q5)), (0, .ref (m_b G + l0)), (1, .int l1)]) rfl ?_
  refine x_aload_n C0 1 d_Se_pickNext_7 rfl rfl ?_
  obtain ⟨x8, e8, hwp⟩ := hwp
  refine x_getR C0 fk_Se_35 e8 d_Se_pickNext_8 ?_
  refine x_aload_n C0 1 d_Se_pickNext_11 rfl rfl ?_
  obtain ⟨x12, e12, hwp⟩ := hwp
  refine x_getR C0 fk_Se_11 e12 d_Se_pickNext_12 ?_
  refine x_iload_n C0 2 d_Se_pickNext_15 rfl rfl ?_
  refine x_iconst (v := 1) C0 d_Se_pickNext_16 (by decide) ?_
  refine x_isub C0 d_Se_pickNext_17 ?_
  obtain ⟨n18, f18, q18, e18, i18, g18, hwp⟩ := hwp
  refine x_aald (t := 3) C0 e18 rfl i18 g18 d_Se_pickNext_18 ?_
  refine x_aload_n C0 1 d_Se_pickNext_19 rfl rfl ?_
  obtain ⟨x20, e20, hwp⟩ := hwp
  refine x_getR C0 fk_Se_39 e20 d_Se_pickNext_20 ?_
  refine x_iload_n C0 2 d_Se_pickNext_23 rfl rfl ?_
  refine x_iconst (v := 1) C0 d_Se_pickNext_24 (by decide) ?_
  refine x_isub C0 d_Se_pickNext_25 ?_
  obtain ⟨n26, f26, e26, i26, hwp⟩ := hwp
  refine x_iald C0 e26 i26 d_Se_pickNext_26 ?_
  obtain ⟨g27, hwp⟩ := hwp
  refine x_callVv0 (k := x8) (As := [.ref (m_b G + q18), .int (f26 (l1 - (1 : Int32)).toNatClampNeg)]) (st := []) C0 (c_Mv_leave l G hwp) kw_2_200 mk_Mv_leave vk_Mv_leave rfl g27 rfl (Nat.le_of_ble_eq_true rfl) rfl rfl ⟨Nat.le_trans (by decide) hR.1, Nat.le_trans (by decide) hR.2.1⟩ ⟨Nat.zero_le _, Nat.zero_le _⟩ rfl d_Se_pickNext_27 (fun h27 hwp => ?_)
  refine x_iconst (v := -1) C0 d_Se_pickNext_30 (by decide) ?_
  refine x_istore_n C0 d_Se_pickNext_31 rfl (by decide) (lv' := [(3, .int (-1 : Int32)), (2, .ref (m_b G + q5)), (0, .ref (m_b G + l0)), (1, .int l1)]) rfl ?_
  refine x_iconst (v := 0) C0 d_Se_pickNext_32 (by decide) ?_
  refine x_istore C0 d_Se_pickNext_33 (by decide) (lv' := [(4, .int (0 : Int32)), (3, .int (-1 : Int32)), (2, .ref (m_b G + q5)), (0, .ref (m_b G + l0)), (1, .int l1)]) rfl ?_
  exact x_sub [3, 4, 2, 1, 0] rfl (t_Se_pickNext_35 G C0 hR hr hlk  _ _ _ _ _ _ hwp)
set_option maxRecDepth 100000 in
set_option maxHeartbeats 4000000 in
theorem c_Se_pickNext (l : Launch) (G : mG) {Post : MH → Prop} {l0 : Nat} {l1 : Int32} {h : MH} (hwp : wp_Se_pickNext Post l0 l1 h) : Met l y_Se_pickNext (Cond.code y_Se_pickNext prog_6_method_13_code 6 (Option.none : Option Jvm.ClassFile.FieldType) :: lw_good) ({ frames := 3, cells := 0, slots := 0, locals := 66 }) (va_Pc [.ref (m_b G + l0), .int l1] (Wd G h)) (va_Qv Post (Wd G) (mA G)) 0 0 (mA G) := by
  refine Met.ofW (cc := prog_6_method_13_code) (maxL := 6) (ret := (Option.none : Option Jvm.ClassFile.FieldType)) (by decide +kernel) rfl ?_
  intro p e s m args below meth c s₁ B hml hv
  obtain ⟨rfl, hP, hz, hK, hSt⟩ := hv
  have hts := atoms_spec (ws := Cond.code y_Se_pickNext prog_6_method_13_code 6 (Option.none : Option Jvm.ClassFile.FieldType) :: lw_good) B.pre
  have C0 : Cx G p s m ([.ref (m_b G + l0), .int l1] : List Value).toArray c prog_6_method_13_code 6 "BassRealiser$Search" := ⟨⟨B.exec, B.bytes, hml, findClass_of_methodNamed B.named, fun w h => hts w (List.mem_cons_of_mem _ h)⟩, hK, hSt, by rw [hz]; exact Nat.le_add_right _ _⟩
  have hl := lv_entry ([.ref (m_b G + l0), .int l1]) (n := 6) (Nat.le_of_ble_eq_true rfl)
  rw [lg_entry_eq]
  exact t_Se_pickNext G C0 ⟨Nat.le_refl _, Nat.le_refl _, Nat.le_refl _, Nat.le_refl _⟩ B.returns B.notSynchronized _ _ _ hwp _ _ _ ⟨hP, hz, va_S.rf⟩ hl
def wb_Se_settle_106 (K106 : Nat → Int32 → Int32 → MH → Prop) (Post : MH → Prop) (l0 : Nat) (l1 : Int32) (l2 : Int32) (h : MH) : Prop :=
  ((l1 ≤ l2) →
    (Post h)) ∧
  ((¬ l1 ≤ l2) →
    (gC h l0 = some 4 ∧ wp_Se_pickNext (fun (h113 : MH) =>
        (K106 l0 l1 (l2 + (1 : Int32)) h113)) l0 l2 h))
def wn_Se_settle_106 (Post : MH → Prop) : Nat → Nat → Int32 → Int32 → MH → Prop
  | 0 => fun _ _ _ _ => False
  | n + 1 => wb_Se_settle_106 (wn_Se_settle_106 Post n) Post
def wp_Se_settle_106 (Post : MH → Prop) (l0 : Nat) (l1 : Int32) (l2 : Int32) (h : MH) : Prop := ∃ n, wn_Se_settle_106 Post n l0 l1 l2 h
def wp_Se_settle_91 (K73 : Nat → Int32 → Int32 → MH → Prop) (Post : MH → Prop) (l0 : Nat) (l1 : Int32) (l2 : Int32) (y0 : Nat) (y1 : Int32) (y2 : Int32) (h : MH) : Prop :=
  gC h y0 = some 4 ∧ wp_Se_weigh (fun (h91 : MH) =>
    (K73 l0 l1 (l2 + (-1 : Int32)) h91)) y0 y1 y2 h
def wb_Se_settle_73 (K73 : Nat → Int32 → Int32 → MH → Prop) (Post : MH → Prop) (l0 : Nat) (l1 : Int32) (l2 : Int32) (h : MH) : Prop :=
  ((l2 < 0) →
    (gC h l0 = some 4 ∧ wp_Se_pickFirst (fun (h101 : MH) =>
        (wp_Se_settle_106 Post l0 l1 (1 : Int32) h101)) l0 h)) ∧
  ((¬ l2 < 0) →
    (((¬ l2 = (l1 - (1 : Int32))) →
        (wp_Se_settle_91 K73 Post l0 l1 l2 l0 l2 (0 : Int32) h)) ∧
      ((l2 = (l1 - (1 : Int32))) →
        (wp_Se_settle_91 K73 Post l0 l1 l2 l0 l2 (1 : Int32) h))))
def wn_Se_settle_73 (Post : MH → Prop) : Nat → Nat → Int32 → Int32 → MH → Prop
  | 0 => fun _ _ _ _ => False
  | n + 1 => wb_Se_settle_73 (wn_Se_settle_73 Post n) Post
def wp_Se_settle_73 (Post : MH → Prop) (l0 : Nat) (l1 : Int32) (l2 : Int32) (h : MH) : Prop := ∃ n, wn_Se_settle_73 Post n l0 l1 l2 h
def wb_Se_settle_30 (K30 : Nat → Int32 → Int32 → MH → Prop) (Post : MH → Prop) (l0 : Nat) (l1 : Int32) (l2 : Int32) (h : MH) : Prop :=
  ((l1 ≤ l2) →
    (∀ z72 : Int32, z72 = l1 - (1 : Int32) →
      (wp_Se_settle_73 Post l0 l1 z72 h))) ∧
  ((¬ l1 ≤ l2) →
    (gC h l0 = some 4 ∧ wp_Se_listed (fun (r39 : Nat) (h39 : MH) =>
        (gC h39 l0 = some 4 ∧ wp_Se_reach (fun (h42 : MH) =>
            (∃ x46 : Nat, gF h42 l0 4 2 = some (.inr (some x46)) ∧
              (∃ (n50 : Nat) (f50 : Nat → Option Nat) (q50 : Nat), gR h42 x46 4 = some (n50, f50) ∧ vp_in l2 n50 ∧ f50 (l2).toNatClampNeg = some q50 ∧
                (gC h42 q50 = some 1 ∧ wp_Co_reachedAtAll (fun (r51 : Int32) (h51 : MH) =>
                    (((¬ r51 = 0) →
                        (K30 l0 l1 (l2 + (1 : Int32)) h51)) ∧
                      ((r51 = 0) →
                        ((∃ o : MV, gF h51 l0 4 5 = some o) ∧ ∀ h59 : MH, h59 = fset h51 l0 5 (.inl l2 : MV) →
                        (Post h59))))) q50 h42)))) l0 l2 r39 h39)) l0 l2 h))
def wn_Se_settle_30 (Post : MH → Prop) : Nat → Nat → Int32 → Int32 → MH → Prop
  | 0 => fun _ _ _ _ => False
  | n + 1 => wb_Se_settle_30 (wn_Se_settle_30 Post n) Post
def wp_Se_settle_30 (Post : MH → Prop) (l0 : Nat) (l1 : Int32) (l2 : Int32) (h : MH) : Prop := ∃ n, wn_Se_settle_30 Post n l0 l1 l2 h
def wp_Se_settle (Post : MH → Prop) (l0 : Nat) (l1 : Int32) (h : MH) : Prop :=
  ∃ x1 : Int32, gF h l0 4 8 = some (.inl x1) ∧
  (((x1 = 0) →
      ((∃ o : MV, gF h l0 4 8 = some o) ∧ ∀ h10 : MH, h10 = fset h l0 8 (.inl (1 : Int32) : MV) →
        ((∃ o : MV, gF h10 l0 4 7 = some o) ∧ ∀ h15 : MH, h15 = fset h10 l0 7 (.inl (0 : Int32) : MV) →
          ((∃ o : MV, gF h15 l0 4 6 = some o) ∧ ∀ h20 : MH, h20 = fset h15 l0 6 (.inl (0 : Int32) : MV) →
            ((∃ o : MV, gF h20 l0 4 5 = some o) ∧ ∀ h25 : MH, h25 = fset h20 l0 5 (.inl (-1 : Int32) : MV) →
              (wp_Se_settle_30 Post l0 l1 (0 : Int32) h25)))))) ∧
    ((¬ x1 = 0) →
      (Post h)))
set_option maxRecDepth 100000 in
set_option maxHeartbeats 4000000 in
theorem tb_Se_settle_106 {p : Program} {l : Launch} {e : Env} {R : Room} {s : State} {m : MethodId} {args : Array Value} {below : List Frame} {meth : Method} {c : Code} (G : mG) (C0 : Cx G p s m args c prog_6_method_6_code 3 "BassRealiser$Search") (hR : 6 ≤ R.frames ∧ 149 ≤ R.locals ∧ 0 ≤ R.cells ∧ 0 ≤ R.slots) (hr : meth.sig.returnType = none) (hlk : meth.locks = false) {Post : MH → Prop} {K106 : Nat → Int32 → Int32 → MH → Prop} (hK106 : ∀ (l0 : Nat) (l1 : Int32) (l2 : Int32) (h : MH), K106 l0 l1 l2 h → WG p l e R s m args below meth c 0 0 (MQ below (va_Qv Post (Wd G) (mA G)) args s 0 0 (mA G)) G 3 [(0, .ref (m_b G + l0)), (1, .int l1), (2, .int l2)] 106 [] h) (l0 : Nat) (l1 : Int32) (l2 : Int32) (h : MH) (hwp : wb_Se_settle_106 K106 Post l0 l1 l2 h) : WG p l e R s m args below meth c 0 0 (MQ below (va_Qv Post (Wd G) (mA G)) args s 0 0 (mA G)) G 3 [(0, .ref (m_b G + l0)), (1, .int l1), (2, .int l2)] 106 [] h := by
  unfold wb_Se_settle_106 at hwp
  refine x_iload_n C0 2 d_Se_settle_106 rfl rfl ?_
  refine x_iload_n C0 1 d_Se_settle_107 rfl rfl ?_
  refine x_icmp_ge (tgt := 122) C0 d_Se_settle_108 (by decide) (fun c108 => ?_) (fun c108 => ?_)
  · replace hwp := hwp.1 c108
    exact x_vret C0 hr hlk hwp d_Se_settle_122
  · replace hwp := hwp.2 c108
    refine x_aload_n C0 0 d_Se_settle_111 rfl rfl ?_
    refine x_iload_n C0 2 d_Se_settle_112 rfl rfl ?_
    obtain ⟨g113, hwp⟩ := hwp
    refine x_callVv0 (k := l0) (As := [.int l2]) (st := []) C0 (c_Se_pickNext l G hwp) kw_3_25 mk_Se_pickNext vk_Se_pickNext rfl g113 rfl (Nat.le_of_ble_eq_true rfl) rfl rfl ⟨Nat.le_trans (by decide) hR.1, Nat.le_trans (by decide) hR.2.1⟩ ⟨Nat.zero_le _, Nat.zero_le _⟩ rfl d_Se_settle_113 (fun h113 hwp => ?_)
    refine x_iinc C0 2 d_Se_settle_116 rfl rfl (by decide) (lv' := [(2, .int (l2 + (1 : Int32))), (0, .ref (m_b G + l0)), (1, .int l1)]) rfl ?_
    refine x_goto (tgt := 106) C0 d_Se_settle_119 (by decide) ?_
    exact x_sub [1, 2, 0] rfl (hK106 _ _ _ _ hwp)
theorem t_Se_settle_106 {p : Program} {l : Launch} {e : Env} {R : Room} {s : State} {m : MethodId} {args : Array Value} {below : List Frame} {meth : Method} {c : Code} (G : mG) (C0 : Cx G p s m args c prog_6_method_6_code 3 "BassRealiser$Search") (hR : 6 ≤ R.frames ∧ 149 ≤ R.locals ∧ 0 ≤ R.cells ∧ 0 ≤ R.slots) (hr : meth.sig.returnType = none) (hlk : meth.locks = false) {Post : MH → Prop} (l0 : Nat) (l1 : Int32) (l2 : Int32) (h : MH) (hwp : wp_Se_settle_106 Post l0 l1 l2 h) : WG p l e R s m args below meth c 0 0 (MQ below (va_Qv Post (Wd G) (mA G)) args s 0 0 (mA G)) G 3 [(0, .ref (m_b G + l0)), (1, .int l1), (2, .int l2)] 106 [] h := by
  obtain ⟨n, hwp⟩ := hwp
  induction n generalizing l0 l1 l2 h with
  | zero => exact False.elim hwp
  | succ n ih => exact tb_Se_settle_106 G C0 hR hr hlk (fun l0 l1 l2 h hwp => ih l0 l1 l2 h hwp) l0 l1 l2 h hwp
set_option maxRecDepth 100000 in
set_option maxHeartbeats 4000000 in
theorem t_Se_settle_91 {p : Program} {l : Launch} {e : Env} {R : Room} {s : State} {m : MethodId} {args : Array Value} {below : List Frame} {meth : Method} {c : Code} (G : mG) (C0 : Cx G p s m args c prog_6_method_6_code 3 "BassRealiser$Search") (hR : 6 ≤ R.frames ∧ 149 ≤ R.locals ∧ 0 ≤ R.cells ∧ 0 ≤ R.slots) (hr : meth.sig.returnType = none) (hlk : meth.locks = false) {Post : MH → Prop} {K73 : Nat → Int32 → Int32 → MH → Prop} (hK73 : ∀ (l0 : Nat) (l1 : Int32) (l2 : Int32) (h : MH), K73 l0 l1 l2 h → WG p l e R s m args below meth c 0 0 (MQ below (va_Qv Post (Wd G) (mA G)) args s 0 0 (mA G)) G 3 [(0, .ref (m_b G + l0)), (1, .int l1), (2, .int l2)] 73 [] h) (l0 : Nat) (l1 : Int32) (l2 : Int32) (y0 : Nat) (y1 : Int32) (y2 : Int32) (h : MH) (hwp : wp_Se_settle_91 K73 Post l0 l1 l2 y0 y1 y2 h) : WG p l e R s m args below meth c 0 0 (MQ below (va_Qv Post (Wd G) (mA G)) args s 0 0 (mA G)) G 3 [(0, .ref (m_b G + l0)), (1, .int l1), (2, .int l2)] 91 [.int y2, .int y1, .ref (m_b G + y0)] h := by
  unfold wp_Se_settle_91 at hwp
  obtain ⟨g91, hwp⟩ := hwp
  refine x_callVv0 (k := y0) (As := [.int y1, .int y2]) (st := []) C0 (c_Se_weigh l G hwp) kw_3_0 mk_Se_weigh vk_Se_weigh rfl g91 rfl (Nat.le_of_ble_eq_true rfl) rfl rfl ⟨Nat.le_trans (by decide) hR.1, Nat.le_trans (by decide) hR.2.1⟩ ⟨Nat.zero_le _, Nat.zero_le _⟩ rfl d_Se_settle_91 (fun h91 hwp => ?_)
  refine x_iinc C0 2 d_Se_settle_94 rfl rfl (by decide) (lv' := [(2, .int (l2 + (-1 : Int32))), (0, .ref (m_b G + l0)), (1, .int l1)]) rfl ?_
  refine x_goto (tgt := 73) C0 d_Se_settle_97 (by decide) ?_
  exact x_sub [1, 2, 0] rfl (hK73 _ _ _ _ hwp)
set_option maxRecDepth 100000 in
set_option maxHeartbeats 4000000 in
theorem tb_Se_settle_73 {p : Program} {l : Launch} {e : Env} {R : Room} {s : State} {m : MethodId} {args : Array Value} {below : List Frame} {meth : Method} {c : Code} (G : mG) (C0 : Cx G p s m args c prog_6_method_6_code 3 "BassRealiser$Search") (hR : 6 ≤ R.frames ∧ 149 ≤ R.locals ∧ 0 ≤ R.cells ∧ 0 ≤ R.slots) (hr : meth.sig.returnType = none) (hlk : meth.locks = false) {Post : MH → Prop} {K73 : Nat → Int32 → Int32 → MH → Prop} (hK73 : ∀ (l0 : Nat) (l1 : Int32) (l2 : Int32) (h : MH), K73 l0 l1 l2 h → WG p l e R s m args below meth c 0 0 (MQ below (va_Qv Post (Wd G) (mA G)) args s 0 0 (mA G)) G 3 [(0, .ref (m_b G + l0)), (1, .int l1), (2, .int l2)] 73 [] h) (l0 : Nat) (l1 : Int32) (l2 : Int32) (h : MH) (hwp : wb_Se_settle_73 K73 Post l0 l1 l2 h) : WG p l e R s m args below meth c 0 0 (MQ below (va_Qv Post (Wd G) (mA G)) args s 0 0 (mA G)) G 3 [(0, .ref (m_b G + l0)), (1, .int l1), (2, .int l2)] 73 [] h := by
  unfold wb_Se_settle_73 at hwp
  refine x_iload_n C0 2 d_Se_settle_73 rfl rfl ?_
  refine x_if_lt (tgt := 100) C0 d_Se_settle_74 (by decide) (fun c74 => ?_) (fun c74 => ?_)
  · replace hwp := hwp.1 c74
    refine x_aload_n C0 0 d_Se_settle_100 rfl rfl ?_
    obtain ⟨g101, hwp⟩ := hwp
    refine x_callVv0 (k := l0) (As := []) (st := []) C0 (c_Se_pickFirst l G hwp) kw_3_17 mk_Se_pickFirst vk_Se_pickFirst rfl g101 rfl (Nat.le_of_ble_eq_true rfl) rfl rfl ⟨Nat.le_trans (by decide) hR.1, Nat.le_trans (by decide) hR.2.1⟩ ⟨Nat.zero_le _, Nat.zero_le _⟩ rfl d_Se_settle_101 (fun h101 hwp => ?_)
    refine x_iconst (v := 1) C0 d_Se_settle_104 (by decide) ?_
    refine x_istore_n C0 d_Se_settle_105 rfl (by decide) (lv' := [(2, .int (1 : Int32)), (0, .ref (m_b G + l0)), (1, .int l1)]) rfl ?_
    exact x_sub [1, 2, 0] rfl (t_Se_settle_106 G C0 hR hr hlk  _ _ _ _ hwp)
  · replace hwp := hwp.2 c74
    refine x_aload_n C0 0 d_Se_settle_77 rfl rfl ?_
    refine x_iload_n C0 2 d_Se_settle_78 rfl rfl ?_
    refine x_iload_n C0 2 d_Se_settle_79 rfl rfl ?_
    refine x_iload_n C0 1 d_Se_settle_80 rfl rfl ?_
    refine x_iconst (v := 1) C0 d_Se_settle_81 (by decide) ?_
    refine x_isub C0 d_Se_settle_82 ?_
    refine x_icmp_ne (tgt := 90) C0 d_Se_settle_83 (by decide) (fun c83 => ?_) (fun c83 => ?_)
    · replace hwp := hwp.1 c83
      refine x_iconst (v := 0) C0 d_Se_settle_90 (by decide) ?_
      exact x_sub [0, 1, 2] rfl (t_Se_settle_91 G C0 hR hr hlk hK73 _ _ _ _ _ _ _ hwp)
    · replace hwp := hwp.2 c83
      refine x_iconst (v := 1) C0 d_Se_settle_86 (by decide) ?_
      refine x_goto (tgt := 91) C0 d_Se_settle_87 (by decide) ?_
      exact x_sub [0, 1, 2] rfl (t_Se_settle_91 G C0 hR hr hlk hK73 _ _ _ _ _ _ _ hwp)
theorem t_Se_settle_73 {p : Program} {l : Launch} {e : Env} {R : Room} {s : State} {m : MethodId} {args : Array Value} {below : List Frame} {meth : Method} {c : Code} (G : mG) (C0 : Cx G p s m args c prog_6_method_6_code 3 "BassRealiser$Search") (hR : 6 ≤ R.frames ∧ 149 ≤ R.locals ∧ 0 ≤ R.cells ∧ 0 ≤ R.slots) (hr : meth.sig.returnType = none) (hlk : meth.locks = false) {Post : MH → Prop} (l0 : Nat) (l1 : Int32) (l2 : Int32) (h : MH) (hwp : wp_Se_settle_73 Post l0 l1 l2 h) : WG p l e R s m args below meth c 0 0 (MQ below (va_Qv Post (Wd G) (mA G)) args s 0 0 (mA G)) G 3 [(0, .ref (m_b G + l0)), (1, .int l1), (2, .int l2)] 73 [] h := by
  obtain ⟨n, hwp⟩ := hwp
  induction n generalizing l0 l1 l2 h with
  | zero => exact False.elim hwp
  | succ n ih => exact tb_Se_settle_73 G C0 hR hr hlk (fun l0 l1 l2 h hwp => ih l0 l1 l2 h hwp) l0 l1 l2 h hwp
set_option maxRecDepth 100000 in
set_option maxHeartbeats 4000000 in
theorem tb_Se_settle_30 {p : Program} {l : Launch} {e : Env} {R : Room} {s : State} {m : MethodId} {args : Array Value} {below : List Frame} {meth : Method} {c : Code} (G : mG) (C0 : Cx G p s m args c prog_6_method_6_code 3 "BassRealiser$Search") (hR : 6 ≤ R.frames ∧ 149 ≤ R.locals ∧ 0 ≤ R.cells ∧ 0 ≤ R.slots) (hr : meth.sig.returnType = none) (hlk : meth.locks = false) {Post : MH → Prop} {K30 : Nat → Int32 → Int32 → MH → Prop} (hK30 : ∀ (l0 : Nat) (l1 : Int32) (l2 : Int32) (h : MH), K30 l0 l1 l2 h → WG p l e R s m args below meth c 0 0 (MQ below (va_Qv Post (Wd G) (mA G)) args s 0 0 (mA G)) G 3 [(0, .ref (m_b G + l0)), (1, .int l1), (2, .int l2)] 30 [] h) (l0 : Nat) (l1 : Int32) (l2 : Int32) (h : MH) (hwp : wb_Se_settle_30 K30 Post l0 l1 l2 h) : WG p l e R s m args below meth c 0 0 (MQ below (va_Qv Post (Wd G) (mA G)) args s 0 0 (mA G)) G 3 [(0, .ref (m_b G + l0)), (1, .int l1), (2, .int l2)] 30 [] h := by
  unfold wb_Se_settle_30 at hwp
  refine x_iload_n C0 2 d_Se_settle_30 rfl rfl ?_
  refine x_iload_n C0 1 d_Se_settle_31 rfl rfl ?_
  refine x_icmp_ge (tgt := 69) C0 d_Se_settle_32 (by decide) (fun c32 => ?_) (fun c32 => ?_)
  · replace hwp := hwp.1 c32
    refine x_iload_n C0 1 d_Se_settle_69 rfl rfl ?_
    refine x_iconst (v := 1) C0 d_Se_settle_70 (by decide) ?_
    refine x_isub C0 d_Se_settle_71 ?_
    refine x_topI (fun z72 e72 => ?_)
    replace hwp := hwp z72 e72
    refine x_istore_n C0 d_Se_settle_72 rfl (by decide) (lv' := [(2, .int z72), (0, .ref (m_b G + l0)), (1, .int l1)]) rfl ?_
    exact x_sub [1, 2, 0] rfl (t_Se_settle_73 G C0 hR hr hlk  _ _ _ _ hwp)
  · replace hwp := hwp.2 c32
    refine x_aload_n C0 0 d_Se_settle_35 rfl rfl ?_
    refine x_iload_n C0 2 d_Se_settle_36 rfl rfl ?_
    refine x_aload_n C0 0 d_Se_settle_37 rfl rfl ?_
    refine x_iload_n C0 2 d_Se_settle_38 rfl rfl ?_
    obtain ⟨g39, hwp⟩ := hwp
    refine x_callVr0 (k := l0) (As := [.int l2]) (st := [.int l2, .ref (m_b G + l0)]) C0 (c_Se_listed l G hwp) kw_2_187 mk_Se_listed vk_Se_listed rfl g39 rfl (Nat.le_of_ble_eq_true rfl) rfl rfl ⟨Nat.le_trans (by decide) hR.1, Nat.le_trans (by decide) hR.2.1⟩ ⟨Nat.zero_le _, Nat.zero_le _⟩ rfl d_Se_settle_39 (fun r39 h39 hwp => ?_)
    obtain ⟨g42, hwp⟩ := hwp
    refine x_callVv0 (k := l0) (As := [.int l2, .ref (m_b G + r39)]) (st := []) C0 (c_Se_reach l G hwp) kw_2_188 mk_Se_reach vk_Se_reach rfl g42 rfl (Nat.le_of_ble_eq_true rfl) rfl rfl ⟨Nat.le_trans (by decide) hR.1, Nat.le_trans (by decide) hR.2.1⟩ ⟨Nat.zero_le _, Nat.zero_le _⟩ rfl d_Se_settle_42 (fun h42 hwp => ?_)
    refine x_aload_n C0 0 d_Se_settle_45 rfl rfl ?_
    obtain ⟨x46, e46, hwp⟩ := hwp
    refine x_getR C0 fk_Se_26 e46 d_Se_settle_46 ?_
    refine x_iload_n C0 2 d_Se_settle_49 rfl rfl ?_
    obtain ⟨n50, f50, q50, e50, i50, g50, hwp⟩ := hwp
    refine x_aald (t := 4) C0 e50 rfl i50 g50 d_Se_settle_50 ?_
    obtain ⟨g51, hwp⟩ := hwp
    refine x_callVi0 (k := q50) (As := []) (st := []) C0 (c_Co_reachedAtAll l G hwp) kw_2_236 mk_Co_reachedAtAll vk_Co_reachedAtAll rfl g51 rfl (Nat.le_of_ble_eq_true rfl) rfl rfl ⟨Nat.le_trans (by decide) hR.1, Nat.le_trans (by decide) hR.2.1⟩ ⟨Nat.zero_le _, Nat.zero_le _⟩ rfl d_Se_settle_51 (fun r51 h51 hwp => ?_)
    refine x_if_ne (tgt := 63) C0 d_Se_settle_54 (by decide) (fun c54 => ?_) (fun c54 => ?_)
    · replace hwp := hwp.1 c54
      refine x_iinc C0 2 d_Se_settle_63 rfl rfl (by decide) (lv' := [(2, .int (l2 + (1 : Int32))), (0, .ref (m_b G + l0)), (1, .int l1)]) rfl ?_
      refine x_goto (tgt := 30) C0 d_Se_settle_66 (by decide) ?_
      exact x_sub [1, 2, 0] rfl (hK30 _ _ _ _ hwp)
    · replace hwp := hwp.2 c54
      refine x_aload_n C0 0 d_Se_settle_57 rfl rfl ?_
      refine x_iload_n C0 2 d_Se_settle_58 rfl rfl ?_
      obtain ⟨⟨o59, e59⟩, hwp⟩ := hwp
      refine x_put (x := (.inl l2 : MV)) C0 pk_Se_43 e59 rfl rfl d_Se_settle_59 ?_
      refine x_nh (fun h59 eh59 => ?_)
      replace hwp := hwp h59 eh59
      exact x_vret C0 hr hlk hwp d_Se_settle_62
theorem t_Se_settle_30 {p : Program} {l : Launch} {e : Env} {R : Room} {s : State} {m : MethodId} {args : Array Value} {below : List Frame} {meth : Method} {c : Code} (G : mG) (C0 : Cx G p s m args c prog_6_method_6_code 3 "BassRealiser$Search") (hR : 6 ≤ R.frames ∧ 149 ≤ R.locals ∧ 0 ≤ R.cells ∧ 0 ≤ R.slots) (hr : meth.sig.returnType = none) (hlk : meth.locks = false) {Post : MH → Prop} (l0 : Nat) (l1 : Int32) (l2 : Int32) (h : MH) (hwp : wp_Se_settle_30 Post l0 l1 l2 h) : WG p l e R s m args below meth c 0 0 (MQ below (va_Qv Post (Wd G) (mA G)) args s 0 0 (mA G)) G 3 [(0, .ref (m_b G + l0)), (1, .int l1), (2, .int l2)] 30 [] h := by
  obtain ⟨n, hwp⟩ := hwp
  induction n generalizing l0 l1 l2 h with
  | zero => exact False.elim hwp
  | succ n ih => exact tb_Se_settle_30 G C0 hR hr hlk (fun l0 l1 l2 h hwp => ih l0 l1 l2 h hwp) l0 l1 l2 h hwp
set_option maxRecDepth 100000 in
set_option maxHeartbeats 4000000 in
theorem t_Se_settle {p : Program} {l : Launch} {e : Env} {R : Room} {s : State} {m : MethodId} {args : Array Value} {below : List Frame} {meth : Method} {c : Code} (G : mG) (C0 : Cx G p s m args c prog_6_method_6_code 3 "BassRealiser$Search") (hR : 6 ≤ R.frames ∧ 149 ≤ R.locals ∧ 0 ≤ R.cells ∧ 0 ≤ R.slots) (hr : meth.sig.returnType = none) (hlk : meth.locks = false) {Post : MH → Prop} (l0 : Nat) (l1 : Int32) (h : MH) (hwp : wp_Se_settle Post l0 l1 h) : WG p l e R s m args below meth c 0 0 (MQ below (va_Qv Post (Wd G) (mA G)) args s 0 0 (mA G)) G 3 [(0, .ref (m_b G + l0)), (1, .int l1)] 0 [] h := by
  unfold wp_Se_settle at hwp
  refine x_aload_n C0 0 d_Se_settle_0 rfl rfl ?_
  obtain ⟨x1, e1, hwp⟩ := hwp
  refine x_getI C0 fk_Se_51 e1 d_Se_settle_1 ?_
  refine x_if_eq (tgt := 8) C0 d_Se_settle_4 (by decide) (fun c4 => ?_) (fun c4 => ?_)
  · replace hwp := hwp.1 c4
    refine x_aload_n C0 0 d_Se_settle_8 rfl rfl ?_
    refine x_iconst (v := 1) C0 d_Se_settle_9 (by decide) ?_
    obtain ⟨⟨o10, e10⟩, hwp⟩ := hwp
    refine x_put (x := (.inl (1 : Int32) : MV)) C0 pk_Se_51 e10 rfl rfl d_Se_settle_10 ?_
    refine x_nh (fun h10 eh10 => ?_)
    replace hwp := hwp h10 eh10
    refine x_aload_n C0 0 d_Se_settle_13 rfl rfl ?_
    refine x_iconst (v := 0) C0 d_Se_settle_14 (by decide) ?_
    obtain ⟨⟨o15, e15⟩, hwp⟩ := hwp
    refine x_put (x := (.inl (0 : Int32) : MV)) C0 pk_Se_58 e15 rfl rfl d_Se_settle_15 ?_
    refine x_nh (fun h15 eh15 => ?_)
    replace hwp := hwp h15 eh15
    refine x_aload_n C0 0 d_Se_settle_18 rfl rfl ?_
    refine x_iconst (v := 0) C0 d_Se_settle_19 (by decide) ?_
    obtain ⟨⟨o20, e20⟩, hwp⟩ := hwp
    refine x_put (x := (.inl (0 : Int32) : MV)) C0 pk_Se_61 e20 rfl rfl d_Se_settle_20 ?_
    refine x_nh (fun h20 eh20 => ?_)
    replace hwp := hwp h20 eh20
    refine x_aload_n C0 0 d_Se_settle_23 rfl rfl ?_
    refine x_iconst (v := -1) C0 d_Se_settle_24 (by decide) ?_
    obtain ⟨⟨o25, e25⟩, hwp⟩ := hwp
    refine x_put (x := (.inl (-1 : Int32) : MV)) C0 pk_Se_43 e25 rfl rfl d_Se_settle_25 ?_
    refine x_nh (fun h25 eh25 => ?_)
    replace hwp := hwp h25 eh25
    refine x_iconst (v := 0) C0 d_Se_settle_28 (by decide) ?_
    refine x_istore_n C0 d_Se_settle_29 rfl (by decide) (lv' := [(2, .int (0 : Int32)), (0, .ref (m_b G + l0)), (1, .int l1)]) rfl ?_
    exact x_sub [1, 2, 0] rfl (t_Se_settle_30 G C0 hR hr hlk  _ _ _ _ hwp)
  · replace hwp := hwp.2 c4
    exact x_vret C0 hr hlk hwp d_Se_settle_7
set_option maxRecDepth 100000 in
set_option maxHeartbeats 4000000 in
theorem c_Se_settle (l : Launch) (G : mG) {Post : MH → Prop} {l0 : Nat} {l1 : Int32} {h : MH} (hwp : wp_Se_settle Post l0 l1 h) : Met l y_Se_settle (Cond.code y_Se_settle prog_6_method_6_code 3 (Option.none : Option Jvm.ClassFile.FieldType) :: lw_good) ({ frames := 6, cells := 0, slots := 0, locals := 149 }) (va_Pc [.ref (m_b G + l0), .int l1] (Wd G h)) (va_Qv Post (Wd G) (mA G)) 0 0 (mA G) := by
  refine Met.ofW (cc := prog_6_method_6_code) (maxL := 3) (ret := (Option.none : Option Jvm.ClassFile.FieldType)) (by decide +kernel) rfl ?_
  intro p e s m args below meth c s₁ B hml hv
  obtain ⟨rfl, hP, hz, hK, hSt⟩ := hv
  have hts := atoms_spec (ws := Cond.code y_Se_settle prog_6_method_6_code 3 (Option.none : Option Jvm.ClassFile.FieldType) :: lw_good) B.pre
  have C0 : Cx G p s m ([.ref (m_b G + l0), .int l1] : List Value).toArray c prog_6_method_6_code 3 "BassRealiser$Search" := ⟨⟨B.exec, B.bytes, hml, findClass_of_methodNamed B.named, fun w h => hts w (List.mem_cons_of_mem _ h)⟩, hK, hSt, by rw [hz]; exact Nat.le_add_right _ _⟩
  have hl := lv_entry ([.ref (m_b G + l0), .int l1]) (n := 3) (Nat.le_of_ble_eq_true rfl)
  rw [lg_entry_eq]
  exact t_Se_settle G C0 ⟨Nat.le_refl _, Nat.le_refl _, Nat.le_refl _, Nat.le_refl _⟩ B.returns B.notSynchronized _ _ _ hwp _ _ _ ⟨hP, hz, va_S.rf⟩ hl
def wp_Br_solve (Post : Int32 → MH → Prop) (l0 : Nat) (h : MH) : Prop :=
  ∃ x1 : Int32, gF h l0 5 4 = some (.inl x1) ∧
  (((¬ x1 = 0) →
      (∃ x11 : Nat, gF h l0 5 0 = some (.inr (some x11)) ∧
        (∃ x15 : Int32, gF h l0 5 4 = some (.inl x15) ∧
          (gC h x11 = some 4 ∧ wp_Se_settle (fun (h18 : MH) =>
              (∃ x22 : Nat, gF h18 l0 5 0 = some (.inr (some x22)) ∧
                (∃ x25 : Int32, gF h18 x22 4 5 = some (.inl x25) ∧
                  (((¬ x25 = (-1 : Int32)) →
                      (∃ x45 : Nat, gF h18 l0 5 0 = some (.inr (some x45)) ∧
                        (∃ x48 : Int32, gF h18 x45 4 5 = some (.inl x48) ∧
                        (Post ((-10 : Int32) - x48) h18)))) ∧
                    ((x25 = (-1 : Int32)) →
                      (∃ x33 : Nat, gF h18 l0 5 0 = some (.inr (some x33)) ∧
                        (∃ x36 : Int32, gF h18 x33 4 6 = some (.inl x36) ∧
                        (Post x36 h18)))))))) x11 x15 h)))) ∧
    ((x1 = 0) →
      (Post (-2 : Int32) h)))
set_option maxRecDepth 100000 in
set_option maxHeartbeats 4000000 in
theorem t_Br_solve {p : Program} {l : Launch} {e : Env} {R : Room} {s : State} {m : MethodId} {args : Array Value} {below : List Frame} {meth : Method} {c : Code} (G : mG) (C0 : Cx G p s m args c prog_1_method_15_code 1 "BassRealiser") (hR : 7 ≤ R.frames ∧ 171 ≤ R.locals ∧ 0 ≤ R.cells ∧ 0 ≤ R.slots) (hr : meth.sig.returnType = some .int) (hlk : meth.locks = false) {Post : Int32 → MH → Prop} (l0 : Nat) (h : MH) (hwp : wp_Br_solve Post l0 h) : WG p l e R s m args below meth c 0 0 (MQ below (va_Qi Post (Wd G) (mA G)) args s 0 0 (mA G)) G 1 [(0, .ref (m_b G + l0))] 0 [] h := by
  unfold wp_Br_solve at hwp
  refine x_aload_n C0 0 d_Br_solve_0 rfl rfl ?_
  obtain ⟨x1, e1, hwp⟩ := hwp
  refine x_getI C0 fk_Br_33 e1 d_Br_solve_1 ?_
  refine x_if_ne (tgt := 10) C0 d_Br_solve_4 (by decide) (fun c4 => ?_) (fun c4 => ?_)
  · replace hwp := hwp.1 c4
    refine x_aload_n C0 0 d_Br_solve_10 rfl rfl ?_
    obtain ⟨x11, e11, hwp⟩ := hwp
    refine x_getR C0 fk_Br_10 e11 d_Br_solve_11 ?_
    refine x_aload_n C0 0 d_Br_solve_14 rfl rfl ?_
    obtain ⟨x15, e15, hwp⟩ := hwp
    refine x_getI C0 fk_Br_33 e15 d_Br_solve_15 ?_
    obtain ⟨g18, hwp⟩ := hwp
    refine x_callVv0 (k := x11) (As := [.int x15]) (st := []) C0 (c_Se_settle l G hwp) kw_2_183 mk_Se_settle vk_Se_settle rfl g18 rfl (Nat.le_of_ble_eq_true rfl) rfl rfl ⟨Nat.le_trans (by decide) hR.1, Nat.le_trans (by decide) hR.2.1⟩ ⟨Nat.zero_le _, Nat.zero_le _⟩ rfl d_Br_solve_18 (fun h18 hwp => ?_)
    refine x_aload_n C0 0 d_Br_solve_21 rfl rfl ?_
    obtain ⟨x22, e22, hwp⟩ := hwp
    refine x_getR C0 fk_Br_10 e22 d_Br_solve_22 ?_
    obtain ⟨x25, e25, hwp⟩ := hwp
    refine x_getI C0 fk_Br_140 e25 d_Br_solve_25 ?_
    refine x_iconst (v := -1) C0 d_Br_solve_28 (by decide) ?_
    refine x_icmp_ne (tgt := 42) C0 d_Br_solve_29 (by decide) (fun c29 => ?_) (fun c29 => ?_)
    · replace hwp := hwp.1 c29
      refine x_bipush (v := -10) C0 d_Br_solve_42 (by decide) ?_
      refine x_aload_n C0 0 d_Br_solve_44 rfl rfl ?_
      obtain ⟨x45, e45, hwp⟩ := hwp
      refine x_getR C0 fk_Br_10 e45 d_Br_solve_45 ?_
      obtain ⟨x48, e48, hwp⟩ := hwp
      refine x_getI C0 fk_Br_140 e48 d_Br_solve_48 ?_
      refine x_isub C0 d_Br_solve_51 ?_
      exact x_iret C0 hr hlk hwp d_Br_solve_52
    · replace hwp := hwp.2 c29
      refine x_aload_n C0 0 d_Br_solve_32 rfl rfl ?_
      obtain ⟨x33, e33, hwp⟩ := hwp
      refine x_getR C0 fk_Br_10 e33 d_Br_solve_33 ?_
      obtain ⟨x36, e36, hwp⟩ := hwp
      refine x_getI C0 fk_Br_143 e36 d_Br_solve_36 ?_
      refine x_goto (tgt := 52) C0 d_Br_solve_39 (by decide) ?_
      exact x_iret C0 hr hlk hwp d_Br_solve_52
  · replace hwp := hwp.2 c4
    refine x_bipush (v := -2) C0 d_Br_solve_7 (by decide) ?_
    exact x_iret C0 hr hlk hwp d_Br_solve_9
set_option maxRecDepth 100000 in
set_option maxHeartbeats 4000000 in
theorem c_Br_solve (l : Launch) (G : mG) {Post : Int32 → MH → Prop} {l0 : Nat} {h : MH} (hwp : wp_Br_solve Post l0 h) : Met l y_Br_solve (Cond.code y_Br_solve prog_1_method_15_code 1 (Option.some Jvm.ClassFile.FieldType.int) :: lw_good) ({ frames := 7, cells := 0, slots := 0, locals := 171 }) (va_Pc [.ref (m_b G + l0)] (Wd G h)) (va_Qi Post (Wd G) (mA G)) 0 0 (mA G) := by
  refine Met.ofW (cc := prog_1_method_15_code) (maxL := 1) (ret := (Option.some Jvm.ClassFile.FieldType.int)) (by decide +kernel) rfl ?_
  intro p e s m args below meth c s₁ B hml hv
  obtain ⟨rfl, hP, hz, hK, hSt⟩ := hv
  have hts := atoms_spec (ws := Cond.code y_Br_solve prog_1_method_15_code 1 (Option.some Jvm.ClassFile.FieldType.int) :: lw_good) B.pre
  have C0 : Cx G p s m ([.ref (m_b G + l0)] : List Value).toArray c prog_1_method_15_code 1 "BassRealiser" := ⟨⟨B.exec, B.bytes, hml, findClass_of_methodNamed B.named, fun w h => hts w (List.mem_cons_of_mem _ h)⟩, hK, hSt, by rw [hz]; exact Nat.le_add_right _ _⟩
  have hl := lv_entry ([.ref (m_b G + l0)]) (n := 1) (Nat.le_of_ble_eq_true rfl)
  rw [lg_entry_eq]
  exact t_Br_solve G C0 ⟨Nat.le_refl _, Nat.le_refl _, Nat.le_refl _, Nat.le_refl _⟩ B.returns B.notSynchronized _ _ hwp _ _ _ ⟨hP, hz, va_S.rf⟩ hl
