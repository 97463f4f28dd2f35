theorem d_Rm_chord_0 : decode prog_8_method_6_code 0 = .ok (.aload_n 0, 1) := by decide +kernel
theorem d_Rm_chord_1 : decode prog_8_method_6_code 1 = .ok (.iconst 0, 1) := by decide +kernel
theorem d_Rm_chord_2 : decode prog_8_method_6_code 2 = .ok (.putfield 1, 3) := by decide +kernel
theorem d_Rm_chord_5 : decode prog_8_method_6_code 5 = .ok (.iload_n 1, 1) := by decide +kernel
theorem d_Rm_chord_6 : decode prog_8_method_6_code 6 = .ok (.i2l, 1) := by decide +kernel
theorem d_Rm_chord_7 : decode prog_8_method_6_code 7 = .ok (.lconst 0, 1) := by decide +kernel
theorem d_Rm_chord_8 : decode prog_8_method_6_code 8 = .ok (.ldc2_w 97, 3) := by decide +kernel
theorem d_Rm_chord_11 : decode prog_8_method_6_code 11 = .ok (.invokestatic 82, 3) := by decide +kernel
theorem d_Rm_chord_14 : decode prog_8_method_6_code 14 = .ok (.ifCond .eq 27, 3) := by decide +kernel
theorem d_Rm_chord_17 : decode prog_8_method_6_code 17 = .ok (.iload_n 2, 1) := by decide +kernel
theorem d_Rm_chord_18 : decode prog_8_method_6_code 18 = .ok (.i2l, 1) := by decide +kernel
theorem d_Rm_chord_19 : decode prog_8_method_6_code 19 = .ok (.lconst 1, 1) := by decide +kernel
theorem d_Rm_chord_20 : decode prog_8_method_6_code 20 = .ok (.ldc2_w 99, 3) := by decide +kernel
theorem d_Rm_chord_23 : decode prog_8_method_6_code 23 = .ok (.invokestatic 82, 3) := by decide +kernel
theorem d_Rm_chord_26 : decode prog_8_method_6_code 26 = .ok (.ifCond .eq 15, 3) := by decide +kernel
theorem d_Rm_chord_29 : decode prog_8_method_6_code 29 = .ok (.iload_n 3, 1) := by decide +kernel
theorem d_Rm_chord_30 : decode prog_8_method_6_code 30 = .ok (.i2l, 1) := by decide +kernel
theorem d_Rm_chord_31 : decode prog_8_method_6_code 31 = .ok (.ldc2_w 101, 3) := by decide +kernel
theorem d_Rm_chord_34 : decode prog_8_method_6_code 34 = .ok (.lconst 1, 1) := by decide +kernel
theorem d_Rm_chord_35 : decode prog_8_method_6_code 35 = .ok (.invokestatic 82, 3) := by decide +kernel
theorem d_Rm_chord_38 : decode prog_8_method_6_code 38 = .ok (.ifCond .ne 5, 3) := by decide +kernel
theorem d_Rm_chord_41 : decode prog_8_method_6_code 41 = .ok (.iconst (-1), 1) := by decide +kernel
theorem d_Rm_chord_42 : decode prog_8_method_6_code 42 = .ok (.ireturn, 1) := by decide +kernel
theorem d_Rm_chord_43 : decode prog_8_method_6_code 43 = .ok (.aload_n 0, 1) := by decide +kernel
theorem d_Rm_chord_44 : decode prog_8_method_6_code 44 = .ok (.getfield 79, 3) := by decide +kernel
theorem d_Rm_chord_47 : decode prog_8_method_6_code 47 = .ok (.bipush 12, 2) := by decide +kernel
theorem d_Rm_chord_49 : decode prog_8_method_6_code 49 = .ok (.if_icmp .ne 6, 3) := by decide +kernel
theorem d_Rm_chord_52 : decode prog_8_method_6_code 52 = .ok (.bipush (-3), 2) := by decide +kernel
theorem d_Rm_chord_54 : decode prog_8_method_6_code 54 = .ok (.ireturn, 1) := by decide +kernel
theorem d_Rm_chord_55 : decode prog_8_method_6_code 55 = .ok (.aload_n 0, 1) := by decide +kernel
theorem d_Rm_chord_56 : decode prog_8_method_6_code 56 = .ok (.getfield 13, 3) := by decide +kernel
theorem d_Rm_chord_59 : decode prog_8_method_6_code 59 = .ok (.aload_n 0, 1) := by decide +kernel
theorem d_Rm_chord_60 : decode prog_8_method_6_code 60 = .ok (.getfield 79, 3) := by decide +kernel
theorem d_Rm_chord_63 : decode prog_8_method_6_code 63 = .ok (.iload_n 1, 1) := by decide +kernel
theorem d_Rm_chord_64 : decode prog_8_method_6_code 64 = .ok (.iastore, 1) := by decide +kernel
theorem d_Rm_chord_65 : decode prog_8_method_6_code 65 = .ok (.aload_n 0, 1) := by decide +kernel
theorem d_Rm_chord_66 : decode prog_8_method_6_code 66 = .ok (.getfield 17, 3) := by decide +kernel
theorem d_Rm_chord_69 : decode prog_8_method_6_code 69 = .ok (.aload_n 0, 1) := by decide +kernel
theorem d_Rm_chord_70 : decode prog_8_method_6_code 70 = .ok (.getfield 79, 3) := by decide +kernel
theorem d_Rm_chord_73 : decode prog_8_method_6_code 73 = .ok (.iload_n 2, 1) := by decide +kernel
theorem d_Rm_chord_74 : decode prog_8_method_6_code 74 = .ok (.iastore, 1) := by decide +kernel
theorem d_Rm_chord_75 : decode prog_8_method_6_code 75 = .ok (.aload_n 0, 1) := by decide +kernel
theorem d_Rm_chord_76 : decode prog_8_method_6_code 76 = .ok (.getfield 20, 3) := by decide +kernel
theorem d_Rm_chord_79 : decode prog_8_method_6_code 79 = .ok (.aload_n 0, 1) := by decide +kernel
theorem d_Rm_chord_80 : decode prog_8_method_6_code 80 = .ok (.getfield 79, 3) := by decide +kernel
theorem d_Rm_chord_83 : decode prog_8_method_6_code 83 = .ok (.iload_n 3, 1) := by decide +kernel
theorem d_Rm_chord_84 : decode prog_8_method_6_code 84 = .ok (.iastore, 1) := by decide +kernel
theorem d_Rm_chord_85 : decode prog_8_method_6_code 85 = .ok (.iconst 0, 1) := by decide +kernel
theorem d_Rm_chord_86 : decode prog_8_method_6_code 86 = .ok (.istore 4, 2) := by decide +kernel
theorem d_Rm_chord_88 : decode prog_8_method_6_code 88 = .ok (.iload 4, 2) := by decide +kernel
theorem d_Rm_chord_90 : decode prog_8_method_6_code 90 = .ok (.bipush 10, 2) := by decide +kernel
theorem d_Rm_chord_92 : decode prog_8_method_6_code 92 = .ok (.if_icmp .ge 25, 3) := by decide +kernel
theorem d_Rm_chord_95 : decode prog_8_method_6_code 95 = .ok (.aload_n 0, 1) := by decide +kernel
theorem d_Rm_chord_96 : decode prog_8_method_6_code 96 = .ok (.getfield 23, 3) := by decide +kernel
theorem d_Rm_chord_99 : decode prog_8_method_6_code 99 = .ok (.bipush 10, 2) := by decide +kernel
theorem d_Rm_chord_101 : decode prog_8_method_6_code 101 = .ok (.aload_n 0, 1) := by decide +kernel
theorem d_Rm_chord_102 : decode prog_8_method_6_code 102 = .ok (.getfield 79, 3) := by decide +kernel
theorem d_Rm_chord_105 : decode prog_8_method_6_code 105 = .ok (.imul, 1) := by decide +kernel
theorem d_Rm_chord_106 : decode prog_8_method_6_code 106 = .ok (.iload 4, 2) := by decide +kernel
theorem d_Rm_chord_108 : decode prog_8_method_6_code 108 = .ok (.iadd, 1) := by decide +kernel
theorem d_Rm_chord_109 : decode prog_8_method_6_code 109 = .ok (.iconst 0, 1) := by decide +kernel
theorem d_Rm_chord_110 : decode prog_8_method_6_code 110 = .ok (.iastore, 1) := by decide +kernel
theorem d_Rm_chord_111 : decode prog_8_method_6_code 111 = .ok (.iinc 4 1, 3) := by decide +kernel
theorem d_Rm_chord_114 : decode prog_8_method_6_code 114 = .ok (.goto (-26), 3) := by decide +kernel
theorem d_Rm_chord_117 : decode prog_8_method_6_code 117 = .ok (.iconst 0, 1) := by decide +kernel
theorem d_Rm_chord_118 : decode prog_8_method_6_code 118 = .ok (.istore 4, 2) := by decide +kernel
theorem d_Rm_chord_120 : decode prog_8_method_6_code 120 = .ok (.iload 4, 2) := by decide +kernel
theorem d_Rm_chord_122 : decode prog_8_method_6_code 122 = .ok (.iconst 3, 1) := by decide +kernel
theorem d_Rm_chord_123 : decode prog_8_method_6_code 123 = .ok (.if_icmp .ge 24, 3) := by decide +kernel
theorem d_Rm_chord_126 : decode prog_8_method_6_code 126 = .ok (.aload_n 0, 1) := by decide +kernel
theorem d_Rm_chord_127 : decode prog_8_method_6_code 127 = .ok (.getfield 38, 3) := by decide +kernel
theorem d_Rm_chord_130 : decode prog_8_method_6_code 130 = .ok (.iconst 3, 1) := by decide +kernel
theorem d_Rm_chord_131 : decode prog_8_method_6_code 131 = .ok (.aload_n 0, 1) := by decide +kernel
theorem d_Rm_chord_132 : decode prog_8_method_6_code 132 = .ok (.getfield 79, 3) := by decide +kernel
theorem d_Rm_chord_135 : decode prog_8_method_6_code 135 = .ok (.imul, 1) := by decide +kernel
theorem d_Rm_chord_136 : decode prog_8_method_6_code 136 = .ok (.iload 4, 2) := by decide +kernel
theorem d_Rm_chord_138 : decode prog_8_method_6_code 138 = .ok (.iadd, 1) := by decide +kernel
theorem d_Rm_chord_139 : decode prog_8_method_6_code 139 = .ok (.iconst (-1), 1) := by decide +kernel
theorem d_Rm_chord_140 : decode prog_8_method_6_code 140 = .ok (.iastore, 1) := by decide +kernel
theorem d_Rm_chord_141 : decode prog_8_method_6_code 141 = .ok (.iinc 4 1, 3) := by decide +kernel
theorem d_Rm_chord_144 : decode prog_8_method_6_code 144 = .ok (.goto (-24), 3) := by decide +kernel
theorem d_Rm_chord_147 : decode prog_8_method_6_code 147 = .ok (.aload_n 0, 1) := by decide +kernel
theorem d_Rm_chord_148 : decode prog_8_method_6_code 148 = .ok (.getfield 44, 3) := by decide +kernel
theorem d_Rm_chord_151 : decode prog_8_method_6_code 151 = .ok (.aload_n 0, 1) := by decide +kernel
theorem d_Rm_chord_152 : decode prog_8_method_6_code 152 = .ok (.getfield 79, 3) := by decide +kernel
theorem d_Rm_chord_155 : decode prog_8_method_6_code 155 = .ok (.iconst 0, 1) := by decide +kernel
theorem d_Rm_chord_156 : decode prog_8_method_6_code 156 = .ok (.bastore, 1) := by decide +kernel
theorem d_Rm_chord_157 : decode prog_8_method_6_code 157 = .ok (.aload_n 0, 1) := by decide +kernel
theorem d_Rm_chord_158 : decode prog_8_method_6_code 158 = .ok (.dup, 1) := by decide +kernel
theorem d_Rm_chord_159 : decode prog_8_method_6_code 159 = .ok (.getfield 79, 3) := by decide +kernel
theorem d_Rm_chord_162 : decode prog_8_method_6_code 162 = .ok (.iconst 1, 1) := by decide +kernel
theorem d_Rm_chord_163 : decode prog_8_method_6_code 163 = .ok (.iadd, 1) := by decide +kernel
theorem d_Rm_chord_164 : decode prog_8_method_6_code 164 = .ok (.putfield 79, 3) := by decide +kernel
theorem d_Rm_chord_167 : decode prog_8_method_6_code 167 = .ok (.aload_n 0, 1) := by decide +kernel
theorem d_Rm_chord_168 : decode prog_8_method_6_code 168 = .ok (.iconst 0, 1) := by decide +kernel
theorem d_Rm_chord_169 : decode prog_8_method_6_code 169 = .ok (.putfield 93, 3) := by decide +kernel
theorem d_Rm_chord_172 : decode prog_8_method_6_code 172 = .ok (.aload_n 0, 1) := by decide +kernel
theorem d_Rm_chord_173 : decode prog_8_method_6_code 173 = .ok (.getfield 79, 3) := by decide +kernel
theorem d_Rm_chord_176 : decode prog_8_method_6_code 176 = .ok (.iconst 1, 1) := by decide +kernel
theorem d_Rm_chord_177 : decode prog_8_method_6_code 177 = .ok (.isub, 1) := by decide +kernel
theorem d_Rm_chord_178 : decode prog_8_method_6_code 178 = .ok (.ireturn, 1) := by decide +kernel
theorem d_Br_less_0 : decode prog_1_method_4_code 0 = .ok (.aload_n 0, 1) := by decide +kernel
theorem d_Br_less_1 : decode prog_1_method_4_code 1 = .ok (.getfield 33, 3) := by decide +kernel
theorem d_Br_less_4 : decode prog_1_method_4_code 4 = .ok (.ifCond .ne 6, 3) := by decide +kernel
theorem d_Br_less_7 : decode prog_1_method_4_code 7 = .ok (.bipush (-2), 2) := by decide +kernel
theorem d_Br_less_9 : decode prog_1_method_4_code 9 = .ok (.ireturn, 1) := by decide +kernel
theorem d_Br_less_10 : decode prog_1_method_4_code 10 = .ok (.aload_n 0, 1) := by decide +kernel
theorem d_Br_less_11 : decode prog_1_method_4_code 11 = .ok (.dup, 1) := by decide +kernel
theorem d_Br_less_12 : decode prog_1_method_4_code 12 = .ok (.getfield 33, 3) := by decide +kernel
theorem d_Br_less_15 : decode prog_1_method_4_code 15 = .ok (.iconst 1, 1) := by decide +kernel
theorem d_Br_less_16 : decode prog_1_method_4_code 16 = .ok (.isub, 1) := by decide +kernel
theorem d_Br_less_17 : decode prog_1_method_4_code 17 = .ok (.putfield 33, 3) := by decide +kernel
theorem d_Br_less_20 : decode prog_1_method_4_code 20 = .ok (.aload_n 0, 1) := by decide +kernel
theorem d_Br_less_21 : decode prog_1_method_4_code 21 = .ok (.getfield 10, 3) := by decide +kernel
theorem d_Br_less_24 : decode prog_1_method_4_code 24 = .ok (.aload_n 0, 1) := by decide +kernel
theorem d_Br_less_25 : decode prog_1_method_4_code 25 = .ok (.getfield 33, 3) := by decide +kernel
theorem d_Br_less_28 : decode prog_1_method_4_code 28 = .ok (.invokevirtual 59, 3) := by decide +kernel
theorem d_Br_less_31 : decode prog_1_method_4_code 31 = .ok (.aload_n 0, 1) := by decide +kernel
theorem d_Br_less_32 : decode prog_1_method_4_code 32 = .ok (.getfield 33, 3) := by decide +kernel
theorem d_Br_less_35 : decode prog_1_method_4_code 35 = .ok (.ireturn, 1) := by decide +kernel
theorem d_Rm_less_0 : decode prog_8_method_7_code 0 = .ok (.aload_n 0, 1) := by decide +kernel
theorem d_Rm_less_1 : decode prog_8_method_7_code 1 = .ok (.iconst 0, 1) := by decide +kernel
theorem d_Rm_less_2 : decode prog_8_method_7_code 2 = .ok (.putfield 1, 3) := by decide +kernel
theorem d_Rm_less_5 : decode prog_8_method_7_code 5 = .ok (.aload_n 0, 1) := by decide +kernel
theorem d_Rm_less_6 : decode prog_8_method_7_code 6 = .ok (.getfield 79, 3) := by decide +kernel
theorem d_Rm_less_9 : decode prog_8_method_7_code 9 = .ok (.ifCond .ne 6, 3) := by decide +kernel
theorem d_Rm_less_12 : decode prog_8_method_7_code 12 = .ok (.bipush (-2), 2) := by decide +kernel
theorem d_Rm_less_14 : decode prog_8_method_7_code 14 = .ok (.ireturn, 1) := by decide +kernel
theorem d_Rm_less_15 : decode prog_8_method_7_code 15 = .ok (.aload_n 0, 1) := by decide +kernel
theorem d_Rm_less_16 : decode prog_8_method_7_code 16 = .ok (.dup, 1) := by decide +kernel
theorem d_Rm_less_17 : decode prog_8_method_7_code 17 = .ok (.getfield 79, 3) := by decide +kernel
theorem d_Rm_less_20 : decode prog_8_method_7_code 20 = .ok (.iconst 1, 1) := by decide +kernel
theorem d_Rm_less_21 : decode prog_8_method_7_code 21 = .ok (.isub, 1) := by decide +kernel
theorem d_Rm_less_22 : decode prog_8_method_7_code 22 = .ok (.putfield 79, 3) := by decide +kernel
theorem d_Rm_less_25 : decode prog_8_method_7_code 25 = .ok (.aload_n 0, 1) := by decide +kernel
theorem d_Rm_less_26 : decode prog_8_method_7_code 26 = .ok (.iconst 0, 1) := by decide +kernel
theorem d_Rm_less_27 : decode prog_8_method_7_code 27 = .ok (.putfield 93, 3) := by decide +kernel
theorem d_Rm_less_30 : decode prog_8_method_7_code 30 = .ok (.aload_n 0, 1) := by decide +kernel
theorem d_Rm_less_31 : decode prog_8_method_7_code 31 = .ok (.getfield 79, 3) := by decide +kernel
theorem d_Rm_less_34 : decode prog_8_method_7_code 34 = .ok (.ireturn, 1) := by decide +kernel
theorem d_Br_hasChord_0 : decode prog_1_method_27_code 0 = .ok (.iload_n 1, 1) := by decide +kernel
theorem d_Br_hasChord_1 : decode prog_1_method_27_code 1 = .ok (.ifCond .lt 15, 3) := by decide +kernel
theorem d_Br_hasChord_4 : decode prog_1_method_27_code 4 = .ok (.iload_n 1, 1) := by decide +kernel
theorem d_Br_hasChord_5 : decode prog_1_method_27_code 5 = .ok (.aload_n 0, 1) := by decide +kernel
theorem d_Br_hasChord_6 : decode prog_1_method_27_code 6 = .ok (.getfield 33, 3) := by decide +kernel
theorem d_Br_hasChord_9 : decode prog_1_method_27_code 9 = .ok (.if_icmp .ge 7, 3) := by decide +kernel
theorem d_Br_hasChord_12 : decode prog_1_method_27_code 12 = .ok (.iconst 1, 1) := by decide +kernel
theorem d_Br_hasChord_13 : decode prog_1_method_27_code 13 = .ok (.goto 4, 3) := by decide +kernel
theorem d_Br_hasChord_16 : decode prog_1_method_27_code 16 = .ok (.iconst 0, 1) := by decide +kernel
theorem d_Br_hasChord_17 : decode prog_1_method_27_code 17 = .ok (.ireturn, 1) := by decide +kernel
theorem d_In_bitCount_0 : decode prog_9_method_49_code 0 = .ok (.iload_n 0, 1) := by decide +kernel
theorem d_In_bitCount_1 : decode prog_9_method_49_code 1 = .ok (.iload_n 0, 1) := by decide +kernel
theorem d_In_bitCount_2 : decode prog_9_method_49_code 2 = .ok (.iconst 1, 1) := by decide +kernel
theorem d_In_bitCount_3 : decode prog_9_method_49_code 3 = .ok (.iushr, 1) := by decide +kernel
theorem d_In_bitCount_4 : decode prog_9_method_49_code 4 = .ok (.ldc_w 265, 3) := by decide +kernel
theorem d_In_bitCount_7 : decode prog_9_method_49_code 7 = .ok (.iand, 1) := by decide +kernel
theorem d_In_bitCount_8 : decode prog_9_method_49_code 8 = .ok (.isub, 1) := by decide +kernel
theorem d_In_bitCount_9 : decode prog_9_method_49_code 9 = .ok (.istore_n 0, 1) := by decide +kernel
theorem d_In_bitCount_10 : decode prog_9_method_49_code 10 = .ok (.iload_n 0, 1) := by decide +kernel
theorem d_In_bitCount_11 : decode prog_9_method_49_code 11 = .ok (.ldc_w 266, 3) := by decide +kernel
theorem d_In_bitCount_14 : decode prog_9_method_49_code 14 = .ok (.iand, 1) := by decide +kernel
theorem d_In_bitCount_15 : decode prog_9_method_49_code 15 = .ok (.iload_n 0, 1) := by decide +kernel
theorem d_In_bitCount_16 : decode prog_9_method_49_code 16 = .ok (.iconst 2, 1) := by decide +kernel
theorem d_In_bitCount_17 : decode prog_9_method_49_code 17 = .ok (.iushr, 1) := by decide +kernel
theorem d_In_bitCount_18 : decode prog_9_method_49_code 18 = .ok (.ldc_w 266, 3) := by decide +kernel
theorem d_In_bitCount_21 : decode prog_9_method_49_code 21 = .ok (.iand, 1) := by decide +kernel
theorem d_In_bitCount_22 : decode prog_9_method_49_code 22 = .ok (.iadd, 1) := by decide +kernel
theorem d_In_bitCount_23 : decode prog_9_method_49_code 23 = .ok (.istore_n 0, 1) := by decide +kernel
theorem d_In_bitCount_24 : decode prog_9_method_49_code 24 = .ok (.iload_n 0, 1) := by decide +kernel
theorem d_In_bitCount_25 : decode prog_9_method_49_code 25 = .ok (.iload_n 0, 1) := by decide +kernel
theorem d_In_bitCount_26 : decode prog_9_method_49_code 26 = .ok (.iconst 4, 1) := by decide +kernel
theorem d_In_bitCount_27 : decode prog_9_method_49_code 27 = .ok (.iushr, 1) := by decide +kernel
theorem d_In_bitCount_28 : decode prog_9_method_49_code 28 = .ok (.iadd, 1) := by decide +kernel
theorem d_In_bitCount_29 : decode prog_9_method_49_code 29 = .ok (.ldc_w 267, 3) := by decide +kernel
theorem d_In_bitCount_32 : decode prog_9_method_49_code 32 = .ok (.iand, 1) := by decide +kernel
theorem d_In_bitCount_33 : decode prog_9_method_49_code 33 = .ok (.istore_n 0, 1) := by decide +kernel
theorem d_In_bitCount_34 : decode prog_9_method_49_code 34 = .ok (.iload_n 0, 1) := by decide +kernel
theorem d_In_bitCount_35 : decode prog_9_method_49_code 35 = .ok (.iload_n 0, 1) := by decide +kernel
theorem d_In_bitCount_36 : decode prog_9_method_49_code 36 = .ok (.bipush 8, 2) := by decide +kernel
theorem d_In_bitCount_38 : decode prog_9_method_49_code 38 = .ok (.iushr, 1) := by decide +kernel
theorem d_In_bitCount_39 : decode prog_9_method_49_code 39 = .ok (.iadd, 1) := by decide +kernel
theorem d_In_bitCount_40 : decode prog_9_method_49_code 40 = .ok (.istore_n 0, 1) := by decide +kernel
theorem d_In_bitCount_41 : decode prog_9_method_49_code 41 = .ok (.iload_n 0, 1) := by decide +kernel
theorem d_In_bitCount_42 : decode prog_9_method_49_code 42 = .ok (.iload_n 0, 1) := by decide +kernel
theorem d_In_bitCount_43 : decode prog_9_method_49_code 43 = .ok (.bipush 16, 2) := by decide +kernel
theorem d_In_bitCount_45 : decode prog_9_method_49_code 45 = .ok (.iushr, 1) := by decide +kernel
theorem d_In_bitCount_46 : decode prog_9_method_49_code 46 = .ok (.iadd, 1) := by decide +kernel
theorem d_In_bitCount_47 : decode prog_9_method_49_code 47 = .ok (.istore_n 0, 1) := by decide +kernel
theorem d_In_bitCount_48 : decode prog_9_method_49_code 48 = .ok (.iload_n 0, 1) := by decide +kernel
theorem d_In_bitCount_49 : decode prog_9_method_49_code 49 = .ok (.bipush 63, 2) := by decide +kernel
theorem d_In_bitCount_51 : decode prog_9_method_49_code 51 = .ok (.iand, 1) := by decide +kernel
theorem d_In_bitCount_52 : decode prog_9_method_49_code 52 = .ok (.ireturn, 1) := by decide +kernel
theorem d_Ch_tell_0 : decode prog_2_method_3_code 0 = .ok (.aload_n 0, 1) := by decide +kernel
theorem d_Ch_tell_1 : decode prog_2_method_3_code 1 = .ok (.dup, 1) := by decide +kernel
theorem d_Ch_tell_2 : decode prog_2_method_3_code 2 = .ok (.getfield 34, 3) := by decide +kernel
theorem d_Ch_tell_5 : decode prog_2_method_3_code 5 = .ok (.iconst 1, 1) := by decide +kernel
theorem d_Ch_tell_6 : decode prog_2_method_3_code 6 = .ok (.iload_n 1, 1) := by decide +kernel
theorem d_Ch_tell_7 : decode prog_2_method_3_code 7 = .ok (.ishl, 1) := by decide +kernel
theorem d_Ch_tell_8 : decode prog_2_method_3_code 8 = .ok (.ior, 1) := by decide +kernel
theorem d_Ch_tell_9 : decode prog_2_method_3_code 9 = .ok (.putfield 34, 3) := by decide +kernel
theorem d_Ch_tell_12 : decode prog_2_method_3_code 12 = .ok (.aload_n 0, 1) := by decide +kernel
theorem d_Ch_tell_13 : decode prog_2_method_3_code 13 = .ok (.getfield 9, 3) := by decide +kernel
theorem d_Ch_tell_16 : decode prog_2_method_3_code 16 = .ok (.iload_n 1, 1) := by decide +kernel
theorem d_Ch_tell_17 : decode prog_2_method_3_code 17 = .ok (.iload_n 2, 1) := by decide +kernel
theorem d_Ch_tell_18 : decode prog_2_method_3_code 18 = .ok (.iastore, 1) := by decide +kernel
theorem d_Ch_tell_19 : decode prog_2_method_3_code 19 = .ok (.return_, 1) := by decide +kernel
theorem d_Br_figure_0 : decode prog_1_method_5_code 0 = .ok (.aload_n 0, 1) := by decide +kernel
theorem d_Br_figure_1 : decode prog_1_method_5_code 1 = .ok (.iload_n 1, 1) := by decide +kernel
theorem d_Br_figure_2 : decode prog_1_method_5_code 2 = .ok (.invokevirtual 62, 3) := by decide +kernel
theorem d_Br_figure_5 : decode prog_1_method_5_code 5 = .ok (.ifCond .eq 22, 3) := by decide +kernel
theorem d_Br_figure_8 : decode prog_1_method_5_code 8 = .ok (.iload_n 2, 1) := by decide +kernel
theorem d_Br_figure_9 : decode prog_1_method_5_code 9 = .ok (.iconst 2, 1) := by decide +kernel
theorem d_Br_figure_10 : decode prog_1_method_5_code 10 = .ok (.bipush 9, 2) := by decide +kernel
theorem d_Br_figure_12 : decode prog_1_method_5_code 12 = .ok (.invokestatic 37, 3) := by decide +kernel
theorem d_Br_figure_15 : decode prog_1_method_5_code 15 = .ok (.ifCond .eq 12, 3) := by decide +kernel
theorem d_Br_figure_18 : decode prog_1_method_5_code 18 = .ok (.iload_n 3, 1) := by decide +kernel
theorem d_Br_figure_19 : decode prog_1_method_5_code 19 = .ok (.iconst 0, 1) := by decide +kernel
theorem d_Br_figure_20 : decode prog_1_method_5_code 20 = .ok (.iconst 3, 1) := by decide +kernel
theorem d_Br_figure_21 : decode prog_1_method_5_code 21 = .ok (.invokestatic 37, 3) := by decide +kernel
theorem d_Br_figure_24 : decode prog_1_method_5_code 24 = .ok (.ifCond .ne 5, 3) := by decide +kernel
theorem d_Br_figure_27 : decode prog_1_method_5_code 27 = .ok (.iconst (-1), 1) := by decide +kernel
theorem d_Br_figure_28 : decode prog_1_method_5_code 28 = .ok (.ireturn, 1) := by decide +kernel
theorem d_Br_figure_29 : decode prog_1_method_5_code 29 = .ok (.aload_n 0, 1) := by decide +kernel
theorem d_Br_figure_30 : decode prog_1_method_5_code 30 = .ok (.getfield 20, 3) := by decide +kernel
theorem d_Br_figure_33 : decode prog_1_method_5_code 33 = .ok (.iload_n 1, 1) := by decide +kernel
theorem d_Br_figure_34 : decode prog_1_method_5_code 34 = .ok (.aaload, 1) := by decide +kernel
theorem d_Br_figure_35 : decode prog_1_method_5_code 35 = .ok (.astore 4, 2) := by decide +kernel
theorem d_Br_figure_37 : decode prog_1_method_5_code 37 = .ok (.aload 4, 2) := by decide +kernel
theorem d_Br_figure_39 : decode prog_1_method_5_code 39 = .ok (.getfield 66, 3) := by decide +kernel
theorem d_Br_figure_42 : decode prog_1_method_5_code 42 = .ok (.iconst 1, 1) := by decide +kernel
theorem d_Br_figure_43 : decode prog_1_method_5_code 43 = .ok (.iload_n 2, 1) := by decide +kernel
theorem d_Br_figure_44 : decode prog_1_method_5_code 44 = .ok (.ishl, 1) := by decide +kernel
theorem d_Br_figure_45 : decode prog_1_method_5_code 45 = .ok (.ior, 1) := by decide +kernel
theorem d_Br_figure_46 : decode prog_1_method_5_code 46 = .ok (.invokestatic 69, 3) := by decide +kernel
theorem d_Br_figure_49 : decode prog_1_method_5_code 49 = .ok (.invokestatic 73, 3) := by decide +kernel
theorem d_Br_figure_52 : decode prog_1_method_5_code 52 = .ok (.iconst 3, 1) := by decide +kernel
theorem d_Br_figure_53 : decode prog_1_method_5_code 53 = .ok (.if_icmp .le 6, 3) := by decide +kernel
theorem d_Br_figure_56 : decode prog_1_method_5_code 56 = .ok (.bipush (-3), 2) := by decide +kernel
theorem d_Br_figure_58 : decode prog_1_method_5_code 58 = .ok (.ireturn, 1) := by decide +kernel
theorem d_Br_figure_59 : decode prog_1_method_5_code 59 = .ok (.aload 4, 2) := by decide +kernel
theorem d_Br_figure_61 : decode prog_1_method_5_code 61 = .ok (.iload_n 2, 1) := by decide +kernel
theorem d_Br_figure_62 : decode prog_1_method_5_code 62 = .ok (.iload_n 3, 1) := by decide +kernel
theorem d_Br_figure_63 : decode prog_1_method_5_code 63 = .ok (.invokevirtual 78, 3) := by decide +kernel
theorem d_Br_figure_66 : decode prog_1_method_5_code 66 = .ok (.aload 4, 2) := by decide +kernel
theorem d_Br_figure_68 : decode prog_1_method_5_code 68 = .ok (.aload_n 0, 1) := by decide +kernel
theorem d_Br_figure_69 : decode prog_1_method_5_code 69 = .ok (.getfield 25, 3) := by decide +kernel
theorem d_Br_figure_72 : decode prog_1_method_5_code 72 = .ok (.getfield 41, 3) := by decide +kernel
theorem d_Br_figure_75 : decode prog_1_method_5_code 75 = .ok (.invokevirtual 46, 3) := by decide +kernel
theorem d_Br_figure_78 : decode prog_1_method_5_code 78 = .ok (.aload_n 0, 1) := by decide +kernel
theorem d_Br_figure_79 : decode prog_1_method_5_code 79 = .ok (.getfield 10, 3) := by decide +kernel
theorem d_Br_figure_82 : decode prog_1_method_5_code 82 = .ok (.iload_n 1, 1) := by decide +kernel
theorem d_Br_figure_83 : decode prog_1_method_5_code 83 = .ok (.invokevirtual 59, 3) := by decide +kernel
theorem d_Br_figure_86 : decode prog_1_method_5_code 86 = .ok (.aload 4, 2) := by decide +kernel
theorem d_Br_figure_88 : decode prog_1_method_5_code 88 = .ok (.getfield 82, 3) := by decide +kernel
theorem d_Br_figure_91 : decode prog_1_method_5_code 91 = .ok (.invokestatic 73, 3) := by decide +kernel
theorem d_Br_figure_94 : decode prog_1_method_5_code 94 = .ok (.ireturn, 1) := by decide +kernel
theorem d_Rm_noChord_0 : decode prog_8_method_4_code 0 = .ok (.iload_n 1, 1) := by decide +kernel
theorem d_Rm_noChord_1 : decode prog_8_method_4_code 1 = .ok (.i2l, 1) := by decide +kernel
theorem d_Rm_noChord_2 : decode prog_8_method_4_code 2 = .ok (.lconst 0, 1) := by decide +kernel
theorem d_Rm_noChord_3 : decode prog_8_method_4_code 3 = .ok (.aload_n 0, 1) := by decide +kernel
theorem d_Rm_noChord_4 : decode prog_8_method_4_code 4 = .ok (.getfield 79, 3) := by decide +kernel
theorem d_Rm_noChord_7 : decode prog_8_method_4_code 7 = .ok (.iconst 1, 1) := by decide +kernel
theorem d_Rm_noChord_8 : decode prog_8_method_4_code 8 = .ok (.isub, 1) := by decide +kernel
theorem d_Rm_noChord_9 : decode prog_8_method_4_code 9 = .ok (.i2l, 1) := by decide +kernel
theorem d_Rm_noChord_10 : decode prog_8_method_4_code 10 = .ok (.invokestatic 82, 3) := by decide +kernel
theorem d_Rm_noChord_13 : decode prog_8_method_4_code 13 = .ok (.ifCond .ne 7, 3) := by decide +kernel
theorem d_Rm_noChord_16 : decode prog_8_method_4_code 16 = .ok (.iconst 1, 1) := by decide +kernel
theorem d_Rm_noChord_17 : decode prog_8_method_4_code 17 = .ok (.goto 4, 3) := by decide +kernel
theorem d_Rm_noChord_20 : decode prog_8_method_4_code 20 = .ok (.iconst 0, 1) := by decide +kernel
theorem d_Rm_noChord_21 : decode prog_8_method_4_code 21 = .ok (.ireturn, 1) := by decide +kernel
theorem d_Rm_isTold_0 : decode prog_8_method_18_code 0 = .ok (.aload_n 0, 1) := by decide +kernel
theorem d_Rm_isTold_1 : decode prog_8_method_18_code 1 = .ok (.getfield 23, 3) := by decide +kernel
theorem d_Rm_isTold_4 : decode prog_8_method_18_code 4 = .ok (.bipush 10, 2) := by decide +kernel
theorem d_Rm_isTold_6 : decode prog_8_method_18_code 6 = .ok (.iload_n 1, 1) := by decide +kernel
theorem d_Rm_isTold_7 : decode prog_8_method_18_code 7 = .ok (.imul, 1) := by decide +kernel
theorem d_Rm_isTold_8 : decode prog_8_method_18_code 8 = .ok (.iload_n 2, 1) := by decide +kernel
theorem d_Rm_isTold_9 : decode prog_8_method_18_code 9 = .ok (.iadd, 1) := by decide +kernel
theorem d_Rm_isTold_10 : decode prog_8_method_18_code 10 = .ok (.iaload, 1) := by decide +kernel
theorem d_Rm_isTold_11 : decode prog_8_method_18_code 11 = .ok (.ifCond .le 7, 3) := by decide +kernel
theorem d_Rm_isTold_14 : decode prog_8_method_18_code 14 = .ok (.iconst 1, 1) := by decide +kernel
theorem d_Rm_isTold_15 : decode prog_8_method_18_code 15 = .ok (.goto 4, 3) := by decide +kernel
theorem d_Rm_isTold_18 : decode prog_8_method_18_code 18 = .ok (.iconst 0, 1) := by decide +kernel
theorem d_Rm_isTold_19 : decode prog_8_method_18_code 19 = .ok (.ireturn, 1) := by decide +kernel
theorem d_Rm_isWorked_0 : decode prog_8_method_19_code 0 = .ok (.aload_n 0, 1) := by decide +kernel
theorem d_Rm_isWorked_1 : decode prog_8_method_19_code 1 = .ok (.iload_n 1, 1) := by decide +kernel
theorem d_Rm_isWorked_2 : decode prog_8_method_19_code 2 = .ok (.iload_n 2, 1) := by decide +kernel
theorem d_Rm_isWorked_3 : decode prog_8_method_19_code 3 = .ok (.invokevirtual 127, 3) := by decide +kernel
theorem d_Rm_isWorked_6 : decode prog_8_method_19_code 6 = .ok (.ifCond .eq 5, 3) := by decide +kernel
theorem d_Rm_isWorked_9 : decode prog_8_method_19_code 9 = .ok (.iconst 1, 1) := by decide +kernel
theorem d_Rm_isWorked_10 : decode prog_8_method_19_code 10 = .ok (.ireturn, 1) := by decide +kernel
theorem d_Rm_isWorked_11 : decode prog_8_method_19_code 11 = .ok (.aload_n 0, 1) := by decide +kernel
theorem d_Rm_isWorked_12 : decode prog_8_method_19_code 12 = .ok (.iload_n 1, 1) := by decide +kernel
theorem d_Rm_isWorked_13 : decode prog_8_method_19_code 13 = .ok (.iconst 3, 1) := by decide +kernel
theorem d_Rm_isWorked_14 : decode prog_8_method_19_code 14 = .ok (.invokevirtual 127, 3) := by decide +kernel
theorem d_Rm_isWorked_17 : decode prog_8_method_19_code 17 = .ok (.ifCond .eq 16, 3) := by decide +kernel
theorem d_Rm_isWorked_20 : decode prog_8_method_19_code 20 = .ok (.aload_n 0, 1) := by decide +kernel
theorem d_Rm_isWorked_21 : decode prog_8_method_19_code 21 = .ok (.iload_n 1, 1) := by decide +kernel
theorem d_Rm_isWorked_22 : decode prog_8_method_19_code 22 = .ok (.iconst 4, 1) := by decide +kernel
theorem d_Rm_isWorked_23 : decode prog_8_method_19_code 23 = .ok (.invokevirtual 127, 3) := by decide +kernel
theorem d_Rm_isWorked_26 : decode prog_8_method_19_code 26 = .ok (.ifCond .eq 7, 3) := by decide +kernel
theorem d_Rm_isWorked_29 : decode prog_8_method_19_code 29 = .ok (.iconst 1, 1) := by decide +kernel
theorem d_Rm_isWorked_30 : decode prog_8_method_19_code 30 = .ok (.goto 4, 3) := by decide +kernel
theorem d_Rm_isWorked_33 : decode prog_8_method_19_code 33 = .ok (.iconst 0, 1) := by decide +kernel
theorem d_Rm_isWorked_34 : decode prog_8_method_19_code 34 = .ok (.istore_n 3, 1) := by decide +kernel
theorem d_Rm_isWorked_35 : decode prog_8_method_19_code 35 = .ok (.aload_n 0, 1) := by decide +kernel
theorem d_Rm_isWorked_36 : decode prog_8_method_19_code 36 = .ok (.iload_n 1, 1) := by decide +kernel
theorem d_Rm_isWorked_37 : decode prog_8_method_19_code 37 = .ok (.iconst 2, 1) := by decide +kernel
theorem d_Rm_isWorked_38 : decode prog_8_method_19_code 38 = .ok (.invokevirtual 127, 3) := by decide +kernel
theorem d_Rm_isWorked_41 : decode prog_8_method_19_code 41 = .ok (.ifCond .eq 16, 3) := by decide +kernel
theorem d_Rm_isWorked_44 : decode prog_8_method_19_code 44 = .ok (.aload_n 0, 1) := by decide +kernel
theorem d_Rm_isWorked_45 : decode prog_8_method_19_code 45 = .ok (.iload_n 1, 1) := by decide +kernel
theorem d_Rm_isWorked_46 : decode prog_8_method_19_code 46 = .ok (.iconst 5, 1) := by decide +kernel
theorem d_Rm_isWorked_47 : decode prog_8_method_19_code 47 = .ok (.invokevirtual 127, 3) := by decide +kernel
theorem d_Rm_isWorked_50 : decode prog_8_method_19_code 50 = .ok (.ifCond .ne 7, 3) := by decide +kernel
theorem d_Rm_isWorked_53 : decode prog_8_method_19_code 53 = .ok (.iconst 1, 1) := by decide +kernel
theorem d_Rm_isWorked_54 : decode prog_8_method_19_code 54 = .ok (.goto 4, 3) := by decide +kernel
theorem d_Rm_isWorked_57 : decode prog_8_method_19_code 57 = .ok (.iconst 0, 1) := by decide +kernel
theorem d_Rm_isWorked_58 : decode prog_8_method_19_code 58 = .ok (.istore 4, 2) := by decide +kernel
theorem d_Rm_isWorked_60 : decode prog_8_method_19_code 60 = .ok (.iload_n 2, 1) := by decide +kernel
theorem d_Rm_isWorked_61 : decode prog_8_method_19_code 61 = .ok (.tableswitch 122 3 6 #[31, 55, 58, 107], 31) := by decide +kernel
theorem d_Rm_isWorked_92 : decode prog_8_method_19_code 92 = .ok (.aload_n 0, 1) := by decide +kernel
theorem d_Rm_isWorked_93 : decode prog_8_method_19_code 93 = .ok (.iload_n 1, 1) := by decide +kernel
theorem d_Rm_isWorked_94 : decode prog_8_method_19_code 94 = .ok (.iconst 2, 1) := by decide +kernel
theorem d_Rm_isWorked_95 : decode prog_8_method_19_code 95 = .ok (.invokevirtual 127, 3) := by decide +kernel
theorem d_Rm_isWorked_98 : decode prog_8_method_19_code 98 = .ok (.ifCond .ne 16, 3) := by decide +kernel
theorem d_Rm_isWorked_101 : decode prog_8_method_19_code 101 = .ok (.aload_n 0, 1) := by decide +kernel
theorem d_Rm_isWorked_102 : decode prog_8_method_19_code 102 = .ok (.iload_n 1, 1) := by decide +kernel
theorem d_Rm_isWorked_103 : decode prog_8_method_19_code 103 = .ok (.iconst 4, 1) := by decide +kernel
theorem d_Rm_isWorked_104 : decode prog_8_method_19_code 104 = .ok (.invokevirtual 127, 3) := by decide +kernel
theorem d_Rm_isWorked_107 : decode prog_8_method_19_code 107 = .ok (.ifCond .ne 7, 3) := by decide +kernel
theorem d_Rm_isWorked_110 : decode prog_8_method_19_code 110 = .ok (.iconst 1, 1) := by decide +kernel
theorem d_Rm_isWorked_111 : decode prog_8_method_19_code 111 = .ok (.goto 4, 3) := by decide +kernel
theorem d_Rm_isWorked_114 : decode prog_8_method_19_code 114 = .ok (.iconst 0, 1) := by decide +kernel
theorem d_Rm_isWorked_115 : decode prog_8_method_19_code 115 = .ok (.ireturn, 1) := by decide +kernel
theorem d_Rm_isWorked_116 : decode prog_8_method_19_code 116 = .ok (.iload 4, 2) := by decide +kernel
theorem d_Rm_isWorked_118 : decode prog_8_method_19_code 118 = .ok (.ireturn, 1) := by decide +kernel
theorem d_Rm_isWorked_119 : decode prog_8_method_19_code 119 = .ok (.aload_n 0, 1) := by decide +kernel
theorem d_Rm_isWorked_120 : decode prog_8_method_19_code 120 = .ok (.iload_n 1, 1) := by decide +kernel
theorem d_Rm_isWorked_121 : decode prog_8_method_19_code 121 = .ok (.iconst 2, 1) := by decide +kernel
theorem d_Rm_isWorked_122 : decode prog_8_method_19_code 122 = .ok (.invokevirtual 127, 3) := by decide +kernel
theorem d_Rm_isWorked_125 : decode prog_8_method_19_code 125 = .ok (.ifCond .ne 41, 3) := by decide +kernel
theorem d_Rm_isWorked_128 : decode prog_8_method_19_code 128 = .ok (.aload_n 0, 1) := by decide +kernel
theorem d_Rm_isWorked_129 : decode prog_8_method_19_code 129 = .ok (.iload_n 1, 1) := by decide +kernel
theorem d_Rm_isWorked_130 : decode prog_8_method_19_code 130 = .ok (.bipush 6, 2) := by decide +kernel
theorem d_Rm_isWorked_132 : decode prog_8_method_19_code 132 = .ok (.invokevirtual 127, 3) := by decide +kernel
theorem d_Rm_isWorked_135 : decode prog_8_method_19_code 135 = .ok (.ifCond .ne 31, 3) := by decide +kernel
theorem d_Rm_isWorked_138 : decode prog_8_method_19_code 138 = .ok (.iload_n 3, 1) := by decide +kernel
theorem d_Rm_isWorked_139 : decode prog_8_method_19_code 139 = .ok (.ifCond .ne 27, 3) := by decide +kernel
theorem d_Rm_isWorked_142 : decode prog_8_method_19_code 142 = .ok (.aload_n 0, 1) := by decide +kernel
theorem d_Rm_isWorked_143 : decode prog_8_method_19_code 143 = .ok (.iload_n 1, 1) := by decide +kernel
theorem d_Rm_isWorked_144 : decode prog_8_method_19_code 144 = .ok (.bipush 7, 2) := by decide +kernel
theorem d_Rm_isWorked_146 : decode prog_8_method_19_code 146 = .ok (.invokevirtual 127, 3) := by decide +kernel
theorem d_Rm_isWorked_149 : decode prog_8_method_19_code 149 = .ok (.ifCond .eq 13, 3) := by decide +kernel
theorem d_Rm_isWorked_152 : decode prog_8_method_19_code 152 = .ok (.aload_n 0, 1) := by decide +kernel
theorem d_Rm_isWorked_153 : decode prog_8_method_19_code 153 = .ok (.iload_n 1, 1) := by decide +kernel
theorem d_Rm_isWorked_154 : decode prog_8_method_19_code 154 = .ok (.bipush 9, 2) := by decide +kernel
theorem d_Rm_isWorked_156 : decode prog_8_method_19_code 156 = .ok (.invokevirtual 127, 3) := by decide +kernel
theorem d_Rm_isWorked_159 : decode prog_8_method_19_code 159 = .ok (.ifCond .ne 7, 3) := by decide +kernel
theorem d_Rm_isWorked_162 : decode prog_8_method_19_code 162 = .ok (.iconst 1, 1) := by decide +kernel
theorem d_Rm_isWorked_163 : decode prog_8_method_19_code 163 = .ok (.goto 4, 3) := by decide +kernel
theorem d_Rm_isWorked_166 : decode prog_8_method_19_code 166 = .ok (.iconst 0, 1) := by decide +kernel
theorem d_Rm_isWorked_167 : decode prog_8_method_19_code 167 = .ok (.ireturn, 1) := by decide +kernel
theorem d_Rm_isWorked_168 : decode prog_8_method_19_code 168 = .ok (.iload 4, 2) := by decide +kernel
theorem d_Rm_isWorked_170 : decode prog_8_method_19_code 170 = .ok (.ifCond .ne 7, 3) := by decide +kernel
theorem d_Rm_isWorked_173 : decode prog_8_method_19_code 173 = .ok (.iload_n 3, 1) := by decide +kernel
theorem d_Rm_isWorked_174 : decode prog_8_method_19_code 174 = .ok (.ifCond .eq 7, 3) := by decide +kernel
theorem d_Rm_isWorked_177 : decode prog_8_method_19_code 177 = .ok (.iconst 1, 1) := by decide +kernel
theorem d_Rm_isWorked_178 : decode prog_8_method_19_code 178 = .ok (.goto 4, 3) := by decide +kernel
theorem d_Rm_isWorked_181 : decode prog_8_method_19_code 181 = .ok (.iconst 0, 1) := by decide +kernel
theorem d_Rm_isWorked_182 : decode prog_8_method_19_code 182 = .ok (.ireturn, 1) := by decide +kernel
theorem d_Rm_isWorked_183 : decode prog_8_method_19_code 183 = .ok (.iconst 0, 1) := by decide +kernel
theorem d_Rm_isWorked_184 : decode prog_8_method_19_code 184 = .ok (.ireturn, 1) := by decide +kernel
theorem d_Rm_many_i1_0 : decode prog_8_method_20_code 0 = .ok (.iconst 0, 1) := by decide +kernel
theorem d_Rm_many_i1_1 : decode prog_8_method_20_code 1 = .ok (.istore_n 2, 1) := by decide +kernel
theorem d_Rm_many_i1_2 : decode prog_8_method_20_code 2 = .ok (.iconst 2, 1) := by decide +kernel
theorem d_Rm_many_i1_3 : decode prog_8_method_20_code 3 = .ok (.istore_n 3, 1) := by decide +kernel
theorem d_Rm_many_i1_4 : decode prog_8_method_20_code 4 = .ok (.iload_n 3, 1) := by decide +kernel
theorem d_Rm_many_i1_5 : decode prog_8_method_20_code 5 = .ok (.bipush 10, 2) := by decide +kernel
theorem d_Rm_many_i1_7 : decode prog_8_method_20_code 7 = .ok (.if_icmp .ge 26, 3) := by decide +kernel
theorem d_Rm_many_i1_10 : decode prog_8_method_20_code 10 = .ok (.aload_n 0, 1) := by decide +kernel
theorem d_Rm_many_i1_11 : decode prog_8_method_20_code 11 = .ok (.iload_n 1, 1) := by decide +kernel
theorem d_Rm_many_i1_12 : decode prog_8_method_20_code 12 = .ok (.iload_n 3, 1) := by decide +kernel
theorem d_Rm_many_i1_13 : decode prog_8_method_20_code 13 = .ok (.invokevirtual 131, 3) := by decide +kernel
theorem d_Rm_many_i1_16 : decode prog_8_method_20_code 16 = .ok (.ifCond .eq 9, 3) := by decide +kernel
theorem d_Rm_many_i1_19 : decode prog_8_method_20_code 19 = .ok (.iload_n 2, 1) := by decide +kernel
theorem d_Rm_many_i1_20 : decode prog_8_method_20_code 20 = .ok (.iconst 1, 1) := by decide +kernel
theorem d_Rm_many_i1_21 : decode prog_8_method_20_code 21 = .ok (.iadd, 1) := by decide +kernel
theorem d_Rm_many_i1_22 : decode prog_8_method_20_code 22 = .ok (.goto 4, 3) := by decide +kernel
theorem d_Rm_many_i1_25 : decode prog_8_method_20_code 25 = .ok (.iload_n 2, 1) := by decide +kernel
theorem d_Rm_many_i1_26 : decode prog_8_method_20_code 26 = .ok (.istore_n 2, 1) := by decide +kernel
theorem d_Rm_many_i1_27 : decode prog_8_method_20_code 27 = .ok (.iinc 3 1, 3) := by decide +kernel
theorem d_Rm_many_i1_30 : decode prog_8_method_20_code 30 = .ok (.goto (-26), 3) := by decide +kernel
theorem d_Rm_many_i1_33 : decode prog_8_method_20_code 33 = .ok (.iload_n 2, 1) := by decide +kernel
theorem d_Rm_many_i1_34 : decode prog_8_method_20_code 34 = .ok (.ireturn, 1) := by decide +kernel
def wb_Rm_chord_120 (K120 : Nat → Int32 → MH → Prop) (Post : Int32 → MH → Prop) (l0 : Nat) (l4 : Int32) (h : MH) : Prop :=
  (((3 : Int32) ≤ l4) →
    (∃ x148 : Nat, gF h l0 6 13 = some (.inr (some x148)) ∧
      (∃ x152 : Int32, gF h l0 6 2 = some (.inl x152) ∧
        (∃ (n156 : Nat) (f156 : Nat → Int32), gA h x148 1 = some (n156, f156) ∧ vp_in x152 n156 ∧ ∀ h156 : MH, h156 = mset h x148 (.inr (1, n156, .inl (upd f156 (x152).toNatClampNeg (vp_nar .boolean (0 : Int32))))) →
          (∃ x159 : Int32, gF h156 l0 6 2 = some (.inl x159) ∧
            ((∃ o : MV, gF h156 l0 6 2 = some o) ∧ ∀ h164 : MH, h164 = fset h156 l0 2 (.inl (x159 + (1 : Int32)) : MV) →
              ((∃ o : MV, gF h164 l0 6 19 = some o) ∧ ∀ h169 : MH, h169 = fset h164 l0 19 (.inl (0 : Int32) : MV) →
                (∃ x173 : Int32, gF h169 l0 6 2 = some (.inl x173) ∧
                  (Post (x173 - (1 : Int32)) h169))))))))) ∧
  ((¬ (3 : Int32) ≤ l4) →
    (∃ x127 : Nat, gF h l0 6 11 = some (.inr (some x127)) ∧
      (∃ x132 : Int32, gF h l0 6 2 = some (.inl x132) ∧
        (∃ (n140 : Nat) (f140 : Nat → Int32), gA h x127 0 = some (n140, f140) ∧ vp_in (((3 : Int32) * x132) + l4) n140 ∧ ∀ h140 : MH, h140 = mset h x127 (.inr (0, n140, .inl (upd f140 (((3 : Int32) * x132) + l4).toNatClampNeg (-1 : Int32)))) →
          (K120 l0 (l4 + (1 : Int32)) h140)))))
def wn_Rm_chord_120 (Post : Int32 → MH → Prop) : Nat → Nat → Int32 → MH → Prop
  | 0 => fun _ _ _ => False
  | n + 1 => wb_Rm_chord_120 (wn_Rm_chord_120 Post n) Post
def wp_Rm_chord_120 (Post : Int32 → MH → Prop) (l0 : Nat) (l4 : Int32) (h : MH) : Prop := ∃ n, wn_Rm_chord_120 Post n l0 l4 h
def wb_Rm_chord_88 (K88 : Nat → Int32 → MH → Prop) (Post : Int32 → MH → Prop) (l0 : Nat) (l4 : Int32) (h : MH) : Prop :=
  (((10 : Int32) ≤ l4) →
    (wp_Rm_chord_120 Post l0 (0 : Int32) h)) ∧
  ((¬ (10 : Int32) ≤ l4) →
    (∃ x96 : Nat, gF h l0 6 6 = some (.inr (some x96)) ∧
      (∃ x102 : Int32, gF h l0 6 2 = some (.inl x102) ∧
        (∃ (n110 : Nat) (f110 : Nat → Int32), gA h x96 0 = some (n110, f110) ∧ vp_in (((10 : Int32) * x102) + l4) n110 ∧ ∀ h110 : MH, h110 = mset h x96 (.inr (0, n110, .inl (upd f110 (((10 : Int32) * x102) + l4).toNatClampNeg (0 : Int32)))) →
          (K88 l0 (l4 + (1 : Int32)) h110)))))
def wn_Rm_chord_88 (Post : Int32 → MH → Prop) : Nat → Nat → Int32 → MH → Prop
  | 0 => fun _ _ _ => False
  | n + 1 => wb_Rm_chord_88 (wn_Rm_chord_88 Post n) Post
def wp_Rm_chord_88 (Post : Int32 → MH → Prop) (l0 : Nat) (l4 : Int32) (h : MH) : Prop := ∃ n, wn_Rm_chord_88 Post n l0 l4 h
def wp_Rm_chord (Post : Int32 → MH → Prop) (l0 : Nat) (l1 : Int32) (l2 : Int32) (l3 : Int32) (h : MH) : Prop :=
  (∃ o : MV, gF h l0 6 0 = some o) ∧ ∀ h2 : MH, h2 = fset h l0 0 (.inl (0 : Int32) : MV) →
  (wp_Rm_in (fun (r11 : Int32) (h11 : MH) =>
      (((r11 = 0) →
          (Post (-1 : Int32) h11)) ∧
        ((¬ r11 = 0) →
          (wp_Rm_in (fun (r23 : Int32) (h23 : MH) =>
              (((r23 = 0) →
                  (Post (-1 : Int32) h23)) ∧
                ((¬ r23 = 0) →
                  (wp_Rm_in (fun (r35 : Int32) (h35 : MH) =>
                      (((¬ r35 = 0) →
                        (∃ x44 : Int32, gF h35 l0 6 2 = some (.inl x44) ∧
                        (((¬ x44 = (12 : Int32)) →
                        (∃ x56 : Nat, gF h35 l0 6 3 = some (.inr (some x56)) ∧
                        (∃ x60 : Int32, gF h35 l0 6 2 = some (.inl x60) ∧
                        (∃ (n64 : Nat) (f64 : Nat → Int32), gA h35 x56 0 = some (n64, f64) ∧ vp_in x60 n64 ∧ ∀ h64 : MH, h64 = mset h35 x56 (.inr (0, n64, .inl (upd f64 (x60).toNatClampNeg l1))) →
                        (∃ x66 : Nat, gF h64 l0 6 4 = some (.inr (some x66)) ∧
                        (∃ x70 : Int32, gF h64 l0 6 2 = some (.inl x70) ∧
                        (∃ (n74 : Nat) (f74 : Nat → Int32), gA h64 x66 0 = some (n74, f74) ∧ vp_in x70 n74 ∧ ∀ h74 : MH, h74 = mset h64 x66 (.inr (0, n74, .inl (upd f74 (x70).toNatClampNeg l2))) →
                        (∃ x76 : Nat, gF h74 l0 6 5 = some (.inr (some x76)) ∧
                        (∃ x80 : Int32, gF h74 l0 6 2 = some (.inl x80) ∧
                        (∃ (n84 : Nat) (f84 : Nat → Int32), gA h74 x76 0 = some (n84, f84) ∧ vp_in x80 n84 ∧ ∀ h84 : MH, h84 = mset h74 x76 (.inr (0, n84, .inl (upd f84 (x80).toNatClampNeg l3))) →
                        (wp_Rm_chord_88 Post l0 (0 : Int32) h84))))))))))) ∧
                        ((x44 = (12 : Int32)) →
                        (Post (-3 : Int32) h35))))) ∧
                        ((r35 = 0) →
                        (Post (-1 : Int32) h35)))) ((l3).toInt64) (-1 : Int64) (1 : Int64) h23)))) ((l2).toInt64) (1 : Int64) (5 : Int64) h11)))) ((l1).toInt64) (0 : Int64) (6 : Int64) h2)
set_option maxRecDepth 100000 in
set_option maxHeartbeats 4000000 in
theorem tb_Rm_chord_120 {p : Program} {l : Launch} {e : Env} {R : Room} {s : State} {m : MethodId} {args : Array Value} {below : List Frame} {meth : Method} {c : Code} (G : mG) (C0 : Cx G p s m args c prog_8_method_6_code 5 "BassRealiserModel") (hR : 1 ≤ R.frames ∧ 25 ≤ R.locals ∧ 0 ≤ R.cells ∧ 0 ≤ R.slots) (hr : meth.sig.returnType = some .int) (hlk : meth.locks = false) {Post : Int32 → MH → Prop} {K120 : Nat → Int32 → MH → Prop} (hK120 : ∀ (l0 : Nat) (l4 : Int32) (h : MH), K120 l0 l4 h → WG p l e R s m args below meth c 0 0 (MQ below (va_Qi Post (Wd G) (mA G)) args s 0 0 (mA G)) G 5 [(0, .ref (m_b G + l0)), (4, .int l4)] 120 [] h) (l0 : Nat) (l4 : Int32) (h : MH) (hwp : wb_Rm_chord_120 K120 Post l0 l4 h) : WG p l e R s m args below meth c 0 0 (MQ below (va_Qi Post (Wd G) (mA G)) args s 0 0 (mA G)) G 5 [(0, .ref (m_b G + l0)), (4, .int l4)] 120 [] h := by
  unfold wb_Rm_chord_120 at hwp
  refine x_iload C0 1 d_Rm_chord_120 rfl ?_
  refine x_iconst (v := 3) C0 d_Rm_chord_122 (by decide) ?_
  refine x_icmp_ge (tgt := 147) C0 d_Rm_chord_123 (by decide) (fun c123 => ?_) (fun c123 => ?_)
  · replace hwp := hwp.1 c123
    refine x_aload_n C0 0 d_Rm_chord_147 rfl rfl ?_
    obtain ⟨x148, e148, hwp⟩ := hwp
    refine x_getR C0 fk_Rm_44 e148 d_Rm_chord_148 ?_
    refine x_aload_n C0 0 d_Rm_chord_151 rfl rfl ?_
    obtain ⟨x152, e152, hwp⟩ := hwp
    refine x_getI C0 fk_Rm_79 e152 d_Rm_chord_152 ?_
    refine x_iconst (v := 0) C0 d_Rm_chord_155 (by decide) ?_
    obtain ⟨n156, f156, e156, i156, hwp⟩ := hwp
    refine x_zast C0 e156 i156 d_Rm_chord_156 ?_
    refine x_nh (fun h156 eh156 => ?_)
    replace hwp := hwp h156 eh156
    refine x_aload_n C0 0 d_Rm_chord_157 rfl rfl ?_
    refine x_dup C0 d_Rm_chord_158 rfl ?_
    obtain ⟨x159, e159, hwp⟩ := hwp
    refine x_getI C0 fk_Rm_79 e159 d_Rm_chord_159 ?_
    refine x_iconst (v := 1) C0 d_Rm_chord_162 (by decide) ?_
    refine x_iadd C0 d_Rm_chord_163 ?_
    obtain ⟨⟨o164, e164⟩, hwp⟩ := hwp
    refine x_put (x := (.inl (x159 + (1 : Int32)) : MV)) C0 pk_Rm_79 e164 rfl rfl d_Rm_chord_164 ?_
    refine x_nh (fun h164 eh164 => ?_)
    replace hwp := hwp h164 eh164
    refine x_aload_n C0 0 d_Rm_chord_167 rfl rfl ?_
    refine x_iconst (v := 0) C0 d_Rm_chord_168 (by decide) ?_
    obtain ⟨⟨o169, e169⟩, hwp⟩ := hwp
    refine x_put (x := (.inl (0 : Int32) : MV)) C0 pk_Rm_93 e169 rfl rfl d_Rm_chord_169 ?_
    refine x_nh (fun h169 eh169 => ?_)
    replace hwp := hwp h169 eh169
    refine x_aload_n C0 0 d_Rm_chord_172 rfl rfl ?_
    obtain ⟨x173, e173, hwp⟩ := hwp
    refine x_getI C0 fk_Rm_79 e173 d_Rm_chord_173 ?_
    refine x_iconst (v := 1) C0 d_Rm_chord_176 (by decide) ?_
    refine x_isub C0 d_Rm_chord_177 ?_
    exact x_iret C0 hr hlk hwp d_Rm_chord_178
  · replace hwp := hwp.2 c123
    refine x_aload_n C0 0 d_Rm_chord_126 rfl rfl ?_
    obtain ⟨x127, e127, hwp⟩ := hwp
    refine x_getR C0 fk_Rm_38 e127 d_Rm_chord_127 ?_
    refine x_iconst (v := 3) C0 d_Rm_chord_130 (by decide) ?_
    refine x_aload_n C0 0 d_Rm_chord_131 rfl rfl ?_
    obtain ⟨x132, e132, hwp⟩ := hwp
    refine x_getI C0 fk_Rm_79 e132 d_Rm_chord_132 ?_
    refine x_imul C0 d_Rm_chord_135 ?_
    refine x_iload C0 1 d_Rm_chord_136 rfl ?_
    refine x_iadd C0 d_Rm_chord_138 ?_
    refine x_iconst (v := -1) C0 d_Rm_chord_139 (by decide) ?_
    obtain ⟨n140, f140, e140, i140, hwp⟩ := hwp
    refine x_iast C0 e140 i140 d_Rm_chord_140 ?_
    refine x_nh (fun h140 eh140 => ?_)
    replace hwp := hwp h140 eh140
    refine x_iinc C0 1 d_Rm_chord_141 rfl rfl (by decide) (lv' := [(4, .int (l4 + (1 : Int32))), (0, .ref (m_b G + l0))]) rfl ?_
    refine x_goto (tgt := 120) C0 d_Rm_chord_144 (by decide) ?_
    exact x_sub [1, 0] rfl (hK120 _ _ _ hwp)
theorem t_Rm_chord_120 {p : Program} {l : Launch} {e : Env} {R : Room} {s : State} {m : MethodId} {args : Array Value} {below : List Frame} {meth : Method} {c : Code} (G : mG) (C0 : Cx G p s m args c prog_8_method_6_code 5 "BassRealiserModel") (hR : 1 ≤ R.frames ∧ 25 ≤ R.locals ∧ 0 ≤ R.cells ∧ 0 ≤ R.slots) (hr : meth.sig.returnType = some .int) (hlk : meth.locks = false) {Post : Int32 → MH → Prop} (l0 : Nat) (l4 : Int32) (h : MH) (hwp : wp_Rm_chord_120 Post l0 l4 h) : WG p l e R s m args below meth c 0 0 (MQ below (va_Qi Post (Wd G) (mA G)) args s 0 0 (mA G)) G 5 [(0, .ref (m_b G + l0)), (4, .int l4)] 120 [] h := by
  obtain ⟨n, hwp⟩ := hwp
  induction n generalizing l0 l4 h with
  | zero => exact False.elim hwp
  | succ n ih => exact tb_Rm_chord_120 G C0 hR hr hlk (fun l0 l4 h hwp => ih l0 l4 h hwp) l0 l4 h hwp
set_option maxRecDepth 100000 in
set_option maxHeartbeats 4000000 in
theorem tb_Rm_chord_88 {p : Program} {l : Launch} {e : Env} {R : Room} {s : State} {m : MethodId} {args : Array Value} {below : List Frame} {meth : Method} {c : Code} (G : mG) (C0 : Cx G p s m args c prog_8_method_6_code 5 "BassRealiserModel") (hR : 1 ≤ R.frames ∧ 25 ≤ R.locals ∧ 0 ≤ R.cells ∧ 0 ≤ R.slots) (hr : meth.sig.returnType = some .int) (hlk : meth.locks = false) {Post : Int32 → MH → Prop} {K88 : Nat → Int32 → MH → Prop} (hK88 : ∀ (l0 : Nat) (l4 : Int32) (h : MH), K88 l0 l4 h → WG p l e R s m args below meth c 0 0 (MQ below (va_Qi Post (Wd G) (mA G)) args s 0 0 (mA G)) G 5 [(0, .ref (m_b G + l0)), (4, .int l4)] 88 [] h) (l0 : Nat) (l4 : Int32) (h : MH) (hwp : wb_Rm_chord_88 K88 Post l0 l4 h) : WG p l e R s m args below meth c 0 0 (MQ below (va_Qi Post (Wd G) (mA G)) args s 0 0 (mA G)) G 5 [(0, .ref (m_b G + l0)), (4, .int l4)] 88 [] h := by
  unfold wb_Rm_chord_88 at hwp
  refine x_iload C0 1 d_Rm_chord_88 rfl ?_
  refine x_bipush (v := 10) C0 d_Rm_chord_90 (by decide) ?_
  refine x_icmp_ge (tgt := 117) C0 d_Rm_chord_92 (by decide) (fun c92 => ?_) (fun c92 => ?_)
  · replace hwp := hwp.1 c92
    refine x_iconst (v := 0) C0 d_Rm_chord_117 (by decide) ?_
    refine x_istore C0 d_Rm_chord_118 (by decide) (lv' := [(4, .int (0 : Int32)), (0, .ref (m_b G + l0))]) rfl ?_
    exact x_sub [1, 0] rfl (t_Rm_chord_120 G C0 hR hr hlk  _ _ _ hwp)
  · replace hwp := hwp.2 c92
    refine x_aload_n C0 0 d_Rm_chord_95 rfl rfl ?_
    obtain ⟨x96, e96, hwp⟩ := hwp
    refine x_getR C0 fk_Rm_23 e96 d_Rm_chord_96 ?_
    refine x_bipush (v := 10) C0 d_Rm_chord_99 (by decide) ?_
    refine x_aload_n C0 0 d_Rm_chord_101 rfl rfl ?_
    obtain ⟨x102, e102, hwp⟩ := hwp
    refine x_getI C0 fk_Rm_79 e102 d_Rm_chord_102 ?_
    refine x_imul C0 d_Rm_chord_105 ?_
    refine x_iload C0 1 d_Rm_chord_106 rfl ?_
    refine x_iadd C0 d_Rm_chord_108 ?_
    refine x_iconst (v := 0) C0 d_Rm_chord_109 (by decide) ?_
    obtain ⟨n110, f110, e110, i110, hwp⟩ := hwp
    refine x_iast C0 e110 i110 d_Rm_chord_110 ?_
    refine x_nh (fun h110 eh110 => ?_)
    replace hwp := hwp h110 eh110
    refine x_iinc C0 1 d_Rm_chord_111 rfl rfl (by decide) (lv' := [(4, .int (l4 + (1 : Int32))), (0, .ref (m_b G + l0))]) rfl ?_
    refine x_goto (tgt := 88) C0 d_Rm_chord_114 (by decide) ?_
    exact x_sub [1, 0] rfl (hK88 _ _ _ hwp)
theorem t_Rm_chord_88 {p : Program} {l : Launch} {e : Env} {R : Room} {s : State} {m : MethodId} {args : Array Value} {below : List Frame} {meth : Method} {c : Code} (G : mG) (C0 : Cx G p s m args c prog_8_method_6_code 5 "BassRealiserModel") (hR : 1 ≤ R.frames ∧ 25 ≤ R.locals ∧ 0 ≤ R.cells ∧ 0 ≤ R.slots) (hr : meth.sig.returnType = some .int) (hlk : meth.locks = false) {Post : Int32 → MH → Prop} (l0 : Nat) (l4 : Int32) (h : MH) (hwp : wp_Rm_chord_88 Post l0 l4 h) : WG p l e R s m args below meth c 0 0 (MQ below (va_Qi Post (Wd G) (mA G)) args s 0 0 (mA G)) G 5 [(0, .ref (m_b G + l0)), (4, .int l4)] 88 [] h := by
  obtain ⟨n, hwp⟩ := hwp
  induction n generalizing l0 l4 h with
  | zero => exact False.elim hwp
  | succ n ih => exact tb_Rm_chord_88 G C0 hR hr hlk (fun l0 l4 h hwp => ih l0 l4 h hwp) l0 l4 h hwp
set_option maxRecDepth 100000 in
set_option maxHeartbeats 4000000 in
theorem t_Rm_chord {p : Program} {l : Launch} {e : Env} {R : Room} {s : State} {m : MethodId} {args : Array Value} {below : List Frame} {meth : Method} {c : Code} (G : mG) (C0 : Cx G p s m args c prog_8_method_6_code 5 "BassRealiserModel") (hR : 1 ≤ R.frames ∧ 25 ≤ R.locals ∧ 0 ≤ R.cells ∧ 0 ≤ R.slots) (hr : meth.sig.returnType = some .int) (hlk : meth.locks = false) {Post : Int32 → MH → Prop} (l0 : Nat) (l1 : Int32) (l2 : Int32) (l3 : Int32) (h : MH) (hwp : wp_Rm_chord Post l0 l1 l2 l3 h) : WG p l e R s m args below meth c 0 0 (MQ below (va_Qi Post (Wd G) (mA G)) args s 0 0 (mA G)) G 5 [(0, .ref (m_b G + l0)), (1, .int l1), (2, .int l2), (3, .int l3)] 0 [] h := by
  unfold wp_Rm_chord at hwp
  refine x_aload_n C0 0 d_Rm_chord_0 rfl rfl ?_
  refine x_iconst (v := 0) C0 d_Rm_chord_1 (by decide) ?_
  obtain ⟨⟨o2, e2⟩, hwp⟩ := hwp
  refine x_put (x := (.inl (0 : Int32) : MV)) C0 pk_Rm_1 e2 rfl rfl d_Rm_chord_2 ?_
  refine x_nh (fun h2 eh2 => ?_)
  replace hwp := hwp h2 eh2
  refine x_iload_n C0 1 d_Rm_chord_5 rfl rfl ?_
  refine x_i2l C0 d_Rm_chord_6 ?_
  refine x_lconst (v := 0) C0 d_Rm_chord_7 (by decide) ?_
  refine x_ldc2 (v := 6) C0 kw_3_180 d_Rm_chord_8 ?_
  refine x_callSi0 (As := [.long ((l1).toInt64), .long (0 : Int64), .long (6 : Int64)]) (st := []) C0 (c_Rm_in l G hwp) kw_3_173 mk_Rm_in kw_3_174 rfl (Nat.le_of_ble_eq_true rfl) rfl rfl ⟨Nat.le_trans (by decide) hR.1, Nat.le_trans (by decide) hR.2.1⟩ ⟨Nat.zero_le _, Nat.zero_le _⟩ rfl d_Rm_chord_11 (fun r11 h11 hwp => ?_)
  refine x_if_eq (tgt := 41) C0 d_Rm_chord_14 (by decide) (fun c14 => ?_) (fun c14 => ?_)
  · replace hwp := hwp.1 c14
    refine x_iconst (v := -1) C0 d_Rm_chord_41 (by decide) ?_
    exact x_iret C0 hr hlk hwp d_Rm_chord_42
  · replace hwp := hwp.2 c14
    refine x_iload_n C0 2 d_Rm_chord_17 rfl rfl ?_
    refine x_i2l C0 d_Rm_chord_18 ?_
    refine x_lconst (v := 1) C0 d_Rm_chord_19 (by decide) ?_
    refine x_ldc2 (v := 5) C0 kw_3_181 d_Rm_chord_20 ?_
    refine x_callSi0 (As := [.long ((l2).toInt64), .long (1 : Int64), .long (5 : Int64)]) (st := []) C0 (c_Rm_in l G hwp) kw_3_173 mk_Rm_in kw_3_174 rfl (Nat.le_of_ble_eq_true rfl) rfl rfl ⟨Nat.le_trans (by decide) hR.1, Nat.le_trans (by decide) hR.2.1⟩ ⟨Nat.zero_le _, Nat.zero_le _⟩ rfl d_Rm_chord_23 (fun r23 h23 hwp => ?_)
    refine x_if_eq (tgt := 41) C0 d_Rm_chord_26 (by decide) (fun c26 => ?_) (fun c26 => ?_)
    · replace hwp := hwp.1 c26
      refine x_iconst (v := -1) C0 d_Rm_chord_41 (by decide) ?_
      exact x_iret C0 hr hlk hwp d_Rm_chord_42
    · replace hwp := hwp.2 c26
      refine x_iload_n C0 3 d_Rm_chord_29 rfl rfl ?_
      refine x_i2l C0 d_Rm_chord_30 ?_
      refine x_ldc2 (v := -1) C0 kw_3_182 d_Rm_chord_31 ?_
      refine x_lconst (v := 1) C0 d_Rm_chord_34 (by decide) ?_
      refine x_callSi0 (As := [.long ((l3).toInt64), .long (-1 : Int64), .long (1 : Int64)]) (st := []) C0 (c_Rm_in l G hwp) kw_3_173 mk_Rm_in kw_3_174 rfl (Nat.le_of_ble_eq_true rfl) rfl rfl ⟨Nat.le_trans (by decide) hR.1, Nat.le_trans (by decide) hR.2.1⟩ ⟨Nat.zero_le _, Nat.zero_le _⟩ rfl d_Rm_chord_35 (fun r35 h35 hwp => ?_)
      refine x_if_ne (tgt := 43) C0 d_Rm_chord_38 (by decide) (fun c38 => ?_) (fun c38 => ?_)
      · replace hwp := hwp.1 c38
        refine x_aload_n C0 0 d_Rm_chord_43 rfl rfl ?_
        obtain ⟨x44, e44, hwp⟩ := hwp
        refine x_getI C0 fk_Rm_79 e44 d_Rm_chord_44 ?_
        refine x_bipush (v := 12) C0 d_Rm_chord_47 (by decide) ?_
        refine x_icmp_ne (tgt := 55) C0 d_Rm_chord_49 (by decide) (fun c49 => ?_) (fun c49 => ?_)
        · replace hwp := hwp.1 c49
          refine x_aload_n C0 0 d_Rm_chord_55 rfl rfl ?_
          obtain ⟨x56, e56, hwp⟩ := hwp
          refine x_getR C0 fk_Rm_13 e56 d_Rm_chord_56 ?_
          refine x_aload_n C0 0 d_Rm_chord_59 rfl rfl ?_
          obtain ⟨x60, e60, hwp⟩ := hwp
          refine x_getI C0 fk_Rm_79 e60 d_Rm_chord_60 ?_
          refine x_iload_n C0 1 d_Rm_chord_63 rfl rfl ?_
          obtain ⟨n64, f64, e64, i64, hwp⟩ := hwp
          refine x_iast C0 e64 i64 d_Rm_chord_64 ?_
          refine x_nh (fun h64 eh64 => ?_)
          replace hwp := hwp h64 eh64
          refine x_aload_n C0 0 d_Rm_chord_65 rfl rfl ?_
          obtain ⟨x66, e66, hwp⟩ := hwp
          refine x_getR C0 fk_Rm_17 e66 d_Rm_chord_66 ?_
          refine x_aload_n C0 0 d_Rm_chord_69 rfl rfl ?_
          obtain ⟨x70, e70, hwp⟩ := hwp
          refine x_getI C0 fk_Rm_79 e70 d_Rm_chord_70 ?_
          refine x_iload_n C0 2 d_Rm_chord_73 rfl rfl ?_
          obtain ⟨n74, f74, e74, i74, hwp⟩ := hwp
          refine x_iast C0 e74 i74 d_Rm_chord_74 ?_
          refine x_nh (fun h74 eh74 => ?_)
          replace hwp := hwp h74 eh74
          refine x_aload_n C0 0 d_Rm_chord_75 rfl rfl ?_
          obtain ⟨x76, e76, hwp⟩ := hwp
          refine x_getR C0 fk_Rm_20 e76 d_Rm_chord_76 ?_
          refine x_aload_n C0 0 d_Rm_chord_79 rfl rfl ?_
          obtain ⟨x80, e80, hwp⟩ := hwp
          refine x_getI C0 fk_Rm_79 e80 d_Rm_chord_80 ?_
          refine x_iload_n C0 3 d_Rm_chord_83 rfl rfl ?_
          obtain ⟨n84, f84, e84, i84, hwp⟩ := hwp
          refine x_iast C0 e84 i84 d_Rm_chord_84 ?_
          refine x_nh (fun h84 eh84 => ?_)
          replace hwp := hwp h84 eh84
          refine x_iconst (v := 0) C0 d_Rm_chord_85 (by decide) ?_
          refine x_istore C0 d_Rm_chord_86 (by decide) (lv' := [(4, .int (0 : Int32)), (0, .ref (m_b G + l0)), (1, .int l1), (2, .int l2), (3, .int l3)]) rfl ?_
          exact x_sub [1, 0] rfl (t_Rm_chord_88 G C0 hR hr hlk  _ _ _ hwp)
        · replace hwp := hwp.2 c49
          refine x_bipush (v := -3) C0 d_Rm_chord_52 (by decide) ?_
          exact x_iret C0 hr hlk hwp d_Rm_chord_54
      · replace hwp := hwp.2 c38
        refine x_iconst (v := -1) C0 d_Rm_chord_41 (by decide) ?_
        exact x_iret C0 hr hlk hwp d_Rm_chord_42
set_option maxRecDepth 100000 in
set_option maxHeartbeats 4000000 in
theorem c_Rm_chord (l : Launch) (G : mG) {Post : Int32 → MH → Prop} {l0 : Nat} {l1 : Int32} {l2 : Int32} {l3 : Int32} {h : MH} (hwp : wp_Rm_chord Post l0 l1 l2 l3 h) : Met l y_Rm_chord (Cond.code y_Rm_chord prog_8_method_6_code 5 (Option.some Jvm.ClassFile.FieldType.int) :: lw_good) ({ frames := 1, cells := 0, slots := 0, locals := 25 }) (va_Pc [.ref (m_b G + l0), .int l1, .int l2, .int l3] (Wd G h)) (va_Qi Post (Wd G) (mA G)) 0 0 (mA G) := by
  refine Met.ofW (cc := prog_8_method_6_code) (maxL := 5) (ret := (Option.some Jvm.ClassFile.FieldType.int)) (by decide +kernel) rfl ?_
  intro p e s m args below meth c s₁ B hml hv
  obtain ⟨rfl, hP, hz, hK, hSt⟩ := hv
  have hts := atoms_spec (ws := Cond.code y_Rm_chord prog_8_method_6_code 5 (Option.some Jvm.ClassFile.FieldType.int) :: lw_good) B.pre
  have C0 : Cx G p s m ([.ref (m_b G + l0), .int l1, .int l2, .int l3] : List Value).toArray c prog_8_method_6_code 5 "BassRealiserModel" := ⟨⟨B.exec, B.bytes, hml, findClass_of_methodNamed B.named, fun w h => hts w (List.mem_cons_of_mem _ h)⟩, hK, hSt, by rw [hz]; exact Nat.le_add_right _ _⟩
  have hl := lv_entry ([.ref (m_b G + l0), .int l1, .int l2, .int l3]) (n := 5) (Nat.le_of_ble_eq_true rfl)
  rw [lg_entry_eq]
  exact t_Rm_chord G C0 ⟨Nat.le_refl _, Nat.le_refl _, Nat.le_refl _, Nat.le_refl _⟩ B.returns B.notSynchronized _ _ _ _ _ hwp _ _ _ ⟨hP, hz, va_S.rf⟩ hl
def wp_Br_less (Post : Int32 → MH → Prop) (l0 : Nat) (h : MH) : Prop :=
  ∃ x1 : Int32, gF h l0 5 4 = some (.inl x1) ∧
  (((¬ x1 = 0) →
      (∃ x12 : Int32, gF h l0 5 4 = some (.inl x12) ∧
        ((∃ o : MV, gF h l0 5 4 = some o) ∧ ∀ h17 : MH, h17 = fset h l0 4 (.inl (x12 - (1 : Int32)) : MV) →
          (∃ x21 : Nat, gF h17 l0 5 0 = some (.inr (some x21)) ∧
            (∃ x25 : Int32, gF h17 l0 5 4 = some (.inl x25) ∧
              (gC h17 x21 = some 4 ∧ wp_Se_forgetChord (fun (h28 : MH) =>
                  (∃ x32 : Int32, gF h28 l0 5 4 = some (.inl x32) ∧
                    (Post x32 h28))) x21 x25 h17)))))) ∧
    ((x1 = 0) →
      (Post (-2 : Int32) h)))
set_option maxRecDepth 100000 in
set_option maxHeartbeats 4000000 in
theorem t_Br_less {p : Program} {l : Launch} {e : Env} {R : Room} {s : State} {m : MethodId} {args : Array Value} {below : List Frame} {meth : Method} {c : Code} (G : mG) (C0 : Cx G p s m args c prog_1_method_4_code 1 "BassRealiser") (hR : 1 ≤ R.frames ∧ 21 ≤ R.locals ∧ 0 ≤ R.cells ∧ 0 ≤ R.slots) (hr : meth.sig.returnType = some .int) (hlk : meth.locks = false) {Post : Int32 → MH → Prop} (l0 : Nat) (h : MH) (hwp : wp_Br_less Post l0 h) : WG p l e R s m args below meth c 0 0 (MQ below (va_Qi Post (Wd G) (mA G)) args s 0 0 (mA G)) G 1 [(0, .ref (m_b G + l0))] 0 [] h := by
  unfold wp_Br_less at hwp
  refine x_aload_n C0 0 d_Br_less_0 rfl rfl ?_
  obtain ⟨x1, e1, hwp⟩ := hwp
  refine x_getI C0 fk_Br_33 e1 d_Br_less_1 ?_
  refine x_if_ne (tgt := 10) C0 d_Br_less_4 (by decide) (fun c4 => ?_) (fun c4 => ?_)
  · replace hwp := hwp.1 c4
    refine x_aload_n C0 0 d_Br_less_10 rfl rfl ?_
    refine x_dup C0 d_Br_less_11 rfl ?_
    obtain ⟨x12, e12, hwp⟩ := hwp
    refine x_getI C0 fk_Br_33 e12 d_Br_less_12 ?_
    refine x_iconst (v := 1) C0 d_Br_less_15 (by decide) ?_
    refine x_isub C0 d_Br_less_16 ?_
    obtain ⟨⟨o17, e17⟩, hwp⟩ := hwp
    refine x_put (x := (.inl (x12 - (1 : Int32)) : MV)) C0 pk_Br_33 e17 rfl rfl d_Br_less_17 ?_
    refine x_nh (fun h17 eh17 => ?_)
    replace hwp := hwp h17 eh17
    refine x_aload_n C0 0 d_Br_less_20 rfl rfl ?_
    obtain ⟨x21, e21, hwp⟩ := hwp
    refine x_getR C0 fk_Br_10 e21 d_Br_less_21 ?_
    refine x_aload_n C0 0 d_Br_less_24 rfl rfl ?_
    obtain ⟨x25, e25, hwp⟩ := hwp
    refine x_getI C0 fk_Br_33 e25 d_Br_less_25 ?_
    obtain ⟨g28, hwp⟩ := hwp
    refine x_callVv0 (k := x21) (As := [.int x25]) (st := []) C0 (c_Se_forgetChord l G hwp) kw_2_52 mk_Se_forgetChord vk_Se_forgetChord rfl g28 rfl (Nat.le_of_ble_eq_true rfl) rfl rfl ⟨Nat.le_trans (by decide) hR.1, Nat.le_trans (by decide) hR.2.1⟩ ⟨Nat.zero_le _, Nat.zero_le _⟩ rfl d_Br_less_28 (fun h28 hwp => ?_)
    refine x_aload_n C0 0 d_Br_less_31 rfl rfl ?_
    obtain ⟨x32, e32, hwp⟩ := hwp
    refine x_getI C0 fk_Br_33 e32 d_Br_less_32 ?_
    exact x_iret C0 hr hlk hwp d_Br_less_35
  · replace hwp := hwp.2 c4
    refine x_bipush (v := -2) C0 d_Br_less_7 (by decide) ?_
    exact x_iret C0 hr hlk hwp d_Br_less_9
set_option maxRecDepth 100000 in
set_option maxHeartbeats 4000000 in
theorem c_Br_less (l : Launch) (G : mG) {Post : Int32 → MH → Prop} {l0 : Nat} {h : MH} (hwp : wp_Br_less Post l0 h) : Met l y_Br_less (Cond.code y_Br_less prog_1_method_4_code 1 (Option.some Jvm.ClassFile.FieldType.int) :: lw_good) ({ frames := 1, cells := 0, slots := 0, locals := 21 }) (va_Pc [.ref (m_b G + l0)] (Wd G h)) (va_Qi Post (Wd G) (mA G)) 0 0 (mA G) := by
  refine Met.ofW (cc := prog_1_method_4_code) (maxL := 1) (ret := (Option.some Jvm.ClassFile.FieldType.int)) (by decide +kernel) rfl ?_
  intro p e s m args below meth c s₁ B hml hv
  obtain ⟨rfl, hP, hz, hK, hSt⟩ := hv
  have hts := atoms_spec (ws := Cond.code y_Br_less prog_1_method_4_code 1 (Option.some Jvm.ClassFile.FieldType.int) :: lw_good) B.pre
  have C0 : Cx G p s m ([.ref (m_b G + l0)] : List Value).toArray c prog_1_method_4_code 1 "BassRealiser" := ⟨⟨B.exec, B.bytes, hml, findClass_of_methodNamed B.named, fun w h => hts w (List.mem_cons_of_mem _ h)⟩, hK, hSt, by rw [hz]; exact Nat.le_add_right _ _⟩
  have hl := lv_entry ([.ref (m_b G + l0)]) (n := 1) (Nat.le_of_ble_eq_true rfl)
  rw [lg_entry_eq]
  exact t_Br_less G C0 ⟨Nat.le_refl _, Nat.le_refl _, Nat.le_refl _, Nat.le_refl _⟩ B.returns B.notSynchronized _ _ hwp _ _ _ ⟨hP, hz, va_S.rf⟩ hl
def wp_Rm_less (Post : Int32 → MH → Prop) (l0 : Nat) (h : MH) : Prop :=
  (∃ o : MV, gF h l0 6 0 = some o) ∧ ∀ h2 : MH, h2 = fset h l0 0 (.inl (0 : Int32) : MV) →
  (∃ x6 : Int32, gF h2 l0 6 2 = some (.inl x6) ∧
    (((¬ x6 = 0) →
        (∃ x17 : Int32, gF h2 l0 6 2 = some (.inl x17) ∧
          ((∃ o : MV, gF h2 l0 6 2 = some o) ∧ ∀ h22 : MH, h22 = fset h2 l0 2 (.inl (x17 - (1 : Int32)) : MV) →
            ((∃ o : MV, gF h22 l0 6 19 = some o) ∧ ∀ h27 : MH, h27 = fset h22 l0 19 (.inl (0 : Int32) : MV) →
              (∃ x31 : Int32, gF h27 l0 6 2 = some (.inl x31) ∧
                (Post x31 h27)))))) ∧
      ((x6 = 0) →
        (Post (-2 : Int32) h2))))
set_option maxRecDepth 100000 in
set_option maxHeartbeats 4000000 in
theorem t_Rm_less {p : Program} {l : Launch} {e : Env} {R : Room} {s : State} {m : MethodId} {args : Array Value} {below : List Frame} {meth : Method} {c : Code} (G : mG) (C0 : Cx G p s m args c prog_8_method_7_code 1 "BassRealiserModel") (hR : 0 ≤ R.frames ∧ 0 ≤ R.locals ∧ 0 ≤ R.cells ∧ 0 ≤ R.slots) (hr : meth.sig.returnType = some .int) (hlk : meth.locks = false) {Post : Int32 → MH → Prop} (l0 : Nat) (h : MH) (hwp : wp_Rm_less Post l0 h) : WG p l e R s m args below meth c 0 0 (MQ below (va_Qi Post (Wd G) (mA G)) args s 0 0 (mA G)) G 1 [(0, .ref (m_b G + l0))] 0 [] h := by
  unfold wp_Rm_less at hwp
  refine x_aload_n C0 0 d_Rm_less_0 rfl rfl ?_
  refine x_iconst (v := 0) C0 d_Rm_less_1 (by decide) ?_
  obtain ⟨⟨o2, e2⟩, hwp⟩ := hwp
  refine x_put (x := (.inl (0 : Int32) : MV)) C0 pk_Rm_1 e2 rfl rfl d_Rm_less_2 ?_
  refine x_nh (fun h2 eh2 => ?_)
  replace hwp := hwp h2 eh2
  refine x_aload_n C0 0 d_Rm_less_5 rfl rfl ?_
  obtain ⟨x6, e6, hwp⟩ := hwp
  refine x_getI C0 fk_Rm_79 e6 d_Rm_less_6 ?_
  refine x_if_ne (tgt := 15) C0 d_Rm_less_9 (by decide) (fun c9 => ?_) (fun c9 => ?_)
  · replace hwp := hwp.1 c9
    refine x_aload_n C0 0 d_Rm_less_15 rfl rfl ?_
    refine x_dup C0 d_Rm_less_16 rfl ?_
    obtain ⟨x17, e17, hwp⟩ := hwp
    refine x_getI C0 fk_Rm_79 e17 d_Rm_less_17 ?_
    refine x_iconst (v := 1) C0 d_Rm_less_20 (by decide) ?_
    refine x_isub C0 d_Rm_less_21 ?_
    obtain ⟨⟨o22, e22⟩, hwp⟩ := hwp
    refine x_put (x := (.inl (x17 - (1 : Int32)) : MV)) C0 pk_Rm_79 e22 rfl rfl d_Rm_less_22 ?_
    refine x_nh (fun h22 eh22 => ?_)
    replace hwp := hwp h22 eh22
    refine x_aload_n C0 0 d_Rm_less_25 rfl rfl ?_
    refine x_iconst (v := 0) C0 d_Rm_less_26 (by decide) ?_
    obtain ⟨⟨o27, e27⟩, hwp⟩ := hwp
    refine x_put (x := (.inl (0 : Int32) : MV)) C0 pk_Rm_93 e27 rfl rfl d_Rm_less_27 ?_
    refine x_nh (fun h27 eh27 => ?_)
    replace hwp := hwp h27 eh27
    refine x_aload_n C0 0 d_Rm_less_30 rfl rfl ?_
    obtain ⟨x31, e31, hwp⟩ := hwp
    refine x_getI C0 fk_Rm_79 e31 d_Rm_less_31 ?_
    exact x_iret C0 hr hlk hwp d_Rm_less_34
  · replace hwp := hwp.2 c9
    refine x_bipush (v := -2) C0 d_Rm_less_12 (by decide) ?_
    exact x_iret C0 hr hlk hwp d_Rm_less_14
set_option maxRecDepth 100000 in
set_option maxHeartbeats 4000000 in
theorem c_Rm_less (l : Launch) (G : mG) {Post : Int32 → MH → Prop} {l0 : Nat} {h : MH} (hwp : wp_Rm_less Post l0 h) : Met l y_Rm_less (Cond.code y_Rm_less prog_8_method_7_code 1 (Option.some Jvm.ClassFile.FieldType.int) :: lw_good) ({ frames := 0, cells := 0, slots := 0, locals := 0 }) (va_Pc [.ref (m_b G + l0)] (Wd G h)) (va_Qi Post (Wd G) (mA G)) 0 0 (mA G) := by
  refine Met.ofW (cc := prog_8_method_7_code) (maxL := 1) (ret := (Option.some Jvm.ClassFile.FieldType.int)) (by decide +kernel) rfl ?_
  intro p e s m args below meth c s₁ B hml hv
  obtain ⟨rfl, hP, hz, hK, hSt⟩ := hv
  have hts := atoms_spec (ws := Cond.code y_Rm_less prog_8_method_7_code 1 (Option.some Jvm.ClassFile.FieldType.int) :: lw_good) B.pre
  have C0 : Cx G p s m ([.ref (m_b G + l0)] : List Value).toArray c prog_8_method_7_code 1 "BassRealiserModel" := ⟨⟨B.exec, B.bytes, hml, findClass_of_methodNamed B.named, fun w h => hts w (List.mem_cons_of_mem _ h)⟩, hK, hSt, by rw [hz]; exact Nat.le_add_right _ _⟩
  have hl := lv_entry ([.ref (m_b G + l0)]) (n := 1) (Nat.le_of_ble_eq_true rfl)
  rw [lg_entry_eq]
  exact t_Rm_less G C0 ⟨Nat.le_refl _, Nat.le_refl _, Nat.le_refl _, Nat.le_refl _⟩ B.returns B.notSynchronized _ _ hwp _ _ _ ⟨hP, hz, va_S.rf⟩ hl
def wp_Br_hasChord (Post : Int32 → MH → Prop) (l0 : Nat) (l1 : Int32) (h : MH) : Prop :=
  ((l1 < 0) →
    (Post (0 : Int32) h)) ∧
  ((¬ l1 < 0) →
    (∃ x6 : Int32, gF h l0 5 4 = some (.inl x6) ∧
      (((x6 ≤ l1) →
          (Post (0 : Int32) h)) ∧
        ((¬ x6 ≤ l1) →
          (Post (1 : Int32) h)))))
set_option maxRecDepth 100000 in
set_option maxHeartbeats 4000000 in
theorem t_Br_hasChord {p : Program} {l : Launch} {e : Env} {R : Room} {s : State} {m : MethodId} {args : Array Value} {below : List Frame} {meth : Method} {c : Code} (G : mG) (C0 : Cx G p s m args c prog_1_method_27_code 2 "BassRealiser") (hR : 0 ≤ R.frames ∧ 0 ≤ R.locals ∧ 0 ≤ R.cells ∧ 0 ≤ R.slots) (hr : meth.sig.returnType = some .boolean) (hlk : meth.locks = false) {Post : Int32 → MH → Prop} (l0 : Nat) (l1 : Int32) (h : MH) (hwp : wp_Br_hasChord Post l0 l1 h) : WG p l e R s m args below meth c 0 0 (MQ below (va_Qi Post (Wd G) (mA G)) args s 0 0 (mA G)) G 2 [(0, .ref (m_b G + l0)), (1, .int l1)] 0 [] h := by
  unfold wp_Br_hasChord at hwp
  refine x_iload_n C0 1 d_Br_hasChord_0 rfl rfl ?_
  refine x_if_lt (tgt := 16) C0 d_Br_hasChord_1 (by decide) (fun c1 => ?_) (fun c1 => ?_)
  · replace hwp := hwp.1 c1
    refine x_iconst (v := 0) C0 d_Br_hasChord_16 (by decide) ?_
    exact x_zret C0 hr rfl hlk hwp d_Br_hasChord_17
  · replace hwp := hwp.2 c1
    refine x_iload_n C0 1 d_Br_hasChord_4 rfl rfl ?_
    refine x_aload_n C0 0 d_Br_hasChord_5 rfl rfl ?_
    obtain ⟨x6, e6, hwp⟩ := hwp
    refine x_getI C0 fk_Br_33 e6 d_Br_hasChord_6 ?_
    refine x_icmp_ge (tgt := 16) C0 d_Br_hasChord_9 (by decide) (fun c9 => ?_) (fun c9 => ?_)
    · replace hwp := hwp.1 c9
      refine x_iconst (v := 0) C0 d_Br_hasChord_16 (by decide) ?_
      exact x_zret C0 hr rfl hlk hwp d_Br_hasChord_17
    · replace hwp := hwp.2 c9
      refine x_iconst (v := 1) C0 d_Br_hasChord_12 (by decide) ?_
      refine x_goto (tgt := 17) C0 d_Br_hasChord_13 (by decide) ?_
      exact x_zret C0 hr rfl hlk hwp d_Br_hasChord_17
set_option maxRecDepth 100000 in
set_option maxHeartbeats 4000000 in
theorem c_Br_hasChord (l : Launch) (G : mG) {Post : Int32 → MH → Prop} {l0 : Nat} {l1 : Int32} {h : MH} (hwp : wp_Br_hasChord Post l0 l1 h) : Met l y_Br_hasChord (Cond.code y_Br_hasChord prog_1_method_27_code 2 (Option.some Jvm.ClassFile.FieldType.boolean) :: lw_good) ({ frames := 0, cells := 0, slots := 0, locals := 0 }) (va_Pc [.ref (m_b G + l0), .int l1] (Wd G h)) (va_Qi Post (Wd G) (mA G)) 0 0 (mA G) := by
  refine Met.ofW (cc := prog_1_method_27_code) (maxL := 2) (ret := (Option.some Jvm.ClassFile.FieldType.boolean)) (by decide +kernel) rfl ?_
  intro p e s m args below meth c s₁ B hml hv
  obtain ⟨rfl, hP, hz, hK, hSt⟩ := hv
  have hts := atoms_spec (ws := Cond.code y_Br_hasChord prog_1_method_27_code 2 (Option.some Jvm.ClassFile.FieldType.boolean) :: lw_good) B.pre
  have C0 : Cx G p s m ([.ref (m_b G + l0), .int l1] : List Value).toArray c prog_1_method_27_code 2 "BassRealiser" := ⟨⟨B.exec, B.bytes, hml, findClass_of_methodNamed B.named, fun w h => hts w (List.mem_cons_of_mem _ h)⟩, hK, hSt, by rw [hz]; exact Nat.le_add_right _ _⟩
  have hl := lv_entry ([.ref (m_b G + l0), .int l1]) (n := 2) (Nat.le_of_ble_eq_true rfl)
  rw [lg_entry_eq]
  exact t_Br_hasChord G C0 ⟨Nat.le_refl _, Nat.le_refl _, Nat.le_refl _, Nat.le_refl _⟩ B.returns B.notSynchronized _ _ _ hwp _ _ _ ⟨hP, hz, va_S.rf⟩ hl
def wp_In_bitCount (Post : Int32 → MH → Prop) (l0 : Int32) (h : MH) : Prop :=
  ∀ z9 : Int32, z9 = l0 - ((((l0).toUInt32 >>> (((1 : Int32)).toUInt32 &&& Int32.toUInt32 31)).toInt32) &&& (1431655765 : Int32)) →
  (∀ z23 : Int32, z23 = (z9 &&& (858993459 : Int32)) + ((((z9).toUInt32 >>> (((2 : Int32)).toUInt32 &&& Int32.toUInt32 31)).toInt32) &&& (858993459 : Int32)) →
    (∀ z33 : Int32, z33 = (z23 + (((z23).toUInt32 >>> (((4 : Int32)).toUInt32 &&& Int32.toUInt32 31)).toInt32)) &&& (252645135 : Int32) →
      (∀ z40 : Int32, z40 = z33 + (((z33).toUInt32 >>> (((8 : Int32)).toUInt32 &&& Int32.toUInt32 31)).toInt32) →
        (∀ z47 : Int32, z47 = z40 + (((z40).toUInt32 >>> (((16 : Int32)).toUInt32 &&& Int32.toUInt32 31)).toInt32) →
          (Post (z47 &&& (63 : Int32)) h)))))
set_option maxRecDepth 100000 in
set_option maxHeartbeats 4000000 in
theorem t_In_bitCount {p : Program} {l : Launch} {e : Env} {R : Room} {s : State} {m : MethodId} {args : Array Value} {below : List Frame} {meth : Method} {c : Code} (G : mG) (C0 : Cx G p s m args c prog_9_method_49_code 1 "java/lang/Integer") (hR : 0 ≤ R.frames ∧ 0 ≤ R.locals ∧ 0 ≤ R.cells ∧ 0 ≤ R.slots) (hr : meth.sig.returnType = some .int) (hlk : meth.locks = false) {Post : Int32 → MH → Prop} (l0 : Int32) (h : MH) (hwp : wp_In_bitCount Post l0 h) : WG p l e R s m args below meth c 0 0 (MQ below (va_Qi Post (Wd G) (mA G)) args s 0 0 (mA G)) G 1 [(0, .int l0)] 0 [] h := by
  unfold wp_In_bitCount at hwp
  refine x_iload_n C0 0 d_In_bitCount_0 rfl rfl ?_
  refine x_iload_n C0 0 d_In_bitCount_1 rfl rfl ?_
  refine x_iconst (v := 1) C0 d_In_bitCount_2 (by decide) ?_
  refine x_iushr C0 d_In_bitCount_3 ?_
  refine x_ldcw (v := 1431655765) C0 kw_2_72 d_In_bitCount_4 ?_
  refine x_iand C0 d_In_bitCount_7 ?_
  refine x_isub C0 d_In_bitCount_8 ?_
  refine x_topI (fun z9 e9 => ?_)
  replace hwp := hwp z9 e9
  refine x_istore_n C0 d_In_bitCount_9 rfl (by decide) (lv' := [(0, .int z9)]) rfl ?_
  refine x_iload_n C0 0 d_In_bitCount_10 rfl rfl ?_
  refine x_ldcw (v := 858993459) C0 kw_2_73 d_In_bitCount_11 ?_
  refine x_iand C0 d_In_bitCount_14 ?_
  refine x_iload_n C0 0 d_In_bitCount_15 rfl rfl ?_
  refine x_iconst (v := 2) C0 d_In_bitCount_16 (by decide) ?_
  refine x_iushr C0 d_In_bitCount_17 ?_
  refine x_ldcw (v := 858993459) C0 kw_2_73 d_In_bitCount_18 ?_
  refine x_iand C0 d_In_bitCount_21 ?_
  refine x_iadd C0 d_In_bitCount_22 ?_
  refine x_topI (fun z23 e23 => ?_)
  replace hwp := hwp z23 e23
  refine x_istore_n C0 d_In_bitCount_23 rfl (by decide) (lv' := [(0, .int z23)]) rfl ?_
  refine x_iload_n C0 0 d_In_bitCount_24 rfl rfl ?_
  refine x_iload_n C0 0 d_In_bitCount_25 rfl rfl ?_
  refine x_iconst (v := 4) C0 d_In_bitCount_26 (by decide) ?_
  refine x_iushr C0 d_In_bitCount_27 ?_
  refine x_iadd C0 d_In_bitCount_28 ?_
  refine x_ldcw (v := 252645135) C0 kw_2_74 d_In_bitCount_29 ?_
  refine x_iand C0 d_In_bitCount_32 ?_
  refine x_topI (fun z33 e33 => ?_)
  replace hwp := hwp z33 e33
  refine x_istore_n C0 d_In_bitCount_33 rfl (by decide) (lv' := [(0, .int z33)]) rfl ?_
  refine x_iload_n C0 0 d_In_bitCount_34 rfl rfl ?_
  refine x_iload_n C0 0 d_In_bitCount_35 rfl rfl ?_
  refine x_bipush (v := 8) C0 d_In_bitCount_36 (by decide) ?_
  refine x_iushr C0 d_In_bitCount_38 ?_
  refine x_iadd C0 d_In_bitCount_39 ?_
  refine x_topI (fun z40 e40 => ?_)
  replace hwp := hwp z40 e40
  refine x_istore_n C0 d_In_bitCount_40 rfl (by decide) (lv' := [(0, .int z40)]) rfl ?_
  refine x_iload_n C0 0 d_In_bitCount_41 rfl rfl ?_
  refine x_iload_n C0 0 d_In_bitCount_42 rfl rfl ?_
  refine x_bipush (v := 16) C0 d_In_bitCount_43 (by decide) ?_
  refine x_iushr C0 d_In_bitCount_45 ?_
  refine x_iadd C0 d_In_bitCount_46 ?_
  refine x_topI (fun z47 e47 => ?_)
  replace hwp := hwp z47 e47
  refine x_istore_n C0 d_In_bitCount_47 rfl (by decide) (lv' := [(0, .int z47)]) rfl ?_
  refine x_iload_n C0 0 d_In_bitCount_48 rfl rfl ?_
  refine x_bipush (v := 63) C0 d_In_bitCount_49 (by decide) ?_
  refine x_iand C0 d_In_bitCount_51 ?_
  exact x_iret C0 hr hlk hwp d_In_bitCount_52
set_option maxRecDepth 100000 in
set_option maxHeartbeats 4000000 in
theorem c_In_bitCount (l : Launch) (G : mG) {Post : Int32 → MH → Prop} {l0 : Int32} {h : MH} (hwp : wp_In_bitCount Post l0 h) : Met l y_In_bitCount (Cond.code y_In_bitCount prog_9_method_49_code 1 (Option.some Jvm.ClassFile.FieldType.int) :: lw_good) ({ frames := 0, cells := 0, slots := 0, locals := 0 }) (va_Pc [.int l0] (Wd G h)) (va_Qi Post (Wd G) (mA G)) 0 0 (mA G) := by
  refine va_MetF (cc := prog_9_method_49_code) (maxL := 1) (ret := (Option.some Jvm.ClassFile.FieldType.int)) (by decide +kernel) rfl ?_
  intro p e s m args below meth c s₁ B hml hv
  obtain ⟨rfl, hP, hz, hK, hSt⟩ := hv
  have hts := atoms_spec (ws := Cond.code y_In_bitCount prog_9_method_49_code 1 (Option.some Jvm.ClassFile.FieldType.int) :: lw_good) B.pre
  have C0 : Cx G p s m ([.int l0] : List Value).toArray c prog_9_method_49_code 1 "java/lang/Integer" := ⟨⟨B.exec, B.bytes, hml, findClass_of_methodNamed B.named, fun w h => hts w (List.mem_cons_of_mem _ h)⟩, hK, hSt, by rw [hz]; exact Nat.le_add_right _ _⟩
  have hl := lv_entry ([.int l0]) (n := 1) (Nat.le_of_ble_eq_true rfl)
  rw [lg_entry_eq]
  exact t_In_bitCount G C0 ⟨Nat.le_refl _, Nat.le_refl _, Nat.le_refl _, Nat.le_refl _⟩ B.returns B.notSynchronized _ _ hwp _ _ _ ⟨hP, hz, va_S.rf⟩ hl
def wp_Ch_tell (Post : MH → Prop) (l0 : Nat) (l1 : Int32) (l2 : Int32) (h : MH) : Prop :=
  ∃ x2 : Int32, gF h l0 0 2 = some (.inl x2) ∧
  ((∃ o : MV, gF h l0 0 2 = some o) ∧ ∀ h9 : MH, h9 = fset h l0 2 (.inl (x2 ||| ((1 : Int32) <<< (l1 &&& 31))) : MV) →
    (∃ x13 : Nat, gF h9 l0 0 4 = some (.inr (some x13)) ∧
      (∃ (n18 : Nat) (f18 : Nat → Int32), gA h9 x13 0 = some (n18, f18) ∧ vp_in l1 n18 ∧ ∀ h18 : MH, h18 = mset h9 x13 (.inr (0, n18, .inl (upd f18 (l1).toNatClampNeg l2))) →
        (Post h18))))
set_option maxRecDepth 100000 in
set_option maxHeartbeats 4000000 in
theorem t_Ch_tell {p : Program} {l : Launch} {e : Env} {R : Room} {s : State} {m : MethodId} {args : Array Value} {below : List Frame} {meth : Method} {c : Code} (G : mG) (C0 : Cx G p s m args c prog_2_method_3_code 3 "BassRealiser$Chord") (hR : 0 ≤ R.frames ∧ 0 ≤ R.locals ∧ 0 ≤ R.cells ∧ 0 ≤ R.slots) (hr : meth.sig.returnType = none) (hlk : meth.locks = false) {Post : MH → Prop} (l0 : Nat) (l1 : Int32) (l2 : Int32) (h : MH) (hwp : wp_Ch_tell Post l0 l1 l2 h) : WG p l e R s m args below meth c 0 0 (MQ below (va_Qv Post (Wd G) (mA G)) args s 0 0 (mA G)) G 3 [(0, .ref (m_b G + l0)), (1, .int l1), (2, .int l2)] 0 [] h := by
  unfold wp_Ch_tell at hwp
  refine x_aload_n C0 0 d_Ch_tell_0 rfl rfl ?_
  refine x_dup C0 d_Ch_tell_1 rfl ?_
  obtain ⟨x2, e2, hwp⟩ := hwp
  refine x_getI C0 fk_Ch_34 e2 d_Ch_tell_2 ?_
  refine x_iconst (v := 1) C0 d_Ch_tell_5 (by decide) ?_
  refine x_iload_n C0 1 d_Ch_tell_6 rfl rfl ?_
  refine x_ishl C0 d_Ch_tell_7 ?_
  refine x_ior C0 d_Ch_tell_8 ?_
  obtain ⟨⟨o9, e9⟩, hwp⟩ := hwp
  refine x_put (x := (.inl (x2 ||| ((1 : Int32) <<< (l1 &&& 31))) : MV)) C0 pk_Ch_34 e9 rfl rfl d_Ch_tell_9 ?_
  refine x_nh (fun h9 eh9 => ?_)
  replace hwp := hwp h9 eh9
  refine x_aload_n C0 0 d_Ch_tell_12 rfl rfl ?_
  obtain ⟨x13, e13, hwp⟩ := hwp
  refine x_getR C0 fk_Ch_9 e13 d_Ch_tell_13 ?_
  refine x_iload_n C0 1 d_Ch_tell_16 rfl rfl ?_
  refine x_iload_n C0 2 d_Ch_tell_17 rfl rfl ?_
  obtain ⟨n18, f18, e18, i18, hwp⟩ := hwp
  refine x_iast C0 e18 i18 d_Ch_tell_18 ?_
  refine x_nh (fun h18 eh18 => ?_)
  replace hwp := hwp h18 eh18
  exact x_vret C0 hr hlk hwp d_Ch_tell_19
set_option maxRecDepth 100000 in
set_option maxHeartbeats 4000000 in
theorem c_Ch_tell (l : Launch) (G : mG) {Post : MH → Prop} {l0 : Nat} {l1 : Int32} {l2 : Int32} {h : MH} (hwp : wp_Ch_tell Post l0 l1 l2 h) : Met l y_Ch_tell (Cond.code y_Ch_tell prog_2_method_3_code 3 (Option.none : Option Jvm.ClassFile.FieldType) :: lw_good) ({ frames := 0, cells := 0, slots := 0, locals := 0 }) (va_Pc [.ref (m_b G + l0), .int l1, .int l2] (Wd G h)) (va_Qv Post (Wd G) (mA G)) 0 0 (mA G) := by
  refine Met.ofW (cc := prog_2_method_3_code) (maxL := 3) (ret := (Option.none : Option Jvm.ClassFile.FieldType)) (by decide +kernel) rfl ?_
  intro p e s m args below meth c s₁ B hml hv
  obtain ⟨rfl, hP, hz, hK, hSt⟩ := hv
  have hts := atoms_spec (ws := Cond.code y_Ch_tell prog_2_method_3_code 3 (Option.none : Option Jvm.ClassFile.FieldType) :: lw_good) B.pre
  have C0 : Cx G p s m ([.ref (m_b G + l0), .int l1, .int l2] : List Value).toArray c prog_2_method_3_code 3 "BassRealiser$Chord" := ⟨⟨B.exec, B.bytes, hml, findClass_of_methodNamed B.named, fun w h => hts w (List.mem_cons_of_mem _ h)⟩, hK, hSt, by rw [hz]; exact Nat.le_add_right _ _⟩
  have hl := lv_entry ([.ref (m_b G + l0), .int l1, .int l2]) (n := 3) (Nat.le_of_ble_eq_true rfl)
  rw [lg_entry_eq]
  exact t_Ch_tell G C0 ⟨Nat.le_refl _, Nat.le_refl _, Nat.le_refl _, Nat.le_refl _⟩ B.returns B.notSynchronized _ _ _ _ hwp _ _ _ ⟨hP, hz, va_S.rf⟩ hl
def wp_Br_figure (Post : Int32 → MH → Prop) (l0 : Nat) (l1 : Int32) (l2 : Int32) (l3 : Int32) (h : MH) : Prop :=
  gC h l0 = some 5 ∧ wp_Br_hasChord (fun (r2 : Int32) (h2 : MH) =>
    (((r2 = 0) →
        (Post (-1 : Int32) h2)) ∧
      ((¬ r2 = 0) →
        (wp_Br_within (fun (r12 : Int32) (h12 : MH) =>
            (((r12 = 0) →
                (Post (-1 : Int32) h12)) ∧
              ((¬ r12 = 0) →
                (wp_Br_within (fun (r21 : Int32) (h21 : MH) =>
                    (((¬ r21 = 0) →
                        (∃ x30 : Nat, gF h21 l0 5 1 = some (.inr (some x30)) ∧
                        (∃ (n34 : Nat) (f34 : Nat → Option Nat) (q34 : Nat), gR h21 x30 3 = some (n34, f34) ∧ vp_in l1 n34 ∧ f34 (l1).toNatClampNeg = some q34 ∧
                        (∃ x39 : Int32, gF h21 q34 0 2 = some (.inl x39) ∧
                        (wp_Ch_complete (fun (r46 : Int32) (h46 : MH) =>
                        (wp_In_bitCount (fun (r49 : Int32) (h49 : MH) =>
                        (((r49 ≤ (3 : Int32)) →
                        (gC h49 q34 = some 0 ∧ wp_Ch_tell (fun (h63 : MH) =>
                        (∃ x69 : Nat, gF h63 l0 5 2 = some (.inr (some x69)) ∧
                        (∃ x72 : Int32, gF h63 x69 3 4 = some (.inl x72) ∧
                        (gC h63 q34 = some 0 ∧ wp_Ch_tune (fun (h75 : MH) =>
                        (∃ x79 : Nat, gF h75 l0 5 0 = some (.inr (some x79)) ∧
                        (gC h75 x79 = some 4 ∧ wp_Se_forgetChord (fun (h83 : MH) =>
                        (∃ x88 : Int32, gF h83 q34 0 3 = some (.inl x88) ∧
                        (wp_In_bitCount (fun (r91 : Int32) (h91 : MH) =>
                        (Post r91 h91)) x88 h83))) x79 l1 h75))) q34 x72 h63)))) q34 l2 l3 h49)) ∧
                        ((¬ r49 ≤ (3 : Int32)) →
                        (Post (-3 : Int32) h49)))) r46 h46)) (x39 ||| ((1 : Int32) <<< (l2 &&& 31))) h21))))) ∧
                      ((r21 = 0) →
                        (Post (-1 : Int32) h21)))) l3 (0 : Int32) (3 : Int32) h12)))) l2 (2 : Int32) (9 : Int32) h2)))) l0 l1 h
set_option maxRecDepth 100000 in
set_option maxHeartbeats 4000000 in
theorem t_Br_figure {p : Program} {l : Launch} {e : Env} {R : Room} {s : State} {m : MethodId} {args : Array Value} {below : List Frame} {meth : Method} {c : Code} (G : mG) (C0 : Cx G p s m args c prog_1_method_5_code 5 "BassRealiser") (hR : 5 ≤ R.frames ∧ 112 ≤ R.locals ∧ 0 ≤ R.cells ∧ 0 ≤ R.slots) (hr : meth.sig.returnType = some .int) (hlk : meth.locks = false) {Post : Int32 → MH → Prop} (l0 : Nat) (l1 : Int32) (l2 : Int32) (l3 : Int32) (h : MH) (hwp : wp_Br_figure Post l0 l1 l2 l3 h) : WG p l e R s m args below meth c 0 0 (MQ below (va_Qi Post (Wd G) (mA G)) args s 0 0 (mA G)) G 5 [(0, .ref (m_b G + l0)), (1, .int l1), (2, .int l2), (3, .int l3)] 0 [] h := by
  unfold wp_Br_figure at hwp
  refine x_aload_n C0 0 d_Br_figure_0 rfl rfl ?_
  refine x_iload_n C0 1 d_Br_figure_1 rfl rfl ?_
  obtain ⟨g2, hwp⟩ := hwp
  refine x_callVi0 (k := l0) (As := [.int l1]) (st := []) C0 (c_Br_hasChord l G hwp) kw_2_64 mk_Br_hasChord vk_Br_hasChord rfl g2 rfl (Nat.le_of_ble_eq_true rfl) rfl rfl ⟨Nat.le_trans (by decide) hR.1, Nat.le_trans (by decide) hR.2.1⟩ ⟨Nat.zero_le _, Nat.zero_le _⟩ rfl d_Br_figure_2 (fun r2 h2 hwp => ?_)
  refine x_if_eq (tgt := 27) C0 d_Br_figure_5 (by decide) (fun c5 => ?_) (fun c5 => ?_)
  · replace hwp := hwp.1 c5
    refine x_iconst (v := -1) C0 d_Br_figure_27 (by decide) ?_
    exact x_iret C0 hr hlk hwp d_Br_figure_28
  · replace hwp := hwp.2 c5
    refine x_iload_n C0 2 d_Br_figure_8 rfl rfl ?_
    refine x_iconst (v := 2) C0 d_Br_figure_9 (by decide) ?_
    refine x_bipush (v := 9) C0 d_Br_figure_10 (by decide) ?_
    refine x_callSi0 (As := [.int l2, .int (2 : Int32), .int (9 : Int32)]) (st := []) C0 (c_Br_within l G hwp) kw_1_226 mk_Br_within kw_1_227 rfl (Nat.le_of_ble_eq_true rfl) rfl rfl ⟨Nat.le_trans (by decide) hR.1, Nat.le_trans (by decide) hR.2.1⟩ ⟨Nat.zero_le _, Nat.zero_le _⟩ rfl d_Br_figure_12 (fun r12 h12 hwp => ?_)
    refine x_if_eq (tgt := 27) C0 d_Br_figure_15 (by decide) (fun c15 => ?_) (fun c15 => ?_)
    · replace hwp := hwp.1 c15
      refine x_iconst (v := -1) C0 d_Br_figure_27 (by decide) ?_
      exact x_iret C0 hr hlk hwp d_Br_figure_28
    · replace hwp := hwp.2 c15
      refine x_iload_n C0 3 d_Br_figure_18 rfl rfl ?_
      refine x_iconst (v := 0) C0 d_Br_figure_19 (by decide) ?_
      refine x_iconst (v := 3) C0 d_Br_figure_20 (by decide) ?_
      refine x_callSi0 (As := [.int l3, .int (0 : Int32), .int (3 : Int32)]) (st := []) C0 (c_Br_within l G hwp) kw_1_226 mk_Br_within kw_1_227 rfl (Nat.le_of_ble_eq_true rfl) rfl rfl ⟨Nat.le_trans (by decide) hR.1, Nat.le_trans (by decide) hR.2.1⟩ ⟨Nat.zero_le _, Nat.zero_le _⟩ rfl d_Br_figure_21 (fun r21 h21 hwp => ?_)
      refine x_if_ne (tgt := 29) C0 d_Br_figure_24 (by decide) (fun c24 => ?_) (fun c24 => ?_)
      · replace hwp := hwp.1 c24
        refine x_aload_n C0 0 d_Br_figure_29 rfl rfl ?_
        obtain ⟨x30, e30, hwp⟩ := hwp
        refine x_getR C0 fk_Br_20 e30 d_Br_figure_30 ?_
        refine x_iload_n C0 1 d_Br_figure_33 rfl rfl ?_
        obtain ⟨n34, f34, q34, e34, i34, g34, hwp⟩ := hwp
        refine x_aald (t := 3) C0 e34 rfl i34 g34 d_Br_figure_34 ?_
        refine x_astore C0 d_Br_figure_35 (by decide) (lv' := [(4, .ref (m_b G + q34)), (0, .ref (m_b G + l0)), (1, .int l1), (2, .int l2), (3, .int l3)]) rfl ?_
        refine x_aload C0 0 d_Br_figure_37 rfl ?_
        obtain ⟨x39, e39, hwp⟩ := hwp
        refine x_getI C0 fk_Br_66 e39 d_Br_figure_39 ?_
        refine x_iconst (v := 1) C0 d_Br_figure_42 (by decide) ?_
        refine x_iload_n C0 3 d_Br_figure_43 rfl rfl ?_
        refine x_ishl C0 d_Br_figure_44 ?_
        refine x_ior C0 d_Br_figure_45 ?_
        refine x_callSi0 (As := [.int (x39 ||| ((1 : Int32) <<< (l2 &&& 31)))]) (st := []) C0 (c_Ch_complete l G hwp) kw_2_68 mk_Ch_complete kw_1_234 rfl (Nat.le_of_ble_eq_true rfl) rfl rfl ⟨Nat.le_trans (by decide) hR.1, Nat.le_trans (by decide) hR.2.1⟩ ⟨Nat.zero_le _, Nat.zero_le _⟩ rfl d_Br_figure_46 (fun r46 h46 hwp => ?_)
        refine x_callSi0 (As := [.int r46]) (st := []) C0 (c_In_bitCount l G hwp) kw_2_69 mk_In_bitCount kw_2_70 rfl (Nat.le_of_ble_eq_true rfl) rfl rfl ⟨Nat.le_trans (by decide) hR.1, Nat.le_trans (by decide) hR.2.1⟩ ⟨Nat.zero_le _, Nat.zero_le _⟩ rfl d_Br_figure_49 (fun r49 h49 hwp => ?_)
        refine x_iconst (v := 3) C0 d_Br_figure_52 (by decide) ?_
        refine x_icmp_le (tgt := 59) C0 d_Br_figure_53 (by decide) (fun c53 => ?_) (fun c53 => ?_)
        · replace hwp := hwp.1 c53
          refine x_aload C0 0 d_Br_figure_59 rfl ?_
          refine x_iload_n C0 3 d_Br_figure_61 rfl rfl ?_
          refine x_iload_n C0 4 d_Br_figure_62 rfl rfl ?_
          obtain ⟨g63, hwp⟩ := hwp
          refine x_callVv0 (k := q34) (As := [.int l2, .int l3]) (st := []) C0 (c_Ch_tell l G hwp) kw_2_75 mk_Ch_tell vk_Ch_tell rfl g63 rfl (Nat.le_of_ble_eq_true rfl) rfl rfl ⟨Nat.le_trans (by decide) hR.1, Nat.le_trans (by decide) hR.2.1⟩ ⟨Nat.zero_le _, Nat.zero_le _⟩ rfl d_Br_figure_63 (fun h63 hwp => ?_)
          refine x_aload C0 0 d_Br_figure_66 rfl ?_
          refine x_aload_n C0 1 d_Br_figure_68 rfl rfl ?_
          obtain ⟨x69, e69, hwp⟩ := hwp
          refine x_getR C0 fk_Br_25 e69 d_Br_figure_69 ?_
          obtain ⟨x72, e72, hwp⟩ := hwp
          refine x_getI C0 fk_Br_41 e72 d_Br_figure_72 ?_
          obtain ⟨g75, hwp⟩ := hwp
          refine x_callVv0 (k := q34) (As := [.int x72]) (st := []) C0 (c_Ch_tune l G hwp) kw_1_229 mk_Ch_tune vk_Ch_tune rfl g75 rfl (Nat.le_of_ble_eq_true rfl) rfl rfl ⟨Nat.le_trans (by decide) hR.1, Nat.le_trans (by decide) hR.2.1⟩ ⟨Nat.zero_le _, Nat.zero_le _⟩ rfl d_Br_figure_75 (fun h75 hwp => ?_)
          refine x_aload_n C0 1 d_Br_figure_78 rfl rfl ?_
          obtain ⟨x79, e79, hwp⟩ := hwp
          refine x_getR C0 fk_Br_10 e79 d_Br_figure_79 ?_
          refine x_iload_n C0 2 d_Br_figure_82 rfl rfl ?_
          obtain ⟨g83, hwp⟩ := hwp
          refine x_callVv0 (k := x79) (As := [.int l1]) (st := []) C0 (c_Se_forgetChord l G hwp) kw_2_52 mk_Se_forgetChord vk_Se_forgetChord rfl g83 rfl (Nat.le_of_ble_eq_true rfl) rfl rfl ⟨Nat.le_trans (by decide) hR.1, Nat.le_trans (by decide) hR.2.1⟩ ⟨Nat.zero_le _, Nat.zero_le _⟩ rfl d_Br_figure_83 (fun h83 hwp => ?_)
          refine x_aload C0 0 d_Br_figure_86 rfl ?_
          obtain ⟨x88, e88, hwp⟩ := hwp
          refine x_getI C0 fk_Br_82 e88 d_Br_figure_88 ?_
          refine x_callSi0 (As := [.int x88]) (st := []) C0 (c_In_bitCount l G hwp) kw_2_69 mk_In_bitCount kw_2_70 rfl (Nat.le_of_ble_eq_true rfl) rfl rfl ⟨Nat.le_trans (by decide) hR.1, Nat.le_trans (by decide) hR.2.1⟩ ⟨Nat.zero_le _, Nat.zero_le _⟩ rfl d_Br_figure_91 (fun r91 h91 hwp => ?_)
          exact x_iret C0 hr hlk hwp d_Br_figure_94
        · replace hwp := hwp.2 c53
          refine x_bipush (v := -3) C0 d_Br_figure_56 (by decide) ?_
          exact x_iret C0 hr hlk hwp d_Br_figure_58
      · replace hwp := hwp.2 c24
        refine x_iconst (v := -1) C0 d_Br_figure_27 (by decide) ?_
        exact x_iret C0 hr hlk hwp d_Br_figure_28
set_option maxRecDepth 100000 in
set_option maxHeartbeats 4000000 in
theorem c_Br_figure (l : Launch) (G : mG) {Post : Int32 → MH → Prop} {l0 : Nat} {l1 : Int32} {l2 : Int32} {l3 : Int32} {h : MH} (hwp : wp_Br_figure Post l0 l1 l2 l3 h) : Met l y_Br_figure (Cond.code y_Br_figure prog_1_method_5_code 5 (Option.some Jvm.ClassFile.FieldType.int) :: lw_good) ({ frames := 5, cells := 0, slots := 0, locals := 112 }) (va_Pc [.ref (m_b G + l0), .int l1, .int l2, .int l3] (Wd G h)) (va_Qi Post (Wd G) (mA G)) 0 0 (mA G) := by
  refine Met.ofW (cc := prog_1_method_5_code) (maxL := 5) (ret := (Option.some Jvm.ClassFile.FieldType.int)) (by decide +kernel) rfl ?_
  intro p e s m args below meth c s₁ B hml hv
  obtain ⟨rfl, hP, hz, hK, hSt⟩ := hv
  have hts := atoms_spec (ws := Cond.code y_Br_figure prog_1_method_5_code 5 (Option.some Jvm.ClassFile.FieldType.int) :: lw_good) B.pre
  have C0 : Cx G p s m ([.ref (m_b G + l0), .int l1, .int l2, .int l3] : List Value).toArray c prog_1_method_5_code 5 "BassRealiser" := ⟨⟨B.exec, B.bytes, hml, findClass_of_methodNamed B.named, fun w h => hts w (List.mem_cons_of_mem _ h)⟩, hK, hSt, by rw [hz]; exact Nat.le_add_right _ _⟩
  have hl := lv_entry ([.ref (m_b G + l0), .int l1, .int l2, .int l3]) (n := 5) (Nat.le_of_ble_eq_true rfl)
  rw [lg_entry_eq]
  exact t_Br_figure G C0 ⟨Nat.le_refl _, Nat.le_refl _, Nat.le_refl _, Nat.le_refl _⟩ B.returns B.notSynchronized _ _ _ _ _ hwp _ _ _ ⟨hP, hz, va_S.rf⟩ hl
def wp_Rm_noChord (Post : Int32 → MH → Prop) (l0 : Nat) (l1 : Int32) (h : MH) : Prop :=
  ∃ x4 : Int32, gF h l0 6 2 = some (.inl x4) ∧
  (wp_Rm_in (fun (r10 : Int32) (h10 : MH) =>
      (((¬ r10 = 0) →
          (Post (0 : Int32) h10)) ∧
        ((r10 = 0) →
          (Post (1 : Int32) h10)))) ((l1).toInt64) (0 : Int64) ((x4 - (1 : Int32)).toInt64) h)
set_option maxRecDepth 100000 in
set_option maxHeartbeats 4000000 in
theorem t_Rm_noChord {p : Program} {l : Launch} {e : Env} {R : Room} {s : State} {m : MethodId} {args : Array Value} {below : List Frame} {meth : Method} {c : Code} (G : mG) (C0 : Cx G p s m args c prog_8_method_4_code 2 "BassRealiserModel") (hR : 1 ≤ R.frames ∧ 25 ≤ R.locals ∧ 0 ≤ R.cells ∧ 0 ≤ R.slots) (hr : meth.sig.returnType = some .boolean) (hlk : meth.locks = false) {Post : Int32 → MH → Prop} (l0 : Nat) (l1 : Int32) (h : MH) (hwp : wp_Rm_noChord Post l0 l1 h) : WG p l e R s m args below meth c 0 0 (MQ below (va_Qi Post (Wd G) (mA G)) args s 0 0 (mA G)) G 2 [(0, .ref (m_b G + l0)), (1, .int l1)] 0 [] h := by
  unfold wp_Rm_noChord at hwp
  refine x_iload_n C0 1 d_Rm_noChord_0 rfl rfl ?_
  refine x_i2l C0 d_Rm_noChord_1 ?_
  refine x_lconst (v := 0) C0 d_Rm_noChord_2 (by decide) ?_
  refine x_aload_n C0 0 d_Rm_noChord_3 rfl rfl ?_
  obtain ⟨x4, e4, hwp⟩ := hwp
  refine x_getI C0 fk_Rm_79 e4 d_Rm_noChord_4 ?_
  refine x_iconst (v := 1) C0 d_Rm_noChord_7 (by decide) ?_
  refine x_isub C0 d_Rm_noChord_8 ?_
  refine x_i2l C0 d_Rm_noChord_9 ?_
  refine x_callSi0 (As := [.long ((l1).toInt64), .long (0 : Int64), .long ((x4 - (1 : Int32)).toInt64)]) (st := []) C0 (c_Rm_in l G hwp) kw_3_173 mk_Rm_in kw_3_174 rfl (Nat.le_of_ble_eq_true rfl) rfl rfl ⟨Nat.le_trans (by decide) hR.1, Nat.le_trans (by decide) hR.2.1⟩ ⟨Nat.zero_le _, Nat.zero_le _⟩ rfl d_Rm_noChord_10 (fun r10 h10 hwp => ?_)
  refine x_if_ne (tgt := 20) C0 d_Rm_noChord_13 (by decide) (fun c13 => ?_) (fun c13 => ?_)
  · replace hwp := hwp.1 c13
    refine x_iconst (v := 0) C0 d_Rm_noChord_20 (by decide) ?_
    exact x_zret C0 hr rfl hlk hwp d_Rm_noChord_21
  · replace hwp := hwp.2 c13
    refine x_iconst (v := 1) C0 d_Rm_noChord_16 (by decide) ?_
    refine x_goto (tgt := 21) C0 d_Rm_noChord_17 (by decide) ?_
    exact x_zret C0 hr rfl hlk hwp d_Rm_noChord_21
set_option maxRecDepth 100000 in
set_option maxHeartbeats 4000000 in
theorem c_Rm_noChord (l : Launch) (G : mG) {Post : Int32 → MH → Prop} {l0 : Nat} {l1 : Int32} {h : MH} (hwp : wp_Rm_noChord Post l0 l1 h) : Met l y_Rm_noChord (Cond.code y_Rm_noChord prog_8_method_4_code 2 (Option.some Jvm.ClassFile.FieldType.boolean) :: lw_good) ({ frames := 1, cells := 0, slots := 0, locals := 25 }) (va_Pc [.ref (m_b G + l0), .int l1] (Wd G h)) (va_Qi Post (Wd G) (mA G)) 0 0 (mA G) := by
  refine Met.ofW (cc := prog_8_method_4_code) (maxL := 2) (ret := (Option.some Jvm.ClassFile.FieldType.boolean)) (by decide +kernel) rfl ?_
  intro p e s m args below meth c s₁ B hml hv
  obtain ⟨rfl, hP, hz, hK, hSt⟩ := hv
  have hts := atoms_spec (ws := Cond.code y_Rm_noChord prog_8_method_4_code 2 (Option.some Jvm.ClassFile.FieldType.boolean) :: lw_good) B.pre
  have C0 : Cx G p s m ([.ref (m_b G + l0), .int l1] : List Value).toArray c prog_8_method_4_code 2 "BassRealiserModel" := ⟨⟨B.exec, B.bytes, hml, findClass_of_methodNamed B.named, fun w h => hts w (List.mem_cons_of_mem _ h)⟩, hK, hSt, by rw [hz]; exact Nat.le_add_right _ _⟩
  have hl := lv_entry ([.ref (m_b G + l0), .int l1]) (n := 2) (Nat.le_of_ble_eq_true rfl)
  rw [lg_entry_eq]
  exact t_Rm_noChord G C0 ⟨Nat.le_refl _, Nat.le_refl _, Nat.le_refl _, Nat.le_refl _⟩ B.returns B.notSynchronized _ _ _ hwp _ _ _ ⟨hP, hz, va_S.rf⟩ hl
def wp_Rm_isTold (Post : Int32 → MH → Prop) (l0 : Nat) (l1 : Int32) (l2 : Int32) (h : MH) : Prop :=
  ∃ x1 : Nat, gF h l0 6 6 = some (.inr (some x1)) ∧
  (∃ (n10 : Nat) (f10 : Nat → Int32), gA h x1 0 = some (n10, f10) ∧ vp_in (((10 : Int32) * l1) + l2) n10 ∧
    ((((f10 (((10 : Int32) * l1) + l2).toNatClampNeg) ≤ 0) →
        (Post (0 : Int32) h)) ∧
      ((¬ (f10 (((10 : Int32) * l1) + l2).toNatClampNeg) ≤ 0) →
        (Post (1 : Int32) h))))
set_option maxRecDepth 100000 in
set_option maxHeartbeats 4000000 in
theorem t_Rm_isTold {p : Program} {l : Launch} {e : Env} {R : Room} {s : State} {m : MethodId} {args : Array Value} {below : List Frame} {meth : Method} {c : Code} (G : mG) (C0 : Cx G p s m args c prog_8_method_18_code 3 "BassRealiserModel") (hR : 0 ≤ R.frames ∧ 0 ≤ R.locals ∧ 0 ≤ R.cells ∧ 0 ≤ R.slots) (hr : meth.sig.returnType = some .boolean) (hlk : meth.locks = false) {Post : Int32 → MH → Prop} (l0 : Nat) (l1 : Int32) (l2 : Int32) (h : MH) (hwp : wp_Rm_isTold Post l0 l1 l2 h) : WG p l e R s m args below meth c 0 0 (MQ below (va_Qi Post (Wd G) (mA G)) args s 0 0 (mA G)) G 3 [(0, .ref (m_b G + l0)), (1, .int l1), (2, .int l2)] 0 [] h := by
  unfold wp_Rm_isTold at hwp
  refine x_aload_n C0 0 d_Rm_isTold_0 rfl rfl ?_
  obtain ⟨x1, e1, hwp⟩ := hwp
  refine x_getR C0 fk_Rm_23 e1 d_Rm_isTold_1 ?_
  refine x_bipush (v := 10) C0 d_Rm_isTold_4 (by decide) ?_
  refine x_iload_n C0 1 d_Rm_isTold_6 rfl rfl ?_
  refine x_imul C0 d_Rm_isTold_7 ?_
  refine x_iload_n C0 2 d_Rm_isTold_8 rfl rfl ?_
  refine x_iadd C0 d_Rm_isTold_9 ?_
  obtain ⟨n10, f10, e10, i10, hwp⟩ := hwp
  refine x_iald C0 e10 i10 d_Rm_isTold_10 ?_
  refine x_if_le (tgt := 18) C0 d_Rm_isTold_11 (by decide) (fun c11 => ?_) (fun c11 => ?_)
  · replace hwp := hwp.1 c11
    refine x_iconst (v := 0) C0 d_Rm_isTold_18 (by decide) ?_
    exact x_zret C0 hr rfl hlk hwp d_Rm_isTold_19
  · replace hwp := hwp.2 c11
    refine x_iconst (v := 1) C0 d_Rm_isTold_14 (by decide) ?_
    refine x_goto (tgt := 19) C0 d_Rm_isTold_15 (by decide) ?_
    exact x_zret C0 hr rfl hlk hwp d_Rm_isTold_19
set_option maxRecDepth 100000 in
set_option maxHeartbeats 4000000 in
theorem c_Rm_isTold (l : Launch) (G : mG) {Post : Int32 → MH → Prop} {l0 : Nat} {l1 : Int32} {l2 : Int32} {h : MH} (hwp : wp_Rm_isTold Post l0 l1 l2 h) : Met l y_Rm_isTold (Cond.code y_Rm_isTold prog_8_method_18_code 3 (Option.some Jvm.ClassFile.FieldType.boolean) :: lw_good) ({ frames := 0, cells := 0, slots := 0, locals := 0 }) (va_Pc [.ref (m_b G + l0), .int l1, .int l2] (Wd G h)) (va_Qi Post (Wd G) (mA G)) 0 0 (mA G) := by
  refine Met.ofW (cc := prog_8_method_18_code) (maxL := 3) (ret := (Option.some Jvm.ClassFile.FieldType.boolean)) (by decide +kernel) rfl ?_
  intro p e s m args below meth c s₁ B hml hv
  obtain ⟨rfl, hP, hz, hK, hSt⟩ := hv
  have hts := atoms_spec (ws := Cond.code y_Rm_isTold prog_8_method_18_code 3 (Option.some Jvm.ClassFile.FieldType.boolean) :: lw_good) B.pre
  have C0 : Cx G p s m ([.ref (m_b G + l0), .int l1, .int l2] : List Value).toArray c prog_8_method_18_code 3 "BassRealiserModel" := ⟨⟨B.exec, B.bytes, hml, findClass_of_methodNamed B.named, fun w h => hts w (List.mem_cons_of_mem _ h)⟩, hK, hSt, by rw [hz]; exact Nat.le_add_right _ _⟩
  have hl := lv_entry ([.ref (m_b G + l0), .int l1, .int l2]) (n := 3) (Nat.le_of_ble_eq_true rfl)
  rw [lg_entry_eq]
  exact t_Rm_isTold G C0 ⟨Nat.le_refl _, Nat.le_refl _, Nat.le_refl _, Nat.le_refl _⟩ B.returns B.notSynchronized _ _ _ _ hwp _ _ _ ⟨hP, hz, va_S.rf⟩ hl
def wp_Rm_isWorked_58 (Post : Int32 → MH → Prop) (l0 : Nat) (l1 : Int32) (l2 : Int32) (l3 : Int32) (y0 : Int32) (h : MH) : Prop :=
  (l2 = (3 : Int32) →
    (gC h l0 = some 6 ∧ wp_Rm_isTold (fun (r95 : Int32) (h95 : MH) =>
        (((¬ r95 = 0) →
            (Post (0 : Int32) h95)) ∧
          ((r95 = 0) →
            (gC h95 l0 = some 6 ∧ wp_Rm_isTold (fun (r104 : Int32) (h104 : MH) =>
                (((¬ r104 = 0) →
                    (Post (0 : Int32) h104)) ∧
                  ((r104 = 0) →
                    (Post (1 : Int32) h104)))) l0 l1 (4 : Int32) h95)))) l0 l1 (2 : Int32) h)) ∧
  (l2 = (4 : Int32) →
    ((y0 = 0 ∨ y0 = 1) ∧ Post y0 h)) ∧
  (l2 = (5 : Int32) →
    (gC h l0 = some 6 ∧ wp_Rm_isTold (fun (r122 : Int32) (h122 : MH) =>
        (((¬ r122 = 0) →
            (Post (0 : Int32) h122)) ∧
          ((r122 = 0) →
            (gC h122 l0 = some 6 ∧ wp_Rm_isTold (fun (r132 : Int32) (h132 : MH) =>
                (((¬ r132 = 0) →
                    (Post (0 : Int32) h132)) ∧
                  ((r132 = 0) →
                    (((¬ l3 = 0) →
                        (Post (0 : Int32) h132)) ∧
                      ((l3 = 0) →
                        (gC h132 l0 = some 6 ∧ wp_Rm_isTold (fun (r146 : Int32) (h146 : MH) =>
                        (((r146 = 0) →
                        (Post (1 : Int32) h146)) ∧
                        ((¬ r146 = 0) →
                        (gC h146 l0 = some 6 ∧ wp_Rm_isTold (fun (r156 : Int32) (h156 : MH) =>
                        (((¬ r156 = 0) →
                        (Post (0 : Int32) h156)) ∧
                        ((r156 = 0) →
                        (Post (1 : Int32) h156)))) l0 l1 (9 : Int32) h146)))) l0 l1 (7 : Int32) h132)))))) l0 l1 (6 : Int32) h122)))) l0 l1 (2 : Int32) h)) ∧
  (l2 = (6 : Int32) →
    (((¬ y0 = 0) →
        (Post (1 : Int32) h)) ∧
      ((y0 = 0) →
        (((l3 = 0) →
            (Post (0 : Int32) h)) ∧
          ((¬ l3 = 0) →
            (Post (1 : Int32) h)))))) ∧
  (¬ l2 = (3 : Int32) → ¬ l2 = (4 : Int32) → ¬ l2 = (5 : Int32) → ¬ l2 = (6 : Int32) →
    (Post (0 : Int32) h))
def wp_Rm_isWorked_57 (Post : Int32 → MH → Prop) (l0 : Nat) (l1 : Int32) (l2 : Int32) (l3 : Int32) (h : MH) : Prop :=
  wp_Rm_isWorked_58 Post l0 l1 l2 l3 (0 : Int32) h
def wp_Rm_isWorked_34 (Post : Int32 → MH → Prop) (l0 : Nat) (l1 : Int32) (l2 : Int32) (y0 : Int32) (h : MH) : Prop :=
  gC h l0 = some 6 ∧ wp_Rm_isTold (fun (r38 : Int32) (h38 : MH) =>
    (((r38 = 0) →
        (wp_Rm_isWorked_57 Post l0 l1 l2 y0 h38)) ∧
      ((¬ r38 = 0) →
        (gC h38 l0 = some 6 ∧ wp_Rm_isTold (fun (r47 : Int32) (h47 : MH) =>
            (((¬ r47 = 0) →
                (wp_Rm_isWorked_57 Post l0 l1 l2 y0 h47)) ∧
              ((r47 = 0) →
                (wp_Rm_isWorked_58 Post l0 l1 l2 y0 (1 : Int32) h47)))) l0 l1 (5 : Int32) h38)))) l0 l1 (2 : Int32) h
def wp_Rm_isWorked_33 (Post : Int32 → MH → Prop) (l0 : Nat) (l1 : Int32) (l2 : Int32) (h : MH) : Prop :=
  wp_Rm_isWorked_34 Post l0 l1 l2 (0 : Int32) h
def wp_Rm_isWorked (Post : Int32 → MH → Prop) (l0 : Nat) (l1 : Int32) (l2 : Int32) (h : MH) : Prop :=
  gC h l0 = some 6 ∧ wp_Rm_isTold (fun (r3 : Int32) (h3 : MH) =>
    (((r3 = 0) →
        (gC h3 l0 = some 6 ∧ wp_Rm_isTold (fun (r14 : Int32) (h14 : MH) =>
            (((r14 = 0) →
                (wp_Rm_isWorked_33 Post l0 l1 l2 h14)) ∧
              ((¬ r14 = 0) →
                (gC h14 l0 = some 6 ∧ wp_Rm_isTold (fun (r23 : Int32) (h23 : MH) =>
                    (((r23 = 0) →
                        (wp_Rm_isWorked_33 Post l0 l1 l2 h23)) ∧
                      ((¬ r23 = 0) →
                        (wp_Rm_isWorked_34 Post l0 l1 l2 (1 : Int32) h23)))) l0 l1 (4 : Int32) h14)))) l0 l1 (3 : Int32) h3)) ∧
      ((¬ r3 = 0) →
        (Post (1 : Int32) h3)))) l0 l1 l2 h
set_option maxRecDepth 100000 in
set_option maxHeartbeats 4000000 in
theorem t_Rm_isWorked_58 {p : Program} {l : Launch} {e : Env} {R : Room} {s : State} {m : MethodId} {args : Array Value} {below : List Frame} {meth : Method} {c : Code} (G : mG) (C0 : Cx G p s m args c prog_8_method_19_code 5 "BassRealiserModel") (hR : 1 ≤ R.frames ∧ 22 ≤ R.locals ∧ 0 ≤ R.cells ∧ 0 ≤ R.slots) (hr : meth.sig.returnType = some .boolean) (hlk : meth.locks = false) {Post : Int32 → MH → Prop} (l0 : Nat) (l1 : Int32) (l2 : Int32) (l3 : Int32) (y0 : Int32) (h : MH) (hwp : wp_Rm_isWorked_58 Post l0 l1 l2 l3 y0 h) : WG p l e R s m args below meth c 0 0 (MQ below (va_Qi Post (Wd G) (mA G)) args s 0 0 (mA G)) G 5 [(0, .ref (m_b G + l0)), (1, .int l1), (2, .int l2), (3, .int l3)] 58 [.int y0] h := by
  unfold wp_Rm_isWorked_58 at hwp
  refine x_istore C0 d_Rm_isWorked_58 (by decide) (lv' := [(4, .int y0), (0, .ref (m_b G + l0)), (1, .int l1), (2, .int l2), (3, .int l3)]) rfl ?_
  refine x_iload_n C0 3 d_Rm_isWorked_60 rfl rfl ?_
  by_cases c61_3 : l2 = (3 : Int32)
  · replace hwp := hwp.1 c61_3
    refine x_tableIn (tgt := 92) (off := 31) C0 d_Rm_isWorked_61 (by rw [c61_3]; decide) (by rw [c61_3]; decide) (by rw [c61_3]; rfl) (by decide) ?_
    refine x_aload_n C0 1 d_Rm_isWorked_92 rfl rfl ?_
    refine x_iload_n C0 2 d_Rm_isWorked_93 rfl rfl ?_
    refine x_iconst (v := 2) C0 d_Rm_isWorked_94 (by decide) ?_
    obtain ⟨g95, hwp⟩ := hwp
    refine x_callVi0 (k := l0) (As := [.int l1, .int (2 : Int32)]) (st := []) C0 (c_Rm_isTold l G hwp) kw_3_206 mk_Rm_isTold vk_Rm_isTold rfl g95 rfl (Nat.le_of_ble_eq_true rfl) rfl rfl ⟨Nat.le_trans (by decide) hR.1, Nat.le_trans (by decide) hR.2.1⟩ ⟨Nat.zero_le _, Nat.zero_le _⟩ rfl d_Rm_isWorked_95 (fun r95 h95 hwp => ?_)
    refine x_if_ne (tgt := 114) C0 d_Rm_isWorked_98 (by decide) (fun c98 => ?_) (fun c98 => ?_)
    · replace hwp := hwp.1 c98
      refine x_iconst (v := 0) C0 d_Rm_isWorked_114 (by decide) ?_
      exact x_zret C0 hr rfl hlk hwp d_Rm_isWorked_115
    · replace hwp := hwp.2 c98
      refine x_aload_n C0 1 d_Rm_isWorked_101 rfl rfl ?_
      refine x_iload_n C0 2 d_Rm_isWorked_102 rfl rfl ?_
      refine x_iconst (v := 4) C0 d_Rm_isWorked_103 (by decide) ?_
      obtain ⟨g104, hwp⟩ := hwp
      refine x_callVi0 (k := l0) (As := [.int l1, .int (4 : Int32)]) (st := []) C0 (c_Rm_isTold l G hwp) kw_3_206 mk_Rm_isTold vk_Rm_isTold rfl g104 rfl (Nat.le_of_ble_eq_true rfl) rfl rfl ⟨Nat.le_trans (by decide) hR.1, Nat.le_trans (by decide) hR.2.1⟩ ⟨Nat.zero_le _, Nat.zero_le _⟩ rfl d_Rm_isWorked_104 (fun r104 h104 hwp => ?_)
      refine x_if_ne (tgt := 114) C0 d_Rm_isWorked_107 (by decide) (fun c107 => ?_) (fun c107 => ?_)
      · replace hwp := hwp.1 c107
        refine x_iconst (v := 0) C0 d_Rm_isWorked_114 (by decide) ?_
        exact x_zret C0 hr rfl hlk hwp d_Rm_isWorked_115
      · replace hwp := hwp.2 c107
        refine x_iconst (v := 1) C0 d_Rm_isWorked_110 (by decide) ?_
        refine x_goto (tgt := 115) C0 d_Rm_isWorked_111 (by decide) ?_
        exact x_zret C0 hr rfl hlk hwp d_Rm_isWorked_115
  by_cases c61_4 : l2 = (4 : Int32)
  · replace hwp := hwp.2.1 c61_4
    refine x_tableIn (tgt := 116) (off := 55) C0 d_Rm_isWorked_61 (by rw [c61_4]; decide) (by rw [c61_4]; decide) (by rw [c61_4]; rfl) (by decide) ?_
    refine x_iload C0 0 d_Rm_isWorked_116 rfl ?_
    obtain ⟨eZ, hwp⟩ := hwp
    exact x_zret C0 hr (nar_z eZ) hlk hwp d_Rm_isWorked_118
  by_cases c61_5 : l2 = (5 : Int32)
  · replace hwp := hwp.2.2.1 c61_5
    refine x_tableIn (tgt := 119) (off := 58) C0 d_Rm_isWorked_61 (by rw [c61_5]; decide) (by rw [c61_5]; decide) (by rw [c61_5]; rfl) (by decide) ?_
    refine x_aload_n C0 1 d_Rm_isWorked_119 rfl rfl ?_
    refine x_iload_n C0 2 d_Rm_isWorked_120 rfl rfl ?_
    refine x_iconst (v := 2) C0 d_Rm_isWorked_121 (by decide) ?_
    obtain ⟨g122, hwp⟩ := hwp
    refine x_callVi0 (k := l0) (As := [.int l1, .int (2 : Int32)]) (st := []) C0 (c_Rm_isTold l G hwp) kw_3_206 mk_Rm_isTold vk_Rm_isTold rfl g122 rfl (Nat.le_of_ble_eq_true rfl) rfl rfl ⟨Nat.le_trans (by decide) hR.1, Nat.le_trans (by decide) hR.2.1⟩ ⟨Nat.zero_le _, Nat.zero_le _⟩ rfl d_Rm_isWorked_122 (fun r122 h122 hwp => ?_)
    refine x_if_ne (tgt := 166) C0 d_Rm_isWorked_125 (by decide) (fun c125 => ?_) (fun c125 => ?_)
    · replace hwp := hwp.1 c125
      refine x_iconst (v := 0) C0 d_Rm_isWorked_166 (by decide) ?_
      exact x_zret C0 hr rfl hlk hwp d_Rm_isWorked_167
    · replace hwp := hwp.2 c125
      refine x_aload_n C0 1 d_Rm_isWorked_128 rfl rfl ?_
      refine x_iload_n C0 2 d_Rm_isWorked_129 rfl rfl ?_
      refine x_bipush (v := 6) C0 d_Rm_isWorked_130 (by decide) ?_
      obtain ⟨g132, hwp⟩ := hwp
      refine x_callVi0 (k := l0) (As := [.int l1, .int (6 : Int32)]) (st := []) C0 (c_Rm_isTold l G hwp) kw_3_206 mk_Rm_isTold vk_Rm_isTold rfl g132 rfl (Nat.le_of_ble_eq_true rfl) rfl rfl ⟨Nat.le_trans (by decide) hR.1, Nat.le_trans (by decide) hR.2.1⟩ ⟨Nat.zero_le _, Nat.zero_le _⟩ rfl d_Rm_isWorked_132 (fun r132 h132 hwp => ?_)
      refine x_if_ne (tgt := 166) C0 d_Rm_isWorked_135 (by decide) (fun c135 => ?_) (fun c135 => ?_)
      · replace hwp := hwp.1 c135
        refine x_iconst (v := 0) C0 d_Rm_isWorked_166 (by decide) ?_
        exact x_zret C0 hr rfl hlk hwp d_Rm_isWorked_167
      · replace hwp := hwp.2 c135
        refine x_iload_n C0 4 d_Rm_isWorked_138 rfl rfl ?_
        refine x_if_ne (tgt := 166) C0 d_Rm_isWorked_139 (by decide) (fun c139 => ?_) (fun c139 => ?_)
        · replace hwp := hwp.1 c139
          refine x_iconst (v := 0) C0 d_Rm_isWorked_166 (by decide) ?_
          exact x_zret C0 hr rfl hlk hwp d_Rm_isWorked_167
        · replace hwp := hwp.2 c139
          refine x_aload_n C0 1 d_Rm_isWorked_142 rfl rfl ?_
          refine x_iload_n C0 2 d_Rm_isWorked_143 rfl rfl ?_
          refine x_bipush (v := 7) C0 d_Rm_isWorked_144 (by decide) ?_
          obtain ⟨g146, hwp⟩ := hwp
          refine x_callVi0 (k := l0) (As := [.int l1, .int (7 : Int32)]) (st := []) C0 (c_Rm_isTold l G hwp) kw_3_206 mk_Rm_isTold vk_Rm_isTold rfl g146 rfl (Nat.le_of_ble_eq_true rfl) rfl rfl ⟨Nat.le_trans (by decide) hR.1, Nat.le_trans (by decide) hR.2.1⟩ ⟨Nat.zero_le _, Nat.zero_le _⟩ rfl d_Rm_isWorked_146 (fun r146 h146 hwp => ?_)
          refine x_if_eq (tgt := 162) C0 d_Rm_isWorked_149 (by decide) (fun c149 => ?_) (fun c149 => ?_)
          · replace hwp := hwp.1 c149
            refine x_iconst (v := 1) C0 d_Rm_isWorked_162 (by decide) ?_
            refine x_goto (tgt := 167) C0 d_Rm_isWorked_163 (by decide) ?_
            exact x_zret C0 hr rfl hlk hwp d_Rm_isWorked_167
          · replace hwp := hwp.2 c149
            refine x_aload_n C0 1 d_Rm_isWorked_152 rfl rfl ?_
            refine x_iload_n C0 2 d_Rm_isWorked_153 rfl rfl ?_
            refine x_bipush (v := 9) C0 d_Rm_isWorked_154 (by decide) ?_
            obtain ⟨g156, hwp⟩ := hwp
            refine x_callVi0 (k := l0) (As := [.int l1, .int (9 : Int32)]) (st := []) C0 (c_Rm_isTold l G hwp) kw_3_206 mk_Rm_isTold vk_Rm_isTold rfl g156 rfl (Nat.le_of_ble_eq_true rfl) rfl rfl ⟨Nat.le_trans (by decide) hR.1, Nat.le_trans (by decide) hR.2.1⟩ ⟨Nat.zero_le _, Nat.zero_le _⟩ rfl d_Rm_isWorked_156 (fun r156 h156 hwp => ?_)
            refine x_if_ne (tgt := 166) C0 d_Rm_isWorked_159 (by decide) (fun c159 => ?_) (fun c159 => ?_)
            · replace hwp := hwp.1 c159
              refine x_iconst (v := 0) C0 d_Rm_isWorked_166 (by decide) ?_
              exact x_zret C0 hr rfl hlk hwp d_Rm_isWorked_167
            · replace hwp := hwp.2 c159
              refine x_iconst (v := 1) C0 d_Rm_isWorked_162 (by decide) ?_
              refine x_goto (tgt := 167) C0 d_Rm_isWorked_163 (by decide) ?_
              exact x_zret C0 hr rfl hlk hwp d_Rm_isWorked_167
  by_cases c61_6 : l2 = (6 : Int32)
  · replace hwp := hwp.2.2.2.1 c61_6
    refine x_tableIn (tgt := 168) (off := 107) C0 d_Rm_isWorked_61 (by rw [c61_6]; decide) (by rw [c61_6]; decide) (by rw [c61_6]; rfl) (by decide) ?_
    refine x_iload C0 0 d_Rm_isWorked_168 rfl ?_
    refine x_if_ne (tgt := 177) C0 d_Rm_isWorked_170 (by decide) (fun c170 => ?_) (fun c170 => ?_)
    · replace hwp := hwp.1 c170
      refine x_iconst (v := 1) C0 d_Rm_isWorked_177 (by decide) ?_
      refine x_goto (tgt := 182) C0 d_Rm_isWorked_178 (by decide) ?_
      exact x_zret C0 hr rfl hlk hwp d_Rm_isWorked_182
    · replace hwp := hwp.2 c170
      refine x_iload_n C0 4 d_Rm_isWorked_173 rfl rfl ?_
      refine x_if_eq (tgt := 181) C0 d_Rm_isWorked_174 (by decide) (fun c174 => ?_) (fun c174 => ?_)
      · replace hwp := hwp.1 c174
        refine x_iconst (v := 0) C0 d_Rm_isWorked_181 (by decide) ?_
        exact x_zret C0 hr rfl hlk hwp d_Rm_isWorked_182
      · replace hwp := hwp.2 c174
        refine x_iconst (v := 1) C0 d_Rm_isWorked_177 (by decide) ?_
        refine x_goto (tgt := 182) C0 d_Rm_isWorked_178 (by decide) ?_
        exact x_zret C0 hr rfl hlk hwp d_Rm_isWorked_182
  have so61 : (l2).toInt < 3 ∨ 6 < (l2).toInt := by
    refine sw_out (fun k h1 h2 => ?_)
    obtain rfl | rfl | rfl | rfl : k = 3 ∨ k = 4 ∨ k = 5 ∨ k = 6 := by omega
    · exact c61_3
    · exact c61_4
    · exact c61_5
    · exact c61_6
  replace hwp := hwp.2.2.2.2 c61_3 c61_4 c61_5 c61_6
  refine x_tableOut (tgt := 183) C0 d_Rm_isWorked_61 so61 (by decide) ?_
  refine x_iconst (v := 0) C0 d_Rm_isWorked_183 (by decide) ?_
  exact x_zret C0 hr rfl hlk hwp d_Rm_isWorked_184
set_option maxRecDepth 100000 in
set_option maxHeartbeats 4000000 in
theorem t_Rm_isWorked_57 {p : Program} {l : Launch} {e : Env} {R : Room} {s : State} {m : MethodId} {args : Array Value} {below : List Frame} {meth : Method} {c : Code} (G : mG) (C0 : Cx G p s m args c prog_8_method_19_code 5 "BassRealiserModel") (hR : 1 ≤ R.frames ∧ 22 ≤ R.locals ∧ 0 ≤ R.cells ∧ 0 ≤ R.slots) (hr : meth.sig.returnType = some .boolean) (hlk : meth.locks = false) {Post : Int32 → MH → Prop} (l0 : Nat) (l1 : Int32) (l2 : Int32) (l3 : Int32) (h : MH) (hwp : wp_Rm_isWorked_57 Post l0 l1 l2 l3 h) : WG p l e R s m args below meth c 0 0 (MQ below (va_Qi Post (Wd G) (mA G)) args s 0 0 (mA G)) G 5 [(0, .ref (m_b G + l0)), (1, .int l1), (2, .int l2), (3, .int l3)] 57 [] h := by
  unfold wp_Rm_isWorked_57 at hwp
  refine x_iconst (v := 0) C0 d_Rm_isWorked_57 (by decide) ?_
  exact x_sub [0, 1, 2, 3] rfl (t_Rm_isWorked_58 G C0 hR hr hlk  _ _ _ _ _ _ hwp)
set_option maxRecDepth 100000 in
set_option maxHeartbeats 4000000 in
theorem t_Rm_isWorked_34 {p : Program} {l : Launch} {e : Env} {R : Room} {s : State} {m : MethodId} {args : Array Value} {below : List Frame} {meth : Method} {c : Code} (G : mG) (C0 : Cx G p s m args c prog_8_method_19_code 5 "BassRealiserModel") (hR : 1 ≤ R.frames ∧ 22 ≤ R.locals ∧ 0 ≤ R.cells ∧ 0 ≤ R.slots) (hr : meth.sig.returnType = some .boolean) (hlk : meth.locks = false) {Post : Int32 → MH → Prop} (l0 : Nat) (l1 : Int32) (l2 : Int32) (y0 : Int32) (h : MH) (hwp : wp_Rm_isWorked_34 Post l0 l1 l2 y0 h) : WG p l e R s m args below meth c 0 0 (MQ below (va_Qi Post (Wd G) (mA G)) args s 0 0 (mA G)) G 5 [(0, .ref (m_b G + l0)), (1, .int l1), (2, .int l2)] 34 [.int y0] h := by
  unfold wp_Rm_isWorked_34 at hwp
  refine x_istore_n C0 d_Rm_isWorked_34 rfl (by decide) (lv' := [(3, .int y0), (0, .ref (m_b G + l0)), (1, .int l1), (2, .int l2)]) rfl ?_
  refine x_aload_n C0 1 d_Rm_isWorked_35 rfl rfl ?_
  refine x_iload_n C0 2 d_Rm_isWorked_36 rfl rfl ?_
  refine x_iconst (v := 2) C0 d_Rm_isWorked_37 (by decide) ?_
  obtain ⟨g38, hwp⟩ := hwp
  refine x_callVi0 (k := l0) (As := [.int l1, .int (2 : Int32)]) (st := []) C0 (c_Rm_isTold l G hwp) kw_3_206 mk_Rm_isTold vk_Rm_isTold rfl g38 rfl (Nat.le_of_ble_eq_true rfl) rfl rfl ⟨Nat.le_trans (by decide) hR.1, Nat.le_trans (by decide) hR.2.1⟩ ⟨Nat.zero_le _, Nat.zero_le _⟩ rfl d_Rm_isWorked_38 (fun r38 h38 hwp => ?_)
  refine x_if_eq (tgt := 57) C0 d_Rm_isWorked_41 (by decide) (fun c41 => ?_) (fun c41 => ?_)
  · replace hwp := hwp.1 c41
    exact x_sub [1, 2, 3, 0] rfl (t_Rm_isWorked_57 G C0 hR hr hlk  _ _ _ _ _ hwp)
  · replace hwp := hwp.2 c41
    refine x_aload_n C0 1 d_Rm_isWorked_44 rfl rfl ?_
    refine x_iload_n C0 2 d_Rm_isWorked_45 rfl rfl ?_
    refine x_iconst (v := 5) C0 d_Rm_isWorked_46 (by decide) ?_
    obtain ⟨g47, hwp⟩ := hwp
    refine x_callVi0 (k := l0) (As := [.int l1, .int (5 : Int32)]) (st := []) C0 (c_Rm_isTold l G hwp) kw_3_206 mk_Rm_isTold vk_Rm_isTold rfl g47 rfl (Nat.le_of_ble_eq_true rfl) rfl rfl ⟨Nat.le_trans (by decide) hR.1, Nat.le_trans (by decide) hR.2.1⟩ ⟨Nat.zero_le _, Nat.zero_le _⟩ rfl d_Rm_isWorked_47 (fun r47 h47 hwp => ?_)
    refine x_if_ne (tgt := 57) C0 d_Rm_isWorked_50 (by decide) (fun c50 => ?_) (fun c50 => ?_)
    · replace hwp := hwp.1 c50
      exact x_sub [1, 2, 3, 0] rfl (t_Rm_isWorked_57 G C0 hR hr hlk  _ _ _ _ _ hwp)
    · replace hwp := hwp.2 c50
      refine x_iconst (v := 1) C0 d_Rm_isWorked_53 (by decide) ?_
      refine x_goto (tgt := 58) C0 d_Rm_isWorked_54 (by decide) ?_
      exact x_sub [1, 2, 3, 0] rfl (t_Rm_isWorked_58 G C0 hR hr hlk  _ _ _ _ _ _ hwp)
set_option maxRecDepth 100000 in
set_option maxHeartbeats 4000000 in
theorem t_Rm_isWorked_33 {p : Program} {l : Launch} {e : Env} {R : Room} {s : State} {m : MethodId} {args : Array Value} {below : List Frame} {meth : Method} {c : Code} (G : mG) (C0 : Cx G p s m args c prog_8_method_19_code 5 "BassRealiserModel") (hR : 1 ≤ R.frames ∧ 22 ≤ R.locals ∧ 0 ≤ R.cells ∧ 0 ≤ R.slots) (hr : meth.sig.returnType = some .boolean) (hlk : meth.locks = false) {Post : Int32 → MH → Prop} (l0 : Nat) (l1 : Int32) (l2 : Int32) (h : MH) (hwp : wp_Rm_isWorked_33 Post l0 l1 l2 h) : WG p l e R s m args below meth c 0 0 (MQ below (va_Qi Post (Wd G) (mA G)) args s 0 0 (mA G)) G 5 [(0, .ref (m_b G + l0)), (1, .int l1), (2, .int l2)] 33 [] h := by
  unfold wp_Rm_isWorked_33 at hwp
  refine x_iconst (v := 0) C0 d_Rm_isWorked_33 (by decide) ?_
  exact x_sub [0, 1, 2] rfl (t_Rm_isWorked_34 G C0 hR hr hlk  _ _ _ _ _ hwp)
set_option maxRecDepth 100000 in
set_option maxHeartbeats 4000000 in
theorem t_Rm_isWorked {p : Program} {l : Launch} {e : Env} {R : Room} {s : State} {m : MethodId} {args : Array Value} {below : List Frame} {meth : Method} {c : Code} (G : mG) (C0 : Cx G p s m args c prog_8_method_19_code 5 "BassRealiserModel") (hR : 1 ≤ R.frames ∧ 22 ≤ R.locals ∧ 0 ≤ R.cells ∧ 0 ≤ R.slots) (hr : meth.sig.returnType = some .boolean) (hlk : meth.locks = false) {Post : Int32 → MH → Prop} (l0 : Nat) (l1 : Int32) (l2 : Int32) (h : MH) (hwp : wp_Rm_isWorked Post l0 l1 l2 h) : WG p l e R s m args below meth c 0 0 (MQ below (va_Qi Post (Wd G) (mA G)) args s 0 0 (mA G)) G 5 [(0, .ref (m_b G + l0)), (1, .int l1), (2, .int l2)] 0 [] h := by
  unfold wp_Rm_isWorked at hwp
  refine x_aload_n C0 0 d_Rm_isWorked_0 rfl rfl ?_
  refine x_iload_n C0 1 d_Rm_isWorked_1 rfl rfl ?_
  refine x_iload_n C0 2 d_Rm_isWorked_2 rfl rfl ?_
  obtain ⟨g3, hwp⟩ := hwp
  refine x_callVi0 (k := l0) (As := [.int l1, .int l2]) (st := []) C0 (c_Rm_isTold l G hwp) kw_3_206 mk_Rm_isTold vk_Rm_isTold rfl g3 rfl (Nat.le_of_ble_eq_true rfl) rfl rfl ⟨Nat.le_trans (by decide) hR.1, Nat.le_trans (by decide) hR.2.1⟩ ⟨Nat.zero_le _, Nat.zero_le _⟩ rfl d_Rm_isWorked_3 (fun r3 h3 hwp => ?_)
  refine x_if_eq (tgt := 11) C0 d_Rm_isWorked_6 (by decide) (fun c6 => ?_) (fun c6 => ?_)
  · replace hwp := hwp.1 c6
    refine x_aload_n C0 0 d_Rm_isWorked_11 rfl rfl ?_
    refine x_iload_n C0 1 d_Rm_isWorked_12 rfl rfl ?_
    refine x_iconst (v := 3) C0 d_Rm_isWorked_13 (by decide) ?_
    obtain ⟨g14, hwp⟩ := hwp
    refine x_callVi0 (k := l0) (As := [.int l1, .int (3 : Int32)]) (st := []) C0 (c_Rm_isTold l G hwp) kw_3_206 mk_Rm_isTold vk_Rm_isTold rfl g14 rfl (Nat.le_of_ble_eq_true rfl) rfl rfl ⟨Nat.le_trans (by decide) hR.1, Nat.le_trans (by decide) hR.2.1⟩ ⟨Nat.zero_le _, Nat.zero_le _⟩ rfl d_Rm_isWorked_14 (fun r14 h14 hwp => ?_)
    refine x_if_eq (tgt := 33) C0 d_Rm_isWorked_17 (by decide) (fun c17 => ?_) (fun c17 => ?_)
    · replace hwp := hwp.1 c17
      exact x_sub [0, 1, 2] rfl (t_Rm_isWorked_33 G C0 hR hr hlk  _ _ _ _ hwp)
    · replace hwp := hwp.2 c17
      refine x_aload_n C0 0 d_Rm_isWorked_20 rfl rfl ?_
      refine x_iload_n C0 1 d_Rm_isWorked_21 rfl rfl ?_
      refine x_iconst (v := 4) C0 d_Rm_isWorked_22 (by decide) ?_
      obtain ⟨g23, hwp⟩ := hwp
      refine x_callVi0 (k := l0) (As := [.int l1, .int (4 : Int32)]) (st := []) C0 (c_Rm_isTold l G hwp) kw_3_206 mk_Rm_isTold vk_Rm_isTold rfl g23 rfl (Nat.le_of_ble_eq_true rfl) rfl rfl ⟨Nat.le_trans (by decide) hR.1, Nat.le_trans (by decide) hR.2.1⟩ ⟨Nat.zero_le _, Nat.zero_le _⟩ rfl d_Rm_isWorked_23 (fun r23 h23 hwp => ?_)
      refine x_if_eq (tgt := 33) C0 d_Rm_isWorked_26 (by decide) (fun c26 => ?_) (fun c26 => ?_)
      · replace hwp := hwp.1 c26
        exact x_sub [0, 1, 2] rfl (t_Rm_isWorked_33 G C0 hR hr hlk  _ _ _ _ hwp)
      · replace hwp := hwp.2 c26
        refine x_iconst (v := 1) C0 d_Rm_isWorked_29 (by decide) ?_
        refine x_goto (tgt := 34) C0 d_Rm_isWorked_30 (by decide) ?_
        exact x_sub [0, 1, 2] rfl (t_Rm_isWorked_34 G C0 hR hr hlk  _ _ _ _ _ hwp)
  · replace hwp := hwp.2 c6
    refine x_iconst (v := 1) C0 d_Rm_isWorked_9 (by decide) ?_
    exact x_zret C0 hr rfl hlk hwp d_Rm_isWorked_10
set_option maxRecDepth 100000 in
set_option maxHeartbeats 4000000 in
theorem c_Rm_isWorked (l : Launch) (G : mG) {Post : Int32 → MH → Prop} {l0 : Nat} {l1 : Int32} {l2 : Int32} {h : MH} (hwp : wp_Rm_isWorked Post l0 l1 l2 h) : Met l y_Rm_isWorked (Cond.code y_Rm_isWorked prog_8_method_19_code 5 (Option.some Jvm.ClassFile.FieldType.boolean) :: lw_good) ({ frames := 1, cells := 0, slots := 0, locals := 22 }) (va_Pc [.ref (m_b G + l0), .int l1, .int l2] (Wd G h)) (va_Qi Post (Wd G) (mA G)) 0 0 (mA G) := by
  refine Met.ofW (cc := prog_8_method_19_code) (maxL := 5) (ret := (Option.some Jvm.ClassFile.FieldType.boolean)) (by decide +kernel) rfl ?_
  intro p e s m args below meth c s₁ B hml hv
  obtain ⟨rfl, hP, hz, hK, hSt⟩ := hv
  have hts := atoms_spec (ws := Cond.code y_Rm_isWorked prog_8_method_19_code 5 (Option.some Jvm.ClassFile.FieldType.boolean) :: lw_good) B.pre
  have C0 : Cx G p s m ([.ref (m_b G + l0), .int l1, .int l2] : List Value).toArray c prog_8_method_19_code 5 "BassRealiserModel" := ⟨⟨B.exec, B.bytes, hml, findClass_of_methodNamed B.named, fun w h => hts w (List.mem_cons_of_mem _ h)⟩, hK, hSt, by rw [hz]; exact Nat.le_add_right _ _⟩
  have hl := lv_entry ([.ref (m_b G + l0), .int l1, .int l2]) (n := 5) (Nat.le_of_ble_eq_true rfl)
  rw [lg_entry_eq]
  exact t_Rm_isWorked G C0 ⟨Nat.le_refl _, Nat.le_refl _, Nat.le_refl _, Nat.le_refl _⟩ B.returns B.notSynchronized _ _ _ _ hwp _ _ _ ⟨hP, hz, va_S.rf⟩ hl
def wp_Rm_many_i1_26 (K4 : Nat → Int32 → Int32 → Int32 → MH → Prop) (Post : Int32 → MH → Prop) (l0 : Nat) (l1 : Int32) (l3 : Int32) (y0 : Int32) (h : MH) : Prop :=
  K4 l0 l1 y0 (l3 + (1 : Int32)) h
def wb_Rm_many_i1_4 (K4 : Nat → Int32 → Int32 → Int32 → MH → Prop) (Post : Int32 → MH → Prop) (l0 : Nat) (l1 : Int32) (l2 : Int32) (l3 : Int32) (h : MH) : Prop :=
  (((10 : Int32) ≤ l3) →
    (Post l2 h)) ∧
  ((¬ (10 : Int32) ≤ l3) →
    (gC h l0 = some 6 ∧ wp_Rm_isWorked (fun (r13 : Int32) (h13 : MH) =>
        (((r13 = 0) →
            (wp_Rm_many_i1_26 K4 Post l0 l1 l3 l2 h13)) ∧
          ((¬ r13 = 0) →
            (wp_Rm_many_i1_26 K4 Post l0 l1 l3 (l2 + (1 : Int32)) h13)))) l0 l1 l3 h))
def wn_Rm_many_i1_4 (Post : Int32 → MH → Prop) : Nat → Nat → Int32 → Int32 → Int32 → MH → Prop
  | 0 => fun _ _ _ _ _ => False
  | n + 1 => wb_Rm_many_i1_4 (wn_Rm_many_i1_4 Post n) Post
def wp_Rm_many_i1_4 (Post : Int32 → MH → Prop) (l0 : Nat) (l1 : Int32) (l2 : Int32) (l3 : Int32) (h : MH) : Prop := ∃ n, wn_Rm_many_i1_4 Post n l0 l1 l2 l3 h
def wp_Rm_many_i1 (Post : Int32 → MH → Prop) (l0 : Nat) (l1 : Int32) (h : MH) : Prop :=
  wp_Rm_many_i1_4 Post l0 l1 (0 : Int32) (2 : Int32) h
set_option maxRecDepth 100000 in
set_option maxHeartbeats 4000000 in
theorem t_Rm_many_i1_26 {p : Program} {l : Launch} {e : Env} {R : Room} {s : State} {m : MethodId} {args : Array Value} {below : List Frame} {meth : Method} {c : Code} (G : mG) (C0 : Cx G p s m args c prog_8_method_20_code 4 "BassRealiserModel") (hR : 2 ≤ R.frames ∧ 46 ≤ R.locals ∧ 0 ≤ R.cells ∧ 0 ≤ R.slots) (hr : meth.sig.returnType = some .int) (hlk : meth.locks = false) {Post : Int32 → MH → Prop} {K4 : Nat → Int32 → Int32 → Int32 → MH → Prop} (hK4 : ∀ (l0 : Nat) (l1 : Int32) (l2 : Int32) (l3 : Int32) (h : MH), K4 l0 l1 l2 l3 h → WG p l e R s m args below meth c 0 0 (MQ below (va_Qi Post (Wd G) (mA G)) args s 0 0 (mA G)) G 4 [(0, .ref (m_b G + l0)), (1, .int l1), (2, .int l2), (3, .int l3)] 4 [] h) (l0 : Nat) (l1 : Int32) (l3 : Int32) (y0 : Int32) (h : MH) (hwp : wp_Rm_many_i1_26 K4 Post l0 l1 l3 y0 h) : WG p l e R s m args below meth c 0 0 (MQ below (va_Qi Post (Wd G) (mA G)) args s 0 0 (mA G)) G 4 [(0, .ref (m_b G + l0)), (1, .int l1), (3, .int l3)] 26 [.int y0] h := by
  unfold wp_Rm_many_i1_26 at hwp
  refine x_istore_n C0 d_Rm_many_i1_26 rfl (by decide) (lv' := [(2, .int y0), (0, .ref (m_b G + l0)), (1, .int l1), (3, .int l3)]) rfl ?_
  refine x_iinc C0 3 d_Rm_many_i1_27 rfl rfl (by decide) (lv' := [(3, .int (l3 + (1 : Int32))), (2, .int y0), (0, .ref (m_b G + l0)), (1, .int l1)]) rfl ?_
  refine x_goto (tgt := 4) C0 d_Rm_many_i1_30 (by decide) ?_
  exact x_sub [2, 3, 1, 0] rfl (hK4 _ _ _ _ _ hwp)
set_option maxRecDepth 100000 in
set_option maxHeartbeats 4000000 in
theorem tb_Rm_many_i1_4 {p : Program} {l : Launch} {e : Env} {R : Room} {s : State} {m : MethodId} {args : Array Value} {below : List Frame} {meth : Method} {c : Code} (G : mG) (C0 : Cx G p s m args c prog_8_method_20_code 4 "BassRealiserModel") (hR : 2 ≤ R.frames ∧ 46 ≤ R.locals ∧ 0 ≤ R.cells ∧ 0 ≤ R.slots) (hr : meth.sig.returnType = some .int) (hlk : meth.locks = false) {Post : Int32 → MH → Prop} {K4 : Nat → Int32 → Int32 → Int32 → MH → Prop} (hK4 : ∀ (l0 : Nat) (l1 : Int32) (l2 : Int32) (l3 : Int32) (h : MH), K4 l0 l1 l2 l3 h → WG p l e R s m args below meth c 0 0 (MQ below (va_Qi Post (Wd G) (mA G)) args s 0 0 (mA G)) G 4 [(0, .ref (m_b G + l0)), (1, .int l1), (2, .int l2), (3, .int l3)] 4 [] h) (l0 : Nat) (l1 : Int32) (l2 : Int32) (l3 : Int32) (h : MH) (hwp : wb_Rm_many_i1_4 K4 Post l0 l1 l2 l3 h) : WG p l e R s m args below meth c 0 0 (MQ below (va_Qi Post (Wd G) (mA G)) args s 0 0 (mA G)) G 4 [(0, .ref (m_b G + l0)), (1, .int l1), (2, .int l2), (3, .int l3)] 4 [] h := by
  unfold wb_Rm_many_i1_4 at hwp
  refine x_iload_n C0 3 d_Rm_many_i1_4 rfl rfl ?_
  refine x_bipush (v := 10) C0 d_Rm_many_i1_5 (by decide) ?_
  refine x_icmp_ge (tgt := 33) C0 d_Rm_many_i1_7 (by decide) (fun c7 => ?_) (fun c7 => ?_)
  · replace hwp := hwp.1 c7
    refine x_iload_n C0 2 d_Rm_many_i1_33 rfl rfl ?_
    exact x_iret C0 hr hlk hwp d_Rm_many_i1_34
  · replace hwp := hwp.2 c7
    refine x_aload_n C0 0 d_Rm_many_i1_10 rfl rfl ?_
    refine x_iload_n C0 1 d_Rm_many_i1_11 rfl rfl ?_
    refine x_iload_n C0 3 d_Rm_many_i1_12 rfl rfl ?_
    obtain ⟨g13, hwp⟩ := hwp
    refine x_callVi0 (k := l0) (As := [.int l1, .int l3]) (st := []) C0 (c_Rm_isWorked l G hwp) kw_3_202 mk_Rm_isWorked vk_Rm_isWorked rfl g13 rfl (Nat.le_of_ble_eq_true rfl) rfl rfl ⟨Nat.le_trans (by decide) hR.1, Nat.le_trans (by decide) hR.2.1⟩ ⟨Nat.zero_le _, Nat.zero_le _⟩ rfl d_Rm_many_i1_13 (fun r13 h13 hwp => ?_)
    refine x_if_eq (tgt := 25) C0 d_Rm_many_i1_16 (by decide) (fun c16 => ?_) (fun c16 => ?_)
    · replace hwp := hwp.1 c16
      refine x_iload_n C0 2 d_Rm_many_i1_25 rfl rfl ?_
      exact x_sub [0, 1, 3] rfl (t_Rm_many_i1_26 G C0 hR hr hlk hK4 _ _ _ _ _ hwp)
    · replace hwp := hwp.2 c16
      refine x_iload_n C0 2 d_Rm_many_i1_19 rfl rfl ?_
      refine x_iconst (v := 1) C0 d_Rm_many_i1_20 (by decide) ?_
      refine x_iadd C0 d_Rm_many_i1_21 ?_
      refine x_goto (tgt := 26) C0 d_Rm_many_i1_22 (by decide) ?_
      exact x_sub [0, 1, 3] rfl (t_Rm_many_i1_26 G C0 hR hr hlk hK4 _ _ _ _ _ hwp)
theorem t_Rm_many_i1_4 {p : Program} {l : Launch} {e : Env} {R : Room} {s : State} {m : MethodId} {args : Array Value} {below : List Frame} {meth : Method} {c : Code} (G : mG) (C0 : Cx G p s m args c prog_8_method_20_code 4 "BassRealiserModel") (hR : 2 ≤ R.frames ∧ 46 ≤ R.locals ∧ 0 ≤ R.cells ∧ 0 ≤ R.slots) (hr : meth.sig.returnType = some .int) (hlk : meth.locks = false) {Post : Int32 → MH → Prop} (l0 : Nat) (l1 : Int32) (l2 : Int32) (l3 : Int32) (h : MH) (hwp : wp_Rm_many_i1_4 Post l0 l1 l2 l3 h) : WG p l e R s m args below meth c 0 0 (MQ below (va_Qi Post (Wd G) (mA G)) args s 0 0 (mA G)) G 4 [(0, .ref (m_b G + l0)), (1, .int l1), (2, .int l2), (3, .int l3)] 4 [] h := by
  obtain ⟨n, hwp⟩ := hwp
  induction n generalizing l0 l1 l2 l3 h with
  | zero => exact False.elim hwp
  | succ n ih => exact tb_Rm_many_i1_4 G C0 hR hr hlk (fun l0 l1 l2 l3 h hwp => ih l0 l1 l2 l3 h hwp) l0 l1 l2 l3 h hwp
set_option maxRecDepth 100000 in
set_option maxHeartbeats 4000000 in
theorem t_Rm_many_i1 {p : Program} {l : Launch} {e : Env} {R : Room} {s : State} {m : MethodId} {args : Array Value} {below : List Frame} {meth : Method} {c : Code} (G : mG) (C0 : Cx G p s m args c prog_8_method_20_code 4 "BassRealiserModel") (hR : 2 ≤ R.frames ∧ 46 ≤ R.locals ∧ 0 ≤ R.cells ∧ 0 ≤ R.slots) (hr : meth.sig.returnType = some .int) (hlk : meth.locks = false) {Post : Int32 → MH → Prop} (l0 : Nat) (l1 : Int32) (h : MH) (hwp : wp_Rm_many_i1 Post l0 l1 h) : WG p l e R s m args below meth c 0 0 (MQ below (va_Qi Post (Wd G) (mA G)) args s 0 0 (mA G)) G 4 [(0, .ref (m_b G + l0)), (1, .int l1)] 0 [] h := by
  unfold wp_Rm_many_i1 at hwp
  refine x_iconst (v := 0) C0 d_Rm_many_i1_0 (by decide) ?_
  refine x_istore_n C0 d_Rm_many_i1_1 rfl (by decide) (lv' := [(2, .int (0 : Int32)), (0, .ref (m_b G + l0)), (1, .int l1)]) rfl ?_
  refine x_iconst (v := 2) C0 d_Rm_many_i1_2 (by decide) ?_
  refine x_istore_n C0 d_Rm_many_i1_3 rfl (by decide) (lv' := [(3, .int (2 : Int32)), (2, .int (0 : Int32)), (0, .ref (m_b G + l0)), (1, .int l1)]) rfl ?_
  exact x_sub [2, 3, 1, 0] rfl (t_Rm_many_i1_4 G C0 hR hr hlk  _ _ _ _ _ hwp)
set_option maxRecDepth 100000 in
set_option maxHeartbeats 4000000 in
theorem c_Rm_many_i1 (l : Launch) (G : mG) {Post : Int32 → MH → Prop} {l0 : Nat} {l1 : Int32} {h : MH} (hwp : wp_Rm_many_i1 Post l0 l1 h) : Met l y_Rm_many_i1 (Cond.code y_Rm_many_i1 prog_8_method_20_code 4 (Option.some Jvm.ClassFile.FieldType.int) :: lw_good) ({ frames := 2, cells := 0, slots := 0, locals := 46 }) (va_Pc [.ref (m_b G + l0), .int l1] (Wd G h)) (va_Qi Post (Wd G) (mA G)) 0 0 (mA G) := by
  refine Met.ofW (cc := prog_8_method_20_code) (maxL := 4) (ret := (Option.some Jvm.ClassFile.FieldType.int)) (by decide +kernel) rfl ?_
  intro p e s m args below meth c s₁ B hml hv
  obtain ⟨rfl, hP, hz, hK, hSt⟩ := hv
  have hts := atoms_spec (ws := Cond.code y_Rm_many_i1 prog_8_method_20_code 4 (Option.some Jvm.ClassFile.FieldType.int) :: lw_good) B.pre
  have C0 : Cx G p s m ([.ref (m_b G + l0), .int l1] : List Value).toArray c prog_8_method_20_code 4 "BassRealiserModel" := ⟨⟨B.exec, B.bytes, hml, findClass_of_methodNamed B.named, fun w h => hts w (List.mem_cons_of_mem _ h)⟩, hK, hSt, by rw [hz]; exact Nat.le_add_right _ _⟩
  have hl := lv_entry ([.ref (m_b G + l0), .int l1]) (n := 4) (Nat.le_of_ble_eq_true rfl)
  rw [lg_entry_eq]
  exact t_Rm_many_i1 G C0 ⟨Nat.le_refl _, Nat.le_refl _, Nat.le_refl _, Nat.le_refl _⟩ B.returns B.notSynchronized _ _ _ hwp _ _ _ ⟨hP, hz, va_S.rf⟩ hl
