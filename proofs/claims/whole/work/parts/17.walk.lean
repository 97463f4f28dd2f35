theorem d_Rm_tryAll_0 : decode prog_8_method_35_code 0 = .ok (.aload_n 0, 1) := by decide +kernel
theorem d_Rm_tryAll_1 : decode prog_8_method_35_code 1 = .ok (.getfield 66, 3) := by decide +kernel
theorem d_Rm_tryAll_4 : decode prog_8_method_35_code 4 = .ok (.iload_n 1, 1) := by decide +kernel
theorem d_Rm_tryAll_5 : decode prog_8_method_35_code 5 = .ok (.iconst 0, 1) := by decide +kernel
theorem d_Rm_tryAll_6 : decode prog_8_method_35_code 6 = .ok (.iastore, 1) := by decide +kernel
theorem d_Rm_tryAll_7 : decode prog_8_method_35_code 7 = .ok (.aload_n 0, 1) := by decide +kernel
theorem d_Rm_tryAll_8 : decode prog_8_method_35_code 8 = .ok (.iload_n 1, 1) := by decide +kernel
theorem d_Rm_tryAll_9 : decode prog_8_method_35_code 9 = .ok (.invokevirtual 170, 3) := by decide +kernel
theorem d_Rm_tryAll_12 : decode prog_8_method_35_code 12 = .ok (.aload_n 0, 1) := by decide +kernel
theorem d_Rm_tryAll_13 : decode prog_8_method_35_code 13 = .ok (.getfield 48, 3) := by decide +kernel
theorem d_Rm_tryAll_16 : decode prog_8_method_35_code 16 = .ok (.iconst 3, 1) := by decide +kernel
theorem d_Rm_tryAll_17 : decode prog_8_method_35_code 17 = .ok (.aload_n 0, 1) := by decide +kernel
theorem d_Rm_tryAll_18 : decode prog_8_method_35_code 18 = .ok (.iload_n 1, 1) := by decide +kernel
theorem d_Rm_tryAll_19 : decode prog_8_method_35_code 19 = .ok (.invokevirtual 124, 3) := by decide +kernel
theorem d_Rm_tryAll_22 : decode prog_8_method_35_code 22 = .ok (.iastore, 1) := by decide +kernel
theorem d_Rm_tryAll_23 : decode prog_8_method_35_code 23 = .ok (.aload_n 0, 1) := by decide +kernel
theorem d_Rm_tryAll_24 : decode prog_8_method_35_code 24 = .ok (.getfield 26, 3) := by decide +kernel
theorem d_Rm_tryAll_27 : decode prog_8_method_35_code 27 = .ok (.iconst 0, 1) := by decide +kernel
theorem d_Rm_tryAll_28 : decode prog_8_method_35_code 28 = .ok (.iaload, 1) := by decide +kernel
theorem d_Rm_tryAll_29 : decode prog_8_method_35_code 29 = .ok (.istore_n 2, 1) := by decide +kernel
theorem d_Rm_tryAll_30 : decode prog_8_method_35_code 30 = .ok (.iload_n 2, 1) := by decide +kernel
theorem d_Rm_tryAll_31 : decode prog_8_method_35_code 31 = .ok (.aload_n 0, 1) := by decide +kernel
theorem d_Rm_tryAll_32 : decode prog_8_method_35_code 32 = .ok (.getfield 29, 3) := by decide +kernel
theorem d_Rm_tryAll_35 : decode prog_8_method_35_code 35 = .ok (.iconst 0, 1) := by decide +kernel
theorem d_Rm_tryAll_36 : decode prog_8_method_35_code 36 = .ok (.iaload, 1) := by decide +kernel
theorem d_Rm_tryAll_37 : decode prog_8_method_35_code 37 = .ok (.if_icmp .gt 173, 3) := by decide +kernel
theorem d_Rm_tryAll_40 : decode prog_8_method_35_code 40 = .ok (.aload_n 0, 1) := by decide +kernel
theorem d_Rm_tryAll_41 : decode prog_8_method_35_code 41 = .ok (.getfield 26, 3) := by decide +kernel
theorem d_Rm_tryAll_44 : decode prog_8_method_35_code 44 = .ok (.iconst 1, 1) := by decide +kernel
theorem d_Rm_tryAll_45 : decode prog_8_method_35_code 45 = .ok (.iaload, 1) := by decide +kernel
theorem d_Rm_tryAll_46 : decode prog_8_method_35_code 46 = .ok (.istore_n 3, 1) := by decide +kernel
theorem d_Rm_tryAll_47 : decode prog_8_method_35_code 47 = .ok (.iload_n 3, 1) := by decide +kernel
theorem d_Rm_tryAll_48 : decode prog_8_method_35_code 48 = .ok (.aload_n 0, 1) := by decide +kernel
theorem d_Rm_tryAll_49 : decode prog_8_method_35_code 49 = .ok (.getfield 29, 3) := by decide +kernel
theorem d_Rm_tryAll_52 : decode prog_8_method_35_code 52 = .ok (.iconst 1, 1) := by decide +kernel
theorem d_Rm_tryAll_53 : decode prog_8_method_35_code 53 = .ok (.iaload, 1) := by decide +kernel
theorem d_Rm_tryAll_54 : decode prog_8_method_35_code 54 = .ok (.if_icmp .gt 150, 3) := by decide +kernel
theorem d_Rm_tryAll_57 : decode prog_8_method_35_code 57 = .ok (.aload_n 0, 1) := by decide +kernel
theorem d_Rm_tryAll_58 : decode prog_8_method_35_code 58 = .ok (.getfield 26, 3) := by decide +kernel
theorem d_Rm_tryAll_61 : decode prog_8_method_35_code 61 = .ok (.iconst 2, 1) := by decide +kernel
theorem d_Rm_tryAll_62 : decode prog_8_method_35_code 62 = .ok (.iaload, 1) := by decide +kernel
theorem d_Rm_tryAll_63 : decode prog_8_method_35_code 63 = .ok (.istore 4, 2) := by decide +kernel
theorem d_Rm_tryAll_65 : decode prog_8_method_35_code 65 = .ok (.iload 4, 2) := by decide +kernel
theorem d_Rm_tryAll_67 : decode prog_8_method_35_code 67 = .ok (.aload_n 0, 1) := by decide +kernel
theorem d_Rm_tryAll_68 : decode prog_8_method_35_code 68 = .ok (.getfield 29, 3) := by decide +kernel
theorem d_Rm_tryAll_71 : decode prog_8_method_35_code 71 = .ok (.iconst 2, 1) := by decide +kernel
theorem d_Rm_tryAll_72 : decode prog_8_method_35_code 72 = .ok (.iaload, 1) := by decide +kernel
theorem d_Rm_tryAll_73 : decode prog_8_method_35_code 73 = .ok (.if_icmp .gt 125, 3) := by decide +kernel
theorem d_Rm_tryAll_76 : decode prog_8_method_35_code 76 = .ok (.iload_n 3, 1) := by decide +kernel
theorem d_Rm_tryAll_77 : decode prog_8_method_35_code 77 = .ok (.iload_n 2, 1) := by decide +kernel
theorem d_Rm_tryAll_78 : decode prog_8_method_35_code 78 = .ok (.if_icmp .gt 120, 3) := by decide +kernel
theorem d_Rm_tryAll_81 : decode prog_8_method_35_code 81 = .ok (.aload_n 0, 1) := by decide +kernel
theorem d_Rm_tryAll_82 : decode prog_8_method_35_code 82 = .ok (.getfield 48, 3) := by decide +kernel
theorem d_Rm_tryAll_85 : decode prog_8_method_35_code 85 = .ok (.iconst 0, 1) := by decide +kernel
theorem d_Rm_tryAll_86 : decode prog_8_method_35_code 86 = .ok (.iload_n 2, 1) := by decide +kernel
theorem d_Rm_tryAll_87 : decode prog_8_method_35_code 87 = .ok (.iastore, 1) := by decide +kernel
theorem d_Rm_tryAll_88 : decode prog_8_method_35_code 88 = .ok (.aload_n 0, 1) := by decide +kernel
theorem d_Rm_tryAll_89 : decode prog_8_method_35_code 89 = .ok (.getfield 48, 3) := by decide +kernel
theorem d_Rm_tryAll_92 : decode prog_8_method_35_code 92 = .ok (.iconst 1, 1) := by decide +kernel
theorem d_Rm_tryAll_93 : decode prog_8_method_35_code 93 = .ok (.iload_n 3, 1) := by decide +kernel
theorem d_Rm_tryAll_94 : decode prog_8_method_35_code 94 = .ok (.iastore, 1) := by decide +kernel
theorem d_Rm_tryAll_95 : decode prog_8_method_35_code 95 = .ok (.aload_n 0, 1) := by decide +kernel
theorem d_Rm_tryAll_96 : decode prog_8_method_35_code 96 = .ok (.getfield 48, 3) := by decide +kernel
theorem d_Rm_tryAll_99 : decode prog_8_method_35_code 99 = .ok (.iconst 2, 1) := by decide +kernel
theorem d_Rm_tryAll_100 : decode prog_8_method_35_code 100 = .ok (.iload 4, 2) := by decide +kernel
theorem d_Rm_tryAll_102 : decode prog_8_method_35_code 102 = .ok (.iastore, 1) := by decide +kernel
theorem d_Rm_tryAll_103 : decode prog_8_method_35_code 103 = .ok (.iload 4, 2) := by decide +kernel
theorem d_Rm_tryAll_105 : decode prog_8_method_35_code 105 = .ok (.iload_n 3, 1) := by decide +kernel
theorem d_Rm_tryAll_106 : decode prog_8_method_35_code 106 = .ok (.if_icmp .gt 86, 3) := by decide +kernel
theorem d_Rm_tryAll_109 : decode prog_8_method_35_code 109 = .ok (.aload_n 0, 1) := by decide +kernel
theorem d_Rm_tryAll_110 : decode prog_8_method_35_code 110 = .ok (.iload_n 1, 1) := by decide +kernel
theorem d_Rm_tryAll_111 : decode prog_8_method_35_code 111 = .ok (.invokevirtual 174, 3) := by decide +kernel
theorem d_Rm_tryAll_114 : decode prog_8_method_35_code 114 = .ok (.ifCond .ne 78, 3) := by decide +kernel
theorem d_Rm_tryAll_117 : decode prog_8_method_35_code 117 = .ok (.aload_n 0, 1) := by decide +kernel
theorem d_Rm_tryAll_118 : decode prog_8_method_35_code 118 = .ok (.getfield 63, 3) := by decide +kernel
theorem d_Rm_tryAll_121 : decode prog_8_method_35_code 121 = .ok (.iconst 3, 1) := by decide +kernel
theorem d_Rm_tryAll_122 : decode prog_8_method_35_code 122 = .ok (.sipush 800, 3) := by decide +kernel
theorem d_Rm_tryAll_125 : decode prog_8_method_35_code 125 = .ok (.iload_n 1, 1) := by decide +kernel
theorem d_Rm_tryAll_126 : decode prog_8_method_35_code 126 = .ok (.imul, 1) := by decide +kernel
theorem d_Rm_tryAll_127 : decode prog_8_method_35_code 127 = .ok (.aload_n 0, 1) := by decide +kernel
theorem d_Rm_tryAll_128 : decode prog_8_method_35_code 128 = .ok (.getfield 66, 3) := by decide +kernel
theorem d_Rm_tryAll_131 : decode prog_8_method_35_code 131 = .ok (.iload_n 1, 1) := by decide +kernel
theorem d_Rm_tryAll_132 : decode prog_8_method_35_code 132 = .ok (.iaload, 1) := by decide +kernel
theorem d_Rm_tryAll_133 : decode prog_8_method_35_code 133 = .ok (.iadd, 1) := by decide +kernel
theorem d_Rm_tryAll_134 : decode prog_8_method_35_code 134 = .ok (.imul, 1) := by decide +kernel
theorem d_Rm_tryAll_135 : decode prog_8_method_35_code 135 = .ok (.iload_n 2, 1) := by decide +kernel
theorem d_Rm_tryAll_136 : decode prog_8_method_35_code 136 = .ok (.iastore, 1) := by decide +kernel
theorem d_Rm_tryAll_137 : decode prog_8_method_35_code 137 = .ok (.aload_n 0, 1) := by decide +kernel
theorem d_Rm_tryAll_138 : decode prog_8_method_35_code 138 = .ok (.getfield 63, 3) := by decide +kernel
theorem d_Rm_tryAll_141 : decode prog_8_method_35_code 141 = .ok (.iconst 3, 1) := by decide +kernel
theorem d_Rm_tryAll_142 : decode prog_8_method_35_code 142 = .ok (.sipush 800, 3) := by decide +kernel
theorem d_Rm_tryAll_145 : decode prog_8_method_35_code 145 = .ok (.iload_n 1, 1) := by decide +kernel
theorem d_Rm_tryAll_146 : decode prog_8_method_35_code 146 = .ok (.imul, 1) := by decide +kernel
theorem d_Rm_tryAll_147 : decode prog_8_method_35_code 147 = .ok (.aload_n 0, 1) := by decide +kernel
theorem d_Rm_tryAll_148 : decode prog_8_method_35_code 148 = .ok (.getfield 66, 3) := by decide +kernel
theorem d_Rm_tryAll_151 : decode prog_8_method_35_code 151 = .ok (.iload_n 1, 1) := by decide +kernel
theorem d_Rm_tryAll_152 : decode prog_8_method_35_code 152 = .ok (.iaload, 1) := by decide +kernel
theorem d_Rm_tryAll_153 : decode prog_8_method_35_code 153 = .ok (.iadd, 1) := by decide +kernel
theorem d_Rm_tryAll_154 : decode prog_8_method_35_code 154 = .ok (.imul, 1) := by decide +kernel
theorem d_Rm_tryAll_155 : decode prog_8_method_35_code 155 = .ok (.iconst 1, 1) := by decide +kernel
theorem d_Rm_tryAll_156 : decode prog_8_method_35_code 156 = .ok (.iadd, 1) := by decide +kernel
theorem d_Rm_tryAll_157 : decode prog_8_method_35_code 157 = .ok (.iload_n 3, 1) := by decide +kernel
theorem d_Rm_tryAll_158 : decode prog_8_method_35_code 158 = .ok (.iastore, 1) := by decide +kernel
theorem d_Rm_tryAll_159 : decode prog_8_method_35_code 159 = .ok (.aload_n 0, 1) := by decide +kernel
theorem d_Rm_tryAll_160 : decode prog_8_method_35_code 160 = .ok (.getfield 63, 3) := by decide +kernel
theorem d_Rm_tryAll_163 : decode prog_8_method_35_code 163 = .ok (.iconst 3, 1) := by decide +kernel
theorem d_Rm_tryAll_164 : decode prog_8_method_35_code 164 = .ok (.sipush 800, 3) := by decide +kernel
theorem d_Rm_tryAll_167 : decode prog_8_method_35_code 167 = .ok (.iload_n 1, 1) := by decide +kernel
theorem d_Rm_tryAll_168 : decode prog_8_method_35_code 168 = .ok (.imul, 1) := by decide +kernel
theorem d_Rm_tryAll_169 : decode prog_8_method_35_code 169 = .ok (.aload_n 0, 1) := by decide +kernel
theorem d_Rm_tryAll_170 : decode prog_8_method_35_code 170 = .ok (.getfield 66, 3) := by decide +kernel
theorem d_Rm_tryAll_173 : decode prog_8_method_35_code 173 = .ok (.iload_n 1, 1) := by decide +kernel
theorem d_Rm_tryAll_174 : decode prog_8_method_35_code 174 = .ok (.iaload, 1) := by decide +kernel
theorem d_Rm_tryAll_175 : decode prog_8_method_35_code 175 = .ok (.iadd, 1) := by decide +kernel
theorem d_Rm_tryAll_176 : decode prog_8_method_35_code 176 = .ok (.imul, 1) := by decide +kernel
theorem d_Rm_tryAll_177 : decode prog_8_method_35_code 177 = .ok (.iconst 2, 1) := by decide +kernel
theorem d_Rm_tryAll_178 : decode prog_8_method_35_code 178 = .ok (.iadd, 1) := by decide +kernel
theorem d_Rm_tryAll_179 : decode prog_8_method_35_code 179 = .ok (.iload 4, 2) := by decide +kernel
theorem d_Rm_tryAll_181 : decode prog_8_method_35_code 181 = .ok (.iastore, 1) := by decide +kernel
theorem d_Rm_tryAll_182 : decode prog_8_method_35_code 182 = .ok (.aload_n 0, 1) := by decide +kernel
theorem d_Rm_tryAll_183 : decode prog_8_method_35_code 183 = .ok (.getfield 66, 3) := by decide +kernel
theorem d_Rm_tryAll_186 : decode prog_8_method_35_code 186 = .ok (.iload_n 1, 1) := by decide +kernel
theorem d_Rm_tryAll_187 : decode prog_8_method_35_code 187 = .ok (.dup2, 1) := by decide +kernel
theorem d_Rm_tryAll_188 : decode prog_8_method_35_code 188 = .ok (.iaload, 1) := by decide +kernel
theorem d_Rm_tryAll_189 : decode prog_8_method_35_code 189 = .ok (.iconst 1, 1) := by decide +kernel
theorem d_Rm_tryAll_190 : decode prog_8_method_35_code 190 = .ok (.iadd, 1) := by decide +kernel
theorem d_Rm_tryAll_191 : decode prog_8_method_35_code 191 = .ok (.iastore, 1) := by decide +kernel
theorem d_Rm_tryAll_192 : decode prog_8_method_35_code 192 = .ok (.iinc 4 1, 3) := by decide +kernel
theorem d_Rm_tryAll_195 : decode prog_8_method_35_code 195 = .ok (.goto (-130), 3) := by decide +kernel
theorem d_Rm_tryAll_198 : decode prog_8_method_35_code 198 = .ok (.iinc 3 1, 3) := by decide +kernel
theorem d_Rm_tryAll_201 : decode prog_8_method_35_code 201 = .ok (.goto (-154), 3) := by decide +kernel
theorem d_Rm_tryAll_204 : decode prog_8_method_35_code 204 = .ok (.iinc 2 1, 3) := by decide +kernel
theorem d_Rm_tryAll_207 : decode prog_8_method_35_code 207 = .ok (.goto (-177), 3) := by decide +kernel
theorem d_Rm_tryAll_210 : decode prog_8_method_35_code 210 = .ok (.return_, 1) := by decide +kernel
theorem d_Rm_take_0 : decode prog_8_method_34_code 0 = .ok (.iconst 0, 1) := by decide +kernel
theorem d_Rm_take_1 : decode prog_8_method_34_code 1 = .ok (.istore 4, 2) := by decide +kernel
theorem d_Rm_take_3 : decode prog_8_method_34_code 3 = .ok (.iload 4, 2) := by decide +kernel
theorem d_Rm_take_5 : decode prog_8_method_34_code 5 = .ok (.iconst 3, 1) := by decide +kernel
theorem d_Rm_take_6 : decode prog_8_method_34_code 6 = .ok (.if_icmp .ge 30, 3) := by decide +kernel
theorem d_Rm_take_9 : decode prog_8_method_34_code 9 = .ok (.aload_n 3, 1) := by decide +kernel
theorem d_Rm_take_10 : decode prog_8_method_34_code 10 = .ok (.iload 4, 2) := by decide +kernel
theorem d_Rm_take_12 : decode prog_8_method_34_code 12 = .ok (.aload_n 0, 1) := by decide +kernel
theorem d_Rm_take_13 : decode prog_8_method_34_code 13 = .ok (.getfield 63, 3) := by decide +kernel
theorem d_Rm_take_16 : decode prog_8_method_34_code 16 = .ok (.iconst 3, 1) := by decide +kernel
theorem d_Rm_take_17 : decode prog_8_method_34_code 17 = .ok (.sipush 800, 3) := by decide +kernel
theorem d_Rm_take_20 : decode prog_8_method_34_code 20 = .ok (.iload_n 1, 1) := by decide +kernel
theorem d_Rm_take_21 : decode prog_8_method_34_code 21 = .ok (.imul, 1) := by decide +kernel
theorem d_Rm_take_22 : decode prog_8_method_34_code 22 = .ok (.iload_n 2, 1) := by decide +kernel
theorem d_Rm_take_23 : decode prog_8_method_34_code 23 = .ok (.iadd, 1) := by decide +kernel
theorem d_Rm_take_24 : decode prog_8_method_34_code 24 = .ok (.imul, 1) := by decide +kernel
theorem d_Rm_take_25 : decode prog_8_method_34_code 25 = .ok (.iload 4, 2) := by decide +kernel
theorem d_Rm_take_27 : decode prog_8_method_34_code 27 = .ok (.iadd, 1) := by decide +kernel
theorem d_Rm_take_28 : decode prog_8_method_34_code 28 = .ok (.iaload, 1) := by decide +kernel
theorem d_Rm_take_29 : decode prog_8_method_34_code 29 = .ok (.iastore, 1) := by decide +kernel
theorem d_Rm_take_30 : decode prog_8_method_34_code 30 = .ok (.iinc 4 1, 3) := by decide +kernel
theorem d_Rm_take_33 : decode prog_8_method_34_code 33 = .ok (.goto (-30), 3) := by decide +kernel
theorem d_Rm_take_36 : decode prog_8_method_34_code 36 = .ok (.aload_n 3, 1) := by decide +kernel
theorem d_Rm_take_37 : decode prog_8_method_34_code 37 = .ok (.iconst 3, 1) := by decide +kernel
theorem d_Rm_take_38 : decode prog_8_method_34_code 38 = .ok (.aload_n 0, 1) := by decide +kernel
theorem d_Rm_take_39 : decode prog_8_method_34_code 39 = .ok (.iload_n 1, 1) := by decide +kernel
theorem d_Rm_take_40 : decode prog_8_method_34_code 40 = .ok (.invokevirtual 124, 3) := by decide +kernel
theorem d_Rm_take_43 : decode prog_8_method_34_code 43 = .ok (.iastore, 1) := by decide +kernel
theorem d_Rm_take_44 : decode prog_8_method_34_code 44 = .ok (.return_, 1) := by decide +kernel
theorem d_Rm_far_0 : decode prog_8_method_36_code 0 = .ok (.iload_n 0, 1) := by decide +kernel
theorem d_Rm_far_1 : decode prog_8_method_36_code 1 = .ok (.iload_n 1, 1) := by decide +kernel
theorem d_Rm_far_2 : decode prog_8_method_36_code 2 = .ok (.if_icmp .le 9, 3) := by decide +kernel
theorem d_Rm_far_5 : decode prog_8_method_36_code 5 = .ok (.iload_n 0, 1) := by decide +kernel
theorem d_Rm_far_6 : decode prog_8_method_36_code 6 = .ok (.iload_n 1, 1) := by decide +kernel
theorem d_Rm_far_7 : decode prog_8_method_36_code 7 = .ok (.isub, 1) := by decide +kernel
theorem d_Rm_far_8 : decode prog_8_method_36_code 8 = .ok (.goto 6, 3) := by decide +kernel
theorem d_Rm_far_11 : decode prog_8_method_36_code 11 = .ok (.iload_n 1, 1) := by decide +kernel
theorem d_Rm_far_12 : decode prog_8_method_36_code 12 = .ok (.iload_n 0, 1) := by decide +kernel
theorem d_Rm_far_13 : decode prog_8_method_36_code 13 = .ok (.isub, 1) := by decide +kernel
theorem d_Rm_far_14 : decode prog_8_method_36_code 14 = .ok (.ireturn, 1) := by decide +kernel
theorem d_Rm_isParallel_0 : decode prog_8_method_32_code 0 = .ok (.aload_n 0, 1) := by decide +kernel
theorem d_Rm_isParallel_1 : decode prog_8_method_32_code 1 = .ok (.getfield 51, 3) := by decide +kernel
theorem d_Rm_isParallel_4 : decode prog_8_method_32_code 4 = .ok (.iload_n 1, 1) := by decide +kernel
theorem d_Rm_isParallel_5 : decode prog_8_method_32_code 5 = .ok (.iaload, 1) := by decide +kernel
theorem d_Rm_isParallel_6 : decode prog_8_method_32_code 6 = .ok (.aload_n 0, 1) := by decide +kernel
theorem d_Rm_isParallel_7 : decode prog_8_method_32_code 7 = .ok (.getfield 51, 3) := by decide +kernel
theorem d_Rm_isParallel_10 : decode prog_8_method_32_code 10 = .ok (.iload_n 2, 1) := by decide +kernel
theorem d_Rm_isParallel_11 : decode prog_8_method_32_code 11 = .ok (.iaload, 1) := by decide +kernel
theorem d_Rm_isParallel_12 : decode prog_8_method_32_code 12 = .ok (.isub, 1) := by decide +kernel
theorem d_Rm_isParallel_13 : decode prog_8_method_32_code 13 = .ok (.bipush 12, 2) := by decide +kernel
theorem d_Rm_isParallel_15 : decode prog_8_method_32_code 15 = .ok (.invokestatic 144, 3) := by decide +kernel
theorem d_Rm_isParallel_18 : decode prog_8_method_32_code 18 = .ok (.istore_n 3, 1) := by decide +kernel
theorem d_Rm_isParallel_19 : decode prog_8_method_32_code 19 = .ok (.aload_n 0, 1) := by decide +kernel
theorem d_Rm_isParallel_20 : decode prog_8_method_32_code 20 = .ok (.getfield 48, 3) := by decide +kernel
theorem d_Rm_isParallel_23 : decode prog_8_method_32_code 23 = .ok (.iload_n 1, 1) := by decide +kernel
theorem d_Rm_isParallel_24 : decode prog_8_method_32_code 24 = .ok (.iaload, 1) := by decide +kernel
theorem d_Rm_isParallel_25 : decode prog_8_method_32_code 25 = .ok (.aload_n 0, 1) := by decide +kernel
theorem d_Rm_isParallel_26 : decode prog_8_method_32_code 26 = .ok (.getfield 48, 3) := by decide +kernel
theorem d_Rm_isParallel_29 : decode prog_8_method_32_code 29 = .ok (.iload_n 2, 1) := by decide +kernel
theorem d_Rm_isParallel_30 : decode prog_8_method_32_code 30 = .ok (.iaload, 1) := by decide +kernel
theorem d_Rm_isParallel_31 : decode prog_8_method_32_code 31 = .ok (.isub, 1) := by decide +kernel
theorem d_Rm_isParallel_32 : decode prog_8_method_32_code 32 = .ok (.bipush 12, 2) := by decide +kernel
theorem d_Rm_isParallel_34 : decode prog_8_method_32_code 34 = .ok (.invokestatic 144, 3) := by decide +kernel
theorem d_Rm_isParallel_37 : decode prog_8_method_32_code 37 = .ok (.istore 4, 2) := by decide +kernel
theorem d_Rm_isParallel_39 : decode prog_8_method_32_code 39 = .ok (.aload_n 0, 1) := by decide +kernel
theorem d_Rm_isParallel_40 : decode prog_8_method_32_code 40 = .ok (.getfield 51, 3) := by decide +kernel
theorem d_Rm_isParallel_43 : decode prog_8_method_32_code 43 = .ok (.iload_n 1, 1) := by decide +kernel
theorem d_Rm_isParallel_44 : decode prog_8_method_32_code 44 = .ok (.iaload, 1) := by decide +kernel
theorem d_Rm_isParallel_45 : decode prog_8_method_32_code 45 = .ok (.aload_n 0, 1) := by decide +kernel
theorem d_Rm_isParallel_46 : decode prog_8_method_32_code 46 = .ok (.getfield 48, 3) := by decide +kernel
theorem d_Rm_isParallel_49 : decode prog_8_method_32_code 49 = .ok (.iload_n 1, 1) := by decide +kernel
theorem d_Rm_isParallel_50 : decode prog_8_method_32_code 50 = .ok (.iaload, 1) := by decide +kernel
theorem d_Rm_isParallel_51 : decode prog_8_method_32_code 51 = .ok (.if_icmp .eq 38, 3) := by decide +kernel
theorem d_Rm_isParallel_54 : decode prog_8_method_32_code 54 = .ok (.aload_n 0, 1) := by decide +kernel
theorem d_Rm_isParallel_55 : decode prog_8_method_32_code 55 = .ok (.getfield 51, 3) := by decide +kernel
theorem d_Rm_isParallel_58 : decode prog_8_method_32_code 58 = .ok (.iload_n 2, 1) := by decide +kernel
theorem d_Rm_isParallel_59 : decode prog_8_method_32_code 59 = .ok (.iaload, 1) := by decide +kernel
theorem d_Rm_isParallel_60 : decode prog_8_method_32_code 60 = .ok (.aload_n 0, 1) := by decide +kernel
theorem d_Rm_isParallel_61 : decode prog_8_method_32_code 61 = .ok (.getfield 48, 3) := by decide +kernel
theorem d_Rm_isParallel_64 : decode prog_8_method_32_code 64 = .ok (.iload_n 2, 1) := by decide +kernel
theorem d_Rm_isParallel_65 : decode prog_8_method_32_code 65 = .ok (.iaload, 1) := by decide +kernel
theorem d_Rm_isParallel_66 : decode prog_8_method_32_code 66 = .ok (.if_icmp .eq 23, 3) := by decide +kernel
theorem d_Rm_isParallel_69 : decode prog_8_method_32_code 69 = .ok (.iload_n 3, 1) := by decide +kernel
theorem d_Rm_isParallel_70 : decode prog_8_method_32_code 70 = .ok (.iload 4, 2) := by decide +kernel
theorem d_Rm_isParallel_72 : decode prog_8_method_32_code 72 = .ok (.if_icmp .ne 17, 3) := by decide +kernel
theorem d_Rm_isParallel_75 : decode prog_8_method_32_code 75 = .ok (.iload_n 3, 1) := by decide +kernel
theorem d_Rm_isParallel_76 : decode prog_8_method_32_code 76 = .ok (.ifCond .eq 9, 3) := by decide +kernel
theorem d_Rm_isParallel_79 : decode prog_8_method_32_code 79 = .ok (.iload_n 3, 1) := by decide +kernel
theorem d_Rm_isParallel_80 : decode prog_8_method_32_code 80 = .ok (.bipush 7, 2) := by decide +kernel
theorem d_Rm_isParallel_82 : decode prog_8_method_32_code 82 = .ok (.if_icmp .ne 7, 3) := by decide +kernel
theorem d_Rm_isParallel_85 : decode prog_8_method_32_code 85 = .ok (.iconst 1, 1) := by decide +kernel
theorem d_Rm_isParallel_86 : decode prog_8_method_32_code 86 = .ok (.goto 4, 3) := by decide +kernel
theorem d_Rm_isParallel_89 : decode prog_8_method_32_code 89 = .ok (.iconst 0, 1) := by decide +kernel
theorem d_Rm_isParallel_90 : decode prog_8_method_32_code 90 = .ok (.ireturn, 1) := by decide +kernel
theorem d_Rm_pairRule_0 : decode prog_8_method_33_code 0 = .ok (.iconst 0, 1) := by decide +kernel
theorem d_Rm_pairRule_1 : decode prog_8_method_33_code 1 = .ok (.istore_n 2, 1) := by decide +kernel
theorem d_Rm_pairRule_2 : decode prog_8_method_33_code 2 = .ok (.iconst 0, 1) := by decide +kernel
theorem d_Rm_pairRule_3 : decode prog_8_method_33_code 3 = .ok (.istore_n 3, 1) := by decide +kernel
theorem d_Rm_pairRule_4 : decode prog_8_method_33_code 4 = .ok (.iconst 0, 1) := by decide +kernel
theorem d_Rm_pairRule_5 : decode prog_8_method_33_code 5 = .ok (.istore 4, 2) := by decide +kernel
theorem d_Rm_pairRule_7 : decode prog_8_method_33_code 7 = .ok (.iconst 0, 1) := by decide +kernel
theorem d_Rm_pairRule_8 : decode prog_8_method_33_code 8 = .ok (.istore 5, 2) := by decide +kernel
theorem d_Rm_pairRule_10 : decode prog_8_method_33_code 10 = .ok (.iload 5, 2) := by decide +kernel
theorem d_Rm_pairRule_12 : decode prog_8_method_33_code 12 = .ok (.iconst 3, 1) := by decide +kernel
theorem d_Rm_pairRule_13 : decode prog_8_method_33_code 13 = .ok (.if_icmp .ge 40, 3) := by decide +kernel
theorem d_Rm_pairRule_16 : decode prog_8_method_33_code 16 = .ok (.iload_n 1, 1) := by decide +kernel
theorem d_Rm_pairRule_17 : decode prog_8_method_33_code 17 = .ok (.ifCond .le 36, 3) := by decide +kernel
theorem d_Rm_pairRule_20 : decode prog_8_method_33_code 20 = .ok (.aload_n 0, 1) := by decide +kernel
theorem d_Rm_pairRule_21 : decode prog_8_method_33_code 21 = .ok (.getfield 48, 3) := by decide +kernel
theorem d_Rm_pairRule_24 : decode prog_8_method_33_code 24 = .ok (.iload 5, 2) := by decide +kernel
theorem d_Rm_pairRule_26 : decode prog_8_method_33_code 26 = .ok (.iaload, 1) := by decide +kernel
theorem d_Rm_pairRule_27 : decode prog_8_method_33_code 27 = .ok (.aload_n 0, 1) := by decide +kernel
theorem d_Rm_pairRule_28 : decode prog_8_method_33_code 28 = .ok (.getfield 51, 3) := by decide +kernel
theorem d_Rm_pairRule_31 : decode prog_8_method_33_code 31 = .ok (.iload 5, 2) := by decide +kernel
theorem d_Rm_pairRule_33 : decode prog_8_method_33_code 33 = .ok (.iaload, 1) := by decide +kernel
theorem d_Rm_pairRule_34 : decode prog_8_method_33_code 34 = .ok (.invokestatic 164, 3) := by decide +kernel
theorem d_Rm_pairRule_37 : decode prog_8_method_33_code 37 = .ok (.aload_n 0, 1) := by decide +kernel
theorem d_Rm_pairRule_38 : decode prog_8_method_33_code 38 = .ok (.getfield 35, 3) := by decide +kernel
theorem d_Rm_pairRule_41 : decode prog_8_method_33_code 41 = .ok (.if_icmp .le 6, 3) := by decide +kernel
theorem d_Rm_pairRule_44 : decode prog_8_method_33_code 44 = .ok (.bipush 8, 2) := by decide +kernel
theorem d_Rm_pairRule_46 : decode prog_8_method_33_code 46 = .ok (.ireturn, 1) := by decide +kernel
theorem d_Rm_pairRule_47 : decode prog_8_method_33_code 47 = .ok (.iinc 5 1, 3) := by decide +kernel
theorem d_Rm_pairRule_50 : decode prog_8_method_33_code 50 = .ok (.goto (-40), 3) := by decide +kernel
theorem d_Rm_pairRule_53 : decode prog_8_method_33_code 53 = .ok (.iconst 0, 1) := by decide +kernel
theorem d_Rm_pairRule_54 : decode prog_8_method_33_code 54 = .ok (.istore 5, 2) := by decide +kernel
theorem d_Rm_pairRule_56 : decode prog_8_method_33_code 56 = .ok (.iload 5, 2) := by decide +kernel
theorem d_Rm_pairRule_58 : decode prog_8_method_33_code 58 = .ok (.iconst 3, 1) := by decide +kernel
theorem d_Rm_pairRule_59 : decode prog_8_method_33_code 59 = .ok (.if_icmp .ge 217, 3) := by decide +kernel
theorem d_Rm_pairRule_62 : decode prog_8_method_33_code 62 = .ok (.iload_n 1, 1) := by decide +kernel
theorem d_Rm_pairRule_63 : decode prog_8_method_33_code 63 = .ok (.ifCond .ne 7, 3) := by decide +kernel
theorem d_Rm_pairRule_66 : decode prog_8_method_33_code 66 = .ok (.iconst 0, 1) := by decide +kernel
theorem d_Rm_pairRule_67 : decode prog_8_method_33_code 67 = .ok (.goto 18, 3) := by decide +kernel
theorem d_Rm_pairRule_70 : decode prog_8_method_33_code 70 = .ok (.aload_n 0, 1) := by decide +kernel
theorem d_Rm_pairRule_71 : decode prog_8_method_33_code 71 = .ok (.getfield 48, 3) := by decide +kernel
theorem d_Rm_pairRule_74 : decode prog_8_method_33_code 74 = .ok (.iload 5, 2) := by decide +kernel
theorem d_Rm_pairRule_76 : decode prog_8_method_33_code 76 = .ok (.iaload, 1) := by decide +kernel
theorem d_Rm_pairRule_77 : decode prog_8_method_33_code 77 = .ok (.aload_n 0, 1) := by decide +kernel
theorem d_Rm_pairRule_78 : decode prog_8_method_33_code 78 = .ok (.getfield 51, 3) := by decide +kernel
theorem d_Rm_pairRule_81 : decode prog_8_method_33_code 81 = .ok (.iload 5, 2) := by decide +kernel
theorem d_Rm_pairRule_83 : decode prog_8_method_33_code 83 = .ok (.iaload, 1) := by decide +kernel
theorem d_Rm_pairRule_84 : decode prog_8_method_33_code 84 = .ok (.isub, 1) := by decide +kernel
theorem d_Rm_pairRule_85 : decode prog_8_method_33_code 85 = .ok (.istore 6, 2) := by decide +kernel
theorem d_Rm_pairRule_87 : decode prog_8_method_33_code 87 = .ok (.iload 6, 2) := by decide +kernel
theorem d_Rm_pairRule_89 : decode prog_8_method_33_code 89 = .ok (.iconst (-1), 1) := by decide +kernel
theorem d_Rm_pairRule_90 : decode prog_8_method_33_code 90 = .ok (.if_icmp .eq 10, 3) := by decide +kernel
theorem d_Rm_pairRule_93 : decode prog_8_method_33_code 93 = .ok (.iload 6, 2) := by decide +kernel
theorem d_Rm_pairRule_95 : decode prog_8_method_33_code 95 = .ok (.bipush (-2), 2) := by decide +kernel
theorem d_Rm_pairRule_97 : decode prog_8_method_33_code 97 = .ok (.if_icmp .ne 7, 3) := by decide +kernel
theorem d_Rm_pairRule_100 : decode prog_8_method_33_code 100 = .ok (.iconst 1, 1) := by decide +kernel
theorem d_Rm_pairRule_101 : decode prog_8_method_33_code 101 = .ok (.goto 4, 3) := by decide +kernel
theorem d_Rm_pairRule_104 : decode prog_8_method_33_code 104 = .ok (.iconst 0, 1) := by decide +kernel
theorem d_Rm_pairRule_105 : decode prog_8_method_33_code 105 = .ok (.istore 7, 2) := by decide +kernel
theorem d_Rm_pairRule_107 : decode prog_8_method_33_code 107 = .ok (.iload 5, 2) := by decide +kernel
theorem d_Rm_pairRule_109 : decode prog_8_method_33_code 109 = .ok (.iconst 1, 1) := by decide +kernel
theorem d_Rm_pairRule_110 : decode prog_8_method_33_code 110 = .ok (.iadd, 1) := by decide +kernel
theorem d_Rm_pairRule_111 : decode prog_8_method_33_code 111 = .ok (.istore 8, 2) := by decide +kernel
theorem d_Rm_pairRule_113 : decode prog_8_method_33_code 113 = .ok (.iload 8, 2) := by decide +kernel
theorem d_Rm_pairRule_115 : decode prog_8_method_33_code 115 = .ok (.iconst 4, 1) := by decide +kernel
theorem d_Rm_pairRule_116 : decode prog_8_method_33_code 116 = .ok (.if_icmp .ge 34, 3) := by decide +kernel
theorem d_Rm_pairRule_119 : decode prog_8_method_33_code 119 = .ok (.iload_n 2, 1) := by decide +kernel
theorem d_Rm_pairRule_120 : decode prog_8_method_33_code 120 = .ok (.ifCond .ne 18, 3) := by decide +kernel
theorem d_Rm_pairRule_123 : decode prog_8_method_33_code 123 = .ok (.iload_n 1, 1) := by decide +kernel
theorem d_Rm_pairRule_124 : decode prog_8_method_33_code 124 = .ok (.ifCond .le 18, 3) := by decide +kernel
theorem d_Rm_pairRule_127 : decode prog_8_method_33_code 127 = .ok (.aload_n 0, 1) := by decide +kernel
theorem d_Rm_pairRule_128 : decode prog_8_method_33_code 128 = .ok (.iload 5, 2) := by decide +kernel
theorem d_Rm_pairRule_130 : decode prog_8_method_33_code 130 = .ok (.iload 8, 2) := by decide +kernel
theorem d_Rm_pairRule_132 : decode prog_8_method_33_code 132 = .ok (.invokevirtual 167, 3) := by decide +kernel
theorem d_Rm_pairRule_135 : decode prog_8_method_33_code 135 = .ok (.ifCond .eq 7, 3) := by decide +kernel
theorem d_Rm_pairRule_138 : decode prog_8_method_33_code 138 = .ok (.iconst 1, 1) := by decide +kernel
theorem d_Rm_pairRule_139 : decode prog_8_method_33_code 139 = .ok (.goto 4, 3) := by decide +kernel
theorem d_Rm_pairRule_142 : decode prog_8_method_33_code 142 = .ok (.iconst 0, 1) := by decide +kernel
theorem d_Rm_pairRule_143 : decode prog_8_method_33_code 143 = .ok (.istore_n 2, 1) := by decide +kernel
theorem d_Rm_pairRule_144 : decode prog_8_method_33_code 144 = .ok (.iinc 8 1, 3) := by decide +kernel
theorem d_Rm_pairRule_147 : decode prog_8_method_33_code 147 = .ok (.goto (-34), 3) := by decide +kernel
theorem d_Rm_pairRule_150 : decode prog_8_method_33_code 150 = .ok (.iload_n 3, 1) := by decide +kernel
theorem d_Rm_pairRule_151 : decode prog_8_method_33_code 151 = .ok (.ifCond .ne 34, 3) := by decide +kernel
theorem d_Rm_pairRule_154 : decode prog_8_method_33_code 154 = .ok (.aload_n 0, 1) := by decide +kernel
theorem d_Rm_pairRule_155 : decode prog_8_method_33_code 155 = .ok (.getfield 57, 3) := by decide +kernel
theorem d_Rm_pairRule_158 : decode prog_8_method_33_code 158 = .ok (.iload_n 1, 1) := by decide +kernel
theorem d_Rm_pairRule_159 : decode prog_8_method_33_code 159 = .ok (.iaload, 1) := by decide +kernel
theorem d_Rm_pairRule_160 : decode prog_8_method_33_code 160 = .ok (.aload_n 0, 1) := by decide +kernel
theorem d_Rm_pairRule_161 : decode prog_8_method_33_code 161 = .ok (.getfield 48, 3) := by decide +kernel
theorem d_Rm_pairRule_164 : decode prog_8_method_33_code 164 = .ok (.iload 5, 2) := by decide +kernel
theorem d_Rm_pairRule_166 : decode prog_8_method_33_code 166 = .ok (.iaload, 1) := by decide +kernel
theorem d_Rm_pairRule_167 : decode prog_8_method_33_code 167 = .ok (.bipush 12, 2) := by decide +kernel
theorem d_Rm_pairRule_169 : decode prog_8_method_33_code 169 = .ok (.irem, 1) := by decide +kernel
theorem d_Rm_pairRule_170 : decode prog_8_method_33_code 170 = .ok (.invokestatic 157, 3) := by decide +kernel
theorem d_Rm_pairRule_173 : decode prog_8_method_33_code 173 = .ok (.ifCond .eq 16, 3) := by decide +kernel
theorem d_Rm_pairRule_176 : decode prog_8_method_33_code 176 = .ok (.iload_n 1, 1) := by decide +kernel
theorem d_Rm_pairRule_177 : decode prog_8_method_33_code 177 = .ok (.ifCond .eq 8, 3) := by decide +kernel
theorem d_Rm_pairRule_180 : decode prog_8_method_33_code 180 = .ok (.iload 6, 2) := by decide +kernel
theorem d_Rm_pairRule_182 : decode prog_8_method_33_code 182 = .ok (.ifCond .eq 7, 3) := by decide +kernel
theorem d_Rm_pairRule_185 : decode prog_8_method_33_code 185 = .ok (.iconst 1, 1) := by decide +kernel
theorem d_Rm_pairRule_186 : decode prog_8_method_33_code 186 = .ok (.goto 4, 3) := by decide +kernel
theorem d_Rm_pairRule_189 : decode prog_8_method_33_code 189 = .ok (.iconst 0, 1) := by decide +kernel
theorem d_Rm_pairRule_190 : decode prog_8_method_33_code 190 = .ok (.istore_n 3, 1) := by decide +kernel
theorem d_Rm_pairRule_191 : decode prog_8_method_33_code 191 = .ok (.aload_n 0, 1) := by decide +kernel
theorem d_Rm_pairRule_192 : decode prog_8_method_33_code 192 = .ok (.getfield 51, 3) := by decide +kernel
theorem d_Rm_pairRule_195 : decode prog_8_method_33_code 195 = .ok (.iload 5, 2) := by decide +kernel
theorem d_Rm_pairRule_197 : decode prog_8_method_33_code 197 = .ok (.iaload, 1) := by decide +kernel
theorem d_Rm_pairRule_198 : decode prog_8_method_33_code 198 = .ok (.bipush 12, 2) := by decide +kernel
theorem d_Rm_pairRule_200 : decode prog_8_method_33_code 200 = .ok (.irem, 1) := by decide +kernel
theorem d_Rm_pairRule_201 : decode prog_8_method_33_code 201 = .ok (.istore 8, 2) := by decide +kernel
theorem d_Rm_pairRule_203 : decode prog_8_method_33_code 203 = .ok (.iload 4, 2) := by decide +kernel
theorem d_Rm_pairRule_205 : decode prog_8_method_33_code 205 = .ok (.ifCond .ne 58, 3) := by decide +kernel
theorem d_Rm_pairRule_208 : decode prog_8_method_33_code 208 = .ok (.iload_n 1, 1) := by decide +kernel
theorem d_Rm_pairRule_209 : decode prog_8_method_33_code 209 = .ok (.ifCond .le 24, 3) := by decide +kernel
theorem d_Rm_pairRule_212 : decode prog_8_method_33_code 212 = .ok (.aload_n 0, 1) := by decide +kernel
theorem d_Rm_pairRule_213 : decode prog_8_method_33_code 213 = .ok (.getfield 57, 3) := by decide +kernel
theorem d_Rm_pairRule_216 : decode prog_8_method_33_code 216 = .ok (.iload_n 1, 1) := by decide +kernel
theorem d_Rm_pairRule_217 : decode prog_8_method_33_code 217 = .ok (.iconst 1, 1) := by decide +kernel
theorem d_Rm_pairRule_218 : decode prog_8_method_33_code 218 = .ok (.isub, 1) := by decide +kernel
theorem d_Rm_pairRule_219 : decode prog_8_method_33_code 219 = .ok (.iaload, 1) := by decide +kernel
theorem d_Rm_pairRule_220 : decode prog_8_method_33_code 220 = .ok (.iload 8, 2) := by decide +kernel
theorem d_Rm_pairRule_222 : decode prog_8_method_33_code 222 = .ok (.invokestatic 157, 3) := by decide +kernel
theorem d_Rm_pairRule_225 : decode prog_8_method_33_code 225 = .ok (.ifCond .eq 8, 3) := by decide +kernel
theorem d_Rm_pairRule_228 : decode prog_8_method_33_code 228 = .ok (.iload 7, 2) := by decide +kernel
theorem d_Rm_pairRule_230 : decode prog_8_method_33_code 230 = .ok (.ifCond .eq 33, 3) := by decide +kernel
theorem d_Rm_pairRule_233 : decode prog_8_method_33_code 233 = .ok (.iload_n 1, 1) := by decide +kernel
theorem d_Rm_pairRule_234 : decode prog_8_method_33_code 234 = .ok (.ifCond .le 33, 3) := by decide +kernel
theorem d_Rm_pairRule_237 : decode prog_8_method_33_code 237 = .ok (.aload_n 0, 1) := by decide +kernel
theorem d_Rm_pairRule_238 : decode prog_8_method_33_code 238 = .ok (.getfield 60, 3) := by decide +kernel
theorem d_Rm_pairRule_241 : decode prog_8_method_33_code 241 = .ok (.iload_n 1, 1) := by decide +kernel
theorem d_Rm_pairRule_242 : decode prog_8_method_33_code 242 = .ok (.iconst 1, 1) := by decide +kernel
theorem d_Rm_pairRule_243 : decode prog_8_method_33_code 243 = .ok (.isub, 1) := by decide +kernel
theorem d_Rm_pairRule_244 : decode prog_8_method_33_code 244 = .ok (.iaload, 1) := by decide +kernel
theorem d_Rm_pairRule_245 : decode prog_8_method_33_code 245 = .ok (.iload 8, 2) := by decide +kernel
theorem d_Rm_pairRule_247 : decode prog_8_method_33_code 247 = .ok (.invokestatic 157, 3) := by decide +kernel
theorem d_Rm_pairRule_250 : decode prog_8_method_33_code 250 = .ok (.ifCond .eq 17, 3) := by decide +kernel
theorem d_Rm_pairRule_253 : decode prog_8_method_33_code 253 = .ok (.iload 7, 2) := by decide +kernel
theorem d_Rm_pairRule_255 : decode prog_8_method_33_code 255 = .ok (.ifCond .ne 12, 3) := by decide +kernel
theorem d_Rm_pairRule_258 : decode prog_8_method_33_code 258 = .ok (.iload 6, 2) := by decide +kernel
theorem d_Rm_pairRule_260 : decode prog_8_method_33_code 260 = .ok (.ifCond .eq 7, 3) := by decide +kernel
theorem d_Rm_pairRule_263 : decode prog_8_method_33_code 263 = .ok (.iconst 1, 1) := by decide +kernel
theorem d_Rm_pairRule_264 : decode prog_8_method_33_code 264 = .ok (.goto 4, 3) := by decide +kernel
theorem d_Rm_pairRule_267 : decode prog_8_method_33_code 267 = .ok (.iconst 0, 1) := by decide +kernel
theorem d_Rm_pairRule_268 : decode prog_8_method_33_code 268 = .ok (.istore 4, 2) := by decide +kernel
theorem d_Rm_pairRule_270 : decode prog_8_method_33_code 270 = .ok (.iinc 5 1, 3) := by decide +kernel
theorem d_Rm_pairRule_273 : decode prog_8_method_33_code 273 = .ok (.goto (-217), 3) := by decide +kernel
theorem d_Rm_pairRule_276 : decode prog_8_method_33_code 276 = .ok (.iload_n 2, 1) := by decide +kernel
theorem d_Rm_pairRule_277 : decode prog_8_method_33_code 277 = .ok (.ifCond .eq 8, 3) := by decide +kernel
theorem d_Rm_pairRule_280 : decode prog_8_method_33_code 280 = .ok (.bipush 9, 2) := by decide +kernel
theorem d_Rm_pairRule_282 : decode prog_8_method_33_code 282 = .ok (.goto 23, 3) := by decide +kernel
theorem d_Rm_pairRule_285 : decode prog_8_method_33_code 285 = .ok (.iload_n 3, 1) := by decide +kernel
theorem d_Rm_pairRule_286 : decode prog_8_method_33_code 286 = .ok (.ifCond .eq 8, 3) := by decide +kernel
theorem d_Rm_pairRule_289 : decode prog_8_method_33_code 289 = .ok (.bipush 10, 2) := by decide +kernel
theorem d_Rm_pairRule_291 : decode prog_8_method_33_code 291 = .ok (.goto 14, 3) := by decide +kernel
theorem d_Rm_pairRule_294 : decode prog_8_method_33_code 294 = .ok (.iload 4, 2) := by decide +kernel
theorem d_Rm_pairRule_296 : decode prog_8_method_33_code 296 = .ok (.ifCond .eq 8, 3) := by decide +kernel
theorem d_Rm_pairRule_299 : decode prog_8_method_33_code 299 = .ok (.bipush 11, 2) := by decide +kernel
theorem d_Rm_pairRule_301 : decode prog_8_method_33_code 301 = .ok (.goto 4, 3) := by decide +kernel
theorem d_Rm_pairRule_304 : decode prog_8_method_33_code 304 = .ok (.iconst 0, 1) := by decide +kernel
theorem d_Rm_pairRule_305 : decode prog_8_method_33_code 305 = .ok (.ireturn, 1) := by decide +kernel
theorem d_Rm_cost_0 : decode prog_8_method_37_code 0 = .ok (.iconst 0, 1) := by decide +kernel
theorem d_Rm_cost_1 : decode prog_8_method_37_code 1 = .ok (.istore_n 2, 1) := by decide +kernel
theorem d_Rm_cost_2 : decode prog_8_method_37_code 2 = .ok (.iconst 0, 1) := by decide +kernel
theorem d_Rm_cost_3 : decode prog_8_method_37_code 3 = .ok (.istore_n 3, 1) := by decide +kernel
theorem d_Rm_cost_4 : decode prog_8_method_37_code 4 = .ok (.iload_n 3, 1) := by decide +kernel
theorem d_Rm_cost_5 : decode prog_8_method_37_code 5 = .ok (.iconst 3, 1) := by decide +kernel
theorem d_Rm_cost_6 : decode prog_8_method_37_code 6 = .ok (.if_icmp .ge 40, 3) := by decide +kernel
theorem d_Rm_cost_9 : decode prog_8_method_37_code 9 = .ok (.iload_n 2, 1) := by decide +kernel
theorem d_Rm_cost_10 : decode prog_8_method_37_code 10 = .ok (.aload_n 0, 1) := by decide +kernel
theorem d_Rm_cost_11 : decode prog_8_method_37_code 11 = .ok (.getfield 48, 3) := by decide +kernel
theorem d_Rm_cost_14 : decode prog_8_method_37_code 14 = .ok (.iload_n 3, 1) := by decide +kernel
theorem d_Rm_cost_15 : decode prog_8_method_37_code 15 = .ok (.iaload, 1) := by decide +kernel
theorem d_Rm_cost_16 : decode prog_8_method_37_code 16 = .ok (.iload_n 1, 1) := by decide +kernel
theorem d_Rm_cost_17 : decode prog_8_method_37_code 17 = .ok (.ifCond .ne 12, 3) := by decide +kernel
theorem d_Rm_cost_20 : decode prog_8_method_37_code 20 = .ok (.aload_n 0, 1) := by decide +kernel
theorem d_Rm_cost_21 : decode prog_8_method_37_code 21 = .ok (.getfield 32, 3) := by decide +kernel
theorem d_Rm_cost_24 : decode prog_8_method_37_code 24 = .ok (.iload_n 3, 1) := by decide +kernel
theorem d_Rm_cost_25 : decode prog_8_method_37_code 25 = .ok (.iaload, 1) := by decide +kernel
theorem d_Rm_cost_26 : decode prog_8_method_37_code 26 = .ok (.goto 9, 3) := by decide +kernel
theorem d_Rm_cost_29 : decode prog_8_method_37_code 29 = .ok (.aload_n 0, 1) := by decide +kernel
theorem d_Rm_cost_30 : decode prog_8_method_37_code 30 = .ok (.getfield 51, 3) := by decide +kernel
theorem d_Rm_cost_33 : decode prog_8_method_37_code 33 = .ok (.iload_n 3, 1) := by decide +kernel
theorem d_Rm_cost_34 : decode prog_8_method_37_code 34 = .ok (.iaload, 1) := by decide +kernel
theorem d_Rm_cost_35 : decode prog_8_method_37_code 35 = .ok (.invokestatic 164, 3) := by decide +kernel
theorem d_Rm_cost_38 : decode prog_8_method_37_code 38 = .ok (.iadd, 1) := by decide +kernel
theorem d_Rm_cost_39 : decode prog_8_method_37_code 39 = .ok (.istore_n 2, 1) := by decide +kernel
theorem d_Rm_cost_40 : decode prog_8_method_37_code 40 = .ok (.iinc 3 1, 3) := by decide +kernel
theorem d_Rm_cost_43 : decode prog_8_method_37_code 43 = .ok (.goto (-39), 3) := by decide +kernel
theorem d_Rm_cost_46 : decode prog_8_method_37_code 46 = .ok (.iload_n 2, 1) := by decide +kernel
theorem d_Rm_cost_47 : decode prog_8_method_37_code 47 = .ok (.ireturn, 1) := by decide +kernel
def wp_Rm_tryAll_198 (K30 : Nat → Int32 → Int32 → MH → Prop) (K47 : Nat → Int32 → Int32 → Int32 → MH → Prop) (Post : MH → Prop) (l0 : Nat) (l1 : Int32) (l2 : Int32) (l3 : Int32) (h : MH) : Prop :=
  K47 l0 l1 l2 (l3 + (1 : Int32)) h
def wp_Rm_tryAll_192 (K30 : Nat → Int32 → Int32 → MH → Prop) (K47 : Nat → Int32 → Int32 → Int32 → MH → Prop) (K65 : Nat → Int32 → Int32 → Int32 → Int32 → MH → Prop) (Post : MH → Prop) (l0 : Nat) (l1 : Int32) (l2 : Int32) (l3 : Int32) (l4 : Int32) (h : MH) : Prop :=
  K65 l0 l1 l2 l3 (l4 + (1 : Int32)) h
def wb_Rm_tryAll_65 (K30 : Nat → Int32 → Int32 → MH → Prop) (K47 : Nat → Int32 → Int32 → Int32 → MH → Prop) (K65 : Nat → Int32 → Int32 → Int32 → Int32 → MH → Prop) (Post : MH → Prop) (l0 : Nat) (l1 : Int32) (l2 : Int32) (l3 : Int32) (l4 : Int32) (h : MH) : Prop :=
  ∃ x68 : Nat, gF h l0 6 8 = some (.inr (some x68)) ∧
  (∃ (n72 : Nat) (f72 : Nat → Int32), gA h x68 0 = some (n72, f72) ∧ vp_in (2 : Int32) n72 ∧
    ((((f72 ((2 : Int32)).toNatClampNeg) < l4) →
        (wp_Rm_tryAll_198 K30 K47 Post l0 l1 l2 l3 h)) ∧
      ((¬ (f72 ((2 : Int32)).toNatClampNeg) < l4) →
        (((l2 < l3) →
            (wp_Rm_tryAll_198 K30 K47 Post l0 l1 l2 l3 h)) ∧
          ((¬ l2 < l3) →
            (∃ x82 : Nat, gF h l0 6 14 = some (.inr (some x82)) ∧
              (∃ (n87 : Nat) (f87 : Nat → Int32), gA h x82 0 = some (n87, f87) ∧ vp_in (0 : Int32) n87 ∧ ∀ h87 : MH, h87 = mset h x82 (.inr (0, n87, .inl (upd f87 ((0 : Int32)).toNatClampNeg l2))) →
                (∃ x89 : Nat, gF h87 l0 6 14 = some (.inr (some x89)) ∧
                  (∃ (n94 : Nat) (f94 : Nat → Int32), gA h87 x89 0 = some (n94, f94) ∧ vp_in (1 : Int32) n94 ∧ ∀ h94 : MH, h94 = mset h87 x89 (.inr (0, n94, .inl (upd f94 ((1 : Int32)).toNatClampNeg l3))) →
                    (∃ x96 : Nat, gF h94 l0 6 14 = some (.inr (some x96)) ∧
                      (∃ (n102 : Nat) (f102 : Nat → Int32), gA h94 x96 0 = some (n102, f102) ∧ vp_in (2 : Int32) n102 ∧ ∀ h102 : MH, h102 = mset h94 x96 (.inr (0, n102, .inl (upd f102 ((2 : Int32)).toNatClampNeg l4))) →
                        (((l3 < l4) →
                        (wp_Rm_tryAll_192 K30 K47 K65 Post l0 l1 l2 l3 l4 h102)) ∧
                        ((¬ l3 < l4) →
                        (gC h102 l0 = some 6 ∧ wp_Rm_aloneRule (fun (r111 : Int32) (h111 : MH) =>
                        (((¬ r111 = 0) →
                        (wp_Rm_tryAll_192 K30 K47 K65 Post l0 l1 l2 l3 l4 h111)) ∧
                        ((r111 = 0) →
                        (∃ x118 : Nat, gF h111 l0 6 20 = some (.inr (some x118)) ∧
                        (∃ x128 : Nat, gF h111 l0 6 21 = some (.inr (some x128)) ∧
                        (∃ (n132 : Nat) (f132 : Nat → Int32), gA h111 x128 0 = some (n132, f132) ∧ vp_in l1 n132 ∧
                        (∃ (n136 : Nat) (f136 : Nat → Int32), gA h111 x118 0 = some (n136, f136) ∧ vp_in ((3 : Int32) * (((800 : Int32) * l1) + (f132 (l1).toNatClampNeg))) n136 ∧ ∀ h136 : MH, h136 = mset h111 x118 (.inr (0, n136, .inl (upd f136 ((3 : Int32) * (((800 : Int32) * l1) + (f132 (l1).toNatClampNeg))).toNatClampNeg l2))) →
                        (∃ x138 : Nat, gF h136 l0 6 20 = some (.inr (some x138)) ∧
                        (∃ x148 : Nat, gF h136 l0 6 21 = some (.inr (some x148)) ∧
                        (∃ (n152 : Nat) (f152 : Nat → Int32), gA h136 x148 0 = some (n152, f152) ∧ vp_in l1 n152 ∧
                        (∃ (n158 : Nat) (f158 : Nat → Int32), gA h136 x138 0 = some (n158, f158) ∧ vp_in (((3 : Int32) * (((800 : Int32) * l1) + (f152 (l1).toNatClampNeg))) + (1 : Int32)) n158 ∧ ∀ h158 : MH, h158 = mset h136 x138 (.inr (0, n158, .inl (upd f158 (((3 : Int32) * (((800 : Int32) * l1) + (f152 (l1).toNatClampNeg))) + (1 : Int32)).toNatClampNeg l3))) →
                        (∃ x160 : Nat, gF h158 l0 6 20 = some (.inr (some x160)) ∧
                        (∃ x170 : Nat, gF h158 l0 6 21 = some (.inr (some x170)) ∧
                        (∃ (n174 : Nat) (f174 : Nat → Int32), gA h158 x170 0 = some (n174, f174) ∧ vp_in l1 n174 ∧
                        (∃ (n181 : Nat) (f181 : Nat → Int32), gA h158 x160 0 = some (n181, f181) ∧ vp_in (((3 : Int32) * (((800 : Int32) * l1) + (f174 (l1).toNatClampNeg))) + (2 : Int32)) n181 ∧ ∀ h181 : MH, h181 = mset h158 x160 (.inr (0, n181, .inl (upd f181 (((3 : Int32) * (((800 : Int32) * l1) + (f174 (l1).toNatClampNeg))) + (2 : Int32)).toNatClampNeg l4))) →
                        (∃ x183 : Nat, gF h181 l0 6 21 = some (.inr (some x183)) ∧
                        (∃ (n188 : Nat) (f188 : Nat → Int32), gA h181 x183 0 = some (n188, f188) ∧ vp_in l1 n188 ∧
                        (∃ (n191 : Nat) (f191 : Nat → Int32), gA h181 x183 0 = some (n191, f191) ∧ vp_in l1 n191 ∧ ∀ h191 : MH, h191 = mset h181 x183 (.inr (0, n191, .inl (upd f191 (l1).toNatClampNeg ((f188 (l1).toNatClampNeg) + (1 : Int32))))) →
                        (wp_Rm_tryAll_192 K30 K47 K65 Post l0 l1 l2 l3 l4 h191))))))))))))))))))) l0 l1 h102))))))))))))))
def wn_Rm_tryAll_65 (K30 : Nat → Int32 → Int32 → MH → Prop) (K47 : Nat → Int32 → Int32 → Int32 → MH → Prop) (Post : MH → Prop) : Nat → Nat → Int32 → Int32 → Int32 → Int32 → MH → Prop
  | 0 => fun _ _ _ _ _ _ => False
  | n + 1 => wb_Rm_tryAll_65 K30 K47 (wn_Rm_tryAll_65 K30 K47 Post n) Post
def wp_Rm_tryAll_65 (K30 : Nat → Int32 → Int32 → MH → Prop) (K47 : Nat → Int32 → Int32 → Int32 → MH → Prop) (Post : MH → Prop) (l0 : Nat) (l1 : Int32) (l2 : Int32) (l3 : Int32) (l4 : Int32) (h : MH) : Prop := ∃ n, wn_Rm_tryAll_65 K30 K47 Post n l0 l1 l2 l3 l4 h
def wb_Rm_tryAll_47 (K30 : Nat → Int32 → Int32 → MH → Prop) (K47 : Nat → Int32 → Int32 → Int32 → MH → Prop) (Post : MH → Prop) (l0 : Nat) (l1 : Int32) (l2 : Int32) (l3 : Int32) (h : MH) : Prop :=
  ∃ x49 : Nat, gF h l0 6 8 = some (.inr (some x49)) ∧
  (∃ (n53 : Nat) (f53 : Nat → Int32), gA h x49 0 = some (n53, f53) ∧ vp_in (1 : Int32) n53 ∧
    ((((f53 ((1 : Int32)).toNatClampNeg) < l3) →
        (K30 l0 l1 (l2 + (1 : Int32)) h)) ∧
      ((¬ (f53 ((1 : Int32)).toNatClampNeg) < l3) →
        (∃ x58 : Nat, gF h l0 6 7 = some (.inr (some x58)) ∧
          (∃ (n62 : Nat) (f62 : Nat → Int32), gA h x58 0 = some (n62, f62) ∧ vp_in (2 : Int32) n62 ∧
            (∀ z63 : Int32, z63 = f62 ((2 : Int32)).toNatClampNeg →
              (wp_Rm_tryAll_65 K30 K47 Post l0 l1 l2 l3 z63 h)))))))
def wn_Rm_tryAll_47 (K30 : Nat → Int32 → Int32 → MH → Prop) (Post : MH → Prop) : Nat → Nat → Int32 → Int32 → Int32 → MH → Prop
  | 0 => fun _ _ _ _ _ => False
  | n + 1 => wb_Rm_tryAll_47 K30 (wn_Rm_tryAll_47 K30 Post n) Post
def wp_Rm_tryAll_47 (K30 : Nat → Int32 → Int32 → MH → Prop) (Post : MH → Prop) (l0 : Nat) (l1 : Int32) (l2 : Int32) (l3 : Int32) (h : MH) : Prop := ∃ n, wn_Rm_tryAll_47 K30 Post n l0 l1 l2 l3 h
def wb_Rm_tryAll_30 (K30 : Nat → Int32 → Int32 → MH → Prop) (Post : MH → Prop) (l0 : Nat) (l1 : Int32) (l2 : Int32) (h : MH) : Prop :=
  ∃ x32 : Nat, gF h l0 6 8 = some (.inr (some x32)) ∧
  (∃ (n36 : Nat) (f36 : Nat → Int32), gA h x32 0 = some (n36, f36) ∧ vp_in (0 : Int32) n36 ∧
    ((((f36 ((0 : Int32)).toNatClampNeg) < l2) →
        (Post h)) ∧
      ((¬ (f36 ((0 : Int32)).toNatClampNeg) < l2) →
        (∃ x41 : Nat, gF h l0 6 7 = some (.inr (some x41)) ∧
          (∃ (n45 : Nat) (f45 : Nat → Int32), gA h x41 0 = some (n45, f45) ∧ vp_in (1 : Int32) n45 ∧
            (∀ z46 : Int32, z46 = f45 ((1 : Int32)).toNatClampNeg →
              (wp_Rm_tryAll_47 K30 Post l0 l1 l2 z46 h)))))))
def wn_Rm_tryAll_30 (Post : MH → Prop) : Nat → Nat → Int32 → Int32 → MH → Prop
  | 0 => fun _ _ _ _ => False
  | n + 1 => wb_Rm_tryAll_30 (wn_Rm_tryAll_30 Post n) Post
def wp_Rm_tryAll_30 (Post : MH → Prop) (l0 : Nat) (l1 : Int32) (l2 : Int32) (h : MH) : Prop := ∃ n, wn_Rm_tryAll_30 Post n l0 l1 l2 h
def wp_Rm_tryAll (Post : MH → Prop) (l0 : Nat) (l1 : Int32) (h : MH) : Prop :=
  ∃ x1 : Nat, gF h l0 6 21 = some (.inr (some x1)) ∧
  (∃ (n6 : Nat) (f6 : Nat → Int32), gA h x1 0 = some (n6, f6) ∧ vp_in l1 n6 ∧ ∀ h6 : MH, h6 = mset h x1 (.inr (0, n6, .inl (upd f6 (l1).toNatClampNeg (0 : Int32)))) →
    (gC h6 l0 = some 6 ∧ wp_Rm_look (fun (h9 : MH) =>
        (∃ x13 : Nat, gF h9 l0 6 14 = some (.inr (some x13)) ∧
          (gC h9 l0 = some 6 ∧ wp_Rm_bassOf (fun (r19 : Int32) (h19 : MH) =>
              (∃ (n22 : Nat) (f22 : Nat → Int32), gA h19 x13 0 = some (n22, f22) ∧ vp_in (3 : Int32) n22 ∧ ∀ h22 : MH, h22 = mset h19 x13 (.inr (0, n22, .inl (upd f22 ((3 : Int32)).toNatClampNeg r19))) →
                (∃ x24 : Nat, gF h22 l0 6 7 = some (.inr (some x24)) ∧
                  (∃ (n28 : Nat) (f28 : Nat → Int32), gA h22 x24 0 = some (n28, f28) ∧ vp_in (0 : Int32) n28 ∧
                    (∀ z29 : Int32, z29 = f28 ((0 : Int32)).toNatClampNeg →
                      (wp_Rm_tryAll_30 Post l0 l1 z29 h22)))))) l0 l1 h9))) l0 l1 h6))
set_option maxRecDepth 100000 in
set_option maxHeartbeats 4000000 in
theorem t_Rm_tryAll_198 {p : Program} {l : Launch} {e : Env} {R : Room} {s : State} {m : MethodId} {args : Array Value} {below : List Frame} {meth : Method} {c : Code} (G : mG) (C0 : Cx G p s m args c prog_8_method_35_code 5 "BassRealiserModel") (hR : 4 ≤ R.frames ∧ 91 ≤ R.locals ∧ 0 ≤ R.cells ∧ 0 ≤ R.slots) (hr : meth.sig.returnType = none) (hlk : meth.locks = false) {Post : MH → Prop} {K30 : Nat → Int32 → Int32 → MH → Prop} {K47 : Nat → Int32 → Int32 → Int32 → MH → Prop} (hK30 : ∀ (l0 : Nat) (l1 : Int32) (l2 : Int32) (h : MH), K30 l0 l1 l2 h → WG p l e R s m args below meth c 0 0 (MQ below (va_Qv Post (Wd G) (mA G)) args s 0 0 (mA G)) G 5 [(0, .ref (m_b G + l0)), (1, .int l1), (2, .int l2)] 30 [] h) (hK47 : ∀ (l0 : Nat) (l1 : Int32) (l2 : Int32) (l3 : Int32) (h : MH), K47 l0 l1 l2 l3 h → WG p l e R s m args below meth c 0 0 (MQ below (va_Qv Post (Wd G) (mA G)) args s 0 0 (mA G)) G 5 [(0, .ref (m_b G + l0)), (1, .int l1), (2, .int l2), (3, .int l3)] 47 [] h) (l0 : Nat) (l1 : Int32) (l2 : Int32) (l3 : Int32) (h : MH) (hwp : wp_Rm_tryAll_198 K30 K47 Post l0 l1 l2 l3 h) : WG p l e R s m args below meth c 0 0 (MQ below (va_Qv Post (Wd G) (mA G)) args s 0 0 (mA G)) G 5 [(0, .ref (m_b G + l0)), (1, .int l1), (2, .int l2), (3, .int l3)] 198 [] h := by
  unfold wp_Rm_tryAll_198 at hwp
  refine x_iinc C0 3 d_Rm_tryAll_198 rfl rfl (by decide) (lv' := [(3, .int (l3 + (1 : Int32))), (0, .ref (m_b G + l0)), (1, .int l1), (2, .int l2)]) rfl ?_
  refine x_goto (tgt := 47) C0 d_Rm_tryAll_201 (by decide) ?_
  exact x_sub [1, 2, 3, 0] rfl (hK47 _ _ _ _ _ hwp)
set_option maxRecDepth 100000 in
set_option maxHeartbeats 4000000 in
theorem t_Rm_tryAll_192 {p : Program} {l : Launch} {e : Env} {R : Room} {s : State} {m : MethodId} {args : Array Value} {below : List Frame} {meth : Method} {c : Code} (G : mG) (C0 : Cx G p s m args c prog_8_method_35_code 5 "BassRealiserModel") (hR : 4 ≤ R.frames ∧ 91 ≤ R.locals ∧ 0 ≤ R.cells ∧ 0 ≤ R.slots) (hr : meth.sig.returnType = none) (hlk : meth.locks = false) {Post : MH → Prop} {K30 : Nat → Int32 → Int32 → MH → Prop} {K47 : Nat → Int32 → Int32 → Int32 → MH → Prop} {K65 : Nat → Int32 → Int32 → Int32 → Int32 → MH → Prop} (hK30 : ∀ (l0 : Nat) (l1 : Int32) (l2 : Int32) (h : MH), K30 l0 l1 l2 h → WG p l e R s m args below meth c 0 0 (MQ below (va_Qv Post (Wd G) (mA G)) args s 0 0 (mA G)) G 5 [(0, .ref (m_b G + l0)), (1, .int l1), (2, .int l2)] 30 [] h) (hK47 : ∀ (l0 : Nat) (l1 : Int32) (l2 : Int32) (l3 : Int32) (h : MH), K47 l0 l1 l2 l3 h → WG p l e R s m args below meth c 0 0 (MQ below (va_Qv Post (Wd G) (mA G)) args s 0 0 (mA G)) G 5 [(0, .ref (m_b G + l0)), (1, .int l1), (2, .int l2), (3, .int l3)] 47 [] h) (hK65 : ∀ (l0 : Nat) (l1 : Int32) (l2 : Int32) (l3 : Int32) (l4 : Int32) (h : MH), K65 l0 l1 l2 l3 l4 h → WG p l e R s m args below meth c 0 0 (MQ below (va_Qv Post (Wd G) (mA G)) args s 0 0 (mA G)) G 5 [(0, .ref (m_b G + l0)), (1, .int l1), (2, .int l2), (3, .int l3), (4, .int l4)] 65 [] h) (l0 : Nat) (l1 : Int32) (l2 : Int32) (l3 : Int32) (l4 : Int32) (h : MH) (hwp : wp_Rm_tryAll_192 K30 K47 K65 Post l0 l1 l2 l3 l4 h) : WG p l e R s m args below meth c 0 0 (MQ below (va_Qv Post (Wd G) (mA G)) args s 0 0 (mA G)) G 5 [(0, .ref (m_b G + l0)), (1, .int l1), (2, .int l2), (3, .int l3), (4, .int l4)] 192 [] h := by
  unfold wp_Rm_tryAll_192 at hwp
  refine x_iinc C0 4 d_Rm_tryAll_192 rfl rfl (by decide) (lv' := [(4, .int (l4 + (1 : Int32))), (0, .ref (m_b G + l0)), (1, .int l1), (2, .int l2), (3, .int l3)]) rfl ?_
  refine x_goto (tgt := 65) C0 d_Rm_tryAll_195 (by decide) ?_
  exact x_sub [1, 2, 3, 4, 0] rfl (hK65 _ _ _ _ _ _ hwp)
set_option maxRecDepth 100000 in
set_option maxHeartbeats 4000000 in
theorem tb_Rm_tryAll_65 {p : Program} {l : Launch} {e : Env} {R : Room} {s : State} {m : MethodId} {args : Array Value} {below : List Frame} {meth : Method} {c : Code} (G : mG) (C0 : Cx G p s m args c prog_8_method_35_code 5 "BassRealiserModel") (hR : 4 ≤ R.frames ∧ 91 ≤ R.locals ∧ 0 ≤ R.cells ∧ 0 ≤ R.slots) (hr : meth.sig.returnType = none) (hlk : meth.locks = false) {Post : MH → Prop} {K30 : Nat → Int32 → Int32 → MH → Prop} {K47 : Nat → Int32 → Int32 → Int32 → MH → Prop} {K65 : Nat → Int32 → Int32 → Int32 → Int32 → MH → Prop} (hK30 : ∀ (l0 : Nat) (l1 : Int32) (l2 : Int32) (h : MH), K30 l0 l1 l2 h → WG p l e R s m args below meth c 0 0 (MQ below (va_Qv Post (Wd G) (mA G)) args s 0 0 (mA G)) G 5 [(0, .ref (m_b G + l0)), (1, .int l1), (2, .int l2)] 30 [] h) (hK47 : ∀ (l0 : Nat) (l1 : Int32) (l2 : Int32) (l3 : Int32) (h : MH), K47 l0 l1 l2 l3 h → WG p l e R s m args below meth c 0 0 (MQ below (va_Qv Post (Wd G) (mA G)) args s 0 0 (mA G)) G 5 [(0, .ref (m_b G + l0)), (1, .int l1), (2, .int l2), (3, .int l3)] 47 [] h) (hK65 : ∀ (l0 : Nat) (l1 : Int32) (l2 : Int32) (l3 : Int32) (l4 : Int32) (h : MH), K65 l0 l1 l2 l3 l4 h → WG p l e R s m args below meth c 0 0 (MQ below (va_Qv Post (Wd G) (mA G)) args s 0 0 (mA G)) G 5 [(0, .ref (m_b G + l0)), (1, .int l1), (2, .int l2), (3, .int l3), (4, .int l4)] 65 [] h) (l0 : Nat) (l1 : Int32) (l2 : Int32) (l3 : Int32) (l4 : Int32) (h : MH) (hwp : wb_Rm_tryAll_65 K30 K47 K65 Post l0 l1 l2 l3 l4 h) : WG p l e R s m args below meth c 0 0 (MQ below (va_Qv Post (Wd G) (mA G)) args s 0 0 (mA G)) G 5 [(0, .ref (m_b G + l0)), (1, .int l1), (2, .int l2), (3, .int l3), (4, .int l4)] 65 [] h := by
  unfold wb_Rm_tryAll_65 at hwp
  refine x_iload C0 4 d_Rm_tryAll_65 rfl ?_
  refine x_aload_n C0 0 d_Rm_tryAll_67 rfl rfl ?_
  obtain ⟨x68, e68, hwp⟩ := hwp
  refine x_getR C0 fk_Rm_29 e68 d_Rm_tryAll_68 ?_
  refine x_iconst (v := 2) C0 d_Rm_tryAll_71 (by decide) ?_
  obtain ⟨n72, f72, e72, i72, hwp⟩ := hwp
  refine x_iald C0 e72 i72 d_Rm_tryAll_72 ?_
  refine x_icmp_gt (tgt := 198) C0 d_Rm_tryAll_73 (by decide) (fun c73 => ?_) (fun c73 => ?_)
  · replace hwp := hwp.1 c73
    exact x_sub [0, 1, 2, 3] rfl (t_Rm_tryAll_198 G C0 hR hr hlk hK30 hK47 _ _ _ _ _ hwp)
  · replace hwp := hwp.2 c73
    refine x_iload_n C0 3 d_Rm_tryAll_76 rfl rfl ?_
    refine x_iload_n C0 2 d_Rm_tryAll_77 rfl rfl ?_
    refine x_icmp_gt (tgt := 198) C0 d_Rm_tryAll_78 (by decide) (fun c78 => ?_) (fun c78 => ?_)
    · replace hwp := hwp.1 c78
      exact x_sub [0, 1, 2, 3] rfl (t_Rm_tryAll_198 G C0 hR hr hlk hK30 hK47 _ _ _ _ _ hwp)
    · replace hwp := hwp.2 c78
      refine x_aload_n C0 0 d_Rm_tryAll_81 rfl rfl ?_
      obtain ⟨x82, e82, hwp⟩ := hwp
      refine x_getR C0 fk_Rm_48 e82 d_Rm_tryAll_82 ?_
      refine x_iconst (v := 0) C0 d_Rm_tryAll_85 (by decide) ?_
      refine x_iload_n C0 2 d_Rm_tryAll_86 rfl rfl ?_
      obtain ⟨n87, f87, e87, i87, hwp⟩ := hwp
      refine x_iast C0 e87 i87 d_Rm_tryAll_87 ?_
      refine x_nh (fun h87 eh87 => ?_)
      replace hwp := hwp h87 eh87
      refine x_aload_n C0 0 d_Rm_tryAll_88 rfl rfl ?_
      obtain ⟨x89, e89, hwp⟩ := hwp
      refine x_getR C0 fk_Rm_48 e89 d_Rm_tryAll_89 ?_
      refine x_iconst (v := 1) C0 d_Rm_tryAll_92 (by decide) ?_
      refine x_iload_n C0 3 d_Rm_tryAll_93 rfl rfl ?_
      obtain ⟨n94, f94, e94, i94, hwp⟩ := hwp
      refine x_iast C0 e94 i94 d_Rm_tryAll_94 ?_
      refine x_nh (fun h94 eh94 => ?_)
      replace hwp := hwp h94 eh94
      refine x_aload_n C0 0 d_Rm_tryAll_95 rfl rfl ?_
      obtain ⟨x96, e96, hwp⟩ := hwp
      refine x_getR C0 fk_Rm_48 e96 d_Rm_tryAll_96 ?_
      refine x_iconst (v := 2) C0 d_Rm_tryAll_99 (by decide) ?_
      refine x_iload C0 4 d_Rm_tryAll_100 rfl ?_
      obtain ⟨n102, f102, e102, i102, hwp⟩ := hwp
      refine x_iast C0 e102 i102 d_Rm_tryAll_102 ?_
      refine x_nh (fun h102 eh102 => ?_)
      replace hwp := hwp h102 eh102
      refine x_iload C0 4 d_Rm_tryAll_103 rfl ?_
      refine x_iload_n C0 3 d_Rm_tryAll_105 rfl rfl ?_
      refine x_icmp_gt (tgt := 192) C0 d_Rm_tryAll_106 (by decide) (fun c106 => ?_) (fun c106 => ?_)
      · replace hwp := hwp.1 c106
        exact x_sub [0, 1, 2, 3, 4] rfl (t_Rm_tryAll_192 G C0 hR hr hlk hK30 hK47 hK65 _ _ _ _ _ _ hwp)
      · replace hwp := hwp.2 c106
        refine x_aload_n C0 0 d_Rm_tryAll_109 rfl rfl ?_
        refine x_iload_n C0 1 d_Rm_tryAll_110 rfl rfl ?_
        obtain ⟨g111, hwp⟩ := hwp
        refine x_callVi0 (k := l0) (As := [.int l1]) (st := []) C0 (c_Rm_aloneRule l G hwp) kw_4_50 mk_Rm_aloneRule vk_Rm_aloneRule rfl g111 rfl (Nat.le_of_ble_eq_true rfl) rfl rfl ⟨Nat.le_trans (by decide) hR.1, Nat.le_trans (by decide) hR.2.1⟩ ⟨Nat.zero_le _, Nat.zero_le _⟩ rfl d_Rm_tryAll_111 (fun r111 h111 hwp => ?_)
        refine x_if_ne (tgt := 192) C0 d_Rm_tryAll_114 (by decide) (fun c114 => ?_) (fun c114 => ?_)
        · replace hwp := hwp.1 c114
          exact x_sub [0, 1, 2, 3, 4] rfl (t_Rm_tryAll_192 G C0 hR hr hlk hK30 hK47 hK65 _ _ _ _ _ _ hwp)
        · replace hwp := hwp.2 c114
          refine x_aload_n C0 0 d_Rm_tryAll_117 rfl rfl ?_
          obtain ⟨x118, e118, hwp⟩ := hwp
          refine x_getR C0 fk_Rm_63 e118 d_Rm_tryAll_118 ?_
          refine x_iconst (v := 3) C0 d_Rm_tryAll_121 (by decide) ?_
          refine x_sipush (v := 800) C0 d_Rm_tryAll_122 (by decide) ?_
          refine x_iload_n C0 1 d_Rm_tryAll_125 rfl rfl ?_
          refine x_imul C0 d_Rm_tryAll_126 ?_
          refine x_aload_n C0 0 d_Rm_tryAll_127 rfl rfl ?_
          obtain ⟨x128, e128, hwp⟩ := hwp
          refine x_getR C0 fk_Rm_66 e128 d_Rm_tryAll_128 ?_
          refine x_iload_n C0 1 d_Rm_tryAll_131 rfl rfl ?_
          obtain ⟨n132, f132, e132, i132, hwp⟩ := hwp
          refine x_iald C0 e132 i132 d_Rm_tryAll_132 ?_
          refine x_iadd C0 d_Rm_tryAll_133 ?_
          refine x_imul C0 d_Rm_tryAll_134 ?_
          refine x_iload_n C0 2 d_Rm_tryAll_135 rfl rfl ?_
          obtain ⟨n136, f136, e136, i136, hwp⟩ := hwp
          refine x_iast C0 e136 i136 d_Rm_tryAll_136 ?_
          refine x_nh (fun h136 eh136 => ?_)
          replace hwp := hwp h136 eh136
          refine x_aload_n C0 0 d_Rm_tryAll_137 rfl rfl ?_
          obtain ⟨x138, e138, hwp⟩ := hwp
          refine x_getR C0 fk_Rm_63 e138 d_Rm_tryAll_138 ?_
          refine x_iconst (v := 3) C0 d_Rm_tryAll_141 (by decide) ?_
          refine x_sipush (v := 800) C0 d_Rm_tryAll_142 (by decide) ?_
          refine x_iload_n C0 1 d_Rm_tryAll_145 rfl rfl ?_
          refine x_imul C0 d_Rm_tryAll_146 ?_
          refine x_aload_n C0 0 d_Rm_tryAll_147 rfl rfl ?_
          obtain ⟨x148, e148, hwp⟩ := hwp
          refine x_getR C0 fk_Rm_66 e148 d_Rm_tryAll_148 ?_
          refine x_iload_n C0 1 d_Rm_tryAll_151 rfl rfl ?_
          obtain ⟨n152, f152, e152, i152, hwp⟩ := hwp
          refine x_iald C0 e152 i152 d_Rm_tryAll_152 ?_
          refine x_iadd C0 d_Rm_tryAll_153 ?_
          refine x_imul C0 d_Rm_tryAll_154 ?_
          refine x_iconst (v := 1) C0 d_Rm_tryAll_155 (by decide) ?_
          refine x_iadd C0 d_Rm_tryAll_156 ?_
          refine x_iload_n C0 3 d_Rm_tryAll_157 rfl rfl ?_
          obtain ⟨n158, f158, e158, i158, hwp⟩ := hwp
          refine x_iast C0 e158 i158 d_Rm_tryAll_158 ?_
          refine x_nh (fun h158 eh158 => ?_)
          replace hwp := hwp h158 eh158
          refine x_aload_n C0 0 d_Rm_tryAll_159 rfl rfl ?_
          obtain ⟨x160, e160, hwp⟩ := hwp
          refine x_getR C0 fk_Rm_63 e160 d_Rm_tryAll_160 ?_
          refine x_iconst (v := 3) C0 d_Rm_tryAll_163 (by decide) ?_
          refine x_sipush (v := 800) C0 d_Rm_tryAll_164 (by decide) ?_
          refine x_iload_n C0 1 d_Rm_tryAll_167 rfl rfl ?_
          refine x_imul C0 d_Rm_tryAll_168 ?_
          refine x_aload_n C0 0 d_Rm_tryAll_169 rfl rfl ?_
          obtain ⟨x170, e170, hwp⟩ := hwp
          refine x_getR C0 fk_Rm_66 e170 d_Rm_tryAll_170 ?_
          refine x_iload_n C0 1 d_Rm_tryAll_173 rfl rfl ?_
          obtain ⟨n174, f174, e174, i174, hwp⟩ := hwp
          refine x_iald C0 e174 i174 d_Rm_tryAll_174 ?_
          refine x_iadd C0 d_Rm_tryAll_175 ?_
          refine x_imul C0 d_Rm_tryAll_176 ?_
          refine x_iconst (v := 2) C0 d_Rm_tryAll_177 (by decide) ?_
          refine x_iadd C0 d_Rm_tryAll_178 ?_
          refine x_iload C0 4 d_Rm_tryAll_179 rfl ?_
          obtain ⟨n181, f181, e181, i181, hwp⟩ := hwp
          refine x_iast C0 e181 i181 d_Rm_tryAll_181 ?_
          refine x_nh (fun h181 eh181 => ?_)
          replace hwp := hwp h181 eh181
          refine x_aload_n C0 0 d_Rm_tryAll_182 rfl rfl ?_
          obtain ⟨x183, e183, hwp⟩ := hwp
          refine x_getR C0 fk_Rm_66 e183 d_Rm_tryAll_183 ?_
          refine x_iload_n C0 1 d_Rm_tryAll_186 rfl rfl ?_
          refine x_dup2 C0 d_Rm_tryAll_187 rfl rfl ?_
          obtain ⟨n188, f188, e188, i188, hwp⟩ := hwp
          refine x_iald C0 e188 i188 d_Rm_tryAll_188 ?_
          refine x_iconst (v := 1) C0 d_Rm_tryAll_189 (by decide) ?_
          refine x_iadd C0 d_Rm_tryAll_190 ?_
          obtain ⟨n191, f191, e191, i191, hwp⟩ := hwp
          refine x_iast C0 e191 i191 d_Rm_tryAll_191 ?_
          refine x_nh (fun h191 eh191 => ?_)
          replace hwp := hwp h191 eh191
          exact x_sub [0, 1, 2, 3, 4] rfl (t_Rm_tryAll_192 G C0 hR hr hlk hK30 hK47 hK65 _ _ _ _ _ _ hwp)
theorem t_Rm_tryAll_65 {p : Program} {l : Launch} {e : Env} {R : Room} {s : State} {m : MethodId} {args : Array Value} {below : List Frame} {meth : Method} {c : Code} (G : mG) (C0 : Cx G p s m args c prog_8_method_35_code 5 "BassRealiserModel") (hR : 4 ≤ R.frames ∧ 91 ≤ R.locals ∧ 0 ≤ R.cells ∧ 0 ≤ R.slots) (hr : meth.sig.returnType = none) (hlk : meth.locks = false) {Post : MH → Prop} {K30 : Nat → Int32 → Int32 → MH → Prop} {K47 : Nat → Int32 → Int32 → Int32 → MH → Prop} (hK30 : ∀ (l0 : Nat) (l1 : Int32) (l2 : Int32) (h : MH), K30 l0 l1 l2 h → WG p l e R s m args below meth c 0 0 (MQ below (va_Qv Post (Wd G) (mA G)) args s 0 0 (mA G)) G 5 [(0, .ref (m_b G + l0)), (1, .int l1), (2, .int l2)] 30 [] h) (hK47 : ∀ (l0 : Nat) (l1 : Int32) (l2 : Int32) (l3 : Int32) (h : MH), K47 l0 l1 l2 l3 h → WG p l e R s m args below meth c 0 0 (MQ below (va_Qv Post (Wd G) (mA G)) args s 0 0 (mA G)) G 5 [(0, .ref (m_b G + l0)), (1, .int l1), (2, .int l2), (3, .int l3)] 47 [] h) (l0 : Nat) (l1 : Int32) (l2 : Int32) (l3 : Int32) (l4 : Int32) (h : MH) (hwp : wp_Rm_tryAll_65 K30 K47 Post l0 l1 l2 l3 l4 h) : WG p l e R s m args below meth c 0 0 (MQ below (va_Qv Post (Wd G) (mA G)) args s 0 0 (mA G)) G 5 [(0, .ref (m_b G + l0)), (1, .int l1), (2, .int l2), (3, .int l3), (4, .int l4)] 65 [] h := by
  obtain ⟨n, hwp⟩ := hwp
  induction n generalizing l0 l1 l2 l3 l4 h with
  | zero => exact False.elim hwp
  | succ n ih => exact tb_Rm_tryAll_65 G C0 hR hr hlk hK30 hK47 (fun l0 l1 l2 l3 l4 h hwp => ih l0 l1 l2 l3 l4 h hwp) l0 l1 l2 l3 l4 h hwp
set_option maxRecDepth 100000 in
set_option maxHeartbeats 4000000 in
theorem tb_Rm_tryAll_47 {p : Program} {l : Launch} {e : Env} {R : Room} {s : State} {m : MethodId} {args : Array Value} {below : List Frame} {meth : Method} {c : Code} (G : mG) (C0 : Cx G p s m args c prog_8_method_35_code 5 "BassRealiserModel") (hR : 4 ≤ R.frames ∧ 91 ≤ R.locals ∧ 0 ≤ R.cells ∧ 0 ≤ R.slots) (hr : meth.sig.returnType = none) (hlk : meth.locks = false) {Post : MH → Prop} {K30 : Nat → Int32 → Int32 → MH → Prop} {K47 : Nat → Int32 → Int32 → Int32 → MH → Prop} (hK30 : ∀ (l0 : Nat) (l1 : Int32) (l2 : Int32) (h : MH), K30 l0 l1 l2 h → WG p l e R s m args below meth c 0 0 (MQ below (va_Qv Post (Wd G) (mA G)) args s 0 0 (mA G)) G 5 [(0, .ref (m_b G + l0)), (1, .int l1), (2, .int l2)] 30 [] h) (hK47 : ∀ (l0 : Nat) (l1 : Int32) (l2 : Int32) (l3 : Int32) (h : MH), K47 l0 l1 l2 l3 h → WG p l e R s m args below meth c 0 0 (MQ below (va_Qv Post (Wd G) (mA G)) args s 0 0 (mA G)) G 5 [(0, .ref (m_b G + l0)), (1, .int l1), (2, .int l2), (3, .int l3)] 47 [] h) (l0 : Nat) (l1 : Int32) (l2 : Int32) (l3 : Int32) (h : MH) (hwp : wb_Rm_tryAll_47 K30 K47 Post l0 l1 l2 l3 h) : WG p l e R s m args below meth c 0 0 (MQ below (va_Qv Post (Wd G) (mA G)) args s 0 0 (mA G)) G 5 [(0, .ref (m_b G + l0)), (1, .int l1), (2, .int l2), (3, .int l3)] 47 [] h := by
  unfold wb_Rm_tryAll_47 at hwp
  refine x_iload_n C0 3 d_Rm_tryAll_47 rfl rfl ?_
  refine x_aload_n C0 0 d_Rm_tryAll_48 rfl rfl ?_
  obtain ⟨x49, e49, hwp⟩ := hwp
  refine x_getR C0 fk_Rm_29 e49 d_Rm_tryAll_49 ?_
  refine x_iconst (v := 1) C0 d_Rm_tryAll_52 (by decide) ?_
  obtain ⟨n53, f53, e53, i53, hwp⟩ := hwp
  refine x_iald C0 e53 i53 d_Rm_tryAll_53 ?_
  refine x_icmp_gt (tgt := 204) C0 d_Rm_tryAll_54 (by decide) (fun c54 => ?_) (fun c54 => ?_)
  · replace hwp := hwp.1 c54
    refine x_iinc C0 2 d_Rm_tryAll_204 rfl rfl (by decide) (lv' := [(2, .int (l2 + (1 : Int32))), (0, .ref (m_b G + l0)), (1, .int l1), (3, .int l3)]) rfl ?_
    refine x_goto (tgt := 30) C0 d_Rm_tryAll_207 (by decide) ?_
    exact x_sub [1, 2, 0] rfl (hK30 _ _ _ _ hwp)
  · replace hwp := hwp.2 c54
    refine x_aload_n C0 0 d_Rm_tryAll_57 rfl rfl ?_
    obtain ⟨x58, e58, hwp⟩ := hwp
    refine x_getR C0 fk_Rm_26 e58 d_Rm_tryAll_58 ?_
    refine x_iconst (v := 2) C0 d_Rm_tryAll_61 (by decide) ?_
    obtain ⟨n62, f62, e62, i62, hwp⟩ := hwp
    refine x_iald C0 e62 i62 d_Rm_tryAll_62 ?_
    refine x_topI (fun z63 e63 => ?_)
    replace hwp := hwp z63 e63
    refine x_istore C0 d_Rm_tryAll_63 (by decide) (lv' := [(4, .int z63), (0, .ref (m_b G + l0)), (1, .int l1), (2, .int l2), (3, .int l3)]) rfl ?_
    exact x_sub [1, 2, 3, 4, 0] rfl (t_Rm_tryAll_65 G C0 hR hr hlk hK30 hK47 _ _ _ _ _ _ hwp)
theorem t_Rm_tryAll_47 {p : Program} {l : Launch} {e : Env} {R : Room} {s : State} {m : MethodId} {args : Array Value} {below : List Frame} {meth : Method} {c : Code} (G : mG) (C0 : Cx G p s m args c prog_8_method_35_code 5 "BassRealiserModel") (hR : 4 ≤ R.frames ∧ 91 ≤ R.locals ∧ 0 ≤ R.cells ∧ 0 ≤ R.slots) (hr : meth.sig.returnType = none) (hlk : meth.locks = false) {Post : MH → Prop} {K30 : Nat → Int32 → Int32 → MH → Prop} (hK30 : ∀ (l0 : Nat) (l1 : Int32) (l2 : Int32) (h : MH), K30 l0 l1 l2 h → WG p l e R s m args below meth c 0 0 (MQ below (va_Qv Post (Wd G) (mA G)) args s 0 0 (mA G)) G 5 [(0, .ref (m_b G + l0)), (1, .int l1), (2, .int l2)] 30 [] h) (l0 : Nat) (l1 : Int32) (l2 : Int32) (l3 : Int32) (h : MH) (hwp : wp_Rm_tryAll_47 K30 Post l0 l1 l2 l3 h) : WG p l e R s m args below meth c 0 0 (MQ below (va_Qv Post (Wd G) (mA G)) args s 0 0 (mA G)) G 5 [(0, .ref (m_b G + l0)), (1, .int l1), (2, .int l2), (3, .int l3)] 47 [] h := by
  obtain ⟨n, hwp⟩ := hwp
  induction n generalizing l0 l1 l2 l3 h with
  | zero => exact False.elim hwp
  | succ n ih => exact tb_Rm_tryAll_47 G C0 hR hr hlk hK30 (fun l0 l1 l2 l3 h hwp => ih l0 l1 l2 l3 h hwp) l0 l1 l2 l3 h hwp
set_option maxRecDepth 100000 in
set_option maxHeartbeats 4000000 in
theorem tb_Rm_tryAll_30 {p : Program} {l : Launch} {e : Env} {R : Room} {s : State} {m : MethodId} {args : Array Value} {below : List Frame} {meth : Method} {c : Code} (G : mG) (C0 : Cx G p s m args c prog_8_method_35_code 5 "BassRealiserModel") (hR : 4 ≤ R.frames ∧ 91 ≤ R.locals ∧ 0 ≤ R.cells ∧ 0 ≤ R.slots) (hr : meth.sig.returnType = none) (hlk : meth.locks = false) {Post : MH → Prop} {K30 : Nat → Int32 → Int32 → MH → Prop} (hK30 : ∀ (l0 : Nat) (l1 : Int32) (l2 : Int32) (h : MH), K30 l0 l1 l2 h → WG p l e R s m args below meth c 0 0 (MQ below (va_Qv Post (Wd G) (mA G)) args s 0 0 (mA G)) G 5 [(0, .ref (m_b G + l0)), (1, .int l1), (2, .int l2)] 30 [] h) (l0 : Nat) (l1 : Int32) (l2 : Int32) (h : MH) (hwp : wb_Rm_tryAll_30 K30 Post l0 l1 l2 h) : WG p l e R s m args below meth c 0 0 (MQ below (va_Qv Post (Wd G) (mA G)) args s 0 0 (mA G)) G 5 [(0, .ref (m_b G + l0)), (1, .int l1), (2, .int l2)] 30 [] h := by
  unfold wb_Rm_tryAll_30 at hwp
  refine x_iload_n C0 2 d_Rm_tryAll_30 rfl rfl ?_
  refine x_aload_n C0 0 d_Rm_tryAll_31 rfl rfl ?_
  obtain ⟨x32, e32, hwp⟩ := hwp
  refine x_getR C0 fk_Rm_29 e32 d_Rm_tryAll_32 ?_
  refine x_iconst (v := 0) C0 d_Rm_tryAll_35 (by decide) ?_
  obtain ⟨n36, f36, e36, i36, hwp⟩ := hwp
  refine x_iald C0 e36 i36 d_Rm_tryAll_36 ?_
  refine x_icmp_gt (tgt := 210) C0 d_Rm_tryAll_37 (by decide) (fun c37 => ?_) (fun c37 => ?_)
  · replace hwp := hwp.1 c37
    exact x_vret C0 hr hlk hwp d_Rm_tryAll_210
  · replace hwp := hwp.2 c37
    refine x_aload_n C0 0 d_Rm_tryAll_40 rfl rfl ?_
    obtain ⟨x41, e41, hwp⟩ := hwp
    refine x_getR C0 fk_Rm_26 e41 d_Rm_tryAll_41 ?_
    refine x_iconst (v := 1) C0 d_Rm_tryAll_44 (by decide) ?_
    obtain ⟨n45, f45, e45, i45, hwp⟩ := hwp
    refine x_iald C0 e45 i45 d_Rm_tryAll_45 ?_
    refine x_topI (fun z46 e46 => ?_)
    replace hwp := hwp z46 e46
    refine x_istore_n C0 d_Rm_tryAll_46 rfl (by decide) (lv' := [(3, .int z46), (0, .ref (m_b G + l0)), (1, .int l1), (2, .int l2)]) rfl ?_
    exact x_sub [1, 2, 3, 0] rfl (t_Rm_tryAll_47 G C0 hR hr hlk hK30 _ _ _ _ _ hwp)
theorem t_Rm_tryAll_30 {p : Program} {l : Launch} {e : Env} {R : Room} {s : State} {m : MethodId} {args : Array Value} {below : List Frame} {meth : Method} {c : Code} (G : mG) (C0 : Cx G p s m args c prog_8_method_35_code 5 "BassRealiserModel") (hR : 4 ≤ R.frames ∧ 91 ≤ R.locals ∧ 0 ≤ R.cells ∧ 0 ≤ R.slots) (hr : meth.sig.returnType = none) (hlk : meth.locks = false) {Post : MH → Prop} (l0 : Nat) (l1 : Int32) (l2 : Int32) (h : MH) (hwp : wp_Rm_tryAll_30 Post l0 l1 l2 h) : WG p l e R s m args below meth c 0 0 (MQ below (va_Qv Post (Wd G) (mA G)) args s 0 0 (mA G)) G 5 [(0, .ref (m_b G + l0)), (1, .int l1), (2, .int l2)] 30 [] h := by
  obtain ⟨n, hwp⟩ := hwp
  induction n generalizing l0 l1 l2 h with
  | zero => exact False.elim hwp
  | succ n ih => exact tb_Rm_tryAll_30 G C0 hR hr hlk (fun l0 l1 l2 h hwp => ih l0 l1 l2 h hwp) l0 l1 l2 h hwp
set_option maxRecDepth 100000 in
set_option maxHeartbeats 4000000 in
theorem t_Rm_tryAll {p : Program} {l : Launch} {e : Env} {R : Room} {s : State} {m : MethodId} {args : Array Value} {below : List Frame} {meth : Method} {c : Code} (G : mG) (C0 : Cx G p s m args c prog_8_method_35_code 5 "BassRealiserModel") (hR : 4 ≤ R.frames ∧ 91 ≤ R.locals ∧ 0 ≤ R.cells ∧ 0 ≤ R.slots) (hr : meth.sig.returnType = none) (hlk : meth.locks = false) {Post : MH → Prop} (l0 : Nat) (l1 : Int32) (h : MH) (hwp : wp_Rm_tryAll Post l0 l1 h) : WG p l e R s m args below meth c 0 0 (MQ below (va_Qv Post (Wd G) (mA G)) args s 0 0 (mA G)) G 5 [(0, .ref (m_b G + l0)), (1, .int l1)] 0 [] h := by
  unfold wp_Rm_tryAll at hwp
  refine x_aload_n C0 0 d_Rm_tryAll_0 rfl rfl ?_
  obtain ⟨x1, e1, hwp⟩ := hwp
  refine x_getR C0 fk_Rm_66 e1 d_Rm_tryAll_1 ?_
  refine x_iload_n C0 1 d_Rm_tryAll_4 rfl rfl ?_
  refine x_iconst (v := 0) C0 d_Rm_tryAll_5 (by decide) ?_
  obtain ⟨n6, f6, e6, i6, hwp⟩ := hwp
  refine x_iast C0 e6 i6 d_Rm_tryAll_6 ?_
  refine x_nh (fun h6 eh6 => ?_)
  replace hwp := hwp h6 eh6
  refine x_aload_n C0 0 d_Rm_tryAll_7 rfl rfl ?_
  refine x_iload_n C0 1 d_Rm_tryAll_8 rfl rfl ?_
  obtain ⟨g9, hwp⟩ := hwp
  refine x_callVv0 (k := l0) (As := [.int l1]) (st := []) C0 (c_Rm_look l G hwp) kw_4_46 mk_Rm_look vk_Rm_look rfl g9 rfl (Nat.le_of_ble_eq_true rfl) rfl rfl ⟨Nat.le_trans (by decide) hR.1, Nat.le_trans (by decide) hR.2.1⟩ ⟨Nat.zero_le _, Nat.zero_le _⟩ rfl d_Rm_tryAll_9 (fun h9 hwp => ?_)
  refine x_aload_n C0 0 d_Rm_tryAll_12 rfl rfl ?_
  obtain ⟨x13, e13, hwp⟩ := hwp
  refine x_getR C0 fk_Rm_48 e13 d_Rm_tryAll_13 ?_
  refine x_iconst (v := 3) C0 d_Rm_tryAll_16 (by decide) ?_
  refine x_aload_n C0 0 d_Rm_tryAll_17 rfl rfl ?_
  refine x_iload_n C0 1 d_Rm_tryAll_18 rfl rfl ?_
  obtain ⟨g19, hwp⟩ := hwp
  refine x_callVi0 (k := l0) (As := [.int l1]) (st := [.int (3 : Int32), .ref (m_b G + x13)]) C0 (c_Rm_bassOf l G hwp) kw_3_236 mk_Rm_bassOf vk_Rm_bassOf rfl g19 rfl (Nat.le_of_ble_eq_true rfl) rfl rfl ⟨Nat.le_trans (by decide) hR.1, Nat.le_trans (by decide) hR.2.1⟩ ⟨Nat.zero_le _, Nat.zero_le _⟩ rfl d_Rm_tryAll_19 (fun r19 h19 hwp => ?_)
  obtain ⟨n22, f22, e22, i22, hwp⟩ := hwp
  refine x_iast C0 e22 i22 d_Rm_tryAll_22 ?_
  refine x_nh (fun h22 eh22 => ?_)
  replace hwp := hwp h22 eh22
  refine x_aload_n C0 0 d_Rm_tryAll_23 rfl rfl ?_
  obtain ⟨x24, e24, hwp⟩ := hwp
  refine x_getR C0 fk_Rm_26 e24 d_Rm_tryAll_24 ?_
  refine x_iconst (v := 0) C0 d_Rm_tryAll_27 (by decide) ?_
  obtain ⟨n28, f28, e28, i28, hwp⟩ := hwp
  refine x_iald C0 e28 i28 d_Rm_tryAll_28 ?_
  refine x_topI (fun z29 e29 => ?_)
  replace hwp := hwp z29 e29
  refine x_istore_n C0 d_Rm_tryAll_29 rfl (by decide) (lv' := [(2, .int z29), (0, .ref (m_b G + l0)), (1, .int l1)]) rfl ?_
  exact x_sub [1, 2, 0] rfl (t_Rm_tryAll_30 G C0 hR hr hlk  _ _ _ _ hwp)
set_option maxRecDepth 100000 in
set_option maxHeartbeats 4000000 in
theorem c_Rm_tryAll (l : Launch) (G : mG) {Post : MH → Prop} {l0 : Nat} {l1 : Int32} {h : MH} (hwp : wp_Rm_tryAll Post l0 l1 h) : Met l y_Rm_tryAll (Cond.code y_Rm_tryAll prog_8_method_35_code 5 (Option.none : Option Jvm.ClassFile.FieldType) :: lw_good) ({ frames := 4, cells := 0, slots := 0, locals := 91 }) (va_Pc [.ref (m_b G + l0), .int l1] (Wd G h)) (va_Qv Post (Wd G) (mA G)) 0 0 (mA G) := by
  refine Met.ofW (cc := prog_8_method_35_code) (maxL := 5) (ret := (Option.none : Option Jvm.ClassFile.FieldType)) (by decide +kernel) rfl ?_
  intro p e s m args below meth c s₁ B hml hv
  obtain ⟨rfl, hP, hz, hK, hSt⟩ := hv
  have hts := atoms_spec (ws := Cond.code y_Rm_tryAll prog_8_method_35_code 5 (Option.none : Option Jvm.ClassFile.FieldType) :: lw_good) B.pre
  have C0 : Cx G p s m ([.ref (m_b G + l0), .int l1] : List Value).toArray c prog_8_method_35_code 5 "BassRealiserModel" := ⟨⟨B.exec, B.bytes, hml, findClass_of_methodNamed B.named, fun w h => hts w (List.mem_cons_of_mem _ h)⟩, hK, hSt, by rw [hz]; exact Nat.le_add_right _ _⟩
  have hl := lv_entry ([.ref (m_b G + l0), .int l1]) (n := 5) (Nat.le_of_ble_eq_true rfl)
  rw [lg_entry_eq]
  exact t_Rm_tryAll G C0 ⟨Nat.le_refl _, Nat.le_refl _, Nat.le_refl _, Nat.le_refl _⟩ B.returns B.notSynchronized _ _ _ hwp _ _ _ ⟨hP, hz, va_S.rf⟩ hl
def wb_Rm_take_3 (K3 : Nat → Int32 → Int32 → Nat → Int32 → MH → Prop) (Post : MH → Prop) (l0 : Nat) (l1 : Int32) (l2 : Int32) (l3 : Nat) (l4 : Int32) (h : MH) : Prop :=
  (((3 : Int32) ≤ l4) →
    (gC h l0 = some 6 ∧ wp_Rm_bassOf (fun (r40 : Int32) (h40 : MH) =>
        (∃ (n43 : Nat) (f43 : Nat → Int32), gA h40 l3 0 = some (n43, f43) ∧ vp_in (3 : Int32) n43 ∧ ∀ h43 : MH, h43 = mset h40 l3 (.inr (0, n43, .inl (upd f43 ((3 : Int32)).toNatClampNeg r40))) →
          (Post h43))) l0 l1 h)) ∧
  ((¬ (3 : Int32) ≤ l4) →
    (∃ x13 : Nat, gF h l0 6 20 = some (.inr (some x13)) ∧
      (∃ (n28 : Nat) (f28 : Nat → Int32), gA h x13 0 = some (n28, f28) ∧ vp_in (((3 : Int32) * (((800 : Int32) * l1) + l2)) + l4) n28 ∧
        (∃ (n29 : Nat) (f29 : Nat → Int32), gA h l3 0 = some (n29, f29) ∧ vp_in l4 n29 ∧ ∀ h29 : MH, h29 = mset h l3 (.inr (0, n29, .inl (upd f29 (l4).toNatClampNeg (f28 (((3 : Int32) * (((800 : Int32) * l1) + l2)) + l4).toNatClampNeg)))) →
          (K3 l0 l1 l2 l3 (l4 + (1 : Int32)) h29)))))
def wn_Rm_take_3 (Post : MH → Prop) : Nat → Nat → Int32 → Int32 → Nat → Int32 → MH → Prop
  | 0 => fun _ _ _ _ _ _ => False
  | n + 1 => wb_Rm_take_3 (wn_Rm_take_3 Post n) Post
def wp_Rm_take_3 (Post : MH → Prop) (l0 : Nat) (l1 : Int32) (l2 : Int32) (l3 : Nat) (l4 : Int32) (h : MH) : Prop := ∃ n, wn_Rm_take_3 Post n l0 l1 l2 l3 l4 h
def wp_Rm_take (Post : MH → Prop) (l0 : Nat) (l1 : Int32) (l2 : Int32) (l3 : Nat) (h : MH) : Prop :=
  wp_Rm_take_3 Post l0 l1 l2 l3 (0 : Int32) h
set_option maxRecDepth 100000 in
set_option maxHeartbeats 4000000 in
theorem tb_Rm_take_3 {p : Program} {l : Launch} {e : Env} {R : Room} {s : State} {m : MethodId} {args : Array Value} {below : List Frame} {meth : Method} {c : Code} (G : mG) (C0 : Cx G p s m args c prog_8_method_34_code 5 "BassRealiserModel") (hR : 2 ≤ R.frames ∧ 41 ≤ R.locals ∧ 0 ≤ R.cells ∧ 0 ≤ R.slots) (hr : meth.sig.returnType = none) (hlk : meth.locks = false) {Post : MH → Prop} {K3 : Nat → Int32 → Int32 → Nat → Int32 → MH → Prop} (hK3 : ∀ (l0 : Nat) (l1 : Int32) (l2 : Int32) (l3 : Nat) (l4 : Int32) (h : MH), K3 l0 l1 l2 l3 l4 h → WG p l e R s m args below meth c 0 0 (MQ below (va_Qv Post (Wd G) (mA G)) args s 0 0 (mA G)) G 5 [(0, .ref (m_b G + l0)), (1, .int l1), (2, .int l2), (3, .ref (m_b G + l3)), (4, .int l4)] 3 [] h) (l0 : Nat) (l1 : Int32) (l2 : Int32) (l3 : Nat) (l4 : Int32) (h : MH) (hwp : wb_Rm_take_3 K3 Post l0 l1 l2 l3 l4 h) : WG p l e R s m args below meth c 0 0 (MQ below (va_Qv Post (Wd G) (mA G)) args s 0 0 (mA G)) G 5 [(0, .ref (m_b G + l0)), (1, .int l1), (2, .int l2), (3, .ref (m_b G + l3)), (4, .int l4)] 3 [] h := by
  unfold wb_Rm_take_3 at hwp
  refine x_iload C0 4 d_Rm_take_3 rfl ?_
  refine x_iconst (v := 3) C0 d_Rm_take_5 (by decide) ?_
  refine x_icmp_ge (tgt := 36) C0 d_Rm_take_6 (by decide) (fun c6 => ?_) (fun c6 => ?_)
  · replace hwp := hwp.1 c6
    refine x_aload_n C0 3 d_Rm_take_36 rfl rfl ?_
    refine x_iconst (v := 3) C0 d_Rm_take_37 (by decide) ?_
    refine x_aload_n C0 0 d_Rm_take_38 rfl rfl ?_
    refine x_iload_n C0 1 d_Rm_take_39 rfl rfl ?_
    obtain ⟨g40, hwp⟩ := hwp
    refine x_callVi0 (k := l0) (As := [.int l1]) (st := [.int (3 : Int32), .ref (m_b G + l3)]) C0 (c_Rm_bassOf l G hwp) kw_3_236 mk_Rm_bassOf vk_Rm_bassOf rfl g40 rfl (Nat.le_of_ble_eq_true rfl) rfl rfl ⟨Nat.le_trans (by decide) hR.1, Nat.le_trans (by decide) hR.2.1⟩ ⟨Nat.zero_le _, Nat.zero_le _⟩ rfl d_Rm_take_40 (fun r40 h40 hwp => ?_)
    obtain ⟨n43, f43, e43, i43, hwp⟩ := hwp
    refine x_iast C0 e43 i43 d_Rm_take_43 ?_
    refine x_nh (fun h43 eh43 => ?_)
    replace hwp := hwp h43 eh43
    exact x_vret C0 hr hlk hwp d_Rm_take_44
  · replace hwp := hwp.2 c6
    refine x_aload_n C0 3 d_Rm_take_9 rfl rfl ?_
    refine x_iload C0 4 d_Rm_take_10 rfl ?_
    refine x_aload_n C0 0 d_Rm_take_12 rfl rfl ?_
    obtain ⟨x13, e13, hwp⟩ := hwp
    refine x_getR C0 fk_Rm_63 e13 d_Rm_take_13 ?_
    refine x_iconst (v := 3) C0 d_Rm_take_16 (by decide) ?_
    refine x_sipush (v := 800) C0 d_Rm_take_17 (by decide) ?_
    refine x_iload_n C0 1 d_Rm_take_20 rfl rfl ?_
    refine x_imul C0 d_Rm_take_21 ?_
    refine x_iload_n C0 2 d_Rm_take_22 rfl rfl ?_
    refine x_iadd C0 d_Rm_take_23 ?_
    refine x_imul C0 d_Rm_take_24 ?_
    refine x_iload C0 4 d_Rm_take_25 rfl ?_
    refine x_iadd C0 d_Rm_take_27 ?_
    obtain ⟨n28, f28, e28, i28, hwp⟩ := hwp
    refine x_iald C0 e28 i28 d_Rm_take_28 ?_
    obtain ⟨n29, f29, e29, i29, hwp⟩ := hwp
    refine x_iast C0 e29 i29 d_Rm_take_29 ?_
    refine x_nh (fun h29 eh29 => ?_)
    replace hwp := hwp h29 eh29
    refine x_iinc C0 4 d_Rm_take_30 rfl rfl (by decide) (lv' := [(4, .int (l4 + (1 : Int32))), (0, .ref (m_b G + l0)), (1, .int l1), (2, .int l2), (3, .ref (m_b G + l3))]) rfl ?_
    refine x_goto (tgt := 3) C0 d_Rm_take_33 (by decide) ?_
    exact x_sub [1, 2, 3, 4, 0] rfl (hK3 _ _ _ _ _ _ hwp)
theorem t_Rm_take_3 {p : Program} {l : Launch} {e : Env} {R : Room} {s : State} {m : MethodId} {args : Array Value} {below : List Frame} {meth : Method} {c : Code} (G : mG) (C0 : Cx G p s m args c prog_8_method_34_code 5 "BassRealiserModel") (hR : 2 ≤ R.frames ∧ 41 ≤ R.locals ∧ 0 ≤ R.cells ∧ 0 ≤ R.slots) (hr : meth.sig.returnType = none) (hlk : meth.locks = false) {Post : MH → Prop} (l0 : Nat) (l1 : Int32) (l2 : Int32) (l3 : Nat) (l4 : Int32) (h : MH) (hwp : wp_Rm_take_3 Post l0 l1 l2 l3 l4 h) : WG p l e R s m args below meth c 0 0 (MQ below (va_Qv Post (Wd G) (mA G)) args s 0 0 (mA G)) G 5 [(0, .ref (m_b G + l0)), (1, .int l1), (2, .int l2), (3, .ref (m_b G + l3)), (4, .int l4)] 3 [] h := by
  obtain ⟨n, hwp⟩ := hwp
  induction n generalizing l0 l1 l2 l3 l4 h with
  | zero => exact False.elim hwp
  | succ n ih => exact tb_Rm_take_3 G C0 hR hr hlk (fun l0 l1 l2 l3 l4 h hwp => ih l0 l1 l2 l3 l4 h hwp) l0 l1 l2 l3 l4 h hwp
set_option maxRecDepth 100000 in
set_option maxHeartbeats 4000000 in
theorem t_Rm_take {p : Program} {l : Launch} {e : Env} {R : Room} {s : State} {m : MethodId} {args : Array Value} {below : List Frame} {meth : Method} {c : Code} (G : mG) (C0 : Cx G p s m args c prog_8_method_34_code 5 "BassRealiserModel") (hR : 2 ≤ R.frames ∧ 41 ≤ R.locals ∧ 0 ≤ R.cells ∧ 0 ≤ R.slots) (hr : meth.sig.returnType = none) (hlk : meth.locks = false) {Post : MH → Prop} (l0 : Nat) (l1 : Int32) (l2 : Int32) (l3 : Nat) (h : MH) (hwp : wp_Rm_take Post l0 l1 l2 l3 h) : WG p l e R s m args below meth c 0 0 (MQ below (va_Qv Post (Wd G) (mA G)) args s 0 0 (mA G)) G 5 [(0, .ref (m_b G + l0)), (1, .int l1), (2, .int l2), (3, .ref (m_b G + l3))] 0 [] h := by
  unfold wp_Rm_take at hwp
  refine x_iconst (v := 0) C0 d_Rm_take_0 (by decide) ?_
  refine x_istore C0 d_Rm_take_1 (by decide) (lv' := [(4, .int (0 : Int32)), (0, .ref (m_b G + l0)), (1, .int l1), (2, .int l2), (3, .ref (m_b G + l3))]) rfl ?_
  exact x_sub [1, 2, 3, 4, 0] rfl (t_Rm_take_3 G C0 hR hr hlk  _ _ _ _ _ _ hwp)
set_option maxRecDepth 100000 in
set_option maxHeartbeats 4000000 in
theorem c_Rm_take (l : Launch) (G : mG) {Post : MH → Prop} {l0 : Nat} {l1 : Int32} {l2 : Int32} {l3 : Nat} {h : MH} (hwp : wp_Rm_take Post l0 l1 l2 l3 h) : Met l y_Rm_take (Cond.code y_Rm_take prog_8_method_34_code 5 (Option.none : Option Jvm.ClassFile.FieldType) :: lw_good) ({ frames := 2, cells := 0, slots := 0, locals := 41 }) (va_Pc [.ref (m_b G + l0), .int l1, .int l2, .ref (m_b G + l3)] (Wd G h)) (va_Qv Post (Wd G) (mA G)) 0 0 (mA G) := by
  refine Met.ofW (cc := prog_8_method_34_code) (maxL := 5) (ret := (Option.none : Option Jvm.ClassFile.FieldType)) (by decide +kernel) rfl ?_
  intro p e s m args below meth c s₁ B hml hv
  obtain ⟨rfl, hP, hz, hK, hSt⟩ := hv
  have hts := atoms_spec (ws := Cond.code y_Rm_take prog_8_method_34_code 5 (Option.none : Option Jvm.ClassFile.FieldType) :: lw_good) B.pre
  have C0 : Cx G p s m ([.ref (m_b G + l0), .int l1, .int l2, .ref (m_b G + l3)] : List Value).toArray c prog_8_method_34_code 5 "BassRealiserModel" := ⟨⟨B.exec, B.bytes, hml, findClass_of_methodNamed B.named, fun w h => hts w (List.mem_cons_of_mem _ h)⟩, hK, hSt, by rw [hz]; exact Nat.le_add_right _ _⟩
  have hl := lv_entry ([.ref (m_b G + l0), .int l1, .int l2, .ref (m_b G + l3)]) (n := 5) (Nat.le_of_ble_eq_true rfl)
  rw [lg_entry_eq]
  exact t_Rm_take G C0 ⟨Nat.le_refl _, Nat.le_refl _, Nat.le_refl _, Nat.le_refl _⟩ B.returns B.notSynchronized _ _ _ _ _ hwp _ _ _ ⟨hP, hz, va_S.rf⟩ hl
def wp_Rm_far (Post : Int32 → MH → Prop) (l0 : Int32) (l1 : Int32) (h : MH) : Prop :=
  ((l0 ≤ l1) →
    (Post (l1 - l0) h)) ∧
  ((¬ l0 ≤ l1) →
    (Post (l0 - l1) h))
set_option maxRecDepth 100000 in
set_option maxHeartbeats 4000000 in
theorem t_Rm_far {p : Program} {l : Launch} {e : Env} {R : Room} {s : State} {m : MethodId} {args : Array Value} {below : List Frame} {meth : Method} {c : Code} (G : mG) (C0 : Cx G p s m args c prog_8_method_36_code 2 "BassRealiserModel") (hR : 0 ≤ R.frames ∧ 0 ≤ R.locals ∧ 0 ≤ R.cells ∧ 0 ≤ R.slots) (hr : meth.sig.returnType = some .int) (hlk : meth.locks = false) {Post : Int32 → MH → Prop} (l0 : Int32) (l1 : Int32) (h : MH) (hwp : wp_Rm_far Post l0 l1 h) : WG p l e R s m args below meth c 0 0 (MQ below (va_Qi Post (Wd G) (mA G)) args s 0 0 (mA G)) G 2 [(0, .int l0), (1, .int l1)] 0 [] h := by
  unfold wp_Rm_far at hwp
  refine x_iload_n C0 0 d_Rm_far_0 rfl rfl ?_
  refine x_iload_n C0 1 d_Rm_far_1 rfl rfl ?_
  refine x_icmp_le (tgt := 11) C0 d_Rm_far_2 (by decide) (fun c2 => ?_) (fun c2 => ?_)
  · replace hwp := hwp.1 c2
    refine x_iload_n C0 1 d_Rm_far_11 rfl rfl ?_
    refine x_iload_n C0 0 d_Rm_far_12 rfl rfl ?_
    refine x_isub C0 d_Rm_far_13 ?_
    exact x_iret C0 hr hlk hwp d_Rm_far_14
  · replace hwp := hwp.2 c2
    refine x_iload_n C0 0 d_Rm_far_5 rfl rfl ?_
    refine x_iload_n C0 1 d_Rm_far_6 rfl rfl ?_
    refine x_isub C0 d_Rm_far_7 ?_
    refine x_goto (tgt := 14) C0 d_Rm_far_8 (by decide) ?_
    exact x_iret C0 hr hlk hwp d_Rm_far_14
set_option maxRecDepth 100000 in
set_option maxHeartbeats 4000000 in
theorem c_Rm_far (l : Launch) (G : mG) {Post : Int32 → MH → Prop} {l0 : Int32} {l1 : Int32} {h : MH} (hwp : wp_Rm_far Post l0 l1 h) : Met l y_Rm_far (Cond.code y_Rm_far prog_8_method_36_code 2 (Option.some Jvm.ClassFile.FieldType.int) :: lw_good) ({ frames := 0, cells := 0, slots := 0, locals := 0 }) (va_Pc [.int l0, .int l1] (Wd G h)) (va_Qi Post (Wd G) (mA G)) 0 0 (mA G) := by
  refine Met.ofW (cc := prog_8_method_36_code) (maxL := 2) (ret := (Option.some Jvm.ClassFile.FieldType.int)) (by decide +kernel) rfl ?_
  intro p e s m args below meth c s₁ B hml hv
  obtain ⟨rfl, hP, hz, hK, hSt⟩ := hv
  have hts := atoms_spec (ws := Cond.code y_Rm_far prog_8_method_36_code 2 (Option.some Jvm.ClassFile.FieldType.int) :: lw_good) B.pre
  have C0 : Cx G p s m ([.int l0, .int l1] : List Value).toArray c prog_8_method_36_code 2 "BassRealiserModel" := ⟨⟨B.exec, B.bytes, hml, findClass_of_methodNamed B.named, fun w h => hts w (List.mem_cons_of_mem _ h)⟩, hK, hSt, by rw [hz]; exact Nat.le_add_right _ _⟩
  have hl := lv_entry ([.int l0, .int l1]) (n := 2) (Nat.le_of_ble_eq_true rfl)
  rw [lg_entry_eq]
  exact t_Rm_far G C0 ⟨Nat.le_refl _, Nat.le_refl _, Nat.le_refl _, Nat.le_refl _⟩ B.returns B.notSynchronized _ _ _ hwp _ _ _ ⟨hP, hz, va_S.rf⟩ hl
def wp_Rm_isParallel (Post : Int32 → MH → Prop) (l0 : Nat) (l1 : Int32) (l2 : Int32) (h : MH) : Prop :=
  ∃ x1 : Nat, gF h l0 6 15 = some (.inr (some x1)) ∧
  (∃ (n5 : Nat) (f5 : Nat → Int32), gA h x1 0 = some (n5, f5) ∧ vp_in l1 n5 ∧
    (∃ x7 : Nat, gF h l0 6 15 = some (.inr (some x7)) ∧
      (∃ (n11 : Nat) (f11 : Nat → Int32), gA h x7 0 = some (n11, f11) ∧ vp_in l2 n11 ∧
        (wp_Rm_mod (fun (r15 : Int32) (h15 : MH) =>
            (∃ x20 : Nat, gF h15 l0 6 14 = some (.inr (some x20)) ∧
              (∃ (n24 : Nat) (f24 : Nat → Int32), gA h15 x20 0 = some (n24, f24) ∧ vp_in l1 n24 ∧
                (∃ x26 : Nat, gF h15 l0 6 14 = some (.inr (some x26)) ∧
                  (∃ (n30 : Nat) (f30 : Nat → Int32), gA h15 x26 0 = some (n30, f30) ∧ vp_in l2 n30 ∧
                    (wp_Rm_mod (fun (r34 : Int32) (h34 : MH) =>
                        (∃ x40 : Nat, gF h34 l0 6 15 = some (.inr (some x40)) ∧
                        (∃ (n44 : Nat) (f44 : Nat → Int32), gA h34 x40 0 = some (n44, f44) ∧ vp_in l1 n44 ∧
                        (∃ x46 : Nat, gF h34 l0 6 14 = some (.inr (some x46)) ∧
                        (∃ (n50 : Nat) (f50 : Nat → Int32), gA h34 x46 0 = some (n50, f50) ∧ vp_in l1 n50 ∧
                        ((((f44 (l1).toNatClampNeg) = (f50 (l1).toNatClampNeg)) →
                        (Post (0 : Int32) h34)) ∧
                        ((¬ (f44 (l1).toNatClampNeg) = (f50 (l1).toNatClampNeg)) →
                        (∃ x55 : Nat, gF h34 l0 6 15 = some (.inr (some x55)) ∧
                        (∃ (n59 : Nat) (f59 : Nat → Int32), gA h34 x55 0 = some (n59, f59) ∧ vp_in l2 n59 ∧
                        (∃ x61 : Nat, gF h34 l0 6 14 = some (.inr (some x61)) ∧
                        (∃ (n65 : Nat) (f65 : Nat → Int32), gA h34 x61 0 = some (n65, f65) ∧ vp_in l2 n65 ∧
                        ((((f59 (l2).toNatClampNeg) = (f65 (l2).toNatClampNeg)) →
                        (Post (0 : Int32) h34)) ∧
                        ((¬ (f59 (l2).toNatClampNeg) = (f65 (l2).toNatClampNeg)) →
                        (((¬ r15 = r34) →
                        (Post (0 : Int32) h34)) ∧
                        ((r15 = r34) →
                        (((r15 = 0) →
                        (Post (1 : Int32) h34)) ∧
                        ((¬ r15 = 0) →
                        (((¬ r15 = (7 : Int32)) →
                        (Post (0 : Int32) h34)) ∧
                        ((r15 = (7 : Int32)) →
                        (Post (1 : Int32) h34)))))))))))))))))))) ((f24 (l1).toNatClampNeg) - (f30 (l2).toNatClampNeg)) (12 : Int32) h15)))))) ((f5 (l1).toNatClampNeg) - (f11 (l2).toNatClampNeg)) (12 : Int32) h))))
set_option maxRecDepth 100000 in
set_option maxHeartbeats 4000000 in
theorem t_Rm_isParallel {p : Program} {l : Launch} {e : Env} {R : Room} {s : State} {m : MethodId} {args : Array Value} {below : List Frame} {meth : Method} {c : Code} (G : mG) (C0 : Cx G p s m args c prog_8_method_32_code 5 "BassRealiserModel") (hR : 1 ≤ R.frames ∧ 21 ≤ R.locals ∧ 0 ≤ R.cells ∧ 0 ≤ R.slots) (hr : meth.sig.returnType = some .boolean) (hlk : meth.locks = false) {Post : Int32 → MH → Prop} (l0 : Nat) (l1 : Int32) (l2 : Int32) (h : MH) (hwp : wp_Rm_isParallel Post l0 l1 l2 h) : WG p l e R s m args below meth c 0 0 (MQ below (va_Qi Post (Wd G) (mA G)) args s 0 0 (mA G)) G 5 [(0, .ref (m_b G + l0)), (1, .int l1), (2, .int l2)] 0 [] h := by
  unfold wp_Rm_isParallel at hwp
  refine x_aload_n C0 0 d_Rm_isParallel_0 rfl rfl ?_
  obtain ⟨x1, e1, hwp⟩ := hwp
  refine x_getR C0 fk_Rm_51 e1 d_Rm_isParallel_1 ?_
  refine x_iload_n C0 1 d_Rm_isParallel_4 rfl rfl ?_
  obtain ⟨n5, f5, e5, i5, hwp⟩ := hwp
  refine x_iald C0 e5 i5 d_Rm_isParallel_5 ?_
  refine x_aload_n C0 0 d_Rm_isParallel_6 rfl rfl ?_
  obtain ⟨x7, e7, hwp⟩ := hwp
  refine x_getR C0 fk_Rm_51 e7 d_Rm_isParallel_7 ?_
  refine x_iload_n C0 2 d_Rm_isParallel_10 rfl rfl ?_
  obtain ⟨n11, f11, e11, i11, hwp⟩ := hwp
  refine x_iald C0 e11 i11 d_Rm_isParallel_11 ?_
  refine x_isub C0 d_Rm_isParallel_12 ?_
  refine x_bipush (v := 12) C0 d_Rm_isParallel_13 (by decide) ?_
  refine x_callSi0 (As := [.int ((f5 (l1).toNatClampNeg) - (f11 (l2).toNatClampNeg)), .int (12 : Int32)]) (st := []) C0 (c_Rm_mod l G hwp) kw_4_27 mk_Rm_mod kw_4_28 rfl (Nat.le_of_ble_eq_true rfl) rfl rfl ⟨Nat.le_trans (by decide) hR.1, Nat.le_trans (by decide) hR.2.1⟩ ⟨Nat.zero_le _, Nat.zero_le _⟩ rfl d_Rm_isParallel_15 (fun r15 h15 hwp => ?_)
  refine x_istore_n C0 d_Rm_isParallel_18 rfl (by decide) (lv' := [(3, .int r15), (0, .ref (m_b G + l0)), (1, .int l1), (2, .int l2)]) rfl ?_
  refine x_aload_n C0 1 d_Rm_isParallel_19 rfl rfl ?_
  obtain ⟨x20, e20, hwp⟩ := hwp
  refine x_getR C0 fk_Rm_48 e20 d_Rm_isParallel_20 ?_
  refine x_iload_n C0 2 d_Rm_isParallel_23 rfl rfl ?_
  obtain ⟨n24, f24, e24, i24, hwp⟩ := hwp
  refine x_iald C0 e24 i24 d_Rm_isParallel_24 ?_
  refine x_aload_n C0 1 d_Rm_isParallel_25 rfl rfl ?_
  obtain ⟨x26, e26, hwp⟩ := hwp
  refine x_getR C0 fk_Rm_48 e26 d_Rm_isParallel_26 ?_
  refine x_iload_n C0 3 d_Rm_isParallel_29 rfl rfl ?_
  obtain ⟨n30, f30, e30, i30, hwp⟩ := hwp
  refine x_iald C0 e30 i30 d_Rm_isParallel_30 ?_
  refine x_isub C0 d_Rm_isParallel_31 ?_
  refine x_bipush (v := 12) C0 d_Rm_isParallel_32 (by decide) ?_
  refine x_callSi0 (As := [.int ((f24 (l1).toNatClampNeg) - (f30 (l2).toNatClampNeg)), .int (12 : Int32)]) (st := []) C0 (c_Rm_mod l G hwp) kw_4_27 mk_Rm_mod kw_4_28 rfl (Nat.le_of_ble_eq_true rfl) rfl rfl ⟨Nat.le_trans (by decide) hR.1, Nat.le_trans (by decide) hR.2.1⟩ ⟨Nat.zero_le _, Nat.zero_le _⟩ rfl d_Rm_isParallel_34 (fun r34 h34 hwp => ?_)
  refine x_istore C0 d_Rm_isParallel_37 (by decide) (lv' := [(4, .int r34), (3, .int r15), (0, .ref (m_b G + l0)), (1, .int l1), (2, .int l2)]) rfl ?_
  refine x_aload_n C0 2 d_Rm_isParallel_39 rfl rfl ?_
  obtain ⟨x40, e40, hwp⟩ := hwp
  refine x_getR C0 fk_Rm_51 e40 d_Rm_isParallel_40 ?_
  refine x_iload_n C0 3 d_Rm_isParallel_43 rfl rfl ?_
  obtain ⟨n44, f44, e44, i44, hwp⟩ := hwp
  refine x_iald C0 e44 i44 d_Rm_isParallel_44 ?_
  refine x_aload_n C0 2 d_Rm_isParallel_45 rfl rfl ?_
  obtain ⟨x46, e46, hwp⟩ := hwp
  refine x_getR C0 fk_Rm_48 e46 d_Rm_isParallel_46 ?_
  refine x_iload_n C0 3 d_Rm_isParallel_49 rfl rfl ?_
  obtain ⟨n50, f50, e50, i50, hwp⟩ := hwp
  refine x_iald C0 e50 i50 d_Rm_isParallel_50 ?_
  refine x_icmp_eq (tgt := 89) C0 d_Rm_isParallel_51 (by decide) (fun c51 => ?_) (fun c51 => ?_)
  · replace hwp := hwp.1 c51
    refine x_iconst (v := 0) C0 d_Rm_isParallel_89 (by decide) ?_
    exact x_zret C0 hr rfl hlk hwp d_Rm_isParallel_90
  · replace hwp := hwp.2 c51
    refine x_aload_n C0 2 d_Rm_isParallel_54 rfl rfl ?_
    obtain ⟨x55, e55, hwp⟩ := hwp
    refine x_getR C0 fk_Rm_51 e55 d_Rm_isParallel_55 ?_
    refine x_iload_n C0 4 d_Rm_isParallel_58 rfl rfl ?_
    obtain ⟨n59, f59, e59, i59, hwp⟩ := hwp
    refine x_iald C0 e59 i59 d_Rm_isParallel_59 ?_
    refine x_aload_n C0 2 d_Rm_isParallel_60 rfl rfl ?_
    obtain ⟨x61, e61, hwp⟩ := hwp
    refine x_getR C0 fk_Rm_48 e61 d_Rm_isParallel_61 ?_
    refine x_iload_n C0 4 d_Rm_isParallel_64 rfl rfl ?_
    obtain ⟨n65, f65, e65, i65, hwp⟩ := hwp
    refine x_iald C0 e65 i65 d_Rm_isParallel_65 ?_
    refine x_icmp_eq (tgt := 89) C0 d_Rm_isParallel_66 (by decide) (fun c66 => ?_) (fun c66 => ?_)
    · replace hwp := hwp.1 c66
      refine x_iconst (v := 0) C0 d_Rm_isParallel_89 (by decide) ?_
      exact x_zret C0 hr rfl hlk hwp d_Rm_isParallel_90
    · replace hwp := hwp.2 c66
      refine x_iload_n C0 1 d_Rm_isParallel_69 rfl rfl ?_
      refine x_iload C0 0 d_Rm_isParallel_70 rfl ?_
      refine x_icmp_ne (tgt := 89) C0 d_Rm_isParallel_72 (by decide) (fun c72 => ?_) (fun c72 => ?_)
      · replace hwp := hwp.1 c72
        refine x_iconst (v := 0) C0 d_Rm_isParallel_89 (by decide) ?_
        exact x_zret C0 hr rfl hlk hwp d_Rm_isParallel_90
      · replace hwp := hwp.2 c72
        refine x_iload_n C0 1 d_Rm_isParallel_75 rfl rfl ?_
        refine x_if_eq (tgt := 85) C0 d_Rm_isParallel_76 (by decide) (fun c76 => ?_) (fun c76 => ?_)
        · replace hwp := hwp.1 c76
          refine x_iconst (v := 1) C0 d_Rm_isParallel_85 (by decide) ?_
          refine x_goto (tgt := 90) C0 d_Rm_isParallel_86 (by decide) ?_
          exact x_zret C0 hr rfl hlk hwp d_Rm_isParallel_90
        · replace hwp := hwp.2 c76
          refine x_iload_n C0 1 d_Rm_isParallel_79 rfl rfl ?_
          refine x_bipush (v := 7) C0 d_Rm_isParallel_80 (by decide) ?_
          refine x_icmp_ne (tgt := 89) C0 d_Rm_isParallel_82 (by decide) (fun c82 => ?_) (fun c82 => ?_)
          · replace hwp := hwp.1 c82
            refine x_iconst (v := 0) C0 d_Rm_isParallel_89 (by decide) ?_
            exact x_zret C0 hr rfl hlk hwp d_Rm_isParallel_90
          · replace hwp := hwp.2 c82
            refine x_iconst (v := 1) C0 d_Rm_isParallel_85 (by decide) ?_
            refine x_goto (tgt := 90) C0 d_Rm_isParallel_86 (by decide) ?_
            exact x_zret C0 hr rfl hlk hwp d_Rm_isParallel_90
set_option maxRecDepth 100000 in
set_option maxHeartbeats 4000000 in
theorem c_Rm_isParallel (l : Launch) (G : mG) {Post : Int32 → MH → Prop} {l0 : Nat} {l1 : Int32} {l2 : Int32} {h : MH} (hwp : wp_Rm_isParallel Post l0 l1 l2 h) : Met l y_Rm_isParallel (Cond.code y_Rm_isParallel prog_8_method_32_code 5 (Option.some Jvm.ClassFile.FieldType.boolean) :: lw_good) ({ frames := 1, cells := 0, slots := 0, locals := 21 }) (va_Pc [.ref (m_b G + l0), .int l1, .int l2] (Wd G h)) (va_Qi Post (Wd G) (mA G)) 0 0 (mA G) := by
  refine Met.ofW (cc := prog_8_method_32_code) (maxL := 5) (ret := (Option.some Jvm.ClassFile.FieldType.boolean)) (by decide +kernel) rfl ?_
  intro p e s m args below meth c s₁ B hml hv
  obtain ⟨rfl, hP, hz, hK, hSt⟩ := hv
  have hts := atoms_spec (ws := Cond.code y_Rm_isParallel prog_8_method_32_code 5 (Option.some Jvm.ClassFile.FieldType.boolean) :: lw_good) B.pre
  have C0 : Cx G p s m ([.ref (m_b G + l0), .int l1, .int l2] : List Value).toArray c prog_8_method_32_code 5 "BassRealiserModel" := ⟨⟨B.exec, B.bytes, hml, findClass_of_methodNamed B.named, fun w h => hts w (List.mem_cons_of_mem _ h)⟩, hK, hSt, by rw [hz]; exact Nat.le_add_right _ _⟩
  have hl := lv_entry ([.ref (m_b G + l0), .int l1, .int l2]) (n := 5) (Nat.le_of_ble_eq_true rfl)
  rw [lg_entry_eq]
  exact t_Rm_isParallel G C0 ⟨Nat.le_refl _, Nat.le_refl _, Nat.le_refl _, Nat.le_refl _⟩ B.returns B.notSynchronized _ _ _ _ hwp _ _ _ ⟨hP, hz, va_S.rf⟩ hl
def wp_Rm_pairRule_268 (K56 : Nat → Int32 → Int32 → Int32 → Int32 → Int32 → MH → Prop) (Post : Int32 → MH → Prop) (l0 : Nat) (l1 : Int32) (l2 : Int32) (l3 : Int32) (l5 : Int32) (y0 : Int32) (h : MH) : Prop :=
  K56 l0 l1 l2 l3 y0 (l5 + (1 : Int32)) h
def wp_Rm_pairRule_267 (K56 : Nat → Int32 → Int32 → Int32 → Int32 → Int32 → MH → Prop) (Post : Int32 → MH → Prop) (l0 : Nat) (l1 : Int32) (l2 : Int32) (l3 : Int32) (l5 : Int32) (h : MH) : Prop :=
  wp_Rm_pairRule_268 K56 Post l0 l1 l2 l3 l5 (0 : Int32) h
def wp_Rm_pairRule_263 (K56 : Nat → Int32 → Int32 → Int32 → Int32 → Int32 → MH → Prop) (Post : Int32 → MH → Prop) (l0 : Nat) (l1 : Int32) (l2 : Int32) (l3 : Int32) (l5 : Int32) (h : MH) : Prop :=
  wp_Rm_pairRule_268 K56 Post l0 l1 l2 l3 l5 (1 : Int32) h
def wp_Rm_pairRule_233 (K56 : Nat → Int32 → Int32 → Int32 → Int32 → Int32 → MH → Prop) (Post : Int32 → MH → Prop) (l0 : Nat) (l1 : Int32) (l2 : Int32) (l3 : Int32) (l5 : Int32) (l6 : Int32) (l7 : Int32) (l8 : Int32) (h : MH) : Prop :=
  ((l1 ≤ 0) →
    (wp_Rm_pairRule_267 K56 Post l0 l1 l2 l3 l5 h)) ∧
  ((¬ l1 ≤ 0) →
    (∃ x238 : Nat, gF h l0 6 18 = some (.inr (some x238)) ∧
      (∃ (n244 : Nat) (f244 : Nat → Int32), gA h x238 0 = some (n244, f244) ∧ vp_in (l1 - (1 : Int32)) n244 ∧
        (wp_Rm_has (fun (r247 : Int32) (h247 : MH) =>
            (((r247 = 0) →
                (wp_Rm_pairRule_267 K56 Post l0 l1 l2 l3 l5 h247)) ∧
              ((¬ r247 = 0) →
                (((¬ l7 = 0) →
                    (wp_Rm_pairRule_267 K56 Post l0 l1 l2 l3 l5 h247)) ∧
                  ((l7 = 0) →
                    (((l6 = 0) →
                        (wp_Rm_pairRule_267 K56 Post l0 l1 l2 l3 l5 h247)) ∧
                      ((¬ l6 = 0) →
                        (wp_Rm_pairRule_263 K56 Post l0 l1 l2 l3 l5 h247)))))))) (f244 (l1 - (1 : Int32)).toNatClampNeg) l8 h))))
def wp_Rm_pairRule_190 (K56 : Nat → Int32 → Int32 → Int32 → Int32 → Int32 → MH → Prop) (Post : Int32 → MH → Prop) (l0 : Nat) (l1 : Int32) (l2 : Int32) (l4 : Int32) (l5 : Int32) (l6 : Int32) (l7 : Int32) (y0 : Int32) (h : MH) : Prop :=
  ∃ x192 : Nat, gF h l0 6 15 = some (.inr (some x192)) ∧
  (∃ (n197 : Nat) (f197 : Nat → Int32), gA h x192 0 = some (n197, f197) ∧ vp_in l5 n197 ∧
    (∀ z201 : Int32, z201 = (f197 (l5).toNatClampNeg) - (f197 (l5).toNatClampNeg) / (12 : Int32) * (12 : Int32) →
      (((¬ l4 = 0) →
          (wp_Rm_pairRule_263 K56 Post l0 l1 l2 y0 l5 h)) ∧
        ((l4 = 0) →
          (((l1 ≤ 0) →
              (wp_Rm_pairRule_233 K56 Post l0 l1 l2 y0 l5 l6 l7 z201 h)) ∧
            ((¬ l1 ≤ 0) →
              (∃ x213 : Nat, gF h l0 6 17 = some (.inr (some x213)) ∧
                (∃ (n219 : Nat) (f219 : Nat → Int32), gA h x213 0 = some (n219, f219) ∧ vp_in (l1 - (1 : Int32)) n219 ∧
                  (wp_Rm_has (fun (r222 : Int32) (h222 : MH) =>
                      (((r222 = 0) →
                        (wp_Rm_pairRule_233 K56 Post l0 l1 l2 y0 l5 l6 l7 z201 h222)) ∧
                        ((¬ r222 = 0) →
                        (((l7 = 0) →
                        (wp_Rm_pairRule_263 K56 Post l0 l1 l2 y0 l5 h222)) ∧
                        ((¬ l7 = 0) →
                        (wp_Rm_pairRule_233 K56 Post l0 l1 l2 y0 l5 l6 l7 z201 h222)))))) (f219 (l1 - (1 : Int32)).toNatClampNeg) z201 h)))))))))
def wp_Rm_pairRule_189 (K56 : Nat → Int32 → Int32 → Int32 → Int32 → Int32 → MH → Prop) (Post : Int32 → MH → Prop) (l0 : Nat) (l1 : Int32) (l2 : Int32) (l4 : Int32) (l5 : Int32) (l6 : Int32) (l7 : Int32) (h : MH) : Prop :=
  wp_Rm_pairRule_190 K56 Post l0 l1 l2 l4 l5 l6 l7 (0 : Int32) h
def wp_Rm_pairRule_185 (K56 : Nat → Int32 → Int32 → Int32 → Int32 → Int32 → MH → Prop) (Post : Int32 → MH → Prop) (l0 : Nat) (l1 : Int32) (l2 : Int32) (l4 : Int32) (l5 : Int32) (l6 : Int32) (l7 : Int32) (h : MH) : Prop :=
  wp_Rm_pairRule_190 K56 Post l0 l1 l2 l4 l5 l6 l7 (1 : Int32) h
def wp_Rm_pairRule_143 (K56 : Nat → Int32 → Int32 → Int32 → Int32 → Int32 → MH → Prop) (K113 : Nat → Int32 → Int32 → Int32 → Int32 → Int32 → Int32 → Int32 → Int32 → MH → Prop) (Post : Int32 → MH → Prop) (l0 : Nat) (l1 : Int32) (l3 : Int32) (l4 : Int32) (l5 : Int32) (l6 : Int32) (l7 : Int32) (l8 : Int32) (y0 : Int32) (h : MH) : Prop :=
  K113 l0 l1 y0 l3 l4 l5 l6 l7 (l8 + (1 : Int32)) h
def wp_Rm_pairRule_142 (K56 : Nat → Int32 → Int32 → Int32 → Int32 → Int32 → MH → Prop) (K113 : Nat → Int32 → Int32 → Int32 → Int32 → Int32 → Int32 → Int32 → Int32 → MH → Prop) (Post : Int32 → MH → Prop) (l0 : Nat) (l1 : Int32) (l3 : Int32) (l4 : Int32) (l5 : Int32) (l6 : Int32) (l7 : Int32) (l8 : Int32) (h : MH) : Prop :=
  wp_Rm_pairRule_143 K56 K113 Post l0 l1 l3 l4 l5 l6 l7 l8 (0 : Int32) h
def wp_Rm_pairRule_138 (K56 : Nat → Int32 → Int32 → Int32 → Int32 → Int32 → MH → Prop) (K113 : Nat → Int32 → Int32 → Int32 → Int32 → Int32 → Int32 → Int32 → Int32 → MH → Prop) (Post : Int32 → MH → Prop) (l0 : Nat) (l1 : Int32) (l3 : Int32) (l4 : Int32) (l5 : Int32) (l6 : Int32) (l7 : Int32) (l8 : Int32) (h : MH) : Prop :=
  wp_Rm_pairRule_143 K56 K113 Post l0 l1 l3 l4 l5 l6 l7 l8 (1 : Int32) h
def wb_Rm_pairRule_113 (K56 : Nat → Int32 → Int32 → Int32 → Int32 → Int32 → MH → Prop) (K113 : Nat → Int32 → Int32 → Int32 → Int32 → Int32 → Int32 → Int32 → Int32 → MH → Prop) (Post : Int32 → MH → Prop) (l0 : Nat) (l1 : Int32) (l2 : Int32) (l3 : Int32) (l4 : Int32) (l5 : Int32) (l6 : Int32) (l7 : Int32) (l8 : Int32) (h : MH) : Prop :=
  (((4 : Int32) ≤ l8) →
    (((¬ l3 = 0) →
        (wp_Rm_pairRule_185 K56 Post l0 l1 l2 l4 l5 l6 l7 h)) ∧
      ((l3 = 0) →
        (∃ x155 : Nat, gF h l0 6 17 = some (.inr (some x155)) ∧
          (∃ (n159 : Nat) (f159 : Nat → Int32), gA h x155 0 = some (n159, f159) ∧ vp_in l1 n159 ∧
            (∃ x161 : Nat, gF h l0 6 14 = some (.inr (some x161)) ∧
              (∃ (n166 : Nat) (f166 : Nat → Int32), gA h x161 0 = some (n166, f166) ∧ vp_in l5 n166 ∧
                (wp_Rm_has (fun (r170 : Int32) (h170 : MH) =>
                    (((r170 = 0) →
                        (wp_Rm_pairRule_189 K56 Post l0 l1 l2 l4 l5 l6 l7 h170)) ∧
                      ((¬ r170 = 0) →
                        (((l1 = 0) →
                        (wp_Rm_pairRule_185 K56 Post l0 l1 l2 l4 l5 l6 l7 h170)) ∧
                        ((¬ l1 = 0) →
                        (((l6 = 0) →
                        (wp_Rm_pairRule_189 K56 Post l0 l1 l2 l4 l5 l6 l7 h170)) ∧
                        ((¬ l6 = 0) →
                        (wp_Rm_pairRule_185 K56 Post l0 l1 l2 l4 l5 l6 l7 h170)))))))) (f159 (l1).toNatClampNeg) ((f166 (l5).toNatClampNeg) - (f166 (l5).toNatClampNeg) / (12 : Int32) * (12 : Int32)) h)))))))) ∧
  ((¬ (4 : Int32) ≤ l8) →
    (((¬ l2 = 0) →
        (wp_Rm_pairRule_138 K56 K113 Post l0 l1 l3 l4 l5 l6 l7 l8 h)) ∧
      ((l2 = 0) →
        (((l1 ≤ 0) →
            (wp_Rm_pairRule_142 K56 K113 Post l0 l1 l3 l4 l5 l6 l7 l8 h)) ∧
          ((¬ l1 ≤ 0) →
            (gC h l0 = some 6 ∧ wp_Rm_isParallel (fun (r132 : Int32) (h132 : MH) =>
                (((r132 = 0) →
                    (wp_Rm_pairRule_142 K56 K113 Post l0 l1 l3 l4 l5 l6 l7 l8 h132)) ∧
                  ((¬ r132 = 0) →
                    (wp_Rm_pairRule_138 K56 K113 Post l0 l1 l3 l4 l5 l6 l7 l8 h132)))) l0 l5 l8 h))))))
def wn_Rm_pairRule_113 (K56 : Nat → Int32 → Int32 → Int32 → Int32 → Int32 → MH → Prop) (Post : Int32 → MH → Prop) : Nat → Nat → Int32 → Int32 → Int32 → Int32 → Int32 → Int32 → Int32 → Int32 → MH → Prop
  | 0 => fun _ _ _ _ _ _ _ _ _ _ => False
  | n + 1 => wb_Rm_pairRule_113 K56 (wn_Rm_pairRule_113 K56 Post n) Post
def wp_Rm_pairRule_113 (K56 : Nat → Int32 → Int32 → Int32 → Int32 → Int32 → MH → Prop) (Post : Int32 → MH → Prop) (l0 : Nat) (l1 : Int32) (l2 : Int32) (l3 : Int32) (l4 : Int32) (l5 : Int32) (l6 : Int32) (l7 : Int32) (l8 : Int32) (h : MH) : Prop := ∃ n, wn_Rm_pairRule_113 K56 Post n l0 l1 l2 l3 l4 l5 l6 l7 l8 h
def wp_Rm_pairRule_105 (K56 : Nat → Int32 → Int32 → Int32 → Int32 → Int32 → MH → Prop) (Post : Int32 → MH → Prop) (l0 : Nat) (l1 : Int32) (l2 : Int32) (l3 : Int32) (l4 : Int32) (l5 : Int32) (l6 : Int32) (y0 : Int32) (h : MH) : Prop :=
  ∀ z111 : Int32, z111 = l5 + (1 : Int32) →
  (wp_Rm_pairRule_113 K56 Post l0 l1 l2 l3 l4 l5 l6 y0 z111 h)
def wp_Rm_pairRule_100 (K56 : Nat → Int32 → Int32 → Int32 → Int32 → Int32 → MH → Prop) (Post : Int32 → MH → Prop) (l0 : Nat) (l1 : Int32) (l2 : Int32) (l3 : Int32) (l4 : Int32) (l5 : Int32) (l6 : Int32) (h : MH) : Prop :=
  wp_Rm_pairRule_105 K56 Post l0 l1 l2 l3 l4 l5 l6 (1 : Int32) h
def wp_Rm_pairRule_85 (K56 : Nat → Int32 → Int32 → Int32 → Int32 → Int32 → MH → Prop) (Post : Int32 → MH → Prop) (l0 : Nat) (l1 : Int32) (l2 : Int32) (l3 : Int32) (l4 : Int32) (l5 : Int32) (y0 : Int32) (h : MH) : Prop :=
  ((y0 = (-1 : Int32)) →
    (wp_Rm_pairRule_100 K56 Post l0 l1 l2 l3 l4 l5 y0 h)) ∧
  ((¬ y0 = (-1 : Int32)) →
    (((¬ y0 = (-2 : Int32)) →
        (wp_Rm_pairRule_105 K56 Post l0 l1 l2 l3 l4 l5 y0 (0 : Int32) h)) ∧
      ((y0 = (-2 : Int32)) →
        (wp_Rm_pairRule_100 K56 Post l0 l1 l2 l3 l4 l5 y0 h))))
def wb_Rm_pairRule_56 (K56 : Nat → Int32 → Int32 → Int32 → Int32 → Int32 → MH → Prop) (Post : Int32 → MH → Prop) (l0 : Nat) (l1 : Int32) (l2 : Int32) (l3 : Int32) (l4 : Int32) (l5 : Int32) (h : MH) : Prop :=
  (((3 : Int32) ≤ l5) →
    (((l2 = 0) →
        (((l3 = 0) →
            (((l4 = 0) →
                (Post (0 : Int32) h)) ∧
              ((¬ l4 = 0) →
                (Post (11 : Int32) h)))) ∧
          ((¬ l3 = 0) →
            (Post (10 : Int32) h)))) ∧
      ((¬ l2 = 0) →
        (Post (9 : Int32) h)))) ∧
  ((¬ (3 : Int32) ≤ l5) →
    (((¬ l1 = 0) →
        (∃ x71 : Nat, gF h l0 6 14 = some (.inr (some x71)) ∧
          (∃ (n76 : Nat) (f76 : Nat → Int32), gA h x71 0 = some (n76, f76) ∧ vp_in l5 n76 ∧
            (∃ x78 : Nat, gF h l0 6 15 = some (.inr (some x78)) ∧
              (∃ (n83 : Nat) (f83 : Nat → Int32), gA h x78 0 = some (n83, f83) ∧ vp_in l5 n83 ∧
                (wp_Rm_pairRule_85 K56 Post l0 l1 l2 l3 l4 l5 ((f76 (l5).toNatClampNeg) - (f83 (l5).toNatClampNeg)) h)))))) ∧
      ((l1 = 0) →
        (wp_Rm_pairRule_85 K56 Post l0 l1 l2 l3 l4 l5 (0 : Int32) h))))
def wn_Rm_pairRule_56 (Post : Int32 → MH → Prop) : Nat → Nat → Int32 → Int32 → Int32 → Int32 → Int32 → MH → Prop
  | 0 => fun _ _ _ _ _ _ _ => False
  | n + 1 => wb_Rm_pairRule_56 (wn_Rm_pairRule_56 Post n) Post
def wp_Rm_pairRule_56 (Post : Int32 → MH → Prop) (l0 : Nat) (l1 : Int32) (l2 : Int32) (l3 : Int32) (l4 : Int32) (l5 : Int32) (h : MH) : Prop := ∃ n, wn_Rm_pairRule_56 Post n l0 l1 l2 l3 l4 l5 h
def wp_Rm_pairRule_53 (Post : Int32 → MH → Prop) (l0 : Nat) (l1 : Int32) (l2 : Int32) (l3 : Int32) (l4 : Int32) (h : MH) : Prop :=
  wp_Rm_pairRule_56 Post l0 l1 l2 l3 l4 (0 : Int32) h
def wb_Rm_pairRule_10 (K10 : Nat → Int32 → Int32 → Int32 → Int32 → Int32 → MH → Prop) (Post : Int32 → MH → Prop) (l0 : Nat) (l1 : Int32) (l2 : Int32) (l3 : Int32) (l4 : Int32) (l5 : Int32) (h : MH) : Prop :=
  (((3 : Int32) ≤ l5) →
    (wp_Rm_pairRule_53 Post l0 l1 l2 l3 l4 h)) ∧
  ((¬ (3 : Int32) ≤ l5) →
    (((l1 ≤ 0) →
        (wp_Rm_pairRule_53 Post l0 l1 l2 l3 l4 h)) ∧
      ((¬ l1 ≤ 0) →
        (∃ x21 : Nat, gF h l0 6 14 = some (.inr (some x21)) ∧
          (∃ (n26 : Nat) (f26 : Nat → Int32), gA h x21 0 = some (n26, f26) ∧ vp_in l5 n26 ∧
            (∃ x28 : Nat, gF h l0 6 15 = some (.inr (some x28)) ∧
              (∃ (n33 : Nat) (f33 : Nat → Int32), gA h x28 0 = some (n33, f33) ∧ vp_in l5 n33 ∧
                (wp_Rm_far (fun (r34 : Int32) (h34 : MH) =>
                    (∃ x38 : Int32, gF h34 l0 6 10 = some (.inl x38) ∧
                      (((r34 ≤ x38) →
                        (K10 l0 l1 l2 l3 l4 (l5 + (1 : Int32)) h34)) ∧
                        ((¬ r34 ≤ x38) →
                        (Post (8 : Int32) h34))))) (f26 (l5).toNatClampNeg) (f33 (l5).toNatClampNeg) h))))))))
def wn_Rm_pairRule_10 (Post : Int32 → MH → Prop) : Nat → Nat → Int32 → Int32 → Int32 → Int32 → Int32 → MH → Prop
  | 0 => fun _ _ _ _ _ _ _ => False
  | n + 1 => wb_Rm_pairRule_10 (wn_Rm_pairRule_10 Post n) Post
def wp_Rm_pairRule_10 (Post : Int32 → MH → Prop) (l0 : Nat) (l1 : Int32) (l2 : Int32) (l3 : Int32) (l4 : Int32) (l5 : Int32) (h : MH) : Prop := ∃ n, wn_Rm_pairRule_10 Post n l0 l1 l2 l3 l4 l5 h
def wp_Rm_pairRule (Post : Int32 → MH → Prop) (l0 : Nat) (l1 : Int32) (h : MH) : Prop :=
  wp_Rm_pairRule_10 Post l0 l1 (0 : Int32) (0 : Int32) (0 : Int32) (0 : Int32) h
set_option maxRecDepth 100000 in
set_option maxHeartbeats 4000000 in
theorem t_Rm_pairRule_268 {p : Program} {l : Launch} {e : Env} {R : Room} {s : State} {m : MethodId} {args : Array Value} {below : List Frame} {meth : Method} {c : Code} (G : mG) (C0 : Cx G p s m args c prog_8_method_33_code 9 "BassRealiserModel") (hR : 2 ≤ R.frames ∧ 45 ≤ R.locals ∧ 0 ≤ R.cells ∧ 0 ≤ R.slots) (hr : meth.sig.returnType = some .int) (hlk : meth.locks = false) {Post : Int32 → MH → Prop} {K56 : Nat → Int32 → Int32 → Int32 → Int32 → Int32 → MH → Prop} (hK56 : ∀ (l0 : Nat) (l1 : Int32) (l2 : Int32) (l3 : Int32) (l4 : Int32) (l5 : Int32) (h : MH), K56 l0 l1 l2 l3 l4 l5 h → WG p l e R s m args below meth c 0 0 (MQ below (va_Qi Post (Wd G) (mA G)) args s 0 0 (mA G)) G 9 [(0, .ref (m_b G + l0)), (1, .int l1), (2, .int l2), (3, .int l3), (4, .int l4), (5, .int l5)] 56 [] h) (l0 : Nat) (l1 : Int32) (l2 : Int32) (l3 : Int32) (l5 : Int32) (y0 : Int32) (h : MH) (hwp : wp_Rm_pairRule_268 K56 Post l0 l1 l2 l3 l5 y0 h) : WG p l e R s m args below meth c 0 0 (MQ below (va_Qi Post (Wd G) (mA G)) args s 0 0 (mA G)) G 9 [(0, .ref (m_b G + l0)), (1, .int l1), (2, .int l2), (3, .int l3), (5, .int l5)] 268 [.int y0] h := by
  unfold wp_Rm_pairRule_268 at hwp
  refine x_istore C0 d_Rm_pairRule_268 (by decide) (lv' := [(4, .int y0), (0, .ref (m_b G + l0)), (1, .int l1), (2, .int l2), (3, .int l3), (5, .int l5)]) rfl ?_
  refine x_iinc C0 5 d_Rm_pairRule_270 rfl rfl (by decide) (lv' := [(5, .int (l5 + (1 : Int32))), (4, .int y0), (0, .ref (m_b G + l0)), (1, .int l1), (2, .int l2), (3, .int l3)]) rfl ?_
  refine x_goto (tgt := 56) C0 d_Rm_pairRule_273 (by decide) ?_
  exact x_sub [2, 3, 4, 5, 1, 0] rfl (hK56 _ _ _ _ _ _ _ hwp)
set_option maxRecDepth 100000 in
set_option maxHeartbeats 4000000 in
theorem t_Rm_pairRule_267 {p : Program} {l : Launch} {e : Env} {R : Room} {s : State} {m : MethodId} {args : Array Value} {below : List Frame} {meth : Method} {c : Code} (G : mG) (C0 : Cx G p s m args c prog_8_method_33_code 9 "BassRealiserModel") (hR : 2 ≤ R.frames ∧ 45 ≤ R.locals ∧ 0 ≤ R.cells ∧ 0 ≤ R.slots) (hr : meth.sig.returnType = some .int) (hlk : meth.locks = false) {Post : Int32 → MH → Prop} {K56 : Nat → Int32 → Int32 → Int32 → Int32 → Int32 → MH → Prop} (hK56 : ∀ (l0 : Nat) (l1 : Int32) (l2 : Int32) (l3 : Int32) (l4 : Int32) (l5 : Int32) (h : MH), K56 l0 l1 l2 l3 l4 l5 h → WG p l e R s m args below meth c 0 0 (MQ below (va_Qi Post (Wd G) (mA G)) args s 0 0 (mA G)) G 9 [(0, .ref (m_b G + l0)), (1, .int l1), (2, .int l2), (3, .int l3), (4, .int l4), (5, .int l5)] 56 [] h) (l0 : Nat) (l1 : Int32) (l2 : Int32) (l3 : Int32) (l5 : Int32) (h : MH) (hwp : wp_Rm_pairRule_267 K56 Post l0 l1 l2 l3 l5 h) : WG p l e R s m args below meth c 0 0 (MQ below (va_Qi Post (Wd G) (mA G)) args s 0 0 (mA G)) G 9 [(0, .ref (m_b G + l0)), (1, .int l1), (2, .int l2), (3, .int l3), (5, .int l5)] 267 [] h := by
  unfold wp_Rm_pairRule_267 at hwp
  refine x_iconst (v := 0) C0 d_Rm_pairRule_267 (by decide) ?_
  exact x_sub [0, 1, 2, 3, 4] rfl (t_Rm_pairRule_268 G C0 hR hr hlk hK56 _ _ _ _ _ _ _ hwp)
set_option maxRecDepth 100000 in
set_option maxHeartbeats 4000000 in
theorem t_Rm_pairRule_263 {p : Program} {l : Launch} {e : Env} {R : Room} {s : State} {m : MethodId} {args : Array Value} {below : List Frame} {meth : Method} {c : Code} (G : mG) (C0 : Cx G p s m args c prog_8_method_33_code 9 "BassRealiserModel") (hR : 2 ≤ R.frames ∧ 45 ≤ R.locals ∧ 0 ≤ R.cells ∧ 0 ≤ R.slots) (hr : meth.sig.returnType = some .int) (hlk : meth.locks = false) {Post : Int32 → MH → Prop} {K56 : Nat → Int32 → Int32 → Int32 → Int32 → Int32 → MH → Prop} (hK56 : ∀ (l0 : Nat) (l1 : Int32) (l2 : Int32) (l3 : Int32) (l4 : Int32) (l5 : Int32) (h : MH), K56 l0 l1 l2 l3 l4 l5 h → WG p l e R s m args below meth c 0 0 (MQ below (va_Qi Post (Wd G) (mA G)) args s 0 0 (mA G)) G 9 [(0, .ref (m_b G + l0)), (1, .int l1), (2, .int l2), (3, .int l3), (4, .int l4), (5, .int l5)] 56 [] h) (l0 : Nat) (l1 : Int32) (l2 : Int32) (l3 : Int32) (l5 : Int32) (h : MH) (hwp : wp_Rm_pairRule_263 K56 Post l0 l1 l2 l3 l5 h) : WG p l e R s m args below meth c 0 0 (MQ below (va_Qi Post (Wd G) (mA G)) args s 0 0 (mA G)) G 9 [(0, .ref (m_b G + l0)), (1, .int l1), (2, .int l2), (3, .int l3), (5, .int l5)] 263 [] h := by
  unfold wp_Rm_pairRule_263 at hwp
  refine x_iconst (v := 1) C0 d_Rm_pairRule_263 (by decide) ?_
  refine x_goto (tgt := 268) C0 d_Rm_pairRule_264 (by decide) ?_
  exact x_sub [0, 1, 2, 3, 4] rfl (t_Rm_pairRule_268 G C0 hR hr hlk hK56 _ _ _ _ _ _ _ hwp)
set_option maxRecDepth 100000 in
set_option maxHeartbeats 4000000 in
theorem t_Rm_pairRule_233 {p : Program} {l : Launch} {e : Env} {R : Room} {s : State} {m : MethodId} {args : Array Value} {below : List Frame} {meth : Method} {c : Code} (G : mG) (C0 : Cx G p s m args c prog_8_method_33_code 9 "BassRealiserModel") (hR : 2 ≤ R.frames ∧ 45 ≤ R.locals ∧ 0 ≤ R.cells ∧ 0 ≤ R.slots) (hr : meth.sig.returnType = some .int) (hlk : meth.locks = false) {Post : Int32 → MH → Prop} {K56 : Nat → Int32 → Int32 → Int32 → Int32 → Int32 → MH → Prop} (hK56 : ∀ (l0 : Nat) (l1 : Int32) (l2 : Int32) (l3 : Int32) (l4 : Int32) (l5 : Int32) (h : MH), K56 l0 l1 l2 l3 l4 l5 h → WG p l e R s m args below meth c 0 0 (MQ below (va_Qi Post (Wd G) (mA G)) args s 0 0 (mA G)) G 9 [(0, .ref (m_b G + l0)), (1, .int l1), (2, .int l2), (3, .int l3), (4, .int l4), (5, .int l5)] 56 [] h) (l0 : Nat) (l1 : Int32) (l2 : Int32) (l3 : Int32) (l5 : Int32) (l6 : Int32) (l7 : Int32) (l8 : Int32) (h : MH) (hwp : wp_Rm_pairRule_233 K56 Post l0 l1 l2 l3 l5 l6 l7 l8 h) : WG p l e R s m args below meth c 0 0 (MQ below (va_Qi Post (Wd G) (mA G)) args s 0 0 (mA G)) G 9 [(0, .ref (m_b G + l0)), (1, .int l1), (2, .int l2), (3, .int l3), (5, .int l5), (6, .int l6), (7, .int l7), (8, .int l8)] 233 [] h := by
  unfold wp_Rm_pairRule_233 at hwp
  refine x_iload_n C0 1 d_Rm_pairRule_233 rfl rfl ?_
  refine x_if_le (tgt := 267) C0 d_Rm_pairRule_234 (by decide) (fun c234 => ?_) (fun c234 => ?_)
  · replace hwp := hwp.1 c234
    exact x_sub [0, 1, 2, 3, 4] rfl (t_Rm_pairRule_267 G C0 hR hr hlk hK56 _ _ _ _ _ _ hwp)
  · replace hwp := hwp.2 c234
    refine x_aload_n C0 0 d_Rm_pairRule_237 rfl rfl ?_
    obtain ⟨x238, e238, hwp⟩ := hwp
    refine x_getR C0 fk_Rm_60 e238 d_Rm_pairRule_238 ?_
    refine x_iload_n C0 1 d_Rm_pairRule_241 rfl rfl ?_
    refine x_iconst (v := 1) C0 d_Rm_pairRule_242 (by decide) ?_
    refine x_isub C0 d_Rm_pairRule_243 ?_
    obtain ⟨n244, f244, e244, i244, hwp⟩ := hwp
    refine x_iald C0 e244 i244 d_Rm_pairRule_244 ?_
    refine x_iload C0 7 d_Rm_pairRule_245 rfl ?_
    refine x_callSi0 (As := [.int (f244 (l1 - (1 : Int32)).toNatClampNeg), .int l8]) (st := []) C0 (c_Rm_has l G hwp) kw_4_54 mk_Rm_has kw_4_55 rfl (Nat.le_of_ble_eq_true rfl) rfl rfl ⟨Nat.le_trans (by decide) hR.1, Nat.le_trans (by decide) hR.2.1⟩ ⟨Nat.zero_le _, Nat.zero_le _⟩ rfl d_Rm_pairRule_247 (fun r247 h247 hwp => ?_)
    refine x_if_eq (tgt := 267) C0 d_Rm_pairRule_250 (by decide) (fun c250 => ?_) (fun c250 => ?_)
    · replace hwp := hwp.1 c250
      exact x_sub [0, 1, 2, 3, 4] rfl (t_Rm_pairRule_267 G C0 hR hr hlk hK56 _ _ _ _ _ _ hwp)
    · replace hwp := hwp.2 c250
      refine x_iload C0 6 d_Rm_pairRule_253 rfl ?_
      refine x_if_ne (tgt := 267) C0 d_Rm_pairRule_255 (by decide) (fun c255 => ?_) (fun c255 => ?_)
      · replace hwp := hwp.1 c255
        exact x_sub [0, 1, 2, 3, 4] rfl (t_Rm_pairRule_267 G C0 hR hr hlk hK56 _ _ _ _ _ _ hwp)
      · replace hwp := hwp.2 c255
        refine x_iload C0 5 d_Rm_pairRule_258 rfl ?_
        refine x_if_eq (tgt := 267) C0 d_Rm_pairRule_260 (by decide) (fun c260 => ?_) (fun c260 => ?_)
        · replace hwp := hwp.1 c260
          exact x_sub [0, 1, 2, 3, 4] rfl (t_Rm_pairRule_267 G C0 hR hr hlk hK56 _ _ _ _ _ _ hwp)
        · replace hwp := hwp.2 c260
          exact x_sub [0, 1, 2, 3, 4] rfl (t_Rm_pairRule_263 G C0 hR hr hlk hK56 _ _ _ _ _ _ hwp)
set_option maxRecDepth 100000 in
set_option maxHeartbeats 4000000 in
theorem t_Rm_pairRule_190 {p : Program} {l : Launch} {e : Env} {R : Room} {s : State} {m : MethodId} {args : Array Value} {below : List Frame} {meth : Method} {c : Code} (G : mG) (C0 : Cx G p s m args c prog_8_method_33_code 9 "BassRealiserModel") (hR : 2 ≤ R.frames ∧ 45 ≤ R.locals ∧ 0 ≤ R.cells ∧ 0 ≤ R.slots) (hr : meth.sig.returnType = some .int) (hlk : meth.locks = false) {Post : Int32 → MH → Prop} {K56 : Nat → Int32 → Int32 → Int32 → Int32 → Int32 → MH → Prop} (hK56 : ∀ (l0 : Nat) (l1 : Int32) (l2 : Int32) (l3 : Int32) (l4 : Int32) (l5 : Int32) (h : MH), K56 l0 l1 l2 l3 l4 l5 h → WG p l e R s m args below meth c 0 0 (MQ below (va_Qi Post (Wd G) (mA G)) args s 0 0 (mA G)) G 9 [(0, .ref (m_b G + l0)), (1, .int l1), (2, .int l2), (3, .int l3), (4, .int l4), (5, .int l5)] 56 [] h) (l0 : Nat) (l1 : Int32) (l2 : Int32) (l4 : Int32) (l5 : Int32) (l6 : Int32) (l7 : Int32) (y0 : Int32) (h : MH) (hwp : wp_Rm_pairRule_190 K56 Post l0 l1 l2 l4 l5 l6 l7 y0 h) : WG p l e R s m args below meth c 0 0 (MQ below (va_Qi Post (Wd G) (mA G)) args s 0 0 (mA G)) G 9 [(0, .ref (m_b G + l0)), (1, .int l1), (2, .int l2), (4, .int l4), (5, .int l5), (6, .int l6), (7, .int l7)] 190 [.int y0] h := by
  unfold wp_Rm_pairRule_190 at hwp
  refine x_istore_n C0 d_Rm_pairRule_190 rfl (by decide) (lv' := [(3, .int y0), (0, .ref (m_b G + l0)), (1, .int l1), (2, .int l2), (4, .int l4), (5, .int l5), (6, .int l6), (7, .int l7)]) rfl ?_
  refine x_aload_n C0 1 d_Rm_pairRule_191 rfl rfl ?_
  obtain ⟨x192, e192, hwp⟩ := hwp
  refine x_getR C0 fk_Rm_51 e192 d_Rm_pairRule_192 ?_
  refine x_iload C0 5 d_Rm_pairRule_195 rfl ?_
  obtain ⟨n197, f197, e197, i197, hwp⟩ := hwp
  refine x_iald C0 e197 i197 d_Rm_pairRule_197 ?_
  refine x_bipush (v := 12) C0 d_Rm_pairRule_198 (by decide) ?_
  refine x_irem C0 d_Rm_pairRule_200 (by decide) ?_
  refine x_topI (fun z201 e201 => ?_)
  replace hwp := hwp z201 e201
  refine x_istore C0 d_Rm_pairRule_201 (by decide) (lv' := [(8, .int z201), (3, .int y0), (0, .ref (m_b G + l0)), (1, .int l1), (2, .int l2), (4, .int l4), (5, .int l5), (6, .int l6), (7, .int l7)]) rfl ?_
  refine x_iload C0 5 d_Rm_pairRule_203 rfl ?_
  refine x_if_ne (tgt := 263) C0 d_Rm_pairRule_205 (by decide) (fun c205 => ?_) (fun c205 => ?_)
  · replace hwp := hwp.1 c205
    exact x_sub [2, 3, 4, 1, 6] rfl (t_Rm_pairRule_263 G C0 hR hr hlk hK56 _ _ _ _ _ _ hwp)
  · replace hwp := hwp.2 c205
    refine x_iload_n C0 3 d_Rm_pairRule_208 rfl rfl ?_
    refine x_if_le (tgt := 233) C0 d_Rm_pairRule_209 (by decide) (fun c209 => ?_) (fun c209 => ?_)
    · replace hwp := hwp.1 c209
      exact x_sub [2, 3, 4, 1, 6, 7, 8, 0] rfl (t_Rm_pairRule_233 G C0 hR hr hlk hK56 _ _ _ _ _ _ _ _ _ hwp)
    · replace hwp := hwp.2 c209
      refine x_aload_n C0 2 d_Rm_pairRule_212 rfl rfl ?_
      obtain ⟨x213, e213, hwp⟩ := hwp
      refine x_getR C0 fk_Rm_57 e213 d_Rm_pairRule_213 ?_
      refine x_iload_n C0 3 d_Rm_pairRule_216 rfl rfl ?_
      refine x_iconst (v := 1) C0 d_Rm_pairRule_217 (by decide) ?_
      refine x_isub C0 d_Rm_pairRule_218 ?_
      obtain ⟨n219, f219, e219, i219, hwp⟩ := hwp
      refine x_iald C0 e219 i219 d_Rm_pairRule_219 ?_
      refine x_iload C0 0 d_Rm_pairRule_220 rfl ?_
      refine x_callSi0 (As := [.int (f219 (l1 - (1 : Int32)).toNatClampNeg), .int z201]) (st := []) C0 (c_Rm_has l G hwp) kw_4_54 mk_Rm_has kw_4_55 rfl (Nat.le_of_ble_eq_true rfl) rfl rfl ⟨Nat.le_trans (by decide) hR.1, Nat.le_trans (by decide) hR.2.1⟩ ⟨Nat.zero_le _, Nat.zero_le _⟩ rfl d_Rm_pairRule_222 (fun r222 h222 hwp => ?_)
      refine x_if_eq (tgt := 233) C0 d_Rm_pairRule_225 (by decide) (fun c225 => ?_) (fun c225 => ?_)
      · replace hwp := hwp.1 c225
        exact x_sub [2, 3, 4, 1, 6, 7, 8, 0] rfl (t_Rm_pairRule_233 G C0 hR hr hlk hK56 _ _ _ _ _ _ _ _ _ hwp)
      · replace hwp := hwp.2 c225
        refine x_iload C0 8 d_Rm_pairRule_228 rfl ?_
        refine x_if_eq (tgt := 263) C0 d_Rm_pairRule_230 (by decide) (fun c230 => ?_) (fun c230 => ?_)
        · replace hwp := hwp.1 c230
          exact x_sub [2, 3, 4, 1, 6] rfl (t_Rm_pairRule_263 G C0 hR hr hlk hK56 _ _ _ _ _ _ hwp)
        · replace hwp := hwp.2 c230
          exact x_sub [2, 3, 4, 1, 6, 7, 8, 0] rfl (t_Rm_pairRule_233 G C0 hR hr hlk hK56 _ _ _ _ _ _ _ _ _ hwp)
set_option maxRecDepth 100000 in
set_option maxHeartbeats 4000000 in
theorem t_Rm_pairRule_189 {p : Program} {l : Launch} {e : Env} {R : Room} {s : State} {m : MethodId} {args : Array Value} {below : List Frame} {meth : Method} {c : Code} (G : mG) (C0 : Cx G p s m args c prog_8_method_33_code 9 "BassRealiserModel") (hR : 2 ≤ R.frames ∧ 45 ≤ R.locals ∧ 0 ≤ R.cells ∧ 0 ≤ R.slots) (hr : meth.sig.returnType = some .int) (hlk : meth.locks = false) {Post : Int32 → MH → Prop} {K56 : Nat → Int32 → Int32 → Int32 → Int32 → Int32 → MH → Prop} (hK56 : ∀ (l0 : Nat) (l1 : Int32) (l2 : Int32) (l3 : Int32) (l4 : Int32) (l5 : Int32) (h : MH), K56 l0 l1 l2 l3 l4 l5 h → WG p l e R s m args below meth c 0 0 (MQ below (va_Qi Post (Wd G) (mA G)) args s 0 0 (mA G)) G 9 [(0, .ref (m_b G + l0)), (1, .int l1), (2, .int l2), (3, .int l3), (4, .int l4), (5, .int l5)] 56 [] h) (l0 : Nat) (l1 : Int32) (l2 : Int32) (l4 : Int32) (l5 : Int32) (l6 : Int32) (l7 : Int32) (h : MH) (hwp : wp_Rm_pairRule_189 K56 Post l0 l1 l2 l4 l5 l6 l7 h) : WG p l e R s m args below meth c 0 0 (MQ below (va_Qi Post (Wd G) (mA G)) args s 0 0 (mA G)) G 9 [(0, .ref (m_b G + l0)), (1, .int l1), (2, .int l2), (4, .int l4), (5, .int l5), (6, .int l6), (7, .int l7)] 189 [] h := by
  unfold wp_Rm_pairRule_189 at hwp
  refine x_iconst (v := 0) C0 d_Rm_pairRule_189 (by decide) ?_
  exact x_sub [0, 1, 2, 3, 4, 5, 6] rfl (t_Rm_pairRule_190 G C0 hR hr hlk hK56 _ _ _ _ _ _ _ _ _ hwp)
set_option maxRecDepth 100000 in
set_option maxHeartbeats 4000000 in
theorem t_Rm_pairRule_185 {p : Program} {l : Launch} {e : Env} {R : Room} {s : State} {m : MethodId} {args : Array Value} {below : List Frame} {meth : Method} {c : Code} (G : mG) (C0 : Cx G p s m args c prog_8_method_33_code 9 "BassRealiserModel") (hR : 2 ≤ R.frames ∧ 45 ≤ R.locals ∧ 0 ≤ R.cells ∧ 0 ≤ R.slots) (hr : meth.sig.returnType = some .int) (hlk : meth.locks = false) {Post : Int32 → MH → Prop} {K56 : Nat → Int32 → Int32 → Int32 → Int32 → Int32 → MH → Prop} (hK56 : ∀ (l0 : Nat) (l1 : Int32) (l2 : Int32) (l3 : Int32) (l4 : Int32) (l5 : Int32) (h : MH), K56 l0 l1 l2 l3 l4 l5 h → WG p l e R s m args below meth c 0 0 (MQ below (va_Qi Post (Wd G) (mA G)) args s 0 0 (mA G)) G 9 [(0, .ref (m_b G + l0)), (1, .int l1), (2, .int l2), (3, .int l3), (4, .int l4), (5, .int l5)] 56 [] h) (l0 : Nat) (l1 : Int32) (l2 : Int32) (l4 : Int32) (l5 : Int32) (l6 : Int32) (l7 : Int32) (h : MH) (hwp : wp_Rm_pairRule_185 K56 Post l0 l1 l2 l4 l5 l6 l7 h) : WG p l e R s m args below meth c 0 0 (MQ below (va_Qi Post (Wd G) (mA G)) args s 0 0 (mA G)) G 9 [(0, .ref (m_b G + l0)), (1, .int l1), (2, .int l2), (4, .int l4), (5, .int l5), (6, .int l6), (7, .int l7)] 185 [] h := by
  unfold wp_Rm_pairRule_185 at hwp
  refine x_iconst (v := 1) C0 d_Rm_pairRule_185 (by decide) ?_
  refine x_goto (tgt := 190) C0 d_Rm_pairRule_186 (by decide) ?_
  exact x_sub [0, 1, 2, 3, 4, 5, 6] rfl (t_Rm_pairRule_190 G C0 hR hr hlk hK56 _ _ _ _ _ _ _ _ _ hwp)
set_option maxRecDepth 100000 in
set_option maxHeartbeats 4000000 in
theorem t_Rm_pairRule_143 {p : Program} {l : Launch} {e : Env} {R : Room} {s : State} {m : MethodId} {args : Array Value} {below : List Frame} {meth : Method} {c : Code} (G : mG) (C0 : Cx G p s m args c prog_8_method_33_code 9 "BassRealiserModel") (hR : 2 ≤ R.frames ∧ 45 ≤ R.locals ∧ 0 ≤ R.cells ∧ 0 ≤ R.slots) (hr : meth.sig.returnType = some .int) (hlk : meth.locks = false) {Post : Int32 → MH → Prop} {K56 : Nat → Int32 → Int32 → Int32 → Int32 → Int32 → MH → Prop} {K113 : Nat → Int32 → Int32 → Int32 → Int32 → Int32 → Int32 → Int32 → Int32 → MH → Prop} (hK56 : ∀ (l0 : Nat) (l1 : Int32) (l2 : Int32) (l3 : Int32) (l4 : Int32) (l5 : Int32) (h : MH), K56 l0 l1 l2 l3 l4 l5 h → WG p l e R s m args below meth c 0 0 (MQ below (va_Qi Post (Wd G) (mA G)) args s 0 0 (mA G)) G 9 [(0, .ref (m_b G + l0)), (1, .int l1), (2, .int l2), (3, .int l3), (4, .int l4), (5, .int l5)] 56 [] h) (hK113 : ∀ (l0 : Nat) (l1 : Int32) (l2 : Int32) (l3 : Int32) (l4 : Int32) (l5 : Int32) (l6 : Int32) (l7 : Int32) (l8 : Int32) (h : MH), K113 l0 l1 l2 l3 l4 l5 l6 l7 l8 h → WG p l e R s m args below meth c 0 0 (MQ below (va_Qi Post (Wd G) (mA G)) args s 0 0 (mA G)) G 9 [(0, .ref (m_b G + l0)), (1, .int l1), (2, .int l2), (3, .int l3), (4, .int l4), (5, .int l5), (6, .int l6), (7, .int l7), (8, .int l8)] 113 [] h) (l0 : Nat) (l1 : Int32) (l3 : Int32) (l4 : Int32) (l5 : Int32) (l6 : Int32) (l7 : Int32) (l8 : Int32) (y0 : Int32) (h : MH) (hwp : wp_Rm_pairRule_143 K56 K113 Post l0 l1 l3 l4 l5 l6 l7 l8 y0 h) : WG p l e R s m args below meth c 0 0 (MQ below (va_Qi Post (Wd G) (mA G)) args s 0 0 (mA G)) G 9 [(0, .ref (m_b G + l0)), (1, .int l1), (3, .int l3), (4, .int l4), (5, .int l5), (6, .int l6), (7, .int l7), (8, .int l8)] 143 [.int y0] h := by
  unfold wp_Rm_pairRule_143 at hwp
  refine x_istore_n C0 d_Rm_pairRule_143 rfl (by decide) (lv' := [(2, .int y0), (0, .ref (m_b G + l0)), (1, .int l1), (3, .int l3), (4, .int l4), (5, .int l5), (6, .int l6), (7, .int l7), (8, .int l8)]) rfl ?_
  refine x_iinc C0 8 d_Rm_pairRule_144 rfl rfl (by decide) (lv' := [(8, .int (l8 + (1 : Int32))), (2, .int y0), (0, .ref (m_b G + l0)), (1, .int l1), (3, .int l3), (4, .int l4), (5, .int l5), (6, .int l6), (7, .int l7)]) rfl ?_
  refine x_goto (tgt := 113) C0 d_Rm_pairRule_147 (by decide) ?_
  exact x_sub [2, 3, 1, 4, 5, 6, 7, 8, 0] rfl (hK113 _ _ _ _ _ _ _ _ _ _ hwp)
set_option maxRecDepth 100000 in
set_option maxHeartbeats 4000000 in
theorem t_Rm_pairRule_142 {p : Program} {l : Launch} {e : Env} {R : Room} {s : State} {m : MethodId} {args : Array Value} {below : List Frame} {meth : Method} {c : Code} (G : mG) (C0 : Cx G p s m args c prog_8_method_33_code 9 "BassRealiserModel") (hR : 2 ≤ R.frames ∧ 45 ≤ R.locals ∧ 0 ≤ R.cells ∧ 0 ≤ R.slots) (hr : meth.sig.returnType = some .int) (hlk : meth.locks = false) {Post : Int32 → MH → Prop} {K56 : Nat → Int32 → Int32 → Int32 → Int32 → Int32 → MH → Prop} {K113 : Nat → Int32 → Int32 → Int32 → Int32 → Int32 → Int32 → Int32 → Int32 → MH → Prop} (hK56 : ∀ (l0 : Nat) (l1 : Int32) (l2 : Int32) (l3 : Int32) (l4 : Int32) (l5 : Int32) (h : MH), K56 l0 l1 l2 l3 l4 l5 h → WG p l e R s m args below meth c 0 0 (MQ below (va_Qi Post (Wd G) (mA G)) args s 0 0 (mA G)) G 9 [(0, .ref (m_b G + l0)), (1, .int l1), (2, .int l2), (3, .int l3), (4, .int l4), (5, .int l5)] 56 [] h) (hK113 : ∀ (l0 : Nat) (l1 : Int32) (l2 : Int32) (l3 : Int32) (l4 : Int32) (l5 : Int32) (l6 : Int32) (l7 : Int32) (l8 : Int32) (h : MH), K113 l0 l1 l2 l3 l4 l5 l6 l7 l8 h → WG p l e R s m args below meth c 0 0 (MQ below (va_Qi Post (Wd G) (mA G)) args s 0 0 (mA G)) G 9 [(0, .ref (m_b G + l0)), (1, .int l1), (2, .int l2), (3, .int l3), (4, .int l4), (5, .int l5), (6, .int l6), (7, .int l7), (8, .int l8)] 113 [] h) (l0 : Nat) (l1 : Int32) (l3 : Int32) (l4 : Int32) (l5 : Int32) (l6 : Int32) (l7 : Int32) (l8 : Int32) (h : MH) (hwp : wp_Rm_pairRule_142 K56 K113 Post l0 l1 l3 l4 l5 l6 l7 l8 h) : WG p l e R s m args below meth c 0 0 (MQ below (va_Qi Post (Wd G) (mA G)) args s 0 0 (mA G)) G 9 [(0, .ref (m_b G + l0)), (1, .int l1), (3, .int l3), (4, .int l4), (5, .int l5), (6, .int l6), (7, .int l7), (8, .int l8)] 142 [] h := by
  unfold wp_Rm_pairRule_142 at hwp
  refine x_iconst (v := 0) C0 d_Rm_pairRule_142 (by decide) ?_
  exact x_sub [0, 1, 2, 3, 4, 5, 6, 7] rfl (t_Rm_pairRule_143 G C0 hR hr hlk hK56 hK113 _ _ _ _ _ _ _ _ _ _ hwp)
set_option maxRecDepth 100000 in
set_option maxHeartbeats 4000000 in
theorem t_Rm_pairRule_138 {p : Program} {l : Launch} {e : Env} {R : Room} {s : State} {m : MethodId} {args : Array Value} {below : List Frame} {meth : Method} {c : Code} (G : mG) (C0 : Cx G p s m args c prog_8_method_33_code 9 "BassRealiserModel") (hR : 2 ≤ R.frames ∧ 45 ≤ R.locals ∧ 0 ≤ R.cells ∧ 0 ≤ R.slots) (hr : meth.sig.returnType = some .int) (hlk : meth.locks = false) {Post : Int32 → MH → Prop} {K56 : Nat → Int32 → Int32 → Int32 → Int32 → Int32 → MH → Prop} {K113 : Nat → Int32 → Int32 → Int32 → Int32 → Int32 → Int32 → Int32 → Int32 → MH → Prop} (hK56 : ∀ (l0 : Nat) (l1 : Int32) (l2 : Int32) (l3 : Int32) (l4 : Int32) (l5 : Int32) (h : MH), K56 l0 l1 l2 l3 l4 l5 h → WG p l e R s m args below meth c 0 0 (MQ below (va_Qi Post (Wd G) (mA G)) args s 0 0 (mA G)) G 9 [(0, .ref (m_b G + l0)), (1, .int l1), (2, .int l2), (3, .int l3), (4, .int l4), (5, .int l5)] 56 [] h) (hK113 : ∀ (l0 : Nat) (l1 : Int32) (l2 : Int32) (l3 : Int32) (l4 : Int32) (l5 : Int32) (l6 : Int32) (l7 : Int32) (l8 : Int32) (h : MH), K113 l0 l1 l2 l3 l4 l5 l6 l7 l8 h → WG p l e R s m args below meth c 0 0 (MQ below (va_Qi Post (Wd G) (mA G)) args s 0 0 (mA G)) G 9 [(0, .ref (m_b G + l0)), (1, .int l1), (2, .int l2), (3, .int l3), (4, .int l4), (5, .int l5), (6, .int l6), (7, .int l7), (8, .int l8)] 113 [] h) (l0 : Nat) (l1 : Int32) (l3 : Int32) (l4 : Int32) (l5 : Int32) (l6 : Int32) (l7 : Int32) (l8 : Int32) (h : MH) (hwp : wp_Rm_pairRule_138 K56 K113 Post l0 l1 l3 l4 l5 l6 l7 l8 h) : WG p l e R s m args below meth c 0 0 (MQ below (va_Qi Post (Wd G) (mA G)) args s 0 0 (mA G)) G 9 [(0, .ref (m_b G + l0)), (1, .int l1), (3, .int l3), (4, .int l4), (5, .int l5), (6, .int l6), (7, .int l7), (8, .int l8)] 138 [] h := by
  unfold wp_Rm_pairRule_138 at hwp
  refine x_iconst (v := 1) C0 d_Rm_pairRule_138 (by decide) ?_
  refine x_goto (tgt := 143) C0 d_Rm_pairRule_139 (by decide) ?_
  exact x_sub [0, 1, 2, 3, 4, 5, 6, 7] rfl (t_Rm_pairRule_143 G C0 hR hr hlk hK56 hK113 _ _ _ _ _ _ _ _ _ _ hwp)
set_option maxRecDepth 100000 in
set_option maxHeartbeats 4000000 in
theorem tb_Rm_pairRule_113 {p : Program} {l : Launch} {e : Env} {R : Room} {s : State} {m : MethodId} {args : Array Value} {below : List Frame} {meth : Method} {c : Code} (G : mG) (C0 : Cx G p s m args c prog_8_method_33_code 9 "BassRealiserModel") (hR : 2 ≤ R.frames ∧ 45 ≤ R.locals ∧ 0 ≤ R.cells ∧ 0 ≤ R.slots) (hr : meth.sig.returnType = some .int) (hlk : meth.locks = false) {Post : Int32 → MH → Prop} {K56 : Nat → Int32 → Int32 → Int32 → Int32 → Int32 → MH → Prop} {K113 : Nat → Int32 → Int32 → Int32 → Int32 → Int32 → Int32 → Int32 → Int32 → MH → Prop} (hK56 : ∀ (l0 : Nat) (l1 : Int32) (l2 : Int32) (l3 : Int32) (l4 : Int32) (l5 : Int32) (h : MH), K56 l0 l1 l2 l3 l4 l5 h → WG p l e R s m args below meth c 0 0 (MQ below (va_Qi Post (Wd G) (mA G)) args s 0 0 (mA G)) G 9 [(0, .ref (m_b G + l0)), (1, .int l1), (2, .int l2), (3, .int l3), (4, .int l4), (5, .int l5)] 56 [] h) (hK113 : ∀ (l0 : Nat) (l1 : Int32) (l2 : Int32) (l3 : Int32) (l4 : Int32) (l5 : Int32) (l6 : Int32) (l7 : Int32) (l8 : Int32) (h : MH), K113 l0 l1 l2 l3 l4 l5 l6 l7 l8 h → WG p l e R s m args below meth c 0 0 (MQ below (va_Qi Post (Wd G) (mA G)) args s 0 0 (mA G)) G 9 [(0, .ref (m_b G + l0)), (1, .int l1), (2, .int l2), (3, .int l3), (4, .int l4), (5, .int l5), (6, .int l6), (7, .int l7), (8, .int l8)] 113 [] h) (l0 : Nat) (l1 : Int32) (l2 : Int32) (l3 : Int32) (l4 : Int32) (l5 : Int32) (l6 : Int32) (l7 : Int32) (l8 : Int32) (h : MH) (hwp : wb_Rm_pairRule_113 K56 K113 Post l0 l1 l2 l3 l4 l5 l6 l7 l8 h) : WG p l e R s m args below meth c 0 0 (MQ below (va_Qi Post (Wd G) (mA G)) args s 0 0 (mA G)) G 9 [(0, .ref (m_b G + l0)), (1, .int l1), (2, .int l2), (3, .int l3), (4, .int l4), (5, .int l5), (6, .int l6), (7, .int l7), (8, .int l8)] 113 [] h := by
  unfold wb_Rm_pairRule_113 at hwp
  refine x_iload C0 8 d_Rm_pairRule_113 rfl ?_
  refine x_iconst (v := 4) C0 d_Rm_pairRule_115 (by decide) ?_
  refine x_icmp_ge (tgt := 150) C0 d_Rm_pairRule_116 (by decide) (fun c116 => ?_) (fun c116 => ?_)
  · replace hwp := hwp.1 c116
    refine x_iload_n C0 3 d_Rm_pairRule_150 rfl rfl ?_
    refine x_if_ne (tgt := 185) C0 d_Rm_pairRule_151 (by decide) (fun c151 => ?_) (fun c151 => ?_)
    · replace hwp := hwp.1 c151
      exact x_sub [0, 1, 2, 4, 5, 6, 7] rfl (t_Rm_pairRule_185 G C0 hR hr hlk hK56 _ _ _ _ _ _ _ _ hwp)
    · replace hwp := hwp.2 c151
      refine x_aload_n C0 0 d_Rm_pairRule_154 rfl rfl ?_
      obtain ⟨x155, e155, hwp⟩ := hwp
      refine x_getR C0 fk_Rm_57 e155 d_Rm_pairRule_155 ?_
      refine x_iload_n C0 1 d_Rm_pairRule_158 rfl rfl ?_
      obtain ⟨n159, f159, e159, i159, hwp⟩ := hwp
      refine x_iald C0 e159 i159 d_Rm_pairRule_159 ?_
      refine x_aload_n C0 0 d_Rm_pairRule_160 rfl rfl ?_
      obtain ⟨x161, e161, hwp⟩ := hwp
      refine x_getR C0 fk_Rm_48 e161 d_Rm_pairRule_161 ?_
      refine x_iload C0 5 d_Rm_pairRule_164 rfl ?_
      obtain ⟨n166, f166, e166, i166, hwp⟩ := hwp
      refine x_iald C0 e166 i166 d_Rm_pairRule_166 ?_
      refine x_bipush (v := 12) C0 d_Rm_pairRule_167 (by decide) ?_
      refine x_irem C0 d_Rm_pairRule_169 (by decide) ?_
      refine x_callSi0 (As := [.int (f159 (l1).toNatClampNeg), .int ((f166 (l5).toNatClampNeg) - (f166 (l5).toNatClampNeg) / (12 : Int32) * (12 : Int32))]) (st := []) C0 (c_Rm_has l G hwp) kw_4_54 mk_Rm_has kw_4_55 rfl (Nat.le_of_ble_eq_true rfl) rfl rfl ⟨Nat.le_trans (by decide) hR.1, Nat.le_trans (by decide) hR.2.1⟩ ⟨Nat.zero_le _, Nat.zero_le _⟩ rfl d_Rm_pairRule_170 (fun r170 h170 hwp => ?_)
      refine x_if_eq (tgt := 189) C0 d_Rm_pairRule_173 (by decide) (fun c173 => ?_) (fun c173 => ?_)
      · replace hwp := hwp.1 c173
        exact x_sub [0, 1, 2, 4, 5, 6, 7] rfl (t_Rm_pairRule_189 G C0 hR hr hlk hK56 _ _ _ _ _ _ _ _ hwp)
      · replace hwp := hwp.2 c173
        refine x_iload_n C0 1 d_Rm_pairRule_176 rfl rfl ?_
        refine x_if_eq (tgt := 185) C0 d_Rm_pairRule_177 (by decide) (fun c177 => ?_) (fun c177 => ?_)
        · replace hwp := hwp.1 c177
          exact x_sub [0, 1, 2, 4, 5, 6, 7] rfl (t_Rm_pairRule_185 G C0 hR hr hlk hK56 _ _ _ _ _ _ _ _ hwp)
        · replace hwp := hwp.2 c177
          refine x_iload C0 6 d_Rm_pairRule_180 rfl ?_
          refine x_if_eq (tgt := 189) C0 d_Rm_pairRule_182 (by decide) (fun c182 => ?_) (fun c182 => ?_)
          · replace hwp := hwp.1 c182
            exact x_sub [0, 1, 2, 4, 5, 6, 7] rfl (t_Rm_pairRule_189 G C0 hR hr hlk hK56 _ _ _ _ _ _ _ _ hwp)
          · replace hwp := hwp.2 c182
            exact x_sub [0, 1, 2, 4, 5, 6, 7] rfl (t_Rm_pairRule_185 G C0 hR hr hlk hK56 _ _ _ _ _ _ _ _ hwp)
  · replace hwp := hwp.2 c116
    refine x_iload_n C0 2 d_Rm_pairRule_119 rfl rfl ?_
    refine x_if_ne (tgt := 138) C0 d_Rm_pairRule_120 (by decide) (fun c120 => ?_) (fun c120 => ?_)
    · replace hwp := hwp.1 c120
      exact x_sub [0, 1, 3, 4, 5, 6, 7, 8] rfl (t_Rm_pairRule_138 G C0 hR hr hlk hK56 hK113 _ _ _ _ _ _ _ _ _ hwp)
    · replace hwp := hwp.2 c120
      refine x_iload_n C0 1 d_Rm_pairRule_123 rfl rfl ?_
      refine x_if_le (tgt := 142) C0 d_Rm_pairRule_124 (by decide) (fun c124 => ?_) (fun c124 => ?_)
      · replace hwp := hwp.1 c124
        exact x_sub [0, 1, 3, 4, 5, 6, 7, 8] rfl (t_Rm_pairRule_142 G C0 hR hr hlk hK56 hK113 _ _ _ _ _ _ _ _ _ hwp)
      · replace hwp := hwp.2 c124
        refine x_aload_n C0 0 d_Rm_pairRule_127 rfl rfl ?_
        refine x_iload C0 5 d_Rm_pairRule_128 rfl ?_
        refine x_iload C0 8 d_Rm_pairRule_130 rfl ?_
        obtain ⟨g132, hwp⟩ := hwp
        refine x_callVi0 (k := l0) (As := [.int l5, .int l8]) (st := []) C0 (c_Rm_isParallel l G hwp) kw_4_72 mk_Rm_isParallel vk_Rm_isParallel rfl g132 rfl (Nat.le_of_ble_eq_true rfl) rfl rfl ⟨Nat.le_trans (by decide) hR.1, Nat.le_trans (by decide) hR.2.1⟩ ⟨Nat.zero_le _, Nat.zero_le _⟩ rfl d_Rm_pairRule_132 (fun r132 h132 hwp => ?_)
        refine x_if_eq (tgt := 142) C0 d_Rm_pairRule_135 (by decide) (fun c135 => ?_) (fun c135 => ?_)
        · replace hwp := hwp.1 c135
          exact x_sub [0, 1, 3, 4, 5, 6, 7, 8] rfl (t_Rm_pairRule_142 G C0 hR hr hlk hK56 hK113 _ _ _ _ _ _ _ _ _ hwp)
        · replace hwp := hwp.2 c135
          exact x_sub [0, 1, 3, 4, 5, 6, 7, 8] rfl (t_Rm_pairRule_138 G C0 hR hr hlk hK56 hK113 _ _ _ _ _ _ _ _ _ hwp)
theorem t_Rm_pairRule_113 {p : Program} {l : Launch} {e : Env} {R : Room} {s : State} {m : MethodId} {args : Array Value} {below : List Frame} {meth : Method} {c : Code} (G : mG) (C0 : Cx G p s m args c prog_8_method_33_code 9 "BassRealiserModel") (hR : 2 ≤ R.frames ∧ 45 ≤ R.locals ∧ 0 ≤ R.cells ∧ 0 ≤ R.slots) (hr : meth.sig.returnType = some .int) (hlk : meth.locks = false) {Post : Int32 → MH → Prop} {K56 : Nat → Int32 → Int32 → Int32 → Int32 → Int32 → MH → Prop} (hK56 : ∀ (l0 : Nat) (l1 : Int32) (l2 : Int32) (l3 : Int32) (l4 : Int32) (l5 : Int32) (h : MH), K56 l0 l1 l2 l3 l4 l5 h → WG p l e R s m args below meth c 0 0 (MQ below (va_Qi Post (Wd G) (mA G)) args s 0 0 (mA G)) G 9 [(0, .ref (m_b G + l0)), (1, .int l1), (2, .int l2), (3, .int l3), (4, .int l4), (5, .int l5)] 56 [] h) (l0 : Nat) (l1 : Int32) (l2 : Int32) (l3 : Int32) (l4 : Int32) (l5 : Int32) (l6 : Int32) (l7 : Int32) (l8 : Int32) (h : MH) (hwp : wp_Rm_pairRule_113 K56 Post l0 l1 l2 l3 l4 l5 l6 l7 l8 h) : WG p l e R s m args below meth c 0 0 (MQ below (va_Qi Post (Wd G) (mA G)) args s 0 0 (mA G)) G 9 [(0, .ref (m_b G + l0)), (1, .int l1), (2, .int l2), (3, .int l3), (4, .int l4), (5, .int l5), (6, .int l6), (7, .int l7), (8, .int l8)] 113 [] h := by
  obtain ⟨n, hwp⟩ := hwp
  induction n generalizing l0 l1 l2 l3 l4 l5 l6 l7 l8 h with
  | zero => exact False.elim hwp
  | succ n ih => exact tb_Rm_pairRule_113 G C0 hR hr hlk hK56 (fun l0 l1 l2 l3 l4 l5 l6 l7 l8 h hwp => ih l0 l1 l2 l3 l4 l5 l6 l7 l8 h hwp) l0 l1 l2 l3 l4 l5 l6 l7 l8 h hwp
set_option maxRecDepth 100000 in
set_option maxHeartbeats 4000000 in
theorem t_Rm_pairRule_105 {p : Program} {l : Launch} {e : Env} {R : Room} {s : State} {m : MethodId} {args : Array Value} {below : List Frame} {meth : Method} {c : Code} (G : mG) (C0 : Cx G p s m args c prog_8_method_33_code 9 "BassRealiserModel") (hR : 2 ≤ R.frames ∧ 45 ≤ R.locals ∧ 0 ≤ R.cells ∧ 0 ≤ R.slots) (hr : meth.sig.returnType = some .int) (hlk : meth.locks = false) {Post : Int32 → MH → Prop} {K56 : Nat → Int32 → Int32 → Int32 → Int32 → Int32 → MH → Prop} (hK56 : ∀ (l0 : Nat) (l1 : Int32) (l2 : Int32) (l3 : Int32) (l4 : Int32) (l5 : Int32) (h : MH), K56 l0 l1 l2 l3 l4 l5 h → WG p l e R s m args below meth c 0 0 (MQ below (va_Qi Post (Wd G) (mA G)) args s 0 0 (mA G)) G 9 [(0, .ref (m_b G + l0)), (1, .int l1), (2, .int l2), (3, .int l3), (4, .int l4), (5, .int l5)] 56 [] h) (l0 : Nat) (l1 : Int32) (l2 : Int32) (l3 : Int32) (l4 : Int32) (l5 : Int32) (l6 : Int32) (y0 : Int32) (h : MH) (hwp : wp_Rm_pairRule_105 K56 Post l0 l1 l2 l3 l4 l5 l6 y0 h) : WG p l e R s m args below meth c 0 0 (MQ below (va_Qi Post (Wd G) (mA G)) args s 0 0 (mA G)) G 9 [(0, .ref (m_b G + l0)), (1, .int l1), (2, .int l2), (3, .int l3), (4, .int l4), (5, .int l5), (6, .int l6)] 105 [.int y0] h := by
  unfold wp_Rm_pairRule_105 at hwp
  refine x_istore C0 d_Rm_pairRule_105 (by decide) (lv' := [(7, .int y0), (0, .ref (m_b G + l0)), (1, .int l1), (2, .int l2), (3, .int l3), (4, .int l4), (5, .int l5), (6, .int l6)]) rfl ?_
  refine x_iload C0 6 d_Rm_pairRule_107 rfl ?_
  refine x_iconst (v := 1) C0 d_Rm_pairRule_109 (by decide) ?_
  refine x_iadd C0 d_Rm_pairRule_110 ?_
  refine x_topI (fun z111 e111 => ?_)
  replace hwp := hwp z111 e111
  refine x_istore C0 d_Rm_pairRule_111 (by decide) (lv' := [(8, .int z111), (7, .int y0), (0, .ref (m_b G + l0)), (1, .int l1), (2, .int l2), (3, .int l3), (4, .int l4), (5, .int l5), (6, .int l6)]) rfl ?_
  exact x_sub [2, 3, 4, 5, 6, 7, 8, 1, 0] rfl (t_Rm_pairRule_113 G C0 hR hr hlk hK56 _ _ _ _ _ _ _ _ _ _ hwp)
set_option maxRecDepth 100000 in
set_option maxHeartbeats 4000000 in
theorem t_Rm_pairRule_100 {p : Program} {l : Launch} {e : Env} {R : Room} {s : State} {m : MethodId} {args : Array Value} {below : List Frame} {meth : Method} {c : Code} (G : mG) (C0 : Cx G p s m args c prog_8_method_33_code 9 "BassRealiserModel") (hR : 2 ≤ R.frames ∧ 45 ≤ R.locals ∧ 0 ≤ R.cells ∧ 0 ≤ R.slots) (hr : meth.sig.returnType = some .int) (hlk : meth.locks = false) {Post : Int32 → MH → Prop} {K56 : Nat → Int32 → Int32 → Int32 → Int32 → Int32 → MH → Prop} (hK56 : ∀ (l0 : Nat) (l1 : Int32) (l2 : Int32) (l3 : Int32) (l4 : Int32) (l5 : Int32) (h : MH), K56 l0 l1 l2 l3 l4 l5 h → WG p l e R s m args below meth c 0 0 (MQ below (va_Qi Post (Wd G) (mA G)) args s 0 0 (mA G)) G 9 [(0, .ref (m_b G + l0)), (1, .int l1), (2, .int l2), (3, .int l3), (4, .int l4), (5, .int l5)] 56 [] h) (l0 : Nat) (l1 : Int32) (l2 : Int32) (l3 : Int32) (l4 : Int32) (l5 : Int32) (l6 : Int32) (h : MH) (hwp : wp_Rm_pairRule_100 K56 Post l0 l1 l2 l3 l4 l5 l6 h) : WG p l e R s m args below meth c 0 0 (MQ below (va_Qi Post (Wd G) (mA G)) args s 0 0 (mA G)) G 9 [(0, .ref (m_b G + l0)), (1, .int l1), (2, .int l2), (3, .int l3), (4, .int l4), (5, .int l5), (6, .int l6)] 100 [] h := by
  unfold wp_Rm_pairRule_100 at hwp
  refine x_iconst (v := 1) C0 d_Rm_pairRule_100 (by decide) ?_
  refine x_goto (tgt := 105) C0 d_Rm_pairRule_101 (by decide) ?_
  exact x_sub [0, 1, 2, 3, 4, 5, 6] rfl (t_Rm_pairRule_105 G C0 hR hr hlk hK56 _ _ _ _ _ _ _ _ _ hwp)
set_option maxRecDepth 100000 in
set_option maxHeartbeats 4000000 in
theorem t_Rm_pairRule_85 {p : Program} {l : Launch} {e : Env} {R : Room} {s : State} {m : MethodId} {args : Array Value} {below : List Frame} {meth : Method} {c : Code} (G : mG) (C0 : Cx G p s m args c prog_8_method_33_code 9 "BassRealiserModel") (hR : 2 ≤ R.frames ∧ 45 ≤ R.locals ∧ 0 ≤ R.cells ∧ 0 ≤ R.slots) (hr : meth.sig.returnType = some .int) (hlk : meth.locks = false) {Post : Int32 → MH → Prop} {K56 : Nat → Int32 → Int32 → Int32 → Int32 → Int32 → MH → Prop} (hK56 : ∀ (l0 : Nat) (l1 : Int32) (l2 : Int32) (l3 : Int32) (l4 : Int32) (l5 : Int32) (h : MH), K56 l0 l1 l2 l3 l4 l5 h → WG p l e R s m args below meth c 0 0 (MQ below (va_Qi Post (Wd G) (mA G)) args s 0 0 (mA G)) G 9 [(0, .ref (m_b G + l0)), (1, .int l1), (2, .int l2), (3, .int l3), (4, .int l4), (5, .int l5)] 56 [] h) (l0 : Nat) (l1 : Int32) (l2 : Int32) (l3 : Int32) (l4 : Int32) (l5 : Int32) (y0 : Int32) (h : MH) (hwp : wp_Rm_pairRule_85 K56 Post l0 l1 l2 l3 l4 l5 y0 h) : WG p l e R s m args below meth c 0 0 (MQ below (va_Qi Post (Wd G) (mA G)) args s 0 0 (mA G)) G 9 [(0, .ref (m_b G + l0)), (1, .int l1), (2, .int l2), (3, .int l3), (4, .int l4), (5, .int l5)] 85 [.int y0] h := by
  unfold wp_Rm_pairRule_85 at hwp
  refine x_istore C0 d_Rm_pairRule_85 (by decide) (lv' := [(6, .int y0), (0, .ref (m_b G + l0)), (1, .int l1), (2, .int l2), (3, .int l3), (4, .int l4), (5, .int l5)]) rfl ?_
  refine x_iload C0 0 d_Rm_pairRule_87 rfl ?_
  refine x_iconst (v := -1) C0 d_Rm_pairRule_89 (by decide) ?_
  refine x_icmp_eq (tgt := 100) C0 d_Rm_pairRule_90 (by decide) (fun c90 => ?_) (fun c90 => ?_)
  · replace hwp := hwp.1 c90
    exact x_sub [1, 2, 3, 4, 5, 6, 0] rfl (t_Rm_pairRule_100 G C0 hR hr hlk hK56 _ _ _ _ _ _ _ _ hwp)
  · replace hwp := hwp.2 c90
    refine x_iload C0 0 d_Rm_pairRule_93 rfl ?_
    refine x_bipush (v := -2) C0 d_Rm_pairRule_95 (by decide) ?_
    refine x_icmp_ne (tgt := 104) C0 d_Rm_pairRule_97 (by decide) (fun c97 => ?_) (fun c97 => ?_)
    · replace hwp := hwp.1 c97
      refine x_iconst (v := 0) C0 d_Rm_pairRule_104 (by decide) ?_
      exact x_sub [1, 2, 3, 4, 5, 6, 0] rfl (t_Rm_pairRule_105 G C0 hR hr hlk hK56 _ _ _ _ _ _ _ _ _ hwp)
    · replace hwp := hwp.2 c97
      exact x_sub [1, 2, 3, 4, 5, 6, 0] rfl (t_Rm_pairRule_100 G C0 hR hr hlk hK56 _ _ _ _ _ _ _ _ hwp)
set_option maxRecDepth 100000 in
set_option maxHeartbeats 4000000 in
theorem tb_Rm_pairRule_56 {p : Program} {l : Launch} {e : Env} {R : Room} {s : State} {m : MethodId} {args : Array Value} {below : List Frame} {meth : Method} {c : Code} (G : mG) (C0 : Cx G p s m args c prog_8_method_33_code 9 "BassRealiserModel") (hR : 2 ≤ R.frames ∧ 45 ≤ R.locals ∧ 0 ≤ R.cells ∧ 0 ≤ R.slots) (hr : meth.sig.returnType = some .int) (hlk : meth.locks = false) {Post : Int32 → MH → Prop} {K56 : Nat → Int32 → Int32 → Int32 → Int32 → Int32 → MH → Prop} (hK56 : ∀ (l0 : Nat) (l1 : Int32) (l2 : Int32) (l3 : Int32) (l4 : Int32) (l5 : Int32) (h : MH), K56 l0 l1 l2 l3 l4 l5 h → WG p l e R s m args below meth c 0 0 (MQ below (va_Qi Post (Wd G) (mA G)) args s 0 0 (mA G)) G 9 [(0, .ref (m_b G + l0)), (1, .int l1), (2, .int l2), (3, .int l3), (4, .int l4), (5, .int l5)] 56 [] h) (l0 : Nat) (l1 : Int32) (l2 : Int32) (l3 : Int32) (l4 : Int32) (l5 : Int32) (h : MH) (hwp : wb_Rm_pairRule_56 K56 Post l0 l1 l2 l3 l4 l5 h) : WG p l e R s m args below meth c 0 0 (MQ below (va_Qi Post (Wd G) (mA G)) args s 0 0 (mA G)) G 9 [(0, .ref (m_b G + l0)), (1, .int l1), (2, .int l2), (3, .int l3), (4, .int l4), (5, .int l5)] 56 [] h := by
  unfold wb_Rm_pairRule_56 at hwp
  refine x_iload C0 5 d_Rm_pairRule_56 rfl ?_
  refine x_iconst (v := 3) C0 d_Rm_pairRule_58 (by decide) ?_
  refine x_icmp_ge (tgt := 276) C0 d_Rm_pairRule_59 (by decide) (fun c59 => ?_) (fun c59 => ?_)
  · replace hwp := hwp.1 c59
    refine x_iload_n C0 2 d_Rm_pairRule_276 rfl rfl ?_
    refine x_if_eq (tgt := 285) C0 d_Rm_pairRule_277 (by decide) (fun c277 => ?_) (fun c277 => ?_)
    · replace hwp := hwp.1 c277
      refine x_iload_n C0 3 d_Rm_pairRule_285 rfl rfl ?_
      refine x_if_eq (tgt := 294) C0 d_Rm_pairRule_286 (by decide) (fun c286 => ?_) (fun c286 => ?_)
      · replace hwp := hwp.1 c286
        refine x_iload C0 4 d_Rm_pairRule_294 rfl ?_
        refine x_if_eq (tgt := 304) C0 d_Rm_pairRule_296 (by decide) (fun c296 => ?_) (fun c296 => ?_)
        · replace hwp := hwp.1 c296
          refine x_iconst (v := 0) C0 d_Rm_pairRule_304 (by decide) ?_
          exact x_iret C0 hr hlk hwp d_Rm_pairRule_305
        · replace hwp := hwp.2 c296
          refine x_bipush (v := 11) C0 d_Rm_pairRule_299 (by decide) ?_
          refine x_goto (tgt := 305) C0 d_Rm_pairRule_301 (by decide) ?_
          exact x_iret C0 hr hlk hwp d_Rm_pairRule_305
      · replace hwp := hwp.2 c286
        refine x_bipush (v := 10) C0 d_Rm_pairRule_289 (by decide) ?_
        refine x_goto (tgt := 305) C0 d_Rm_pairRule_291 (by decide) ?_
        exact x_iret C0 hr hlk hwp d_Rm_pairRule_305
    · replace hwp := hwp.2 c277
      refine x_bipush (v := 9) C0 d_Rm_pairRule_280 (by decide) ?_
      refine x_goto (tgt := 305) C0 d_Rm_pairRule_282 (by decide) ?_
      exact x_iret C0 hr hlk hwp d_Rm_pairRule_305
  · replace hwp := hwp.2 c59
    refine x_iload_n C0 1 d_Rm_pairRule_62 rfl rfl ?_
    refine x_if_ne (tgt := 70) C0 d_Rm_pairRule_63 (by decide) (fun c63 => ?_) (fun c63 => ?_)
    · replace hwp := hwp.1 c63
      refine x_aload_n C0 0 d_Rm_pairRule_70 rfl rfl ?_
      obtain ⟨x71, e71, hwp⟩ := hwp
      refine x_getR C0 fk_Rm_48 e71 d_Rm_pairRule_71 ?_
      refine x_iload C0 5 d_Rm_pairRule_74 rfl ?_
      obtain ⟨n76, f76, e76, i76, hwp⟩ := hwp
      refine x_iald C0 e76 i76 d_Rm_pairRule_76 ?_
      refine x_aload_n C0 0 d_Rm_pairRule_77 rfl rfl ?_
      obtain ⟨x78, e78, hwp⟩ := hwp
      refine x_getR C0 fk_Rm_51 e78 d_Rm_pairRule_78 ?_
      refine x_iload C0 5 d_Rm_pairRule_81 rfl ?_
      obtain ⟨n83, f83, e83, i83, hwp⟩ := hwp
      refine x_iald C0 e83 i83 d_Rm_pairRule_83 ?_
      refine x_isub C0 d_Rm_pairRule_84 ?_
      exact x_sub [0, 1, 2, 3, 4, 5] rfl (t_Rm_pairRule_85 G C0 hR hr hlk hK56 _ _ _ _ _ _ _ _ hwp)
    · replace hwp := hwp.2 c63
      refine x_iconst (v := 0) C0 d_Rm_pairRule_66 (by decide) ?_
      refine x_goto (tgt := 85) C0 d_Rm_pairRule_67 (by decide) ?_
      exact x_sub [0, 1, 2, 3, 4, 5] rfl (t_Rm_pairRule_85 G C0 hR hr hlk hK56 _ _ _ _ _ _ _ _ hwp)
theorem t_Rm_pairRule_56 {p : Program} {l : Launch} {e : Env} {R : Room} {s : State} {m : MethodId} {args : Array Value} {below : List Frame} {meth : Method} {c : Code} (G : mG) (C0 : Cx G p s m args c prog_8_method_33_code 9 "BassRealiserModel") (hR : 2 ≤ R.frames ∧ 45 ≤ R.locals ∧ 0 ≤ R.cells ∧ 0 ≤ R.slots) (hr : meth.sig.returnType = some .int) (hlk : meth.locks = false) {Post : Int32 → MH → Prop} (l0 : Nat) (l1 : Int32) (l2 : Int32) (l3 : Int32) (l4 : Int32) (l5 : Int32) (h : MH) (hwp : wp_Rm_pairRule_56 Post l0 l1 l2 l3 l4 l5 h) : WG p l e R s m args below meth c 0 0 (MQ below (va_Qi Post (Wd G) (mA G)) args s 0 0 (mA G)) G 9 [(0, .ref (m_b G + l0)), (1, .int l1), (2, .int l2), (3, .int l3), (4, .int l4), (5, .int l5)] 56 [] h := by
  obtain ⟨n, hwp⟩ := hwp
  induction n generalizing l0 l1 l2 l3 l4 l5 h with
  | zero => exact False.elim hwp
  | succ n ih => exact tb_Rm_pairRule_56 G C0 hR hr hlk (fun l0 l1 l2 l3 l4 l5 h hwp => ih l0 l1 l2 l3 l4 l5 h hwp) l0 l1 l2 l3 l4 l5 h hwp
set_option maxRecDepth 100000 in
set_option maxHeartbeats 4000000 in
theorem t_Rm_pairRule_53 {p : Program} {l : Launch} {e : Env} {R : Room} {s : State} {m : MethodId} {args : Array Value} {below : List Frame} {meth : Method} {c : Code} (G : mG) (C0 : Cx G p s m args c prog_8_method_33_code 9 "BassRealiserModel") (hR : 2 ≤ R.frames ∧ 45 ≤ R.locals ∧ 0 ≤ R.cells ∧ 0 ≤ R.slots) (hr : meth.sig.returnType = some .int) (hlk : meth.locks = false) {Post : Int32 → MH → Prop} (l0 : Nat) (l1 : Int32) (l2 : Int32) (l3 : Int32) (l4 : Int32) (h : MH) (hwp : wp_Rm_pairRule_53 Post l0 l1 l2 l3 l4 h) : WG p l e R s m args below meth c 0 0 (MQ below (va_Qi Post (Wd G) (mA G)) args s 0 0 (mA G)) G 9 [(0, .ref (m_b G + l0)), (1, .int l1), (2, .int l2), (3, .int l3), (4, .int l4)] 53 [] h := by
  unfold wp_Rm_pairRule_53 at hwp
  refine x_iconst (v := 0) C0 d_Rm_pairRule_53 (by decide) ?_
  refine x_istore C0 d_Rm_pairRule_54 (by decide) (lv' := [(5, .int (0 : Int32)), (0, .ref (m_b G + l0)), (1, .int l1), (2, .int l2), (3, .int l3), (4, .int l4)]) rfl ?_
  exact x_sub [1, 2, 3, 4, 5, 0] rfl (t_Rm_pairRule_56 G C0 hR hr hlk  _ _ _ _ _ _ _ hwp)
set_option maxRecDepth 100000 in
set_option maxHeartbeats 4000000 in
theorem tb_Rm_pairRule_10 {p : Program} {l : Launch} {e : Env} {R : Room} {s : State} {m : MethodId} {args : Array Value} {below : List Frame} {meth : Method} {c : Code} (G : mG) (C0 : Cx G p s m args c prog_8_method_33_code 9 "BassRealiserModel") (hR : 2 ≤ R.frames ∧ 45 ≤ R.locals ∧ 0 ≤ R.cells ∧ 0 ≤ R.slots) (hr : meth.sig.returnType = some .int) (hlk : meth.locks = false) {Post : Int32 → MH → Prop} {K10 : Nat → Int32 → Int32 → Int32 → Int32 → Int32 → MH → Prop} (hK10 : ∀ (l0 : Nat) (l1 : Int32) (l2 : Int32) (l3 : Int32) (l4 : Int32) (l5 : Int32) (h : MH), K10 l0 l1 l2 l3 l4 l5 h → WG p l e R s m args below meth c 0 0 (MQ below (va_Qi Post (Wd G) (mA G)) args s 0 0 (mA G)) G 9 [(0, .ref (m_b G + l0)), (1, .int l1), (2, .int l2), (3, .int l3), (4, .int l4), (5, .int l5)] 10 [] h) (l0 : Nat) (l1 : Int32) (l2 : Int32) (l3 : Int32) (l4 : Int32) (l5 : Int32) (h : MH) (hwp : wb_Rm_pairRule_10 K10 Post l0 l1 l2 l3 l4 l5 h) : WG p l e R s m args below meth c 0 0 (MQ below (va_Qi Post (Wd G) (mA G)) args s 0 0 (mA G)) G 9 [(0, .ref (m_b G + l0)), (1, .int l1), (2, .int l2), (3, .int l3), (4, .int l4), (5, .int l5)] 10 [] h := by
  unfold wb_Rm_pairRule_10 at hwp
  refine x_iload C0 5 d_Rm_pairRule_10 rfl ?_
  refine x_iconst (v := 3) C0 d_Rm_pairRule_12 (by decide) ?_
  refine x_icmp_ge (tgt := 53) C0 d_Rm_pairRule_13 (by decide) (fun c13 => ?_) (fun c13 => ?_)
  · replace hwp := hwp.1 c13
    exact x_sub [0, 1, 2, 3, 4] rfl (t_Rm_pairRule_53 G C0 hR hr hlk  _ _ _ _ _ _ hwp)
  · replace hwp := hwp.2 c13
    refine x_iload_n C0 1 d_Rm_pairRule_16 rfl rfl ?_
    refine x_if_le (tgt := 53) C0 d_Rm_pairRule_17 (by decide) (fun c17 => ?_) (fun c17 => ?_)
    · replace hwp := hwp.1 c17
      exact x_sub [0, 1, 2, 3, 4] rfl (t_Rm_pairRule_53 G C0 hR hr hlk  _ _ _ _ _ _ hwp)
    · replace hwp := hwp.2 c17
      refine x_aload_n C0 0 d_Rm_pairRule_20 rfl rfl ?_
      obtain ⟨x21, e21, hwp⟩ := hwp
      refine x_getR C0 fk_Rm_48 e21 d_Rm_pairRule_21 ?_
      refine x_iload C0 5 d_Rm_pairRule_24 rfl ?_
      obtain ⟨n26, f26, e26, i26, hwp⟩ := hwp
      refine x_iald C0 e26 i26 d_Rm_pairRule_26 ?_
      refine x_aload_n C0 0 d_Rm_pairRule_27 rfl rfl ?_
      obtain ⟨x28, e28, hwp⟩ := hwp
      refine x_getR C0 fk_Rm_51 e28 d_Rm_pairRule_28 ?_
      refine x_iload C0 5 d_Rm_pairRule_31 rfl ?_
      obtain ⟨n33, f33, e33, i33, hwp⟩ := hwp
      refine x_iald C0 e33 i33 d_Rm_pairRule_33 ?_
      refine x_callSi0 (As := [.int (f26 (l5).toNatClampNeg), .int (f33 (l5).toNatClampNeg)]) (st := []) C0 (c_Rm_far l G hwp) kw_4_69 mk_Rm_far kw_4_70 rfl (Nat.le_of_ble_eq_true rfl) rfl rfl ⟨Nat.le_trans (by decide) hR.1, Nat.le_trans (by decide) hR.2.1⟩ ⟨Nat.zero_le _, Nat.zero_le _⟩ rfl d_Rm_pairRule_34 (fun r34 h34 hwp => ?_)
      refine x_aload_n C0 0 d_Rm_pairRule_37 rfl rfl ?_
      obtain ⟨x38, e38, hwp⟩ := hwp
      refine x_getI C0 fk_Rm_35 e38 d_Rm_pairRule_38 ?_
      refine x_icmp_le (tgt := 47) C0 d_Rm_pairRule_41 (by decide) (fun c41 => ?_) (fun c41 => ?_)
      · replace hwp := hwp.1 c41
        refine x_iinc C0 5 d_Rm_pairRule_47 rfl rfl (by decide) (lv' := [(5, .int (l5 + (1 : Int32))), (0, .ref (m_b G + l0)), (1, .int l1), (2, .int l2), (3, .int l3), (4, .int l4)]) rfl ?_
        refine x_goto (tgt := 10) C0 d_Rm_pairRule_50 (by decide) ?_
        exact x_sub [1, 2, 3, 4, 5, 0] rfl (hK10 _ _ _ _ _ _ _ hwp)
      · replace hwp := hwp.2 c41
        refine x_bipush (v := 8) C0 d_Rm_pairRule_44 (by decide) ?_
        exact x_iret C0 hr hlk hwp d_Rm_pairRule_46
theorem t_Rm_pairRule_10 {p : Program} {l : Launch} {e : Env} {R : Room} {s : State} {m : MethodId} {args : Array Value} {below : List Frame} {meth : Method} {c : Code} (G : mG) (C0 : Cx G p s m args c prog_8_method_33_code 9 "BassRealiserModel") (hR : 2 ≤ R.frames ∧ 45 ≤ R.locals ∧ 0 ≤ R.cells ∧ 0 ≤ R.slots) (hr : meth.sig.returnType = some .int) (hlk : meth.locks = false) {Post : Int32 → MH → Prop} (l0 : Nat) (l1 : Int32) (l2 : Int32) (l3 : Int32) (l4 : Int32) (l5 : Int32) (h : MH) (hwp : wp_Rm_pairRule_10 Post l0 l1 l2 l3 l4 l5 h) : WG p l e R s m args below meth c 0 0 (MQ below (va_Qi Post (Wd G) (mA G)) args s 0 0 (mA G)) G 9 [(0, .ref (m_b G + l0)), (1, .int l1), (2, .int l2), (3, .int l3), (4, .int l4), (5, .int l5)] 10 [] h := by
  obtain ⟨n, hwp⟩ := hwp
  induction n generalizing l0 l1 l2 l3 l4 l5 h with
  | zero => exact False.elim hwp
  | succ n ih => exact tb_Rm_pairRule_10 G C0 hR hr hlk (fun l0 l1 l2 l3 l4 l5 h hwp => ih l0 l1 l2 l3 l4 l5 h hwp) l0 l1 l2 l3 l4 l5 h hwp
set_option maxRecDepth 100000 in
set_option maxHeartbeats 4000000 in
theorem t_Rm_pairRule {p : Program} {l : Launch} {e : Env} {R : Room} {s : State} {m : MethodId} {args : Array Value} {below : List Frame} {meth : Method} {c : Code} (G : mG) (C0 : Cx G p s m args c prog_8_method_33_code 9 "BassRealiserModel") (hR : 2 ≤ R.frames ∧ 45 ≤ R.locals ∧ 0 ≤ R.cells ∧ 0 ≤ R.slots) (hr : meth.sig.returnType = some .int) (hlk : meth.locks = false) {Post : Int32 → MH → Prop} (l0 : Nat) (l1 : Int32) (h : MH) (hwp : wp_Rm_pairRule Post l0 l1 h) : WG p l e R s m args below meth c 0 0 (MQ below (va_Qi Post (Wd G) (mA G)) args s 0 0 (mA G)) G 9 [(0, .ref (m_b G + l0)), (1, .int l1)] 0 [] h := by
  unfold wp_Rm_pairRule at hwp
  refine x_iconst (v := 0) C0 d_Rm_pairRule_0 (by decide) ?_
  refine x_istore_n C0 d_Rm_pairRule_1 rfl (by decide) (lv' := [(2, .int (0 : Int32)), (0, .ref (m_b G + l0)), (1, .int l1)]) rfl ?_
  refine x_iconst (v := 0) C0 d_Rm_pairRule_2 (by decide) ?_
  refine x_istore_n C0 d_Rm_pairRule_3 rfl (by decide) (lv' := [(3, .int (0 : Int32)), (2, .int (0 : Int32)), (0, .ref (m_b G + l0)), (1, .int l1)]) rfl ?_
  refine x_iconst (v := 0) C0 d_Rm_pairRule_4 (by decide) ?_
  refine x_istore C0 d_Rm_pairRule_5 (by decide) (lv' := [(4, .int (0 : Int32)), (3, .int (0 : Int32)), (2, .int (0 : Int32)), (0, .ref (m_b G + l0)), (1, .int l1)]) rfl ?_
  refine x_iconst (v := 0) C0 d_Rm_pairRule_7 (by decide) ?_
  refine x_istore C0 d_Rm_pairRule_8 (by decide) (lv' := [(5, .int (0 : Int32)), (4, .int (0 : Int32)), (3, .int (0 : Int32)), (2, .int (0 : Int32)), (0, .ref (m_b G + l0)), (1, .int l1)]) rfl ?_
  exact x_sub [4, 5, 3, 2, 1, 0] rfl (t_Rm_pairRule_10 G C0 hR hr hlk  _ _ _ _ _ _ _ hwp)
set_option maxRecDepth 100000 in
set_option maxHeartbeats 4000000 in
theorem c_Rm_pairRule (l : Launch) (G : mG) {Post : Int32 → MH → Prop} {l0 : Nat} {l1 : Int32} {h : MH} (hwp : wp_Rm_pairRule Post l0 l1 h) : Met l y_Rm_pairRule (Cond.code y_Rm_pairRule prog_8_method_33_code 9 (Option.some Jvm.ClassFile.FieldType.int) :: lw_good) ({ frames := 2, cells := 0, slots := 0, locals := 45 }) (va_Pc [.ref (m_b G + l0), .int l1] (Wd G h)) (va_Qi Post (Wd G) (mA G)) 0 0 (mA G) := by
  refine Met.ofW (cc := prog_8_method_33_code) (maxL := 9) (ret := (Option.some Jvm.ClassFile.FieldType.int)) (by decide +kernel) rfl ?_
  intro p e s m args below meth c s₁ B hml hv
  obtain ⟨rfl, hP, hz, hK, hSt⟩ := hv
  have hts := atoms_spec (ws := Cond.code y_Rm_pairRule prog_8_method_33_code 9 (Option.some Jvm.ClassFile.FieldType.int) :: lw_good) B.pre
  have C0 : Cx G p s m ([.ref (m_b G + l0), .int l1] : List Value).toArray c prog_8_method_33_code 9 "BassRealiserModel" := ⟨⟨B.exec, B.bytes, hml, findClass_of_methodNamed B.named, fun w h => hts w (List.mem_cons_of_mem _ h)⟩, hK, hSt, by rw [hz]; exact Nat.le_add_right _ _⟩
  have hl := lv_entry ([.ref (m_b G + l0), .int l1]) (n := 9) (Nat.le_of_ble_eq_true rfl)
  rw [lg_entry_eq]
  exact t_Rm_pairRule G C0 ⟨Nat.le_refl _, Nat.le_refl _, Nat.le_refl _, Nat.le_refl _⟩ B.returns B.notSynchronized _ _ _ hwp _ _ _ ⟨hP, hz, va_S.rf⟩ hl
def wp_Rm_cost_35 (K4 : Nat → Int32 → Int32 → Int32 → MH → Prop) (Post : Int32 → MH → Prop) (l0 : Nat) (l1 : Int32) (l3 : Int32) (y0 : Int32) (y1 : Int32) (y2 : Int32) (h : MH) : Prop :=
  wp_Rm_far (fun (r35 : Int32) (h35 : MH) =>
    (∀ z39 : Int32, z39 = y0 + r35 →
      (K4 l0 l1 z39 (l3 + (1 : Int32)) h35))) y1 y2 h
def wb_Rm_cost_4 (K4 : Nat → Int32 → Int32 → Int32 → MH → Prop) (Post : Int32 → MH → Prop) (l0 : Nat) (l1 : Int32) (l2 : Int32) (l3 : Int32) (h : MH) : Prop :=
  (((3 : Int32) ≤ l3) →
    (Post l2 h)) ∧
  ((¬ (3 : Int32) ≤ l3) →
    (∃ x11 : Nat, gF h l0 6 14 = some (.inr (some x11)) ∧
      (∃ (n15 : Nat) (f15 : Nat → Int32), gA h x11 0 = some (n15, f15) ∧ vp_in l3 n15 ∧
        (((¬ l1 = 0) →
            (∃ x30 : Nat, gF h l0 6 15 = some (.inr (some x30)) ∧
              (∃ (n34 : Nat) (f34 : Nat → Int32), gA h x30 0 = some (n34, f34) ∧ vp_in l3 n34 ∧
                (wp_Rm_cost_35 K4 Post l0 l1 l3 l2 (f15 (l3).toNatClampNeg) (f34 (l3).toNatClampNeg) h)))) ∧
          ((l1 = 0) →
            (∃ x21 : Nat, gF h l0 6 9 = some (.inr (some x21)) ∧
              (∃ (n25 : Nat) (f25 : Nat → Int32), gA h x21 0 = some (n25, f25) ∧ vp_in l3 n25 ∧
                (wp_Rm_cost_35 K4 Post l0 l1 l3 l2 (f15 (l3).toNatClampNeg) (f25 (l3).toNatClampNeg) h))))))))
def wn_Rm_cost_4 (Post : Int32 → MH → Prop) : Nat → Nat → Int32 → Int32 → Int32 → MH → Prop
  | 0 => fun _ _ _ _ _ => False
  | n + 1 => wb_Rm_cost_4 (wn_Rm_cost_4 Post n) Post
def wp_Rm_cost_4 (Post : Int32 → MH → Prop) (l0 : Nat) (l1 : Int32) (l2 : Int32) (l3 : Int32) (h : MH) : Prop := ∃ n, wn_Rm_cost_4 Post n l0 l1 l2 l3 h
def wp_Rm_cost (Post : Int32 → MH → Prop) (l0 : Nat) (l1 : Int32) (h : MH) : Prop :=
  wp_Rm_cost_4 Post l0 l1 (0 : Int32) (0 : Int32) h
set_option maxRecDepth 100000 in
set_option maxHeartbeats 4000000 in
theorem t_Rm_cost_35 {p : Program} {l : Launch} {e : Env} {R : Room} {s : State} {m : MethodId} {args : Array Value} {below : List Frame} {meth : Method} {c : Code} (G : mG) (C0 : Cx G p s m args c prog_8_method_37_code 4 "BassRealiserModel") (hR : 1 ≤ R.frames ∧ 21 ≤ R.locals ∧ 0 ≤ R.cells ∧ 0 ≤ R.slots) (hr : meth.sig.returnType = some .int) (hlk : meth.locks = false) {Post : Int32 → MH → Prop} {K4 : Nat → Int32 → Int32 → Int32 → MH → Prop} (hK4 : ∀ (l0 : Nat) (l1 : Int32) (l2 : Int32) (l3 : Int32) (h : MH), K4 l0 l1 l2 l3 h → WG p l e R s m args below meth c 0 0 (MQ below (va_Qi Post (Wd G) (mA G)) args s 0 0 (mA G)) G 4 [(0, .ref (m_b G + l0)), (1, .int l1), (2, .int l2), (3, .int l3)] 4 [] h) (l0 : Nat) (l1 : Int32) (l3 : Int32) (y0 : Int32) (y1 : Int32) (y2 : Int32) (h : MH) (hwp : wp_Rm_cost_35 K4 Post l0 l1 l3 y0 y1 y2 h) : WG p l e R s m args below meth c 0 0 (MQ below (va_Qi Post (Wd G) (mA G)) args s 0 0 (mA G)) G 4 [(0, .ref (m_b G + l0)), (1, .int l1), (3, .int l3)] 35 [.int y2, .int y1, .int y0] h := by
  unfold wp_Rm_cost_35 at hwp
  refine x_callSi0 (As := [.int y1, .int y2]) (st := [.int y0]) C0 (c_Rm_far l G hwp) kw_4_69 mk_Rm_far kw_4_70 rfl (Nat.le_of_ble_eq_true rfl) rfl rfl ⟨Nat.le_trans (by decide) hR.1, Nat.le_trans (by decide) hR.2.1⟩ ⟨Nat.zero_le _, Nat.zero_le _⟩ rfl d_Rm_cost_35 (fun r35 h35 hwp => ?_)
  refine x_iadd C0 d_Rm_cost_38 ?_
  refine x_topI (fun z39 e39 => ?_)
  replace hwp := hwp z39 e39
  refine x_istore_n C0 d_Rm_cost_39 rfl (by decide) (lv' := [(2, .int z39), (0, .ref (m_b G + l0)), (1, .int l1), (3, .int l3)]) rfl ?_
  refine x_iinc C0 3 d_Rm_cost_40 rfl rfl (by decide) (lv' := [(3, .int (l3 + (1 : Int32))), (2, .int z39), (0, .ref (m_b G + l0)), (1, .int l1)]) rfl ?_
  refine x_goto (tgt := 4) C0 d_Rm_cost_43 (by decide) ?_
  exact x_sub [2, 3, 1, 0] rfl (hK4 _ _ _ _ _ hwp)
set_option maxRecDepth 100000 in
set_option maxHeartbeats 4000000 in
theorem tb_Rm_cost_4 {p : Program} {l : Launch} {e : Env} {R : Room} {s : State} {m : MethodId} {args : Array Value} {below : List Frame} {meth : Method} {c : Code} (G : mG) (C0 : Cx G p s m args c prog_8_method_37_code 4 "BassRealiserModel") (hR : 1 ≤ R.frames ∧ 21 ≤ R.locals ∧ 0 ≤ R.cells ∧ 0 ≤ R.slots) (hr : meth.sig.returnType = some .int) (hlk : meth.locks = false) {Post : Int32 → MH → Prop} {K4 : Nat → Int32 → Int32 → Int32 → MH → Prop} (hK4 : ∀ (l0 : Nat) (l1 : Int32) (l2 : Int32) (l3 : Int32) (h : MH), K4 l0 l1 l2 l3 h → WG p l e R s m args below meth c 0 0 (MQ below (va_Qi Post (Wd G) (mA G)) args s 0 0 (mA G)) G 4 [(0, .ref (m_b G + l0)), (1, .int l1), (2, .int l2), (3, .int l3)] 4 [] h) (l0 : Nat) (l1 : Int32) (l2 : Int32) (l3 : Int32) (h : MH) (hwp : wb_Rm_cost_4 K4 Post l0 l1 l2 l3 h) : WG p l e R s m args below meth c 0 0 (MQ below (va_Qi Post (Wd G) (mA G)) args s 0 0 (mA G)) G 4 [(0, .ref (m_b G + l0)), (1, .int l1), (2, .int l2), (3, .int l3)] 4 [] h := by
  unfold wb_Rm_cost_4 at hwp
  refine x_iload_n C0 3 d_Rm_cost_4 rfl rfl ?_
  refine x_iconst (v := 3) C0 d_Rm_cost_5 (by decide) ?_
  refine x_icmp_ge (tgt := 46) C0 d_Rm_cost_6 (by decide) (fun c6 => ?_) (fun c6 => ?_)
  · replace hwp := hwp.1 c6
    refine x_iload_n C0 2 d_Rm_cost_46 rfl rfl ?_
    exact x_iret C0 hr hlk hwp d_Rm_cost_47
  · replace hwp := hwp.2 c6
    refine x_iload_n C0 2 d_Rm_cost_9 rfl rfl ?_
    refine x_aload_n C0 0 d_Rm_cost_10 rfl rfl ?_
    obtain ⟨x11, e11, hwp⟩ := hwp
    refine x_getR C0 fk_Rm_48 e11 d_Rm_cost_11 ?_
    refine x_iload_n C0 3 d_Rm_cost_14 rfl rfl ?_
    obtain ⟨n15, f15, e15, i15, hwp⟩ := hwp
    refine x_iald C0 e15 i15 d_Rm_cost_15 ?_
    refine x_iload_n C0 1 d_Rm_cost_16 rfl rfl ?_
    refine x_if_ne (tgt := 29) C0 d_Rm_cost_17 (by decide) (fun c17 => ?_) (fun c17 => ?_)
    · replace hwp := hwp.1 c17
      refine x_aload_n C0 0 d_Rm_cost_29 rfl rfl ?_
      obtain ⟨x30, e30, hwp⟩ := hwp
      refine x_getR C0 fk_Rm_51 e30 d_Rm_cost_30 ?_
      refine x_iload_n C0 3 d_Rm_cost_33 rfl rfl ?_
      obtain ⟨n34, f34, e34, i34, hwp⟩ := hwp
      refine x_iald C0 e34 i34 d_Rm_cost_34 ?_
      exact x_sub [0, 1, 3] rfl (t_Rm_cost_35 G C0 hR hr hlk hK4 _ _ _ _ _ _ _ hwp)
    · replace hwp := hwp.2 c17
      refine x_aload_n C0 0 d_Rm_cost_20 rfl rfl ?_
      obtain ⟨x21, e21, hwp⟩ := hwp
      refine x_getR C0 fk_Rm_32 e21 d_Rm_cost_21 ?_
      refine x_iload_n C0 3 d_Rm_cost_24 rfl rfl ?_
      obtain ⟨n25, f25, e25, i25, hwp⟩ := hwp
      refine x_iald C0 e25 i25 d_Rm_cost_25 ?_
      refine x_goto (tgt := 35) C0 d_Rm_cost_26 (by decide) ?_
      exact x_sub [0, 1, 3] rfl (t_Rm_cost_35 G C0 hR hr hlk hK4 _ _ _ _ _ _ _ hwp)
theorem t_Rm_cost_4 {p : Program} {l : Launch} {e : Env} {R : Room} {s : State} {m : MethodId} {args : Array Value} {below : List Frame} {meth : Method} {c : Code} (G : mG) (C0 : Cx G p s m args c prog_8_method_37_code 4 "BassRealiserModel") (hR : 1 ≤ R.frames ∧ 21 ≤ R.locals ∧ 0 ≤ R.cells ∧ 0 ≤ R.slots) (hr : meth.sig.returnType = some .int) (hlk : meth.locks = false) {Post : Int32 → MH → Prop} (l0 : Nat) (l1 : Int32) (l2 : Int32) (l3 : Int32) (h : MH) (hwp : wp_Rm_cost_4 Post l0 l1 l2 l3 h) : WG p l e R s m args below meth c 0 0 (MQ below (va_Qi Post (Wd G) (mA G)) args s 0 0 (mA G)) G 4 [(0, .ref (m_b G + l0)), (1, .int l1), (2, .int l2), (3, .int l3)] 4 [] h := by
  obtain ⟨n, hwp⟩ := hwp
  induction n generalizing l0 l1 l2 l3 h with
  | zero => exact False.elim hwp
  | succ n ih => exact tb_Rm_cost_4 G C0 hR hr hlk (fun l0 l1 l2 l3 h hwp => ih l0 l1 l2 l3 h hwp) l0 l1 l2 l3 h hwp
set_option maxRecDepth 100000 in
set_option maxHeartbeats 4000000 in
theorem t_Rm_cost {p : Program} {l : Launch} {e : Env} {R : Room} {s : State} {m : MethodId} {args : Array Value} {below : List Frame} {meth : Method} {c : Code} (G : mG) (C0 : Cx G p s m args c prog_8_method_37_code 4 "BassRealiserModel") (hR : 1 ≤ R.frames ∧ 21 ≤ R.locals ∧ 0 ≤ R.cells ∧ 0 ≤ R.slots) (hr : meth.sig.returnType = some .int) (hlk : meth.locks = false) {Post : Int32 → MH → Prop} (l0 : Nat) (l1 : Int32) (h : MH) (hwp : wp_Rm_cost Post l0 l1 h) : WG p l e R s m args below meth c 0 0 (MQ below (va_Qi Post (Wd G) (mA G)) args s 0 0 (mA G)) G 4 [(0, .ref (m_b G + l0)), (1, .int l1)] 0 [] h := by
  unfold wp_Rm_cost at hwp
  refine x_iconst (v := 0) C0 d_Rm_cost_0 (by decide) ?_
  refine x_istore_n C0 d_Rm_cost_1 rfl (by decide) (lv' := [(2, .int (0 : Int32)), (0, .ref (m_b G + l0)), (1, .int l1)]) rfl ?_
  refine x_iconst (v := 0) C0 d_Rm_cost_2 (by decide) ?_
  refine x_istore_n C0 d_Rm_cost_3 rfl (by decide) (lv' := [(3, .int (0 : Int32)), (2, .int (0 : Int32)), (0, .ref (m_b G + l0)), (1, .int l1)]) rfl ?_
  exact x_sub [2, 3, 1, 0] rfl (t_Rm_cost_4 G C0 hR hr hlk  _ _ _ _ _ hwp)
set_option maxRecDepth 100000 in
set_option maxHeartbeats 4000000 in
theorem c_Rm_cost (l : Launch) (G : mG) {Post : Int32 → MH → Prop} {l0 : Nat} {l1 : Int32} {h : MH} (hwp : wp_Rm_cost Post l0 l1 h) : Met l y_Rm_cost (Cond.code y_Rm_cost prog_8_method_37_code 4 (Option.some Jvm.ClassFile.FieldType.int) :: lw_good) ({ frames := 1, cells := 0, slots := 0, locals := 21 }) (va_Pc [.ref (m_b G + l0), .int l1] (Wd G h)) (va_Qi Post (Wd G) (mA G)) 0 0 (mA G) := by
  refine Met.ofW (cc := prog_8_method_37_code) (maxL := 4) (ret := (Option.some Jvm.ClassFile.FieldType.int)) (by decide +kernel) rfl ?_
  intro p e s m args below meth c s₁ B hml hv
  obtain ⟨rfl, hP, hz, hK, hSt⟩ := hv
  have hts := atoms_spec (ws := Cond.code y_Rm_cost prog_8_method_37_code 4 (Option.some Jvm.ClassFile.FieldType.int) :: lw_good) B.pre
  have C0 : Cx G p s m ([.ref (m_b G + l0), .int l1] : List Value).toArray c prog_8_method_37_code 4 "BassRealiserModel" := ⟨⟨B.exec, B.bytes, hml, findClass_of_methodNamed B.named, fun w h => hts w (List.mem_cons_of_mem _ h)⟩, hK, hSt, by rw [hz]; exact Nat.le_add_right _ _⟩
  have hl := lv_entry ([.ref (m_b G + l0), .int l1]) (n := 4) (Nat.le_of_ble_eq_true rfl)
  rw [lg_entry_eq]
  exact t_Rm_cost G C0 ⟨Nat.le_refl _, Nat.le_refl _, Nat.le_refl _, Nat.le_refl _⟩ B.returns B.notSynchronized _ _ _ hwp _ _ _ ⟨hP, hz, va_S.rf⟩ hl
