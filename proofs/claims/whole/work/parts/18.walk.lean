theorem d_Rm_layBack_0 : decode prog_8_method_39_code 0 = .ok (.aload_n 0, 1) := by decide +kernel
theorem d_Rm_layBack_1 : decode prog_8_method_39_code 1 = .ok (.getfield 79, 3) := by decide +kernel
theorem d_Rm_layBack_4 : decode prog_8_method_39_code 4 = .ok (.iconst 1, 1) := by decide +kernel
theorem d_Rm_layBack_5 : decode prog_8_method_39_code 5 = .ok (.isub, 1) := by decide +kernel
theorem d_Rm_layBack_6 : decode prog_8_method_39_code 6 = .ok (.istore_n 1, 1) := by decide +kernel
theorem d_Rm_layBack_7 : decode prog_8_method_39_code 7 = .ok (.iload_n 1, 1) := by decide +kernel
theorem d_Rm_layBack_8 : decode prog_8_method_39_code 8 = .ok (.ifCond .lt 211, 3) := by decide +kernel
theorem d_Rm_layBack_11 : decode prog_8_method_39_code 11 = .ok (.iconst 0, 1) := by decide +kernel
theorem d_Rm_layBack_12 : decode prog_8_method_39_code 12 = .ok (.istore_n 2, 1) := by decide +kernel
theorem d_Rm_layBack_13 : decode prog_8_method_39_code 13 = .ok (.iload_n 2, 1) := by decide +kernel
theorem d_Rm_layBack_14 : decode prog_8_method_39_code 14 = .ok (.aload_n 0, 1) := by decide +kernel
theorem d_Rm_layBack_15 : decode prog_8_method_39_code 15 = .ok (.getfield 66, 3) := by decide +kernel
theorem d_Rm_layBack_18 : decode prog_8_method_39_code 18 = .ok (.iload_n 1, 1) := by decide +kernel
theorem d_Rm_layBack_19 : decode prog_8_method_39_code 19 = .ok (.iaload, 1) := by decide +kernel
theorem d_Rm_layBack_20 : decode prog_8_method_39_code 20 = .ok (.if_icmp .ge 193, 3) := by decide +kernel
theorem d_Rm_layBack_23 : decode prog_8_method_39_code 23 = .ok (.aload_n 0, 1) := by decide +kernel
theorem d_Rm_layBack_24 : decode prog_8_method_39_code 24 = .ok (.getfield 69, 3) := by decide +kernel
theorem d_Rm_layBack_27 : decode prog_8_method_39_code 27 = .ok (.sipush 800, 3) := by decide +kernel
theorem d_Rm_layBack_30 : decode prog_8_method_39_code 30 = .ok (.iload_n 1, 1) := by decide +kernel
theorem d_Rm_layBack_31 : decode prog_8_method_39_code 31 = .ok (.imul, 1) := by decide +kernel
theorem d_Rm_layBack_32 : decode prog_8_method_39_code 32 = .ok (.iload_n 2, 1) := by decide +kernel
theorem d_Rm_layBack_33 : decode prog_8_method_39_code 33 = .ok (.iadd, 1) := by decide +kernel
theorem d_Rm_layBack_34 : decode prog_8_method_39_code 34 = .ok (.iload_n 1, 1) := by decide +kernel
theorem d_Rm_layBack_35 : decode prog_8_method_39_code 35 = .ok (.aload_n 0, 1) := by decide +kernel
theorem d_Rm_layBack_36 : decode prog_8_method_39_code 36 = .ok (.getfield 79, 3) := by decide +kernel
theorem d_Rm_layBack_39 : decode prog_8_method_39_code 39 = .ok (.iconst 1, 1) := by decide +kernel
theorem d_Rm_layBack_40 : decode prog_8_method_39_code 40 = .ok (.isub, 1) := by decide +kernel
theorem d_Rm_layBack_41 : decode prog_8_method_39_code 41 = .ok (.if_icmp .ne 7, 3) := by decide +kernel
theorem d_Rm_layBack_44 : decode prog_8_method_39_code 44 = .ok (.iconst 0, 1) := by decide +kernel
theorem d_Rm_layBack_45 : decode prog_8_method_39_code 45 = .ok (.goto 5, 3) := by decide +kernel
theorem d_Rm_layBack_48 : decode prog_8_method_39_code 48 = .ok (.ldc 195, 2) := by decide +kernel
theorem d_Rm_layBack_50 : decode prog_8_method_39_code 50 = .ok (.iastore, 1) := by decide +kernel
theorem d_Rm_layBack_51 : decode prog_8_method_39_code 51 = .ok (.iconst 0, 1) := by decide +kernel
theorem d_Rm_layBack_52 : decode prog_8_method_39_code 52 = .ok (.istore_n 3, 1) := by decide +kernel
theorem d_Rm_layBack_53 : decode prog_8_method_39_code 53 = .ok (.iload_n 1, 1) := by decide +kernel
theorem d_Rm_layBack_54 : decode prog_8_method_39_code 54 = .ok (.aload_n 0, 1) := by decide +kernel
theorem d_Rm_layBack_55 : decode prog_8_method_39_code 55 = .ok (.getfield 79, 3) := by decide +kernel
theorem d_Rm_layBack_58 : decode prog_8_method_39_code 58 = .ok (.iconst 1, 1) := by decide +kernel
theorem d_Rm_layBack_59 : decode prog_8_method_39_code 59 = .ok (.isub, 1) := by decide +kernel
theorem d_Rm_layBack_60 : decode prog_8_method_39_code 60 = .ok (.if_icmp .ge 147, 3) := by decide +kernel
theorem d_Rm_layBack_63 : decode prog_8_method_39_code 63 = .ok (.iload_n 3, 1) := by decide +kernel
theorem d_Rm_layBack_64 : decode prog_8_method_39_code 64 = .ok (.aload_n 0, 1) := by decide +kernel
theorem d_Rm_layBack_65 : decode prog_8_method_39_code 65 = .ok (.getfield 66, 3) := by decide +kernel
theorem d_Rm_layBack_68 : decode prog_8_method_39_code 68 = .ok (.iload_n 1, 1) := by decide +kernel
theorem d_Rm_layBack_69 : decode prog_8_method_39_code 69 = .ok (.iconst 1, 1) := by decide +kernel
theorem d_Rm_layBack_70 : decode prog_8_method_39_code 70 = .ok (.iadd, 1) := by decide +kernel
theorem d_Rm_layBack_71 : decode prog_8_method_39_code 71 = .ok (.iaload, 1) := by decide +kernel
theorem d_Rm_layBack_72 : decode prog_8_method_39_code 72 = .ok (.if_icmp .ge 135, 3) := by decide +kernel
theorem d_Rm_layBack_75 : decode prog_8_method_39_code 75 = .ok (.aload_n 0, 1) := by decide +kernel
theorem d_Rm_layBack_76 : decode prog_8_method_39_code 76 = .ok (.getfield 69, 3) := by decide +kernel
theorem d_Rm_layBack_79 : decode prog_8_method_39_code 79 = .ok (.sipush 800, 3) := by decide +kernel
theorem d_Rm_layBack_82 : decode prog_8_method_39_code 82 = .ok (.iload_n 1, 1) := by decide +kernel
theorem d_Rm_layBack_83 : decode prog_8_method_39_code 83 = .ok (.iconst 1, 1) := by decide +kernel
theorem d_Rm_layBack_84 : decode prog_8_method_39_code 84 = .ok (.iadd, 1) := by decide +kernel
theorem d_Rm_layBack_85 : decode prog_8_method_39_code 85 = .ok (.imul, 1) := by decide +kernel
theorem d_Rm_layBack_86 : decode prog_8_method_39_code 86 = .ok (.iload_n 3, 1) := by decide +kernel
theorem d_Rm_layBack_87 : decode prog_8_method_39_code 87 = .ok (.iadd, 1) := by decide +kernel
theorem d_Rm_layBack_88 : decode prog_8_method_39_code 88 = .ok (.iaload, 1) := by decide +kernel
theorem d_Rm_layBack_89 : decode prog_8_method_39_code 89 = .ok (.ldc 195, 2) := by decide +kernel
theorem d_Rm_layBack_91 : decode prog_8_method_39_code 91 = .ok (.if_icmp .ge 110, 3) := by decide +kernel
theorem d_Rm_layBack_94 : decode prog_8_method_39_code 94 = .ok (.aload_n 0, 1) := by decide +kernel
theorem d_Rm_layBack_95 : decode prog_8_method_39_code 95 = .ok (.iload_n 1, 1) := by decide +kernel
theorem d_Rm_layBack_96 : decode prog_8_method_39_code 96 = .ok (.iload_n 2, 1) := by decide +kernel
theorem d_Rm_layBack_97 : decode prog_8_method_39_code 97 = .ok (.aload_n 0, 1) := by decide +kernel
theorem d_Rm_layBack_98 : decode prog_8_method_39_code 98 = .ok (.getfield 51, 3) := by decide +kernel
theorem d_Rm_layBack_101 : decode prog_8_method_39_code 101 = .ok (.invokevirtual 183, 3) := by decide +kernel
theorem d_Rm_layBack_104 : decode prog_8_method_39_code 104 = .ok (.aload_n 0, 1) := by decide +kernel
theorem d_Rm_layBack_105 : decode prog_8_method_39_code 105 = .ok (.iload_n 1, 1) := by decide +kernel
theorem d_Rm_layBack_106 : decode prog_8_method_39_code 106 = .ok (.iconst 1, 1) := by decide +kernel
theorem d_Rm_layBack_107 : decode prog_8_method_39_code 107 = .ok (.iadd, 1) := by decide +kernel
theorem d_Rm_layBack_108 : decode prog_8_method_39_code 108 = .ok (.iload_n 3, 1) := by decide +kernel
theorem d_Rm_layBack_109 : decode prog_8_method_39_code 109 = .ok (.aload_n 0, 1) := by decide +kernel
theorem d_Rm_layBack_110 : decode prog_8_method_39_code 110 = .ok (.getfield 48, 3) := by decide +kernel
theorem d_Rm_layBack_113 : decode prog_8_method_39_code 113 = .ok (.invokevirtual 183, 3) := by decide +kernel
theorem d_Rm_layBack_116 : decode prog_8_method_39_code 116 = .ok (.aload_n 0, 1) := by decide +kernel
theorem d_Rm_layBack_117 : decode prog_8_method_39_code 117 = .ok (.iload_n 1, 1) := by decide +kernel
theorem d_Rm_layBack_118 : decode prog_8_method_39_code 118 = .ok (.iconst 1, 1) := by decide +kernel
theorem d_Rm_layBack_119 : decode prog_8_method_39_code 119 = .ok (.iadd, 1) := by decide +kernel
theorem d_Rm_layBack_120 : decode prog_8_method_39_code 120 = .ok (.invokevirtual 187, 3) := by decide +kernel
theorem d_Rm_layBack_123 : decode prog_8_method_39_code 123 = .ok (.ifCond .ne 28, 3) := by decide +kernel
theorem d_Rm_layBack_126 : decode prog_8_method_39_code 126 = .ok (.aload_n 0, 1) := by decide +kernel
theorem d_Rm_layBack_127 : decode prog_8_method_39_code 127 = .ok (.iload_n 1, 1) := by decide +kernel
theorem d_Rm_layBack_128 : decode prog_8_method_39_code 128 = .ok (.iconst 1, 1) := by decide +kernel
theorem d_Rm_layBack_129 : decode prog_8_method_39_code 129 = .ok (.iadd, 1) := by decide +kernel
theorem d_Rm_layBack_130 : decode prog_8_method_39_code 130 = .ok (.invokevirtual 196, 3) := by decide +kernel
theorem d_Rm_layBack_133 : decode prog_8_method_39_code 133 = .ok (.aload_n 0, 1) := by decide +kernel
theorem d_Rm_layBack_134 : decode prog_8_method_39_code 134 = .ok (.getfield 69, 3) := by decide +kernel
theorem d_Rm_layBack_137 : decode prog_8_method_39_code 137 = .ok (.sipush 800, 3) := by decide +kernel
theorem d_Rm_layBack_140 : decode prog_8_method_39_code 140 = .ok (.iload_n 1, 1) := by decide +kernel
theorem d_Rm_layBack_141 : decode prog_8_method_39_code 141 = .ok (.iconst 1, 1) := by decide +kernel
theorem d_Rm_layBack_142 : decode prog_8_method_39_code 142 = .ok (.iadd, 1) := by decide +kernel
theorem d_Rm_layBack_143 : decode prog_8_method_39_code 143 = .ok (.imul, 1) := by decide +kernel
theorem d_Rm_layBack_144 : decode prog_8_method_39_code 144 = .ok (.iload_n 3, 1) := by decide +kernel
theorem d_Rm_layBack_145 : decode prog_8_method_39_code 145 = .ok (.iadd, 1) := by decide +kernel
theorem d_Rm_layBack_146 : decode prog_8_method_39_code 146 = .ok (.iaload, 1) := by decide +kernel
theorem d_Rm_layBack_147 : decode prog_8_method_39_code 147 = .ok (.iadd, 1) := by decide +kernel
theorem d_Rm_layBack_148 : decode prog_8_method_39_code 148 = .ok (.goto 5, 3) := by decide +kernel
theorem d_Rm_layBack_151 : decode prog_8_method_39_code 151 = .ok (.ldc 195, 2) := by decide +kernel
theorem d_Rm_layBack_153 : decode prog_8_method_39_code 153 = .ok (.istore 4, 2) := by decide +kernel
theorem d_Rm_layBack_155 : decode prog_8_method_39_code 155 = .ok (.aload_n 0, 1) := by decide +kernel
theorem d_Rm_layBack_156 : decode prog_8_method_39_code 156 = .ok (.getfield 69, 3) := by decide +kernel
theorem d_Rm_layBack_159 : decode prog_8_method_39_code 159 = .ok (.sipush 800, 3) := by decide +kernel
theorem d_Rm_layBack_162 : decode prog_8_method_39_code 162 = .ok (.iload_n 1, 1) := by decide +kernel
theorem d_Rm_layBack_163 : decode prog_8_method_39_code 163 = .ok (.imul, 1) := by decide +kernel
theorem d_Rm_layBack_164 : decode prog_8_method_39_code 164 = .ok (.iload_n 2, 1) := by decide +kernel
theorem d_Rm_layBack_165 : decode prog_8_method_39_code 165 = .ok (.iadd, 1) := by decide +kernel
theorem d_Rm_layBack_166 : decode prog_8_method_39_code 166 = .ok (.iload 4, 2) := by decide +kernel
theorem d_Rm_layBack_168 : decode prog_8_method_39_code 168 = .ok (.aload_n 0, 1) := by decide +kernel
theorem d_Rm_layBack_169 : decode prog_8_method_39_code 169 = .ok (.getfield 69, 3) := by decide +kernel
theorem d_Rm_layBack_172 : decode prog_8_method_39_code 172 = .ok (.sipush 800, 3) := by decide +kernel
theorem d_Rm_layBack_175 : decode prog_8_method_39_code 175 = .ok (.iload_n 1, 1) := by decide +kernel
theorem d_Rm_layBack_176 : decode prog_8_method_39_code 176 = .ok (.imul, 1) := by decide +kernel
theorem d_Rm_layBack_177 : decode prog_8_method_39_code 177 = .ok (.iload_n 2, 1) := by decide +kernel
theorem d_Rm_layBack_178 : decode prog_8_method_39_code 178 = .ok (.iadd, 1) := by decide +kernel
theorem d_Rm_layBack_179 : decode prog_8_method_39_code 179 = .ok (.iaload, 1) := by decide +kernel
theorem d_Rm_layBack_180 : decode prog_8_method_39_code 180 = .ok (.if_icmp .ge 8, 3) := by decide +kernel
theorem d_Rm_layBack_183 : decode prog_8_method_39_code 183 = .ok (.iload 4, 2) := by decide +kernel
theorem d_Rm_layBack_185 : decode prog_8_method_39_code 185 = .ok (.goto 15, 3) := by decide +kernel
theorem d_Rm_layBack_188 : decode prog_8_method_39_code 188 = .ok (.aload_n 0, 1) := by decide +kernel
theorem d_Rm_layBack_189 : decode prog_8_method_39_code 189 = .ok (.getfield 69, 3) := by decide +kernel
theorem d_Rm_layBack_192 : decode prog_8_method_39_code 192 = .ok (.sipush 800, 3) := by decide +kernel
theorem d_Rm_layBack_195 : decode prog_8_method_39_code 195 = .ok (.iload_n 1, 1) := by decide +kernel
theorem d_Rm_layBack_196 : decode prog_8_method_39_code 196 = .ok (.imul, 1) := by decide +kernel
theorem d_Rm_layBack_197 : decode prog_8_method_39_code 197 = .ok (.iload_n 2, 1) := by decide +kernel
theorem d_Rm_layBack_198 : decode prog_8_method_39_code 198 = .ok (.iadd, 1) := by decide +kernel
theorem d_Rm_layBack_199 : decode prog_8_method_39_code 199 = .ok (.iaload, 1) := by decide +kernel
theorem d_Rm_layBack_200 : decode prog_8_method_39_code 200 = .ok (.iastore, 1) := by decide +kernel
theorem d_Rm_layBack_201 : decode prog_8_method_39_code 201 = .ok (.iinc 3 1, 3) := by decide +kernel
theorem d_Rm_layBack_204 : decode prog_8_method_39_code 204 = .ok (.goto (-151), 3) := by decide +kernel
theorem d_Rm_layBack_207 : decode prog_8_method_39_code 207 = .ok (.iinc 2 1, 3) := by decide +kernel
theorem d_Rm_layBack_210 : decode prog_8_method_39_code 210 = .ok (.goto (-197), 3) := by decide +kernel
theorem d_Rm_layBack_213 : decode prog_8_method_39_code 213 = .ok (.iinc 1 (-1), 3) := by decide +kernel
theorem d_Rm_layBack_216 : decode prog_8_method_39_code 216 = .ok (.goto (-209), 3) := by decide +kernel
theorem d_Rm_layBack_219 : decode prog_8_method_39_code 219 = .ok (.return_, 1) := by decide +kernel
theorem d_Rm_lay_0 : decode prog_8_method_38_code 0 = .ok (.aload_n 0, 1) := by decide +kernel
theorem d_Rm_lay_1 : decode prog_8_method_38_code 1 = .ok (.getfield 93, 3) := by decide +kernel
theorem d_Rm_lay_4 : decode prog_8_method_38_code 4 = .ok (.ifCond .eq 4, 3) := by decide +kernel
theorem d_Rm_lay_7 : decode prog_8_method_38_code 7 = .ok (.return_, 1) := by decide +kernel
theorem d_Rm_lay_8 : decode prog_8_method_38_code 8 = .ok (.aload_n 0, 1) := by decide +kernel
theorem d_Rm_lay_9 : decode prog_8_method_38_code 9 = .ok (.iconst 1, 1) := by decide +kernel
theorem d_Rm_lay_10 : decode prog_8_method_38_code 10 = .ok (.putfield 93, 3) := by decide +kernel
theorem d_Rm_lay_13 : decode prog_8_method_38_code 13 = .ok (.aload_n 0, 1) := by decide +kernel
theorem d_Rm_lay_14 : decode prog_8_method_38_code 14 = .ok (.iconst (-1), 1) := by decide +kernel
theorem d_Rm_lay_15 : decode prog_8_method_38_code 15 = .ok (.putfield 177, 3) := by decide +kernel
theorem d_Rm_lay_18 : decode prog_8_method_38_code 18 = .ok (.iconst 0, 1) := by decide +kernel
theorem d_Rm_lay_19 : decode prog_8_method_38_code 19 = .ok (.istore_n 1, 1) := by decide +kernel
theorem d_Rm_lay_20 : decode prog_8_method_38_code 20 = .ok (.iload_n 1, 1) := by decide +kernel
theorem d_Rm_lay_21 : decode prog_8_method_38_code 21 = .ok (.aload_n 0, 1) := by decide +kernel
theorem d_Rm_lay_22 : decode prog_8_method_38_code 22 = .ok (.getfield 79, 3) := by decide +kernel
theorem d_Rm_lay_25 : decode prog_8_method_38_code 25 = .ok (.if_icmp .ge 231, 3) := by decide +kernel
theorem d_Rm_lay_28 : decode prog_8_method_38_code 28 = .ok (.aload_n 0, 1) := by decide +kernel
theorem d_Rm_lay_29 : decode prog_8_method_38_code 29 = .ok (.iload_n 1, 1) := by decide +kernel
theorem d_Rm_lay_30 : decode prog_8_method_38_code 30 = .ok (.invokevirtual 180, 3) := by decide +kernel
theorem d_Rm_lay_33 : decode prog_8_method_38_code 33 = .ok (.iconst 0, 1) := by decide +kernel
theorem d_Rm_lay_34 : decode prog_8_method_38_code 34 = .ok (.istore_n 2, 1) := by decide +kernel
theorem d_Rm_lay_35 : decode prog_8_method_38_code 35 = .ok (.iconst 0, 1) := by decide +kernel
theorem d_Rm_lay_36 : decode prog_8_method_38_code 36 = .ok (.istore_n 3, 1) := by decide +kernel
theorem d_Rm_lay_37 : decode prog_8_method_38_code 37 = .ok (.iload_n 3, 1) := by decide +kernel
theorem d_Rm_lay_38 : decode prog_8_method_38_code 38 = .ok (.aload_n 0, 1) := by decide +kernel
theorem d_Rm_lay_39 : decode prog_8_method_38_code 39 = .ok (.getfield 66, 3) := by decide +kernel
theorem d_Rm_lay_42 : decode prog_8_method_38_code 42 = .ok (.iload_n 1, 1) := by decide +kernel
theorem d_Rm_lay_43 : decode prog_8_method_38_code 43 = .ok (.iaload, 1) := by decide +kernel
theorem d_Rm_lay_44 : decode prog_8_method_38_code 44 = .ok (.if_icmp .ge 183, 3) := by decide +kernel
theorem d_Rm_lay_47 : decode prog_8_method_38_code 47 = .ok (.aload_n 0, 1) := by decide +kernel
theorem d_Rm_lay_48 : decode prog_8_method_38_code 48 = .ok (.iload_n 1, 1) := by decide +kernel
theorem d_Rm_lay_49 : decode prog_8_method_38_code 49 = .ok (.iload_n 3, 1) := by decide +kernel
theorem d_Rm_lay_50 : decode prog_8_method_38_code 50 = .ok (.aload_n 0, 1) := by decide +kernel
theorem d_Rm_lay_51 : decode prog_8_method_38_code 51 = .ok (.getfield 48, 3) := by decide +kernel
theorem d_Rm_lay_54 : decode prog_8_method_38_code 54 = .ok (.invokevirtual 183, 3) := by decide +kernel
theorem d_Rm_lay_57 : decode prog_8_method_38_code 57 = .ok (.lconst 0, 1) := by decide +kernel
theorem d_Rm_lay_58 : decode prog_8_method_38_code 58 = .ok (.lstore 4, 2) := by decide +kernel
theorem d_Rm_lay_60 : decode prog_8_method_38_code 60 = .ok (.iload_n 1, 1) := by decide +kernel
theorem d_Rm_lay_61 : decode prog_8_method_38_code 61 = .ok (.ifCond .ne 18, 3) := by decide +kernel
theorem d_Rm_lay_64 : decode prog_8_method_38_code 64 = .ok (.aload_n 0, 1) := by decide +kernel
theorem d_Rm_lay_65 : decode prog_8_method_38_code 65 = .ok (.iconst 0, 1) := by decide +kernel
theorem d_Rm_lay_66 : decode prog_8_method_38_code 66 = .ok (.invokevirtual 187, 3) := by decide +kernel
theorem d_Rm_lay_69 : decode prog_8_method_38_code 69 = .ok (.ifCond .ne 7, 3) := by decide +kernel
theorem d_Rm_lay_72 : decode prog_8_method_38_code 72 = .ok (.lconst 1, 1) := by decide +kernel
theorem d_Rm_lay_73 : decode prog_8_method_38_code 73 = .ok (.goto 4, 3) := by decide +kernel
theorem d_Rm_lay_76 : decode prog_8_method_38_code 76 = .ok (.lconst 0, 1) := by decide +kernel
theorem d_Rm_lay_77 : decode prog_8_method_38_code 77 = .ok (.lstore 4, 2) := by decide +kernel
theorem d_Rm_lay_79 : decode prog_8_method_38_code 79 = .ok (.iconst 0, 1) := by decide +kernel
theorem d_Rm_lay_80 : decode prog_8_method_38_code 80 = .ok (.istore 6, 2) := by decide +kernel
theorem d_Rm_lay_82 : decode prog_8_method_38_code 82 = .ok (.iload 6, 2) := by decide +kernel
theorem d_Rm_lay_84 : decode prog_8_method_38_code 84 = .ok (.iload_n 1, 1) := by decide +kernel
theorem d_Rm_lay_85 : decode prog_8_method_38_code 85 = .ok (.ifCond .ne 7, 3) := by decide +kernel
theorem d_Rm_lay_88 : decode prog_8_method_38_code 88 = .ok (.iconst 0, 1) := by decide +kernel
theorem d_Rm_lay_89 : decode prog_8_method_38_code 89 = .ok (.goto 11, 3) := by decide +kernel
theorem d_Rm_lay_92 : decode prog_8_method_38_code 92 = .ok (.aload_n 0, 1) := by decide +kernel
theorem d_Rm_lay_93 : decode prog_8_method_38_code 93 = .ok (.getfield 66, 3) := by decide +kernel
theorem d_Rm_lay_96 : decode prog_8_method_38_code 96 = .ok (.iload_n 1, 1) := by decide +kernel
theorem d_Rm_lay_97 : decode prog_8_method_38_code 97 = .ok (.iconst 1, 1) := by decide +kernel
theorem d_Rm_lay_98 : decode prog_8_method_38_code 98 = .ok (.isub, 1) := by decide +kernel
theorem d_Rm_lay_99 : decode prog_8_method_38_code 99 = .ok (.iaload, 1) := by decide +kernel
theorem d_Rm_lay_100 : decode prog_8_method_38_code 100 = .ok (.if_icmp .ge 75, 3) := by decide +kernel
theorem d_Rm_lay_103 : decode prog_8_method_38_code 103 = .ok (.aload_n 0, 1) := by decide +kernel
theorem d_Rm_lay_104 : decode prog_8_method_38_code 104 = .ok (.getfield 72, 3) := by decide +kernel
theorem d_Rm_lay_107 : decode prog_8_method_38_code 107 = .ok (.sipush 800, 3) := by decide +kernel
theorem d_Rm_lay_110 : decode prog_8_method_38_code 110 = .ok (.iload_n 1, 1) := by decide +kernel
theorem d_Rm_lay_111 : decode prog_8_method_38_code 111 = .ok (.iconst 1, 1) := by decide +kernel
theorem d_Rm_lay_112 : decode prog_8_method_38_code 112 = .ok (.isub, 1) := by decide +kernel
theorem d_Rm_lay_113 : decode prog_8_method_38_code 113 = .ok (.imul, 1) := by decide +kernel
theorem d_Rm_lay_114 : decode prog_8_method_38_code 114 = .ok (.iload 6, 2) := by decide +kernel
theorem d_Rm_lay_116 : decode prog_8_method_38_code 116 = .ok (.iadd, 1) := by decide +kernel
theorem d_Rm_lay_117 : decode prog_8_method_38_code 117 = .ok (.laload, 1) := by decide +kernel
theorem d_Rm_lay_118 : decode prog_8_method_38_code 118 = .ok (.lconst 0, 1) := by decide +kernel
theorem d_Rm_lay_119 : decode prog_8_method_38_code 119 = .ok (.lcmp, 1) := by decide +kernel
theorem d_Rm_lay_120 : decode prog_8_method_38_code 120 = .ok (.ifCond .le 49, 3) := by decide +kernel
theorem d_Rm_lay_123 : decode prog_8_method_38_code 123 = .ok (.aload_n 0, 1) := by decide +kernel
theorem d_Rm_lay_124 : decode prog_8_method_38_code 124 = .ok (.iload_n 1, 1) := by decide +kernel
theorem d_Rm_lay_125 : decode prog_8_method_38_code 125 = .ok (.iconst 1, 1) := by decide +kernel
theorem d_Rm_lay_126 : decode prog_8_method_38_code 126 = .ok (.isub, 1) := by decide +kernel
theorem d_Rm_lay_127 : decode prog_8_method_38_code 127 = .ok (.iload 6, 2) := by decide +kernel
theorem d_Rm_lay_129 : decode prog_8_method_38_code 129 = .ok (.aload_n 0, 1) := by decide +kernel
theorem d_Rm_lay_130 : decode prog_8_method_38_code 130 = .ok (.getfield 51, 3) := by decide +kernel
theorem d_Rm_lay_133 : decode prog_8_method_38_code 133 = .ok (.invokevirtual 183, 3) := by decide +kernel
theorem d_Rm_lay_136 : decode prog_8_method_38_code 136 = .ok (.aload_n 0, 1) := by decide +kernel
theorem d_Rm_lay_137 : decode prog_8_method_38_code 137 = .ok (.iload_n 1, 1) := by decide +kernel
theorem d_Rm_lay_138 : decode prog_8_method_38_code 138 = .ok (.invokevirtual 187, 3) := by decide +kernel
theorem d_Rm_lay_141 : decode prog_8_method_38_code 141 = .ok (.ifCond .ne 24, 3) := by decide +kernel
theorem d_Rm_lay_144 : decode prog_8_method_38_code 144 = .ok (.lload 4, 2) := by decide +kernel
theorem d_Rm_lay_146 : decode prog_8_method_38_code 146 = .ok (.aload_n 0, 1) := by decide +kernel
theorem d_Rm_lay_147 : decode prog_8_method_38_code 147 = .ok (.getfield 72, 3) := by decide +kernel
theorem d_Rm_lay_150 : decode prog_8_method_38_code 150 = .ok (.sipush 800, 3) := by decide +kernel
theorem d_Rm_lay_153 : decode prog_8_method_38_code 153 = .ok (.iload_n 1, 1) := by decide +kernel
theorem d_Rm_lay_154 : decode prog_8_method_38_code 154 = .ok (.iconst 1, 1) := by decide +kernel
theorem d_Rm_lay_155 : decode prog_8_method_38_code 155 = .ok (.isub, 1) := by decide +kernel
theorem d_Rm_lay_156 : decode prog_8_method_38_code 156 = .ok (.imul, 1) := by decide +kernel
theorem d_Rm_lay_157 : decode prog_8_method_38_code 157 = .ok (.iload 6, 2) := by decide +kernel
theorem d_Rm_lay_159 : decode prog_8_method_38_code 159 = .ok (.iadd, 1) := by decide +kernel
theorem d_Rm_lay_160 : decode prog_8_method_38_code 160 = .ok (.laload, 1) := by decide +kernel
theorem d_Rm_lay_161 : decode prog_8_method_38_code 161 = .ok (.ladd, 1) := by decide +kernel
theorem d_Rm_lay_162 : decode prog_8_method_38_code 162 = .ok (.goto 5, 3) := by decide +kernel
theorem d_Rm_lay_165 : decode prog_8_method_38_code 165 = .ok (.lload 4, 2) := by decide +kernel
theorem d_Rm_lay_167 : decode prog_8_method_38_code 167 = .ok (.lstore 4, 2) := by decide +kernel
theorem d_Rm_lay_169 : decode prog_8_method_38_code 169 = .ok (.iinc 6 1, 3) := by decide +kernel
theorem d_Rm_lay_172 : decode prog_8_method_38_code 172 = .ok (.goto (-90), 3) := by decide +kernel
theorem d_Rm_lay_175 : decode prog_8_method_38_code 175 = .ok (.aload_n 0, 1) := by decide +kernel
theorem d_Rm_lay_176 : decode prog_8_method_38_code 176 = .ok (.getfield 72, 3) := by decide +kernel
theorem d_Rm_lay_179 : decode prog_8_method_38_code 179 = .ok (.sipush 800, 3) := by decide +kernel
theorem d_Rm_lay_182 : decode prog_8_method_38_code 182 = .ok (.iload_n 1, 1) := by decide +kernel
theorem d_Rm_lay_183 : decode prog_8_method_38_code 183 = .ok (.imul, 1) := by decide +kernel
theorem d_Rm_lay_184 : decode prog_8_method_38_code 184 = .ok (.iload_n 3, 1) := by decide +kernel
theorem d_Rm_lay_185 : decode prog_8_method_38_code 185 = .ok (.iadd, 1) := by decide +kernel
theorem d_Rm_lay_186 : decode prog_8_method_38_code 186 = .ok (.lload 4, 2) := by decide +kernel
theorem d_Rm_lay_188 : decode prog_8_method_38_code 188 = .ok (.ldc2_w 190, 3) := by decide +kernel
theorem d_Rm_lay_191 : decode prog_8_method_38_code 191 = .ok (.lcmp, 1) := by decide +kernel
theorem d_Rm_lay_192 : decode prog_8_method_38_code 192 = .ok (.ifCond .le 9, 3) := by decide +kernel
theorem d_Rm_lay_195 : decode prog_8_method_38_code 195 = .ok (.ldc2_w 190, 3) := by decide +kernel
theorem d_Rm_lay_198 : decode prog_8_method_38_code 198 = .ok (.goto 5, 3) := by decide +kernel
theorem d_Rm_lay_201 : decode prog_8_method_38_code 201 = .ok (.lload 4, 2) := by decide +kernel
theorem d_Rm_lay_203 : decode prog_8_method_38_code 203 = .ok (.lastore, 1) := by decide +kernel
theorem d_Rm_lay_204 : decode prog_8_method_38_code 204 = .ok (.iload_n 2, 1) := by decide +kernel
theorem d_Rm_lay_205 : decode prog_8_method_38_code 205 = .ok (.ifCond .ne 10, 3) := by decide +kernel
theorem d_Rm_lay_208 : decode prog_8_method_38_code 208 = .ok (.lload 4, 2) := by decide +kernel
theorem d_Rm_lay_210 : decode prog_8_method_38_code 210 = .ok (.lconst 0, 1) := by decide +kernel
theorem d_Rm_lay_211 : decode prog_8_method_38_code 211 = .ok (.lcmp, 1) := by decide +kernel
theorem d_Rm_lay_212 : decode prog_8_method_38_code 212 = .ok (.ifCond .le 7, 3) := by decide +kernel
theorem d_Rm_lay_215 : decode prog_8_method_38_code 215 = .ok (.iconst 1, 1) := by decide +kernel
theorem d_Rm_lay_216 : decode prog_8_method_38_code 216 = .ok (.goto 4, 3) := by decide +kernel
theorem d_Rm_lay_219 : decode prog_8_method_38_code 219 = .ok (.iconst 0, 1) := by decide +kernel
theorem d_Rm_lay_220 : decode prog_8_method_38_code 220 = .ok (.istore_n 2, 1) := by decide +kernel
theorem d_Rm_lay_221 : decode prog_8_method_38_code 221 = .ok (.iinc 3 1, 3) := by decide +kernel
theorem d_Rm_lay_224 : decode prog_8_method_38_code 224 = .ok (.goto (-187), 3) := by decide +kernel
theorem d_Rm_lay_227 : decode prog_8_method_38_code 227 = .ok (.aload_n 0, 1) := by decide +kernel
theorem d_Rm_lay_228 : decode prog_8_method_38_code 228 = .ok (.iload_n 2, 1) := by decide +kernel
theorem d_Rm_lay_229 : decode prog_8_method_38_code 229 = .ok (.ifCond .ne 14, 3) := by decide +kernel
theorem d_Rm_lay_232 : decode prog_8_method_38_code 232 = .ok (.aload_n 0, 1) := by decide +kernel
theorem d_Rm_lay_233 : decode prog_8_method_38_code 233 = .ok (.getfield 177, 3) := by decide +kernel
theorem d_Rm_lay_236 : decode prog_8_method_38_code 236 = .ok (.ifCond .ge 7, 3) := by decide +kernel
theorem d_Rm_lay_239 : decode prog_8_method_38_code 239 = .ok (.iload_n 1, 1) := by decide +kernel
theorem d_Rm_lay_240 : decode prog_8_method_38_code 240 = .ok (.goto 7, 3) := by decide +kernel
theorem d_Rm_lay_243 : decode prog_8_method_38_code 243 = .ok (.aload_n 0, 1) := by decide +kernel
theorem d_Rm_lay_244 : decode prog_8_method_38_code 244 = .ok (.getfield 177, 3) := by decide +kernel
theorem d_Rm_lay_247 : decode prog_8_method_38_code 247 = .ok (.putfield 177, 3) := by decide +kernel
theorem d_Rm_lay_250 : decode prog_8_method_38_code 250 = .ok (.iinc 1 1, 3) := by decide +kernel
theorem d_Rm_lay_253 : decode prog_8_method_38_code 253 = .ok (.goto (-233), 3) := by decide +kernel
theorem d_Rm_lay_256 : decode prog_8_method_38_code 256 = .ok (.aload_n 0, 1) := by decide +kernel
theorem d_Rm_lay_257 : decode prog_8_method_38_code 257 = .ok (.invokevirtual 192, 3) := by decide +kernel
theorem d_Rm_lay_260 : decode prog_8_method_38_code 260 = .ok (.return_, 1) := by decide +kernel
theorem d_Rm_voicings_0 : decode prog_8_method_40_code 0 = .ok (.aload_n 0, 1) := by decide +kernel
theorem d_Rm_voicings_1 : decode prog_8_method_40_code 1 = .ok (.iconst 0, 1) := by decide +kernel
theorem d_Rm_voicings_2 : decode prog_8_method_40_code 2 = .ok (.putfield 1, 3) := by decide +kernel
theorem d_Rm_voicings_5 : decode prog_8_method_40_code 5 = .ok (.aload_n 0, 1) := by decide +kernel
theorem d_Rm_voicings_6 : decode prog_8_method_40_code 6 = .ok (.iload_n 1, 1) := by decide +kernel
theorem d_Rm_voicings_7 : decode prog_8_method_40_code 7 = .ok (.invokevirtual 103, 3) := by decide +kernel
theorem d_Rm_voicings_10 : decode prog_8_method_40_code 10 = .ok (.ifCond .eq 5, 3) := by decide +kernel
theorem d_Rm_voicings_13 : decode prog_8_method_40_code 13 = .ok (.iconst (-1), 1) := by decide +kernel
theorem d_Rm_voicings_14 : decode prog_8_method_40_code 14 = .ok (.ireturn, 1) := by decide +kernel
theorem d_Rm_voicings_15 : decode prog_8_method_40_code 15 = .ok (.aload_n 0, 1) := by decide +kernel
theorem d_Rm_voicings_16 : decode prog_8_method_40_code 16 = .ok (.invokevirtual 199, 3) := by decide +kernel
theorem d_Rm_voicings_19 : decode prog_8_method_40_code 19 = .ok (.aload_n 0, 1) := by decide +kernel
theorem d_Rm_voicings_20 : decode prog_8_method_40_code 20 = .ok (.getfield 66, 3) := by decide +kernel
theorem d_Rm_voicings_23 : decode prog_8_method_40_code 23 = .ok (.iload_n 1, 1) := by decide +kernel
theorem d_Rm_voicings_24 : decode prog_8_method_40_code 24 = .ok (.iaload, 1) := by decide +kernel
theorem d_Rm_voicings_25 : decode prog_8_method_40_code 25 = .ok (.ireturn, 1) := by decide +kernel
theorem d_Br_voicing_0 : decode prog_1_method_14_code 0 = .ok (.aload_n 0, 1) := by decide +kernel
theorem d_Br_voicing_1 : decode prog_1_method_14_code 1 = .ok (.iload_n 1, 1) := by decide +kernel
theorem d_Br_voicing_2 : decode prog_1_method_14_code 2 = .ok (.invokevirtual 62, 3) := by decide +kernel
theorem d_Br_voicing_5 : decode prog_1_method_14_code 5 = .ok (.ifCond .eq 10, 3) := by decide +kernel
theorem d_Br_voicing_8 : decode prog_1_method_14_code 8 = .ok (.iload_n 3, 1) := by decide +kernel
theorem d_Br_voicing_9 : decode prog_1_method_14_code 9 = .ok (.invokestatic 88, 3) := by decide +kernel
theorem d_Br_voicing_12 : decode prog_1_method_14_code 12 = .ok (.ifCond .ne 5, 3) := by decide +kernel
theorem d_Br_voicing_15 : decode prog_1_method_14_code 15 = .ok (.iconst (-1), 1) := by decide +kernel
theorem d_Br_voicing_16 : decode prog_1_method_14_code 16 = .ok (.ireturn, 1) := by decide +kernel
theorem d_Br_voicing_17 : decode prog_1_method_14_code 17 = .ok (.aload_n 0, 1) := by decide +kernel
theorem d_Br_voicing_18 : decode prog_1_method_14_code 18 = .ok (.getfield 10, 3) := by decide +kernel
theorem d_Br_voicing_21 : decode prog_1_method_14_code 21 = .ok (.iload_n 1, 1) := by decide +kernel
theorem d_Br_voicing_22 : decode prog_1_method_14_code 22 = .ok (.invokevirtual 123, 3) := by decide +kernel
theorem d_Br_voicing_25 : decode prog_1_method_14_code 25 = .ok (.astore 4, 2) := by decide +kernel
theorem d_Br_voicing_27 : decode prog_1_method_14_code 27 = .ok (.iload_n 2, 1) := by decide +kernel
theorem d_Br_voicing_28 : decode prog_1_method_14_code 28 = .ok (.iconst 0, 1) := by decide +kernel
theorem d_Br_voicing_29 : decode prog_1_method_14_code 29 = .ok (.aload 4, 2) := by decide +kernel
theorem d_Br_voicing_31 : decode prog_1_method_14_code 31 = .ok (.getfield 127, 3) := by decide +kernel
theorem d_Br_voicing_34 : decode prog_1_method_14_code 34 = .ok (.iconst 1, 1) := by decide +kernel
theorem d_Br_voicing_35 : decode prog_1_method_14_code 35 = .ok (.isub, 1) := by decide +kernel
theorem d_Br_voicing_36 : decode prog_1_method_14_code 36 = .ok (.invokestatic 37, 3) := by decide +kernel
theorem d_Br_voicing_39 : decode prog_1_method_14_code 39 = .ok (.ifCond .eq 17, 3) := by decide +kernel
theorem d_Br_voicing_42 : decode prog_1_method_14_code 42 = .ok (.aload 4, 2) := by decide +kernel
theorem d_Br_voicing_44 : decode prog_1_method_14_code 44 = .ok (.getfield 130, 3) := by decide +kernel
theorem d_Br_voicing_47 : decode prog_1_method_14_code 47 = .ok (.iload_n 2, 1) := by decide +kernel
theorem d_Br_voicing_48 : decode prog_1_method_14_code 48 = .ok (.iaload, 1) := by decide +kernel
theorem d_Br_voicing_49 : decode prog_1_method_14_code 49 = .ok (.iload_n 3, 1) := by decide +kernel
theorem d_Br_voicing_50 : decode prog_1_method_14_code 50 = .ok (.invokestatic 133, 3) := by decide +kernel
theorem d_Br_voicing_53 : decode prog_1_method_14_code 53 = .ok (.goto 4, 3) := by decide +kernel
theorem d_Br_voicing_56 : decode prog_1_method_14_code 56 = .ok (.iconst (-1), 1) := by decide +kernel
theorem d_Br_voicing_57 : decode prog_1_method_14_code 57 = .ok (.ireturn, 1) := by decide +kernel
theorem d_Rm_voicing_0 : decode prog_8_method_41_code 0 = .ok (.aload_n 0, 1) := by decide +kernel
theorem d_Rm_voicing_1 : decode prog_8_method_41_code 1 = .ok (.iconst 0, 1) := by decide +kernel
theorem d_Rm_voicing_2 : decode prog_8_method_41_code 2 = .ok (.putfield 1, 3) := by decide +kernel
theorem d_Rm_voicing_5 : decode prog_8_method_41_code 5 = .ok (.aload_n 0, 1) := by decide +kernel
theorem d_Rm_voicing_6 : decode prog_8_method_41_code 6 = .ok (.iload_n 1, 1) := by decide +kernel
theorem d_Rm_voicing_7 : decode prog_8_method_41_code 7 = .ok (.invokevirtual 103, 3) := by decide +kernel
theorem d_Rm_voicing_10 : decode prog_8_method_41_code 10 = .ok (.ifCond .ne 15, 3) := by decide +kernel
theorem d_Rm_voicing_13 : decode prog_8_method_41_code 13 = .ok (.iload_n 3, 1) := by decide +kernel
theorem d_Rm_voicing_14 : decode prog_8_method_41_code 14 = .ok (.i2l, 1) := by decide +kernel
theorem d_Rm_voicing_15 : decode prog_8_method_41_code 15 = .ok (.lconst 0, 1) := by decide +kernel
theorem d_Rm_voicing_16 : decode prog_8_method_41_code 16 = .ok (.ldc2_w 107, 3) := by decide +kernel
theorem d_Rm_voicing_19 : decode prog_8_method_41_code 19 = .ok (.invokestatic 82, 3) := by decide +kernel
theorem d_Rm_voicing_22 : decode prog_8_method_41_code 22 = .ok (.ifCond .ne 5, 3) := by decide +kernel
theorem d_Rm_voicing_25 : decode prog_8_method_41_code 25 = .ok (.iconst (-1), 1) := by decide +kernel
theorem d_Rm_voicing_26 : decode prog_8_method_41_code 26 = .ok (.ireturn, 1) := by decide +kernel
theorem d_Rm_voicing_27 : decode prog_8_method_41_code 27 = .ok (.aload_n 0, 1) := by decide +kernel
theorem d_Rm_voicing_28 : decode prog_8_method_41_code 28 = .ok (.invokevirtual 199, 3) := by decide +kernel
theorem d_Rm_voicing_31 : decode prog_8_method_41_code 31 = .ok (.iload_n 2, 1) := by decide +kernel
theorem d_Rm_voicing_32 : decode prog_8_method_41_code 32 = .ok (.i2l, 1) := by decide +kernel
theorem d_Rm_voicing_33 : decode prog_8_method_41_code 33 = .ok (.lconst 0, 1) := by decide +kernel
theorem d_Rm_voicing_34 : decode prog_8_method_41_code 34 = .ok (.aload_n 0, 1) := by decide +kernel
theorem d_Rm_voicing_35 : decode prog_8_method_41_code 35 = .ok (.getfield 66, 3) := by decide +kernel
theorem d_Rm_voicing_38 : decode prog_8_method_41_code 38 = .ok (.iload_n 1, 1) := by decide +kernel
theorem d_Rm_voicing_39 : decode prog_8_method_41_code 39 = .ok (.iaload, 1) := by decide +kernel
theorem d_Rm_voicing_40 : decode prog_8_method_41_code 40 = .ok (.iconst 1, 1) := by decide +kernel
theorem d_Rm_voicing_41 : decode prog_8_method_41_code 41 = .ok (.isub, 1) := by decide +kernel
theorem d_Rm_voicing_42 : decode prog_8_method_41_code 42 = .ok (.i2l, 1) := by decide +kernel
theorem d_Rm_voicing_43 : decode prog_8_method_41_code 43 = .ok (.invokestatic 82, 3) := by decide +kernel
theorem d_Rm_voicing_46 : decode prog_8_method_41_code 46 = .ok (.ifCond .eq 22, 3) := by decide +kernel
theorem d_Rm_voicing_49 : decode prog_8_method_41_code 49 = .ok (.aload_n 0, 1) := by decide +kernel
theorem d_Rm_voicing_50 : decode prog_8_method_41_code 50 = .ok (.getfield 63, 3) := by decide +kernel
theorem d_Rm_voicing_53 : decode prog_8_method_41_code 53 = .ok (.iconst 3, 1) := by decide +kernel
theorem d_Rm_voicing_54 : decode prog_8_method_41_code 54 = .ok (.sipush 800, 3) := by decide +kernel
theorem d_Rm_voicing_57 : decode prog_8_method_41_code 57 = .ok (.iload_n 1, 1) := by decide +kernel
theorem d_Rm_voicing_58 : decode prog_8_method_41_code 58 = .ok (.imul, 1) := by decide +kernel
theorem d_Rm_voicing_59 : decode prog_8_method_41_code 59 = .ok (.iload_n 2, 1) := by decide +kernel
theorem d_Rm_voicing_60 : decode prog_8_method_41_code 60 = .ok (.iadd, 1) := by decide +kernel
theorem d_Rm_voicing_61 : decode prog_8_method_41_code 61 = .ok (.imul, 1) := by decide +kernel
theorem d_Rm_voicing_62 : decode prog_8_method_41_code 62 = .ok (.iload_n 3, 1) := by decide +kernel
theorem d_Rm_voicing_63 : decode prog_8_method_41_code 63 = .ok (.iadd, 1) := by decide +kernel
theorem d_Rm_voicing_64 : decode prog_8_method_41_code 64 = .ok (.iaload, 1) := by decide +kernel
theorem d_Rm_voicing_65 : decode prog_8_method_41_code 65 = .ok (.goto 4, 3) := by decide +kernel
theorem d_Rm_voicing_68 : decode prog_8_method_41_code 68 = .ok (.iconst (-1), 1) := by decide +kernel
theorem d_Rm_voicing_69 : decode prog_8_method_41_code 69 = .ok (.ireturn, 1) := by decide +kernel
theorem d_Ru_ofStart_0 : decode prog_5_method_7_code 0 = .ok (.iconst 0, 1) := by decide +kernel
theorem d_Ru_ofStart_1 : decode prog_5_method_7_code 1 = .ok (.istore_n 3, 1) := by decide +kernel
theorem d_Ru_ofStart_2 : decode prog_5_method_7_code 2 = .ok (.iload_n 3, 1) := by decide +kernel
theorem d_Ru_ofStart_3 : decode prog_5_method_7_code 3 = .ok (.iconst 3, 1) := by decide +kernel
theorem d_Ru_ofStart_4 : decode prog_5_method_7_code 4 = .ok (.if_icmp .ge 28, 3) := by decide +kernel
theorem d_Ru_ofStart_7 : decode prog_5_method_7_code 7 = .ok (.iload_n 2, 1) := by decide +kernel
theorem d_Ru_ofStart_8 : decode prog_5_method_7_code 8 = .ok (.iload_n 3, 1) := by decide +kernel
theorem d_Ru_ofStart_9 : decode prog_5_method_7_code 9 = .ok (.invokestatic 28, 3) := by decide +kernel
theorem d_Ru_ofStart_12 : decode prog_5_method_7_code 12 = .ok (.invokestatic 42, 3) := by decide +kernel
theorem d_Ru_ofStart_15 : decode prog_5_method_7_code 15 = .ok (.aload_n 1, 1) := by decide +kernel
theorem d_Ru_ofStart_16 : decode prog_5_method_7_code 16 = .ok (.getfield 70, 3) := by decide +kernel
theorem d_Ru_ofStart_19 : decode prog_5_method_7_code 19 = .ok (.iand, 1) := by decide +kernel
theorem d_Ru_ofStart_20 : decode prog_5_method_7_code 20 = .ok (.ifCond .eq 6, 3) := by decide +kernel
theorem d_Ru_ofStart_23 : decode prog_5_method_7_code 23 = .ok (.bipush 10, 2) := by decide +kernel
theorem d_Ru_ofStart_25 : decode prog_5_method_7_code 25 = .ok (.ireturn, 1) := by decide +kernel
theorem d_Ru_ofStart_26 : decode prog_5_method_7_code 26 = .ok (.iinc 3 1, 3) := by decide +kernel
theorem d_Ru_ofStart_29 : decode prog_5_method_7_code 29 = .ok (.goto (-27), 3) := by decide +kernel
theorem d_Ru_ofStart_32 : decode prog_5_method_7_code 32 = .ok (.iconst 0, 1) := by decide +kernel
theorem d_Ru_ofStart_33 : decode prog_5_method_7_code 33 = .ok (.ireturn, 1) := by decide +kernel
theorem d_Mv_leave_0 : decode prog_4_method_2_code 0 = .ok (.iconst 0, 1) := by decide +kernel
theorem d_Mv_leave_1 : decode prog_4_method_2_code 1 = .ok (.istore_n 3, 1) := by decide +kernel
theorem d_Mv_leave_2 : decode prog_4_method_2_code 2 = .ok (.iload_n 3, 1) := by decide +kernel
theorem d_Mv_leave_3 : decode prog_4_method_2_code 3 = .ok (.iconst 3, 1) := by decide +kernel
theorem d_Mv_leave_4 : decode prog_4_method_2_code 4 = .ok (.if_icmp .ge 20, 3) := by decide +kernel
theorem d_Mv_leave_7 : decode prog_4_method_2_code 7 = .ok (.aload_n 0, 1) := by decide +kernel
theorem d_Mv_leave_8 : decode prog_4_method_2_code 8 = .ok (.getfield 11, 3) := by decide +kernel
theorem d_Mv_leave_11 : decode prog_4_method_2_code 11 = .ok (.iload_n 3, 1) := by decide +kernel
theorem d_Mv_leave_12 : decode prog_4_method_2_code 12 = .ok (.iload_n 2, 1) := by decide +kernel
theorem d_Mv_leave_13 : decode prog_4_method_2_code 13 = .ok (.iload_n 3, 1) := by decide +kernel
theorem d_Mv_leave_14 : decode prog_4_method_2_code 14 = .ok (.invokestatic 21, 3) := by decide +kernel
theorem d_Mv_leave_17 : decode prog_4_method_2_code 17 = .ok (.iastore, 1) := by decide +kernel
theorem d_Mv_leave_18 : decode prog_4_method_2_code 18 = .ok (.iinc 3 1, 3) := by decide +kernel
theorem d_Mv_leave_21 : decode prog_4_method_2_code 21 = .ok (.goto (-19), 3) := by decide +kernel
theorem d_Mv_leave_24 : decode prog_4_method_2_code 24 = .ok (.aload_n 0, 1) := by decide +kernel
theorem d_Mv_leave_25 : decode prog_4_method_2_code 25 = .ok (.getfield 11, 3) := by decide +kernel
theorem d_Mv_leave_28 : decode prog_4_method_2_code 28 = .ok (.iconst 3, 1) := by decide +kernel
theorem d_Mv_leave_29 : decode prog_4_method_2_code 29 = .ok (.aload_n 1, 1) := by decide +kernel
theorem d_Mv_leave_30 : decode prog_4_method_2_code 30 = .ok (.getfield 25, 3) := by decide +kernel
theorem d_Mv_leave_33 : decode prog_4_method_2_code 33 = .ok (.iastore, 1) := by decide +kernel
theorem d_Mv_leave_34 : decode prog_4_method_2_code 34 = .ok (.aload_n 0, 1) := by decide +kernel
theorem d_Mv_leave_35 : decode prog_4_method_2_code 35 = .ok (.aload_n 1, 1) := by decide +kernel
theorem d_Mv_leave_36 : decode prog_4_method_2_code 36 = .ok (.getfield 31, 3) := by decide +kernel
theorem d_Mv_leave_39 : decode prog_4_method_2_code 39 = .ok (.putfield 34, 3) := by decide +kernel
theorem d_Mv_leave_42 : decode prog_4_method_2_code 42 = .ok (.aload_n 0, 1) := by decide +kernel
theorem d_Mv_leave_43 : decode prog_4_method_2_code 43 = .ok (.aload_n 1, 1) := by decide +kernel
theorem d_Mv_leave_44 : decode prog_4_method_2_code 44 = .ok (.getfield 37, 3) := by decide +kernel
theorem d_Mv_leave_47 : decode prog_4_method_2_code 47 = .ok (.putfield 40, 3) := by decide +kernel
theorem d_Mv_leave_50 : decode prog_4_method_2_code 50 = .ok (.return_, 1) := by decide +kernel
def wp_Rm_layBack_207 (K7 : Nat → Int32 → MH → Prop) (K13 : Nat → Int32 → Int32 → MH → Prop) (Post : MH → Prop) (l0 : Nat) (l1 : Int32) (l2 : Int32) (h : MH) : Prop :=
  K13 l0 l1 (l2 + (1 : Int32)) h
def wp_Rm_layBack_201 (K7 : Nat → Int32 → MH → Prop) (K13 : Nat → Int32 → Int32 → MH → Prop) (K53 : Nat → Int32 → Int32 → Int32 → MH → Prop) (Post : MH → Prop) (l0 : Nat) (l1 : Int32) (l2 : Int32) (l3 : Int32) (h : MH) : Prop :=
  K53 l0 l1 l2 (l3 + (1 : Int32)) h
def wp_Rm_layBack_200 (K7 : Nat → Int32 → MH → Prop) (K13 : Nat → Int32 → Int32 → MH → Prop) (K53 : Nat → Int32 → Int32 → Int32 → MH → Prop) (Post : MH → Prop) (l0 : Nat) (l1 : Int32) (l2 : Int32) (l3 : Int32) (y0 : Nat) (y1 : Int32) (y2 : Int32) (h : MH) : Prop :=
  ∃ (n200 : Nat) (f200 : Nat → Int32), gA h y0 0 = some (n200, f200) ∧ vp_in y1 n200 ∧ ∀ h200 : MH, h200 = mset h y0 (.inr (0, n200, .inl (upd f200 (y1).toNatClampNeg y2))) →
  (wp_Rm_layBack_201 K7 K13 K53 Post l0 l1 l2 l3 h200)
def wp_Rm_layBack_153 (K7 : Nat → Int32 → MH → Prop) (K13 : Nat → Int32 → Int32 → MH → Prop) (K53 : Nat → Int32 → Int32 → Int32 → MH → Prop) (Post : MH → Prop) (l0 : Nat) (l1 : Int32) (l2 : Int32) (l3 : Int32) (y0 : Int32) (h : MH) : Prop :=
  ∃ x156 : Nat, gF h l0 6 22 = some (.inr (some x156)) ∧
  (∃ x169 : Nat, gF h l0 6 22 = some (.inr (some x169)) ∧
    (∃ (n179 : Nat) (f179 : Nat → Int32), gA h x169 0 = some (n179, f179) ∧ vp_in (((800 : Int32) * l1) + l2) n179 ∧
      ((((f179 (((800 : Int32) * l1) + l2).toNatClampNeg) ≤ y0) →
          (∃ x189 : Nat, gF h l0 6 22 = some (.inr (some x189)) ∧
            (∃ (n199 : Nat) (f199 : Nat → Int32), gA h x189 0 = some (n199, f199) ∧ vp_in (((800 : Int32) * l1) + l2) n199 ∧
              (wp_Rm_layBack_200 K7 K13 K53 Post l0 l1 l2 l3 x156 (((800 : Int32) * l1) + l2) (f199 (((800 : Int32) * l1) + l2).toNatClampNeg) h)))) ∧
        ((¬ (f179 (((800 : Int32) * l1) + l2).toNatClampNeg) ≤ y0) →
          (wp_Rm_layBack_200 K7 K13 K53 Post l0 l1 l2 l3 x156 (((800 : Int32) * l1) + l2) y0 h)))))
def wb_Rm_layBack_53 (K7 : Nat → Int32 → MH → Prop) (K13 : Nat → Int32 → Int32 → MH → Prop) (K53 : Nat → Int32 → Int32 → Int32 → MH → Prop) (Post : MH → Prop) (l0 : Nat) (l1 : Int32) (l2 : Int32) (l3 : Int32) (h : MH) : Prop :=
  ∃ x55 : Int32, gF h l0 6 2 = some (.inl x55) ∧
  ((((x55 - (1 : Int32)) ≤ l1) →
      (wp_Rm_layBack_207 K7 K13 Post l0 l1 l2 h)) ∧
    ((¬ (x55 - (1 : Int32)) ≤ l1) →
      (∃ x65 : Nat, gF h l0 6 21 = some (.inr (some x65)) ∧
        (∃ (n71 : Nat) (f71 : Nat → Int32), gA h x65 0 = some (n71, f71) ∧ vp_in (l1 + (1 : Int32)) n71 ∧
          ((((f71 (l1 + (1 : Int32)).toNatClampNeg) ≤ l3) →
              (wp_Rm_layBack_207 K7 K13 Post l0 l1 l2 h)) ∧
            ((¬ (f71 (l1 + (1 : Int32)).toNatClampNeg) ≤ l3) →
              (∃ x76 : Nat, gF h l0 6 22 = some (.inr (some x76)) ∧
                (∃ (n88 : Nat) (f88 : Nat → Int32), gA h x76 0 = some (n88, f88) ∧ vp_in (((800 : Int32) * (l1 + (1 : Int32))) + l3) n88 ∧
                  ((((100000000 : Int32) ≤ (f88 (((800 : Int32) * (l1 + (1 : Int32))) + l3).toNatClampNeg)) →
                      (wp_Rm_layBack_201 K7 K13 K53 Post l0 l1 l2 l3 h)) ∧
                    ((¬ (100000000 : Int32) ≤ (f88 (((800 : Int32) * (l1 + (1 : Int32))) + l3).toNatClampNeg)) →
                      (∃ x98 : Nat, gF h l0 6 15 = some (.inr (some x98)) ∧
                        (gC h l0 = some 6 ∧ wp_Rm_take (fun (h101 : MH) =>
                        (∃ x110 : Nat, gF h101 l0 6 14 = some (.inr (some x110)) ∧
                        (gC h101 l0 = some 6 ∧ wp_Rm_take (fun (h113 : MH) =>
                        (gC h113 l0 = some 6 ∧ wp_Rm_pairRule (fun (r120 : Int32) (h120 : MH) =>
                        (((¬ r120 = 0) →
                        (wp_Rm_layBack_153 K7 K13 K53 Post l0 l1 l2 l3 (100000000 : Int32) h120)) ∧
                        ((r120 = 0) →
                        (gC h120 l0 = some 6 ∧ wp_Rm_cost (fun (r130 : Int32) (h130 : MH) =>
                        (∃ x134 : Nat, gF h130 l0 6 22 = some (.inr (some x134)) ∧
                        (∃ (n146 : Nat) (f146 : Nat → Int32), gA h130 x134 0 = some (n146, f146) ∧ vp_in (((800 : Int32) * (l1 + (1 : Int32))) + l3) n146 ∧
                        (wp_Rm_layBack_153 K7 K13 K53 Post l0 l1 l2 l3 (r130 + (f146 (((800 : Int32) * (l1 + (1 : Int32))) + l3).toNatClampNeg)) h130)))) l0 (l1 + (1 : Int32)) h120)))) l0 (l1 + (1 : Int32)) h113)) l0 (l1 + (1 : Int32)) l3 x110 h101))) l0 l1 l2 x98 h))))))))))))
def wn_Rm_layBack_53 (K7 : Nat → Int32 → MH → Prop) (K13 : Nat → Int32 → Int32 → MH → Prop) (Post : MH → Prop) : Nat → Nat → Int32 → Int32 → Int32 → MH → Prop
  | 0 => fun _ _ _ _ _ => False
  | n + 1 => wb_Rm_layBack_53 K7 K13 (wn_Rm_layBack_53 K7 K13 Post n) Post
def wp_Rm_layBack_53 (K7 : Nat → Int32 → MH → Prop) (K13 : Nat → Int32 → Int32 → MH → Prop) (Post : MH → Prop) (l0 : Nat) (l1 : Int32) (l2 : Int32) (l3 : Int32) (h : MH) : Prop := ∃ n, wn_Rm_layBack_53 K7 K13 Post n l0 l1 l2 l3 h
def wp_Rm_layBack_50 (K7 : Nat → Int32 → MH → Prop) (K13 : Nat → Int32 → Int32 → MH → Prop) (Post : MH → Prop) (l0 : Nat) (l1 : Int32) (l2 : Int32) (y0 : Nat) (y1 : Int32) (y2 : Int32) (h : MH) : Prop :=
  ∃ (n50 : Nat) (f50 : Nat → Int32), gA h y0 0 = some (n50, f50) ∧ vp_in y1 n50 ∧ ∀ h50 : MH, h50 = mset h y0 (.inr (0, n50, .inl (upd f50 (y1).toNatClampNeg y2))) →
  (wp_Rm_layBack_53 K7 K13 Post l0 l1 l2 (0 : Int32) h50)
def wb_Rm_layBack_13 (K7 : Nat → Int32 → MH → Prop) (K13 : Nat → Int32 → Int32 → MH → Prop) (Post : MH → Prop) (l0 : Nat) (l1 : Int32) (l2 : Int32) (h : MH) : Prop :=
  ∃ x15 : Nat, gF h l0 6 21 = some (.inr (some x15)) ∧
  (∃ (n19 : Nat) (f19 : Nat → Int32), gA h x15 0 = some (n19, f19) ∧ vp_in l1 n19 ∧
    ((((f19 (l1).toNatClampNeg) ≤ l2) →
        (K7 l0 (l1 + (-1 : Int32)) h)) ∧
      ((¬ (f19 (l1).toNatClampNeg) ≤ l2) →
        (∃ x24 : Nat, gF h l0 6 22 = some (.inr (some x24)) ∧
          (∃ x36 : Int32, gF h l0 6 2 = some (.inl x36) ∧
            (((¬ l1 = (x36 - (1 : Int32))) →
                (wp_Rm_layBack_50 K7 K13 Post l0 l1 l2 x24 (((800 : Int32) * l1) + l2) (100000000 : Int32) h)) ∧
              ((l1 = (x36 - (1 : Int32))) →
                (wp_Rm_layBack_50 K7 K13 Post l0 l1 l2 x24 (((800 : Int32) * l1) + l2) (0 : Int32) h))))))))
def wn_Rm_layBack_13 (K7 : Nat → Int32 → MH → Prop) (Post : MH → Prop) : Nat → Nat → Int32 → Int32 → MH → Prop
  | 0 => fun _ _ _ _ => False
  | n + 1 => wb_Rm_layBack_13 K7 (wn_Rm_layBack_13 K7 Post n) Post
def wp_Rm_layBack_13 (K7 : Nat → Int32 → MH → Prop) (Post : MH → Prop) (l0 : Nat) (l1 : Int32) (l2 : Int32) (h : MH) : Prop := ∃ n, wn_Rm_layBack_13 K7 Post n l0 l1 l2 h
def wb_Rm_layBack_7 (K7 : Nat → Int32 → MH → Prop) (Post : MH → Prop) (l0 : Nat) (l1 : Int32) (h : MH) : Prop :=
  ((l1 < 0) →
    (Post h)) ∧
  ((¬ l1 < 0) →
    (wp_Rm_layBack_13 K7 Post l0 l1 (0 : Int32) h))
def wn_Rm_layBack_7 (Post : MH → Prop) : Nat → Nat → Int32 → MH → Prop
  | 0 => fun _ _ _ => False
  | n + 1 => wb_Rm_layBack_7 (wn_Rm_layBack_7 Post n) Post
def wp_Rm_layBack_7 (Post : MH → Prop) (l0 : Nat) (l1 : Int32) (h : MH) : Prop := ∃ n, wn_Rm_layBack_7 Post n l0 l1 h
def wp_Rm_layBack (Post : MH → Prop) (l0 : Nat) (h : MH) : Prop :=
  ∃ x1 : Int32, gF h l0 6 2 = some (.inl x1) ∧
  (∀ z6 : Int32, z6 = x1 - (1 : Int32) →
    (wp_Rm_layBack_7 Post l0 z6 h))
set_option maxRecDepth 100000 in
set_option maxHeartbeats 4000000 in
theorem t_Rm_layBack_207 {p : Program} {l : Launch} {e : Env} {R : Room} {s : State} {m : MethodId} {args : Array Value} {below : List Frame} {meth : Method} {c : Code} (G : mG) (C0 : Cx G p s m args c prog_8_method_39_code 5 "BassRealiserModel") (hR : 3 ≤ R.frames ∧ 73 ≤ R.locals ∧ 0 ≤ R.cells ∧ 0 ≤ R.slots) (hr : meth.sig.returnType = none) (hlk : meth.locks = false) {Post : MH → Prop} {K7 : Nat → Int32 → MH → Prop} {K13 : Nat → Int32 → Int32 → MH → Prop} (hK7 : ∀ (l0 : Nat) (l1 : Int32) (h : MH), K7 l0 l1 h → WG p l e R s m args below meth c 0 0 (MQ below (va_Qv Post (Wd G) (mA G)) args s 0 0 (mA G)) G 5 [(0, .ref (m_b G + l0)), (1, .int l1)] 7 [] h) (hK13 : ∀ (l0 : Nat) (l1 : Int32) (l2 : Int32) (h : MH), K13 l0 l1 l2 h → WG p l e R s m args below meth c 0 0 (MQ below (va_Qv Post (Wd G) (mA G)) args s 0 0 (mA G)) G 5 [(0, .ref (m_b G + l0)), (1, .int l1), (2, .int l2)] 13 [] h) (l0 : Nat) (l1 : Int32) (l2 : Int32) (h : MH) (hwp : wp_Rm_layBack_207 K7 K13 Post l0 l1 l2 h) : WG p l e R s m args below meth c 0 0 (MQ below (va_Qv Post (Wd G) (mA G)) args s 0 0 (mA G)) G 5 [(0, .ref (m_b G + l0)), (1, .int l1), (2, .int l2)] 207 [] h := by
  unfold wp_Rm_layBack_207 at hwp
  refine x_iinc C0 2 d_Rm_layBack_207 rfl rfl (by decide) (lv' := [(2, .int (l2 + (1 : Int32))), (0, .ref (m_b G + l0)), (1, .int l1)]) rfl ?_
  refine x_goto (tgt := 13) C0 d_Rm_layBack_210 (by decide) ?_
  exact x_sub [1, 2, 0] rfl (hK13 _ _ _ _ hwp)
set_option maxRecDepth 100000 in
set_option maxHeartbeats 4000000 in
theorem t_Rm_layBack_201 {p : Program} {l : Launch} {e : Env} {R : Room} {s : State} {m : MethodId} {args : Array Value} {below : List Frame} {meth : Method} {c : Code} (G : mG) (C0 : Cx G p s m args c prog_8_method_39_code 5 "BassRealiserModel") (hR : 3 ≤ R.frames ∧ 73 ≤ R.locals ∧ 0 ≤ R.cells ∧ 0 ≤ R.slots) (hr : meth.sig.returnType = none) (hlk : meth.locks = false) {Post : MH → Prop} {K7 : Nat → Int32 → MH → Prop} {K13 : Nat → Int32 → Int32 → MH → Prop} {K53 : Nat → Int32 → Int32 → Int32 → MH → Prop} (hK7 : ∀ (l0 : Nat) (l1 : Int32) (h : MH), K7 l0 l1 h → WG p l e R s m args below meth c 0 0 (MQ below (va_Qv Post (Wd G) (mA G)) args s 0 0 (mA G)) G 5 [(0, .ref (m_b G + l0)), (1, .int l1)] 7 [] h) (hK13 : ∀ (l0 : Nat) (l1 : Int32) (l2 : Int32) (h : MH), K13 l0 l1 l2 h → WG p l e R s m args below meth c 0 0 (MQ below (va_Qv Post (Wd G) (mA G)) args s 0 0 (mA G)) G 5 [(0, .ref (m_b G + l0)), (1, .int l1), (2, .int l2)] 13 [] h) (hK53 : ∀ (l0 : Nat) (l1 : Int32) (l2 : Int32) (l3 : Int32) (h : MH), K53 l0 l1 l2 l3 h → WG p l e R s m args below meth c 0 0 (MQ below (va_Qv Post (Wd G) (mA G)) args s 0 0 (mA G)) G 5 [(0, .ref (m_b G + l0)), (1, .int l1), (2, .int l2), (3, .int l3)] 53 [] h) (l0 : Nat) (l1 : Int32) (l2 : Int32) (l3 : Int32) (h : MH) (hwp : wp_Rm_layBack_201 K7 K13 K53 Post l0 l1 l2 l3 h) : WG p l e R s m args below meth c 0 0 (MQ below (va_Qv Post (Wd G) (mA G)) args s 0 0 (mA G)) G 5 [(0, .ref (m_b G + l0)), (1, .int l1), (2, .int l2), (3, .int l3)] 201 [] h := by
  unfold wp_Rm_layBack_201 at hwp
  refine x_iinc C0 3 d_Rm_layBack_201 rfl rfl (by decide) (lv' := [(3, .int (l3 + (1 : Int32))), (0, .ref (m_b G + l0)), (1, .int l1), (2, .int l2)]) rfl ?_
  refine x_goto (tgt := 53) C0 d_Rm_layBack_204 (by decide) ?_
  exact x_sub [1, 2, 3, 0] rfl (hK53 _ _ _ _ _ hwp)
set_option maxRecDepth 100000 in
set_option maxHeartbeats 4000000 in
theorem t_Rm_layBack_200 {p : Program} {l : Launch} {e : Env} {R : Room} {s : State} {m : MethodId} {args : Array Value} {below : List Frame} {meth : Method} {c : Code} (G : mG) (C0 : Cx G p s m args c prog_8_method_39_code 5 "BassRealiserModel") (hR : 3 ≤ R.frames ∧ 73 ≤ R.locals ∧ 0 ≤ R.cells ∧ 0 ≤ R.slots) (hr : meth.sig.returnType = none) (hlk : meth.locks = false) {Post : MH → Prop} {K7 : Nat → Int32 → MH → Prop} {K13 : Nat → Int32 → Int32 → MH → Prop} {K53 : Nat → Int32 → Int32 → Int32 → MH → Prop} (hK7 : ∀ (l0 : Nat) (l1 : Int32) (h : MH), K7 l0 l1 h → WG p l e R s m args below meth c 0 0 (MQ below (va_Qv Post (Wd G) (mA G)) args s 0 0 (mA G)) G 5 [(0, .ref (m_b G + l0)), (1, .int l1)] 7 [] h) (hK13 : ∀ (l0 : Nat) (l1 : Int32) (l2 : Int32) (h : MH), K13 l0 l1 l2 h → WG p l e R s m args below meth c 0 0 (MQ below (va_Qv Post (Wd G) (mA G)) args s 0 0 (mA G)) G 5 [(0, .ref (m_b G + l0)), (1, .int l1), (2, .int l2)] 13 [] h) (hK53 : ∀ (l0 : Nat) (l1 : Int32) (l2 : Int32) (l3 : Int32) (h : MH), K53 l0 l1 l2 l3 h → WG p l e R s m args below meth c 0 0 (MQ below (va_Qv Post (Wd G) (mA G)) args s 0 0 (mA G)) G 5 [(0, .ref (m_b G + l0)), (1, .int l1), (2, .int l2), (3, .int l3)] 53 [] h) (l0 : Nat) (l1 : Int32) (l2 : Int32) (l3 : Int32) (y0 : Nat) (y1 : Int32) (y2 : Int32) (h : MH) (hwp : wp_Rm_layBack_200 K7 K13 K53 Post l0 l1 l2 l3 y0 y1 y2 h) : WG p l e R s m args below meth c 0 0 (MQ below (va_Qv Post (Wd G) (mA G)) args s 0 0 (mA G)) G 5 [(0, .ref (m_b G + l0)), (1, .int l1), (2, .int l2), (3, .int l3)] 200 [.int y2, .int y1, .ref (m_b G + y0)] h := by
  unfold wp_Rm_layBack_200 at hwp
  obtain ⟨n200, f200, e200, i200, hwp⟩ := hwp
  refine x_iast C0 e200 i200 d_Rm_layBack_200 ?_
  refine x_nh (fun h200 eh200 => ?_)
  replace hwp := hwp h200 eh200
  exact x_sub [0, 1, 2, 3] rfl (t_Rm_layBack_201 G C0 hR hr hlk hK7 hK13 hK53 _ _ _ _ _ hwp)
set_option maxRecDepth 100000 in
set_option maxHeartbeats 4000000 in
theorem t_Rm_layBack_153 {p : Program} {l : Launch} {e : Env} {R : Room} {s : State} {m : MethodId} {args : Array Value} {below : List Frame} {meth : Method} {c : Code} (G : mG) (C0 : Cx G p s m args c prog_8_method_39_code 5 "BassRealiserModel") (hR : 3 ≤ R.frames ∧ 73 ≤ R.locals ∧ 0 ≤ R.cells ∧ 0 ≤ R.slots) (hr : meth.sig.returnType = none) (hlk : meth.locks = false) {Post : MH → Prop} {K7 : Nat → Int32 → MH → Prop} {K13 : Nat → Int32 → Int32 → MH → Prop} {K53 : Nat → Int32 → Int32 → Int32 → MH → Prop} (hK7 : ∀ (l0 : Nat) (l1 : Int32) (h : MH), K7 l0 l1 h → WG p l e R s m args below meth c 0 0 (MQ below (va_Qv Post (Wd G) (mA G)) args s 0 0 (mA G)) G 5 [(0, .ref (m_b G + l0)), (1, .int l1)] 7 [] h) (hK13 : ∀ (l0 : Nat) (l1 : Int32) (l2 : Int32) (h : MH), K13 l0 l1 l2 h → WG p l e R s m args below meth c 0 0 (MQ below (va_Qv Post (Wd G) (mA G)) args s 0 0 (mA G)) G 5 [(0, .ref (m_b G + l0)), (1, .int l1), (2, .int l2)] 13 [] h) (hK53 : ∀ (l0 : Nat) (l1 : Int32) (l2 : Int32) (l3 : Int32) (h : MH), K53 l0 l1 l2 l3 h → WG p l e R s m args below meth c 0 0 (MQ below (va_Qv Post (Wd G) (mA G)) args s 0 0 (mA G)) G 5 [(0, .ref (m_b G + l0)), (1, .int l1), (2, .int l2), (3, .int l3)] 53 [] h) (l0 : Nat) (l1 : Int32) (l2 : Int32) (l3 : Int32) (y0 : Int32) (h : MH) (hwp : wp_Rm_layBack_153 K7 K13 K53 Post l0 l1 l2 l3 y0 h) : WG p l e R s m args below meth c 0 0 (MQ below (va_Qv Post (Wd G) (mA G)) args s 0 0 (mA G)) G 5 [(0, .ref (m_b G + l0)), (1, .int l1), (2, .int l2), (3, .int l3)] 153 [.int y0] h := by
  unfold wp_Rm_layBack_153 at hwp
  refine x_istore C0 d_Rm_layBack_153 (by decide) (lv' := [(4, .int y0), (0, .ref (m_b G + l0)), (1, .int l1), (2, .int l2), (3, .int l3)]) rfl ?_
  refine x_aload_n C0 1 d_Rm_layBack_155 rfl rfl ?_
  obtain ⟨x156, e156, hwp⟩ := hwp
  refine x_getR C0 fk_Rm_69 e156 d_Rm_layBack_156 ?_
  refine x_sipush (v := 800) C0 d_Rm_layBack_159 (by decide) ?_
  refine x_iload_n C0 2 d_Rm_layBack_162 rfl rfl ?_
  refine x_imul C0 d_Rm_layBack_163 ?_
  refine x_iload_n C0 3 d_Rm_layBack_164 rfl rfl ?_
  refine x_iadd C0 d_Rm_layBack_165 ?_
  refine x_iload C0 0 d_Rm_layBack_166 rfl ?_
  refine x_aload_n C0 1 d_Rm_layBack_168 rfl rfl ?_
  obtain ⟨x169, e169, hwp⟩ := hwp
  refine x_getR C0 fk_Rm_69 e169 d_Rm_layBack_169 ?_
  refine x_sipush (v := 800) C0 d_Rm_layBack_172 (by decide) ?_
  refine x_iload_n C0 2 d_Rm_layBack_175 rfl rfl ?_
  refine x_imul C0 d_Rm_layBack_176 ?_
  refine x_iload_n C0 3 d_Rm_layBack_177 rfl rfl ?_
  refine x_iadd C0 d_Rm_layBack_178 ?_
  obtain ⟨n179, f179, e179, i179, hwp⟩ := hwp
  refine x_iald C0 e179 i179 d_Rm_layBack_179 ?_
  refine x_icmp_ge (tgt := 188) C0 d_Rm_layBack_180 (by decide) (fun c180 => ?_) (fun c180 => ?_)
  · replace hwp := hwp.1 c180
    refine x_aload_n C0 1 d_Rm_layBack_188 rfl rfl ?_
    obtain ⟨x189, e189, hwp⟩ := hwp
    refine x_getR C0 fk_Rm_69 e189 d_Rm_layBack_189 ?_
    refine x_sipush (v := 800) C0 d_Rm_layBack_192 (by decide) ?_
    refine x_iload_n C0 2 d_Rm_layBack_195 rfl rfl ?_
    refine x_imul C0 d_Rm_layBack_196 ?_
    refine x_iload_n C0 3 d_Rm_layBack_197 rfl rfl ?_
    refine x_iadd C0 d_Rm_layBack_198 ?_
    obtain ⟨n199, f199, e199, i199, hwp⟩ := hwp
    refine x_iald C0 e199 i199 d_Rm_layBack_199 ?_
    exact x_sub [1, 2, 3, 4] rfl (t_Rm_layBack_200 G C0 hR hr hlk hK7 hK13 hK53 _ _ _ _ _ _ _ _ hwp)
  · replace hwp := hwp.2 c180
    refine x_iload C0 0 d_Rm_layBack_183 rfl ?_
    refine x_goto (tgt := 200) C0 d_Rm_layBack_185 (by decide) ?_
    exact x_sub [1, 2, 3, 4] rfl (t_Rm_layBack_200 G C0 hR hr hlk hK7 hK13 hK53 _ _ _ _ _ _ _ _ hwp)
set_option maxRecDepth 100000 in
set_option maxHeartbeats 4000000 in
theorem tb_Rm_layBack_53 {p : Program} {l : Launch} {e : Env} {R : Room} {s : State} {m : MethodId} {args : Array Value} {below : List Frame} {meth : Method} {c : Code} (G : mG) (C0 : Cx G p s m args c prog_8_method_39_code 5 "BassRealiserModel") (hR : 3 ≤ R.frames ∧ 73 ≤ R.locals ∧ 0 ≤ R.cells ∧ 0 ≤ R.slots) (hr : meth.sig.returnType = none) (hlk : meth.locks = false) {Post : MH → Prop} {K7 : Nat → Int32 → MH → Prop} {K13 : Nat → Int32 → Int32 → MH → Prop} {K53 : Nat → Int32 → Int32 → Int32 → MH → Prop} (hK7 : ∀ (l0 : Nat) (l1 : Int32) (h : MH), K7 l0 l1 h → WG p l e R s m args below meth c 0 0 (MQ below (va_Qv Post (Wd G) (mA G)) args s 0 0 (mA G)) G 5 [(0, .ref (m_b G + l0)), (1, .int l1)] 7 [] h) (hK13 : ∀ (l0 : Nat) (l1 : Int32) (l2 : Int32) (h : MH), K13 l0 l1 l2 h → WG p l e R s m args below meth c 0 0 (MQ below (va_Qv Post (Wd G) (mA G)) args s 0 0 (mA G)) G 5 [(0, .ref (m_b G + l0)), (1, .int l1), (2, .int l2)] 13 [] h) (hK53 : ∀ (l0 : Nat) (l1 : Int32) (l2 : Int32) (l3 : Int32) (h : MH), K53 l0 l1 l2 l3 h → WG p l e R s m args below meth c 0 0 (MQ below (va_Qv Post (Wd G) (mA G)) args s 0 0 (mA G)) G 5 [(0, .ref (m_b G + l0)), (1, .int l1), (2, .int l2), (3, .int l3)] 53 [] h) (l0 : Nat) (l1 : Int32) (l2 : Int32) (l3 : Int32) (h : MH) (hwp : wb_Rm_layBack_53 K7 K13 K53 Post l0 l1 l2 l3 h) : WG p l e R s m args below meth c 0 0 (MQ below (va_Qv Post (Wd G) (mA G)) args s 0 0 (mA G)) G 5 [(0, .ref (m_b G + l0)), (1, .int l1), (2, .int l2), (3, .int l3)] 53 [] h := by
  unfold wb_Rm_layBack_53 at hwp
  refine x_iload_n C0 1 d_Rm_layBack_53 rfl rfl ?_
  refine x_aload_n C0 0 d_Rm_layBack_54 rfl rfl ?_
  obtain ⟨x55, e55, hwp⟩ := hwp
  refine x_getI C0 fk_Rm_79 e55 d_Rm_layBack_55 ?_
  refine x_iconst (v := 1) C0 d_Rm_layBack_58 (by decide) ?_
  refine x_isub C0 d_Rm_layBack_59 ?_
  refine x_icmp_ge (tgt := 207) C0 d_Rm_layBack_60 (by decide) (fun c60 => ?_) (fun c60 => ?_)
  · replace hwp := hwp.1 c60
    exact x_sub [0, 1, 2] rfl (t_Rm_layBack_207 G C0 hR hr hlk hK7 hK13 _ _ _ _ hwp)
  · replace hwp := hwp.2 c60
    refine x_iload_n C0 3 d_Rm_layBack_63 rfl rfl ?_
    refine x_aload_n C0 0 d_Rm_layBack_64 rfl rfl ?_
    obtain ⟨x65, e65, hwp⟩ := hwp
    refine x_getR C0 fk_Rm_66 e65 d_Rm_layBack_65 ?_
    refine x_iload_n C0 1 d_Rm_layBack_68 rfl rfl ?_
    refine x_iconst (v := 1) C0 d_Rm_layBack_69 (by decide) ?_
    refine x_iadd C0 d_Rm_layBack_70 ?_
    obtain ⟨n71, f71, e71, i71, hwp⟩ := hwp
    refine x_iald C0 e71 i71 d_Rm_layBack_71 ?_
    refine x_icmp_ge (tgt := 207) C0 d_Rm_layBack_72 (by decide) (fun c72 => ?_) (fun c72 => ?_)
    · replace hwp := hwp.1 c72
      exact x_sub [0, 1, 2] rfl (t_Rm_layBack_207 G C0 hR hr hlk hK7 hK13 _ _ _ _ hwp)
    · replace hwp := hwp.2 c72
      refine x_aload_n C0 0 d_Rm_layBack_75 rfl rfl ?_
      obtain ⟨x76, e76, hwp⟩ := hwp
      refine x_getR C0 fk_Rm_69 e76 d_Rm_layBack_76 ?_
      refine x_sipush (v := 800) C0 d_Rm_layBack_79 (by decide) ?_
      refine x_iload_n C0 1 d_Rm_layBack_82 rfl rfl ?_
      refine x_iconst (v := 1) C0 d_Rm_layBack_83 (by decide) ?_
      refine x_iadd C0 d_Rm_layBack_84 ?_
      refine x_imul C0 d_Rm_layBack_85 ?_
      refine x_iload_n C0 3 d_Rm_layBack_86 rfl rfl ?_
      refine x_iadd C0 d_Rm_layBack_87 ?_
      obtain ⟨n88, f88, e88, i88, hwp⟩ := hwp
      refine x_iald C0 e88 i88 d_Rm_layBack_88 ?_
      refine x_ldc (v := 100000000) C0 kw_4_81 d_Rm_layBack_89 ?_
      refine x_icmp_ge (tgt := 201) C0 d_Rm_layBack_91 (by decide) (fun c91 => ?_) (fun c91 => ?_)
      · replace hwp := hwp.1 c91
        exact x_sub [0, 1, 2, 3] rfl (t_Rm_layBack_201 G C0 hR hr hlk hK7 hK13 hK53 _ _ _ _ _ hwp)
      · replace hwp := hwp.2 c91
        refine x_aload_n C0 0 d_Rm_layBack_94 rfl rfl ?_
        refine x_iload_n C0 1 d_Rm_layBack_95 rfl rfl ?_
        refine x_iload_n C0 2 d_Rm_layBack_96 rfl rfl ?_
        refine x_aload_n C0 0 d_Rm_layBack_97 rfl rfl ?_
        obtain ⟨x98, e98, hwp⟩ := hwp
        refine x_getR C0 fk_Rm_51 e98 d_Rm_layBack_98 ?_
        obtain ⟨g101, hwp⟩ := hwp
        refine x_callVv0 (k := l0) (As := [.int l1, .int l2, .ref (m_b G + x98)]) (st := []) C0 (c_Rm_take l G hwp) kw_4_61 mk_Rm_take vk_Rm_take rfl g101 rfl (Nat.le_of_ble_eq_true rfl) rfl rfl ⟨Nat.le_trans (by decide) hR.1, Nat.le_trans (by decide) hR.2.1⟩ ⟨Nat.zero_le _, Nat.zero_le _⟩ rfl d_Rm_layBack_101 (fun h101 hwp => ?_)
        refine x_aload_n C0 0 d_Rm_layBack_104 rfl rfl ?_
        refine x_iload_n C0 1 d_Rm_layBack_105 rfl rfl ?_
        refine x_iconst (v := 1) C0 d_Rm_layBack_106 (by decide) ?_
        refine x_iadd C0 d_Rm_layBack_107 ?_
        refine x_iload_n C0 3 d_Rm_layBack_108 rfl rfl ?_
        refine x_aload_n C0 0 d_Rm_layBack_109 rfl rfl ?_
        obtain ⟨x110, e110, hwp⟩ := hwp
        refine x_getR C0 fk_Rm_48 e110 d_Rm_layBack_110 ?_
        obtain ⟨g113, hwp⟩ := hwp
        refine x_callVv0 (k := l0) (As := [.int (l1 + (1 : Int32)), .int l3, .ref (m_b G + x110)]) (st := []) C0 (c_Rm_take l G hwp) kw_4_61 mk_Rm_take vk_Rm_take rfl g113 rfl (Nat.le_of_ble_eq_true rfl) rfl rfl ⟨Nat.le_trans (by decide) hR.1, Nat.le_trans (by decide) hR.2.1⟩ ⟨Nat.zero_le _, Nat.zero_le _⟩ rfl d_Rm_layBack_113 (fun h113 hwp => ?_)
        refine x_aload_n C0 0 d_Rm_layBack_116 rfl rfl ?_
        refine x_iload_n C0 1 d_Rm_layBack_117 rfl rfl ?_
        refine x_iconst (v := 1) C0 d_Rm_layBack_118 (by decide) ?_
        refine x_iadd C0 d_Rm_layBack_119 ?_
        obtain ⟨g120, hwp⟩ := hwp
        refine x_callVi0 (k := l0) (As := [.int (l1 + (1 : Int32))]) (st := []) C0 (c_Rm_pairRule l G hwp) kw_4_65 mk_Rm_pairRule vk_Rm_pairRule rfl g120 rfl (Nat.le_of_ble_eq_true rfl) rfl rfl ⟨Nat.le_trans (by decide) hR.1, Nat.le_trans (by decide) hR.2.1⟩ ⟨Nat.zero_le _, Nat.zero_le _⟩ rfl d_Rm_layBack_120 (fun r120 h120 hwp => ?_)
        refine x_if_ne (tgt := 151) C0 d_Rm_layBack_123 (by decide) (fun c123 => ?_) (fun c123 => ?_)
        · replace hwp := hwp.1 c123
          refine x_ldc (v := 100000000) C0 kw_4_81 d_Rm_layBack_151 ?_
          exact x_sub [0, 1, 2, 3] rfl (t_Rm_layBack_153 G C0 hR hr hlk hK7 hK13 hK53 _ _ _ _ _ _ hwp)
        · replace hwp := hwp.2 c123
          refine x_aload_n C0 0 d_Rm_layBack_126 rfl rfl ?_
          refine x_iload_n C0 1 d_Rm_layBack_127 rfl rfl ?_
          refine x_iconst (v := 1) C0 d_Rm_layBack_128 (by decide) ?_
          refine x_iadd C0 d_Rm_layBack_129 ?_
          obtain ⟨g130, hwp⟩ := hwp
          refine x_callVi0 (k := l0) (As := [.int (l1 + (1 : Int32))]) (st := []) C0 (c_Rm_cost l G hwp) kw_4_82 mk_Rm_cost vk_Rm_cost rfl g130 rfl (Nat.le_of_ble_eq_true rfl) rfl rfl ⟨Nat.le_trans (by decide) hR.1, Nat.le_trans (by decide) hR.2.1⟩ ⟨Nat.zero_le _, Nat.zero_le _⟩ rfl d_Rm_layBack_130 (fun r130 h130 hwp => ?_)
          refine x_aload_n C0 0 d_Rm_layBack_133 rfl rfl ?_
          obtain ⟨x134, e134, hwp⟩ := hwp
          refine x_getR C0 fk_Rm_69 e134 d_Rm_layBack_134 ?_
          refine x_sipush (v := 800) C0 d_Rm_layBack_137 (by decide) ?_
          refine x_iload_n C0 1 d_Rm_layBack_140 rfl rfl ?_
          refine x_iconst (v := 1) C0 d_Rm_layBack_141 (by decide) ?_
          refine x_iadd C0 d_Rm_layBack_142 ?_
          refine x_imul C0 d_Rm_layBack_143 ?_
          refine x_iload_n C0 3 d_Rm_layBack_144 rfl rfl ?_
          refine x_iadd C0 d_Rm_layBack_145 ?_
          obtain ⟨n146, f146, e146, i146, hwp⟩ := hwp
          refine x_iald C0 e146 i146 d_Rm_layBack_146 ?_
          refine x_iadd C0 d_Rm_layBack_147 ?_
          refine x_goto (tgt := 153) C0 d_Rm_layBack_148 (by decide) ?_
          exact x_sub [0, 1, 2, 3] rfl (t_Rm_layBack_153 G C0 hR hr hlk hK7 hK13 hK53 _ _ _ _ _ _ hwp)
theorem t_Rm_layBack_53 {p : Program} {l : Launch} {e : Env} {R : Room} {s : State} {m : MethodId} {args : Array Value} {below : List Frame} {meth : Method} {c : Code} (G : mG) (C0 : Cx G p s m args c prog_8_method_39_code 5 "BassRealiserModel") (hR : 3 ≤ R.frames ∧ 73 ≤ R.locals ∧ 0 ≤ R.cells ∧ 0 ≤ R.slots) (hr : meth.sig.returnType = none) (hlk : meth.locks = false) {Post : MH → Prop} {K7 : Nat → Int32 → MH → Prop} {K13 : Nat → Int32 → Int32 → MH → Prop} (hK7 : ∀ (l0 : Nat) (l1 : Int32) (h : MH), K7 l0 l1 h → WG p l e R s m args below meth c 0 0 (MQ below (va_Qv Post (Wd G) (mA G)) args s 0 0 (mA G)) G 5 [(0, .ref (m_b G + l0)), (1, .int l1)] 7 [] h) (hK13 : ∀ (l0 : Nat) (l1 : Int32) (l2 : Int32) (h : MH), K13 l0 l1 l2 h → WG p l e R s m args below meth c 0 0 (MQ below (va_Qv Post (Wd G) (mA G)) args s 0 0 (mA G)) G 5 [(0, .ref (m_b G + l0)), (1, .int l1), (2, .int l2)] 13 [] h) (l0 : Nat) (l1 : Int32) (l2 : Int32) (l3 : Int32) (h : MH) (hwp : wp_Rm_layBack_53 K7 K13 Post l0 l1 l2 l3 h) : WG p l e R s m args below meth c 0 0 (MQ below (va_Qv Post (Wd G) (mA G)) args s 0 0 (mA G)) G 5 [(0, .ref (m_b G + l0)), (1, .int l1), (2, .int l2), (3, .int l3)] 53 [] h := by
  obtain ⟨n, hwp⟩ := hwp
  induction n generalizing l0 l1 l2 l3 h with
  | zero => exact False.elim hwp
  | succ n ih => exact tb_Rm_layBack_53 G C0 hR hr hlk hK7 hK13 (fun l0 l1 l2 l3 h hwp => ih l0 l1 l2 l3 h hwp) l0 l1 l2 l3 h hwp
set_option maxRecDepth 100000 in
set_option maxHeartbeats 4000000 in
theorem t_Rm_layBack_50 {p : Program} {l : Launch} {e : Env} {R : Room} {s : State} {m : MethodId} {args : Array Value} {below : List Frame} {meth : Method} {c : Code} (G : mG) (C0 : Cx G p s m args c prog_8_method_39_code 5 "BassRealiserModel") (hR : 3 ≤ R.frames ∧ 73 ≤ R.locals ∧ 0 ≤ R.cells ∧ 0 ≤ R.slots) (hr : meth.sig.returnType = none) (hlk : meth.locks = false) {Post : MH → Prop} {K7 : Nat → Int32 → MH → Prop} {K13 : Nat → Int32 → Int32 → MH → Prop} (hK7 : ∀ (l0 : Nat) (l1 : Int32) (h : MH), K7 l0 l1 h → WG p l e R s m args below meth c 0 0 (MQ below (va_Qv Post (Wd G) (mA G)) args s 0 0 (mA G)) G 5 [(0, .ref (m_b G + l0)), (1, .int l1)] 7 [] h) (hK13 : ∀ (l0 : Nat) (l1 : Int32) (l2 : Int32) (h : MH), K13 l0 l1 l2 h → WG p l e R s m args below meth c 0 0 (MQ below (va_Qv Post (Wd G) (mA G)) args s 0 0 (mA G)) G 5 [(0, .ref (m_b G + l0)), (1, .int l1), (2, .int l2)] 13 [] h) (l0 : Nat) (l1 : Int32) (l2 : Int32) (y0 : Nat) (y1 : Int32) (y2 : Int32) (h : MH) (hwp : wp_Rm_layBack_50 K7 K13 Post l0 l1 l2 y0 y1 y2 h) : WG p l e R s m args below meth c 0 0 (MQ below (va_Qv Post (Wd G) (mA G)) args s 0 0 (mA G)) G 5 [(0, .ref (m_b G + l0)), (1, .int l1), (2, .int l2)] 50 [.int y2, .int y1, .ref (m_b G + y0)] h := by
  unfold wp_Rm_layBack_50 at hwp
  obtain ⟨n50, f50, e50, i50, hwp⟩ := hwp
  refine x_iast C0 e50 i50 d_Rm_layBack_50 ?_
  refine x_nh (fun h50 eh50 => ?_)
  replace hwp := hwp h50 eh50
  refine x_iconst (v := 0) C0 d_Rm_layBack_51 (by decide) ?_
  refine x_istore_n C0 d_Rm_layBack_52 rfl (by decide) (lv' := [(3, .int (0 : Int32)), (0, .ref (m_b G + l0)), (1, .int l1), (2, .int l2)]) rfl ?_
  exact x_sub [1, 2, 3, 0] rfl (t_Rm_layBack_53 G C0 hR hr hlk hK7 hK13 _ _ _ _ _ hwp)
set_option maxRecDepth 100000 in
set_option maxHeartbeats 4000000 in
theorem tb_Rm_layBack_13 {p : Program} {l : Launch} {e : Env} {R : Room} {s : State} {m : MethodId} {args : Array Value} {below : List Frame} {meth : Method} {c : Code} (G : mG) (C0 : Cx G p s m args c prog_8_method_39_code 5 "BassRealiserModel") (hR : 3 ≤ R.frames ∧ 73 ≤ R.locals ∧ 0 ≤ R.cells ∧ 0 ≤ R.slots) (hr : meth.sig.returnType = none) (hlk : meth.locks = false) {Post : MH → Prop} {K7 : Nat → Int32 → MH → Prop} {K13 : Nat → Int32 → Int32 → MH → Prop} (hK7 : ∀ (l0 : Nat) (l1 : Int32) (h : MH), K7 l0 l1 h → WG p l e R s m args below meth c 0 0 (MQ below (va_Qv Post (Wd G) (mA G)) args s 0 0 (mA G)) G 5 [(0, .ref (m_b G + l0)), (1, .int l1)] 7 [] h) (hK13 : ∀ (l0 : Nat) (l1 : Int32) (l2 : Int32) (h : MH), K13 l0 l1 l2 h → WG p l e R s m args below meth c 0 0 (MQ below (va_Qv Post (Wd G) (mA G)) args s 0 0 (mA G)) G 5 [(0, .ref (m_b G + l0)), (1, .int l1), (2, .int l2)] 13 [] h) (l0 : Nat) (l1 : Int32) (l2 : Int32) (h : MH) (hwp : wb_Rm_layBack_13 K7 K13 Post l0 l1 l2 h) : WG p l e R s m args below meth c 0 0 (MQ below (va_Qv Post (Wd G) (mA G)) args s 0 0 (mA G)) G 5 [(0, .ref (m_b G + l0)), (1, .int l1), (2, .int l2)] 13 [] h := by
  unfold wb_Rm_layBack_13 at hwp
  refine x_iload_n C0 2 d_Rm_layBack_13 rfl rfl ?_
  refine x_aload_n C0 0 d_Rm_layBack_14 rfl rfl ?_
  obtain ⟨x15, e15, hwp⟩ := hwp
  refine x_getR C0 fk_Rm_66 e15 d_Rm_layBack_15 ?_
  refine x_iload_n C0 1 d_Rm_layBack_18 rfl rfl ?_
  obtain ⟨n19, f19, e19, i19, hwp⟩ := hwp
  refine x_iald C0 e19 i19 d_Rm_layBack_19 ?_
  refine x_icmp_ge (tgt := 213) C0 d_Rm_layBack_20 (by decide) (fun c20 => ?_) (fun c20 => ?_)
  · replace hwp := hwp.1 c20
    refine x_iinc C0 1 d_Rm_layBack_213 rfl rfl (by decide) (lv' := [(1, .int (l1 + (-1 : Int32))), (0, .ref (m_b G + l0)), (2, .int l2)]) rfl ?_
    refine x_goto (tgt := 7) C0 d_Rm_layBack_216 (by decide) ?_
    exact x_sub [1, 0] rfl (hK7 _ _ _ hwp)
  · replace hwp := hwp.2 c20
    refine x_aload_n C0 0 d_Rm_layBack_23 rfl rfl ?_
    obtain ⟨x24, e24, hwp⟩ := hwp
    refine x_getR C0 fk_Rm_69 e24 d_Rm_layBack_24 ?_
    refine x_sipush (v := 800) C0 d_Rm_layBack_27 (by decide) ?_
    refine x_iload_n C0 1 d_Rm_layBack_30 rfl rfl ?_
    refine x_imul C0 d_Rm_layBack_31 ?_
    refine x_iload_n C0 2 d_Rm_layBack_32 rfl rfl ?_
    refine x_iadd C0 d_Rm_layBack_33 ?_
    refine x_iload_n C0 1 d_Rm_layBack_34 rfl rfl ?_
    refine x_aload_n C0 0 d_Rm_layBack_35 rfl rfl ?_
    obtain ⟨x36, e36, hwp⟩ := hwp
    refine x_getI C0 fk_Rm_79 e36 d_Rm_layBack_36 ?_
    refine x_iconst (v := 1) C0 d_Rm_layBack_39 (by decide) ?_
    refine x_isub C0 d_Rm_layBack_40 ?_
    refine x_icmp_ne (tgt := 48) C0 d_Rm_layBack_41 (by decide) (fun c41 => ?_) (fun c41 => ?_)
    · replace hwp := hwp.1 c41
      refine x_ldc (v := 100000000) C0 kw_4_81 d_Rm_layBack_48 ?_
      exact x_sub [0, 1, 2] rfl (t_Rm_layBack_50 G C0 hR hr hlk hK7 hK13 _ _ _ _ _ _ _ hwp)
    · replace hwp := hwp.2 c41
      refine x_iconst (v := 0) C0 d_Rm_layBack_44 (by decide) ?_
      refine x_goto (tgt := 50) C0 d_Rm_layBack_45 (by decide) ?_
      exact x_sub [0, 1, 2] rfl (t_Rm_layBack_50 G C0 hR hr hlk hK7 hK13 _ _ _ _ _ _ _ hwp)
theorem t_Rm_layBack_13 {p : Program} {l : Launch} {e : Env} {R : Room} {s : State} {m : MethodId} {args : Array Value} {below : List Frame} {meth : Method} {c : Code} (G : mG) (C0 : Cx G p s m args c prog_8_method_39_code 5 "BassRealiserModel") (hR : 3 ≤ R.frames ∧ 73 ≤ R.locals ∧ 0 ≤ R.cells ∧ 0 ≤ R.slots) (hr : meth.sig.returnType = none) (hlk : meth.locks = false) {Post : MH → Prop} {K7 : Nat → Int32 → MH → Prop} (hK7 : ∀ (l0 : Nat) (l1 : Int32) (h : MH), K7 l0 l1 h → WG p l e R s m args below meth c 0 0 (MQ below (va_Qv Post (Wd G) (mA G)) args s 0 0 (mA G)) G 5 [(0, .ref (m_b G + l0)), (1, .int l1)] 7 [] h) (l0 : Nat) (l1 : Int32) (l2 : Int32) (h : MH) (hwp : wp_Rm_layBack_13 K7 Post l0 l1 l2 h) : WG p l e R s m args below meth c 0 0 (MQ below (va_Qv Post (Wd G) (mA G)) args s 0 0 (mA G)) G 5 [(0, .ref (m_b G + l0)), (1, .int l1), (2, .int l2)] 13 [] h := by
  obtain ⟨n, hwp⟩ := hwp
  induction n generalizing l0 l1 l2 h with
  | zero => exact False.elim hwp
  | succ n ih => exact tb_Rm_layBack_13 G C0 hR hr hlk hK7 (fun l0 l1 l2 h hwp => ih l0 l1 l2 h hwp) l0 l1 l2 h hwp
set_option maxRecDepth 100000 in
set_option maxHeartbeats 4000000 in
theorem tb_Rm_layBack_7 {p : Program} {l : Launch} {e : Env} {R : Room} {s : State} {m : MethodId} {args : Array Value} {below : List Frame} {meth : Method} {c : Code} (G : mG) (C0 : Cx G p s m args c prog_8_method_39_code 5 "BassRealiserModel") (hR : 3 ≤ R.frames ∧ 73 ≤ R.locals ∧ 0 ≤ R.cells ∧ 0 ≤ R.slots) (hr : meth.sig.returnType = none) (hlk : meth.locks = false) {Post : MH → Prop} {K7 : Nat → Int32 → MH → Prop} (hK7 : ∀ (l0 : Nat) (l1 : Int32) (h : MH), K7 l0 l1 h → WG p l e R s m args below meth c 0 0 (MQ below (va_Qv Post (Wd G) (mA G)) args s 0 0 (mA G)) G 5 [(0, .ref (m_b G + l0)), (1, .int l1)] 7 [] h) (l0 : Nat) (l1 : Int32) (h : MH) (hwp : wb_Rm_layBack_7 K7 Post l0 l1 h) : WG p l e R s m args below meth c 0 0 (MQ below (va_Qv Post (Wd G) (mA G)) args s 0 0 (mA G)) G 5 [(0, .ref (m_b G + l0)), (1, .int l1)] 7 [] h := by
  unfold wb_Rm_layBack_7 at hwp
  refine x_iload_n C0 1 d_Rm_layBack_7 rfl rfl ?_
  refine x_if_lt (tgt := 219) C0 d_Rm_layBack_8 (by decide) (fun c8 => ?_) (fun c8 => ?_)
  · replace hwp := hwp.1 c8
    exact x_vret C0 hr hlk hwp d_Rm_layBack_219
  · replace hwp := hwp.2 c8
    refine x_iconst (v := 0) C0 d_Rm_layBack_11 (by decide) ?_
    refine x_istore_n C0 d_Rm_layBack_12 rfl (by decide) (lv' := [(2, .int (0 : Int32)), (0, .ref (m_b G + l0)), (1, .int l1)]) rfl ?_
    exact x_sub [1, 2, 0] rfl (t_Rm_layBack_13 G C0 hR hr hlk hK7 _ _ _ _ hwp)
theorem t_Rm_layBack_7 {p : Program} {l : Launch} {e : Env} {R : Room} {s : State} {m : MethodId} {args : Array Value} {below : List Frame} {meth : Method} {c : Code} (G : mG) (C0 : Cx G p s m args c prog_8_method_39_code 5 "BassRealiserModel") (hR : 3 ≤ R.frames ∧ 73 ≤ R.locals ∧ 0 ≤ R.cells ∧ 0 ≤ R.slots) (hr : meth.sig.returnType = none) (hlk : meth.locks = false) {Post : MH → Prop} (l0 : Nat) (l1 : Int32) (h : MH) (hwp : wp_Rm_layBack_7 Post l0 l1 h) : WG p l e R s m args below meth c 0 0 (MQ below (va_Qv Post (Wd G) (mA G)) args s 0 0 (mA G)) G 5 [(0, .ref (m_b G + l0)), (1, .int l1)] 7 [] h := by
  obtain ⟨n, hwp⟩ := hwp
  induction n generalizing l0 l1 h with
  | zero => exact False.elim hwp
  | succ n ih => exact tb_Rm_layBack_7 G C0 hR hr hlk (fun l0 l1 h hwp => ih l0 l1 h hwp) l0 l1 h hwp
set_option maxRecDepth 100000 in
set_option maxHeartbeats 4000000 in
theorem t_Rm_layBack {p : Program} {l : Launch} {e : Env} {R : Room} {s : State} {m : MethodId} {args : Array Value} {below : List Frame} {meth : Method} {c : Code} (G : mG) (C0 : Cx G p s m args c prog_8_method_39_code 5 "BassRealiserModel") (hR : 3 ≤ R.frames ∧ 73 ≤ R.locals ∧ 0 ≤ R.cells ∧ 0 ≤ R.slots) (hr : meth.sig.returnType = none) (hlk : meth.locks = false) {Post : MH → Prop} (l0 : Nat) (h : MH) (hwp : wp_Rm_layBack Post l0 h) : WG p l e R s m args below meth c 0 0 (MQ below (va_Qv Post (Wd G) (mA G)) args s 0 0 (mA G)) G 5 [(0, .ref (m_b G + l0))] 0 [] h := by
  unfold wp_Rm_layBack at hwp
  refine x_aload_n C0 0 d_Rm_layBack_0 rfl rfl ?_
  obtain ⟨x1, e1, hwp⟩ := hwp
  refine x_getI C0 fk_Rm_79 e1 d_Rm_layBack_1 ?_
  refine x_iconst (v := 1) C0 d_Rm_layBack_4 (by decide) ?_
  refine x_isub C0 d_Rm_layBack_5 ?_
  refine x_topI (fun z6 e6 => ?_)
  replace hwp := hwp z6 e6
  refine x_istore_n C0 d_Rm_layBack_6 rfl (by decide) (lv' := [(1, .int z6), (0, .ref (m_b G + l0))]) rfl ?_
  exact x_sub [1, 0] rfl (t_Rm_layBack_7 G C0 hR hr hlk  _ _ _ hwp)
set_option maxRecDepth 100000 in
set_option maxHeartbeats 4000000 in
theorem c_Rm_layBack (l : Launch) (G : mG) {Post : MH → Prop} {l0 : Nat} {h : MH} (hwp : wp_Rm_layBack Post l0 h) : Met l y_Rm_layBack (Cond.code y_Rm_layBack prog_8_method_39_code 5 (Option.none : Option Jvm.ClassFile.FieldType) :: lw_good) ({ frames := 3, cells := 0, slots := 0, locals := 73 }) (va_Pc [.ref (m_b G + l0)] (Wd G h)) (va_Qv Post (Wd G) (mA G)) 0 0 (mA G) := by
  refine Met.ofW (cc := prog_8_method_39_code) (maxL := 5) (ret := (Option.none : Option Jvm.ClassFile.FieldType)) (by decide +kernel) rfl ?_
  intro p e s m args below meth c s₁ B hml hv
  obtain ⟨rfl, hP, hz, hK, hSt⟩ := hv
  have hts := atoms_spec (ws := Cond.code y_Rm_layBack prog_8_method_39_code 5 (Option.none : Option Jvm.ClassFile.FieldType) :: lw_good) B.pre
  have C0 : Cx G p s m ([.ref (m_b G + l0)] : List Value).toArray c prog_8_method_39_code 5 "BassRealiserModel" := ⟨⟨B.exec, B.bytes, hml, findClass_of_methodNamed B.named, fun w h => hts w (List.mem_cons_of_mem _ h)⟩, hK, hSt, by rw [hz]; exact Nat.le_add_right _ _⟩
  have hl := lv_entry ([.ref (m_b G + l0)]) (n := 5) (Nat.le_of_ble_eq_true rfl)
  rw [lg_entry_eq]
  exact t_Rm_layBack G C0 ⟨Nat.le_refl _, Nat.le_refl _, Nat.le_refl _, Nat.le_refl _⟩ B.returns B.notSynchronized _ _ hwp _ _ _ ⟨hP, hz, va_S.rf⟩ hl
def wp_Rm_lay_247 (K20 : Nat → Int32 → MH → Prop) (Post : MH → Prop) (l0 : Nat) (l1 : Int32) (y0 : Nat) (y1 : Int32) (h : MH) : Prop :=
  (∃ o : MV, gF h y0 6 24 = some o) ∧ ∀ h247 : MH, h247 = fset h y0 24 (.inl y1 : MV) →
  (K20 l0 (l1 + (1 : Int32)) h247)
def wp_Rm_lay_243 (K20 : Nat → Int32 → MH → Prop) (Post : MH → Prop) (l0 : Nat) (l1 : Int32) (y0 : Nat) (h : MH) : Prop :=
  ∃ x244 : Int32, gF h l0 6 24 = some (.inl x244) ∧
  (wp_Rm_lay_247 K20 Post l0 l1 y0 x244 h)
def wp_Rm_lay_220 (K20 : Nat → Int32 → MH → Prop) (K37 : Nat → Int32 → Int32 → Int32 → MH → Prop) (Post : MH → Prop) (l0 : Nat) (l1 : Int32) (l3 : Int32) (y0 : Int32) (h : MH) : Prop :=
  K37 l0 l1 y0 (l3 + (1 : Int32)) h
def wp_Rm_lay_215 (K20 : Nat → Int32 → MH → Prop) (K37 : Nat → Int32 → Int32 → Int32 → MH → Prop) (Post : MH → Prop) (l0 : Nat) (l1 : Int32) (l3 : Int32) (h : MH) : Prop :=
  wp_Rm_lay_220 K20 K37 Post l0 l1 l3 (1 : Int32) h
def wp_Rm_lay_203 (K20 : Nat → Int32 → MH → Prop) (K37 : Nat → Int32 → Int32 → Int32 → MH → Prop) (Post : MH → Prop) (l0 : Nat) (l1 : Int32) (l2 : Int32) (l3 : Int32) (l4 : Int64) (y0 : Nat) (y1 : Int32) (y2 : Int64) (h : MH) : Prop :=
  ∃ (n203 : Nat) (f203 : Nat → Int64), gL h y0 2 = some (n203, f203) ∧ vp_in y1 n203 ∧ ∀ h203 : MH, h203 = mset h y0 (.inr (2, n203, .inr (.inl (vp_updL f203 (y1).toNatClampNeg y2)))) →
  (((¬ l2 = 0) →
      (wp_Rm_lay_215 K20 K37 Post l0 l1 l3 h203)) ∧
    ((l2 = 0) →
      ((((lg_cmp l4 (0 : Int64)) ≤ 0) →
          (wp_Rm_lay_220 K20 K37 Post l0 l1 l3 (0 : Int32) h203)) ∧
        ((¬ (lg_cmp l4 (0 : Int64)) ≤ 0) →
          (wp_Rm_lay_215 K20 K37 Post l0 l1 l3 h203)))))
def wp_Rm_lay_169 (K20 : Nat → Int32 → MH → Prop) (K37 : Nat → Int32 → Int32 → Int32 → MH → Prop) (K82 : Nat → Int32 → Int32 → Int32 → Int64 → Int32 → MH → Prop) (Post : MH → Prop) (l0 : Nat) (l1 : Int32) (l2 : Int32) (l3 : Int32) (l4 : Int64) (l6 : Int32) (h : MH) : Prop :=
  K82 l0 l1 l2 l3 l4 (l6 + (1 : Int32)) h
def wp_Rm_lay_167 (K20 : Nat → Int32 → MH → Prop) (K37 : Nat → Int32 → Int32 → Int32 → MH → Prop) (K82 : Nat → Int32 → Int32 → Int32 → Int64 → Int32 → MH → Prop) (Post : MH → Prop) (l0 : Nat) (l1 : Int32) (l2 : Int32) (l3 : Int32) (l6 : Int32) (y0 : Int64) (h : MH) : Prop :=
  wp_Rm_lay_169 K20 K37 K82 Post l0 l1 l2 l3 y0 l6 h
def wp_Rm_lay_100 (K20 : Nat → Int32 → MH → Prop) (K37 : Nat → Int32 → Int32 → Int32 → MH → Prop) (K82 : Nat → Int32 → Int32 → Int32 → Int64 → Int32 → MH → Prop) (Post : MH → Prop) (l0 : Nat) (l1 : Int32) (l2 : Int32) (l3 : Int32) (l4 : Int64) (l6 : Int32) (y0 : Int32) (y1 : Int32) (h : MH) : Prop :=
  ((y1 ≤ y0) →
    (∃ x176 : Nat, gF h l0 6 23 = some (.inr (some x176)) ∧
      ((((lg_cmp l4 (1000000000 : Int64)) ≤ 0) →
          (wp_Rm_lay_203 K20 K37 Post l0 l1 l2 l3 l4 x176 (((800 : Int32) * l1) + l3) l4 h)) ∧
        ((¬ (lg_cmp l4 (1000000000 : Int64)) ≤ 0) →
          (wp_Rm_lay_203 K20 K37 Post l0 l1 l2 l3 l4 x176 (((800 : Int32) * l1) + l3) (1000000000 : Int64) h))))) ∧
  ((¬ y1 ≤ y0) →
    (∃ x104 : Nat, gF h l0 6 23 = some (.inr (some x104)) ∧
      (∃ (n117 : Nat) (f117 : Nat → Int64), gL h x104 2 = some (n117, f117) ∧ vp_in (((800 : Int32) * (l1 - (1 : Int32))) + l6) n117 ∧
        ((((lg_cmp (f117 (((800 : Int32) * (l1 - (1 : Int32))) + l6).toNatClampNeg) (0 : Int64)) ≤ 0) →
            (wp_Rm_lay_169 K20 K37 K82 Post l0 l1 l2 l3 l4 l6 h)) ∧
          ((¬ (lg_cmp (f117 (((800 : Int32) * (l1 - (1 : Int32))) + l6).toNatClampNeg) (0 : Int64)) ≤ 0) →
            (∃ x130 : Nat, gF h l0 6 15 = some (.inr (some x130)) ∧
              (gC h l0 = some 6 ∧ wp_Rm_take (fun (h133 : MH) =>
                  (gC h133 l0 = some 6 ∧ wp_Rm_pairRule (fun (r138 : Int32) (h138 : MH) =>
                      (((¬ r138 = 0) →
                        (wp_Rm_lay_167 K20 K37 K82 Post l0 l1 l2 l3 l6 l4 h138)) ∧
                        ((r138 = 0) →
                        (∃ x147 : Nat, gF h138 l0 6 23 = some (.inr (some x147)) ∧
                        (∃ (n160 : Nat) (f160 : Nat → Int64), gL h138 x147 2 = some (n160, f160) ∧ vp_in (((800 : Int32) * (l1 - (1 : Int32))) + l6) n160 ∧
                        (wp_Rm_lay_167 K20 K37 K82 Post l0 l1 l2 l3 l6 (l4 + (f160 (((800 : Int32) * (l1 - (1 : Int32))) + l6).toNatClampNeg)) h138)))))) l0 l1 h133)) l0 (l1 - (1 : Int32)) l6 x130 h)))))))
def wb_Rm_lay_82 (K20 : Nat → Int32 → MH → Prop) (K37 : Nat → Int32 → Int32 → Int32 → MH → Prop) (K82 : Nat → Int32 → Int32 → Int32 → Int64 → Int32 → MH → Prop) (Post : MH → Prop) (l0 : Nat) (l1 : Int32) (l2 : Int32) (l3 : Int32) (l4 : Int64) (l6 : Int32) (h : MH) : Prop :=
  ((¬ l1 = 0) →
    (∃ x93 : Nat, gF h l0 6 21 = some (.inr (some x93)) ∧
      (∃ (n99 : Nat) (f99 : Nat → Int32), gA h x93 0 = some (n99, f99) ∧ vp_in (l1 - (1 : Int32)) n99 ∧
        (wp_Rm_lay_100 K20 K37 K82 Post l0 l1 l2 l3 l4 l6 l6 (f99 (l1 - (1 : Int32)).toNatClampNeg) h)))) ∧
  ((l1 = 0) →
    (wp_Rm_lay_100 K20 K37 K82 Post l0 l1 l2 l3 l4 l6 l6 (0 : Int32) h))
def wn_Rm_lay_82 (K20 : Nat → Int32 → MH → Prop) (K37 : Nat → Int32 → Int32 → Int32 → MH → Prop) (Post : MH → Prop) : Nat → Nat → Int32 → Int32 → Int32 → Int64 → Int32 → MH → Prop
  | 0 => fun _ _ _ _ _ _ _ => False
  | n + 1 => wb_Rm_lay_82 K20 K37 (wn_Rm_lay_82 K20 K37 Post n) Post
def wp_Rm_lay_82 (K20 : Nat → Int32 → MH → Prop) (K37 : Nat → Int32 → Int32 → Int32 → MH → Prop) (Post : MH → Prop) (l0 : Nat) (l1 : Int32) (l2 : Int32) (l3 : Int32) (l4 : Int64) (l6 : Int32) (h : MH) : Prop := ∃ n, wn_Rm_lay_82 K20 K37 Post n l0 l1 l2 l3 l4 l6 h
def wp_Rm_lay_79 (K20 : Nat → Int32 → MH → Prop) (K37 : Nat → Int32 → Int32 → Int32 → MH → Prop) (Post : MH → Prop) (l0 : Nat) (l1 : Int32) (l2 : Int32) (l3 : Int32) (l4 : Int64) (h : MH) : Prop :=
  wp_Rm_lay_82 K20 K37 Post l0 l1 l2 l3 l4 (0 : Int32) h
def wp_Rm_lay_77 (K20 : Nat → Int32 → MH → Prop) (K37 : Nat → Int32 → Int32 → Int32 → MH → Prop) (Post : MH → Prop) (l0 : Nat) (l1 : Int32) (l2 : Int32) (l3 : Int32) (y0 : Int64) (h : MH) : Prop :=
  wp_Rm_lay_79 K20 K37 Post l0 l1 l2 l3 y0 h
def wb_Rm_lay_37 (K20 : Nat → Int32 → MH → Prop) (K37 : Nat → Int32 → Int32 → Int32 → MH → Prop) (Post : MH → Prop) (l0 : Nat) (l1 : Int32) (l2 : Int32) (l3 : Int32) (h : MH) : Prop :=
  ∃ x39 : Nat, gF h l0 6 21 = some (.inr (some x39)) ∧
  (∃ (n43 : Nat) (f43 : Nat → Int32), gA h x39 0 = some (n43, f43) ∧ vp_in l1 n43 ∧
    ((((f43 (l1).toNatClampNeg) ≤ l3) →
        (((¬ l2 = 0) →
            (wp_Rm_lay_243 K20 Post l0 l1 l0 h)) ∧
          ((l2 = 0) →
            (∃ x233 : Int32, gF h l0 6 24 = some (.inl x233) ∧
              (((0 ≤ x233) →
                  (wp_Rm_lay_243 K20 Post l0 l1 l0 h)) ∧
                ((¬ 0 ≤ x233) →
                  (wp_Rm_lay_247 K20 Post l0 l1 l0 l1 h))))))) ∧
      ((¬ (f43 (l1).toNatClampNeg) ≤ l3) →
        (∃ x51 : Nat, gF h l0 6 14 = some (.inr (some x51)) ∧
          (gC h l0 = some 6 ∧ wp_Rm_take (fun (h54 : MH) =>
              (((¬ l1 = 0) →
                  (wp_Rm_lay_79 K20 K37 Post l0 l1 l2 l3 (0 : Int64) h54)) ∧
                ((l1 = 0) →
                  (gC h54 l0 = some 6 ∧ wp_Rm_pairRule (fun (r66 : Int32) (h66 : MH) =>
                      (((¬ r66 = 0) →
                        (wp_Rm_lay_77 K20 K37 Post l0 l1 l2 l3 (0 : Int64) h66)) ∧
                        ((r66 = 0) →
                        (wp_Rm_lay_77 K20 K37 Post l0 l1 l2 l3 (1 : Int64) h66)))) l0 (0 : Int32) h54)))) l0 l1 l3 x51 h)))))
def wn_Rm_lay_37 (K20 : Nat → Int32 → MH → Prop) (Post : MH → Prop) : Nat → Nat → Int32 → Int32 → Int32 → MH → Prop
  | 0 => fun _ _ _ _ _ => False
  | n + 1 => wb_Rm_lay_37 K20 (wn_Rm_lay_37 K20 Post n) Post
def wp_Rm_lay_37 (K20 : Nat → Int32 → MH → Prop) (Post : MH → Prop) (l0 : Nat) (l1 : Int32) (l2 : Int32) (l3 : Int32) (h : MH) : Prop := ∃ n, wn_Rm_lay_37 K20 Post n l0 l1 l2 l3 h
def wb_Rm_lay_20 (K20 : Nat → Int32 → MH → Prop) (Post : MH → Prop) (l0 : Nat) (l1 : Int32) (h : MH) : Prop :=
  ∃ x22 : Int32, gF h l0 6 2 = some (.inl x22) ∧
  (((x22 ≤ l1) →
      (gC h l0 = some 6 ∧ wp_Rm_layBack (fun (h257 : MH) =>
          (Post h257)) l0 h)) ∧
    ((¬ x22 ≤ l1) →
      (gC h l0 = some 6 ∧ wp_Rm_tryAll (fun (h30 : MH) =>
          (wp_Rm_lay_37 K20 Post l0 l1 (0 : Int32) (0 : Int32) h30)) l0 l1 h)))
def wn_Rm_lay_20 (Post : MH → Prop) : Nat → Nat → Int32 → MH → Prop
  | 0 => fun _ _ _ => False
  | n + 1 => wb_Rm_lay_20 (wn_Rm_lay_20 Post n) Post
def wp_Rm_lay_20 (Post : MH → Prop) (l0 : Nat) (l1 : Int32) (h : MH) : Prop := ∃ n, wn_Rm_lay_20 Post n l0 l1 h
def wp_Rm_lay (Post : MH → Prop) (l0 : Nat) (h : MH) : Prop :=
  ∃ x1 : Int32, gF h l0 6 19 = some (.inl x1) ∧
  (((x1 = 0) →
      ((∃ o : MV, gF h l0 6 19 = some o) ∧ ∀ h10 : MH, h10 = fset h l0 19 (.inl (1 : Int32) : MV) →
        ((∃ o : MV, gF h10 l0 6 24 = some o) ∧ ∀ h15 : MH, h15 = fset h10 l0 24 (.inl (-1 : Int32) : MV) →
          (wp_Rm_lay_20 Post l0 (0 : Int32) h15)))) ∧
    ((¬ x1 = 0) →
      (Post h)))
set_option maxRecDepth 100000 in
set_option maxHeartbeats 4000000 in
theorem t_Rm_lay_247 {p : Program} {l : Launch} {e : Env} {R : Room} {s : State} {m : MethodId} {args : Array Value} {below : List Frame} {meth : Method} {c : Code} (G : mG) (C0 : Cx G p s m args c prog_8_method_38_code 7 "BassRealiserModel") (hR : 5 ≤ R.frames ∧ 115 ≤ R.locals ∧ 0 ≤ R.cells ∧ 0 ≤ R.slots) (hr : meth.sig.returnType = none) (hlk : meth.locks = false) {Post : MH → Prop} {K20 : Nat → Int32 → MH → Prop} (hK20 : ∀ (l0 : Nat) (l1 : Int32) (h : MH), K20 l0 l1 h → WG p l e R s m args below meth c 0 0 (MQ below (va_Qv Post (Wd G) (mA G)) args s 0 0 (mA G)) G 7 [(0, .ref (m_b G + l0)), (1, .int l1)] 20 [] h) (l0 : Nat) (l1 : Int32) (y0 : Nat) (y1 : Int32) (h : MH) (hwp : wp_Rm_lay_247 K20 Post l0 l1 y0 y1 h) : WG p l e R s m args below meth c 0 0 (MQ below (va_Qv Post (Wd G) (mA G)) args s 0 0 (mA G)) G 7 [(0, .ref (m_b G + l0)), (1, .int l1)] 247 [.int y1, .ref (m_b G + y0)] h := by
  unfold wp_Rm_lay_247 at hwp
  obtain ⟨⟨o247, e247⟩, hwp⟩ := hwp
  refine x_put (x := (.inl y1 : MV)) C0 pk_Rm_177 e247 rfl rfl d_Rm_lay_247 ?_
  refine x_nh (fun h247 eh247 => ?_)
  replace hwp := hwp h247 eh247
  refine x_iinc C0 1 d_Rm_lay_250 rfl rfl (by decide) (lv' := [(1, .int (l1 + (1 : Int32))), (0, .ref (m_b G + l0))]) rfl ?_
  refine x_goto (tgt := 20) C0 d_Rm_lay_253 (by decide) ?_
  exact x_sub [1, 0] rfl (hK20 _ _ _ hwp)
set_option maxRecDepth 100000 in
set_option maxHeartbeats 4000000 in
theorem t_Rm_lay_243 {p : Program} {l : Launch} {e : Env} {R : Room} {s : State} {m : MethodId} {args : Array Value} {below : List Frame} {meth : Method} {c : Code} (G : mG) (C0 : Cx G p s m args c prog_8_method_38_code 7 "BassRealiserModel") (hR : 5 ≤ R.frames ∧ 115 ≤ R.locals ∧ 0 ≤ R.cells ∧ 0 ≤ R.slots) (hr : meth.sig.returnType = none) (hlk : meth.locks = false) {Post : MH → Prop} {K20 : Nat → Int32 → MH → Prop} (hK20 : ∀ (l0 : Nat) (l1 : Int32) (h : MH), K20 l0 l1 h → WG p l e R s m args below meth c 0 0 (MQ below (va_Qv Post (Wd G) (mA G)) args s 0 0 (mA G)) G 7 [(0, .ref (m_b G + l0)), (1, .int l1)] 20 [] h) (l0 : Nat) (l1 : Int32) (y0 : Nat) (h : MH) (hwp : wp_Rm_lay_243 K20 Post l0 l1 y0 h) : WG p l e R s m args below meth c 0 0 (MQ below (va_Qv Post (Wd G) (mA G)) args s 0 0 (mA G)) G 7 [(0, .ref (m_b G + l0)), (1, .int l1)] 243 [.ref (m_b G + y0)] h := by
  unfold wp_Rm_lay_243 at hwp
  refine x_aload_n C0 0 d_Rm_lay_243 rfl rfl ?_
  obtain ⟨x244, e244, hwp⟩ := hwp
  refine x_getI C0 fk_Rm_177 e244 d_Rm_lay_244 ?_
  exact x_sub [0, 1] rfl (t_Rm_lay_247 G C0 hR hr hlk hK20 _ _ _ _ _ hwp)
set_option maxRecDepth 100000 in
set_option maxHeartbeats 4000000 in
theorem t_Rm_lay_220 {p : Program} {l : Launch} {e : Env} {R : Room} {s : State} {m : MethodId} {args : Array Value} {below : List Frame} {meth : Method} {c : Code} (G : mG) (C0 : Cx G p s m args c prog_8_method_38_code 7 "BassRealiserModel") (hR : 5 ≤ R.frames ∧ 115 ≤ R.locals ∧ 0 ≤ R.cells ∧ 0 ≤ R.slots) (hr : meth.sig.returnType = none) (hlk : meth.locks = false) {Post : MH → Prop} {K20 : Nat → Int32 → MH → Prop} {K37 : Nat → Int32 → Int32 → Int32 → MH → Prop} (hK20 : ∀ (l0 : Nat) (l1 : Int32) (h : MH), K20 l0 l1 h → WG p l e R s m args below meth c 0 0 (MQ below (va_Qv Post (Wd G) (mA G)) args s 0 0 (mA G)) G 7 [(0, .ref (m_b G + l0)), (1, .int l1)] 20 [] h) (hK37 : ∀ (l0 : Nat) (l1 : Int32) (l2 : Int32) (l3 : Int32) (h : MH), K37 l0 l1 l2 l3 h → WG p l e R s m args below meth c 0 0 (MQ below (va_Qv Post (Wd G) (mA G)) args s 0 0 (mA G)) G 7 [(0, .ref (m_b G + l0)), (1, .int l1), (2, .int l2), (3, .int l3)] 37 [] h) (l0 : Nat) (l1 : Int32) (l3 : Int32) (y0 : Int32) (h : MH) (hwp : wp_Rm_lay_220 K20 K37 Post l0 l1 l3 y0 h) : WG p l e R s m args below meth c 0 0 (MQ below (va_Qv Post (Wd G) (mA G)) args s 0 0 (mA G)) G 7 [(0, .ref (m_b G + l0)), (1, .int l1), (3, .int l3)] 220 [.int y0] h := by
  unfold wp_Rm_lay_220 at hwp
  refine x_istore_n C0 d_Rm_lay_220 rfl (by decide) (lv' := [(2, .int y0), (0, .ref (m_b G + l0)), (1, .int l1), (3, .int l3)]) rfl ?_
  refine x_iinc C0 3 d_Rm_lay_221 rfl rfl (by decide) (lv' := [(3, .int (l3 + (1 : Int32))), (2, .int y0), (0, .ref (m_b G + l0)), (1, .int l1)]) rfl ?_
  refine x_goto (tgt := 37) C0 d_Rm_lay_224 (by decide) ?_
  exact x_sub [2, 3, 1, 0] rfl (hK37 _ _ _ _ _ hwp)
set_option maxRecDepth 100000 in
set_option maxHeartbeats 4000000 in
theorem t_Rm_lay_215 {p : Program} {l : Launch} {e : Env} {R : Room} {s : State} {m : MethodId} {args : Array Value} {below : List Frame} {meth : Method} {c : Code} (G : mG) (C0 : Cx G p s m args c prog_8_method_38_code 7 "BassRealiserModel") (hR : 5 ≤ R.frames ∧ 115 ≤ R.locals ∧ 0 ≤ R.cells ∧ 0 ≤ R.slots) (hr : meth.sig.returnType = none) (hlk : meth.locks = false) {Post : MH → Prop} {K20 : Nat → Int32 → MH → Prop} {K37 : Nat → Int32 → Int32 → Int32 → MH → Prop} (hK20 : ∀ (l0 : Nat) (l1 : Int32) (h : MH), K20 l0 l1 h → WG p l e R s m args below meth c 0 0 (MQ below (va_Qv Post (Wd G) (mA G)) args s 0 0 (mA G)) G 7 [(0, .ref (m_b G + l0)), (1, .int l1)] 20 [] h) (hK37 : ∀ (l0 : Nat) (l1 : Int32) (l2 : Int32) (l3 : Int32) (h : MH), K37 l0 l1 l2 l3 h → WG p l e R s m args below meth c 0 0 (MQ below (va_Qv Post (Wd G) (mA G)) args s 0 0 (mA G)) G 7 [(0, .ref (m_b G + l0)), (1, .int l1), (2, .int l2), (3, .int l3)] 37 [] h) (l0 : Nat) (l1 : Int32) (l3 : Int32) (h : MH) (hwp : wp_Rm_lay_215 K20 K37 Post l0 l1 l3 h) : WG p l e R s m args below meth c 0 0 (MQ below (va_Qv Post (Wd G) (mA G)) args s 0 0 (mA G)) G 7 [(0, .ref (m_b G + l0)), (1, .int l1), (3, .int l3)] 215 [] h := by
  unfold wp_Rm_lay_215 at hwp
  refine x_iconst (v := 1) C0 d_Rm_lay_215 (by decide) ?_
  refine x_goto (tgt := 220) C0 d_Rm_lay_216 (by decide) ?_
  exact x_sub [0, 1, 2] rfl (t_Rm_lay_220 G C0 hR hr hlk hK20 hK37 _ _ _ _ _ hwp)
set_option maxRecDepth 100000 in
set_option maxHeartbeats 4000000 in
theorem t_Rm_lay_203 {p : Program} {l : Launch} {e : Env} {R : Room} {s : State} {m : MethodId} {args : Array Value} {below : List Frame} {meth : Method} {c : Code} (G : mG) (C0 : Cx G p s m args c prog_8_method_38_code 7 "BassRealiserModel") (hR : 5 ≤ R.frames ∧ 115 ≤ R.locals ∧ 0 ≤ R.cells ∧ 0 ≤ R.slots) (hr : meth.sig.returnType = none) (hlk : meth.locks = false) {Post : MH → Prop} {K20 : Nat → Int32 → MH → Prop} {K37 : Nat → Int32 → Int32 → Int32 → MH → Prop} (hK20 : ∀ (l0 : Nat) (l1 : Int32) (h : MH), K20 l0 l1 h → WG p l e R s m args below meth c 0 0 (MQ below (va_Qv Post (Wd G) (mA G)) args s 0 0 (mA G)) G 7 [(0, .ref (m_b G + l0)), (1, .int l1)] 20 [] h) (hK37 : ∀ (l0 : Nat) (l1 : Int32) (l2 : Int32) (l3 : Int32) (h : MH), K37 l0 l1 l2 l3 h → WG p l e R s m args below meth c 0 0 (MQ below (va_Qv Post (Wd G) (mA G)) args s 0 0 (mA G)) G 7 [(0, .ref (m_b G + l0)), (1, .int l1), (2, .int l2), (3, .int l3)] 37 [] h) (l0 : Nat) (l1 : Int32) (l2 : Int32) (l3 : Int32) (l4 : Int64) (y0 : Nat) (y1 : Int32) (y2 : Int64) (h : MH) (hwp : wp_Rm_lay_203 K20 K37 Post l0 l1 l2 l3 l4 y0 y1 y2 h) : WG p l e R s m args below meth c 0 0 (MQ below (va_Qv Post (Wd G) (mA G)) args s 0 0 (mA G)) G 7 [(0, .ref (m_b G + l0)), (1, .int l1), (2, .int l2), (3, .int l3), (4, .long l4)] 203 [.long y2, .int y1, .ref (m_b G + y0)] h := by
  unfold wp_Rm_lay_203 at hwp
  obtain ⟨n203, f203, e203, i203, hwp⟩ := hwp
  refine x_last C0 e203 i203 d_Rm_lay_203 ?_
  refine x_nh (fun h203 eh203 => ?_)
  replace hwp := hwp h203 eh203
  refine x_iload_n C0 2 d_Rm_lay_204 rfl rfl ?_
  refine x_if_ne (tgt := 215) C0 d_Rm_lay_205 (by decide) (fun c205 => ?_) (fun c205 => ?_)
  · replace hwp := hwp.1 c205
    exact x_sub [0, 1, 3] rfl (t_Rm_lay_215 G C0 hR hr hlk hK20 hK37 _ _ _ _ hwp)
  · replace hwp := hwp.2 c205
    refine x_lload C0 4 d_Rm_lay_208 rfl ?_
    refine x_lconst (v := 0) C0 d_Rm_lay_210 (by decide) ?_
    refine x_lcmp C0 d_Rm_lay_211 ?_
    refine x_if_le (tgt := 219) C0 d_Rm_lay_212 (by decide) (fun c212 => ?_) (fun c212 => ?_)
    · replace hwp := hwp.1 c212
      refine x_iconst (v := 0) C0 d_Rm_lay_219 (by decide) ?_
      exact x_sub [0, 1, 3] rfl (t_Rm_lay_220 G C0 hR hr hlk hK20 hK37 _ _ _ _ _ hwp)
    · replace hwp := hwp.2 c212
      exact x_sub [0, 1, 3] rfl (t_Rm_lay_215 G C0 hR hr hlk hK20 hK37 _ _ _ _ hwp)
set_option maxRecDepth 100000 in
set_option maxHeartbeats 4000000 in
theorem t_Rm_lay_169 {p : Program} {l : Launch} {e : Env} {R : Room} {s : State} {m : MethodId} {args : Array Value} {below : List Frame} {meth : Method} {c : Code} (G : mG) (C0 : Cx G p s m args c prog_8_method_38_code 7 "BassRealiserModel") (hR : 5 ≤ R.frames ∧ 115 ≤ R.locals ∧ 0 ≤ R.cells ∧ 0 ≤ R.slots) (hr : meth.sig.returnType = none) (hlk : meth.locks = false) {Post : MH → Prop} {K20 : Nat → Int32 → MH → Prop} {K37 : Nat → Int32 → Int32 → Int32 → MH → Prop} {K82 : Nat → Int32 → Int32 → Int32 → Int64 → Int32 → MH → Prop} (hK20 : ∀ (l0 : Nat) (l1 : Int32) (h : MH), K20 l0 l1 h → WG p l e R s m args below meth c 0 0 (MQ below (va_Qv Post (Wd G) (mA G)) args s 0 0 (mA G)) G 7 [(0, .ref (m_b G + l0)), (1, .int l1)] 20 [] h) (hK37 : ∀ (l0 : Nat) (l1 : Int32) (l2 : Int32) (l3 : Int32) (h : MH), K37 l0 l1 l2 l3 h → WG p l e R s m args below meth c 0 0 (MQ below (va_Qv Post (Wd G) (mA G)) args s 0 0 (mA G)) G 7 [(0, .ref (m_b G + l0)), (1, .int l1), (2, .int l2), (3, .int l3)] 37 [] h) (hK82 : ∀ (l0 : Nat) (l1 : Int32) (l2 : Int32) (l3 : Int32) (l4 : Int64) (l6 : Int32) (h : MH), K82 l0 l1 l2 l3 l4 l6 h → WG p l e R s m args below meth c 0 0 (MQ below (va_Qv Post (Wd G) (mA G)) args s 0 0 (mA G)) G 7 [(0, .ref (m_b G + l0)), (1, .int l1), (2, .int l2), (3, .int l3), (4, .long l4), (6, .int l6)] 82 [] h) (l0 : Nat) (l1 : Int32) (l2 : Int32) (l3 : Int32) (l4 : Int64) (l6 : Int32) (h : MH) (hwp : wp_Rm_lay_169 K20 K37 K82 Post l0 l1 l2 l3 l4 l6 h) : WG p l e R s m args below meth c 0 0 (MQ below (va_Qv Post (Wd G) (mA G)) args s 0 0 (mA G)) G 7 [(0, .ref (m_b G + l0)), (1, .int l1), (2, .int l2), (3, .int l3), (4, .long l4), (6, .int l6)] 169 [] h := by
  unfold wp_Rm_lay_169 at hwp
  refine x_iinc C0 5 d_Rm_lay_169 rfl rfl (by decide) (lv' := [(6, .int (l6 + (1 : Int32))), (0, .ref (m_b G + l0)), (1, .int l1), (2, .int l2), (3, .int l3), (4, .long l4)]) rfl ?_
  refine x_goto (tgt := 82) C0 d_Rm_lay_172 (by decide) ?_
  exact x_sub [1, 2, 3, 4, 5, 0] rfl (hK82 _ _ _ _ _ _ _ hwp)
set_option maxRecDepth 100000 in
set_option maxHeartbeats 4000000 in
theorem t_Rm_lay_167 {p : Program} {l : Launch} {e : Env} {R : Room} {s : State} {m : MethodId} {args : Array Value} {below : List Frame} {meth : Method} {c : Code} (G : mG) (C0 : Cx G p s m args c prog_8_method_38_code 7 "BassRealiserModel") (hR : 5 ≤ R.frames ∧ 115 ≤ R.locals ∧ 0 ≤ R.cells ∧ 0 ≤ R.slots) (hr : meth.sig.returnType = none) (hlk : meth.locks = false) {Post : MH → Prop} {K20 : Nat → Int32 → MH → Prop} {K37 : Nat → Int32 → Int32 → Int32 → MH → Prop} {K82 : Nat → Int32 → Int32 → Int32 → Int64 → Int32 → MH → Prop} (hK20 : ∀ (l0 : Nat) (l1 : Int32) (h : MH), K20 l0 l1 h → WG p l e R s m args below meth c 0 0 (MQ below (va_Qv Post (Wd G) (mA G)) args s 0 0 (mA G)) G 7 [(0, .ref (m_b G + l0)), (1, .int l1)] 20 [] h) (hK37 : ∀ (l0 : Nat) (l1 : Int32) (l2 : Int32) (l3 : Int32) (h : MH), K37 l0 l1 l2 l3 h → WG p l e R s m args below meth c 0 0 (MQ below (va_Qv Post (Wd G) (mA G)) args s 0 0 (mA G)) G 7 [(0, .ref (m_b G + l0)), (1, .int l1), (2, .int l2), (3, .int l3)] 37 [] h) (hK82 : ∀ (l0 : Nat) (l1 : Int32) (l2 : Int32) (l3 : Int32) (l4 : Int64) (l6 : Int32) (h : MH), K82 l0 l1 l2 l3 l4 l6 h → WG p l e R s m args below meth c 0 0 (MQ below (va_Qv Post (Wd G) (mA G)) args s 0 0 (mA G)) G 7 [(0, .ref (m_b G + l0)), (1, .int l1), (2, .int l2), (3, .int l3), (4, .long l4), (6, .int l6)] 82 [] h) (l0 : Nat) (l1 : Int32) (l2 : Int32) (l3 : Int32) (l6 : Int32) (y0 : Int64) (h : MH) (hwp : wp_Rm_lay_167 K20 K37 K82 Post l0 l1 l2 l3 l6 y0 h) : WG p l e R s m args below meth c 0 0 (MQ below (va_Qv Post (Wd G) (mA G)) args s 0 0 (mA G)) G 7 [(0, .ref (m_b G + l0)), (1, .int l1), (2, .int l2), (3, .int l3), (6, .int l6)] 167 [.long y0] h := by
  unfold wp_Rm_lay_167 at hwp
  refine x_lstore C0 d_Rm_lay_167 (by decide) (lv' := [(4, .long y0), (0, .ref (m_b G + l0)), (1, .int l1), (2, .int l2), (3, .int l3), (6, .int l6)]) rfl ?_
  exact x_sub [1, 2, 3, 4, 0, 5] rfl (t_Rm_lay_169 G C0 hR hr hlk hK20 hK37 hK82 _ _ _ _ _ _ _ hwp)
set_option maxRecDepth 100000 in
set_option maxHeartbeats 4000000 in
theorem t_Rm_lay_100 {p : Program} {l : Launch} {e : Env} {R : Room} {s : State} {m : MethodId} {args : Array Value} {below : List Frame} {meth : Method} {c : Code} (G : mG) (C0 : Cx G p s m args c prog_8_method_38_code 7 "BassRealiserModel") (hR : 5 ≤ R.frames ∧ 115 ≤ R.locals ∧ 0 ≤ R.cells ∧ 0 ≤ R.slots) (hr : meth.sig.returnType = none) (hlk : meth.locks = false) {Post : MH → Prop} {K20 : Nat → Int32 → MH → Prop} {K37 : Nat → Int32 → Int32 → Int32 → MH → Prop} {K82 : Nat → Int32 → Int32 → Int32 → Int64 → Int32 → MH → Prop} (hK20 : ∀ (l0 : Nat) (l1 : Int32) (h : MH), K20 l0 l1 h → WG p l e R s m args below meth c 0 0 (MQ below (va_Qv Post (Wd G) (mA G)) args s 0 0 (mA G)) G 7 [(0, .ref (m_b G + l0)), (1, .int l1)] 20 [] h) (hK37 : ∀ (l0 : Nat) (l1 : Int32) (l2 : Int32) (l3 : Int32) (h : MH), K37 l0 l1 l2 l3 h → WG p l e R s m args below meth c 0 0 (MQ below (va_Qv Post (Wd G) (mA G)) args s 0 0 (mA G)) G 7 [(0, .ref (m_b G + l0)), (1, .int l1), (2, .int l2), (3, .int l3)] 37 [] h) (hK82 : ∀ (l0 : Nat) (l1 : Int32) (l2 : Int32) (l3 : Int32) (l4 : Int64) (l6 : Int32) (h : MH), K82 l0 l1 l2 l3 l4 l6 h → WG p l e R s m args below meth c 0 0 (MQ below (va_Qv Post (Wd G) (mA G)) args s 0 0 (mA G)) G 7 [(0, .ref (m_b G + l0)), (1, .int l1), (2, .int l2), (3, .int l3), (4, .long l4), (6, .int l6)] 82 [] h) (l0 : Nat) (l1 : Int32) (l2 : Int32) (l3 : Int32) (l4 : Int64) (l6 : Int32) (y0 : Int32) (y1 : Int32) (h : MH) (hwp : wp_Rm_lay_100 K20 K37 K82 Post l0 l1 l2 l3 l4 l6 y0 y1 h) : WG p l e R s m args below meth c 0 0 (MQ below (va_Qv Post (Wd G) (mA G)) args s 0 0 (mA G)) G 7 [(0, .ref (m_b G + l0)), (1, .int l1), (2, .int l2), (3, .int l3), (4, .long l4), (6, .int l6)] 100 [.int y1, .int y0] h := by
  unfold wp_Rm_lay_100 at hwp
  refine x_icmp_ge (tgt := 175) C0 d_Rm_lay_100 (by decide) (fun c100 => ?_) (fun c100 => ?_)
  · replace hwp := hwp.1 c100
    refine x_aload_n C0 0 d_Rm_lay_175 rfl rfl ?_
    obtain ⟨x176, e176, hwp⟩ := hwp
    refine x_getR C0 fk_Rm_72 e176 d_Rm_lay_176 ?_
    refine x_sipush (v := 800) C0 d_Rm_lay_179 (by decide) ?_
    refine x_iload_n C0 1 d_Rm_lay_182 rfl rfl ?_
    refine x_imul C0 d_Rm_lay_183 ?_
    refine x_iload_n C0 3 d_Rm_lay_184 rfl rfl ?_
    refine x_iadd C0 d_Rm_lay_185 ?_
    refine x_lload C0 4 d_Rm_lay_186 rfl ?_
    refine x_ldc2 (v := 1000000000) C0 kw_4_76 d_Rm_lay_188 ?_
    refine x_lcmp C0 d_Rm_lay_191 ?_
    refine x_if_le (tgt := 201) C0 d_Rm_lay_192 (by decide) (fun c192 => ?_) (fun c192 => ?_)
    · replace hwp := hwp.1 c192
      refine x_lload C0 4 d_Rm_lay_201 rfl ?_
      exact x_sub [0, 1, 2, 3, 4] rfl (t_Rm_lay_203 G C0 hR hr hlk hK20 hK37 _ _ _ _ _ _ _ _ _ hwp)
    · replace hwp := hwp.2 c192
      refine x_ldc2 (v := 1000000000) C0 kw_4_76 d_Rm_lay_195 ?_
      refine x_goto (tgt := 203) C0 d_Rm_lay_198 (by decide) ?_
      exact x_sub [0, 1, 2, 3, 4] rfl (t_Rm_lay_203 G C0 hR hr hlk hK20 hK37 _ _ _ _ _ _ _ _ _ hwp)
  · replace hwp := hwp.2 c100
    refine x_aload_n C0 0 d_Rm_lay_103 rfl rfl ?_
    obtain ⟨x104, e104, hwp⟩ := hwp
    refine x_getR C0 fk_Rm_72 e104 d_Rm_lay_104 ?_
    refine x_sipush (v := 800) C0 d_Rm_lay_107 (by decide) ?_
    refine x_iload_n C0 1 d_Rm_lay_110 rfl rfl ?_
    refine x_iconst (v := 1) C0 d_Rm_lay_111 (by decide) ?_
    refine x_isub C0 d_Rm_lay_112 ?_
    refine x_imul C0 d_Rm_lay_113 ?_
    refine x_iload C0 5 d_Rm_lay_114 rfl ?_
    refine x_iadd C0 d_Rm_lay_116 ?_
    obtain ⟨n117, f117, e117, i117, hwp⟩ := hwp
    refine x_lald C0 e117 i117 d_Rm_lay_117 ?_
    refine x_lconst (v := 0) C0 d_Rm_lay_118 (by decide) ?_
    refine x_lcmp C0 d_Rm_lay_119 ?_
    refine x_if_le (tgt := 169) C0 d_Rm_lay_120 (by decide) (fun c120 => ?_) (fun c120 => ?_)
    · replace hwp := hwp.1 c120
      exact x_sub [0, 1, 2, 3, 4, 5] rfl (t_Rm_lay_169 G C0 hR hr hlk hK20 hK37 hK82 _ _ _ _ _ _ _ hwp)
    · replace hwp := hwp.2 c120
      refine x_aload_n C0 0 d_Rm_lay_123 rfl rfl ?_
      refine x_iload_n C0 1 d_Rm_lay_124 rfl rfl ?_
      refine x_iconst (v := 1) C0 d_Rm_lay_125 (by decide) ?_
      refine x_isub C0 d_Rm_lay_126 ?_
      refine x_iload C0 5 d_Rm_lay_127 rfl ?_
      refine x_aload_n C0 0 d_Rm_lay_129 rfl rfl ?_
      obtain ⟨x130, e130, hwp⟩ := hwp
      refine x_getR C0 fk_Rm_51 e130 d_Rm_lay_130 ?_
      obtain ⟨g133, hwp⟩ := hwp
      refine x_callVv0 (k := l0) (As := [.int (l1 - (1 : Int32)), .int l6, .ref (m_b G + x130)]) (st := []) C0 (c_Rm_take l G hwp) kw_4_61 mk_Rm_take vk_Rm_take rfl g133 rfl (Nat.le_of_ble_eq_true rfl) rfl rfl ⟨Nat.le_trans (by decide) hR.1, Nat.le_trans (by decide) hR.2.1⟩ ⟨Nat.zero_le _, Nat.zero_le _⟩ rfl d_Rm_lay_133 (fun h133 hwp => ?_)
      refine x_aload_n C0 0 d_Rm_lay_136 rfl rfl ?_
      refine x_iload_n C0 1 d_Rm_lay_137 rfl rfl ?_
      obtain ⟨g138, hwp⟩ := hwp
      refine x_callVi0 (k := l0) (As := [.int l1]) (st := []) C0 (c_Rm_pairRule l G hwp) kw_4_65 mk_Rm_pairRule vk_Rm_pairRule rfl g138 rfl (Nat.le_of_ble_eq_true rfl) rfl rfl ⟨Nat.le_trans (by decide) hR.1, Nat.le_trans (by decide) hR.2.1⟩ ⟨Nat.zero_le _, Nat.zero_le _⟩ rfl d_Rm_lay_138 (fun r138 h138 hwp => ?_)
      refine x_if_ne (tgt := 165) C0 d_Rm_lay_141 (by decide) (fun c141 => ?_) (fun c141 => ?_)
      · replace hwp := hwp.1 c141
        refine x_lload C0 4 d_Rm_lay_165 rfl ?_
        exact x_sub [0, 1, 2, 3, 5] rfl (t_Rm_lay_167 G C0 hR hr hlk hK20 hK37 hK82 _ _ _ _ _ _ _ hwp)
      · replace hwp := hwp.2 c141
        refine x_lload C0 4 d_Rm_lay_144 rfl ?_
        refine x_aload_n C0 0 d_Rm_lay_146 rfl rfl ?_
        obtain ⟨x147, e147, hwp⟩ := hwp
        refine x_getR C0 fk_Rm_72 e147 d_Rm_lay_147 ?_
        refine x_sipush (v := 800) C0 d_Rm_lay_150 (by decide) ?_
        refine x_iload_n C0 1 d_Rm_lay_153 rfl rfl ?_
        refine x_iconst (v := 1) C0 d_Rm_lay_154 (by decide) ?_
        refine x_isub C0 d_Rm_lay_155 ?_
        refine x_imul C0 d_Rm_lay_156 ?_
        refine x_iload C0 5 d_Rm_lay_157 rfl ?_
        refine x_iadd C0 d_Rm_lay_159 ?_
        obtain ⟨n160, f160, e160, i160, hwp⟩ := hwp
        refine x_lald C0 e160 i160 d_Rm_lay_160 ?_
        refine x_ladd C0 d_Rm_lay_161 ?_
        refine x_goto (tgt := 167) C0 d_Rm_lay_162 (by decide) ?_
        exact x_sub [0, 1, 2, 3, 5] rfl (t_Rm_lay_167 G C0 hR hr hlk hK20 hK37 hK82 _ _ _ _ _ _ _ hwp)
set_option maxRecDepth 100000 in
set_option maxHeartbeats 4000000 in
theorem tb_Rm_lay_82 {p : Program} {l : Launch} {e : Env} {R : Room} {s : State} {m : MethodId} {args : Array Value} {below : List Frame} {meth : Method} {c : Code} (G : mG) (C0 : Cx G p s m args c prog_8_method_38_code 7 "BassRealiserModel") (hR : 5 ≤ R.frames ∧ 115 ≤ R.locals ∧ 0 ≤ R.cells ∧ 0 ≤ R.slots) (hr : meth.sig.returnType = none) (hlk : meth.locks = false) {Post : MH → Prop} {K20 : Nat → Int32 → MH → Prop} {K37 : Nat → Int32 → Int32 → Int32 → MH → Prop} {K82 : Nat → Int32 → Int32 → Int32 → Int64 → Int32 → MH → Prop} (hK20 : ∀ (l0 : Nat) (l1 : Int32) (h : MH), K20 l0 l1 h → WG p l e R s m args below meth c 0 0 (MQ below (va_Qv Post (Wd G) (mA G)) args s 0 0 (mA G)) G 7 [(0, .ref (m_b G + l0)), (1, .int l1)] 20 [] h) (hK37 : ∀ (l0 : Nat) (l1 : Int32) (l2 : Int32) (l3 : Int32) (h : MH), K37 l0 l1 l2 l3 h → WG p l e R s m args below meth c 0 0 (MQ below (va_Qv Post (Wd G) (mA G)) args s 0 0 (mA G)) G 7 [(0, .ref (m_b G + l0)), (1, .int l1), (2, .int l2), (3, .int l3)] 37 [] h) (hK82 : ∀ (l0 : Nat) (l1 : Int32) (l2 : Int32) (l3 : Int32) (l4 : Int64) (l6 : Int32) (h : MH), K82 l0 l1 l2 l3 l4 l6 h → WG p l e R s m args below meth c 0 0 (MQ below (va_Qv Post (Wd G) (mA G)) args s 0 0 (mA G)) G 7 [(0, .ref (m_b G + l0)), (1, .int l1), (2, .int l2), (3, .int l3), (4, .long l4), (6, .int l6)] 82 [] h) (l0 : Nat) (l1 : Int32) (l2 : Int32) (l3 : Int32) (l4 : Int64) (l6 : Int32) (h : MH) (hwp : wb_Rm_lay_82 K20 K37 K82 Post l0 l1 l2 l3 l4 l6 h) : WG p l e R s m args below meth c 0 0 (MQ below (va_Qv Post (Wd G) (mA G)) args s 0 0 (mA G)) G 7 [(0, .ref (m_b G + l0)), (1, .int l1), (2, .int l2), (3, .int l3), (4, .long l4), (6, .int l6)] 82 [] h := by
  unfold wb_Rm_lay_82 at hwp
  refine x_iload C0 5 d_Rm_lay_82 rfl ?_
  refine x_iload_n C0 1 d_Rm_lay_84 rfl rfl ?_
  refine x_if_ne (tgt := 92) C0 d_Rm_lay_85 (by decide) (fun c85 => ?_) (fun c85 => ?_)
  · replace hwp := hwp.1 c85
    refine x_aload_n C0 0 d_Rm_lay_92 rfl rfl ?_
    obtain ⟨x93, e93, hwp⟩ := hwp
    refine x_getR C0 fk_Rm_66 e93 d_Rm_lay_93 ?_
    refine x_iload_n C0 1 d_Rm_lay_96 rfl rfl ?_
    refine x_iconst (v := 1) C0 d_Rm_lay_97 (by decide) ?_
    refine x_isub C0 d_Rm_lay_98 ?_
    obtain ⟨n99, f99, e99, i99, hwp⟩ := hwp
    refine x_iald C0 e99 i99 d_Rm_lay_99 ?_
    exact x_sub [0, 1, 2, 3, 4, 5] rfl (t_Rm_lay_100 G C0 hR hr hlk hK20 hK37 hK82 _ _ _ _ _ _ _ _ _ hwp)
  · replace hwp := hwp.2 c85
    refine x_iconst (v := 0) C0 d_Rm_lay_88 (by decide) ?_
    refine x_goto (tgt := 100) C0 d_Rm_lay_89 (by decide) ?_
    exact x_sub [0, 1, 2, 3, 4, 5] rfl (t_Rm_lay_100 G C0 hR hr hlk hK20 hK37 hK82 _ _ _ _ _ _ _ _ _ hwp)
theorem t_Rm_lay_82 {p : Program} {l : Launch} {e : Env} {R : Room} {s : State} {m : MethodId} {args : Array Value} {below : List Frame} {meth : Method} {c : Code} (G : mG) (C0 : Cx G p s m args c prog_8_method_38_code 7 "BassRealiserModel") (hR : 5 ≤ R.frames ∧ 115 ≤ R.locals ∧ 0 ≤ R.cells ∧ 0 ≤ R.slots) (hr : meth.sig.returnType = none) (hlk : meth.locks = false) {Post : MH → Prop} {K20 : Nat → Int32 → MH → Prop} {K37 : Nat → Int32 → Int32 → Int32 → MH → Prop} (hK20 : ∀ (l0 : Nat) (l1 : Int32) (h : MH), K20 l0 l1 h → WG p l e R s m args below meth c 0 0 (MQ below (va_Qv Post (Wd G) (mA G)) args s 0 0 (mA G)) G 7 [(0, .ref (m_b G + l0)), (1, .int l1)] 20 [] h) (hK37 : ∀ (l0 : Nat) (l1 : Int32) (l2 : Int32) (l3 : Int32) (h : MH), K37 l0 l1 l2 l3 h → WG p l e R s m args below meth c 0 0 (MQ below (va_Qv Post (Wd G) (mA G)) args s 0 0 (mA G)) G 7 [(0, .ref (m_b G + l0)), (1, .int l1), (2, .int l2), (3, .int l3)] 37 [] h) (l0 : Nat) (l1 : Int32) (l2 : Int32) (l3 : Int32) (l4 : Int64) (l6 : Int32) (h : MH) (hwp : wp_Rm_lay_82 K20 K37 Post l0 l1 l2 l3 l4 l6 h) : WG p l e R s m args below meth c 0 0 (MQ below (va_Qv Post (Wd G) (mA G)) args s 0 0 (mA G)) G 7 [(0, .ref (m_b G + l0)), (1, .int l1), (2, .int l2), (3, .int l3), (4, .long l4), (6, .int l6)] 82 [] h := by
  obtain ⟨n, hwp⟩ := hwp
  induction n generalizing l0 l1 l2 l3 l4 l6 h with
  | zero => exact False.elim hwp
  | succ n ih => exact tb_Rm_lay_82 G C0 hR hr hlk hK20 hK37 (fun l0 l1 l2 l3 l4 l6 h hwp => ih l0 l1 l2 l3 l4 l6 h hwp) l0 l1 l2 l3 l4 l6 h hwp
set_option maxRecDepth 100000 in
set_option maxHeartbeats 4000000 in
theorem t_Rm_lay_79 {p : Program} {l : Launch} {e : Env} {R : Room} {s : State} {m : MethodId} {args : Array Value} {below : List Frame} {meth : Method} {c : Code} (G : mG) (C0 : Cx G p s m args c prog_8_method_38_code 7 "BassRealiserModel") (hR : 5 ≤ R.frames ∧ 115 ≤ R.locals ∧ 0 ≤ R.cells ∧ 0 ≤ R.slots) (hr : meth.sig.returnType = none) (hlk : meth.locks = false) {Post : MH → Prop} {K20 : Nat → Int32 → MH → Prop} {K37 : Nat → Int32 → Int32 → Int32 → MH → Prop} (hK20 : ∀ (l0 : Nat) (l1 : Int32) (h : MH), K20 l0 l1 h → WG p l e R s m args below meth c 0 0 (MQ below (va_Qv Post (Wd G) (mA G)) args s 0 0 (mA G)) G 7 [(0, .ref (m_b G + l0)), (1, .int l1)] 20 [] h) (hK37 : ∀ (l0 : Nat) (l1 : Int32) (l2 : Int32) (l3 : Int32) (h : MH), K37 l0 l1 l2 l3 h → WG p l e R s m args below meth c 0 0 (MQ below (va_Qv Post (Wd G) (mA G)) args s 0 0 (mA G)) G 7 [(0, .ref (m_b G + l0)), (1, .int l1), (2, .int l2), (3, .int l3)] 37 [] h) (l0 : Nat) (l1 : Int32) (l2 : Int32) (l3 : Int32) (l4 : Int64) (h : MH) (hwp : wp_Rm_lay_79 K20 K37 Post l0 l1 l2 l3 l4 h) : WG p l e R s m args below meth c 0 0 (MQ below (va_Qv Post (Wd G) (mA G)) args s 0 0 (mA G)) G 7 [(0, .ref (m_b G + l0)), (1, .int l1), (2, .int l2), (3, .int l3), (4, .long l4)] 79 [] h := by
  unfold wp_Rm_lay_79 at hwp
  refine x_iconst (v := 0) C0 d_Rm_lay_79 (by decide) ?_
  refine x_istore C0 d_Rm_lay_80 (by decide) (lv' := [(6, .int (0 : Int32)), (0, .ref (m_b G + l0)), (1, .int l1), (2, .int l2), (3, .int l3), (4, .long l4)]) rfl ?_
  exact x_sub [1, 2, 3, 4, 5, 0] rfl (t_Rm_lay_82 G C0 hR hr hlk hK20 hK37 _ _ _ _ _ _ _ hwp)
set_option maxRecDepth 100000 in
set_option maxHeartbeats 4000000 in
theorem t_Rm_lay_77 {p : Program} {l : Launch} {e : Env} {R : Room} {s : State} {m : MethodId} {args : Array Value} {below : List Frame} {meth : Method} {c : Code} (G : mG) (C0 : Cx G p s m args c prog_8_method_38_code 7 "BassRealiserModel") (hR : 5 ≤ R.frames ∧ 115 ≤ R.locals ∧ 0 ≤ R.cells ∧ 0 ≤ R.slots) (hr : meth.sig.returnType = none) (hlk : meth.locks = false) {Post : MH → Prop} {K20 : Nat → Int32 → MH → Prop} {K37 : Nat → Int32 → Int32 → Int32 → MH → Prop} (hK20 : ∀ (l0 : Nat) (l1 : Int32) (h : MH), K20 l0 l1 h → WG p l e R s m args below meth c 0 0 (MQ below (va_Qv Post (Wd G) (mA G)) args s 0 0 (mA G)) G 7 [(0, .ref (m_b G + l0)), (1, .int l1)] 20 [] h) (hK37 : ∀ (l0 : Nat) (l1 : Int32) (l2 : Int32) (l3 : Int32) (h : MH), K37 l0 l1 l2 l3 h → WG p l e R s m args below meth c 0 0 (MQ below (va_Qv Post (Wd G) (mA G)) args s 0 0 (mA G)) G 7 [(0, .ref (m_b G + l0)), (1, .int l1), (2, .int l2), (3, .int l3)] 37 [] h) (l0 : Nat) (l1 : Int32) (l2 : Int32) (l3 : Int32) (y0 : Int64) (h : MH) (hwp : wp_Rm_lay_77 K20 K37 Post l0 l1 l2 l3 y0 h) : WG p l e R s m args below meth c 0 0 (MQ below (va_Qv Post (Wd G) (mA G)) args s 0 0 (mA G)) G 7 [(0, .ref (m_b G + l0)), (1, .int l1), (2, .int l2), (3, .int l3)] 77 [.long y0] h := by
  unfold wp_Rm_lay_77 at hwp
  refine x_lstore C0 d_Rm_lay_77 (by decide) (lv' := [(4, .long y0), (0, .ref (m_b G + l0)), (1, .int l1), (2, .int l2), (3, .int l3)]) rfl ?_
  exact x_sub [1, 2, 3, 4, 0] rfl (t_Rm_lay_79 G C0 hR hr hlk hK20 hK37 _ _ _ _ _ _ hwp)
set_option maxRecDepth 100000 in
set_option maxHeartbeats 4000000 in
theorem tb_Rm_lay_37 {p : Program} {l : Launch} {e : Env} {R : Room} {s : State} {m : MethodId} {args : Array Value} {below : List Frame} {meth : Method} {c : Code} (G : mG) (C0 : Cx G p s m args c prog_8_method_38_code 7 "BassRealiserModel") (hR : 5 ≤ R.frames ∧ 115 ≤ R.locals ∧ 0 ≤ R.cells ∧ 0 ≤ R.slots) (hr : meth.sig.returnType = none) (hlk : meth.locks = false) {Post : MH → Prop} {K20 : Nat → Int32 → MH → Prop} {K37 : Nat → Int32 → Int32 → Int32 → MH → Prop} (hK20 : ∀ (l0 : Nat) (l1 : Int32) (h : MH), K20 l0 l1 h → WG p l e R s m args below meth c 0 0 (MQ below (va_Qv Post (Wd G) (mA G)) args s 0 0 (mA G)) G 7 [(0, .ref (m_b G + l0)), (1, .int l1)] 20 [] h) (hK37 : ∀ (l0 : Nat) (l1 : Int32) (l2 : Int32) (l3 : Int32) (h : MH), K37 l0 l1 l2 l3 h → WG p l e R s m args below meth c 0 0 (MQ below (va_Qv Post (Wd G) (mA G)) args s 0 0 (mA G)) G 7 [(0, .ref (m_b G + l0)), (1, .int l1), (2, .int l2), (3, .int l3)] 37 [] h) (l0 : Nat) (l1 : Int32) (l2 : Int32) (l3 : Int32) (h : MH) (hwp : wb_Rm_lay_37 K20 K37 Post l0 l1 l2 l3 h) : WG p l e R s m args below meth c 0 0 (MQ below (va_Qv Post (Wd G) (mA G)) args s 0 0 (mA G)) G 7 [(0, .ref (m_b G + l0)), (1, .int l1), (2, .int l2), (3, .int l3)] 37 [] h := by
  unfold wb_Rm_lay_37 at hwp
  refine x_iload_n C0 3 d_Rm_lay_37 rfl rfl ?_
  refine x_aload_n C0 0 d_Rm_lay_38 rfl rfl ?_
  obtain ⟨x39, e39, hwp⟩ := hwp
  refine x_getR C0 fk_Rm_66 e39 d_Rm_lay_39 ?_
  refine x_iload_n C0 1 d_Rm_lay_42 rfl rfl ?_
  obtain ⟨n43, f43, e43, i43, hwp⟩ := hwp
  refine x_iald C0 e43 i43 d_Rm_lay_43 ?_
  refine x_icmp_ge (tgt := 227) C0 d_Rm_lay_44 (by decide) (fun c44 => ?_) (fun c44 => ?_)
  · replace hwp := hwp.1 c44
    refine x_aload_n C0 0 d_Rm_lay_227 rfl rfl ?_
    refine x_iload_n C0 2 d_Rm_lay_228 rfl rfl ?_
    refine x_if_ne (tgt := 243) C0 d_Rm_lay_229 (by decide) (fun c229 => ?_) (fun c229 => ?_)
    · replace hwp := hwp.1 c229
      exact x_sub [0, 1] rfl (t_Rm_lay_243 G C0 hR hr hlk hK20 _ _ _ _ hwp)
    · replace hwp := hwp.2 c229
      refine x_aload_n C0 0 d_Rm_lay_232 rfl rfl ?_
      obtain ⟨x233, e233, hwp⟩ := hwp
      refine x_getI C0 fk_Rm_177 e233 d_Rm_lay_233 ?_
      refine x_if_ge (tgt := 243) C0 d_Rm_lay_236 (by decide) (fun c236 => ?_) (fun c236 => ?_)
      · replace hwp := hwp.1 c236
        exact x_sub [0, 1] rfl (t_Rm_lay_243 G C0 hR hr hlk hK20 _ _ _ _ hwp)
      · replace hwp := hwp.2 c236
        refine x_iload_n C0 1 d_Rm_lay_239 rfl rfl ?_
        refine x_goto (tgt := 247) C0 d_Rm_lay_240 (by decide) ?_
        exact x_sub [0, 1] rfl (t_Rm_lay_247 G C0 hR hr hlk hK20 _ _ _ _ _ hwp)
  · replace hwp := hwp.2 c44
    refine x_aload_n C0 0 d_Rm_lay_47 rfl rfl ?_
    refine x_iload_n C0 1 d_Rm_lay_48 rfl rfl ?_
    refine x_iload_n C0 3 d_Rm_lay_49 rfl rfl ?_
    refine x_aload_n C0 0 d_Rm_lay_50 rfl rfl ?_
    obtain ⟨x51, e51, hwp⟩ := hwp
    refine x_getR C0 fk_Rm_48 e51 d_Rm_lay_51 ?_
    obtain ⟨g54, hwp⟩ := hwp
    refine x_callVv0 (k := l0) (As := [.int l1, .int l3, .ref (m_b G + x51)]) (st := []) C0 (c_Rm_take l G hwp) kw_4_61 mk_Rm_take vk_Rm_take rfl g54 rfl (Nat.le_of_ble_eq_true rfl) rfl rfl ⟨Nat.le_trans (by decide) hR.1, Nat.le_trans (by decide) hR.2.1⟩ ⟨Nat.zero_le _, Nat.zero_le _⟩ rfl d_Rm_lay_54 (fun h54 hwp => ?_)
    refine x_lconst (v := 0) C0 d_Rm_lay_57 (by decide) ?_
    refine x_lstore C0 d_Rm_lay_58 (by decide) (lv' := [(4, .long (0 : Int64)), (0, .ref (m_b G + l0)), (1, .int l1), (2, .int l2), (3, .int l3)]) rfl ?_
    refine x_iload_n C0 2 d_Rm_lay_60 rfl rfl ?_
    refine x_if_ne (tgt := 79) C0 d_Rm_lay_61 (by decide) (fun c61 => ?_) (fun c61 => ?_)
    · replace hwp := hwp.1 c61
      exact x_sub [1, 2, 3, 4, 0] rfl (t_Rm_lay_79 G C0 hR hr hlk hK20 hK37 _ _ _ _ _ _ hwp)
    · replace hwp := hwp.2 c61
      refine x_aload_n C0 1 d_Rm_lay_64 rfl rfl ?_
      refine x_iconst (v := 0) C0 d_Rm_lay_65 (by decide) ?_
      obtain ⟨g66, hwp⟩ := hwp
      refine x_callVi0 (k := l0) (As := [.int (0 : Int32)]) (st := []) C0 (c_Rm_pairRule l G hwp) kw_4_65 mk_Rm_pairRule vk_Rm_pairRule rfl g66 rfl (Nat.le_of_ble_eq_true rfl) rfl rfl ⟨Nat.le_trans (by decide) hR.1, Nat.le_trans (by decide) hR.2.1⟩ ⟨Nat.zero_le _, Nat.zero_le _⟩ rfl d_Rm_lay_66 (fun r66 h66 hwp => ?_)
      refine x_if_ne (tgt := 76) C0 d_Rm_lay_69 (by decide) (fun c69 => ?_) (fun c69 => ?_)
      · replace hwp := hwp.1 c69
        refine x_lconst (v := 0) C0 d_Rm_lay_76 (by decide) ?_
        exact x_sub [1, 2, 3, 4] rfl (t_Rm_lay_77 G C0 hR hr hlk hK20 hK37 _ _ _ _ _ _ hwp)
      · replace hwp := hwp.2 c69
        refine x_lconst (v := 1) C0 d_Rm_lay_72 (by decide) ?_
        refine x_goto (tgt := 77) C0 d_Rm_lay_73 (by decide) ?_
        exact x_sub [1, 2, 3, 4] rfl (t_Rm_lay_77 G C0 hR hr hlk hK20 hK37 _ _ _ _ _ _ hwp)
theorem t_Rm_lay_37 {p : Program} {l : Launch} {e : Env} {R : Room} {s : State} {m : MethodId} {args : Array Value} {below : List Frame} {meth : Method} {c : Code} (G : mG) (C0 : Cx G p s m args c prog_8_method_38_code 7 "BassRealiserModel") (hR : 5 ≤ R.frames ∧ 115 ≤ R.locals ∧ 0 ≤ R.cells ∧ 0 ≤ R.slots) (hr : meth.sig.returnType = none) (hlk : meth.locks = false) {Post : MH → Prop} {K20 : Nat → Int32 → MH → Prop} (hK20 : ∀ (l0 : Nat) (l1 : Int32) (h : MH), K20 l0 l1 h → WG p l e R s m args below meth c 0 0 (MQ below (va_Qv Post (Wd G) (mA G)) args s 0 0 (mA G)) G 7 [(0, .ref (m_b G + l0)), (1, .int l1)] 20 [] h) (l0 : Nat) (l1 : Int32) (l2 : Int32) (l3 : Int32) (h : MH) (hwp : wp_Rm_lay_37 K20 Post l0 l1 l2 l3 h) : WG p l e R s m args below meth c 0 0 (MQ below (va_Qv Post (Wd G) (mA G)) args s 0 0 (mA G)) G 7 [(0, .ref (m_b G + l0)), (1, .int l1), (2, .int l2), (3, .int l3)] 37 [] h := by
  obtain ⟨n, hwp⟩ := hwp
  induction n generalizing l0 l1 l2 l3 h with
  | zero => exact False.elim hwp
  | succ n ih => exact tb_Rm_lay_37 G C0 hR hr hlk hK20 (fun l0 l1 l2 l3 h hwp => ih l0 l1 l2 l3 h hwp) l0 l1 l2 l3 h hwp
set_option maxRecDepth 100000 in
set_option maxHeartbeats 4000000 in
theorem tb_Rm_lay_20 {p : Program} {l : Launch} {e : Env} {R : Room} {s : State} {m : MethodId} {args : Array Value} {below : List Frame} {meth : Method} {c : Code} (G : mG) (C0 : Cx G p s m args c prog_8_method_38_code 7 "BassRealiserModel") (hR : 5 ≤ R.frames ∧ 115 ≤ R.locals ∧ 0 ≤ R.cells ∧ 0 ≤ R.slots) (hr : meth.sig.returnType = none) (hlk : meth.locks = false) {Post : MH → Prop} {K20 : Nat → Int32 → MH → Prop} (hK20 : ∀ (l0 : Nat) (l1 : Int32) (h : MH), K20 l0 l1 h → WG p l e R s m args below meth c 0 0 (MQ below (va_Qv Post (Wd G) (mA G)) args s 0 0 (mA G)) G 7 [(0, .ref (m_b G + l0)), (1, .int l1)] 20 [] h) (l0 : Nat) (l1 : Int32) (h : MH) (hwp : wb_Rm_lay_20 K20 Post l0 l1 h) : WG p l e R s m args below meth c 0 0 (MQ below (va_Qv Post (Wd G) (mA G)) args s 0 0 (mA G)) G 7 [(0, .ref (m_b G + l0)), (1, .int l1)] 20 [] h := by
  unfold wb_Rm_lay_20 at hwp
  refine x_iload_n C0 1 d_Rm_lay_20 rfl rfl ?_
  refine x_aload_n C0 0 d_Rm_lay_21 rfl rfl ?_
  obtain ⟨x22, e22, hwp⟩ := hwp
  refine x_getI C0 fk_Rm_79 e22 d_Rm_lay_22 ?_
  refine x_icmp_ge (tgt := 256) C0 d_Rm_lay_25 (by decide) (fun c25 => ?_) (fun c25 => ?_)
  · replace hwp := hwp.1 c25
    refine x_aload_n C0 0 d_Rm_lay_256 rfl rfl ?_
    obtain ⟨g257, hwp⟩ := hwp
    refine x_callVv0 (k := l0) (As := []) (st := []) C0 (c_Rm_layBack l G hwp) kw_4_77 mk_Rm_layBack vk_Rm_layBack rfl g257 rfl (Nat.le_of_ble_eq_true rfl) rfl rfl ⟨Nat.le_trans (by decide) hR.1, Nat.le_trans (by decide) hR.2.1⟩ ⟨Nat.zero_le _, Nat.zero_le _⟩ rfl d_Rm_lay_257 (fun h257 hwp => ?_)
    exact x_vret C0 hr hlk hwp d_Rm_lay_260
  · replace hwp := hwp.2 c25
    refine x_aload_n C0 0 d_Rm_lay_28 rfl rfl ?_
    refine x_iload_n C0 1 d_Rm_lay_29 rfl rfl ?_
    obtain ⟨g30, hwp⟩ := hwp
    refine x_callVv0 (k := l0) (As := [.int l1]) (st := []) C0 (c_Rm_tryAll l G hwp) kw_4_42 mk_Rm_tryAll vk_Rm_tryAll rfl g30 rfl (Nat.le_of_ble_eq_true rfl) rfl rfl ⟨Nat.le_trans (by decide) hR.1, Nat.le_trans (by decide) hR.2.1⟩ ⟨Nat.zero_le _, Nat.zero_le _⟩ rfl d_Rm_lay_30 (fun h30 hwp => ?_)
    refine x_iconst (v := 0) C0 d_Rm_lay_33 (by decide) ?_
    refine x_istore_n C0 d_Rm_lay_34 rfl (by decide) (lv' := [(2, .int (0 : Int32)), (0, .ref (m_b G + l0)), (1, .int l1)]) rfl ?_
    refine x_iconst (v := 0) C0 d_Rm_lay_35 (by decide) ?_
    refine x_istore_n C0 d_Rm_lay_36 rfl (by decide) (lv' := [(3, .int (0 : Int32)), (2, .int (0 : Int32)), (0, .ref (m_b G + l0)), (1, .int l1)]) rfl ?_
    exact x_sub [2, 3, 1, 0] rfl (t_Rm_lay_37 G C0 hR hr hlk hK20 _ _ _ _ _ hwp)
theorem t_Rm_lay_20 {p : Program} {l : Launch} {e : Env} {R : Room} {s : State} {m : MethodId} {args : Array Value} {below : List Frame} {meth : Method} {c : Code} (G : mG) (C0 : Cx G p s m args c prog_8_method_38_code 7 "BassRealiserModel") (hR : 5 ≤ R.frames ∧ 115 ≤ R.locals ∧ 0 ≤ R.cells ∧ 0 ≤ R.slots) (hr : meth.sig.returnType = none) (hlk : meth.locks = false) {Post : MH → Prop} (l0 : Nat) (l1 : Int32) (h : MH) (hwp : wp_Rm_lay_20 Post l0 l1 h) : WG p l e R s m args below meth c 0 0 (MQ below (va_Qv Post (Wd G) (mA G)) args s 0 0 (mA G)) G 7 [(0, .ref (m_b G + l0)), (1, .int l1)] 20 [] h := by
  obtain ⟨n, hwp⟩ := hwp
  induction n generalizing l0 l1 h with
  | zero => exact False.elim hwp
  | succ n ih => exact tb_Rm_lay_20 G C0 hR hr hlk (fun l0 l1 h hwp => ih l0 l1 h hwp) l0 l1 h hwp
set_option maxRecDepth 100000 in
set_option maxHeartbeats 4000000 in
theorem t_Rm_lay {p : Program} {l : Launch} {e : Env} {R : Room} {s : State} {m : MethodId} {args : Array Value} {below : List Frame} {meth : Method} {c : Code} (G : mG) (C0 : Cx G p s m args c prog_8_method_38_code 7 "BassRealiserModel") (hR : 5 ≤ R.frames ∧ 115 ≤ R.locals ∧ 0 ≤ R.cells ∧ 0 ≤ R.slots) (hr : meth.sig.returnType = none) (hlk : meth.locks = false) {Post : MH → Prop} (l0 : Nat) (h : MH) (hwp : wp_Rm_lay Post l0 h) : WG p l e R s m args below meth c 0 0 (MQ below (va_Qv Post (Wd G) (mA G)) args s 0 0 (mA G)) G 7 [(0, .ref (m_b G + l0))] 0 [] h := by
  unfold wp_Rm_lay at hwp
  refine x_aload_n C0 0 d_Rm_lay_0 rfl rfl ?_
  obtain ⟨x1, e1, hwp⟩ := hwp
  refine x_getI C0 fk_Rm_93 e1 d_Rm_lay_1 ?_
  refine x_if_eq (tgt := 8) C0 d_Rm_lay_4 (by decide) (fun c4 => ?_) (fun c4 => ?_)
  · replace hwp := hwp.1 c4
    refine x_aload_n C0 0 d_Rm_lay_8 rfl rfl ?_
    refine x_iconst (v := 1) C0 d_Rm_lay_9 (by decide) ?_
    obtain ⟨⟨o10, e10⟩, hwp⟩ := hwp
    refine x_put (x := (.inl (1 : Int32) : MV)) C0 pk_Rm_93 e10 rfl rfl d_Rm_lay_10 ?_
    refine x_nh (fun h10 eh10 => ?_)
    replace hwp := hwp h10 eh10
    refine x_aload_n C0 0 d_Rm_lay_13 rfl rfl ?_
    refine x_iconst (v := -1) C0 d_Rm_lay_14 (by decide) ?_
    obtain ⟨⟨o15, e15⟩, hwp⟩ := hwp
    refine x_put (x := (.inl (-1 : Int32) : MV)) C0 pk_Rm_177 e15 rfl rfl d_Rm_lay_15 ?_
    refine x_nh (fun h15 eh15 => ?_)
    replace hwp := hwp h15 eh15
    refine x_iconst (v := 0) C0 d_Rm_lay_18 (by decide) ?_
    refine x_istore_n C0 d_Rm_lay_19 rfl (by decide) (lv' := [(1, .int (0 : Int32)), (0, .ref (m_b G + l0))]) rfl ?_
    exact x_sub [1, 0] rfl (t_Rm_lay_20 G C0 hR hr hlk  _ _ _ hwp)
  · replace hwp := hwp.2 c4
    exact x_vret C0 hr hlk hwp d_Rm_lay_7
set_option maxRecDepth 100000 in
set_option maxHeartbeats 4000000 in
theorem c_Rm_lay (l : Launch) (G : mG) {Post : MH → Prop} {l0 : Nat} {h : MH} (hwp : wp_Rm_lay Post l0 h) : Met l y_Rm_lay (Cond.code y_Rm_lay prog_8_method_38_code 7 (Option.none : Option Jvm.ClassFile.FieldType) :: lw_good) ({ frames := 5, cells := 0, slots := 0, locals := 115 }) (va_Pc [.ref (m_b G + l0)] (Wd G h)) (va_Qv Post (Wd G) (mA G)) 0 0 (mA G) := by
  refine Met.ofW (cc := prog_8_method_38_code) (maxL := 7) (ret := (Option.none : Option Jvm.ClassFile.FieldType)) (by decide +kernel) rfl ?_
  intro p e s m args below meth c s₁ B hml hv
  obtain ⟨rfl, hP, hz, hK, hSt⟩ := hv
  have hts := atoms_spec (ws := Cond.code y_Rm_lay prog_8_method_38_code 7 (Option.none : Option Jvm.ClassFile.FieldType) :: lw_good) B.pre
  have C0 : Cx G p s m ([.ref (m_b G + l0)] : List Value).toArray c prog_8_method_38_code 7 "BassRealiserModel" := ⟨⟨B.exec, B.bytes, hml, findClass_of_methodNamed B.named, fun w h => hts w (List.mem_cons_of_mem _ h)⟩, hK, hSt, by rw [hz]; exact Nat.le_add_right _ _⟩
  have hl := lv_entry ([.ref (m_b G + l0)]) (n := 7) (Nat.le_of_ble_eq_true rfl)
  rw [lg_entry_eq]
  exact t_Rm_lay G C0 ⟨Nat.le_refl _, Nat.le_refl _, Nat.le_refl _, Nat.le_refl _⟩ B.returns B.notSynchronized _ _ hwp _ _ _ ⟨hP, hz, va_S.rf⟩ hl
def wp_Rm_voicings (Post : Int32 → MH → Prop) (l0 : Nat) (l1 : Int32) (h : MH) : Prop :=
  (∃ o : MV, gF h l0 6 0 = some o) ∧ ∀ h2 : MH, h2 = fset h l0 0 (.inl (0 : Int32) : MV) →
  (gC h2 l0 = some 6 ∧ wp_Rm_noChord (fun (r7 : Int32) (h7 : MH) =>
      (((r7 = 0) →
          (gC h7 l0 = some 6 ∧ wp_Rm_lay (fun (h16 : MH) =>
              (∃ x20 : Nat, gF h16 l0 6 21 = some (.inr (some x20)) ∧
                (∃ (n24 : Nat) (f24 : Nat → Int32), gA h16 x20 0 = some (n24, f24) ∧ vp_in l1 n24 ∧
                  (Post (f24 (l1).toNatClampNeg) h16)))) l0 h7)) ∧
        ((¬ r7 = 0) →
          (Post (-1 : Int32) h7)))) l0 l1 h2)
set_option maxRecDepth 100000 in
set_option maxHeartbeats 4000000 in
theorem t_Rm_voicings {p : Program} {l : Launch} {e : Env} {R : Room} {s : State} {m : MethodId} {args : Array Value} {below : List Frame} {meth : Method} {c : Code} (G : mG) (C0 : Cx G p s m args c prog_8_method_40_code 2 "BassRealiserModel") (hR : 6 ≤ R.frames ∧ 141 ≤ R.locals ∧ 0 ≤ R.cells ∧ 0 ≤ R.slots) (hr : meth.sig.returnType = some .int) (hlk : meth.locks = false) {Post : Int32 → MH → Prop} (l0 : Nat) (l1 : Int32) (h : MH) (hwp : wp_Rm_voicings Post l0 l1 h) : WG p l e R s m args below meth c 0 0 (MQ below (va_Qi Post (Wd G) (mA G)) args s 0 0 (mA G)) G 2 [(0, .ref (m_b G + l0)), (1, .int l1)] 0 [] h := by
  unfold wp_Rm_voicings at hwp
  refine x_aload_n C0 0 d_Rm_voicings_0 rfl rfl ?_
  refine x_iconst (v := 0) C0 d_Rm_voicings_1 (by decide) ?_
  obtain ⟨⟨o2, e2⟩, hwp⟩ := hwp
  refine x_put (x := (.inl (0 : Int32) : MV)) C0 pk_Rm_1 e2 rfl rfl d_Rm_voicings_2 ?_
  refine x_nh (fun h2 eh2 => ?_)
  replace hwp := hwp h2 eh2
  refine x_aload_n C0 0 d_Rm_voicings_5 rfl rfl ?_
  refine x_iload_n C0 1 d_Rm_voicings_6 rfl rfl ?_
  obtain ⟨g7, hwp⟩ := hwp
  refine x_callVi0 (k := l0) (As := [.int l1]) (st := []) C0 (c_Rm_noChord l G hwp) kw_3_191 mk_Rm_noChord vk_Rm_noChord rfl g7 rfl (Nat.le_of_ble_eq_true rfl) rfl rfl ⟨Nat.le_trans (by decide) hR.1, Nat.le_trans (by decide) hR.2.1⟩ ⟨Nat.zero_le _, Nat.zero_le _⟩ rfl d_Rm_voicings_7 (fun r7 h7 hwp => ?_)
  refine x_if_eq (tgt := 15) C0 d_Rm_voicings_10 (by decide) (fun c10 => ?_) (fun c10 => ?_)
  · replace hwp := hwp.1 c10
    refine x_aload_n C0 0 d_Rm_voicings_15 rfl rfl ?_
    obtain ⟨g16, hwp⟩ := hwp
    refine x_callVv0 (k := l0) (As := []) (st := []) C0 (c_Rm_lay l G hwp) kw_4_38 mk_Rm_lay vk_Rm_lay rfl g16 rfl (Nat.le_of_ble_eq_true rfl) rfl rfl ⟨Nat.le_trans (by decide) hR.1, Nat.le_trans (by decide) hR.2.1⟩ ⟨Nat.zero_le _, Nat.zero_le _⟩ rfl d_Rm_voicings_16 (fun h16 hwp => ?_)
    refine x_aload_n C0 0 d_Rm_voicings_19 rfl rfl ?_
    obtain ⟨x20, e20, hwp⟩ := hwp
    refine x_getR C0 fk_Rm_66 e20 d_Rm_voicings_20 ?_
    refine x_iload_n C0 1 d_Rm_voicings_23 rfl rfl ?_
    obtain ⟨n24, f24, e24, i24, hwp⟩ := hwp
    refine x_iald C0 e24 i24 d_Rm_voicings_24 ?_
    exact x_iret C0 hr hlk hwp d_Rm_voicings_25
  · replace hwp := hwp.2 c10
    refine x_iconst (v := -1) C0 d_Rm_voicings_13 (by decide) ?_
    exact x_iret C0 hr hlk hwp d_Rm_voicings_14
set_option maxRecDepth 100000 in
set_option maxHeartbeats 4000000 in
theorem c_Rm_voicings (l : Launch) (G : mG) {Post : Int32 → MH → Prop} {l0 : Nat} {l1 : Int32} {h : MH} (hwp : wp_Rm_voicings Post l0 l1 h) : Met l y_Rm_voicings (Cond.code y_Rm_voicings prog_8_method_40_code 2 (Option.some Jvm.ClassFile.FieldType.int) :: lw_good) ({ frames := 6, cells := 0, slots := 0, locals := 141 }) (va_Pc [.ref (m_b G + l0), .int l1] (Wd G h)) (va_Qi Post (Wd G) (mA G)) 0 0 (mA G) := by
  refine Met.ofW (cc := prog_8_method_40_code) (maxL := 2) (ret := (Option.some Jvm.ClassFile.FieldType.int)) (by decide +kernel) rfl ?_
  intro p e s m args below meth c s₁ B hml hv
  obtain ⟨rfl, hP, hz, hK, hSt⟩ := hv
  have hts := atoms_spec (ws := Cond.code y_Rm_voicings prog_8_method_40_code 2 (Option.some Jvm.ClassFile.FieldType.int) :: lw_good) B.pre
  have C0 : Cx G p s m ([.ref (m_b G + l0), .int l1] : List Value).toArray c prog_8_method_40_code 2 "BassRealiserModel" := ⟨⟨B.exec, B.bytes, hml, findClass_of_methodNamed B.named, fun w h => hts w (List.mem_cons_of_mem _ h)⟩, hK, hSt, by rw [hz]; exact Nat.le_add_right _ _⟩
  have hl := lv_entry ([.ref (m_b G + l0), .int l1]) (n := 2) (Nat.le_of_ble_eq_true rfl)
  rw [lg_entry_eq]
  exact t_Rm_voicings G C0 ⟨Nat.le_refl _, Nat.le_refl _, Nat.le_refl _, Nat.le_refl _⟩ B.returns B.notSynchronized _ _ _ hwp _ _ _ ⟨hP, hz, va_S.rf⟩ hl
def wp_Br_voicing (Post : Int32 → MH → Prop) (l0 : Nat) (l1 : Int32) (l2 : Int32) (l3 : Int32) (h : MH) : Prop :=
  gC h l0 = some 5 ∧ wp_Br_hasChord (fun (r2 : Int32) (h2 : MH) =>
    (((r2 = 0) →
        (Post (-1 : Int32) h2)) ∧
      ((¬ r2 = 0) →
        (wp_Br_isVoice (fun (r9 : Int32) (h9 : MH) =>
            (((¬ r9 = 0) →
                (∃ x18 : Nat, gF h9 l0 5 0 = some (.inr (some x18)) ∧
                  (gC h9 x18 = some 4 ∧ wp_Se_listed (fun (r22 : Nat) (h22 : MH) =>
                      (∃ x31 : Int32, gF h22 r22 1 4 = some (.inl x31) ∧
                        (wp_Br_within (fun (r36 : Int32) (h36 : MH) =>
                        (((r36 = 0) →
                        (Post (-1 : Int32) h36)) ∧
                        ((¬ r36 = 0) →
                        (∃ x44 : Nat, gF h36 r22 1 0 = some (.inr (some x44)) ∧
                        (∃ (n48 : Nat) (f48 : Nat → Int32), gA h36 x44 0 = some (n48, f48) ∧ vp_in l2 n48 ∧
                        (wp_Br_pitchOf (fun (r50 : Int32) (h50 : MH) =>
                        (Post r50 h50)) (f48 (l2).toNatClampNeg) l3 h36)))))) l2 (0 : Int32) (x31 - (1 : Int32)) h22))) x18 l1 h9))) ∧
              ((r9 = 0) →
                (Post (-1 : Int32) h9)))) l3 h2)))) l0 l1 h
set_option maxRecDepth 100000 in
set_option maxHeartbeats 4000000 in
theorem t_Br_voicing {p : Program} {l : Launch} {e : Env} {R : Room} {s : State} {m : MethodId} {args : Array Value} {below : List Frame} {meth : Method} {c : Code} (G : mG) (C0 : Cx G p s m args c prog_1_method_14_code 5 "BassRealiser") (hR : 6 ≤ R.frames ∧ 149 ≤ R.locals ∧ 0 ≤ R.cells ∧ 0 ≤ R.slots) (hr : meth.sig.returnType = some .int) (hlk : meth.locks = false) {Post : Int32 → MH → Prop} (l0 : Nat) (l1 : Int32) (l2 : Int32) (l3 : Int32) (h : MH) (hwp : wp_Br_voicing Post l0 l1 l2 l3 h) : WG p l e R s m args below meth c 0 0 (MQ below (va_Qi Post (Wd G) (mA G)) args s 0 0 (mA G)) G 5 [(0, .ref (m_b G + l0)), (1, .int l1), (2, .int l2), (3, .int l3)] 0 [] h := by
  unfold wp_Br_voicing at hwp
  refine x_aload_n C0 0 d_Br_voicing_0 rfl rfl ?_
  refine x_iload_n C0 1 d_Br_voicing_1 rfl rfl ?_
  obtain ⟨g2, hwp⟩ := hwp
  refine x_callVi0 (k := l0) (As := [.int l1]) (st := []) C0 (c_Br_hasChord l G hwp) kw_2_64 mk_Br_hasChord vk_Br_hasChord rfl g2 rfl (Nat.le_of_ble_eq_true rfl) rfl rfl ⟨Nat.le_trans (by decide) hR.1, Nat.le_trans (by decide) hR.2.1⟩ ⟨Nat.zero_le _, Nat.zero_le _⟩ rfl d_Br_voicing_2 (fun r2 h2 hwp => ?_)
  refine x_if_eq (tgt := 15) C0 d_Br_voicing_5 (by decide) (fun c5 => ?_) (fun c5 => ?_)
  · replace hwp := hwp.1 c5
    refine x_iconst (v := -1) C0 d_Br_voicing_15 (by decide) ?_
    exact x_iret C0 hr hlk hwp d_Br_voicing_16
  · replace hwp := hwp.2 c5
    refine x_iload_n C0 3 d_Br_voicing_8 rfl rfl ?_
    refine x_callSi0 (As := [.int l3]) (st := []) C0 (c_Br_isVoice l G hwp) kw_2_88 mk_Br_isVoice kw_2_89 rfl (Nat.le_of_ble_eq_true rfl) rfl rfl ⟨Nat.le_trans (by decide) hR.1, Nat.le_trans (by decide) hR.2.1⟩ ⟨Nat.zero_le _, Nat.zero_le _⟩ rfl d_Br_voicing_9 (fun r9 h9 hwp => ?_)
    refine x_if_ne (tgt := 17) C0 d_Br_voicing_12 (by decide) (fun c12 => ?_) (fun c12 => ?_)
    · replace hwp := hwp.1 c12
      refine x_aload_n C0 0 d_Br_voicing_17 rfl rfl ?_
      obtain ⟨x18, e18, hwp⟩ := hwp
      refine x_getR C0 fk_Br_10 e18 d_Br_voicing_18 ?_
      refine x_iload_n C0 1 d_Br_voicing_21 rfl rfl ?_
      obtain ⟨g22, hwp⟩ := hwp
      refine x_callVr0 (k := x18) (As := [.int l1]) (st := []) C0 (c_Se_listed l G hwp) kw_2_130 mk_Se_listed vk_Se_listed rfl g22 rfl (Nat.le_of_ble_eq_true rfl) rfl rfl ⟨Nat.le_trans (by decide) hR.1, Nat.le_trans (by decide) hR.2.1⟩ ⟨Nat.zero_le _, Nat.zero_le _⟩ rfl d_Br_voicing_22 (fun r22 h22 hwp => ?_)
      refine x_astore C0 d_Br_voicing_25 (by decide) (lv' := [(4, .ref (m_b G + r22)), (0, .ref (m_b G + l0)), (1, .int l1), (2, .int l2), (3, .int l3)]) rfl ?_
      refine x_iload_n C0 3 d_Br_voicing_27 rfl rfl ?_
      refine x_iconst (v := 0) C0 d_Br_voicing_28 (by decide) ?_
      refine x_aload C0 0 d_Br_voicing_29 rfl ?_
      obtain ⟨x31, e31, hwp⟩ := hwp
      refine x_getI C0 fk_Br_127 e31 d_Br_voicing_31 ?_
      refine x_iconst (v := 1) C0 d_Br_voicing_34 (by decide) ?_
      refine x_isub C0 d_Br_voicing_35 ?_
      refine x_callSi0 (As := [.int l2, .int (0 : Int32), .int (x31 - (1 : Int32))]) (st := []) C0 (c_Br_within l G hwp) kw_1_226 mk_Br_within kw_1_227 rfl (Nat.le_of_ble_eq_true rfl) rfl rfl ⟨Nat.le_trans (by decide) hR.1, Nat.le_trans (by decide) hR.2.1⟩ ⟨Nat.zero_le _, Nat.zero_le _⟩ rfl d_Br_voicing_36 (fun r36 h36 hwp => ?_)
      refine x_if_eq (tgt := 56) C0 d_Br_voicing_39 (by decide) (fun c39 => ?_) (fun c39 => ?_)
      · replace hwp := hwp.1 c39
        refine x_iconst (v := -1) C0 d_Br_voicing_56 (by decide) ?_
        exact x_iret C0 hr hlk hwp d_Br_voicing_57
      · replace hwp := hwp.2 c39
        refine x_aload C0 0 d_Br_voicing_42 rfl ?_
        obtain ⟨x44, e44, hwp⟩ := hwp
        refine x_getR C0 fk_Br_130 e44 d_Br_voicing_44 ?_
        refine x_iload_n C0 3 d_Br_voicing_47 rfl rfl ?_
        obtain ⟨n48, f48, e48, i48, hwp⟩ := hwp
        refine x_iald C0 e48 i48 d_Br_voicing_48 ?_
        refine x_iload_n C0 4 d_Br_voicing_49 rfl rfl ?_
        refine x_callSi0 (As := [.int (f48 (l2).toNatClampNeg), .int l3]) (st := []) C0 (c_Br_pitchOf l G hwp) kw_2_178 mk_Br_pitchOf kw_2_158 rfl (Nat.le_of_ble_eq_true rfl) rfl rfl ⟨Nat.le_trans (by decide) hR.1, Nat.le_trans (by decide) hR.2.1⟩ ⟨Nat.zero_le _, Nat.zero_le _⟩ rfl d_Br_voicing_50 (fun r50 h50 hwp => ?_)
        refine x_goto (tgt := 57) C0 d_Br_voicing_53 (by decide) ?_
        exact x_iret C0 hr hlk hwp d_Br_voicing_57
    · replace hwp := hwp.2 c12
      refine x_iconst (v := -1) C0 d_Br_voicing_15 (by decide) ?_
      exact x_iret C0 hr hlk hwp d_Br_voicing_16
set_option maxRecDepth 100000 in
set_option maxHeartbeats 4000000 in
theorem c_Br_voicing (l : Launch) (G : mG) {Post : Int32 → MH → Prop} {l0 : Nat} {l1 : Int32} {l2 : Int32} {l3 : Int32} {h : MH} (hwp : wp_Br_voicing Post l0 l1 l2 l3 h) : Met l y_Br_voicing (Cond.code y_Br_voicing prog_1_method_14_code 5 (Option.some Jvm.ClassFile.FieldType.int) :: lw_good) ({ frames := 6, cells := 0, slots := 0, locals := 149 }) (va_Pc [.ref (m_b G + l0), .int l1, .int l2, .int l3] (Wd G h)) (va_Qi Post (Wd G) (mA G)) 0 0 (mA G) := by
  refine Met.ofW (cc := prog_1_method_14_code) (maxL := 5) (ret := (Option.some Jvm.ClassFile.FieldType.int)) (by decide +kernel) rfl ?_
  intro p e s m args below meth c s₁ B hml hv
  obtain ⟨rfl, hP, hz, hK, hSt⟩ := hv
  have hts := atoms_spec (ws := Cond.code y_Br_voicing prog_1_method_14_code 5 (Option.some Jvm.ClassFile.FieldType.int) :: lw_good) B.pre
  have C0 : Cx G p s m ([.ref (m_b G + l0), .int l1, .int l2, .int l3] : List Value).toArray c prog_1_method_14_code 5 "BassRealiser" := ⟨⟨B.exec, B.bytes, hml, findClass_of_methodNamed B.named, fun w h => hts w (List.mem_cons_of_mem _ h)⟩, hK, hSt, by rw [hz]; exact Nat.le_add_right _ _⟩
  have hl := lv_entry ([.ref (m_b G + l0), .int l1, .int l2, .int l3]) (n := 5) (Nat.le_of_ble_eq_true rfl)
  rw [lg_entry_eq]
  exact t_Br_voicing G C0 ⟨Nat.le_refl _, Nat.le_refl _, Nat.le_refl _, Nat.le_refl _⟩ B.returns B.notSynchronized _ _ _ _ _ hwp _ _ _ ⟨hP, hz, va_S.rf⟩ hl
def wp_Rm_voicing (Post : Int32 → MH → Prop) (l0 : Nat) (l1 : Int32) (l2 : Int32) (l3 : Int32) (h : MH) : Prop :=
  (∃ o : MV, gF h l0 6 0 = some o) ∧ ∀ h2 : MH, h2 = fset h l0 0 (.inl (0 : Int32) : MV) →
  (gC h2 l0 = some 6 ∧ wp_Rm_noChord (fun (r7 : Int32) (h7 : MH) =>
      (((¬ r7 = 0) →
          (Post (-1 : Int32) h7)) ∧
        ((r7 = 0) →
          (wp_Rm_in (fun (r19 : Int32) (h19 : MH) =>
              (((¬ r19 = 0) →
                  (gC h19 l0 = some 6 ∧ wp_Rm_lay (fun (h28 : MH) =>
                      (∃ x35 : Nat, gF h28 l0 6 21 = some (.inr (some x35)) ∧
                        (∃ (n39 : Nat) (f39 : Nat → Int32), gA h28 x35 0 = some (n39, f39) ∧ vp_in l1 n39 ∧
                        (wp_Rm_in (fun (r43 : Int32) (h43 : MH) =>
                        (((r43 = 0) →
                        (Post (-1 : Int32) h43)) ∧
                        ((¬ r43 = 0) →
                        (∃ x50 : Nat, gF h43 l0 6 20 = some (.inr (some x50)) ∧
                        (∃ (n64 : Nat) (f64 : Nat → Int32), gA h43 x50 0 = some (n64, f64) ∧ vp_in (((3 : Int32) * (((800 : Int32) * l1) + l2)) + l3) n64 ∧
                        (Post (f64 (((3 : Int32) * (((800 : Int32) * l1) + l2)) + l3).toNatClampNeg) h43)))))) ((l2).toInt64) (0 : Int64) (((f39 (l1).toNatClampNeg) - (1 : Int32)).toInt64) h28)))) l0 h19)) ∧
                ((r19 = 0) →
                  (Post (-1 : Int32) h19)))) ((l3).toInt64) (0 : Int64) (2 : Int64) h7)))) l0 l1 h2)
set_option maxRecDepth 100000 in
set_option maxHeartbeats 4000000 in
theorem t_Rm_voicing {p : Program} {l : Launch} {e : Env} {R : Room} {s : State} {m : MethodId} {args : Array Value} {below : List Frame} {meth : Method} {c : Code} (G : mG) (C0 : Cx G p s m args c prog_8_method_41_code 4 "BassRealiserModel") (hR : 6 ≤ R.frames ∧ 141 ≤ R.locals ∧ 0 ≤ R.cells ∧ 0 ≤ R.slots) (hr : meth.sig.returnType = some .int) (hlk : meth.locks = false) {Post : Int32 → MH → Prop} (l0 : Nat) (l1 : Int32) (l2 : Int32) (l3 : Int32) (h : MH) (hwp : wp_Rm_voicing Post l0 l1 l2 l3 h) : WG p l e R s m args below meth c 0 0 (MQ below (va_Qi Post (Wd G) (mA G)) args s 0 0 (mA G)) G 4 [(0, .ref (m_b G + l0)), (1, .int l1), (2, .int l2), (3, .int l3)] 0 [] h := by
  unfold wp_Rm_voicing at hwp
  refine x_aload_n C0 0 d_Rm_voicing_0 rfl rfl ?_
  refine x_iconst (v := 0) C0 d_Rm_voicing_1 (by decide) ?_
  obtain ⟨⟨o2, e2⟩, hwp⟩ := hwp
  refine x_put (x := (.inl (0 : Int32) : MV)) C0 pk_Rm_1 e2 rfl rfl d_Rm_voicing_2 ?_
  refine x_nh (fun h2 eh2 => ?_)
  replace hwp := hwp h2 eh2
  refine x_aload_n C0 0 d_Rm_voicing_5 rfl rfl ?_
  refine x_iload_n C0 1 d_Rm_voicing_6 rfl rfl ?_
  obtain ⟨g7, hwp⟩ := hwp
  refine x_callVi0 (k := l0) (As := [.int l1]) (st := []) C0 (c_Rm_noChord l G hwp) kw_3_191 mk_Rm_noChord vk_Rm_noChord rfl g7 rfl (Nat.le_of_ble_eq_true rfl) rfl rfl ⟨Nat.le_trans (by decide) hR.1, Nat.le_trans (by decide) hR.2.1⟩ ⟨Nat.zero_le _, Nat.zero_le _⟩ rfl d_Rm_voicing_7 (fun r7 h7 hwp => ?_)
  refine x_if_ne (tgt := 25) C0 d_Rm_voicing_10 (by decide) (fun c10 => ?_) (fun c10 => ?_)
  · replace hwp := hwp.1 c10
    refine x_iconst (v := -1) C0 d_Rm_voicing_25 (by decide) ?_
    exact x_iret C0 hr hlk hwp d_Rm_voicing_26
  · replace hwp := hwp.2 c10
    refine x_iload_n C0 3 d_Rm_voicing_13 rfl rfl ?_
    refine x_i2l C0 d_Rm_voicing_14 ?_
    refine x_lconst (v := 0) C0 d_Rm_voicing_15 (by decide) ?_
    refine x_ldc2 (v := 2) C0 kw_3_195 d_Rm_voicing_16 ?_
    refine x_callSi0 (As := [.long ((l3).toInt64), .long (0 : Int64), .long (2 : Int64)]) (st := []) C0 (c_Rm_in l G hwp) kw_3_173 mk_Rm_in kw_3_174 rfl (Nat.le_of_ble_eq_true rfl) rfl rfl ⟨Nat.le_trans (by decide) hR.1, Nat.le_trans (by decide) hR.2.1⟩ ⟨Nat.zero_le _, Nat.zero_le _⟩ rfl d_Rm_voicing_19 (fun r19 h19 hwp => ?_)
    refine x_if_ne (tgt := 27) C0 d_Rm_voicing_22 (by decide) (fun c22 => ?_) (fun c22 => ?_)
    · replace hwp := hwp.1 c22
      refine x_aload_n C0 0 d_Rm_voicing_27 rfl rfl ?_
      obtain ⟨g28, hwp⟩ := hwp
      refine x_callVv0 (k := l0) (As := []) (st := []) C0 (c_Rm_lay l G hwp) kw_4_38 mk_Rm_lay vk_Rm_lay rfl g28 rfl (Nat.le_of_ble_eq_true rfl) rfl rfl ⟨Nat.le_trans (by decide) hR.1, Nat.le_trans (by decide) hR.2.1⟩ ⟨Nat.zero_le _, Nat.zero_le _⟩ rfl d_Rm_voicing_28 (fun h28 hwp => ?_)
      refine x_iload_n C0 2 d_Rm_voicing_31 rfl rfl ?_
      refine x_i2l C0 d_Rm_voicing_32 ?_
      refine x_lconst (v := 0) C0 d_Rm_voicing_33 (by decide) ?_
      refine x_aload_n C0 0 d_Rm_voicing_34 rfl rfl ?_
      obtain ⟨x35, e35, hwp⟩ := hwp
      refine x_getR C0 fk_Rm_66 e35 d_Rm_voicing_35 ?_
      refine x_iload_n C0 1 d_Rm_voicing_38 rfl rfl ?_
      obtain ⟨n39, f39, e39, i39, hwp⟩ := hwp
      refine x_iald C0 e39 i39 d_Rm_voicing_39 ?_
      refine x_iconst (v := 1) C0 d_Rm_voicing_40 (by decide) ?_
      refine x_isub C0 d_Rm_voicing_41 ?_
      refine x_i2l C0 d_Rm_voicing_42 ?_
      refine x_callSi0 (As := [.long ((l2).toInt64), .long (0 : Int64), .long (((f39 (l1).toNatClampNeg) - (1 : Int32)).toInt64)]) (st := []) C0 (c_Rm_in l G hwp) kw_3_173 mk_Rm_in kw_3_174 rfl (Nat.le_of_ble_eq_true rfl) rfl rfl ⟨Nat.le_trans (by decide) hR.1, Nat.le_trans (by decide) hR.2.1⟩ ⟨Nat.zero_le _, Nat.zero_le _⟩ rfl d_Rm_voicing_43 (fun r43 h43 hwp => ?_)
      refine x_if_eq (tgt := 68) C0 d_Rm_voicing_46 (by decide) (fun c46 => ?_) (fun c46 => ?_)
      · replace hwp := hwp.1 c46
        refine x_iconst (v := -1) C0 d_Rm_voicing_68 (by decide) ?_
        exact x_iret C0 hr hlk hwp d_Rm_voicing_69
      · replace hwp := hwp.2 c46
        refine x_aload_n C0 0 d_Rm_voicing_49 rfl rfl ?_
        obtain ⟨x50, e50, hwp⟩ := hwp
        refine x_getR C0 fk_Rm_63 e50 d_Rm_voicing_50 ?_
        refine x_iconst (v := 3) C0 d_Rm_voicing_53 (by decide) ?_
        refine x_sipush (v := 800) C0 d_Rm_voicing_54 (by decide) ?_
        refine x_iload_n C0 1 d_Rm_voicing_57 rfl rfl ?_
        refine x_imul C0 d_Rm_voicing_58 ?_
        refine x_iload_n C0 2 d_Rm_voicing_59 rfl rfl ?_
        refine x_iadd C0 d_Rm_voicing_60 ?_
        refine x_imul C0 d_Rm_voicing_61 ?_
        refine x_iload_n C0 3 d_Rm_voicing_62 rfl rfl ?_
        refine x_iadd C0 d_Rm_voicing_63 ?_
        obtain ⟨n64, f64, e64, i64, hwp⟩ := hwp
        refine x_iald C0 e64 i64 d_Rm_voicing_64 ?_
        refine x_goto (tgt := 69) C0 d_Rm_voicing_65 (by decide) ?_
        exact x_iret C0 hr hlk hwp d_Rm_voicing_69
    · replace hwp := hwp.2 c22
      refine x_iconst (v := -1) C0 d_Rm_voicing_25 (by decide) ?_
      exact x_iret C0 hr hlk hwp d_Rm_voicing_26
set_option maxRecDepth 100000 in
set_option maxHeartbeats 4000000 in
theorem c_Rm_voicing (l : Launch) (G : mG) {Post : Int32 → MH → Prop} {l0 : Nat} {l1 : Int32} {l2 : Int32} {l3 : Int32} {h : MH} (hwp : wp_Rm_voicing Post l0 l1 l2 l3 h) : Met l y_Rm_voicing (Cond.code y_Rm_voicing prog_8_method_41_code 4 (Option.some Jvm.ClassFile.FieldType.int) :: lw_good) ({ frames := 6, cells := 0, slots := 0, locals := 141 }) (va_Pc [.ref (m_b G + l0), .int l1, .int l2, .int l3] (Wd G h)) (va_Qi Post (Wd G) (mA G)) 0 0 (mA G) := by
  refine Met.ofW (cc := prog_8_method_41_code) (maxL := 4) (ret := (Option.some Jvm.ClassFile.FieldType.int)) (by decide +kernel) rfl ?_
  intro p e s m args below meth c s₁ B hml hv
  obtain ⟨rfl, hP, hz, hK, hSt⟩ := hv
  have hts := atoms_spec (ws := Cond.code y_Rm_voicing prog_8_method_41_code 4 (Option.some Jvm.ClassFile.FieldType.int) :: lw_good) B.pre
  have C0 : Cx G p s m ([.ref (m_b G + l0), .int l1, .int l2, .int l3] : List Value).toArray c prog_8_method_41_code 4 "BassRealiserModel" := ⟨⟨B.exec, B.bytes, hml, findClass_of_methodNamed B.named, fun w h => hts w (List.mem_cons_of_mem _ h)⟩, hK, hSt, by rw [hz]; exact Nat.le_add_right _ _⟩
  have hl := lv_entry ([.ref (m_b G + l0), .int l1, .int l2, .int l3]) (n := 4) (Nat.le_of_ble_eq_true rfl)
  rw [lg_entry_eq]
  exact t_Rm_voicing G C0 ⟨Nat.le_refl _, Nat.le_refl _, Nat.le_refl _, Nat.le_refl _⟩ B.returns B.notSynchronized _ _ _ _ _ hwp _ _ _ ⟨hP, hz, va_S.rf⟩ hl
def wb_Ru_ofStart_2 (K2 : Nat → Int32 → Int32 → MH → Prop) (Post : Int32 → MH → Prop) (l1 : Nat) (l2 : Int32) (l3 : Int32) (h : MH) : Prop :=
  (((3 : Int32) ≤ l3) →
    (Post (0 : Int32) h)) ∧
  ((¬ (3 : Int32) ≤ l3) →
    (wp_Br_pitchOf (fun (r9 : Int32) (h9 : MH) =>
        (wp_Br_classBit (fun (r12 : Int32) (h12 : MH) =>
            (∃ x16 : Int32, gF h12 l1 0 9 = some (.inl x16) ∧
              ((((r12 &&& x16) = 0) →
                  (K2 l1 l2 (l3 + (1 : Int32)) h12)) ∧
                ((¬ (r12 &&& x16) = 0) →
                  (Post (10 : Int32) h12))))) r9 h9)) l2 l3 h))
def wn_Ru_ofStart_2 (Post : Int32 → MH → Prop) : Nat → Nat → Int32 → Int32 → MH → Prop
  | 0 => fun _ _ _ _ => False
  | n + 1 => wb_Ru_ofStart_2 (wn_Ru_ofStart_2 Post n) Post
def wp_Ru_ofStart_2 (Post : Int32 → MH → Prop) (l1 : Nat) (l2 : Int32) (l3 : Int32) (h : MH) : Prop := ∃ n, wn_Ru_ofStart_2 Post n l1 l2 l3 h
def wp_Ru_ofStart (Post : Int32 → MH → Prop) (l0 : Nat) (l1 : Nat) (l2 : Int32) (h : MH) : Prop :=
  wp_Ru_ofStart_2 Post l1 l2 (0 : Int32) h
set_option maxRecDepth 100000 in
set_option maxHeartbeats 4000000 in
theorem tb_Ru_ofStart_2 {p : Program} {l : Launch} {e : Env} {R : Room} {s : State} {m : MethodId} {args : Array Value} {below : List Frame} {meth : Method} {c : Code} (G : mG) (C0 : Cx G p s m args c prog_5_method_7_code 4 "BassRealiser$Rules") (hR : 1 ≤ R.frames ∧ 21 ≤ R.locals ∧ 0 ≤ R.cells ∧ 0 ≤ R.slots) (hr : meth.sig.returnType = some .int) (hlk : meth.locks = false) {Post : Int32 → MH → Prop} {K2 : Nat → Int32 → Int32 → MH → Prop} (hK2 : ∀ (l1 : Nat) (l2 : Int32) (l3 : Int32) (h : MH), K2 l1 l2 l3 h → WG p l e R s m args below meth c 0 0 (MQ below (va_Qi Post (Wd G) (mA G)) args s 0 0 (mA G)) G 4 [(1, .ref (m_b G + l1)), (2, .int l2), (3, .int l3)] 2 [] h) (l1 : Nat) (l2 : Int32) (l3 : Int32) (h : MH) (hwp : wb_Ru_ofStart_2 K2 Post l1 l2 l3 h) : WG p l e R s m args below meth c 0 0 (MQ below (va_Qi Post (Wd G) (mA G)) args s 0 0 (mA G)) G 4 [(1, .ref (m_b G + l1)), (2, .int l2), (3, .int l3)] 2 [] h := by
  unfold wb_Ru_ofStart_2 at hwp
  refine x_iload_n C0 2 d_Ru_ofStart_2 rfl rfl ?_
  refine x_iconst (v := 3) C0 d_Ru_ofStart_3 (by decide) ?_
  refine x_icmp_ge (tgt := 32) C0 d_Ru_ofStart_4 (by decide) (fun c4 => ?_) (fun c4 => ?_)
  · replace hwp := hwp.1 c4
    refine x_iconst (v := 0) C0 d_Ru_ofStart_32 (by decide) ?_
    exact x_iret C0 hr hlk hwp d_Ru_ofStart_33
  · replace hwp := hwp.2 c4
    refine x_iload_n C0 1 d_Ru_ofStart_7 rfl rfl ?_
    refine x_iload_n C0 2 d_Ru_ofStart_8 rfl rfl ?_
    refine x_callSNi0 (As := [.int l2, .int l3]) (st := []) C0 (c_Br_pitchOf l G hwp) (m_nwA C0 nw_3) mk_Br_pitchOf kw_2_158 rfl (Nat.le_of_ble_eq_true rfl) rfl rfl ⟨Nat.le_trans (by decide) hR.1, Nat.le_trans (by decide) hR.2.1⟩ ⟨Nat.zero_le _, Nat.zero_le _⟩ rfl d_Ru_ofStart_9 (fun r9 h9 hwp => ?_)
    refine x_callSNi0 (As := [.int r9]) (st := []) C0 (c_Br_classBit l G hwp) (m_nwA C0 nw_4) mk_Br_classBit kw_2_34 rfl (Nat.le_of_ble_eq_true rfl) rfl rfl ⟨Nat.le_trans (by decide) hR.1, Nat.le_trans (by decide) hR.2.1⟩ ⟨Nat.zero_le _, Nat.zero_le _⟩ rfl d_Ru_ofStart_12 (fun r12 h12 hwp => ?_)
    refine x_aload_n C0 0 d_Ru_ofStart_15 rfl rfl ?_
    obtain ⟨x16, e16, hwp⟩ := hwp
    refine x_getI C0 fk_Ru_70 e16 d_Ru_ofStart_16 ?_
    refine x_iand C0 d_Ru_ofStart_19 ?_
    refine x_if_eq (tgt := 26) C0 d_Ru_ofStart_20 (by decide) (fun c20 => ?_) (fun c20 => ?_)
    · replace hwp := hwp.1 c20
      refine x_iinc C0 2 d_Ru_ofStart_26 rfl rfl (by decide) (lv' := [(3, .int (l3 + (1 : Int32))), (1, .ref (m_b G + l1)), (2, .int l2)]) rfl ?_
      refine x_goto (tgt := 2) C0 d_Ru_ofStart_29 (by decide) ?_
      exact x_sub [1, 2, 0] rfl (hK2 _ _ _ _ hwp)
    · replace hwp := hwp.2 c20
      refine x_bipush (v := 10) C0 d_Ru_ofStart_23 (by decide) ?_
      exact x_iret C0 hr hlk hwp d_Ru_ofStart_25
theorem t_Ru_ofStart_2 {p : Program} {l : Launch} {e : Env} {R : Room} {s : State} {m : MethodId} {args : Array Value} {below : List Frame} {meth : Method} {c : Code} (G : mG) (C0 : Cx G p s m args c prog_5_method_7_code 4 "BassRealiser$Rules") (hR : 1 ≤ R.frames ∧ 21 ≤ R.locals ∧ 0 ≤ R.cells ∧ 0 ≤ R.slots) (hr : meth.sig.returnType = some .int) (hlk : meth.locks = false) {Post : Int32 → MH → Prop} (l1 : Nat) (l2 : Int32) (l3 : Int32) (h : MH) (hwp : wp_Ru_ofStart_2 Post l1 l2 l3 h) : WG p l e R s m args below meth c 0 0 (MQ below (va_Qi Post (Wd G) (mA G)) args s 0 0 (mA G)) G 4 [(1, .ref (m_b G + l1)), (2, .int l2), (3, .int l3)] 2 [] h := by
  obtain ⟨n, hwp⟩ := hwp
  induction n generalizing l1 l2 l3 h with
  | zero => exact False.elim hwp
  | succ n ih => exact tb_Ru_ofStart_2 G C0 hR hr hlk (fun l1 l2 l3 h hwp => ih l1 l2 l3 h hwp) l1 l2 l3 h hwp
set_option maxRecDepth 100000 in
set_option maxHeartbeats 4000000 in
theorem t_Ru_ofStart {p : Program} {l : Launch} {e : Env} {R : Room} {s : State} {m : MethodId} {args : Array Value} {below : List Frame} {meth : Method} {c : Code} (G : mG) (C0 : Cx G p s m args c prog_5_method_7_code 4 "BassRealiser$Rules") (hR : 1 ≤ R.frames ∧ 21 ≤ R.locals ∧ 0 ≤ R.cells ∧ 0 ≤ R.slots) (hr : meth.sig.returnType = some .int) (hlk : meth.locks = false) {Post : Int32 → MH → Prop} (l0 : Nat) (l1 : Nat) (l2 : Int32) (h : MH) (hwp : wp_Ru_ofStart Post l0 l1 l2 h) : WG p l e R s m args below meth c 0 0 (MQ below (va_Qi Post (Wd G) (mA G)) args s 0 0 (mA G)) G 4 [(0, .ref (m_b G + l0)), (1, .ref (m_b G + l1)), (2, .int l2)] 0 [] h := by
  unfold wp_Ru_ofStart at hwp
  refine x_iconst (v := 0) C0 d_Ru_ofStart_0 (by decide) ?_
  refine x_istore_n C0 d_Ru_ofStart_1 rfl (by decide) (lv' := [(3, .int (0 : Int32)), (0, .ref (m_b G + l0)), (1, .ref (m_b G + l1)), (2, .int l2)]) rfl ?_
  exact x_sub [2, 3, 0] rfl (t_Ru_ofStart_2 G C0 hR hr hlk  _ _ _ _ hwp)
set_option maxRecDepth 100000 in
set_option maxHeartbeats 4000000 in
theorem c_Ru_ofStart (l : Launch) (G : mG) {Post : Int32 → MH → Prop} {l0 : Nat} {l1 : Nat} {l2 : Int32} {h : MH} (hwp : wp_Ru_ofStart Post l0 l1 l2 h) : Met l y_Ru_ofStart (Cond.code y_Ru_ofStart prog_5_method_7_code 4 (Option.some Jvm.ClassFile.FieldType.int) :: lw_good) ({ frames := 1, cells := 0, slots := 0, locals := 21 }) (va_Pc [.ref (m_b G + l0), .ref (m_b G + l1), .int l2] (Wd G h)) (va_Qi Post (Wd G) (mA G)) 0 0 (mA G) := by
  refine Met.ofW (cc := prog_5_method_7_code) (maxL := 4) (ret := (Option.some Jvm.ClassFile.FieldType.int)) (by decide +kernel) rfl ?_
  intro p e s m args below meth c s₁ B hml hv
  obtain ⟨rfl, hP, hz, hK, hSt⟩ := hv
  have hts := atoms_spec (ws := Cond.code y_Ru_ofStart prog_5_method_7_code 4 (Option.some Jvm.ClassFile.FieldType.int) :: lw_good) B.pre
  have C0 : Cx G p s m ([.ref (m_b G + l0), .ref (m_b G + l1), .int l2] : List Value).toArray c prog_5_method_7_code 4 "BassRealiser$Rules" := ⟨⟨B.exec, B.bytes, hml, findClass_of_methodNamed B.named, fun w h => hts w (List.mem_cons_of_mem _ h)⟩, hK, hSt, by rw [hz]; exact Nat.le_add_right _ _⟩
  have hl := lv_entry ([.ref (m_b G + l0), .ref (m_b G + l1), .int l2]) (n := 4) (Nat.le_of_ble_eq_true rfl)
  rw [lg_entry_eq]
  exact t_Ru_ofStart G C0 ⟨Nat.le_refl _, Nat.le_refl _, Nat.le_refl _, Nat.le_refl _⟩ B.returns B.notSynchronized _ _ _ _ hwp _ _ _ ⟨hP, hz, va_S.rf⟩ hl
def wb_Mv_leave_2 (K2 : Nat → Nat → Int32 → Int32 → MH → Prop) (Post : MH → Prop) (l0 : Nat) (l1 : Nat) (l2 : Int32) (l3 : Int32) (h : MH) : Prop :=
  (((3 : Int32) ≤ l3) →
    (∃ x25 : Nat, gF h l0 2 0 = some (.inr (some x25)) ∧
      (∃ x30 : Int32, gF h l1 0 1 = some (.inl x30) ∧
        (∃ (n33 : Nat) (f33 : Nat → Int32), gA h x25 0 = some (n33, f33) ∧ vp_in (3 : Int32) n33 ∧ ∀ h33 : MH, h33 = mset h x25 (.inr (0, n33, .inl (upd f33 ((3 : Int32)).toNatClampNeg x30))) →
          (∃ x36 : Int32, gF h33 l1 0 9 = some (.inl x36) ∧
            ((∃ o : MV, gF h33 l0 2 3 = some o) ∧ ∀ h39 : MH, h39 = fset h33 l0 3 (.inl x36 : MV) →
              (∃ x44 : Int32, gF h39 l1 0 10 = some (.inl x44) ∧
                ((∃ o : MV, gF h39 l0 2 4 = some o) ∧ ∀ h47 : MH, h47 = fset h39 l0 4 (.inl x44 : MV) →
                  (Post h47))))))))) ∧
  ((¬ (3 : Int32) ≤ l3) →
    (∃ x8 : Nat, gF h l0 2 0 = some (.inr (some x8)) ∧
      (wp_Br_pitchOf (fun (r14 : Int32) (h14 : MH) =>
          (∃ (n17 : Nat) (f17 : Nat → Int32), gA h14 x8 0 = some (n17, f17) ∧ vp_in l3 n17 ∧ ∀ h17 : MH, h17 = mset h14 x8 (.inr (0, n17, .inl (upd f17 (l3).toNatClampNeg r14))) →
            (K2 l0 l1 l2 (l3 + (1 : Int32)) h17))) l2 l3 h)))
def wn_Mv_leave_2 (Post : MH → Prop) : Nat → Nat → Nat → Int32 → Int32 → MH → Prop
  | 0 => fun _ _ _ _ _ => False
  | n + 1 => wb_Mv_leave_2 (wn_Mv_leave_2 Post n) Post
def wp_Mv_leave_2 (Post : MH → Prop) (l0 : Nat) (l1 : Nat) (l2 : Int32) (l3 : Int32) (h : MH) : Prop := ∃ n, wn_Mv_leave_2 Post n l0 l1 l2 l3 h
def wp_Mv_leave (Post : MH → Prop) (l0 : Nat) (l1 : Nat) (l2 : Int32) (h : MH) : Prop :=
  wp_Mv_leave_2 Post l0 l1 l2 (0 : Int32) h
set_option maxRecDepth 100000 in
set_option maxHeartbeats 4000000 in
theorem tb_Mv_leave_2 {p : Program} {l : Launch} {e : Env} {R : Room} {s : State} {m : MethodId} {args : Array Value} {below : List Frame} {meth : Method} {c : Code} (G : mG) (C0 : Cx G p s m args c prog_4_method_2_code 4 "BassRealiser$Move") (hR : 1 ≤ R.frames ∧ 21 ≤ R.locals ∧ 0 ≤ R.cells ∧ 0 ≤ R.slots) (hr : meth.sig.returnType = none) (hlk : meth.locks = false) {Post : MH → Prop} {K2 : Nat → Nat → Int32 → Int32 → MH → Prop} (hK2 : ∀ (l0 : Nat) (l1 : Nat) (l2 : Int32) (l3 : Int32) (h : MH), K2 l0 l1 l2 l3 h → WG p l e R s m args below meth c 0 0 (MQ below (va_Qv Post (Wd G) (mA G)) args s 0 0 (mA G)) G 4 [(0, .ref (m_b G + l0)), (1, .ref (m_b G + l1)), (2, .int l2), (3, .int l3)] 2 [] h) (l0 : Nat) (l1 : Nat) (l2 : Int32) (l3 : Int32) (h : MH) (hwp : wb_Mv_leave_2 K2 Post l0 l1 l2 l3 h) : WG p l e R s m args below meth c 0 0 (MQ below (va_Qv Post (Wd G) (mA G)) args s 0 0 (mA G)) G 4 [(0, .ref (m_b G + l0)), (1, .ref (m_b G + l1)), (2, .int l2), (3, .int l3)] 2 [] h := by
  unfold wb_Mv_leave_2 at hwp
  refine x_iload_n C0 3 d_Mv_leave_2 rfl rfl ?_
  refine x_iconst (v := 3) C0 d_Mv_leave_3 (by decide) ?_
  refine x_icmp_ge (tgt := 24) C0 d_Mv_leave_4 (by decide) (fun c4 => ?_) (fun c4 => ?_)
  · replace hwp := hwp.1 c4
    refine x_aload_n C0 0 d_Mv_leave_24 rfl rfl ?_
    obtain ⟨x25, e25, hwp⟩ := hwp
    refine x_getR C0 fk_Mv_11 e25 d_Mv_leave_25 ?_
    refine x_iconst (v := 3) C0 d_Mv_leave_28 (by decide) ?_
    refine x_aload_n C0 1 d_Mv_leave_29 rfl rfl ?_
    obtain ⟨x30, e30, hwp⟩ := hwp
    refine x_getI C0 fk_Mv_25 e30 d_Mv_leave_30 ?_
    obtain ⟨n33, f33, e33, i33, hwp⟩ := hwp
    refine x_iast C0 e33 i33 d_Mv_leave_33 ?_
    refine x_nh (fun h33 eh33 => ?_)
    replace hwp := hwp h33 eh33
    refine x_aload_n C0 0 d_Mv_leave_34 rfl rfl ?_
    refine x_aload_n C0 1 d_Mv_leave_35 rfl rfl ?_
    obtain ⟨x36, e36, hwp⟩ := hwp
    refine x_getI C0 fk_Mv_31 e36 d_Mv_leave_36 ?_
    obtain ⟨⟨o39, e39⟩, hwp⟩ := hwp
    refine x_put (x := (.inl x36 : MV)) C0 pk_Mv_34 e39 rfl rfl d_Mv_leave_39 ?_
    refine x_nh (fun h39 eh39 => ?_)
    replace hwp := hwp h39 eh39
    refine x_aload_n C0 0 d_Mv_leave_42 rfl rfl ?_
    refine x_aload_n C0 1 d_Mv_leave_43 rfl rfl ?_
    obtain ⟨x44, e44, hwp⟩ := hwp
    refine x_getI C0 fk_Mv_37 e44 d_Mv_leave_44 ?_
    obtain ⟨⟨o47, e47⟩, hwp⟩ := hwp
    refine x_put (x := (.inl x44 : MV)) C0 pk_Mv_40 e47 rfl rfl d_Mv_leave_47 ?_
    refine x_nh (fun h47 eh47 => ?_)
    replace hwp := hwp h47 eh47
    exact x_vret C0 hr hlk hwp d_Mv_leave_50
  · replace hwp := hwp.2 c4
    refine x_aload_n C0 0 d_Mv_leave_7 rfl rfl ?_
    obtain ⟨x8, e8, hwp⟩ := hwp
    refine x_getR C0 fk_Mv_11 e8 d_Mv_leave_8 ?_
    refine x_iload_n C0 3 d_Mv_leave_11 rfl rfl ?_
    refine x_iload_n C0 2 d_Mv_leave_12 rfl rfl ?_
    refine x_iload_n C0 3 d_Mv_leave_13 rfl rfl ?_
    refine x_callSNi0 (As := [.int l2, .int l3]) (st := [.int l3, .ref (m_b G + x8)]) C0 (c_Br_pitchOf l G hwp) (m_nwA C0 nw_6) mk_Br_pitchOf kw_2_158 rfl (Nat.le_of_ble_eq_true rfl) rfl rfl ⟨Nat.le_trans (by decide) hR.1, Nat.le_trans (by decide) hR.2.1⟩ ⟨Nat.zero_le _, Nat.zero_le _⟩ rfl d_Mv_leave_14 (fun r14 h14 hwp => ?_)
    obtain ⟨n17, f17, e17, i17, hwp⟩ := hwp
    refine x_iast C0 e17 i17 d_Mv_leave_17 ?_
    refine x_nh (fun h17 eh17 => ?_)
    replace hwp := hwp h17 eh17
    refine x_iinc C0 3 d_Mv_leave_18 rfl rfl (by decide) (lv' := [(3, .int (l3 + (1 : Int32))), (0, .ref (m_b G + l0)), (1, .ref (m_b G + l1)), (2, .int l2)]) rfl ?_
    refine x_goto (tgt := 2) C0 d_Mv_leave_21 (by decide) ?_
    exact x_sub [1, 2, 3, 0] rfl (hK2 _ _ _ _ _ hwp)
theorem t_Mv_leave_2 {p : Program} {l : Launch} {e : Env} {R : Room} {s : State} {m : MethodId} {args : Array Value} {below : List Frame} {meth : Method} {c : Code} (G : mG) (C0 : Cx G p s m args c prog_4_method_2_code 4 "BassRealiser$Move") (hR : 1 ≤ R.frames ∧ 21 ≤ R.locals ∧ 0 ≤ R.cells ∧ 0 ≤ R.slots) (hr : meth.sig.returnType = none) (hlk : meth.locks = false) {Post : MH → Prop} (l0 : Nat) (l1 : Nat) (l2 : Int32) (l3 : Int32) (h : MH) (hwp : wp_Mv_leave_2 Post l0 l1 l2 l3 h) : WG p l e R s m args below meth c 0 0 (MQ below (va_Qv Post (Wd G) (mA G)) args s 0 0 (mA G)) G 4 [(0, .ref (m_b G + l0)), (1, .ref (m_b G + l1)), (2, .int l2), (3, .int l3)] 2 [] h := by
  obtain ⟨n, hwp⟩ := hwp
  induction n generalizing l0 l1 l2 l3 h with
  | zero => exact False.elim hwp
  | succ n ih => exact tb_Mv_leave_2 G C0 hR hr hlk (fun l0 l1 l2 l3 h hwp => ih l0 l1 l2 l3 h hwp) l0 l1 l2 l3 h hwp
set_option maxRecDepth 100000 in
set_option maxHeartbeats 4000000 in
theorem t_Mv_leave {p : Program} {l : Launch} {e : Env} {R : Room} {s : State} {m : MethodId} {args : Array Value} {below : List Frame} {meth : Method} {c : Code} (G : mG) (C0 : Cx G p s m args c prog_4_method_2_code 4 "BassRealiser$Move") (hR : 1 ≤ R.frames ∧ 21 ≤ R.locals ∧ 0 ≤ R.cells ∧ 0 ≤ R.slots) (hr : meth.sig.returnType = none) (hlk : meth.locks = false) {Post : MH → Prop} (l0 : Nat) (l1 : Nat) (l2 : Int32) (h : MH) (hwp : wp_Mv_leave Post l0 l1 l2 h) : WG p l e R s m args below meth c 0 0 (MQ below (va_Qv Post (Wd G) (mA G)) args s 0 0 (mA G)) G 4 [(0, .ref (m_b G + l0)), (1, .ref (m_b G + l1)), (2, .int l2)] 0 [] h := by
  unfold wp_Mv_leave at hwp
  refine x_iconst (v := 0) C0 d_Mv_leave_0 (by decide) ?_
  refine x_istore_n C0 d_Mv_leave_1 rfl (by decide) (lv' := [(3, .int (0 : Int32)), (0, .ref (m_b G + l0)), (1, .ref (m_b G + l1)), (2, .int l2)]) rfl ?_
  exact x_sub [1, 2, 3, 0] rfl (t_Mv_leave_2 G C0 hR hr hlk  _ _ _ _ _ hwp)
set_option maxRecDepth 100000 in
set_option maxHeartbeats 4000000 in
theorem c_Mv_leave (l : Launch) (G : mG) {Post : MH → Prop} {l0 : Nat} {l1 : Nat} {l2 : Int32} {h : MH} (hwp : wp_Mv_leave Post l0 l1 l2 h) : Met l y_Mv_leave (Cond.code y_Mv_leave prog_4_method_2_code 4 (Option.none : Option Jvm.ClassFile.FieldType) :: lw_good) ({ frames := 1, cells := 0, slots := 0, locals := 21 }) (va_Pc [.ref (m_b G + l0), .ref (m_b G + l1), .int l2] (Wd G h)) (va_Qv Post (Wd G) (mA G)) 0 0 (mA G) := by
  refine Met.ofW (cc := prog_4_method_2_code) (maxL := 4) (ret := (Option.none : Option Jvm.ClassFile.FieldType)) (by decide +kernel) rfl ?_
  intro p e s m args below meth c s₁ B hml hv
  obtain ⟨rfl, hP, hz, hK, hSt⟩ := hv
  have hts := atoms_spec (ws := Cond.code y_Mv_leave prog_4_method_2_code 4 (Option.none : Option Jvm.ClassFile.FieldType) :: lw_good) B.pre
  have C0 : Cx G p s m ([.ref (m_b G + l0), .ref (m_b G + l1), .int l2] : List Value).toArray c prog_4_method_2_code 4 "BassRealiser$Move" := ⟨⟨B.exec, B.bytes, hml, findClass_of_methodNamed B.named, fun w h => hts w (List.mem_cons_of_mem _ h)⟩, hK, hSt, by rw [hz]; exact Nat.le_add_right _ _⟩
  have hl := lv_entry ([.ref (m_b G + l0), .ref (m_b G + l1), .int l2]) (n := 4) (Nat.le_of_ble_eq_true rfl)
  rw [lg_entry_eq]
  exact t_Mv_leave G C0 ⟨Nat.le_refl _, Nat.le_refl _, Nat.le_refl _, Nat.le_refl _⟩ B.returns B.notSynchronized _ _ _ _ hwp _ _ _ ⟨hP, hz, va_S.rf⟩ hl
