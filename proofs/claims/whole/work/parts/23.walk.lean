theorem d_Rm_count_0 : decode prog_8_method_51_code 0 = .ok (.aload_n 0, 1) := by decide +kernel
theorem d_Rm_count_1 : decode prog_8_method_51_code 1 = .ok (.iconst 0, 1) := by decide +kernel
theorem d_Rm_count_2 : decode prog_8_method_51_code 2 = .ok (.putfield 1, 3) := by decide +kernel
theorem d_Rm_count_5 : decode prog_8_method_51_code 5 = .ok (.iload_n 1, 1) := by decide +kernel
theorem d_Rm_count_6 : decode prog_8_method_51_code 6 = .ok (.i2l, 1) := by decide +kernel
theorem d_Rm_count_7 : decode prog_8_method_51_code 7 = .ok (.lconst 0, 1) := by decide +kernel
theorem d_Rm_count_8 : decode prog_8_method_51_code 8 = .ok (.ldc2_w 214, 3) := by decide +kernel
theorem d_Rm_count_11 : decode prog_8_method_51_code 11 = .ok (.invokestatic 82, 3) := by decide +kernel
theorem d_Rm_count_14 : decode prog_8_method_51_code 14 = .ok (.ifCond .ne 5, 3) := by decide +kernel
theorem d_Rm_count_17 : decode prog_8_method_51_code 17 = .ok (.iconst (-1), 1) := by decide +kernel
theorem d_Rm_count_18 : decode prog_8_method_51_code 18 = .ok (.ireturn, 1) := by decide +kernel
theorem d_Rm_count_19 : decode prog_8_method_51_code 19 = .ok (.iload_n 1, 1) := by decide +kernel
theorem d_Rm_count_20 : decode prog_8_method_51_code 20 = .ok (.iconst 5, 1) := by decide +kernel
theorem d_Rm_count_21 : decode prog_8_method_51_code 21 = .ok (.if_icmp .le 49, 3) := by decide +kernel
theorem d_Rm_count_24 : decode prog_8_method_51_code 24 = .ok (.iload_n 1, 1) := by decide +kernel
theorem d_Rm_count_25 : decode prog_8_method_51_code 25 = .ok (.bipush 9, 2) := by decide +kernel
theorem d_Rm_count_27 : decode prog_8_method_51_code 27 = .ok (.if_icmp .ge 15, 3) := by decide +kernel
theorem d_Rm_count_30 : decode prog_8_method_51_code 30 = .ok (.aload_n 0, 1) := by decide +kernel
theorem d_Rm_count_31 : decode prog_8_method_51_code 31 = .ok (.getfield 26, 3) := by decide +kernel
theorem d_Rm_count_34 : decode prog_8_method_51_code 34 = .ok (.iload_n 1, 1) := by decide +kernel
theorem d_Rm_count_35 : decode prog_8_method_51_code 35 = .ok (.bipush 6, 2) := by decide +kernel
theorem d_Rm_count_37 : decode prog_8_method_51_code 37 = .ok (.isub, 1) := by decide +kernel
theorem d_Rm_count_38 : decode prog_8_method_51_code 38 = .ok (.iaload, 1) := by decide +kernel
theorem d_Rm_count_39 : decode prog_8_method_51_code 39 = .ok (.goto 30, 3) := by decide +kernel
theorem d_Rm_count_42 : decode prog_8_method_51_code 42 = .ok (.iload_n 1, 1) := by decide +kernel
theorem d_Rm_count_43 : decode prog_8_method_51_code 43 = .ok (.bipush 12, 2) := by decide +kernel
theorem d_Rm_count_45 : decode prog_8_method_51_code 45 = .ok (.if_icmp .ge 15, 3) := by decide +kernel
theorem d_Rm_count_48 : decode prog_8_method_51_code 48 = .ok (.aload_n 0, 1) := by decide +kernel
theorem d_Rm_count_49 : decode prog_8_method_51_code 49 = .ok (.getfield 29, 3) := by decide +kernel
theorem d_Rm_count_52 : decode prog_8_method_51_code 52 = .ok (.iload_n 1, 1) := by decide +kernel
theorem d_Rm_count_53 : decode prog_8_method_51_code 53 = .ok (.bipush 9, 2) := by decide +kernel
theorem d_Rm_count_55 : decode prog_8_method_51_code 55 = .ok (.isub, 1) := by decide +kernel
theorem d_Rm_count_56 : decode prog_8_method_51_code 56 = .ok (.iaload, 1) := by decide +kernel
theorem d_Rm_count_57 : decode prog_8_method_51_code 57 = .ok (.goto 12, 3) := by decide +kernel
theorem d_Rm_count_60 : decode prog_8_method_51_code 60 = .ok (.aload_n 0, 1) := by decide +kernel
theorem d_Rm_count_61 : decode prog_8_method_51_code 61 = .ok (.getfield 32, 3) := by decide +kernel
theorem d_Rm_count_64 : decode prog_8_method_51_code 64 = .ok (.iload_n 1, 1) := by decide +kernel
theorem d_Rm_count_65 : decode prog_8_method_51_code 65 = .ok (.bipush 12, 2) := by decide +kernel
theorem d_Rm_count_67 : decode prog_8_method_51_code 67 = .ok (.isub, 1) := by decide +kernel
theorem d_Rm_count_68 : decode prog_8_method_51_code 68 = .ok (.iaload, 1) := by decide +kernel
theorem d_Rm_count_69 : decode prog_8_method_51_code 69 = .ok (.ireturn, 1) := by decide +kernel
theorem d_Rm_count_70 : decode prog_8_method_51_code 70 = .ok (.iconst 0, 1) := by decide +kernel
theorem d_Rm_count_71 : decode prog_8_method_51_code 71 = .ok (.istore_n 2, 1) := by decide +kernel
theorem d_Rm_count_72 : decode prog_8_method_51_code 72 = .ok (.iconst 0, 1) := by decide +kernel
theorem d_Rm_count_73 : decode prog_8_method_51_code 73 = .ok (.istore_n 3, 1) := by decide +kernel
theorem d_Rm_count_74 : decode prog_8_method_51_code 74 = .ok (.iload_n 3, 1) := by decide +kernel
theorem d_Rm_count_75 : decode prog_8_method_51_code 75 = .ok (.bipush 10, 2) := by decide +kernel
theorem d_Rm_count_77 : decode prog_8_method_51_code 77 = .ok (.aload_n 0, 1) := by decide +kernel
theorem d_Rm_count_78 : decode prog_8_method_51_code 78 = .ok (.getfield 79, 3) := by decide +kernel
theorem d_Rm_count_81 : decode prog_8_method_51_code 81 = .ok (.imul, 1) := by decide +kernel
theorem d_Rm_count_82 : decode prog_8_method_51_code 82 = .ok (.if_icmp .ge 31, 3) := by decide +kernel
theorem d_Rm_count_85 : decode prog_8_method_51_code 85 = .ok (.iload_n 1, 1) := by decide +kernel
theorem d_Rm_count_86 : decode prog_8_method_51_code 86 = .ok (.iconst 1, 1) := by decide +kernel
theorem d_Rm_count_87 : decode prog_8_method_51_code 87 = .ok (.if_icmp .ne 26, 3) := by decide +kernel
theorem d_Rm_count_90 : decode prog_8_method_51_code 90 = .ok (.aload_n 0, 1) := by decide +kernel
theorem d_Rm_count_91 : decode prog_8_method_51_code 91 = .ok (.getfield 23, 3) := by decide +kernel
theorem d_Rm_count_94 : decode prog_8_method_51_code 94 = .ok (.iload_n 3, 1) := by decide +kernel
theorem d_Rm_count_95 : decode prog_8_method_51_code 95 = .ok (.iaload, 1) := by decide +kernel
theorem d_Rm_count_96 : decode prog_8_method_51_code 96 = .ok (.ifCond .le 9, 3) := by decide +kernel
theorem d_Rm_count_99 : decode prog_8_method_51_code 99 = .ok (.iload_n 2, 1) := by decide +kernel
theorem d_Rm_count_100 : decode prog_8_method_51_code 100 = .ok (.iconst 1, 1) := by decide +kernel
theorem d_Rm_count_101 : decode prog_8_method_51_code 101 = .ok (.iadd, 1) := by decide +kernel
theorem d_Rm_count_102 : decode prog_8_method_51_code 102 = .ok (.goto 4, 3) := by decide +kernel
theorem d_Rm_count_105 : decode prog_8_method_51_code 105 = .ok (.iload_n 2, 1) := by decide +kernel
theorem d_Rm_count_106 : decode prog_8_method_51_code 106 = .ok (.istore_n 2, 1) := by decide +kernel
theorem d_Rm_count_107 : decode prog_8_method_51_code 107 = .ok (.iinc 3 1, 3) := by decide +kernel
theorem d_Rm_count_110 : decode prog_8_method_51_code 110 = .ok (.goto (-36), 3) := by decide +kernel
theorem d_Rm_count_113 : decode prog_8_method_51_code 113 = .ok (.iconst 0, 1) := by decide +kernel
theorem d_Rm_count_114 : decode prog_8_method_51_code 114 = .ok (.istore_n 3, 1) := by decide +kernel
theorem d_Rm_count_115 : decode prog_8_method_51_code 115 = .ok (.iload_n 3, 1) := by decide +kernel
theorem d_Rm_count_116 : decode prog_8_method_51_code 116 = .ok (.iconst 3, 1) := by decide +kernel
theorem d_Rm_count_117 : decode prog_8_method_51_code 117 = .ok (.aload_n 0, 1) := by decide +kernel
theorem d_Rm_count_118 : decode prog_8_method_51_code 118 = .ok (.getfield 79, 3) := by decide +kernel
theorem d_Rm_count_121 : decode prog_8_method_51_code 121 = .ok (.imul, 1) := by decide +kernel
theorem d_Rm_count_122 : decode prog_8_method_51_code 122 = .ok (.if_icmp .ge 73, 3) := by decide +kernel
theorem d_Rm_count_125 : decode prog_8_method_51_code 125 = .ok (.iload_n 1, 1) := by decide +kernel
theorem d_Rm_count_126 : decode prog_8_method_51_code 126 = .ok (.iconst 3, 1) := by decide +kernel
theorem d_Rm_count_127 : decode prog_8_method_51_code 127 = .ok (.if_icmp .le 68, 3) := by decide +kernel
theorem d_Rm_count_130 : decode prog_8_method_51_code 130 = .ok (.iload_n 1, 1) := by decide +kernel
theorem d_Rm_count_131 : decode prog_8_method_51_code 131 = .ok (.iconst 4, 1) := by decide +kernel
theorem d_Rm_count_132 : decode prog_8_method_51_code 132 = .ok (.if_icmp .ne 28, 3) := by decide +kernel
theorem d_Rm_count_135 : decode prog_8_method_51_code 135 = .ok (.iload_n 3, 1) := by decide +kernel
theorem d_Rm_count_136 : decode prog_8_method_51_code 136 = .ok (.iconst 3, 1) := by decide +kernel
theorem d_Rm_count_137 : decode prog_8_method_51_code 137 = .ok (.irem, 1) := by decide +kernel
theorem d_Rm_count_138 : decode prog_8_method_51_code 138 = .ok (.ifCond .ne 18, 3) := by decide +kernel
theorem d_Rm_count_141 : decode prog_8_method_51_code 141 = .ok (.aload_n 0, 1) := by decide +kernel
theorem d_Rm_count_142 : decode prog_8_method_51_code 142 = .ok (.getfield 44, 3) := by decide +kernel
theorem d_Rm_count_145 : decode prog_8_method_51_code 145 = .ok (.iload_n 3, 1) := by decide +kernel
theorem d_Rm_count_146 : decode prog_8_method_51_code 146 = .ok (.iconst 3, 1) := by decide +kernel
theorem d_Rm_count_147 : decode prog_8_method_51_code 147 = .ok (.idiv, 1) := by decide +kernel
theorem d_Rm_count_148 : decode prog_8_method_51_code 148 = .ok (.baload, 1) := by decide +kernel
theorem d_Rm_count_149 : decode prog_8_method_51_code 149 = .ok (.ifCond .eq 7, 3) := by decide +kernel
theorem d_Rm_count_152 : decode prog_8_method_51_code 152 = .ok (.iconst 1, 1) := by decide +kernel
theorem d_Rm_count_153 : decode prog_8_method_51_code 153 = .ok (.goto 21, 3) := by decide +kernel
theorem d_Rm_count_156 : decode prog_8_method_51_code 156 = .ok (.iconst 0, 1) := by decide +kernel
theorem d_Rm_count_157 : decode prog_8_method_51_code 157 = .ok (.goto 17, 3) := by decide +kernel
theorem d_Rm_count_160 : decode prog_8_method_51_code 160 = .ok (.aload_n 0, 1) := by decide +kernel
theorem d_Rm_count_161 : decode prog_8_method_51_code 161 = .ok (.getfield 38, 3) := by decide +kernel
theorem d_Rm_count_164 : decode prog_8_method_51_code 164 = .ok (.iload_n 3, 1) := by decide +kernel
theorem d_Rm_count_165 : decode prog_8_method_51_code 165 = .ok (.iaload, 1) := by decide +kernel
theorem d_Rm_count_166 : decode prog_8_method_51_code 166 = .ok (.ifCond .lt 7, 3) := by decide +kernel
theorem d_Rm_count_169 : decode prog_8_method_51_code 169 = .ok (.iconst 1, 1) := by decide +kernel
theorem d_Rm_count_170 : decode prog_8_method_51_code 170 = .ok (.goto 4, 3) := by decide +kernel
theorem d_Rm_count_173 : decode prog_8_method_51_code 173 = .ok (.iconst 0, 1) := by decide +kernel
theorem d_Rm_count_174 : decode prog_8_method_51_code 174 = .ok (.istore 4, 2) := by decide +kernel
theorem d_Rm_count_176 : decode prog_8_method_51_code 176 = .ok (.iload 4, 2) := by decide +kernel
theorem d_Rm_count_178 : decode prog_8_method_51_code 178 = .ok (.ifCond .eq 9, 3) := by decide +kernel
theorem d_Rm_count_181 : decode prog_8_method_51_code 181 = .ok (.iload_n 2, 1) := by decide +kernel
theorem d_Rm_count_182 : decode prog_8_method_51_code 182 = .ok (.iconst 1, 1) := by decide +kernel
theorem d_Rm_count_183 : decode prog_8_method_51_code 183 = .ok (.iadd, 1) := by decide +kernel
theorem d_Rm_count_184 : decode prog_8_method_51_code 184 = .ok (.goto 4, 3) := by decide +kernel
theorem d_Rm_count_187 : decode prog_8_method_51_code 187 = .ok (.iload_n 2, 1) := by decide +kernel
theorem d_Rm_count_188 : decode prog_8_method_51_code 188 = .ok (.istore_n 2, 1) := by decide +kernel
theorem d_Rm_count_189 : decode prog_8_method_51_code 189 = .ok (.iinc 3 1, 3) := by decide +kernel
theorem d_Rm_count_192 : decode prog_8_method_51_code 192 = .ok (.goto (-77), 3) := by decide +kernel
theorem d_Rm_count_195 : decode prog_8_method_51_code 195 = .ok (.iload_n 1, 1) := by decide +kernel
theorem d_Rm_count_196 : decode prog_8_method_51_code 196 = .ok (.ifCond .ne 10, 3) := by decide +kernel
theorem d_Rm_count_199 : decode prog_8_method_51_code 199 = .ok (.aload_n 0, 1) := by decide +kernel
theorem d_Rm_count_200 : decode prog_8_method_51_code 200 = .ok (.getfield 79, 3) := by decide +kernel
theorem d_Rm_count_203 : decode prog_8_method_51_code 203 = .ok (.goto 31, 3) := by decide +kernel
theorem d_Rm_count_206 : decode prog_8_method_51_code 206 = .ok (.iload_n 1, 1) := by decide +kernel
theorem d_Rm_count_207 : decode prog_8_method_51_code 207 = .ok (.iconst 2, 1) := by decide +kernel
theorem d_Rm_count_208 : decode prog_8_method_51_code 208 = .ok (.if_icmp .ne 13, 3) := by decide +kernel
theorem d_Rm_count_211 : decode prog_8_method_51_code 211 = .ok (.aload_n 0, 1) := by decide +kernel
theorem d_Rm_count_212 : decode prog_8_method_51_code 212 = .ok (.getfield 90, 3) := by decide +kernel
theorem d_Rm_count_215 : decode prog_8_method_51_code 215 = .ok (.bipush 7, 2) := by decide +kernel
theorem d_Rm_count_217 : decode prog_8_method_51_code 217 = .ok (.iadd, 1) := by decide +kernel
theorem d_Rm_count_218 : decode prog_8_method_51_code 218 = .ok (.goto 16, 3) := by decide +kernel
theorem d_Rm_count_221 : decode prog_8_method_51_code 221 = .ok (.iload_n 1, 1) := by decide +kernel
theorem d_Rm_count_222 : decode prog_8_method_51_code 222 = .ok (.iconst 3, 1) := by decide +kernel
theorem d_Rm_count_223 : decode prog_8_method_51_code 223 = .ok (.if_icmp .ne 10, 3) := by decide +kernel
theorem d_Rm_count_226 : decode prog_8_method_51_code 226 = .ok (.aload_n 0, 1) := by decide +kernel
theorem d_Rm_count_227 : decode prog_8_method_51_code 227 = .ok (.getfield 35, 3) := by decide +kernel
theorem d_Rm_count_230 : decode prog_8_method_51_code 230 = .ok (.goto 4, 3) := by decide +kernel
theorem d_Rm_count_233 : decode prog_8_method_51_code 233 = .ok (.iload_n 2, 1) := by decide +kernel
theorem d_Rm_count_234 : decode prog_8_method_51_code 234 = .ok (.ireturn, 1) := by decide +kernel
def wp_Rm_count_195 (Post : Int32 → MH → Prop) (l0 : Nat) (l1 : Int32) (l2 : Int32) (h : MH) : Prop :=
  ((¬ l1 = 0) →
    (((¬ l1 = (2 : Int32)) →
        (((¬ l1 = (3 : Int32)) →
            (Post l2 h)) ∧
          ((l1 = (3 : Int32)) →
            (∃ x227 : Int32, gF h l0 6 10 = some (.inl x227) ∧
              (Post x227 h))))) ∧
      ((l1 = (2 : Int32)) →
        (∃ x212 : Int32, gF h l0 6 1 = some (.inl x212) ∧
          (Post (x212 + (7 : Int32)) h))))) ∧
  ((l1 = 0) →
    (∃ x200 : Int32, gF h l0 6 2 = some (.inl x200) ∧
      (Post x200 h)))
def wp_Rm_count_188 (K115 : Nat → Int32 → Int32 → Int32 → MH → Prop) (Post : Int32 → MH → Prop) (l0 : Nat) (l1 : Int32) (l3 : Int32) (y0 : Int32) (h : MH) : Prop :=
  K115 l0 l1 y0 (l3 + (1 : Int32)) h
def wp_Rm_count_174 (K115 : Nat → Int32 → Int32 → Int32 → MH → Prop) (Post : Int32 → MH → Prop) (l0 : Nat) (l1 : Int32) (l2 : Int32) (l3 : Int32) (y0 : Int32) (h : MH) : Prop :=
  ((y0 = 0) →
    (wp_Rm_count_188 K115 Post l0 l1 l3 l2 h)) ∧
  ((¬ y0 = 0) →
    (wp_Rm_count_188 K115 Post l0 l1 l3 (l2 + (1 : Int32)) h))
def wp_Rm_count_156 (K115 : Nat → Int32 → Int32 → Int32 → MH → Prop) (Post : Int32 → MH → Prop) (l0 : Nat) (l1 : Int32) (l2 : Int32) (l3 : Int32) (h : MH) : Prop :=
  wp_Rm_count_174 K115 Post l0 l1 l2 l3 (0 : Int32) h
def wb_Rm_count_115 (K115 : Nat → Int32 → Int32 → Int32 → MH → Prop) (Post : Int32 → MH → Prop) (l0 : Nat) (l1 : Int32) (l2 : Int32) (l3 : Int32) (h : MH) : Prop :=
  ∃ x118 : Int32, gF h l0 6 2 = some (.inl x118) ∧
  (((((3 : Int32) * x118) ≤ l3) →
      (wp_Rm_count_195 Post l0 l1 l2 h)) ∧
    ((¬ ((3 : Int32) * x118) ≤ l3) →
      (((l1 ≤ (3 : Int32)) →
          (wp_Rm_count_195 Post l0 l1 l2 h)) ∧
        ((¬ l1 ≤ (3 : Int32)) →
          (((¬ l1 = (4 : Int32)) →
              (∃ x161 : Nat, gF h l0 6 11 = some (.inr (some x161)) ∧
                (∃ (n165 : Nat) (f165 : Nat → Int32), gA h x161 0 = some (n165, f165) ∧ vp_in l3 n165 ∧
                  ((((f165 (l3).toNatClampNeg) < 0) →
                      (wp_Rm_count_174 K115 Post l0 l1 l2 l3 (0 : Int32) h)) ∧
                    ((¬ (f165 (l3).toNatClampNeg) < 0) →
                      (wp_Rm_count_174 K115 Post l0 l1 l2 l3 (1 : Int32) h)))))) ∧
            ((l1 = (4 : Int32)) →
              (((¬ (l3 - l3 / (3 : Int32) * (3 : Int32)) = 0) →
                  (wp_Rm_count_156 K115 Post l0 l1 l2 l3 h)) ∧
                (((l3 - l3 / (3 : Int32) * (3 : Int32)) = 0) →
                  (∃ x142 : Nat, gF h l0 6 13 = some (.inr (some x142)) ∧
                    (∃ (n148 : Nat) (f148 : Nat → Int32), gA h x142 1 = some (n148, f148) ∧ vp_in (l3 / (3 : Int32)) n148 ∧
                      ((((f148 (l3 / (3 : Int32)).toNatClampNeg) = 0) →
                        (wp_Rm_count_156 K115 Post l0 l1 l2 l3 h)) ∧
                        ((¬ (f148 (l3 / (3 : Int32)).toNatClampNeg) = 0) →
                        (wp_Rm_count_174 K115 Post l0 l1 l2 l3 (1 : Int32) h)))))))))))))
def wn_Rm_count_115 (Post : Int32 → MH → Prop) : Nat → Nat → Int32 → Int32 → Int32 → MH → Prop
  | 0 => fun _ _ _ _ _ => False
  | n + 1 => wb_Rm_count_115 (wn_Rm_count_115 Post n) Post
def wp_Rm_count_115 (Post : Int32 → MH → Prop) (l0 : Nat) (l1 : Int32) (l2 : Int32) (l3 : Int32) (h : MH) : Prop := ∃ n, wn_Rm_count_115 Post n l0 l1 l2 l3 h
def wp_Rm_count_113 (Post : Int32 → MH → Prop) (l0 : Nat) (l1 : Int32) (l2 : Int32) (h : MH) : Prop :=
  wp_Rm_count_115 Post l0 l1 l2 (0 : Int32) h
def wp_Rm_count_106 (K74 : Nat → Int32 → Int32 → Int32 → MH → Prop) (Post : Int32 → MH → Prop) (l0 : Nat) (l1 : Int32) (l3 : Int32) (y0 : Int32) (h : MH) : Prop :=
  K74 l0 l1 y0 (l3 + (1 : Int32)) h
def wb_Rm_count_74 (K74 : Nat → Int32 → Int32 → Int32 → MH → Prop) (Post : Int32 → MH → Prop) (l0 : Nat) (l1 : Int32) (l2 : Int32) (l3 : Int32) (h : MH) : Prop :=
  ∃ x78 : Int32, gF h l0 6 2 = some (.inl x78) ∧
  (((((10 : Int32) * x78) ≤ l3) →
      (wp_Rm_count_113 Post l0 l1 l2 h)) ∧
    ((¬ ((10 : Int32) * x78) ≤ l3) →
      (((¬ l1 = (1 : Int32)) →
          (wp_Rm_count_113 Post l0 l1 l2 h)) ∧
        ((l1 = (1 : Int32)) →
          (∃ x91 : Nat, gF h l0 6 6 = some (.inr (some x91)) ∧
            (∃ (n95 : Nat) (f95 : Nat → Int32), gA h x91 0 = some (n95, f95) ∧ vp_in l3 n95 ∧
              ((((f95 (l3).toNatClampNeg) ≤ 0) →
                  (wp_Rm_count_106 K74 Post l0 l1 l3 l2 h)) ∧
                ((¬ (f95 (l3).toNatClampNeg) ≤ 0) →
                  (wp_Rm_count_106 K74 Post l0 l1 l3 (l2 + (1 : Int32)) h)))))))))
def wn_Rm_count_74 (Post : Int32 → MH → Prop) : Nat → Nat → Int32 → Int32 → Int32 → MH → Prop
  | 0 => fun _ _ _ _ _ => False
  | n + 1 => wb_Rm_count_74 (wn_Rm_count_74 Post n) Post
def wp_Rm_count_74 (Post : Int32 → MH → Prop) (l0 : Nat) (l1 : Int32) (l2 : Int32) (l3 : Int32) (h : MH) : Prop := ∃ n, wn_Rm_count_74 Post n l0 l1 l2 l3 h
def wp_Rm_count (Post : Int32 → MH → Prop) (l0 : Nat) (l1 : Int32) (h : MH) : Prop :=
  (∃ o : MV, gF h l0 6 0 = some o) ∧ ∀ h2 : MH, h2 = fset h l0 0 (.inl (0 : Int32) : MV) →
  (wp_Rm_in (fun (r11 : Int32) (h11 : MH) =>
      (((¬ r11 = 0) →
          (((l1 ≤ (5 : Int32)) →
              (wp_Rm_count_74 Post l0 l1 (0 : Int32) (0 : Int32) h11)) ∧
            ((¬ l1 ≤ (5 : Int32)) →
              ((((9 : Int32) ≤ l1) →
                  ((((12 : Int32) ≤ l1) →
                      (∃ x61 : Nat, gF h11 l0 6 9 = some (.inr (some x61)) ∧
                        (∃ (n68 : Nat) (f68 : Nat → Int32), gA h11 x61 0 = some (n68, f68) ∧ vp_in (l1 - (12 : Int32)) n68 ∧
                        (Post (f68 (l1 - (12 : Int32)).toNatClampNeg) h11)))) ∧
                    ((¬ (12 : Int32) ≤ l1) →
                      (∃ x49 : Nat, gF h11 l0 6 8 = some (.inr (some x49)) ∧
                        (∃ (n56 : Nat) (f56 : Nat → Int32), gA h11 x49 0 = some (n56, f56) ∧ vp_in (l1 - (9 : Int32)) n56 ∧
                        (Post (f56 (l1 - (9 : Int32)).toNatClampNeg) h11)))))) ∧
                ((¬ (9 : Int32) ≤ l1) →
                  (∃ x31 : Nat, gF h11 l0 6 7 = some (.inr (some x31)) ∧
                    (∃ (n38 : Nat) (f38 : Nat → Int32), gA h11 x31 0 = some (n38, f38) ∧ vp_in (l1 - (6 : Int32)) n38 ∧
                      (Post (f38 (l1 - (6 : Int32)).toNatClampNeg) h11)))))))) ∧
        ((r11 = 0) →
          (Post (-1 : Int32) h11)))) ((l1).toInt64) (0 : Int64) (14 : Int64) h2)
set_option maxRecDepth 100000 in
set_option maxHeartbeats 4000000 in
theorem t_Rm_count_195 {p : Program} {l : Launch} {e : Env} {R : Room} {s : State} {m : MethodId} {args : Array Value} {below : List Frame} {meth : Method} {c : Code} (G : mG) (C0 : Cx G p s m args c prog_8_method_51_code 5 "BassRealiserModel") (hR : 1 ≤ R.frames ∧ 25 ≤ R.locals ∧ 0 ≤ R.cells ∧ 0 ≤ R.slots) (hr : meth.sig.returnType = some .int) (hlk : meth.locks = false) {Post : Int32 → MH → Prop} (l0 : Nat) (l1 : Int32) (l2 : Int32) (h : MH) (hwp : wp_Rm_count_195 Post l0 l1 l2 h) : WG p l e R s m args below meth c 0 0 (MQ below (va_Qi Post (Wd G) (mA G)) args s 0 0 (mA G)) G 5 [(0, .ref (m_b G + l0)), (1, .int l1), (2, .int l2)] 195 [] h := by
  unfold wp_Rm_count_195 at hwp
  refine x_iload_n C0 1 d_Rm_count_195 rfl rfl ?_
  refine x_if_ne (tgt := 206) C0 d_Rm_count_196 (by decide) (fun c196 => ?_) (fun c196 => ?_)
  · replace hwp := hwp.1 c196
    refine x_iload_n C0 1 d_Rm_count_206 rfl rfl ?_
    refine x_iconst (v := 2) C0 d_Rm_count_207 (by decide) ?_
    refine x_icmp_ne (tgt := 221) C0 d_Rm_count_208 (by decide) (fun c208 => ?_) (fun c208 => ?_)
    · replace hwp := hwp.1 c208
      refine x_iload_n C0 1 d_Rm_count_221 rfl rfl ?_
      refine x_iconst (v := 3) C0 d_Rm_count_222 (by decide) ?_
      refine x_icmp_ne (tgt := 233) C0 d_Rm_count_223 (by decide) (fun c223 => ?_) (fun c223 => ?_)
      · replace hwp := hwp.1 c223
        refine x_iload_n C0 2 d_Rm_count_233 rfl rfl ?_
        exact x_iret C0 hr hlk hwp d_Rm_count_234
      · replace hwp := hwp.2 c223
        refine x_aload_n C0 0 d_Rm_count_226 rfl rfl ?_
        obtain ⟨x227, e227, hwp⟩ := hwp
        refine x_getI C0 fk_Rm_35 e227 d_Rm_count_227 ?_
        refine x_goto (tgt := 234) C0 d_Rm_count_230 (by decide) ?_
        exact x_iret C0 hr hlk hwp d_Rm_count_234
    · replace hwp := hwp.2 c208
      refine x_aload_n C0 0 d_Rm_count_211 rfl rfl ?_
      obtain ⟨x212, e212, hwp⟩ := hwp
      refine x_getI C0 fk_Rm_90 e212 d_Rm_count_212 ?_
      refine x_bipush (v := 7) C0 d_Rm_count_215 (by decide) ?_
      refine x_iadd C0 d_Rm_count_217 ?_
      refine x_goto (tgt := 234) C0 d_Rm_count_218 (by decide) ?_
      exact x_iret C0 hr hlk hwp d_Rm_count_234
  · replace hwp := hwp.2 c196
    refine x_aload_n C0 0 d_Rm_count_199 rfl rfl ?_
    obtain ⟨x200, e200, hwp⟩ := hwp
    refine x_getI C0 fk_Rm_79 e200 d_Rm_count_200 ?_
    refine x_goto (tgt := 234) C0 d_Rm_count_203 (by decide) ?_
    exact x_iret C0 hr hlk hwp d_Rm_count_234
set_option maxRecDepth 100000 in
set_option maxHeartbeats 4000000 in
theorem t_Rm_count_188 {p : Program} {l : Launch} {e : Env} {R : Room} {s : State} {m : MethodId} {args : Array Value} {below : List Frame} {meth : Method} {c : Code} (G : mG) (C0 : Cx G p s m args c prog_8_method_51_code 5 "BassRealiserModel") (hR : 1 ≤ R.frames ∧ 25 ≤ R.locals ∧ 0 ≤ R.cells ∧ 0 ≤ R.slots) (hr : meth.sig.returnType = some .int) (hlk : meth.locks = false) {Post : Int32 → MH → Prop} {K115 : Nat → Int32 → Int32 → Int32 → MH → Prop} (hK115 : ∀ (l0 : Nat) (l1 : Int32) (l2 : Int32) (l3 : Int32) (h : MH), K115 l0 l1 l2 l3 h → WG p l e R s m args below meth c 0 0 (MQ below (va_Qi Post (Wd G) (mA G)) args s 0 0 (mA G)) G 5 [(0, .ref (m_b G + l0)), (1, .int l1), (2, .int l2), (3, .int l3)] 115 [] h) (l0 : Nat) (l1 : Int32) (l3 : Int32) (y0 : Int32) (h : MH) (hwp : wp_Rm_count_188 K115 Post l0 l1 l3 y0 h) : WG p l e R s m args below meth c 0 0 (MQ below (va_Qi Post (Wd G) (mA G)) args s 0 0 (mA G)) G 5 [(0, .ref (m_b G + l0)), (1, .int l1), (3, .int l3)] 188 [.int y0] h := by
  unfold wp_Rm_count_188 at hwp
  refine x_istore_n C0 d_Rm_count_188 rfl (by decide) (lv' := [(2, .int y0), (0, .ref (m_b G + l0)), (1, .int l1), (3, .int l3)]) rfl ?_
  refine x_iinc C0 3 d_Rm_count_189 rfl rfl (by decide) (lv' := [(3, .int (l3 + (1 : Int32))), (2, .int y0), (0, .ref (m_b G + l0)), (1, .int l1)]) rfl ?_
  refine x_goto (tgt := 115) C0 d_Rm_count_192 (by decide) ?_
  exact x_sub [2, 3, 1, 0] rfl (hK115 _ _ _ _ _ hwp)
set_option maxRecDepth 100000 in
set_option maxHeartbeats 4000000 in
theorem t_Rm_count_174 {p : Program} {l : Launch} {e : Env} {R : Room} {s : State} {m : MethodId} {args : Array Value} {below : List Frame} {meth : Method} {c : Code} (G : mG) (C0 : Cx G p s m args c prog_8_method_51_code 5 "BassRealiserModel") (hR : 1 ≤ R.frames ∧ 25 ≤ R.locals ∧ 0 ≤ R.cells ∧ 0 ≤ R.slots) (hr : meth.sig.returnType = some .int) (hlk : meth.locks = false) {Post : Int32 → MH → Prop} {K115 : Nat → Int32 → Int32 → Int32 → MH → Prop} (hK115 : ∀ (l0 : Nat) (l1 : Int32) (l2 : Int32) (l3 : Int32) (h : MH), K115 l0 l1 l2 l3 h → WG p l e R s m args below meth c 0 0 (MQ below (va_Qi Post (Wd G) (mA G)) args s 0 0 (mA G)) G 5 [(0, .ref (m_b G + l0)), (1, .int l1), (2, .int l2), (3, .int l3)] 115 [] h) (l0 : Nat) (l1 : Int32) (l2 : Int32) (l3 : Int32) (y0 : Int32) (h : MH) (hwp : wp_Rm_count_174 K115 Post l0 l1 l2 l3 y0 h) : WG p l e R s m args below meth c 0 0 (MQ below (va_Qi Post (Wd G) (mA G)) args s 0 0 (mA G)) G 5 [(0, .ref (m_b G + l0)), (1, .int l1), (2, .int l2), (3, .int l3)] 174 [.int y0] h := by
  unfold wp_Rm_count_174 at hwp
  refine x_istore C0 d_Rm_count_174 (by decide) (lv' := [(4, .int y0), (0, .ref (m_b G + l0)), (1, .int l1), (2, .int l2), (3, .int l3)]) rfl ?_
  refine x_iload C0 0 d_Rm_count_176 rfl ?_
  refine x_if_eq (tgt := 187) C0 d_Rm_count_178 (by decide) (fun c178 => ?_) (fun c178 => ?_)
  · replace hwp := hwp.1 c178
    refine x_iload_n C0 3 d_Rm_count_187 rfl rfl ?_
    exact x_sub [1, 2, 4] rfl (t_Rm_count_188 G C0 hR hr hlk hK115 _ _ _ _ _ hwp)
  · replace hwp := hwp.2 c178
    refine x_iload_n C0 3 d_Rm_count_181 rfl rfl ?_
    refine x_iconst (v := 1) C0 d_Rm_count_182 (by decide) ?_
    refine x_iadd C0 d_Rm_count_183 ?_
    refine x_goto (tgt := 188) C0 d_Rm_count_184 (by decide) ?_
    exact x_sub [1, 2, 4] rfl (t_Rm_count_188 G C0 hR hr hlk hK115 _ _ _ _ _ hwp)
set_option maxRecDepth 100000 in
set_option maxHeartbeats 4000000 in
theorem t_Rm_count_156 {p : Program} {l : Launch} {e : Env} {R : Room} {s : State} {m : MethodId} {args : Array Value} {below : List Frame} {meth : Method} {c : Code} (G : mG) (C0 : Cx G p s m args c prog_8_method_51_code 5 "BassRealiserModel") (hR : 1 ≤ R.frames ∧ 25 ≤ R.locals ∧ 0 ≤ R.cells ∧ 0 ≤ R.slots) (hr : meth.sig.returnType = some .int) (hlk : meth.locks = false) {Post : Int32 → MH → Prop} {K115 : Nat → Int32 → Int32 → Int32 → MH → Prop} (hK115 : ∀ (l0 : Nat) (l1 : Int32) (l2 : Int32) (l3 : Int32) (h : MH), K115 l0 l1 l2 l3 h → WG p l e R s m args below meth c 0 0 (MQ below (va_Qi Post (Wd G) (mA G)) args s 0 0 (mA G)) G 5 [(0, .ref (m_b G + l0)), (1, .int l1), (2, .int l2), (3, .int l3)] 115 [] h) (l0 : Nat) (l1 : Int32) (l2 : Int32) (l3 : Int32) (h : MH) (hwp : wp_Rm_count_156 K115 Post l0 l1 l2 l3 h) : WG p l e R s m args below meth c 0 0 (MQ below (va_Qi Post (Wd G) (mA G)) args s 0 0 (mA G)) G 5 [(0, .ref (m_b G + l0)), (1, .int l1), (2, .int l2), (3, .int l3)] 156 [] h := by
  unfold wp_Rm_count_156 at hwp
  refine x_iconst (v := 0) C0 d_Rm_count_156 (by decide) ?_
  refine x_goto (tgt := 174) C0 d_Rm_count_157 (by decide) ?_
  exact x_sub [0, 1, 2, 3] rfl (t_Rm_count_174 G C0 hR hr hlk hK115 _ _ _ _ _ _ hwp)
set_option maxRecDepth 100000 in
set_option maxHeartbeats 4000000 in
theorem tb_Rm_count_115 {p : Program} {l : Launch} {e : Env} {R : Room} {s : State} {m : MethodId} {args : Array Value} {below : List Frame} {meth : Method} {c : Code} (G : mG) (C0 : Cx G p s m args c prog_8_method_51_code 5 "BassRealiserModel") (hR : 1 ≤ R.frames ∧ 25 ≤ R.locals ∧ 0 ≤ R.cells ∧ 0 ≤ R.slots) (hr : meth.sig.returnType = some .int) (hlk : meth.locks = false) {Post : Int32 → MH → Prop} {K115 : Nat → Int32 → Int32 → Int32 → MH → Prop} (hK115 : ∀ (l0 : Nat) (l1 : Int32) (l2 : Int32) (l3 : Int32) (h : MH), K115 l0 l1 l2 l3 h → WG p l e R s m args below meth c 0 0 (MQ below (va_Qi Post (Wd G) (mA G)) args s 0 0 (mA G)) G 5 [(0, .ref (m_b G + l0)), (1, .int l1), (2, .int l2), (3, .int l3)] 115 [] h) (l0 : Nat) (l1 : Int32) (l2 : Int32) (l3 : Int32) (h : MH) (hwp : wb_Rm_count_115 K115 Post l0 l1 l2 l3 h) : WG p l e R s m args below meth c 0 0 (MQ below (va_Qi Post (Wd G) (mA G)) args s 0 0 (mA G)) G 5 [(0, .ref (m_b G + l0)), (1, .int l1), (2, .int l2), (3, .int l3)] 115 [] h := by
  unfold wb_Rm_count_115 at hwp
  refine x_iload_n C0 3 d_Rm_count_115 rfl rfl ?_
  refine x_iconst (v := 3) C0 d_Rm_count_116 (by decide) ?_
  refine x_aload_n C0 0 d_Rm_count_117 rfl rfl ?_
  obtain ⟨x118, e118, hwp⟩ := hwp
  refine x_getI C0 fk_Rm_79 e118 d_Rm_count_118 ?_
  refine x_imul C0 d_Rm_count_121 ?_
  refine x_icmp_ge (tgt := 195) C0 d_Rm_count_122 (by decide) (fun c122 => ?_) (fun c122 => ?_)
  · replace hwp := hwp.1 c122
    exact x_sub [0, 1, 2] rfl (t_Rm_count_195 G C0 hR hr hlk  _ _ _ _ hwp)
  · replace hwp := hwp.2 c122
    refine x_iload_n C0 1 d_Rm_count_125 rfl rfl ?_
    refine x_iconst (v := 3) C0 d_Rm_count_126 (by decide) ?_
    refine x_icmp_le (tgt := 195) C0 d_Rm_count_127 (by decide) (fun c127 => ?_) (fun c127 => ?_)
    · replace hwp := hwp.1 c127
      exact x_sub [0, 1, 2] rfl (t_Rm_count_195 G C0 hR hr hlk  _ _ _ _ hwp)
    · replace hwp := hwp.2 c127
      refine x_iload_n C0 1 d_Rm_count_130 rfl rfl ?_
      refine x_iconst (v := 4) C0 d_Rm_count_131 (by decide) ?_
      refine x_icmp_ne (tgt := 160) C0 d_Rm_count_132 (by decide) (fun c132 => ?_) (fun c132 => ?_)
      · replace hwp := hwp.1 c132
        refine x_aload_n C0 0 d_Rm_count_160 rfl rfl ?_
        obtain ⟨x161, e161, hwp⟩ := hwp
        refine x_getR C0 fk_Rm_38 e161 d_Rm_count_161 ?_
        refine x_iload_n C0 3 d_Rm_count_164 rfl rfl ?_
        obtain ⟨n165, f165, e165, i165, hwp⟩ := hwp
        refine x_iald C0 e165 i165 d_Rm_count_165 ?_
        refine x_if_lt (tgt := 173) C0 d_Rm_count_166 (by decide) (fun c166 => ?_) (fun c166 => ?_)
        · replace hwp := hwp.1 c166
          refine x_iconst (v := 0) C0 d_Rm_count_173 (by decide) ?_
          exact x_sub [0, 1, 2, 3] rfl (t_Rm_count_174 G C0 hR hr hlk hK115 _ _ _ _ _ _ hwp)
        · replace hwp := hwp.2 c166
          refine x_iconst (v := 1) C0 d_Rm_count_169 (by decide) ?_
          refine x_goto (tgt := 174) C0 d_Rm_count_170 (by decide) ?_
          exact x_sub [0, 1, 2, 3] rfl (t_Rm_count_174 G C0 hR hr hlk hK115 _ _ _ _ _ _ hwp)
      · replace hwp := hwp.2 c132
        refine x_iload_n C0 3 d_Rm_count_135 rfl rfl ?_
        refine x_iconst (v := 3) C0 d_Rm_count_136 (by decide) ?_
        refine x_irem C0 d_Rm_count_137 (by decide) ?_
        refine x_if_ne (tgt := 156) C0 d_Rm_count_138 (by decide) (fun c138 => ?_) (fun c138 => ?_)
        · replace hwp := hwp.1 c138
          exact x_sub [0, 1, 2, 3] rfl (t_Rm_count_156 G C0 hR hr hlk hK115 _ _ _ _ _ hwp)
        · replace hwp := hwp.2 c138
          refine x_aload_n C0 0 d_Rm_count_141 rfl rfl ?_
          obtain ⟨x142, e142, hwp⟩ := hwp
          refine x_getR C0 fk_Rm_44 e142 d_Rm_count_142 ?_
          refine x_iload_n C0 3 d_Rm_count_145 rfl rfl ?_
          refine x_iconst (v := 3) C0 d_Rm_count_146 (by decide) ?_
          refine x_idiv C0 d_Rm_count_147 (by decide) ?_
          obtain ⟨n148, f148, e148, i148, hwp⟩ := hwp
          refine x_zald C0 e148 i148 d_Rm_count_148 ?_
          refine x_if_eq (tgt := 156) C0 d_Rm_count_149 (by decide) (fun c149 => ?_) (fun c149 => ?_)
          · replace hwp := hwp.1 c149
            exact x_sub [0, 1, 2, 3] rfl (t_Rm_count_156 G C0 hR hr hlk hK115 _ _ _ _ _ hwp)
          · replace hwp := hwp.2 c149
            refine x_iconst (v := 1) C0 d_Rm_count_152 (by decide) ?_
            refine x_goto (tgt := 174) C0 d_Rm_count_153 (by decide) ?_
            exact x_sub [0, 1, 2, 3] rfl (t_Rm_count_174 G C0 hR hr hlk hK115 _ _ _ _ _ _ hwp)
theorem t_Rm_count_115 {p : Program} {l : Launch} {e : Env} {R : Room} {s : State} {m : MethodId} {args : Array Value} {below : List Frame} {meth : Method} {c : Code} (G : mG) (C0 : Cx G p s m args c prog_8_method_51_code 5 "BassRealiserModel") (hR : 1 ≤ R.frames ∧ 25 ≤ R.locals ∧ 0 ≤ R.cells ∧ 0 ≤ R.slots) (hr : meth.sig.returnType = some .int) (hlk : meth.locks = false) {Post : Int32 → MH → Prop} (l0 : Nat) (l1 : Int32) (l2 : Int32) (l3 : Int32) (h : MH) (hwp : wp_Rm_count_115 Post l0 l1 l2 l3 h) : WG p l e R s m args below meth c 0 0 (MQ below (va_Qi Post (Wd G) (mA G)) args s 0 0 (mA G)) G 5 [(0, .ref (m_b G + l0)), (1, .int l1), (2, .int l2), (3, .int l3)] 115 [] h := by
  obtain ⟨n, hwp⟩ := hwp
  induction n generalizing l0 l1 l2 l3 h with
  | zero => exact False.elim hwp
  | succ n ih => exact tb_Rm_count_115 G C0 hR hr hlk (fun l0 l1 l2 l3 h hwp => ih l0 l1 l2 l3 h hwp) l0 l1 l2 l3 h hwp
set_option maxRecDepth 100000 in
set_option maxHeartbeats 4000000 in
theorem t_Rm_count_113 {p : Program} {l : Launch} {e : Env} {R : Room} {s : State} {m : MethodId} {args : Array Value} {below : List Frame} {meth : Method} {c : Code} (G : mG) (C0 : Cx G p s m args c prog_8_method_51_code 5 "BassRealiserModel") (hR : 1 ≤ R.frames ∧ 25 ≤ R.locals ∧ 0 ≤ R.cells ∧ 0 ≤ R.slots) (hr : meth.sig.returnType = some .int) (hlk : meth.locks = false) {Post : Int32 → MH → Prop} (l0 : Nat) (l1 : Int32) (l2 : Int32) (h : MH) (hwp : wp_Rm_count_113 Post l0 l1 l2 h) : WG p l e R s m args below meth c 0 0 (MQ below (va_Qi Post (Wd G) (mA G)) args s 0 0 (mA G)) G 5 [(0, .ref (m_b G + l0)), (1, .int l1), (2, .int l2)] 113 [] h := by
  unfold wp_Rm_count_113 at hwp
  refine x_iconst (v := 0) C0 d_Rm_count_113 (by decide) ?_
  refine x_istore_n C0 d_Rm_count_114 rfl (by decide) (lv' := [(3, .int (0 : Int32)), (0, .ref (m_b G + l0)), (1, .int l1), (2, .int l2)]) rfl ?_
  exact x_sub [1, 2, 3, 0] rfl (t_Rm_count_115 G C0 hR hr hlk  _ _ _ _ _ hwp)
set_option maxRecDepth 100000 in
set_option maxHeartbeats 4000000 in
theorem t_Rm_count_106 {p : Program} {l : Launch} {e : Env} {R : Room} {s : State} {m : MethodId} {args : Array Value} {below : List Frame} {meth : Method} {c : Code} (G : mG) (C0 : Cx G p s m args c prog_8_method_51_code 5 "BassRealiserModel") (hR : 1 ≤ R.frames ∧ 25 ≤ R.locals ∧ 0 ≤ R.cells ∧ 0 ≤ R.slots) (hr : meth.sig.returnType = some .int) (hlk : meth.locks = false) {Post : Int32 → MH → Prop} {K74 : Nat → Int32 → Int32 → Int32 → MH → Prop} (hK74 : ∀ (l0 : Nat) (l1 : Int32) (l2 : Int32) (l3 : Int32) (h : MH), K74 l0 l1 l2 l3 h → WG p l e R s m args below meth c 0 0 (MQ below (va_Qi Post (Wd G) (mA G)) args s 0 0 (mA G)) G 5 [(0, .ref (m_b G + l0)), (1, .int l1), (2, .int l2), (3, .int l3)] 74 [] h) (l0 : Nat) (l1 : Int32) (l3 : Int32) (y0 : Int32) (h : MH) (hwp : wp_Rm_count_106 K74 Post l0 l1 l3 y0 h) : WG p l e R s m args below meth c 0 0 (MQ below (va_Qi Post (Wd G) (mA G)) args s 0 0 (mA G)) G 5 [(0, .ref (m_b G + l0)), (1, .int l1), (3, .int l3)] 106 [.int y0] h := by
  unfold wp_Rm_count_106 at hwp
  refine x_istore_n C0 d_Rm_count_106 rfl (by decide) (lv' := [(2, .int y0), (0, .ref (m_b G + l0)), (1, .int l1), (3, .int l3)]) rfl ?_
  refine x_iinc C0 3 d_Rm_count_107 rfl rfl (by decide) (lv' := [(3, .int (l3 + (1 : Int32))), (2, .int y0), (0, .ref (m_b G + l0)), (1, .int l1)]) rfl ?_
  refine x_goto (tgt := 74) C0 d_Rm_count_110 (by decide) ?_
  exact x_sub [2, 3, 1, 0] rfl (hK74 _ _ _ _ _ hwp)
set_option maxRecDepth 100000 in
set_option maxHeartbeats 4000000 in
theorem tb_Rm_count_74 {p : Program} {l : Launch} {e : Env} {R : Room} {s : State} {m : MethodId} {args : Array Value} {below : List Frame} {meth : Method} {c : Code} (G : mG) (C0 : Cx G p s m args c prog_8_method_51_code 5 "BassRealiserModel") (hR : 1 ≤ R.frames ∧ 25 ≤ R.locals ∧ 0 ≤ R.cells ∧ 0 ≤ R.slots) (hr : meth.sig.returnType = some .int) (hlk : meth.locks = false) {Post : Int32 → MH → Prop} {K74 : Nat → Int32 → Int32 → Int32 → MH → Prop} (hK74 : ∀ (l0 : Nat) (l1 : Int32) (l2 : Int32) (l3 : Int32) (h : MH), K74 l0 l1 l2 l3 h → WG p l e R s m args below meth c 0 0 (MQ below (va_Qi Post (Wd G) (mA G)) args s 0 0 (mA G)) G 5 [(0, .ref (m_b G + l0)), (1, .int l1), (2, .int l2), (3, .int l3)] 74 [] h) (l0 : Nat) (l1 : Int32) (l2 : Int32) (l3 : Int32) (h : MH) (hwp : wb_Rm_count_74 K74 Post l0 l1 l2 l3 h) : WG p l e R s m args below meth c 0 0 (MQ below (va_Qi Post (Wd G) (mA G)) args s 0 0 (mA G)) G 5 [(0, .ref (m_b G + l0)), (1, .int l1), (2, .int l2), (3, .int l3)] 74 [] h := by
  unfold wb_Rm_count_74 at hwp
  refine x_iload_n C0 3 d_Rm_count_74 rfl rfl ?_
  refine x_bipush (v := 10) C0 d_Rm_count_75 (by decide) ?_
  refine x_aload_n C0 0 d_Rm_count_77 rfl rfl ?_
  obtain ⟨x78, e78, hwp⟩ := hwp
  refine x_getI C0 fk_Rm_79 e78 d_Rm_count_78 ?_
  refine x_imul C0 d_Rm_count_81 ?_
  refine x_icmp_ge (tgt := 113) C0 d_Rm_count_82 (by decide) (fun c82 => ?_) (fun c82 => ?_)
  · replace hwp := hwp.1 c82
    exact x_sub [0, 1, 2] rfl (t_Rm_count_113 G C0 hR hr hlk  _ _ _ _ hwp)
  · replace hwp := hwp.2 c82
    refine x_iload_n C0 1 d_Rm_count_85 rfl rfl ?_
    refine x_iconst (v := 1) C0 d_Rm_count_86 (by decide) ?_
    refine x_icmp_ne (tgt := 113) C0 d_Rm_count_87 (by decide) (fun c87 => ?_) (fun c87 => ?_)
    · replace hwp := hwp.1 c87
      exact x_sub [0, 1, 2] rfl (t_Rm_count_113 G C0 hR hr hlk  _ _ _ _ hwp)
    · replace hwp := hwp.2 c87
      refine x_aload_n C0 0 d_Rm_count_90 rfl rfl ?_
      obtain ⟨x91, e91, hwp⟩ := hwp
      refine x_getR C0 fk_Rm_23 e91 d_Rm_count_91 ?_
      refine x_iload_n C0 3 d_Rm_count_94 rfl rfl ?_
      obtain ⟨n95, f95, e95, i95, hwp⟩ := hwp
      refine x_iald C0 e95 i95 d_Rm_count_95 ?_
      refine x_if_le (tgt := 105) C0 d_Rm_count_96 (by decide) (fun c96 => ?_) (fun c96 => ?_)
      · replace hwp := hwp.1 c96
        refine x_iload_n C0 2 d_Rm_count_105 rfl rfl ?_
        exact x_sub [0, 1, 3] rfl (t_Rm_count_106 G C0 hR hr hlk hK74 _ _ _ _ _ hwp)
      · replace hwp := hwp.2 c96
        refine x_iload_n C0 2 d_Rm_count_99 rfl rfl ?_
        refine x_iconst (v := 1) C0 d_Rm_count_100 (by decide) ?_
        refine x_iadd C0 d_Rm_count_101 ?_
        refine x_goto (tgt := 106) C0 d_Rm_count_102 (by decide) ?_
        exact x_sub [0, 1, 3] rfl (t_Rm_count_106 G C0 hR hr hlk hK74 _ _ _ _ _ hwp)
theorem t_Rm_count_74 {p : Program} {l : Launch} {e : Env} {R : Room} {s : State} {m : MethodId} {args : Array Value} {below : List Frame} {meth : Method} {c : Code} (G : mG) (C0 : Cx G p s m args c prog_8_method_51_code 5 "BassRealiserModel") (hR : 1 ≤ R.frames ∧ 25 ≤ R.locals ∧ 0 ≤ R.cells ∧ 0 ≤ R.slots) (hr : meth.sig.returnType = some .int) (hlk : meth.locks = false) {Post : Int32 → MH → Prop} (l0 : Nat) (l1 : Int32) (l2 : Int32) (l3 : Int32) (h : MH) (hwp : wp_Rm_count_74 Post l0 l1 l2 l3 h) : WG p l e R s m args below meth c 0 0 (MQ below (va_Qi Post (Wd G) (mA G)) args s 0 0 (mA G)) G 5 [(0, .ref (m_b G + l0)), (1, .int l1), (2, .int l2), (3, .int l3)] 74 [] h := by
  obtain ⟨n, hwp⟩ := hwp
  induction n generalizing l0 l1 l2 l3 h with
  | zero => exact False.elim hwp
  | succ n ih => exact tb_Rm_count_74 G C0 hR hr hlk (fun l0 l1 l2 l3 h hwp => ih l0 l1 l2 l3 h hwp) l0 l1 l2 l3 h hwp
set_option maxRecDepth 100000 in
set_option maxHeartbeats 4000000 in
theorem t_Rm_count {p : Program} {l : Launch} {e : Env} {R : Room} {s : State} {m : MethodId} {args : Array Value} {below : List Frame} {meth : Method} {c : Code} (G : mG) (C0 : Cx G p s m args c prog_8_method_51_code 5 "BassRealiserModel") (hR : 1 ≤ R.frames ∧ 25 ≤ R.locals ∧ 0 ≤ R.cells ∧ 0 ≤ R.slots) (hr : meth.sig.returnType = some .int) (hlk : meth.locks = false) {Post : Int32 → MH → Prop} (l0 : Nat) (l1 : Int32) (h : MH) (hwp : wp_Rm_count Post l0 l1 h) : WG p l e R s m args below meth c 0 0 (MQ below (va_Qi Post (Wd G) (mA G)) args s 0 0 (mA G)) G 5 [(0, .ref (m_b G + l0)), (1, .int l1)] 0 [] h := by
  unfold wp_Rm_count at hwp
  refine x_aload_n C0 0 d_Rm_count_0 rfl rfl ?_
  refine x_iconst (v := 0) C0 d_Rm_count_1 (by decide) ?_
  obtain ⟨⟨o2, e2⟩, hwp⟩ := hwp
  refine x_put (x := (.inl (0 : Int32) : MV)) C0 pk_Rm_1 e2 rfl rfl d_Rm_count_2 ?_
  refine x_nh (fun h2 eh2 => ?_)
  replace hwp := hwp h2 eh2
  refine x_iload_n C0 1 d_Rm_count_5 rfl rfl ?_
  refine x_i2l C0 d_Rm_count_6 ?_
  refine x_lconst (v := 0) C0 d_Rm_count_7 (by decide) ?_
  refine x_ldc2 (v := 14) C0 kw_4_131 d_Rm_count_8 ?_
  refine x_callSi0 (As := [.long ((l1).toInt64), .long (0 : Int64), .long (14 : Int64)]) (st := []) C0 (c_Rm_in l G hwp) kw_3_173 mk_Rm_in kw_3_174 rfl (Nat.le_of_ble_eq_true rfl) rfl rfl ⟨Nat.le_trans (by decide) hR.1, Nat.le_trans (by decide) hR.2.1⟩ ⟨Nat.zero_le _, Nat.zero_le _⟩ rfl d_Rm_count_11 (fun r11 h11 hwp => ?_)
  refine x_if_ne (tgt := 19) C0 d_Rm_count_14 (by decide) (fun c14 => ?_) (fun c14 => ?_)
  · replace hwp := hwp.1 c14
    refine x_iload_n C0 1 d_Rm_count_19 rfl rfl ?_
    refine x_iconst (v := 5) C0 d_Rm_count_20 (by decide) ?_
    refine x_icmp_le (tgt := 70) C0 d_Rm_count_21 (by decide) (fun c21 => ?_) (fun c21 => ?_)
    · replace hwp := hwp.1 c21
      refine x_iconst (v := 0) C0 d_Rm_count_70 (by decide) ?_
      refine x_istore_n C0 d_Rm_count_71 rfl (by decide) (lv' := [(2, .int (0 : Int32)), (0, .ref (m_b G + l0)), (1, .int l1)]) rfl ?_
      refine x_iconst (v := 0) C0 d_Rm_count_72 (by decide) ?_
      refine x_istore_n C0 d_Rm_count_73 rfl (by decide) (lv' := [(3, .int (0 : Int32)), (2, .int (0 : Int32)), (0, .ref (m_b G + l0)), (1, .int l1)]) rfl ?_
      exact x_sub [2, 3, 1, 0] rfl (t_Rm_count_74 G C0 hR hr hlk  _ _ _ _ _ hwp)
    · replace hwp := hwp.2 c21
      refine x_iload_n C0 1 d_Rm_count_24 rfl rfl ?_
      refine x_bipush (v := 9) C0 d_Rm_count_25 (by decide) ?_
      refine x_icmp_ge (tgt := 42) C0 d_Rm_count_27 (by decide) (fun c27 => ?_) (fun c27 => ?_)
      · replace hwp := hwp.1 c27
        refine x_iload_n C0 1 d_Rm_count_42 rfl rfl ?_
        refine x_bipush (v := 12) C0 d_Rm_count_43 (by decide) ?_
        refine x_icmp_ge (tgt := 60) C0 d_Rm_count_45 (by decide) (fun c45 => ?_) (fun c45 => ?_)
        · replace hwp := hwp.1 c45
          refine x_aload_n C0 0 d_Rm_count_60 rfl rfl ?_
          obtain ⟨x61, e61, hwp⟩ := hwp
          refine x_getR C0 fk_Rm_32 e61 d_Rm_count_61 ?_
          refine x_iload_n C0 1 d_Rm_count_64 rfl rfl ?_
          refine x_bipush (v := 12) C0 d_Rm_count_65 (by decide) ?_
          refine x_isub C0 d_Rm_count_67 ?_
          obtain ⟨n68, f68, e68, i68, hwp⟩ := hwp
          refine x_iald C0 e68 i68 d_Rm_count_68 ?_
          exact x_iret C0 hr hlk hwp d_Rm_count_69
        · replace hwp := hwp.2 c45
          refine x_aload_n C0 0 d_Rm_count_48 rfl rfl ?_
          obtain ⟨x49, e49, hwp⟩ := hwp
          refine x_getR C0 fk_Rm_29 e49 d_Rm_count_49 ?_
          refine x_iload_n C0 1 d_Rm_count_52 rfl rfl ?_
          refine x_bipush (v := 9) C0 d_Rm_count_53 (by decide) ?_
          refine x_isub C0 d_Rm_count_55 ?_
          obtain ⟨n56, f56, e56, i56, hwp⟩ := hwp
          refine x_iald C0 e56 i56 d_Rm_count_56 ?_
          refine x_goto (tgt := 69) C0 d_Rm_count_57 (by decide) ?_
          exact x_iret C0 hr hlk hwp d_Rm_count_69
      · replace hwp := hwp.2 c27
        refine x_aload_n C0 0 d_Rm_count_30 rfl rfl ?_
        obtain ⟨x31, e31, hwp⟩ := hwp
        refine x_getR C0 fk_Rm_26 e31 d_Rm_count_31 ?_
        refine x_iload_n C0 1 d_Rm_count_34 rfl rfl ?_
        refine x_bipush (v := 6) C0 d_Rm_count_35 (by decide) ?_
        refine x_isub C0 d_Rm_count_37 ?_
        obtain ⟨n38, f38, e38, i38, hwp⟩ := hwp
        refine x_iald C0 e38 i38 d_Rm_count_38 ?_
        refine x_goto (tgt := 69) C0 d_Rm_count_39 (by decide) ?_
        exact x_iret C0 hr hlk hwp d_Rm_count_69
  · replace hwp := hwp.2 c14
    refine x_iconst (v := -1) C0 d_Rm_count_17 (by decide) ?_
    exact x_iret C0 hr hlk hwp d_Rm_count_18
set_option maxRecDepth 100000 in
set_option maxHeartbeats 4000000 in
theorem c_Rm_count (l : Launch) (G : mG) {Post : Int32 → MH → Prop} {l0 : Nat} {l1 : Int32} {h : MH} (hwp : wp_Rm_count Post l0 l1 h) : Met l y_Rm_count (Cond.code y_Rm_count prog_8_method_51_code 5 (Option.some Jvm.ClassFile.FieldType.int) :: lw_good) ({ frames := 1, cells := 0, slots := 0, locals := 25 }) (va_Pc [.ref (m_b G + l0), .int l1] (Wd G h)) (va_Qi Post (Wd G) (mA G)) 0 0 (mA G) := by
  refine Met.ofW (cc := prog_8_method_51_code) (maxL := 5) (ret := (Option.some Jvm.ClassFile.FieldType.int)) (by decide +kernel) rfl ?_
  intro p e s m args below meth c s₁ B hml hv
  obtain ⟨rfl, hP, hz, hK, hSt⟩ := hv
  have hts := atoms_spec (ws := Cond.code y_Rm_count prog_8_method_51_code 5 (Option.some Jvm.ClassFile.FieldType.int) :: lw_good) B.pre
  have C0 : Cx G p s m ([.ref (m_b G + l0), .int l1] : List Value).toArray c prog_8_method_51_code 5 "BassRealiserModel" := ⟨⟨B.exec, B.bytes, hml, findClass_of_methodNamed B.named, fun w h => hts w (List.mem_cons_of_mem _ h)⟩, hK, hSt, by rw [hz]; exact Nat.le_add_right _ _⟩
  have hl := lv_entry ([.ref (m_b G + l0), .int l1]) (n := 5) (Nat.le_of_ble_eq_true rfl)
  rw [lg_entry_eq]
  exact t_Rm_count G C0 ⟨Nat.le_refl _, Nat.le_refl _, Nat.le_refl _, Nat.le_refl _⟩ B.returns B.notSynchronized _ _ _ hwp _ _ _ ⟨hP, hz, va_S.rf⟩ hl
