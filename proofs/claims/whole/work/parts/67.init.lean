/-! constructors: names, decode rows, words, contracts (by wip/whole/mkinit.py) -/
abbrev cX0_init : ByteArray := prog_2_method_1_code
def yX0_init : MethodName := ⟨RX0, "<init>", "()V"⟩
abbrev cX1_init : ByteArray := prog_3_method_1_code
def yX1_init : MethodName := ⟨RX1, "<init>", "()V"⟩
abbrev cX2_init : ByteArray := prog_4_method_1_code
def yX2_init : MethodName := ⟨RX2, "<init>", "()V"⟩
abbrev cX3_init : ByteArray := prog_5_method_1_code
def yX3_init : MethodName := ⟨RX3, "<init>", "()V"⟩
abbrev cX4_init : ByteArray := prog_6_method_1_code
def yX4_init : MethodName := ⟨RX4, "<init>", "()V"⟩
abbrev cX5_init : ByteArray := prog_7_method_1_code
def yX5_init : MethodName := ⟨RX5, "<init>", "()V"⟩
abbrev cX6_init : ByteArray := prog_8_method_1_code
def yX6_init : MethodName := ⟨RX6, "<init>", "()V"⟩
abbrev cX7_init : ByteArray := prog_9_method_1_code
def yX7_init : MethodName := ⟨RX7, "<init>", "([LChairOnTheRoad$Village;)V"⟩
abbrev cX8_init : ByteArray := prog_10_method_1_code
def yX8_init : MethodName := ⟨RX8, "<init>", "()V"⟩
abbrev cX9_init : ByteArray := prog_11_method_1_code
def yX9_init : MethodName := ⟨RX9, "<init>", "()V"⟩
abbrev cX10_init : ByteArray := prog_1_method_1_code
def yX10_init : MethodName := ⟨RX10, "<init>", "()V"⟩
abbrev cX11_init : ByteArray := prog_13_method_1_code
def yX11_init : MethodName := ⟨RX11, "<init>", "()V"⟩
theorem dX0_init_0 : decode cX0_init 0 = .ok (.aload_n 0, 1) := by decide +kernel
theorem dX0_init_1 : decode cX0_init 1 = .ok (.invokespecial 1, 3) := by decide +kernel
theorem dX0_init_4 : decode cX0_init 4 = .ok (.return_, 1) := by decide +kernel
theorem dX1_init_0 : decode cX1_init 0 = .ok (.aload_n 0, 1) := by decide +kernel
theorem dX1_init_1 : decode cX1_init 1 = .ok (.invokespecial 1, 3) := by decide +kernel
theorem dX1_init_4 : decode cX1_init 4 = .ok (.return_, 1) := by decide +kernel
theorem dX2_init_0 : decode cX2_init 0 = .ok (.aload_n 0, 1) := by decide +kernel
theorem dX2_init_1 : decode cX2_init 1 = .ok (.invokespecial 1, 3) := by decide +kernel
theorem dX2_init_4 : decode cX2_init 4 = .ok (.return_, 1) := by decide +kernel
theorem dX3_init_0 : decode cX3_init 0 = .ok (.aload_n 0, 1) := by decide +kernel
theorem dX3_init_1 : decode cX3_init 1 = .ok (.invokespecial 1, 3) := by decide +kernel
theorem dX3_init_4 : decode cX3_init 4 = .ok (.return_, 1) := by decide +kernel
theorem dX4_init_0 : decode cX4_init 0 = .ok (.aload_n 0, 1) := by decide +kernel
theorem dX4_init_1 : decode cX4_init 1 = .ok (.invokespecial 1, 3) := by decide +kernel
theorem dX4_init_4 : decode cX4_init 4 = .ok (.return_, 1) := by decide +kernel
theorem dX5_init_0 : decode cX5_init 0 = .ok (.aload_n 0, 1) := by decide +kernel
theorem dX5_init_1 : decode cX5_init 1 = .ok (.invokespecial 1, 3) := by decide +kernel
theorem dX5_init_4 : decode cX5_init 4 = .ok (.return_, 1) := by decide +kernel
theorem dX6_init_0 : decode cX6_init 0 = .ok (.aload_n 0, 1) := by decide +kernel
theorem dX6_init_1 : decode cX6_init 1 = .ok (.invokespecial 1, 3) := by decide +kernel
theorem dX6_init_4 : decode cX6_init 4 = .ok (.return_, 1) := by decide +kernel
theorem dX7_init_0 : decode cX7_init 0 = .ok (.aload_n 0, 1) := by decide +kernel
theorem dX7_init_1 : decode cX7_init 1 = .ok (.invokespecial 3, 3) := by decide +kernel
theorem dX7_init_4 : decode cX7_init 4 = .ok (.aload_n 0, 1) := by decide +kernel
theorem dX7_init_5 : decode cX7_init 5 = .ok (.bipush 7, 2) := by decide +kernel
theorem dX7_init_7 : decode cX7_init 7 = .ok (.newarray .int, 2) := by decide +kernel
theorem dX7_init_9 : decode cX7_init 9 = .ok (.putfield 9, 3) := by decide +kernel
theorem dX7_init_12 : decode cX7_init 12 = .ok (.aload_n 0, 1) := by decide +kernel
theorem dX7_init_13 : decode cX7_init 13 = .ok (.bipush 7, 2) := by decide +kernel
theorem dX7_init_15 : decode cX7_init 15 = .ok (.newarray .int, 2) := by decide +kernel
theorem dX7_init_17 : decode cX7_init 17 = .ok (.putfield 15, 3) := by decide +kernel
theorem dX7_init_20 : decode cX7_init 20 = .ok (.aload_n 0, 1) := by decide +kernel
theorem dX7_init_21 : decode cX7_init 21 = .ok (.bipush 7, 2) := by decide +kernel
theorem dX7_init_23 : decode cX7_init 23 = .ok (.newarray .int, 2) := by decide +kernel
theorem dX7_init_25 : decode cX7_init 25 = .ok (.putfield 18, 3) := by decide +kernel
theorem dX7_init_28 : decode cX7_init 28 = .ok (.aload_n 0, 1) := by decide +kernel
theorem dX7_init_29 : decode cX7_init 29 = .ok (.bipush 7, 2) := by decide +kernel
theorem dX7_init_31 : decode cX7_init 31 = .ok (.newarray .int, 2) := by decide +kernel
theorem dX7_init_33 : decode cX7_init 33 = .ok (.putfield 21, 3) := by decide +kernel
theorem dX7_init_36 : decode cX7_init 36 = .ok (.aload_n 0, 1) := by decide +kernel
theorem dX7_init_37 : decode cX7_init 37 = .ok (.bipush 7, 2) := by decide +kernel
theorem dX7_init_39 : decode cX7_init 39 = .ok (.newarray .int, 2) := by decide +kernel
theorem dX7_init_41 : decode cX7_init 41 = .ok (.putfield 24, 3) := by decide +kernel
theorem dX7_init_44 : decode cX7_init 44 = .ok (.aload_n 0, 1) := by decide +kernel
theorem dX7_init_45 : decode cX7_init 45 = .ok (.bipush 7, 2) := by decide +kernel
theorem dX7_init_47 : decode cX7_init 47 = .ok (.newarray .int, 2) := by decide +kernel
theorem dX7_init_49 : decode cX7_init 49 = .ok (.putfield 27, 3) := by decide +kernel
theorem dX7_init_52 : decode cX7_init 52 = .ok (.aload_n 0, 1) := by decide +kernel
theorem dX7_init_53 : decode cX7_init 53 = .ok (.bipush 7, 2) := by decide +kernel
theorem dX7_init_55 : decode cX7_init 55 = .ok (.newarray .int, 2) := by decide +kernel
theorem dX7_init_57 : decode cX7_init 57 = .ok (.putfield 30, 3) := by decide +kernel
theorem dX7_init_60 : decode cX7_init 60 = .ok (.aload_n 0, 1) := by decide +kernel
theorem dX7_init_61 : decode cX7_init 61 = .ok (.bipush 7, 2) := by decide +kernel
theorem dX7_init_63 : decode cX7_init 63 = .ok (.newarray .int, 2) := by decide +kernel
theorem dX7_init_65 : decode cX7_init 65 = .ok (.putfield 33, 3) := by decide +kernel
theorem dX7_init_68 : decode cX7_init 68 = .ok (.aload_n 0, 1) := by decide +kernel
theorem dX7_init_69 : decode cX7_init 69 = .ok (.iconst 1, 1) := by decide +kernel
theorem dX7_init_70 : decode cX7_init 70 = .ok (.putfield 36, 3) := by decide +kernel
theorem dX7_init_73 : decode cX7_init 73 = .ok (.aload_n 0, 1) := by decide +kernel
theorem dX7_init_74 : decode cX7_init 74 = .ok (.bipush 6, 2) := by decide +kernel
theorem dX7_init_76 : decode cX7_init 76 = .ok (.putfield 40, 3) := by decide +kernel
theorem dX7_init_79 : decode cX7_init 79 = .ok (.aload_n 0, 1) := by decide +kernel
theorem dX7_init_80 : decode cX7_init 80 = .ok (.aload_n 1, 1) := by decide +kernel
theorem dX7_init_81 : decode cX7_init 81 = .ok (.putfield 43, 3) := by decide +kernel
theorem dX7_init_84 : decode cX7_init 84 = .ok (.return_, 1) := by decide +kernel
theorem dX8_init_0 : decode cX8_init 0 = .ok (.aload_n 0, 1) := by decide +kernel
theorem dX8_init_1 : decode cX8_init 1 = .ok (.invokespecial 3, 3) := by decide +kernel
theorem dX8_init_4 : decode cX8_init 4 = .ok (.aload_n 0, 1) := by decide +kernel
theorem dX8_init_5 : decode cX8_init 5 = .ok (.iconst 0, 1) := by decide +kernel
theorem dX8_init_6 : decode cX8_init 6 = .ok (.putfield 11, 3) := by decide +kernel
theorem dX8_init_9 : decode cX8_init 9 = .ok (.aload_n 0, 1) := by decide +kernel
theorem dX8_init_10 : decode cX8_init 10 = .ok (.bipush 100, 2) := by decide +kernel
theorem dX8_init_12 : decode cX8_init 12 = .ok (.newarray .int, 2) := by decide +kernel
theorem dX8_init_14 : decode cX8_init 14 = .ok (.putfield 15, 3) := by decide +kernel
theorem dX8_init_17 : decode cX8_init 17 = .ok (.return_, 1) := by decide +kernel
theorem dX9_init_0 : decode cX9_init 0 = .ok (.aload_n 0, 1) := by decide +kernel
theorem dX9_init_1 : decode cX9_init 1 = .ok (.invokespecial 1, 3) := by decide +kernel
theorem dX9_init_4 : decode cX9_init 4 = .ok (.return_, 1) := by decide +kernel
theorem dX10_init_0 : decode cX10_init 0 = .ok (.aload_n 0, 1) := by decide +kernel
theorem dX10_init_1 : decode cX10_init 1 = .ok (.invokespecial 1, 3) := by decide +kernel
theorem dX10_init_4 : decode cX10_init 4 = .ok (.aload_n 0, 1) := by decide +kernel
theorem dX10_init_5 : decode cX10_init 5 = .ok (.bipush 49, 2) := by decide +kernel
theorem dX10_init_7 : decode cX10_init 7 = .ok (.newarray .int, 2) := by decide +kernel
theorem dX10_init_9 : decode cX10_init 9 = .ok (.putfield 9, 3) := by decide +kernel
theorem dX10_init_12 : decode cX10_init 12 = .ok (.aload_n 0, 1) := by decide +kernel
theorem dX10_init_13 : decode cX10_init 13 = .ok (.sipush 128, 3) := by decide +kernel
theorem dX10_init_16 : decode cX10_init 16 = .ok (.newarray .int, 2) := by decide +kernel
theorem dX10_init_18 : decode cX10_init 18 = .ok (.putfield 13, 3) := by decide +kernel
theorem dX10_init_21 : decode cX10_init 21 = .ok (.aload_n 0, 1) := by decide +kernel
theorem dX10_init_22 : decode cX10_init 22 = .ok (.iconst 4, 1) := by decide +kernel
theorem dX10_init_23 : decode cX10_init 23 = .ok (.newarray .int, 2) := by decide +kernel
theorem dX10_init_25 : decode cX10_init 25 = .ok (.putfield 16, 3) := by decide +kernel
theorem dX10_init_28 : decode cX10_init 28 = .ok (.aload_n 0, 1) := by decide +kernel
theorem dX10_init_29 : decode cX10_init 29 = .ok (.iconst 4, 1) := by decide +kernel
theorem dX10_init_30 : decode cX10_init 30 = .ok (.newarray .int, 2) := by decide +kernel
theorem dX10_init_32 : decode cX10_init 32 = .ok (.putfield 19, 3) := by decide +kernel
theorem dX10_init_35 : decode cX10_init 35 = .ok (.aload_n 0, 1) := by decide +kernel
theorem dX10_init_36 : decode cX10_init 36 = .ok (.bipush 12, 2) := by decide +kernel
theorem dX10_init_38 : decode cX10_init 38 = .ok (.newarray .long, 2) := by decide +kernel
theorem dX10_init_40 : decode cX10_init 40 = .ok (.putfield 22, 3) := by decide +kernel
theorem dX10_init_43 : decode cX10_init 43 = .ok (.aload_n 0, 1) := by decide +kernel
theorem dX10_init_44 : decode cX10_init 44 = .ok (.bipush 12, 2) := by decide +kernel
theorem dX10_init_46 : decode cX10_init 46 = .ok (.newarray .long, 2) := by decide +kernel
theorem dX10_init_48 : decode cX10_init 48 = .ok (.putfield 26, 3) := by decide +kernel
theorem dX10_init_51 : decode cX10_init 51 = .ok (.aload_n 0, 1) := by decide +kernel
theorem dX10_init_52 : decode cX10_init 52 = .ok (.bipush 8, 2) := by decide +kernel
theorem dX10_init_54 : decode cX10_init 54 = .ok (.anewarray 29, 3) := by decide +kernel
theorem dX10_init_57 : decode cX10_init 57 = .ok (.dup, 1) := by decide +kernel
theorem dX10_init_58 : decode cX10_init 58 = .ok (.iconst 0, 1) := by decide +kernel
theorem dX10_init_59 : decode cX10_init 59 = .ok (.new 29, 3) := by decide +kernel
theorem dX10_init_62 : decode cX10_init 62 = .ok (.dup, 1) := by decide +kernel
theorem dX10_init_63 : decode cX10_init 63 = .ok (.invokespecial 31, 3) := by decide +kernel
theorem dX10_init_66 : decode cX10_init 66 = .ok (.aastore, 1) := by decide +kernel
theorem dX10_init_67 : decode cX10_init 67 = .ok (.dup, 1) := by decide +kernel
theorem dX10_init_68 : decode cX10_init 68 = .ok (.iconst 1, 1) := by decide +kernel
theorem dX10_init_69 : decode cX10_init 69 = .ok (.new 32, 3) := by decide +kernel
theorem dX10_init_72 : decode cX10_init 72 = .ok (.dup, 1) := by decide +kernel
theorem dX10_init_73 : decode cX10_init 73 = .ok (.invokespecial 34, 3) := by decide +kernel
theorem dX10_init_76 : decode cX10_init 76 = .ok (.aastore, 1) := by decide +kernel
theorem dX10_init_77 : decode cX10_init 77 = .ok (.dup, 1) := by decide +kernel
theorem dX10_init_78 : decode cX10_init 78 = .ok (.iconst 2, 1) := by decide +kernel
theorem dX10_init_79 : decode cX10_init 79 = .ok (.new 35, 3) := by decide +kernel
theorem dX10_init_82 : decode cX10_init 82 = .ok (.dup, 1) := by decide +kernel
theorem dX10_init_83 : decode cX10_init 83 = .ok (.invokespecial 37, 3) := by decide +kernel
theorem dX10_init_86 : decode cX10_init 86 = .ok (.aastore, 1) := by decide +kernel
theorem dX10_init_87 : decode cX10_init 87 = .ok (.dup, 1) := by decide +kernel
theorem dX10_init_88 : decode cX10_init 88 = .ok (.iconst 3, 1) := by decide +kernel
theorem dX10_init_89 : decode cX10_init 89 = .ok (.new 38, 3) := by decide +kernel
theorem dX10_init_92 : decode cX10_init 92 = .ok (.dup, 1) := by decide +kernel
theorem dX10_init_93 : decode cX10_init 93 = .ok (.invokespecial 40, 3) := by decide +kernel
theorem dX10_init_96 : decode cX10_init 96 = .ok (.aastore, 1) := by decide +kernel
theorem dX10_init_97 : decode cX10_init 97 = .ok (.dup, 1) := by decide +kernel
theorem dX10_init_98 : decode cX10_init 98 = .ok (.iconst 4, 1) := by decide +kernel
theorem dX10_init_99 : decode cX10_init 99 = .ok (.new 41, 3) := by decide +kernel
theorem dX10_init_102 : decode cX10_init 102 = .ok (.dup, 1) := by decide +kernel
theorem dX10_init_103 : decode cX10_init 103 = .ok (.invokespecial 43, 3) := by decide +kernel
theorem dX10_init_106 : decode cX10_init 106 = .ok (.aastore, 1) := by decide +kernel
theorem dX10_init_107 : decode cX10_init 107 = .ok (.dup, 1) := by decide +kernel
theorem dX10_init_108 : decode cX10_init 108 = .ok (.iconst 5, 1) := by decide +kernel
theorem dX10_init_109 : decode cX10_init 109 = .ok (.new 44, 3) := by decide +kernel
theorem dX10_init_112 : decode cX10_init 112 = .ok (.dup, 1) := by decide +kernel
theorem dX10_init_113 : decode cX10_init 113 = .ok (.invokespecial 46, 3) := by decide +kernel
theorem dX10_init_116 : decode cX10_init 116 = .ok (.aastore, 1) := by decide +kernel
theorem dX10_init_117 : decode cX10_init 117 = .ok (.dup, 1) := by decide +kernel
theorem dX10_init_118 : decode cX10_init 118 = .ok (.bipush 6, 2) := by decide +kernel
theorem dX10_init_120 : decode cX10_init 120 = .ok (.new 47, 3) := by decide +kernel
theorem dX10_init_123 : decode cX10_init 123 = .ok (.dup, 1) := by decide +kernel
theorem dX10_init_124 : decode cX10_init 124 = .ok (.invokespecial 49, 3) := by decide +kernel
theorem dX10_init_127 : decode cX10_init 127 = .ok (.aastore, 1) := by decide +kernel
theorem dX10_init_128 : decode cX10_init 128 = .ok (.dup, 1) := by decide +kernel
theorem dX10_init_129 : decode cX10_init 129 = .ok (.bipush 7, 2) := by decide +kernel
theorem dX10_init_131 : decode cX10_init 131 = .ok (.new 50, 3) := by decide +kernel
theorem dX10_init_134 : decode cX10_init 134 = .ok (.dup, 1) := by decide +kernel
theorem dX10_init_135 : decode cX10_init 135 = .ok (.invokespecial 52, 3) := by decide +kernel
theorem dX10_init_138 : decode cX10_init 138 = .ok (.aastore, 1) := by decide +kernel
theorem dX10_init_139 : decode cX10_init 139 = .ok (.putfield 53, 3) := by decide +kernel
theorem dX10_init_142 : decode cX10_init 142 = .ok (.aload_n 0, 1) := by decide +kernel
theorem dX10_init_143 : decode cX10_init 143 = .ok (.new 57, 3) := by decide +kernel
theorem dX10_init_146 : decode cX10_init 146 = .ok (.dup, 1) := by decide +kernel
theorem dX10_init_147 : decode cX10_init 147 = .ok (.aload_n 0, 1) := by decide +kernel
theorem dX10_init_148 : decode cX10_init 148 = .ok (.getfield 53, 3) := by decide +kernel
theorem dX10_init_151 : decode cX10_init 151 = .ok (.invokespecial 59, 3) := by decide +kernel
theorem dX10_init_154 : decode cX10_init 154 = .ok (.putfield 62, 3) := by decide +kernel
theorem dX10_init_157 : decode cX10_init 157 = .ok (.aload_n 0, 1) := by decide +kernel
theorem dX10_init_158 : decode cX10_init 158 = .ok (.new 57, 3) := by decide +kernel
theorem dX10_init_161 : decode cX10_init 161 = .ok (.dup, 1) := by decide +kernel
theorem dX10_init_162 : decode cX10_init 162 = .ok (.aload_n 0, 1) := by decide +kernel
theorem dX10_init_163 : decode cX10_init 163 = .ok (.getfield 53, 3) := by decide +kernel
theorem dX10_init_166 : decode cX10_init 166 = .ok (.invokespecial 59, 3) := by decide +kernel
theorem dX10_init_169 : decode cX10_init 169 = .ok (.putfield 66, 3) := by decide +kernel
theorem dX10_init_172 : decode cX10_init 172 = .ok (.aload_n 0, 1) := by decide +kernel
theorem dX10_init_173 : decode cX10_init 173 = .ok (.new 57, 3) := by decide +kernel
theorem dX10_init_176 : decode cX10_init 176 = .ok (.dup, 1) := by decide +kernel
theorem dX10_init_177 : decode cX10_init 177 = .ok (.aload_n 0, 1) := by decide +kernel
theorem dX10_init_178 : decode cX10_init 178 = .ok (.getfield 53, 3) := by decide +kernel
theorem dX10_init_181 : decode cX10_init 181 = .ok (.invokespecial 59, 3) := by decide +kernel
theorem dX10_init_184 : decode cX10_init 184 = .ok (.putfield 69, 3) := by decide +kernel
theorem dX10_init_187 : decode cX10_init 187 = .ok (.aload_n 0, 1) := by decide +kernel
theorem dX10_init_188 : decode cX10_init 188 = .ok (.bipush 8, 2) := by decide +kernel
theorem dX10_init_190 : decode cX10_init 190 = .ok (.anewarray 72, 3) := by decide +kernel
theorem dX10_init_193 : decode cX10_init 193 = .ok (.putfield 74, 3) := by decide +kernel
theorem dX10_init_196 : decode cX10_init 196 = .ok (.iconst 0, 1) := by decide +kernel
theorem dX10_init_197 : decode cX10_init 197 = .ok (.istore_n 1, 1) := by decide +kernel
theorem dX10_init_198 : decode cX10_init 198 = .ok (.iload_n 1, 1) := by decide +kernel
theorem dX10_init_199 : decode cX10_init 199 = .ok (.bipush 8, 2) := by decide +kernel
theorem dX10_init_201 : decode cX10_init 201 = .ok (.if_icmp .ge 22, 3) := by decide +kernel
theorem dX10_init_204 : decode cX10_init 204 = .ok (.aload_n 0, 1) := by decide +kernel
theorem dX10_init_205 : decode cX10_init 205 = .ok (.getfield 74, 3) := by decide +kernel
theorem dX10_init_208 : decode cX10_init 208 = .ok (.iload_n 1, 1) := by decide +kernel
theorem dX10_init_209 : decode cX10_init 209 = .ok (.new 72, 3) := by decide +kernel
theorem dX10_init_212 : decode cX10_init 212 = .ok (.dup, 1) := by decide +kernel
theorem dX10_init_213 : decode cX10_init 213 = .ok (.invokespecial 78, 3) := by decide +kernel
theorem dX10_init_216 : decode cX10_init 216 = .ok (.aastore, 1) := by decide +kernel
theorem dX10_init_217 : decode cX10_init 217 = .ok (.iinc 1 1, 3) := by decide +kernel
theorem dX10_init_220 : decode cX10_init 220 = .ok (.goto (-22), 3) := by decide +kernel
theorem dX10_init_223 : decode cX10_init 223 = .ok (.return_, 1) := by decide +kernel
theorem dX11_init_0 : decode cX11_init 0 = .ok (.aload_n 0, 1) := by decide +kernel
theorem dX11_init_1 : decode cX11_init 1 = .ok (.invokespecial 1, 3) := by decide +kernel
theorem dX11_init_4 : decode cX11_init 4 = .ok (.aload_n 0, 1) := by decide +kernel
theorem dX11_init_5 : decode cX11_init 5 = .ok (.bipush 7, 2) := by decide +kernel
theorem dX11_init_7 : decode cX11_init 7 = .ok (.newarray .int, 2) := by decide +kernel
theorem dX11_init_9 : decode cX11_init 9 = .ok (.putfield 7, 3) := by decide +kernel
theorem dX11_init_12 : decode cX11_init 12 = .ok (.aload_n 0, 1) := by decide +kernel
theorem dX11_init_13 : decode cX11_init 13 = .ok (.bipush 7, 2) := by decide +kernel
theorem dX11_init_15 : decode cX11_init 15 = .ok (.newarray .int, 2) := by decide +kernel
theorem dX11_init_17 : decode cX11_init 17 = .ok (.putfield 13, 3) := by decide +kernel
theorem dX11_init_20 : decode cX11_init 20 = .ok (.aload_n 0, 1) := by decide +kernel
theorem dX11_init_21 : decode cX11_init 21 = .ok (.bipush 7, 2) := by decide +kernel
theorem dX11_init_23 : decode cX11_init 23 = .ok (.newarray .int, 2) := by decide +kernel
theorem dX11_init_25 : decode cX11_init 25 = .ok (.putfield 16, 3) := by decide +kernel
theorem dX11_init_28 : decode cX11_init 28 = .ok (.aload_n 0, 1) := by decide +kernel
theorem dX11_init_29 : decode cX11_init 29 = .ok (.bipush 7, 2) := by decide +kernel
theorem dX11_init_31 : decode cX11_init 31 = .ok (.newarray .int, 2) := by decide +kernel
theorem dX11_init_33 : decode cX11_init 33 = .ok (.putfield 19, 3) := by decide +kernel
theorem dX11_init_36 : decode cX11_init 36 = .ok (.aload_n 0, 1) := by decide +kernel
theorem dX11_init_37 : decode cX11_init 37 = .ok (.bipush 7, 2) := by decide +kernel
theorem dX11_init_39 : decode cX11_init 39 = .ok (.newarray .int, 2) := by decide +kernel
theorem dX11_init_41 : decode cX11_init 41 = .ok (.putfield 22, 3) := by decide +kernel
theorem dX11_init_44 : decode cX11_init 44 = .ok (.aload_n 0, 1) := by decide +kernel
theorem dX11_init_45 : decode cX11_init 45 = .ok (.bipush 8, 2) := by decide +kernel
theorem dX11_init_47 : decode cX11_init 47 = .ok (.newarray .int, 2) := by decide +kernel
theorem dX11_init_49 : decode cX11_init 49 = .ok (.putfield 25, 3) := by decide +kernel
theorem dX11_init_52 : decode cX11_init 52 = .ok (.aload_n 0, 1) := by decide +kernel
theorem dX11_init_53 : decode cX11_init 53 = .ok (.bipush 8, 2) := by decide +kernel
theorem dX11_init_55 : decode cX11_init 55 = .ok (.newarray .int, 2) := by decide +kernel
theorem dX11_init_57 : decode cX11_init 57 = .ok (.putfield 28, 3) := by decide +kernel
theorem dX11_init_60 : decode cX11_init 60 = .ok (.aload_n 0, 1) := by decide +kernel
theorem dX11_init_61 : decode cX11_init 61 = .ok (.bipush 8, 2) := by decide +kernel
theorem dX11_init_63 : decode cX11_init 63 = .ok (.newarray .int, 2) := by decide +kernel
theorem dX11_init_65 : decode cX11_init 65 = .ok (.putfield 31, 3) := by decide +kernel
theorem dX11_init_68 : decode cX11_init 68 = .ok (.aload_n 0, 1) := by decide +kernel
theorem dX11_init_69 : decode cX11_init 69 = .ok (.bipush 8, 2) := by decide +kernel
theorem dX11_init_71 : decode cX11_init 71 = .ok (.newarray .int, 2) := by decide +kernel
theorem dX11_init_73 : decode cX11_init 73 = .ok (.putfield 34, 3) := by decide +kernel
theorem dX11_init_76 : decode cX11_init 76 = .ok (.aload_n 0, 1) := by decide +kernel
theorem dX11_init_77 : decode cX11_init 77 = .ok (.bipush 8, 2) := by decide +kernel
theorem dX11_init_79 : decode cX11_init 79 = .ok (.newarray .int, 2) := by decide +kernel
theorem dX11_init_81 : decode cX11_init 81 = .ok (.putfield 37, 3) := by decide +kernel
theorem dX11_init_84 : decode cX11_init 84 = .ok (.aload_n 0, 1) := by decide +kernel
theorem dX11_init_85 : decode cX11_init 85 = .ok (.sipush 800, 3) := by decide +kernel
theorem dX11_init_88 : decode cX11_init 88 = .ok (.newarray .long, 2) := by decide +kernel
theorem dX11_init_90 : decode cX11_init 90 = .ok (.putfield 40, 3) := by decide +kernel
theorem dX11_init_93 : decode cX11_init 93 = .ok (.aload_n 0, 1) := by decide +kernel
theorem dX11_init_94 : decode cX11_init 94 = .ok (.bipush 51, 2) := by decide +kernel
theorem dX11_init_96 : decode cX11_init 96 = .ok (.newarray .int, 2) := by decide +kernel
theorem dX11_init_98 : decode cX11_init 98 = .ok (.putfield 44, 3) := by decide +kernel
theorem dX11_init_101 : decode cX11_init 101 = .ok (.aload_n 0, 1) := by decide +kernel
theorem dX11_init_102 : decode cX11_init 102 = .ok (.bipush 51, 2) := by decide +kernel
theorem dX11_init_104 : decode cX11_init 104 = .ok (.newarray .int, 2) := by decide +kernel
theorem dX11_init_106 : decode cX11_init 106 = .ok (.putfield 47, 3) := by decide +kernel
theorem dX11_init_109 : decode cX11_init 109 = .ok (.aload_n 0, 1) := by decide +kernel
theorem dX11_init_110 : decode cX11_init 110 = .ok (.sipush 204, 3) := by decide +kernel
theorem dX11_init_113 : decode cX11_init 113 = .ok (.newarray .int, 2) := by decide +kernel
theorem dX11_init_115 : decode cX11_init 115 = .ok (.putfield 50, 3) := by decide +kernel
theorem dX11_init_118 : decode cX11_init 118 = .ok (.aload_n 0, 1) := by decide +kernel
theorem dX11_init_119 : decode cX11_init 119 = .ok (.bipush 41, 2) := by decide +kernel
theorem dX11_init_121 : decode cX11_init 121 = .ok (.newarray .int, 2) := by decide +kernel
theorem dX11_init_123 : decode cX11_init 123 = .ok (.putfield 53, 3) := by decide +kernel
theorem dX11_init_126 : decode cX11_init 126 = .ok (.aload_n 0, 1) := by decide +kernel
theorem dX11_init_127 : decode cX11_init 127 = .ok (.bipush 41, 2) := by decide +kernel
theorem dX11_init_129 : decode cX11_init 129 = .ok (.newarray .int, 2) := by decide +kernel
theorem dX11_init_131 : decode cX11_init 131 = .ok (.putfield 56, 3) := by decide +kernel
theorem dX11_init_134 : decode cX11_init 134 = .ok (.aload_n 0, 1) := by decide +kernel
theorem dX11_init_135 : decode cX11_init 135 = .ok (.sipush 1024, 3) := by decide +kernel
theorem dX11_init_138 : decode cX11_init 138 = .ok (.newarray .int, 2) := by decide +kernel
theorem dX11_init_140 : decode cX11_init 140 = .ok (.putfield 59, 3) := by decide +kernel
theorem dX11_init_143 : decode cX11_init 143 = .ok (.aload_n 0, 1) := by decide +kernel
theorem dX11_init_144 : decode cX11_init 144 = .ok (.bipush 8, 2) := by decide +kernel
theorem dX11_init_146 : decode cX11_init 146 = .ok (.newarray .int, 2) := by decide +kernel
theorem dX11_init_148 : decode cX11_init 148 = .ok (.putfield 62, 3) := by decide +kernel
theorem dX11_init_151 : decode cX11_init 151 = .ok (.aload_n 0, 1) := by decide +kernel
theorem dX11_init_152 : decode cX11_init 152 = .ok (.bipush 100, 2) := by decide +kernel
theorem dX11_init_154 : decode cX11_init 154 = .ok (.newarray .long, 2) := by decide +kernel
theorem dX11_init_156 : decode cX11_init 156 = .ok (.putfield 65, 3) := by decide +kernel
theorem dX11_init_159 : decode cX11_init 159 = .ok (.aload_n 0, 1) := by decide +kernel
theorem dX11_init_160 : decode cX11_init 160 = .ok (.iconst 0, 1) := by decide +kernel
theorem dX11_init_161 : decode cX11_init 161 = .ok (.putfield 68, 3) := by decide +kernel
theorem dX11_init_164 : decode cX11_init 164 = .ok (.aload_n 0, 1) := by decide +kernel
theorem dX11_init_165 : decode cX11_init 165 = .ok (.iconst 1, 1) := by decide +kernel
theorem dX11_init_166 : decode cX11_init 166 = .ok (.putfield 72, 3) := by decide +kernel
theorem dX11_init_169 : decode cX11_init 169 = .ok (.aload_n 0, 1) := by decide +kernel
theorem dX11_init_170 : decode cX11_init 170 = .ok (.bipush 6, 2) := by decide +kernel
theorem dX11_init_172 : decode cX11_init 172 = .ok (.putfield 75, 3) := by decide +kernel
theorem dX11_init_175 : decode cX11_init 175 = .ok (.return_, 1) := by decide +kernel
theorem zk_39 : (Jvm.Cond.arrayClass Jvm.ClassFile.FieldType.int) ∈ zg_tbl := zg_at 92 (by decide +kernel) (by decide +kernel)
theorem zk_40 : (Jvm.Cond.arrayClass Jvm.ClassFile.FieldType.long) ∈ zg_tbl := zg_at 93 (by decide +kernel) (by decide +kernel)
theorem zk_29 : (Jvm.Cond.instanceMethod ({ cls := "java/lang/Object", name := "<init>", desc := "()V" } : Jvm.MethodName)) ∈ zg_tbl := zg_at 82 (by decide +kernel) (by decide +kernel)
theorem zk_30 : (Jvm.Cond.code ({ cls := "java/lang/Object", name := "<init>", desc := "()V" } : Jvm.MethodName) object_method_1_code (1 : Nat) (Option.none : Option Jvm.ClassFile.FieldType)) ∈ zg_tbl := zg_at 83 (by decide +kernel) (by decide +kernel)
theorem zk_77 : (Jvm.Cond.instantiable "ChairOnTheRoad$Army" (0 : Nat)) ∈ zg_tbl := zg_at 130 (by decide +kernel) (by decide +kernel)
theorem zk_42 : (Jvm.Cond.instantiable "ChairOnTheRoad$Baker" (0 : Nat)) ∈ zg_tbl := zg_at 95 (by decide +kernel) (by decide +kernel)
theorem zk_63 : (Jvm.Cond.instantiable "ChairOnTheRoad$Bishop" (0 : Nat)) ∈ zg_tbl := zg_at 116 (by decide +kernel) (by decide +kernel)
theorem zk_49 : (Jvm.Cond.instantiable "ChairOnTheRoad$Doctor" (0 : Nat)) ∈ zg_tbl := zg_at 102 (by decide +kernel) (by decide +kernel)
theorem zk_56 : (Jvm.Cond.instantiable "ChairOnTheRoad$Hearse" (0 : Nat)) ∈ zg_tbl := zg_at 109 (by decide +kernel) (by decide +kernel)
theorem zk_84 : (Jvm.Cond.instantiable "ChairOnTheRoad$Hermit" (0 : Nat)) ∈ zg_tbl := zg_at 137 (by decide +kernel) (by decide +kernel)
theorem zk_70 : (Jvm.Cond.instantiable "ChairOnTheRoad$Pedlar" (0 : Nat)) ∈ zg_tbl := zg_at 123 (by decide +kernel) (by decide +kernel)
theorem zk_91 : (Jvm.Cond.instantiable "ChairOnTheRoad$Province" (15 : Nat)) ∈ zg_tbl := zg_at 144 (by decide +kernel) (by decide +kernel)
theorem zk_156 : (Jvm.Cond.instantiable "ChairOnTheRoad$Shelf" (6 : Nat)) ∈ zg_tbl := zg_at 209 (by decide +kernel) (by decide +kernel)
theorem zk_33 : (Jvm.Cond.instantiable "ChairOnTheRoad$Village" (0 : Nat)) ∈ zg_tbl := zg_at 86 (by decide +kernel) (by decide +kernel)
theorem zk_24 : (Jvm.Cond.instantiable "ChairOnTheRoad" (12 : Nat)) ∈ zg_tbl := zg_at 77 (by decide +kernel) (by decide +kernel)
theorem zk_947 : (Jvm.Cond.instantiable "ChairOnTheRoadModel" (35 : Nat)) ∈ zg_tbl := zg_at 1000 (by decide +kernel) (by decide +kernel)
theorem zk_80 : (Jvm.Cond.code ({ cls := "ChairOnTheRoad$Army", name := "<init>", desc := "()V" } : Jvm.MethodName) prog_2_method_1_code (1 : Nat) (Option.none : Option Jvm.ClassFile.FieldType)) ∈ zg_tbl := zg_at 133 (by decide +kernel) (by decide +kernel)
theorem zk_79 : (Jvm.Cond.instanceMethod ({ cls := "ChairOnTheRoad$Army", name := "<init>", desc := "()V" } : Jvm.MethodName)) ∈ zg_tbl := zg_at 132 (by decide +kernel) (by decide +kernel)
theorem zk_45 : (Jvm.Cond.code ({ cls := "ChairOnTheRoad$Baker", name := "<init>", desc := "()V" } : Jvm.MethodName) prog_3_method_1_code (1 : Nat) (Option.none : Option Jvm.ClassFile.FieldType)) ∈ zg_tbl := zg_at 98 (by decide +kernel) (by decide +kernel)
theorem zk_44 : (Jvm.Cond.instanceMethod ({ cls := "ChairOnTheRoad$Baker", name := "<init>", desc := "()V" } : Jvm.MethodName)) ∈ zg_tbl := zg_at 97 (by decide +kernel) (by decide +kernel)
theorem zk_66 : (Jvm.Cond.code ({ cls := "ChairOnTheRoad$Bishop", name := "<init>", desc := "()V" } : Jvm.MethodName) prog_4_method_1_code (1 : Nat) (Option.none : Option Jvm.ClassFile.FieldType)) ∈ zg_tbl := zg_at 119 (by decide +kernel) (by decide +kernel)
theorem zk_65 : (Jvm.Cond.instanceMethod ({ cls := "ChairOnTheRoad$Bishop", name := "<init>", desc := "()V" } : Jvm.MethodName)) ∈ zg_tbl := zg_at 118 (by decide +kernel) (by decide +kernel)
theorem zk_52 : (Jvm.Cond.code ({ cls := "ChairOnTheRoad$Doctor", name := "<init>", desc := "()V" } : Jvm.MethodName) prog_5_method_1_code (1 : Nat) (Option.none : Option Jvm.ClassFile.FieldType)) ∈ zg_tbl := zg_at 105 (by decide +kernel) (by decide +kernel)
theorem zk_51 : (Jvm.Cond.instanceMethod ({ cls := "ChairOnTheRoad$Doctor", name := "<init>", desc := "()V" } : Jvm.MethodName)) ∈ zg_tbl := zg_at 104 (by decide +kernel) (by decide +kernel)
theorem zk_59 : (Jvm.Cond.code ({ cls := "ChairOnTheRoad$Hearse", name := "<init>", desc := "()V" } : Jvm.MethodName) prog_6_method_1_code (1 : Nat) (Option.none : Option Jvm.ClassFile.FieldType)) ∈ zg_tbl := zg_at 112 (by decide +kernel) (by decide +kernel)
theorem zk_58 : (Jvm.Cond.instanceMethod ({ cls := "ChairOnTheRoad$Hearse", name := "<init>", desc := "()V" } : Jvm.MethodName)) ∈ zg_tbl := zg_at 111 (by decide +kernel) (by decide +kernel)
theorem zk_87 : (Jvm.Cond.code ({ cls := "ChairOnTheRoad$Hermit", name := "<init>", desc := "()V" } : Jvm.MethodName) prog_7_method_1_code (1 : Nat) (Option.none : Option Jvm.ClassFile.FieldType)) ∈ zg_tbl := zg_at 140 (by decide +kernel) (by decide +kernel)
theorem zk_86 : (Jvm.Cond.instanceMethod ({ cls := "ChairOnTheRoad$Hermit", name := "<init>", desc := "()V" } : Jvm.MethodName)) ∈ zg_tbl := zg_at 139 (by decide +kernel) (by decide +kernel)
theorem zk_73 : (Jvm.Cond.code ({ cls := "ChairOnTheRoad$Pedlar", name := "<init>", desc := "()V" } : Jvm.MethodName) prog_8_method_1_code (1 : Nat) (Option.none : Option Jvm.ClassFile.FieldType)) ∈ zg_tbl := zg_at 126 (by decide +kernel) (by decide +kernel)
theorem zk_72 : (Jvm.Cond.instanceMethod ({ cls := "ChairOnTheRoad$Pedlar", name := "<init>", desc := "()V" } : Jvm.MethodName)) ∈ zg_tbl := zg_at 125 (by decide +kernel) (by decide +kernel)
theorem zk_94 : (Jvm.Cond.code ({ cls := "ChairOnTheRoad$Province", name := "<init>", desc := "([LChairOnTheRoad$Village;)V" } : Jvm.MethodName) prog_9_method_1_code (2 : Nat) (Option.none : Option Jvm.ClassFile.FieldType)) ∈ zg_tbl := zg_at 147 (by decide +kernel) (by decide +kernel)
theorem zk_93 : (Jvm.Cond.instanceMethod ({ cls := "ChairOnTheRoad$Province", name := "<init>", desc := "([LChairOnTheRoad$Village;)V" } : Jvm.MethodName)) ∈ zg_tbl := zg_at 146 (by decide +kernel) (by decide +kernel)
theorem zk_159 : (Jvm.Cond.code ({ cls := "ChairOnTheRoad$Shelf", name := "<init>", desc := "()V" } : Jvm.MethodName) prog_10_method_1_code (1 : Nat) (Option.none : Option Jvm.ClassFile.FieldType)) ∈ zg_tbl := zg_at 212 (by decide +kernel) (by decide +kernel)
theorem zk_158 : (Jvm.Cond.instanceMethod ({ cls := "ChairOnTheRoad$Shelf", name := "<init>", desc := "()V" } : Jvm.MethodName)) ∈ zg_tbl := zg_at 211 (by decide +kernel) (by decide +kernel)
theorem zk_36 : (Jvm.Cond.code ({ cls := "ChairOnTheRoad$Village", name := "<init>", desc := "()V" } : Jvm.MethodName) prog_11_method_1_code (1 : Nat) (Option.none : Option Jvm.ClassFile.FieldType)) ∈ zg_tbl := zg_at 89 (by decide +kernel) (by decide +kernel)
theorem zk_35 : (Jvm.Cond.instanceMethod ({ cls := "ChairOnTheRoad$Village", name := "<init>", desc := "()V" } : Jvm.MethodName)) ∈ zg_tbl := zg_at 88 (by decide +kernel) (by decide +kernel)
theorem zk_27 : (Jvm.Cond.code ({ cls := "ChairOnTheRoad", name := "<init>", desc := "()V" } : Jvm.MethodName) prog_1_method_1_code (2 : Nat) (Option.none : Option Jvm.ClassFile.FieldType)) ∈ zg_tbl := zg_at 80 (by decide +kernel) (by decide +kernel)
theorem zk_26 : (Jvm.Cond.instanceMethod ({ cls := "ChairOnTheRoad", name := "<init>", desc := "()V" } : Jvm.MethodName)) ∈ zg_tbl := zg_at 79 (by decide +kernel) (by decide +kernel)
theorem zk_950 : (Jvm.Cond.code ({ cls := "ChairOnTheRoadModel", name := "<init>", desc := "()V" } : Jvm.MethodName) prog_13_method_1_code (1 : Nat) (Option.none : Option Jvm.ClassFile.FieldType)) ∈ zg_tbl := zg_at 1003 (by decide +kernel) (by decide +kernel)
theorem zk_949 : (Jvm.Cond.instanceMethod ({ cls := "ChairOnTheRoadModel", name := "<init>", desc := "()V" } : Jvm.MethodName)) ∈ zg_tbl := zg_at 1002 (by decide +kernel) (by decide +kernel)
theorem zk_46 : (Jvm.Cond.methodLinkNest "ChairOnTheRoad$Baker" (1 : Nat) ({ cls := "ChairOnTheRoad$Village", name := "<init>", desc := "()V" } : Jvm.MethodName) "ChairOnTheRoad") ∈ zn_tbl := zn_at 99 (by decide +kernel) (by decide +kernel)
theorem zk_53 : (Jvm.Cond.methodLinkNest "ChairOnTheRoad$Doctor" (1 : Nat) ({ cls := "ChairOnTheRoad$Village", name := "<init>", desc := "()V" } : Jvm.MethodName) "ChairOnTheRoad") ∈ zn_tbl := zn_at 106 (by decide +kernel) (by decide +kernel)
theorem zk_60 : (Jvm.Cond.methodLinkNest "ChairOnTheRoad$Hearse" (1 : Nat) ({ cls := "ChairOnTheRoad$Doctor", name := "<init>", desc := "()V" } : Jvm.MethodName) "ChairOnTheRoad") ∈ zn_tbl := zn_at 113 (by decide +kernel) (by decide +kernel)
theorem zk_67 : (Jvm.Cond.methodLinkNest "ChairOnTheRoad$Bishop" (1 : Nat) ({ cls := "ChairOnTheRoad$Baker", name := "<init>", desc := "()V" } : Jvm.MethodName) "ChairOnTheRoad") ∈ zn_tbl := zn_at 120 (by decide +kernel) (by decide +kernel)
theorem zk_74 : (Jvm.Cond.methodLinkNest "ChairOnTheRoad$Pedlar" (1 : Nat) ({ cls := "ChairOnTheRoad$Village", name := "<init>", desc := "()V" } : Jvm.MethodName) "ChairOnTheRoad") ∈ zn_tbl := zn_at 127 (by decide +kernel) (by decide +kernel)
theorem zk_81 : (Jvm.Cond.methodLinkNest "ChairOnTheRoad$Army" (1 : Nat) ({ cls := "ChairOnTheRoad$Bishop", name := "<init>", desc := "()V" } : Jvm.MethodName) "ChairOnTheRoad") ∈ zn_tbl := zn_at 134 (by decide +kernel) (by decide +kernel)
theorem zk_88 : (Jvm.Cond.methodLinkNest "ChairOnTheRoad$Hermit" (1 : Nat) ({ cls := "ChairOnTheRoad$Doctor", name := "<init>", desc := "()V" } : Jvm.MethodName) "ChairOnTheRoad") ∈ zn_tbl := zn_at 141 (by decide +kernel) (by decide +kernel)
theorem zk_37 : (Jvm.Cond.methodLink "ChairOnTheRoad$Village" (1 : Nat) ({ cls := "java/lang/Object", name := "<init>", desc := "()V" } : Jvm.MethodName)) ∈ zg_tbl := zg_at 90 (by decide +kernel) (by decide +kernel)
theorem zk_95 : (Jvm.Cond.methodLink "ChairOnTheRoad$Province" (3 : Nat) ({ cls := "java/lang/Object", name := "<init>", desc := "()V" } : Jvm.MethodName)) ∈ zg_tbl := zg_at 148 (by decide +kernel) (by decide +kernel)
theorem zk_160 : (Jvm.Cond.methodLink "ChairOnTheRoad$Shelf" (3 : Nat) ({ cls := "java/lang/Object", name := "<init>", desc := "()V" } : Jvm.MethodName)) ∈ zg_tbl := zg_at 213 (by decide +kernel) (by decide +kernel)
theorem zk_951 : (Jvm.Cond.methodLink "ChairOnTheRoadModel" (1 : Nat) ({ cls := "java/lang/Object", name := "<init>", desc := "()V" } : Jvm.MethodName)) ∈ zg_tbl := zg_at 1004 (by decide +kernel) (by decide +kernel)
theorem zk_28 : (Jvm.Cond.methodLink "ChairOnTheRoad" (1 : Nat) ({ cls := "java/lang/Object", name := "<init>", desc := "()V" } : Jvm.MethodName)) ∈ zg_tbl := zg_at 81 (by decide +kernel) (by decide +kernel)
theorem zk_oi : Cond.instanceMethod Lib.objectInit ∈ zg_tbl := zk_29
theorem zk_oc : Cond.code Lib.objectInit ⟨#[0xb1]⟩ 1 none ∈ zg_tbl := zk_30
abbrev zI_9 : zMI := (yX9_init, cX9_init, 1, none, 1, 12)
theorem zp_9 : zc_okM zI_9 0 := ⟨zk_36, zw_2, by decide +kernel, by decide +kernel, by decide +kernel⟩
abbrev zI_1 : zMI := (yX1_init, cX1_init, 1, none, 2, 32)
theorem zp_1 : zc_okM zI_1 0 := ⟨zk_45, zw_3, by decide +kernel, by decide +kernel, by decide +kernel⟩
abbrev zI_3 : zMI := (yX3_init, cX3_init, 1, none, 2, 32)
theorem zp_3 : zc_okM zI_3 0 := ⟨zk_52, zw_4, by decide +kernel, by decide +kernel, by decide +kernel⟩
abbrev zI_4 : zMI := (yX4_init, cX4_init, 1, none, 3, 52)
theorem zp_4 : zc_okM zI_4 0 := ⟨zk_59, zw_5, by decide +kernel, by decide +kernel, by decide +kernel⟩
abbrev zI_2 : zMI := (yX2_init, cX2_init, 1, none, 3, 52)
theorem zp_2 : zc_okM zI_2 0 := ⟨zk_66, zw_6, by decide +kernel, by decide +kernel, by decide +kernel⟩
abbrev zI_6 : zMI := (yX6_init, cX6_init, 1, none, 2, 32)
theorem zp_6 : zc_okM zI_6 0 := ⟨zk_73, zw_7, by decide +kernel, by decide +kernel, by decide +kernel⟩
abbrev zI_0 : zMI := (yX0_init, cX0_init, 1, none, 4, 72)
theorem zp_0 : zc_okM zI_0 0 := ⟨zk_80, zw_8, by decide +kernel, by decide +kernel, by decide +kernel⟩
abbrev zI_5 : zMI := (yX5_init, cX5_init, 1, none, 3, 52)
theorem zp_5 : zc_okM zI_5 0 := ⟨zk_87, zw_9, by decide +kernel, by decide +kernel, by decide +kernel⟩
abbrev zI_7 : zMI := (yX7_init, cX7_init, 2, none, 1, 12)
theorem zp_7 : zc_okM zI_7 1 := ⟨zk_94, zw_10, by decide +kernel, by decide +kernel, by decide +kernel⟩
abbrev zI_8 : zMI := (yX8_init, cX8_init, 1, none, 1, 12)
theorem zp_8 : zc_okM zI_8 0 := ⟨zk_159, zw_11, by decide +kernel, by decide +kernel, by decide +kernel⟩
abbrev zI_11 : zMI := (yX11_init, cX11_init, 1, none, 1, 12)
theorem zp_11 : zc_okM zI_11 0 := ⟨zk_950, zw_12, by decide +kernel, by decide +kernel, by decide +kernel⟩
abbrev zI_10 : zMI := (yX10_init, cX10_init, 2, none, 5, 92)
theorem zp_10 : zc_okM zI_10 0 := ⟨zk_27, zw_1, by decide +kernel, by decide +kernel, by decide +kernel⟩
abbrev zq_i (n : Nat) : zX := .inr (12, n, fun _ => none)
abbrev zq_l (n : Nat) : zX := .inr (13, n, fun _ => none)
theorem zt_init9 {a : Nat} {xs : List zX} : zi_Cn zI_9 (0, 0) [.ref a] xs xs := by
  refine zi_body (by decide +kernel) rfl rfl (Nat.le_refl _) ?_
  intro l D c B p e s m args below meth cd H locs ls0 X P hL hnm hr hlk
  refine lv_aload_n X.1 X.2.1 dX9_init_0 rfl (hL.2.2 0 _ rfl) ?_
  refine zj_obj X zk_37 hL.1 (by decide) (by decide) dX9_init_1 zk_oi zk_oc ?_
  exact zj_ret hr hlk X P rfl rfl dX9_init_4
theorem zt_init1 {a : Nat} {xs : List zX} : zi_Cn zI_1 (0, 0) [.ref a] xs xs := by
  refine zi_body (by decide +kernel) rfl rfl (Nat.le_refl _) ?_
  intro l D c B p e s m args below meth cd H locs ls0 X P hL hnm hr hlk
  refine lv_aload_n X.1 X.2.1 dX1_init_0 rfl (hL.2.2 0 _ rfl) ?_
  refine zj_call [] X P (zt_init9 (a := a)) zp_9 rfl (Or.inr ⟨_, zk_46⟩) zk_35 rfl rfl rfl (by decide) ⟨by decide, by decide⟩ ⟨by decide, by decide⟩ hL.1 dX1_init_1 (fun H locs P => ?_)
  exact zj_ret hr hlk X P rfl rfl dX1_init_4
theorem zt_init3 {a : Nat} {xs : List zX} : zi_Cn zI_3 (0, 0) [.ref a] xs xs := by
  refine zi_body (by decide +kernel) rfl rfl (Nat.le_refl _) ?_
  intro l D c B p e s m args below meth cd H locs ls0 X P hL hnm hr hlk
  refine lv_aload_n X.1 X.2.1 dX3_init_0 rfl (hL.2.2 0 _ rfl) ?_
  refine zj_call [] X P (zt_init9 (a := a)) zp_9 rfl (Or.inr ⟨_, zk_53⟩) zk_35 rfl rfl rfl (by decide) ⟨by decide, by decide⟩ ⟨by decide, by decide⟩ hL.1 dX3_init_1 (fun H locs P => ?_)
  exact zj_ret hr hlk X P rfl rfl dX3_init_4
theorem zt_init4 {a : Nat} {xs : List zX} : zi_Cn zI_4 (0, 0) [.ref a] xs xs := by
  refine zi_body (by decide +kernel) rfl rfl (Nat.le_refl _) ?_
  intro l D c B p e s m args below meth cd H locs ls0 X P hL hnm hr hlk
  refine lv_aload_n X.1 X.2.1 dX4_init_0 rfl (hL.2.2 0 _ rfl) ?_
  refine zj_call [] X P (zt_init3 (a := a)) zp_3 rfl (Or.inr ⟨_, zk_60⟩) zk_51 rfl rfl rfl (by decide) ⟨by decide, by decide⟩ ⟨by decide, by decide⟩ hL.1 dX4_init_1 (fun H locs P => ?_)
  exact zj_ret hr hlk X P rfl rfl dX4_init_4
theorem zt_init2 {a : Nat} {xs : List zX} : zi_Cn zI_2 (0, 0) [.ref a] xs xs := by
  refine zi_body (by decide +kernel) rfl rfl (Nat.le_refl _) ?_
  intro l D c B p e s m args below meth cd H locs ls0 X P hL hnm hr hlk
  refine lv_aload_n X.1 X.2.1 dX2_init_0 rfl (hL.2.2 0 _ rfl) ?_
  refine zj_call [] X P (zt_init1 (a := a)) zp_1 rfl (Or.inr ⟨_, zk_67⟩) zk_44 rfl rfl rfl (by decide) ⟨by decide, by decide⟩ ⟨by decide, by decide⟩ hL.1 dX2_init_1 (fun H locs P => ?_)
  exact zj_ret hr hlk X P rfl rfl dX2_init_4
theorem zt_init6 {a : Nat} {xs : List zX} : zi_Cn zI_6 (0, 0) [.ref a] xs xs := by
  refine zi_body (by decide +kernel) rfl rfl (Nat.le_refl _) ?_
  intro l D c B p e s m args below meth cd H locs ls0 X P hL hnm hr hlk
  refine lv_aload_n X.1 X.2.1 dX6_init_0 rfl (hL.2.2 0 _ rfl) ?_
  refine zj_call [] X P (zt_init9 (a := a)) zp_9 rfl (Or.inr ⟨_, zk_74⟩) zk_35 rfl rfl rfl (by decide) ⟨by decide, by decide⟩ ⟨by decide, by decide⟩ hL.1 dX6_init_1 (fun H locs P => ?_)
  exact zj_ret hr hlk X P rfl rfl dX6_init_4
theorem zt_init0 {a : Nat} {xs : List zX} : zi_Cn zI_0 (0, 0) [.ref a] xs xs := by
  refine zi_body (by decide +kernel) rfl rfl (Nat.le_refl _) ?_
  intro l D c B p e s m args below meth cd H locs ls0 X P hL hnm hr hlk
  refine lv_aload_n X.1 X.2.1 dX0_init_0 rfl (hL.2.2 0 _ rfl) ?_
  refine zj_call [] X P (zt_init2 (a := a)) zp_2 rfl (Or.inr ⟨_, zk_81⟩) zk_65 rfl rfl rfl (by decide) ⟨by decide, by decide⟩ ⟨by decide, by decide⟩ hL.1 dX0_init_1 (fun H locs P => ?_)
  exact zj_ret hr hlk X P rfl rfl dX0_init_4
theorem zt_init5 {a : Nat} {xs : List zX} : zi_Cn zI_5 (0, 0) [.ref a] xs xs := by
  refine zi_body (by decide +kernel) rfl rfl (Nat.le_refl _) ?_
  intro l D c B p e s m args below meth cd H locs ls0 X P hL hnm hr hlk
  refine lv_aload_n X.1 X.2.1 dX5_init_0 rfl (hL.2.2 0 _ rfl) ?_
  refine zj_call [] X P (zt_init3 (a := a)) zp_3 rfl (Or.inr ⟨_, zk_88⟩) zk_51 rfl rfl rfl (by decide) ⟨by decide, by decide⟩ ⟨by decide, by decide⟩ hL.1 dX5_init_1 (fun H locs P => ?_)
  exact zj_ret hr hlk X P rfl rfl dX5_init_4
theorem zx_lenm {pre tl : List zX} {x : zX} {a k n : Nat} (ha : pre.length = a) (hk : tl.length = k) (hn : a + (k + 1) = n) : (pre ++ x :: tl).length = n := by rw [List.length_append, List.length_cons, ha, hk, hn]
theorem zx_app {pre : List zX} {x : zX} (tl : List zX) (y : zX) : pre ++ x :: tl ++ [y] = pre ++ x :: (tl ++ [y]) := by rw [List.append_assoc]; rfl
theorem zx_mid {pre tl : List zX} {x : zX} {a : Nat} (ha : pre.length = a) : (pre ++ x :: tl)[a]? = some x := by subst ha; simp
theorem zx_setm {pre tl : List zX} {x y : zX} {a : Nat} (ha : pre.length = a) : (pre ++ x :: tl).set a y = pre ++ y :: tl := by subst ha; simp
abbrev zq_w7 (a : Nat) (pre : List zX) : List zX := pre ++ .inl (7, [.ref (7), .ref (a + 1), .ref (a + 2), .ref (a + 3), .ref (a + 4), .ref (a + 5), .ref (a + 6), .ref (a + 7), .ref (a + 8), .int 0, .int 0, .int 1, .int 6, .int 0, .int 0]) :: [zq_i 7, zq_i 7, zq_i 7, zq_i 7, zq_i 7, zq_i 7, zq_i 7, zq_i 7]
abbrev zq_n7 : zX := .inl (7, [.null, .null, .null, .null, .null, .null, .null, .null, .null, .int 0, .int 0, .int 0, .int 0, .int 0, .int 0])
theorem zt_init7 {a : Nat} {pre : List zX} (ha : pre.length = a) : zi_Cn zI_7 (8, 56) [.ref a, .ref 7] (pre ++ [zq_n7]) (zq_w7 a pre) := by
  refine zi_body (by decide +kernel) rfl rfl (Nat.le_refl _) ?_
  intro l D c B p e s m args below meth cd H locs ls0 X P hL hnm hr hlk
  refine lv_aload_n X.1 X.2.1 dX7_init_0 rfl (hL.2.2 0 _ rfl) ?_
  refine zj_obj X zk_95 hL.1 (by decide) (by decide) dX7_init_1 zk_oi zk_oc ?_
  refine lv_aload_n X.1 X.2.1 dX7_init_4 rfl (hL.2.2 0 _ rfl) ?_
  refine lv_bipush (v := 7) X.1 X.2.1 dX7_init_5 (by decide) ?_
  refine zj_newI (N := 7) (n := a + 1) (pre ++ .inl (7, [.null, .null, .null, .null, .null, .null, .null, .null, .null, .int 0, .int 0, .int 0, .int 0, .int 0, .int 0]) :: [zq_i 7]) X P zk_39 (by decide) (by decide) (by decide) (zx_lenm ha (k := 0) rfl rfl) (zx_app _ _) (by decide) (by decide) dX7_init_7 (fun H P => ?_)
  refine zj_put (v := .ref (a + 1)) (a := a) (pre ++ .inl (7, [.null, .ref (a + 1), .null, .null, .null, .null, .null, .null, .null, .int 0, .int 0, .int 0, .int 0, .int 0, .int 0]) :: [zq_i 7]) X P zF_X7_9 rfl rfl hnm zw_97 (zx_mid ha) (show 1 < 15 by decide) (zx_setm ha) ⟨rfl, rfl⟩ dX7_init_9 (fun H locs P => ?_)
  refine lv_aload_n X.1 X.2.1 dX7_init_12 rfl (hL.2.2 0 _ rfl) ?_
  refine lv_bipush (v := 7) X.1 X.2.1 dX7_init_13 (by decide) ?_
  refine zj_newI (N := 7) (n := a + 2) (pre ++ .inl (7, [.null, .ref (a + 1), .null, .null, .null, .null, .null, .null, .null, .int 0, .int 0, .int 0, .int 0, .int 0, .int 0]) :: [zq_i 7, zq_i 7]) X P zk_39 (by decide) (by decide) (by decide) (zx_lenm ha (k := 1) rfl rfl) (zx_app _ _) (by decide) (by decide) dX7_init_15 (fun H P => ?_)
  refine zj_put (v := .ref (a + 2)) (a := a) (pre ++ .inl (7, [.null, .ref (a + 1), .ref (a + 2), .null, .null, .null, .null, .null, .null, .int 0, .int 0, .int 0, .int 0, .int 0, .int 0]) :: [zq_i 7, zq_i 7]) X P zF_X7_15 rfl rfl hnm zw_99 (zx_mid ha) (show 2 < 15 by decide) (zx_setm ha) ⟨rfl, rfl⟩ dX7_init_17 (fun H locs P => ?_)
  refine lv_aload_n X.1 X.2.1 dX7_init_20 rfl (hL.2.2 0 _ rfl) ?_
  refine lv_bipush (v := 7) X.1 X.2.1 dX7_init_21 (by decide) ?_
  refine zj_newI (N := 7) (n := a + 3) (pre ++ .inl (7, [.null, .ref (a + 1), .ref (a + 2), .null, .null, .null, .null, .null, .null, .int 0, .int 0, .int 0, .int 0, .int 0, .int 0]) :: [zq_i 7, zq_i 7, zq_i 7]) X P zk_39 (by decide) (by decide) (by decide) (zx_lenm ha (k := 2) rfl rfl) (zx_app _ _) (by decide) (by decide) dX7_init_23 (fun H P => ?_)
  refine zj_put (v := .ref (a + 3)) (a := a) (pre ++ .inl (7, [.null, .ref (a + 1), .ref (a + 2), .ref (a + 3), .null, .null, .null, .null, .null, .int 0, .int 0, .int 0, .int 0, .int 0, .int 0]) :: [zq_i 7, zq_i 7, zq_i 7]) X P zF_X7_18 rfl rfl hnm zw_101 (zx_mid ha) (show 3 < 15 by decide) (zx_setm ha) ⟨rfl, rfl⟩ dX7_init_25 (fun H locs P => ?_)
  refine lv_aload_n X.1 X.2.1 dX7_init_28 rfl (hL.2.2 0 _ rfl) ?_
  refine lv_bipush (v := 7) X.1 X.2.1 dX7_init_29 (by decide) ?_
  refine zj_newI (N := 7) (n := a + 4) (pre ++ .inl (7, [.null, .ref (a + 1), .ref (a + 2), .ref (a + 3), .null, .null, .null, .null, .null, .int 0, .int 0, .int 0, .int 0, .int 0, .int 0]) :: [zq_i 7, zq_i 7, zq_i 7, zq_i 7]) X P zk_39 (by decide) (by decide) (by decide) (zx_lenm ha (k := 3) rfl rfl) (zx_app _ _) (by decide) (by decide) dX7_init_31 (fun H P => ?_)
  refine zj_put (v := .ref (a + 4)) (a := a) (pre ++ .inl (7, [.null, .ref (a + 1), .ref (a + 2), .ref (a + 3), .ref (a + 4), .null, .null, .null, .null, .int 0, .int 0, .int 0, .int 0, .int 0, .int 0]) :: [zq_i 7, zq_i 7, zq_i 7, zq_i 7]) X P zF_X7_21 rfl rfl hnm zw_103 (zx_mid ha) (show 4 < 15 by decide) (zx_setm ha) ⟨rfl, rfl⟩ dX7_init_33 (fun H locs P => ?_)
  refine lv_aload_n X.1 X.2.1 dX7_init_36 rfl (hL.2.2 0 _ rfl) ?_
  refine lv_bipush (v := 7) X.1 X.2.1 dX7_init_37 (by decide) ?_
  refine zj_newI (N := 7) (n := a + 5) (pre ++ .inl (7, [.null, .ref (a + 1), .ref (a + 2), .ref (a + 3), .ref (a + 4), .null, .null, .null, .null, .int 0, .int 0, .int 0, .int 0, .int 0, .int 0]) :: [zq_i 7, zq_i 7, zq_i 7, zq_i 7, zq_i 7]) X P zk_39 (by decide) (by decide) (by decide) (zx_lenm ha (k := 4) rfl rfl) (zx_app _ _) (by decide) (by decide) dX7_init_39 (fun H P => ?_)
  refine zj_put (v := .ref (a + 5)) (a := a) (pre ++ .inl (7, [.null, .ref (a + 1), .ref (a + 2), .ref (a + 3), .ref (a + 4), .ref (a + 5), .null, .null, .null, .int 0, .int 0, .int 0, .int 0, .int 0, .int 0]) :: [zq_i 7, zq_i 7, zq_i 7, zq_i 7, zq_i 7]) X P zF_X7_24 rfl rfl hnm zw_105 (zx_mid ha) (show 5 < 15 by decide) (zx_setm ha) ⟨rfl, rfl⟩ dX7_init_41 (fun H locs P => ?_)
  refine lv_aload_n X.1 X.2.1 dX7_init_44 rfl (hL.2.2 0 _ rfl) ?_
  refine lv_bipush (v := 7) X.1 X.2.1 dX7_init_45 (by decide) ?_
  refine zj_newI (N := 7) (n := a + 6) (pre ++ .inl (7, [.null, .ref (a + 1), .ref (a + 2), .ref (a + 3), .ref (a + 4), .ref (a + 5), .null, .null, .null, .int 0, .int 0, .int 0, .int 0, .int 0, .int 0]) :: [zq_i 7, zq_i 7, zq_i 7, zq_i 7, zq_i 7, zq_i 7]) X P zk_39 (by decide) (by decide) (by decide) (zx_lenm ha (k := 5) rfl rfl) (zx_app _ _) (by decide) (by decide) dX7_init_47 (fun H P => ?_)
  refine zj_put (v := .ref (a + 6)) (a := a) (pre ++ .inl (7, [.null, .ref (a + 1), .ref (a + 2), .ref (a + 3), .ref (a + 4), .ref (a + 5), .ref (a + 6), .null, .null, .int 0, .int 0, .int 0, .int 0, .int 0, .int 0]) :: [zq_i 7, zq_i 7, zq_i 7, zq_i 7, zq_i 7, zq_i 7]) X P zF_X7_27 rfl rfl hnm zw_107 (zx_mid ha) (show 6 < 15 by decide) (zx_setm ha) ⟨rfl, rfl⟩ dX7_init_49 (fun H locs P => ?_)
  refine lv_aload_n X.1 X.2.1 dX7_init_52 rfl (hL.2.2 0 _ rfl) ?_
  refine lv_bipush (v := 7) X.1 X.2.1 dX7_init_53 (by decide) ?_
  refine zj_newI (N := 7) (n := a + 7) (pre ++ .inl (7, [.null, .ref (a + 1), .ref (a + 2), .ref (a + 3), .ref (a + 4), .ref (a + 5), .ref (a + 6), .null, .null, .int 0, .int 0, .int 0, .int 0, .int 0, .int 0]) :: [zq_i 7, zq_i 7, zq_i 7, zq_i 7, zq_i 7, zq_i 7, zq_i 7]) X P zk_39 (by decide) (by decide) (by decide) (zx_lenm ha (k := 6) rfl rfl) (zx_app _ _) (by decide) (by decide) dX7_init_55 (fun H P => ?_)
  refine zj_put (v := .ref (a + 7)) (a := a) (pre ++ .inl (7, [.null, .ref (a + 1), .ref (a + 2), .ref (a + 3), .ref (a + 4), .ref (a + 5), .ref (a + 6), .ref (a + 7), .null, .int 0, .int 0, .int 0, .int 0, .int 0, .int 0]) :: [zq_i 7, zq_i 7, zq_i 7, zq_i 7, zq_i 7, zq_i 7, zq_i 7]) X P zF_X7_30 rfl rfl hnm zw_109 (zx_mid ha) (show 7 < 15 by decide) (zx_setm ha) ⟨rfl, rfl⟩ dX7_init_57 (fun H locs P => ?_)
  refine lv_aload_n X.1 X.2.1 dX7_init_60 rfl (hL.2.2 0 _ rfl) ?_
  refine lv_bipush (v := 7) X.1 X.2.1 dX7_init_61 (by decide) ?_
  refine zj_newI (N := 7) (n := a + 8) (pre ++ .inl (7, [.null, .ref (a + 1), .ref (a + 2), .ref (a + 3), .ref (a + 4), .ref (a + 5), .ref (a + 6), .ref (a + 7), .null, .int 0, .int 0, .int 0, .int 0, .int 0, .int 0]) :: [zq_i 7, zq_i 7, zq_i 7, zq_i 7, zq_i 7, zq_i 7, zq_i 7, zq_i 7]) X P zk_39 (by decide) (by decide) (by decide) (zx_lenm ha (k := 7) rfl rfl) (zx_app _ _) (by decide) (by decide) dX7_init_63 (fun H P => ?_)
  refine zj_put (v := .ref (a + 8)) (a := a) (pre ++ .inl (7, [.null, .ref (a + 1), .ref (a + 2), .ref (a + 3), .ref (a + 4), .ref (a + 5), .ref (a + 6), .ref (a + 7), .ref (a + 8), .int 0, .int 0, .int 0, .int 0, .int 0, .int 0]) :: [zq_i 7, zq_i 7, zq_i 7, zq_i 7, zq_i 7, zq_i 7, zq_i 7, zq_i 7]) X P zF_X7_33 rfl rfl hnm zw_110 (zx_mid ha) (show 8 < 15 by decide) (zx_setm ha) ⟨rfl, rfl⟩ dX7_init_65 (fun H locs P => ?_)
  refine lv_aload_n X.1 X.2.1 dX7_init_68 rfl (hL.2.2 0 _ rfl) ?_
  refine lv_iconst (v := 1) X.1 X.2.1 dX7_init_69 (by decide) ?_
  refine zj_put (v := .int 1) (a := a) (pre ++ .inl (7, [.null, .ref (a + 1), .ref (a + 2), .ref (a + 3), .ref (a + 4), .ref (a + 5), .ref (a + 6), .ref (a + 7), .ref (a + 8), .int 0, .int 0, .int 1, .int 0, .int 0, .int 0]) :: [zq_i 7, zq_i 7, zq_i 7, zq_i 7, zq_i 7, zq_i 7, zq_i 7, zq_i 7]) X P zF_X7_36 rfl rfl hnm zw_115 (zx_mid ha) (show 11 < 15 by decide) (zx_setm ha) ⟨rfl, rfl⟩ dX7_init_70 (fun H locs P => ?_)
  refine lv_aload_n X.1 X.2.1 dX7_init_73 rfl (hL.2.2 0 _ rfl) ?_
  refine lv_bipush (v := 6) X.1 X.2.1 dX7_init_74 (by decide) ?_
  refine zj_put (v := .int 6) (a := a) (pre ++ .inl (7, [.null, .ref (a + 1), .ref (a + 2), .ref (a + 3), .ref (a + 4), .ref (a + 5), .ref (a + 6), .ref (a + 7), .ref (a + 8), .int 0, .int 0, .int 1, .int 6, .int 0, .int 0]) :: [zq_i 7, zq_i 7, zq_i 7, zq_i 7, zq_i 7, zq_i 7, zq_i 7, zq_i 7]) X P zF_X7_40 rfl rfl hnm zw_117 (zx_mid ha) (show 12 < 15 by decide) (zx_setm ha) ⟨rfl, rfl⟩ dX7_init_76 (fun H locs P => ?_)
  refine lv_aload_n X.1 X.2.1 dX7_init_79 rfl (hL.2.2 0 _ rfl) ?_
  refine lv_aload_n X.1 X.2.1 dX7_init_80 rfl (hL.2.2 1 _ rfl) ?_
  refine zj_put (v := .ref (7)) (a := a) (pre ++ .inl (7, [.ref (7), .ref (a + 1), .ref (a + 2), .ref (a + 3), .ref (a + 4), .ref (a + 5), .ref (a + 6), .ref (a + 7), .ref (a + 8), .int 0, .int 0, .int 1, .int 6, .int 0, .int 0]) :: [zq_i 7, zq_i 7, zq_i 7, zq_i 7, zq_i 7, zq_i 7, zq_i 7, zq_i 7]) X P zF_X7_43 rfl rfl hnm zw_96 (zx_mid ha) (show 0 < 15 by decide) (zx_setm ha) ⟨rfl, rfl⟩ dX7_init_81 (fun H locs P => ?_)
  exact zj_ret hr hlk X P rfl rfl dX7_init_84
abbrev zq_w8 (a : Nat) (pre : List zX) : List zX := pre ++ .inl (8, [.int 0, .int 0, .int 0, .int 0, .int 0, .ref (a + 1)]) :: [zq_i 100]
abbrev zq_n8 : zX := .inl (8, [.int 0, .int 0, .int 0, .int 0, .int 0, .null])
theorem zt_init8 {a : Nat} {pre : List zX} (ha : pre.length = a) : zi_Cn zI_8 (1, 100) [.ref a] (pre ++ [zq_n8]) (zq_w8 a pre) := by
  refine zi_body (by decide +kernel) rfl rfl (Nat.le_refl _) ?_
  intro l D c B p e s m args below meth cd H locs ls0 X P hL hnm hr hlk
  refine lv_aload_n X.1 X.2.1 dX8_init_0 rfl (hL.2.2 0 _ rfl) ?_
  refine zj_obj X zk_160 hL.1 (by decide) (by decide) dX8_init_1 zk_oi zk_oc ?_
  refine lv_aload_n X.1 X.2.1 dX8_init_4 rfl (hL.2.2 0 _ rfl) ?_
  refine lv_iconst (v := 0) X.1 X.2.1 dX8_init_5 (by decide) ?_
  refine zj_put (v := .int 0) (a := a) (pre ++ .inl (8, [.int 0, .int 0, .int 0, .int 0, .int 0, .null]) :: []) X P zF_X8_11 rfl rfl hnm zw_161 (zx_mid ha) (show 0 < 6 by decide) (zx_setm ha) ⟨rfl, rfl⟩ dX8_init_6 (fun H locs P => ?_)
  refine lv_aload_n X.1 X.2.1 dX8_init_9 rfl (hL.2.2 0 _ rfl) ?_
  refine lv_bipush (v := 100) X.1 X.2.1 dX8_init_10 (by decide) ?_
  refine zj_newI (N := 100) (n := a + 1) (pre ++ .inl (8, [.int 0, .int 0, .int 0, .int 0, .int 0, .null]) :: [zq_i 100]) X P zk_39 (by decide) (by decide) (by decide) (zx_lenm ha (k := 0) rfl rfl) (zx_app _ _) (by decide) (by decide) dX8_init_12 (fun H P => ?_)
  refine zj_put (v := .ref (a + 1)) (a := a) (pre ++ .inl (8, [.int 0, .int 0, .int 0, .int 0, .int 0, .ref (a + 1)]) :: [zq_i 100]) X P zF_X8_15 rfl rfl hnm zw_171 (zx_mid ha) (show 5 < 6 by decide) (zx_setm ha) ⟨rfl, rfl⟩ dX8_init_14 (fun H locs P => ?_)
  exact zj_ret hr hlk X P rfl rfl dX8_init_17
abbrev zq_w11 (a : Nat) (pre : List zX) : List zX := pre ++ .inl (11, [.int 0, .int 1, .int 6, .int 0, .ref (a + 1), .ref (a + 2), .ref (a + 3), .ref (a + 4), .ref (a + 5), .int 0, .int 0, .ref (a + 6), .ref (a + 7), .ref (a + 8), .ref (a + 9), .ref (a + 10), .ref (a + 11), .int 0, .int 0, .int 0, .int 0, .int 0, .ref (a + 12), .ref (a + 13), .ref (a + 14), .ref (a + 15), .ref (a + 16), .int 0, .int 0, .int 0, .null, .ref (a + 17), .ref (a + 18), .int 0, .ref (a + 19)]) :: [zq_i 7, zq_i 7, zq_i 7, zq_i 7, zq_i 7, zq_i 8, zq_i 8, zq_i 8, zq_i 8, zq_i 8, zq_l 800, zq_i 51, zq_i 51, zq_i 204, zq_i 41, zq_i 41, zq_i 1024, zq_i 8, zq_l 100]
abbrev zq_n11 : zX := .inl (11, [.int 0, .int 0, .int 0, .int 0, .null, .null, .null, .null, .null, .int 0, .int 0, .null, .null, .null, .null, .null, .null, .int 0, .int 0, .int 0, .int 0, .int 0, .null, .null, .null, .null, .null, .int 0, .int 0, .int 0, .null, .null, .null, .int 0, .null])
theorem zt_init11 {a : Nat} {pre : List zX} (ha : pre.length = a) : zi_Cn zI_11 (19, 2395) [.ref a] (pre ++ [zq_n11]) (zq_w11 a pre) := by
  refine zi_body (by decide +kernel) rfl rfl (Nat.le_refl _) ?_
  intro l D c B p e s m args below meth cd H locs ls0 X P hL hnm hr hlk
  refine lv_aload_n X.1 X.2.1 dX11_init_0 rfl (hL.2.2 0 _ rfl) ?_
  refine zj_obj X zk_951 hL.1 (by decide) (by decide) dX11_init_1 zk_oi zk_oc ?_
  refine lv_aload_n X.1 X.2.1 dX11_init_4 rfl (hL.2.2 0 _ rfl) ?_
  refine lv_bipush (v := 7) X.1 X.2.1 dX11_init_5 (by decide) ?_
  refine zj_newI (N := 7) (n := a + 1) (pre ++ .inl (11, [.int 0, .int 0, .int 0, .int 0, .null, .null, .null, .null, .null, .int 0, .int 0, .null, .null, .null, .null, .null, .null, .int 0, .int 0, .int 0, .int 0, .int 0, .null, .null, .null, .null, .null, .int 0, .int 0, .int 0, .null, .null, .null, .int 0, .null]) :: [zq_i 7]) X P zk_39 (by decide) (by decide) (by decide) (zx_lenm ha (k := 0) rfl rfl) (zx_app _ _) (by decide) (by decide) dX11_init_7 (fun H P => ?_)
  refine zj_put (v := .ref (a + 1)) (a := a) (pre ++ .inl (11, [.int 0, .int 0, .int 0, .int 0, .ref (a + 1), .null, .null, .null, .null, .int 0, .int 0, .null, .null, .null, .null, .null, .null, .int 0, .int 0, .int 0, .int 0, .int 0, .null, .null, .null, .null, .null, .int 0, .int 0, .int 0, .null, .null, .null, .int 0, .null]) :: [zq_i 7]) X P zF_X11_7 rfl rfl hnm zw_956 (zx_mid ha) (show 4 < 35 by decide) (zx_setm ha) ⟨rfl, rfl⟩ dX11_init_9 (fun H locs P => ?_)
  refine lv_aload_n X.1 X.2.1 dX11_init_12 rfl (hL.2.2 0 _ rfl) ?_
  refine lv_bipush (v := 7) X.1 X.2.1 dX11_init_13 (by decide) ?_
  refine zj_newI (N := 7) (n := a + 2) (pre ++ .inl (11, [.int 0, .int 0, .int 0, .int 0, .ref (a + 1), .null, .null, .null, .null, .int 0, .int 0, .null, .null, .null, .null, .null, .null, .int 0, .int 0, .int 0, .int 0, .int 0, .null, .null, .null, .null, .null, .int 0, .int 0, .int 0, .null, .null, .null, .int 0, .null]) :: [zq_i 7, zq_i 7]) X P zk_39 (by decide) (by decide) (by decide) (zx_lenm ha (k := 1) rfl rfl) (zx_app _ _) (by decide) (by decide) dX11_init_15 (fun H P => ?_)
  refine zj_put (v := .ref (a + 2)) (a := a) (pre ++ .inl (11, [.int 0, .int 0, .int 0, .int 0, .ref (a + 1), .ref (a + 2), .null, .null, .null, .int 0, .int 0, .null, .null, .null, .null, .null, .null, .int 0, .int 0, .int 0, .int 0, .int 0, .null, .null, .null, .null, .null, .int 0, .int 0, .int 0, .null, .null, .null, .int 0, .null]) :: [zq_i 7, zq_i 7]) X P zF_X11_13 rfl rfl hnm zw_957 (zx_mid ha) (show 5 < 35 by decide) (zx_setm ha) ⟨rfl, rfl⟩ dX11_init_17 (fun H locs P => ?_)
  refine lv_aload_n X.1 X.2.1 dX11_init_20 rfl (hL.2.2 0 _ rfl) ?_
  refine lv_bipush (v := 7) X.1 X.2.1 dX11_init_21 (by decide) ?_
  refine zj_newI (N := 7) (n := a + 3) (pre ++ .inl (11, [.int 0, .int 0, .int 0, .int 0, .ref (a + 1), .ref (a + 2), .null, .null, .null, .int 0, .int 0, .null, .null, .null, .null, .null, .null, .int 0, .int 0, .int 0, .int 0, .int 0, .null, .null, .null, .null, .null, .int 0, .int 0, .int 0, .null, .null, .null, .int 0, .null]) :: [zq_i 7, zq_i 7, zq_i 7]) X P zk_39 (by decide) (by decide) (by decide) (zx_lenm ha (k := 2) rfl rfl) (zx_app _ _) (by decide) (by decide) dX11_init_23 (fun H P => ?_)
  refine zj_put (v := .ref (a + 3)) (a := a) (pre ++ .inl (11, [.int 0, .int 0, .int 0, .int 0, .ref (a + 1), .ref (a + 2), .ref (a + 3), .null, .null, .int 0, .int 0, .null, .null, .null, .null, .null, .null, .int 0, .int 0, .int 0, .int 0, .int 0, .null, .null, .null, .null, .null, .int 0, .int 0, .int 0, .null, .null, .null, .int 0, .null]) :: [zq_i 7, zq_i 7, zq_i 7]) X P zF_X11_16 rfl rfl hnm zw_958 (zx_mid ha) (show 6 < 35 by decide) (zx_setm ha) ⟨rfl, rfl⟩ dX11_init_25 (fun H locs P => ?_)
  refine lv_aload_n X.1 X.2.1 dX11_init_28 rfl (hL.2.2 0 _ rfl) ?_
  refine lv_bipush (v := 7) X.1 X.2.1 dX11_init_29 (by decide) ?_
  refine zj_newI (N := 7) (n := a + 4) (pre ++ .inl (11, [.int 0, .int 0, .int 0, .int 0, .ref (a + 1), .ref (a + 2), .ref (a + 3), .null, .null, .int 0, .int 0, .null, .null, .null, .null, .null, .null, .int 0, .int 0, .int 0, .int 0, .int 0, .null, .null, .null, .null, .null, .int 0, .int 0, .int 0, .null, .null, .null, .int 0, .null]) :: [zq_i 7, zq_i 7, zq_i 7, zq_i 7]) X P zk_39 (by decide) (by decide) (by decide) (zx_lenm ha (k := 3) rfl rfl) (zx_app _ _) (by decide) (by decide) dX11_init_31 (fun H P => ?_)
  refine zj_put (v := .ref (a + 4)) (a := a) (pre ++ .inl (11, [.int 0, .int 0, .int 0, .int 0, .ref (a + 1), .ref (a + 2), .ref (a + 3), .ref (a + 4), .null, .int 0, .int 0, .null, .null, .null, .null, .null, .null, .int 0, .int 0, .int 0, .int 0, .int 0, .null, .null, .null, .null, .null, .int 0, .int 0, .int 0, .null, .null, .null, .int 0, .null]) :: [zq_i 7, zq_i 7, zq_i 7, zq_i 7]) X P zF_X11_19 rfl rfl hnm zw_959 (zx_mid ha) (show 7 < 35 by decide) (zx_setm ha) ⟨rfl, rfl⟩ dX11_init_33 (fun H locs P => ?_)
  refine lv_aload_n X.1 X.2.1 dX11_init_36 rfl (hL.2.2 0 _ rfl) ?_
  refine lv_bipush (v := 7) X.1 X.2.1 dX11_init_37 (by decide) ?_
  refine zj_newI (N := 7) (n := a + 5) (pre ++ .inl (11, [.int 0, .int 0, .int 0, .int 0, .ref (a + 1), .ref (a + 2), .ref (a + 3), .ref (a + 4), .null, .int 0, .int 0, .null, .null, .null, .null, .null, .null, .int 0, .int 0, .int 0, .int 0, .int 0, .null, .null, .null, .null, .null, .int 0, .int 0, .int 0, .null, .null, .null, .int 0, .null]) :: [zq_i 7, zq_i 7, zq_i 7, zq_i 7, zq_i 7]) X P zk_39 (by decide) (by decide) (by decide) (zx_lenm ha (k := 4) rfl rfl) (zx_app _ _) (by decide) (by decide) dX11_init_39 (fun H P => ?_)
  refine zj_put (v := .ref (a + 5)) (a := a) (pre ++ .inl (11, [.int 0, .int 0, .int 0, .int 0, .ref (a + 1), .ref (a + 2), .ref (a + 3), .ref (a + 4), .ref (a + 5), .int 0, .int 0, .null, .null, .null, .null, .null, .null, .int 0, .int 0, .int 0, .int 0, .int 0, .null, .null, .null, .null, .null, .int 0, .int 0, .int 0, .null, .null, .null, .int 0, .null]) :: [zq_i 7, zq_i 7, zq_i 7, zq_i 7, zq_i 7]) X P zF_X11_22 rfl rfl hnm zw_960 (zx_mid ha) (show 8 < 35 by decide) (zx_setm ha) ⟨rfl, rfl⟩ dX11_init_41 (fun H locs P => ?_)
  refine lv_aload_n X.1 X.2.1 dX11_init_44 rfl (hL.2.2 0 _ rfl) ?_
  refine lv_bipush (v := 8) X.1 X.2.1 dX11_init_45 (by decide) ?_
  refine zj_newI (N := 8) (n := a + 6) (pre ++ .inl (11, [.int 0, .int 0, .int 0, .int 0, .ref (a + 1), .ref (a + 2), .ref (a + 3), .ref (a + 4), .ref (a + 5), .int 0, .int 0, .null, .null, .null, .null, .null, .null, .int 0, .int 0, .int 0, .int 0, .int 0, .null, .null, .null, .null, .null, .int 0, .int 0, .int 0, .null, .null, .null, .int 0, .null]) :: [zq_i 7, zq_i 7, zq_i 7, zq_i 7, zq_i 7, zq_i 8]) X P zk_39 (by decide) (by decide) (by decide) (zx_lenm ha (k := 5) rfl rfl) (zx_app _ _) (by decide) (by decide) dX11_init_47 (fun H P => ?_)
  refine zj_put (v := .ref (a + 6)) (a := a) (pre ++ .inl (11, [.int 0, .int 0, .int 0, .int 0, .ref (a + 1), .ref (a + 2), .ref (a + 3), .ref (a + 4), .ref (a + 5), .int 0, .int 0, .ref (a + 6), .null, .null, .null, .null, .null, .int 0, .int 0, .int 0, .int 0, .int 0, .null, .null, .null, .null, .null, .int 0, .int 0, .int 0, .null, .null, .null, .int 0, .null]) :: [zq_i 7, zq_i 7, zq_i 7, zq_i 7, zq_i 7, zq_i 8]) X P zF_X11_25 rfl rfl hnm zw_963 (zx_mid ha) (show 11 < 35 by decide) (zx_setm ha) ⟨rfl, rfl⟩ dX11_init_49 (fun H locs P => ?_)
  refine lv_aload_n X.1 X.2.1 dX11_init_52 rfl (hL.2.2 0 _ rfl) ?_
  refine lv_bipush (v := 8) X.1 X.2.1 dX11_init_53 (by decide) ?_
  refine zj_newI (N := 8) (n := a + 7) (pre ++ .inl (11, [.int 0, .int 0, .int 0, .int 0, .ref (a + 1), .ref (a + 2), .ref (a + 3), .ref (a + 4), .ref (a + 5), .int 0, .int 0, .ref (a + 6), .null, .null, .null, .null, .null, .int 0, .int 0, .int 0, .int 0, .int 0, .null, .null, .null, .null, .null, .int 0, .int 0, .int 0, .null, .null, .null, .int 0, .null]) :: [zq_i 7, zq_i 7, zq_i 7, zq_i 7, zq_i 7, zq_i 8, zq_i 8]) X P zk_39 (by decide) (by decide) (by decide) (zx_lenm ha (k := 6) rfl rfl) (zx_app _ _) (by decide) (by decide) dX11_init_55 (fun H P => ?_)
  refine zj_put (v := .ref (a + 7)) (a := a) (pre ++ .inl (11, [.int 0, .int 0, .int 0, .int 0, .ref (a + 1), .ref (a + 2), .ref (a + 3), .ref (a + 4), .ref (a + 5), .int 0, .int 0, .ref (a + 6), .ref (a + 7), .null, .null, .null, .null, .int 0, .int 0, .int 0, .int 0, .int 0, .null, .null, .null, .null, .null, .int 0, .int 0, .int 0, .null, .null, .null, .int 0, .null]) :: [zq_i 7, zq_i 7, zq_i 7, zq_i 7, zq_i 7, zq_i 8, zq_i 8]) X P zF_X11_28 rfl rfl hnm zw_964 (zx_mid ha) (show 12 < 35 by decide) (zx_setm ha) ⟨rfl, rfl⟩ dX11_init_57 (fun H locs P => ?_)
  refine lv_aload_n X.1 X.2.1 dX11_init_60 rfl (hL.2.2 0 _ rfl) ?_
  refine lv_bipush (v := 8) X.1 X.2.1 dX11_init_61 (by decide) ?_
  refine zj_newI (N := 8) (n := a + 8) (pre ++ .inl (11, [.int 0, .int 0, .int 0, .int 0, .ref (a + 1), .ref (a + 2), .ref (a + 3), .ref (a + 4), .ref (a + 5), .int 0, .int 0, .ref (a + 6), .ref (a + 7), .null, .null, .null, .null, .int 0, .int 0, .int 0, .int 0, .int 0, .null, .null, .null, .null, .null, .int 0, .int 0, .int 0, .null, .null, .null, .int 0, .null]) :: [zq_i 7, zq_i 7, zq_i 7, zq_i 7, zq_i 7, zq_i 8, zq_i 8, zq_i 8]) X P zk_39 (by decide) (by decide) (by decide) (zx_lenm ha (k := 7) rfl rfl) (zx_app _ _) (by decide) (by decide) dX11_init_63 (fun H P => ?_)
  refine zj_put (v := .ref (a + 8)) (a := a) (pre ++ .inl (11, [.int 0, .int 0, .int 0, .int 0, .ref (a + 1), .ref (a + 2), .ref (a + 3), .ref (a + 4), .ref (a + 5), .int 0, .int 0, .ref (a + 6), .ref (a + 7), .ref (a + 8), .null, .null, .null, .int 0, .int 0, .int 0, .int 0, .int 0, .null, .null, .null, .null, .null, .int 0, .int 0, .int 0, .null, .null, .null, .int 0, .null]) :: [zq_i 7, zq_i 7, zq_i 7, zq_i 7, zq_i 7, zq_i 8, zq_i 8, zq_i 8]) X P zF_X11_31 rfl rfl hnm zw_965 (zx_mid ha) (show 13 < 35 by decide) (zx_setm ha) ⟨rfl, rfl⟩ dX11_init_65 (fun H locs P => ?_)
  refine lv_aload_n X.1 X.2.1 dX11_init_68 rfl (hL.2.2 0 _ rfl) ?_
  refine lv_bipush (v := 8) X.1 X.2.1 dX11_init_69 (by decide) ?_
  refine zj_newI (N := 8) (n := a + 9) (pre ++ .inl (11, [.int 0, .int 0, .int 0, .int 0, .ref (a + 1), .ref (a + 2), .ref (a + 3), .ref (a + 4), .ref (a + 5), .int 0, .int 0, .ref (a + 6), .ref (a + 7), .ref (a + 8), .null, .null, .null, .int 0, .int 0, .int 0, .int 0, .int 0, .null, .null, .null, .null, .null, .int 0, .int 0, .int 0, .null, .null, .null, .int 0, .null]) :: [zq_i 7, zq_i 7, zq_i 7, zq_i 7, zq_i 7, zq_i 8, zq_i 8, zq_i 8, zq_i 8]) X P zk_39 (by decide) (by decide) (by decide) (zx_lenm ha (k := 8) rfl rfl) (zx_app _ _) (by decide) (by decide) dX11_init_71 (fun H P => ?_)
  refine zj_put (v := .ref (a + 9)) (a := a) (pre ++ .inl (11, [.int 0, .int 0, .int 0, .int 0, .ref (a + 1), .ref (a + 2), .ref (a + 3), .ref (a + 4), .ref (a + 5), .int 0, .int 0, .ref (a + 6), .ref (a + 7), .ref (a + 8), .ref (a + 9), .null, .null, .int 0, .int 0, .int 0, .int 0, .int 0, .null, .null, .null, .null, .null, .int 0, .int 0, .int 0, .null, .null, .null, .int 0, .null]) :: [zq_i 7, zq_i 7, zq_i 7, zq_i 7, zq_i 7, zq_i 8, zq_i 8, zq_i 8, zq_i 8]) X P zF_X11_34 rfl rfl hnm zw_966 (zx_mid ha) (show 14 < 35 by decide) (zx_setm ha) ⟨rfl, rfl⟩ dX11_init_73 (fun H locs P => ?_)
  refine lv_aload_n X.1 X.2.1 dX11_init_76 rfl (hL.2.2 0 _ rfl) ?_
  refine lv_bipush (v := 8) X.1 X.2.1 dX11_init_77 (by decide) ?_
  refine zj_newI (N := 8) (n := a + 10) (pre ++ .inl (11, [.int 0, .int 0, .int 0, .int 0, .ref (a + 1), .ref (a + 2), .ref (a + 3), .ref (a + 4), .ref (a + 5), .int 0, .int 0, .ref (a + 6), .ref (a + 7), .ref (a + 8), .ref (a + 9), .null, .null, .int 0, .int 0, .int 0, .int 0, .int 0, .null, .null, .null, .null, .null, .int 0, .int 0, .int 0, .null, .null, .null, .int 0, .null]) :: [zq_i 7, zq_i 7, zq_i 7, zq_i 7, zq_i 7, zq_i 8, zq_i 8, zq_i 8, zq_i 8, zq_i 8]) X P zk_39 (by decide) (by decide) (by decide) (zx_lenm ha (k := 9) rfl rfl) (zx_app _ _) (by decide) (by decide) dX11_init_79 (fun H P => ?_)
  refine zj_put (v := .ref (a + 10)) (a := a) (pre ++ .inl (11, [.int 0, .int 0, .int 0, .int 0, .ref (a + 1), .ref (a + 2), .ref (a + 3), .ref (a + 4), .ref (a + 5), .int 0, .int 0, .ref (a + 6), .ref (a + 7), .ref (a + 8), .ref (a + 9), .ref (a + 10), .null, .int 0, .int 0, .int 0, .int 0, .int 0, .null, .null, .null, .null, .null, .int 0, .int 0, .int 0, .null, .null, .null, .int 0, .null]) :: [zq_i 7, zq_i 7, zq_i 7, zq_i 7, zq_i 7, zq_i 8, zq_i 8, zq_i 8, zq_i 8, zq_i 8]) X P zF_X11_37 rfl rfl hnm zw_967 (zx_mid ha) (show 15 < 35 by decide) (zx_setm ha) ⟨rfl, rfl⟩ dX11_init_81 (fun H locs P => ?_)
  refine lv_aload_n X.1 X.2.1 dX11_init_84 rfl (hL.2.2 0 _ rfl) ?_
  refine lv_sipush (v := 800) X.1 X.2.1 dX11_init_85 (by decide) ?_
  refine zj_newL (N := 800) (n := a + 11) (pre ++ .inl (11, [.int 0, .int 0, .int 0, .int 0, .ref (a + 1), .ref (a + 2), .ref (a + 3), .ref (a + 4), .ref (a + 5), .int 0, .int 0, .ref (a + 6), .ref (a + 7), .ref (a + 8), .ref (a + 9), .ref (a + 10), .null, .int 0, .int 0, .int 0, .int 0, .int 0, .null, .null, .null, .null, .null, .int 0, .int 0, .int 0, .null, .null, .null, .int 0, .null]) :: [zq_i 7, zq_i 7, zq_i 7, zq_i 7, zq_i 7, zq_i 8, zq_i 8, zq_i 8, zq_i 8, zq_i 8, zq_l 800]) X P zk_40 (by decide) (by decide) (by decide) (zx_lenm ha (k := 10) rfl rfl) (zx_app _ _) (by decide) (by decide) dX11_init_88 (fun H P => ?_)
  refine zj_put (v := .ref (a + 11)) (a := a) (pre ++ .inl (11, [.int 0, .int 0, .int 0, .int 0, .ref (a + 1), .ref (a + 2), .ref (a + 3), .ref (a + 4), .ref (a + 5), .int 0, .int 0, .ref (a + 6), .ref (a + 7), .ref (a + 8), .ref (a + 9), .ref (a + 10), .ref (a + 11), .int 0, .int 0, .int 0, .int 0, .int 0, .null, .null, .null, .null, .null, .int 0, .int 0, .int 0, .null, .null, .null, .int 0, .null]) :: [zq_i 7, zq_i 7, zq_i 7, zq_i 7, zq_i 7, zq_i 8, zq_i 8, zq_i 8, zq_i 8, zq_i 8, zq_l 800]) X P zF_X11_40 rfl rfl hnm zw_968 (zx_mid ha) (show 16 < 35 by decide) (zx_setm ha) ⟨rfl, rfl⟩ dX11_init_90 (fun H locs P => ?_)
  refine lv_aload_n X.1 X.2.1 dX11_init_93 rfl (hL.2.2 0 _ rfl) ?_
  refine lv_bipush (v := 51) X.1 X.2.1 dX11_init_94 (by decide) ?_
  refine zj_newI (N := 51) (n := a + 12) (pre ++ .inl (11, [.int 0, .int 0, .int 0, .int 0, .ref (a + 1), .ref (a + 2), .ref (a + 3), .ref (a + 4), .ref (a + 5), .int 0, .int 0, .ref (a + 6), .ref (a + 7), .ref (a + 8), .ref (a + 9), .ref (a + 10), .ref (a + 11), .int 0, .int 0, .int 0, .int 0, .int 0, .null, .null, .null, .null, .null, .int 0, .int 0, .int 0, .null, .null, .null, .int 0, .null]) :: [zq_i 7, zq_i 7, zq_i 7, zq_i 7, zq_i 7, zq_i 8, zq_i 8, zq_i 8, zq_i 8, zq_i 8, zq_l 800, zq_i 51]) X P zk_39 (by decide) (by decide) (by decide) (zx_lenm ha (k := 11) rfl rfl) (zx_app _ _) (by decide) (by decide) dX11_init_96 (fun H P => ?_)
  refine zj_put (v := .ref (a + 12)) (a := a) (pre ++ .inl (11, [.int 0, .int 0, .int 0, .int 0, .ref (a + 1), .ref (a + 2), .ref (a + 3), .ref (a + 4), .ref (a + 5), .int 0, .int 0, .ref (a + 6), .ref (a + 7), .ref (a + 8), .ref (a + 9), .ref (a + 10), .ref (a + 11), .int 0, .int 0, .int 0, .int 0, .int 0, .ref (a + 12), .null, .null, .null, .null, .int 0, .int 0, .int 0, .null, .null, .null, .int 0, .null]) :: [zq_i 7, zq_i 7, zq_i 7, zq_i 7, zq_i 7, zq_i 8, zq_i 8, zq_i 8, zq_i 8, zq_i 8, zq_l 800, zq_i 51]) X P zF_X11_44 rfl rfl hnm zw_974 (zx_mid ha) (show 22 < 35 by decide) (zx_setm ha) ⟨rfl, rfl⟩ dX11_init_98 (fun H locs P => ?_)
  refine lv_aload_n X.1 X.2.1 dX11_init_101 rfl (hL.2.2 0 _ rfl) ?_
  refine lv_bipush (v := 51) X.1 X.2.1 dX11_init_102 (by decide) ?_
  refine zj_newI (N := 51) (n := a + 13) (pre ++ .inl (11, [.int 0, .int 0, .int 0, .int 0, .ref (a + 1), .ref (a + 2), .ref (a + 3), .ref (a + 4), .ref (a + 5), .int 0, .int 0, .ref (a + 6), .ref (a + 7), .ref (a + 8), .ref (a + 9), .ref (a + 10), .ref (a + 11), .int 0, .int 0, .int 0, .int 0, .int 0, .ref (a + 12), .null, .null, .null, .null, .int 0, .int 0, .int 0, .null, .null, .null, .int 0, .null]) :: [zq_i 7, zq_i 7, zq_i 7, zq_i 7, zq_i 7, zq_i 8, zq_i 8, zq_i 8, zq_i 8, zq_i 8, zq_l 800, zq_i 51, zq_i 51]) X P zk_39 (by decide) (by decide) (by decide) (zx_lenm ha (k := 12) rfl rfl) (zx_app _ _) (by decide) (by decide) dX11_init_104 (fun H P => ?_)
  refine zj_put (v := .ref (a + 13)) (a := a) (pre ++ .inl (11, [.int 0, .int 0, .int 0, .int 0, .ref (a + 1), .ref (a + 2), .ref (a + 3), .ref (a + 4), .ref (a + 5), .int 0, .int 0, .ref (a + 6), .ref (a + 7), .ref (a + 8), .ref (a + 9), .ref (a + 10), .ref (a + 11), .int 0, .int 0, .int 0, .int 0, .int 0, .ref (a + 12), .ref (a + 13), .null, .null, .null, .int 0, .int 0, .int 0, .null, .null, .null, .int 0, .null]) :: [zq_i 7, zq_i 7, zq_i 7, zq_i 7, zq_i 7, zq_i 8, zq_i 8, zq_i 8, zq_i 8, zq_i 8, zq_l 800, zq_i 51, zq_i 51]) X P zF_X11_47 rfl rfl hnm zw_975 (zx_mid ha) (show 23 < 35 by decide) (zx_setm ha) ⟨rfl, rfl⟩ dX11_init_106 (fun H locs P => ?_)
  refine lv_aload_n X.1 X.2.1 dX11_init_109 rfl (hL.2.2 0 _ rfl) ?_
  refine lv_sipush (v := 204) X.1 X.2.1 dX11_init_110 (by decide) ?_
  refine zj_newI (N := 204) (n := a + 14) (pre ++ .inl (11, [.int 0, .int 0, .int 0, .int 0, .ref (a + 1), .ref (a + 2), .ref (a + 3), .ref (a + 4), .ref (a + 5), .int 0, .int 0, .ref (a + 6), .ref (a + 7), .ref (a + 8), .ref (a + 9), .ref (a + 10), .ref (a + 11), .int 0, .int 0, .int 0, .int 0, .int 0, .ref (a + 12), .ref (a + 13), .null, .null, .null, .int 0, .int 0, .int 0, .null, .null, .null, .int 0, .null]) :: [zq_i 7, zq_i 7, zq_i 7, zq_i 7, zq_i 7, zq_i 8, zq_i 8, zq_i 8, zq_i 8, zq_i 8, zq_l 800, zq_i 51, zq_i 51, zq_i 204]) X P zk_39 (by decide) (by decide) (by decide) (zx_lenm ha (k := 13) rfl rfl) (zx_app _ _) (by decide) (by decide) dX11_init_113 (fun H P => ?_)
  refine zj_put (v := .ref (a + 14)) (a := a) (pre ++ .inl (11, [.int 0, .int 0, .int 0, .int 0, .ref (a + 1), .ref (a + 2), .ref (a + 3), .ref (a + 4), .ref (a + 5), .int 0, .int 0, .ref (a + 6), .ref (a + 7), .ref (a + 8), .ref (a + 9), .ref (a + 10), .ref (a + 11), .int 0, .int 0, .int 0, .int 0, .int 0, .ref (a + 12), .ref (a + 13), .ref (a + 14), .null, .null, .int 0, .int 0, .int 0, .null, .null, .null, .int 0, .null]) :: [zq_i 7, zq_i 7, zq_i 7, zq_i 7, zq_i 7, zq_i 8, zq_i 8, zq_i 8, zq_i 8, zq_i 8, zq_l 800, zq_i 51, zq_i 51, zq_i 204]) X P zF_X11_50 rfl rfl hnm zw_976 (zx_mid ha) (show 24 < 35 by decide) (zx_setm ha) ⟨rfl, rfl⟩ dX11_init_115 (fun H locs P => ?_)
  refine lv_aload_n X.1 X.2.1 dX11_init_118 rfl (hL.2.2 0 _ rfl) ?_
  refine lv_bipush (v := 41) X.1 X.2.1 dX11_init_119 (by decide) ?_
  refine zj_newI (N := 41) (n := a + 15) (pre ++ .inl (11, [.int 0, .int 0, .int 0, .int 0, .ref (a + 1), .ref (a + 2), .ref (a + 3), .ref (a + 4), .ref (a + 5), .int 0, .int 0, .ref (a + 6), .ref (a + 7), .ref (a + 8), .ref (a + 9), .ref (a + 10), .ref (a + 11), .int 0, .int 0, .int 0, .int 0, .int 0, .ref (a + 12), .ref (a + 13), .ref (a + 14), .null, .null, .int 0, .int 0, .int 0, .null, .null, .null, .int 0, .null]) :: [zq_i 7, zq_i 7, zq_i 7, zq_i 7, zq_i 7, zq_i 8, zq_i 8, zq_i 8, zq_i 8, zq_i 8, zq_l 800, zq_i 51, zq_i 51, zq_i 204, zq_i 41]) X P zk_39 (by decide) (by decide) (by decide) (zx_lenm ha (k := 14) rfl rfl) (zx_app _ _) (by decide) (by decide) dX11_init_121 (fun H P => ?_)
  refine zj_put (v := .ref (a + 15)) (a := a) (pre ++ .inl (11, [.int 0, .int 0, .int 0, .int 0, .ref (a + 1), .ref (a + 2), .ref (a + 3), .ref (a + 4), .ref (a + 5), .int 0, .int 0, .ref (a + 6), .ref (a + 7), .ref (a + 8), .ref (a + 9), .ref (a + 10), .ref (a + 11), .int 0, .int 0, .int 0, .int 0, .int 0, .ref (a + 12), .ref (a + 13), .ref (a + 14), .ref (a + 15), .null, .int 0, .int 0, .int 0, .null, .null, .null, .int 0, .null]) :: [zq_i 7, zq_i 7, zq_i 7, zq_i 7, zq_i 7, zq_i 8, zq_i 8, zq_i 8, zq_i 8, zq_i 8, zq_l 800, zq_i 51, zq_i 51, zq_i 204, zq_i 41]) X P zF_X11_53 rfl rfl hnm zw_977 (zx_mid ha) (show 25 < 35 by decide) (zx_setm ha) ⟨rfl, rfl⟩ dX11_init_123 (fun H locs P => ?_)
  refine lv_aload_n X.1 X.2.1 dX11_init_126 rfl (hL.2.2 0 _ rfl) ?_
  refine lv_bipush (v := 41) X.1 X.2.1 dX11_init_127 (by decide) ?_
  refine zj_newI (N := 41) (n := a + 16) (pre ++ .inl (11, [.int 0, .int 0, .int 0, .int 0, .ref (a + 1), .ref (a + 2), .ref (a + 3), .ref (a + 4), .ref (a + 5), .int 0, .int 0, .ref (a + 6), .ref (a + 7), .ref (a + 8), .ref (a + 9), .ref (a + 10), .ref (a + 11), .int 0, .int 0, .int 0, .int 0, .int 0, .ref (a + 12), .ref (a + 13), .ref (a + 14), .ref (a + 15), .null, .int 0, .int 0, .int 0, .null, .null, .null, .int 0, .null]) :: [zq_i 7, zq_i 7, zq_i 7, zq_i 7, zq_i 7, zq_i 8, zq_i 8, zq_i 8, zq_i 8, zq_i 8, zq_l 800, zq_i 51, zq_i 51, zq_i 204, zq_i 41, zq_i 41]) X P zk_39 (by decide) (by decide) (by decide) (zx_lenm ha (k := 15) rfl rfl) (zx_app _ _) (by decide) (by decide) dX11_init_129 (fun H P => ?_)
  refine zj_put (v := .ref (a + 16)) (a := a) (pre ++ .inl (11, [.int 0, .int 0, .int 0, .int 0, .ref (a + 1), .ref (a + 2), .ref (a + 3), .ref (a + 4), .ref (a + 5), .int 0, .int 0, .ref (a + 6), .ref (a + 7), .ref (a + 8), .ref (a + 9), .ref (a + 10), .ref (a + 11), .int 0, .int 0, .int 0, .int 0, .int 0, .ref (a + 12), .ref (a + 13), .ref (a + 14), .ref (a + 15), .ref (a + 16), .int 0, .int 0, .int 0, .null, .null, .null, .int 0, .null]) :: [zq_i 7, zq_i 7, zq_i 7, zq_i 7, zq_i 7, zq_i 8, zq_i 8, zq_i 8, zq_i 8, zq_i 8, zq_l 800, zq_i 51, zq_i 51, zq_i 204, zq_i 41, zq_i 41]) X P zF_X11_56 rfl rfl hnm zw_978 (zx_mid ha) (show 26 < 35 by decide) (zx_setm ha) ⟨rfl, rfl⟩ dX11_init_131 (fun H locs P => ?_)
  refine lv_aload_n X.1 X.2.1 dX11_init_134 rfl (hL.2.2 0 _ rfl) ?_
  refine lv_sipush (v := 1024) X.1 X.2.1 dX11_init_135 (by decide) ?_
  refine zj_newI (N := 1024) (n := a + 17) (pre ++ .inl (11, [.int 0, .int 0, .int 0, .int 0, .ref (a + 1), .ref (a + 2), .ref (a + 3), .ref (a + 4), .ref (a + 5), .int 0, .int 0, .ref (a + 6), .ref (a + 7), .ref (a + 8), .ref (a + 9), .ref (a + 10), .ref (a + 11), .int 0, .int 0, .int 0, .int 0, .int 0, .ref (a + 12), .ref (a + 13), .ref (a + 14), .ref (a + 15), .ref (a + 16), .int 0, .int 0, .int 0, .null, .null, .null, .int 0, .null]) :: [zq_i 7, zq_i 7, zq_i 7, zq_i 7, zq_i 7, zq_i 8, zq_i 8, zq_i 8, zq_i 8, zq_i 8, zq_l 800, zq_i 51, zq_i 51, zq_i 204, zq_i 41, zq_i 41, zq_i 1024]) X P zk_39 (by decide) (by decide) (by decide) (zx_lenm ha (k := 16) rfl rfl) (zx_app _ _) (by decide) (by decide) dX11_init_138 (fun H P => ?_)
  refine zj_put (v := .ref (a + 17)) (a := a) (pre ++ .inl (11, [.int 0, .int 0, .int 0, .int 0, .ref (a + 1), .ref (a + 2), .ref (a + 3), .ref (a + 4), .ref (a + 5), .int 0, .int 0, .ref (a + 6), .ref (a + 7), .ref (a + 8), .ref (a + 9), .ref (a + 10), .ref (a + 11), .int 0, .int 0, .int 0, .int 0, .int 0, .ref (a + 12), .ref (a + 13), .ref (a + 14), .ref (a + 15), .ref (a + 16), .int 0, .int 0, .int 0, .null, .ref (a + 17), .null, .int 0, .null]) :: [zq_i 7, zq_i 7, zq_i 7, zq_i 7, zq_i 7, zq_i 8, zq_i 8, zq_i 8, zq_i 8, zq_i 8, zq_l 800, zq_i 51, zq_i 51, zq_i 204, zq_i 41, zq_i 41, zq_i 1024]) X P zF_X11_59 rfl rfl hnm zw_983 (zx_mid ha) (show 31 < 35 by decide) (zx_setm ha) ⟨rfl, rfl⟩ dX11_init_140 (fun H locs P => ?_)
  refine lv_aload_n X.1 X.2.1 dX11_init_143 rfl (hL.2.2 0 _ rfl) ?_
  refine lv_bipush (v := 8) X.1 X.2.1 dX11_init_144 (by decide) ?_
  refine zj_newI (N := 8) (n := a + 18) (pre ++ .inl (11, [.int 0, .int 0, .int 0, .int 0, .ref (a + 1), .ref (a + 2), .ref (a + 3), .ref (a + 4), .ref (a + 5), .int 0, .int 0, .ref (a + 6), .ref (a + 7), .ref (a + 8), .ref (a + 9), .ref (a + 10), .ref (a + 11), .int 0, .int 0, .int 0, .int 0, .int 0, .ref (a + 12), .ref (a + 13), .ref (a + 14), .ref (a + 15), .ref (a + 16), .int 0, .int 0, .int 0, .null, .ref (a + 17), .null, .int 0, .null]) :: [zq_i 7, zq_i 7, zq_i 7, zq_i 7, zq_i 7, zq_i 8, zq_i 8, zq_i 8, zq_i 8, zq_i 8, zq_l 800, zq_i 51, zq_i 51, zq_i 204, zq_i 41, zq_i 41, zq_i 1024, zq_i 8]) X P zk_39 (by decide) (by decide) (by decide) (zx_lenm ha (k := 17) rfl rfl) (zx_app _ _) (by decide) (by decide) dX11_init_146 (fun H P => ?_)
  refine zj_put (v := .ref (a + 18)) (a := a) (pre ++ .inl (11, [.int 0, .int 0, .int 0, .int 0, .ref (a + 1), .ref (a + 2), .ref (a + 3), .ref (a + 4), .ref (a + 5), .int 0, .int 0, .ref (a + 6), .ref (a + 7), .ref (a + 8), .ref (a + 9), .ref (a + 10), .ref (a + 11), .int 0, .int 0, .int 0, .int 0, .int 0, .ref (a + 12), .ref (a + 13), .ref (a + 14), .ref (a + 15), .ref (a + 16), .int 0, .int 0, .int 0, .null, .ref (a + 17), .ref (a + 18), .int 0, .null]) :: [zq_i 7, zq_i 7, zq_i 7, zq_i 7, zq_i 7, zq_i 8, zq_i 8, zq_i 8, zq_i 8, zq_i 8, zq_l 800, zq_i 51, zq_i 51, zq_i 204, zq_i 41, zq_i 41, zq_i 1024, zq_i 8]) X P zF_X11_62 rfl rfl hnm zw_984 (zx_mid ha) (show 32 < 35 by decide) (zx_setm ha) ⟨rfl, rfl⟩ dX11_init_148 (fun H locs P => ?_)
  refine lv_aload_n X.1 X.2.1 dX11_init_151 rfl (hL.2.2 0 _ rfl) ?_
  refine lv_bipush (v := 100) X.1 X.2.1 dX11_init_152 (by decide) ?_
  refine zj_newL (N := 100) (n := a + 19) (pre ++ .inl (11, [.int 0, .int 0, .int 0, .int 0, .ref (a + 1), .ref (a + 2), .ref (a + 3), .ref (a + 4), .ref (a + 5), .int 0, .int 0, .ref (a + 6), .ref (a + 7), .ref (a + 8), .ref (a + 9), .ref (a + 10), .ref (a + 11), .int 0, .int 0, .int 0, .int 0, .int 0, .ref (a + 12), .ref (a + 13), .ref (a + 14), .ref (a + 15), .ref (a + 16), .int 0, .int 0, .int 0, .null, .ref (a + 17), .ref (a + 18), .int 0, .null]) :: [zq_i 7, zq_i 7, zq_i 7, zq_i 7, zq_i 7, zq_i 8, zq_i 8, zq_i 8, zq_i 8, zq_i 8, zq_l 800, zq_i 51, zq_i 51, zq_i 204, zq_i 41, zq_i 41, zq_i 1024, zq_i 8, zq_l 100]) X P zk_40 (by decide) (by decide) (by decide) (zx_lenm ha (k := 18) rfl rfl) (zx_app _ _) (by decide) (by decide) dX11_init_154 (fun H P => ?_)
  refine zj_put (v := .ref (a + 19)) (a := a) (pre ++ .inl (11, [.int 0, .int 0, .int 0, .int 0, .ref (a + 1), .ref (a + 2), .ref (a + 3), .ref (a + 4), .ref (a + 5), .int 0, .int 0, .ref (a + 6), .ref (a + 7), .ref (a + 8), .ref (a + 9), .ref (a + 10), .ref (a + 11), .int 0, .int 0, .int 0, .int 0, .int 0, .ref (a + 12), .ref (a + 13), .ref (a + 14), .ref (a + 15), .ref (a + 16), .int 0, .int 0, .int 0, .null, .ref (a + 17), .ref (a + 18), .int 0, .ref (a + 19)]) :: [zq_i 7, zq_i 7, zq_i 7, zq_i 7, zq_i 7, zq_i 8, zq_i 8, zq_i 8, zq_i 8, zq_i 8, zq_l 800, zq_i 51, zq_i 51, zq_i 204, zq_i 41, zq_i 41, zq_i 1024, zq_i 8, zq_l 100]) X P zF_X11_65 rfl rfl hnm zw_986 (zx_mid ha) (show 34 < 35 by decide) (zx_setm ha) ⟨rfl, rfl⟩ dX11_init_156 (fun H locs P => ?_)
  refine lv_aload_n X.1 X.2.1 dX11_init_159 rfl (hL.2.2 0 _ rfl) ?_
  refine lv_iconst (v := 0) X.1 X.2.1 dX11_init_160 (by decide) ?_
  refine zj_put (v := .int 0) (a := a) (pre ++ .inl (11, [.int 0, .int 0, .int 0, .int 0, .ref (a + 1), .ref (a + 2), .ref (a + 3), .ref (a + 4), .ref (a + 5), .int 0, .int 0, .ref (a + 6), .ref (a + 7), .ref (a + 8), .ref (a + 9), .ref (a + 10), .ref (a + 11), .int 0, .int 0, .int 0, .int 0, .int 0, .ref (a + 12), .ref (a + 13), .ref (a + 14), .ref (a + 15), .ref (a + 16), .int 0, .int 0, .int 0, .null, .ref (a + 17), .ref (a + 18), .int 0, .ref (a + 19)]) :: [zq_i 7, zq_i 7, zq_i 7, zq_i 7, zq_i 7, zq_i 8, zq_i 8, zq_i 8, zq_i 8, zq_i 8, zq_l 800, zq_i 51, zq_i 51, zq_i 204, zq_i 41, zq_i 41, zq_i 1024, zq_i 8, zq_l 100]) X P zF_X11_68 rfl rfl hnm zw_969 (zx_mid ha) (show 17 < 35 by decide) (zx_setm ha) ⟨rfl, rfl⟩ dX11_init_161 (fun H locs P => ?_)
  refine lv_aload_n X.1 X.2.1 dX11_init_164 rfl (hL.2.2 0 _ rfl) ?_
  refine lv_iconst (v := 1) X.1 X.2.1 dX11_init_165 (by decide) ?_
  refine zj_put (v := .int 1) (a := a) (pre ++ .inl (11, [.int 0, .int 1, .int 0, .int 0, .ref (a + 1), .ref (a + 2), .ref (a + 3), .ref (a + 4), .ref (a + 5), .int 0, .int 0, .ref (a + 6), .ref (a + 7), .ref (a + 8), .ref (a + 9), .ref (a + 10), .ref (a + 11), .int 0, .int 0, .int 0, .int 0, .int 0, .ref (a + 12), .ref (a + 13), .ref (a + 14), .ref (a + 15), .ref (a + 16), .int 0, .int 0, .int 0, .null, .ref (a + 17), .ref (a + 18), .int 0, .ref (a + 19)]) :: [zq_i 7, zq_i 7, zq_i 7, zq_i 7, zq_i 7, zq_i 8, zq_i 8, zq_i 8, zq_i 8, zq_i 8, zq_l 800, zq_i 51, zq_i 51, zq_i 204, zq_i 41, zq_i 41, zq_i 1024, zq_i 8, zq_l 100]) X P zF_X11_72 rfl rfl hnm zw_953 (zx_mid ha) (show 1 < 35 by decide) (zx_setm ha) ⟨rfl, rfl⟩ dX11_init_166 (fun H locs P => ?_)
  refine lv_aload_n X.1 X.2.1 dX11_init_169 rfl (hL.2.2 0 _ rfl) ?_
  refine lv_bipush (v := 6) X.1 X.2.1 dX11_init_170 (by decide) ?_
  refine zj_put (v := .int 6) (a := a) (pre ++ .inl (11, [.int 0, .int 1, .int 6, .int 0, .ref (a + 1), .ref (a + 2), .ref (a + 3), .ref (a + 4), .ref (a + 5), .int 0, .int 0, .ref (a + 6), .ref (a + 7), .ref (a + 8), .ref (a + 9), .ref (a + 10), .ref (a + 11), .int 0, .int 0, .int 0, .int 0, .int 0, .ref (a + 12), .ref (a + 13), .ref (a + 14), .ref (a + 15), .ref (a + 16), .int 0, .int 0, .int 0, .null, .ref (a + 17), .ref (a + 18), .int 0, .ref (a + 19)]) :: [zq_i 7, zq_i 7, zq_i 7, zq_i 7, zq_i 7, zq_i 8, zq_i 8, zq_i 8, zq_i 8, zq_i 8, zq_l 800, zq_i 51, zq_i 51, zq_i 204, zq_i 41, zq_i 41, zq_i 1024, zq_i 8, zq_l 100]) X P zF_X11_75 rfl rfl hnm zw_954 (zx_mid ha) (show 2 < 35 by decide) (zx_setm ha) ⟨rfl, rfl⟩ dX11_init_172 (fun H locs P => ?_)
  exact zj_ret hr hlk X P rfl rfl dX11_init_175
